/-! THE REFERENCE: its methods as functions, and that the machine does what they say. -/
/-- ClickOrdersModel.use(IZ)Z -/
def rT_102 (X : jX) (rf : jRf) (F : Int32 → Int32 → (Nat → Int32) → jSc → Option (Int32 × (Nat → Int32) × jSc)) (e : Nat) : Prop := ∀ (sc : jSc) (al : jAl) (Post : jPo) (x1 : Int32) (x2 : Int32) (S : (Nat → Int32)) (ar : jSc) (r9 : Int32) (S9 : (Nat → Int32)) (ar9 : jSc), F x1 x2 S ar = some (r9, S9, ar9) → Post (some (.int r9)) (va_up sc 0 S9) rf ar9 al → gW X 102 e 0 (j_av [.ref 0, .int x1, .int x2]) [] (va_up sc 0 S) rf ar al Post
def rF_102_25 (x1 : Int32) (x2 : Int32) (y0 : Int32) (S : (Nat → Int32)) (ar : jSc) : Option (Int32 × (Nat → Int32) × jSc) :=
  (o_b3 (rF_3 y0 (1 : Int32) S ar) (fun ve1 Se1 are1 => (if ve1 = 0 then (if iB x1 6 then (if iB x1 6 then (if x2 = 0 ∨ x2 = 1 then (if (are1 106 (iN x1)) = 0 ∨ (are1 106 (iN x1)) = 1 then some ((are1 106 (iN x1)), Se1, (j_u2 are1 106 (iN x1) x2)) else none) else none) else none) else none) else some ((0 : Int32), Se1, are1))))
set_option maxHeartbeats 4000000 in
theorem rt_102_25 {X : jX} (hX : j_LK (g_n X) (g_L X)) (hr : g_rs X = r_sh) {rf : jRf} (hrf : rf 0 = r_rf) {d : Nat} {sc : jSc} {al : jAl} {Post : jPo} {r9 : Int32} {S9 : (Nat → Int32)} {ar9 : jSc} (hP : Post (some (.int r9)) (va_up sc 0 S9) rf ar9 al) (x1 : Int32) (x2 : Int32) (y0 : Int32) (S : (Nat → Int32)) (ar : jSc) (h : rF_102_25 x1 x2 y0 S ar = some (r9, S9, ar9)) : gL X 102 (d + 2) 25 [some (.ref 0), some (.int x1), some (.int x2), none] [.int y0, .ref 0] (va_up sc 0 S) rf ar al Post := by
  unfold rF_102_25 at h
  refine gl_iconst hX q_102_25 ci_1 rfl ?_
  obtain ⟨ve1, Se1, are1, e1, h⟩ := o_k3 h
  refine gl_callV hX q_102_26 (qm_306 (by decide)) rfl rfl rfl (qs_0 hr) qx_3 rfl rfl ((rt_3 hX hr hrf) _ _ _ _ _ _ _ _ _ _ e1 ?_)
  refine gl_if_eq hX q_102_29 rfl rfl (fun c2 => ?_) (fun c2 => ?_)
  · have h := (if_pos c2).symm.trans h
    refine gl_aload_n hX q_102_34 rfl rfl ?_
    refine gl_getA hX q_102_35 (qf_83 (by decide)) (qs_0 hr) rfl qk_43 ((congrFun hrf 43).trans qa_43) rfl ?_
    refine gl_iload_n hX q_102_38 rfl rfl ?_
    obtain ⟨c3, h⟩ := o_ck h
    refine gl_baload hX q_102_39 (qs_106 hr) c3 rfl rfl ?_
    refine gl_istore_n (vs2 := [some (.ref 0), some (.int x1), some (.int x2), some (.int (are1 106 (iN x1)))]) hX q_102_40 rfl rfl rfl rfl ?_
    refine gl_aload_n hX q_102_41 rfl rfl ?_
    refine gl_getA hX q_102_42 (qf_83 (by decide)) (qs_0 hr) rfl qk_43 ((congrFun hrf 43).trans qa_43) rfl ?_
    refine gl_iload_n hX q_102_45 rfl rfl ?_
    refine gl_iload_n hX q_102_46 rfl rfl ?_
    obtain ⟨c4, h⟩ := o_ck h
    obtain ⟨c5, h⟩ := o_ck h
    refine gl_bastore (ar2 := (j_u2 are1 106 (iN x1) x2)) hX q_102_47 (qs_106 hr) c4 c5 rfl rfl ?_
    refine gl_iload_n hX q_102_48 rfl rfl ?_
    obtain ⟨c6, h⟩ := o_ck h
    exact gl_ireturn q_102_49 (Or.inr ⟨qr_102, c6⟩) (by cases h; exact hP)
  · have h := (if_neg c2).symm.trans h
    refine gl_iconst hX q_102_32 ci_0 rfl ?_
    exact gl_ireturn q_102_33 (Or.inr ⟨qr_102, Or.inl rfl⟩) (by cases h; exact hP)
def rF_102 (x1 : Int32) (x2 : Int32) (S : (Nat → Int32)) (ar : jSc) : Option (Int32 × (Nat → Int32) × jSc) :=
  (o_b3 (rF_4 x1 (0 : Int32) ((S 38) - (1 : Int32)) (upd S 0 (0 : Int32)) ar) (fun ve7 Se7 are7 => (if ve7 = 0 then rF_102_25 x1 x2 (1 : Int32) Se7 are7 else rF_102_25 x1 x2 (0 : Int32) Se7 are7)))
set_option maxHeartbeats 4000000 in
theorem rt_102 {X : jX} (hX : j_LK (g_n X) (g_L X)) (hr : g_rs X = r_sh) {rf : jRf} (hrf : rf 0 = r_rf) {d : Nat} : rT_102 X rf rF_102 (d + 2) := by
  intro sc al Post x1 x2 S ar r9 S9 ar9 h hP
  unfold rF_102 at h
  refine gl_entry (m := 1) rfl ?_
  show gL X 102 (d + 2) 0 [some (.ref 0), some (.int x1), some (.int x2), none] [] (va_up sc 0 S) rf ar al Post
  refine gl_aload_n hX q_102_0 rfl rfl ?_
  refine gl_iconst hX q_102_1 ci_0 rfl ?_
  refine gl_put hX q_102_2 (qf_126 (by decide)) (qs_0 hr) rfl qk_0 rfl ru rfl ?_
  refine gl_aload_n hX q_102_5 rfl rfl ?_
  refine gl_iload_n hX q_102_6 rfl rfl ?_
  refine gl_iconst hX q_102_7 ci_0 rfl ?_
  refine gl_aload_n hX q_102_8 rfl rfl ?_
  refine gl_get hX q_102_9 (qf_284 (by decide)) (qs_0 hr) rfl qk_38 rfl rfl ?_
  refine gl_iconst hX q_102_12 ci_1 rfl ?_
  refine gl_isub hX q_102_13 rfl ?_
  obtain ⟨ve7, Se7, are7, e7, h⟩ := o_k3 h
  refine gl_callS q_102_14 (qm_247 (by decide)) rfl rfl rfl qx_4 rfl rfl ((rt_4 hX hr hrf) _ _ _ _ _ _ _ _ _ _ _ e7 ?_)
  refine gl_if_ne hX q_102_17 rfl rfl (fun c8 => ?_) (fun c8 => ?_)
  · have h := (if_pos c8).symm.trans h
    refine gl_iconst hX q_102_20 ci_1 rfl ?_
    refine gl_goto hX q_102_21 rfl ?_
    exact gl_weak (vs := [some (.ref 0), some (.int x1), some (.int x2), none]) ⟨rfl, rfl, rfl, trivial⟩ (rt_102_25 hX hr hrf hP x1 x2 (1 : Int32) Se7 are7 h)
  · have h := (if_neg c8).symm.trans h
    refine gl_iconst hX q_102_24 ci_0 rfl ?_
    exact gl_weak (vs := [some (.ref 0), some (.int x1), some (.int x2), none]) ⟨rfl, rfl, rfl, trivial⟩ (rt_102_25 hX hr hrf hP x1 x2 (0 : Int32) Se7 are7 h)
/-- ClickOrdersModel.turnsOn(I)V -/
def rT_103 (X : jX) (rf : jRf) (F : Int32 → (Nat → Int32) → jSc → Option ((Nat → Int32) × jSc)) (e : Nat) : Prop := ∀ (sc : jSc) (al : jAl) (Post : jPo) (x1 : Int32) (S : (Nat → Int32)) (ar : jSc) (S9 : (Nat → Int32)) (ar9 : jSc), F x1 S ar = some (S9, ar9) → Post none (va_up sc 0 S9) rf ar9 al → gW X 103 e 0 (j_av [.ref 0, .int x1]) [] (va_up sc 0 S) rf ar al Post
def rF_103_2 : Nat → Int32 → Int32 → (Nat → Int32) → jSc → Option ((Nat → Int32) × jSc)
  | 0, _, _, _, _ => none
  | nn + 1, x1, x2, S, ar => (if (S 38) ≤ x2 then some (S, ar) else (if ((x1 >>> (x2 &&& 31)) &&& (1 : Int32)) = (1 : Int32) then (if iB x2 6 then rF_103_2 nn x1 (x2 + (1 : Int32)) S (j_u2 ar 106 (iN x2) (1 : Int32)) else none) else (if iB x2 6 then rF_103_2 nn x1 (x2 + (1 : Int32)) S (j_u2 ar 106 (iN x2) (0 : Int32)) else none)))
set_option maxHeartbeats 4000000 in
theorem rt_103_2 {X : jX} (hX : j_LK (g_n X) (g_L X)) (hr : g_rs X = r_sh) {rf : jRf} (hrf : rf 0 = r_rf) {d : Nat} {sc : jSc} {al : jAl} {Post : jPo} {S9 : (Nat → Int32)} {ar9 : jSc} (hP : Post none (va_up sc 0 S9) rf ar9 al) : ∀ (nn : Nat) (x1 : Int32) (x2 : Int32) (S : (Nat → Int32)) (ar : jSc), rF_103_2 nn x1 x2 S ar = some (S9, ar9) → gL X 103 (d + 1) 2 [some (.ref 0), some (.int x1), some (.int x2)] [] (va_up sc 0 S) rf ar al Post := by
  intro nn
  induction nn with
  | zero =>
    intro x1 x2 S ar h
    have h : (none : Option ((Nat → Int32) × jSc)) = some _ := h
    cases h
  | succ nn ih =>
    intro x1 x2 S ar h
    unfold rF_103_2 at h
    refine gl_iload_n hX q_103_2 rfl rfl ?_
    refine gl_aload_n hX q_103_3 rfl rfl ?_
    refine gl_get hX q_103_4 (qf_284 (by decide)) (qs_0 hr) rfl qk_38 rfl rfl ?_
    refine gl_ic_ge hX q_103_7 rfl rfl (fun c1 => ?_) (fun c1 => ?_)
    · have h := (if_pos c1).symm.trans h
      exact gl_return q_103_36 qr_103 (by cases h; exact hP)
    · have h := (if_neg c1).symm.trans h
      refine gl_aload_n hX q_103_10 rfl rfl ?_
      refine gl_getA hX q_103_11 (qf_83 (by decide)) (qs_0 hr) rfl qk_43 ((congrFun hrf 43).trans qa_43) rfl ?_
      refine gl_iload_n hX q_103_14 rfl rfl ?_
      refine gl_iload_n hX q_103_15 rfl rfl ?_
      refine gl_iload_n hX q_103_16 rfl rfl ?_
      refine gl_ishr hX q_103_17 rfl ?_
      refine gl_iconst hX q_103_18 ci_1 rfl ?_
      refine gl_iand hX q_103_19 rfl ?_
      refine gl_iconst hX q_103_20 ci_1 rfl ?_
      refine gl_ic_ne hX q_103_21 rfl rfl (fun c2 => ?_) (fun c2 => ?_)
      · have h := (if_pos c2).symm.trans h
        refine gl_iconst hX q_103_24 ci_1 rfl ?_
        refine gl_goto hX q_103_25 rfl ?_
        obtain ⟨c3, h⟩ := o_ck h
        refine gl_bastore (ar2 := (j_u2 ar 106 (iN x2) (1 : Int32))) hX q_103_29 (qs_106 hr) c3 (Or.inr rfl) rfl rfl ?_
        refine gl_iinc (vs2 := [some (.ref 0), some (.int x1), some (.int (x2 + (1 : Int32)))]) hX q_103_30 rfl rfl rfl ci_1 rfl rfl ?_
        refine gl_goto hX q_103_33 rfl ?_
        exact gl_weak (vs := [some (.ref 0), some (.int x1), some (.int (x2 + (1 : Int32)))]) ⟨rfl, rfl, rfl, trivial⟩ (ih x1 (x2 + (1 : Int32)) S (j_u2 ar 106 (iN x2) (1 : Int32)) h)
      · have h := (if_neg c2).symm.trans h
        refine gl_iconst hX q_103_28 ci_0 rfl ?_
        obtain ⟨c4, h⟩ := o_ck h
        refine gl_bastore (ar2 := (j_u2 ar 106 (iN x2) (0 : Int32))) hX q_103_29 (qs_106 hr) c4 (Or.inl rfl) rfl rfl ?_
        refine gl_iinc (vs2 := [some (.ref 0), some (.int x1), some (.int (x2 + (1 : Int32)))]) hX q_103_30 rfl rfl rfl ci_1 rfl rfl ?_
        refine gl_goto hX q_103_33 rfl ?_
        exact gl_weak (vs := [some (.ref 0), some (.int x1), some (.int (x2 + (1 : Int32)))]) ⟨rfl, rfl, rfl, trivial⟩ (ih x1 (x2 + (1 : Int32)) S (j_u2 ar 106 (iN x2) (0 : Int32)) h)
def rF_103 (x1 : Int32) (S : (Nat → Int32)) (ar : jSc) : Option ((Nat → Int32) × jSc) :=
  rF_103_2 oF x1 (0 : Int32) S ar
set_option maxHeartbeats 4000000 in
theorem rt_103 {X : jX} (hX : j_LK (g_n X) (g_L X)) (hr : g_rs X = r_sh) {rf : jRf} (hrf : rf 0 = r_rf) {d : Nat} : rT_103 X rf rF_103 (d + 1) := by
  intro sc al Post x1 S ar S9 ar9 h hP
  unfold rF_103 at h
  refine gl_entry (m := 1) rfl ?_
  show gL X 103 (d + 1) 0 [some (.ref 0), some (.int x1), none] [] (va_up sc 0 S) rf ar al Post
  refine gl_iconst hX q_103_0 ci_0 rfl ?_
  refine gl_istore_n (vs2 := [some (.ref 0), some (.int x1), some (.int (0 : Int32))]) hX q_103_1 rfl rfl rfl rfl ?_
  exact gl_weak (vs := [some (.ref 0), some (.int x1), some (.int (0 : Int32))]) ⟨rfl, rfl, rfl, trivial⟩ (rt_103_2 hX hr hrf hP oF x1 (0 : Int32) S ar h)
/-- ClickOrdersModel.isSafe(III)Z -/
def rT_104 (X : jX) (rf : jRf) (F : Int32 → Int32 → Int32 → (Nat → Int32) → jSc → Option (Int32 × (Nat → Int32) × jSc)) (e : Nat) : Prop := ∀ (sc : jSc) (al : jAl) (Post : jPo) (x1 : Int32) (x2 : Int32) (x3 : Int32) (S : (Nat → Int32)) (ar : jSc) (r9 : Int32) (S9 : (Nat → Int32)) (ar9 : jSc), F x1 x2 x3 S ar = some (r9, S9, ar9) → Post (some (.int r9)) (va_up sc 0 S9) rf ar9 al → gW X 104 e 0 (j_av [.ref 0, .int x1, .int x2, .int x3]) [] (va_up sc 0 S) rf ar al Post
def rF_104_19 : Nat → Int32 → Int32 → (Nat → Int32) → jSc → Option (Int32 × (Nat → Int32) × jSc)
  | 0, _, _, _, _ => none
  | nn + 1, x2, x4, S, ar => (if (S 48) ≤ x4 then (o_b3 (rF_93 x2 S ar) (fun ve2 Se2 are2 => (if ve2 = 0 then some ((1 : Int32), Se2, are2) else some ((0 : Int32), Se2, are2)))) else (if iB x4 600 then (o_b2 (rF_55 (108 + iN x4) 38 S ar) (fun Se5 are5 => (o_b3 (rF_57 Se5 are5) (fun ve6 Se6 are6 => (if ve6 = 0 then rF_104_19 nn x2 (x4 + (1 : Int32)) Se6 are6 else some ((0 : Int32), Se6, are6)))))) else none))
set_option maxHeartbeats 4000000 in
theorem rt_104_19 {X : jX} (hX : j_LK (g_n X) (g_L X)) (hr : g_rs X = r_sh) {rf : jRf} (hrf : rf 0 = r_rf) {d : Nat} {sc : jSc} {al : jAl} {Post : jPo} {r9 : Int32} {S9 : (Nat → Int32)} {ar9 : jSc} (hP : Post (some (.int r9)) (va_up sc 0 S9) rf ar9 al) : ∀ (nn : Nat) (x2 : Int32) (x4 : Int32) (S : (Nat → Int32)) (ar : jSc), rF_104_19 nn x2 x4 S ar = some (r9, S9, ar9) → gL X 104 (d + 168) 19 [some (.ref 0), none, some (.int x2), none, some (.int x4)] [] (va_up sc 0 S) rf ar al Post := by
  intro nn
  induction nn with
  | zero =>
    intro x2 x4 S ar h
    have h : (none : Option (Int32 × (Nat → Int32) × jSc)) = some _ := h
    cases h
  | succ nn ih =>
    intro x2 x4 S ar h
    unfold rF_104_19 at h
    refine gl_iload hX q_104_19 rfl rfl ?_
    refine gl_aload_n hX q_104_21 rfl rfl ?_
    refine gl_get hX q_104_22 (qf_393 (by decide)) (qs_0 hr) rfl qk_48 rfl rfl ?_
    refine gl_ic_ge hX q_104_25 rfl rfl (fun c1 => ?_) (fun c1 => ?_)
    · have h := (if_pos c1).symm.trans h
      refine gl_aload_n hX q_104_54 rfl rfl ?_
      refine gl_iload_n hX q_104_55 rfl rfl ?_
      obtain ⟨ve2, Se2, are2, e2, h⟩ := o_k3 h
      refine gl_callV hX q_104_56 (qm_418 (by decide)) rfl rfl rfl (qs_0 hr) qx_93 rfl rfl ((rt_93 hX hr hrf) _ _ _ _ _ _ _ _ _ e2 ?_)
      refine gl_if_ne hX q_104_59 rfl rfl (fun c3 => ?_) (fun c3 => ?_)
      · have h := (if_pos c3).symm.trans h
        refine gl_iconst hX q_104_62 ci_1 rfl ?_
        refine gl_goto hX q_104_63 rfl ?_
        exact gl_ireturn q_104_67 (Or.inr ⟨qr_104, Or.inr rfl⟩) (by cases h; exact hP)
      · have h := (if_neg c3).symm.trans h
        refine gl_iconst hX q_104_66 ci_0 rfl ?_
        exact gl_ireturn q_104_67 (Or.inr ⟨qr_104, Or.inl rfl⟩) (by cases h; exact hP)
    · have h := (if_neg c1).symm.trans h
      refine gl_aload_n hX q_104_28 rfl rfl ?_
      refine gl_aload_n hX q_104_29 rfl rfl ?_
      refine gl_getA hX q_104_30 (qf_87 (by decide)) (qs_0 hr) rfl qk_44 ((congrFun hrf 44).trans qa_44) rfl ?_
      refine gl_iload hX q_104_33 rfl rfl ?_
      obtain ⟨c4, h⟩ := o_ck h
      refine gl_aaload hX q_104_35 (qs_107 hr) c4 (Or.inr ⟨Or.inl rfl, qs_0 hr⟩) (qo_107 (iB_lt c4)) rfl ?_
      obtain ⟨Se5, are5, e5, h⟩ := o_k2 h
      refine gl_callV hX q_104_36 (qm_351 (by decide)) rfl rfl rfl (qs_0 hr) qx_55 rfl rfl ((rt_55 hX hr hrf) _ _ _ _ _ (qs_met hr (iB_lt c4)) _ _ _ _ e5 ?_)
      refine gl_aload_n hX q_104_39 rfl rfl ?_
      obtain ⟨ve6, Se6, are6, e6, h⟩ := o_k3 h
      refine gl_callV hX q_104_40 (qm_362 (by decide)) rfl rfl rfl (qs_0 hr) qx_57 rfl rfl ((rt_57 hX hr hrf) _ _ _  _ _ _ _ _ e6 ?_)
      refine gl_if_eq hX q_104_43 rfl rfl (fun c7 => ?_) (fun c7 => ?_)
      · have h := (if_pos c7).symm.trans h
        refine gl_iinc (vs2 := [some (.ref 0), none, some (.int x2), none, some (.int (x4 + (1 : Int32)))]) hX q_104_48 rfl rfl rfl ci_1 rfl rfl ?_
        refine gl_goto hX q_104_51 rfl ?_
        exact gl_weak (vs := [some (.ref 0), none, some (.int x2), none, some (.int (x4 + (1 : Int32)))]) ⟨rfl, rfl, rfl, trivial⟩ (ih x2 (x4 + (1 : Int32)) Se6 are6 h)
      · have h := (if_neg c7).symm.trans h
        refine gl_iconst hX q_104_46 ci_0 rfl ?_
        exact gl_ireturn q_104_47 (Or.inr ⟨qr_104, Or.inl rfl⟩) (by cases h; exact hP)
def rF_104 (x1 : Int32) (x2 : Int32) (x3 : Int32) (S : (Nat → Int32)) (ar : jSc) : Option (Int32 × (Nat → Int32) × jSc) :=
  (o_b2 (rF_87 x1 x3 (0 : Int32) S ar) (fun Se8 are8 => (if (Se8 50) = 0 then rF_104_19 oF x2 (0 : Int32) Se8 are8 else some ((0 : Int32), Se8, are8))))
set_option maxHeartbeats 4000000 in
theorem rt_104 {X : jX} (hX : j_LK (g_n X) (g_L X)) (hr : g_rs X = r_sh) {rf : jRf} (hrf : rf 0 = r_rf) {d : Nat} : rT_104 X rf rF_104 (d + 168) := by
  intro sc al Post x1 x2 x3 S ar r9 S9 ar9 h hP
  unfold rF_104 at h
  refine gl_entry (m := 1) rfl ?_
  show gL X 104 (d + 168) 0 [some (.ref 0), some (.int x1), some (.int x2), some (.int x3), none] [] (va_up sc 0 S) rf ar al Post
  refine gl_aload_n hX q_104_0 rfl rfl ?_
  refine gl_iload_n hX q_104_1 rfl rfl ?_
  refine gl_iload_n hX q_104_2 rfl rfl ?_
  refine gl_iconst hX q_104_3 ci_0 rfl ?_
  obtain ⟨Se8, are8, e8, h⟩ := o_k2 h
  refine gl_callV hX q_104_4 (qm_411 (by decide)) rfl rfl rfl (qs_0 hr) qx_87 rfl rfl ((rt_87 hX hr hrf) _ _ _ _ _ _ _ _ _ _ e8 ?_)
  refine gl_aload_n hX q_104_7 rfl rfl ?_
  refine gl_get hX q_104_8 (qf_399 (by decide)) (qs_0 hr) rfl qk_50 rfl rfl ?_
  refine gl_if_eq hX q_104_11 rfl rfl (fun c9 => ?_) (fun c9 => ?_)
  · have h := (if_pos c9).symm.trans h
    refine gl_iconst hX q_104_16 ci_0 rfl ?_
    refine gl_istore (vs2 := [some (.ref 0), some (.int x1), some (.int x2), some (.int x3), some (.int (0 : Int32))]) hX q_104_17 rfl rfl rfl rfl ?_
    exact gl_weak (vs := [some (.ref 0), none, some (.int x2), none, some (.int (0 : Int32))]) ⟨rfl, rfl, rfl, trivial⟩ (rt_104_19 hX hr hrf hP oF x2 (0 : Int32) Se8 are8 h)
  · have h := (if_neg c9).symm.trans h
    refine gl_iconst hX q_104_14 ci_0 rfl ?_
    exact gl_ireturn q_104_15 (Or.inr ⟨qr_104, Or.inl rfl⟩) (by cases h; exact hP)
/-- ClickOrdersModel.priceOf(I)I -/
def rT_105 (X : jX) (rf : jRf) (F : Int32 → (Nat → Int32) → jSc → Option (Int32 × (Nat → Int32) × jSc)) (e : Nat) : Prop := ∀ (sc : jSc) (al : jAl) (Post : jPo) (x1 : Int32) (S : (Nat → Int32)) (ar : jSc) (r9 : Int32) (S9 : (Nat → Int32)) (ar9 : jSc), F x1 S ar = some (r9, S9, ar9) → Post (some (.int r9)) (va_up sc 0 S9) rf ar9 al → gW X 105 e 0 (j_av [.ref 0, .int x1]) [] (va_up sc 0 S) rf ar al Post
def rF_105_4 : Nat → Int32 → Int32 → Int32 → (Nat → Int32) → jSc → Option (Int32 × (Nat → Int32) × jSc)
  | 0, _, _, _, _, _ => none
  | nn + 1, x1, x2, x3, S, ar => (if (S 38) ≤ x3 then some (x2, S, ar) else (if ((x1 >>> (x3 &&& 31)) &&& (1 : Int32)) = (1 : Int32) then (if iB x3 6 then rF_105_4 nn x1 (x2 + (ar 105 (iN x3))) (x3 + (1 : Int32)) S ar else none) else rF_105_4 nn x1 (x2 + (0 : Int32)) (x3 + (1 : Int32)) S ar))
set_option maxHeartbeats 4000000 in
theorem rt_105_4 {X : jX} (hX : j_LK (g_n X) (g_L X)) (hr : g_rs X = r_sh) {rf : jRf} (hrf : rf 0 = r_rf) {d : Nat} {sc : jSc} {al : jAl} {Post : jPo} {r9 : Int32} {S9 : (Nat → Int32)} {ar9 : jSc} (hP : Post (some (.int r9)) (va_up sc 0 S9) rf ar9 al) : ∀ (nn : Nat) (x1 : Int32) (x2 : Int32) (x3 : Int32) (S : (Nat → Int32)) (ar : jSc), rF_105_4 nn x1 x2 x3 S ar = some (r9, S9, ar9) → gL X 105 (d + 1) 4 [some (.ref 0), some (.int x1), some (.int x2), some (.int x3)] [] (va_up sc 0 S) rf ar al Post := by
  intro nn
  induction nn with
  | zero =>
    intro x1 x2 x3 S ar h
    have h : (none : Option (Int32 × (Nat → Int32) × jSc)) = some _ := h
    cases h
  | succ nn ih =>
    intro x1 x2 x3 S ar h
    unfold rF_105_4 at h
    refine gl_iload_n hX q_105_4 rfl rfl ?_
    refine gl_aload_n hX q_105_5 rfl rfl ?_
    refine gl_get hX q_105_6 (qf_284 (by decide)) (qs_0 hr) rfl qk_38 rfl rfl ?_
    refine gl_ic_ge hX q_105_9 rfl rfl (fun c1 => ?_) (fun c1 => ?_)
    · have h := (if_pos c1).symm.trans h
      refine gl_iload_n hX q_105_40 rfl rfl ?_
      exact gl_ireturn q_105_41 (Or.inl qr_105) (by cases h; exact hP)
    · have h := (if_neg c1).symm.trans h
      refine gl_iload_n hX q_105_12 rfl rfl ?_
      refine gl_iload_n hX q_105_13 rfl rfl ?_
      refine gl_iload_n hX q_105_14 rfl rfl ?_
      refine gl_ishr hX q_105_15 rfl ?_
      refine gl_iconst hX q_105_16 ci_1 rfl ?_
      refine gl_iand hX q_105_17 rfl ?_
      refine gl_iconst hX q_105_18 ci_1 rfl ?_
      refine gl_ic_ne hX q_105_19 rfl rfl (fun c2 => ?_) (fun c2 => ?_)
      · have h := (if_pos c2).symm.trans h
        refine gl_aload_n hX q_105_22 rfl rfl ?_
        refine gl_getA hX q_105_23 (qf_80 (by decide)) (qs_0 hr) rfl qk_42 ((congrFun hrf 42).trans qa_42) rfl ?_
        refine gl_iload_n hX q_105_26 rfl rfl ?_
        obtain ⟨c3, h⟩ := o_ck h
        refine gl_iaload hX q_105_27 (qs_105 hr) c3 rfl rfl ?_
        refine gl_goto hX q_105_28 rfl ?_
        refine gl_iadd hX q_105_32 rfl ?_
        refine gl_istore_n (vs2 := [some (.ref 0), some (.int x1), some (.int (x2 + (ar 105 (iN x3)))), some (.int x3)]) hX q_105_33 rfl rfl rfl rfl ?_
        refine gl_iinc (vs2 := [some (.ref 0), some (.int x1), some (.int (x2 + (ar 105 (iN x3)))), some (.int (x3 + (1 : Int32)))]) hX q_105_34 rfl rfl rfl ci_1 rfl rfl ?_
        refine gl_goto hX q_105_37 rfl ?_
        exact gl_weak (vs := [some (.ref 0), some (.int x1), some (.int (x2 + (ar 105 (iN x3)))), some (.int (x3 + (1 : Int32)))]) ⟨rfl, rfl, rfl, rfl, trivial⟩ (ih x1 (x2 + (ar 105 (iN x3))) (x3 + (1 : Int32)) S ar h)
      · have h := (if_neg c2).symm.trans h
        refine gl_iconst hX q_105_31 ci_0 rfl ?_
        refine gl_iadd hX q_105_32 rfl ?_
        refine gl_istore_n (vs2 := [some (.ref 0), some (.int x1), some (.int (x2 + (0 : Int32))), some (.int x3)]) hX q_105_33 rfl rfl rfl rfl ?_
        refine gl_iinc (vs2 := [some (.ref 0), some (.int x1), some (.int (x2 + (0 : Int32))), some (.int (x3 + (1 : Int32)))]) hX q_105_34 rfl rfl rfl ci_1 rfl rfl ?_
        refine gl_goto hX q_105_37 rfl ?_
        exact gl_weak (vs := [some (.ref 0), some (.int x1), some (.int (x2 + (0 : Int32))), some (.int (x3 + (1 : Int32)))]) ⟨rfl, rfl, rfl, rfl, trivial⟩ (ih x1 (x2 + (0 : Int32)) (x3 + (1 : Int32)) S ar h)
def rF_105 (x1 : Int32) (S : (Nat → Int32)) (ar : jSc) : Option (Int32 × (Nat → Int32) × jSc) :=
  rF_105_4 oF x1 (0 : Int32) (0 : Int32) S ar
set_option maxHeartbeats 4000000 in
theorem rt_105 {X : jX} (hX : j_LK (g_n X) (g_L X)) (hr : g_rs X = r_sh) {rf : jRf} (hrf : rf 0 = r_rf) {d : Nat} : rT_105 X rf rF_105 (d + 1) := by
  intro sc al Post x1 S ar r9 S9 ar9 h hP
  unfold rF_105 at h
  refine gl_entry (m := 2) rfl ?_
  show gL X 105 (d + 1) 0 [some (.ref 0), some (.int x1), none, none] [] (va_up sc 0 S) rf ar al Post
  refine gl_iconst hX q_105_0 ci_0 rfl ?_
  refine gl_istore_n (vs2 := [some (.ref 0), some (.int x1), some (.int (0 : Int32)), none]) hX q_105_1 rfl rfl rfl rfl ?_
  refine gl_iconst hX q_105_2 ci_0 rfl ?_
  refine gl_istore_n (vs2 := [some (.ref 0), some (.int x1), some (.int (0 : Int32)), some (.int (0 : Int32))]) hX q_105_3 rfl rfl rfl rfl ?_
  exact gl_weak (vs := [some (.ref 0), some (.int x1), some (.int (0 : Int32)), some (.int (0 : Int32))]) ⟨rfl, rfl, rfl, rfl, trivial⟩ (rt_105_4 hX hr hrf hP oF x1 (0 : Int32) (0 : Int32) S ar h)
/-- ClickOrdersModel.ones(I)I -/
def rT_106 (X : jX) (rf : jRf) (F : Int32 → (Nat → Int32) → jSc → Option (Int32 × (Nat → Int32) × jSc)) (e : Nat) : Prop := ∀ (sc : jSc) (al : jAl) (Post : jPo) (x1 : Int32) (S : (Nat → Int32)) (ar : jSc) (r9 : Int32) (S9 : (Nat → Int32)) (ar9 : jSc), F x1 S ar = some (r9, S9, ar9) → Post (some (.int r9)) (va_up sc 0 S9) rf ar9 al → gW X 106 e 0 (j_av [.int x1]) [] (va_up sc 0 S) rf ar al Post
def rF_106_4 : Nat → Int32 → Int32 → Int32 → (Nat → Int32) → jSc → Option (Int32 × (Nat → Int32) × jSc)
  | 0, _, _, _, _, _ => none
  | nn + 1, x0, x1, x2, S, ar => (if (6 : Int32) ≤ x2 then some (x1, S, ar) else rF_106_4 nn x0 (x1 + ((x0 >>> (x2 &&& 31)) &&& (1 : Int32))) (x2 + (1 : Int32)) S ar)
set_option maxHeartbeats 4000000 in
theorem rt_106_4 {X : jX} (hX : j_LK (g_n X) (g_L X)) (hr : g_rs X = r_sh) {rf : jRf} (hrf : rf 0 = r_rf) {d : Nat} {sc : jSc} {al : jAl} {Post : jPo} {r9 : Int32} {S9 : (Nat → Int32)} {ar9 : jSc} (hP : Post (some (.int r9)) (va_up sc 0 S9) rf ar9 al) : ∀ (nn : Nat) (x0 : Int32) (x1 : Int32) (x2 : Int32) (S : (Nat → Int32)) (ar : jSc), rF_106_4 nn x0 x1 x2 S ar = some (r9, S9, ar9) → gL X 106 (d + 1) 4 [some (.int x0), some (.int x1), some (.int x2)] [] (va_up sc 0 S) rf ar al Post := by
  intro nn
  induction nn with
  | zero =>
    intro x0 x1 x2 S ar h
    have h : (none : Option (Int32 × (Nat → Int32) × jSc)) = some _ := h
    cases h
  | succ nn ih =>
    intro x0 x1 x2 S ar h
    unfold rF_106_4 at h
    refine gl_iload_n hX q_106_4 rfl rfl ?_
    refine gl_bipush hX q_106_5 cb_6 rfl ?_
    refine gl_ic_ge hX q_106_7 rfl rfl (fun c1 => ?_) (fun c1 => ?_)
    · have h := (if_pos c1).symm.trans h
      refine gl_iload_n hX q_106_24 rfl rfl ?_
      exact gl_ireturn q_106_25 (Or.inl qr_106) (by cases h; exact hP)
    · have h := (if_neg c1).symm.trans h
      refine gl_iload_n hX q_106_10 rfl rfl ?_
      refine gl_iload_n hX q_106_11 rfl rfl ?_
      refine gl_iload_n hX q_106_12 rfl rfl ?_
      refine gl_ishr hX q_106_13 rfl ?_
      refine gl_iconst hX q_106_14 ci_1 rfl ?_
      refine gl_iand hX q_106_15 rfl ?_
      refine gl_iadd hX q_106_16 rfl ?_
      refine gl_istore_n (vs2 := [some (.int x0), some (.int (x1 + ((x0 >>> (x2 &&& 31)) &&& (1 : Int32)))), some (.int x2)]) hX q_106_17 rfl rfl rfl rfl ?_
      refine gl_iinc (vs2 := [some (.int x0), some (.int (x1 + ((x0 >>> (x2 &&& 31)) &&& (1 : Int32)))), some (.int (x2 + (1 : Int32)))]) hX q_106_18 rfl rfl rfl ci_1 rfl rfl ?_
      refine gl_goto hX q_106_21 rfl ?_
      exact gl_weak (vs := [some (.int x0), some (.int (x1 + ((x0 >>> (x2 &&& 31)) &&& (1 : Int32)))), some (.int (x2 + (1 : Int32)))]) ⟨rfl, rfl, rfl, trivial⟩ (ih x0 (x1 + ((x0 >>> (x2 &&& 31)) &&& (1 : Int32))) (x2 + (1 : Int32)) S ar h)
def rF_106 (x1 : Int32) (S : (Nat → Int32)) (ar : jSc) : Option (Int32 × (Nat → Int32) × jSc) :=
  rF_106_4 oF x1 (0 : Int32) (0 : Int32) S ar
set_option maxHeartbeats 4000000 in
theorem rt_106 {X : jX} (hX : j_LK (g_n X) (g_L X)) (hr : g_rs X = r_sh) {rf : jRf} (hrf : rf 0 = r_rf) {d : Nat} : rT_106 X rf rF_106 (d + 1) := by
  intro sc al Post x1 S ar r9 S9 ar9 h hP
  unfold rF_106 at h
  refine gl_entry (m := 2) rfl ?_
  show gL X 106 (d + 1) 0 [some (.int x1), none, none] [] (va_up sc 0 S) rf ar al Post
  refine gl_iconst hX q_106_0 ci_0 rfl ?_
  refine gl_istore_n (vs2 := [some (.int x1), some (.int (0 : Int32)), none]) hX q_106_1 rfl rfl rfl rfl ?_
  refine gl_iconst hX q_106_2 ci_0 rfl ?_
  refine gl_istore_n (vs2 := [some (.int x1), some (.int (0 : Int32)), some (.int (0 : Int32))]) hX q_106_3 rfl rfl rfl rfl ?_
  exact gl_weak (vs := [some (.int x1), some (.int (0 : Int32)), some (.int (0 : Int32))]) ⟨rfl, rfl, rfl, trivial⟩ (rt_106_4 hX hr hrf hP oF x1 (0 : Int32) (0 : Int32) S ar h)
/-- ClickOrdersModel.isAhead(II)Z -/
def rT_107 (X : jX) (rf : jRf) (F : Int32 → Int32 → (Nat → Int32) → jSc → Option (Int32 × (Nat → Int32) × jSc)) (e : Nat) : Prop := ∀ (sc : jSc) (al : jAl) (Post : jPo) (x1 : Int32) (x2 : Int32) (S : (Nat → Int32)) (ar : jSc) (r9 : Int32) (S9 : (Nat → Int32)) (ar9 : jSc), F x1 x2 S ar = some (r9, S9, ar9) → Post (some (.int r9)) (va_up sc 0 S9) rf ar9 al → gW X 107 e 0 (j_av [.ref 0, .int x1, .int x2]) [] (va_up sc 0 S) rf ar al Post
def rF_107_87 (x1 : Int32) (x3 : Int32) (S : (Nat → Int32)) (ar : jSc) : Option (Int32 × (Nat → Int32) × jSc) :=
  (if (6 : Int32) ≤ x3 then some ((0 : Int32), S, ar) else (if ((x1 >>> (x3 &&& 31)) &&& (1 : Int32)) = (1 : Int32) then some ((1 : Int32), S, ar) else some ((0 : Int32), S, ar)))
set_option maxHeartbeats 4000000 in
theorem rt_107_87 {X : jX} (hX : j_LK (g_n X) (g_L X)) (hr : g_rs X = r_sh) {rf : jRf} (hrf : rf 0 = r_rf) {d : Nat} {sc : jSc} {al : jAl} {Post : jPo} {r9 : Int32} {S9 : (Nat → Int32)} {ar9 : jSc} (hP : Post (some (.int r9)) (va_up sc 0 S9) rf ar9 al) (x1 : Int32) (x3 : Int32) (S : (Nat → Int32)) (ar : jSc) (h : rF_107_87 x1 x3 S ar = some (r9, S9, ar9)) : gL X 107 (d + 2) 87 [none, some (.int x1), none, some (.int x3)] [] (va_up sc 0 S) rf ar al Post := by
  unfold rF_107_87 at h
  refine gl_iload_n hX q_107_87 rfl rfl ?_
  refine gl_bipush hX q_107_88 cb_6 rfl ?_
  refine gl_ic_ge hX q_107_90 rfl rfl (fun c1 => ?_) (fun c1 => ?_)
  · have h := (if_pos c1).symm.trans h
    refine gl_iconst hX q_107_106 ci_0 rfl ?_
    exact gl_ireturn q_107_107 (Or.inr ⟨qr_107, Or.inl rfl⟩) (by cases h; exact hP)
  · have h := (if_neg c1).symm.trans h
    refine gl_iload_n hX q_107_93 rfl rfl ?_
    refine gl_iload_n hX q_107_94 rfl rfl ?_
    refine gl_ishr hX q_107_95 rfl ?_
    refine gl_iconst hX q_107_96 ci_1 rfl ?_
    refine gl_iand hX q_107_97 rfl ?_
    refine gl_iconst hX q_107_98 ci_1 rfl ?_
    refine gl_ic_ne hX q_107_99 rfl rfl (fun c2 => ?_) (fun c2 => ?_)
    · have h := (if_pos c2).symm.trans h
      refine gl_iconst hX q_107_102 ci_1 rfl ?_
      refine gl_goto hX q_107_103 rfl ?_
      exact gl_ireturn q_107_107 (Or.inr ⟨qr_107, Or.inr rfl⟩) (by cases h; exact hP)
    · have h := (if_neg c2).symm.trans h
      refine gl_iconst hX q_107_106 ci_0 rfl ?_
      exact gl_ireturn q_107_107 (Or.inr ⟨qr_107, Or.inl rfl⟩) (by cases h; exact hP)
def rF_107_62 : Nat → Int32 → Int32 → Int32 → (Nat → Int32) → jSc → Option (Int32 × (Nat → Int32) × jSc)
  | 0, _, _, _, _, _ => none
  | nn + 1, x1, x2, x3, S, ar => (if (6 : Int32) ≤ x3 then rF_107_87 x1 x3 S ar else (if ((x1 >>> (x3 &&& 31)) &&& (1 : Int32)) = ((x2 >>> (x3 &&& 31)) &&& (1 : Int32)) then rF_107_62 nn x1 x2 (x3 + (1 : Int32)) S ar else rF_107_87 x1 x3 S ar))
set_option maxHeartbeats 4000000 in
theorem rt_107_62 {X : jX} (hX : j_LK (g_n X) (g_L X)) (hr : g_rs X = r_sh) {rf : jRf} (hrf : rf 0 = r_rf) {d : Nat} {sc : jSc} {al : jAl} {Post : jPo} {r9 : Int32} {S9 : (Nat → Int32)} {ar9 : jSc} (hP : Post (some (.int r9)) (va_up sc 0 S9) rf ar9 al) : ∀ (nn : Nat) (x1 : Int32) (x2 : Int32) (x3 : Int32) (S : (Nat → Int32)) (ar : jSc), rF_107_62 nn x1 x2 x3 S ar = some (r9, S9, ar9) → gL X 107 (d + 2) 62 [none, some (.int x1), some (.int x2), some (.int x3)] [] (va_up sc 0 S) rf ar al Post := by
  intro nn
  induction nn with
  | zero =>
    intro x1 x2 x3 S ar h
    have h : (none : Option (Int32 × (Nat → Int32) × jSc)) = some _ := h
    cases h
  | succ nn ih =>
    intro x1 x2 x3 S ar h
    unfold rF_107_62 at h
    refine gl_iload_n hX q_107_62 rfl rfl ?_
    refine gl_bipush hX q_107_63 cb_6 rfl ?_
    refine gl_ic_ge hX q_107_65 rfl rfl (fun c3 => ?_) (fun c3 => ?_)
    · have h := (if_pos c3).symm.trans h
      exact gl_weak (vs := [none, some (.int x1), none, some (.int x3)]) ⟨rfl, rfl, trivial⟩ (rt_107_87 hX hr hrf hP x1 x3 S ar h)
    · have h := (if_neg c3).symm.trans h
      refine gl_iload_n hX q_107_68 rfl rfl ?_
      refine gl_iload_n hX q_107_69 rfl rfl ?_
      refine gl_ishr hX q_107_70 rfl ?_
      refine gl_iconst hX q_107_71 ci_1 rfl ?_
      refine gl_iand hX q_107_72 rfl ?_
      refine gl_iload_n hX q_107_73 rfl rfl ?_
      refine gl_iload_n hX q_107_74 rfl rfl ?_
      refine gl_ishr hX q_107_75 rfl ?_
      refine gl_iconst hX q_107_76 ci_1 rfl ?_
      refine gl_iand hX q_107_77 rfl ?_
      refine gl_ic_ne hX q_107_78 rfl rfl (fun c4 => ?_) (fun c4 => ?_)
      · have h := (if_pos c4).symm.trans h
        refine gl_iinc (vs2 := [none, some (.int x1), some (.int x2), some (.int (x3 + (1 : Int32)))]) hX q_107_81 rfl rfl rfl ci_1 rfl rfl ?_
        refine gl_goto hX q_107_84 rfl ?_
        exact gl_weak (vs := [none, some (.int x1), some (.int x2), some (.int (x3 + (1 : Int32)))]) ⟨rfl, rfl, rfl, trivial⟩ (ih x1 x2 (x3 + (1 : Int32)) S ar h)
      · have h := (if_neg c4).symm.trans h
        exact gl_weak (vs := [none, some (.int x1), none, some (.int x3)]) ⟨rfl, rfl, trivial⟩ (rt_107_87 hX hr hrf hP x1 x3 S ar h)
def rF_107 (x1 : Int32) (x2 : Int32) (S : (Nat → Int32)) (ar : jSc) : Option (Int32 × (Nat → Int32) × jSc) :=
  (o_b3 (rF_105 x1 S ar) (fun ve5 Se5 are5 => (o_b3 (rF_105 x2 Se5 are5) (fun ve6 Se6 are6 => (if ve5 = ve6 then (o_b3 (rF_106 x1 Se6 are6) (fun ve8 Se8 are8 => (o_b3 (rF_106 x2 Se8 are8) (fun ve9 Se9 are9 => (if ve8 = ve9 then rF_107_62 oF x1 x2 (0 : Int32) Se9 are9 else (o_b3 (rF_106 x1 Se9 are9) (fun ve11 Se11 are11 => (o_b3 (rF_106 x2 Se11 are11) (fun ve12 Se12 are12 => (if ve12 ≤ ve11 then some ((0 : Int32), Se12, are12) else some ((1 : Int32), Se12, are12))))))))))) else (o_b3 (rF_105 x1 Se6 are6) (fun ve14 Se14 are14 => (o_b3 (rF_105 x2 Se14 are14) (fun ve15 Se15 are15 => (if ve15 ≤ ve14 then some ((0 : Int32), Se15, are15) else some ((1 : Int32), Se15, are15)))))))))))
set_option maxHeartbeats 4000000 in
theorem rt_107 {X : jX} (hX : j_LK (g_n X) (g_L X)) (hr : g_rs X = r_sh) {rf : jRf} (hrf : rf 0 = r_rf) {d : Nat} : rT_107 X rf rF_107 (d + 2) := by
  intro sc al Post x1 x2 S ar r9 S9 ar9 h hP
  unfold rF_107 at h
  refine gl_entry (m := 1) rfl ?_
  show gL X 107 (d + 2) 0 [some (.ref 0), some (.int x1), some (.int x2), none] [] (va_up sc 0 S) rf ar al Post
  refine gl_aload_n hX q_107_0 rfl rfl ?_
  refine gl_iload_n hX q_107_1 rfl rfl ?_
  obtain ⟨ve5, Se5, are5, e5, h⟩ := o_k3 h
  refine gl_callV hX q_107_2 (qm_427 (by decide)) rfl rfl rfl (qs_0 hr) qx_105 rfl rfl ((rt_105 hX hr hrf) _ _ _ _ _ _ _ _ _ e5 ?_)
  refine gl_aload_n hX q_107_5 rfl rfl ?_
  refine gl_iload_n hX q_107_6 rfl rfl ?_
  obtain ⟨ve6, Se6, are6, e6, h⟩ := o_k3 h
  refine gl_callV hX q_107_7 (qm_427 (by decide)) rfl rfl rfl (qs_0 hr) qx_105 rfl rfl ((rt_105 hX hr hrf) _ _ _ _ _ _ _ _ _ e6 ?_)
  refine gl_ic_eq hX q_107_10 rfl rfl (fun c7 => ?_) (fun c7 => ?_)
  · have h := (if_pos c7).symm.trans h
    refine gl_iload_n hX q_107_32 rfl rfl ?_
    obtain ⟨ve8, Se8, are8, e8, h⟩ := o_k3 h
    refine gl_callS q_107_33 (qm_430 (by decide)) rfl rfl rfl qx_106 rfl rfl ((rt_106 hX hr hrf) _ _ _ _ _ _ _ _ _ e8 ?_)
    refine gl_iload_n hX q_107_36 rfl rfl ?_
    obtain ⟨ve9, Se9, are9, e9, h⟩ := o_k3 h
    refine gl_callS q_107_37 (qm_430 (by decide)) rfl rfl rfl qx_106 rfl rfl ((rt_106 hX hr hrf) _ _ _ _ _ _ _ _ _ e9 ?_)
    refine gl_ic_eq hX q_107_40 rfl rfl (fun c10 => ?_) (fun c10 => ?_)
    · have h := (if_pos c10).symm.trans h
      refine gl_iconst hX q_107_60 ci_0 rfl ?_
      refine gl_istore_n (vs2 := [some (.ref 0), some (.int x1), some (.int x2), some (.int (0 : Int32))]) hX q_107_61 rfl rfl rfl rfl ?_
      exact gl_weak (vs := [none, some (.int x1), some (.int x2), some (.int (0 : Int32))]) ⟨rfl, rfl, rfl, trivial⟩ (rt_107_62 hX hr hrf hP oF x1 x2 (0 : Int32) Se9 are9 h)
    · have h := (if_neg c10).symm.trans h
      refine gl_iload_n hX q_107_43 rfl rfl ?_
      obtain ⟨ve11, Se11, are11, e11, h⟩ := o_k3 h
      refine gl_callS q_107_44 (qm_430 (by decide)) rfl rfl rfl qx_106 rfl rfl ((rt_106 hX hr hrf) _ _ _ _ _ _ _ _ _ e11 ?_)
      refine gl_iload_n hX q_107_47 rfl rfl ?_
      obtain ⟨ve12, Se12, are12, e12, h⟩ := o_k3 h
      refine gl_callS q_107_48 (qm_430 (by decide)) rfl rfl rfl qx_106 rfl rfl ((rt_106 hX hr hrf) _ _ _ _ _ _ _ _ _ e12 ?_)
      refine gl_ic_ge hX q_107_51 rfl rfl (fun c13 => ?_) (fun c13 => ?_)
      · have h := (if_pos c13).symm.trans h
        refine gl_iconst hX q_107_58 ci_0 rfl ?_
        exact gl_ireturn q_107_59 (Or.inr ⟨qr_107, Or.inl rfl⟩) (by cases h; exact hP)
      · have h := (if_neg c13).symm.trans h
        refine gl_iconst hX q_107_54 ci_1 rfl ?_
        refine gl_goto hX q_107_55 rfl ?_
        exact gl_ireturn q_107_59 (Or.inr ⟨qr_107, Or.inr rfl⟩) (by cases h; exact hP)
  · have h := (if_neg c7).symm.trans h
    refine gl_aload_n hX q_107_13 rfl rfl ?_
    refine gl_iload_n hX q_107_14 rfl rfl ?_
    obtain ⟨ve14, Se14, are14, e14, h⟩ := o_k3 h
    refine gl_callV hX q_107_15 (qm_427 (by decide)) rfl rfl rfl (qs_0 hr) qx_105 rfl rfl ((rt_105 hX hr hrf) _ _ _ _ _ _ _ _ _ e14 ?_)
    refine gl_aload_n hX q_107_18 rfl rfl ?_
    refine gl_iload_n hX q_107_19 rfl rfl ?_
    obtain ⟨ve15, Se15, are15, e15, h⟩ := o_k3 h
    refine gl_callV hX q_107_20 (qm_427 (by decide)) rfl rfl rfl (qs_0 hr) qx_105 rfl rfl ((rt_105 hX hr hrf) _ _ _ _ _ _ _ _ _ e15 ?_)
    refine gl_ic_ge hX q_107_23 rfl rfl (fun c16 => ?_) (fun c16 => ?_)
    · have h := (if_pos c16).symm.trans h
      refine gl_iconst hX q_107_30 ci_0 rfl ?_
      exact gl_ireturn q_107_31 (Or.inr ⟨qr_107, Or.inl rfl⟩) (by cases h; exact hP)
    · have h := (if_neg c16).symm.trans h
      refine gl_iconst hX q_107_26 ci_1 rfl ?_
      refine gl_goto hX q_107_27 rfl ?_
      exact gl_ireturn q_107_31 (Or.inr ⟨qr_107, Or.inr rfl⟩) (by cases h; exact hP)
/-- ClickOrdersModel.cheapest(IIII)I -/
def rT_108 (X : jX) (rf : jRf) (F : Int32 → Int32 → Int32 → Int32 → (Nat → Int32) → jSc → Option (Int32 × (Nat → Int32) × jSc)) (e : Nat) : Prop := ∀ (sc : jSc) (al : jAl) (Post : jPo) (x1 : Int32) (x2 : Int32) (x3 : Int32) (x4 : Int32) (S : (Nat → Int32)) (ar : jSc) (r9 : Int32) (S9 : (Nat → Int32)) (ar9 : jSc), F x1 x2 x3 x4 S ar = some (r9, S9, ar9) → Post (some (.int r9)) (va_up sc 0 S9) rf ar9 al → gW X 108 e 0 (j_av [.ref 0, .int x1, .int x2, .int x3, .int x4]) [] (va_up sc 0 S) rf ar al Post
def rF_108_134 (k103 : Int32 → Int32 → Int32 → Int32 → Int32 → Int32 → Int32 → (Nat → Int32) → jSc → Option (Int32 × (Nat → Int32) × jSc)) (x1 : Int32) (x2 : Int32) (x3 : Int32) (x4 : Int32) (x5 : Int32) (x6 : Int32) (x7 : Int32) (S : (Nat → Int32)) (ar : jSc) : Option (Int32 × (Nat → Int32) × jSc) :=
  (o_b2 (rF_103 x7 S ar) (fun Se1 are1 => (o_b3 (rF_104 x1 x2 x3 Se1 are1) (fun ve2 Se2 are2 => (if ve2 = 0 then k103 x1 x2 x3 x4 x5 x6 (x7 + (1 : Int32)) Se2 are2 else k103 x1 x2 x3 x4 x5 x7 (x7 + (1 : Int32)) Se2 are2)))))
set_option maxHeartbeats 4000000 in
theorem rt_108_134 {X : jX} (hX : j_LK (g_n X) (g_L X)) (hr : g_rs X = r_sh) {rf : jRf} (hrf : rf 0 = r_rf) {d : Nat} {sc : jSc} {al : jAl} {Post : jPo} {r9 : Int32} {S9 : (Nat → Int32)} {ar9 : jSc} {k103 : Int32 → Int32 → Int32 → Int32 → Int32 → Int32 → Int32 → (Nat → Int32) → jSc → Option (Int32 × (Nat → Int32) × jSc)} (hk103 : ∀ (x1 : Int32) (x2 : Int32) (x3 : Int32) (x4 : Int32) (x5 : Int32) (x6 : Int32) (x7 : Int32) (S : (Nat → Int32)) (ar : jSc), k103 x1 x2 x3 x4 x5 x6 x7 S ar = some (r9, S9, ar9) → gL X 108 (d + 169) 103 [some (.ref 0), some (.int x1), some (.int x2), some (.int x3), some (.int x4), some (.int x5), some (.int x6), some (.int x7)] [] (va_up sc 0 S) rf ar al Post) (hP : Post (some (.int r9)) (va_up sc 0 S9) rf ar9 al) (x1 : Int32) (x2 : Int32) (x3 : Int32) (x4 : Int32) (x5 : Int32) (x6 : Int32) (x7 : Int32) (S : (Nat → Int32)) (ar : jSc) (h : rF_108_134 k103 x1 x2 x3 x4 x5 x6 x7 S ar = some (r9, S9, ar9)) : gL X 108 (d + 169) 134 [some (.ref 0), some (.int x1), some (.int x2), some (.int x3), some (.int x4), some (.int x5), some (.int x6), some (.int x7)] [] (va_up sc 0 S) rf ar al Post := by
  unfold rF_108_134 at h
  refine gl_aload_n hX q_108_134 rfl rfl ?_
  refine gl_iload hX q_108_135 rfl rfl ?_
  obtain ⟨Se1, are1, e1, h⟩ := o_k2 h
  refine gl_callV hX q_108_137 (qm_436 (by decide)) rfl rfl rfl (qs_0 hr) qx_103 rfl rfl ((rt_103 hX hr hrf) _ _ _ _ _ _ _ _ e1 ?_)
  refine gl_aload_n hX q_108_140 rfl rfl ?_
  refine gl_iload_n hX q_108_141 rfl rfl ?_
  refine gl_iload_n hX q_108_142 rfl rfl ?_
  refine gl_iload_n hX q_108_143 rfl rfl ?_
  obtain ⟨ve2, Se2, are2, e2, h⟩ := o_k3 h
  refine gl_callV hX q_108_144 (qm_439 (by decide)) rfl rfl rfl (qs_0 hr) qx_104 rfl rfl ((rt_104 hX hr hrf) _ _ _ _ _ _ _ _ _ _ _ e2 ?_)
  refine gl_if_eq hX q_108_147 rfl rfl (fun c3 => ?_) (fun c3 => ?_)
  · have h := (if_pos c3).symm.trans h
    refine gl_iload hX q_108_155 rfl rfl ?_
    refine gl_istore (vs2 := [some (.ref 0), some (.int x1), some (.int x2), some (.int x3), some (.int x4), some (.int x5), some (.int x6), some (.int x7)]) hX q_108_157 rfl rfl rfl rfl ?_
    refine gl_iinc (vs2 := [some (.ref 0), some (.int x1), some (.int x2), some (.int x3), some (.int x4), some (.int x5), some (.int x6), some (.int (x7 + (1 : Int32)))]) hX q_108_159 rfl rfl rfl ci_1 rfl rfl ?_
    refine gl_goto hX q_108_162 rfl ?_
    exact gl_weak (vs := [some (.ref 0), some (.int x1), some (.int x2), some (.int x3), some (.int x4), some (.int x5), some (.int x6), some (.int (x7 + (1 : Int32)))]) ⟨rfl, rfl, rfl, rfl, rfl, rfl, rfl, rfl, trivial⟩ (hk103 x1 x2 x3 x4 x5 x6 (x7 + (1 : Int32)) Se2 are2 h)
  · have h := (if_neg c3).symm.trans h
    refine gl_iload hX q_108_150 rfl rfl ?_
    refine gl_goto hX q_108_152 rfl ?_
    refine gl_istore (vs2 := [some (.ref 0), some (.int x1), some (.int x2), some (.int x3), some (.int x4), some (.int x5), some (.int x7), some (.int x7)]) hX q_108_157 rfl rfl rfl rfl ?_
    refine gl_iinc (vs2 := [some (.ref 0), some (.int x1), some (.int x2), some (.int x3), some (.int x4), some (.int x5), some (.int x7), some (.int (x7 + (1 : Int32)))]) hX q_108_159 rfl rfl rfl ci_1 rfl rfl ?_
    refine gl_goto hX q_108_162 rfl ?_
    exact gl_weak (vs := [some (.ref 0), some (.int x1), some (.int x2), some (.int x3), some (.int x4), some (.int x5), some (.int x7), some (.int (x7 + (1 : Int32)))]) ⟨rfl, rfl, rfl, rfl, rfl, rfl, rfl, rfl, trivial⟩ (hk103 x1 x2 x3 x4 x5 x7 (x7 + (1 : Int32)) Se2 are2 h)
def rF_108_103 : Nat → Int32 → Int32 → Int32 → Int32 → Int32 → Int32 → Int32 → (Nat → Int32) → jSc → Option (Int32 × (Nat → Int32) × jSc)
  | 0, _, _, _, _, _, _, _, _, _ => none
  | nn + 1, x1, x2, x3, x4, x5, x6, x7, S, ar => (if ((1 : Int32) <<< ((S 38) &&& 31)) ≤ x7 then (o_b2 (rF_103 x5 S ar) (fun Se5 are5 => (if x6 = (-1 : Int32) then some (x6, Se5, are5) else (if x4 = 0 then some (x6, Se5, are5) else (o_b3 (rF_105 x6 Se5 are5) (fun ve8 Se8 are8 => some (ve8, Se8, are8))))))) else (if x6 = (-1 : Int32) then rF_108_134 (fun x1_ x2_ x3_ x4_ x5_ x6_ x7_ S_ ar_ => rF_108_103 nn x1_ x2_ x3_ x4_ x5_ x6_ x7_ S_ ar_) x1 x2 x3 x4 x5 x6 x7 S ar else (o_b3 (rF_107 x7 x6 S ar) (fun ve10 Se10 are10 => (if ve10 = 0 then rF_108_103 nn x1 x2 x3 x4 x5 x6 (x7 + (1 : Int32)) Se10 are10 else rF_108_134 (fun x1_ x2_ x3_ x4_ x5_ x6_ x7_ S_ ar_ => rF_108_103 nn x1_ x2_ x3_ x4_ x5_ x6_ x7_ S_ ar_) x1 x2 x3 x4 x5 x6 x7 Se10 are10)))))
set_option maxHeartbeats 4000000 in
theorem rt_108_103 {X : jX} (hX : j_LK (g_n X) (g_L X)) (hr : g_rs X = r_sh) {rf : jRf} (hrf : rf 0 = r_rf) {d : Nat} {sc : jSc} {al : jAl} {Post : jPo} {r9 : Int32} {S9 : (Nat → Int32)} {ar9 : jSc} (hP : Post (some (.int r9)) (va_up sc 0 S9) rf ar9 al) : ∀ (nn : Nat) (x1 : Int32) (x2 : Int32) (x3 : Int32) (x4 : Int32) (x5 : Int32) (x6 : Int32) (x7 : Int32) (S : (Nat → Int32)) (ar : jSc), rF_108_103 nn x1 x2 x3 x4 x5 x6 x7 S ar = some (r9, S9, ar9) → gL X 108 (d + 169) 103 [some (.ref 0), some (.int x1), some (.int x2), some (.int x3), some (.int x4), some (.int x5), some (.int x6), some (.int x7)] [] (va_up sc 0 S) rf ar al Post := by
  intro nn
  induction nn with
  | zero =>
    intro x1 x2 x3 x4 x5 x6 x7 S ar h
    have h : (none : Option (Int32 × (Nat → Int32) × jSc)) = some _ := h
    cases h
  | succ nn ih =>
    intro x1 x2 x3 x4 x5 x6 x7 S ar h
    unfold rF_108_103 at h
    refine gl_iload hX q_108_103 rfl rfl ?_
    refine gl_iconst hX q_108_105 ci_1 rfl ?_
    refine gl_aload_n hX q_108_106 rfl rfl ?_
    refine gl_get hX q_108_107 (qf_284 (by decide)) (qs_0 hr) rfl qk_38 rfl rfl ?_
    refine gl_ishl hX q_108_110 rfl ?_
    refine gl_ic_ge hX q_108_111 rfl rfl (fun c4 => ?_) (fun c4 => ?_)
    · have h := (if_pos c4).symm.trans h
      refine gl_aload_n hX q_108_165 rfl rfl ?_
      refine gl_iload hX q_108_166 rfl rfl ?_
      obtain ⟨Se5, are5, e5, h⟩ := o_k2 h
      refine gl_callV hX q_108_168 (qm_436 (by decide)) rfl rfl rfl (qs_0 hr) qx_103 rfl rfl ((rt_103 hX hr hrf) _ _ _ _ _ _ _ _ e5 ?_)
      refine gl_iload hX q_108_171 rfl rfl ?_
      refine gl_iconst hX q_108_173 ci_m1 rfl ?_
      refine gl_ic_eq hX q_108_174 rfl rfl (fun c6 => ?_) (fun c6 => ?_)
      · have h := (if_pos c6).symm.trans h
        refine gl_iload hX q_108_182 rfl rfl ?_
        refine gl_goto hX q_108_184 rfl ?_
        exact gl_ireturn q_108_193 (Or.inl qr_108) (by cases h; exact hP)
      · have h := (if_neg c6).symm.trans h
        refine gl_iload hX q_108_177 rfl rfl ?_
        refine gl_if_ne hX q_108_179 rfl rfl (fun c7 => ?_) (fun c7 => ?_)
        · have h := (if_pos c7).symm.trans h
          refine gl_iload hX q_108_182 rfl rfl ?_
          refine gl_goto hX q_108_184 rfl ?_
          exact gl_ireturn q_108_193 (Or.inl qr_108) (by cases h; exact hP)
        · have h := (if_neg c7).symm.trans h
          refine gl_aload_n hX q_108_187 rfl rfl ?_
          refine gl_iload hX q_108_188 rfl rfl ?_
          obtain ⟨ve8, Se8, are8, e8, h⟩ := o_k3 h
          refine gl_callV hX q_108_190 (qm_427 (by decide)) rfl rfl rfl (qs_0 hr) qx_105 rfl rfl ((rt_105 hX hr hrf) _ _ _ _ _ _ _ _ _ e8 ?_)
          exact gl_ireturn q_108_193 (Or.inl qr_108) (by cases h; exact hP)
    · have h := (if_neg c4).symm.trans h
      refine gl_iload hX q_108_114 rfl rfl ?_
      refine gl_iconst hX q_108_116 ci_m1 rfl ?_
      refine gl_ic_eq hX q_108_117 rfl rfl (fun c9 => ?_) (fun c9 => ?_)
      · have h := (if_pos c9).symm.trans h
        exact gl_weak (vs := [some (.ref 0), some (.int x1), some (.int x2), some (.int x3), some (.int x4), some (.int x5), some (.int x6), some (.int x7)]) ⟨rfl, rfl, rfl, rfl, rfl, rfl, rfl, rfl, trivial⟩ (rt_108_134 hX hr hrf ih hP x1 x2 x3 x4 x5 x6 x7 S ar h)
      · have h := (if_neg c9).symm.trans h
        refine gl_aload_n hX q_108_120 rfl rfl ?_
        refine gl_iload hX q_108_121 rfl rfl ?_
        refine gl_iload hX q_108_123 rfl rfl ?_
        obtain ⟨ve10, Se10, are10, e10, h⟩ := o_k3 h
        refine gl_callV hX q_108_125 (qm_433 (by decide)) rfl rfl rfl (qs_0 hr) qx_107 rfl rfl ((rt_107 hX hr hrf) _ _ _ _ _ _ _ _ _ _ e10 ?_)
        refine gl_if_ne hX q_108_128 rfl rfl (fun c11 => ?_) (fun c11 => ?_)
        · have h := (if_pos c11).symm.trans h
          refine gl_goto hX q_108_131 rfl ?_
          refine gl_iinc (vs2 := [some (.ref 0), some (.int x1), some (.int x2), some (.int x3), some (.int x4), some (.int x5), some (.int x6), some (.int (x7 + (1 : Int32)))]) hX q_108_159 rfl rfl rfl ci_1 rfl rfl ?_
          refine gl_goto hX q_108_162 rfl ?_
          exact gl_weak (vs := [some (.ref 0), some (.int x1), some (.int x2), some (.int x3), some (.int x4), some (.int x5), some (.int x6), some (.int (x7 + (1 : Int32)))]) ⟨rfl, rfl, rfl, rfl, rfl, rfl, rfl, rfl, trivial⟩ (ih x1 x2 x3 x4 x5 x6 (x7 + (1 : Int32)) Se10 are10 h)
        · have h := (if_neg c11).symm.trans h
          exact gl_weak (vs := [some (.ref 0), some (.int x1), some (.int x2), some (.int x3), some (.int x4), some (.int x5), some (.int x6), some (.int x7)]) ⟨rfl, rfl, rfl, rfl, rfl, rfl, rfl, rfl, trivial⟩ (rt_108_134 hX hr hrf ih hP x1 x2 x3 x4 x5 x6 x7 Se10 are10 h)
def rF_108_57 : Nat → Int32 → Int32 → Int32 → Int32 → Int32 → Int32 → Int32 → (Nat → Int32) → jSc → Option (Int32 × (Nat → Int32) × jSc)
  | 0, _, _, _, _, _, _, _, _, _ => none
  | nn + 1, x1, x2, x3, x4, x5, x6, x7, S, ar => (if (S 38) ≤ x7 then rF_108_103 oF x1 x2 x3 x4 x5 x6 (0 : Int32) (upd S 16 (0 : Int32)) ar else (if iB x7 6 then (if (ar 106 (iN x7)) = 0 then rF_108_57 nn x1 x2 x3 x4 (x5 ||| (0 : Int32)) x6 (x7 + (1 : Int32)) S ar else rF_108_57 nn x1 x2 x3 x4 (x5 ||| ((1 : Int32) <<< (x7 &&& 31))) x6 (x7 + (1 : Int32)) S ar) else none))
set_option maxHeartbeats 4000000 in
theorem rt_108_57 {X : jX} (hX : j_LK (g_n X) (g_L X)) (hr : g_rs X = r_sh) {rf : jRf} (hrf : rf 0 = r_rf) {d : Nat} {sc : jSc} {al : jAl} {Post : jPo} {r9 : Int32} {S9 : (Nat → Int32)} {ar9 : jSc} (hP : Post (some (.int r9)) (va_up sc 0 S9) rf ar9 al) : ∀ (nn : Nat) (x1 : Int32) (x2 : Int32) (x3 : Int32) (x4 : Int32) (x5 : Int32) (x6 : Int32) (x7 : Int32) (S : (Nat → Int32)) (ar : jSc), rF_108_57 nn x1 x2 x3 x4 x5 x6 x7 S ar = some (r9, S9, ar9) → gL X 108 (d + 169) 57 [some (.ref 0), some (.int x1), some (.int x2), some (.int x3), some (.int x4), some (.int x5), some (.int x6), some (.int x7)] [] (va_up sc 0 S) rf ar al Post := by
  intro nn
  induction nn with
  | zero =>
    intro x1 x2 x3 x4 x5 x6 x7 S ar h
    have h : (none : Option (Int32 × (Nat → Int32) × jSc)) = some _ := h
    cases h
  | succ nn ih =>
    intro x1 x2 x3 x4 x5 x6 x7 S ar h
    unfold rF_108_57 at h
    refine gl_iload hX q_108_57 rfl rfl ?_
    refine gl_aload_n hX q_108_59 rfl rfl ?_
    refine gl_get hX q_108_60 (qf_284 (by decide)) (qs_0 hr) rfl qk_38 rfl rfl ?_
    refine gl_ic_ge hX q_108_63 rfl rfl (fun c12 => ?_) (fun c12 => ?_)
    · have h := (if_pos c12).symm.trans h
      refine gl_aload_n hX q_108_95 rfl rfl ?_
      refine gl_iconst hX q_108_96 ci_0 rfl ?_
      refine gl_put hX q_108_97 (qf_316 (by decide)) (qs_0 hr) rfl qk_16 rfl ru rfl ?_
      refine gl_iconst hX q_108_100 ci_0 rfl ?_
      refine gl_istore (vs2 := [some (.ref 0), some (.int x1), some (.int x2), some (.int x3), some (.int x4), some (.int x5), some (.int x6), some (.int (0 : Int32))]) hX q_108_101 rfl rfl rfl rfl ?_
      exact gl_weak (vs := [some (.ref 0), some (.int x1), some (.int x2), some (.int x3), some (.int x4), some (.int x5), some (.int x6), some (.int (0 : Int32))]) ⟨rfl, rfl, rfl, rfl, rfl, rfl, rfl, rfl, trivial⟩ (rt_108_103 hX hr hrf hP oF x1 x2 x3 x4 x5 x6 (0 : Int32) (upd S 16 (0 : Int32)) ar h)
    · have h := (if_neg c12).symm.trans h
      refine gl_iload hX q_108_66 rfl rfl ?_
      refine gl_aload_n hX q_108_68 rfl rfl ?_
      refine gl_getA hX q_108_69 (qf_83 (by decide)) (qs_0 hr) rfl qk_43 ((congrFun hrf 43).trans qa_43) rfl ?_
      refine gl_iload hX q_108_72 rfl rfl ?_
      obtain ⟨c13, h⟩ := o_ck h
      refine gl_baload hX q_108_74 (qs_106 hr) c13 rfl rfl ?_
      refine gl_if_eq hX q_108_75 rfl rfl (fun c14 => ?_) (fun c14 => ?_)
      · have h := (if_pos c14).symm.trans h
        refine gl_iconst hX q_108_85 ci_0 rfl ?_
        refine gl_ior hX q_108_86 rfl ?_
        refine gl_istore (vs2 := [some (.ref 0), some (.int x1), some (.int x2), some (.int x3), some (.int x4), some (.int (x5 ||| (0 : Int32))), some (.int x6), some (.int x7)]) hX q_108_87 rfl rfl rfl rfl ?_
        refine gl_iinc (vs2 := [some (.ref 0), some (.int x1), some (.int x2), some (.int x3), some (.int x4), some (.int (x5 ||| (0 : Int32))), some (.int x6), some (.int (x7 + (1 : Int32)))]) hX q_108_89 rfl rfl rfl ci_1 rfl rfl ?_
        refine gl_goto hX q_108_92 rfl ?_
        exact gl_weak (vs := [some (.ref 0), some (.int x1), some (.int x2), some (.int x3), some (.int x4), some (.int (x5 ||| (0 : Int32))), some (.int x6), some (.int (x7 + (1 : Int32)))]) ⟨rfl, rfl, rfl, rfl, rfl, rfl, rfl, rfl, trivial⟩ (ih x1 x2 x3 x4 (x5 ||| (0 : Int32)) x6 (x7 + (1 : Int32)) S ar h)
      · have h := (if_neg c14).symm.trans h
        refine gl_iconst hX q_108_78 ci_1 rfl ?_
        refine gl_iload hX q_108_79 rfl rfl ?_
        refine gl_ishl hX q_108_81 rfl ?_
        refine gl_goto hX q_108_82 rfl ?_
        refine gl_ior hX q_108_86 rfl ?_
        refine gl_istore (vs2 := [some (.ref 0), some (.int x1), some (.int x2), some (.int x3), some (.int x4), some (.int (x5 ||| ((1 : Int32) <<< (x7 &&& 31)))), some (.int x6), some (.int x7)]) hX q_108_87 rfl rfl rfl rfl ?_
        refine gl_iinc (vs2 := [some (.ref 0), some (.int x1), some (.int x2), some (.int x3), some (.int x4), some (.int (x5 ||| ((1 : Int32) <<< (x7 &&& 31)))), some (.int x6), some (.int (x7 + (1 : Int32)))]) hX q_108_89 rfl rfl rfl ci_1 rfl rfl ?_
        refine gl_goto hX q_108_92 rfl ?_
        exact gl_weak (vs := [some (.ref 0), some (.int x1), some (.int x2), some (.int x3), some (.int x4), some (.int (x5 ||| ((1 : Int32) <<< (x7 &&& 31)))), some (.int x6), some (.int (x7 + (1 : Int32)))]) ⟨rfl, rfl, rfl, rfl, rfl, rfl, rfl, rfl, trivial⟩ (ih x1 x2 x3 x4 (x5 ||| ((1 : Int32) <<< (x7 &&& 31))) x6 (x7 + (1 : Int32)) S ar h)
def rF_108 (x1 : Int32) (x2 : Int32) (x3 : Int32) (x4 : Int32) (S : (Nat → Int32)) (ar : jSc) : Option (Int32 × (Nat → Int32) × jSc) :=
  (o_b3 (rF_88 x1 x3 (upd S 0 (0 : Int32)) ar) (fun ve15 Se15 are15 => (if ve15 = 0 then (o_b3 (rF_3 (1 : Int32) (1 : Int32) Se15 are15) (fun ve17 Se17 are17 => (if ve17 = 0 then rF_108_57 oF x1 x2 x3 x4 (0 : Int32) (-1 : Int32) (0 : Int32) Se17 are17 else some ((0 : Int32), Se17, are17)))) else (o_b3 (rF_4 x2 (0 : Int32) (3 : Int32) Se15 are15) (fun ve19 Se19 are19 => (if ve19 = 0 then (o_b3 (rF_3 (1 : Int32) (1 : Int32) Se19 are19) (fun ve21 Se21 are21 => (if ve21 = 0 then rF_108_57 oF x1 x2 x3 x4 (0 : Int32) (-1 : Int32) (0 : Int32) Se21 are21 else some ((0 : Int32), Se21, are21)))) else (o_b3 (rF_4 x4 (0 : Int32) (1 : Int32) Se19 are19) (fun ve23 Se23 are23 => (if ve23 = 0 then (o_b3 (rF_3 (1 : Int32) (1 : Int32) Se23 are23) (fun ve25 Se25 are25 => (if ve25 = 0 then rF_108_57 oF x1 x2 x3 x4 (0 : Int32) (-1 : Int32) (0 : Int32) Se25 are25 else some ((0 : Int32), Se25, are25)))) else (o_b3 (rF_3 (0 : Int32) (1 : Int32) Se23 are23) (fun ve27 Se27 are27 => (if ve27 = 0 then rF_108_57 oF x1 x2 x3 x4 (0 : Int32) (-1 : Int32) (0 : Int32) Se27 are27 else some ((0 : Int32), Se27, are27)))))))))))))
set_option maxHeartbeats 4000000 in
theorem rt_108 {X : jX} (hX : j_LK (g_n X) (g_L X)) (hr : g_rs X = r_sh) {rf : jRf} (hrf : rf 0 = r_rf) {d : Nat} : rT_108 X rf rF_108 (d + 169) := by
  intro sc al Post x1 x2 x3 x4 S ar r9 S9 ar9 h hP
  unfold rF_108 at h
  refine gl_entry (m := 3) rfl ?_
  show gL X 108 (d + 169) 0 [some (.ref 0), some (.int x1), some (.int x2), some (.int x3), some (.int x4), none, none, none] [] (va_up sc 0 S) rf ar al Post
  refine gl_aload_n hX q_108_0 rfl rfl ?_
  refine gl_iconst hX q_108_1 ci_0 rfl ?_
  refine gl_put hX q_108_2 (qf_126 (by decide)) (qs_0 hr) rfl qk_0 rfl ru rfl ?_
  refine gl_aload_n hX q_108_5 rfl rfl ?_
  refine gl_aload_n hX q_108_6 rfl rfl ?_
  refine gl_iload_n hX q_108_7 rfl rfl ?_
  refine gl_iload_n hX q_108_8 rfl rfl ?_
  obtain ⟨ve15, Se15, are15, e15, h⟩ := o_k3 h
  refine gl_callV hX q_108_9 (qm_408 (by decide)) rfl rfl rfl (qs_0 hr) qx_88 rfl rfl ((rt_88 hX hr hrf) _ _ _ _ _ _ _ _ _ _ e15 ?_)
  refine gl_if_eq hX q_108_12 rfl rfl (fun c16 => ?_) (fun c16 => ?_)
  · have h := (if_pos c16).symm.trans h
    refine gl_iconst hX q_108_34 ci_1 rfl ?_
    refine gl_goto hX q_108_35 rfl ?_
    refine gl_iconst hX q_108_39 ci_1 rfl ?_
    obtain ⟨ve17, Se17, are17, e17, h⟩ := o_k3 h
    refine gl_callV hX q_108_40 (qm_306 (by decide)) rfl rfl rfl (qs_0 hr) qx_3 rfl rfl ((rt_3 hX hr hrf) _ _ _ _ _ _ _ _ _ _ e17 ?_)
    refine gl_if_eq hX q_108_43 rfl rfl (fun c18 => ?_) (fun c18 => ?_)
    · have h := (if_pos c18).symm.trans h
      refine gl_iconst hX q_108_48 ci_0 rfl ?_
      refine gl_istore (vs2 := [some (.ref 0), some (.int x1), some (.int x2), some (.int x3), some (.int x4), some (.int (0 : Int32)), none, none]) hX q_108_49 rfl rfl rfl rfl ?_
      refine gl_iconst hX q_108_51 ci_m1 rfl ?_
      refine gl_istore (vs2 := [some (.ref 0), some (.int x1), some (.int x2), some (.int x3), some (.int x4), some (.int (0 : Int32)), some (.int (-1 : Int32)), none]) hX q_108_52 rfl rfl rfl rfl ?_
      refine gl_iconst hX q_108_54 ci_0 rfl ?_
      refine gl_istore (vs2 := [some (.ref 0), some (.int x1), some (.int x2), some (.int x3), some (.int x4), some (.int (0 : Int32)), some (.int (-1 : Int32)), some (.int (0 : Int32))]) hX q_108_55 rfl rfl rfl rfl ?_
      exact gl_weak (vs := [some (.ref 0), some (.int x1), some (.int x2), some (.int x3), some (.int x4), some (.int (0 : Int32)), some (.int (-1 : Int32)), some (.int (0 : Int32))]) ⟨rfl, rfl, rfl, rfl, rfl, rfl, rfl, rfl, trivial⟩ (rt_108_57 hX hr hrf hP oF x1 x2 x3 x4 (0 : Int32) (-1 : Int32) (0 : Int32) Se17 are17 h)
    · have h := (if_neg c18).symm.trans h
      refine gl_iconst hX q_108_46 ci_0 rfl ?_
      exact gl_ireturn q_108_47 (Or.inl qr_108) (by cases h; exact hP)
  · have h := (if_neg c16).symm.trans h
    refine gl_iload_n hX q_108_15 rfl rfl ?_
    refine gl_iconst hX q_108_16 ci_0 rfl ?_
    refine gl_iconst hX q_108_17 ci_3 rfl ?_
    obtain ⟨ve19, Se19, are19, e19, h⟩ := o_k3 h
    refine gl_callS q_108_18 (qm_247 (by decide)) rfl rfl rfl qx_4 rfl rfl ((rt_4 hX hr hrf) _ _ _ _ _ _ _ _ _ _ _ e19 ?_)
    refine gl_if_eq hX q_108_21 rfl rfl (fun c20 => ?_) (fun c20 => ?_)
    · have h := (if_pos c20).symm.trans h
      refine gl_iconst hX q_108_34 ci_1 rfl ?_
      refine gl_goto hX q_108_35 rfl ?_
      refine gl_iconst hX q_108_39 ci_1 rfl ?_
      obtain ⟨ve21, Se21, are21, e21, h⟩ := o_k3 h
      refine gl_callV hX q_108_40 (qm_306 (by decide)) rfl rfl rfl (qs_0 hr) qx_3 rfl rfl ((rt_3 hX hr hrf) _ _ _ _ _ _ _ _ _ _ e21 ?_)
      refine gl_if_eq hX q_108_43 rfl rfl (fun c22 => ?_) (fun c22 => ?_)
      · have h := (if_pos c22).symm.trans h
        refine gl_iconst hX q_108_48 ci_0 rfl ?_
        refine gl_istore (vs2 := [some (.ref 0), some (.int x1), some (.int x2), some (.int x3), some (.int x4), some (.int (0 : Int32)), none, none]) hX q_108_49 rfl rfl rfl rfl ?_
        refine gl_iconst hX q_108_51 ci_m1 rfl ?_
        refine gl_istore (vs2 := [some (.ref 0), some (.int x1), some (.int x2), some (.int x3), some (.int x4), some (.int (0 : Int32)), some (.int (-1 : Int32)), none]) hX q_108_52 rfl rfl rfl rfl ?_
        refine gl_iconst hX q_108_54 ci_0 rfl ?_
        refine gl_istore (vs2 := [some (.ref 0), some (.int x1), some (.int x2), some (.int x3), some (.int x4), some (.int (0 : Int32)), some (.int (-1 : Int32)), some (.int (0 : Int32))]) hX q_108_55 rfl rfl rfl rfl ?_
        exact gl_weak (vs := [some (.ref 0), some (.int x1), some (.int x2), some (.int x3), some (.int x4), some (.int (0 : Int32)), some (.int (-1 : Int32)), some (.int (0 : Int32))]) ⟨rfl, rfl, rfl, rfl, rfl, rfl, rfl, rfl, trivial⟩ (rt_108_57 hX hr hrf hP oF x1 x2 x3 x4 (0 : Int32) (-1 : Int32) (0 : Int32) Se21 are21 h)
      · have h := (if_neg c22).symm.trans h
        refine gl_iconst hX q_108_46 ci_0 rfl ?_
        exact gl_ireturn q_108_47 (Or.inl qr_108) (by cases h; exact hP)
    · have h := (if_neg c20).symm.trans h
      refine gl_iload hX q_108_24 rfl rfl ?_
      refine gl_iconst hX q_108_26 ci_0 rfl ?_
      refine gl_iconst hX q_108_27 ci_1 rfl ?_
      obtain ⟨ve23, Se23, are23, e23, h⟩ := o_k3 h
      refine gl_callS q_108_28 (qm_247 (by decide)) rfl rfl rfl qx_4 rfl rfl ((rt_4 hX hr hrf) _ _ _ _ _ _ _ _ _ _ _ e23 ?_)
      refine gl_if_ne hX q_108_31 rfl rfl (fun c24 => ?_) (fun c24 => ?_)
      · have h := (if_pos c24).symm.trans h
        refine gl_iconst hX q_108_34 ci_1 rfl ?_
        refine gl_goto hX q_108_35 rfl ?_
        refine gl_iconst hX q_108_39 ci_1 rfl ?_
        obtain ⟨ve25, Se25, are25, e25, h⟩ := o_k3 h
        refine gl_callV hX q_108_40 (qm_306 (by decide)) rfl rfl rfl (qs_0 hr) qx_3 rfl rfl ((rt_3 hX hr hrf) _ _ _ _ _ _ _ _ _ _ e25 ?_)
        refine gl_if_eq hX q_108_43 rfl rfl (fun c26 => ?_) (fun c26 => ?_)
        · have h := (if_pos c26).symm.trans h
          refine gl_iconst hX q_108_48 ci_0 rfl ?_
          refine gl_istore (vs2 := [some (.ref 0), some (.int x1), some (.int x2), some (.int x3), some (.int x4), some (.int (0 : Int32)), none, none]) hX q_108_49 rfl rfl rfl rfl ?_
          refine gl_iconst hX q_108_51 ci_m1 rfl ?_
          refine gl_istore (vs2 := [some (.ref 0), some (.int x1), some (.int x2), some (.int x3), some (.int x4), some (.int (0 : Int32)), some (.int (-1 : Int32)), none]) hX q_108_52 rfl rfl rfl rfl ?_
          refine gl_iconst hX q_108_54 ci_0 rfl ?_
          refine gl_istore (vs2 := [some (.ref 0), some (.int x1), some (.int x2), some (.int x3), some (.int x4), some (.int (0 : Int32)), some (.int (-1 : Int32)), some (.int (0 : Int32))]) hX q_108_55 rfl rfl rfl rfl ?_
          exact gl_weak (vs := [some (.ref 0), some (.int x1), some (.int x2), some (.int x3), some (.int x4), some (.int (0 : Int32)), some (.int (-1 : Int32)), some (.int (0 : Int32))]) ⟨rfl, rfl, rfl, rfl, rfl, rfl, rfl, rfl, trivial⟩ (rt_108_57 hX hr hrf hP oF x1 x2 x3 x4 (0 : Int32) (-1 : Int32) (0 : Int32) Se25 are25 h)
        · have h := (if_neg c26).symm.trans h
          refine gl_iconst hX q_108_46 ci_0 rfl ?_
          exact gl_ireturn q_108_47 (Or.inl qr_108) (by cases h; exact hP)
      · have h := (if_neg c24).symm.trans h
        refine gl_iconst hX q_108_38 ci_0 rfl ?_
        refine gl_iconst hX q_108_39 ci_1 rfl ?_
        obtain ⟨ve27, Se27, are27, e27, h⟩ := o_k3 h
        refine gl_callV hX q_108_40 (qm_306 (by decide)) rfl rfl rfl (qs_0 hr) qx_3 rfl rfl ((rt_3 hX hr hrf) _ _ _ _ _ _ _ _ _ _ e27 ?_)
        refine gl_if_eq hX q_108_43 rfl rfl (fun c28 => ?_) (fun c28 => ?_)
        · have h := (if_pos c28).symm.trans h
          refine gl_iconst hX q_108_48 ci_0 rfl ?_
          refine gl_istore (vs2 := [some (.ref 0), some (.int x1), some (.int x2), some (.int x3), some (.int x4), some (.int (0 : Int32)), none, none]) hX q_108_49 rfl rfl rfl rfl ?_
          refine gl_iconst hX q_108_51 ci_m1 rfl ?_
          refine gl_istore (vs2 := [some (.ref 0), some (.int x1), some (.int x2), some (.int x3), some (.int x4), some (.int (0 : Int32)), some (.int (-1 : Int32)), none]) hX q_108_52 rfl rfl rfl rfl ?_
          refine gl_iconst hX q_108_54 ci_0 rfl ?_
          refine gl_istore (vs2 := [some (.ref 0), some (.int x1), some (.int x2), some (.int x3), some (.int x4), some (.int (0 : Int32)), some (.int (-1 : Int32)), some (.int (0 : Int32))]) hX q_108_55 rfl rfl rfl rfl ?_
          exact gl_weak (vs := [some (.ref 0), some (.int x1), some (.int x2), some (.int x3), some (.int x4), some (.int (0 : Int32)), some (.int (-1 : Int32)), some (.int (0 : Int32))]) ⟨rfl, rfl, rfl, rfl, rfl, rfl, rfl, rfl, trivial⟩ (rt_108_57 hX hr hrf hP oF x1 x2 x3 x4 (0 : Int32) (-1 : Int32) (0 : Int32) Se27 are27 h)
        · have h := (if_neg c28).symm.trans h
          refine gl_iconst hX q_108_46 ci_0 rfl ?_
          exact gl_ireturn q_108_47 (Or.inl qr_108) (by cases h; exact hP)
/-- ClickOrdersModel.comesTo(II)Z -/
def rT_110 (X : jX) (rf : jRf) (F : Int32 → Int32 → (Nat → Int32) → jSc → Option (Int32 × (Nat → Int32) × jSc)) (e : Nat) : Prop := ∀ (sc : jSc) (al : jAl) (Post : jPo) (x1 : Int32) (x2 : Int32) (S : (Nat → Int32)) (ar : jSc) (r9 : Int32) (S9 : (Nat → Int32)) (ar9 : jSc), F x1 x2 S ar = some (r9, S9, ar9) → Post (some (.int r9)) (va_up sc 0 S9) rf ar9 al → gW X 110 e 0 (j_av [.ref 0, .int x1, .int x2]) [] (va_up sc 0 S) rf ar al Post
def rF_110_55 : Nat → Int32 → Int32 → (Nat → Int32) → jSc → Option (Int32 × (Nat → Int32) × jSc)
  | 0, _, _, _, _ => none
  | nn + 1, x1, x3, S, ar => (if (37 : Int32) ≤ x3 then some ((1 : Int32), S, ar) else (if iB ((1 : Int32) - x1) 2 then (if iB x3 53 then (if iB x3 53 then rF_110_55 nn x1 (x3 + (1 : Int32)) S (j_u2 ar (714 + iN ((1 : Int32) - x1)) (iN x3) (ar 13 (iN x3))) else none) else none) else none))
set_option maxHeartbeats 4000000 in
theorem rt_110_55 {X : jX} (hX : j_LK (g_n X) (g_L X)) (hr : g_rs X = r_sh) {rf : jRf} (hrf : rf 0 = r_rf) {d : Nat} {sc : jSc} {al : jAl} {Post : jPo} {r9 : Int32} {S9 : (Nat → Int32)} {ar9 : jSc} (hP : Post (some (.int r9)) (va_up sc 0 S9) rf ar9 al) : ∀ (nn : Nat) (x1 : Int32) (x3 : Int32) (S : (Nat → Int32)) (ar : jSc), rF_110_55 nn x1 x3 S ar = some (r9, S9, ar9) → gL X 110 (d + 127) 55 [some (.ref 0), some (.int x1), none, some (.int x3)] [] (va_up sc 0 S) rf ar al Post := by
  intro nn
  induction nn with
  | zero =>
    intro x1 x3 S ar h
    have h : (none : Option (Int32 × (Nat → Int32) × jSc)) = some _ := h
    cases h
  | succ nn ih =>
    intro x1 x3 S ar h
    unfold rF_110_55 at h
    refine gl_iload_n hX q_110_55 rfl rfl ?_
    refine gl_bipush hX q_110_56 cb_37 rfl ?_
    refine gl_ic_ge hX q_110_58 rfl rfl (fun c1 => ?_) (fun c1 => ?_)
    · have h := (if_pos c1).symm.trans h
      refine gl_iconst hX q_110_83 ci_1 rfl ?_
      exact gl_ireturn q_110_84 (Or.inr ⟨qr_110, Or.inr rfl⟩) (by cases h; exact hP)
    · have h := (if_neg c1).symm.trans h
      refine gl_aload_n hX q_110_61 rfl rfl ?_
      refine gl_getA hX q_110_62 (qf_105 (by decide)) (qs_0 hr) rfl qk_54 ((congrFun hrf 54).trans qa_54) rfl ?_
      refine gl_iconst hX q_110_65 ci_1 rfl ?_
      refine gl_iload_n hX q_110_66 rfl rfl ?_
      refine gl_isub hX q_110_67 rfl ?_
      obtain ⟨c2, h⟩ := o_ck h
      refine gl_aaload hX q_110_68 (qs_713 hr) c2 (Or.inr ⟨Or.inl rfl, qs_0 hr⟩) (qo_713 (iB_lt c2)) rfl ?_
      refine gl_iload_n hX q_110_69 rfl rfl ?_
      refine gl_aload_n hX q_110_70 rfl rfl ?_
      refine gl_getA hX q_110_71 (qf_42 (by decide)) (qs_0 hr) rfl qk_21 ((congrFun hrf 21).trans qa_21) rfl ?_
      refine gl_iload_n hX q_110_74 rfl rfl ?_
      obtain ⟨c3, h⟩ := o_ck h
      refine gl_iaload hX q_110_75 (qs_13 hr) c3 rfl rfl ?_
      obtain ⟨c4, h⟩ := o_ck h
      refine gl_iastore (ar2 := (j_u2 ar (714 + iN ((1 : Int32) - x1)) (iN x3) (ar 13 (iN x3)))) hX q_110_76 (qs_windowPage hr (iB_lt c2)) c4 rfl rfl ?_
      refine gl_iinc (vs2 := [some (.ref 0), some (.int x1), none, some (.int (x3 + (1 : Int32)))]) hX q_110_77 rfl rfl rfl ci_1 rfl rfl ?_
      refine gl_goto hX q_110_80 rfl ?_
      exact gl_weak (vs := [some (.ref 0), some (.int x1), none, some (.int (x3 + (1 : Int32)))]) ⟨rfl, rfl, rfl, trivial⟩ (ih x1 (x3 + (1 : Int32)) S (j_u2 ar (714 + iN ((1 : Int32) - x1)) (iN x3) (ar 13 (iN x3))) h)
def rF_110 (x1 : Int32) (x2 : Int32) (S : (Nat → Int32)) (ar : jSc) : Option (Int32 × (Nat → Int32) × jSc) :=
  (if iB x1 2 then (o_b2 (rF_55 (714 + iN x1) 53 (upd S 16 (0 : Int32)) ar) (fun Se6 are6 => (o_b3 (rF_50 x2 Se6 are6) (fun ve7 Se7 are7 => (if ve7 = 0 then some ((0 : Int32), Se7, are7) else (o_b3 (rF_52 x2 (-1 : Int32) (upd Se7 29 x1) are7) (fun ve9 Se9 are9 => (if iB x1 2 then (o_b2 (rF_56 (714 + iN x1) 53 (upd Se9 29 (-1 : Int32)) are9) (fun Se11 are11 => rF_110_55 oF x1 (33 : Int32) Se11 are11)) else none)))))))) else none)
set_option maxHeartbeats 4000000 in
theorem rt_110 {X : jX} (hX : j_LK (g_n X) (g_L X)) (hr : g_rs X = r_sh) {rf : jRf} (hrf : rf 0 = r_rf) {d : Nat} : rT_110 X rf rF_110 (d + 127) := by
  intro sc al Post x1 x2 S ar r9 S9 ar9 h hP
  unfold rF_110 at h
  refine gl_entry (m := 1) rfl ?_
  show gL X 110 (d + 127) 0 [some (.ref 0), some (.int x1), some (.int x2), none] [] (va_up sc 0 S) rf ar al Post
  refine gl_aload_n hX q_110_0 rfl rfl ?_
  refine gl_iconst hX q_110_1 ci_0 rfl ?_
  refine gl_put hX q_110_2 (qf_316 (by decide)) (qs_0 hr) rfl qk_16 rfl ru rfl ?_
  refine gl_aload_n hX q_110_5 rfl rfl ?_
  refine gl_aload_n hX q_110_6 rfl rfl ?_
  refine gl_getA hX q_110_7 (qf_105 (by decide)) (qs_0 hr) rfl qk_54 ((congrFun hrf 54).trans qa_54) rfl ?_
  refine gl_iload_n hX q_110_10 rfl rfl ?_
  obtain ⟨c5, h⟩ := o_ck h
  refine gl_aaload hX q_110_11 (qs_713 hr) c5 (Or.inr ⟨Or.inl rfl, qs_0 hr⟩) (qo_713 (iB_lt c5)) rfl ?_
  obtain ⟨Se6, are6, e6, h⟩ := o_k2 h
  refine gl_callV hX q_110_12 (qm_351 (by decide)) rfl rfl rfl (qs_0 hr) qx_55 rfl rfl ((rt_55 hX hr hrf) _ _ _ _ _ (qs_windowPage hr (iB_lt c5)) _ _ _ _ e6 ?_)
  refine gl_aload_n hX q_110_15 rfl rfl ?_
  refine gl_iload_n hX q_110_16 rfl rfl ?_
  obtain ⟨ve7, Se7, are7, e7, h⟩ := o_k3 h
  refine gl_callV hX q_110_17 (qm_354 (by decide)) rfl rfl rfl (qs_0 hr) qx_50 rfl rfl ((rt_50 hX hr hrf) _ _ _ _ _ _ _ _ _ e7 ?_)
  refine gl_if_ne hX q_110_20 rfl rfl (fun c8 => ?_) (fun c8 => ?_)
  · have h := (if_pos c8).symm.trans h
    refine gl_iconst hX q_110_23 ci_0 rfl ?_
    exact gl_ireturn q_110_24 (Or.inr ⟨qr_110, Or.inl rfl⟩) (by cases h; exact hP)
  · have h := (if_neg c8).symm.trans h
    refine gl_aload_n hX q_110_25 rfl rfl ?_
    refine gl_iload_n hX q_110_26 rfl rfl ?_
    refine gl_put hX q_110_27 (qf_45 (by decide)) (qs_0 hr) rfl qk_29 rfl ru rfl ?_
    refine gl_aload_n hX q_110_30 rfl rfl ?_
    refine gl_iload_n hX q_110_31 rfl rfl ?_
    refine gl_iconst hX q_110_32 ci_m1 rfl ?_
    obtain ⟨ve9, Se9, are9, e9, h⟩ := o_k3 h
    refine gl_callV hX q_110_33 (qm_357 (by decide)) rfl rfl rfl (qs_0 hr) qx_52 rfl rfl ((rt_52 hX hr hrf) _ _ _ _ _ _ _ _ _ _ e9 ?_)
    refine gl_pop hX q_110_36 rfl rfl ?_
    refine gl_aload_n hX q_110_37 rfl rfl ?_
    refine gl_iconst hX q_110_38 ci_m1 rfl ?_
    refine gl_put hX q_110_39 (qf_45 (by decide)) (qs_0 hr) rfl qk_29 rfl ru rfl ?_
    refine gl_aload_n hX q_110_42 rfl rfl ?_
    refine gl_aload_n hX q_110_43 rfl rfl ?_
    refine gl_getA hX q_110_44 (qf_105 (by decide)) (qs_0 hr) rfl qk_54 ((congrFun hrf 54).trans qa_54) rfl ?_
    refine gl_iload_n hX q_110_47 rfl rfl ?_
    obtain ⟨c10, h⟩ := o_ck h
    refine gl_aaload hX q_110_48 (qs_713 hr) c10 (Or.inr ⟨Or.inl rfl, qs_0 hr⟩) (qo_713 (iB_lt c10)) rfl ?_
    obtain ⟨Se11, are11, e11, h⟩ := o_k2 h
    refine gl_callV hX q_110_49 (qm_347 (by decide)) rfl rfl rfl (qs_0 hr) qx_56 rfl rfl ((rt_56 hX hr hrf) _ _ _ _ _ (qs_windowPage hr (iB_lt c10)) _ _ _ _ e11 ?_)
    refine gl_bipush hX q_110_52 cb_33 rfl ?_
    refine gl_istore_n (vs2 := [some (.ref 0), some (.int x1), some (.int x2), some (.int (33 : Int32))]) hX q_110_54 rfl rfl rfl rfl ?_
    exact gl_weak (vs := [some (.ref 0), some (.int x1), none, some (.int (33 : Int32))]) ⟨rfl, rfl, rfl, trivial⟩ (rt_110_55 hX hr hrf hP oF x1 (33 : Int32) Se11 are11 h)
