/-! THE REFERENCE: its methods as functions, and that the machine does what they say. -/
/-- ClickOrdersModel.ordered(II)Z -/
def rT_73 (X : jX) (rf : jRf) (F : Int32 → Int32 → (Nat → Int32) → jSc → Option (Int32 × (Nat → Int32) × jSc)) (e : Nat) : Prop := ∀ (sc : jSc) (al : jAl) (Post : jPo) (x1 : Int32) (x2 : Int32) (S : (Nat → Int32)) (ar : jSc) (r9 : Int32) (S9 : (Nat → Int32)) (ar9 : jSc), F x1 x2 S ar = some (r9, S9, ar9) → Post (some (.int r9)) (va_up sc 0 S9) rf ar9 al → gW X 73 e 0 (j_av [.ref 0, .int x1, .int x2]) [] (va_up sc 0 S) rf ar al Post
def rF_73_27 (x1 : Int32) (x2 : Int32) (y0 : Int32) (S : (Nat → Int32)) (ar : jSc) : Option (Int32 × (Nat → Int32) × jSc) :=
  (o_b3 (rF_3 y0 (1 : Int32) S ar) (fun ve1 Se1 are1 => (if ve1 = 0 then (o_b2 (rF_72 Se1 are1) (fun Se3 are3 => (if x2 ≤ x1 then some ((0 : Int32), Se3, are3) else (if iB x1 40 then (if iB x2 40 then (if (are3 (62 + iN x1) (iN x2)) = 0 then some ((0 : Int32), Se3, are3) else some ((1 : Int32), Se3, are3)) else none) else none)))) else some ((0 : Int32), Se1, are1))))
set_option maxHeartbeats 4000000 in
theorem rt_73_27 {X : jX} (hX : j_LK (g_n X) (g_L X)) (hr : g_rs X = r_sh) {rf : jRf} (hrf : rf 0 = r_rf) {d : Nat} {sc : jSc} {al : jAl} {Post : jPo} {r9 : Int32} {S9 : (Nat → Int32)} {ar9 : jSc} (hP : Post (some (.int r9)) (va_up sc 0 S9) rf ar9 al) (x1 : Int32) (x2 : Int32) (y0 : Int32) (S : (Nat → Int32)) (ar : jSc) (h : rF_73_27 x1 x2 y0 S ar = some (r9, S9, ar9)) : gL X 73 (d + 3) 27 [some (.ref 0), some (.int x1), some (.int x2)] [.int y0, .ref 0] (va_up sc 0 S) rf ar al Post := by
  unfold rF_73_27 at h
  refine gl_iconst hX q_73_27 ci_1 rfl ?_
  obtain ⟨ve1, Se1, are1, e1, h⟩ := o_k3 h
  refine gl_callV hX q_73_28 (qm_306 (by decide)) rfl rfl rfl (qs_0 hr) qx_3 rfl rfl ((rt_3 hX hr hrf) _ _ _ _ _ _ _ _ _ _ e1 ?_)
  refine gl_if_eq hX q_73_31 rfl rfl (fun c2 => ?_) (fun c2 => ?_)
  · have h := (if_pos c2).symm.trans h
    refine gl_aload_n hX q_73_36 rfl rfl ?_
    obtain ⟨Se3, are3, e3, h⟩ := o_k2 h
    refine gl_callV hX q_73_37 (qm_371 (by decide)) rfl rfl rfl (qs_0 hr) qx_72 rfl rfl ((rt_72 hX hr hrf) _ _ _  _ _ _ _ e3 ?_)
    refine gl_iload_n hX q_73_40 rfl rfl ?_
    refine gl_iload_n hX q_73_41 rfl rfl ?_
    refine gl_ic_ge hX q_73_42 rfl rfl (fun c4 => ?_) (fun c4 => ?_)
    · have h := (if_pos c4).symm.trans h
      refine gl_iconst hX q_73_60 ci_0 rfl ?_
      exact gl_ireturn q_73_61 (Or.inr ⟨qr_73, Or.inl rfl⟩) (by cases h; exact hP)
    · have h := (if_neg c4).symm.trans h
      refine gl_aload_n hX q_73_45 rfl rfl ?_
      refine gl_getA hX q_73_46 (qf_68 (by decide)) (qs_0 hr) rfl qk_37 ((congrFun hrf 37).trans qa_37) rfl ?_
      refine gl_iload_n hX q_73_49 rfl rfl ?_
      obtain ⟨c5, h⟩ := o_ck h
      refine gl_aaload hX q_73_50 (qs_61 hr) c5 (Or.inr ⟨Or.inr rfl, qs_0 hr⟩) (qo_61 (iB_lt c5)) rfl ?_
      refine gl_iload_n hX q_73_51 rfl rfl ?_
      obtain ⟨c6, h⟩ := o_ck h
      refine gl_baload hX q_73_52 (qs_isOrdered hr (iB_lt c5)) c6 rfl rfl ?_
      refine gl_if_eq hX q_73_53 rfl rfl (fun c7 => ?_) (fun c7 => ?_)
      · have h := (if_pos c7).symm.trans h
        refine gl_iconst hX q_73_60 ci_0 rfl ?_
        exact gl_ireturn q_73_61 (Or.inr ⟨qr_73, Or.inl rfl⟩) (by cases h; exact hP)
      · have h := (if_neg c7).symm.trans h
        refine gl_iconst hX q_73_56 ci_1 rfl ?_
        refine gl_goto hX q_73_57 rfl ?_
        exact gl_ireturn q_73_61 (Or.inr ⟨qr_73, Or.inr rfl⟩) (by cases h; exact hP)
  · have h := (if_neg c2).symm.trans h
    refine gl_iconst hX q_73_34 ci_0 rfl ?_
    exact gl_ireturn q_73_35 (Or.inr ⟨qr_73, Or.inl rfl⟩) (by cases h; exact hP)
def rF_73 (x1 : Int32) (x2 : Int32) (S : (Nat → Int32)) (ar : jSc) : Option (Int32 × (Nat → Int32) × jSc) :=
  (o_b3 (rF_69 x1 (upd S 0 (0 : Int32)) ar) (fun ve8 Se8 are8 => (if ve8 = 0 then rF_73_27 x1 x2 (1 : Int32) Se8 are8 else (o_b3 (rF_69 x2 Se8 are8) (fun ve10 Se10 are10 => (if ve10 = 0 then rF_73_27 x1 x2 (1 : Int32) Se10 are10 else rF_73_27 x1 x2 (0 : Int32) Se10 are10))))))
set_option maxHeartbeats 4000000 in
theorem rt_73 {X : jX} (hX : j_LK (g_n X) (g_L X)) (hr : g_rs X = r_sh) {rf : jRf} (hrf : rf 0 = r_rf) {d : Nat} : rT_73 X rf rF_73 (d + 3) := by
  intro sc al Post x1 x2 S ar r9 S9 ar9 h hP
  unfold rF_73 at h
  refine gl_entry (m := 0) rfl ?_
  show gL X 73 (d + 3) 0 [some (.ref 0), some (.int x1), some (.int x2)] [] (va_up sc 0 S) rf ar al Post
  refine gl_aload_n hX q_73_0 rfl rfl ?_
  refine gl_iconst hX q_73_1 ci_0 rfl ?_
  refine gl_put hX q_73_2 (qf_126 (by decide)) (qs_0 hr) rfl qk_0 rfl ru rfl ?_
  refine gl_aload_n hX q_73_5 rfl rfl ?_
  refine gl_aload_n hX q_73_6 rfl rfl ?_
  refine gl_iload_n hX q_73_7 rfl rfl ?_
  obtain ⟨ve8, Se8, are8, e8, h⟩ := o_k3 h
  refine gl_callV hX q_73_8 (qm_365 (by decide)) rfl rfl rfl (qs_0 hr) qx_69 rfl rfl ((rt_69 hX hr hrf) _ _ _ _ _ _ _ _ _ e8 ?_)
  refine gl_if_eq hX q_73_11 rfl rfl (fun c9 => ?_) (fun c9 => ?_)
  · have h := (if_pos c9).symm.trans h
    refine gl_iconst hX q_73_22 ci_1 rfl ?_
    refine gl_goto hX q_73_23 rfl ?_
    exact gl_weak (vs := [some (.ref 0), some (.int x1), some (.int x2)]) ⟨rfl, rfl, rfl, trivial⟩ (rt_73_27 hX hr hrf hP x1 x2 (1 : Int32) Se8 are8 h)
  · have h := (if_neg c9).symm.trans h
    refine gl_aload_n hX q_73_14 rfl rfl ?_
    refine gl_iload_n hX q_73_15 rfl rfl ?_
    obtain ⟨ve10, Se10, are10, e10, h⟩ := o_k3 h
    refine gl_callV hX q_73_16 (qm_365 (by decide)) rfl rfl rfl (qs_0 hr) qx_69 rfl rfl ((rt_69 hX hr hrf) _ _ _ _ _ _ _ _ _ e10 ?_)
    refine gl_if_ne hX q_73_19 rfl rfl (fun c11 => ?_) (fun c11 => ?_)
    · have h := (if_pos c11).symm.trans h
      refine gl_iconst hX q_73_22 ci_1 rfl ?_
      refine gl_goto hX q_73_23 rfl ?_
      exact gl_weak (vs := [some (.ref 0), some (.int x1), some (.int x2)]) ⟨rfl, rfl, rfl, trivial⟩ (rt_73_27 hX hr hrf hP x1 x2 (1 : Int32) Se10 are10 h)
    · have h := (if_neg c11).symm.trans h
      refine gl_iconst hX q_73_26 ci_0 rfl ?_
      exact gl_weak (vs := [some (.ref 0), some (.int x1), some (.int x2)]) ⟨rfl, rfl, rfl, trivial⟩ (rt_73_27 hX hr hrf hP x1 x2 (0 : Int32) Se10 are10 h)
/-- ClickOrdersModel.items(II)I -/
def rT_74 (X : jX) (rf : jRf) (F : Int32 → Int32 → (Nat → Int32) → jSc → Option (Int32 × (Nat → Int32) × jSc)) (e : Nat) : Prop := ∀ (sc : jSc) (al : jAl) (Post : jPo) (x1 : Int32) (x2 : Int32) (S : (Nat → Int32)) (ar : jSc) (r9 : Int32) (S9 : (Nat → Int32)) (ar9 : jSc), F x1 x2 S ar = some (r9, S9, ar9) → Post (some (.int r9)) (va_up sc 0 S9) rf ar9 al → gW X 74 e 0 (j_av [.ref 0, .int x1, .int x2]) [] (va_up sc 0 S) rf ar al Post
def rF_74_21 (x3 : Int32) (y0 : Int32) (S : (Nat → Int32)) (ar : jSc) : Option (Int32 × (Nat → Int32) × jSc) :=
  (if x3 = y0 then some ((0 : Int32), S, ar) else (if iB x3 40 then (if iB y0 40 then (if (ar (62 + iN x3) (iN y0)) = 0 then (if iB x3 40 then (if iB y0 40 then (if iB y0 40 then (if iB y0 40 then (if iB x3 40 then some ((((ar 18 (iN x3)) &&& ((ar 17 (iN y0)) ||| (ar 18 (iN y0)))) ||| ((ar 18 (iN y0)) &&& (ar 17 (iN x3)))), S, ar) else none) else none) else none) else none) else none) else some ((0 : Int32), S, ar)) else none) else none))
set_option maxHeartbeats 4000000 in
theorem rt_74_21 {X : jX} (hX : j_LK (g_n X) (g_L X)) (hr : g_rs X = r_sh) {rf : jRf} (hrf : rf 0 = r_rf) {d : Nat} {sc : jSc} {al : jAl} {Post : jPo} {r9 : Int32} {S9 : (Nat → Int32)} {ar9 : jSc} (hP : Post (some (.int r9)) (va_up sc 0 S9) rf ar9 al) (x3 : Int32) (y0 : Int32) (S : (Nat → Int32)) (ar : jSc) (h : rF_74_21 x3 y0 S ar = some (r9, S9, ar9)) : gL X 74 (d + 1) 21 [some (.ref 0), none, none, some (.int x3), none] [.int y0] (va_up sc 0 S) rf ar al Post := by
  unfold rF_74_21 at h
  refine gl_istore (vs2 := [some (.ref 0), none, none, some (.int x3), some (.int y0)]) hX q_74_21 rfl rfl rfl rfl ?_
  refine gl_iload_n hX q_74_23 rfl rfl ?_
  refine gl_iload hX q_74_24 rfl rfl ?_
  refine gl_ic_eq hX q_74_26 rfl rfl (fun c1 => ?_) (fun c1 => ?_)
  · have h := (if_pos c1).symm.trans h
    refine gl_iconst hX q_74_41 ci_0 rfl ?_
    exact gl_ireturn q_74_42 (Or.inl qr_74) (by cases h; exact hP)
  · have h := (if_neg c1).symm.trans h
    refine gl_aload_n hX q_74_29 rfl rfl ?_
    refine gl_getA hX q_74_30 (qf_68 (by decide)) (qs_0 hr) rfl qk_37 ((congrFun hrf 37).trans qa_37) rfl ?_
    refine gl_iload_n hX q_74_33 rfl rfl ?_
    obtain ⟨c2, h⟩ := o_ck h
    refine gl_aaload hX q_74_34 (qs_61 hr) c2 (Or.inr ⟨Or.inr rfl, qs_0 hr⟩) (qo_61 (iB_lt c2)) rfl ?_
    refine gl_iload hX q_74_35 rfl rfl ?_
    obtain ⟨c3, h⟩ := o_ck h
    refine gl_baload hX q_74_37 (qs_isOrdered hr (iB_lt c2)) c3 rfl rfl ?_
    refine gl_if_eq hX q_74_38 rfl rfl (fun c4 => ?_) (fun c4 => ?_)
    · have h := (if_pos c4).symm.trans h
      refine gl_aload_n hX q_74_43 rfl rfl ?_
      refine gl_getA hX q_74_44 (qf_60 (by decide)) (qs_0 hr) rfl qk_35 ((congrFun hrf 35).trans qa_35) rfl ?_
      refine gl_iload_n hX q_74_47 rfl rfl ?_
      obtain ⟨c5, h⟩ := o_ck h
      refine gl_iaload hX q_74_48 (qs_18 hr) c5 rfl rfl ?_
      refine gl_aload_n hX q_74_49 rfl rfl ?_
      refine gl_getA hX q_74_50 (qf_57 (by decide)) (qs_0 hr) rfl qk_34 ((congrFun hrf 34).trans qa_34) rfl ?_
      refine gl_iload hX q_74_53 rfl rfl ?_
      obtain ⟨c6, h⟩ := o_ck h
      refine gl_iaload hX q_74_55 (qs_17 hr) c6 rfl rfl ?_
      refine gl_aload_n hX q_74_56 rfl rfl ?_
      refine gl_getA hX q_74_57 (qf_60 (by decide)) (qs_0 hr) rfl qk_35 ((congrFun hrf 35).trans qa_35) rfl ?_
      refine gl_iload hX q_74_60 rfl rfl ?_
      obtain ⟨c7, h⟩ := o_ck h
      refine gl_iaload hX q_74_62 (qs_18 hr) c7 rfl rfl ?_
      refine gl_ior hX q_74_63 rfl ?_
      refine gl_iand hX q_74_64 rfl ?_
      refine gl_aload_n hX q_74_65 rfl rfl ?_
      refine gl_getA hX q_74_66 (qf_60 (by decide)) (qs_0 hr) rfl qk_35 ((congrFun hrf 35).trans qa_35) rfl ?_
      refine gl_iload hX q_74_69 rfl rfl ?_
      obtain ⟨c8, h⟩ := o_ck h
      refine gl_iaload hX q_74_71 (qs_18 hr) c8 rfl rfl ?_
      refine gl_aload_n hX q_74_72 rfl rfl ?_
      refine gl_getA hX q_74_73 (qf_57 (by decide)) (qs_0 hr) rfl qk_34 ((congrFun hrf 34).trans qa_34) rfl ?_
      refine gl_iload_n hX q_74_76 rfl rfl ?_
      obtain ⟨c9, h⟩ := o_ck h
      refine gl_iaload hX q_74_77 (qs_17 hr) c9 rfl rfl ?_
      refine gl_iand hX q_74_78 rfl ?_
      refine gl_ior hX q_74_79 rfl ?_
      exact gl_ireturn q_74_80 (Or.inl qr_74) (by cases h; exact hP)
    · have h := (if_neg c4).symm.trans h
      refine gl_iconst hX q_74_41 ci_0 rfl ?_
      exact gl_ireturn q_74_42 (Or.inl qr_74) (by cases h; exact hP)
def rF_74 (x1 : Int32) (x2 : Int32) (S : (Nat → Int32)) (ar : jSc) : Option (Int32 × (Nat → Int32) × jSc) :=
  (if x2 ≤ x1 then (if x2 ≤ x1 then rF_74_21 x2 x1 S ar else rF_74_21 x2 x2 S ar) else (if x2 ≤ x1 then rF_74_21 x1 x1 S ar else rF_74_21 x1 x2 S ar))
set_option maxHeartbeats 4000000 in
theorem rt_74 {X : jX} (hX : j_LK (g_n X) (g_L X)) (hr : g_rs X = r_sh) {rf : jRf} (hrf : rf 0 = r_rf) {d : Nat} : rT_74 X rf rF_74 (d + 1) := by
  intro sc al Post x1 x2 S ar r9 S9 ar9 h hP
  unfold rF_74 at h
  refine gl_entry (m := 2) rfl ?_
  show gL X 74 (d + 1) 0 [some (.ref 0), some (.int x1), some (.int x2), none, none] [] (va_up sc 0 S) rf ar al Post
  refine gl_iload_n hX q_74_0 rfl rfl ?_
  refine gl_iload_n hX q_74_1 rfl rfl ?_
  refine gl_ic_ge hX q_74_2 rfl rfl (fun c10 => ?_) (fun c10 => ?_)
  · have h := (if_pos c10).symm.trans h
    refine gl_iload_n hX q_74_9 rfl rfl ?_
    refine gl_istore_n (vs2 := [some (.ref 0), some (.int x1), some (.int x2), some (.int x2), none]) hX q_74_10 rfl rfl rfl rfl ?_
    refine gl_iload_n hX q_74_11 rfl rfl ?_
    refine gl_iload_n hX q_74_12 rfl rfl ?_
    refine gl_ic_ge hX q_74_13 rfl rfl (fun c11 => ?_) (fun c11 => ?_)
    · have h := (if_pos c11).symm.trans h
      refine gl_iload_n hX q_74_20 rfl rfl ?_
      exact gl_weak (vs := [some (.ref 0), none, none, some (.int x2), none]) ⟨rfl, rfl, trivial⟩ (rt_74_21 hX hr hrf hP x2 x1 S ar h)
    · have h := (if_neg c11).symm.trans h
      refine gl_iload_n hX q_74_16 rfl rfl ?_
      refine gl_goto hX q_74_17 rfl ?_
      exact gl_weak (vs := [some (.ref 0), none, none, some (.int x2), none]) ⟨rfl, rfl, trivial⟩ (rt_74_21 hX hr hrf hP x2 x2 S ar h)
  · have h := (if_neg c10).symm.trans h
    refine gl_iload_n hX q_74_5 rfl rfl ?_
    refine gl_goto hX q_74_6 rfl ?_
    refine gl_istore_n (vs2 := [some (.ref 0), some (.int x1), some (.int x2), some (.int x1), none]) hX q_74_10 rfl rfl rfl rfl ?_
    refine gl_iload_n hX q_74_11 rfl rfl ?_
    refine gl_iload_n hX q_74_12 rfl rfl ?_
    refine gl_ic_ge hX q_74_13 rfl rfl (fun c12 => ?_) (fun c12 => ?_)
    · have h := (if_pos c12).symm.trans h
      refine gl_iload_n hX q_74_20 rfl rfl ?_
      exact gl_weak (vs := [some (.ref 0), none, none, some (.int x1), none]) ⟨rfl, rfl, trivial⟩ (rt_74_21 hX hr hrf hP x1 x1 S ar h)
    · have h := (if_neg c12).symm.trans h
      refine gl_iload_n hX q_74_16 rfl rfl ?_
      refine gl_goto hX q_74_17 rfl ?_
      exact gl_weak (vs := [some (.ref 0), none, none, some (.int x1), none]) ⟨rfl, rfl, trivial⟩ (rt_74_21 hX hr hrf hP x1 x2 S ar h)
/-- ClickOrdersModel.kth(IZ)I -/
def rT_75 (X : jX) (rf : jRf) (F : Int32 → Int32 → (Nat → Int32) → jSc → Option (Int32 × (Nat → Int32) × jSc)) (e : Nat) : Prop := ∀ (sc : jSc) (al : jAl) (Post : jPo) (x1 : Int32) (x2 : Int32) (S : (Nat → Int32)) (ar : jSc) (r9 : Int32) (S9 : (Nat → Int32)) (ar9 : jSc), F x1 x2 S ar = some (r9, S9, ar9) → Post (some (.int r9)) (va_up sc 0 S9) rf ar9 al → gW X 75 e 0 (j_av [.ref 0, .int x1, .int x2]) [] (va_up sc 0 S) rf ar al Post
def rF_75_24 (k9 : Int32 → Int32 → Int32 → Int32 → (Nat → Int32) → jSc → Option (Int32 × (Nat → Int32) × jSc)) : Nat → Int32 → Int32 → Int32 → Int32 → Int32 → (Nat → Int32) → jSc → Option (Int32 × (Nat → Int32) × jSc)
  | 0, _, _, _, _, _, _, _ => none
  | nn + 1, x1, x2, x3, x4, x5, S, ar => (if (S 31) ≤ x5 then k9 x1 x2 x3 (x4 + (1 : Int32)) S ar else (o_b3 (rF_74 x4 x5 S ar) (fun ve2 Se2 are2 => (if ve2 = 0 then rF_75_24 k9 nn x1 x2 x3 x4 (x5 + (1 : Int32)) Se2 are2 else (if x2 = 0 then (if x3 = x1 then some ((((64 : Int32) * x4) + x5), Se2, are2) else rF_75_24 k9 nn x1 x2 (x3 + (1 : Int32)) x4 (x5 + (1 : Int32)) Se2 are2) else rF_75_24 k9 nn x1 x2 (x3 + (1 : Int32)) x4 (x5 + (1 : Int32)) Se2 are2)))))
set_option maxHeartbeats 4000000 in
theorem rt_75_24 {X : jX} (hX : j_LK (g_n X) (g_L X)) (hr : g_rs X = r_sh) {rf : jRf} (hrf : rf 0 = r_rf) {d : Nat} {sc : jSc} {al : jAl} {Post : jPo} {r9 : Int32} {S9 : (Nat → Int32)} {ar9 : jSc} {k9 : Int32 → Int32 → Int32 → Int32 → (Nat → Int32) → jSc → Option (Int32 × (Nat → Int32) × jSc)} (hk9 : ∀ (x1 : Int32) (x2 : Int32) (x3 : Int32) (x4 : Int32) (S : (Nat → Int32)) (ar : jSc), k9 x1 x2 x3 x4 S ar = some (r9, S9, ar9) → gL X 75 (d + 3) 9 [some (.ref 0), some (.int x1), some (.int x2), some (.int x3), some (.int x4), none] [] (va_up sc 0 S) rf ar al Post) (hP : Post (some (.int r9)) (va_up sc 0 S9) rf ar9 al) : ∀ (nn : Nat) (x1 : Int32) (x2 : Int32) (x3 : Int32) (x4 : Int32) (x5 : Int32) (S : (Nat → Int32)) (ar : jSc), rF_75_24 k9 nn x1 x2 x3 x4 x5 S ar = some (r9, S9, ar9) → gL X 75 (d + 3) 24 [some (.ref 0), some (.int x1), some (.int x2), some (.int x3), some (.int x4), some (.int x5)] [] (va_up sc 0 S) rf ar al Post := by
  intro nn
  induction nn with
  | zero =>
    intro x1 x2 x3 x4 x5 S ar h
    have h : (none : Option (Int32 × (Nat → Int32) × jSc)) = some _ := h
    cases h
  | succ nn ih =>
    intro x1 x2 x3 x4 x5 S ar h
    unfold rF_75_24 at h
    refine gl_iload hX q_75_24 rfl rfl ?_
    refine gl_aload_n hX q_75_26 rfl rfl ?_
    refine gl_get hX q_75_27 (qf_341 (by decide)) (qs_0 hr) rfl qk_31 rfl rfl ?_
    refine gl_ic_ge hX q_75_30 rfl rfl (fun c1 => ?_) (fun c1 => ?_)
    · have h := (if_pos c1).symm.trans h
      refine gl_iinc (vs2 := [some (.ref 0), some (.int x1), some (.int x2), some (.int x3), some (.int (x4 + (1 : Int32))), some (.int x5)]) hX q_75_74 rfl rfl rfl ci_1 rfl rfl ?_
      refine gl_goto hX q_75_77 rfl ?_
      exact gl_weak (vs := [some (.ref 0), some (.int x1), some (.int x2), some (.int x3), some (.int (x4 + (1 : Int32))), none]) ⟨rfl, rfl, rfl, rfl, rfl, trivial⟩ (hk9 x1 x2 x3 (x4 + (1 : Int32)) S ar h)
    · have h := (if_neg c1).symm.trans h
      refine gl_aload_n hX q_75_33 rfl rfl ?_
      refine gl_iload hX q_75_34 rfl rfl ?_
      refine gl_iload hX q_75_36 rfl rfl ?_
      obtain ⟨ve2, Se2, are2, e2, h⟩ := o_k3 h
      refine gl_callV hX q_75_38 (qm_374 (by decide)) rfl rfl rfl (qs_0 hr) qx_74 rfl rfl ((rt_74 hX hr hrf) _ _ _ _ _ _ _ _ _ _ e2 ?_)
      refine gl_if_ne hX q_75_41 rfl rfl (fun c3 => ?_) (fun c3 => ?_)
      · have h := (if_pos c3).symm.trans h
        refine gl_goto hX q_75_44 rfl ?_
        refine gl_iinc (vs2 := [some (.ref 0), some (.int x1), some (.int x2), some (.int x3), some (.int x4), some (.int (x5 + (1 : Int32)))]) hX q_75_68 rfl rfl rfl ci_1 rfl rfl ?_
        refine gl_goto hX q_75_71 rfl ?_
        exact gl_weak (vs := [some (.ref 0), some (.int x1), some (.int x2), some (.int x3), some (.int x4), some (.int (x5 + (1 : Int32)))]) ⟨rfl, rfl, rfl, rfl, rfl, rfl, trivial⟩ (ih x1 x2 x3 x4 (x5 + (1 : Int32)) Se2 are2 h)
      · have h := (if_neg c3).symm.trans h
        refine gl_iload_n hX q_75_47 rfl rfl ?_
        refine gl_if_ne hX q_75_48 rfl rfl (fun c4 => ?_) (fun c4 => ?_)
        · have h := (if_pos c4).symm.trans h
          refine gl_iload_n hX q_75_51 rfl rfl ?_
          refine gl_iload_n hX q_75_52 rfl rfl ?_
          refine gl_ic_ne hX q_75_53 rfl rfl (fun c5 => ?_) (fun c5 => ?_)
          · have h := (if_pos c5).symm.trans h
            refine gl_bipush hX q_75_56 cb_64 rfl ?_
            refine gl_iload hX q_75_58 rfl rfl ?_
            refine gl_imul hX q_75_60 rfl ?_
            refine gl_iload hX q_75_61 rfl rfl ?_
            refine gl_iadd hX q_75_63 rfl ?_
            exact gl_ireturn q_75_64 (Or.inl qr_75) (by cases h; exact hP)
          · have h := (if_neg c5).symm.trans h
            refine gl_iinc (vs2 := [some (.ref 0), some (.int x1), some (.int x2), some (.int (x3 + (1 : Int32))), some (.int x4), some (.int x5)]) hX q_75_65 rfl rfl rfl ci_1 rfl rfl ?_
            refine gl_iinc (vs2 := [some (.ref 0), some (.int x1), some (.int x2), some (.int (x3 + (1 : Int32))), some (.int x4), some (.int (x5 + (1 : Int32)))]) hX q_75_68 rfl rfl rfl ci_1 rfl rfl ?_
            refine gl_goto hX q_75_71 rfl ?_
            exact gl_weak (vs := [some (.ref 0), some (.int x1), some (.int x2), some (.int (x3 + (1 : Int32))), some (.int x4), some (.int (x5 + (1 : Int32)))]) ⟨rfl, rfl, rfl, rfl, rfl, rfl, trivial⟩ (ih x1 x2 (x3 + (1 : Int32)) x4 (x5 + (1 : Int32)) Se2 are2 h)
        · have h := (if_neg c4).symm.trans h
          refine gl_iinc (vs2 := [some (.ref 0), some (.int x1), some (.int x2), some (.int (x3 + (1 : Int32))), some (.int x4), some (.int x5)]) hX q_75_65 rfl rfl rfl ci_1 rfl rfl ?_
          refine gl_iinc (vs2 := [some (.ref 0), some (.int x1), some (.int x2), some (.int (x3 + (1 : Int32))), some (.int x4), some (.int (x5 + (1 : Int32)))]) hX q_75_68 rfl rfl rfl ci_1 rfl rfl ?_
          refine gl_goto hX q_75_71 rfl ?_
          exact gl_weak (vs := [some (.ref 0), some (.int x1), some (.int x2), some (.int (x3 + (1 : Int32))), some (.int x4), some (.int (x5 + (1 : Int32)))]) ⟨rfl, rfl, rfl, rfl, rfl, rfl, trivial⟩ (ih x1 x2 (x3 + (1 : Int32)) x4 (x5 + (1 : Int32)) Se2 are2 h)
def rF_75_9 : Nat → Int32 → Int32 → Int32 → Int32 → (Nat → Int32) → jSc → Option (Int32 × (Nat → Int32) × jSc)
  | 0, _, _, _, _, _, _ => none
  | nn + 1, x1, x2, x3, x4, S, ar => (if (S 31) ≤ x4 then (if x2 = 0 then some ((-1 : Int32), S, ar) else some (x3, S, ar)) else rF_75_24 (fun x1_ x2_ x3_ x4_ S_ ar_ => rF_75_9 nn x1_ x2_ x3_ x4_ S_ ar_) oF x1 x2 x3 x4 (x4 + (1 : Int32)) S ar)
set_option maxHeartbeats 4000000 in
theorem rt_75_9 {X : jX} (hX : j_LK (g_n X) (g_L X)) (hr : g_rs X = r_sh) {rf : jRf} (hrf : rf 0 = r_rf) {d : Nat} {sc : jSc} {al : jAl} {Post : jPo} {r9 : Int32} {S9 : (Nat → Int32)} {ar9 : jSc} (hP : Post (some (.int r9)) (va_up sc 0 S9) rf ar9 al) : ∀ (nn : Nat) (x1 : Int32) (x2 : Int32) (x3 : Int32) (x4 : Int32) (S : (Nat → Int32)) (ar : jSc), rF_75_9 nn x1 x2 x3 x4 S ar = some (r9, S9, ar9) → gL X 75 (d + 3) 9 [some (.ref 0), some (.int x1), some (.int x2), some (.int x3), some (.int x4), none] [] (va_up sc 0 S) rf ar al Post := by
  intro nn
  induction nn with
  | zero =>
    intro x1 x2 x3 x4 S ar h
    have h : (none : Option (Int32 × (Nat → Int32) × jSc)) = some _ := h
    cases h
  | succ nn ih =>
    intro x1 x2 x3 x4 S ar h
    unfold rF_75_9 at h
    refine gl_iload hX q_75_9 rfl rfl ?_
    refine gl_aload_n hX q_75_11 rfl rfl ?_
    refine gl_get hX q_75_12 (qf_341 (by decide)) (qs_0 hr) rfl qk_31 rfl rfl ?_
    refine gl_ic_ge hX q_75_15 rfl rfl (fun c6 => ?_) (fun c6 => ?_)
    · have h := (if_pos c6).symm.trans h
      refine gl_iload_n hX q_75_80 rfl rfl ?_
      refine gl_if_eq hX q_75_81 rfl rfl (fun c7 => ?_) (fun c7 => ?_)
      · have h := (if_pos c7).symm.trans h
        refine gl_iconst hX q_75_88 ci_m1 rfl ?_
        exact gl_ireturn q_75_89 (Or.inl qr_75) (by cases h; exact hP)
      · have h := (if_neg c7).symm.trans h
        refine gl_iload_n hX q_75_84 rfl rfl ?_
        refine gl_goto hX q_75_85 rfl ?_
        exact gl_ireturn q_75_89 (Or.inl qr_75) (by cases h; exact hP)
    · have h := (if_neg c6).symm.trans h
      refine gl_iload hX q_75_18 rfl rfl ?_
      refine gl_iconst hX q_75_20 ci_1 rfl ?_
      refine gl_iadd hX q_75_21 rfl ?_
      refine gl_istore (vs2 := [some (.ref 0), some (.int x1), some (.int x2), some (.int x3), some (.int x4), some (.int (x4 + (1 : Int32)))]) hX q_75_22 rfl rfl rfl rfl ?_
      exact gl_weak (vs := [some (.ref 0), some (.int x1), some (.int x2), some (.int x3), some (.int x4), some (.int (x4 + (1 : Int32)))]) ⟨rfl, rfl, rfl, rfl, rfl, rfl, trivial⟩ (rt_75_24 hX hr hrf ih hP oF x1 x2 x3 x4 (x4 + (1 : Int32)) S ar h)
def rF_75 (x1 : Int32) (x2 : Int32) (S : (Nat → Int32)) (ar : jSc) : Option (Int32 × (Nat → Int32) × jSc) :=
  (o_b2 (rF_72 S ar) (fun Se8 are8 => rF_75_9 oF x1 x2 (0 : Int32) (0 : Int32) Se8 are8))
set_option maxHeartbeats 4000000 in
theorem rt_75 {X : jX} (hX : j_LK (g_n X) (g_L X)) (hr : g_rs X = r_sh) {rf : jRf} (hrf : rf 0 = r_rf) {d : Nat} : rT_75 X rf rF_75 (d + 3) := by
  intro sc al Post x1 x2 S ar r9 S9 ar9 h hP
  unfold rF_75 at h
  refine gl_entry (m := 3) rfl ?_
  show gL X 75 (d + 3) 0 [some (.ref 0), some (.int x1), some (.int x2), none, none, none] [] (va_up sc 0 S) rf ar al Post
  refine gl_aload_n hX q_75_0 rfl rfl ?_
  obtain ⟨Se8, are8, e8, h⟩ := o_k2 h
  refine gl_callV hX q_75_1 (qm_371 (by decide)) rfl rfl rfl (qs_0 hr) qx_72 rfl rfl ((rt_72 hX hr hrf) _ _ _  _ _ _ _ e8 ?_)
  refine gl_iconst hX q_75_4 ci_0 rfl ?_
  refine gl_istore_n (vs2 := [some (.ref 0), some (.int x1), some (.int x2), some (.int (0 : Int32)), none, none]) hX q_75_5 rfl rfl rfl rfl ?_
  refine gl_iconst hX q_75_6 ci_0 rfl ?_
  refine gl_istore (vs2 := [some (.ref 0), some (.int x1), some (.int x2), some (.int (0 : Int32)), some (.int (0 : Int32)), none]) hX q_75_7 rfl rfl rfl rfl ?_
  exact gl_weak (vs := [some (.ref 0), some (.int x1), some (.int x2), some (.int (0 : Int32)), some (.int (0 : Int32)), none]) ⟨rfl, rfl, rfl, rfl, rfl, trivial⟩ (rt_75_9 hX hr hrf hP oF x1 x2 (0 : Int32) (0 : Int32) Se8 are8 h)
/-- ClickOrdersModel.crossings()I -/
def rT_76 (X : jX) (rf : jRf) (F : (Nat → Int32) → jSc → Option (Int32 × (Nat → Int32) × jSc)) (e : Nat) : Prop := ∀ (sc : jSc) (al : jAl) (Post : jPo) (S : (Nat → Int32)) (ar : jSc) (r9 : Int32) (S9 : (Nat → Int32)) (ar9 : jSc), F S ar = some (r9, S9, ar9) → Post (some (.int r9)) (va_up sc 0 S9) rf ar9 al → gW X 76 e 0 (j_av [.ref 0]) [] (va_up sc 0 S) rf ar al Post
def rF_76 (S : (Nat → Int32)) (ar : jSc) : Option (Int32 × (Nat → Int32) × jSc) :=
  (o_b3 (rF_75 (0 : Int32) (1 : Int32) (upd S 0 (0 : Int32)) ar) (fun ve1 Se1 are1 => some (ve1, Se1, are1)))
set_option maxHeartbeats 4000000 in
theorem rt_76 {X : jX} (hX : j_LK (g_n X) (g_L X)) (hr : g_rs X = r_sh) {rf : jRf} (hrf : rf 0 = r_rf) {d : Nat} : rT_76 X rf rF_76 (d + 4) := by
  intro sc al Post  S ar r9 S9 ar9 h hP
  unfold rF_76 at h
  refine gl_entry (m := 0) rfl ?_
  show gL X 76 (d + 4) 0 [some (.ref 0)] [] (va_up sc 0 S) rf ar al Post
  refine gl_aload_n hX q_76_0 rfl rfl ?_
  refine gl_iconst hX q_76_1 ci_0 rfl ?_
  refine gl_put hX q_76_2 (qf_126 (by decide)) (qs_0 hr) rfl qk_0 rfl ru rfl ?_
  refine gl_aload_n hX q_76_5 rfl rfl ?_
  refine gl_iconst hX q_76_6 ci_0 rfl ?_
  refine gl_iconst hX q_76_7 ci_1 rfl ?_
  obtain ⟨ve1, Se1, are1, e1, h⟩ := o_k3 h
  refine gl_callV hX q_76_8 (qm_377 (by decide)) rfl rfl rfl (qs_0 hr) qx_75 rfl rfl ((rt_75 hX hr hrf) _ _ _ _ _ _ _ _ _ _ e1 ?_)
  exact gl_ireturn q_76_11 (Or.inl qr_76) (by cases h; exact hP)
/-- ClickOrdersModel.crossing(I)I -/
def rT_77 (X : jX) (rf : jRf) (F : Int32 → (Nat → Int32) → jSc → Option (Int32 × (Nat → Int32) × jSc)) (e : Nat) : Prop := ∀ (sc : jSc) (al : jAl) (Post : jPo) (x1 : Int32) (S : (Nat → Int32)) (ar : jSc) (r9 : Int32) (S9 : (Nat → Int32)) (ar9 : jSc), F x1 S ar = some (r9, S9, ar9) → Post (some (.int r9)) (va_up sc 0 S9) rf ar9 al → gW X 77 e 0 (j_av [.ref 0, .int x1]) [] (va_up sc 0 S) rf ar al Post
def rF_77 (x1 : Int32) (S : (Nat → Int32)) (ar : jSc) : Option (Int32 × (Nat → Int32) × jSc) :=
  (o_b3 (rF_75 x1 (0 : Int32) (upd S 0 (0 : Int32)) ar) (fun ve1 Se1 are1 => some (ve1, Se1, are1)))
set_option maxHeartbeats 4000000 in
theorem rt_77 {X : jX} (hX : j_LK (g_n X) (g_L X)) (hr : g_rs X = r_sh) {rf : jRf} (hrf : rf 0 = r_rf) {d : Nat} : rT_77 X rf rF_77 (d + 4) := by
  intro sc al Post x1 S ar r9 S9 ar9 h hP
  unfold rF_77 at h
  refine gl_entry (m := 0) rfl ?_
  show gL X 77 (d + 4) 0 [some (.ref 0), some (.int x1)] [] (va_up sc 0 S) rf ar al Post
  refine gl_aload_n hX q_77_0 rfl rfl ?_
  refine gl_iconst hX q_77_1 ci_0 rfl ?_
  refine gl_put hX q_77_2 (qf_126 (by decide)) (qs_0 hr) rfl qk_0 rfl ru rfl ?_
  refine gl_aload_n hX q_77_5 rfl rfl ?_
  refine gl_iload_n hX q_77_6 rfl rfl ?_
  refine gl_iconst hX q_77_7 ci_0 rfl ?_
  obtain ⟨ve1, Se1, are1, e1, h⟩ := o_k3 h
  refine gl_callV hX q_77_8 (qm_377 (by decide)) rfl rfl rfl (qs_0 hr) qx_75 rfl rfl ((rt_75 hX hr hrf) _ _ _ _ _ _ _ _ _ _ e1 ?_)
  exact gl_ireturn q_77_11 (Or.inl qr_77) (by cases h; exact hP)
/-- ClickOrdersModel.why(II)I -/
def rT_78 (X : jX) (rf : jRf) (F : Int32 → Int32 → (Nat → Int32) → jSc → Option (Int32 × (Nat → Int32) × jSc)) (e : Nat) : Prop := ∀ (sc : jSc) (al : jAl) (Post : jPo) (x1 : Int32) (x2 : Int32) (S : (Nat → Int32)) (ar : jSc) (r9 : Int32) (S9 : (Nat → Int32)) (ar9 : jSc), F x1 x2 S ar = some (r9, S9, ar9) → Post (some (.int r9)) (va_up sc 0 S9) rf ar9 al → gW X 78 e 0 (j_av [.ref 0, .int x1, .int x2]) [] (va_up sc 0 S) rf ar al Post
def rF_78_50 : Nat → Int32 → Int32 → (Nat → Int32) → jSc → Option (Int32 × (Nat → Int32) × jSc)
  | 0, _, _, _, _ => none
  | nn + 1, x3, x4, S, ar => (if (24 : Int32) ≤ x4 then some ((-1 : Int32), S, ar) else (if ((x3 >>> (x4 &&& 31)) &&& (1 : Int32)) = (1 : Int32) then some (x4, S, ar) else rF_78_50 nn x3 (x4 + (1 : Int32)) S ar))
set_option maxHeartbeats 4000000 in
theorem rt_78_50 {X : jX} (hX : j_LK (g_n X) (g_L X)) (hr : g_rs X = r_sh) {rf : jRf} (hrf : rf 0 = r_rf) {d : Nat} {sc : jSc} {al : jAl} {Post : jPo} {r9 : Int32} {S9 : (Nat → Int32)} {ar9 : jSc} (hP : Post (some (.int r9)) (va_up sc 0 S9) rf ar9 al) : ∀ (nn : Nat) (x3 : Int32) (x4 : Int32) (S : (Nat → Int32)) (ar : jSc), rF_78_50 nn x3 x4 S ar = some (r9, S9, ar9) → gL X 78 (d + 3) 50 [none, none, none, some (.int x3), some (.int x4)] [] (va_up sc 0 S) rf ar al Post := by
  intro nn
  induction nn with
  | zero =>
    intro x3 x4 S ar h
    have h : (none : Option (Int32 × (Nat → Int32) × jSc)) = some _ := h
    cases h
  | succ nn ih =>
    intro x3 x4 S ar h
    unfold rF_78_50 at h
    refine gl_iload hX q_78_50 rfl rfl ?_
    refine gl_bipush hX q_78_52 cb_24 rfl ?_
    refine gl_ic_ge hX q_78_54 rfl rfl (fun c1 => ?_) (fun c1 => ?_)
    · have h := (if_pos c1).symm.trans h
      refine gl_iconst hX q_78_76 ci_m1 rfl ?_
      exact gl_ireturn q_78_77 (Or.inl qr_78) (by cases h; exact hP)
    · have h := (if_neg c1).symm.trans h
      refine gl_iload_n hX q_78_57 rfl rfl ?_
      refine gl_iload hX q_78_58 rfl rfl ?_
      refine gl_ishr hX q_78_60 rfl ?_
      refine gl_iconst hX q_78_61 ci_1 rfl ?_
      refine gl_iand hX q_78_62 rfl ?_
      refine gl_iconst hX q_78_63 ci_1 rfl ?_
      refine gl_ic_ne hX q_78_64 rfl rfl (fun c2 => ?_) (fun c2 => ?_)
      · have h := (if_pos c2).symm.trans h
        refine gl_iload hX q_78_67 rfl rfl ?_
        exact gl_ireturn q_78_69 (Or.inl qr_78) (by cases h; exact hP)
      · have h := (if_neg c2).symm.trans h
        refine gl_iinc (vs2 := [none, none, none, some (.int x3), some (.int (x4 + (1 : Int32)))]) hX q_78_70 rfl rfl rfl ci_1 rfl rfl ?_
        refine gl_goto hX q_78_73 rfl ?_
        exact gl_weak (vs := [none, none, none, some (.int x3), some (.int (x4 + (1 : Int32)))]) ⟨rfl, rfl, trivial⟩ (ih x3 (x4 + (1 : Int32)) S ar h)
def rF_78_27 (x1 : Int32) (x2 : Int32) (y0 : Int32) (S : (Nat → Int32)) (ar : jSc) : Option (Int32 × (Nat → Int32) × jSc) :=
  (o_b3 (rF_3 y0 (1 : Int32) S ar) (fun ve3 Se3 are3 => (if ve3 = 0 then (o_b2 (rF_72 Se3 are3) (fun Se5 are5 => (o_b3 (rF_74 x1 x2 Se5 are5) (fun ve6 Se6 are6 => rF_78_50 oF ve6 (0 : Int32) Se6 are6)))) else some ((0 : Int32), Se3, are3))))
set_option maxHeartbeats 4000000 in
theorem rt_78_27 {X : jX} (hX : j_LK (g_n X) (g_L X)) (hr : g_rs X = r_sh) {rf : jRf} (hrf : rf 0 = r_rf) {d : Nat} {sc : jSc} {al : jAl} {Post : jPo} {r9 : Int32} {S9 : (Nat → Int32)} {ar9 : jSc} (hP : Post (some (.int r9)) (va_up sc 0 S9) rf ar9 al) (x1 : Int32) (x2 : Int32) (y0 : Int32) (S : (Nat → Int32)) (ar : jSc) (h : rF_78_27 x1 x2 y0 S ar = some (r9, S9, ar9)) : gL X 78 (d + 3) 27 [some (.ref 0), some (.int x1), some (.int x2), none, none] [.int y0, .ref 0] (va_up sc 0 S) rf ar al Post := by
  unfold rF_78_27 at h
  refine gl_iconst hX q_78_27 ci_1 rfl ?_
  obtain ⟨ve3, Se3, are3, e3, h⟩ := o_k3 h
  refine gl_callV hX q_78_28 (qm_306 (by decide)) rfl rfl rfl (qs_0 hr) qx_3 rfl rfl ((rt_3 hX hr hrf) _ _ _ _ _ _ _ _ _ _ e3 ?_)
  refine gl_if_eq hX q_78_31 rfl rfl (fun c4 => ?_) (fun c4 => ?_)
  · have h := (if_pos c4).symm.trans h
    refine gl_aload_n hX q_78_36 rfl rfl ?_
    obtain ⟨Se5, are5, e5, h⟩ := o_k2 h
    refine gl_callV hX q_78_37 (qm_371 (by decide)) rfl rfl rfl (qs_0 hr) qx_72 rfl rfl ((rt_72 hX hr hrf) _ _ _  _ _ _ _ e5 ?_)
    refine gl_aload_n hX q_78_40 rfl rfl ?_
    refine gl_iload_n hX q_78_41 rfl rfl ?_
    refine gl_iload_n hX q_78_42 rfl rfl ?_
    obtain ⟨ve6, Se6, are6, e6, h⟩ := o_k3 h
    refine gl_callV hX q_78_43 (qm_374 (by decide)) rfl rfl rfl (qs_0 hr) qx_74 rfl rfl ((rt_74 hX hr hrf) _ _ _ _ _ _ _ _ _ _ e6 ?_)
    refine gl_istore_n (vs2 := [some (.ref 0), some (.int x1), some (.int x2), some (.int ve6), none]) hX q_78_46 rfl rfl rfl rfl ?_
    refine gl_iconst hX q_78_47 ci_0 rfl ?_
    refine gl_istore (vs2 := [some (.ref 0), some (.int x1), some (.int x2), some (.int ve6), some (.int (0 : Int32))]) hX q_78_48 rfl rfl rfl rfl ?_
    exact gl_weak (vs := [none, none, none, some (.int ve6), some (.int (0 : Int32))]) ⟨rfl, rfl, trivial⟩ (rt_78_50 hX hr hrf hP oF ve6 (0 : Int32) Se6 are6 h)
  · have h := (if_neg c4).symm.trans h
    refine gl_iconst hX q_78_34 ci_0 rfl ?_
    exact gl_ireturn q_78_35 (Or.inl qr_78) (by cases h; exact hP)
def rF_78 (x1 : Int32) (x2 : Int32) (S : (Nat → Int32)) (ar : jSc) : Option (Int32 × (Nat → Int32) × jSc) :=
  (o_b3 (rF_69 x1 (upd S 0 (0 : Int32)) ar) (fun ve7 Se7 are7 => (if ve7 = 0 then rF_78_27 x1 x2 (1 : Int32) Se7 are7 else (o_b3 (rF_69 x2 Se7 are7) (fun ve9 Se9 are9 => (if ve9 = 0 then rF_78_27 x1 x2 (1 : Int32) Se9 are9 else rF_78_27 x1 x2 (0 : Int32) Se9 are9))))))
set_option maxHeartbeats 4000000 in
theorem rt_78 {X : jX} (hX : j_LK (g_n X) (g_L X)) (hr : g_rs X = r_sh) {rf : jRf} (hrf : rf 0 = r_rf) {d : Nat} : rT_78 X rf rF_78 (d + 3) := by
  intro sc al Post x1 x2 S ar r9 S9 ar9 h hP
  unfold rF_78 at h
  refine gl_entry (m := 2) rfl ?_
  show gL X 78 (d + 3) 0 [some (.ref 0), some (.int x1), some (.int x2), none, none] [] (va_up sc 0 S) rf ar al Post
  refine gl_aload_n hX q_78_0 rfl rfl ?_
  refine gl_iconst hX q_78_1 ci_0 rfl ?_
  refine gl_put hX q_78_2 (qf_126 (by decide)) (qs_0 hr) rfl qk_0 rfl ru rfl ?_
  refine gl_aload_n hX q_78_5 rfl rfl ?_
  refine gl_aload_n hX q_78_6 rfl rfl ?_
  refine gl_iload_n hX q_78_7 rfl rfl ?_
  obtain ⟨ve7, Se7, are7, e7, h⟩ := o_k3 h
  refine gl_callV hX q_78_8 (qm_365 (by decide)) rfl rfl rfl (qs_0 hr) qx_69 rfl rfl ((rt_69 hX hr hrf) _ _ _ _ _ _ _ _ _ e7 ?_)
  refine gl_if_eq hX q_78_11 rfl rfl (fun c8 => ?_) (fun c8 => ?_)
  · have h := (if_pos c8).symm.trans h
    refine gl_iconst hX q_78_22 ci_1 rfl ?_
    refine gl_goto hX q_78_23 rfl ?_
    exact gl_weak (vs := [some (.ref 0), some (.int x1), some (.int x2), none, none]) ⟨rfl, rfl, rfl, trivial⟩ (rt_78_27 hX hr hrf hP x1 x2 (1 : Int32) Se7 are7 h)
  · have h := (if_neg c8).symm.trans h
    refine gl_aload_n hX q_78_14 rfl rfl ?_
    refine gl_iload_n hX q_78_15 rfl rfl ?_
    obtain ⟨ve9, Se9, are9, e9, h⟩ := o_k3 h
    refine gl_callV hX q_78_16 (qm_365 (by decide)) rfl rfl rfl (qs_0 hr) qx_69 rfl rfl ((rt_69 hX hr hrf) _ _ _ _ _ _ _ _ _ e9 ?_)
    refine gl_if_ne hX q_78_19 rfl rfl (fun c10 => ?_) (fun c10 => ?_)
    · have h := (if_pos c10).symm.trans h
      refine gl_iconst hX q_78_22 ci_1 rfl ?_
      refine gl_goto hX q_78_23 rfl ?_
      exact gl_weak (vs := [some (.ref 0), some (.int x1), some (.int x2), none, none]) ⟨rfl, rfl, rfl, trivial⟩ (rt_78_27 hX hr hrf hP x1 x2 (1 : Int32) Se9 are9 h)
    · have h := (if_neg c10).symm.trans h
      refine gl_iconst hX q_78_26 ci_0 rfl ?_
      exact gl_weak (vs := [some (.ref 0), some (.int x1), some (.int x2), none, none]) ⟨rfl, rfl, rfl, trivial⟩ (rt_78_27 hX hr hrf hP x1 x2 (0 : Int32) Se9 are9 h)
/-- ClickOrdersModel.again(I)Z -/
def rT_79 (X : jX) (rf : jRf) (F : Int32 → (Nat → Int32) → jSc → Option (Int32 × (Nat → Int32) × jSc)) (e : Nat) : Prop := ∀ (sc : jSc) (al : jAl) (Post : jPo) (x1 : Int32) (S : (Nat → Int32)) (ar : jSc) (r9 : Int32) (S9 : (Nat → Int32)) (ar9 : jSc), F x1 S ar = some (r9, S9, ar9) → Post (some (.int r9)) (va_up sc 0 S9) rf ar9 al → gW X 79 e 0 (j_av [.ref 0, .int x1]) [] (va_up sc 0 S) rf ar al Post
def rF_79 (x1 : Int32) (S : (Nat → Int32)) (ar : jSc) : Option (Int32 × (Nat → Int32) × jSc) :=
  (o_b3 (rF_50 x1 S ar) (fun ve1 Se1 are1 => (if ve1 = 0 then some ((0 : Int32), Se1, are1) else (o_b3 (rF_52 x1 (-1 : Int32) Se1 are1) (fun ve3 Se3 are3 => some ((1 : Int32), Se3, are3))))))
set_option maxHeartbeats 4000000 in
theorem rt_79 {X : jX} (hX : j_LK (g_n X) (g_L X)) (hr : g_rs X = r_sh) {rf : jRf} (hrf : rf 0 = r_rf) {d : Nat} : rT_79 X rf rF_79 (d + 127) := by
  intro sc al Post x1 S ar r9 S9 ar9 h hP
  unfold rF_79 at h
  refine gl_entry (m := 0) rfl ?_
  show gL X 79 (d + 127) 0 [some (.ref 0), some (.int x1)] [] (va_up sc 0 S) rf ar al Post
  refine gl_aload_n hX q_79_0 rfl rfl ?_
  refine gl_iload_n hX q_79_1 rfl rfl ?_
  obtain ⟨ve1, Se1, are1, e1, h⟩ := o_k3 h
  refine gl_callV hX q_79_2 (qm_354 (by decide)) rfl rfl rfl (qs_0 hr) qx_50 rfl rfl ((rt_50 hX hr hrf) _ _ _ _ _ _ _ _ _ e1 ?_)
  refine gl_if_ne hX q_79_5 rfl rfl (fun c2 => ?_) (fun c2 => ?_)
  · have h := (if_pos c2).symm.trans h
    refine gl_iconst hX q_79_8 ci_0 rfl ?_
    exact gl_ireturn q_79_9 (Or.inr ⟨qr_79, Or.inl rfl⟩) (by cases h; exact hP)
  · have h := (if_neg c2).symm.trans h
    refine gl_aload_n hX q_79_10 rfl rfl ?_
    refine gl_iload_n hX q_79_11 rfl rfl ?_
    refine gl_iconst hX q_79_12 ci_m1 rfl ?_
    obtain ⟨ve3, Se3, are3, e3, h⟩ := o_k3 h
    refine gl_callV hX q_79_13 (qm_357 (by decide)) rfl rfl rfl (qs_0 hr) qx_52 rfl rfl ((rt_52 hX hr hrf) _ _ _ _ _ _ _ _ _ _ e3 ?_)
    refine gl_pop hX q_79_16 rfl rfl ?_
    refine gl_iconst hX q_79_17 ci_1 rfl ?_
    exact gl_ireturn q_79_18 (Or.inr ⟨qr_79, Or.inr rfl⟩) (by cases h; exact hP)
/-- ClickOrdersModel.isState()Z -/
def rT_80 (X : jX) (rf : jRf) (F : (Nat → Int32) → jSc → Option (Int32 × (Nat → Int32) × jSc)) (e : Nat) : Prop := ∀ (sc : jSc) (al : jAl) (Post : jPo) (S : (Nat → Int32)) (ar : jSc) (r9 : Int32) (S9 : (Nat → Int32)) (ar9 : jSc), F S ar = some (r9, S9, ar9) → Post (some (.int r9)) (va_up sc 0 S9) rf ar9 al → gW X 80 e 0 (j_av [.ref 0]) [] (va_up sc 0 S) rf ar al Post
def rF_80_14 (k2 : Int32 → (Nat → Int32) → jSc → Option (Int32 × (Nat → Int32) × jSc)) : Nat → Int32 → Int32 → Int32 → (Nat → Int32) → jSc → Option (Int32 × (Nat → Int32) × jSc)
  | 0, _, _, _, _, _ => none
  | nn + 1, x1, x2, x3, S, ar => (if (10 : Int32) ≤ x3 then (if x2 = 0 then k2 (x1 + (1 : Int32)) S ar else some ((1 : Int32), S, ar)) else (if x2 = 0 then rF_80_14 k2 nn x1 (0 : Int32) (x3 + (1 : Int32)) S ar else (if iB x1 41 then (if iB x3 10 then (if iB x3 53 then (if (ar (20 + iN x1) (iN x3)) = (ar 13 (iN x3)) then rF_80_14 k2 nn x1 (1 : Int32) (x3 + (1 : Int32)) S ar else rF_80_14 k2 nn x1 (0 : Int32) (x3 + (1 : Int32)) S ar) else none) else none) else none)))
set_option maxHeartbeats 4000000 in
theorem rt_80_14 {X : jX} (hX : j_LK (g_n X) (g_L X)) (hr : g_rs X = r_sh) {rf : jRf} (hrf : rf 0 = r_rf) {d : Nat} {sc : jSc} {al : jAl} {Post : jPo} {r9 : Int32} {S9 : (Nat → Int32)} {ar9 : jSc} {k2 : Int32 → (Nat → Int32) → jSc → Option (Int32 × (Nat → Int32) × jSc)} (hk2 : ∀ (x1 : Int32) (S : (Nat → Int32)) (ar : jSc), k2 x1 S ar = some (r9, S9, ar9) → gL X 80 (d + 1) 2 [some (.ref 0), some (.int x1), none, none] [] (va_up sc 0 S) rf ar al Post) (hP : Post (some (.int r9)) (va_up sc 0 S9) rf ar9 al) : ∀ (nn : Nat) (x1 : Int32) (x2 : Int32) (x3 : Int32) (S : (Nat → Int32)) (ar : jSc), rF_80_14 k2 nn x1 x2 x3 S ar = some (r9, S9, ar9) → gL X 80 (d + 1) 14 [some (.ref 0), some (.int x1), some (.int x2), some (.int x3)] [] (va_up sc 0 S) rf ar al Post := by
  intro nn
  induction nn with
  | zero =>
    intro x1 x2 x3 S ar h
    have h : (none : Option (Int32 × (Nat → Int32) × jSc)) = some _ := h
    cases h
  | succ nn ih =>
    intro x1 x2 x3 S ar h
    unfold rF_80_14 at h
    refine gl_iload_n hX q_80_14 rfl rfl ?_
    refine gl_bipush hX q_80_15 cb_10 rfl ?_
    refine gl_ic_ge hX q_80_17 rfl rfl (fun c1 => ?_) (fun c1 => ?_)
    · have h := (if_pos c1).symm.trans h
      refine gl_iload_n hX q_80_53 rfl rfl ?_
      refine gl_if_eq hX q_80_54 rfl rfl (fun c2 => ?_) (fun c2 => ?_)
      · have h := (if_pos c2).symm.trans h
        refine gl_iinc (vs2 := [some (.ref 0), some (.int (x1 + (1 : Int32))), some (.int x2), some (.int x3)]) hX q_80_59 rfl rfl rfl ci_1 rfl rfl ?_
        refine gl_goto hX q_80_62 rfl ?_
        exact gl_weak (vs := [some (.ref 0), some (.int (x1 + (1 : Int32))), none, none]) ⟨rfl, rfl, trivial⟩ (hk2 (x1 + (1 : Int32)) S ar h)
      · have h := (if_neg c2).symm.trans h
        refine gl_iconst hX q_80_57 ci_1 rfl ?_
        exact gl_ireturn q_80_58 (Or.inr ⟨qr_80, Or.inr rfl⟩) (by cases h; exact hP)
    · have h := (if_neg c1).symm.trans h
      refine gl_iload_n hX q_80_20 rfl rfl ?_
      refine gl_if_eq hX q_80_21 rfl rfl (fun c3 => ?_) (fun c3 => ?_)
      · have h := (if_pos c3).symm.trans h
        refine gl_iconst hX q_80_45 ci_0 rfl ?_
        refine gl_istore_n (vs2 := [some (.ref 0), some (.int x1), some (.int (0 : Int32)), some (.int x3)]) hX q_80_46 rfl rfl rfl rfl ?_
        refine gl_iinc (vs2 := [some (.ref 0), some (.int x1), some (.int (0 : Int32)), some (.int (x3 + (1 : Int32)))]) hX q_80_47 rfl rfl rfl ci_1 rfl rfl ?_
        refine gl_goto hX q_80_50 rfl ?_
        exact gl_weak (vs := [some (.ref 0), some (.int x1), some (.int (0 : Int32)), some (.int (x3 + (1 : Int32)))]) ⟨rfl, rfl, rfl, rfl, trivial⟩ (ih x1 (0 : Int32) (x3 + (1 : Int32)) S ar h)
      · have h := (if_neg c3).symm.trans h
        refine gl_aload_n hX q_80_24 rfl rfl ?_
        refine gl_getA hX q_80_25 (qf_63 (by decide)) (qs_0 hr) rfl qk_36 ((congrFun hrf 36).trans qa_36) rfl ?_
        refine gl_iload_n hX q_80_28 rfl rfl ?_
        obtain ⟨c4, h⟩ := o_ck h
        refine gl_aaload hX q_80_29 (qs_19 hr) c4 (Or.inr ⟨Or.inl rfl, qs_0 hr⟩) (qo_19 (iB_lt c4)) rfl ?_
        refine gl_iload_n hX q_80_30 rfl rfl ?_
        obtain ⟨c5, h⟩ := o_ck h
        refine gl_iaload hX q_80_31 (qs_states hr (iB_lt c4)) c5 rfl rfl ?_
        refine gl_aload_n hX q_80_32 rfl rfl ?_
        refine gl_getA hX q_80_33 (qf_42 (by decide)) (qs_0 hr) rfl qk_21 ((congrFun hrf 21).trans qa_21) rfl ?_
        refine gl_iload_n hX q_80_36 rfl rfl ?_
        obtain ⟨c6, h⟩ := o_ck h
        refine gl_iaload hX q_80_37 (qs_13 hr) c6 rfl rfl ?_
        refine gl_ic_ne hX q_80_38 rfl rfl (fun c7 => ?_) (fun c7 => ?_)
        · have h := (if_pos c7).symm.trans h
          refine gl_iconst hX q_80_41 ci_1 rfl ?_
          refine gl_goto hX q_80_42 rfl ?_
          refine gl_istore_n (vs2 := [some (.ref 0), some (.int x1), some (.int (1 : Int32)), some (.int x3)]) hX q_80_46 rfl rfl rfl rfl ?_
          refine gl_iinc (vs2 := [some (.ref 0), some (.int x1), some (.int (1 : Int32)), some (.int (x3 + (1 : Int32)))]) hX q_80_47 rfl rfl rfl ci_1 rfl rfl ?_
          refine gl_goto hX q_80_50 rfl ?_
          exact gl_weak (vs := [some (.ref 0), some (.int x1), some (.int (1 : Int32)), some (.int (x3 + (1 : Int32)))]) ⟨rfl, rfl, rfl, rfl, trivial⟩ (ih x1 (1 : Int32) (x3 + (1 : Int32)) S ar h)
        · have h := (if_neg c7).symm.trans h
          refine gl_iconst hX q_80_45 ci_0 rfl ?_
          refine gl_istore_n (vs2 := [some (.ref 0), some (.int x1), some (.int (0 : Int32)), some (.int x3)]) hX q_80_46 rfl rfl rfl rfl ?_
          refine gl_iinc (vs2 := [some (.ref 0), some (.int x1), some (.int (0 : Int32)), some (.int (x3 + (1 : Int32)))]) hX q_80_47 rfl rfl rfl ci_1 rfl rfl ?_
          refine gl_goto hX q_80_50 rfl ?_
          exact gl_weak (vs := [some (.ref 0), some (.int x1), some (.int (0 : Int32)), some (.int (x3 + (1 : Int32)))]) ⟨rfl, rfl, rfl, rfl, trivial⟩ (ih x1 (0 : Int32) (x3 + (1 : Int32)) S ar h)
def rF_80_2 : Nat → Int32 → (Nat → Int32) → jSc → Option (Int32 × (Nat → Int32) × jSc)
  | 0, _, _, _ => none
  | nn + 1, x1, S, ar => (if (S 31) < x1 then some ((0 : Int32), S, ar) else rF_80_14 (fun x1_ S_ ar_ => rF_80_2 nn x1_ S_ ar_) oF x1 (1 : Int32) (0 : Int32) S ar)
set_option maxHeartbeats 4000000 in
theorem rt_80_2 {X : jX} (hX : j_LK (g_n X) (g_L X)) (hr : g_rs X = r_sh) {rf : jRf} (hrf : rf 0 = r_rf) {d : Nat} {sc : jSc} {al : jAl} {Post : jPo} {r9 : Int32} {S9 : (Nat → Int32)} {ar9 : jSc} (hP : Post (some (.int r9)) (va_up sc 0 S9) rf ar9 al) : ∀ (nn : Nat) (x1 : Int32) (S : (Nat → Int32)) (ar : jSc), rF_80_2 nn x1 S ar = some (r9, S9, ar9) → gL X 80 (d + 1) 2 [some (.ref 0), some (.int x1), none, none] [] (va_up sc 0 S) rf ar al Post := by
  intro nn
  induction nn with
  | zero =>
    intro x1 S ar h
    have h : (none : Option (Int32 × (Nat → Int32) × jSc)) = some _ := h
    cases h
  | succ nn ih =>
    intro x1 S ar h
    unfold rF_80_2 at h
    refine gl_iload_n hX q_80_2 rfl rfl ?_
    refine gl_aload_n hX q_80_3 rfl rfl ?_
    refine gl_get hX q_80_4 (qf_341 (by decide)) (qs_0 hr) rfl qk_31 rfl rfl ?_
    refine gl_ic_gt hX q_80_7 rfl rfl (fun c8 => ?_) (fun c8 => ?_)
    · have h := (if_pos c8).symm.trans h
      refine gl_iconst hX q_80_65 ci_0 rfl ?_
      exact gl_ireturn q_80_66 (Or.inr ⟨qr_80, Or.inl rfl⟩) (by cases h; exact hP)
    · have h := (if_neg c8).symm.trans h
      refine gl_iconst hX q_80_10 ci_1 rfl ?_
      refine gl_istore_n (vs2 := [some (.ref 0), some (.int x1), some (.int (1 : Int32)), none]) hX q_80_11 rfl rfl rfl rfl ?_
      refine gl_iconst hX q_80_12 ci_0 rfl ?_
      refine gl_istore_n (vs2 := [some (.ref 0), some (.int x1), some (.int (1 : Int32)), some (.int (0 : Int32))]) hX q_80_13 rfl rfl rfl rfl ?_
      exact gl_weak (vs := [some (.ref 0), some (.int x1), some (.int (1 : Int32)), some (.int (0 : Int32))]) ⟨rfl, rfl, rfl, rfl, trivial⟩ (rt_80_14 hX hr hrf ih hP oF x1 (1 : Int32) (0 : Int32) S ar h)
def rF_80 (S : (Nat → Int32)) (ar : jSc) : Option (Int32 × (Nat → Int32) × jSc) :=
  rF_80_2 oF (0 : Int32) S ar
set_option maxHeartbeats 4000000 in
theorem rt_80 {X : jX} (hX : j_LK (g_n X) (g_L X)) (hr : g_rs X = r_sh) {rf : jRf} (hrf : rf 0 = r_rf) {d : Nat} : rT_80 X rf rF_80 (d + 1) := by
  intro sc al Post  S ar r9 S9 ar9 h hP
  unfold rF_80 at h
  refine gl_entry (m := 3) rfl ?_
  show gL X 80 (d + 1) 0 [some (.ref 0), none, none, none] [] (va_up sc 0 S) rf ar al Post
  refine gl_iconst hX q_80_0 ci_0 rfl ?_
  refine gl_istore_n (vs2 := [some (.ref 0), some (.int (0 : Int32)), none, none]) hX q_80_1 rfl rfl rfl rfl ?_
  exact gl_weak (vs := [some (.ref 0), some (.int (0 : Int32)), none, none]) ⟨rfl, rfl, trivial⟩ (rt_80_2 hX hr hrf hP oF (0 : Int32) S ar h)
/-- ClickOrdersModel.puts(II)I -/
def rT_82 (X : jX) (rf : jRf) (F : Int32 → Int32 → (Nat → Int32) → jSc → Option (Int32 × (Nat → Int32) × jSc)) (e : Nat) : Prop := ∀ (sc : jSc) (al : jAl) (Post : jPo) (x1 : Int32) (x2 : Int32) (S : (Nat → Int32)) (ar : jSc) (r9 : Int32) (S9 : (Nat → Int32)) (ar9 : jSc), F x1 x2 S ar = some (r9, S9, ar9) → Post (some (.int r9)) (va_up sc 0 S9) rf ar9 al → gW X 82 e 0 (j_av [.ref 0, .int x1, .int x2]) [] (va_up sc 0 S) rf ar al Post
def rF_82 (x1 : Int32) (x2 : Int32) (S : (Nat → Int32)) (ar : jSc) : Option (Int32 × (Nat → Int32) × jSc) :=
  (if iB x2 40 then (if iB x1 40 then some ((x1 + (1 : Int32)), S, (j_u2 ar 712 (iN x1) (ar 15 (iN x2)))) else none) else none)
set_option maxHeartbeats 4000000 in
theorem rt_82 {X : jX} (hX : j_LK (g_n X) (g_L X)) (hr : g_rs X = r_sh) {rf : jRf} (hrf : rf 0 = r_rf) {d : Nat} : rT_82 X rf rF_82 (d + 1) := by
  intro sc al Post x1 x2 S ar r9 S9 ar9 h hP
  unfold rF_82 at h
  refine gl_entry (m := 0) rfl ?_
  show gL X 82 (d + 1) 0 [some (.ref 0), some (.int x1), some (.int x2)] [] (va_up sc 0 S) rf ar al Post
  refine gl_aload_n hX q_82_0 rfl rfl ?_
  refine gl_getA hX q_82_1 (qf_102 (by decide)) (qs_0 hr) rfl qk_53 ((congrFun hrf 53).trans qa_53) rfl ?_
  refine gl_iload_n hX q_82_4 rfl rfl ?_
  refine gl_aload_n hX q_82_5 rfl rfl ?_
  refine gl_getA hX q_82_6 (qf_51 (by decide)) (qs_0 hr) rfl qk_32 ((congrFun hrf 32).trans qa_32) rfl ?_
  refine gl_iload_n hX q_82_9 rfl rfl ?_
  obtain ⟨c1, h⟩ := o_ck h
  refine gl_iaload hX q_82_10 (qs_15 hr) c1 rfl rfl ?_
  obtain ⟨c2, h⟩ := o_ck h
  refine gl_iastore (ar2 := (j_u2 ar 712 (iN x1) (ar 15 (iN x2)))) hX q_82_11 (qs_712 hr) c2 rfl rfl ?_
  refine gl_iload_n hX q_82_12 rfl rfl ?_
  refine gl_iconst hX q_82_13 ci_1 rfl ?_
  refine gl_iadd hX q_82_14 rfl ?_
  exact gl_ireturn q_82_15 (Or.inl qr_82) (by cases h; exact hP)
/-- ClickOrdersModel.turned(II)I -/
def rT_81 (X : jX) (rf : jRf) (F : Int32 → Int32 → (Nat → Int32) → jSc → Option (Int32 × (Nat → Int32) × jSc)) (e : Nat) : Prop := ∀ (sc : jSc) (al : jAl) (Post : jPo) (x1 : Int32) (x2 : Int32) (S : (Nat → Int32)) (ar : jSc) (r9 : Int32) (S9 : (Nat → Int32)) (ar9 : jSc), F x1 x2 S ar = some (r9, S9, ar9) → Post (some (.int r9)) (va_up sc 0 S9) rf ar9 al → gW X 81 e 0 (j_av [.ref 0, .int x1, .int x2]) [] (va_up sc 0 S) rf ar al Post
def rF_81_196 (k162 : Int32 → Int32 → Int32 → Int32 → Int32 → (Nat → Int32) → jSc → Option (Int32 × (Nat → Int32) × jSc)) (x3 : Int32) (x4 : Int32) (x5 : Int32) (x6 : Int32) (x7 : Int32) (x8 : Int32) (S : (Nat → Int32)) (ar : jSc) : Option (Int32 × (Nat → Int32) × jSc) :=
  (if x8 = 0 then k162 x3 x4 x5 x6 (x7 + (1 : Int32)) S ar else (o_b3 (rF_80 S ar) (fun ve2 Se2 are2 => (if ve2 = 0 then k162 x3 x4 x5 (1 : Int32) (x7 + (1 : Int32)) Se2 are2 else k162 x3 x4 x5 x6 (x7 + (1 : Int32)) Se2 are2))))
set_option maxHeartbeats 4000000 in
theorem rt_81_196 {X : jX} (hX : j_LK (g_n X) (g_L X)) (hr : g_rs X = r_sh) {rf : jRf} (hrf : rf 0 = r_rf) {d : Nat} {sc : jSc} {al : jAl} {Post : jPo} {r9 : Int32} {S9 : (Nat → Int32)} {ar9 : jSc} {k162 : Int32 → Int32 → Int32 → Int32 → Int32 → (Nat → Int32) → jSc → Option (Int32 × (Nat → Int32) × jSc)} (hk162 : ∀ (x3 : Int32) (x4 : Int32) (x5 : Int32) (x6 : Int32) (x7 : Int32) (S : (Nat → Int32)) (ar : jSc), k162 x3 x4 x5 x6 x7 S ar = some (r9, S9, ar9) → gL X 81 (d + 128) 162 [some (.ref 0), none, none, some (.int x3), some (.int x4), some (.int x5), some (.int x6), some (.int x7), none] [] (va_up sc 0 S) rf ar al Post) (hP : Post (some (.int r9)) (va_up sc 0 S9) rf ar9 al) (x3 : Int32) (x4 : Int32) (x5 : Int32) (x6 : Int32) (x7 : Int32) (x8 : Int32) (S : (Nat → Int32)) (ar : jSc) (h : rF_81_196 k162 x3 x4 x5 x6 x7 x8 S ar = some (r9, S9, ar9)) : gL X 81 (d + 128) 196 [some (.ref 0), none, none, some (.int x3), some (.int x4), some (.int x5), some (.int x6), some (.int x7), some (.int x8)] [] (va_up sc 0 S) rf ar al Post := by
  unfold rF_81_196 at h
  refine gl_iload hX q_81_196 rfl rfl ?_
  refine gl_if_eq hX q_81_198 rfl rfl (fun c1 => ?_) (fun c1 => ?_)
  · have h := (if_pos c1).symm.trans h
    refine gl_iinc (vs2 := [some (.ref 0), none, none, some (.int x3), some (.int x4), some (.int x5), some (.int x6), some (.int (x7 + (1 : Int32))), some (.int x8)]) hX q_81_211 rfl rfl rfl ci_1 rfl rfl ?_
    refine gl_goto hX q_81_214 rfl ?_
    exact gl_weak (vs := [some (.ref 0), none, none, some (.int x3), some (.int x4), some (.int x5), some (.int x6), some (.int (x7 + (1 : Int32))), none]) ⟨rfl, rfl, rfl, rfl, rfl, rfl, trivial⟩ (hk162 x3 x4 x5 x6 (x7 + (1 : Int32)) S ar h)
  · have h := (if_neg c1).symm.trans h
    refine gl_aload_n hX q_81_201 rfl rfl ?_
    obtain ⟨ve2, Se2, are2, e2, h⟩ := o_k3 h
    refine gl_callV hX q_81_202 (qm_387 (by decide)) rfl rfl rfl (qs_0 hr) qx_80 rfl rfl ((rt_80 hX hr hrf) _ _ _  _ _ _ _ _ e2 ?_)
    refine gl_if_ne hX q_81_205 rfl rfl (fun c3 => ?_) (fun c3 => ?_)
    · have h := (if_pos c3).symm.trans h
      refine gl_iconst hX q_81_208 ci_1 rfl ?_
      refine gl_istore (vs2 := [some (.ref 0), none, none, some (.int x3), some (.int x4), some (.int x5), some (.int (1 : Int32)), some (.int x7), some (.int x8)]) hX q_81_209 rfl rfl rfl rfl ?_
      refine gl_iinc (vs2 := [some (.ref 0), none, none, some (.int x3), some (.int x4), some (.int x5), some (.int (1 : Int32)), some (.int (x7 + (1 : Int32))), some (.int x8)]) hX q_81_211 rfl rfl rfl ci_1 rfl rfl ?_
      refine gl_goto hX q_81_214 rfl ?_
      exact gl_weak (vs := [some (.ref 0), none, none, some (.int x3), some (.int x4), some (.int x5), some (.int (1 : Int32)), some (.int (x7 + (1 : Int32))), none]) ⟨rfl, rfl, rfl, rfl, rfl, rfl, trivial⟩ (hk162 x3 x4 x5 (1 : Int32) (x7 + (1 : Int32)) Se2 are2 h)
    · have h := (if_neg c3).symm.trans h
      refine gl_iinc (vs2 := [some (.ref 0), none, none, some (.int x3), some (.int x4), some (.int x5), some (.int x6), some (.int (x7 + (1 : Int32))), some (.int x8)]) hX q_81_211 rfl rfl rfl ci_1 rfl rfl ?_
      refine gl_goto hX q_81_214 rfl ?_
      exact gl_weak (vs := [some (.ref 0), none, none, some (.int x3), some (.int x4), some (.int x5), some (.int x6), some (.int (x7 + (1 : Int32))), none]) ⟨rfl, rfl, rfl, rfl, rfl, rfl, trivial⟩ (hk162 x3 x4 x5 x6 (x7 + (1 : Int32)) Se2 are2 h)
def rF_81_250 : Nat → Int32 → Int32 → (Nat → Int32) → jSc → Option (Int32 × (Nat → Int32) × jSc)
  | 0, _, _, _, _ => none
  | nn + 1, x6, x7, S, ar => (if (38 : Int32) ≤ x7 then (if x6 = 0 then some ((1 : Int32), S, ar) else some ((2 : Int32), S, ar)) else (if iB x7 53 then (if iB x7 53 then (if (ar 13 (iN x7)) = (ar 14 (iN x7)) then rF_81_250 nn x6 (x7 + (1 : Int32)) S ar else some ((3 : Int32), S, ar)) else none) else none))
set_option maxHeartbeats 4000000 in
theorem rt_81_250 {X : jX} (hX : j_LK (g_n X) (g_L X)) (hr : g_rs X = r_sh) {rf : jRf} (hrf : rf 0 = r_rf) {d : Nat} {sc : jSc} {al : jAl} {Post : jPo} {r9 : Int32} {S9 : (Nat → Int32)} {ar9 : jSc} (hP : Post (some (.int r9)) (va_up sc 0 S9) rf ar9 al) : ∀ (nn : Nat) (x6 : Int32) (x7 : Int32) (S : (Nat → Int32)) (ar : jSc), rF_81_250 nn x6 x7 S ar = some (r9, S9, ar9) → gL X 81 (d + 128) 250 [some (.ref 0), none, none, none, none, none, some (.int x6), some (.int x7), none] [] (va_up sc 0 S) rf ar al Post := by
  intro nn
  induction nn with
  | zero =>
    intro x6 x7 S ar h
    have h : (none : Option (Int32 × (Nat → Int32) × jSc)) = some _ := h
    cases h
  | succ nn ih =>
    intro x6 x7 S ar h
    unfold rF_81_250 at h
    refine gl_iload hX q_81_250 rfl rfl ?_
    refine gl_bipush hX q_81_252 cb_38 rfl ?_
    refine gl_ic_ge hX q_81_254 rfl rfl (fun c4 => ?_) (fun c4 => ?_)
    · have h := (if_pos c4).symm.trans h
      refine gl_iload hX q_81_282 rfl rfl ?_
      refine gl_if_eq hX q_81_284 rfl rfl (fun c5 => ?_) (fun c5 => ?_)
      · have h := (if_pos c5).symm.trans h
        refine gl_iconst hX q_81_291 ci_1 rfl ?_
        exact gl_ireturn q_81_292 (Or.inl qr_81) (by cases h; exact hP)
      · have h := (if_neg c5).symm.trans h
        refine gl_iconst hX q_81_287 ci_2 rfl ?_
        refine gl_goto hX q_81_288 rfl ?_
        exact gl_ireturn q_81_292 (Or.inl qr_81) (by cases h; exact hP)
    · have h := (if_neg c4).symm.trans h
      refine gl_aload_n hX q_81_257 rfl rfl ?_
      refine gl_getA hX q_81_258 (qf_42 (by decide)) (qs_0 hr) rfl qk_21 ((congrFun hrf 21).trans qa_21) rfl ?_
      refine gl_iload hX q_81_261 rfl rfl ?_
      obtain ⟨c6, h⟩ := o_ck h
      refine gl_iaload hX q_81_263 (qs_13 hr) c6 rfl rfl ?_
      refine gl_aload_n hX q_81_264 rfl rfl ?_
      refine gl_getA hX q_81_265 (qf_48 (by decide)) (qs_0 hr) rfl qk_30 ((congrFun hrf 30).trans qa_30) rfl ?_
      refine gl_iload hX q_81_268 rfl rfl ?_
      obtain ⟨c7, h⟩ := o_ck h
      refine gl_iaload hX q_81_270 (qs_14 hr) c7 rfl rfl ?_
      refine gl_ic_eq hX q_81_271 rfl rfl (fun c8 => ?_) (fun c8 => ?_)
      · have h := (if_pos c8).symm.trans h
        refine gl_iinc (vs2 := [some (.ref 0), none, none, none, none, none, some (.int x6), some (.int (x7 + (1 : Int32))), none]) hX q_81_276 rfl rfl rfl ci_1 rfl rfl ?_
        refine gl_goto hX q_81_279 rfl ?_
        exact gl_weak (vs := [some (.ref 0), none, none, none, none, none, some (.int x6), some (.int (x7 + (1 : Int32))), none]) ⟨rfl, rfl, rfl, trivial⟩ (ih x6 (x7 + (1 : Int32)) S ar h)
      · have h := (if_neg c8).symm.trans h
        refine gl_iconst hX q_81_274 ci_3 rfl ?_
        exact gl_ireturn q_81_275 (Or.inl qr_81) (by cases h; exact hP)
def rF_81_162 : Nat → Int32 → Int32 → Int32 → Int32 → Int32 → (Nat → Int32) → jSc → Option (Int32 × (Nat → Int32) × jSc)
  | 0, _, _, _, _, _, _, _ => none
  | nn + 1, x3, x4, x5, x6, x7, S, ar => (if x3 ≤ x7 then (if x5 = 0 then (if (ar 13 37) = (1 : Int32) then (if (ar 14 37) = 0 then some ((4 : Int32), S, ar) else rF_81_250 oF x6 (0 : Int32) S ar) else rF_81_250 oF x6 (0 : Int32) S ar) else some ((0 : Int32), S, ar)) else (if iB x7 40 then (o_b3 (rF_79 (ar 712 (iN x7)) S ar) (fun ve14 Se14 are14 => (if x7 = x4 then (if ve14 = 0 then rF_81_196 (fun x3_ x4_ x5_ x6_ x7_ S_ ar_ => rF_81_162 nn x3_ x4_ x5_ x6_ x7_ S_ ar_) x3 x4 (1 : Int32) x6 x7 ve14 Se14 are14 else rF_81_196 (fun x3_ x4_ x5_ x6_ x7_ S_ ar_ => rF_81_162 nn x3_ x4_ x5_ x6_ x7_ S_ ar_) x3 x4 x5 x6 x7 ve14 Se14 are14) else rF_81_196 (fun x3_ x4_ x5_ x6_ x7_ S_ ar_ => rF_81_162 nn x3_ x4_ x5_ x6_ x7_ S_ ar_) x3 x4 x5 x6 x7 ve14 Se14 are14))) else none))
set_option maxHeartbeats 4000000 in
theorem rt_81_162 {X : jX} (hX : j_LK (g_n X) (g_L X)) (hr : g_rs X = r_sh) {rf : jRf} (hrf : rf 0 = r_rf) {d : Nat} {sc : jSc} {al : jAl} {Post : jPo} {r9 : Int32} {S9 : (Nat → Int32)} {ar9 : jSc} (hP : Post (some (.int r9)) (va_up sc 0 S9) rf ar9 al) : ∀ (nn : Nat) (x3 : Int32) (x4 : Int32) (x5 : Int32) (x6 : Int32) (x7 : Int32) (S : (Nat → Int32)) (ar : jSc), rF_81_162 nn x3 x4 x5 x6 x7 S ar = some (r9, S9, ar9) → gL X 81 (d + 128) 162 [some (.ref 0), none, none, some (.int x3), some (.int x4), some (.int x5), some (.int x6), some (.int x7), none] [] (va_up sc 0 S) rf ar al Post := by
  intro nn
  induction nn with
  | zero =>
    intro x3 x4 x5 x6 x7 S ar h
    have h : (none : Option (Int32 × (Nat → Int32) × jSc)) = some _ := h
    cases h
  | succ nn ih =>
    intro x3 x4 x5 x6 x7 S ar h
    unfold rF_81_162 at h
    refine gl_iload hX q_81_162 rfl rfl ?_
    refine gl_iload_n hX q_81_164 rfl rfl ?_
    refine gl_ic_ge hX q_81_165 rfl rfl (fun c9 => ?_) (fun c9 => ?_)
    · have h := (if_pos c9).symm.trans h
      refine gl_iload hX q_81_217 rfl rfl ?_
      refine gl_if_eq hX q_81_219 rfl rfl (fun c10 => ?_) (fun c10 => ?_)
      · have h := (if_pos c10).symm.trans h
        refine gl_aload_n hX q_81_224 rfl rfl ?_
        refine gl_getA hX q_81_225 (qf_42 (by decide)) (qs_0 hr) rfl qk_21 ((congrFun hrf 21).trans qa_21) rfl ?_
        refine gl_bipush hX q_81_228 cb_37 rfl ?_
        refine gl_iaload hX q_81_230 (qs_13 hr) (by decide) rfl rfl ?_
        refine gl_iconst hX q_81_231 ci_1 rfl ?_
        refine gl_ic_ne hX q_81_232 rfl rfl (fun c11 => ?_) (fun c11 => ?_)
        · have h := (if_pos c11).symm.trans h
          refine gl_aload_n hX q_81_235 rfl rfl ?_
          refine gl_getA hX q_81_236 (qf_48 (by decide)) (qs_0 hr) rfl qk_30 ((congrFun hrf 30).trans qa_30) rfl ?_
          refine gl_bipush hX q_81_239 cb_37 rfl ?_
          refine gl_iaload hX q_81_241 (qs_14 hr) (by decide) rfl rfl ?_
          refine gl_if_ne hX q_81_242 rfl rfl (fun c12 => ?_) (fun c12 => ?_)
          · have h := (if_pos c12).symm.trans h
            refine gl_iconst hX q_81_245 ci_4 rfl ?_
            exact gl_ireturn q_81_246 (Or.inl qr_81) (by cases h; exact hP)
          · have h := (if_neg c12).symm.trans h
            refine gl_iconst hX q_81_247 ci_0 rfl ?_
            refine gl_istore (vs2 := [some (.ref 0), none, none, some (.int x3), some (.int x4), some (.int x5), some (.int x6), some (.int (0 : Int32)), none]) hX q_81_248 rfl rfl rfl rfl ?_
            exact gl_weak (vs := [some (.ref 0), none, none, none, none, none, some (.int x6), some (.int (0 : Int32)), none]) ⟨rfl, rfl, rfl, trivial⟩ (rt_81_250 hX hr hrf hP oF x6 (0 : Int32) S ar h)
        · have h := (if_neg c11).symm.trans h
          refine gl_iconst hX q_81_247 ci_0 rfl ?_
          refine gl_istore (vs2 := [some (.ref 0), none, none, some (.int x3), some (.int x4), some (.int x5), some (.int x6), some (.int (0 : Int32)), none]) hX q_81_248 rfl rfl rfl rfl ?_
          exact gl_weak (vs := [some (.ref 0), none, none, none, none, none, some (.int x6), some (.int (0 : Int32)), none]) ⟨rfl, rfl, rfl, trivial⟩ (rt_81_250 hX hr hrf hP oF x6 (0 : Int32) S ar h)
      · have h := (if_neg c10).symm.trans h
        refine gl_iconst hX q_81_222 ci_0 rfl ?_
        exact gl_ireturn q_81_223 (Or.inl qr_81) (by cases h; exact hP)
    · have h := (if_neg c9).symm.trans h
      refine gl_aload_n hX q_81_168 rfl rfl ?_
      refine gl_aload_n hX q_81_169 rfl rfl ?_
      refine gl_getA hX q_81_170 (qf_102 (by decide)) (qs_0 hr) rfl qk_53 ((congrFun hrf 53).trans qa_53) rfl ?_
      refine gl_iload hX q_81_173 rfl rfl ?_
      obtain ⟨c13, h⟩ := o_ck h
      refine gl_iaload hX q_81_175 (qs_712 hr) c13 rfl rfl ?_
      obtain ⟨ve14, Se14, are14, e14, h⟩ := o_k3 h
      refine gl_callV hX q_81_176 (qm_384 (by decide)) rfl rfl rfl (qs_0 hr) qx_79 rfl rfl ((rt_79 hX hr hrf) _ _ _ _ _ _ _ _ _ e14 ?_)
      refine gl_istore (vs2 := [some (.ref 0), none, none, some (.int x3), some (.int x4), some (.int x5), some (.int x6), some (.int x7), some (.int ve14)]) hX q_81_179 rfl rfl rfl rfl ?_
      refine gl_iload hX q_81_181 rfl rfl ?_
      refine gl_iload hX q_81_183 rfl rfl ?_
      refine gl_ic_ne hX q_81_185 rfl rfl (fun c15 => ?_) (fun c15 => ?_)
      · have h := (if_pos c15).symm.trans h
        refine gl_iload hX q_81_188 rfl rfl ?_
        refine gl_if_ne hX q_81_190 rfl rfl (fun c16 => ?_) (fun c16 => ?_)
        · have h := (if_pos c16).symm.trans h
          refine gl_iconst hX q_81_193 ci_1 rfl ?_
          refine gl_istore (vs2 := [some (.ref 0), none, none, some (.int x3), some (.int x4), some (.int (1 : Int32)), some (.int x6), some (.int x7), some (.int ve14)]) hX q_81_194 rfl rfl rfl rfl ?_
          exact gl_weak (vs := [some (.ref 0), none, none, some (.int x3), some (.int x4), some (.int (1 : Int32)), some (.int x6), some (.int x7), some (.int ve14)]) ⟨rfl, rfl, rfl, rfl, rfl, rfl, rfl, trivial⟩ (rt_81_196 hX hr hrf ih hP x3 x4 (1 : Int32) x6 x7 ve14 Se14 are14 h)
        · have h := (if_neg c16).symm.trans h
          exact gl_weak (vs := [some (.ref 0), none, none, some (.int x3), some (.int x4), some (.int x5), some (.int x6), some (.int x7), some (.int ve14)]) ⟨rfl, rfl, rfl, rfl, rfl, rfl, rfl, trivial⟩ (rt_81_196 hX hr hrf ih hP x3 x4 x5 x6 x7 ve14 Se14 are14 h)
      · have h := (if_neg c15).symm.trans h
        exact gl_weak (vs := [some (.ref 0), none, none, some (.int x3), some (.int x4), some (.int x5), some (.int x6), some (.int x7), some (.int ve14)]) ⟨rfl, rfl, rfl, rfl, rfl, rfl, rfl, trivial⟩ (rt_81_196 hX hr hrf ih hP x3 x4 x5 x6 x7 ve14 Se14 are14 h)
def rF_81_121 : Nat → Int32 → Int32 → Int32 → (Nat → Int32) → jSc → Option (Int32 × (Nat → Int32) × jSc)
  | 0, _, _, _, _, _ => none
  | nn + 1, x3, x4, x5, S, ar => (if (S 31) ≤ x5 then (o_b2 (rF_49 (upd S 16 (0 : Int32)) ar) (fun Se18 are18 => rF_81_162 oF x3 x4 (0 : Int32) (0 : Int32) (0 : Int32) Se18 are18)) else (o_b3 (rF_82 x3 x5 S ar) (fun ve19 Se19 are19 => rF_81_121 nn ve19 x4 (x5 + (1 : Int32)) Se19 are19)))
set_option maxHeartbeats 4000000 in
theorem rt_81_121 {X : jX} (hX : j_LK (g_n X) (g_L X)) (hr : g_rs X = r_sh) {rf : jRf} (hrf : rf 0 = r_rf) {d : Nat} {sc : jSc} {al : jAl} {Post : jPo} {r9 : Int32} {S9 : (Nat → Int32)} {ar9 : jSc} (hP : Post (some (.int r9)) (va_up sc 0 S9) rf ar9 al) : ∀ (nn : Nat) (x3 : Int32) (x4 : Int32) (x5 : Int32) (S : (Nat → Int32)) (ar : jSc), rF_81_121 nn x3 x4 x5 S ar = some (r9, S9, ar9) → gL X 81 (d + 128) 121 [some (.ref 0), none, none, some (.int x3), some (.int x4), some (.int x5), none, none, none] [] (va_up sc 0 S) rf ar al Post := by
  intro nn
  induction nn with
  | zero =>
    intro x3 x4 x5 S ar h
    have h : (none : Option (Int32 × (Nat → Int32) × jSc)) = some _ := h
    cases h
  | succ nn ih =>
    intro x3 x4 x5 S ar h
    unfold rF_81_121 at h
    refine gl_iload hX q_81_121 rfl rfl ?_
    refine gl_aload_n hX q_81_123 rfl rfl ?_
    refine gl_get hX q_81_124 (qf_341 (by decide)) (qs_0 hr) rfl qk_31 rfl rfl ?_
    refine gl_ic_ge hX q_81_127 rfl rfl (fun c17 => ?_) (fun c17 => ?_)
    · have h := (if_pos c17).symm.trans h
      refine gl_aload_n hX q_81_144 rfl rfl ?_
      refine gl_iconst hX q_81_145 ci_0 rfl ?_
      refine gl_put hX q_81_146 (qf_316 (by decide)) (qs_0 hr) rfl qk_16 rfl ru rfl ?_
      refine gl_aload_n hX q_81_149 rfl rfl ?_
      obtain ⟨Se18, are18, e18, h⟩ := o_k2 h
      refine gl_callV hX q_81_150 (qm_344 (by decide)) rfl rfl rfl (qs_0 hr) qx_49 rfl rfl ((rt_49 hX hr hrf) _ _ _  _ _ _ _ e18 ?_)
      refine gl_iconst hX q_81_153 ci_0 rfl ?_
      refine gl_istore (vs2 := [some (.ref 0), none, none, some (.int x3), some (.int x4), some (.int (0 : Int32)), none, none, none]) hX q_81_154 rfl rfl rfl rfl ?_
      refine gl_iconst hX q_81_156 ci_0 rfl ?_
      refine gl_istore (vs2 := [some (.ref 0), none, none, some (.int x3), some (.int x4), some (.int (0 : Int32)), some (.int (0 : Int32)), none, none]) hX q_81_157 rfl rfl rfl rfl ?_
      refine gl_iconst hX q_81_159 ci_0 rfl ?_
      refine gl_istore (vs2 := [some (.ref 0), none, none, some (.int x3), some (.int x4), some (.int (0 : Int32)), some (.int (0 : Int32)), some (.int (0 : Int32)), none]) hX q_81_160 rfl rfl rfl rfl ?_
      exact gl_weak (vs := [some (.ref 0), none, none, some (.int x3), some (.int x4), some (.int (0 : Int32)), some (.int (0 : Int32)), some (.int (0 : Int32)), none]) ⟨rfl, rfl, rfl, rfl, rfl, rfl, trivial⟩ (rt_81_162 hX hr hrf hP oF x3 x4 (0 : Int32) (0 : Int32) (0 : Int32) Se18 are18 h)
    · have h := (if_neg c17).symm.trans h
      refine gl_aload_n hX q_81_130 rfl rfl ?_
      refine gl_iload_n hX q_81_131 rfl rfl ?_
      refine gl_iload hX q_81_132 rfl rfl ?_
      obtain ⟨ve19, Se19, are19, e19, h⟩ := o_k3 h
      refine gl_callV hX q_81_134 (qm_381 (by decide)) rfl rfl rfl (qs_0 hr) qx_82 rfl rfl ((rt_82 hX hr hrf) _ _ _ _ _ _ _ _ _ _ e19 ?_)
      refine gl_istore_n (vs2 := [some (.ref 0), none, none, some (.int ve19), some (.int x4), some (.int x5), none, none, none]) hX q_81_137 rfl rfl rfl rfl ?_
      refine gl_iinc (vs2 := [some (.ref 0), none, none, some (.int ve19), some (.int x4), some (.int (x5 + (1 : Int32))), none, none, none]) hX q_81_138 rfl rfl rfl ci_1 rfl rfl ?_
      refine gl_goto hX q_81_141 rfl ?_
      exact gl_weak (vs := [some (.ref 0), none, none, some (.int ve19), some (.int x4), some (.int (x5 + (1 : Int32))), none, none, none]) ⟨rfl, rfl, rfl, rfl, trivial⟩ (ih ve19 x4 (x5 + (1 : Int32)) Se19 are19 h)
def rF_81_84 : Nat → Int32 → Int32 → Int32 → Int32 → (Nat → Int32) → jSc → Option (Int32 × (Nat → Int32) × jSc)
  | 0, _, _, _, _, _, _ => none
  | nn + 1, x2, x3, x4, x5, S, ar => (if x2 ≤ x5 then rF_81_121 oF x3 x4 (x2 + (1 : Int32)) S ar else (if iB x5 40 then (if iB x2 40 then (if (ar (62 + iN x5) (iN x2)) = 0 then (o_b3 (rF_82 x3 x5 S ar) (fun ve24 Se24 are24 => rF_81_84 nn x2 ve24 x4 (x5 + (1 : Int32)) Se24 are24)) else rF_81_84 nn x2 x3 x4 (x5 + (1 : Int32)) S ar) else none) else none))
set_option maxHeartbeats 4000000 in
theorem rt_81_84 {X : jX} (hX : j_LK (g_n X) (g_L X)) (hr : g_rs X = r_sh) {rf : jRf} (hrf : rf 0 = r_rf) {d : Nat} {sc : jSc} {al : jAl} {Post : jPo} {r9 : Int32} {S9 : (Nat → Int32)} {ar9 : jSc} (hP : Post (some (.int r9)) (va_up sc 0 S9) rf ar9 al) : ∀ (nn : Nat) (x2 : Int32) (x3 : Int32) (x4 : Int32) (x5 : Int32) (S : (Nat → Int32)) (ar : jSc), rF_81_84 nn x2 x3 x4 x5 S ar = some (r9, S9, ar9) → gL X 81 (d + 128) 84 [some (.ref 0), none, some (.int x2), some (.int x3), some (.int x4), some (.int x5), none, none, none] [] (va_up sc 0 S) rf ar al Post := by
  intro nn
  induction nn with
  | zero =>
    intro x2 x3 x4 x5 S ar h
    have h : (none : Option (Int32 × (Nat → Int32) × jSc)) = some _ := h
    cases h
  | succ nn ih =>
    intro x2 x3 x4 x5 S ar h
    unfold rF_81_84 at h
    refine gl_iload hX q_81_84 rfl rfl ?_
    refine gl_iload_n hX q_81_86 rfl rfl ?_
    refine gl_ic_ge hX q_81_87 rfl rfl (fun c20 => ?_) (fun c20 => ?_)
    · have h := (if_pos c20).symm.trans h
      refine gl_iload_n hX q_81_116 rfl rfl ?_
      refine gl_iconst hX q_81_117 ci_1 rfl ?_
      refine gl_iadd hX q_81_118 rfl ?_
      refine gl_istore (vs2 := [some (.ref 0), none, some (.int x2), some (.int x3), some (.int x4), some (.int (x2 + (1 : Int32))), none, none, none]) hX q_81_119 rfl rfl rfl rfl ?_
      exact gl_weak (vs := [some (.ref 0), none, none, some (.int x3), some (.int x4), some (.int (x2 + (1 : Int32))), none, none, none]) ⟨rfl, rfl, rfl, rfl, trivial⟩ (rt_81_121 hX hr hrf hP oF x3 x4 (x2 + (1 : Int32)) S ar h)
    · have h := (if_neg c20).symm.trans h
      refine gl_aload_n hX q_81_90 rfl rfl ?_
      refine gl_getA hX q_81_91 (qf_68 (by decide)) (qs_0 hr) rfl qk_37 ((congrFun hrf 37).trans qa_37) rfl ?_
      refine gl_iload hX q_81_94 rfl rfl ?_
      obtain ⟨c21, h⟩ := o_ck h
      refine gl_aaload hX q_81_96 (qs_61 hr) c21 (Or.inr ⟨Or.inr rfl, qs_0 hr⟩) (qo_61 (iB_lt c21)) rfl ?_
      refine gl_iload_n hX q_81_97 rfl rfl ?_
      obtain ⟨c22, h⟩ := o_ck h
      refine gl_baload hX q_81_98 (qs_isOrdered hr (iB_lt c21)) c22 rfl rfl ?_
      refine gl_if_ne hX q_81_99 rfl rfl (fun c23 => ?_) (fun c23 => ?_)
      · have h := (if_pos c23).symm.trans h
        refine gl_aload_n hX q_81_102 rfl rfl ?_
        refine gl_iload_n hX q_81_103 rfl rfl ?_
        refine gl_iload hX q_81_104 rfl rfl ?_
        obtain ⟨ve24, Se24, are24, e24, h⟩ := o_k3 h
        refine gl_callV hX q_81_106 (qm_381 (by decide)) rfl rfl rfl (qs_0 hr) qx_82 rfl rfl ((rt_82 hX hr hrf) _ _ _ _ _ _ _ _ _ _ e24 ?_)
        refine gl_istore_n (vs2 := [some (.ref 0), none, some (.int x2), some (.int ve24), some (.int x4), some (.int x5), none, none, none]) hX q_81_109 rfl rfl rfl rfl ?_
        refine gl_iinc (vs2 := [some (.ref 0), none, some (.int x2), some (.int ve24), some (.int x4), some (.int (x5 + (1 : Int32))), none, none, none]) hX q_81_110 rfl rfl rfl ci_1 rfl rfl ?_
        refine gl_goto hX q_81_113 rfl ?_
        exact gl_weak (vs := [some (.ref 0), none, some (.int x2), some (.int ve24), some (.int x4), some (.int (x5 + (1 : Int32))), none, none, none]) ⟨rfl, rfl, rfl, rfl, rfl, trivial⟩ (ih x2 ve24 x4 (x5 + (1 : Int32)) Se24 are24 h)
      · have h := (if_neg c23).symm.trans h
        refine gl_iinc (vs2 := [some (.ref 0), none, some (.int x2), some (.int x3), some (.int x4), some (.int (x5 + (1 : Int32))), none, none, none]) hX q_81_110 rfl rfl rfl ci_1 rfl rfl ?_
        refine gl_goto hX q_81_113 rfl ?_
        exact gl_weak (vs := [some (.ref 0), none, some (.int x2), some (.int x3), some (.int x4), some (.int (x5 + (1 : Int32))), none, none, none]) ⟨rfl, rfl, rfl, rfl, rfl, trivial⟩ (ih x2 x3 x4 (x5 + (1 : Int32)) S ar h)
def rF_81_30 : Nat → Int32 → Int32 → Int32 → Int32 → (Nat → Int32) → jSc → Option (Int32 × (Nat → Int32) × jSc)
  | 0, _, _, _, _, _, _ => none
  | nn + 1, x1, x2, x3, x4, S, ar => (if x2 ≤ x4 then (o_b3 (rF_82 x3 x2 S ar) (fun ve26 Se26 are26 => (o_b3 (rF_82 ve26 x1 Se26 are26) (fun ve27 Se27 are27 => rF_81_84 oF x2 ve27 x3 (x1 + (1 : Int32)) Se27 are27)))) else (if iB x4 40 then (if iB x2 40 then (if (ar (62 + iN x4) (iN x2)) = 0 then rF_81_30 nn x1 x2 x3 (x4 + (1 : Int32)) S ar else (o_b3 (rF_82 x3 x4 S ar) (fun ve31 Se31 are31 => rF_81_30 nn x1 x2 ve31 (x4 + (1 : Int32)) Se31 are31))) else none) else none))
set_option maxHeartbeats 4000000 in
theorem rt_81_30 {X : jX} (hX : j_LK (g_n X) (g_L X)) (hr : g_rs X = r_sh) {rf : jRf} (hrf : rf 0 = r_rf) {d : Nat} {sc : jSc} {al : jAl} {Post : jPo} {r9 : Int32} {S9 : (Nat → Int32)} {ar9 : jSc} (hP : Post (some (.int r9)) (va_up sc 0 S9) rf ar9 al) : ∀ (nn : Nat) (x1 : Int32) (x2 : Int32) (x3 : Int32) (x4 : Int32) (S : (Nat → Int32)) (ar : jSc), rF_81_30 nn x1 x2 x3 x4 S ar = some (r9, S9, ar9) → gL X 81 (d + 128) 30 [some (.ref 0), some (.int x1), some (.int x2), some (.int x3), some (.int x4), none, none, none, none] [] (va_up sc 0 S) rf ar al Post := by
  intro nn
  induction nn with
  | zero =>
    intro x1 x2 x3 x4 S ar h
    have h : (none : Option (Int32 × (Nat → Int32) × jSc)) = some _ := h
    cases h
  | succ nn ih =>
    intro x1 x2 x3 x4 S ar h
    unfold rF_81_30 at h
    refine gl_iload hX q_81_30 rfl rfl ?_
    refine gl_iload_n hX q_81_32 rfl rfl ?_
    refine gl_ic_ge hX q_81_33 rfl rfl (fun c25 => ?_) (fun c25 => ?_)
    · have h := (if_pos c25).symm.trans h
      refine gl_iload_n hX q_81_62 rfl rfl ?_
      refine gl_istore (vs2 := [some (.ref 0), some (.int x1), some (.int x2), some (.int x3), some (.int x3), none, none, none, none]) hX q_81_63 rfl rfl rfl rfl ?_
      refine gl_aload_n hX q_81_65 rfl rfl ?_
      refine gl_iload_n hX q_81_66 rfl rfl ?_
      refine gl_iload_n hX q_81_67 rfl rfl ?_
      obtain ⟨ve26, Se26, are26, e26, h⟩ := o_k3 h
      refine gl_callV hX q_81_68 (qm_381 (by decide)) rfl rfl rfl (qs_0 hr) qx_82 rfl rfl ((rt_82 hX hr hrf) _ _ _ _ _ _ _ _ _ _ e26 ?_)
      refine gl_istore_n (vs2 := [some (.ref 0), some (.int x1), some (.int x2), some (.int ve26), some (.int x3), none, none, none, none]) hX q_81_71 rfl rfl rfl rfl ?_
      refine gl_aload_n hX q_81_72 rfl rfl ?_
      refine gl_iload_n hX q_81_73 rfl rfl ?_
      refine gl_iload_n hX q_81_74 rfl rfl ?_
      obtain ⟨ve27, Se27, are27, e27, h⟩ := o_k3 h
      refine gl_callV hX q_81_75 (qm_381 (by decide)) rfl rfl rfl (qs_0 hr) qx_82 rfl rfl ((rt_82 hX hr hrf) _ _ _ _ _ _ _ _ _ _ e27 ?_)
      refine gl_istore_n (vs2 := [some (.ref 0), some (.int x1), some (.int x2), some (.int ve27), some (.int x3), none, none, none, none]) hX q_81_78 rfl rfl rfl rfl ?_
      refine gl_iload_n hX q_81_79 rfl rfl ?_
      refine gl_iconst hX q_81_80 ci_1 rfl ?_
      refine gl_iadd hX q_81_81 rfl ?_
      refine gl_istore (vs2 := [some (.ref 0), some (.int x1), some (.int x2), some (.int ve27), some (.int x3), some (.int (x1 + (1 : Int32))), none, none, none]) hX q_81_82 rfl rfl rfl rfl ?_
      exact gl_weak (vs := [some (.ref 0), none, some (.int x2), some (.int ve27), some (.int x3), some (.int (x1 + (1 : Int32))), none, none, none]) ⟨rfl, rfl, rfl, rfl, rfl, trivial⟩ (rt_81_84 hX hr hrf hP oF x2 ve27 x3 (x1 + (1 : Int32)) Se27 are27 h)
    · have h := (if_neg c25).symm.trans h
      refine gl_aload_n hX q_81_36 rfl rfl ?_
      refine gl_getA hX q_81_37 (qf_68 (by decide)) (qs_0 hr) rfl qk_37 ((congrFun hrf 37).trans qa_37) rfl ?_
      refine gl_iload hX q_81_40 rfl rfl ?_
      obtain ⟨c28, h⟩ := o_ck h
      refine gl_aaload hX q_81_42 (qs_61 hr) c28 (Or.inr ⟨Or.inr rfl, qs_0 hr⟩) (qo_61 (iB_lt c28)) rfl ?_
      refine gl_iload_n hX q_81_43 rfl rfl ?_
      obtain ⟨c29, h⟩ := o_ck h
      refine gl_baload hX q_81_44 (qs_isOrdered hr (iB_lt c28)) c29 rfl rfl ?_
      refine gl_if_eq hX q_81_45 rfl rfl (fun c30 => ?_) (fun c30 => ?_)
      · have h := (if_pos c30).symm.trans h
        refine gl_iinc (vs2 := [some (.ref 0), some (.int x1), some (.int x2), some (.int x3), some (.int (x4 + (1 : Int32))), none, none, none, none]) hX q_81_56 rfl rfl rfl ci_1 rfl rfl ?_
        refine gl_goto hX q_81_59 rfl ?_
        exact gl_weak (vs := [some (.ref 0), some (.int x1), some (.int x2), some (.int x3), some (.int (x4 + (1 : Int32))), none, none, none, none]) ⟨rfl, rfl, rfl, rfl, rfl, trivial⟩ (ih x1 x2 x3 (x4 + (1 : Int32)) S ar h)
      · have h := (if_neg c30).symm.trans h
        refine gl_aload_n hX q_81_48 rfl rfl ?_
        refine gl_iload_n hX q_81_49 rfl rfl ?_
        refine gl_iload hX q_81_50 rfl rfl ?_
        obtain ⟨ve31, Se31, are31, e31, h⟩ := o_k3 h
        refine gl_callV hX q_81_52 (qm_381 (by decide)) rfl rfl rfl (qs_0 hr) qx_82 rfl rfl ((rt_82 hX hr hrf) _ _ _ _ _ _ _ _ _ _ e31 ?_)
        refine gl_istore_n (vs2 := [some (.ref 0), some (.int x1), some (.int x2), some (.int ve31), some (.int x4), none, none, none, none]) hX q_81_55 rfl rfl rfl rfl ?_
        refine gl_iinc (vs2 := [some (.ref 0), some (.int x1), some (.int x2), some (.int ve31), some (.int (x4 + (1 : Int32))), none, none, none, none]) hX q_81_56 rfl rfl rfl ci_1 rfl rfl ?_
        refine gl_goto hX q_81_59 rfl ?_
        exact gl_weak (vs := [some (.ref 0), some (.int x1), some (.int x2), some (.int ve31), some (.int (x4 + (1 : Int32))), none, none, none, none]) ⟨rfl, rfl, rfl, rfl, rfl, trivial⟩ (ih x1 x2 ve31 (x4 + (1 : Int32)) Se31 are31 h)
def rF_81_5 : Nat → Int32 → Int32 → Int32 → Int32 → (Nat → Int32) → jSc → Option (Int32 × (Nat → Int32) × jSc)
  | 0, _, _, _, _, _, _ => none
  | nn + 1, x1, x2, x3, x4, S, ar => (if x1 ≤ x4 then rF_81_30 oF x1 x2 x3 (x1 + (1 : Int32)) S ar else (o_b3 (rF_82 x3 x4 S ar) (fun ve33 Se33 are33 => rF_81_5 nn x1 x2 ve33 (x4 + (1 : Int32)) Se33 are33)))
set_option maxHeartbeats 4000000 in
theorem rt_81_5 {X : jX} (hX : j_LK (g_n X) (g_L X)) (hr : g_rs X = r_sh) {rf : jRf} (hrf : rf 0 = r_rf) {d : Nat} {sc : jSc} {al : jAl} {Post : jPo} {r9 : Int32} {S9 : (Nat → Int32)} {ar9 : jSc} (hP : Post (some (.int r9)) (va_up sc 0 S9) rf ar9 al) : ∀ (nn : Nat) (x1 : Int32) (x2 : Int32) (x3 : Int32) (x4 : Int32) (S : (Nat → Int32)) (ar : jSc), rF_81_5 nn x1 x2 x3 x4 S ar = some (r9, S9, ar9) → gL X 81 (d + 128) 5 [some (.ref 0), some (.int x1), some (.int x2), some (.int x3), some (.int x4), none, none, none, none] [] (va_up sc 0 S) rf ar al Post := by
  intro nn
  induction nn with
  | zero =>
    intro x1 x2 x3 x4 S ar h
    have h : (none : Option (Int32 × (Nat → Int32) × jSc)) = some _ := h
    cases h
  | succ nn ih =>
    intro x1 x2 x3 x4 S ar h
    unfold rF_81_5 at h
    refine gl_iload hX q_81_5 rfl rfl ?_
    refine gl_iload_n hX q_81_7 rfl rfl ?_
    refine gl_ic_ge hX q_81_8 rfl rfl (fun c32 => ?_) (fun c32 => ?_)
    · have h := (if_pos c32).symm.trans h
      refine gl_iload_n hX q_81_25 rfl rfl ?_
      refine gl_iconst hX q_81_26 ci_1 rfl ?_
      refine gl_iadd hX q_81_27 rfl ?_
      refine gl_istore (vs2 := [some (.ref 0), some (.int x1), some (.int x2), some (.int x3), some (.int (x1 + (1 : Int32))), none, none, none, none]) hX q_81_28 rfl rfl rfl rfl ?_
      exact gl_weak (vs := [some (.ref 0), some (.int x1), some (.int x2), some (.int x3), some (.int (x1 + (1 : Int32))), none, none, none, none]) ⟨rfl, rfl, rfl, rfl, rfl, trivial⟩ (rt_81_30 hX hr hrf hP oF x1 x2 x3 (x1 + (1 : Int32)) S ar h)
    · have h := (if_neg c32).symm.trans h
      refine gl_aload_n hX q_81_11 rfl rfl ?_
      refine gl_iload_n hX q_81_12 rfl rfl ?_
      refine gl_iload hX q_81_13 rfl rfl ?_
      obtain ⟨ve33, Se33, are33, e33, h⟩ := o_k3 h
      refine gl_callV hX q_81_15 (qm_381 (by decide)) rfl rfl rfl (qs_0 hr) qx_82 rfl rfl ((rt_82 hX hr hrf) _ _ _ _ _ _ _ _ _ _ e33 ?_)
      refine gl_istore_n (vs2 := [some (.ref 0), some (.int x1), some (.int x2), some (.int ve33), some (.int x4), none, none, none, none]) hX q_81_18 rfl rfl rfl rfl ?_
      refine gl_iinc (vs2 := [some (.ref 0), some (.int x1), some (.int x2), some (.int ve33), some (.int (x4 + (1 : Int32))), none, none, none, none]) hX q_81_19 rfl rfl rfl ci_1 rfl rfl ?_
      refine gl_goto hX q_81_22 rfl ?_
      exact gl_weak (vs := [some (.ref 0), some (.int x1), some (.int x2), some (.int ve33), some (.int (x4 + (1 : Int32))), none, none, none, none]) ⟨rfl, rfl, rfl, rfl, rfl, trivial⟩ (ih x1 x2 ve33 (x4 + (1 : Int32)) Se33 are33 h)
def rF_81 (x1 : Int32) (x2 : Int32) (S : (Nat → Int32)) (ar : jSc) : Option (Int32 × (Nat → Int32) × jSc) :=
  rF_81_5 oF x1 x2 (0 : Int32) (0 : Int32) S ar
set_option maxHeartbeats 4000000 in
theorem rt_81 {X : jX} (hX : j_LK (g_n X) (g_L X)) (hr : g_rs X = r_sh) {rf : jRf} (hrf : rf 0 = r_rf) {d : Nat} : rT_81 X rf rF_81 (d + 128) := by
  intro sc al Post x1 x2 S ar r9 S9 ar9 h hP
  unfold rF_81 at h
  refine gl_entry (m := 6) rfl ?_
  show gL X 81 (d + 128) 0 [some (.ref 0), some (.int x1), some (.int x2), none, none, none, none, none, none] [] (va_up sc 0 S) rf ar al Post
  refine gl_iconst hX q_81_0 ci_0 rfl ?_
  refine gl_istore_n (vs2 := [some (.ref 0), some (.int x1), some (.int x2), some (.int (0 : Int32)), none, none, none, none, none]) hX q_81_1 rfl rfl rfl rfl ?_
  refine gl_iconst hX q_81_2 ci_0 rfl ?_
  refine gl_istore (vs2 := [some (.ref 0), some (.int x1), some (.int x2), some (.int (0 : Int32)), some (.int (0 : Int32)), none, none, none, none]) hX q_81_3 rfl rfl rfl rfl ?_
  exact gl_weak (vs := [some (.ref 0), some (.int x1), some (.int x2), some (.int (0 : Int32)), some (.int (0 : Int32)), none, none, none, none]) ⟨rfl, rfl, rfl, rfl, rfl, trivial⟩ (rt_81_5 hX hr hrf hP oF x1 x2 (0 : Int32) (0 : Int32) S ar h)
