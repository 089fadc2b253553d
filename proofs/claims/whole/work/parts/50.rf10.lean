/-! THE REFERENCE: its methods as functions, and that the machine does what they say. -/
/-- ClickOrdersModel.pages(II)I -/
def rT_91 (X : jX) (rf : jRf) (F : Int32 → Int32 → (Nat → Int32) → jSc → Option (Int32 × (Nat → Int32) × jSc)) (e : Nat) : Prop := ∀ (sc : jSc) (al : jAl) (Post : jPo) (x1 : Int32) (x2 : Int32) (S : (Nat → Int32)) (ar : jSc) (r9 : Int32) (S9 : (Nat → Int32)) (ar9 : jSc), F x1 x2 S ar = some (r9, S9, ar9) → Post (some (.int r9)) (va_up sc 0 S9) rf ar9 al → gW X 91 e 0 (j_av [.ref 0, .int x1, .int x2]) [] (va_up sc 0 S) rf ar al Post
def rF_91_20 (x1 : Int32) (x2 : Int32) (y0 : Int32) (S : (Nat → Int32)) (ar : jSc) : Option (Int32 × (Nat → Int32) × jSc) :=
  (o_b3 (rF_3 y0 (1 : Int32) S ar) (fun ve1 Se1 are1 => (if ve1 = 0 then (o_b2 (rF_87 x1 x2 (0 : Int32) (upd Se1 16 (0 : Int32)) are1) (fun Se3 are3 => (if (Se3 50) = 0 then some ((Se3 48), Se3, are3) else some ((-2 : Int32), Se3, are3)))) else some ((0 : Int32), Se1, are1))))
set_option maxHeartbeats 4000000 in
theorem rt_91_20 {X : jX} (hX : j_LK (g_n X) (g_L X)) (hr : g_rs X = r_sh) {rf : jRf} (hrf : rf 0 = r_rf) {d : Nat} {sc : jSc} {al : jAl} {Post : jPo} {r9 : Int32} {S9 : (Nat → Int32)} {ar9 : jSc} (hP : Post (some (.int r9)) (va_up sc 0 S9) rf ar9 al) (x1 : Int32) (x2 : Int32) (y0 : Int32) (S : (Nat → Int32)) (ar : jSc) (h : rF_91_20 x1 x2 y0 S ar = some (r9, S9, ar9)) : gL X 91 (d + 129) 20 [some (.ref 0), some (.int x1), some (.int x2)] [.int y0, .ref 0] (va_up sc 0 S) rf ar al Post := by
  unfold rF_91_20 at h
  refine gl_iconst hX q_91_20 ci_1 rfl ?_
  obtain ⟨ve1, Se1, are1, e1, h⟩ := o_k3 h
  refine gl_callV hX q_91_21 (qm_306 (by decide)) rfl rfl rfl (qs_0 hr) qx_3 rfl rfl ((rt_3 hX hr hrf) _ _ _ _ _ _ _ _ _ _ e1 ?_)
  refine gl_if_eq hX q_91_24 rfl rfl (fun c2 => ?_) (fun c2 => ?_)
  · have h := (if_pos c2).symm.trans h
    refine gl_aload_n hX q_91_29 rfl rfl ?_
    refine gl_iconst hX q_91_30 ci_0 rfl ?_
    refine gl_put hX q_91_31 (qf_316 (by decide)) (qs_0 hr) rfl qk_16 rfl ru rfl ?_
    refine gl_aload_n hX q_91_34 rfl rfl ?_
    refine gl_iload_n hX q_91_35 rfl rfl ?_
    refine gl_iload_n hX q_91_36 rfl rfl ?_
    refine gl_iconst hX q_91_37 ci_0 rfl ?_
    obtain ⟨Se3, are3, e3, h⟩ := o_k2 h
    refine gl_callV hX q_91_38 (qm_411 (by decide)) rfl rfl rfl (qs_0 hr) qx_87 rfl rfl ((rt_87 hX hr hrf) _ _ _ _ _ _ _ _ _ _ e3 ?_)
    refine gl_aload_n hX q_91_41 rfl rfl ?_
    refine gl_get hX q_91_42 (qf_399 (by decide)) (qs_0 hr) rfl qk_50 rfl rfl ?_
    refine gl_if_eq hX q_91_45 rfl rfl (fun c4 => ?_) (fun c4 => ?_)
    · have h := (if_pos c4).symm.trans h
      refine gl_aload_n hX q_91_53 rfl rfl ?_
      refine gl_get hX q_91_54 (qf_393 (by decide)) (qs_0 hr) rfl qk_48 rfl rfl ?_
      exact gl_ireturn q_91_57 (Or.inl qr_91) (by cases h; exact hP)
    · have h := (if_neg c4).symm.trans h
      refine gl_bipush hX q_91_48 cb_m2 rfl ?_
      refine gl_goto hX q_91_50 rfl ?_
      exact gl_ireturn q_91_57 (Or.inl qr_91) (by cases h; exact hP)
  · have h := (if_neg c2).symm.trans h
    refine gl_iconst hX q_91_27 ci_0 rfl ?_
    exact gl_ireturn q_91_28 (Or.inl qr_91) (by cases h; exact hP)
def rF_91 (x1 : Int32) (x2 : Int32) (S : (Nat → Int32)) (ar : jSc) : Option (Int32 × (Nat → Int32) × jSc) :=
  (o_b3 (rF_88 x1 x2 (upd S 0 (0 : Int32)) ar) (fun ve5 Se5 are5 => (if ve5 = 0 then rF_91_20 x1 x2 (1 : Int32) Se5 are5 else rF_91_20 x1 x2 (0 : Int32) Se5 are5)))
set_option maxHeartbeats 4000000 in
theorem rt_91 {X : jX} (hX : j_LK (g_n X) (g_L X)) (hr : g_rs X = r_sh) {rf : jRf} (hrf : rf 0 = r_rf) {d : Nat} : rT_91 X rf rF_91 (d + 129) := by
  intro sc al Post x1 x2 S ar r9 S9 ar9 h hP
  unfold rF_91 at h
  refine gl_entry (m := 0) rfl ?_
  show gL X 91 (d + 129) 0 [some (.ref 0), some (.int x1), some (.int x2)] [] (va_up sc 0 S) rf ar al Post
  refine gl_aload_n hX q_91_0 rfl rfl ?_
  refine gl_iconst hX q_91_1 ci_0 rfl ?_
  refine gl_put hX q_91_2 (qf_126 (by decide)) (qs_0 hr) rfl qk_0 rfl ru rfl ?_
  refine gl_aload_n hX q_91_5 rfl rfl ?_
  refine gl_aload_n hX q_91_6 rfl rfl ?_
  refine gl_iload_n hX q_91_7 rfl rfl ?_
  refine gl_iload_n hX q_91_8 rfl rfl ?_
  obtain ⟨ve5, Se5, are5, e5, h⟩ := o_k3 h
  refine gl_callV hX q_91_9 (qm_408 (by decide)) rfl rfl rfl (qs_0 hr) qx_88 rfl rfl ((rt_88 hX hr hrf) _ _ _ _ _ _ _ _ _ _ e5 ?_)
  refine gl_if_ne hX q_91_12 rfl rfl (fun c6 => ?_) (fun c6 => ?_)
  · have h := (if_pos c6).symm.trans h
    refine gl_iconst hX q_91_15 ci_1 rfl ?_
    refine gl_goto hX q_91_16 rfl ?_
    exact gl_weak (vs := [some (.ref 0), some (.int x1), some (.int x2)]) ⟨rfl, rfl, rfl, trivial⟩ (rt_91_20 hX hr hrf hP x1 x2 (1 : Int32) Se5 are5 h)
  · have h := (if_neg c6).symm.trans h
    refine gl_iconst hX q_91_19 ci_0 rfl ?_
    exact gl_weak (vs := [some (.ref 0), some (.int x1), some (.int x2)]) ⟨rfl, rfl, rfl, trivial⟩ (rt_91_20 hX hr hrf hP x1 x2 (0 : Int32) Se5 are5 h)
/-- ClickOrdersModel.reaches(II)Z -/
def rT_92 (X : jX) (rf : jRf) (F : Int32 → Int32 → (Nat → Int32) → jSc → Option (Int32 × (Nat → Int32) × jSc)) (e : Nat) : Prop := ∀ (sc : jSc) (al : jAl) (Post : jPo) (x1 : Int32) (x2 : Int32) (S : (Nat → Int32)) (ar : jSc) (r9 : Int32) (S9 : (Nat → Int32)) (ar9 : jSc), F x1 x2 S ar = some (r9, S9, ar9) → Post (some (.int r9)) (va_up sc 0 S9) rf ar9 al → gW X 92 e 0 (j_av [.ref 0, .int x1, .int x2]) [] (va_up sc 0 S) rf ar al Post
def rF_92_31 (g92 : Int32 → Int32 → (Nat → Int32) → jSc → Option (Int32 × (Nat → Int32) × jSc)) : Nat → Int32 → Int32 → Int32 → (Nat → Int32) → jSc → Option (Int32 × (Nat → Int32) × jSc)
  | 0, _, _, _, _, _ => none
  | nn + 1, x1, x2, x3, S, ar => (if (13 : Int32) ≤ x3 then some ((0 : Int32), S, ar) else (if x2 ≤ 0 then some ((0 : Int32), S, ar) else (if iB x1 4 then (o_b2 (rF_55 (730 + iN x1) 38 S ar) (fun Se4 are4 => (o_b3 (rF_50 x3 Se4 are4) (fun ve5 Se5 are5 => (if ve5 = 0 then rF_92_31 g92 nn x1 x2 (x3 + (1 : Int32)) Se5 are5 else (o_b3 (rF_52 x3 (-1 : Int32) Se5 are5) (fun ve7 Se7 are7 => (if iB (x1 + (1 : Int32)) 4 then (o_b2 (rF_56 (730 + iN (x1 + (1 : Int32))) 38 Se7 are7) (fun Se9 are9 => (o_b3 (g92 (x1 + (1 : Int32)) (x2 - (1 : Int32)) Se9 are9) (fun ve10 Se10 are10 => (if ve10 = 0 then rF_92_31 g92 nn x1 x2 (x3 + (1 : Int32)) Se10 are10 else some ((1 : Int32), Se10, are10)))))) else none)))))))) else none)))
set_option maxHeartbeats 4000000 in
theorem rt_92_31 {X : jX} (hX : j_LK (g_n X) (g_L X)) (hr : g_rs X = r_sh) {rf : jRf} (hrf : rf 0 = r_rf) {d : Nat} {g92 : Int32 → Int32 → (Nat → Int32) → jSc → Option (Int32 × (Nat → Int32) × jSc)} (hg92 : rT_92 X rf g92 (d + 126)) {sc : jSc} {al : jAl} {Post : jPo} {r9 : Int32} {S9 : (Nat → Int32)} {ar9 : jSc} (hP : Post (some (.int r9)) (va_up sc 0 S9) rf ar9 al) : ∀ (nn : Nat) (x1 : Int32) (x2 : Int32) (x3 : Int32) (S : (Nat → Int32)) (ar : jSc), rF_92_31 g92 nn x1 x2 x3 S ar = some (r9, S9, ar9) → gL X 92 (d + 127) 31 [some (.ref 0), some (.int x1), some (.int x2), some (.int x3)] [] (va_up sc 0 S) rf ar al Post := by
  intro nn
  induction nn with
  | zero =>
    intro x1 x2 x3 S ar h
    have h : (none : Option (Int32 × (Nat → Int32) × jSc)) = some _ := h
    cases h
  | succ nn ih =>
    intro x1 x2 x3 S ar h
    unfold rF_92_31 at h
    refine gl_iload_n hX q_92_31 rfl rfl ?_
    refine gl_bipush hX q_92_32 cb_13 rfl ?_
    refine gl_ic_ge hX q_92_34 rfl rfl (fun c1 => ?_) (fun c1 => ?_)
    · have h := (if_pos c1).symm.trans h
      refine gl_iconst hX q_92_102 ci_0 rfl ?_
      exact gl_ireturn q_92_103 (Or.inr ⟨qr_92, Or.inl rfl⟩) (by cases h; exact hP)
    · have h := (if_neg c1).symm.trans h
      refine gl_iload_n hX q_92_37 rfl rfl ?_
      refine gl_if_le hX q_92_38 rfl rfl (fun c2 => ?_) (fun c2 => ?_)
      · have h := (if_pos c2).symm.trans h
        refine gl_iconst hX q_92_102 ci_0 rfl ?_
        exact gl_ireturn q_92_103 (Or.inr ⟨qr_92, Or.inl rfl⟩) (by cases h; exact hP)
      · have h := (if_neg c2).symm.trans h
        refine gl_aload_n hX q_92_41 rfl rfl ?_
        refine gl_aload_n hX q_92_42 rfl rfl ?_
        refine gl_getA hX q_92_43 (qf_117 (by decide)) (qs_0 hr) rfl qk_59 ((congrFun hrf 59).trans qa_59) rfl ?_
        refine gl_iload_n hX q_92_46 rfl rfl ?_
        obtain ⟨c3, h⟩ := o_ck h
        refine gl_aaload hX q_92_47 (qs_729 hr) c3 (Or.inr ⟨Or.inl rfl, qs_0 hr⟩) (qo_729 (iB_lt c3)) rfl ?_
        obtain ⟨Se4, are4, e4, h⟩ := o_k2 h
        refine gl_callV hX q_92_48 (qm_351 (by decide)) rfl rfl rfl (qs_0 hr) qx_55 rfl rfl ((rt_55 hX hr hrf) _ _ _ _ _ (qs_reached hr (iB_lt c3)) _ _ _ _ e4 ?_)
        refine gl_aload_n hX q_92_51 rfl rfl ?_
        refine gl_iload_n hX q_92_52 rfl rfl ?_
        obtain ⟨ve5, Se5, are5, e5, h⟩ := o_k3 h
        refine gl_callV hX q_92_53 (qm_354 (by decide)) rfl rfl rfl (qs_0 hr) qx_50 rfl rfl ((rt_50 hX hr hrf) _ _ _ _ _ _ _ _ _ e5 ?_)
        refine gl_if_ne hX q_92_56 rfl rfl (fun c6 => ?_) (fun c6 => ?_)
        · have h := (if_pos c6).symm.trans h
          refine gl_goto hX q_92_59 rfl ?_
          refine gl_iinc (vs2 := [some (.ref 0), some (.int x1), some (.int x2), some (.int (x3 + (1 : Int32)))]) hX q_92_96 rfl rfl rfl ci_1 rfl rfl ?_
          refine gl_goto hX q_92_99 rfl ?_
          exact gl_weak (vs := [some (.ref 0), some (.int x1), some (.int x2), some (.int (x3 + (1 : Int32)))]) ⟨rfl, rfl, rfl, rfl, trivial⟩ (ih x1 x2 (x3 + (1 : Int32)) Se5 are5 h)
        · have h := (if_neg c6).symm.trans h
          refine gl_aload_n hX q_92_62 rfl rfl ?_
          refine gl_iload_n hX q_92_63 rfl rfl ?_
          refine gl_iconst hX q_92_64 ci_m1 rfl ?_
          obtain ⟨ve7, Se7, are7, e7, h⟩ := o_k3 h
          refine gl_callV hX q_92_65 (qm_357 (by decide)) rfl rfl rfl (qs_0 hr) qx_52 rfl rfl ((rt_52 hX hr hrf) _ _ _ _ _ _ _ _ _ _ e7 ?_)
          refine gl_pop hX q_92_68 rfl rfl ?_
          refine gl_aload_n hX q_92_69 rfl rfl ?_
          refine gl_aload_n hX q_92_70 rfl rfl ?_
          refine gl_getA hX q_92_71 (qf_117 (by decide)) (qs_0 hr) rfl qk_59 ((congrFun hrf 59).trans qa_59) rfl ?_
          refine gl_iload_n hX q_92_74 rfl rfl ?_
          refine gl_iconst hX q_92_75 ci_1 rfl ?_
          refine gl_iadd hX q_92_76 rfl ?_
          obtain ⟨c8, h⟩ := o_ck h
          refine gl_aaload hX q_92_77 (qs_729 hr) c8 (Or.inr ⟨Or.inl rfl, qs_0 hr⟩) (qo_729 (iB_lt c8)) rfl ?_
          obtain ⟨Se9, are9, e9, h⟩ := o_k2 h
          refine gl_callV hX q_92_78 (qm_347 (by decide)) rfl rfl rfl (qs_0 hr) qx_56 rfl rfl ((rt_56 hX hr hrf) _ _ _ _ _ (qs_reached hr (iB_lt c8)) _ _ _ _ e9 ?_)
          refine gl_aload_n hX q_92_81 rfl rfl ?_
          refine gl_iload_n hX q_92_82 rfl rfl ?_
          refine gl_iconst hX q_92_83 ci_1 rfl ?_
          refine gl_iadd hX q_92_84 rfl ?_
          refine gl_iload_n hX q_92_85 rfl rfl ?_
          refine gl_iconst hX q_92_86 ci_1 rfl ?_
          refine gl_isub hX q_92_87 rfl ?_
          obtain ⟨ve10, Se10, are10, e10, h⟩ := o_k3 h
          refine gl_callV hX q_92_88 (qm_415 (by decide)) rfl rfl rfl (qs_0 hr) qx_92 rfl rfl (hg92 _ _ _ _ _ _ _ _ _ _ e10 ?_)
          refine gl_if_eq hX q_92_91 rfl rfl (fun c11 => ?_) (fun c11 => ?_)
          · have h := (if_pos c11).symm.trans h
            refine gl_iinc (vs2 := [some (.ref 0), some (.int x1), some (.int x2), some (.int (x3 + (1 : Int32)))]) hX q_92_96 rfl rfl rfl ci_1 rfl rfl ?_
            refine gl_goto hX q_92_99 rfl ?_
            exact gl_weak (vs := [some (.ref 0), some (.int x1), some (.int x2), some (.int (x3 + (1 : Int32)))]) ⟨rfl, rfl, rfl, rfl, trivial⟩ (ih x1 x2 (x3 + (1 : Int32)) Se10 are10 h)
          · have h := (if_neg c11).symm.trans h
            refine gl_iconst hX q_92_94 ci_1 rfl ?_
            exact gl_ireturn q_92_95 (Or.inr ⟨qr_92, Or.inr rfl⟩) (by cases h; exact hP)
def rF_92 (g92 : Int32 → Int32 → (Nat → Int32) → jSc → Option (Int32 × (Nat → Int32) × jSc)) (x1 : Int32) (x2 : Int32) (S : (Nat → Int32)) (ar : jSc) : Option (Int32 × (Nat → Int32) × jSc) :=
  (if iB x1 4 then (o_b2 (rF_55 (730 + iN x1) 38 S ar) (fun Se13 are13 => (if iB (Se13 16) 2 then (o_b3 (rF_47 (are13 11 (iN (Se13 16))) (1 : Int32) Se13 are13) (fun ve15 Se15 are15 => (if ve15 = 0 then rF_92_31 g92 oF x1 x2 (0 : Int32) Se15 are15 else some ((1 : Int32), Se15, are15)))) else none))) else none)
set_option maxHeartbeats 4000000 in
theorem rt_92 {X : jX} (hX : j_LK (g_n X) (g_L X)) (hr : g_rs X = r_sh) {rf : jRf} (hrf : rf 0 = r_rf) {d : Nat} {g92 : Int32 → Int32 → (Nat → Int32) → jSc → Option (Int32 × (Nat → Int32) × jSc)} (hg92 : rT_92 X rf g92 (d + 126)) : rT_92 X rf (rF_92 g92) (d + 127) := by
  intro sc al Post x1 x2 S ar r9 S9 ar9 h hP
  unfold rF_92 at h
  refine gl_entry (m := 1) rfl ?_
  show gL X 92 (d + 127) 0 [some (.ref 0), some (.int x1), some (.int x2), none] [] (va_up sc 0 S) rf ar al Post
  refine gl_aload_n hX q_92_0 rfl rfl ?_
  refine gl_aload_n hX q_92_1 rfl rfl ?_
  refine gl_getA hX q_92_2 (qf_117 (by decide)) (qs_0 hr) rfl qk_59 ((congrFun hrf 59).trans qa_59) rfl ?_
  refine gl_iload_n hX q_92_5 rfl rfl ?_
  obtain ⟨c12, h⟩ := o_ck h
  refine gl_aaload hX q_92_6 (qs_729 hr) c12 (Or.inr ⟨Or.inl rfl, qs_0 hr⟩) (qo_729 (iB_lt c12)) rfl ?_
  obtain ⟨Se13, are13, e13, h⟩ := o_k2 h
  refine gl_callV hX q_92_7 (qm_351 (by decide)) rfl rfl rfl (qs_0 hr) qx_55 rfl rfl ((rt_55 hX hr hrf) _ _ _ _ _ (qs_reached hr (iB_lt c12)) _ _ _ _ e13 ?_)
  refine gl_aload_n hX q_92_10 rfl rfl ?_
  refine gl_aload_n hX q_92_11 rfl rfl ?_
  refine gl_getA hX q_92_12 (qf_36 (by decide)) (qs_0 hr) rfl qk_15 ((congrFun hrf 15).trans qa_15) rfl ?_
  refine gl_aload_n hX q_92_15 rfl rfl ?_
  refine gl_get hX q_92_16 (qf_316 (by decide)) (qs_0 hr) rfl qk_16 rfl rfl ?_
  obtain ⟨c14, h⟩ := o_ck h
  refine gl_iaload hX q_92_19 (qs_11 hr) c14 rfl rfl ?_
  refine gl_iconst hX q_92_20 ci_1 rfl ?_
  obtain ⟨ve15, Se15, are15, e15, h⟩ := o_k3 h
  refine gl_callV hX q_92_21 (qm_337 (by decide)) rfl rfl rfl (qs_0 hr) qx_47 rfl rfl ((rt_47 hX hr hrf) _ _ _ _ _ _ _ _ _ _ e15 ?_)
  refine gl_if_eq hX q_92_24 rfl rfl (fun c16 => ?_) (fun c16 => ?_)
  · have h := (if_pos c16).symm.trans h
    refine gl_iconst hX q_92_29 ci_0 rfl ?_
    refine gl_istore_n (vs2 := [some (.ref 0), some (.int x1), some (.int x2), some (.int (0 : Int32))]) hX q_92_30 rfl rfl rfl rfl ?_
    exact gl_weak (vs := [some (.ref 0), some (.int x1), some (.int x2), some (.int (0 : Int32))]) ⟨rfl, rfl, rfl, rfl, trivial⟩ (rt_92_31 hX hr hrf hg92 hP oF x1 x2 (0 : Int32) Se15 are15 h)
  · have h := (if_neg c16).symm.trans h
    refine gl_iconst hX q_92_27 ci_1 rfl ?_
    exact gl_ireturn q_92_28 (Or.inr ⟨qr_92, Or.inr rfl⟩) (by cases h; exact hP)
def rG_92 : Nat → (Int32 → Int32 → (Nat → Int32) → jSc → Option (Int32 × (Nat → Int32) × jSc))
  | 0 => (fun _ _ _ _ => none)
  | n + 1 => (rF_92 (rG_92 n))
theorem rtG_92 {X : jX} (hX : j_LK (g_n X) (g_L X)) (hr : g_rs X = r_sh) {rf : jRf} (hrf : rf 0 = r_rf) {d : Nat} : ∀ n : Nat, rT_92 X rf (rG_92 n) (d + n + 126) := by
  intro n
  induction n with
  | zero =>
    · intro sc al Post x1 x2 S ar r9 S9 ar9 h hP
      cases (show (none : Option (Int32 × (Nat → Int32) × jSc)) = some _ from h)
  | succ n ih =>
    have e : d + n + 126 + 1 = d + (n + 1) + 126 := by omega
    rw [← e]
    exact rt_92 hX hr hrf (d := d + n) ih
/-- ClickOrdersModel.stuckOnes(I)I -/
def rT_93 (X : jX) (rf : jRf) (F : Int32 → (Nat → Int32) → jSc → Option (Int32 × (Nat → Int32) × jSc)) (e : Nat) : Prop := ∀ (sc : jSc) (al : jAl) (Post : jPo) (x1 : Int32) (S : (Nat → Int32)) (ar : jSc) (r9 : Int32) (S9 : (Nat → Int32)) (ar9 : jSc), F x1 S ar = some (r9, S9, ar9) → Post (some (.int r9)) (va_up sc 0 S9) rf ar9 al → gW X 93 e 0 (j_av [.ref 0, .int x1]) [] (va_up sc 0 S) rf ar al Post
def rF_93_15 (k4 : Int32 → Int32 → Int32 → (Nat → Int32) → jSc → Option (Int32 × (Nat → Int32) × jSc)) : Nat → Int32 → Int32 → Int32 → Int32 → (Nat → Int32) → jSc → Option (Int32 × (Nat → Int32) × jSc)
  | 0, _, _, _, _, _, _ => none
  | nn + 1, x1, x2, x3, x4, S, ar => (if (38 : Int32) ≤ x4 then (o_b3 ((rG_92 40) (0 : Int32) x1 S ar) (fun ve2 Se2 are2 => (if ve2 = 0 then k4 x1 (x2 + (1 : Int32)) (x3 + (1 : Int32)) Se2 are2 else k4 x1 (x2 + (0 : Int32)) (x3 + (1 : Int32)) Se2 are2))) else (if iB x3 600 then (if iB x4 38 then (if iB x4 38 then rF_93_15 k4 nn x1 x2 x3 (x4 + (1 : Int32)) S (j_u2 ar 730 (iN x4) (ar (108 + iN x3) (iN x4))) else none) else none) else none))
set_option maxHeartbeats 4000000 in
theorem rt_93_15 {X : jX} (hX : j_LK (g_n X) (g_L X)) (hr : g_rs X = r_sh) {rf : jRf} (hrf : rf 0 = r_rf) {d : Nat} {sc : jSc} {al : jAl} {Post : jPo} {r9 : Int32} {S9 : (Nat → Int32)} {ar9 : jSc} {k4 : Int32 → Int32 → Int32 → (Nat → Int32) → jSc → Option (Int32 × (Nat → Int32) × jSc)} (hk4 : ∀ (x1 : Int32) (x2 : Int32) (x3 : Int32) (S : (Nat → Int32)) (ar : jSc), k4 x1 x2 x3 S ar = some (r9, S9, ar9) → gL X 93 (d + 167) 4 [some (.ref 0), some (.int x1), some (.int x2), some (.int x3), none] [] (va_up sc 0 S) rf ar al Post) (hP : Post (some (.int r9)) (va_up sc 0 S9) rf ar9 al) : ∀ (nn : Nat) (x1 : Int32) (x2 : Int32) (x3 : Int32) (x4 : Int32) (S : (Nat → Int32)) (ar : jSc), rF_93_15 k4 nn x1 x2 x3 x4 S ar = some (r9, S9, ar9) → gL X 93 (d + 167) 15 [some (.ref 0), some (.int x1), some (.int x2), some (.int x3), some (.int x4)] [] (va_up sc 0 S) rf ar al Post := by
  intro nn
  induction nn with
  | zero =>
    intro x1 x2 x3 x4 S ar h
    have h : (none : Option (Int32 × (Nat → Int32) × jSc)) = some _ := h
    cases h
  | succ nn ih =>
    intro x1 x2 x3 x4 S ar h
    unfold rF_93_15 at h
    refine gl_iload hX q_93_15 rfl rfl ?_
    refine gl_bipush hX q_93_17 cb_38 rfl ?_
    refine gl_ic_ge hX q_93_19 rfl rfl (fun c1 => ?_) (fun c1 => ?_)
    · have h := (if_pos c1).symm.trans h
      refine gl_iload_n hX q_93_46 rfl rfl ?_
      refine gl_aload_n hX q_93_47 rfl rfl ?_
      refine gl_iconst hX q_93_48 ci_0 rfl ?_
      refine gl_iload_n hX q_93_49 rfl rfl ?_
      obtain ⟨ve2, Se2, are2, e2, h⟩ := o_k3 h
      refine gl_callV hX q_93_50 (qm_415 (by decide)) rfl rfl rfl (qs_0 hr) qx_92 rfl rfl (((rtG_92 hX hr hrf 40)) _ _ _ _ _ _ _ _ _ _ e2 ?_)
      refine gl_if_eq hX q_93_53 rfl rfl (fun c3 => ?_) (fun c3 => ?_)
      · have h := (if_pos c3).symm.trans h
        refine gl_iconst hX q_93_60 ci_1 rfl ?_
        refine gl_iadd hX q_93_61 rfl ?_
        refine gl_istore_n (vs2 := [some (.ref 0), some (.int x1), some (.int (x2 + (1 : Int32))), some (.int x3), some (.int x4)]) hX q_93_62 rfl rfl rfl rfl ?_
        refine gl_iinc (vs2 := [some (.ref 0), some (.int x1), some (.int (x2 + (1 : Int32))), some (.int (x3 + (1 : Int32))), some (.int x4)]) hX q_93_63 rfl rfl rfl ci_1 rfl rfl ?_
        refine gl_goto hX q_93_66 rfl ?_
        exact gl_weak (vs := [some (.ref 0), some (.int x1), some (.int (x2 + (1 : Int32))), some (.int (x3 + (1 : Int32))), none]) ⟨rfl, rfl, rfl, rfl, trivial⟩ (hk4 x1 (x2 + (1 : Int32)) (x3 + (1 : Int32)) Se2 are2 h)
      · have h := (if_neg c3).symm.trans h
        refine gl_iconst hX q_93_56 ci_0 rfl ?_
        refine gl_goto hX q_93_57 rfl ?_
        refine gl_iadd hX q_93_61 rfl ?_
        refine gl_istore_n (vs2 := [some (.ref 0), some (.int x1), some (.int (x2 + (0 : Int32))), some (.int x3), some (.int x4)]) hX q_93_62 rfl rfl rfl rfl ?_
        refine gl_iinc (vs2 := [some (.ref 0), some (.int x1), some (.int (x2 + (0 : Int32))), some (.int (x3 + (1 : Int32))), some (.int x4)]) hX q_93_63 rfl rfl rfl ci_1 rfl rfl ?_
        refine gl_goto hX q_93_66 rfl ?_
        exact gl_weak (vs := [some (.ref 0), some (.int x1), some (.int (x2 + (0 : Int32))), some (.int (x3 + (1 : Int32))), none]) ⟨rfl, rfl, rfl, rfl, trivial⟩ (hk4 x1 (x2 + (0 : Int32)) (x3 + (1 : Int32)) Se2 are2 h)
    · have h := (if_neg c1).symm.trans h
      refine gl_aload_n hX q_93_22 rfl rfl ?_
      refine gl_getA hX q_93_23 (qf_117 (by decide)) (qs_0 hr) rfl qk_59 ((congrFun hrf 59).trans qa_59) rfl ?_
      refine gl_iconst hX q_93_26 ci_0 rfl ?_
      refine gl_aaload hX q_93_27 (qs_729 hr) (show iB (0 : Int32) 4 by decide) (Or.inr ⟨Or.inl rfl, qs_0 hr⟩) (qo_729 (iB_lt (show iB (0 : Int32) 4 by decide))) rfl ?_
      refine gl_iload hX q_93_28 rfl rfl ?_
      refine gl_aload_n hX q_93_30 rfl rfl ?_
      refine gl_getA hX q_93_31 (qf_87 (by decide)) (qs_0 hr) rfl qk_44 ((congrFun hrf 44).trans qa_44) rfl ?_
      refine gl_iload_n hX q_93_34 rfl rfl ?_
      obtain ⟨c4, h⟩ := o_ck h
      refine gl_aaload hX q_93_35 (qs_107 hr) c4 (Or.inr ⟨Or.inl rfl, qs_0 hr⟩) (qo_107 (iB_lt c4)) rfl ?_
      refine gl_iload hX q_93_36 rfl rfl ?_
      obtain ⟨c5, h⟩ := o_ck h
      refine gl_iaload hX q_93_38 (qs_met hr (iB_lt c4)) c5 rfl rfl ?_
      obtain ⟨c6, h⟩ := o_ck h
      refine gl_iastore (ar2 := (j_u2 ar 730 (iN x4) (ar (108 + iN x3) (iN x4)))) hX q_93_39 (qs_reached hr (i := 0) (by decide)) c6 rfl rfl ?_
      refine gl_iinc (vs2 := [some (.ref 0), some (.int x1), some (.int x2), some (.int x3), some (.int (x4 + (1 : Int32)))]) hX q_93_40 rfl rfl rfl ci_1 rfl rfl ?_
      refine gl_goto hX q_93_43 rfl ?_
      exact gl_weak (vs := [some (.ref 0), some (.int x1), some (.int x2), some (.int x3), some (.int (x4 + (1 : Int32)))]) ⟨rfl, rfl, rfl, rfl, rfl, trivial⟩ (ih x1 x2 x3 (x4 + (1 : Int32)) S (j_u2 ar 730 (iN x4) (ar (108 + iN x3) (iN x4))) h)
def rF_93_4 : Nat → Int32 → Int32 → Int32 → (Nat → Int32) → jSc → Option (Int32 × (Nat → Int32) × jSc)
  | 0, _, _, _, _, _ => none
  | nn + 1, x1, x2, x3, S, ar => (if (S 48) ≤ x3 then some (x2, S, ar) else rF_93_15 (fun x1_ x2_ x3_ S_ ar_ => rF_93_4 nn x1_ x2_ x3_ S_ ar_) oF x1 x2 x3 (0 : Int32) S ar)
set_option maxHeartbeats 4000000 in
theorem rt_93_4 {X : jX} (hX : j_LK (g_n X) (g_L X)) (hr : g_rs X = r_sh) {rf : jRf} (hrf : rf 0 = r_rf) {d : Nat} {sc : jSc} {al : jAl} {Post : jPo} {r9 : Int32} {S9 : (Nat → Int32)} {ar9 : jSc} (hP : Post (some (.int r9)) (va_up sc 0 S9) rf ar9 al) : ∀ (nn : Nat) (x1 : Int32) (x2 : Int32) (x3 : Int32) (S : (Nat → Int32)) (ar : jSc), rF_93_4 nn x1 x2 x3 S ar = some (r9, S9, ar9) → gL X 93 (d + 167) 4 [some (.ref 0), some (.int x1), some (.int x2), some (.int x3), none] [] (va_up sc 0 S) rf ar al Post := by
  intro nn
  induction nn with
  | zero =>
    intro x1 x2 x3 S ar h
    have h : (none : Option (Int32 × (Nat → Int32) × jSc)) = some _ := h
    cases h
  | succ nn ih =>
    intro x1 x2 x3 S ar h
    unfold rF_93_4 at h
    refine gl_iload_n hX q_93_4 rfl rfl ?_
    refine gl_aload_n hX q_93_5 rfl rfl ?_
    refine gl_get hX q_93_6 (qf_393 (by decide)) (qs_0 hr) rfl qk_48 rfl rfl ?_
    refine gl_ic_ge hX q_93_9 rfl rfl (fun c7 => ?_) (fun c7 => ?_)
    · have h := (if_pos c7).symm.trans h
      refine gl_iload_n hX q_93_69 rfl rfl ?_
      exact gl_ireturn q_93_70 (Or.inl qr_93) (by cases h; exact hP)
    · have h := (if_neg c7).symm.trans h
      refine gl_iconst hX q_93_12 ci_0 rfl ?_
      refine gl_istore (vs2 := [some (.ref 0), some (.int x1), some (.int x2), some (.int x3), some (.int (0 : Int32))]) hX q_93_13 rfl rfl rfl rfl ?_
      exact gl_weak (vs := [some (.ref 0), some (.int x1), some (.int x2), some (.int x3), some (.int (0 : Int32))]) ⟨rfl, rfl, rfl, rfl, rfl, trivial⟩ (rt_93_15 hX hr hrf ih hP oF x1 x2 x3 (0 : Int32) S ar h)
def rF_93 (x1 : Int32) (S : (Nat → Int32)) (ar : jSc) : Option (Int32 × (Nat → Int32) × jSc) :=
  rF_93_4 oF x1 (0 : Int32) (0 : Int32) S ar
set_option maxHeartbeats 4000000 in
theorem rt_93 {X : jX} (hX : j_LK (g_n X) (g_L X)) (hr : g_rs X = r_sh) {rf : jRf} (hrf : rf 0 = r_rf) {d : Nat} : rT_93 X rf rF_93 (d + 167) := by
  intro sc al Post x1 S ar r9 S9 ar9 h hP
  unfold rF_93 at h
  refine gl_entry (m := 3) rfl ?_
  show gL X 93 (d + 167) 0 [some (.ref 0), some (.int x1), none, none, none] [] (va_up sc 0 S) rf ar al Post
  refine gl_iconst hX q_93_0 ci_0 rfl ?_
  refine gl_istore_n (vs2 := [some (.ref 0), some (.int x1), some (.int (0 : Int32)), none, none]) hX q_93_1 rfl rfl rfl rfl ?_
  refine gl_iconst hX q_93_2 ci_0 rfl ?_
  refine gl_istore_n (vs2 := [some (.ref 0), some (.int x1), some (.int (0 : Int32)), some (.int (0 : Int32)), none]) hX q_93_3 rfl rfl rfl rfl ?_
  exact gl_weak (vs := [some (.ref 0), some (.int x1), some (.int (0 : Int32)), some (.int (0 : Int32)), none]) ⟨rfl, rfl, rfl, rfl, trivial⟩ (rt_93_4 hX hr hrf hP oF x1 (0 : Int32) (0 : Int32) S ar h)
/-- ClickOrdersModel.stuck(III)I -/
def rT_94 (X : jX) (rf : jRf) (F : Int32 → Int32 → Int32 → (Nat → Int32) → jSc → Option (Int32 × (Nat → Int32) × jSc)) (e : Nat) : Prop := ∀ (sc : jSc) (al : jAl) (Post : jPo) (x1 : Int32) (x2 : Int32) (x3 : Int32) (S : (Nat → Int32)) (ar : jSc) (r9 : Int32) (S9 : (Nat → Int32)) (ar9 : jSc), F x1 x2 x3 S ar = some (r9, S9, ar9) → Post (some (.int r9)) (va_up sc 0 S9) rf ar9 al → gW X 94 e 0 (j_av [.ref 0, .int x1, .int x2, .int x3]) [] (va_up sc 0 S) rf ar al Post
def rF_94_29 (x1 : Int32) (x2 : Int32) (x3 : Int32) (y0 : Int32) (S : (Nat → Int32)) (ar : jSc) : Option (Int32 × (Nat → Int32) × jSc) :=
  (o_b3 (rF_3 y0 (1 : Int32) S ar) (fun ve1 Se1 are1 => (if ve1 = 0 then (o_b2 (rF_87 x1 x3 (0 : Int32) (upd Se1 16 (0 : Int32)) are1) (fun Se3 are3 => (if (Se3 50) = 0 then (o_b3 (rF_93 x2 Se3 are3) (fun ve5 Se5 are5 => some (ve5, Se5, are5))) else some ((-2 : Int32), Se3, are3)))) else some ((0 : Int32), Se1, are1))))
set_option maxHeartbeats 4000000 in
theorem rt_94_29 {X : jX} (hX : j_LK (g_n X) (g_L X)) (hr : g_rs X = r_sh) {rf : jRf} (hrf : rf 0 = r_rf) {d : Nat} {sc : jSc} {al : jAl} {Post : jPo} {r9 : Int32} {S9 : (Nat → Int32)} {ar9 : jSc} (hP : Post (some (.int r9)) (va_up sc 0 S9) rf ar9 al) (x1 : Int32) (x2 : Int32) (x3 : Int32) (y0 : Int32) (S : (Nat → Int32)) (ar : jSc) (h : rF_94_29 x1 x2 x3 y0 S ar = some (r9, S9, ar9)) : gL X 94 (d + 168) 29 [some (.ref 0), some (.int x1), some (.int x2), some (.int x3)] [.int y0, .ref 0] (va_up sc 0 S) rf ar al Post := by
  unfold rF_94_29 at h
  refine gl_iconst hX q_94_29 ci_1 rfl ?_
  obtain ⟨ve1, Se1, are1, e1, h⟩ := o_k3 h
  refine gl_callV hX q_94_30 (qm_306 (by decide)) rfl rfl rfl (qs_0 hr) qx_3 rfl rfl ((rt_3 hX hr hrf) _ _ _ _ _ _ _ _ _ _ e1 ?_)
  refine gl_if_eq hX q_94_33 rfl rfl (fun c2 => ?_) (fun c2 => ?_)
  · have h := (if_pos c2).symm.trans h
    refine gl_aload_n hX q_94_38 rfl rfl ?_
    refine gl_iconst hX q_94_39 ci_0 rfl ?_
    refine gl_put hX q_94_40 (qf_316 (by decide)) (qs_0 hr) rfl qk_16 rfl ru rfl ?_
    refine gl_aload_n hX q_94_43 rfl rfl ?_
    refine gl_iload_n hX q_94_44 rfl rfl ?_
    refine gl_iload_n hX q_94_45 rfl rfl ?_
    refine gl_iconst hX q_94_46 ci_0 rfl ?_
    obtain ⟨Se3, are3, e3, h⟩ := o_k2 h
    refine gl_callV hX q_94_47 (qm_411 (by decide)) rfl rfl rfl (qs_0 hr) qx_87 rfl rfl ((rt_87 hX hr hrf) _ _ _ _ _ _ _ _ _ _ e3 ?_)
    refine gl_aload_n hX q_94_50 rfl rfl ?_
    refine gl_get hX q_94_51 (qf_399 (by decide)) (qs_0 hr) rfl qk_50 rfl rfl ?_
    refine gl_if_eq hX q_94_54 rfl rfl (fun c4 => ?_) (fun c4 => ?_)
    · have h := (if_pos c4).symm.trans h
      refine gl_aload_n hX q_94_62 rfl rfl ?_
      refine gl_iload_n hX q_94_63 rfl rfl ?_
      obtain ⟨ve5, Se5, are5, e5, h⟩ := o_k3 h
      refine gl_callV hX q_94_64 (qm_418 (by decide)) rfl rfl rfl (qs_0 hr) qx_93 rfl rfl ((rt_93 hX hr hrf) _ _ _ _ _ _ _ _ _ e5 ?_)
      exact gl_ireturn q_94_67 (Or.inl qr_94) (by cases h; exact hP)
    · have h := (if_neg c4).symm.trans h
      refine gl_bipush hX q_94_57 cb_m2 rfl ?_
      refine gl_goto hX q_94_59 rfl ?_
      exact gl_ireturn q_94_67 (Or.inl qr_94) (by cases h; exact hP)
  · have h := (if_neg c2).symm.trans h
    refine gl_iconst hX q_94_36 ci_0 rfl ?_
    exact gl_ireturn q_94_37 (Or.inl qr_94) (by cases h; exact hP)
def rF_94 (x1 : Int32) (x2 : Int32) (x3 : Int32) (S : (Nat → Int32)) (ar : jSc) : Option (Int32 × (Nat → Int32) × jSc) :=
  (o_b3 (rF_88 x1 x3 (upd S 0 (0 : Int32)) ar) (fun ve6 Se6 are6 => (if ve6 = 0 then rF_94_29 x1 x2 x3 (1 : Int32) Se6 are6 else (o_b3 (rF_4 x2 (0 : Int32) (3 : Int32) Se6 are6) (fun ve8 Se8 are8 => (if ve8 = 0 then rF_94_29 x1 x2 x3 (1 : Int32) Se8 are8 else rF_94_29 x1 x2 x3 (0 : Int32) Se8 are8))))))
set_option maxHeartbeats 4000000 in
theorem rt_94 {X : jX} (hX : j_LK (g_n X) (g_L X)) (hr : g_rs X = r_sh) {rf : jRf} (hrf : rf 0 = r_rf) {d : Nat} : rT_94 X rf rF_94 (d + 168) := by
  intro sc al Post x1 x2 x3 S ar r9 S9 ar9 h hP
  unfold rF_94 at h
  refine gl_entry (m := 0) rfl ?_
  show gL X 94 (d + 168) 0 [some (.ref 0), some (.int x1), some (.int x2), some (.int x3)] [] (va_up sc 0 S) rf ar al Post
  refine gl_aload_n hX q_94_0 rfl rfl ?_
  refine gl_iconst hX q_94_1 ci_0 rfl ?_
  refine gl_put hX q_94_2 (qf_126 (by decide)) (qs_0 hr) rfl qk_0 rfl ru rfl ?_
  refine gl_aload_n hX q_94_5 rfl rfl ?_
  refine gl_aload_n hX q_94_6 rfl rfl ?_
  refine gl_iload_n hX q_94_7 rfl rfl ?_
  refine gl_iload_n hX q_94_8 rfl rfl ?_
  obtain ⟨ve6, Se6, are6, e6, h⟩ := o_k3 h
  refine gl_callV hX q_94_9 (qm_408 (by decide)) rfl rfl rfl (qs_0 hr) qx_88 rfl rfl ((rt_88 hX hr hrf) _ _ _ _ _ _ _ _ _ _ e6 ?_)
  refine gl_if_eq hX q_94_12 rfl rfl (fun c7 => ?_) (fun c7 => ?_)
  · have h := (if_pos c7).symm.trans h
    refine gl_iconst hX q_94_24 ci_1 rfl ?_
    refine gl_goto hX q_94_25 rfl ?_
    exact gl_weak (vs := [some (.ref 0), some (.int x1), some (.int x2), some (.int x3)]) ⟨rfl, rfl, rfl, rfl, trivial⟩ (rt_94_29 hX hr hrf hP x1 x2 x3 (1 : Int32) Se6 are6 h)
  · have h := (if_neg c7).symm.trans h
    refine gl_iload_n hX q_94_15 rfl rfl ?_
    refine gl_iconst hX q_94_16 ci_0 rfl ?_
    refine gl_iconst hX q_94_17 ci_3 rfl ?_
    obtain ⟨ve8, Se8, are8, e8, h⟩ := o_k3 h
    refine gl_callS q_94_18 (qm_247 (by decide)) rfl rfl rfl qx_4 rfl rfl ((rt_4 hX hr hrf) _ _ _ _ _ _ _ _ _ _ _ e8 ?_)
    refine gl_if_ne hX q_94_21 rfl rfl (fun c9 => ?_) (fun c9 => ?_)
    · have h := (if_pos c9).symm.trans h
      refine gl_iconst hX q_94_24 ci_1 rfl ?_
      refine gl_goto hX q_94_25 rfl ?_
      exact gl_weak (vs := [some (.ref 0), some (.int x1), some (.int x2), some (.int x3)]) ⟨rfl, rfl, rfl, rfl, trivial⟩ (rt_94_29 hX hr hrf hP x1 x2 x3 (1 : Int32) Se8 are8 h)
    · have h := (if_neg c9).symm.trans h
      refine gl_iconst hX q_94_28 ci_0 rfl ?_
      exact gl_weak (vs := [some (.ref 0), some (.int x1), some (.int x2), some (.int x3)]) ⟨rfl, rfl, rfl, rfl, trivial⟩ (rt_94_29 hX hr hrf hP x1 x2 x3 (0 : Int32) Se8 are8 h)
/-- ClickOrdersModel.tell(I)I -/
def rT_95 (X : jX) (rf : jRf) (F : Int32 → (Nat → Int32) → jSc → Option (Int32 × (Nat → Int32) × jSc)) (e : Nat) : Prop := ∀ (sc : jSc) (al : jAl) (Post : jPo) (x1 : Int32) (S : (Nat → Int32)) (ar : jSc) (r9 : Int32) (S9 : (Nat → Int32)) (ar9 : jSc), F x1 S ar = some (r9, S9, ar9) → Post (some (.int r9)) (va_up sc 0 S9) rf ar9 al → gW X 95 e 0 (j_av [.ref 0, .int x1]) [] (va_up sc 0 S) rf ar al Post
def rF_95_21 (x1 : Int32) (y0 : Int32) (S : (Nat → Int32)) (ar : jSc) : Option (Int32 × (Nat → Int32) × jSc) :=
  (o_b3 (rF_3 y0 (1 : Int32) S ar) (fun ve1 Se1 are1 => (if ve1 = 0 then (if (Se1 51) = (40 : Int32) then some ((-1 : Int32), Se1, are1) else (if iB (Se1 51) 40 then some (((Se1 51) + (1 : Int32)), (upd Se1 51 ((Se1 51) + (1 : Int32))), (j_u2 are1 711 (iN (Se1 51)) x1)) else none)) else some ((0 : Int32), Se1, are1))))
set_option maxHeartbeats 4000000 in
theorem rt_95_21 {X : jX} (hX : j_LK (g_n X) (g_L X)) (hr : g_rs X = r_sh) {rf : jRf} (hrf : rf 0 = r_rf) {d : Nat} {sc : jSc} {al : jAl} {Post : jPo} {r9 : Int32} {S9 : (Nat → Int32)} {ar9 : jSc} (hP : Post (some (.int r9)) (va_up sc 0 S9) rf ar9 al) (x1 : Int32) (y0 : Int32) (S : (Nat → Int32)) (ar : jSc) (h : rF_95_21 x1 y0 S ar = some (r9, S9, ar9)) : gL X 95 (d + 2) 21 [some (.ref 0), some (.int x1)] [.int y0, .ref 0] (va_up sc 0 S) rf ar al Post := by
  unfold rF_95_21 at h
  refine gl_iconst hX q_95_21 ci_1 rfl ?_
  obtain ⟨ve1, Se1, are1, e1, h⟩ := o_k3 h
  refine gl_callV hX q_95_22 (qm_306 (by decide)) rfl rfl rfl (qs_0 hr) qx_3 rfl rfl ((rt_3 hX hr hrf) _ _ _ _ _ _ _ _ _ _ e1 ?_)
  refine gl_if_eq hX q_95_25 rfl rfl (fun c2 => ?_) (fun c2 => ?_)
  · have h := (if_pos c2).symm.trans h
    refine gl_aload_n hX q_95_30 rfl rfl ?_
    refine gl_get hX q_95_31 (qf_421 (by decide)) (qs_0 hr) rfl qk_51 rfl rfl ?_
    refine gl_bipush hX q_95_34 cb_40 rfl ?_
    refine gl_ic_ne hX q_95_36 rfl rfl (fun c3 => ?_) (fun c3 => ?_)
    · have h := (if_pos c3).symm.trans h
      refine gl_iconst hX q_95_39 ci_m1 rfl ?_
      exact gl_ireturn q_95_40 (Or.inl qr_95) (by cases h; exact hP)
    · have h := (if_neg c3).symm.trans h
      refine gl_aload_n hX q_95_41 rfl rfl ?_
      refine gl_getA hX q_95_42 (qf_99 (by decide)) (qs_0 hr) rfl qk_52 ((congrFun hrf 52).trans qa_52) rfl ?_
      refine gl_aload_n hX q_95_45 rfl rfl ?_
      refine gl_get hX q_95_46 (qf_421 (by decide)) (qs_0 hr) rfl qk_51 rfl rfl ?_
      refine gl_iload_n hX q_95_49 rfl rfl ?_
      obtain ⟨c4, h⟩ := o_ck h
      refine gl_iastore (ar2 := (j_u2 are1 711 (iN (Se1 51)) x1)) hX q_95_50 (qs_711 hr) c4 rfl rfl ?_
      refine gl_aload_n hX q_95_51 rfl rfl ?_
      refine gl_dup hX q_95_52 rfl rfl ?_
      refine gl_get hX q_95_53 (qf_421 (by decide)) (qs_0 hr) rfl qk_51 rfl rfl ?_
      refine gl_iconst hX q_95_56 ci_1 rfl ?_
      refine gl_iadd hX q_95_57 rfl ?_
      refine gl_put hX q_95_58 (qf_421 (by decide)) (qs_0 hr) rfl qk_51 rfl ru rfl ?_
      refine gl_aload_n hX q_95_61 rfl rfl ?_
      refine gl_get hX q_95_62 (qf_421 (by decide)) (qs_0 hr) rfl qk_51 rfl rfl ?_
      exact gl_ireturn q_95_65 (Or.inl qr_95) (by cases h; exact hP)
  · have h := (if_neg c2).symm.trans h
    refine gl_iconst hX q_95_28 ci_0 rfl ?_
    exact gl_ireturn q_95_29 (Or.inl qr_95) (by cases h; exact hP)
def rF_95 (x1 : Int32) (S : (Nat → Int32)) (ar : jSc) : Option (Int32 × (Nat → Int32) × jSc) :=
  (o_b3 (rF_4 x1 (0 : Int32) (12 : Int32) (upd S 0 (0 : Int32)) ar) (fun ve5 Se5 are5 => (if ve5 = 0 then rF_95_21 x1 (1 : Int32) Se5 are5 else rF_95_21 x1 (0 : Int32) Se5 are5)))
set_option maxHeartbeats 4000000 in
theorem rt_95 {X : jX} (hX : j_LK (g_n X) (g_L X)) (hr : g_rs X = r_sh) {rf : jRf} (hrf : rf 0 = r_rf) {d : Nat} : rT_95 X rf rF_95 (d + 2) := by
  intro sc al Post x1 S ar r9 S9 ar9 h hP
  unfold rF_95 at h
  refine gl_entry (m := 0) rfl ?_
  show gL X 95 (d + 2) 0 [some (.ref 0), some (.int x1)] [] (va_up sc 0 S) rf ar al Post
  refine gl_aload_n hX q_95_0 rfl rfl ?_
  refine gl_iconst hX q_95_1 ci_0 rfl ?_
  refine gl_put hX q_95_2 (qf_126 (by decide)) (qs_0 hr) rfl qk_0 rfl ru rfl ?_
  refine gl_aload_n hX q_95_5 rfl rfl ?_
  refine gl_iload_n hX q_95_6 rfl rfl ?_
  refine gl_iconst hX q_95_7 ci_0 rfl ?_
  refine gl_bipush hX q_95_8 cb_12 rfl ?_
  obtain ⟨ve5, Se5, are5, e5, h⟩ := o_k3 h
  refine gl_callS q_95_10 (qm_247 (by decide)) rfl rfl rfl qx_4 rfl rfl ((rt_4 hX hr hrf) _ _ _ _ _ _ _ _ _ _ _ e5 ?_)
  refine gl_if_ne hX q_95_13 rfl rfl (fun c6 => ?_) (fun c6 => ?_)
  · have h := (if_pos c6).symm.trans h
    refine gl_iconst hX q_95_16 ci_1 rfl ?_
    refine gl_goto hX q_95_17 rfl ?_
    exact gl_weak (vs := [some (.ref 0), some (.int x1)]) ⟨rfl, rfl, trivial⟩ (rt_95_21 hX hr hrf hP x1 (1 : Int32) Se5 are5 h)
  · have h := (if_neg c6).symm.trans h
    refine gl_iconst hX q_95_20 ci_0 rfl ?_
    exact gl_weak (vs := [some (.ref 0), some (.int x1)]) ⟨rfl, rfl, trivial⟩ (rt_95_21 hX hr hrf hP x1 (0 : Int32) Se5 are5 h)
/-- ClickOrdersModel.clear()I -/
def rT_96 (X : jX) (rf : jRf) (F : (Nat → Int32) → jSc → Option (Int32 × (Nat → Int32) × jSc)) (e : Nat) : Prop := ∀ (sc : jSc) (al : jAl) (Post : jPo) (S : (Nat → Int32)) (ar : jSc) (r9 : Int32) (S9 : (Nat → Int32)) (ar9 : jSc), F S ar = some (r9, S9, ar9) → Post (some (.int r9)) (va_up sc 0 S9) rf ar9 al → gW X 96 e 0 (j_av [.ref 0]) [] (va_up sc 0 S) rf ar al Post
def rF_96 (S : (Nat → Int32)) (ar : jSc) : Option (Int32 × (Nat → Int32) × jSc) :=
  some ((S 51), (upd (upd S 0 (0 : Int32)) 51 (0 : Int32)), ar)
set_option maxHeartbeats 4000000 in
theorem rt_96 {X : jX} (hX : j_LK (g_n X) (g_L X)) (hr : g_rs X = r_sh) {rf : jRf} (hrf : rf 0 = r_rf) {d : Nat} : rT_96 X rf rF_96 (d + 1) := by
  intro sc al Post  S ar r9 S9 ar9 h hP
  unfold rF_96 at h
  refine gl_entry (m := 1) rfl ?_
  show gL X 96 (d + 1) 0 [some (.ref 0), none] [] (va_up sc 0 S) rf ar al Post
  refine gl_aload_n hX q_96_0 rfl rfl ?_
  refine gl_iconst hX q_96_1 ci_0 rfl ?_
  refine gl_put hX q_96_2 (qf_126 (by decide)) (qs_0 hr) rfl qk_0 rfl ru rfl ?_
  refine gl_aload_n hX q_96_5 rfl rfl ?_
  refine gl_get hX q_96_6 (qf_421 (by decide)) (qs_0 hr) rfl qk_51 rfl rfl ?_
  refine gl_istore_n (vs2 := [some (.ref 0), some (.int (S 51))]) hX q_96_9 rfl rfl rfl rfl ?_
  refine gl_aload_n hX q_96_10 rfl rfl ?_
  refine gl_iconst hX q_96_11 ci_0 rfl ?_
  refine gl_put hX q_96_12 (qf_421 (by decide)) (qs_0 hr) rfl qk_51 rfl ru rfl ?_
  refine gl_iload_n hX q_96_15 rfl rfl ?_
  exact gl_ireturn q_96_16 (Or.inl qr_96) (by cases h; exact hP)
/-- ClickOrdersModel.record()I -/
def rT_97 (X : jX) (rf : jRf) (F : (Nat → Int32) → jSc → Option (Int32 × (Nat → Int32) × jSc)) (e : Nat) : Prop := ∀ (sc : jSc) (al : jAl) (Post : jPo) (S : (Nat → Int32)) (ar : jSc) (r9 : Int32) (S9 : (Nat → Int32)) (ar9 : jSc), F S ar = some (r9, S9, ar9) → Post (some (.int r9)) (va_up sc 0 S9) rf ar9 al → gW X 97 e 0 (j_av [.ref 0]) [] (va_up sc 0 S) rf ar al Post
def rF_97_16 : Nat → Int32 → (Nat → Int32) → jSc → Option (Int32 × (Nat → Int32) × jSc)
  | 0, _, _, _ => none
  | nn + 1, x1, S, ar => (if (S 51) ≤ x1 then some ((-1 : Int32), S, ar) else (if iB x1 40 then (o_b3 (rF_79 (ar 711 (iN x1)) S ar) (fun ve3 Se3 are3 => (if ve3 = 0 then some (x1, Se3, are3) else rF_97_16 nn (x1 + (1 : Int32)) Se3 are3))) else none))
set_option maxHeartbeats 4000000 in
theorem rt_97_16 {X : jX} (hX : j_LK (g_n X) (g_L X)) (hr : g_rs X = r_sh) {rf : jRf} (hrf : rf 0 = r_rf) {d : Nat} {sc : jSc} {al : jAl} {Post : jPo} {r9 : Int32} {S9 : (Nat → Int32)} {ar9 : jSc} (hP : Post (some (.int r9)) (va_up sc 0 S9) rf ar9 al) : ∀ (nn : Nat) (x1 : Int32) (S : (Nat → Int32)) (ar : jSc), rF_97_16 nn x1 S ar = some (r9, S9, ar9) → gL X 97 (d + 128) 16 [some (.ref 0), some (.int x1)] [] (va_up sc 0 S) rf ar al Post := by
  intro nn
  induction nn with
  | zero =>
    intro x1 S ar h
    have h : (none : Option (Int32 × (Nat → Int32) × jSc)) = some _ := h
    cases h
  | succ nn ih =>
    intro x1 S ar h
    unfold rF_97_16 at h
    refine gl_iload_n hX q_97_16 rfl rfl ?_
    refine gl_aload_n hX q_97_17 rfl rfl ?_
    refine gl_get hX q_97_18 (qf_421 (by decide)) (qs_0 hr) rfl qk_51 rfl rfl ?_
    refine gl_ic_ge hX q_97_21 rfl rfl (fun c1 => ?_) (fun c1 => ?_)
    · have h := (if_pos c1).symm.trans h
      refine gl_iconst hX q_97_45 ci_m1 rfl ?_
      exact gl_ireturn q_97_46 (Or.inl qr_97) (by cases h; exact hP)
    · have h := (if_neg c1).symm.trans h
      refine gl_aload_n hX q_97_24 rfl rfl ?_
      refine gl_aload_n hX q_97_25 rfl rfl ?_
      refine gl_getA hX q_97_26 (qf_99 (by decide)) (qs_0 hr) rfl qk_52 ((congrFun hrf 52).trans qa_52) rfl ?_
      refine gl_iload_n hX q_97_29 rfl rfl ?_
      obtain ⟨c2, h⟩ := o_ck h
      refine gl_iaload hX q_97_30 (qs_711 hr) c2 rfl rfl ?_
      obtain ⟨ve3, Se3, are3, e3, h⟩ := o_k3 h
      refine gl_callV hX q_97_31 (qm_384 (by decide)) rfl rfl rfl (qs_0 hr) qx_79 rfl rfl ((rt_79 hX hr hrf) _ _ _ _ _ _ _ _ _ e3 ?_)
      refine gl_if_ne hX q_97_34 rfl rfl (fun c4 => ?_) (fun c4 => ?_)
      · have h := (if_pos c4).symm.trans h
        refine gl_iload_n hX q_97_37 rfl rfl ?_
        exact gl_ireturn q_97_38 (Or.inl qr_97) (by cases h; exact hP)
      · have h := (if_neg c4).symm.trans h
        refine gl_iinc (vs2 := [some (.ref 0), some (.int (x1 + (1 : Int32)))]) hX q_97_39 rfl rfl rfl ci_1 rfl rfl ?_
        refine gl_goto hX q_97_42 rfl ?_
        exact gl_weak (vs := [some (.ref 0), some (.int (x1 + (1 : Int32)))]) ⟨rfl, rfl, trivial⟩ (ih (x1 + (1 : Int32)) Se3 are3 h)
def rF_97 (S : (Nat → Int32)) (ar : jSc) : Option (Int32 × (Nat → Int32) × jSc) :=
  (o_b2 (rF_49 (upd (upd S 0 (0 : Int32)) 16 (0 : Int32)) ar) (fun Se5 are5 => rF_97_16 oF (0 : Int32) Se5 are5))
set_option maxHeartbeats 4000000 in
theorem rt_97 {X : jX} (hX : j_LK (g_n X) (g_L X)) (hr : g_rs X = r_sh) {rf : jRf} (hrf : rf 0 = r_rf) {d : Nat} : rT_97 X rf rF_97 (d + 128) := by
  intro sc al Post  S ar r9 S9 ar9 h hP
  unfold rF_97 at h
  refine gl_entry (m := 1) rfl ?_
  show gL X 97 (d + 128) 0 [some (.ref 0), none] [] (va_up sc 0 S) rf ar al Post
  refine gl_aload_n hX q_97_0 rfl rfl ?_
  refine gl_iconst hX q_97_1 ci_0 rfl ?_
  refine gl_put hX q_97_2 (qf_126 (by decide)) (qs_0 hr) rfl qk_0 rfl ru rfl ?_
  refine gl_aload_n hX q_97_5 rfl rfl ?_
  refine gl_iconst hX q_97_6 ci_0 rfl ?_
  refine gl_put hX q_97_7 (qf_316 (by decide)) (qs_0 hr) rfl qk_16 rfl ru rfl ?_
  refine gl_aload_n hX q_97_10 rfl rfl ?_
  obtain ⟨Se5, are5, e5, h⟩ := o_k2 h
  refine gl_callV hX q_97_11 (qm_344 (by decide)) rfl rfl rfl (qs_0 hr) qx_49 rfl rfl ((rt_49 hX hr hrf) _ _ _  _ _ _ _ e5 ?_)
  refine gl_iconst hX q_97_14 ci_0 rfl ?_
  refine gl_istore_n (vs2 := [some (.ref 0), some (.int (0 : Int32))]) hX q_97_15 rfl rfl rfl rfl ?_
  exact gl_weak (vs := [some (.ref 0), some (.int (0 : Int32))]) ⟨rfl, rfl, trivial⟩ (rt_97_16 hX hr hrf hP oF (0 : Int32) Se5 are5 h)
/-- ClickOrdersModel.spoils(I)Z -/
def rT_98 (X : jX) (rf : jRf) (F : Int32 → (Nat → Int32) → jSc → Option (Int32 × (Nat → Int32) × jSc)) (e : Nat) : Prop := ∀ (sc : jSc) (al : jAl) (Post : jPo) (x1 : Int32) (S : (Nat → Int32)) (ar : jSc) (r9 : Int32) (S9 : (Nat → Int32)) (ar9 : jSc), F x1 S ar = some (r9, S9, ar9) → Post (some (.int r9)) (va_up sc 0 S9) rf ar9 al → gW X 98 e 0 (j_av [.ref 0, .int x1]) [] (va_up sc 0 S) rf ar al Post
def rF_98_11 : Nat → Int32 → Int32 → (Nat → Int32) → jSc → Option (Int32 × (Nat → Int32) × jSc)
  | 0, _, _, _, _ => none
  | nn + 1, x1, x2, S, ar => (if (S 51) ≤ x2 then (o_b3 (rF_57 S ar) (fun ve2 Se2 are2 => (if ve2 = 0 ∨ ve2 = 1 then some (ve2, Se2, are2) else none))) else (if x2 = x1 then rF_98_11 nn x1 (x2 + (1 : Int32)) S ar else (if iB x2 40 then (o_b3 (rF_79 (ar 711 (iN x2)) S ar) (fun ve6 Se6 are6 => rF_98_11 nn x1 (x2 + (1 : Int32)) Se6 are6)) else none)))
set_option maxHeartbeats 4000000 in
theorem rt_98_11 {X : jX} (hX : j_LK (g_n X) (g_L X)) (hr : g_rs X = r_sh) {rf : jRf} (hrf : rf 0 = r_rf) {d : Nat} {sc : jSc} {al : jAl} {Post : jPo} {r9 : Int32} {S9 : (Nat → Int32)} {ar9 : jSc} (hP : Post (some (.int r9)) (va_up sc 0 S9) rf ar9 al) : ∀ (nn : Nat) (x1 : Int32) (x2 : Int32) (S : (Nat → Int32)) (ar : jSc), rF_98_11 nn x1 x2 S ar = some (r9, S9, ar9) → gL X 98 (d + 128) 11 [some (.ref 0), some (.int x1), some (.int x2)] [] (va_up sc 0 S) rf ar al Post := by
  intro nn
  induction nn with
  | zero =>
    intro x1 x2 S ar h
    have h : (none : Option (Int32 × (Nat → Int32) × jSc)) = some _ := h
    cases h
  | succ nn ih =>
    intro x1 x2 S ar h
    unfold rF_98_11 at h
    refine gl_iload_n hX q_98_11 rfl rfl ?_
    refine gl_aload_n hX q_98_12 rfl rfl ?_
    refine gl_get hX q_98_13 (qf_421 (by decide)) (qs_0 hr) rfl qk_51 rfl rfl ?_
    refine gl_ic_ge hX q_98_16 rfl rfl (fun c1 => ?_) (fun c1 => ?_)
    · have h := (if_pos c1).symm.trans h
      refine gl_aload_n hX q_98_41 rfl rfl ?_
      obtain ⟨ve2, Se2, are2, e2, h⟩ := o_k3 h
      refine gl_callV hX q_98_42 (qm_362 (by decide)) rfl rfl rfl (qs_0 hr) qx_57 rfl rfl ((rt_57 hX hr hrf) _ _ _  _ _ _ _ _ e2 ?_)
      obtain ⟨c3, h⟩ := o_ck h
      exact gl_ireturn q_98_45 (Or.inr ⟨qr_98, c3⟩) (by cases h; exact hP)
    · have h := (if_neg c1).symm.trans h
      refine gl_iload_n hX q_98_19 rfl rfl ?_
      refine gl_iload_n hX q_98_20 rfl rfl ?_
      refine gl_ic_eq hX q_98_21 rfl rfl (fun c4 => ?_) (fun c4 => ?_)
      · have h := (if_pos c4).symm.trans h
        refine gl_iinc (vs2 := [some (.ref 0), some (.int x1), some (.int (x2 + (1 : Int32)))]) hX q_98_35 rfl rfl rfl ci_1 rfl rfl ?_
        refine gl_goto hX q_98_38 rfl ?_
        exact gl_weak (vs := [some (.ref 0), some (.int x1), some (.int (x2 + (1 : Int32)))]) ⟨rfl, rfl, rfl, trivial⟩ (ih x1 (x2 + (1 : Int32)) S ar h)
      · have h := (if_neg c4).symm.trans h
        refine gl_aload_n hX q_98_24 rfl rfl ?_
        refine gl_aload_n hX q_98_25 rfl rfl ?_
        refine gl_getA hX q_98_26 (qf_99 (by decide)) (qs_0 hr) rfl qk_52 ((congrFun hrf 52).trans qa_52) rfl ?_
        refine gl_iload_n hX q_98_29 rfl rfl ?_
        obtain ⟨c5, h⟩ := o_ck h
        refine gl_iaload hX q_98_30 (qs_711 hr) c5 rfl rfl ?_
        obtain ⟨ve6, Se6, are6, e6, h⟩ := o_k3 h
        refine gl_callV hX q_98_31 (qm_384 (by decide)) rfl rfl rfl (qs_0 hr) qx_79 rfl rfl ((rt_79 hX hr hrf) _ _ _ _ _ _ _ _ _ e6 ?_)
        refine gl_pop hX q_98_34 rfl rfl ?_
        refine gl_iinc (vs2 := [some (.ref 0), some (.int x1), some (.int (x2 + (1 : Int32)))]) hX q_98_35 rfl rfl rfl ci_1 rfl rfl ?_
        refine gl_goto hX q_98_38 rfl ?_
        exact gl_weak (vs := [some (.ref 0), some (.int x1), some (.int (x2 + (1 : Int32)))]) ⟨rfl, rfl, rfl, trivial⟩ (ih x1 (x2 + (1 : Int32)) Se6 are6 h)
def rF_98 (x1 : Int32) (S : (Nat → Int32)) (ar : jSc) : Option (Int32 × (Nat → Int32) × jSc) :=
  (o_b2 (rF_49 (upd S 16 (0 : Int32)) ar) (fun Se7 are7 => rF_98_11 oF x1 (0 : Int32) Se7 are7))
set_option maxHeartbeats 4000000 in
theorem rt_98 {X : jX} (hX : j_LK (g_n X) (g_L X)) (hr : g_rs X = r_sh) {rf : jRf} (hrf : rf 0 = r_rf) {d : Nat} : rT_98 X rf rF_98 (d + 128) := by
  intro sc al Post x1 S ar r9 S9 ar9 h hP
  unfold rF_98 at h
  refine gl_entry (m := 1) rfl ?_
  show gL X 98 (d + 128) 0 [some (.ref 0), some (.int x1), none] [] (va_up sc 0 S) rf ar al Post
  refine gl_aload_n hX q_98_0 rfl rfl ?_
  refine gl_iconst hX q_98_1 ci_0 rfl ?_
  refine gl_put hX q_98_2 (qf_316 (by decide)) (qs_0 hr) rfl qk_16 rfl ru rfl ?_
  refine gl_aload_n hX q_98_5 rfl rfl ?_
  obtain ⟨Se7, are7, e7, h⟩ := o_k2 h
  refine gl_callV hX q_98_6 (qm_344 (by decide)) rfl rfl rfl (qs_0 hr) qx_49 rfl rfl ((rt_49 hX hr hrf) _ _ _  _ _ _ _ e7 ?_)
  refine gl_iconst hX q_98_9 ci_0 rfl ?_
  refine gl_istore_n (vs2 := [some (.ref 0), some (.int x1), some (.int (0 : Int32))]) hX q_98_10 rfl rfl rfl rfl ?_
  exact gl_weak (vs := [some (.ref 0), some (.int x1), some (.int (0 : Int32))]) ⟨rfl, rfl, rfl, trivial⟩ (rt_98_11 hX hr hrf hP oF x1 (0 : Int32) Se7 are7 h)
/-- ClickOrdersModel.cut()I -/
def rT_99 (X : jX) (rf : jRf) (F : (Nat → Int32) → jSc → Option (Int32 × (Nat → Int32) × jSc)) (e : Nat) : Prop := ∀ (sc : jSc) (al : jAl) (Post : jPo) (S : (Nat → Int32)) (ar : jSc) (r9 : Int32) (S9 : (Nat → Int32)) (ar9 : jSc), F S ar = some (r9, S9, ar9) → Post (some (.int r9)) (va_up sc 0 S9) rf ar9 al → gW X 99 e 0 (j_av [.ref 0]) [] (va_up sc 0 S) rf ar al Post
def rF_99_51 (k25 : Int32 → Int32 → (Nat → Int32) → jSc → Option (Int32 × (Nat → Int32) × jSc)) : Nat → Int32 → Int32 → (Nat → Int32) → jSc → Option (Int32 × (Nat → Int32) × jSc)
  | 0, _, _, _, _ => none
  | nn + 1, x2, x3, S, ar => (if (S 51) ≤ x3 then k25 (1 : Int32) x2 (upd S 51 ((S 51) - (1 : Int32))) ar else (if iB x3 40 then (if iB (x3 - (1 : Int32)) 40 then rF_99_51 k25 nn x2 (x3 + (1 : Int32)) S (j_u2 ar 711 (iN (x3 - (1 : Int32))) (ar 711 (iN x3))) else none) else none))
set_option maxHeartbeats 4000000 in
theorem rt_99_51 {X : jX} (hX : j_LK (g_n X) (g_L X)) (hr : g_rs X = r_sh) {rf : jRf} (hrf : rf 0 = r_rf) {d : Nat} {sc : jSc} {al : jAl} {Post : jPo} {r9 : Int32} {S9 : (Nat → Int32)} {ar9 : jSc} {k25 : Int32 → Int32 → (Nat → Int32) → jSc → Option (Int32 × (Nat → Int32) × jSc)} (hk25 : ∀ (x1 : Int32) (x2 : Int32) (S : (Nat → Int32)) (ar : jSc), k25 x1 x2 S ar = some (r9, S9, ar9) → gL X 99 (d + 129) 25 [some (.ref 0), some (.int x1), some (.int x2), none] [] (va_up sc 0 S) rf ar al Post) (hP : Post (some (.int r9)) (va_up sc 0 S9) rf ar9 al) : ∀ (nn : Nat) (x2 : Int32) (x3 : Int32) (S : (Nat → Int32)) (ar : jSc), rF_99_51 k25 nn x2 x3 S ar = some (r9, S9, ar9) → gL X 99 (d + 129) 51 [some (.ref 0), none, some (.int x2), some (.int x3)] [] (va_up sc 0 S) rf ar al Post := by
  intro nn
  induction nn with
  | zero =>
    intro x2 x3 S ar h
    have h : (none : Option (Int32 × (Nat → Int32) × jSc)) = some _ := h
    cases h
  | succ nn ih =>
    intro x2 x3 S ar h
    unfold rF_99_51 at h
    refine gl_iload_n hX q_99_51 rfl rfl ?_
    refine gl_aload_n hX q_99_52 rfl rfl ?_
    refine gl_get hX q_99_53 (qf_421 (by decide)) (qs_0 hr) rfl qk_51 rfl rfl ?_
    refine gl_ic_ge hX q_99_56 rfl rfl (fun c1 => ?_) (fun c1 => ?_)
    · have h := (if_pos c1).symm.trans h
      refine gl_aload_n hX q_99_79 rfl rfl ?_
      refine gl_dup hX q_99_80 rfl rfl ?_
      refine gl_get hX q_99_81 (qf_421 (by decide)) (qs_0 hr) rfl qk_51 rfl rfl ?_
      refine gl_iconst hX q_99_84 ci_1 rfl ?_
      refine gl_isub hX q_99_85 rfl ?_
      refine gl_put hX q_99_86 (qf_421 (by decide)) (qs_0 hr) rfl qk_51 rfl ru rfl ?_
      refine gl_iconst hX q_99_89 ci_1 rfl ?_
      refine gl_istore_n (vs2 := [some (.ref 0), some (.int (1 : Int32)), some (.int x2), some (.int x3)]) hX q_99_90 rfl rfl rfl rfl ?_
      refine gl_goto hX q_99_91 rfl ?_
      exact gl_weak (vs := [some (.ref 0), some (.int (1 : Int32)), some (.int x2), none]) ⟨rfl, rfl, rfl, trivial⟩ (hk25 (1 : Int32) x2 (upd S 51 ((S 51) - (1 : Int32))) ar h)
    · have h := (if_neg c1).symm.trans h
      refine gl_aload_n hX q_99_59 rfl rfl ?_
      refine gl_getA hX q_99_60 (qf_99 (by decide)) (qs_0 hr) rfl qk_52 ((congrFun hrf 52).trans qa_52) rfl ?_
      refine gl_iload_n hX q_99_63 rfl rfl ?_
      refine gl_iconst hX q_99_64 ci_1 rfl ?_
      refine gl_isub hX q_99_65 rfl ?_
      refine gl_aload_n hX q_99_66 rfl rfl ?_
      refine gl_getA hX q_99_67 (qf_99 (by decide)) (qs_0 hr) rfl qk_52 ((congrFun hrf 52).trans qa_52) rfl ?_
      refine gl_iload_n hX q_99_70 rfl rfl ?_
      obtain ⟨c2, h⟩ := o_ck h
      refine gl_iaload hX q_99_71 (qs_711 hr) c2 rfl rfl ?_
      obtain ⟨c3, h⟩ := o_ck h
      refine gl_iastore (ar2 := (j_u2 ar 711 (iN (x3 - (1 : Int32))) (ar 711 (iN x3)))) hX q_99_72 (qs_711 hr) c3 rfl rfl ?_
      refine gl_iinc (vs2 := [some (.ref 0), none, some (.int x2), some (.int (x3 + (1 : Int32)))]) hX q_99_73 rfl rfl rfl ci_1 rfl rfl ?_
      refine gl_goto hX q_99_76 rfl ?_
      exact gl_weak (vs := [some (.ref 0), none, some (.int x2), some (.int (x3 + (1 : Int32)))]) ⟨rfl, rfl, rfl, trivial⟩ (ih x2 (x3 + (1 : Int32)) S (j_u2 ar 711 (iN (x3 - (1 : Int32))) (ar 711 (iN x3))) h)
def rF_99_25 (k17 : Int32 → (Nat → Int32) → jSc → Option (Int32 × (Nat → Int32) × jSc)) : Nat → Int32 → Int32 → (Nat → Int32) → jSc → Option (Int32 × (Nat → Int32) × jSc)
  | 0, _, _, _, _ => none
  | nn + 1, x1, x2, S, ar => (if (S 51) ≤ x2 then k17 x1 S ar else (o_b3 (rF_98 x2 S ar) (fun ve5 Se5 are5 => (if ve5 = 0 then rF_99_25 k17 nn x1 (x2 + (1 : Int32)) Se5 are5 else rF_99_51 (fun x1_ x2_ S_ ar_ => rF_99_25 k17 nn x1_ x2_ S_ ar_) oF x2 (x2 + (1 : Int32)) Se5 are5))))
set_option maxHeartbeats 4000000 in
theorem rt_99_25 {X : jX} (hX : j_LK (g_n X) (g_L X)) (hr : g_rs X = r_sh) {rf : jRf} (hrf : rf 0 = r_rf) {d : Nat} {sc : jSc} {al : jAl} {Post : jPo} {r9 : Int32} {S9 : (Nat → Int32)} {ar9 : jSc} {k17 : Int32 → (Nat → Int32) → jSc → Option (Int32 × (Nat → Int32) × jSc)} (hk17 : ∀ (x1 : Int32) (S : (Nat → Int32)) (ar : jSc), k17 x1 S ar = some (r9, S9, ar9) → gL X 99 (d + 129) 17 [some (.ref 0), some (.int x1), none, none] [] (va_up sc 0 S) rf ar al Post) (hP : Post (some (.int r9)) (va_up sc 0 S9) rf ar9 al) : ∀ (nn : Nat) (x1 : Int32) (x2 : Int32) (S : (Nat → Int32)) (ar : jSc), rF_99_25 k17 nn x1 x2 S ar = some (r9, S9, ar9) → gL X 99 (d + 129) 25 [some (.ref 0), some (.int x1), some (.int x2), none] [] (va_up sc 0 S) rf ar al Post := by
  intro nn
  induction nn with
  | zero =>
    intro x1 x2 S ar h
    have h : (none : Option (Int32 × (Nat → Int32) × jSc)) = some _ := h
    cases h
  | succ nn ih =>
    intro x1 x2 S ar h
    unfold rF_99_25 at h
    refine gl_iload_n hX q_99_25 rfl rfl ?_
    refine gl_aload_n hX q_99_26 rfl rfl ?_
    refine gl_get hX q_99_27 (qf_421 (by decide)) (qs_0 hr) rfl qk_51 rfl rfl ?_
    refine gl_ic_ge hX q_99_30 rfl rfl (fun c4 => ?_) (fun c4 => ?_)
    · have h := (if_pos c4).symm.trans h
      refine gl_goto hX q_99_94 rfl ?_
      exact gl_weak (vs := [some (.ref 0), some (.int x1), none, none]) ⟨rfl, rfl, trivial⟩ (hk17 x1 S ar h)
    · have h := (if_neg c4).symm.trans h
      refine gl_aload_n hX q_99_33 rfl rfl ?_
      refine gl_iload_n hX q_99_34 rfl rfl ?_
      obtain ⟨ve5, Se5, are5, e5, h⟩ := o_k3 h
      refine gl_callV hX q_99_35 (qm_424 (by decide)) rfl rfl rfl (qs_0 hr) qx_98 rfl rfl ((rt_98 hX hr hrf) _ _ _ _ _ _ _ _ _ e5 ?_)
      refine gl_if_ne hX q_99_38 rfl rfl (fun c6 => ?_) (fun c6 => ?_)
      · have h := (if_pos c6).symm.trans h
        refine gl_iinc (vs2 := [some (.ref 0), some (.int x1), some (.int (x2 + (1 : Int32))), none]) hX q_99_41 rfl rfl rfl ci_1 rfl rfl ?_
        refine gl_goto hX q_99_44 rfl ?_
        exact gl_weak (vs := [some (.ref 0), some (.int x1), some (.int (x2 + (1 : Int32))), none]) ⟨rfl, rfl, rfl, trivial⟩ (ih x1 (x2 + (1 : Int32)) Se5 are5 h)
      · have h := (if_neg c6).symm.trans h
        refine gl_iload_n hX q_99_47 rfl rfl ?_
        refine gl_iconst hX q_99_48 ci_1 rfl ?_
        refine gl_iadd hX q_99_49 rfl ?_
        refine gl_istore_n (vs2 := [some (.ref 0), some (.int x1), some (.int x2), some (.int (x2 + (1 : Int32)))]) hX q_99_50 rfl rfl rfl rfl ?_
        exact gl_weak (vs := [some (.ref 0), none, some (.int x2), some (.int (x2 + (1 : Int32)))]) ⟨rfl, rfl, rfl, trivial⟩ (rt_99_51 hX hr hrf ih hP oF x2 (x2 + (1 : Int32)) Se5 are5 h)
def rF_99_17 : Nat → Int32 → (Nat → Int32) → jSc → Option (Int32 × (Nat → Int32) × jSc)
  | 0, _, _, _ => none
  | nn + 1, x1, S, ar => (if x1 = 0 then some ((S 51), S, ar) else rF_99_25 (fun x1_ S_ ar_ => rF_99_17 nn x1_ S_ ar_) oF (0 : Int32) (0 : Int32) S ar)
set_option maxHeartbeats 4000000 in
theorem rt_99_17 {X : jX} (hX : j_LK (g_n X) (g_L X)) (hr : g_rs X = r_sh) {rf : jRf} (hrf : rf 0 = r_rf) {d : Nat} {sc : jSc} {al : jAl} {Post : jPo} {r9 : Int32} {S9 : (Nat → Int32)} {ar9 : jSc} (hP : Post (some (.int r9)) (va_up sc 0 S9) rf ar9 al) : ∀ (nn : Nat) (x1 : Int32) (S : (Nat → Int32)) (ar : jSc), rF_99_17 nn x1 S ar = some (r9, S9, ar9) → gL X 99 (d + 129) 17 [some (.ref 0), some (.int x1), none, none] [] (va_up sc 0 S) rf ar al Post := by
  intro nn
  induction nn with
  | zero =>
    intro x1 S ar h
    have h : (none : Option (Int32 × (Nat → Int32) × jSc)) = some _ := h
    cases h
  | succ nn ih =>
    intro x1 S ar h
    unfold rF_99_17 at h
    refine gl_iload_n hX q_99_17 rfl rfl ?_
    refine gl_if_eq hX q_99_18 rfl rfl (fun c7 => ?_) (fun c7 => ?_)
    · have h := (if_pos c7).symm.trans h
      refine gl_aload_n hX q_99_97 rfl rfl ?_
      refine gl_get hX q_99_98 (qf_421 (by decide)) (qs_0 hr) rfl qk_51 rfl rfl ?_
      exact gl_ireturn q_99_101 (Or.inl qr_99) (by cases h; exact hP)
    · have h := (if_neg c7).symm.trans h
      refine gl_iconst hX q_99_21 ci_0 rfl ?_
      refine gl_istore_n (vs2 := [some (.ref 0), some (.int (0 : Int32)), none, none]) hX q_99_22 rfl rfl rfl rfl ?_
      refine gl_iconst hX q_99_23 ci_0 rfl ?_
      refine gl_istore_n (vs2 := [some (.ref 0), some (.int (0 : Int32)), some (.int (0 : Int32)), none]) hX q_99_24 rfl rfl rfl rfl ?_
      exact gl_weak (vs := [some (.ref 0), some (.int (0 : Int32)), some (.int (0 : Int32)), none]) ⟨rfl, rfl, rfl, trivial⟩ (rt_99_25 hX hr hrf ih hP oF (0 : Int32) (0 : Int32) S ar h)
def rF_99 (S : (Nat → Int32)) (ar : jSc) : Option (Int32 × (Nat → Int32) × jSc) :=
  (o_b3 (rF_98 (-1 : Int32) (upd S 0 (0 : Int32)) ar) (fun ve8 Se8 are8 => (if ve8 = 0 then some ((-1 : Int32), Se8, are8) else rF_99_17 oF (1 : Int32) Se8 are8)))
set_option maxHeartbeats 4000000 in
theorem rt_99 {X : jX} (hX : j_LK (g_n X) (g_L X)) (hr : g_rs X = r_sh) {rf : jRf} (hrf : rf 0 = r_rf) {d : Nat} : rT_99 X rf rF_99 (d + 129) := by
  intro sc al Post  S ar r9 S9 ar9 h hP
  unfold rF_99 at h
  refine gl_entry (m := 3) rfl ?_
  show gL X 99 (d + 129) 0 [some (.ref 0), none, none, none] [] (va_up sc 0 S) rf ar al Post
  refine gl_aload_n hX q_99_0 rfl rfl ?_
  refine gl_iconst hX q_99_1 ci_0 rfl ?_
  refine gl_put hX q_99_2 (qf_126 (by decide)) (qs_0 hr) rfl qk_0 rfl ru rfl ?_
  refine gl_aload_n hX q_99_5 rfl rfl ?_
  refine gl_iconst hX q_99_6 ci_m1 rfl ?_
  obtain ⟨ve8, Se8, are8, e8, h⟩ := o_k3 h
  refine gl_callV hX q_99_7 (qm_424 (by decide)) rfl rfl rfl (qs_0 hr) qx_98 rfl rfl ((rt_98 hX hr hrf) _ _ _ _ _ _ _ _ _ e8 ?_)
  refine gl_if_ne hX q_99_10 rfl rfl (fun c9 => ?_) (fun c9 => ?_)
  · have h := (if_pos c9).symm.trans h
    refine gl_iconst hX q_99_13 ci_m1 rfl ?_
    exact gl_ireturn q_99_14 (Or.inl qr_99) (by cases h; exact hP)
  · have h := (if_neg c9).symm.trans h
    refine gl_iconst hX q_99_15 ci_1 rfl ?_
    refine gl_istore_n (vs2 := [some (.ref 0), some (.int (1 : Int32)), none, none]) hX q_99_16 rfl rfl rfl rfl ?_
    exact gl_weak (vs := [some (.ref 0), some (.int (1 : Int32)), none, none]) ⟨rfl, rfl, trivial⟩ (rt_99_17 hX hr hrf hP oF (1 : Int32) Se8 are8 h)
/-- ClickOrdersModel.told(I)I -/
def rT_100 (X : jX) (rf : jRf) (F : Int32 → (Nat → Int32) → jSc → Option (Int32 × (Nat → Int32) × jSc)) (e : Nat) : Prop := ∀ (sc : jSc) (al : jAl) (Post : jPo) (x1 : Int32) (S : (Nat → Int32)) (ar : jSc) (r9 : Int32) (S9 : (Nat → Int32)) (ar9 : jSc), F x1 S ar = some (r9, S9, ar9) → Post (some (.int r9)) (va_up sc 0 S9) rf ar9 al → gW X 100 e 0 (j_av [.ref 0, .int x1]) [] (va_up sc 0 S) rf ar al Post
def rF_100 (x1 : Int32) (S : (Nat → Int32)) (ar : jSc) : Option (Int32 × (Nat → Int32) × jSc) :=
  (o_b3 (rF_4 x1 (0 : Int32) ((S 51) - (1 : Int32)) (upd S 0 (0 : Int32)) ar) (fun ve1 Se1 are1 => (if ve1 = 0 then some ((-1 : Int32), Se1, are1) else (if iB x1 40 then some ((are1 711 (iN x1)), Se1, are1) else none))))
set_option maxHeartbeats 4000000 in
theorem rt_100 {X : jX} (hX : j_LK (g_n X) (g_L X)) (hr : g_rs X = r_sh) {rf : jRf} (hrf : rf 0 = r_rf) {d : Nat} : rT_100 X rf rF_100 (d + 2) := by
  intro sc al Post x1 S ar r9 S9 ar9 h hP
  unfold rF_100 at h
  refine gl_entry (m := 0) rfl ?_
  show gL X 100 (d + 2) 0 [some (.ref 0), some (.int x1)] [] (va_up sc 0 S) rf ar al Post
  refine gl_aload_n hX q_100_0 rfl rfl ?_
  refine gl_iconst hX q_100_1 ci_0 rfl ?_
  refine gl_put hX q_100_2 (qf_126 (by decide)) (qs_0 hr) rfl qk_0 rfl ru rfl ?_
  refine gl_iload_n hX q_100_5 rfl rfl ?_
  refine gl_iconst hX q_100_6 ci_0 rfl ?_
  refine gl_aload_n hX q_100_7 rfl rfl ?_
  refine gl_get hX q_100_8 (qf_421 (by decide)) (qs_0 hr) rfl qk_51 rfl rfl ?_
  refine gl_iconst hX q_100_11 ci_1 rfl ?_
  refine gl_isub hX q_100_12 rfl ?_
  obtain ⟨ve1, Se1, are1, e1, h⟩ := o_k3 h
  refine gl_callS q_100_13 (qm_247 (by decide)) rfl rfl rfl qx_4 rfl rfl ((rt_4 hX hr hrf) _ _ _ _ _ _ _ _ _ _ _ e1 ?_)
  refine gl_if_eq hX q_100_16 rfl rfl (fun c2 => ?_) (fun c2 => ?_)
  · have h := (if_pos c2).symm.trans h
    refine gl_iconst hX q_100_28 ci_m1 rfl ?_
    exact gl_ireturn q_100_29 (Or.inl qr_100) (by cases h; exact hP)
  · have h := (if_neg c2).symm.trans h
    refine gl_aload_n hX q_100_19 rfl rfl ?_
    refine gl_getA hX q_100_20 (qf_99 (by decide)) (qs_0 hr) rfl qk_52 ((congrFun hrf 52).trans qa_52) rfl ?_
    refine gl_iload_n hX q_100_23 rfl rfl ?_
    obtain ⟨c3, h⟩ := o_ck h
    refine gl_iaload hX q_100_24 (qs_711 hr) c3 rfl rfl ?_
    refine gl_goto hX q_100_25 rfl ?_
    exact gl_ireturn q_100_29 (Or.inl qr_100) (by cases h; exact hP)
/-- ClickOrdersModel.form(IIII)I -/
def rT_101 (X : jX) (rf : jRf) (F : Int32 → Int32 → Int32 → Int32 → (Nat → Int32) → jSc → Option (Int32 × (Nat → Int32) × jSc)) (e : Nat) : Prop := ∀ (sc : jSc) (al : jAl) (Post : jPo) (x1 : Int32) (x2 : Int32) (x3 : Int32) (x4 : Int32) (S : (Nat → Int32)) (ar : jSc) (r9 : Int32) (S9 : (Nat → Int32)) (ar9 : jSc), F x1 x2 x3 x4 S ar = some (r9, S9, ar9) → Post (some (.int r9)) (va_up sc 0 S9) rf ar9 al → gW X 101 e 0 (j_av [.ref 0, .int x1, .int x2, .int x3, .int x4]) [] (va_up sc 0 S) rf ar al Post
def rF_101_54 (x1 : Int32) (x2 : Int32) (x3 : Int32) (x4 : Int32) (y0 : Int32) (S : (Nat → Int32)) (ar : jSc) : Option (Int32 × (Nat → Int32) × jSc) :=
  (o_b3 (rF_3 y0 (1 : Int32) S ar) (fun ve1 Se1 are1 => (if ve1 = 0 then (if (Se1 38) = (6 : Int32) then some ((-1 : Int32), Se1, are1) else (if iB (Se1 38) 6 then (if iB (Se1 38) 6 then (if iB (Se1 38) 6 then (if iB (Se1 38) 6 then (if iB (Se1 38) 6 then some ((((Se1 38) + (1 : Int32)) - (1 : Int32)), (upd Se1 38 ((Se1 38) + (1 : Int32))), (j_u2 (j_u2 (j_u2 (j_u2 (j_u2 are1 102 (iN (Se1 38)) x1) 103 (iN (Se1 38)) x2) 104 (iN (Se1 38)) x3) 105 (iN (Se1 38)) x4) 106 (iN (Se1 38)) (0 : Int32))) else none) else none) else none) else none) else none)) else some ((0 : Int32), Se1, are1))))
set_option maxHeartbeats 4000000 in
theorem rt_101_54 {X : jX} (hX : j_LK (g_n X) (g_L X)) (hr : g_rs X = r_sh) {rf : jRf} (hrf : rf 0 = r_rf) {d : Nat} {sc : jSc} {al : jAl} {Post : jPo} {r9 : Int32} {S9 : (Nat → Int32)} {ar9 : jSc} (hP : Post (some (.int r9)) (va_up sc 0 S9) rf ar9 al) (x1 : Int32) (x2 : Int32) (x3 : Int32) (x4 : Int32) (y0 : Int32) (S : (Nat → Int32)) (ar : jSc) (h : rF_101_54 x1 x2 x3 x4 y0 S ar = some (r9, S9, ar9)) : gL X 101 (d + 2) 54 [some (.ref 0), some (.int x1), some (.int x2), some (.int x3), some (.int x4)] [.int y0, .ref 0] (va_up sc 0 S) rf ar al Post := by
  unfold rF_101_54 at h
  refine gl_iconst hX q_101_54 ci_1 rfl ?_
  obtain ⟨ve1, Se1, are1, e1, h⟩ := o_k3 h
  refine gl_callV hX q_101_55 (qm_306 (by decide)) rfl rfl rfl (qs_0 hr) qx_3 rfl rfl ((rt_3 hX hr hrf) _ _ _ _ _ _ _ _ _ _ e1 ?_)
  refine gl_if_eq hX q_101_58 rfl rfl (fun c2 => ?_) (fun c2 => ?_)
  · have h := (if_pos c2).symm.trans h
    refine gl_aload_n hX q_101_63 rfl rfl ?_
    refine gl_get hX q_101_64 (qf_284 (by decide)) (qs_0 hr) rfl qk_38 rfl rfl ?_
    refine gl_bipush hX q_101_67 cb_6 rfl ?_
    refine gl_ic_ne hX q_101_69 rfl rfl (fun c3 => ?_) (fun c3 => ?_)
    · have h := (if_pos c3).symm.trans h
      refine gl_iconst hX q_101_72 ci_m1 rfl ?_
      exact gl_ireturn q_101_73 (Or.inl qr_101) (by cases h; exact hP)
    · have h := (if_neg c3).symm.trans h
      refine gl_aload_n hX q_101_74 rfl rfl ?_
      refine gl_getA hX q_101_75 (qf_71 (by decide)) (qs_0 hr) rfl qk_39 ((congrFun hrf 39).trans qa_39) rfl ?_
      refine gl_aload_n hX q_101_78 rfl rfl ?_
      refine gl_get hX q_101_79 (qf_284 (by decide)) (qs_0 hr) rfl qk_38 rfl rfl ?_
      refine gl_iload_n hX q_101_82 rfl rfl ?_
      obtain ⟨c4, h⟩ := o_ck h
      refine gl_iastore (ar2 := (j_u2 are1 102 (iN (Se1 38)) x1)) hX q_101_83 (qs_102 hr) c4 rfl rfl ?_
      refine gl_aload_n hX q_101_84 rfl rfl ?_
      refine gl_getA hX q_101_85 (qf_74 (by decide)) (qs_0 hr) rfl qk_40 ((congrFun hrf 40).trans qa_40) rfl ?_
      refine gl_aload_n hX q_101_88 rfl rfl ?_
      refine gl_get hX q_101_89 (qf_284 (by decide)) (qs_0 hr) rfl qk_38 rfl rfl ?_
      refine gl_iload_n hX q_101_92 rfl rfl ?_
      obtain ⟨c5, h⟩ := o_ck h
      refine gl_iastore (ar2 := (j_u2 (j_u2 are1 102 (iN (Se1 38)) x1) 103 (iN (Se1 38)) x2)) hX q_101_93 (qs_103 hr) c5 rfl rfl ?_
      refine gl_aload_n hX q_101_94 rfl rfl ?_
      refine gl_getA hX q_101_95 (qf_77 (by decide)) (qs_0 hr) rfl qk_41 ((congrFun hrf 41).trans qa_41) rfl ?_
      refine gl_aload_n hX q_101_98 rfl rfl ?_
      refine gl_get hX q_101_99 (qf_284 (by decide)) (qs_0 hr) rfl qk_38 rfl rfl ?_
      refine gl_iload_n hX q_101_102 rfl rfl ?_
      obtain ⟨c6, h⟩ := o_ck h
      refine gl_iastore (ar2 := (j_u2 (j_u2 (j_u2 are1 102 (iN (Se1 38)) x1) 103 (iN (Se1 38)) x2) 104 (iN (Se1 38)) x3)) hX q_101_103 (qs_104 hr) c6 rfl rfl ?_
      refine gl_aload_n hX q_101_104 rfl rfl ?_
      refine gl_getA hX q_101_105 (qf_80 (by decide)) (qs_0 hr) rfl qk_42 ((congrFun hrf 42).trans qa_42) rfl ?_
      refine gl_aload_n hX q_101_108 rfl rfl ?_
      refine gl_get hX q_101_109 (qf_284 (by decide)) (qs_0 hr) rfl qk_38 rfl rfl ?_
      refine gl_iload hX q_101_112 rfl rfl ?_
      obtain ⟨c7, h⟩ := o_ck h
      refine gl_iastore (ar2 := (j_u2 (j_u2 (j_u2 (j_u2 are1 102 (iN (Se1 38)) x1) 103 (iN (Se1 38)) x2) 104 (iN (Se1 38)) x3) 105 (iN (Se1 38)) x4)) hX q_101_114 (qs_105 hr) c7 rfl rfl ?_
      refine gl_aload_n hX q_101_115 rfl rfl ?_
      refine gl_getA hX q_101_116 (qf_83 (by decide)) (qs_0 hr) rfl qk_43 ((congrFun hrf 43).trans qa_43) rfl ?_
      refine gl_aload_n hX q_101_119 rfl rfl ?_
      refine gl_get hX q_101_120 (qf_284 (by decide)) (qs_0 hr) rfl qk_38 rfl rfl ?_
      refine gl_iconst hX q_101_123 ci_0 rfl ?_
      obtain ⟨c8, h⟩ := o_ck h
      refine gl_bastore (ar2 := (j_u2 (j_u2 (j_u2 (j_u2 (j_u2 are1 102 (iN (Se1 38)) x1) 103 (iN (Se1 38)) x2) 104 (iN (Se1 38)) x3) 105 (iN (Se1 38)) x4) 106 (iN (Se1 38)) (0 : Int32))) hX q_101_124 (qs_106 hr) c8 (Or.inl rfl) rfl rfl ?_
      refine gl_aload_n hX q_101_125 rfl rfl ?_
      refine gl_dup hX q_101_126 rfl rfl ?_
      refine gl_get hX q_101_127 (qf_284 (by decide)) (qs_0 hr) rfl qk_38 rfl rfl ?_
      refine gl_iconst hX q_101_130 ci_1 rfl ?_
      refine gl_iadd hX q_101_131 rfl ?_
      refine gl_put hX q_101_132 (qf_284 (by decide)) (qs_0 hr) rfl qk_38 rfl ru rfl ?_
      refine gl_aload_n hX q_101_135 rfl rfl ?_
      refine gl_get hX q_101_136 (qf_284 (by decide)) (qs_0 hr) rfl qk_38 rfl rfl ?_
      refine gl_iconst hX q_101_139 ci_1 rfl ?_
      refine gl_isub hX q_101_140 rfl ?_
      exact gl_ireturn q_101_141 (Or.inl qr_101) (by cases h; exact hP)
  · have h := (if_neg c2).symm.trans h
    refine gl_iconst hX q_101_61 ci_0 rfl ?_
    exact gl_ireturn q_101_62 (Or.inl qr_101) (by cases h; exact hP)
def rF_101_29 (x1 : Int32) (x2 : Int32) (x3 : Int32) (x4 : Int32) (S : (Nat → Int32)) (ar : jSc) : Option (Int32 × (Nat → Int32) × jSc) :=
  (o_b3 (rF_4 x3 (0 : Int32) (3 : Int32) S ar) (fun ve9 Se9 are9 => (if ve9 = 0 then rF_101_54 x1 x2 x3 x4 (1 : Int32) Se9 are9 else (o_b3 (rF_4 x4 (0 : Int32) (100 : Int32) Se9 are9) (fun ve11 Se11 are11 => (if ve11 = 0 then rF_101_54 x1 x2 x3 x4 (1 : Int32) Se11 are11 else rF_101_54 x1 x2 x3 x4 (0 : Int32) Se11 are11))))))
set_option maxHeartbeats 4000000 in
theorem rt_101_29 {X : jX} (hX : j_LK (g_n X) (g_L X)) (hr : g_rs X = r_sh) {rf : jRf} (hrf : rf 0 = r_rf) {d : Nat} {sc : jSc} {al : jAl} {Post : jPo} {r9 : Int32} {S9 : (Nat → Int32)} {ar9 : jSc} (hP : Post (some (.int r9)) (va_up sc 0 S9) rf ar9 al) (x1 : Int32) (x2 : Int32) (x3 : Int32) (x4 : Int32) (S : (Nat → Int32)) (ar : jSc) (h : rF_101_29 x1 x2 x3 x4 S ar = some (r9, S9, ar9)) : gL X 101 (d + 2) 29 [some (.ref 0), some (.int x1), some (.int x2), some (.int x3), some (.int x4)] [.ref 0] (va_up sc 0 S) rf ar al Post := by
  unfold rF_101_29 at h
  refine gl_iload_n hX q_101_29 rfl rfl ?_
  refine gl_iconst hX q_101_30 ci_0 rfl ?_
  refine gl_iconst hX q_101_31 ci_3 rfl ?_
  obtain ⟨ve9, Se9, are9, e9, h⟩ := o_k3 h
  refine gl_callS q_101_32 (qm_247 (by decide)) rfl rfl rfl qx_4 rfl rfl ((rt_4 hX hr hrf) _ _ _ _ _ _ _ _ _ _ _ e9 ?_)
  refine gl_if_eq hX q_101_35 rfl rfl (fun c10 => ?_) (fun c10 => ?_)
  · have h := (if_pos c10).symm.trans h
    refine gl_iconst hX q_101_49 ci_1 rfl ?_
    refine gl_goto hX q_101_50 rfl ?_
    exact gl_weak (vs := [some (.ref 0), some (.int x1), some (.int x2), some (.int x3), some (.int x4)]) ⟨rfl, rfl, rfl, rfl, rfl, trivial⟩ (rt_101_54 hX hr hrf hP x1 x2 x3 x4 (1 : Int32) Se9 are9 h)
  · have h := (if_neg c10).symm.trans h
    refine gl_iload hX q_101_38 rfl rfl ?_
    refine gl_iconst hX q_101_40 ci_0 rfl ?_
    refine gl_bipush hX q_101_41 cb_100 rfl ?_
    obtain ⟨ve11, Se11, are11, e11, h⟩ := o_k3 h
    refine gl_callS q_101_43 (qm_247 (by decide)) rfl rfl rfl qx_4 rfl rfl ((rt_4 hX hr hrf) _ _ _ _ _ _ _ _ _ _ _ e11 ?_)
    refine gl_if_ne hX q_101_46 rfl rfl (fun c12 => ?_) (fun c12 => ?_)
    · have h := (if_pos c12).symm.trans h
      refine gl_iconst hX q_101_49 ci_1 rfl ?_
      refine gl_goto hX q_101_50 rfl ?_
      exact gl_weak (vs := [some (.ref 0), some (.int x1), some (.int x2), some (.int x3), some (.int x4)]) ⟨rfl, rfl, rfl, rfl, rfl, trivial⟩ (rt_101_54 hX hr hrf hP x1 x2 x3 x4 (1 : Int32) Se11 are11 h)
    · have h := (if_neg c12).symm.trans h
      refine gl_iconst hX q_101_53 ci_0 rfl ?_
      exact gl_weak (vs := [some (.ref 0), some (.int x1), some (.int x2), some (.int x3), some (.int x4)]) ⟨rfl, rfl, rfl, rfl, rfl, trivial⟩ (rt_101_54 hX hr hrf hP x1 x2 x3 x4 (0 : Int32) Se11 are11 h)
def rF_101 (x1 : Int32) (x2 : Int32) (x3 : Int32) (x4 : Int32) (S : (Nat → Int32)) (ar : jSc) : Option (Int32 × (Nat → Int32) × jSc) :=
  (o_b3 (rF_4 x1 (0 : Int32) (2 : Int32) (upd S 0 (0 : Int32)) ar) (fun ve13 Se13 are13 => (if ve13 = 0 then rF_101_54 x1 x2 x3 x4 (1 : Int32) Se13 are13 else (if x1 = 0 then (o_b3 (rF_4 x2 (0 : Int32) (7 : Int32) Se13 are13) (fun ve16 Se16 are16 => (if ve16 = 0 then rF_101_54 x1 x2 x3 x4 (1 : Int32) Se16 are16 else rF_101_29 x1 x2 x3 x4 Se16 are16))) else rF_101_29 x1 x2 x3 x4 Se13 are13))))
set_option maxHeartbeats 4000000 in
theorem rt_101 {X : jX} (hX : j_LK (g_n X) (g_L X)) (hr : g_rs X = r_sh) {rf : jRf} (hrf : rf 0 = r_rf) {d : Nat} : rT_101 X rf rF_101 (d + 2) := by
  intro sc al Post x1 x2 x3 x4 S ar r9 S9 ar9 h hP
  unfold rF_101 at h
  refine gl_entry (m := 0) rfl ?_
  show gL X 101 (d + 2) 0 [some (.ref 0), some (.int x1), some (.int x2), some (.int x3), some (.int x4)] [] (va_up sc 0 S) rf ar al Post
  refine gl_aload_n hX q_101_0 rfl rfl ?_
  refine gl_iconst hX q_101_1 ci_0 rfl ?_
  refine gl_put hX q_101_2 (qf_126 (by decide)) (qs_0 hr) rfl qk_0 rfl ru rfl ?_
  refine gl_aload_n hX q_101_5 rfl rfl ?_
  refine gl_iload_n hX q_101_6 rfl rfl ?_
  refine gl_iconst hX q_101_7 ci_0 rfl ?_
  refine gl_iconst hX q_101_8 ci_2 rfl ?_
  obtain ⟨ve13, Se13, are13, e13, h⟩ := o_k3 h
  refine gl_callS q_101_9 (qm_247 (by decide)) rfl rfl rfl qx_4 rfl rfl ((rt_4 hX hr hrf) _ _ _ _ _ _ _ _ _ _ _ e13 ?_)
  refine gl_if_eq hX q_101_12 rfl rfl (fun c14 => ?_) (fun c14 => ?_)
  · have h := (if_pos c14).symm.trans h
    refine gl_iconst hX q_101_49 ci_1 rfl ?_
    refine gl_goto hX q_101_50 rfl ?_
    exact gl_weak (vs := [some (.ref 0), some (.int x1), some (.int x2), some (.int x3), some (.int x4)]) ⟨rfl, rfl, rfl, rfl, rfl, trivial⟩ (rt_101_54 hX hr hrf hP x1 x2 x3 x4 (1 : Int32) Se13 are13 h)
  · have h := (if_neg c14).symm.trans h
    refine gl_iload_n hX q_101_15 rfl rfl ?_
    refine gl_if_ne hX q_101_16 rfl rfl (fun c15 => ?_) (fun c15 => ?_)
    · have h := (if_pos c15).symm.trans h
      refine gl_iload_n hX q_101_19 rfl rfl ?_
      refine gl_iconst hX q_101_20 ci_0 rfl ?_
      refine gl_bipush hX q_101_21 cb_7 rfl ?_
      obtain ⟨ve16, Se16, are16, e16, h⟩ := o_k3 h
      refine gl_callS q_101_23 (qm_247 (by decide)) rfl rfl rfl qx_4 rfl rfl ((rt_4 hX hr hrf) _ _ _ _ _ _ _ _ _ _ _ e16 ?_)
      refine gl_if_eq hX q_101_26 rfl rfl (fun c17 => ?_) (fun c17 => ?_)
      · have h := (if_pos c17).symm.trans h
        refine gl_iconst hX q_101_49 ci_1 rfl ?_
        refine gl_goto hX q_101_50 rfl ?_
        exact gl_weak (vs := [some (.ref 0), some (.int x1), some (.int x2), some (.int x3), some (.int x4)]) ⟨rfl, rfl, rfl, rfl, rfl, trivial⟩ (rt_101_54 hX hr hrf hP x1 x2 x3 x4 (1 : Int32) Se16 are16 h)
      · have h := (if_neg c17).symm.trans h
        exact gl_weak (vs := [some (.ref 0), some (.int x1), some (.int x2), some (.int x3), some (.int x4)]) ⟨rfl, rfl, rfl, rfl, rfl, trivial⟩ (rt_101_29 hX hr hrf hP x1 x2 x3 x4 Se16 are16 h)
    · have h := (if_neg c15).symm.trans h
      exact gl_weak (vs := [some (.ref 0), some (.int x1), some (.int x2), some (.int x3), some (.int x4)]) ⟨rfl, rfl, rfl, rfl, rfl, trivial⟩ (rt_101_29 hX hr hrf hP x1 x2 x3 x4 Se13 are13 h)
