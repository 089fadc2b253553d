/-! THE REFERENCE: its methods as functions, and that the machine does what they say. -/
/-- ClickOrdersModel.far(I)I -/
def rT_64 (X : jX) (rf : jRf) (F : Int32 → (Nat → Int32) → jSc → Option (Int32 × (Nat → Int32) × jSc)) (e : Nat) : Prop := ∀ (sc : jSc) (al : jAl) (Post : jPo) (x1 : Int32) (S : (Nat → Int32)) (ar : jSc) (r9 : Int32) (S9 : (Nat → Int32)) (ar9 : jSc), F x1 S ar = some (r9, S9, ar9) → Post (some (.int r9)) (va_up sc 0 S9) rf ar9 al → gW X 64 e 0 (j_av [.ref 0, .int x1]) [] (va_up sc 0 S) rf ar al Post
def rF_64 (x1 : Int32) (S : (Nat → Int32)) (ar : jSc) : Option (Int32 × (Nat → Int32) × jSc) :=
  (o_b3 (rF_4 x1 (0 : Int32) (3 : Int32) (upd S 0 (0 : Int32)) ar) (fun ve1 Se1 are1 => (if ve1 = 0 then (o_b3 (rF_3 (1 : Int32) (1 : Int32) Se1 are1) (fun ve3 Se3 are3 => (if ve3 = 0 then (if iB ((33 : Int32) + x1) 53 then some ((are3 14 (iN ((33 : Int32) + x1))), Se3, are3) else none) else some ((0 : Int32), Se3, are3)))) else (o_b3 (rF_3 (0 : Int32) (1 : Int32) Se1 are1) (fun ve6 Se6 are6 => (if ve6 = 0 then (if iB ((33 : Int32) + x1) 53 then some ((are6 14 (iN ((33 : Int32) + x1))), Se6, are6) else none) else some ((0 : Int32), Se6, are6)))))))
set_option maxHeartbeats 4000000 in
theorem rt_64 {X : jX} (hX : j_LK (g_n X) (g_L X)) (hr : g_rs X = r_sh) {rf : jRf} (hrf : rf 0 = r_rf) {d : Nat} : rT_64 X rf rF_64 (d + 2) := by
  intro sc al Post x1 S ar r9 S9 ar9 h hP
  unfold rF_64 at h
  refine gl_entry (m := 0) rfl ?_
  show gL X 64 (d + 2) 0 [some (.ref 0), some (.int x1)] [] (va_up sc 0 S) rf ar al Post
  refine gl_aload_n hX q_64_0 rfl rfl ?_
  refine gl_iconst hX q_64_1 ci_0 rfl ?_
  refine gl_put hX q_64_2 (qf_126 (by decide)) (qs_0 hr) rfl qk_0 rfl ru rfl ?_
  refine gl_aload_n hX q_64_5 rfl rfl ?_
  refine gl_iload_n hX q_64_6 rfl rfl ?_
  refine gl_iconst hX q_64_7 ci_0 rfl ?_
  refine gl_iconst hX q_64_8 ci_3 rfl ?_
  obtain ⟨ve1, Se1, are1, e1, h⟩ := o_k3 h
  refine gl_callS q_64_9 (qm_247 (by decide)) rfl rfl rfl qx_4 rfl rfl ((rt_4 hX hr hrf) _ _ _ _ _ _ _ _ _ _ _ e1 ?_)
  refine gl_if_ne hX q_64_12 rfl rfl (fun c2 => ?_) (fun c2 => ?_)
  · have h := (if_pos c2).symm.trans h
    refine gl_iconst hX q_64_15 ci_1 rfl ?_
    refine gl_goto hX q_64_16 rfl ?_
    refine gl_iconst hX q_64_20 ci_1 rfl ?_
    obtain ⟨ve3, Se3, are3, e3, h⟩ := o_k3 h
    refine gl_callV hX q_64_21 (qm_306 (by decide)) rfl rfl rfl (qs_0 hr) qx_3 rfl rfl ((rt_3 hX hr hrf) _ _ _ _ _ _ _ _ _ _ e3 ?_)
    refine gl_if_eq hX q_64_24 rfl rfl (fun c4 => ?_) (fun c4 => ?_)
    · have h := (if_pos c4).symm.trans h
      refine gl_aload_n hX q_64_29 rfl rfl ?_
      refine gl_getA hX q_64_30 (qf_48 (by decide)) (qs_0 hr) rfl qk_30 ((congrFun hrf 30).trans qa_30) rfl ?_
      refine gl_bipush hX q_64_33 cb_33 rfl ?_
      refine gl_iload_n hX q_64_35 rfl rfl ?_
      refine gl_iadd hX q_64_36 rfl ?_
      obtain ⟨c5, h⟩ := o_ck h
      refine gl_iaload hX q_64_37 (qs_14 hr) c5 rfl rfl ?_
      exact gl_ireturn q_64_38 (Or.inl qr_64) (by cases h; exact hP)
    · have h := (if_neg c4).symm.trans h
      refine gl_iconst hX q_64_27 ci_0 rfl ?_
      exact gl_ireturn q_64_28 (Or.inl qr_64) (by cases h; exact hP)
  · have h := (if_neg c2).symm.trans h
    refine gl_iconst hX q_64_19 ci_0 rfl ?_
    refine gl_iconst hX q_64_20 ci_1 rfl ?_
    obtain ⟨ve6, Se6, are6, e6, h⟩ := o_k3 h
    refine gl_callV hX q_64_21 (qm_306 (by decide)) rfl rfl rfl (qs_0 hr) qx_3 rfl rfl ((rt_3 hX hr hrf) _ _ _ _ _ _ _ _ _ _ e6 ?_)
    refine gl_if_eq hX q_64_24 rfl rfl (fun c7 => ?_) (fun c7 => ?_)
    · have h := (if_pos c7).symm.trans h
      refine gl_aload_n hX q_64_29 rfl rfl ?_
      refine gl_getA hX q_64_30 (qf_48 (by decide)) (qs_0 hr) rfl qk_30 ((congrFun hrf 30).trans qa_30) rfl ?_
      refine gl_bipush hX q_64_33 cb_33 rfl ?_
      refine gl_iload_n hX q_64_35 rfl rfl ?_
      refine gl_iadd hX q_64_36 rfl ?_
      obtain ⟨c8, h⟩ := o_ck h
      refine gl_iaload hX q_64_37 (qs_14 hr) c8 rfl rfl ?_
      exact gl_ireturn q_64_38 (Or.inl qr_64) (by cases h; exact hP)
    · have h := (if_neg c7).symm.trans h
      refine gl_iconst hX q_64_27 ci_0 rfl ?_
      exact gl_ireturn q_64_28 (Or.inl qr_64) (by cases h; exact hP)
/-- ClickOrdersModel.line(II)I -/
def rT_65 (X : jX) (rf : jRf) (F : Int32 → Int32 → (Nat → Int32) → jSc → Option (Int32 × (Nat → Int32) × jSc)) (e : Nat) : Prop := ∀ (sc : jSc) (al : jAl) (Post : jPo) (x1 : Int32) (x2 : Int32) (S : (Nat → Int32)) (ar : jSc) (r9 : Int32) (S9 : (Nat → Int32)) (ar9 : jSc), F x1 x2 S ar = some (r9, S9, ar9) → Post (some (.int r9)) (va_up sc 0 S9) rf ar9 al → gW X 65 e 0 (j_av [.ref 0, .int x1, .int x2]) [] (va_up sc 0 S) rf ar al Post
def rF_65_20 (x1 : Int32) (x2 : Int32) (y0 : Int32) (S : (Nat → Int32)) (ar : jSc) : Option (Int32 × (Nat → Int32) × jSc) :=
  (o_b3 (rF_3 y0 (1 : Int32) S ar) (fun ve1 Se1 are1 => (if ve1 = 0 then (if x2 = (-1 : Int32) then (if iB ((10 : Int32) + x1) 53 then some ((are1 14 (iN ((10 : Int32) + x1))), Se1, are1) else none) else (if iB ((10 : Int32) + x1) 53 then (o_b3 (rF_4 x2 (0 : Int32) ((are1 14 (iN ((10 : Int32) + x1))) - (1 : Int32)) Se1 are1) (fun ve6 Se6 are6 => (if ve6 = 0 then some ((-2147483648 : Int32), Se6, are6) else (if iB (((14 : Int32) + ((3 : Int32) * x1)) + x2) 53 then some ((are6 14 (iN (((14 : Int32) + ((3 : Int32) * x1)) + x2))), Se6, are6) else none)))) else none)) else some ((0 : Int32), Se1, are1))))
set_option maxHeartbeats 4000000 in
theorem rt_65_20 {X : jX} (hX : j_LK (g_n X) (g_L X)) (hr : g_rs X = r_sh) {rf : jRf} (hrf : rf 0 = r_rf) {d : Nat} {sc : jSc} {al : jAl} {Post : jPo} {r9 : Int32} {S9 : (Nat → Int32)} {ar9 : jSc} (hP : Post (some (.int r9)) (va_up sc 0 S9) rf ar9 al) (x1 : Int32) (x2 : Int32) (y0 : Int32) (S : (Nat → Int32)) (ar : jSc) (h : rF_65_20 x1 x2 y0 S ar = some (r9, S9, ar9)) : gL X 65 (d + 2) 20 [some (.ref 0), some (.int x1), some (.int x2)] [.int y0, .ref 0] (va_up sc 0 S) rf ar al Post := by
  unfold rF_65_20 at h
  refine gl_iconst hX q_65_20 ci_1 rfl ?_
  obtain ⟨ve1, Se1, are1, e1, h⟩ := o_k3 h
  refine gl_callV hX q_65_21 (qm_306 (by decide)) rfl rfl rfl (qs_0 hr) qx_3 rfl rfl ((rt_3 hX hr hrf) _ _ _ _ _ _ _ _ _ _ e1 ?_)
  refine gl_if_eq hX q_65_24 rfl rfl (fun c2 => ?_) (fun c2 => ?_)
  · have h := (if_pos c2).symm.trans h
    refine gl_iload_n hX q_65_29 rfl rfl ?_
    refine gl_iconst hX q_65_30 ci_m1 rfl ?_
    refine gl_ic_ne hX q_65_31 rfl rfl (fun c3 => ?_) (fun c3 => ?_)
    · have h := (if_pos c3).symm.trans h
      refine gl_aload_n hX q_65_34 rfl rfl ?_
      refine gl_getA hX q_65_35 (qf_48 (by decide)) (qs_0 hr) rfl qk_30 ((congrFun hrf 30).trans qa_30) rfl ?_
      refine gl_bipush hX q_65_38 cb_10 rfl ?_
      refine gl_iload_n hX q_65_40 rfl rfl ?_
      refine gl_iadd hX q_65_41 rfl ?_
      obtain ⟨c4, h⟩ := o_ck h
      refine gl_iaload hX q_65_42 (qs_14 hr) c4 rfl rfl ?_
      exact gl_ireturn q_65_43 (Or.inl qr_65) (by cases h; exact hP)
    · have h := (if_neg c3).symm.trans h
      refine gl_iload_n hX q_65_44 rfl rfl ?_
      refine gl_iconst hX q_65_45 ci_0 rfl ?_
      refine gl_aload_n hX q_65_46 rfl rfl ?_
      refine gl_getA hX q_65_47 (qf_48 (by decide)) (qs_0 hr) rfl qk_30 ((congrFun hrf 30).trans qa_30) rfl ?_
      refine gl_bipush hX q_65_50 cb_10 rfl ?_
      refine gl_iload_n hX q_65_52 rfl rfl ?_
      refine gl_iadd hX q_65_53 rfl ?_
      obtain ⟨c5, h⟩ := o_ck h
      refine gl_iaload hX q_65_54 (qs_14 hr) c5 rfl rfl ?_
      refine gl_iconst hX q_65_55 ci_1 rfl ?_
      refine gl_isub hX q_65_56 rfl ?_
      obtain ⟨ve6, Se6, are6, e6, h⟩ := o_k3 h
      refine gl_callS q_65_57 (qm_247 (by decide)) rfl rfl rfl qx_4 rfl rfl ((rt_4 hX hr hrf) _ _ _ _ _ _ _ _ _ _ _ e6 ?_)
      refine gl_if_eq hX q_65_60 rfl rfl (fun c7 => ?_) (fun c7 => ?_)
      · have h := (if_pos c7).symm.trans h
        refine gl_ldc_w hX q_65_79 (qc_361 (by decide)) rfl ?_
        exact gl_ireturn q_65_82 (Or.inl qr_65) (by cases h; exact hP)
      · have h := (if_neg c7).symm.trans h
        refine gl_aload_n hX q_65_63 rfl rfl ?_
        refine gl_getA hX q_65_64 (qf_48 (by decide)) (qs_0 hr) rfl qk_30 ((congrFun hrf 30).trans qa_30) rfl ?_
        refine gl_bipush hX q_65_67 cb_14 rfl ?_
        refine gl_iconst hX q_65_69 ci_3 rfl ?_
        refine gl_iload_n hX q_65_70 rfl rfl ?_
        refine gl_imul hX q_65_71 rfl ?_
        refine gl_iadd hX q_65_72 rfl ?_
        refine gl_iload_n hX q_65_73 rfl rfl ?_
        refine gl_iadd hX q_65_74 rfl ?_
        obtain ⟨c8, h⟩ := o_ck h
        refine gl_iaload hX q_65_75 (qs_14 hr) c8 rfl rfl ?_
        refine gl_goto hX q_65_76 rfl ?_
        exact gl_ireturn q_65_82 (Or.inl qr_65) (by cases h; exact hP)
  · have h := (if_neg c2).symm.trans h
    refine gl_iconst hX q_65_27 ci_0 rfl ?_
    exact gl_ireturn q_65_28 (Or.inl qr_65) (by cases h; exact hP)
def rF_65 (x1 : Int32) (x2 : Int32) (S : (Nat → Int32)) (ar : jSc) : Option (Int32 × (Nat → Int32) × jSc) :=
  (o_b3 (rF_4 x1 (0 : Int32) (3 : Int32) (upd S 0 (0 : Int32)) ar) (fun ve9 Se9 are9 => (if ve9 = 0 then rF_65_20 x1 x2 (1 : Int32) Se9 are9 else rF_65_20 x1 x2 (0 : Int32) Se9 are9)))
set_option maxHeartbeats 4000000 in
theorem rt_65 {X : jX} (hX : j_LK (g_n X) (g_L X)) (hr : g_rs X = r_sh) {rf : jRf} (hrf : rf 0 = r_rf) {d : Nat} : rT_65 X rf rF_65 (d + 2) := by
  intro sc al Post x1 x2 S ar r9 S9 ar9 h hP
  unfold rF_65 at h
  refine gl_entry (m := 0) rfl ?_
  show gL X 65 (d + 2) 0 [some (.ref 0), some (.int x1), some (.int x2)] [] (va_up sc 0 S) rf ar al Post
  refine gl_aload_n hX q_65_0 rfl rfl ?_
  refine gl_iconst hX q_65_1 ci_0 rfl ?_
  refine gl_put hX q_65_2 (qf_126 (by decide)) (qs_0 hr) rfl qk_0 rfl ru rfl ?_
  refine gl_aload_n hX q_65_5 rfl rfl ?_
  refine gl_iload_n hX q_65_6 rfl rfl ?_
  refine gl_iconst hX q_65_7 ci_0 rfl ?_
  refine gl_iconst hX q_65_8 ci_3 rfl ?_
  obtain ⟨ve9, Se9, are9, e9, h⟩ := o_k3 h
  refine gl_callS q_65_9 (qm_247 (by decide)) rfl rfl rfl qx_4 rfl rfl ((rt_4 hX hr hrf) _ _ _ _ _ _ _ _ _ _ _ e9 ?_)
  refine gl_if_ne hX q_65_12 rfl rfl (fun c10 => ?_) (fun c10 => ?_)
  · have h := (if_pos c10).symm.trans h
    refine gl_iconst hX q_65_15 ci_1 rfl ?_
    refine gl_goto hX q_65_16 rfl ?_
    exact gl_weak (vs := [some (.ref 0), some (.int x1), some (.int x2)]) ⟨rfl, rfl, rfl, trivial⟩ (rt_65_20 hX hr hrf hP x1 x2 (1 : Int32) Se9 are9 h)
  · have h := (if_neg c10).symm.trans h
    refine gl_iconst hX q_65_19 ci_0 rfl ?_
    exact gl_weak (vs := [some (.ref 0), some (.int x1), some (.int x2)]) ⟨rfl, rfl, rfl, trivial⟩ (rt_65_20 hX hr hrf hP x1 x2 (0 : Int32) Se9 are9 h)
/-- ClickOrdersModel.clock(I)I -/
def rT_66 (X : jX) (rf : jRf) (F : Int32 → (Nat → Int32) → jSc → Option (Int32 × (Nat → Int32) × jSc)) (e : Nat) : Prop := ∀ (sc : jSc) (al : jAl) (Post : jPo) (x1 : Int32) (S : (Nat → Int32)) (ar : jSc) (r9 : Int32) (S9 : (Nat → Int32)) (ar9 : jSc), F x1 S ar = some (r9, S9, ar9) → Post (some (.int r9)) (va_up sc 0 S9) rf ar9 al → gW X 66 e 0 (j_av [.ref 0, .int x1]) [] (va_up sc 0 S) rf ar al Post
def rF_66_36 (k20 : Int32 → Int32 → (Nat → Int32) → jSc → Option (Int32 × (Nat → Int32) × jSc)) : Nat → Int32 → Int32 → Int32 → Int32 → (Nat → Int32) → jSc → Option (Int32 × (Nat → Int32) × jSc)
  | 0, _, _, _, _, _, _ => none
  | nn + 1, x1, x2, x3, x4, S, ar => (if (ar 14 26) ≤ x4 then (if x3 = x1 then (if iB ((27 : Int32) + x2) 53 then (if iB ((30 : Int32) + x2) 53 then some ((((1000 : Int32) * (ar 14 (iN ((27 : Int32) + x2)))) + (ar 14 (iN ((30 : Int32) + x2)))), S, ar) else none) else none) else k20 x1 (x2 + (1 : Int32)) S ar) else (if iB ((30 : Int32) + x4) 53 then (if iB ((30 : Int32) + x2) 53 then (if (ar 14 (iN ((30 : Int32) + x4))) < (ar 14 (iN ((30 : Int32) + x2))) then rF_66_36 k20 nn x1 x2 (x3 + (1 : Int32)) (x4 + (1 : Int32)) S ar else (if iB ((30 : Int32) + x4) 53 then (if iB ((30 : Int32) + x2) 53 then (if (ar 14 (iN ((30 : Int32) + x4))) = (ar 14 (iN ((30 : Int32) + x2))) then (if x2 ≤ x4 then rF_66_36 k20 nn x1 x2 (x3 + (0 : Int32)) (x4 + (1 : Int32)) S ar else rF_66_36 k20 nn x1 x2 (x3 + (1 : Int32)) (x4 + (1 : Int32)) S ar) else rF_66_36 k20 nn x1 x2 (x3 + (0 : Int32)) (x4 + (1 : Int32)) S ar) else none) else none)) else none) else none))
set_option maxHeartbeats 4000000 in
theorem rt_66_36 {X : jX} (hX : j_LK (g_n X) (g_L X)) (hr : g_rs X = r_sh) {rf : jRf} (hrf : rf 0 = r_rf) {d : Nat} {sc : jSc} {al : jAl} {Post : jPo} {r9 : Int32} {S9 : (Nat → Int32)} {ar9 : jSc} {k20 : Int32 → Int32 → (Nat → Int32) → jSc → Option (Int32 × (Nat → Int32) × jSc)} (hk20 : ∀ (x1 : Int32) (x2 : Int32) (S : (Nat → Int32)) (ar : jSc), k20 x1 x2 S ar = some (r9, S9, ar9) → gL X 66 (d + 1) 20 [some (.ref 0), some (.int x1), some (.int x2), none, none] [] (va_up sc 0 S) rf ar al Post) (hP : Post (some (.int r9)) (va_up sc 0 S9) rf ar9 al) : ∀ (nn : Nat) (x1 : Int32) (x2 : Int32) (x3 : Int32) (x4 : Int32) (S : (Nat → Int32)) (ar : jSc), rF_66_36 k20 nn x1 x2 x3 x4 S ar = some (r9, S9, ar9) → gL X 66 (d + 1) 36 [some (.ref 0), some (.int x1), some (.int x2), some (.int x3), some (.int x4)] [] (va_up sc 0 S) rf ar al Post := by
  intro nn
  induction nn with
  | zero =>
    intro x1 x2 x3 x4 S ar h
    have h : (none : Option (Int32 × (Nat → Int32) × jSc)) = some _ := h
    cases h
  | succ nn ih =>
    intro x1 x2 x3 x4 S ar h
    unfold rF_66_36 at h
    refine gl_iload hX q_66_36 rfl rfl ?_
    refine gl_aload_n hX q_66_38 rfl rfl ?_
    refine gl_getA hX q_66_39 (qf_48 (by decide)) (qs_0 hr) rfl qk_30 ((congrFun hrf 30).trans qa_30) rfl ?_
    refine gl_bipush hX q_66_42 cb_26 rfl ?_
    refine gl_iaload hX q_66_44 (qs_14 hr) (by decide) rfl rfl ?_
    refine gl_ic_ge hX q_66_45 rfl rfl (fun c1 => ?_) (fun c1 => ?_)
    · have h := (if_pos c1).symm.trans h
      refine gl_iload_n hX q_66_112 rfl rfl ?_
      refine gl_iload_n hX q_66_113 rfl rfl ?_
      refine gl_ic_ne hX q_66_114 rfl rfl (fun c2 => ?_) (fun c2 => ?_)
      · have h := (if_pos c2).symm.trans h
        refine gl_sipush hX q_66_117 cs_1000 rfl ?_
        refine gl_aload_n hX q_66_120 rfl rfl ?_
        refine gl_getA hX q_66_121 (qf_48 (by decide)) (qs_0 hr) rfl qk_30 ((congrFun hrf 30).trans qa_30) rfl ?_
        refine gl_bipush hX q_66_124 cb_27 rfl ?_
        refine gl_iload_n hX q_66_126 rfl rfl ?_
        refine gl_iadd hX q_66_127 rfl ?_
        obtain ⟨c3, h⟩ := o_ck h
        refine gl_iaload hX q_66_128 (qs_14 hr) c3 rfl rfl ?_
        refine gl_imul hX q_66_129 rfl ?_
        refine gl_aload_n hX q_66_130 rfl rfl ?_
        refine gl_getA hX q_66_131 (qf_48 (by decide)) (qs_0 hr) rfl qk_30 ((congrFun hrf 30).trans qa_30) rfl ?_
        refine gl_bipush hX q_66_134 cb_30 rfl ?_
        refine gl_iload_n hX q_66_136 rfl rfl ?_
        refine gl_iadd hX q_66_137 rfl ?_
        obtain ⟨c4, h⟩ := o_ck h
        refine gl_iaload hX q_66_138 (qs_14 hr) c4 rfl rfl ?_
        refine gl_iadd hX q_66_139 rfl ?_
        exact gl_ireturn q_66_140 (Or.inl qr_66) (by cases h; exact hP)
      · have h := (if_neg c2).symm.trans h
        refine gl_iinc (vs2 := [some (.ref 0), some (.int x1), some (.int (x2 + (1 : Int32))), some (.int x3), some (.int x4)]) hX q_66_141 rfl rfl rfl ci_1 rfl rfl ?_
        refine gl_goto hX q_66_144 rfl ?_
        exact gl_weak (vs := [some (.ref 0), some (.int x1), some (.int (x2 + (1 : Int32))), none, none]) ⟨rfl, rfl, rfl, trivial⟩ (hk20 x1 (x2 + (1 : Int32)) S ar h)
    · have h := (if_neg c1).symm.trans h
      refine gl_iload_n hX q_66_48 rfl rfl ?_
      refine gl_aload_n hX q_66_49 rfl rfl ?_
      refine gl_getA hX q_66_50 (qf_48 (by decide)) (qs_0 hr) rfl qk_30 ((congrFun hrf 30).trans qa_30) rfl ?_
      refine gl_bipush hX q_66_53 cb_30 rfl ?_
      refine gl_iload hX q_66_55 rfl rfl ?_
      refine gl_iadd hX q_66_57 rfl ?_
      obtain ⟨c5, h⟩ := o_ck h
      refine gl_iaload hX q_66_58 (qs_14 hr) c5 rfl rfl ?_
      refine gl_aload_n hX q_66_59 rfl rfl ?_
      refine gl_getA hX q_66_60 (qf_48 (by decide)) (qs_0 hr) rfl qk_30 ((congrFun hrf 30).trans qa_30) rfl ?_
      refine gl_bipush hX q_66_63 cb_30 rfl ?_
      refine gl_iload_n hX q_66_65 rfl rfl ?_
      refine gl_iadd hX q_66_66 rfl ?_
      obtain ⟨c6, h⟩ := o_ck h
      refine gl_iaload hX q_66_67 (qs_14 hr) c6 rfl rfl ?_
      refine gl_ic_lt hX q_66_68 rfl rfl (fun c7 => ?_) (fun c7 => ?_)
      · have h := (if_pos c7).symm.trans h
        refine gl_iconst hX q_66_99 ci_1 rfl ?_
        refine gl_goto hX q_66_100 rfl ?_
        refine gl_iadd hX q_66_104 rfl ?_
        refine gl_istore_n (vs2 := [some (.ref 0), some (.int x1), some (.int x2), some (.int (x3 + (1 : Int32))), some (.int x4)]) hX q_66_105 rfl rfl rfl rfl ?_
        refine gl_iinc (vs2 := [some (.ref 0), some (.int x1), some (.int x2), some (.int (x3 + (1 : Int32))), some (.int (x4 + (1 : Int32)))]) hX q_66_106 rfl rfl rfl ci_1 rfl rfl ?_
        refine gl_goto hX q_66_109 rfl ?_
        exact gl_weak (vs := [some (.ref 0), some (.int x1), some (.int x2), some (.int (x3 + (1 : Int32))), some (.int (x4 + (1 : Int32)))]) ⟨rfl, rfl, rfl, rfl, rfl, trivial⟩ (ih x1 x2 (x3 + (1 : Int32)) (x4 + (1 : Int32)) S ar h)
      · have h := (if_neg c7).symm.trans h
        refine gl_aload_n hX q_66_71 rfl rfl ?_
        refine gl_getA hX q_66_72 (qf_48 (by decide)) (qs_0 hr) rfl qk_30 ((congrFun hrf 30).trans qa_30) rfl ?_
        refine gl_bipush hX q_66_75 cb_30 rfl ?_
        refine gl_iload hX q_66_77 rfl rfl ?_
        refine gl_iadd hX q_66_79 rfl ?_
        obtain ⟨c8, h⟩ := o_ck h
        refine gl_iaload hX q_66_80 (qs_14 hr) c8 rfl rfl ?_
        refine gl_aload_n hX q_66_81 rfl rfl ?_
        refine gl_getA hX q_66_82 (qf_48 (by decide)) (qs_0 hr) rfl qk_30 ((congrFun hrf 30).trans qa_30) rfl ?_
        refine gl_bipush hX q_66_85 cb_30 rfl ?_
        refine gl_iload_n hX q_66_87 rfl rfl ?_
        refine gl_iadd hX q_66_88 rfl ?_
        obtain ⟨c9, h⟩ := o_ck h
        refine gl_iaload hX q_66_89 (qs_14 hr) c9 rfl rfl ?_
        refine gl_ic_ne hX q_66_90 rfl rfl (fun c10 => ?_) (fun c10 => ?_)
        · have h := (if_pos c10).symm.trans h
          refine gl_iload hX q_66_93 rfl rfl ?_
          refine gl_iload_n hX q_66_95 rfl rfl ?_
          refine gl_ic_ge hX q_66_96 rfl rfl (fun c11 => ?_) (fun c11 => ?_)
          · have h := (if_pos c11).symm.trans h
            refine gl_iconst hX q_66_103 ci_0 rfl ?_
            refine gl_iadd hX q_66_104 rfl ?_
            refine gl_istore_n (vs2 := [some (.ref 0), some (.int x1), some (.int x2), some (.int (x3 + (0 : Int32))), some (.int x4)]) hX q_66_105 rfl rfl rfl rfl ?_
            refine gl_iinc (vs2 := [some (.ref 0), some (.int x1), some (.int x2), some (.int (x3 + (0 : Int32))), some (.int (x4 + (1 : Int32)))]) hX q_66_106 rfl rfl rfl ci_1 rfl rfl ?_
            refine gl_goto hX q_66_109 rfl ?_
            exact gl_weak (vs := [some (.ref 0), some (.int x1), some (.int x2), some (.int (x3 + (0 : Int32))), some (.int (x4 + (1 : Int32)))]) ⟨rfl, rfl, rfl, rfl, rfl, trivial⟩ (ih x1 x2 (x3 + (0 : Int32)) (x4 + (1 : Int32)) S ar h)
          · have h := (if_neg c11).symm.trans h
            refine gl_iconst hX q_66_99 ci_1 rfl ?_
            refine gl_goto hX q_66_100 rfl ?_
            refine gl_iadd hX q_66_104 rfl ?_
            refine gl_istore_n (vs2 := [some (.ref 0), some (.int x1), some (.int x2), some (.int (x3 + (1 : Int32))), some (.int x4)]) hX q_66_105 rfl rfl rfl rfl ?_
            refine gl_iinc (vs2 := [some (.ref 0), some (.int x1), some (.int x2), some (.int (x3 + (1 : Int32))), some (.int (x4 + (1 : Int32)))]) hX q_66_106 rfl rfl rfl ci_1 rfl rfl ?_
            refine gl_goto hX q_66_109 rfl ?_
            exact gl_weak (vs := [some (.ref 0), some (.int x1), some (.int x2), some (.int (x3 + (1 : Int32))), some (.int (x4 + (1 : Int32)))]) ⟨rfl, rfl, rfl, rfl, rfl, trivial⟩ (ih x1 x2 (x3 + (1 : Int32)) (x4 + (1 : Int32)) S ar h)
        · have h := (if_neg c10).symm.trans h
          refine gl_iconst hX q_66_103 ci_0 rfl ?_
          refine gl_iadd hX q_66_104 rfl ?_
          refine gl_istore_n (vs2 := [some (.ref 0), some (.int x1), some (.int x2), some (.int (x3 + (0 : Int32))), some (.int x4)]) hX q_66_105 rfl rfl rfl rfl ?_
          refine gl_iinc (vs2 := [some (.ref 0), some (.int x1), some (.int x2), some (.int (x3 + (0 : Int32))), some (.int (x4 + (1 : Int32)))]) hX q_66_106 rfl rfl rfl ci_1 rfl rfl ?_
          refine gl_goto hX q_66_109 rfl ?_
          exact gl_weak (vs := [some (.ref 0), some (.int x1), some (.int x2), some (.int (x3 + (0 : Int32))), some (.int (x4 + (1 : Int32)))]) ⟨rfl, rfl, rfl, rfl, rfl, trivial⟩ (ih x1 x2 (x3 + (0 : Int32)) (x4 + (1 : Int32)) S ar h)
def rF_66_20 : Nat → Int32 → Int32 → (Nat → Int32) → jSc → Option (Int32 × (Nat → Int32) × jSc)
  | 0, _, _, _, _ => none
  | nn + 1, x1, x2, S, ar => (if (ar 14 26) ≤ x2 then some ((-1 : Int32), S, ar) else rF_66_36 (fun x1_ x2_ S_ ar_ => rF_66_20 nn x1_ x2_ S_ ar_) oF x1 x2 (0 : Int32) (0 : Int32) S ar)
set_option maxHeartbeats 4000000 in
theorem rt_66_20 {X : jX} (hX : j_LK (g_n X) (g_L X)) (hr : g_rs X = r_sh) {rf : jRf} (hrf : rf 0 = r_rf) {d : Nat} {sc : jSc} {al : jAl} {Post : jPo} {r9 : Int32} {S9 : (Nat → Int32)} {ar9 : jSc} (hP : Post (some (.int r9)) (va_up sc 0 S9) rf ar9 al) : ∀ (nn : Nat) (x1 : Int32) (x2 : Int32) (S : (Nat → Int32)) (ar : jSc), rF_66_20 nn x1 x2 S ar = some (r9, S9, ar9) → gL X 66 (d + 1) 20 [some (.ref 0), some (.int x1), some (.int x2), none, none] [] (va_up sc 0 S) rf ar al Post := by
  intro nn
  induction nn with
  | zero =>
    intro x1 x2 S ar h
    have h : (none : Option (Int32 × (Nat → Int32) × jSc)) = some _ := h
    cases h
  | succ nn ih =>
    intro x1 x2 S ar h
    unfold rF_66_20 at h
    refine gl_iload_n hX q_66_20 rfl rfl ?_
    refine gl_aload_n hX q_66_21 rfl rfl ?_
    refine gl_getA hX q_66_22 (qf_48 (by decide)) (qs_0 hr) rfl qk_30 ((congrFun hrf 30).trans qa_30) rfl ?_
    refine gl_bipush hX q_66_25 cb_26 rfl ?_
    refine gl_iaload hX q_66_27 (qs_14 hr) (by decide) rfl rfl ?_
    refine gl_ic_ge hX q_66_28 rfl rfl (fun c12 => ?_) (fun c12 => ?_)
    · have h := (if_pos c12).symm.trans h
      refine gl_iconst hX q_66_147 ci_m1 rfl ?_
      exact gl_ireturn q_66_148 (Or.inl qr_66) (by cases h; exact hP)
    · have h := (if_neg c12).symm.trans h
      refine gl_iconst hX q_66_31 ci_0 rfl ?_
      refine gl_istore_n (vs2 := [some (.ref 0), some (.int x1), some (.int x2), some (.int (0 : Int32)), none]) hX q_66_32 rfl rfl rfl rfl ?_
      refine gl_iconst hX q_66_33 ci_0 rfl ?_
      refine gl_istore (vs2 := [some (.ref 0), some (.int x1), some (.int x2), some (.int (0 : Int32)), some (.int (0 : Int32))]) hX q_66_34 rfl rfl rfl rfl ?_
      exact gl_weak (vs := [some (.ref 0), some (.int x1), some (.int x2), some (.int (0 : Int32)), some (.int (0 : Int32))]) ⟨rfl, rfl, rfl, rfl, rfl, trivial⟩ (rt_66_36 hX hr hrf ih hP oF x1 x2 (0 : Int32) (0 : Int32) S ar h)
def rF_66 (x1 : Int32) (S : (Nat → Int32)) (ar : jSc) : Option (Int32 × (Nat → Int32) × jSc) :=
  (if x1 = (-1 : Int32) then some ((ar 14 26), (upd S 0 (0 : Int32)), ar) else rF_66_20 oF x1 (0 : Int32) (upd S 0 (0 : Int32)) ar)
set_option maxHeartbeats 4000000 in
theorem rt_66 {X : jX} (hX : j_LK (g_n X) (g_L X)) (hr : g_rs X = r_sh) {rf : jRf} (hrf : rf 0 = r_rf) {d : Nat} : rT_66 X rf rF_66 (d + 1) := by
  intro sc al Post x1 S ar r9 S9 ar9 h hP
  unfold rF_66 at h
  refine gl_entry (m := 3) rfl ?_
  show gL X 66 (d + 1) 0 [some (.ref 0), some (.int x1), none, none, none] [] (va_up sc 0 S) rf ar al Post
  refine gl_aload_n hX q_66_0 rfl rfl ?_
  refine gl_iconst hX q_66_1 ci_0 rfl ?_
  refine gl_put hX q_66_2 (qf_126 (by decide)) (qs_0 hr) rfl qk_0 rfl ru rfl ?_
  refine gl_iload_n hX q_66_5 rfl rfl ?_
  refine gl_iconst hX q_66_6 ci_m1 rfl ?_
  refine gl_ic_ne hX q_66_7 rfl rfl (fun c13 => ?_) (fun c13 => ?_)
  · have h := (if_pos c13).symm.trans h
    refine gl_aload_n hX q_66_10 rfl rfl ?_
    refine gl_getA hX q_66_11 (qf_48 (by decide)) (qs_0 hr) rfl qk_30 ((congrFun hrf 30).trans qa_30) rfl ?_
    refine gl_bipush hX q_66_14 cb_26 rfl ?_
    refine gl_iaload hX q_66_16 (qs_14 hr) (by decide) rfl rfl ?_
    exact gl_ireturn q_66_17 (Or.inl qr_66) (by cases h; exact hP)
  · have h := (if_neg c13).symm.trans h
    refine gl_iconst hX q_66_18 ci_0 rfl ?_
    refine gl_istore_n (vs2 := [some (.ref 0), some (.int x1), some (.int (0 : Int32)), none, none]) hX q_66_19 rfl rfl rfl rfl ?_
    exact gl_weak (vs := [some (.ref 0), some (.int x1), some (.int (0 : Int32)), none, none]) ⟨rfl, rfl, rfl, trivial⟩ (rt_66_20 hX hr hrf hP oF x1 (0 : Int32) (upd S 0 (0 : Int32)) ar h)
/-- ClickOrdersModel.failed()Z -/
def rT_67 (X : jX) (rf : jRf) (F : (Nat → Int32) → jSc → Option (Int32 × (Nat → Int32) × jSc)) (e : Nat) : Prop := ∀ (sc : jSc) (al : jAl) (Post : jPo) (S : (Nat → Int32)) (ar : jSc) (r9 : Int32) (S9 : (Nat → Int32)) (ar9 : jSc), F S ar = some (r9, S9, ar9) → Post (some (.int r9)) (va_up sc 0 S9) rf ar9 al → gW X 67 e 0 (j_av [.ref 0]) [] (va_up sc 0 S) rf ar al Post
def rF_67 (S : (Nat → Int32)) (ar : jSc) : Option (Int32 × (Nat → Int32) × jSc) :=
  (if (ar 14 37) = (1 : Int32) then some ((1 : Int32), (upd S 0 (0 : Int32)), ar) else some ((0 : Int32), (upd S 0 (0 : Int32)), ar))
set_option maxHeartbeats 4000000 in
theorem rt_67 {X : jX} (hX : j_LK (g_n X) (g_L X)) (hr : g_rs X = r_sh) {rf : jRf} (hrf : rf 0 = r_rf) {d : Nat} : rT_67 X rf rF_67 (d + 1) := by
  intro sc al Post  S ar r9 S9 ar9 h hP
  unfold rF_67 at h
  refine gl_entry (m := 0) rfl ?_
  show gL X 67 (d + 1) 0 [some (.ref 0)] [] (va_up sc 0 S) rf ar al Post
  refine gl_aload_n hX q_67_0 rfl rfl ?_
  refine gl_iconst hX q_67_1 ci_0 rfl ?_
  refine gl_put hX q_67_2 (qf_126 (by decide)) (qs_0 hr) rfl qk_0 rfl ru rfl ?_
  refine gl_aload_n hX q_67_5 rfl rfl ?_
  refine gl_getA hX q_67_6 (qf_48 (by decide)) (qs_0 hr) rfl qk_30 ((congrFun hrf 30).trans qa_30) rfl ?_
  refine gl_bipush hX q_67_9 cb_37 rfl ?_
  refine gl_iaload hX q_67_11 (qs_14 hr) (by decide) rfl rfl ?_
  refine gl_iconst hX q_67_12 ci_1 rfl ?_
  refine gl_ic_ne hX q_67_13 rfl rfl (fun c1 => ?_) (fun c1 => ?_)
  · have h := (if_pos c1).symm.trans h
    refine gl_iconst hX q_67_16 ci_1 rfl ?_
    refine gl_goto hX q_67_17 rfl ?_
    exact gl_ireturn q_67_21 (Or.inr ⟨qr_67, Or.inr rfl⟩) (by cases h; exact hP)
  · have h := (if_neg c1).symm.trans h
    refine gl_iconst hX q_67_20 ci_0 rfl ?_
    exact gl_ireturn q_67_21 (Or.inr ⟨qr_67, Or.inl rfl⟩) (by cases h; exact hP)
/-- ClickOrdersModel.spoilt()Z -/
def rT_68 (X : jX) (rf : jRf) (F : (Nat → Int32) → jSc → Option (Int32 × (Nat → Int32) × jSc)) (e : Nat) : Prop := ∀ (sc : jSc) (al : jAl) (Post : jPo) (S : (Nat → Int32)) (ar : jSc) (r9 : Int32) (S9 : (Nat → Int32)) (ar9 : jSc), F S ar = some (r9, S9, ar9) → Post (some (.int r9)) (va_up sc 0 S9) rf ar9 al → gW X 68 e 0 (j_av [.ref 0]) [] (va_up sc 0 S) rf ar al Post
def rF_68 (S : (Nat → Int32)) (ar : jSc) : Option (Int32 × (Nat → Int32) × jSc) :=
  (o_b2 (rF_55 14 53 (upd (upd S 0 (0 : Int32)) 16 (0 : Int32)) ar) (fun Se1 are1 => (o_b3 (rF_57 Se1 are1) (fun ve2 Se2 are2 => (if ve2 = 0 ∨ ve2 = 1 then some (ve2, Se2, are2) else none)))))
set_option maxHeartbeats 4000000 in
theorem rt_68 {X : jX} (hX : j_LK (g_n X) (g_L X)) (hr : g_rs X = r_sh) {rf : jRf} (hrf : rf 0 = r_rf) {d : Nat} : rT_68 X rf rF_68 (d + 87) := by
  intro sc al Post  S ar r9 S9 ar9 h hP
  unfold rF_68 at h
  refine gl_entry (m := 0) rfl ?_
  show gL X 68 (d + 87) 0 [some (.ref 0)] [] (va_up sc 0 S) rf ar al Post
  refine gl_aload_n hX q_68_0 rfl rfl ?_
  refine gl_iconst hX q_68_1 ci_0 rfl ?_
  refine gl_put hX q_68_2 (qf_126 (by decide)) (qs_0 hr) rfl qk_0 rfl ru rfl ?_
  refine gl_aload_n hX q_68_5 rfl rfl ?_
  refine gl_iconst hX q_68_6 ci_0 rfl ?_
  refine gl_put hX q_68_7 (qf_316 (by decide)) (qs_0 hr) rfl qk_16 rfl ru rfl ?_
  refine gl_aload_n hX q_68_10 rfl rfl ?_
  refine gl_aload_n hX q_68_11 rfl rfl ?_
  refine gl_getA hX q_68_12 (qf_48 (by decide)) (qs_0 hr) rfl qk_30 ((congrFun hrf 30).trans qa_30) rfl ?_
  obtain ⟨Se1, are1, e1, h⟩ := o_k2 h
  refine gl_callV hX q_68_15 (qm_351 (by decide)) rfl rfl rfl (qs_0 hr) qx_55 rfl rfl ((rt_55 hX hr hrf) _ _ _ _ _ (qs_14 hr) _ _ _ _ e1 ?_)
  refine gl_aload_n hX q_68_18 rfl rfl ?_
  obtain ⟨ve2, Se2, are2, e2, h⟩ := o_k3 h
  refine gl_callV hX q_68_19 (qm_362 (by decide)) rfl rfl rfl (qs_0 hr) qx_57 rfl rfl ((rt_57 hX hr hrf) _ _ _  _ _ _ _ _ e2 ?_)
  obtain ⟨c3, h⟩ := o_ck h
  exact gl_ireturn q_68_22 (Or.inr ⟨qr_68, c3⟩) (by cases h; exact hP)
/-- ClickOrdersModel.isHappening(I)Z -/
def rT_69 (X : jX) (rf : jRf) (F : Int32 → (Nat → Int32) → jSc → Option (Int32 × (Nat → Int32) × jSc)) (e : Nat) : Prop := ∀ (sc : jSc) (al : jAl) (Post : jPo) (x1 : Int32) (S : (Nat → Int32)) (ar : jSc) (r9 : Int32) (S9 : (Nat → Int32)) (ar9 : jSc), F x1 S ar = some (r9, S9, ar9) → Post (some (.int r9)) (va_up sc 0 S9) rf ar9 al → gW X 69 e 0 (j_av [.ref 0, .int x1]) [] (va_up sc 0 S) rf ar al Post
def rF_69 (x1 : Int32) (S : (Nat → Int32)) (ar : jSc) : Option (Int32 × (Nat → Int32) × jSc) :=
  (o_b3 (rF_4 x1 (0 : Int32) ((S 31) - (1 : Int32)) S ar) (fun ve1 Se1 are1 => (if ve1 = 0 ∨ ve1 = 1 then some (ve1, Se1, are1) else none)))
set_option maxHeartbeats 4000000 in
theorem rt_69 {X : jX} (hX : j_LK (g_n X) (g_L X)) (hr : g_rs X = r_sh) {rf : jRf} (hrf : rf 0 = r_rf) {d : Nat} : rT_69 X rf rF_69 (d + 2) := by
  intro sc al Post x1 S ar r9 S9 ar9 h hP
  unfold rF_69 at h
  refine gl_entry (m := 0) rfl ?_
  show gL X 69 (d + 2) 0 [some (.ref 0), some (.int x1)] [] (va_up sc 0 S) rf ar al Post
  refine gl_iload_n hX q_69_0 rfl rfl ?_
  refine gl_iconst hX q_69_1 ci_0 rfl ?_
  refine gl_aload_n hX q_69_2 rfl rfl ?_
  refine gl_get hX q_69_3 (qf_341 (by decide)) (qs_0 hr) rfl qk_31 rfl rfl ?_
  refine gl_iconst hX q_69_6 ci_1 rfl ?_
  refine gl_isub hX q_69_7 rfl ?_
  obtain ⟨ve1, Se1, are1, e1, h⟩ := o_k3 h
  refine gl_callS q_69_8 (qm_247 (by decide)) rfl rfl rfl qx_4 rfl rfl ((rt_4 hX hr hrf) _ _ _ _ _ _ _ _ _ _ _ e1 ?_)
  obtain ⟨c2, h⟩ := o_ck h
  exact gl_ireturn q_69_11 (Or.inr ⟨qr_69, c2⟩) (by cases h; exact hP)
/-- ClickOrdersModel.happening(II)I -/
def rT_70 (X : jX) (rf : jRf) (F : Int32 → Int32 → (Nat → Int32) → jSc → Option (Int32 × (Nat → Int32) × jSc)) (e : Nat) : Prop := ∀ (sc : jSc) (al : jAl) (Post : jPo) (x1 : Int32) (x2 : Int32) (S : (Nat → Int32)) (ar : jSc) (r9 : Int32) (S9 : (Nat → Int32)) (ar9 : jSc), F x1 x2 S ar = some (r9, S9, ar9) → Post (some (.int r9)) (va_up sc 0 S9) rf ar9 al → gW X 70 e 0 (j_av [.ref 0, .int x1, .int x2]) [] (va_up sc 0 S) rf ar al Post
def rF_70_41 (x1 : Int32) (x2 : Int32) (y0 : Int32) (S : (Nat → Int32)) (ar : jSc) : Option (Int32 × (Nat → Int32) × jSc) :=
  (o_b3 (rF_3 y0 (2 : Int32) S ar) (fun ve1 Se1 are1 => (if ve1 = 0 then (if x2 = 0 then (if iB x1 40 then some ((are1 15 (iN x1)), Se1, are1) else none) else (if x2 = (1 : Int32) then (if iB x1 40 then some ((are1 16 (iN x1)), Se1, are1) else none) else (if x2 = (2 : Int32) then (if iB x1 40 then some ((are1 17 (iN x1)), Se1, are1) else none) else (if iB x1 40 then some ((are1 18 (iN x1)), Se1, are1) else none)))) else some ((0 : Int32), Se1, are1))))
set_option maxHeartbeats 4000000 in
theorem rt_70_41 {X : jX} (hX : j_LK (g_n X) (g_L X)) (hr : g_rs X = r_sh) {rf : jRf} (hrf : rf 0 = r_rf) {d : Nat} {sc : jSc} {al : jAl} {Post : jPo} {r9 : Int32} {S9 : (Nat → Int32)} {ar9 : jSc} (hP : Post (some (.int r9)) (va_up sc 0 S9) rf ar9 al) (x1 : Int32) (x2 : Int32) (y0 : Int32) (S : (Nat → Int32)) (ar : jSc) (h : rF_70_41 x1 x2 y0 S ar = some (r9, S9, ar9)) : gL X 70 (d + 3) 41 [some (.ref 0), some (.int x1), some (.int x2)] [.int y0, .ref 0] (va_up sc 0 S) rf ar al Post := by
  unfold rF_70_41 at h
  refine gl_iconst hX q_70_41 ci_2 rfl ?_
  obtain ⟨ve1, Se1, are1, e1, h⟩ := o_k3 h
  refine gl_callV hX q_70_42 (qm_306 (by decide)) rfl rfl rfl (qs_0 hr) qx_3 rfl rfl ((rt_3 hX hr hrf) _ _ _ _ _ _ _ _ _ _ e1 ?_)
  refine gl_if_eq hX q_70_45 rfl rfl (fun c2 => ?_) (fun c2 => ?_)
  · have h := (if_pos c2).symm.trans h
    refine gl_iload_n hX q_70_50 rfl rfl ?_
    refine gl_if_ne hX q_70_51 rfl rfl (fun c3 => ?_) (fun c3 => ?_)
    · have h := (if_pos c3).symm.trans h
      refine gl_aload_n hX q_70_54 rfl rfl ?_
      refine gl_getA hX q_70_55 (qf_51 (by decide)) (qs_0 hr) rfl qk_32 ((congrFun hrf 32).trans qa_32) rfl ?_
      refine gl_iload_n hX q_70_58 rfl rfl ?_
      obtain ⟨c4, h⟩ := o_ck h
      refine gl_iaload hX q_70_59 (qs_15 hr) c4 rfl rfl ?_
      refine gl_goto hX q_70_60 rfl ?_
      exact gl_ireturn q_70_97 (Or.inl qr_70) (by cases h; exact hP)
    · have h := (if_neg c3).symm.trans h
      refine gl_iload_n hX q_70_63 rfl rfl ?_
      refine gl_iconst hX q_70_64 ci_1 rfl ?_
      refine gl_ic_ne hX q_70_65 rfl rfl (fun c5 => ?_) (fun c5 => ?_)
      · have h := (if_pos c5).symm.trans h
        refine gl_aload_n hX q_70_68 rfl rfl ?_
        refine gl_getA hX q_70_69 (qf_54 (by decide)) (qs_0 hr) rfl qk_33 ((congrFun hrf 33).trans qa_33) rfl ?_
        refine gl_iload_n hX q_70_72 rfl rfl ?_
        obtain ⟨c6, h⟩ := o_ck h
        refine gl_iaload hX q_70_73 (qs_16 hr) c6 rfl rfl ?_
        refine gl_goto hX q_70_74 rfl ?_
        exact gl_ireturn q_70_97 (Or.inl qr_70) (by cases h; exact hP)
      · have h := (if_neg c5).symm.trans h
        refine gl_iload_n hX q_70_77 rfl rfl ?_
        refine gl_iconst hX q_70_78 ci_2 rfl ?_
        refine gl_ic_ne hX q_70_79 rfl rfl (fun c7 => ?_) (fun c7 => ?_)
        · have h := (if_pos c7).symm.trans h
          refine gl_aload_n hX q_70_82 rfl rfl ?_
          refine gl_getA hX q_70_83 (qf_57 (by decide)) (qs_0 hr) rfl qk_34 ((congrFun hrf 34).trans qa_34) rfl ?_
          refine gl_iload_n hX q_70_86 rfl rfl ?_
          obtain ⟨c8, h⟩ := o_ck h
          refine gl_iaload hX q_70_87 (qs_17 hr) c8 rfl rfl ?_
          refine gl_goto hX q_70_88 rfl ?_
          exact gl_ireturn q_70_97 (Or.inl qr_70) (by cases h; exact hP)
        · have h := (if_neg c7).symm.trans h
          refine gl_aload_n hX q_70_91 rfl rfl ?_
          refine gl_getA hX q_70_92 (qf_60 (by decide)) (qs_0 hr) rfl qk_35 ((congrFun hrf 35).trans qa_35) rfl ?_
          refine gl_iload_n hX q_70_95 rfl rfl ?_
          obtain ⟨c9, h⟩ := o_ck h
          refine gl_iaload hX q_70_96 (qs_18 hr) c9 rfl rfl ?_
          exact gl_ireturn q_70_97 (Or.inl qr_70) (by cases h; exact hP)
  · have h := (if_neg c2).symm.trans h
    refine gl_iconst hX q_70_48 ci_0 rfl ?_
    exact gl_ireturn q_70_49 (Or.inl qr_70) (by cases h; exact hP)
def rF_70_19 (x1 : Int32) (x2 : Int32) (y0 : Int32) (S : (Nat → Int32)) (ar : jSc) : Option (Int32 × (Nat → Int32) × jSc) :=
  (o_b3 (rF_3 y0 (1 : Int32) S ar) (fun ve10 Se10 are10 => (if ve10 = 0 then (o_b3 (rF_4 x2 (0 : Int32) (3 : Int32) Se10 are10) (fun ve12 Se12 are12 => (if ve12 = 0 then rF_70_41 x1 x2 (1 : Int32) Se12 are12 else rF_70_41 x1 x2 (0 : Int32) Se12 are12))) else some ((0 : Int32), Se10, are10))))
set_option maxHeartbeats 4000000 in
theorem rt_70_19 {X : jX} (hX : j_LK (g_n X) (g_L X)) (hr : g_rs X = r_sh) {rf : jRf} (hrf : rf 0 = r_rf) {d : Nat} {sc : jSc} {al : jAl} {Post : jPo} {r9 : Int32} {S9 : (Nat → Int32)} {ar9 : jSc} (hP : Post (some (.int r9)) (va_up sc 0 S9) rf ar9 al) (x1 : Int32) (x2 : Int32) (y0 : Int32) (S : (Nat → Int32)) (ar : jSc) (h : rF_70_19 x1 x2 y0 S ar = some (r9, S9, ar9)) : gL X 70 (d + 3) 19 [some (.ref 0), some (.int x1), some (.int x2)] [.int y0, .ref 0] (va_up sc 0 S) rf ar al Post := by
  unfold rF_70_19 at h
  refine gl_iconst hX q_70_19 ci_1 rfl ?_
  obtain ⟨ve10, Se10, are10, e10, h⟩ := o_k3 h
  refine gl_callV hX q_70_20 (qm_306 (by decide)) rfl rfl rfl (qs_0 hr) qx_3 rfl rfl ((rt_3 hX hr hrf) _ _ _ _ _ _ _ _ _ _ e10 ?_)
  refine gl_if_ne hX q_70_23 rfl rfl (fun c11 => ?_) (fun c11 => ?_)
  · have h := (if_pos c11).symm.trans h
    refine gl_aload_n hX q_70_26 rfl rfl ?_
    refine gl_iload_n hX q_70_27 rfl rfl ?_
    refine gl_iconst hX q_70_28 ci_0 rfl ?_
    refine gl_iconst hX q_70_29 ci_3 rfl ?_
    obtain ⟨ve12, Se12, are12, e12, h⟩ := o_k3 h
    refine gl_callS q_70_30 (qm_247 (by decide)) rfl rfl rfl qx_4 rfl rfl ((rt_4 hX hr hrf) _ _ _ _ _ _ _ _ _ _ _ e12 ?_)
    refine gl_if_ne hX q_70_33 rfl rfl (fun c13 => ?_) (fun c13 => ?_)
    · have h := (if_pos c13).symm.trans h
      refine gl_iconst hX q_70_36 ci_1 rfl ?_
      refine gl_goto hX q_70_37 rfl ?_
      exact gl_weak (vs := [some (.ref 0), some (.int x1), some (.int x2)]) ⟨rfl, rfl, rfl, trivial⟩ (rt_70_41 hX hr hrf hP x1 x2 (1 : Int32) Se12 are12 h)
    · have h := (if_neg c13).symm.trans h
      refine gl_iconst hX q_70_40 ci_0 rfl ?_
      exact gl_weak (vs := [some (.ref 0), some (.int x1), some (.int x2)]) ⟨rfl, rfl, rfl, trivial⟩ (rt_70_41 hX hr hrf hP x1 x2 (0 : Int32) Se12 are12 h)
  · have h := (if_neg c11).symm.trans h
    refine gl_iconst hX q_70_48 ci_0 rfl ?_
    exact gl_ireturn q_70_49 (Or.inl qr_70) (by cases h; exact hP)
def rF_70 (x1 : Int32) (x2 : Int32) (S : (Nat → Int32)) (ar : jSc) : Option (Int32 × (Nat → Int32) × jSc) :=
  (o_b3 (rF_69 x1 (upd S 0 (0 : Int32)) ar) (fun ve14 Se14 are14 => (if ve14 = 0 then rF_70_19 x1 x2 (1 : Int32) Se14 are14 else rF_70_19 x1 x2 (0 : Int32) Se14 are14)))
set_option maxHeartbeats 4000000 in
theorem rt_70 {X : jX} (hX : j_LK (g_n X) (g_L X)) (hr : g_rs X = r_sh) {rf : jRf} (hrf : rf 0 = r_rf) {d : Nat} : rT_70 X rf rF_70 (d + 3) := by
  intro sc al Post x1 x2 S ar r9 S9 ar9 h hP
  unfold rF_70 at h
  refine gl_entry (m := 0) rfl ?_
  show gL X 70 (d + 3) 0 [some (.ref 0), some (.int x1), some (.int x2)] [] (va_up sc 0 S) rf ar al Post
  refine gl_aload_n hX q_70_0 rfl rfl ?_
  refine gl_iconst hX q_70_1 ci_0 rfl ?_
  refine gl_put hX q_70_2 (qf_126 (by decide)) (qs_0 hr) rfl qk_0 rfl ru rfl ?_
  refine gl_aload_n hX q_70_5 rfl rfl ?_
  refine gl_aload_n hX q_70_6 rfl rfl ?_
  refine gl_iload_n hX q_70_7 rfl rfl ?_
  obtain ⟨ve14, Se14, are14, e14, h⟩ := o_k3 h
  refine gl_callV hX q_70_8 (qm_365 (by decide)) rfl rfl rfl (qs_0 hr) qx_69 rfl rfl ((rt_69 hX hr hrf) _ _ _ _ _ _ _ _ _ e14 ?_)
  refine gl_if_ne hX q_70_11 rfl rfl (fun c15 => ?_) (fun c15 => ?_)
  · have h := (if_pos c15).symm.trans h
    refine gl_iconst hX q_70_14 ci_1 rfl ?_
    refine gl_goto hX q_70_15 rfl ?_
    exact gl_weak (vs := [some (.ref 0), some (.int x1), some (.int x2)]) ⟨rfl, rfl, rfl, trivial⟩ (rt_70_19 hX hr hrf hP x1 x2 (1 : Int32) Se14 are14 h)
  · have h := (if_neg c15).symm.trans h
    refine gl_iconst hX q_70_18 ci_0 rfl ?_
    exact gl_weak (vs := [some (.ref 0), some (.int x1), some (.int x2)]) ⟨rfl, rfl, rfl, trivial⟩ (rt_70_19 hX hr hrf hP x1 x2 (0 : Int32) Se14 are14 h)
/-- ClickOrdersModel.mayPress(II)Z -/
def rT_71 (X : jX) (rf : jRf) (F : Int32 → Int32 → (Nat → Int32) → jSc → Option (Int32 × (Nat → Int32) × jSc)) (e : Nat) : Prop := ∀ (sc : jSc) (al : jAl) (Post : jPo) (x1 : Int32) (x2 : Int32) (S : (Nat → Int32)) (ar : jSc) (r9 : Int32) (S9 : (Nat → Int32)) (ar9 : jSc), F x1 x2 S ar = some (r9, S9, ar9) → Post (some (.int r9)) (va_up sc 0 S9) rf ar9 al → gW X 71 e 0 (j_av [.ref 0, .int x1, .int x2]) [] (va_up sc 0 S) rf ar al Post
def rF_71 (x1 : Int32) (x2 : Int32) (S : (Nat → Int32)) (ar : jSc) : Option (Int32 × (Nat → Int32) × jSc) :=
  (if iB x1 41 then (if (((ar (20 + iN x1) 8) >>> (x2 &&& 31)) &&& (1 : Int32)) = (1 : Int32) then (if iB x1 41 then (if (((ar (20 + iN x1) 9) >>> (x2 &&& 31)) &&& (1 : Int32)) = 0 then some ((1 : Int32), S, ar) else some ((0 : Int32), S, ar)) else none) else some ((0 : Int32), S, ar)) else none)
set_option maxHeartbeats 4000000 in
theorem rt_71 {X : jX} (hX : j_LK (g_n X) (g_L X)) (hr : g_rs X = r_sh) {rf : jRf} (hrf : rf 0 = r_rf) {d : Nat} : rT_71 X rf rF_71 (d + 1) := by
  intro sc al Post x1 x2 S ar r9 S9 ar9 h hP
  unfold rF_71 at h
  refine gl_entry (m := 0) rfl ?_
  show gL X 71 (d + 1) 0 [some (.ref 0), some (.int x1), some (.int x2)] [] (va_up sc 0 S) rf ar al Post
  refine gl_aload_n hX q_71_0 rfl rfl ?_
  refine gl_getA hX q_71_1 (qf_63 (by decide)) (qs_0 hr) rfl qk_36 ((congrFun hrf 36).trans qa_36) rfl ?_
  refine gl_iload_n hX q_71_4 rfl rfl ?_
  obtain ⟨c1, h⟩ := o_ck h
  refine gl_aaload hX q_71_5 (qs_19 hr) c1 (Or.inr ⟨Or.inl rfl, qs_0 hr⟩) (qo_19 (iB_lt c1)) rfl ?_
  refine gl_bipush hX q_71_6 cb_8 rfl ?_
  refine gl_iaload hX q_71_8 (qs_states hr (iB_lt c1)) (by decide) rfl rfl ?_
  refine gl_iload_n hX q_71_9 rfl rfl ?_
  refine gl_ishr hX q_71_10 rfl ?_
  refine gl_iconst hX q_71_11 ci_1 rfl ?_
  refine gl_iand hX q_71_12 rfl ?_
  refine gl_iconst hX q_71_13 ci_1 rfl ?_
  refine gl_ic_ne hX q_71_14 rfl rfl (fun c2 => ?_) (fun c2 => ?_)
  · have h := (if_pos c2).symm.trans h
    refine gl_aload_n hX q_71_17 rfl rfl ?_
    refine gl_getA hX q_71_18 (qf_63 (by decide)) (qs_0 hr) rfl qk_36 ((congrFun hrf 36).trans qa_36) rfl ?_
    refine gl_iload_n hX q_71_21 rfl rfl ?_
    obtain ⟨c3, h⟩ := o_ck h
    refine gl_aaload hX q_71_22 (qs_19 hr) c3 (Or.inr ⟨Or.inl rfl, qs_0 hr⟩) (qo_19 (iB_lt c3)) rfl ?_
    refine gl_bipush hX q_71_23 cb_9 rfl ?_
    refine gl_iaload hX q_71_25 (qs_states hr (iB_lt c3)) (by decide) rfl rfl ?_
    refine gl_iload_n hX q_71_26 rfl rfl ?_
    refine gl_ishr hX q_71_27 rfl ?_
    refine gl_iconst hX q_71_28 ci_1 rfl ?_
    refine gl_iand hX q_71_29 rfl ?_
    refine gl_if_ne hX q_71_30 rfl rfl (fun c4 => ?_) (fun c4 => ?_)
    · have h := (if_pos c4).symm.trans h
      refine gl_iconst hX q_71_33 ci_1 rfl ?_
      refine gl_goto hX q_71_34 rfl ?_
      exact gl_ireturn q_71_38 (Or.inr ⟨qr_71, Or.inr rfl⟩) (by cases h; exact hP)
    · have h := (if_neg c4).symm.trans h
      refine gl_iconst hX q_71_37 ci_0 rfl ?_
      exact gl_ireturn q_71_38 (Or.inr ⟨qr_71, Or.inl rfl⟩) (by cases h; exact hP)
  · have h := (if_neg c2).symm.trans h
    refine gl_iconst hX q_71_37 ci_0 rfl ?_
    exact gl_ireturn q_71_38 (Or.inr ⟨qr_71, Or.inl rfl⟩) (by cases h; exact hP)
/-- ClickOrdersModel.findOrder()V -/
def rT_72 (X : jX) (rf : jRf) (F : (Nat → Int32) → jSc → Option ((Nat → Int32) × jSc)) (e : Nat) : Prop := ∀ (sc : jSc) (al : jAl) (Post : jPo) (S : (Nat → Int32)) (ar : jSc) (S9 : (Nat → Int32)) (ar9 : jSc), F S ar = some (S9, ar9) → Post none (va_up sc 0 S9) rf ar9 al → gW X 72 e 0 (j_av [.ref 0]) [] (va_up sc 0 S) rf ar al Post
def rF_72_105 (k37 : Int32 → Int32 → Int32 → (Nat → Int32) → jSc → Option ((Nat → Int32) × jSc)) (x1 : Int32) (x2 : Int32) (x3 : Int32) (y0 : Int32) (S : (Nat → Int32)) (ar : jSc) : Option ((Nat → Int32) × jSc) :=
  (if iB x1 40 then (if (8 : Int32) ≤ (ar 15 (iN x1)) then (if iB x3 40 then (if iB x1 40 then (if y0 = 0 ∨ y0 = 1 then k37 x1 x2 (x3 + (1 : Int32)) S (j_u2 ar (62 + iN x3) (iN x1) y0) else none) else none) else none) else (if iB x1 40 then (o_b3 (rF_71 (x3 + (1 : Int32)) (ar 15 (iN x1)) S ar) (fun ve7 Se7 are7 => (if ve7 = 0 then (if iB x3 40 then (if iB x1 40 then (if y0 = 0 ∨ y0 = 1 then k37 x1 x2 (x3 + (1 : Int32)) Se7 (j_u2 are7 (62 + iN x3) (iN x1) y0) else none) else none) else none) else (if iB x1 40 then (o_b3 (rF_71 x3 (are7 15 (iN x1)) Se7 are7) (fun ve13 Se13 are13 => (if ve13 = 0 then (if iB x3 40 then (if iB x1 40 then (if y0 = 0 ∨ y0 = 1 then k37 x1 x3 (x3 + (1 : Int32)) Se13 (j_u2 are13 (62 + iN x3) (iN x1) y0) else none) else none) else none) else (if iB x3 40 then (if iB x1 40 then (if y0 = 0 ∨ y0 = 1 then k37 x1 x2 (x3 + (1 : Int32)) Se13 (j_u2 are13 (62 + iN x3) (iN x1) y0) else none) else none) else none)))) else none)))) else none)) else none)
set_option maxHeartbeats 4000000 in
theorem rt_72_105 {X : jX} (hX : j_LK (g_n X) (g_L X)) (hr : g_rs X = r_sh) {rf : jRf} (hrf : rf 0 = r_rf) {d : Nat} {sc : jSc} {al : jAl} {Post : jPo} {S9 : (Nat → Int32)} {ar9 : jSc} {k37 : Int32 → Int32 → Int32 → (Nat → Int32) → jSc → Option ((Nat → Int32) × jSc)} (hk37 : ∀ (x1 : Int32) (x2 : Int32) (x3 : Int32) (S : (Nat → Int32)) (ar : jSc), k37 x1 x2 x3 S ar = some (S9, ar9) → gL X 72 (d + 2) 37 [some (.ref 0), some (.int x1), some (.int x2), some (.int x3), none] [] (va_up sc 0 S) rf ar al Post) (hP : Post none (va_up sc 0 S9) rf ar9 al) (x1 : Int32) (x2 : Int32) (x3 : Int32) (y0 : Int32) (S : (Nat → Int32)) (ar : jSc) (h : rF_72_105 k37 x1 x2 x3 y0 S ar = some (S9, ar9)) : gL X 72 (d + 2) 105 [some (.ref 0), some (.int x1), some (.int x2), some (.int x3), none] [.int y0] (va_up sc 0 S) rf ar al Post := by
  unfold rF_72_105 at h
  refine gl_istore (vs2 := [some (.ref 0), some (.int x1), some (.int x2), some (.int x3), some (.int y0)]) hX q_72_105 rfl rfl rfl rfl ?_
  refine gl_aload_n hX q_72_107 rfl rfl ?_
  refine gl_getA hX q_72_108 (qf_51 (by decide)) (qs_0 hr) rfl qk_32 ((congrFun hrf 32).trans qa_32) rfl ?_
  refine gl_iload_n hX q_72_111 rfl rfl ?_
  obtain ⟨c1, h⟩ := o_ck h
  refine gl_iaload hX q_72_112 (qs_15 hr) c1 rfl rfl ?_
  refine gl_bipush hX q_72_113 cb_8 rfl ?_
  refine gl_ic_ge hX q_72_115 rfl rfl (fun c2 => ?_) (fun c2 => ?_)
  · have h := (if_pos c2).symm.trans h
    refine gl_aload_n hX q_72_150 rfl rfl ?_
    refine gl_getA hX q_72_151 (qf_68 (by decide)) (qs_0 hr) rfl qk_37 ((congrFun hrf 37).trans qa_37) rfl ?_
    refine gl_iload_n hX q_72_154 rfl rfl ?_
    obtain ⟨c3, h⟩ := o_ck h
    refine gl_aaload hX q_72_155 (qs_61 hr) c3 (Or.inr ⟨Or.inr rfl, qs_0 hr⟩) (qo_61 (iB_lt c3)) rfl ?_
    refine gl_iload_n hX q_72_156 rfl rfl ?_
    refine gl_iload hX q_72_157 rfl rfl ?_
    obtain ⟨c4, h⟩ := o_ck h
    obtain ⟨c5, h⟩ := o_ck h
    refine gl_bastore (ar2 := (j_u2 ar (62 + iN x3) (iN x1) y0)) hX q_72_159 (qs_isOrdered hr (iB_lt c3)) c4 c5 rfl rfl ?_
    refine gl_iinc (vs2 := [some (.ref 0), some (.int x1), some (.int x2), some (.int (x3 + (1 : Int32))), some (.int y0)]) hX q_72_160 rfl rfl rfl ci_1 rfl rfl ?_
    refine gl_goto hX q_72_163 rfl ?_
    exact gl_weak (vs := [some (.ref 0), some (.int x1), some (.int x2), some (.int (x3 + (1 : Int32))), none]) ⟨rfl, rfl, rfl, rfl, trivial⟩ (hk37 x1 x2 (x3 + (1 : Int32)) S (j_u2 ar (62 + iN x3) (iN x1) y0) h)
  · have h := (if_neg c2).symm.trans h
    refine gl_aload_n hX q_72_118 rfl rfl ?_
    refine gl_iload_n hX q_72_119 rfl rfl ?_
    refine gl_iconst hX q_72_120 ci_1 rfl ?_
    refine gl_iadd hX q_72_121 rfl ?_
    refine gl_aload_n hX q_72_122 rfl rfl ?_
    refine gl_getA hX q_72_123 (qf_51 (by decide)) (qs_0 hr) rfl qk_32 ((congrFun hrf 32).trans qa_32) rfl ?_
    refine gl_iload_n hX q_72_126 rfl rfl ?_
    obtain ⟨c6, h⟩ := o_ck h
    refine gl_iaload hX q_72_127 (qs_15 hr) c6 rfl rfl ?_
    obtain ⟨ve7, Se7, are7, e7, h⟩ := o_k3 h
    refine gl_callV hX q_72_128 (qm_368 (by decide)) rfl rfl rfl (qs_0 hr) qx_71 rfl rfl ((rt_71 hX hr hrf) _ _ _ _ _ _ _ _ _ _ e7 ?_)
    refine gl_if_eq hX q_72_131 rfl rfl (fun c8 => ?_) (fun c8 => ?_)
    · have h := (if_pos c8).symm.trans h
      refine gl_aload_n hX q_72_150 rfl rfl ?_
      refine gl_getA hX q_72_151 (qf_68 (by decide)) (qs_0 hr) rfl qk_37 ((congrFun hrf 37).trans qa_37) rfl ?_
      refine gl_iload_n hX q_72_154 rfl rfl ?_
      obtain ⟨c9, h⟩ := o_ck h
      refine gl_aaload hX q_72_155 (qs_61 hr) c9 (Or.inr ⟨Or.inr rfl, qs_0 hr⟩) (qo_61 (iB_lt c9)) rfl ?_
      refine gl_iload_n hX q_72_156 rfl rfl ?_
      refine gl_iload hX q_72_157 rfl rfl ?_
      obtain ⟨c10, h⟩ := o_ck h
      obtain ⟨c11, h⟩ := o_ck h
      refine gl_bastore (ar2 := (j_u2 are7 (62 + iN x3) (iN x1) y0)) hX q_72_159 (qs_isOrdered hr (iB_lt c9)) c10 c11 rfl rfl ?_
      refine gl_iinc (vs2 := [some (.ref 0), some (.int x1), some (.int x2), some (.int (x3 + (1 : Int32))), some (.int y0)]) hX q_72_160 rfl rfl rfl ci_1 rfl rfl ?_
      refine gl_goto hX q_72_163 rfl ?_
      exact gl_weak (vs := [some (.ref 0), some (.int x1), some (.int x2), some (.int (x3 + (1 : Int32))), none]) ⟨rfl, rfl, rfl, rfl, trivial⟩ (hk37 x1 x2 (x3 + (1 : Int32)) Se7 (j_u2 are7 (62 + iN x3) (iN x1) y0) h)
    · have h := (if_neg c8).symm.trans h
      refine gl_aload_n hX q_72_134 rfl rfl ?_
      refine gl_iload_n hX q_72_135 rfl rfl ?_
      refine gl_aload_n hX q_72_136 rfl rfl ?_
      refine gl_getA hX q_72_137 (qf_51 (by decide)) (qs_0 hr) rfl qk_32 ((congrFun hrf 32).trans qa_32) rfl ?_
      refine gl_iload_n hX q_72_140 rfl rfl ?_
      obtain ⟨c12, h⟩ := o_ck h
      refine gl_iaload hX q_72_141 (qs_15 hr) c12 rfl rfl ?_
      obtain ⟨ve13, Se13, are13, e13, h⟩ := o_k3 h
      refine gl_callV hX q_72_142 (qm_368 (by decide)) rfl rfl rfl (qs_0 hr) qx_71 rfl rfl ((rt_71 hX hr hrf) _ _ _ _ _ _ _ _ _ _ e13 ?_)
      refine gl_if_ne hX q_72_145 rfl rfl (fun c14 => ?_) (fun c14 => ?_)
      · have h := (if_pos c14).symm.trans h
        refine gl_iload_n hX q_72_148 rfl rfl ?_
        refine gl_istore_n (vs2 := [some (.ref 0), some (.int x1), some (.int x3), some (.int x3), some (.int y0)]) hX q_72_149 rfl rfl rfl rfl ?_
        refine gl_aload_n hX q_72_150 rfl rfl ?_
        refine gl_getA hX q_72_151 (qf_68 (by decide)) (qs_0 hr) rfl qk_37 ((congrFun hrf 37).trans qa_37) rfl ?_
        refine gl_iload_n hX q_72_154 rfl rfl ?_
        obtain ⟨c15, h⟩ := o_ck h
        refine gl_aaload hX q_72_155 (qs_61 hr) c15 (Or.inr ⟨Or.inr rfl, qs_0 hr⟩) (qo_61 (iB_lt c15)) rfl ?_
        refine gl_iload_n hX q_72_156 rfl rfl ?_
        refine gl_iload hX q_72_157 rfl rfl ?_
        obtain ⟨c16, h⟩ := o_ck h
        obtain ⟨c17, h⟩ := o_ck h
        refine gl_bastore (ar2 := (j_u2 are13 (62 + iN x3) (iN x1) y0)) hX q_72_159 (qs_isOrdered hr (iB_lt c15)) c16 c17 rfl rfl ?_
        refine gl_iinc (vs2 := [some (.ref 0), some (.int x1), some (.int x3), some (.int (x3 + (1 : Int32))), some (.int y0)]) hX q_72_160 rfl rfl rfl ci_1 rfl rfl ?_
        refine gl_goto hX q_72_163 rfl ?_
        exact gl_weak (vs := [some (.ref 0), some (.int x1), some (.int x3), some (.int (x3 + (1 : Int32))), none]) ⟨rfl, rfl, rfl, rfl, trivial⟩ (hk37 x1 x3 (x3 + (1 : Int32)) Se13 (j_u2 are13 (62 + iN x3) (iN x1) y0) h)
      · have h := (if_neg c14).symm.trans h
        refine gl_aload_n hX q_72_150 rfl rfl ?_
        refine gl_getA hX q_72_151 (qf_68 (by decide)) (qs_0 hr) rfl qk_37 ((congrFun hrf 37).trans qa_37) rfl ?_
        refine gl_iload_n hX q_72_154 rfl rfl ?_
        obtain ⟨c18, h⟩ := o_ck h
        refine gl_aaload hX q_72_155 (qs_61 hr) c18 (Or.inr ⟨Or.inr rfl, qs_0 hr⟩) (qo_61 (iB_lt c18)) rfl ?_
        refine gl_iload_n hX q_72_156 rfl rfl ?_
        refine gl_iload hX q_72_157 rfl rfl ?_
        obtain ⟨c19, h⟩ := o_ck h
        obtain ⟨c20, h⟩ := o_ck h
        refine gl_bastore (ar2 := (j_u2 are13 (62 + iN x3) (iN x1) y0)) hX q_72_159 (qs_isOrdered hr (iB_lt c18)) c19 c20 rfl rfl ?_
        refine gl_iinc (vs2 := [some (.ref 0), some (.int x1), some (.int x2), some (.int (x3 + (1 : Int32))), some (.int y0)]) hX q_72_160 rfl rfl rfl ci_1 rfl rfl ?_
        refine gl_goto hX q_72_163 rfl ?_
        exact gl_weak (vs := [some (.ref 0), some (.int x1), some (.int x2), some (.int (x3 + (1 : Int32))), none]) ⟨rfl, rfl, rfl, rfl, trivial⟩ (hk37 x1 x2 (x3 + (1 : Int32)) Se13 (j_u2 are13 (62 + iN x3) (iN x1) y0) h)
def rF_72_74 (k37 : Int32 → Int32 → Int32 → (Nat → Int32) → jSc → Option ((Nat → Int32) × jSc)) (x1 : Int32) (x2 : Int32) (x3 : Int32) (S : (Nat → Int32)) (ar : jSc) : Option ((Nat → Int32) × jSc) :=
  (if iB x3 40 then (if (ar 15 (iN x3)) ≤ (8 : Int32) then rF_72_105 k37 x1 x2 x3 (0 : Int32) S ar else (if iB x3 40 then (if iB x1 40 then (if (ar 15 (iN x3)) = (ar 15 (iN x1)) then rF_72_105 k37 x1 x2 x3 (1 : Int32) S ar else rF_72_105 k37 x1 x2 x3 (0 : Int32) S ar) else none) else none)) else none)
set_option maxHeartbeats 4000000 in
theorem rt_72_74 {X : jX} (hX : j_LK (g_n X) (g_L X)) (hr : g_rs X = r_sh) {rf : jRf} (hrf : rf 0 = r_rf) {d : Nat} {sc : jSc} {al : jAl} {Post : jPo} {S9 : (Nat → Int32)} {ar9 : jSc} {k37 : Int32 → Int32 → Int32 → (Nat → Int32) → jSc → Option ((Nat → Int32) × jSc)} (hk37 : ∀ (x1 : Int32) (x2 : Int32) (x3 : Int32) (S : (Nat → Int32)) (ar : jSc), k37 x1 x2 x3 S ar = some (S9, ar9) → gL X 72 (d + 2) 37 [some (.ref 0), some (.int x1), some (.int x2), some (.int x3), none] [] (va_up sc 0 S) rf ar al Post) (hP : Post none (va_up sc 0 S9) rf ar9 al) (x1 : Int32) (x2 : Int32) (x3 : Int32) (S : (Nat → Int32)) (ar : jSc) (h : rF_72_74 k37 x1 x2 x3 S ar = some (S9, ar9)) : gL X 72 (d + 2) 74 [some (.ref 0), some (.int x1), some (.int x2), some (.int x3), none] [] (va_up sc 0 S) rf ar al Post := by
  unfold rF_72_74 at h
  refine gl_aload_n hX q_72_74 rfl rfl ?_
  refine gl_getA hX q_72_75 (qf_51 (by decide)) (qs_0 hr) rfl qk_32 ((congrFun hrf 32).trans qa_32) rfl ?_
  refine gl_iload_n hX q_72_78 rfl rfl ?_
  obtain ⟨c21, h⟩ := o_ck h
  refine gl_iaload hX q_72_79 (qs_15 hr) c21 rfl rfl ?_
  refine gl_bipush hX q_72_80 cb_8 rfl ?_
  refine gl_ic_le hX q_72_82 rfl rfl (fun c22 => ?_) (fun c22 => ?_)
  · have h := (if_pos c22).symm.trans h
    refine gl_iconst hX q_72_104 ci_0 rfl ?_
    exact gl_weak (vs := [some (.ref 0), some (.int x1), some (.int x2), some (.int x3), none]) ⟨rfl, rfl, rfl, rfl, trivial⟩ (rt_72_105 hX hr hrf hk37 hP x1 x2 x3 (0 : Int32) S ar h)
  · have h := (if_neg c22).symm.trans h
    refine gl_aload_n hX q_72_85 rfl rfl ?_
    refine gl_getA hX q_72_86 (qf_51 (by decide)) (qs_0 hr) rfl qk_32 ((congrFun hrf 32).trans qa_32) rfl ?_
    refine gl_iload_n hX q_72_89 rfl rfl ?_
    obtain ⟨c23, h⟩ := o_ck h
    refine gl_iaload hX q_72_90 (qs_15 hr) c23 rfl rfl ?_
    refine gl_aload_n hX q_72_91 rfl rfl ?_
    refine gl_getA hX q_72_92 (qf_51 (by decide)) (qs_0 hr) rfl qk_32 ((congrFun hrf 32).trans qa_32) rfl ?_
    refine gl_iload_n hX q_72_95 rfl rfl ?_
    obtain ⟨c24, h⟩ := o_ck h
    refine gl_iaload hX q_72_96 (qs_15 hr) c24 rfl rfl ?_
    refine gl_ic_ne hX q_72_97 rfl rfl (fun c25 => ?_) (fun c25 => ?_)
    · have h := (if_pos c25).symm.trans h
      refine gl_iconst hX q_72_100 ci_1 rfl ?_
      refine gl_goto hX q_72_101 rfl ?_
      exact gl_weak (vs := [some (.ref 0), some (.int x1), some (.int x2), some (.int x3), none]) ⟨rfl, rfl, rfl, rfl, trivial⟩ (rt_72_105 hX hr hrf hk37 hP x1 x2 x3 (1 : Int32) S ar h)
    · have h := (if_neg c25).symm.trans h
      refine gl_iconst hX q_72_104 ci_0 rfl ?_
      exact gl_weak (vs := [some (.ref 0), some (.int x1), some (.int x2), some (.int x3), none]) ⟨rfl, rfl, rfl, rfl, trivial⟩ (rt_72_105 hX hr hrf hk37 hP x1 x2 x3 (0 : Int32) S ar h)
def rF_72_191 (k184 : Int32 → Int32 → (Nat → Int32) → jSc → Option ((Nat → Int32) × jSc)) : Nat → Int32 → Int32 → Int32 → (Nat → Int32) → jSc → Option ((Nat → Int32) × jSc)
  | 0, _, _, _, _, _ => none
  | nn + 1, x1, x3, x4, S, ar => (if x3 ≤ x4 then k184 x1 (x3 + (-1 : Int32)) S ar else (if iB x4 40 then (if iB x4 40 then (if iB x1 40 then (if (ar (62 + iN x4) (iN x1)) = 0 then (if iB x3 40 then (if iB x1 40 then (if (ar (62 + iN x3) (iN x1)) = 0 then (if iB x1 40 then rF_72_191 k184 nn x1 x3 (x4 + (1 : Int32)) S (j_u2 ar (62 + iN x4) (iN x1) (0 : Int32)) else none) else (if iB x4 40 then (if iB x3 40 then (if (ar (62 + iN x4) (iN x3)) = 0 then (if iB x1 40 then rF_72_191 k184 nn x1 x3 (x4 + (1 : Int32)) S (j_u2 ar (62 + iN x4) (iN x1) (0 : Int32)) else none) else (if iB x1 40 then rF_72_191 k184 nn x1 x3 (x4 + (1 : Int32)) S (j_u2 ar (62 + iN x4) (iN x1) (1 : Int32)) else none)) else none) else none)) else none) else none) else (if iB x1 40 then rF_72_191 k184 nn x1 x3 (x4 + (1 : Int32)) S (j_u2 ar (62 + iN x4) (iN x1) (1 : Int32)) else none)) else none) else none) else none))
set_option maxHeartbeats 4000000 in
theorem rt_72_191 {X : jX} (hX : j_LK (g_n X) (g_L X)) (hr : g_rs X = r_sh) {rf : jRf} (hrf : rf 0 = r_rf) {d : Nat} {sc : jSc} {al : jAl} {Post : jPo} {S9 : (Nat → Int32)} {ar9 : jSc} {k184 : Int32 → Int32 → (Nat → Int32) → jSc → Option ((Nat → Int32) × jSc)} (hk184 : ∀ (x1 : Int32) (x3 : Int32) (S : (Nat → Int32)) (ar : jSc), k184 x1 x3 S ar = some (S9, ar9) → gL X 72 (d + 2) 184 [some (.ref 0), some (.int x1), none, some (.int x3), none] [] (va_up sc 0 S) rf ar al Post) (hP : Post none (va_up sc 0 S9) rf ar9 al) : ∀ (nn : Nat) (x1 : Int32) (x3 : Int32) (x4 : Int32) (S : (Nat → Int32)) (ar : jSc), rF_72_191 k184 nn x1 x3 x4 S ar = some (S9, ar9) → gL X 72 (d + 2) 191 [some (.ref 0), some (.int x1), none, some (.int x3), some (.int x4)] [] (va_up sc 0 S) rf ar al Post := by
  intro nn
  induction nn with
  | zero =>
    intro x1 x3 x4 S ar h
    have h : (none : Option ((Nat → Int32) × jSc)) = some _ := h
    cases h
  | succ nn ih =>
    intro x1 x3 x4 S ar h
    unfold rF_72_191 at h
    refine gl_iload hX q_72_191 rfl rfl ?_
    refine gl_iload_n hX q_72_193 rfl rfl ?_
    refine gl_ic_ge hX q_72_194 rfl rfl (fun c26 => ?_) (fun c26 => ?_)
    · have h := (if_pos c26).symm.trans h
      refine gl_iinc (vs2 := [some (.ref 0), some (.int x1), none, some (.int (x3 + (-1 : Int32))), some (.int x4)]) hX q_72_252 rfl rfl rfl ci_m1 rfl rfl ?_
      refine gl_goto hX q_72_255 rfl ?_
      exact gl_weak (vs := [some (.ref 0), some (.int x1), none, some (.int (x3 + (-1 : Int32))), none]) ⟨rfl, rfl, rfl, trivial⟩ (hk184 x1 (x3 + (-1 : Int32)) S ar h)
    · have h := (if_neg c26).symm.trans h
      refine gl_aload_n hX q_72_197 rfl rfl ?_
      refine gl_getA hX q_72_198 (qf_68 (by decide)) (qs_0 hr) rfl qk_37 ((congrFun hrf 37).trans qa_37) rfl ?_
      refine gl_iload hX q_72_201 rfl rfl ?_
      obtain ⟨c27, h⟩ := o_ck h
      refine gl_aaload hX q_72_203 (qs_61 hr) c27 (Or.inr ⟨Or.inr rfl, qs_0 hr⟩) (qo_61 (iB_lt c27)) rfl ?_
      refine gl_iload_n hX q_72_204 rfl rfl ?_
      refine gl_aload_n hX q_72_205 rfl rfl ?_
      refine gl_getA hX q_72_206 (qf_68 (by decide)) (qs_0 hr) rfl qk_37 ((congrFun hrf 37).trans qa_37) rfl ?_
      refine gl_iload hX q_72_209 rfl rfl ?_
      obtain ⟨c28, h⟩ := o_ck h
      refine gl_aaload hX q_72_211 (qs_61 hr) c28 (Or.inr ⟨Or.inr rfl, qs_0 hr⟩) (qo_61 (iB_lt c28)) rfl ?_
      refine gl_iload_n hX q_72_212 rfl rfl ?_
      obtain ⟨c29, h⟩ := o_ck h
      refine gl_baload hX q_72_213 (qs_isOrdered hr (iB_lt c28)) c29 rfl rfl ?_
      refine gl_if_ne hX q_72_214 rfl rfl (fun c30 => ?_) (fun c30 => ?_)
      · have h := (if_pos c30).symm.trans h
        refine gl_aload_n hX q_72_217 rfl rfl ?_
        refine gl_getA hX q_72_218 (qf_68 (by decide)) (qs_0 hr) rfl qk_37 ((congrFun hrf 37).trans qa_37) rfl ?_
        refine gl_iload_n hX q_72_221 rfl rfl ?_
        obtain ⟨c31, h⟩ := o_ck h
        refine gl_aaload hX q_72_222 (qs_61 hr) c31 (Or.inr ⟨Or.inr rfl, qs_0 hr⟩) (qo_61 (iB_lt c31)) rfl ?_
        refine gl_iload_n hX q_72_223 rfl rfl ?_
        obtain ⟨c32, h⟩ := o_ck h
        refine gl_baload hX q_72_224 (qs_isOrdered hr (iB_lt c31)) c32 rfl rfl ?_
        refine gl_if_eq hX q_72_225 rfl rfl (fun c33 => ?_) (fun c33 => ?_)
        · have h := (if_pos c33).symm.trans h
          refine gl_iconst hX q_72_244 ci_0 rfl ?_
          obtain ⟨c34, h⟩ := o_ck h
          refine gl_bastore (ar2 := (j_u2 ar (62 + iN x4) (iN x1) (0 : Int32))) hX q_72_245 (qs_isOrdered hr (iB_lt c27)) c34 (Or.inl rfl) rfl rfl ?_
          refine gl_iinc (vs2 := [some (.ref 0), some (.int x1), none, some (.int x3), some (.int (x4 + (1 : Int32)))]) hX q_72_246 rfl rfl rfl ci_1 rfl rfl ?_
          refine gl_goto hX q_72_249 rfl ?_
          exact gl_weak (vs := [some (.ref 0), some (.int x1), none, some (.int x3), some (.int (x4 + (1 : Int32)))]) ⟨rfl, rfl, rfl, rfl, trivial⟩ (ih x1 x3 (x4 + (1 : Int32)) S (j_u2 ar (62 + iN x4) (iN x1) (0 : Int32)) h)
        · have h := (if_neg c33).symm.trans h
          refine gl_aload_n hX q_72_228 rfl rfl ?_
          refine gl_getA hX q_72_229 (qf_68 (by decide)) (qs_0 hr) rfl qk_37 ((congrFun hrf 37).trans qa_37) rfl ?_
          refine gl_iload hX q_72_232 rfl rfl ?_
          obtain ⟨c35, h⟩ := o_ck h
          refine gl_aaload hX q_72_234 (qs_61 hr) c35 (Or.inr ⟨Or.inr rfl, qs_0 hr⟩) (qo_61 (iB_lt c35)) rfl ?_
          refine gl_iload_n hX q_72_235 rfl rfl ?_
          obtain ⟨c36, h⟩ := o_ck h
          refine gl_baload hX q_72_236 (qs_isOrdered hr (iB_lt c35)) c36 rfl rfl ?_
          refine gl_if_eq hX q_72_237 rfl rfl (fun c37 => ?_) (fun c37 => ?_)
          · have h := (if_pos c37).symm.trans h
            refine gl_iconst hX q_72_244 ci_0 rfl ?_
            obtain ⟨c38, h⟩ := o_ck h
            refine gl_bastore (ar2 := (j_u2 ar (62 + iN x4) (iN x1) (0 : Int32))) hX q_72_245 (qs_isOrdered hr (iB_lt c27)) c38 (Or.inl rfl) rfl rfl ?_
            refine gl_iinc (vs2 := [some (.ref 0), some (.int x1), none, some (.int x3), some (.int (x4 + (1 : Int32)))]) hX q_72_246 rfl rfl rfl ci_1 rfl rfl ?_
            refine gl_goto hX q_72_249 rfl ?_
            exact gl_weak (vs := [some (.ref 0), some (.int x1), none, some (.int x3), some (.int (x4 + (1 : Int32)))]) ⟨rfl, rfl, rfl, rfl, trivial⟩ (ih x1 x3 (x4 + (1 : Int32)) S (j_u2 ar (62 + iN x4) (iN x1) (0 : Int32)) h)
          · have h := (if_neg c37).symm.trans h
            refine gl_iconst hX q_72_240 ci_1 rfl ?_
            refine gl_goto hX q_72_241 rfl ?_
            obtain ⟨c39, h⟩ := o_ck h
            refine gl_bastore (ar2 := (j_u2 ar (62 + iN x4) (iN x1) (1 : Int32))) hX q_72_245 (qs_isOrdered hr (iB_lt c27)) c39 (Or.inr rfl) rfl rfl ?_
            refine gl_iinc (vs2 := [some (.ref 0), some (.int x1), none, some (.int x3), some (.int (x4 + (1 : Int32)))]) hX q_72_246 rfl rfl rfl ci_1 rfl rfl ?_
            refine gl_goto hX q_72_249 rfl ?_
            exact gl_weak (vs := [some (.ref 0), some (.int x1), none, some (.int x3), some (.int (x4 + (1 : Int32)))]) ⟨rfl, rfl, rfl, rfl, trivial⟩ (ih x1 x3 (x4 + (1 : Int32)) S (j_u2 ar (62 + iN x4) (iN x1) (1 : Int32)) h)
      · have h := (if_neg c30).symm.trans h
        refine gl_iconst hX q_72_240 ci_1 rfl ?_
        refine gl_goto hX q_72_241 rfl ?_
        obtain ⟨c40, h⟩ := o_ck h
        refine gl_bastore (ar2 := (j_u2 ar (62 + iN x4) (iN x1) (1 : Int32))) hX q_72_245 (qs_isOrdered hr (iB_lt c27)) c40 (Or.inr rfl) rfl rfl ?_
        refine gl_iinc (vs2 := [some (.ref 0), some (.int x1), none, some (.int x3), some (.int (x4 + (1 : Int32)))]) hX q_72_246 rfl rfl rfl ci_1 rfl rfl ?_
        refine gl_goto hX q_72_249 rfl ?_
        exact gl_weak (vs := [some (.ref 0), some (.int x1), none, some (.int x3), some (.int (x4 + (1 : Int32)))]) ⟨rfl, rfl, rfl, rfl, trivial⟩ (ih x1 x3 (x4 + (1 : Int32)) S (j_u2 ar (62 + iN x4) (iN x1) (1 : Int32)) h)
def rF_72_184 (k2 : Int32 → (Nat → Int32) → jSc → Option ((Nat → Int32) × jSc)) : Nat → Int32 → Int32 → (Nat → Int32) → jSc → Option ((Nat → Int32) × jSc)
  | 0, _, _, _, _ => none
  | nn + 1, x1, x3, S, ar => (if x3 < 0 then k2 (x1 + (1 : Int32)) S ar else rF_72_191 (fun x1_ x3_ S_ ar_ => rF_72_184 k2 nn x1_ x3_ S_ ar_) oF x1 x3 (0 : Int32) S ar)
set_option maxHeartbeats 4000000 in
theorem rt_72_184 {X : jX} (hX : j_LK (g_n X) (g_L X)) (hr : g_rs X = r_sh) {rf : jRf} (hrf : rf 0 = r_rf) {d : Nat} {sc : jSc} {al : jAl} {Post : jPo} {S9 : (Nat → Int32)} {ar9 : jSc} {k2 : Int32 → (Nat → Int32) → jSc → Option ((Nat → Int32) × jSc)} (hk2 : ∀ (x1 : Int32) (S : (Nat → Int32)) (ar : jSc), k2 x1 S ar = some (S9, ar9) → gL X 72 (d + 2) 2 [some (.ref 0), some (.int x1), none, none, none] [] (va_up sc 0 S) rf ar al Post) (hP : Post none (va_up sc 0 S9) rf ar9 al) : ∀ (nn : Nat) (x1 : Int32) (x3 : Int32) (S : (Nat → Int32)) (ar : jSc), rF_72_184 k2 nn x1 x3 S ar = some (S9, ar9) → gL X 72 (d + 2) 184 [some (.ref 0), some (.int x1), none, some (.int x3), none] [] (va_up sc 0 S) rf ar al Post := by
  intro nn
  induction nn with
  | zero =>
    intro x1 x3 S ar h
    have h : (none : Option ((Nat → Int32) × jSc)) = some _ := h
    cases h
  | succ nn ih =>
    intro x1 x3 S ar h
    unfold rF_72_184 at h
    refine gl_iload_n hX q_72_184 rfl rfl ?_
    refine gl_if_lt hX q_72_185 rfl rfl (fun c41 => ?_) (fun c41 => ?_)
    · have h := (if_pos c41).symm.trans h
      refine gl_iinc (vs2 := [some (.ref 0), some (.int (x1 + (1 : Int32))), none, some (.int x3), none]) hX q_72_258 rfl rfl rfl ci_1 rfl rfl ?_
      refine gl_goto hX q_72_261 rfl ?_
      exact gl_weak (vs := [some (.ref 0), some (.int (x1 + (1 : Int32))), none, none, none]) ⟨rfl, rfl, trivial⟩ (hk2 (x1 + (1 : Int32)) S ar h)
    · have h := (if_neg c41).symm.trans h
      refine gl_iconst hX q_72_188 ci_0 rfl ?_
      refine gl_istore (vs2 := [some (.ref 0), some (.int x1), none, some (.int x3), some (.int (0 : Int32))]) hX q_72_189 rfl rfl rfl rfl ?_
      exact gl_weak (vs := [some (.ref 0), some (.int x1), none, some (.int x3), some (.int (0 : Int32))]) ⟨rfl, rfl, rfl, rfl, trivial⟩ (rt_72_191 hX hr hrf ih hP oF x1 x3 (0 : Int32) S ar h)
def rF_72_37 (k2 : Int32 → (Nat → Int32) → jSc → Option ((Nat → Int32) × jSc)) : Nat → Int32 → Int32 → Int32 → (Nat → Int32) → jSc → Option ((Nat → Int32) × jSc)
  | 0, _, _, _, _, _ => none
  | nn + 1, x1, x2, x3, S, ar => (if x1 ≤ x3 then (if x2 = (-1 : Int32) then rF_72_184 k2 oF x1 (x1 - (1 : Int32)) S ar else (if iB x2 40 then (if iB x1 40 then rF_72_184 k2 oF x1 (x1 - (1 : Int32)) S (j_u2 ar (62 + iN x2) (iN x1) (1 : Int32)) else none) else none)) else (if iB x1 40 then (if (ar 16 (iN x1)) = x3 then rF_72_105 (fun x1_ x2_ x3_ S_ ar_ => rF_72_37 k2 nn x1_ x2_ x3_ S_ ar_) x1 x2 x3 (1 : Int32) S ar else (if iB x3 40 then (if (ar 15 (iN x3)) = (8 : Int32) then (if iB x1 40 then (if (ar 15 (iN x1)) = (8 : Int32) then rF_72_105 (fun x1_ x2_ x3_ S_ ar_ => rF_72_37 k2 nn x1_ x2_ x3_ S_ ar_) x1 x2 x3 (1 : Int32) S ar else rF_72_74 (fun x1_ x2_ x3_ S_ ar_ => rF_72_37 k2 nn x1_ x2_ x3_ S_ ar_) x1 x2 x3 S ar) else none) else rF_72_74 (fun x1_ x2_ x3_ S_ ar_ => rF_72_37 k2 nn x1_ x2_ x3_ S_ ar_) x1 x2 x3 S ar) else none)) else none))
set_option maxHeartbeats 4000000 in
theorem rt_72_37 {X : jX} (hX : j_LK (g_n X) (g_L X)) (hr : g_rs X = r_sh) {rf : jRf} (hrf : rf 0 = r_rf) {d : Nat} {sc : jSc} {al : jAl} {Post : jPo} {S9 : (Nat → Int32)} {ar9 : jSc} {k2 : Int32 → (Nat → Int32) → jSc → Option ((Nat → Int32) × jSc)} (hk2 : ∀ (x1 : Int32) (S : (Nat → Int32)) (ar : jSc), k2 x1 S ar = some (S9, ar9) → gL X 72 (d + 2) 2 [some (.ref 0), some (.int x1), none, none, none] [] (va_up sc 0 S) rf ar al Post) (hP : Post none (va_up sc 0 S9) rf ar9 al) : ∀ (nn : Nat) (x1 : Int32) (x2 : Int32) (x3 : Int32) (S : (Nat → Int32)) (ar : jSc), rF_72_37 k2 nn x1 x2 x3 S ar = some (S9, ar9) → gL X 72 (d + 2) 37 [some (.ref 0), some (.int x1), some (.int x2), some (.int x3), none] [] (va_up sc 0 S) rf ar al Post := by
  intro nn
  induction nn with
  | zero =>
    intro x1 x2 x3 S ar h
    have h : (none : Option ((Nat → Int32) × jSc)) = some _ := h
    cases h
  | succ nn ih =>
    intro x1 x2 x3 S ar h
    unfold rF_72_37 at h
    refine gl_iload_n hX q_72_37 rfl rfl ?_
    refine gl_iload_n hX q_72_38 rfl rfl ?_
    refine gl_ic_ge hX q_72_39 rfl rfl (fun c42 => ?_) (fun c42 => ?_)
    · have h := (if_pos c42).symm.trans h
      refine gl_iload_n hX q_72_166 rfl rfl ?_
      refine gl_iconst hX q_72_167 ci_m1 rfl ?_
      refine gl_ic_eq hX q_72_168 rfl rfl (fun c43 => ?_) (fun c43 => ?_)
      · have h := (if_pos c43).symm.trans h
        refine gl_iload_n hX q_72_180 rfl rfl ?_
        refine gl_iconst hX q_72_181 ci_1 rfl ?_
        refine gl_isub hX q_72_182 rfl ?_
        refine gl_istore_n (vs2 := [some (.ref 0), some (.int x1), some (.int x2), some (.int (x1 - (1 : Int32))), none]) hX q_72_183 rfl rfl rfl rfl ?_
        exact gl_weak (vs := [some (.ref 0), some (.int x1), none, some (.int (x1 - (1 : Int32))), none]) ⟨rfl, rfl, rfl, trivial⟩ (rt_72_184 hX hr hrf hk2 hP oF x1 (x1 - (1 : Int32)) S ar h)
      · have h := (if_neg c43).symm.trans h
        refine gl_aload_n hX q_72_171 rfl rfl ?_
        refine gl_getA hX q_72_172 (qf_68 (by decide)) (qs_0 hr) rfl qk_37 ((congrFun hrf 37).trans qa_37) rfl ?_
        refine gl_iload_n hX q_72_175 rfl rfl ?_
        obtain ⟨c44, h⟩ := o_ck h
        refine gl_aaload hX q_72_176 (qs_61 hr) c44 (Or.inr ⟨Or.inr rfl, qs_0 hr⟩) (qo_61 (iB_lt c44)) rfl ?_
        refine gl_iload_n hX q_72_177 rfl rfl ?_
        refine gl_iconst hX q_72_178 ci_1 rfl ?_
        obtain ⟨c45, h⟩ := o_ck h
        refine gl_bastore (ar2 := (j_u2 ar (62 + iN x2) (iN x1) (1 : Int32))) hX q_72_179 (qs_isOrdered hr (iB_lt c44)) c45 (Or.inr rfl) rfl rfl ?_
        refine gl_iload_n hX q_72_180 rfl rfl ?_
        refine gl_iconst hX q_72_181 ci_1 rfl ?_
        refine gl_isub hX q_72_182 rfl ?_
        refine gl_istore_n (vs2 := [some (.ref 0), some (.int x1), some (.int x2), some (.int (x1 - (1 : Int32))), none]) hX q_72_183 rfl rfl rfl rfl ?_
        exact gl_weak (vs := [some (.ref 0), some (.int x1), none, some (.int (x1 - (1 : Int32))), none]) ⟨rfl, rfl, rfl, trivial⟩ (rt_72_184 hX hr hrf hk2 hP oF x1 (x1 - (1 : Int32)) S (j_u2 ar (62 + iN x2) (iN x1) (1 : Int32)) h)
    · have h := (if_neg c42).symm.trans h
      refine gl_aload_n hX q_72_42 rfl rfl ?_
      refine gl_getA hX q_72_43 (qf_54 (by decide)) (qs_0 hr) rfl qk_33 ((congrFun hrf 33).trans qa_33) rfl ?_
      refine gl_iload_n hX q_72_46 rfl rfl ?_
      obtain ⟨c46, h⟩ := o_ck h
      refine gl_iaload hX q_72_47 (qs_16 hr) c46 rfl rfl ?_
      refine gl_iload_n hX q_72_48 rfl rfl ?_
      refine gl_ic_eq hX q_72_49 rfl rfl (fun c47 => ?_) (fun c47 => ?_)
      · have h := (if_pos c47).symm.trans h
        refine gl_iconst hX q_72_100 ci_1 rfl ?_
        refine gl_goto hX q_72_101 rfl ?_
        exact gl_weak (vs := [some (.ref 0), some (.int x1), some (.int x2), some (.int x3), none]) ⟨rfl, rfl, rfl, rfl, trivial⟩ (rt_72_105 hX hr hrf ih hP x1 x2 x3 (1 : Int32) S ar h)
      · have h := (if_neg c47).symm.trans h
        refine gl_aload_n hX q_72_52 rfl rfl ?_
        refine gl_getA hX q_72_53 (qf_51 (by decide)) (qs_0 hr) rfl qk_32 ((congrFun hrf 32).trans qa_32) rfl ?_
        refine gl_iload_n hX q_72_56 rfl rfl ?_
        obtain ⟨c48, h⟩ := o_ck h
        refine gl_iaload hX q_72_57 (qs_15 hr) c48 rfl rfl ?_
        refine gl_bipush hX q_72_58 cb_8 rfl ?_
        refine gl_ic_ne hX q_72_60 rfl rfl (fun c49 => ?_) (fun c49 => ?_)
        · have h := (if_pos c49).symm.trans h
          refine gl_aload_n hX q_72_63 rfl rfl ?_
          refine gl_getA hX q_72_64 (qf_51 (by decide)) (qs_0 hr) rfl qk_32 ((congrFun hrf 32).trans qa_32) rfl ?_
          refine gl_iload_n hX q_72_67 rfl rfl ?_
          obtain ⟨c50, h⟩ := o_ck h
          refine gl_iaload hX q_72_68 (qs_15 hr) c50 rfl rfl ?_
          refine gl_bipush hX q_72_69 cb_8 rfl ?_
          refine gl_ic_eq hX q_72_71 rfl rfl (fun c51 => ?_) (fun c51 => ?_)
          · have h := (if_pos c51).symm.trans h
            refine gl_iconst hX q_72_100 ci_1 rfl ?_
            refine gl_goto hX q_72_101 rfl ?_
            exact gl_weak (vs := [some (.ref 0), some (.int x1), some (.int x2), some (.int x3), none]) ⟨rfl, rfl, rfl, rfl, trivial⟩ (rt_72_105 hX hr hrf ih hP x1 x2 x3 (1 : Int32) S ar h)
          · have h := (if_neg c51).symm.trans h
            exact gl_weak (vs := [some (.ref 0), some (.int x1), some (.int x2), some (.int x3), none]) ⟨rfl, rfl, rfl, rfl, trivial⟩ (rt_72_74 hX hr hrf ih hP x1 x2 x3 S ar h)
        · have h := (if_neg c49).symm.trans h
          exact gl_weak (vs := [some (.ref 0), some (.int x1), some (.int x2), some (.int x3), none]) ⟨rfl, rfl, rfl, rfl, trivial⟩ (rt_72_74 hX hr hrf ih hP x1 x2 x3 S ar h)
def rF_72_12 (k2 : Int32 → (Nat → Int32) → jSc → Option ((Nat → Int32) × jSc)) : Nat → Int32 → Int32 → (Nat → Int32) → jSc → Option ((Nat → Int32) × jSc)
  | 0, _, _, _, _ => none
  | nn + 1, x1, x2, S, ar => (if (40 : Int32) ≤ x2 then rF_72_37 k2 oF x1 (-1 : Int32) (0 : Int32) S ar else (if iB x2 40 then (if iB x1 40 then rF_72_12 k2 nn x1 (x2 + (1 : Int32)) S (j_u2 ar (62 + iN x2) (iN x1) (0 : Int32)) else none) else none))
set_option maxHeartbeats 4000000 in
theorem rt_72_12 {X : jX} (hX : j_LK (g_n X) (g_L X)) (hr : g_rs X = r_sh) {rf : jRf} (hrf : rf 0 = r_rf) {d : Nat} {sc : jSc} {al : jAl} {Post : jPo} {S9 : (Nat → Int32)} {ar9 : jSc} {k2 : Int32 → (Nat → Int32) → jSc → Option ((Nat → Int32) × jSc)} (hk2 : ∀ (x1 : Int32) (S : (Nat → Int32)) (ar : jSc), k2 x1 S ar = some (S9, ar9) → gL X 72 (d + 2) 2 [some (.ref 0), some (.int x1), none, none, none] [] (va_up sc 0 S) rf ar al Post) (hP : Post none (va_up sc 0 S9) rf ar9 al) : ∀ (nn : Nat) (x1 : Int32) (x2 : Int32) (S : (Nat → Int32)) (ar : jSc), rF_72_12 k2 nn x1 x2 S ar = some (S9, ar9) → gL X 72 (d + 2) 12 [some (.ref 0), some (.int x1), some (.int x2), none, none] [] (va_up sc 0 S) rf ar al Post := by
  intro nn
  induction nn with
  | zero =>
    intro x1 x2 S ar h
    have h : (none : Option ((Nat → Int32) × jSc)) = some _ := h
    cases h
  | succ nn ih =>
    intro x1 x2 S ar h
    unfold rF_72_12 at h
    refine gl_iload_n hX q_72_12 rfl rfl ?_
    refine gl_bipush hX q_72_13 cb_40 rfl ?_
    refine gl_ic_ge hX q_72_15 rfl rfl (fun c52 => ?_) (fun c52 => ?_)
    · have h := (if_pos c52).symm.trans h
      refine gl_iconst hX q_72_33 ci_m1 rfl ?_
      refine gl_istore_n (vs2 := [some (.ref 0), some (.int x1), some (.int (-1 : Int32)), none, none]) hX q_72_34 rfl rfl rfl rfl ?_
      refine gl_iconst hX q_72_35 ci_0 rfl ?_
      refine gl_istore_n (vs2 := [some (.ref 0), some (.int x1), some (.int (-1 : Int32)), some (.int (0 : Int32)), none]) hX q_72_36 rfl rfl rfl rfl ?_
      exact gl_weak (vs := [some (.ref 0), some (.int x1), some (.int (-1 : Int32)), some (.int (0 : Int32)), none]) ⟨rfl, rfl, rfl, rfl, trivial⟩ (rt_72_37 hX hr hrf hk2 hP oF x1 (-1 : Int32) (0 : Int32) S ar h)
    · have h := (if_neg c52).symm.trans h
      refine gl_aload_n hX q_72_18 rfl rfl ?_
      refine gl_getA hX q_72_19 (qf_68 (by decide)) (qs_0 hr) rfl qk_37 ((congrFun hrf 37).trans qa_37) rfl ?_
      refine gl_iload_n hX q_72_22 rfl rfl ?_
      obtain ⟨c53, h⟩ := o_ck h
      refine gl_aaload hX q_72_23 (qs_61 hr) c53 (Or.inr ⟨Or.inr rfl, qs_0 hr⟩) (qo_61 (iB_lt c53)) rfl ?_
      refine gl_iload_n hX q_72_24 rfl rfl ?_
      refine gl_iconst hX q_72_25 ci_0 rfl ?_
      obtain ⟨c54, h⟩ := o_ck h
      refine gl_bastore (ar2 := (j_u2 ar (62 + iN x2) (iN x1) (0 : Int32))) hX q_72_26 (qs_isOrdered hr (iB_lt c53)) c54 (Or.inl rfl) rfl rfl ?_
      refine gl_iinc (vs2 := [some (.ref 0), some (.int x1), some (.int (x2 + (1 : Int32))), none, none]) hX q_72_27 rfl rfl rfl ci_1 rfl rfl ?_
      refine gl_goto hX q_72_30 rfl ?_
      exact gl_weak (vs := [some (.ref 0), some (.int x1), some (.int (x2 + (1 : Int32))), none, none]) ⟨rfl, rfl, rfl, trivial⟩ (ih x1 (x2 + (1 : Int32)) S (j_u2 ar (62 + iN x2) (iN x1) (0 : Int32)) h)
def rF_72_2 : Nat → Int32 → (Nat → Int32) → jSc → Option ((Nat → Int32) × jSc)
  | 0, _, _, _ => none
  | nn + 1, x1, S, ar => (if (S 31) ≤ x1 then some (S, ar) else rF_72_12 (fun x1_ S_ ar_ => rF_72_2 nn x1_ S_ ar_) oF x1 (0 : Int32) S ar)
set_option maxHeartbeats 4000000 in
theorem rt_72_2 {X : jX} (hX : j_LK (g_n X) (g_L X)) (hr : g_rs X = r_sh) {rf : jRf} (hrf : rf 0 = r_rf) {d : Nat} {sc : jSc} {al : jAl} {Post : jPo} {S9 : (Nat → Int32)} {ar9 : jSc} (hP : Post none (va_up sc 0 S9) rf ar9 al) : ∀ (nn : Nat) (x1 : Int32) (S : (Nat → Int32)) (ar : jSc), rF_72_2 nn x1 S ar = some (S9, ar9) → gL X 72 (d + 2) 2 [some (.ref 0), some (.int x1), none, none, none] [] (va_up sc 0 S) rf ar al Post := by
  intro nn
  induction nn with
  | zero =>
    intro x1 S ar h
    have h : (none : Option ((Nat → Int32) × jSc)) = some _ := h
    cases h
  | succ nn ih =>
    intro x1 S ar h
    unfold rF_72_2 at h
    refine gl_iload_n hX q_72_2 rfl rfl ?_
    refine gl_aload_n hX q_72_3 rfl rfl ?_
    refine gl_get hX q_72_4 (qf_341 (by decide)) (qs_0 hr) rfl qk_31 rfl rfl ?_
    refine gl_ic_ge hX q_72_7 rfl rfl (fun c55 => ?_) (fun c55 => ?_)
    · have h := (if_pos c55).symm.trans h
      exact gl_return q_72_264 qr_72 (by cases h; exact hP)
    · have h := (if_neg c55).symm.trans h
      refine gl_iconst hX q_72_10 ci_0 rfl ?_
      refine gl_istore_n (vs2 := [some (.ref 0), some (.int x1), some (.int (0 : Int32)), none, none]) hX q_72_11 rfl rfl rfl rfl ?_
      exact gl_weak (vs := [some (.ref 0), some (.int x1), some (.int (0 : Int32)), none, none]) ⟨rfl, rfl, rfl, trivial⟩ (rt_72_12 hX hr hrf ih hP oF x1 (0 : Int32) S ar h)
def rF_72 (S : (Nat → Int32)) (ar : jSc) : Option ((Nat → Int32) × jSc) :=
  rF_72_2 oF (0 : Int32) S ar
set_option maxHeartbeats 4000000 in
theorem rt_72 {X : jX} (hX : j_LK (g_n X) (g_L X)) (hr : g_rs X = r_sh) {rf : jRf} (hrf : rf 0 = r_rf) {d : Nat} : rT_72 X rf rF_72 (d + 2) := by
  intro sc al Post  S ar S9 ar9 h hP
  unfold rF_72 at h
  refine gl_entry (m := 4) rfl ?_
  show gL X 72 (d + 2) 0 [some (.ref 0), none, none, none, none] [] (va_up sc 0 S) rf ar al Post
  refine gl_iconst hX q_72_0 ci_0 rfl ?_
  refine gl_istore_n (vs2 := [some (.ref 0), some (.int (0 : Int32)), none, none, none]) hX q_72_1 rfl rfl rfl rfl ?_
  exact gl_weak (vs := [some (.ref 0), some (.int (0 : Int32)), none, none, none]) ⟨rfl, rfl, trivial⟩ (rt_72_2 hX hr hrf hP oF (0 : Int32) S ar h)
