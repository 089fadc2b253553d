/-! THE REFERENCE: its methods as functions, and that the machine does what they say. -/
/-- ClickOrdersModel.empties(I)V -/
def rT_36 (X : jX) (rf : jRf) (F : Int32 → (Nat → Int32) → jSc → Option ((Nat → Int32) × jSc)) (e : Nat) : Prop := ∀ (sc : jSc) (al : jAl) (Post : jPo) (x1 : Int32) (S : (Nat → Int32)) (ar : jSc) (S9 : (Nat → Int32)) (ar9 : jSc), F x1 S ar = some (S9, ar9) → Post none (va_up sc 0 S9) rf ar9 al → gW X 36 e 0 (j_av [.ref 0, .int x1]) [] (va_up sc 0 S) rf ar al Post
def rF_36_12 : Nat → Int32 → Int32 → (Nat → Int32) → jSc → Option ((Nat → Int32) × jSc)
  | 0, _, _, _, _ => none
  | nn + 1, x1, x2, S, ar => (if (3 : Int32) ≤ x2 then some (S, ar) else (if iB (((14 : Int32) + ((3 : Int32) * x1)) + x2) 53 then (if iB (((38 : Int32) + ((3 : Int32) * x1)) + x2) 53 then rF_36_12 nn x1 (x2 + (1 : Int32)) S (j_u2 (j_u2 ar 13 (iN (((14 : Int32) + ((3 : Int32) * x1)) + x2)) (0 : Int32)) 13 (iN (((38 : Int32) + ((3 : Int32) * x1)) + x2)) (0 : Int32)) else none) else none))
set_option maxHeartbeats 4000000 in
theorem rt_36_12 {X : jX} (hX : j_LK (g_n X) (g_L X)) (hr : g_rs X = r_sh) {rf : jRf} (hrf : rf 0 = r_rf) {d : Nat} {sc : jSc} {al : jAl} {Post : jPo} {S9 : (Nat → Int32)} {ar9 : jSc} (hP : Post none (va_up sc 0 S9) rf ar9 al) : ∀ (nn : Nat) (x1 : Int32) (x2 : Int32) (S : (Nat → Int32)) (ar : jSc), rF_36_12 nn x1 x2 S ar = some (S9, ar9) → gL X 36 (d + 1) 12 [some (.ref 0), some (.int x1), some (.int x2)] [] (va_up sc 0 S) rf ar al Post := by
  intro nn
  induction nn with
  | zero =>
    intro x1 x2 S ar h
    have h : (none : Option ((Nat → Int32) × jSc)) = some _ := h
    cases h
  | succ nn ih =>
    intro x1 x2 S ar h
    unfold rF_36_12 at h
    refine gl_iload_n hX q_36_12 rfl rfl ?_
    refine gl_iconst hX q_36_13 ci_3 rfl ?_
    refine gl_ic_ge hX q_36_14 rfl rfl (fun c1 => ?_) (fun c1 => ?_)
    · have h := (if_pos c1).symm.trans h
      exact gl_return q_36_51 qr_36 (by cases h; exact hP)
    · have h := (if_neg c1).symm.trans h
      refine gl_aload_n hX q_36_17 rfl rfl ?_
      refine gl_getA hX q_36_18 (qf_42 (by decide)) (qs_0 hr) rfl qk_21 ((congrFun hrf 21).trans qa_21) rfl ?_
      refine gl_bipush hX q_36_21 cb_14 rfl ?_
      refine gl_iconst hX q_36_23 ci_3 rfl ?_
      refine gl_iload_n hX q_36_24 rfl rfl ?_
      refine gl_imul hX q_36_25 rfl ?_
      refine gl_iadd hX q_36_26 rfl ?_
      refine gl_iload_n hX q_36_27 rfl rfl ?_
      refine gl_iadd hX q_36_28 rfl ?_
      refine gl_iconst hX q_36_29 ci_0 rfl ?_
      obtain ⟨c2, h⟩ := o_ck h
      refine gl_iastore (ar2 := (j_u2 ar 13 (iN (((14 : Int32) + ((3 : Int32) * x1)) + x2)) (0 : Int32))) hX q_36_30 (qs_13 hr) c2 rfl rfl ?_
      refine gl_aload_n hX q_36_31 rfl rfl ?_
      refine gl_getA hX q_36_32 (qf_42 (by decide)) (qs_0 hr) rfl qk_21 ((congrFun hrf 21).trans qa_21) rfl ?_
      refine gl_bipush hX q_36_35 cb_38 rfl ?_
      refine gl_iconst hX q_36_37 ci_3 rfl ?_
      refine gl_iload_n hX q_36_38 rfl rfl ?_
      refine gl_imul hX q_36_39 rfl ?_
      refine gl_iadd hX q_36_40 rfl ?_
      refine gl_iload_n hX q_36_41 rfl rfl ?_
      refine gl_iadd hX q_36_42 rfl ?_
      refine gl_iconst hX q_36_43 ci_0 rfl ?_
      obtain ⟨c3, h⟩ := o_ck h
      refine gl_iastore (ar2 := (j_u2 (j_u2 ar 13 (iN (((14 : Int32) + ((3 : Int32) * x1)) + x2)) (0 : Int32)) 13 (iN (((38 : Int32) + ((3 : Int32) * x1)) + x2)) (0 : Int32))) hX q_36_44 (qs_13 hr) c3 rfl rfl ?_
      refine gl_iinc (vs2 := [some (.ref 0), some (.int x1), some (.int (x2 + (1 : Int32)))]) hX q_36_45 rfl rfl rfl ci_1 rfl rfl ?_
      refine gl_goto hX q_36_48 rfl ?_
      exact gl_weak (vs := [some (.ref 0), some (.int x1), some (.int (x2 + (1 : Int32)))]) ⟨rfl, rfl, rfl, trivial⟩ (ih x1 (x2 + (1 : Int32)) S (j_u2 (j_u2 ar 13 (iN (((14 : Int32) + ((3 : Int32) * x1)) + x2)) (0 : Int32)) 13 (iN (((38 : Int32) + ((3 : Int32) * x1)) + x2)) (0 : Int32)) h)
def rF_36 (x1 : Int32) (S : (Nat → Int32)) (ar : jSc) : Option ((Nat → Int32) × jSc) :=
  (if iB ((10 : Int32) + x1) 53 then rF_36_12 oF x1 (0 : Int32) S (j_u2 ar 13 (iN ((10 : Int32) + x1)) (0 : Int32)) else none)
set_option maxHeartbeats 4000000 in
theorem rt_36 {X : jX} (hX : j_LK (g_n X) (g_L X)) (hr : g_rs X = r_sh) {rf : jRf} (hrf : rf 0 = r_rf) {d : Nat} : rT_36 X rf rF_36 (d + 1) := by
  intro sc al Post x1 S ar S9 ar9 h hP
  unfold rF_36 at h
  refine gl_entry (m := 1) rfl ?_
  show gL X 36 (d + 1) 0 [some (.ref 0), some (.int x1), none] [] (va_up sc 0 S) rf ar al Post
  refine gl_aload_n hX q_36_0 rfl rfl ?_
  refine gl_getA hX q_36_1 (qf_42 (by decide)) (qs_0 hr) rfl qk_21 ((congrFun hrf 21).trans qa_21) rfl ?_
  refine gl_bipush hX q_36_4 cb_10 rfl ?_
  refine gl_iload_n hX q_36_6 rfl rfl ?_
  refine gl_iadd hX q_36_7 rfl ?_
  refine gl_iconst hX q_36_8 ci_0 rfl ?_
  obtain ⟨c4, h⟩ := o_ck h
  refine gl_iastore (ar2 := (j_u2 ar 13 (iN ((10 : Int32) + x1)) (0 : Int32))) hX q_36_9 (qs_13 hr) c4 rfl rfl ?_
  refine gl_iconst hX q_36_10 ci_0 rfl ?_
  refine gl_istore_n (vs2 := [some (.ref 0), some (.int x1), some (.int (0 : Int32))]) hX q_36_11 rfl rfl rfl rfl ?_
  exact gl_weak (vs := [some (.ref 0), some (.int x1), some (.int (0 : Int32))]) ⟨rfl, rfl, rfl, trivial⟩ (rt_36_12 hX hr hrf hP oF x1 (0 : Int32) S (j_u2 ar 13 (iN ((10 : Int32) + x1)) (0 : Int32)) h)
/-- ClickOrdersModel.asks(II)V -/
def rT_37 (X : jX) (rf : jRf) (F : Int32 → Int32 → (Nat → Int32) → jSc → Option ((Nat → Int32) × jSc)) (e : Nat) : Prop := ∀ (sc : jSc) (al : jAl) (Post : jPo) (x1 : Int32) (x2 : Int32) (S : (Nat → Int32)) (ar : jSc) (S9 : (Nat → Int32)) (ar9 : jSc), F x1 x2 S ar = some (S9, ar9) → Post none (va_up sc 0 S9) rf ar9 al → gW X 37 e 0 (j_av [.ref 0, .int x1, .int x2]) [] (va_up sc 0 S) rf ar al Post
def rF_37_14 (x1 : Int32) (x2 : Int32) (S : (Nat → Int32)) (ar : jSc) : Option ((Nat → Int32) × jSc) :=
  (if iB ((10 : Int32) + x1) 53 then (if (ar 13 (iN ((10 : Int32) + x1))) = (3 : Int32) then (o_b2 (rF_33 S ar) (fun Se3 are3 => some (Se3, are3))) else (if iB (((14 : Int32) + ((3 : Int32) * x1)) + (ar 13 (iN ((10 : Int32) + x1)))) 53 then (if iB (((38 : Int32) + ((3 : Int32) * x1)) + (ar 13 (iN ((10 : Int32) + x1)))) 53 then (if iB ((10 : Int32) + x1) 53 then (if iB ((10 : Int32) + x1) 53 then some ((upd S 28 ((S 28) ||| ((1 : Int32) <<< (((20 : Int32) + x1) &&& 31)))), (j_u2 (j_u2 (j_u2 ar 13 (iN (((14 : Int32) + ((3 : Int32) * x1)) + (ar 13 (iN ((10 : Int32) + x1))))) x2) 13 (iN (((38 : Int32) + ((3 : Int32) * x1)) + (ar 13 (iN ((10 : Int32) + x1))))) (S 26)) 13 (iN ((10 : Int32) + x1)) (((j_u2 (j_u2 ar 13 (iN (((14 : Int32) + ((3 : Int32) * x1)) + (ar 13 (iN ((10 : Int32) + x1))))) x2) 13 (iN (((38 : Int32) + ((3 : Int32) * x1)) + (ar 13 (iN ((10 : Int32) + x1))))) (S 26)) 13 (iN ((10 : Int32) + x1))) + (1 : Int32)))) else none) else none) else none) else none)) else none)
set_option maxHeartbeats 4000000 in
theorem rt_37_14 {X : jX} (hX : j_LK (g_n X) (g_L X)) (hr : g_rs X = r_sh) {rf : jRf} (hrf : rf 0 = r_rf) {d : Nat} {sc : jSc} {al : jAl} {Post : jPo} {S9 : (Nat → Int32)} {ar9 : jSc} (hP : Post none (va_up sc 0 S9) rf ar9 al) (x1 : Int32) (x2 : Int32) (S : (Nat → Int32)) (ar : jSc) (h : rF_37_14 x1 x2 S ar = some (S9, ar9)) : gL X 37 (d + 2) 14 [some (.ref 0), some (.int x1), some (.int x2), none] [] (va_up sc 0 S) rf ar al Post := by
  unfold rF_37_14 at h
  refine gl_aload_n hX q_37_14 rfl rfl ?_
  refine gl_getA hX q_37_15 (qf_42 (by decide)) (qs_0 hr) rfl qk_21 ((congrFun hrf 21).trans qa_21) rfl ?_
  refine gl_bipush hX q_37_18 cb_10 rfl ?_
  refine gl_iload_n hX q_37_20 rfl rfl ?_
  refine gl_iadd hX q_37_21 rfl ?_
  obtain ⟨c1, h⟩ := o_ck h
  refine gl_iaload hX q_37_22 (qs_13 hr) c1 rfl rfl ?_
  refine gl_istore_n (vs2 := [some (.ref 0), some (.int x1), some (.int x2), some (.int (ar 13 (iN ((10 : Int32) + x1))))]) hX q_37_23 rfl rfl rfl rfl ?_
  refine gl_iload_n hX q_37_24 rfl rfl ?_
  refine gl_iconst hX q_37_25 ci_3 rfl ?_
  refine gl_ic_ne hX q_37_26 rfl rfl (fun c2 => ?_) (fun c2 => ?_)
  · have h := (if_pos c2).symm.trans h
    refine gl_aload_n hX q_37_29 rfl rfl ?_
    obtain ⟨Se3, are3, e3, h⟩ := o_k2 h
    refine gl_callV hX q_37_30 (qm_269 (by decide)) rfl rfl rfl (qs_0 hr) qx_33 rfl rfl ((rt_33 hX hr hrf) _ _ _  _ _ _ _ e3 ?_)
    exact gl_return q_37_33 qr_37 (by cases h; exact hP)
  · have h := (if_neg c2).symm.trans h
    refine gl_aload_n hX q_37_34 rfl rfl ?_
    refine gl_getA hX q_37_35 (qf_42 (by decide)) (qs_0 hr) rfl qk_21 ((congrFun hrf 21).trans qa_21) rfl ?_
    refine gl_bipush hX q_37_38 cb_14 rfl ?_
    refine gl_iconst hX q_37_40 ci_3 rfl ?_
    refine gl_iload_n hX q_37_41 rfl rfl ?_
    refine gl_imul hX q_37_42 rfl ?_
    refine gl_iadd hX q_37_43 rfl ?_
    refine gl_iload_n hX q_37_44 rfl rfl ?_
    refine gl_iadd hX q_37_45 rfl ?_
    refine gl_iload_n hX q_37_46 rfl rfl ?_
    obtain ⟨c4, h⟩ := o_ck h
    refine gl_iastore (ar2 := (j_u2 ar 13 (iN (((14 : Int32) + ((3 : Int32) * x1)) + (ar 13 (iN ((10 : Int32) + x1))))) x2)) hX q_37_47 (qs_13 hr) c4 rfl rfl ?_
    refine gl_aload_n hX q_37_48 rfl rfl ?_
    refine gl_getA hX q_37_49 (qf_42 (by decide)) (qs_0 hr) rfl qk_21 ((congrFun hrf 21).trans qa_21) rfl ?_
    refine gl_bipush hX q_37_52 cb_38 rfl ?_
    refine gl_iconst hX q_37_54 ci_3 rfl ?_
    refine gl_iload_n hX q_37_55 rfl rfl ?_
    refine gl_imul hX q_37_56 rfl ?_
    refine gl_iadd hX q_37_57 rfl ?_
    refine gl_iload_n hX q_37_58 rfl rfl ?_
    refine gl_iadd hX q_37_59 rfl ?_
    refine gl_aload_n hX q_37_60 rfl rfl ?_
    refine gl_get hX q_37_61 (qf_281 (by decide)) (qs_0 hr) rfl qk_26 rfl rfl ?_
    obtain ⟨c5, h⟩ := o_ck h
    refine gl_iastore (ar2 := (j_u2 (j_u2 ar 13 (iN (((14 : Int32) + ((3 : Int32) * x1)) + (ar 13 (iN ((10 : Int32) + x1))))) x2) 13 (iN (((38 : Int32) + ((3 : Int32) * x1)) + (ar 13 (iN ((10 : Int32) + x1))))) (S 26))) hX q_37_64 (qs_13 hr) c5 rfl rfl ?_
    refine gl_aload_n hX q_37_65 rfl rfl ?_
    refine gl_getA hX q_37_66 (qf_42 (by decide)) (qs_0 hr) rfl qk_21 ((congrFun hrf 21).trans qa_21) rfl ?_
    refine gl_bipush hX q_37_69 cb_10 rfl ?_
    refine gl_iload_n hX q_37_71 rfl rfl ?_
    refine gl_iadd hX q_37_72 rfl ?_
    refine gl_dup2 hX q_37_73 rfl rfl rfl ?_
    obtain ⟨c6, h⟩ := o_ck h
    refine gl_iaload hX q_37_74 (qs_13 hr) c6 rfl rfl ?_
    refine gl_iconst hX q_37_75 ci_1 rfl ?_
    refine gl_iadd hX q_37_76 rfl ?_
    obtain ⟨c7, h⟩ := o_ck h
    refine gl_iastore (ar2 := (j_u2 (j_u2 (j_u2 ar 13 (iN (((14 : Int32) + ((3 : Int32) * x1)) + (ar 13 (iN ((10 : Int32) + x1))))) x2) 13 (iN (((38 : Int32) + ((3 : Int32) * x1)) + (ar 13 (iN ((10 : Int32) + x1))))) (S 26)) 13 (iN ((10 : Int32) + x1)) (((j_u2 (j_u2 ar 13 (iN (((14 : Int32) + ((3 : Int32) * x1)) + (ar 13 (iN ((10 : Int32) + x1))))) x2) 13 (iN (((38 : Int32) + ((3 : Int32) * x1)) + (ar 13 (iN ((10 : Int32) + x1))))) (S 26)) 13 (iN ((10 : Int32) + x1))) + (1 : Int32)))) hX q_37_77 (qs_13 hr) c7 rfl rfl ?_
    refine gl_aload_n hX q_37_78 rfl rfl ?_
    refine gl_dup hX q_37_79 rfl rfl ?_
    refine gl_get hX q_37_80 (qf_275 (by decide)) (qs_0 hr) rfl qk_28 rfl rfl ?_
    refine gl_iconst hX q_37_83 ci_1 rfl ?_
    refine gl_bipush hX q_37_84 cb_20 rfl ?_
    refine gl_iload_n hX q_37_86 rfl rfl ?_
    refine gl_iadd hX q_37_87 rfl ?_
    refine gl_ishl hX q_37_88 rfl ?_
    refine gl_ior hX q_37_89 rfl ?_
    refine gl_put hX q_37_90 (qf_275 (by decide)) (qs_0 hr) rfl qk_28 rfl ru rfl ?_
    exact gl_return q_37_93 qr_37 (by cases h; exact hP)
def rF_37 (x1 : Int32) (x2 : Int32) (S : (Nat → Int32)) (ar : jSc) : Option ((Nat → Int32) × jSc) :=
  (o_b3 (rF_35 (2 : Int32) x1 S ar) (fun ve8 Se8 are8 => (if ve8 = 0 then rF_37_14 x1 x2 Se8 are8 else (o_b2 (rF_36 x1 Se8 are8) (fun Se10 are10 => rF_37_14 x1 x2 Se10 are10)))))
set_option maxHeartbeats 4000000 in
theorem rt_37 {X : jX} (hX : j_LK (g_n X) (g_L X)) (hr : g_rs X = r_sh) {rf : jRf} (hrf : rf 0 = r_rf) {d : Nat} : rT_37 X rf rF_37 (d + 2) := by
  intro sc al Post x1 x2 S ar S9 ar9 h hP
  unfold rF_37 at h
  refine gl_entry (m := 1) rfl ?_
  show gL X 37 (d + 2) 0 [some (.ref 0), some (.int x1), some (.int x2), none] [] (va_up sc 0 S) rf ar al Post
  refine gl_aload_n hX q_37_0 rfl rfl ?_
  refine gl_iconst hX q_37_1 ci_2 rfl ?_
  refine gl_iload_n hX q_37_2 rfl rfl ?_
  obtain ⟨ve8, Se8, are8, e8, h⟩ := o_k3 h
  refine gl_callV hX q_37_3 (qm_287 (by decide)) rfl rfl rfl (qs_0 hr) qx_35 rfl rfl ((rt_35 hX hr hrf) _ _ _ _ _ _ _ _ _ _ e8 ?_)
  refine gl_if_eq hX q_37_6 rfl rfl (fun c9 => ?_) (fun c9 => ?_)
  · have h := (if_pos c9).symm.trans h
    exact gl_weak (vs := [some (.ref 0), some (.int x1), some (.int x2), none]) ⟨rfl, rfl, rfl, trivial⟩ (rt_37_14 hX hr hrf hP x1 x2 Se8 are8 h)
  · have h := (if_neg c9).symm.trans h
    refine gl_aload_n hX q_37_9 rfl rfl ?_
    refine gl_iload_n hX q_37_10 rfl rfl ?_
    obtain ⟨Se10, are10, e10, h⟩ := o_k2 h
    refine gl_callV hX q_37_11 (qm_291 (by decide)) rfl rfl rfl (qs_0 hr) qx_36 rfl rfl ((rt_36 hX hr hrf) _ _ _ _ _ _ _ _ e10 ?_)
    exact gl_weak (vs := [some (.ref 0), some (.int x1), some (.int x2), none]) ⟨rfl, rfl, rfl, trivial⟩ (rt_37_14 hX hr hrf hP x1 x2 Se10 are10 h)
/-- ClickOrdersModel.stops(I)V -/
def rT_38 (X : jX) (rf : jRf) (F : Int32 → (Nat → Int32) → jSc → Option ((Nat → Int32) × jSc)) (e : Nat) : Prop := ∀ (sc : jSc) (al : jAl) (Post : jPo) (x1 : Int32) (S : (Nat → Int32)) (ar : jSc) (S9 : (Nat → Int32)) (ar9 : jSc), F x1 S ar = some (S9, ar9) → Post none (va_up sc 0 S9) rf ar9 al → gW X 38 e 0 (j_av [.ref 0, .int x1]) [] (va_up sc 0 S) rf ar al Post
def rF_38 (x1 : Int32) (S : (Nat → Int32)) (ar : jSc) : Option ((Nat → Int32) × jSc) :=
  (o_b2 (rF_36 x1 S ar) (fun Se1 are1 => some ((upd Se1 28 ((Se1 28) ||| ((1 : Int32) <<< (((20 : Int32) + x1) &&& 31)))), are1)))
set_option maxHeartbeats 4000000 in
theorem rt_38 {X : jX} (hX : j_LK (g_n X) (g_L X)) (hr : g_rs X = r_sh) {rf : jRf} (hrf : rf 0 = r_rf) {d : Nat} : rT_38 X rf rF_38 (d + 2) := by
  intro sc al Post x1 S ar S9 ar9 h hP
  unfold rF_38 at h
  refine gl_entry (m := 0) rfl ?_
  show gL X 38 (d + 2) 0 [some (.ref 0), some (.int x1)] [] (va_up sc 0 S) rf ar al Post
  refine gl_aload_n hX q_38_0 rfl rfl ?_
  refine gl_iload_n hX q_38_1 rfl rfl ?_
  obtain ⟨Se1, are1, e1, h⟩ := o_k2 h
  refine gl_callV hX q_38_2 (qm_291 (by decide)) rfl rfl rfl (qs_0 hr) qx_36 rfl rfl ((rt_36 hX hr hrf) _ _ _ _ _ _ _ _ e1 ?_)
  refine gl_aload_n hX q_38_5 rfl rfl ?_
  refine gl_dup hX q_38_6 rfl rfl ?_
  refine gl_get hX q_38_7 (qf_275 (by decide)) (qs_0 hr) rfl qk_28 rfl rfl ?_
  refine gl_iconst hX q_38_10 ci_1 rfl ?_
  refine gl_bipush hX q_38_11 cb_20 rfl ?_
  refine gl_iload_n hX q_38_13 rfl rfl ?_
  refine gl_iadd hX q_38_14 rfl ?_
  refine gl_ishl hX q_38_15 rfl ?_
  refine gl_ior hX q_38_16 rfl ?_
  refine gl_put hX q_38_17 (qf_275 (by decide)) (qs_0 hr) rfl qk_28 rfl ru rfl ?_
  exact gl_return q_38_20 qr_38 (by cases h; exact hP)
/-- ClickOrdersModel.saves(II)V -/
def rT_39 (X : jX) (rf : jRf) (F : Int32 → Int32 → (Nat → Int32) → jSc → Option ((Nat → Int32) × jSc)) (e : Nat) : Prop := ∀ (sc : jSc) (al : jAl) (Post : jPo) (x1 : Int32) (x2 : Int32) (S : (Nat → Int32)) (ar : jSc) (S9 : (Nat → Int32)) (ar9 : jSc), F x1 x2 S ar = some (S9, ar9) → Post none (va_up sc 0 S9) rf ar9 al → gW X 39 e 0 (j_av [.ref 0, .int x1, .int x2]) [] (va_up sc 0 S) rf ar al Post
def rF_39_73 (x1 : Int32) (S : (Nat → Int32)) (ar : jSc) : Option ((Nat → Int32) × jSc) :=
  (if iB x1 4 then (if iB ((1 : Int32) - (S 29)) 2 then (if iB x1 4 then some (S, (j_u2 (j_u2 ar 716 (iN x1) (S 29)) (718 + iN ((1 : Int32) - (S 29))) (iN x1) (0 : Int32))) else none) else none) else none)
set_option maxHeartbeats 4000000 in
theorem rt_39_73 {X : jX} (hX : j_LK (g_n X) (g_L X)) (hr : g_rs X = r_sh) {rf : jRf} (hrf : rf 0 = r_rf) {d : Nat} {sc : jSc} {al : jAl} {Post : jPo} {S9 : (Nat → Int32)} {ar9 : jSc} (hP : Post none (va_up sc 0 S9) rf ar9 al) (x1 : Int32) (S : (Nat → Int32)) (ar : jSc) (h : rF_39_73 x1 S ar = some (S9, ar9)) : gL X 39 (d + 1) 73 [some (.ref 0), some (.int x1), none] [] (va_up sc 0 S) rf ar al Post := by
  unfold rF_39_73 at h
  refine gl_aload_n hX q_39_73 rfl rfl ?_
  refine gl_getA hX q_39_74 (qf_108 (by decide)) (qs_0 hr) rfl qk_55 ((congrFun hrf 55).trans qa_55) rfl ?_
  refine gl_iload_n hX q_39_77 rfl rfl ?_
  refine gl_aload_n hX q_39_78 rfl rfl ?_
  refine gl_get hX q_39_79 (qf_45 (by decide)) (qs_0 hr) rfl qk_29 rfl rfl ?_
  obtain ⟨c1, h⟩ := o_ck h
  refine gl_iastore (ar2 := (j_u2 ar 716 (iN x1) (S 29))) hX q_39_82 (qs_716 hr) c1 rfl rfl ?_
  refine gl_aload_n hX q_39_83 rfl rfl ?_
  refine gl_getA hX q_39_84 (qf_111 (by decide)) (qs_0 hr) rfl qk_56 ((congrFun hrf 56).trans qa_56) rfl ?_
  refine gl_iconst hX q_39_87 ci_1 rfl ?_
  refine gl_aload_n hX q_39_88 rfl rfl ?_
  refine gl_get hX q_39_89 (qf_45 (by decide)) (qs_0 hr) rfl qk_29 rfl rfl ?_
  refine gl_isub hX q_39_92 rfl ?_
  obtain ⟨c2, h⟩ := o_ck h
  refine gl_aaload hX q_39_93 (qs_717 hr) c2 (Or.inr ⟨Or.inr rfl, qs_0 hr⟩) (qo_717 (iB_lt c2)) rfl ?_
  refine gl_iload_n hX q_39_94 rfl rfl ?_
  refine gl_iconst hX q_39_95 ci_0 rfl ?_
  obtain ⟨c3, h⟩ := o_ck h
  refine gl_bastore (ar2 := (j_u2 (j_u2 ar 716 (iN x1) (S 29)) (718 + iN ((1 : Int32) - (S 29))) (iN x1) (0 : Int32))) hX q_39_96 (qs_isAsked hr (iB_lt c2)) c3 (Or.inl rfl) rfl rfl ?_
  exact gl_return q_39_97 qr_39 (by cases h; exact hP)
def rF_39 (x1 : Int32) (x2 : Int32) (S : (Nat → Int32)) (ar : jSc) : Option ((Nat → Int32) × jSc) :=
  (if iB ((33 : Int32) + x1) 53 then (if (S 29) = (-1 : Int32) then some ((upd S 28 ((S 28) ||| ((1 : Int32) <<< (((16 : Int32) + x1) &&& 31)))), (j_u2 ar 13 (iN ((33 : Int32) + x1)) x2)) else (if iB x1 4 then (if (ar 716 (iN x1)) = ((1 : Int32) - (S 29)) then (if iB (S 29) 2 then (if iB x1 4 then (if ((j_u2 ar 13 (iN ((33 : Int32) + x1)) x2) (718 + iN (S 29)) (iN x1)) = 0 then rF_39_73 x1 (upd (upd S 28 ((S 28) ||| ((1 : Int32) <<< (((16 : Int32) + x1) &&& 31)))) 57 ((S 57) + (1 : Int32))) (j_u2 ar 13 (iN ((33 : Int32) + x1)) x2) else rF_39_73 x1 (upd S 28 ((S 28) ||| ((1 : Int32) <<< (((16 : Int32) + x1) &&& 31)))) (j_u2 ar 13 (iN ((33 : Int32) + x1)) x2)) else none) else none) else rF_39_73 x1 (upd S 28 ((S 28) ||| ((1 : Int32) <<< (((16 : Int32) + x1) &&& 31)))) (j_u2 ar 13 (iN ((33 : Int32) + x1)) x2)) else none)) else none)
set_option maxHeartbeats 4000000 in
theorem rt_39 {X : jX} (hX : j_LK (g_n X) (g_L X)) (hr : g_rs X = r_sh) {rf : jRf} (hrf : rf 0 = r_rf) {d : Nat} : rT_39 X rf rF_39 (d + 1) := by
  intro sc al Post x1 x2 S ar S9 ar9 h hP
  unfold rF_39 at h
  refine gl_entry (m := 0) rfl ?_
  show gL X 39 (d + 1) 0 [some (.ref 0), some (.int x1), some (.int x2)] [] (va_up sc 0 S) rf ar al Post
  refine gl_aload_n hX q_39_0 rfl rfl ?_
  refine gl_getA hX q_39_1 (qf_42 (by decide)) (qs_0 hr) rfl qk_21 ((congrFun hrf 21).trans qa_21) rfl ?_
  refine gl_bipush hX q_39_4 cb_33 rfl ?_
  refine gl_iload_n hX q_39_6 rfl rfl ?_
  refine gl_iadd hX q_39_7 rfl ?_
  refine gl_iload_n hX q_39_8 rfl rfl ?_
  obtain ⟨c4, h⟩ := o_ck h
  refine gl_iastore (ar2 := (j_u2 ar 13 (iN ((33 : Int32) + x1)) x2)) hX q_39_9 (qs_13 hr) c4 rfl rfl ?_
  refine gl_aload_n hX q_39_10 rfl rfl ?_
  refine gl_dup hX q_39_11 rfl rfl ?_
  refine gl_get hX q_39_12 (qf_275 (by decide)) (qs_0 hr) rfl qk_28 rfl rfl ?_
  refine gl_iconst hX q_39_15 ci_1 rfl ?_
  refine gl_bipush hX q_39_16 cb_16 rfl ?_
  refine gl_iload_n hX q_39_18 rfl rfl ?_
  refine gl_iadd hX q_39_19 rfl ?_
  refine gl_ishl hX q_39_20 rfl ?_
  refine gl_ior hX q_39_21 rfl ?_
  refine gl_put hX q_39_22 (qf_275 (by decide)) (qs_0 hr) rfl qk_28 rfl ru rfl ?_
  refine gl_aload_n hX q_39_25 rfl rfl ?_
  refine gl_get hX q_39_26 (qf_45 (by decide)) (qs_0 hr) rfl qk_29 rfl rfl ?_
  refine gl_iconst hX q_39_29 ci_m1 rfl ?_
  refine gl_ic_ne hX q_39_30 rfl rfl (fun c5 => ?_) (fun c5 => ?_)
  · have h := (if_pos c5).symm.trans h
    exact gl_return q_39_33 qr_39 (by cases h; exact hP)
  · have h := (if_neg c5).symm.trans h
    refine gl_aload_n hX q_39_34 rfl rfl ?_
    refine gl_getA hX q_39_35 (qf_108 (by decide)) (qs_0 hr) rfl qk_55 ((congrFun hrf 55).trans qa_55) rfl ?_
    refine gl_iload_n hX q_39_38 rfl rfl ?_
    obtain ⟨c6, h⟩ := o_ck h
    refine gl_iaload hX q_39_39 (qs_716 hr) c6 rfl rfl ?_
    refine gl_iconst hX q_39_40 ci_1 rfl ?_
    refine gl_aload_n hX q_39_41 rfl rfl ?_
    refine gl_get hX q_39_42 (qf_45 (by decide)) (qs_0 hr) rfl qk_29 rfl rfl ?_
    refine gl_isub hX q_39_45 rfl ?_
    refine gl_ic_ne hX q_39_46 rfl rfl (fun c7 => ?_) (fun c7 => ?_)
    · have h := (if_pos c7).symm.trans h
      refine gl_aload_n hX q_39_49 rfl rfl ?_
      refine gl_getA hX q_39_50 (qf_111 (by decide)) (qs_0 hr) rfl qk_56 ((congrFun hrf 56).trans qa_56) rfl ?_
      refine gl_aload_n hX q_39_53 rfl rfl ?_
      refine gl_get hX q_39_54 (qf_45 (by decide)) (qs_0 hr) rfl qk_29 rfl rfl ?_
      obtain ⟨c8, h⟩ := o_ck h
      refine gl_aaload hX q_39_57 (qs_717 hr) c8 (Or.inr ⟨Or.inr rfl, qs_0 hr⟩) (qo_717 (iB_lt c8)) rfl ?_
      refine gl_iload_n hX q_39_58 rfl rfl ?_
      obtain ⟨c9, h⟩ := o_ck h
      refine gl_baload hX q_39_59 (qs_isAsked hr (iB_lt c8)) c9 rfl rfl ?_
      refine gl_if_ne hX q_39_60 rfl rfl (fun c10 => ?_) (fun c10 => ?_)
      · have h := (if_pos c10).symm.trans h
        refine gl_aload_n hX q_39_63 rfl rfl ?_
        refine gl_dup hX q_39_64 rfl rfl ?_
        refine gl_get hX q_39_65 (qf_294 (by decide)) (qs_0 hr) rfl qk_57 rfl rfl ?_
        refine gl_iconst hX q_39_68 ci_1 rfl ?_
        refine gl_iadd hX q_39_69 rfl ?_
        refine gl_put hX q_39_70 (qf_294 (by decide)) (qs_0 hr) rfl qk_57 rfl ru rfl ?_
        exact gl_weak (vs := [some (.ref 0), some (.int x1), none]) ⟨rfl, rfl, trivial⟩ (rt_39_73 hX hr hrf hP x1 (upd (upd S 28 ((S 28) ||| ((1 : Int32) <<< (((16 : Int32) + x1) &&& 31)))) 57 ((S 57) + (1 : Int32))) (j_u2 ar 13 (iN ((33 : Int32) + x1)) x2) h)
      · have h := (if_neg c10).symm.trans h
        exact gl_weak (vs := [some (.ref 0), some (.int x1), none]) ⟨rfl, rfl, trivial⟩ (rt_39_73 hX hr hrf hP x1 (upd S 28 ((S 28) ||| ((1 : Int32) <<< (((16 : Int32) + x1) &&& 31)))) (j_u2 ar 13 (iN ((33 : Int32) + x1)) x2) h)
    · have h := (if_neg c7).symm.trans h
      exact gl_weak (vs := [some (.ref 0), some (.int x1), none]) ⟨rfl, rfl, trivial⟩ (rt_39_73 hX hr hrf hP x1 (upd S 28 ((S 28) ||| ((1 : Int32) <<< (((16 : Int32) + x1) &&& 31)))) (j_u2 ar 13 (iN ((33 : Int32) + x1)) x2) h)
/-- ClickOrdersModel.doStep()V -/
def rT_29 (X : jX) (rf : jRf) (F : (Nat → Int32) → jSc → Option ((Nat → Int32) × jSc)) (e : Nat) : Prop := ∀ (sc : jSc) (al : jAl) (Post : jPo) (S : (Nat → Int32)) (ar : jSc) (S9 : (Nat → Int32)) (ar9 : jSc), F S ar = some (S9, ar9) → Post none (va_up sc 0 S9) rf ar9 al → gW X 29 e 0 (j_av [.ref 0]) [] (va_up sc 0 S) rf ar al Post
/-- ClickOrdersModel.ifStep()V -/
def rT_30 (X : jX) (rf : jRf) (F : (Nat → Int32) → jSc → Option ((Nat → Int32) × jSc)) (e : Nat) : Prop := ∀ (sc : jSc) (al : jAl) (Post : jPo) (S : (Nat → Int32)) (ar : jSc) (S9 : (Nat → Int32)) (ar9 : jSc), F S ar = some (S9, ar9) → Post none (va_up sc 0 S9) rf ar9 al → gW X 30 e 0 (j_av [.ref 0]) [] (va_up sc 0 S) rf ar al Post
def rF_29_209 (g29 : (Nat → Int32) → jSc → Option ((Nat → Int32) × jSc)) (g30 : (Nat → Int32) → jSc → Option ((Nat → Int32) × jSc)) (x1 : Int32) (x2 : Int32) (x3 : Int32) (x4 : Int32) (S : (Nat → Int32)) (ar : jSc) : Option ((Nat → Int32) × jSc) :=
  (if (S 7) = 0 then (if (S 22) = 0 then some (S, ar) else (if x1 = 0 then (o_b2 (rF_31 x2 x4 S ar) (fun Se4 are4 => some (Se4, are4))) else (if (5 : Int32) ≤ x1 then (if x1 = (5 : Int32) then (o_b2 (rF_34 x3 x4 S ar) (fun Se7 are7 => some (Se7, are7))) else (if x1 = (6 : Int32) then (o_b2 (rF_37 x3 x4 S ar) (fun Se9 are9 => some (Se9, are9))) else (if x1 = (7 : Int32) then (o_b2 (rF_38 x3 S ar) (fun Se11 are11 => some (Se11, are11))) else (if x1 = (8 : Int32) then (o_b2 (rF_39 x3 x4 S ar) (fun Se13 are13 => some (Se13, are13))) else (o_b2 (rF_33 S ar) (fun Se14 are14 => some (Se14, are14))))))) else (o_b2 (rF_32 x1 x3 S ar) (fun Se15 are15 => some (Se15, are15)))))) else some (S, ar))
set_option maxHeartbeats 4000000 in
theorem rt_29_209 {X : jX} (hX : j_LK (g_n X) (g_L X)) (hr : g_rs X = r_sh) {rf : jRf} (hrf : rf 0 = r_rf) {d : Nat} {g29 : (Nat → Int32) → jSc → Option ((Nat → Int32) × jSc)} (hg29 : rT_29 X rf g29 (d + 84)) {g30 : (Nat → Int32) → jSc → Option ((Nat → Int32) × jSc)} (hg30 : rT_30 X rf g30 (d + 84)) {sc : jSc} {al : jAl} {Post : jPo} {S9 : (Nat → Int32)} {ar9 : jSc} (hP : Post none (va_up sc 0 S9) rf ar9 al) (x1 : Int32) (x2 : Int32) (x3 : Int32) (x4 : Int32) (S : (Nat → Int32)) (ar : jSc) (h : rF_29_209 g29 g30 x1 x2 x3 x4 S ar = some (S9, ar9)) : gL X 29 (d + 85) 209 [some (.ref 0), some (.int x1), some (.int x2), some (.int x3), some (.int x4)] [] (va_up sc 0 S) rf ar al Post := by
  unfold rF_29_209 at h
  refine gl_aload_n hX q_29_209 rfl rfl ?_
  refine gl_get hX q_29_210 (qf_145 (by decide)) (qs_0 hr) rfl qk_7 rfl rfl ?_
  refine gl_if_ne hX q_29_213 rfl rfl (fun c1 => ?_) (fun c1 => ?_)
  · have h := (if_pos c1).symm.trans h
    refine gl_aload_n hX q_29_216 rfl rfl ?_
    refine gl_get hX q_29_217 (qf_180 (by decide)) (qs_0 hr) rfl qk_22 rfl rfl ?_
    refine gl_if_ne hX q_29_220 rfl rfl (fun c2 => ?_) (fun c2 => ?_)
    · have h := (if_pos c2).symm.trans h
      exact gl_return q_29_223 qr_29 (by cases h; exact hP)
    · have h := (if_neg c2).symm.trans h
      refine gl_iload_n hX q_29_224 rfl rfl ?_
      refine gl_if_ne hX q_29_225 rfl rfl (fun c3 => ?_) (fun c3 => ?_)
      · have h := (if_pos c3).symm.trans h
        refine gl_aload_n hX q_29_228 rfl rfl ?_
        refine gl_iload_n hX q_29_229 rfl rfl ?_
        refine gl_iload hX q_29_230 rfl rfl ?_
        obtain ⟨Se4, are4, e4, h⟩ := o_k2 h
        refine gl_callV hX q_29_232 (qm_251 (by decide)) rfl rfl rfl (qs_0 hr) qx_31 rfl rfl ((rt_31 hX hr hrf) _ _ _ _ _ _ _ _ _ e4 ?_)
        refine gl_goto hX q_29_235 rfl ?_
        exact gl_return q_29_317 qr_29 (by cases h; exact hP)
      · have h := (if_neg c3).symm.trans h
        refine gl_iload_n hX q_29_238 rfl rfl ?_
        refine gl_iconst hX q_29_239 ci_5 rfl ?_
        refine gl_ic_ge hX q_29_240 rfl rfl (fun c5 => ?_) (fun c5 => ?_)
        · have h := (if_pos c5).symm.trans h
          refine gl_iload_n hX q_29_252 rfl rfl ?_
          refine gl_iconst hX q_29_253 ci_5 rfl ?_
          refine gl_ic_ne hX q_29_254 rfl rfl (fun c6 => ?_) (fun c6 => ?_)
          · have h := (if_pos c6).symm.trans h
            refine gl_aload_n hX q_29_257 rfl rfl ?_
            refine gl_iload_n hX q_29_258 rfl rfl ?_
            refine gl_iload hX q_29_259 rfl rfl ?_
            obtain ⟨Se7, are7, e7, h⟩ := o_k2 h
            refine gl_callV hX q_29_261 (qm_257 (by decide)) rfl rfl rfl (qs_0 hr) qx_34 rfl rfl ((rt_34 hX hr hrf) _ _ _ _ _ _ _ _ _ e7 ?_)
            refine gl_goto hX q_29_264 rfl ?_
            exact gl_return q_29_317 qr_29 (by cases h; exact hP)
          · have h := (if_neg c6).symm.trans h
            refine gl_iload_n hX q_29_267 rfl rfl ?_
            refine gl_bipush hX q_29_268 cb_6 rfl ?_
            refine gl_ic_ne hX q_29_270 rfl rfl (fun c8 => ?_) (fun c8 => ?_)
            · have h := (if_pos c8).symm.trans h
              refine gl_aload_n hX q_29_273 rfl rfl ?_
              refine gl_iload_n hX q_29_274 rfl rfl ?_
              refine gl_iload hX q_29_275 rfl rfl ?_
              obtain ⟨Se9, are9, e9, h⟩ := o_k2 h
              refine gl_callV hX q_29_277 (qm_260 (by decide)) rfl rfl rfl (qs_0 hr) qx_37 rfl rfl ((rt_37 hX hr hrf) _ _ _ _ _ _ _ _ _ e9 ?_)
              refine gl_goto hX q_29_280 rfl ?_
              exact gl_return q_29_317 qr_29 (by cases h; exact hP)
            · have h := (if_neg c8).symm.trans h
              refine gl_iload_n hX q_29_283 rfl rfl ?_
              refine gl_bipush hX q_29_284 cb_7 rfl ?_
              refine gl_ic_ne hX q_29_286 rfl rfl (fun c10 => ?_) (fun c10 => ?_)
              · have h := (if_pos c10).symm.trans h
                refine gl_aload_n hX q_29_289 rfl rfl ?_
                refine gl_iload_n hX q_29_290 rfl rfl ?_
                obtain ⟨Se11, are11, e11, h⟩ := o_k2 h
                refine gl_callV hX q_29_291 (qm_263 (by decide)) rfl rfl rfl (qs_0 hr) qx_38 rfl rfl ((rt_38 hX hr hrf) _ _ _ _ _ _ _ _ e11 ?_)
                refine gl_goto hX q_29_294 rfl ?_
                exact gl_return q_29_317 qr_29 (by cases h; exact hP)
              · have h := (if_neg c10).symm.trans h
                refine gl_iload_n hX q_29_297 rfl rfl ?_
                refine gl_bipush hX q_29_298 cb_8 rfl ?_
                refine gl_ic_ne hX q_29_300 rfl rfl (fun c12 => ?_) (fun c12 => ?_)
                · have h := (if_pos c12).symm.trans h
                  refine gl_aload_n hX q_29_303 rfl rfl ?_
                  refine gl_iload_n hX q_29_304 rfl rfl ?_
                  refine gl_iload hX q_29_305 rfl rfl ?_
                  obtain ⟨Se13, are13, e13, h⟩ := o_k2 h
                  refine gl_callV hX q_29_307 (qm_266 (by decide)) rfl rfl rfl (qs_0 hr) qx_39 rfl rfl ((rt_39 hX hr hrf) _ _ _ _ _ _ _ _ _ e13 ?_)
                  refine gl_goto hX q_29_310 rfl ?_
                  exact gl_return q_29_317 qr_29 (by cases h; exact hP)
                · have h := (if_neg c12).symm.trans h
                  refine gl_aload_n hX q_29_313 rfl rfl ?_
                  obtain ⟨Se14, are14, e14, h⟩ := o_k2 h
                  refine gl_callV hX q_29_314 (qm_269 (by decide)) rfl rfl rfl (qs_0 hr) qx_33 rfl rfl ((rt_33 hX hr hrf) _ _ _  _ _ _ _ e14 ?_)
                  exact gl_return q_29_317 qr_29 (by cases h; exact hP)
        · have h := (if_neg c5).symm.trans h
          refine gl_aload_n hX q_29_243 rfl rfl ?_
          refine gl_iload_n hX q_29_244 rfl rfl ?_
          refine gl_iload_n hX q_29_245 rfl rfl ?_
          obtain ⟨Se15, are15, e15, h⟩ := o_k2 h
          refine gl_callV hX q_29_246 (qm_254 (by decide)) rfl rfl rfl (qs_0 hr) qx_32 rfl rfl ((rt_32 hX hr hrf) _ _ _ _ _ _ _ _ _ e15 ?_)
          refine gl_goto hX q_29_249 rfl ?_
          exact gl_return q_29_317 qr_29 (by cases h; exact hP)
  · have h := (if_neg c1).symm.trans h
    exact gl_return q_29_223 qr_29 (by cases h; exact hP)
def rF_29_154 (g29 : (Nat → Int32) → jSc → Option ((Nat → Int32) × jSc)) (g30 : (Nat → Int32) → jSc → Option ((Nat → Int32) × jSc)) (x1 : Int32) (x2 : Int32) (y0 : Int32) (S : (Nat → Int32)) (ar : jSc) : Option ((Nat → Int32) × jSc) :=
  (if x1 = (5 : Int32) then (o_b3 (rF_16 (999 : Int32) S ar) (fun ve17 Se17 are17 => (if (Se17 7) = 0 then (o_b2 (rF_15 (59 : Int32) Se17 are17) (fun Se19 are19 => rF_29_209 g29 g30 x1 x2 y0 ve17 Se19 are19)) else rF_29_209 g29 g30 x1 x2 y0 ve17 Se17 are17))) else (if x1 = 0 then (o_b3 ((rG_22 40).2.2 S ar) (fun ve21 Se21 are21 => (if (Se21 7) = 0 then (o_b2 (rF_15 (59 : Int32) Se21 are21) (fun Se23 are23 => rF_29_209 g29 g30 x1 x2 y0 ve21 Se23 are23)) else rF_29_209 g29 g30 x1 x2 y0 ve21 Se21 are21))) else (if x1 = (6 : Int32) then (o_b3 ((rG_22 40).2.2 S ar) (fun ve25 Se25 are25 => (if (Se25 7) = 0 then (o_b2 (rF_15 (59 : Int32) Se25 are25) (fun Se27 are27 => rF_29_209 g29 g30 x1 x2 y0 ve25 Se27 are27)) else rF_29_209 g29 g30 x1 x2 y0 ve25 Se25 are25))) else (if x1 = (8 : Int32) then (o_b3 ((rG_22 40).2.2 S ar) (fun ve29 Se29 are29 => (if (Se29 7) = 0 then (o_b2 (rF_15 (59 : Int32) Se29 are29) (fun Se31 are31 => rF_29_209 g29 g30 x1 x2 y0 ve29 Se31 are31)) else rF_29_209 g29 g30 x1 x2 y0 ve29 Se29 are29))) else (if (S 7) = 0 then (o_b2 (rF_15 (59 : Int32) S ar) (fun Se33 are33 => rF_29_209 g29 g30 x1 x2 y0 (0 : Int32) Se33 are33)) else rF_29_209 g29 g30 x1 x2 y0 (0 : Int32) S ar)))))
set_option maxHeartbeats 4000000 in
theorem rt_29_154 {X : jX} (hX : j_LK (g_n X) (g_L X)) (hr : g_rs X = r_sh) {rf : jRf} (hrf : rf 0 = r_rf) {d : Nat} {g29 : (Nat → Int32) → jSc → Option ((Nat → Int32) × jSc)} (hg29 : rT_29 X rf g29 (d + 84)) {g30 : (Nat → Int32) → jSc → Option ((Nat → Int32) × jSc)} (hg30 : rT_30 X rf g30 (d + 84)) {sc : jSc} {al : jAl} {Post : jPo} {S9 : (Nat → Int32)} {ar9 : jSc} (hP : Post none (va_up sc 0 S9) rf ar9 al) (x1 : Int32) (x2 : Int32) (y0 : Int32) (S : (Nat → Int32)) (ar : jSc) (h : rF_29_154 g29 g30 x1 x2 y0 S ar = some (S9, ar9)) : gL X 29 (d + 85) 154 [some (.ref 0), some (.int x1), some (.int x2), none, none] [.int y0] (va_up sc 0 S) rf ar al Post := by
  unfold rF_29_154 at h
  refine gl_istore_n (vs2 := [some (.ref 0), some (.int x1), some (.int x2), some (.int y0), none]) hX q_29_154 rfl rfl rfl rfl ?_
  refine gl_iload_n hX q_29_155 rfl rfl ?_
  refine gl_iconst hX q_29_156 ci_5 rfl ?_
  refine gl_ic_ne hX q_29_157 rfl rfl (fun c16 => ?_) (fun c16 => ?_)
  · have h := (if_pos c16).symm.trans h
    refine gl_aload_n hX q_29_160 rfl rfl ?_
    refine gl_sipush hX q_29_161 cs_999 rfl ?_
    obtain ⟨ve17, Se17, are17, e17, h⟩ := o_k3 h
    refine gl_callV hX q_29_164 (qm_174 (by decide)) rfl rfl rfl (qs_0 hr) qx_16 rfl rfl ((rt_16 hX hr hrf) _ _ _ _ _ _ _ _ _ e17 ?_)
    refine gl_goto hX q_29_167 rfl ?_
    refine gl_istore (vs2 := [some (.ref 0), some (.int x1), some (.int x2), some (.int y0), some (.int ve17)]) hX q_29_194 rfl rfl rfl rfl ?_
    refine gl_aload_n hX q_29_196 rfl rfl ?_
    refine gl_get hX q_29_197 (qf_145 (by decide)) (qs_0 hr) rfl qk_7 rfl rfl ?_
    refine gl_if_ne hX q_29_200 rfl rfl (fun c18 => ?_) (fun c18 => ?_)
    · have h := (if_pos c18).symm.trans h
      refine gl_aload_n hX q_29_203 rfl rfl ?_
      refine gl_bipush hX q_29_204 cb_59 rfl ?_
      obtain ⟨Se19, are19, e19, h⟩ := o_k2 h
      refine gl_callV hX q_29_206 (qm_219 (by decide)) rfl rfl rfl (qs_0 hr) qx_15 rfl rfl ((rt_15 hX hr hrf) _ _ _ _ _ _ _ _ e19 ?_)
      exact gl_weak (vs := [some (.ref 0), some (.int x1), some (.int x2), some (.int y0), some (.int ve17)]) ⟨rfl, rfl, rfl, rfl, rfl, trivial⟩ (rt_29_209 hX hr hrf hg29 hg30 hP x1 x2 y0 ve17 Se19 are19 h)
    · have h := (if_neg c18).symm.trans h
      exact gl_weak (vs := [some (.ref 0), some (.int x1), some (.int x2), some (.int y0), some (.int ve17)]) ⟨rfl, rfl, rfl, rfl, rfl, trivial⟩ (rt_29_209 hX hr hrf hg29 hg30 hP x1 x2 y0 ve17 Se17 are17 h)
  · have h := (if_neg c16).symm.trans h
    refine gl_iload_n hX q_29_170 rfl rfl ?_
    refine gl_if_eq hX q_29_171 rfl rfl (fun c20 => ?_) (fun c20 => ?_)
    · have h := (if_pos c20).symm.trans h
      refine gl_aload_n hX q_29_186 rfl rfl ?_
      obtain ⟨ve21, Se21, are21, e21, h⟩ := o_k3 h
      refine gl_callV hX q_29_187 (qm_216 (by decide)) rfl rfl rfl (qs_0 hr) qx_24 rfl rfl (((rtG_22 hX hr hrf 40).2.2) _ _ _  _ _ _ _ _ e21 ?_)
      refine gl_goto hX q_29_190 rfl ?_
      refine gl_istore (vs2 := [some (.ref 0), some (.int x1), some (.int x2), some (.int y0), some (.int ve21)]) hX q_29_194 rfl rfl rfl rfl ?_
      refine gl_aload_n hX q_29_196 rfl rfl ?_
      refine gl_get hX q_29_197 (qf_145 (by decide)) (qs_0 hr) rfl qk_7 rfl rfl ?_
      refine gl_if_ne hX q_29_200 rfl rfl (fun c22 => ?_) (fun c22 => ?_)
      · have h := (if_pos c22).symm.trans h
        refine gl_aload_n hX q_29_203 rfl rfl ?_
        refine gl_bipush hX q_29_204 cb_59 rfl ?_
        obtain ⟨Se23, are23, e23, h⟩ := o_k2 h
        refine gl_callV hX q_29_206 (qm_219 (by decide)) rfl rfl rfl (qs_0 hr) qx_15 rfl rfl ((rt_15 hX hr hrf) _ _ _ _ _ _ _ _ e23 ?_)
        exact gl_weak (vs := [some (.ref 0), some (.int x1), some (.int x2), some (.int y0), some (.int ve21)]) ⟨rfl, rfl, rfl, rfl, rfl, trivial⟩ (rt_29_209 hX hr hrf hg29 hg30 hP x1 x2 y0 ve21 Se23 are23 h)
      · have h := (if_neg c22).symm.trans h
        exact gl_weak (vs := [some (.ref 0), some (.int x1), some (.int x2), some (.int y0), some (.int ve21)]) ⟨rfl, rfl, rfl, rfl, rfl, trivial⟩ (rt_29_209 hX hr hrf hg29 hg30 hP x1 x2 y0 ve21 Se21 are21 h)
    · have h := (if_neg c20).symm.trans h
      refine gl_iload_n hX q_29_174 rfl rfl ?_
      refine gl_bipush hX q_29_175 cb_6 rfl ?_
      refine gl_ic_eq hX q_29_177 rfl rfl (fun c24 => ?_) (fun c24 => ?_)
      · have h := (if_pos c24).symm.trans h
        refine gl_aload_n hX q_29_186 rfl rfl ?_
        obtain ⟨ve25, Se25, are25, e25, h⟩ := o_k3 h
        refine gl_callV hX q_29_187 (qm_216 (by decide)) rfl rfl rfl (qs_0 hr) qx_24 rfl rfl (((rtG_22 hX hr hrf 40).2.2) _ _ _  _ _ _ _ _ e25 ?_)
        refine gl_goto hX q_29_190 rfl ?_
        refine gl_istore (vs2 := [some (.ref 0), some (.int x1), some (.int x2), some (.int y0), some (.int ve25)]) hX q_29_194 rfl rfl rfl rfl ?_
        refine gl_aload_n hX q_29_196 rfl rfl ?_
        refine gl_get hX q_29_197 (qf_145 (by decide)) (qs_0 hr) rfl qk_7 rfl rfl ?_
        refine gl_if_ne hX q_29_200 rfl rfl (fun c26 => ?_) (fun c26 => ?_)
        · have h := (if_pos c26).symm.trans h
          refine gl_aload_n hX q_29_203 rfl rfl ?_
          refine gl_bipush hX q_29_204 cb_59 rfl ?_
          obtain ⟨Se27, are27, e27, h⟩ := o_k2 h
          refine gl_callV hX q_29_206 (qm_219 (by decide)) rfl rfl rfl (qs_0 hr) qx_15 rfl rfl ((rt_15 hX hr hrf) _ _ _ _ _ _ _ _ e27 ?_)
          exact gl_weak (vs := [some (.ref 0), some (.int x1), some (.int x2), some (.int y0), some (.int ve25)]) ⟨rfl, rfl, rfl, rfl, rfl, trivial⟩ (rt_29_209 hX hr hrf hg29 hg30 hP x1 x2 y0 ve25 Se27 are27 h)
        · have h := (if_neg c26).symm.trans h
          exact gl_weak (vs := [some (.ref 0), some (.int x1), some (.int x2), some (.int y0), some (.int ve25)]) ⟨rfl, rfl, rfl, rfl, rfl, trivial⟩ (rt_29_209 hX hr hrf hg29 hg30 hP x1 x2 y0 ve25 Se25 are25 h)
      · have h := (if_neg c24).symm.trans h
        refine gl_iload_n hX q_29_180 rfl rfl ?_
        refine gl_bipush hX q_29_181 cb_8 rfl ?_
        refine gl_ic_ne hX q_29_183 rfl rfl (fun c28 => ?_) (fun c28 => ?_)
        · have h := (if_pos c28).symm.trans h
          refine gl_aload_n hX q_29_186 rfl rfl ?_
          obtain ⟨ve29, Se29, are29, e29, h⟩ := o_k3 h
          refine gl_callV hX q_29_187 (qm_216 (by decide)) rfl rfl rfl (qs_0 hr) qx_24 rfl rfl (((rtG_22 hX hr hrf 40).2.2) _ _ _  _ _ _ _ _ e29 ?_)
          refine gl_goto hX q_29_190 rfl ?_
          refine gl_istore (vs2 := [some (.ref 0), some (.int x1), some (.int x2), some (.int y0), some (.int ve29)]) hX q_29_194 rfl rfl rfl rfl ?_
          refine gl_aload_n hX q_29_196 rfl rfl ?_
          refine gl_get hX q_29_197 (qf_145 (by decide)) (qs_0 hr) rfl qk_7 rfl rfl ?_
          refine gl_if_ne hX q_29_200 rfl rfl (fun c30 => ?_) (fun c30 => ?_)
          · have h := (if_pos c30).symm.trans h
            refine gl_aload_n hX q_29_203 rfl rfl ?_
            refine gl_bipush hX q_29_204 cb_59 rfl ?_
            obtain ⟨Se31, are31, e31, h⟩ := o_k2 h
            refine gl_callV hX q_29_206 (qm_219 (by decide)) rfl rfl rfl (qs_0 hr) qx_15 rfl rfl ((rt_15 hX hr hrf) _ _ _ _ _ _ _ _ e31 ?_)
            exact gl_weak (vs := [some (.ref 0), some (.int x1), some (.int x2), some (.int y0), some (.int ve29)]) ⟨rfl, rfl, rfl, rfl, rfl, trivial⟩ (rt_29_209 hX hr hrf hg29 hg30 hP x1 x2 y0 ve29 Se31 are31 h)
          · have h := (if_neg c30).symm.trans h
            exact gl_weak (vs := [some (.ref 0), some (.int x1), some (.int x2), some (.int y0), some (.int ve29)]) ⟨rfl, rfl, rfl, rfl, rfl, trivial⟩ (rt_29_209 hX hr hrf hg29 hg30 hP x1 x2 y0 ve29 Se29 are29 h)
        · have h := (if_neg c28).symm.trans h
          refine gl_iconst hX q_29_193 ci_0 rfl ?_
          refine gl_istore (vs2 := [some (.ref 0), some (.int x1), some (.int x2), some (.int y0), some (.int (0 : Int32))]) hX q_29_194 rfl rfl rfl rfl ?_
          refine gl_aload_n hX q_29_196 rfl rfl ?_
          refine gl_get hX q_29_197 (qf_145 (by decide)) (qs_0 hr) rfl qk_7 rfl rfl ?_
          refine gl_if_ne hX q_29_200 rfl rfl (fun c32 => ?_) (fun c32 => ?_)
          · have h := (if_pos c32).symm.trans h
            refine gl_aload_n hX q_29_203 rfl rfl ?_
            refine gl_bipush hX q_29_204 cb_59 rfl ?_
            obtain ⟨Se33, are33, e33, h⟩ := o_k2 h
            refine gl_callV hX q_29_206 (qm_219 (by decide)) rfl rfl rfl (qs_0 hr) qx_15 rfl rfl ((rt_15 hX hr hrf) _ _ _ _ _ _ _ _ e33 ?_)
            exact gl_weak (vs := [some (.ref 0), some (.int x1), some (.int x2), some (.int y0), some (.int (0 : Int32))]) ⟨rfl, rfl, rfl, rfl, rfl, trivial⟩ (rt_29_209 hX hr hrf hg29 hg30 hP x1 x2 y0 (0 : Int32) Se33 are33 h)
          · have h := (if_neg c32).symm.trans h
            exact gl_weak (vs := [some (.ref 0), some (.int x1), some (.int x2), some (.int y0), some (.int (0 : Int32))]) ⟨rfl, rfl, rfl, rfl, rfl, trivial⟩ (rt_29_209 hX hr hrf hg29 hg30 hP x1 x2 y0 (0 : Int32) S ar h)
def rF_29_117 (g29 : (Nat → Int32) → jSc → Option ((Nat → Int32) × jSc)) (g30 : (Nat → Int32) → jSc → Option ((Nat → Int32) × jSc)) (x1 : Int32) (x2 : Int32) (S : (Nat → Int32)) (ar : jSc) : Option ((Nat → Int32) × jSc) :=
  (o_b3 (rF_4 x1 (1 : Int32) (4 : Int32) S ar) (fun ve34 Se34 are34 => (if ve34 = 0 then (o_b3 (rF_4 x1 (5 : Int32) (8 : Int32) Se34 are34) (fun ve36 Se36 are36 => (if ve36 = 0 then rF_29_154 g29 g30 x1 x2 (0 : Int32) Se36 are36 else (o_b3 (rF_17 (3 : Int32) Se36 are36) (fun ve38 Se38 are38 => rF_29_154 g29 g30 x1 x2 ve38 Se38 are38))))) else (o_b3 (rF_17 (7 : Int32) Se34 are34) (fun ve39 Se39 are39 => rF_29_154 g29 g30 x1 x2 ve39 Se39 are39)))))
set_option maxHeartbeats 4000000 in
theorem rt_29_117 {X : jX} (hX : j_LK (g_n X) (g_L X)) (hr : g_rs X = r_sh) {rf : jRf} (hrf : rf 0 = r_rf) {d : Nat} {g29 : (Nat → Int32) → jSc → Option ((Nat → Int32) × jSc)} (hg29 : rT_29 X rf g29 (d + 84)) {g30 : (Nat → Int32) → jSc → Option ((Nat → Int32) × jSc)} (hg30 : rT_30 X rf g30 (d + 84)) {sc : jSc} {al : jAl} {Post : jPo} {S9 : (Nat → Int32)} {ar9 : jSc} (hP : Post none (va_up sc 0 S9) rf ar9 al) (x1 : Int32) (x2 : Int32) (S : (Nat → Int32)) (ar : jSc) (h : rF_29_117 g29 g30 x1 x2 S ar = some (S9, ar9)) : gL X 29 (d + 85) 117 [some (.ref 0), some (.int x1), some (.int x2), none, none] [] (va_up sc 0 S) rf ar al Post := by
  unfold rF_29_117 at h
  refine gl_iload_n hX q_29_117 rfl rfl ?_
  refine gl_iconst hX q_29_118 ci_1 rfl ?_
  refine gl_iconst hX q_29_119 ci_4 rfl ?_
  obtain ⟨ve34, Se34, are34, e34, h⟩ := o_k3 h
  refine gl_callS q_29_120 (qm_247 (by decide)) rfl rfl rfl qx_4 rfl rfl ((rt_4 hX hr hrf) _ _ _ _ _ _ _ _ _ _ _ e34 ?_)
  refine gl_if_eq hX q_29_123 rfl rfl (fun c35 => ?_) (fun c35 => ?_)
  · have h := (if_pos c35).symm.trans h
    refine gl_iload_n hX q_29_135 rfl rfl ?_
    refine gl_iconst hX q_29_136 ci_5 rfl ?_
    refine gl_bipush hX q_29_137 cb_8 rfl ?_
    obtain ⟨ve36, Se36, are36, e36, h⟩ := o_k3 h
    refine gl_callS q_29_139 (qm_247 (by decide)) rfl rfl rfl qx_4 rfl rfl ((rt_4 hX hr hrf) _ _ _ _ _ _ _ _ _ _ _ e36 ?_)
    refine gl_if_eq hX q_29_142 rfl rfl (fun c37 => ?_) (fun c37 => ?_)
    · have h := (if_pos c37).symm.trans h
      refine gl_iconst hX q_29_153 ci_0 rfl ?_
      exact gl_weak (vs := [some (.ref 0), some (.int x1), some (.int x2), none, none]) ⟨rfl, rfl, rfl, trivial⟩ (rt_29_154 hX hr hrf hg29 hg30 hP x1 x2 (0 : Int32) Se36 are36 h)
    · have h := (if_neg c37).symm.trans h
      refine gl_aload_n hX q_29_145 rfl rfl ?_
      refine gl_iconst hX q_29_146 ci_3 rfl ?_
      obtain ⟨ve38, Se38, are38, e38, h⟩ := o_k3 h
      refine gl_callV hX q_29_147 (qm_206 (by decide)) rfl rfl rfl (qs_0 hr) qx_17 rfl rfl ((rt_17 hX hr hrf) _ _ _ _ _ _ _ _ _ e38 ?_)
      refine gl_goto hX q_29_150 rfl ?_
      exact gl_weak (vs := [some (.ref 0), some (.int x1), some (.int x2), none, none]) ⟨rfl, rfl, rfl, trivial⟩ (rt_29_154 hX hr hrf hg29 hg30 hP x1 x2 ve38 Se38 are38 h)
  · have h := (if_neg c35).symm.trans h
    refine gl_aload_n hX q_29_126 rfl rfl ?_
    refine gl_bipush hX q_29_127 cb_7 rfl ?_
    obtain ⟨ve39, Se39, are39, e39, h⟩ := o_k3 h
    refine gl_callV hX q_29_129 (qm_206 (by decide)) rfl rfl rfl (qs_0 hr) qx_17 rfl rfl ((rt_17 hX hr hrf) _ _ _ _ _ _ _ _ _ e39 ?_)
    refine gl_goto hX q_29_132 rfl ?_
    exact gl_weak (vs := [some (.ref 0), some (.int x1), some (.int x2), none, none]) ⟨rfl, rfl, rfl, trivial⟩ (rt_29_154 hX hr hrf hg29 hg30 hP x1 x2 ve39 Se39 are39 h)
def rF_29_89 (g29 : (Nat → Int32) → jSc → Option ((Nat → Int32) × jSc)) (g30 : (Nat → Int32) → jSc → Option ((Nat → Int32) × jSc)) (x1 : Int32) (y0 : Int32) (S : (Nat → Int32)) (ar : jSc) : Option ((Nat → Int32) × jSc) :=
  (if x1 = 0 then (o_b2 (rF_15 (61 : Int32) (upd S 5 ((S 5) + (1 : Int32))) ar) (fun Se41 are41 => rF_29_117 g29 g30 x1 y0 Se41 are41)) else (o_b2 (rF_14 S ar) (fun Se42 are42 => rF_29_117 g29 g30 x1 y0 Se42 are42)))
set_option maxHeartbeats 4000000 in
theorem rt_29_89 {X : jX} (hX : j_LK (g_n X) (g_L X)) (hr : g_rs X = r_sh) {rf : jRf} (hrf : rf 0 = r_rf) {d : Nat} {g29 : (Nat → Int32) → jSc → Option ((Nat → Int32) × jSc)} (hg29 : rT_29 X rf g29 (d + 84)) {g30 : (Nat → Int32) → jSc → Option ((Nat → Int32) × jSc)} (hg30 : rT_30 X rf g30 (d + 84)) {sc : jSc} {al : jAl} {Post : jPo} {S9 : (Nat → Int32)} {ar9 : jSc} (hP : Post none (va_up sc 0 S9) rf ar9 al) (x1 : Int32) (y0 : Int32) (S : (Nat → Int32)) (ar : jSc) (h : rF_29_89 g29 g30 x1 y0 S ar = some (S9, ar9)) : gL X 29 (d + 85) 89 [some (.ref 0), some (.int x1), none, none, none] [.int y0] (va_up sc 0 S) rf ar al Post := by
  unfold rF_29_89 at h
  refine gl_istore_n (vs2 := [some (.ref 0), some (.int x1), some (.int y0), none, none]) hX q_29_89 rfl rfl rfl rfl ?_
  refine gl_iload_n hX q_29_90 rfl rfl ?_
  refine gl_if_ne hX q_29_91 rfl rfl (fun c40 => ?_) (fun c40 => ?_)
  · have h := (if_pos c40).symm.trans h
    refine gl_aload_n hX q_29_94 rfl rfl ?_
    refine gl_dup hX q_29_95 rfl rfl ?_
    refine gl_get hX q_29_96 (qf_138 (by decide)) (qs_0 hr) rfl qk_5 rfl rfl ?_
    refine gl_iconst hX q_29_99 ci_1 rfl ?_
    refine gl_iadd hX q_29_100 rfl ?_
    refine gl_put hX q_29_101 (qf_138 (by decide)) (qs_0 hr) rfl qk_5 rfl ru rfl ?_
    refine gl_aload_n hX q_29_104 rfl rfl ?_
    refine gl_bipush hX q_29_105 cb_61 rfl ?_
    obtain ⟨Se41, are41, e41, h⟩ := o_k2 h
    refine gl_callV hX q_29_107 (qm_219 (by decide)) rfl rfl rfl (qs_0 hr) qx_15 rfl rfl ((rt_15 hX hr hrf) _ _ _ _ _ _ _ _ e41 ?_)
    refine gl_goto hX q_29_110 rfl ?_
    exact gl_weak (vs := [some (.ref 0), some (.int x1), some (.int y0), none, none]) ⟨rfl, rfl, rfl, trivial⟩ (rt_29_117 hX hr hrf hg29 hg30 hP x1 y0 Se41 are41 h)
  · have h := (if_neg c40).symm.trans h
    refine gl_aload_n hX q_29_113 rfl rfl ?_
    obtain ⟨Se42, are42, e42, h⟩ := o_k2 h
    refine gl_callV hX q_29_114 (qm_200 (by decide)) rfl rfl rfl (qs_0 hr) qx_14 rfl rfl ((rt_14 hX hr hrf) _ _ _  _ _ _ _ e42 ?_)
    exact gl_weak (vs := [some (.ref 0), some (.int x1), some (.int y0), none, none]) ⟨rfl, rfl, rfl, trivial⟩ (rt_29_117 hX hr hrf hg29 hg30 hP x1 y0 Se42 are42 h)
def rF_29_48 (g29 : (Nat → Int32) → jSc → Option ((Nat → Int32) × jSc)) (g30 : (Nat → Int32) → jSc → Option ((Nat → Int32) × jSc)) (x1 : Int32) (S : (Nat → Int32)) (ar : jSc) : Option ((Nat → Int32) × jSc) :=
  (if (S 7) = 0 then (if x1 = (10 : Int32) then (o_b2 (g30 (upd S 17 ((S 17) + (1 : Int32))) ar) (fun Se45 are45 => some (Se45, are45))) else (if x1 = 0 then (o_b3 (rF_19 (upd S 17 ((S 17) + (1 : Int32))) ar) (fun ve47 Se47 are47 => rF_29_89 g29 g30 x1 ve47 Se47 are47)) else rF_29_89 g29 g30 x1 (-1 : Int32) (upd S 17 ((S 17) + (1 : Int32))) ar)) else some (S, ar))
set_option maxHeartbeats 4000000 in
theorem rt_29_48 {X : jX} (hX : j_LK (g_n X) (g_L X)) (hr : g_rs X = r_sh) {rf : jRf} (hrf : rf 0 = r_rf) {d : Nat} {g29 : (Nat → Int32) → jSc → Option ((Nat → Int32) × jSc)} (hg29 : rT_29 X rf g29 (d + 84)) {g30 : (Nat → Int32) → jSc → Option ((Nat → Int32) × jSc)} (hg30 : rT_30 X rf g30 (d + 84)) {sc : jSc} {al : jAl} {Post : jPo} {S9 : (Nat → Int32)} {ar9 : jSc} (hP : Post none (va_up sc 0 S9) rf ar9 al) (x1 : Int32) (S : (Nat → Int32)) (ar : jSc) (h : rF_29_48 g29 g30 x1 S ar = some (S9, ar9)) : gL X 29 (d + 85) 48 [some (.ref 0), some (.int x1), none, none, none] [] (va_up sc 0 S) rf ar al Post := by
  unfold rF_29_48 at h
  refine gl_aload_n hX q_29_48 rfl rfl ?_
  refine gl_get hX q_29_49 (qf_145 (by decide)) (qs_0 hr) rfl qk_7 rfl rfl ?_
  refine gl_if_eq hX q_29_52 rfl rfl (fun c43 => ?_) (fun c43 => ?_)
  · have h := (if_pos c43).symm.trans h
    refine gl_aload_n hX q_29_56 rfl rfl ?_
    refine gl_dup hX q_29_57 rfl rfl ?_
    refine gl_get hX q_29_58 (qf_241 (by decide)) (qs_0 hr) rfl qk_17 rfl rfl ?_
    refine gl_iconst hX q_29_61 ci_1 rfl ?_
    refine gl_iadd hX q_29_62 rfl ?_
    refine gl_put hX q_29_63 (qf_241 (by decide)) (qs_0 hr) rfl qk_17 rfl ru rfl ?_
    refine gl_iload_n hX q_29_66 rfl rfl ?_
    refine gl_bipush hX q_29_67 cb_10 rfl ?_
    refine gl_ic_ne hX q_29_69 rfl rfl (fun c44 => ?_) (fun c44 => ?_)
    · have h := (if_pos c44).symm.trans h
      refine gl_aload_n hX q_29_72 rfl rfl ?_
      obtain ⟨Se45, are45, e45, h⟩ := o_k2 h
      refine gl_callV hX q_29_73 (qm_244 (by decide)) rfl rfl rfl (qs_0 hr) qx_30 rfl rfl (hg30 _ _ _  _ _ _ _ e45 ?_)
      exact gl_return q_29_76 qr_29 (by cases h; exact hP)
    · have h := (if_neg c44).symm.trans h
      refine gl_iload_n hX q_29_77 rfl rfl ?_
      refine gl_if_ne hX q_29_78 rfl rfl (fun c46 => ?_) (fun c46 => ?_)
      · have h := (if_pos c46).symm.trans h
        refine gl_aload_n hX q_29_81 rfl rfl ?_
        obtain ⟨ve47, Se47, are47, e47, h⟩ := o_k3 h
        refine gl_callV hX q_29_82 (qm_190 (by decide)) rfl rfl rfl (qs_0 hr) qx_19 rfl rfl ((rt_19 hX hr hrf) _ _ _  _ _ _ _ _ e47 ?_)
        refine gl_goto hX q_29_85 rfl ?_
        exact gl_weak (vs := [some (.ref 0), some (.int x1), none, none, none]) ⟨rfl, rfl, trivial⟩ (rt_29_89 hX hr hrf hg29 hg30 hP x1 ve47 Se47 are47 h)
      · have h := (if_neg c46).symm.trans h
        refine gl_iconst hX q_29_88 ci_m1 rfl ?_
        exact gl_weak (vs := [some (.ref 0), some (.int x1), none, none, none]) ⟨rfl, rfl, trivial⟩ (rt_29_89 hX hr hrf hg29 hg30 hP x1 (-1 : Int32) (upd S 17 ((S 17) + (1 : Int32))) ar h)
  · have h := (if_neg c43).symm.trans h
    exact gl_return q_29_55 qr_29 (by cases h; exact hP)
def rF_29 (g29 : (Nat → Int32) → jSc → Option ((Nat → Int32) × jSc)) (g30 : (Nat → Int32) → jSc → Option ((Nat → Int32) × jSc)) (S : (Nat → Int32)) (ar : jSc) : Option ((Nat → Int32) × jSc) :=
  (o_b3 (rF_28 S ar) (fun ve48 Se48 are48 => (if ve48 = (-1 : Int32) then (o_b2 (rF_8 (1 : Int32) (Se48 5) Se48 are48) (fun Se50 are50 => rF_29_48 g29 g30 ve48 Se50 are50)) else (if (Se48 17) = (60 : Int32) then (if (Se48 4) = (-1 : Int32) then (o_b2 (rF_8 (3 : Int32) (Se48 5) Se48 are48) (fun Se53 are53 => rF_29_48 g29 g30 ve48 Se53 are53)) else rF_29_48 g29 g30 ve48 Se48 are48) else rF_29_48 g29 g30 ve48 Se48 are48))))
set_option maxHeartbeats 4000000 in
theorem rt_29 {X : jX} (hX : j_LK (g_n X) (g_L X)) (hr : g_rs X = r_sh) {rf : jRf} (hrf : rf 0 = r_rf) {d : Nat} {g29 : (Nat → Int32) → jSc → Option ((Nat → Int32) × jSc)} (hg29 : rT_29 X rf g29 (d + 84)) {g30 : (Nat → Int32) → jSc → Option ((Nat → Int32) × jSc)} (hg30 : rT_30 X rf g30 (d + 84)) : rT_29 X rf (rF_29 g29 g30) (d + 85) := by
  intro sc al Post  S ar S9 ar9 h hP
  unfold rF_29 at h
  refine gl_entry (m := 4) rfl ?_
  show gL X 29 (d + 85) 0 [some (.ref 0), none, none, none, none] [] (va_up sc 0 S) rf ar al Post
  refine gl_aload_n hX q_29_0 rfl rfl ?_
  obtain ⟨ve48, Se48, are48, e48, h⟩ := o_k3 h
  refine gl_callV hX q_29_1 (qm_238 (by decide)) rfl rfl rfl (qs_0 hr) qx_28 rfl rfl ((rt_28 hX hr hrf) _ _ _  _ _ _ _ _ e48 ?_)
  refine gl_istore_n (vs2 := [some (.ref 0), some (.int ve48), none, none, none]) hX q_29_4 rfl rfl rfl rfl ?_
  refine gl_iload_n hX q_29_5 rfl rfl ?_
  refine gl_iconst hX q_29_6 ci_m1 rfl ?_
  refine gl_ic_ne hX q_29_7 rfl rfl (fun c49 => ?_) (fun c49 => ?_)
  · have h := (if_pos c49).symm.trans h
    refine gl_aload_n hX q_29_10 rfl rfl ?_
    refine gl_iconst hX q_29_11 ci_1 rfl ?_
    refine gl_aload_n hX q_29_12 rfl rfl ?_
    refine gl_get hX q_29_13 (qf_138 (by decide)) (qs_0 hr) rfl qk_5 rfl rfl ?_
    obtain ⟨Se50, are50, e50, h⟩ := o_k2 h
    refine gl_callV hX q_29_16 (qm_166 (by decide)) rfl rfl rfl (qs_0 hr) qx_8 rfl rfl ((rt_8 hX hr hrf) _ _ _ _ _ _ _ _ _ e50 ?_)
    refine gl_goto hX q_29_19 rfl ?_
    exact gl_weak (vs := [some (.ref 0), some (.int ve48), none, none, none]) ⟨rfl, rfl, trivial⟩ (rt_29_48 hX hr hrf hg29 hg30 hP ve48 Se50 are50 h)
  · have h := (if_neg c49).symm.trans h
    refine gl_aload_n hX q_29_22 rfl rfl ?_
    refine gl_get hX q_29_23 (qf_241 (by decide)) (qs_0 hr) rfl qk_17 rfl rfl ?_
    refine gl_bipush hX q_29_26 cb_60 rfl ?_
    refine gl_ic_ne hX q_29_28 rfl rfl (fun c51 => ?_) (fun c51 => ?_)
    · have h := (if_pos c51).symm.trans h
      refine gl_aload_n hX q_29_31 rfl rfl ?_
      refine gl_get hX q_29_32 (qf_135 (by decide)) (qs_0 hr) rfl qk_4 rfl rfl ?_
      refine gl_iconst hX q_29_35 ci_m1 rfl ?_
      refine gl_ic_ne hX q_29_36 rfl rfl (fun c52 => ?_) (fun c52 => ?_)
      · have h := (if_pos c52).symm.trans h
        refine gl_aload_n hX q_29_39 rfl rfl ?_
        refine gl_iconst hX q_29_40 ci_3 rfl ?_
        refine gl_aload_n hX q_29_41 rfl rfl ?_
        refine gl_get hX q_29_42 (qf_138 (by decide)) (qs_0 hr) rfl qk_5 rfl rfl ?_
        obtain ⟨Se53, are53, e53, h⟩ := o_k2 h
        refine gl_callV hX q_29_45 (qm_166 (by decide)) rfl rfl rfl (qs_0 hr) qx_8 rfl rfl ((rt_8 hX hr hrf) _ _ _ _ _ _ _ _ _ e53 ?_)
        exact gl_weak (vs := [some (.ref 0), some (.int ve48), none, none, none]) ⟨rfl, rfl, trivial⟩ (rt_29_48 hX hr hrf hg29 hg30 hP ve48 Se53 are53 h)
      · have h := (if_neg c52).symm.trans h
        exact gl_weak (vs := [some (.ref 0), some (.int ve48), none, none, none]) ⟨rfl, rfl, trivial⟩ (rt_29_48 hX hr hrf hg29 hg30 hP ve48 Se48 are48 h)
    · have h := (if_neg c51).symm.trans h
      exact gl_weak (vs := [some (.ref 0), some (.int ve48), none, none, none]) ⟨rfl, rfl, trivial⟩ (rt_29_48 hX hr hrf hg29 hg30 hP ve48 Se48 are48 h)
def rF_30_57 (g29 : (Nat → Int32) → jSc → Option ((Nat → Int32) × jSc)) (g30 : (Nat → Int32) → jSc → Option ((Nat → Int32) × jSc)) (x1 : Int32) (y0 : Int32) (S : (Nat → Int32)) (ar : jSc) : Option ((Nat → Int32) × jSc) :=
  (if y0 = 0 ∨ y0 = 1 then (if (S 7) = 0 then (o_b2 (g29 (upd S 22 y0) ar) (fun Se3 are3 => (if x1 = 0 ∨ x1 = 1 then some ((upd (upd Se3 22 x1) 6 ((Se3 6) - (1 : Int32))), are3) else none))) else (if x1 = 0 ∨ x1 = 1 then some ((upd (upd (upd S 22 y0) 22 x1) 6 ((S 6) - (1 : Int32))), ar) else none)) else none)
set_option maxHeartbeats 4000000 in
theorem rt_30_57 {X : jX} (hX : j_LK (g_n X) (g_L X)) (hr : g_rs X = r_sh) {rf : jRf} (hrf : rf 0 = r_rf) {d : Nat} {g29 : (Nat → Int32) → jSc → Option ((Nat → Int32) × jSc)} (hg29 : rT_29 X rf g29 (d + 84)) {g30 : (Nat → Int32) → jSc → Option ((Nat → Int32) × jSc)} (hg30 : rT_30 X rf g30 (d + 84)) {sc : jSc} {al : jAl} {Post : jPo} {S9 : (Nat → Int32)} {ar9 : jSc} (hP : Post none (va_up sc 0 S9) rf ar9 al) (x1 : Int32) (y0 : Int32) (S : (Nat → Int32)) (ar : jSc) (h : rF_30_57 g29 g30 x1 y0 S ar = some (S9, ar9)) : gL X 30 (d + 85) 57 [some (.ref 0), some (.int x1), none] [.int y0, .ref 0] (va_up sc 0 S) rf ar al Post := by
  unfold rF_30_57 at h
  obtain ⟨c1, h⟩ := o_ck h
  refine gl_put hX q_30_57 (qf_180 (by decide)) (qs_0 hr) rfl qk_22 (Eq.mpr wp_1 c1) ru rfl ?_
  refine gl_aload_n hX q_30_60 rfl rfl ?_
  refine gl_get hX q_30_61 (qf_145 (by decide)) (qs_0 hr) rfl qk_7 rfl rfl ?_
  refine gl_if_ne hX q_30_64 rfl rfl (fun c2 => ?_) (fun c2 => ?_)
  · have h := (if_pos c2).symm.trans h
    refine gl_aload_n hX q_30_67 rfl rfl ?_
    obtain ⟨Se3, are3, e3, h⟩ := o_k2 h
    refine gl_callV hX q_30_68 (qm_272 (by decide)) rfl rfl rfl (qs_0 hr) qx_29 rfl rfl (hg29 _ _ _  _ _ _ _ e3 ?_)
    refine gl_aload_n hX q_30_71 rfl rfl ?_
    refine gl_iload_n hX q_30_72 rfl rfl ?_
    obtain ⟨c4, h⟩ := o_ck h
    refine gl_put hX q_30_73 (qf_180 (by decide)) (qs_0 hr) rfl qk_22 (Eq.mpr wp_1 c4) ru rfl ?_
    refine gl_aload_n hX q_30_76 rfl rfl ?_
    refine gl_dup hX q_30_77 rfl rfl ?_
    refine gl_get hX q_30_78 (qf_177 (by decide)) (qs_0 hr) rfl qk_6 rfl rfl ?_
    refine gl_iconst hX q_30_81 ci_1 rfl ?_
    refine gl_isub hX q_30_82 rfl ?_
    refine gl_put hX q_30_83 (qf_177 (by decide)) (qs_0 hr) rfl qk_6 rfl ru rfl ?_
    exact gl_return q_30_86 qr_30 (by cases h; exact hP)
  · have h := (if_neg c2).symm.trans h
    refine gl_aload_n hX q_30_71 rfl rfl ?_
    refine gl_iload_n hX q_30_72 rfl rfl ?_
    obtain ⟨c5, h⟩ := o_ck h
    refine gl_put hX q_30_73 (qf_180 (by decide)) (qs_0 hr) rfl qk_22 (Eq.mpr wp_1 c5) ru rfl ?_
    refine gl_aload_n hX q_30_76 rfl rfl ?_
    refine gl_dup hX q_30_77 rfl rfl ?_
    refine gl_get hX q_30_78 (qf_177 (by decide)) (qs_0 hr) rfl qk_6 rfl rfl ?_
    refine gl_iconst hX q_30_81 ci_1 rfl ?_
    refine gl_isub hX q_30_82 rfl ?_
    refine gl_put hX q_30_83 (qf_177 (by decide)) (qs_0 hr) rfl qk_6 rfl ru rfl ?_
    exact gl_return q_30_86 qr_30 (by cases h; exact hP)
def rF_30 (g29 : (Nat → Int32) → jSc → Option ((Nat → Int32) × jSc)) (g30 : (Nat → Int32) → jSc → Option ((Nat → Int32) × jSc)) (S : (Nat → Int32)) (ar : jSc) : Option ((Nat → Int32) × jSc) :=
  (if (S 6) = (6 : Int32) then (o_b2 (rF_8 (3 : Int32) (S 5) S ar) (fun Se7 are7 => some (Se7, are7))) else (o_b2 (rF_14 (upd S 6 ((S 6) + (1 : Int32))) ar) (fun Se8 are8 => (o_b3 ((rG_25 40).2.2 Se8 are8) (fun ve9 Se9 are9 => (if (Se8 22) = 0 then rF_30_57 g29 g30 (Se8 22) (0 : Int32) Se9 are9 else (if ve9 = 0 then rF_30_57 g29 g30 (Se8 22) (0 : Int32) Se9 are9 else rF_30_57 g29 g30 (Se8 22) (1 : Int32) Se9 are9)))))))
set_option maxHeartbeats 4000000 in
theorem rt_30 {X : jX} (hX : j_LK (g_n X) (g_L X)) (hr : g_rs X = r_sh) {rf : jRf} (hrf : rf 0 = r_rf) {d : Nat} {g29 : (Nat → Int32) → jSc → Option ((Nat → Int32) × jSc)} (hg29 : rT_29 X rf g29 (d + 84)) {g30 : (Nat → Int32) → jSc → Option ((Nat → Int32) × jSc)} (hg30 : rT_30 X rf g30 (d + 84)) : rT_30 X rf (rF_30 g29 g30) (d + 85) := by
  intro sc al Post  S ar S9 ar9 h hP
  unfold rF_30 at h
  refine gl_entry (m := 2) rfl ?_
  show gL X 30 (d + 85) 0 [some (.ref 0), none, none] [] (va_up sc 0 S) rf ar al Post
  refine gl_aload_n hX q_30_0 rfl rfl ?_
  refine gl_get hX q_30_1 (qf_177 (by decide)) (qs_0 hr) rfl qk_6 rfl rfl ?_
  refine gl_bipush hX q_30_4 cb_6 rfl ?_
  refine gl_ic_ne hX q_30_6 rfl rfl (fun c6 => ?_) (fun c6 => ?_)
  · have h := (if_pos c6).symm.trans h
    refine gl_aload_n hX q_30_9 rfl rfl ?_
    refine gl_iconst hX q_30_10 ci_3 rfl ?_
    refine gl_aload_n hX q_30_11 rfl rfl ?_
    refine gl_get hX q_30_12 (qf_138 (by decide)) (qs_0 hr) rfl qk_5 rfl rfl ?_
    obtain ⟨Se7, are7, e7, h⟩ := o_k2 h
    refine gl_callV hX q_30_15 (qm_166 (by decide)) rfl rfl rfl (qs_0 hr) qx_8 rfl rfl ((rt_8 hX hr hrf) _ _ _ _ _ _ _ _ _ e7 ?_)
    exact gl_return q_30_18 qr_30 (by cases h; exact hP)
  · have h := (if_neg c6).symm.trans h
    refine gl_aload_n hX q_30_19 rfl rfl ?_
    refine gl_dup hX q_30_20 rfl rfl ?_
    refine gl_get hX q_30_21 (qf_177 (by decide)) (qs_0 hr) rfl qk_6 rfl rfl ?_
    refine gl_iconst hX q_30_24 ci_1 rfl ?_
    refine gl_iadd hX q_30_25 rfl ?_
    refine gl_put hX q_30_26 (qf_177 (by decide)) (qs_0 hr) rfl qk_6 rfl ru rfl ?_
    refine gl_aload_n hX q_30_29 rfl rfl ?_
    obtain ⟨Se8, are8, e8, h⟩ := o_k2 h
    refine gl_callV hX q_30_30 (qm_200 (by decide)) rfl rfl rfl (qs_0 hr) qx_14 rfl rfl ((rt_14 hX hr hrf) _ _ _  _ _ _ _ e8 ?_)
    refine gl_aload_n hX q_30_33 rfl rfl ?_
    refine gl_get hX q_30_34 (qf_180 (by decide)) (qs_0 hr) rfl qk_22 rfl rfl ?_
    refine gl_istore_n (vs2 := [some (.ref 0), some (.int (Se8 22)), none]) hX q_30_37 rfl rfl rfl rfl ?_
    refine gl_aload_n hX q_30_38 rfl rfl ?_
    obtain ⟨ve9, Se9, are9, e9, h⟩ := o_k3 h
    refine gl_callV hX q_30_39 (qm_232 (by decide)) rfl rfl rfl (qs_0 hr) qx_27 rfl rfl (((rtG_25 hX hr hrf 40).2.2) _ _ _  _ _ _ _ _ e9 ?_)
    refine gl_istore_n (vs2 := [some (.ref 0), some (.int (Se8 22)), some (.int ve9)]) hX q_30_42 rfl rfl rfl rfl ?_
    refine gl_aload_n hX q_30_43 rfl rfl ?_
    refine gl_iload_n hX q_30_44 rfl rfl ?_
    refine gl_if_eq hX q_30_45 rfl rfl (fun c10 => ?_) (fun c10 => ?_)
    · have h := (if_pos c10).symm.trans h
      refine gl_iconst hX q_30_56 ci_0 rfl ?_
      exact gl_weak (vs := [some (.ref 0), some (.int (Se8 22)), none]) ⟨rfl, rfl, trivial⟩ (rt_30_57 hX hr hrf hg29 hg30 hP (Se8 22) (0 : Int32) Se9 are9 h)
    · have h := (if_neg c10).symm.trans h
      refine gl_iload_n hX q_30_48 rfl rfl ?_
      refine gl_if_eq hX q_30_49 rfl rfl (fun c11 => ?_) (fun c11 => ?_)
      · have h := (if_pos c11).symm.trans h
        refine gl_iconst hX q_30_56 ci_0 rfl ?_
        exact gl_weak (vs := [some (.ref 0), some (.int (Se8 22)), none]) ⟨rfl, rfl, trivial⟩ (rt_30_57 hX hr hrf hg29 hg30 hP (Se8 22) (0 : Int32) Se9 are9 h)
      · have h := (if_neg c11).symm.trans h
        refine gl_iconst hX q_30_52 ci_1 rfl ?_
        refine gl_goto hX q_30_53 rfl ?_
        exact gl_weak (vs := [some (.ref 0), some (.int (Se8 22)), none]) ⟨rfl, rfl, trivial⟩ (rt_30_57 hX hr hrf hg29 hg30 hP (Se8 22) (1 : Int32) Se9 are9 h)
def rG_29 : Nat → ((Nat → Int32) → jSc → Option ((Nat → Int32) × jSc)) × ((Nat → Int32) → jSc → Option ((Nat → Int32) × jSc))
  | 0 => (fun _ _ => none, fun _ _ => none)
  | n + 1 => (rF_29 (rG_29 n).1 (rG_29 n).2, rF_30 (rG_29 n).1 (rG_29 n).2)
theorem rtG_29 {X : jX} (hX : j_LK (g_n X) (g_L X)) (hr : g_rs X = r_sh) {rf : jRf} (hrf : rf 0 = r_rf) {d : Nat} : ∀ n : Nat, rT_29 X rf (rG_29 n).1 (d + n + 84) ∧ rT_30 X rf (rG_29 n).2 (d + n + 84) := by
  intro n
  induction n with
  | zero =>
    refine ⟨?_, ?_⟩
    · intro sc al Post S ar S9 ar9 h hP
      cases (show (none : Option ((Nat → Int32) × jSc)) = some _ from h)
    · intro sc al Post S ar S9 ar9 h hP
      cases (show (none : Option ((Nat → Int32) × jSc)) = some _ from h)
  | succ n ih =>
    have e : d + n + 84 + 1 = d + (n + 1) + 84 := by omega
    rw [← e]
    exact ⟨rt_29 hX hr hrf (d := d + n) ih.1 ih.2, rt_30 hX hr hrf (d := d + n) ih.1 ih.2⟩
