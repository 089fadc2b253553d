/-! THE REFERENCE: its methods as functions, and that the machine does what they say. -/
/-- ClickOrdersModel.digit(I)I -/
def rT_17 (X : jX) (rf : jRf) (F : Int32 → (Nat → Int32) → jSc → Option (Int32 × (Nat → Int32) × jSc)) (e : Nat) : Prop := ∀ (sc : jSc) (al : jAl) (Post : jPo) (x1 : Int32) (S : (Nat → Int32)) (ar : jSc) (r9 : Int32) (S9 : (Nat → Int32)) (ar9 : jSc), F x1 S ar = some (r9, S9, ar9) → Post (some (.int r9)) (va_up sc 0 S9) rf ar9 al → gW X 17 e 0 (j_av [.ref 0, .int x1]) [] (va_up sc 0 S) rf ar al Post
def rF_17 (x1 : Int32) (S : (Nat → Int32)) (ar : jSc) : Option (Int32 × (Nat → Int32) × jSc) :=
  (o_b2 (rF_7 S ar) (fun Se1 are1 => (o_b3 (rF_16 (100000 : Int32) Se1 are1) (fun ve2 Se2 are2 => (if ((Se1 5) + (1 : Int32)) < (Se2 5) then (o_b2 (rF_8 (2 : Int32) (Se1 5) Se2 are2) (fun Se4 are4 => (if (Se4 7) = 0 then some (ve2, Se4, are4) else some ((0 : Int32), Se4, are4)))) else (if ve2 ≤ x1 then (if (Se2 7) = 0 then some (ve2, Se2, are2) else some ((0 : Int32), Se2, are2)) else (o_b2 (rF_8 (2 : Int32) (Se1 5) Se2 are2) (fun Se8 are8 => (if (Se8 7) = 0 then some (ve2, Se8, are8) else some ((0 : Int32), Se8, are8))))))))))
set_option maxHeartbeats 4000000 in
theorem rt_17 {X : jX} (hX : j_LK (g_n X) (g_L X)) (hr : g_rs X = r_sh) {rf : jRf} (hrf : rf 0 = r_rf) {d : Nat} : rT_17 X rf rF_17 (d + 4) := by
  intro sc al Post x1 S ar r9 S9 ar9 h hP
  unfold rF_17 at h
  refine gl_entry (m := 2) rfl ?_
  show gL X 17 (d + 4) 0 [some (.ref 0), some (.int x1), none, none] [] (va_up sc 0 S) rf ar al Post
  refine gl_aload_n hX q_17_0 rfl rfl ?_
  obtain ⟨Se1, are1, e1, h⟩ := o_k2 h
  refine gl_callV hX q_17_1 (qm_151 (by decide)) rfl rfl rfl (qs_0 hr) qx_7 rfl rfl ((rt_7 hX hr hrf) _ _ _  _ _ _ _ e1 ?_)
  refine gl_aload_n hX q_17_4 rfl rfl ?_
  refine gl_get hX q_17_5 (qf_138 (by decide)) (qs_0 hr) rfl qk_5 rfl rfl ?_
  refine gl_istore_n (vs2 := [some (.ref 0), some (.int x1), some (.int (Se1 5)), none]) hX q_17_8 rfl rfl rfl rfl ?_
  refine gl_aload_n hX q_17_9 rfl rfl ?_
  refine gl_ldc hX q_17_10 (qc_173 (by decide)) rfl ?_
  obtain ⟨ve2, Se2, are2, e2, h⟩ := o_k3 h
  refine gl_callV hX q_17_12 (qm_174 (by decide)) rfl rfl rfl (qs_0 hr) qx_16 rfl rfl ((rt_16 hX hr hrf) _ _ _ _ _ _ _ _ _ e2 ?_)
  refine gl_istore_n (vs2 := [some (.ref 0), some (.int x1), some (.int (Se1 5)), some (.int ve2)]) hX q_17_15 rfl rfl rfl rfl ?_
  refine gl_aload_n hX q_17_16 rfl rfl ?_
  refine gl_get hX q_17_17 (qf_138 (by decide)) (qs_0 hr) rfl qk_5 rfl rfl ?_
  refine gl_iload_n hX q_17_20 rfl rfl ?_
  refine gl_iconst hX q_17_21 ci_1 rfl ?_
  refine gl_iadd hX q_17_22 rfl ?_
  refine gl_ic_gt hX q_17_23 rfl rfl (fun c3 => ?_) (fun c3 => ?_)
  · have h := (if_pos c3).symm.trans h
    refine gl_aload_n hX q_17_31 rfl rfl ?_
    refine gl_iconst hX q_17_32 ci_2 rfl ?_
    refine gl_iload_n hX q_17_33 rfl rfl ?_
    obtain ⟨Se4, are4, e4, h⟩ := o_k2 h
    refine gl_callV hX q_17_34 (qm_166 (by decide)) rfl rfl rfl (qs_0 hr) qx_8 rfl rfl ((rt_8 hX hr hrf) _ _ _ _ _ _ _ _ _ e4 ?_)
    refine gl_aload_n hX q_17_37 rfl rfl ?_
    refine gl_get hX q_17_38 (qf_145 (by decide)) (qs_0 hr) rfl qk_7 rfl rfl ?_
    refine gl_if_ne hX q_17_41 rfl rfl (fun c5 => ?_) (fun c5 => ?_)
    · have h := (if_pos c5).symm.trans h
      refine gl_iload_n hX q_17_44 rfl rfl ?_
      refine gl_goto hX q_17_45 rfl ?_
      exact gl_ireturn q_17_49 (Or.inl qr_17) (by cases h; exact hP)
    · have h := (if_neg c5).symm.trans h
      refine gl_iconst hX q_17_48 ci_0 rfl ?_
      exact gl_ireturn q_17_49 (Or.inl qr_17) (by cases h; exact hP)
  · have h := (if_neg c3).symm.trans h
    refine gl_iload_n hX q_17_26 rfl rfl ?_
    refine gl_iload_n hX q_17_27 rfl rfl ?_
    refine gl_ic_le hX q_17_28 rfl rfl (fun c6 => ?_) (fun c6 => ?_)
    · have h := (if_pos c6).symm.trans h
      refine gl_aload_n hX q_17_37 rfl rfl ?_
      refine gl_get hX q_17_38 (qf_145 (by decide)) (qs_0 hr) rfl qk_7 rfl rfl ?_
      refine gl_if_ne hX q_17_41 rfl rfl (fun c7 => ?_) (fun c7 => ?_)
      · have h := (if_pos c7).symm.trans h
        refine gl_iload_n hX q_17_44 rfl rfl ?_
        refine gl_goto hX q_17_45 rfl ?_
        exact gl_ireturn q_17_49 (Or.inl qr_17) (by cases h; exact hP)
      · have h := (if_neg c7).symm.trans h
        refine gl_iconst hX q_17_48 ci_0 rfl ?_
        exact gl_ireturn q_17_49 (Or.inl qr_17) (by cases h; exact hP)
    · have h := (if_neg c6).symm.trans h
      refine gl_aload_n hX q_17_31 rfl rfl ?_
      refine gl_iconst hX q_17_32 ci_2 rfl ?_
      refine gl_iload_n hX q_17_33 rfl rfl ?_
      obtain ⟨Se8, are8, e8, h⟩ := o_k2 h
      refine gl_callV hX q_17_34 (qm_166 (by decide)) rfl rfl rfl (qs_0 hr) qx_8 rfl rfl ((rt_8 hX hr hrf) _ _ _ _ _ _ _ _ _ e8 ?_)
      refine gl_aload_n hX q_17_37 rfl rfl ?_
      refine gl_get hX q_17_38 (qf_145 (by decide)) (qs_0 hr) rfl qk_7 rfl rfl ?_
      refine gl_if_ne hX q_17_41 rfl rfl (fun c9 => ?_) (fun c9 => ?_)
      · have h := (if_pos c9).symm.trans h
        refine gl_iload_n hX q_17_44 rfl rfl ?_
        refine gl_goto hX q_17_45 rfl ?_
        exact gl_ireturn q_17_49 (Or.inl qr_17) (by cases h; exact hP)
      · have h := (if_neg c9).symm.trans h
        refine gl_iconst hX q_17_48 ci_0 rfl ?_
        exact gl_ireturn q_17_49 (Or.inl qr_17) (by cases h; exact hP)
/-- ClickOrdersModel.opens(I)V -/
def rT_18 (X : jX) (rf : jRf) (F : Int32 → (Nat → Int32) → jSc → Option ((Nat → Int32) × jSc)) (e : Nat) : Prop := ∀ (sc : jSc) (al : jAl) (Post : jPo) (x1 : Int32) (S : (Nat → Int32)) (ar : jSc) (S9 : (Nat → Int32)) (ar9 : jSc), F x1 S ar = some (S9, ar9) → Post none (va_up sc 0 S9) rf ar9 al → gW X 18 e 0 (j_av [.ref 0, .int x1]) [] (va_up sc 0 S) rf ar al Post
def rF_18 (x1 : Int32) (S : (Nat → Int32)) (ar : jSc) : Option ((Nat → Int32) × jSc) :=
  (if (S 6) = (6 : Int32) then (o_b2 (rF_8 (3 : Int32) (S 5) S ar) (fun Se2 are2 => some ((upd (upd Se2 6 ((Se2 6) + (1 : Int32))) 5 ((Se2 5) + x1)), are2))) else some ((upd (upd S 6 ((S 6) + (1 : Int32))) 5 ((S 5) + x1)), ar))
set_option maxHeartbeats 4000000 in
theorem rt_18 {X : jX} (hX : j_LK (g_n X) (g_L X)) (hr : g_rs X = r_sh) {rf : jRf} (hrf : rf 0 = r_rf) {d : Nat} : rT_18 X rf rF_18 (d + 2) := by
  intro sc al Post x1 S ar S9 ar9 h hP
  unfold rF_18 at h
  refine gl_entry (m := 0) rfl ?_
  show gL X 18 (d + 2) 0 [some (.ref 0), some (.int x1)] [] (va_up sc 0 S) rf ar al Post
  refine gl_aload_n hX q_18_0 rfl rfl ?_
  refine gl_get hX q_18_1 (qf_177 (by decide)) (qs_0 hr) rfl qk_6 rfl rfl ?_
  refine gl_bipush hX q_18_4 cb_6 rfl ?_
  refine gl_ic_ne hX q_18_6 rfl rfl (fun c1 => ?_) (fun c1 => ?_)
  · have h := (if_pos c1).symm.trans h
    refine gl_aload_n hX q_18_9 rfl rfl ?_
    refine gl_iconst hX q_18_10 ci_3 rfl ?_
    refine gl_aload_n hX q_18_11 rfl rfl ?_
    refine gl_get hX q_18_12 (qf_138 (by decide)) (qs_0 hr) rfl qk_5 rfl rfl ?_
    obtain ⟨Se2, are2, e2, h⟩ := o_k2 h
    refine gl_callV hX q_18_15 (qm_166 (by decide)) rfl rfl rfl (qs_0 hr) qx_8 rfl rfl ((rt_8 hX hr hrf) _ _ _ _ _ _ _ _ _ e2 ?_)
    refine gl_aload_n hX q_18_18 rfl rfl ?_
    refine gl_dup hX q_18_19 rfl rfl ?_
    refine gl_get hX q_18_20 (qf_177 (by decide)) (qs_0 hr) rfl qk_6 rfl rfl ?_
    refine gl_iconst hX q_18_23 ci_1 rfl ?_
    refine gl_iadd hX q_18_24 rfl ?_
    refine gl_put hX q_18_25 (qf_177 (by decide)) (qs_0 hr) rfl qk_6 rfl ru rfl ?_
    refine gl_aload_n hX q_18_28 rfl rfl ?_
    refine gl_dup hX q_18_29 rfl rfl ?_
    refine gl_get hX q_18_30 (qf_138 (by decide)) (qs_0 hr) rfl qk_5 rfl rfl ?_
    refine gl_iload_n hX q_18_33 rfl rfl ?_
    refine gl_iadd hX q_18_34 rfl ?_
    refine gl_put hX q_18_35 (qf_138 (by decide)) (qs_0 hr) rfl qk_5 rfl ru rfl ?_
    exact gl_return q_18_38 qr_18 (by cases h; exact hP)
  · have h := (if_neg c1).symm.trans h
    refine gl_aload_n hX q_18_18 rfl rfl ?_
    refine gl_dup hX q_18_19 rfl rfl ?_
    refine gl_get hX q_18_20 (qf_177 (by decide)) (qs_0 hr) rfl qk_6 rfl rfl ?_
    refine gl_iconst hX q_18_23 ci_1 rfl ?_
    refine gl_iadd hX q_18_24 rfl ?_
    refine gl_put hX q_18_25 (qf_177 (by decide)) (qs_0 hr) rfl qk_6 rfl ru rfl ?_
    refine gl_aload_n hX q_18_28 rfl rfl ?_
    refine gl_dup hX q_18_29 rfl rfl ?_
    refine gl_get hX q_18_30 (qf_138 (by decide)) (qs_0 hr) rfl qk_5 rfl rfl ?_
    refine gl_iload_n hX q_18_33 rfl rfl ?_
    refine gl_iadd hX q_18_34 rfl ?_
    refine gl_put hX q_18_35 (qf_138 (by decide)) (qs_0 hr) rfl qk_5 rfl ru rfl ?_
    exact gl_return q_18_38 qr_18 (by cases h; exact hP)
/-- ClickOrdersModel.letterHere()I -/
def rT_19 (X : jX) (rf : jRf) (F : (Nat → Int32) → jSc → Option (Int32 × (Nat → Int32) × jSc)) (e : Nat) : Prop := ∀ (sc : jSc) (al : jAl) (Post : jPo) (S : (Nat → Int32)) (ar : jSc) (r9 : Int32) (S9 : (Nat → Int32)) (ar9 : jSc), F S ar = some (r9, S9, ar9) → Post (some (.int r9)) (va_up sc 0 S9) rf ar9 al → gW X 19 e 0 (j_av [.ref 0]) [] (va_up sc 0 S) rf ar al Post
def rF_19 (S : (Nat → Int32)) (ar : jSc) : Option (Int32 × (Nat → Int32) × jSc) :=
  (o_b2 (rF_7 S ar) (fun Se1 are1 => (o_b3 (rF_6 (Se1 5) Se1 are1) (fun ve2 Se2 are2 => (if ve2 < (97 : Int32) then some ((-1 : Int32), Se2, are2) else (if (104 : Int32) < ve2 then some ((-1 : Int32), Se2, are2) else (o_b3 (rF_6 ((Se2 5) + (1 : Int32)) Se2 are2) (fun ve5 Se5 are5 => (o_b3 (rF_10 ve5 Se5 are5) (fun ve6 Se6 are6 => (if ve6 = 0 then some ((ve2 - (97 : Int32)), Se6, are6) else some ((-1 : Int32), Se6, are6))))))))))))
set_option maxHeartbeats 4000000 in
theorem rt_19 {X : jX} (hX : j_LK (g_n X) (g_L X)) (hr : g_rs X = r_sh) {rf : jRf} (hrf : rf 0 = r_rf) {d : Nat} : rT_19 X rf rF_19 (d + 3) := by
  intro sc al Post  S ar r9 S9 ar9 h hP
  unfold rF_19 at h
  refine gl_entry (m := 1) rfl ?_
  show gL X 19 (d + 3) 0 [some (.ref 0), none] [] (va_up sc 0 S) rf ar al Post
  refine gl_aload_n hX q_19_0 rfl rfl ?_
  obtain ⟨Se1, are1, e1, h⟩ := o_k2 h
  refine gl_callV hX q_19_1 (qm_151 (by decide)) rfl rfl rfl (qs_0 hr) qx_7 rfl rfl ((rt_7 hX hr hrf) _ _ _  _ _ _ _ e1 ?_)
  refine gl_aload_n hX q_19_4 rfl rfl ?_
  refine gl_aload_n hX q_19_5 rfl rfl ?_
  refine gl_get hX q_19_6 (qf_138 (by decide)) (qs_0 hr) rfl qk_5 rfl rfl ?_
  obtain ⟨ve2, Se2, are2, e2, h⟩ := o_k3 h
  refine gl_callV hX q_19_9 (qm_141 (by decide)) rfl rfl rfl (qs_0 hr) qx_6 rfl rfl ((rt_6 hX hr hrf) _ _ _ _ _ _ _ _ _ e2 ?_)
  refine gl_istore_n (vs2 := [some (.ref 0), some (.int ve2)]) hX q_19_12 rfl rfl rfl rfl ?_
  refine gl_iload_n hX q_19_13 rfl rfl ?_
  refine gl_bipush hX q_19_14 cb_97 rfl ?_
  refine gl_ic_lt hX q_19_16 rfl rfl (fun c3 => ?_) (fun c3 => ?_)
  · have h := (if_pos c3).symm.trans h
    refine gl_iconst hX q_19_48 ci_m1 rfl ?_
    exact gl_ireturn q_19_49 (Or.inl qr_19) (by cases h; exact hP)
  · have h := (if_neg c3).symm.trans h
    refine gl_iload_n hX q_19_19 rfl rfl ?_
    refine gl_bipush hX q_19_20 cb_104 rfl ?_
    refine gl_ic_gt hX q_19_22 rfl rfl (fun c4 => ?_) (fun c4 => ?_)
    · have h := (if_pos c4).symm.trans h
      refine gl_iconst hX q_19_48 ci_m1 rfl ?_
      exact gl_ireturn q_19_49 (Or.inl qr_19) (by cases h; exact hP)
    · have h := (if_neg c4).symm.trans h
      refine gl_aload_n hX q_19_25 rfl rfl ?_
      refine gl_aload_n hX q_19_26 rfl rfl ?_
      refine gl_get hX q_19_27 (qf_138 (by decide)) (qs_0 hr) rfl qk_5 rfl rfl ?_
      refine gl_iconst hX q_19_30 ci_1 rfl ?_
      refine gl_iadd hX q_19_31 rfl ?_
      obtain ⟨ve5, Se5, are5, e5, h⟩ := o_k3 h
      refine gl_callV hX q_19_32 (qm_141 (by decide)) rfl rfl rfl (qs_0 hr) qx_6 rfl rfl ((rt_6 hX hr hrf) _ _ _ _ _ _ _ _ _ e5 ?_)
      obtain ⟨ve6, Se6, are6, e6, h⟩ := o_k3 h
      refine gl_callS q_19_35 (qm_154 (by decide)) rfl rfl rfl qx_10 rfl rfl ((rt_10 hX hr hrf) _ _ _ _ _ _ _ _ _ e6 ?_)
      refine gl_if_ne hX q_19_38 rfl rfl (fun c7 => ?_) (fun c7 => ?_)
      · have h := (if_pos c7).symm.trans h
        refine gl_iload_n hX q_19_41 rfl rfl ?_
        refine gl_bipush hX q_19_42 cb_97 rfl ?_
        refine gl_isub hX q_19_44 rfl ?_
        refine gl_goto hX q_19_45 rfl ?_
        exact gl_ireturn q_19_49 (Or.inl qr_19) (by cases h; exact hP)
      · have h := (if_neg c7).symm.trans h
        refine gl_iconst hX q_19_48 ci_m1 rfl ?_
        exact gl_ireturn q_19_49 (Or.inl qr_19) (by cases h; exact hP)
/-- ClickOrdersModel.nameOf(I)I -/
def rT_20 (X : jX) (rf : jRf) (F : Int32 → (Nat → Int32) → jSc → Option (Int32 × (Nat → Int32) × jSc)) (e : Nat) : Prop := ∀ (sc : jSc) (al : jAl) (Post : jPo) (x1 : Int32) (S : (Nat → Int32)) (ar : jSc) (r9 : Int32) (S9 : (Nat → Int32)) (ar9 : jSc), F x1 S ar = some (r9, S9, ar9) → Post (some (.int r9)) (va_up sc 0 S9) rf ar9 al → gW X 20 e 0 (j_av [.ref 0, .int x1]) [] (va_up sc 0 S) rf ar al Post
def rF_20 (x1 : Int32) (S : (Nat → Int32)) (ar : jSc) : Option (Int32 × (Nat → Int32) × jSc) :=
  (if (S 22) = 0 then (if iB x1 53 then some ((ar 13 (iN x1)), S, ar) else none) else (if (S 23) = 0 then (if iB x1 53 then some ((ar 13 (iN x1)), S, ar) else none) else (if iB x1 53 then some ((ar 13 (iN x1)), (upd S 27 ((S 27) ||| ((1 : Int32) <<< (x1 &&& 31)))), ar) else none)))
set_option maxHeartbeats 4000000 in
theorem rt_20 {X : jX} (hX : j_LK (g_n X) (g_L X)) (hr : g_rs X = r_sh) {rf : jRf} (hrf : rf 0 = r_rf) {d : Nat} : rT_20 X rf rF_20 (d + 1) := by
  intro sc al Post x1 S ar r9 S9 ar9 h hP
  unfold rF_20 at h
  refine gl_entry (m := 0) rfl ?_
  show gL X 20 (d + 1) 0 [some (.ref 0), some (.int x1)] [] (va_up sc 0 S) rf ar al Post
  refine gl_aload_n hX q_20_0 rfl rfl ?_
  refine gl_get hX q_20_1 (qf_180 (by decide)) (qs_0 hr) rfl qk_22 rfl rfl ?_
  refine gl_if_eq hX q_20_4 rfl rfl (fun c1 => ?_) (fun c1 => ?_)
  · have h := (if_pos c1).symm.trans h
    refine gl_aload_n hX q_20_26 rfl rfl ?_
    refine gl_getA hX q_20_27 (qf_42 (by decide)) (qs_0 hr) rfl qk_21 ((congrFun hrf 21).trans qa_21) rfl ?_
    refine gl_iload_n hX q_20_30 rfl rfl ?_
    obtain ⟨c2, h⟩ := o_ck h
    refine gl_iaload hX q_20_31 (qs_13 hr) c2 rfl rfl ?_
    exact gl_ireturn q_20_32 (Or.inl qr_20) (by cases h; exact hP)
  · have h := (if_neg c1).symm.trans h
    refine gl_aload_n hX q_20_7 rfl rfl ?_
    refine gl_get hX q_20_8 (qf_184 (by decide)) (qs_0 hr) rfl qk_23 rfl rfl ?_
    refine gl_if_eq hX q_20_11 rfl rfl (fun c3 => ?_) (fun c3 => ?_)
    · have h := (if_pos c3).symm.trans h
      refine gl_aload_n hX q_20_26 rfl rfl ?_
      refine gl_getA hX q_20_27 (qf_42 (by decide)) (qs_0 hr) rfl qk_21 ((congrFun hrf 21).trans qa_21) rfl ?_
      refine gl_iload_n hX q_20_30 rfl rfl ?_
      obtain ⟨c4, h⟩ := o_ck h
      refine gl_iaload hX q_20_31 (qs_13 hr) c4 rfl rfl ?_
      exact gl_ireturn q_20_32 (Or.inl qr_20) (by cases h; exact hP)
    · have h := (if_neg c3).symm.trans h
      refine gl_aload_n hX q_20_14 rfl rfl ?_
      refine gl_dup hX q_20_15 rfl rfl ?_
      refine gl_get hX q_20_16 (qf_187 (by decide)) (qs_0 hr) rfl qk_27 rfl rfl ?_
      refine gl_iconst hX q_20_19 ci_1 rfl ?_
      refine gl_iload_n hX q_20_20 rfl rfl ?_
      refine gl_ishl hX q_20_21 rfl ?_
      refine gl_ior hX q_20_22 rfl ?_
      refine gl_put hX q_20_23 (qf_187 (by decide)) (qs_0 hr) rfl qk_27 rfl ru rfl ?_
      refine gl_aload_n hX q_20_26 rfl rfl ?_
      refine gl_getA hX q_20_27 (qf_42 (by decide)) (qs_0 hr) rfl qk_21 ((congrFun hrf 21).trans qa_21) rfl ?_
      refine gl_iload_n hX q_20_30 rfl rfl ?_
      obtain ⟨c5, h⟩ := o_ck h
      refine gl_iaload hX q_20_31 (qs_13 hr) c5 rfl rfl ?_
      exact gl_ireturn q_20_32 (Or.inl qr_20) (by cases h; exact hP)
/-- ClickOrdersModel.farOf(I)I -/
def rT_21 (X : jX) (rf : jRf) (F : Int32 → (Nat → Int32) → jSc → Option (Int32 × (Nat → Int32) × jSc)) (e : Nat) : Prop := ∀ (sc : jSc) (al : jAl) (Post : jPo) (x1 : Int32) (S : (Nat → Int32)) (ar : jSc) (r9 : Int32) (S9 : (Nat → Int32)) (ar9 : jSc), F x1 S ar = some (r9, S9, ar9) → Post (some (.int r9)) (va_up sc 0 S9) rf ar9 al → gW X 21 e 0 (j_av [.ref 0, .int x1]) [] (va_up sc 0 S) rf ar al Post
def rF_21_29 (x1 : Int32) (S : (Nat → Int32)) (ar : jSc) : Option (Int32 × (Nat → Int32) × jSc) :=
  (if (S 22) = 0 then (if iB ((33 : Int32) + x1) 53 then some ((ar 13 (iN ((33 : Int32) + x1))), S, ar) else none) else (if (S 23) = 0 then (if iB ((33 : Int32) + x1) 53 then some ((ar 13 (iN ((33 : Int32) + x1))), S, ar) else none) else (if (S 29) = (-1 : Int32) then (if iB ((33 : Int32) + x1) 53 then some ((ar 13 (iN ((33 : Int32) + x1))), S, ar) else none) else (if iB (S 29) 2 then (if iB x1 4 then (if iB ((33 : Int32) + x1) 53 then some (((j_u2 ar (718 + iN (S 29)) (iN x1) (1 : Int32)) 13 (iN ((33 : Int32) + x1))), S, (j_u2 ar (718 + iN (S 29)) (iN x1) (1 : Int32))) else none) else none) else none))))
set_option maxHeartbeats 4000000 in
theorem rt_21_29 {X : jX} (hX : j_LK (g_n X) (g_L X)) (hr : g_rs X = r_sh) {rf : jRf} (hrf : rf 0 = r_rf) {d : Nat} {sc : jSc} {al : jAl} {Post : jPo} {r9 : Int32} {S9 : (Nat → Int32)} {ar9 : jSc} (hP : Post (some (.int r9)) (va_up sc 0 S9) rf ar9 al) (x1 : Int32) (S : (Nat → Int32)) (ar : jSc) (h : rF_21_29 x1 S ar = some (r9, S9, ar9)) : gL X 21 (d + 1) 29 [some (.ref 0), some (.int x1)] [] (va_up sc 0 S) rf ar al Post := by
  unfold rF_21_29 at h
  refine gl_aload_n hX q_21_29 rfl rfl ?_
  refine gl_get hX q_21_30 (qf_180 (by decide)) (qs_0 hr) rfl qk_22 rfl rfl ?_
  refine gl_if_eq hX q_21_33 rfl rfl (fun c1 => ?_) (fun c1 => ?_)
  · have h := (if_pos c1).symm.trans h
    refine gl_aload_n hX q_21_63 rfl rfl ?_
    refine gl_getA hX q_21_64 (qf_42 (by decide)) (qs_0 hr) rfl qk_21 ((congrFun hrf 21).trans qa_21) rfl ?_
    refine gl_bipush hX q_21_67 cb_33 rfl ?_
    refine gl_iload_n hX q_21_69 rfl rfl ?_
    refine gl_iadd hX q_21_70 rfl ?_
    obtain ⟨c2, h⟩ := o_ck h
    refine gl_iaload hX q_21_71 (qs_13 hr) c2 rfl rfl ?_
    exact gl_ireturn q_21_72 (Or.inl qr_21) (by cases h; exact hP)
  · have h := (if_neg c1).symm.trans h
    refine gl_aload_n hX q_21_36 rfl rfl ?_
    refine gl_get hX q_21_37 (qf_184 (by decide)) (qs_0 hr) rfl qk_23 rfl rfl ?_
    refine gl_if_eq hX q_21_40 rfl rfl (fun c3 => ?_) (fun c3 => ?_)
    · have h := (if_pos c3).symm.trans h
      refine gl_aload_n hX q_21_63 rfl rfl ?_
      refine gl_getA hX q_21_64 (qf_42 (by decide)) (qs_0 hr) rfl qk_21 ((congrFun hrf 21).trans qa_21) rfl ?_
      refine gl_bipush hX q_21_67 cb_33 rfl ?_
      refine gl_iload_n hX q_21_69 rfl rfl ?_
      refine gl_iadd hX q_21_70 rfl ?_
      obtain ⟨c4, h⟩ := o_ck h
      refine gl_iaload hX q_21_71 (qs_13 hr) c4 rfl rfl ?_
      exact gl_ireturn q_21_72 (Or.inl qr_21) (by cases h; exact hP)
    · have h := (if_neg c3).symm.trans h
      refine gl_aload_n hX q_21_43 rfl rfl ?_
      refine gl_get hX q_21_44 (qf_45 (by decide)) (qs_0 hr) rfl qk_29 rfl rfl ?_
      refine gl_iconst hX q_21_47 ci_m1 rfl ?_
      refine gl_ic_eq hX q_21_48 rfl rfl (fun c5 => ?_) (fun c5 => ?_)
      · have h := (if_pos c5).symm.trans h
        refine gl_aload_n hX q_21_63 rfl rfl ?_
        refine gl_getA hX q_21_64 (qf_42 (by decide)) (qs_0 hr) rfl qk_21 ((congrFun hrf 21).trans qa_21) rfl ?_
        refine gl_bipush hX q_21_67 cb_33 rfl ?_
        refine gl_iload_n hX q_21_69 rfl rfl ?_
        refine gl_iadd hX q_21_70 rfl ?_
        obtain ⟨c6, h⟩ := o_ck h
        refine gl_iaload hX q_21_71 (qs_13 hr) c6 rfl rfl ?_
        exact gl_ireturn q_21_72 (Or.inl qr_21) (by cases h; exact hP)
      · have h := (if_neg c5).symm.trans h
        refine gl_aload_n hX q_21_51 rfl rfl ?_
        refine gl_getA hX q_21_52 (qf_111 (by decide)) (qs_0 hr) rfl qk_56 ((congrFun hrf 56).trans qa_56) rfl ?_
        refine gl_aload_n hX q_21_55 rfl rfl ?_
        refine gl_get hX q_21_56 (qf_45 (by decide)) (qs_0 hr) rfl qk_29 rfl rfl ?_
        obtain ⟨c7, h⟩ := o_ck h
        refine gl_aaload hX q_21_59 (qs_717 hr) c7 (Or.inr ⟨Or.inr rfl, qs_0 hr⟩) (qo_717 (iB_lt c7)) rfl ?_
        refine gl_iload_n hX q_21_60 rfl rfl ?_
        refine gl_iconst hX q_21_61 ci_1 rfl ?_
        obtain ⟨c8, h⟩ := o_ck h
        refine gl_bastore (ar2 := (j_u2 ar (718 + iN (S 29)) (iN x1) (1 : Int32))) hX q_21_62 (qs_isAsked hr (iB_lt c7)) c8 (Or.inr rfl) rfl rfl ?_
        refine gl_aload_n hX q_21_63 rfl rfl ?_
        refine gl_getA hX q_21_64 (qf_42 (by decide)) (qs_0 hr) rfl qk_21 ((congrFun hrf 21).trans qa_21) rfl ?_
        refine gl_bipush hX q_21_67 cb_33 rfl ?_
        refine gl_iload_n hX q_21_69 rfl rfl ?_
        refine gl_iadd hX q_21_70 rfl ?_
        obtain ⟨c9, h⟩ := o_ck h
        refine gl_iaload hX q_21_71 (qs_13 hr) c9 rfl rfl ?_
        exact gl_ireturn q_21_72 (Or.inl qr_21) (by cases h; exact hP)
def rF_21 (x1 : Int32) (S : (Nat → Int32)) (ar : jSc) : Option (Int32 × (Nat → Int32) × jSc) :=
  (if (S 22) = 0 then rF_21_29 x1 S ar else (if (S 23) = 0 then rF_21_29 x1 S ar else rF_21_29 x1 (upd S 27 ((S 27) ||| ((1 : Int32) <<< (((16 : Int32) + x1) &&& 31)))) ar))
set_option maxHeartbeats 4000000 in
theorem rt_21 {X : jX} (hX : j_LK (g_n X) (g_L X)) (hr : g_rs X = r_sh) {rf : jRf} (hrf : rf 0 = r_rf) {d : Nat} : rT_21 X rf rF_21 (d + 1) := by
  intro sc al Post x1 S ar r9 S9 ar9 h hP
  unfold rF_21 at h
  refine gl_entry (m := 0) rfl ?_
  show gL X 21 (d + 1) 0 [some (.ref 0), some (.int x1)] [] (va_up sc 0 S) rf ar al Post
  refine gl_aload_n hX q_21_0 rfl rfl ?_
  refine gl_get hX q_21_1 (qf_180 (by decide)) (qs_0 hr) rfl qk_22 rfl rfl ?_
  refine gl_if_eq hX q_21_4 rfl rfl (fun c10 => ?_) (fun c10 => ?_)
  · have h := (if_pos c10).symm.trans h
    exact gl_weak (vs := [some (.ref 0), some (.int x1)]) ⟨rfl, rfl, trivial⟩ (rt_21_29 hX hr hrf hP x1 S ar h)
  · have h := (if_neg c10).symm.trans h
    refine gl_aload_n hX q_21_7 rfl rfl ?_
    refine gl_get hX q_21_8 (qf_184 (by decide)) (qs_0 hr) rfl qk_23 rfl rfl ?_
    refine gl_if_eq hX q_21_11 rfl rfl (fun c11 => ?_) (fun c11 => ?_)
    · have h := (if_pos c11).symm.trans h
      exact gl_weak (vs := [some (.ref 0), some (.int x1)]) ⟨rfl, rfl, trivial⟩ (rt_21_29 hX hr hrf hP x1 S ar h)
    · have h := (if_neg c11).symm.trans h
      refine gl_aload_n hX q_21_14 rfl rfl ?_
      refine gl_dup hX q_21_15 rfl rfl ?_
      refine gl_get hX q_21_16 (qf_187 (by decide)) (qs_0 hr) rfl qk_27 rfl rfl ?_
      refine gl_iconst hX q_21_19 ci_1 rfl ?_
      refine gl_bipush hX q_21_20 cb_16 rfl ?_
      refine gl_iload_n hX q_21_22 rfl rfl ?_
      refine gl_iadd hX q_21_23 rfl ?_
      refine gl_ishl hX q_21_24 rfl ?_
      refine gl_ior hX q_21_25 rfl ?_
      refine gl_put hX q_21_26 (qf_187 (by decide)) (qs_0 hr) rfl qk_27 rfl ru rfl ?_
      exact gl_weak (vs := [some (.ref 0), some (.int x1)]) ⟨rfl, rfl, trivial⟩ (rt_21_29 hX hr hrf hP x1 (upd S 27 ((S 27) ||| ((1 : Int32) <<< (((16 : Int32) + x1) &&& 31)))) ar h)
/-- ClickOrdersModel.unit()I -/
def rT_22 (X : jX) (rf : jRf) (F : (Nat → Int32) → jSc → Option (Int32 × (Nat → Int32) × jSc)) (e : Nat) : Prop := ∀ (sc : jSc) (al : jAl) (Post : jPo) (S : (Nat → Int32)) (ar : jSc) (r9 : Int32) (S9 : (Nat → Int32)) (ar9 : jSc), F S ar = some (r9, S9, ar9) → Post (some (.int r9)) (va_up sc 0 S9) rf ar9 al → gW X 22 e 0 (j_av [.ref 0]) [] (va_up sc 0 S) rf ar al Post
/-- ClickOrdersModel.product()I -/
def rT_23 (X : jX) (rf : jRf) (F : (Nat → Int32) → jSc → Option (Int32 × (Nat → Int32) × jSc)) (e : Nat) : Prop := ∀ (sc : jSc) (al : jAl) (Post : jPo) (S : (Nat → Int32)) (ar : jSc) (r9 : Int32) (S9 : (Nat → Int32)) (ar9 : jSc), F S ar = some (r9, S9, ar9) → Post (some (.int r9)) (va_up sc 0 S9) rf ar9 al → gW X 23 e 0 (j_av [.ref 0]) [] (va_up sc 0 S) rf ar al Post
/-- ClickOrdersModel.sum()I -/
def rT_24 (X : jX) (rf : jRf) (F : (Nat → Int32) → jSc → Option (Int32 × (Nat → Int32) × jSc)) (e : Nat) : Prop := ∀ (sc : jSc) (al : jAl) (Post : jPo) (S : (Nat → Int32)) (ar : jSc) (r9 : Int32) (S9 : (Nat → Int32)) (ar9 : jSc), F S ar = some (r9, S9, ar9) → Post (some (.int r9)) (va_up sc 0 S9) rf ar9 al → gW X 24 e 0 (j_av [.ref 0]) [] (va_up sc 0 S) rf ar al Post
def rF_22_241 (g22 : (Nat → Int32) → jSc → Option (Int32 × (Nat → Int32) × jSc)) (g23 : (Nat → Int32) → jSc → Option (Int32 × (Nat → Int32) × jSc)) (g24 : (Nat → Int32) → jSc → Option (Int32 × (Nat → Int32) × jSc)) (x4 : Int32) (x5 : Int32) (y0 : Int32) (y1 : Int32) (S : (Nat → Int32)) (ar : jSc) : Option (Int32 × (Nat → Int32) × jSc) :=
  (if y1 = y0 then (o_b2 (rF_15 (41 : Int32) S ar) (fun Se2 are2 => some (x5, (upd Se2 6 ((Se2 6) - (1 : Int32))), are2))) else (o_b2 (rF_15 (41 : Int32) S ar) (fun Se3 are3 => some (x4, (upd Se3 6 ((Se3 6) - (1 : Int32))), are3))))
set_option maxHeartbeats 4000000 in
theorem rt_22_241 {X : jX} (hX : j_LK (g_n X) (g_L X)) (hr : g_rs X = r_sh) {rf : jRf} (hrf : rf 0 = r_rf) {d : Nat} {g22 : (Nat → Int32) → jSc → Option (Int32 × (Nat → Int32) × jSc)} (hg22 : rT_22 X rf g22 (d + 4)) {g23 : (Nat → Int32) → jSc → Option (Int32 × (Nat → Int32) × jSc)} (hg23 : rT_23 X rf g23 (d + 4)) {g24 : (Nat → Int32) → jSc → Option (Int32 × (Nat → Int32) × jSc)} (hg24 : rT_24 X rf g24 (d + 4)) {sc : jSc} {al : jAl} {Post : jPo} {r9 : Int32} {S9 : (Nat → Int32)} {ar9 : jSc} (hP : Post (some (.int r9)) (va_up sc 0 S9) rf ar9 al) (x4 : Int32) (x5 : Int32) (y0 : Int32) (y1 : Int32) (S : (Nat → Int32)) (ar : jSc) (h : rF_22_241 g22 g23 g24 x4 x5 y0 y1 S ar = some (r9, S9, ar9)) : gL X 22 (d + 5) 241 [some (.ref 0), none, none, none, some (.int x4), some (.int x5)] [.int y0, .int y1] (va_up sc 0 S) rf ar al Post := by
  unfold rF_22_241 at h
  refine gl_ic_ne hX q_22_241 rfl rfl (fun c1 => ?_) (fun c1 => ?_)
  · have h := (if_pos c1).symm.trans h
    refine gl_iload hX q_22_244 rfl rfl ?_
    refine gl_goto hX q_22_246 rfl ?_
    refine gl_istore (vs2 := [some (.ref 0), none, none, none, some (.int x5), some (.int x5)]) hX q_22_251 rfl rfl rfl rfl ?_
    refine gl_aload_n hX q_22_253 rfl rfl ?_
    refine gl_bipush hX q_22_254 cb_41 rfl ?_
    obtain ⟨Se2, are2, e2, h⟩ := o_k2 h
    refine gl_callV hX q_22_256 (qm_219 (by decide)) rfl rfl rfl (qs_0 hr) qx_15 rfl rfl ((rt_15 hX hr hrf) _ _ _ _ _ _ _ _ e2 ?_)
    refine gl_aload_n hX q_22_259 rfl rfl ?_
    refine gl_dup hX q_22_260 rfl rfl ?_
    refine gl_get hX q_22_261 (qf_177 (by decide)) (qs_0 hr) rfl qk_6 rfl rfl ?_
    refine gl_iconst hX q_22_264 ci_1 rfl ?_
    refine gl_isub hX q_22_265 rfl ?_
    refine gl_put hX q_22_266 (qf_177 (by decide)) (qs_0 hr) rfl qk_6 rfl ru rfl ?_
    refine gl_iload hX q_22_269 rfl rfl ?_
    exact gl_ireturn q_22_271 (Or.inl qr_22) (by cases h; exact hP)
  · have h := (if_neg c1).symm.trans h
    refine gl_iload hX q_22_249 rfl rfl ?_
    refine gl_istore (vs2 := [some (.ref 0), none, none, none, some (.int x4), some (.int x5)]) hX q_22_251 rfl rfl rfl rfl ?_
    refine gl_aload_n hX q_22_253 rfl rfl ?_
    refine gl_bipush hX q_22_254 cb_41 rfl ?_
    obtain ⟨Se3, are3, e3, h⟩ := o_k2 h
    refine gl_callV hX q_22_256 (qm_219 (by decide)) rfl rfl rfl (qs_0 hr) qx_15 rfl rfl ((rt_15 hX hr hrf) _ _ _ _ _ _ _ _ e3 ?_)
    refine gl_aload_n hX q_22_259 rfl rfl ?_
    refine gl_dup hX q_22_260 rfl rfl ?_
    refine gl_get hX q_22_261 (qf_177 (by decide)) (qs_0 hr) rfl qk_6 rfl rfl ?_
    refine gl_iconst hX q_22_264 ci_1 rfl ?_
    refine gl_isub hX q_22_265 rfl ?_
    refine gl_put hX q_22_266 (qf_177 (by decide)) (qs_0 hr) rfl qk_6 rfl ru rfl ?_
    refine gl_iload hX q_22_269 rfl rfl ?_
    exact gl_ireturn q_22_271 (Or.inl qr_22) (by cases h; exact hP)
def rF_22_216 (g22 : (Nat → Int32) → jSc → Option (Int32 × (Nat → Int32) × jSc)) (g23 : (Nat → Int32) → jSc → Option (Int32 × (Nat → Int32) × jSc)) (g24 : (Nat → Int32) → jSc → Option (Int32 × (Nat → Int32) × jSc)) (x2 : Int32) (x4 : Int32) (S : (Nat → Int32)) (ar : jSc) : Option (Int32 × (Nat → Int32) × jSc) :=
  (o_b2 (rF_15 (44 : Int32) S ar) (fun Se4 are4 => (o_b3 (g24 Se4 are4) (fun ve5 Se5 are5 => (if x4 ≤ ve5 then rF_22_241 g22 g23 g24 x4 ve5 (0 : Int32) x2 Se5 are5 else rF_22_241 g22 g23 g24 x4 ve5 (1 : Int32) x2 Se5 are5)))))
set_option maxHeartbeats 4000000 in
theorem rt_22_216 {X : jX} (hX : j_LK (g_n X) (g_L X)) (hr : g_rs X = r_sh) {rf : jRf} (hrf : rf 0 = r_rf) {d : Nat} {g22 : (Nat → Int32) → jSc → Option (Int32 × (Nat → Int32) × jSc)} (hg22 : rT_22 X rf g22 (d + 4)) {g23 : (Nat → Int32) → jSc → Option (Int32 × (Nat → Int32) × jSc)} (hg23 : rT_23 X rf g23 (d + 4)) {g24 : (Nat → Int32) → jSc → Option (Int32 × (Nat → Int32) × jSc)} (hg24 : rT_24 X rf g24 (d + 4)) {sc : jSc} {al : jAl} {Post : jPo} {r9 : Int32} {S9 : (Nat → Int32)} {ar9 : jSc} (hP : Post (some (.int r9)) (va_up sc 0 S9) rf ar9 al) (x2 : Int32) (x4 : Int32) (S : (Nat → Int32)) (ar : jSc) (h : rF_22_216 g22 g23 g24 x2 x4 S ar = some (r9, S9, ar9)) : gL X 22 (d + 5) 216 [some (.ref 0), none, some (.int x2), none, some (.int x4), none] [] (va_up sc 0 S) rf ar al Post := by
  unfold rF_22_216 at h
  refine gl_aload_n hX q_22_216 rfl rfl ?_
  refine gl_bipush hX q_22_217 cb_44 rfl ?_
  obtain ⟨Se4, are4, e4, h⟩ := o_k2 h
  refine gl_callV hX q_22_219 (qm_219 (by decide)) rfl rfl rfl (qs_0 hr) qx_15 rfl rfl ((rt_15 hX hr hrf) _ _ _ _ _ _ _ _ e4 ?_)
  refine gl_aload_n hX q_22_222 rfl rfl ?_
  obtain ⟨ve5, Se5, are5, e5, h⟩ := o_k3 h
  refine gl_callV hX q_22_223 (qm_216 (by decide)) rfl rfl rfl (qs_0 hr) qx_24 rfl rfl (hg24 _ _ _  _ _ _ _ _ e5 ?_)
  refine gl_istore (vs2 := [some (.ref 0), none, some (.int x2), none, some (.int x4), some (.int ve5)]) hX q_22_226 rfl rfl rfl rfl ?_
  refine gl_iload_n hX q_22_228 rfl rfl ?_
  refine gl_iload hX q_22_229 rfl rfl ?_
  refine gl_iload hX q_22_231 rfl rfl ?_
  refine gl_ic_ge hX q_22_233 rfl rfl (fun c6 => ?_) (fun c6 => ?_)
  · have h := (if_pos c6).symm.trans h
    refine gl_iconst hX q_22_240 ci_0 rfl ?_
    exact gl_weak (vs := [some (.ref 0), none, none, none, some (.int x4), some (.int ve5)]) ⟨rfl, rfl, rfl, trivial⟩ (rt_22_241 hX hr hrf hg22 hg23 hg24 hP x4 ve5 (0 : Int32) x2 Se5 are5 h)
  · have h := (if_neg c6).symm.trans h
    refine gl_iconst hX q_22_236 ci_1 rfl ?_
    refine gl_goto hX q_22_237 rfl ?_
    exact gl_weak (vs := [some (.ref 0), none, none, none, some (.int x4), some (.int ve5)]) ⟨rfl, rfl, rfl, trivial⟩ (rt_22_241 hX hr hrf hg22 hg23 hg24 hP x4 ve5 (1 : Int32) x2 Se5 are5 h)
def rF_22_169 (g22 : (Nat → Int32) → jSc → Option (Int32 × (Nat → Int32) × jSc)) (g23 : (Nat → Int32) → jSc → Option (Int32 × (Nat → Int32) × jSc)) (g24 : (Nat → Int32) → jSc → Option (Int32 × (Nat → Int32) × jSc)) (x2 : Int32) (x3 : Int32) (S : (Nat → Int32)) (ar : jSc) : Option (Int32 × (Nat → Int32) × jSc) :=
  (o_b2 (rF_7 S ar) (fun Se7 are7 => (o_b3 (rF_6 (Se7 5) Se7 are7) (fun ve8 Se8 are8 => (if ve8 = (40 : Int32) then (o_b2 (rF_18 (1 : Int32) Se8 are8) (fun Se10 are10 => (o_b3 (g24 Se10 are10) (fun ve11 Se11 are11 => (if x2 = 0 then (if x3 = 0 then (o_b2 (rF_15 (41 : Int32) Se11 are11) (fun Se14 are14 => some (ve11, (upd Se14 6 ((Se14 6) - (1 : Int32))), are14))) else rF_22_216 g22 g23 g24 x2 ve11 Se11 are11) else rF_22_216 g22 g23 g24 x2 ve11 Se11 are11))))) else (o_b2 (rF_8 (1 : Int32) (Se8 5) Se8 are8) (fun Se15 are15 => some ((0 : Int32), Se15, are15))))))))
set_option maxHeartbeats 4000000 in
theorem rt_22_169 {X : jX} (hX : j_LK (g_n X) (g_L X)) (hr : g_rs X = r_sh) {rf : jRf} (hrf : rf 0 = r_rf) {d : Nat} {g22 : (Nat → Int32) → jSc → Option (Int32 × (Nat → Int32) × jSc)} (hg22 : rT_22 X rf g22 (d + 4)) {g23 : (Nat → Int32) → jSc → Option (Int32 × (Nat → Int32) × jSc)} (hg23 : rT_23 X rf g23 (d + 4)) {g24 : (Nat → Int32) → jSc → Option (Int32 × (Nat → Int32) × jSc)} (hg24 : rT_24 X rf g24 (d + 4)) {sc : jSc} {al : jAl} {Post : jPo} {r9 : Int32} {S9 : (Nat → Int32)} {ar9 : jSc} (hP : Post (some (.int r9)) (va_up sc 0 S9) rf ar9 al) (x2 : Int32) (x3 : Int32) (S : (Nat → Int32)) (ar : jSc) (h : rF_22_169 g22 g23 g24 x2 x3 S ar = some (r9, S9, ar9)) : gL X 22 (d + 5) 169 [some (.ref 0), none, some (.int x2), some (.int x3), none, none] [] (va_up sc 0 S) rf ar al Post := by
  unfold rF_22_169 at h
  refine gl_aload_n hX q_22_169 rfl rfl ?_
  obtain ⟨Se7, are7, e7, h⟩ := o_k2 h
  refine gl_callV hX q_22_170 (qm_151 (by decide)) rfl rfl rfl (qs_0 hr) qx_7 rfl rfl ((rt_7 hX hr hrf) _ _ _  _ _ _ _ e7 ?_)
  refine gl_aload_n hX q_22_173 rfl rfl ?_
  refine gl_aload_n hX q_22_174 rfl rfl ?_
  refine gl_get hX q_22_175 (qf_138 (by decide)) (qs_0 hr) rfl qk_5 rfl rfl ?_
  obtain ⟨ve8, Se8, are8, e8, h⟩ := o_k3 h
  refine gl_callV hX q_22_178 (qm_141 (by decide)) rfl rfl rfl (qs_0 hr) qx_6 rfl rfl ((rt_6 hX hr hrf) _ _ _ _ _ _ _ _ _ e8 ?_)
  refine gl_bipush hX q_22_181 cb_40 rfl ?_
  refine gl_ic_eq hX q_22_183 rfl rfl (fun c9 => ?_) (fun c9 => ?_)
  · have h := (if_pos c9).symm.trans h
    refine gl_aload_n hX q_22_197 rfl rfl ?_
    refine gl_iconst hX q_22_198 ci_1 rfl ?_
    obtain ⟨Se10, are10, e10, h⟩ := o_k2 h
    refine gl_callV hX q_22_199 (qm_212 (by decide)) rfl rfl rfl (qs_0 hr) qx_18 rfl rfl ((rt_18 hX hr hrf) _ _ _ _ _ _ _ _ e10 ?_)
    refine gl_aload_n hX q_22_202 rfl rfl ?_
    obtain ⟨ve11, Se11, are11, e11, h⟩ := o_k3 h
    refine gl_callV hX q_22_203 (qm_216 (by decide)) rfl rfl rfl (qs_0 hr) qx_24 rfl rfl (hg24 _ _ _  _ _ _ _ _ e11 ?_)
    refine gl_istore (vs2 := [some (.ref 0), none, some (.int x2), some (.int x3), some (.int ve11), none]) hX q_22_206 rfl rfl rfl rfl ?_
    refine gl_iload_n hX q_22_208 rfl rfl ?_
    refine gl_if_ne hX q_22_209 rfl rfl (fun c12 => ?_) (fun c12 => ?_)
    · have h := (if_pos c12).symm.trans h
      refine gl_iload_n hX q_22_212 rfl rfl ?_
      refine gl_if_eq hX q_22_213 rfl rfl (fun c13 => ?_) (fun c13 => ?_)
      · have h := (if_pos c13).symm.trans h
        refine gl_aload_n hX q_22_253 rfl rfl ?_
        refine gl_bipush hX q_22_254 cb_41 rfl ?_
        obtain ⟨Se14, are14, e14, h⟩ := o_k2 h
        refine gl_callV hX q_22_256 (qm_219 (by decide)) rfl rfl rfl (qs_0 hr) qx_15 rfl rfl ((rt_15 hX hr hrf) _ _ _ _ _ _ _ _ e14 ?_)
        refine gl_aload_n hX q_22_259 rfl rfl ?_
        refine gl_dup hX q_22_260 rfl rfl ?_
        refine gl_get hX q_22_261 (qf_177 (by decide)) (qs_0 hr) rfl qk_6 rfl rfl ?_
        refine gl_iconst hX q_22_264 ci_1 rfl ?_
        refine gl_isub hX q_22_265 rfl ?_
        refine gl_put hX q_22_266 (qf_177 (by decide)) (qs_0 hr) rfl qk_6 rfl ru rfl ?_
        refine gl_iload hX q_22_269 rfl rfl ?_
        exact gl_ireturn q_22_271 (Or.inl qr_22) (by cases h; exact hP)
      · have h := (if_neg c13).symm.trans h
        exact gl_weak (vs := [some (.ref 0), none, some (.int x2), none, some (.int ve11), none]) ⟨rfl, rfl, rfl, trivial⟩ (rt_22_216 hX hr hrf hg22 hg23 hg24 hP x2 ve11 Se11 are11 h)
    · have h := (if_neg c12).symm.trans h
      exact gl_weak (vs := [some (.ref 0), none, some (.int x2), none, some (.int ve11), none]) ⟨rfl, rfl, rfl, trivial⟩ (rt_22_216 hX hr hrf hg22 hg23 hg24 hP x2 ve11 Se11 are11 h)
  · have h := (if_neg c9).symm.trans h
    refine gl_aload_n hX q_22_186 rfl rfl ?_
    refine gl_iconst hX q_22_187 ci_1 rfl ?_
    refine gl_aload_n hX q_22_188 rfl rfl ?_
    refine gl_get hX q_22_189 (qf_138 (by decide)) (qs_0 hr) rfl qk_5 rfl rfl ?_
    obtain ⟨Se15, are15, e15, h⟩ := o_k2 h
    refine gl_callV hX q_22_192 (qm_166 (by decide)) rfl rfl rfl (qs_0 hr) qx_8 rfl rfl ((rt_8 hX hr hrf) _ _ _ _ _ _ _ _ _ e15 ?_)
    refine gl_iconst hX q_22_195 ci_0 rfl ?_
    exact gl_ireturn q_22_196 (Or.inl qr_22) (by cases h; exact hP)
def rF_22 (g22 : (Nat → Int32) → jSc → Option (Int32 × (Nat → Int32) × jSc)) (g23 : (Nat → Int32) → jSc → Option (Int32 × (Nat → Int32) × jSc)) (g24 : (Nat → Int32) → jSc → Option (Int32 × (Nat → Int32) × jSc)) (S : (Nat → Int32)) (ar : jSc) : Option (Int32 × (Nat → Int32) × jSc) :=
  (if (S 7) = 0 then (o_b2 (rF_7 S ar) (fun Se17 are17 => (o_b3 (rF_6 (Se17 5) Se17 are17) (fun ve18 Se18 are18 => (o_b3 (rF_9 ve18 Se18 are18) (fun ve19 Se19 are19 => (if ve19 = 0 then (o_b3 (rF_19 Se19 are19) (fun ve21 Se21 are21 => (if ve21 = (-1 : Int32) then (o_b3 (rF_13 (7 : Int32) (15 : Int32) (20 : Int32) (0 : Int32) (0 : Int32) (0 : Int32) Se21 are21) (fun ve23 Se23 are23 => (if ve23 = 0 then (o_b3 (rF_13 (6 : Int32) (1 : Int32) (18 : Int32) (0 : Int32) (0 : Int32) (0 : Int32) Se23 are23) (fun ve25 Se25 are25 => (if ve25 = 0 then (o_b3 (rF_13 (12 : Int32) (5 : Int32) (1 : Int32) (19 : Int32) (20 : Int32) (0 : Int32) Se25 are25) (fun ve27 Se27 are27 => (o_b3 (rF_13 (13 : Int32) (15 : Int32) (19 : Int32) (20 : Int32) (0 : Int32) (0 : Int32) Se27 are27) (fun ve28 Se28 are28 => (if ve27 = 0 then (if ve28 = 0 then rF_22_169 g22 g23 g24 ve27 ve28 Se28 are28 else (o_b2 (rF_14 Se28 are28) (fun Se31 are31 => rF_22_169 g22 g23 g24 ve27 ve28 Se31 are31))) else (o_b2 (rF_14 Se28 are28) (fun Se32 are32 => rF_22_169 g22 g23 g24 ve27 ve28 Se32 are32))))))) else (o_b2 (rF_14 Se25 are25) (fun Se33 are33 => (o_b3 (rF_17 (3 : Int32) Se33 are33) (fun ve34 Se34 are34 => (if (Se34 7) = 0 then (o_b3 (rF_21 ve34 Se34 are34) (fun ve36 Se36 are36 => some (ve36, Se36, are36))) else some ((0 : Int32), Se34, are34))))))))) else (o_b2 (rF_14 Se23 are23) (fun Se37 are37 => some ((Se37 25), Se37, are37)))))) else (o_b3 (rF_20 ve21 (upd Se21 5 ((Se21 5) + (1 : Int32))) are21) (fun ve38 Se38 are38 => some (ve38, Se38, are38)))))) else (o_b3 (rF_16 (999 : Int32) Se19 are19) (fun ve39 Se39 are39 => some (ve39, Se39, are39)))))))))) else some ((0 : Int32), S, ar))
set_option maxHeartbeats 4000000 in
theorem rt_22 {X : jX} (hX : j_LK (g_n X) (g_L X)) (hr : g_rs X = r_sh) {rf : jRf} (hrf : rf 0 = r_rf) {d : Nat} {g22 : (Nat → Int32) → jSc → Option (Int32 × (Nat → Int32) × jSc)} (hg22 : rT_22 X rf g22 (d + 4)) {g23 : (Nat → Int32) → jSc → Option (Int32 × (Nat → Int32) × jSc)} (hg23 : rT_23 X rf g23 (d + 4)) {g24 : (Nat → Int32) → jSc → Option (Int32 × (Nat → Int32) × jSc)} (hg24 : rT_24 X rf g24 (d + 4)) : rT_22 X rf (rF_22 g22 g23 g24) (d + 5) := by
  intro sc al Post  S ar r9 S9 ar9 h hP
  unfold rF_22 at h
  refine gl_entry (m := 5) rfl ?_
  show gL X 22 (d + 5) 0 [some (.ref 0), none, none, none, none, none] [] (va_up sc 0 S) rf ar al Post
  refine gl_aload_n hX q_22_0 rfl rfl ?_
  refine gl_get hX q_22_1 (qf_145 (by decide)) (qs_0 hr) rfl qk_7 rfl rfl ?_
  refine gl_if_eq hX q_22_4 rfl rfl (fun c16 => ?_) (fun c16 => ?_)
  · have h := (if_pos c16).symm.trans h
    refine gl_aload_n hX q_22_9 rfl rfl ?_
    obtain ⟨Se17, are17, e17, h⟩ := o_k2 h
    refine gl_callV hX q_22_10 (qm_151 (by decide)) rfl rfl rfl (qs_0 hr) qx_7 rfl rfl ((rt_7 hX hr hrf) _ _ _  _ _ _ _ e17 ?_)
    refine gl_aload_n hX q_22_13 rfl rfl ?_
    refine gl_aload_n hX q_22_14 rfl rfl ?_
    refine gl_get hX q_22_15 (qf_138 (by decide)) (qs_0 hr) rfl qk_5 rfl rfl ?_
    obtain ⟨ve18, Se18, are18, e18, h⟩ := o_k3 h
    refine gl_callV hX q_22_18 (qm_141 (by decide)) rfl rfl rfl (qs_0 hr) qx_6 rfl rfl ((rt_6 hX hr hrf) _ _ _ _ _ _ _ _ _ e18 ?_)
    obtain ⟨ve19, Se19, are19, e19, h⟩ := o_k3 h
    refine gl_callS q_22_21 (qm_170 (by decide)) rfl rfl rfl qx_9 rfl rfl ((rt_9 hX hr hrf) _ _ _ _ _ _ _ _ _ e19 ?_)
    refine gl_if_eq hX q_22_24 rfl rfl (fun c20 => ?_) (fun c20 => ?_)
    · have h := (if_pos c20).symm.trans h
      refine gl_aload_n hX q_22_35 rfl rfl ?_
      obtain ⟨ve21, Se21, are21, e21, h⟩ := o_k3 h
      refine gl_callV hX q_22_36 (qm_190 (by decide)) rfl rfl rfl (qs_0 hr) qx_19 rfl rfl ((rt_19 hX hr hrf) _ _ _  _ _ _ _ _ e21 ?_)
      refine gl_istore_n (vs2 := [some (.ref 0), some (.int ve21), none, none, none, none]) hX q_22_39 rfl rfl rfl rfl ?_
      refine gl_iload_n hX q_22_40 rfl rfl ?_
      refine gl_iconst hX q_22_41 ci_m1 rfl ?_
      refine gl_ic_eq hX q_22_42 rfl rfl (fun c22 => ?_) (fun c22 => ?_)
      · have h := (if_pos c22).symm.trans h
        refine gl_aload_n hX q_22_61 rfl rfl ?_
        refine gl_bipush hX q_22_62 cb_7 rfl ?_
        refine gl_bipush hX q_22_64 cb_15 rfl ?_
        refine gl_bipush hX q_22_66 cb_20 rfl ?_
        refine gl_iconst hX q_22_68 ci_0 rfl ?_
        refine gl_iconst hX q_22_69 ci_0 rfl ?_
        refine gl_iconst hX q_22_70 ci_0 rfl ?_
        obtain ⟨ve23, Se23, are23, e23, h⟩ := o_k3 h
        refine gl_callV hX q_22_71 (qm_196 (by decide)) rfl rfl rfl (qs_0 hr) qx_13 rfl rfl ((rt_13 hX hr hrf) _ _ _ _ _ _ _ _ _ _ _ _ _ _ e23 ?_)
        refine gl_if_eq hX q_22_74 rfl rfl (fun c24 => ?_) (fun c24 => ?_)
        · have h := (if_pos c24).symm.trans h
          refine gl_aload_n hX q_22_86 rfl rfl ?_
          refine gl_bipush hX q_22_87 cb_6 rfl ?_
          refine gl_iconst hX q_22_89 ci_1 rfl ?_
          refine gl_bipush hX q_22_90 cb_18 rfl ?_
          refine gl_iconst hX q_22_92 ci_0 rfl ?_
          refine gl_iconst hX q_22_93 ci_0 rfl ?_
          refine gl_iconst hX q_22_94 ci_0 rfl ?_
          obtain ⟨ve25, Se25, are25, e25, h⟩ := o_k3 h
          refine gl_callV hX q_22_95 (qm_196 (by decide)) rfl rfl rfl (qs_0 hr) qx_13 rfl rfl ((rt_13 hX hr hrf) _ _ _ _ _ _ _ _ _ _ _ _ _ _ e25 ?_)
          refine gl_if_eq hX q_22_98 rfl rfl (fun c26 => ?_) (fun c26 => ?_)
          · have h := (if_pos c26).symm.trans h
            refine gl_aload_n hX q_22_128 rfl rfl ?_
            refine gl_bipush hX q_22_129 cb_12 rfl ?_
            refine gl_iconst hX q_22_131 ci_5 rfl ?_
            refine gl_iconst hX q_22_132 ci_1 rfl ?_
            refine gl_bipush hX q_22_133 cb_19 rfl ?_
            refine gl_bipush hX q_22_135 cb_20 rfl ?_
            refine gl_iconst hX q_22_137 ci_0 rfl ?_
            obtain ⟨ve27, Se27, are27, e27, h⟩ := o_k3 h
            refine gl_callV hX q_22_138 (qm_196 (by decide)) rfl rfl rfl (qs_0 hr) qx_13 rfl rfl ((rt_13 hX hr hrf) _ _ _ _ _ _ _ _ _ _ _ _ _ _ e27 ?_)
            refine gl_istore_n (vs2 := [some (.ref 0), some (.int ve21), some (.int ve27), none, none, none]) hX q_22_141 rfl rfl rfl rfl ?_
            refine gl_aload_n hX q_22_142 rfl rfl ?_
            refine gl_bipush hX q_22_143 cb_13 rfl ?_
            refine gl_bipush hX q_22_145 cb_15 rfl ?_
            refine gl_bipush hX q_22_147 cb_19 rfl ?_
            refine gl_bipush hX q_22_149 cb_20 rfl ?_
            refine gl_iconst hX q_22_151 ci_0 rfl ?_
            refine gl_iconst hX q_22_152 ci_0 rfl ?_
            obtain ⟨ve28, Se28, are28, e28, h⟩ := o_k3 h
            refine gl_callV hX q_22_153 (qm_196 (by decide)) rfl rfl rfl (qs_0 hr) qx_13 rfl rfl ((rt_13 hX hr hrf) _ _ _ _ _ _ _ _ _ _ _ _ _ _ e28 ?_)
            refine gl_istore_n (vs2 := [some (.ref 0), some (.int ve21), some (.int ve27), some (.int ve28), none, none]) hX q_22_156 rfl rfl rfl rfl ?_
            refine gl_iload_n hX q_22_157 rfl rfl ?_
            refine gl_if_ne hX q_22_158 rfl rfl (fun c29 => ?_) (fun c29 => ?_)
            · have h := (if_pos c29).symm.trans h
              refine gl_iload_n hX q_22_161 rfl rfl ?_
              refine gl_if_eq hX q_22_162 rfl rfl (fun c30 => ?_) (fun c30 => ?_)
              · have h := (if_pos c30).symm.trans h
                exact gl_weak (vs := [some (.ref 0), none, some (.int ve27), some (.int ve28), none, none]) ⟨rfl, rfl, rfl, trivial⟩ (rt_22_169 hX hr hrf hg22 hg23 hg24 hP ve27 ve28 Se28 are28 h)
              · have h := (if_neg c30).symm.trans h
                refine gl_aload_n hX q_22_165 rfl rfl ?_
                obtain ⟨Se31, are31, e31, h⟩ := o_k2 h
                refine gl_callV hX q_22_166 (qm_200 (by decide)) rfl rfl rfl (qs_0 hr) qx_14 rfl rfl ((rt_14 hX hr hrf) _ _ _  _ _ _ _ e31 ?_)
                exact gl_weak (vs := [some (.ref 0), none, some (.int ve27), some (.int ve28), none, none]) ⟨rfl, rfl, rfl, trivial⟩ (rt_22_169 hX hr hrf hg22 hg23 hg24 hP ve27 ve28 Se31 are31 h)
            · have h := (if_neg c29).symm.trans h
              refine gl_aload_n hX q_22_165 rfl rfl ?_
              obtain ⟨Se32, are32, e32, h⟩ := o_k2 h
              refine gl_callV hX q_22_166 (qm_200 (by decide)) rfl rfl rfl (qs_0 hr) qx_14 rfl rfl ((rt_14 hX hr hrf) _ _ _  _ _ _ _ e32 ?_)
              exact gl_weak (vs := [some (.ref 0), none, some (.int ve27), some (.int ve28), none, none]) ⟨rfl, rfl, rfl, trivial⟩ (rt_22_169 hX hr hrf hg22 hg23 hg24 hP ve27 ve28 Se32 are32 h)
          · have h := (if_neg c26).symm.trans h
            refine gl_aload_n hX q_22_101 rfl rfl ?_
            obtain ⟨Se33, are33, e33, h⟩ := o_k2 h
            refine gl_callV hX q_22_102 (qm_200 (by decide)) rfl rfl rfl (qs_0 hr) qx_14 rfl rfl ((rt_14 hX hr hrf) _ _ _  _ _ _ _ e33 ?_)
            refine gl_aload_n hX q_22_105 rfl rfl ?_
            refine gl_iconst hX q_22_106 ci_3 rfl ?_
            obtain ⟨ve34, Se34, are34, e34, h⟩ := o_k3 h
            refine gl_callV hX q_22_107 (qm_206 (by decide)) rfl rfl rfl (qs_0 hr) qx_17 rfl rfl ((rt_17 hX hr hrf) _ _ _ _ _ _ _ _ _ e34 ?_)
            refine gl_istore_n (vs2 := [some (.ref 0), some (.int ve21), some (.int ve34), none, none, none]) hX q_22_110 rfl rfl rfl rfl ?_
            refine gl_aload_n hX q_22_111 rfl rfl ?_
            refine gl_get hX q_22_112 (qf_145 (by decide)) (qs_0 hr) rfl qk_7 rfl rfl ?_
            refine gl_if_ne hX q_22_115 rfl rfl (fun c35 => ?_) (fun c35 => ?_)
            · have h := (if_pos c35).symm.trans h
              refine gl_aload_n hX q_22_118 rfl rfl ?_
              refine gl_iload_n hX q_22_119 rfl rfl ?_
              obtain ⟨ve36, Se36, are36, e36, h⟩ := o_k3 h
              refine gl_callV hX q_22_120 (qm_209 (by decide)) rfl rfl rfl (qs_0 hr) qx_21 rfl rfl ((rt_21 hX hr hrf) _ _ _ _ _ _ _ _ _ e36 ?_)
              refine gl_goto hX q_22_123 rfl ?_
              exact gl_ireturn q_22_127 (Or.inl qr_22) (by cases h; exact hP)
            · have h := (if_neg c35).symm.trans h
              refine gl_iconst hX q_22_126 ci_0 rfl ?_
              exact gl_ireturn q_22_127 (Or.inl qr_22) (by cases h; exact hP)
        · have h := (if_neg c24).symm.trans h
          refine gl_aload_n hX q_22_77 rfl rfl ?_
          obtain ⟨Se37, are37, e37, h⟩ := o_k2 h
          refine gl_callV hX q_22_78 (qm_200 (by decide)) rfl rfl rfl (qs_0 hr) qx_14 rfl rfl ((rt_14 hX hr hrf) _ _ _  _ _ _ _ e37 ?_)
          refine gl_aload_n hX q_22_81 rfl rfl ?_
          refine gl_get hX q_22_82 (qf_203 (by decide)) (qs_0 hr) rfl qk_25 rfl rfl ?_
          exact gl_ireturn q_22_85 (Or.inl qr_22) (by cases h; exact hP)
      · have h := (if_neg c22).symm.trans h
        refine gl_aload_n hX q_22_45 rfl rfl ?_
        refine gl_dup hX q_22_46 rfl rfl ?_
        refine gl_get hX q_22_47 (qf_138 (by decide)) (qs_0 hr) rfl qk_5 rfl rfl ?_
        refine gl_iconst hX q_22_50 ci_1 rfl ?_
        refine gl_iadd hX q_22_51 rfl ?_
        refine gl_put hX q_22_52 (qf_138 (by decide)) (qs_0 hr) rfl qk_5 rfl ru rfl ?_
        refine gl_aload_n hX q_22_55 rfl rfl ?_
        refine gl_iload_n hX q_22_56 rfl rfl ?_
        obtain ⟨ve38, Se38, are38, e38, h⟩ := o_k3 h
        refine gl_callV hX q_22_57 (qm_193 (by decide)) rfl rfl rfl (qs_0 hr) qx_20 rfl rfl ((rt_20 hX hr hrf) _ _ _ _ _ _ _ _ _ e38 ?_)
        exact gl_ireturn q_22_60 (Or.inl qr_22) (by cases h; exact hP)
    · have h := (if_neg c20).symm.trans h
      refine gl_aload_n hX q_22_27 rfl rfl ?_
      refine gl_sipush hX q_22_28 cs_999 rfl ?_
      obtain ⟨ve39, Se39, are39, e39, h⟩ := o_k3 h
      refine gl_callV hX q_22_31 (qm_174 (by decide)) rfl rfl rfl (qs_0 hr) qx_16 rfl rfl ((rt_16 hX hr hrf) _ _ _ _ _ _ _ _ _ e39 ?_)
      exact gl_ireturn q_22_34 (Or.inl qr_22) (by cases h; exact hP)
  · have h := (if_neg c16).symm.trans h
    refine gl_iconst hX q_22_7 ci_0 rfl ?_
    exact gl_ireturn q_22_8 (Or.inl qr_22) (by cases h; exact hP)
def rF_23_42 (g22 : (Nat → Int32) → jSc → Option (Int32 × (Nat → Int32) × jSc)) (g23 : (Nat → Int32) → jSc → Option (Int32 × (Nat → Int32) × jSc)) (g24 : (Nat → Int32) → jSc → Option (Int32 × (Nat → Int32) × jSc)) (k9 : Int32 → (Nat → Int32) → jSc → Option (Int32 × (Nat → Int32) × jSc)) (x1 : Int32) (S : (Nat → Int32)) (ar : jSc) : Option (Int32 × (Nat → Int32) × jSc) :=
  (o_b3 (rF_6 (S 5) S ar) (fun ve1 Se1 are1 => (o_b3 (g22 (upd Se1 5 ((Se1 5) + (1 : Int32))) are1) (fun ve2 Se2 are2 => (if ve1 = (42 : Int32) then (o_b2 (rF_7 Se2 are2) (fun Se4 are4 => k9 (x1 * ve2) Se4 are4)) else (if ve2 = 0 then (o_b2 (rF_7 Se2 are2) (fun Se6 are6 => k9 (0 : Int32) Se6 are6)) else (if ¬ ve2 = 0 then (o_b2 (rF_7 Se2 are2) (fun Se8 are8 => k9 (x1 / ve2) Se8 are8)) else none)))))))
set_option maxHeartbeats 4000000 in
theorem rt_23_42 {X : jX} (hX : j_LK (g_n X) (g_L X)) (hr : g_rs X = r_sh) {rf : jRf} (hrf : rf 0 = r_rf) {d : Nat} {g22 : (Nat → Int32) → jSc → Option (Int32 × (Nat → Int32) × jSc)} (hg22 : rT_22 X rf g22 (d + 4)) {g23 : (Nat → Int32) → jSc → Option (Int32 × (Nat → Int32) × jSc)} (hg23 : rT_23 X rf g23 (d + 4)) {g24 : (Nat → Int32) → jSc → Option (Int32 × (Nat → Int32) × jSc)} (hg24 : rT_24 X rf g24 (d + 4)) {sc : jSc} {al : jAl} {Post : jPo} {r9 : Int32} {S9 : (Nat → Int32)} {ar9 : jSc} {k9 : Int32 → (Nat → Int32) → jSc → Option (Int32 × (Nat → Int32) × jSc)} (hk9 : ∀ (x1 : Int32) (S : (Nat → Int32)) (ar : jSc), k9 x1 S ar = some (r9, S9, ar9) → gL X 23 (d + 5) 9 [some (.ref 0), some (.int x1), none, none] [] (va_up sc 0 S) rf ar al Post) (hP : Post (some (.int r9)) (va_up sc 0 S9) rf ar9 al) (x1 : Int32) (S : (Nat → Int32)) (ar : jSc) (h : rF_23_42 g22 g23 g24 k9 x1 S ar = some (r9, S9, ar9)) : gL X 23 (d + 5) 42 [some (.ref 0), some (.int x1), none, none] [] (va_up sc 0 S) rf ar al Post := by
  unfold rF_23_42 at h
  refine gl_aload_n hX q_23_42 rfl rfl ?_
  refine gl_aload_n hX q_23_43 rfl rfl ?_
  refine gl_get hX q_23_44 (qf_138 (by decide)) (qs_0 hr) rfl qk_5 rfl rfl ?_
  obtain ⟨ve1, Se1, are1, e1, h⟩ := o_k3 h
  refine gl_callV hX q_23_47 (qm_141 (by decide)) rfl rfl rfl (qs_0 hr) qx_6 rfl rfl ((rt_6 hX hr hrf) _ _ _ _ _ _ _ _ _ e1 ?_)
  refine gl_istore_n (vs2 := [some (.ref 0), some (.int x1), some (.int ve1), none]) hX q_23_50 rfl rfl rfl rfl ?_
  refine gl_aload_n hX q_23_51 rfl rfl ?_
  refine gl_dup hX q_23_52 rfl rfl ?_
  refine gl_get hX q_23_53 (qf_138 (by decide)) (qs_0 hr) rfl qk_5 rfl rfl ?_
  refine gl_iconst hX q_23_56 ci_1 rfl ?_
  refine gl_iadd hX q_23_57 rfl ?_
  refine gl_put hX q_23_58 (qf_138 (by decide)) (qs_0 hr) rfl qk_5 rfl ru rfl ?_
  refine gl_aload_n hX q_23_61 rfl rfl ?_
  obtain ⟨ve2, Se2, are2, e2, h⟩ := o_k3 h
  refine gl_callV hX q_23_62 (qm_222 (by decide)) rfl rfl rfl (qs_0 hr) qx_22 rfl rfl (hg22 _ _ _  _ _ _ _ _ e2 ?_)
  refine gl_istore_n (vs2 := [some (.ref 0), some (.int x1), some (.int ve1), some (.int ve2)]) hX q_23_65 rfl rfl rfl rfl ?_
  refine gl_iload_n hX q_23_66 rfl rfl ?_
  refine gl_bipush hX q_23_67 cb_42 rfl ?_
  refine gl_ic_ne hX q_23_69 rfl rfl (fun c3 => ?_) (fun c3 => ?_)
  · have h := (if_pos c3).symm.trans h
    refine gl_iload_n hX q_23_72 rfl rfl ?_
    refine gl_iload_n hX q_23_73 rfl rfl ?_
    refine gl_imul hX q_23_74 rfl ?_
    refine gl_goto hX q_23_75 rfl ?_
    refine gl_istore_n (vs2 := [some (.ref 0), some (.int (x1 * ve2)), some (.int ve1), some (.int ve2)]) hX q_23_89 rfl rfl rfl rfl ?_
    refine gl_aload_n hX q_23_90 rfl rfl ?_
    obtain ⟨Se4, are4, e4, h⟩ := o_k2 h
    refine gl_callV hX q_23_91 (qm_151 (by decide)) rfl rfl rfl (qs_0 hr) qx_7 rfl rfl ((rt_7 hX hr hrf) _ _ _  _ _ _ _ e4 ?_)
    refine gl_goto hX q_23_94 rfl ?_
    exact gl_weak (vs := [some (.ref 0), some (.int (x1 * ve2)), none, none]) ⟨rfl, rfl, trivial⟩ (hk9 (x1 * ve2) Se4 are4 h)
  · have h := (if_neg c3).symm.trans h
    refine gl_iload_n hX q_23_78 rfl rfl ?_
    refine gl_if_ne hX q_23_79 rfl rfl (fun c5 => ?_) (fun c5 => ?_)
    · have h := (if_pos c5).symm.trans h
      refine gl_iconst hX q_23_82 ci_0 rfl ?_
      refine gl_goto hX q_23_83 rfl ?_
      refine gl_istore_n (vs2 := [some (.ref 0), some (.int (0 : Int32)), some (.int ve1), some (.int ve2)]) hX q_23_89 rfl rfl rfl rfl ?_
      refine gl_aload_n hX q_23_90 rfl rfl ?_
      obtain ⟨Se6, are6, e6, h⟩ := o_k2 h
      refine gl_callV hX q_23_91 (qm_151 (by decide)) rfl rfl rfl (qs_0 hr) qx_7 rfl rfl ((rt_7 hX hr hrf) _ _ _  _ _ _ _ e6 ?_)
      refine gl_goto hX q_23_94 rfl ?_
      exact gl_weak (vs := [some (.ref 0), some (.int (0 : Int32)), none, none]) ⟨rfl, rfl, trivial⟩ (hk9 (0 : Int32) Se6 are6 h)
    · have h := (if_neg c5).symm.trans h
      refine gl_iload_n hX q_23_86 rfl rfl ?_
      refine gl_iload_n hX q_23_87 rfl rfl ?_
      obtain ⟨c7, h⟩ := o_ck h
      refine gl_idiv hX q_23_88 c7 rfl ?_
      refine gl_istore_n (vs2 := [some (.ref 0), some (.int (x1 / ve2)), some (.int ve1), some (.int ve2)]) hX q_23_89 rfl rfl rfl rfl ?_
      refine gl_aload_n hX q_23_90 rfl rfl ?_
      obtain ⟨Se8, are8, e8, h⟩ := o_k2 h
      refine gl_callV hX q_23_91 (qm_151 (by decide)) rfl rfl rfl (qs_0 hr) qx_7 rfl rfl ((rt_7 hX hr hrf) _ _ _  _ _ _ _ e8 ?_)
      refine gl_goto hX q_23_94 rfl ?_
      exact gl_weak (vs := [some (.ref 0), some (.int (x1 / ve2)), none, none]) ⟨rfl, rfl, trivial⟩ (hk9 (x1 / ve2) Se8 are8 h)
def rF_23_9 (g22 : (Nat → Int32) → jSc → Option (Int32 × (Nat → Int32) × jSc)) (g23 : (Nat → Int32) → jSc → Option (Int32 × (Nat → Int32) × jSc)) (g24 : (Nat → Int32) → jSc → Option (Int32 × (Nat → Int32) × jSc)) : Nat → Int32 → (Nat → Int32) → jSc → Option (Int32 × (Nat → Int32) × jSc)
  | 0, _, _, _ => none
  | nn + 1, x1, S, ar => (if (S 7) = 0 then (o_b3 (rF_6 (S 5) S ar) (fun ve10 Se10 are10 => (if ve10 = (42 : Int32) then rF_23_42 g22 g23 g24 (fun x1_ S_ ar_ => rF_23_9 g22 g23 g24 nn x1_ S_ ar_) x1 Se10 are10 else (o_b3 (rF_6 (Se10 5) Se10 are10) (fun ve12 Se12 are12 => (if ve12 = (47 : Int32) then rF_23_42 g22 g23 g24 (fun x1_ S_ ar_ => rF_23_9 g22 g23 g24 nn x1_ S_ ar_) x1 Se12 are12 else some (x1, Se12, are12))))))) else some (x1, S, ar))
set_option maxHeartbeats 4000000 in
theorem rt_23_9 {X : jX} (hX : j_LK (g_n X) (g_L X)) (hr : g_rs X = r_sh) {rf : jRf} (hrf : rf 0 = r_rf) {d : Nat} {g22 : (Nat → Int32) → jSc → Option (Int32 × (Nat → Int32) × jSc)} (hg22 : rT_22 X rf g22 (d + 4)) {g23 : (Nat → Int32) → jSc → Option (Int32 × (Nat → Int32) × jSc)} (hg23 : rT_23 X rf g23 (d + 4)) {g24 : (Nat → Int32) → jSc → Option (Int32 × (Nat → Int32) × jSc)} (hg24 : rT_24 X rf g24 (d + 4)) {sc : jSc} {al : jAl} {Post : jPo} {r9 : Int32} {S9 : (Nat → Int32)} {ar9 : jSc} (hP : Post (some (.int r9)) (va_up sc 0 S9) rf ar9 al) : ∀ (nn : Nat) (x1 : Int32) (S : (Nat → Int32)) (ar : jSc), rF_23_9 g22 g23 g24 nn x1 S ar = some (r9, S9, ar9) → gL X 23 (d + 5) 9 [some (.ref 0), some (.int x1), none, none] [] (va_up sc 0 S) rf ar al Post := by
  intro nn
  induction nn with
  | zero =>
    intro x1 S ar h
    have h : (none : Option (Int32 × (Nat → Int32) × jSc)) = some _ := h
    cases h
  | succ nn ih =>
    intro x1 S ar h
    unfold rF_23_9 at h
    refine gl_aload_n hX q_23_9 rfl rfl ?_
    refine gl_get hX q_23_10 (qf_145 (by decide)) (qs_0 hr) rfl qk_7 rfl rfl ?_
    refine gl_if_ne hX q_23_13 rfl rfl (fun c9 => ?_) (fun c9 => ?_)
    · have h := (if_pos c9).symm.trans h
      refine gl_aload_n hX q_23_16 rfl rfl ?_
      refine gl_aload_n hX q_23_17 rfl rfl ?_
      refine gl_get hX q_23_18 (qf_138 (by decide)) (qs_0 hr) rfl qk_5 rfl rfl ?_
      obtain ⟨ve10, Se10, are10, e10, h⟩ := o_k3 h
      refine gl_callV hX q_23_21 (qm_141 (by decide)) rfl rfl rfl (qs_0 hr) qx_6 rfl rfl ((rt_6 hX hr hrf) _ _ _ _ _ _ _ _ _ e10 ?_)
      refine gl_bipush hX q_23_24 cb_42 rfl ?_
      refine gl_ic_eq hX q_23_26 rfl rfl (fun c11 => ?_) (fun c11 => ?_)
      · have h := (if_pos c11).symm.trans h
        exact gl_weak (vs := [some (.ref 0), some (.int x1), none, none]) ⟨rfl, rfl, trivial⟩ (rt_23_42 hX hr hrf hg22 hg23 hg24 ih hP x1 Se10 are10 h)
      · have h := (if_neg c11).symm.trans h
        refine gl_aload_n hX q_23_29 rfl rfl ?_
        refine gl_aload_n hX q_23_30 rfl rfl ?_
        refine gl_get hX q_23_31 (qf_138 (by decide)) (qs_0 hr) rfl qk_5 rfl rfl ?_
        obtain ⟨ve12, Se12, are12, e12, h⟩ := o_k3 h
        refine gl_callV hX q_23_34 (qm_141 (by decide)) rfl rfl rfl (qs_0 hr) qx_6 rfl rfl ((rt_6 hX hr hrf) _ _ _ _ _ _ _ _ _ e12 ?_)
        refine gl_bipush hX q_23_37 cb_47 rfl ?_
        refine gl_ic_ne hX q_23_39 rfl rfl (fun c13 => ?_) (fun c13 => ?_)
        · have h := (if_pos c13).symm.trans h
          exact gl_weak (vs := [some (.ref 0), some (.int x1), none, none]) ⟨rfl, rfl, trivial⟩ (rt_23_42 hX hr hrf hg22 hg23 hg24 ih hP x1 Se12 are12 h)
        · have h := (if_neg c13).symm.trans h
          refine gl_iload_n hX q_23_97 rfl rfl ?_
          exact gl_ireturn q_23_98 (Or.inl qr_23) (by cases h; exact hP)
    · have h := (if_neg c9).symm.trans h
      refine gl_iload_n hX q_23_97 rfl rfl ?_
      exact gl_ireturn q_23_98 (Or.inl qr_23) (by cases h; exact hP)
def rF_23 (g22 : (Nat → Int32) → jSc → Option (Int32 × (Nat → Int32) × jSc)) (g23 : (Nat → Int32) → jSc → Option (Int32 × (Nat → Int32) × jSc)) (g24 : (Nat → Int32) → jSc → Option (Int32 × (Nat → Int32) × jSc)) (S : (Nat → Int32)) (ar : jSc) : Option (Int32 × (Nat → Int32) × jSc) :=
  (o_b3 (g22 S ar) (fun ve14 Se14 are14 => (o_b2 (rF_7 Se14 are14) (fun Se15 are15 => rF_23_9 g22 g23 g24 oF ve14 Se15 are15))))
set_option maxHeartbeats 4000000 in
theorem rt_23 {X : jX} (hX : j_LK (g_n X) (g_L X)) (hr : g_rs X = r_sh) {rf : jRf} (hrf : rf 0 = r_rf) {d : Nat} {g22 : (Nat → Int32) → jSc → Option (Int32 × (Nat → Int32) × jSc)} (hg22 : rT_22 X rf g22 (d + 4)) {g23 : (Nat → Int32) → jSc → Option (Int32 × (Nat → Int32) × jSc)} (hg23 : rT_23 X rf g23 (d + 4)) {g24 : (Nat → Int32) → jSc → Option (Int32 × (Nat → Int32) × jSc)} (hg24 : rT_24 X rf g24 (d + 4)) : rT_23 X rf (rF_23 g22 g23 g24) (d + 5) := by
  intro sc al Post  S ar r9 S9 ar9 h hP
  unfold rF_23 at h
  refine gl_entry (m := 3) rfl ?_
  show gL X 23 (d + 5) 0 [some (.ref 0), none, none, none] [] (va_up sc 0 S) rf ar al Post
  refine gl_aload_n hX q_23_0 rfl rfl ?_
  obtain ⟨ve14, Se14, are14, e14, h⟩ := o_k3 h
  refine gl_callV hX q_23_1 (qm_222 (by decide)) rfl rfl rfl (qs_0 hr) qx_22 rfl rfl (hg22 _ _ _  _ _ _ _ _ e14 ?_)
  refine gl_istore_n (vs2 := [some (.ref 0), some (.int ve14), none, none]) hX q_23_4 rfl rfl rfl rfl ?_
  refine gl_aload_n hX q_23_5 rfl rfl ?_
  obtain ⟨Se15, are15, e15, h⟩ := o_k2 h
  refine gl_callV hX q_23_6 (qm_151 (by decide)) rfl rfl rfl (qs_0 hr) qx_7 rfl rfl ((rt_7 hX hr hrf) _ _ _  _ _ _ _ e15 ?_)
  exact gl_weak (vs := [some (.ref 0), some (.int ve14), none, none]) ⟨rfl, rfl, trivial⟩ (rt_23_9 hX hr hrf hg22 hg23 hg24 hP oF ve14 Se15 are15 h)
def rF_24_42 (g22 : (Nat → Int32) → jSc → Option (Int32 × (Nat → Int32) × jSc)) (g23 : (Nat → Int32) → jSc → Option (Int32 × (Nat → Int32) × jSc)) (g24 : (Nat → Int32) → jSc → Option (Int32 × (Nat → Int32) × jSc)) (k9 : Int32 → (Nat → Int32) → jSc → Option (Int32 × (Nat → Int32) × jSc)) (x1 : Int32) (S : (Nat → Int32)) (ar : jSc) : Option (Int32 × (Nat → Int32) × jSc) :=
  (o_b3 (rF_6 (S 5) S ar) (fun ve1 Se1 are1 => (o_b3 (g23 (upd Se1 5 ((Se1 5) + (1 : Int32))) are1) (fun ve2 Se2 are2 => (if ve1 = (43 : Int32) then (o_b2 (rF_7 Se2 are2) (fun Se4 are4 => k9 (x1 + ve2) Se4 are4)) else (o_b2 (rF_7 Se2 are2) (fun Se5 are5 => k9 (x1 - ve2) Se5 are5)))))))
set_option maxHeartbeats 4000000 in
theorem rt_24_42 {X : jX} (hX : j_LK (g_n X) (g_L X)) (hr : g_rs X = r_sh) {rf : jRf} (hrf : rf 0 = r_rf) {d : Nat} {g22 : (Nat → Int32) → jSc → Option (Int32 × (Nat → Int32) × jSc)} (hg22 : rT_22 X rf g22 (d + 4)) {g23 : (Nat → Int32) → jSc → Option (Int32 × (Nat → Int32) × jSc)} (hg23 : rT_23 X rf g23 (d + 4)) {g24 : (Nat → Int32) → jSc → Option (Int32 × (Nat → Int32) × jSc)} (hg24 : rT_24 X rf g24 (d + 4)) {sc : jSc} {al : jAl} {Post : jPo} {r9 : Int32} {S9 : (Nat → Int32)} {ar9 : jSc} {k9 : Int32 → (Nat → Int32) → jSc → Option (Int32 × (Nat → Int32) × jSc)} (hk9 : ∀ (x1 : Int32) (S : (Nat → Int32)) (ar : jSc), k9 x1 S ar = some (r9, S9, ar9) → gL X 24 (d + 5) 9 [some (.ref 0), some (.int x1), none, none] [] (va_up sc 0 S) rf ar al Post) (hP : Post (some (.int r9)) (va_up sc 0 S9) rf ar9 al) (x1 : Int32) (S : (Nat → Int32)) (ar : jSc) (h : rF_24_42 g22 g23 g24 k9 x1 S ar = some (r9, S9, ar9)) : gL X 24 (d + 5) 42 [some (.ref 0), some (.int x1), none, none] [] (va_up sc 0 S) rf ar al Post := by
  unfold rF_24_42 at h
  refine gl_aload_n hX q_24_42 rfl rfl ?_
  refine gl_aload_n hX q_24_43 rfl rfl ?_
  refine gl_get hX q_24_44 (qf_138 (by decide)) (qs_0 hr) rfl qk_5 rfl rfl ?_
  obtain ⟨ve1, Se1, are1, e1, h⟩ := o_k3 h
  refine gl_callV hX q_24_47 (qm_141 (by decide)) rfl rfl rfl (qs_0 hr) qx_6 rfl rfl ((rt_6 hX hr hrf) _ _ _ _ _ _ _ _ _ e1 ?_)
  refine gl_istore_n (vs2 := [some (.ref 0), some (.int x1), some (.int ve1), none]) hX q_24_50 rfl rfl rfl rfl ?_
  refine gl_aload_n hX q_24_51 rfl rfl ?_
  refine gl_dup hX q_24_52 rfl rfl ?_
  refine gl_get hX q_24_53 (qf_138 (by decide)) (qs_0 hr) rfl qk_5 rfl rfl ?_
  refine gl_iconst hX q_24_56 ci_1 rfl ?_
  refine gl_iadd hX q_24_57 rfl ?_
  refine gl_put hX q_24_58 (qf_138 (by decide)) (qs_0 hr) rfl qk_5 rfl ru rfl ?_
  refine gl_aload_n hX q_24_61 rfl rfl ?_
  obtain ⟨ve2, Se2, are2, e2, h⟩ := o_k3 h
  refine gl_callV hX q_24_62 (qm_225 (by decide)) rfl rfl rfl (qs_0 hr) qx_23 rfl rfl (hg23 _ _ _  _ _ _ _ _ e2 ?_)
  refine gl_istore_n (vs2 := [some (.ref 0), some (.int x1), some (.int ve1), some (.int ve2)]) hX q_24_65 rfl rfl rfl rfl ?_
  refine gl_iload_n hX q_24_66 rfl rfl ?_
  refine gl_bipush hX q_24_67 cb_43 rfl ?_
  refine gl_ic_ne hX q_24_69 rfl rfl (fun c3 => ?_) (fun c3 => ?_)
  · have h := (if_pos c3).symm.trans h
    refine gl_iload_n hX q_24_72 rfl rfl ?_
    refine gl_iload_n hX q_24_73 rfl rfl ?_
    refine gl_iadd hX q_24_74 rfl ?_
    refine gl_goto hX q_24_75 rfl ?_
    refine gl_istore_n (vs2 := [some (.ref 0), some (.int (x1 + ve2)), some (.int ve1), some (.int ve2)]) hX q_24_81 rfl rfl rfl rfl ?_
    refine gl_aload_n hX q_24_82 rfl rfl ?_
    obtain ⟨Se4, are4, e4, h⟩ := o_k2 h
    refine gl_callV hX q_24_83 (qm_151 (by decide)) rfl rfl rfl (qs_0 hr) qx_7 rfl rfl ((rt_7 hX hr hrf) _ _ _  _ _ _ _ e4 ?_)
    refine gl_goto hX q_24_86 rfl ?_
    exact gl_weak (vs := [some (.ref 0), some (.int (x1 + ve2)), none, none]) ⟨rfl, rfl, trivial⟩ (hk9 (x1 + ve2) Se4 are4 h)
  · have h := (if_neg c3).symm.trans h
    refine gl_iload_n hX q_24_78 rfl rfl ?_
    refine gl_iload_n hX q_24_79 rfl rfl ?_
    refine gl_isub hX q_24_80 rfl ?_
    refine gl_istore_n (vs2 := [some (.ref 0), some (.int (x1 - ve2)), some (.int ve1), some (.int ve2)]) hX q_24_81 rfl rfl rfl rfl ?_
    refine gl_aload_n hX q_24_82 rfl rfl ?_
    obtain ⟨Se5, are5, e5, h⟩ := o_k2 h
    refine gl_callV hX q_24_83 (qm_151 (by decide)) rfl rfl rfl (qs_0 hr) qx_7 rfl rfl ((rt_7 hX hr hrf) _ _ _  _ _ _ _ e5 ?_)
    refine gl_goto hX q_24_86 rfl ?_
    exact gl_weak (vs := [some (.ref 0), some (.int (x1 - ve2)), none, none]) ⟨rfl, rfl, trivial⟩ (hk9 (x1 - ve2) Se5 are5 h)
def rF_24_9 (g22 : (Nat → Int32) → jSc → Option (Int32 × (Nat → Int32) × jSc)) (g23 : (Nat → Int32) → jSc → Option (Int32 × (Nat → Int32) × jSc)) (g24 : (Nat → Int32) → jSc → Option (Int32 × (Nat → Int32) × jSc)) : Nat → Int32 → (Nat → Int32) → jSc → Option (Int32 × (Nat → Int32) × jSc)
  | 0, _, _, _ => none
  | nn + 1, x1, S, ar => (if (S 7) = 0 then (o_b3 (rF_6 (S 5) S ar) (fun ve7 Se7 are7 => (if ve7 = (43 : Int32) then rF_24_42 g22 g23 g24 (fun x1_ S_ ar_ => rF_24_9 g22 g23 g24 nn x1_ S_ ar_) x1 Se7 are7 else (o_b3 (rF_6 (Se7 5) Se7 are7) (fun ve9 Se9 are9 => (if ve9 = (45 : Int32) then rF_24_42 g22 g23 g24 (fun x1_ S_ ar_ => rF_24_9 g22 g23 g24 nn x1_ S_ ar_) x1 Se9 are9 else some (x1, Se9, are9))))))) else some (x1, S, ar))
set_option maxHeartbeats 4000000 in
theorem rt_24_9 {X : jX} (hX : j_LK (g_n X) (g_L X)) (hr : g_rs X = r_sh) {rf : jRf} (hrf : rf 0 = r_rf) {d : Nat} {g22 : (Nat → Int32) → jSc → Option (Int32 × (Nat → Int32) × jSc)} (hg22 : rT_22 X rf g22 (d + 4)) {g23 : (Nat → Int32) → jSc → Option (Int32 × (Nat → Int32) × jSc)} (hg23 : rT_23 X rf g23 (d + 4)) {g24 : (Nat → Int32) → jSc → Option (Int32 × (Nat → Int32) × jSc)} (hg24 : rT_24 X rf g24 (d + 4)) {sc : jSc} {al : jAl} {Post : jPo} {r9 : Int32} {S9 : (Nat → Int32)} {ar9 : jSc} (hP : Post (some (.int r9)) (va_up sc 0 S9) rf ar9 al) : ∀ (nn : Nat) (x1 : Int32) (S : (Nat → Int32)) (ar : jSc), rF_24_9 g22 g23 g24 nn x1 S ar = some (r9, S9, ar9) → gL X 24 (d + 5) 9 [some (.ref 0), some (.int x1), none, none] [] (va_up sc 0 S) rf ar al Post := by
  intro nn
  induction nn with
  | zero =>
    intro x1 S ar h
    have h : (none : Option (Int32 × (Nat → Int32) × jSc)) = some _ := h
    cases h
  | succ nn ih =>
    intro x1 S ar h
    unfold rF_24_9 at h
    refine gl_aload_n hX q_24_9 rfl rfl ?_
    refine gl_get hX q_24_10 (qf_145 (by decide)) (qs_0 hr) rfl qk_7 rfl rfl ?_
    refine gl_if_ne hX q_24_13 rfl rfl (fun c6 => ?_) (fun c6 => ?_)
    · have h := (if_pos c6).symm.trans h
      refine gl_aload_n hX q_24_16 rfl rfl ?_
      refine gl_aload_n hX q_24_17 rfl rfl ?_
      refine gl_get hX q_24_18 (qf_138 (by decide)) (qs_0 hr) rfl qk_5 rfl rfl ?_
      obtain ⟨ve7, Se7, are7, e7, h⟩ := o_k3 h
      refine gl_callV hX q_24_21 (qm_141 (by decide)) rfl rfl rfl (qs_0 hr) qx_6 rfl rfl ((rt_6 hX hr hrf) _ _ _ _ _ _ _ _ _ e7 ?_)
      refine gl_bipush hX q_24_24 cb_43 rfl ?_
      refine gl_ic_eq hX q_24_26 rfl rfl (fun c8 => ?_) (fun c8 => ?_)
      · have h := (if_pos c8).symm.trans h
        exact gl_weak (vs := [some (.ref 0), some (.int x1), none, none]) ⟨rfl, rfl, trivial⟩ (rt_24_42 hX hr hrf hg22 hg23 hg24 ih hP x1 Se7 are7 h)
      · have h := (if_neg c8).symm.trans h
        refine gl_aload_n hX q_24_29 rfl rfl ?_
        refine gl_aload_n hX q_24_30 rfl rfl ?_
        refine gl_get hX q_24_31 (qf_138 (by decide)) (qs_0 hr) rfl qk_5 rfl rfl ?_
        obtain ⟨ve9, Se9, are9, e9, h⟩ := o_k3 h
        refine gl_callV hX q_24_34 (qm_141 (by decide)) rfl rfl rfl (qs_0 hr) qx_6 rfl rfl ((rt_6 hX hr hrf) _ _ _ _ _ _ _ _ _ e9 ?_)
        refine gl_bipush hX q_24_37 cb_45 rfl ?_
        refine gl_ic_ne hX q_24_39 rfl rfl (fun c10 => ?_) (fun c10 => ?_)
        · have h := (if_pos c10).symm.trans h
          exact gl_weak (vs := [some (.ref 0), some (.int x1), none, none]) ⟨rfl, rfl, trivial⟩ (rt_24_42 hX hr hrf hg22 hg23 hg24 ih hP x1 Se9 are9 h)
        · have h := (if_neg c10).symm.trans h
          refine gl_iload_n hX q_24_89 rfl rfl ?_
          exact gl_ireturn q_24_90 (Or.inl qr_24) (by cases h; exact hP)
    · have h := (if_neg c6).symm.trans h
      refine gl_iload_n hX q_24_89 rfl rfl ?_
      exact gl_ireturn q_24_90 (Or.inl qr_24) (by cases h; exact hP)
def rF_24 (g22 : (Nat → Int32) → jSc → Option (Int32 × (Nat → Int32) × jSc)) (g23 : (Nat → Int32) → jSc → Option (Int32 × (Nat → Int32) × jSc)) (g24 : (Nat → Int32) → jSc → Option (Int32 × (Nat → Int32) × jSc)) (S : (Nat → Int32)) (ar : jSc) : Option (Int32 × (Nat → Int32) × jSc) :=
  (o_b3 (g23 S ar) (fun ve11 Se11 are11 => (o_b2 (rF_7 Se11 are11) (fun Se12 are12 => rF_24_9 g22 g23 g24 oF ve11 Se12 are12))))
set_option maxHeartbeats 4000000 in
theorem rt_24 {X : jX} (hX : j_LK (g_n X) (g_L X)) (hr : g_rs X = r_sh) {rf : jRf} (hrf : rf 0 = r_rf) {d : Nat} {g22 : (Nat → Int32) → jSc → Option (Int32 × (Nat → Int32) × jSc)} (hg22 : rT_22 X rf g22 (d + 4)) {g23 : (Nat → Int32) → jSc → Option (Int32 × (Nat → Int32) × jSc)} (hg23 : rT_23 X rf g23 (d + 4)) {g24 : (Nat → Int32) → jSc → Option (Int32 × (Nat → Int32) × jSc)} (hg24 : rT_24 X rf g24 (d + 4)) : rT_24 X rf (rF_24 g22 g23 g24) (d + 5) := by
  intro sc al Post  S ar r9 S9 ar9 h hP
  unfold rF_24 at h
  refine gl_entry (m := 3) rfl ?_
  show gL X 24 (d + 5) 0 [some (.ref 0), none, none, none] [] (va_up sc 0 S) rf ar al Post
  refine gl_aload_n hX q_24_0 rfl rfl ?_
  obtain ⟨ve11, Se11, are11, e11, h⟩ := o_k3 h
  refine gl_callV hX q_24_1 (qm_225 (by decide)) rfl rfl rfl (qs_0 hr) qx_23 rfl rfl (hg23 _ _ _  _ _ _ _ _ e11 ?_)
  refine gl_istore_n (vs2 := [some (.ref 0), some (.int ve11), none, none]) hX q_24_4 rfl rfl rfl rfl ?_
  refine gl_aload_n hX q_24_5 rfl rfl ?_
  obtain ⟨Se12, are12, e12, h⟩ := o_k2 h
  refine gl_callV hX q_24_6 (qm_151 (by decide)) rfl rfl rfl (qs_0 hr) qx_7 rfl rfl ((rt_7 hX hr hrf) _ _ _  _ _ _ _ e12 ?_)
  exact gl_weak (vs := [some (.ref 0), some (.int ve11), none, none]) ⟨rfl, rfl, trivial⟩ (rt_24_9 hX hr hrf hg22 hg23 hg24 hP oF ve11 Se12 are12 h)
def rG_22 : Nat → ((Nat → Int32) → jSc → Option (Int32 × (Nat → Int32) × jSc)) × ((Nat → Int32) → jSc → Option (Int32 × (Nat → Int32) × jSc)) × ((Nat → Int32) → jSc → Option (Int32 × (Nat → Int32) × jSc))
  | 0 => (fun _ _ => none, fun _ _ => none, fun _ _ => none)
  | n + 1 => (rF_22 (rG_22 n).1 (rG_22 n).2.1 (rG_22 n).2.2, rF_23 (rG_22 n).1 (rG_22 n).2.1 (rG_22 n).2.2, rF_24 (rG_22 n).1 (rG_22 n).2.1 (rG_22 n).2.2)
theorem rtG_22 {X : jX} (hX : j_LK (g_n X) (g_L X)) (hr : g_rs X = r_sh) {rf : jRf} (hrf : rf 0 = r_rf) {d : Nat} : ∀ n : Nat, rT_22 X rf (rG_22 n).1 (d + n + 4) ∧ rT_23 X rf (rG_22 n).2.1 (d + n + 4) ∧ rT_24 X rf (rG_22 n).2.2 (d + n + 4) := by
  intro n
  induction n with
  | zero =>
    refine ⟨?_, ?_, ?_⟩
    · intro sc al Post S ar r9 S9 ar9 h hP
      cases (show (none : Option (Int32 × (Nat → Int32) × jSc)) = some _ from h)
    · intro sc al Post S ar r9 S9 ar9 h hP
      cases (show (none : Option (Int32 × (Nat → Int32) × jSc)) = some _ from h)
    · intro sc al Post S ar r9 S9 ar9 h hP
      cases (show (none : Option (Int32 × (Nat → Int32) × jSc)) = some _ from h)
  | succ n ih =>
    have e : d + n + 4 + 1 = d + (n + 1) + 4 := by omega
    rw [← e]
    exact ⟨rt_22 hX hr hrf (d := d + n) ih.1 ih.2.1 ih.2.2, rt_23 hX hr hrf (d := d + n) ih.1 ih.2.1 ih.2.2, rt_24 hX hr hrf (d := d + n) ih.1 ih.2.1 ih.2.2⟩
