/-! THE REFERENCE: its methods as functions, and that the machine does what they say. -/
/-- ClickOrdersModel.beginRun()V -/
def rT_58 (X : jX) (rf : jRf) (F : (Nat → Int32) → jSc → Option ((Nat → Int32) × jSc)) (e : Nat) : Prop := ∀ (sc : jSc) (al : jAl) (Post : jPo) (S : (Nat → Int32)) (ar : jSc) (S9 : (Nat → Int32)) (ar9 : jSc), F S ar = some (S9, ar9) → Post none (va_up sc 0 S9) rf ar9 al → gW X 58 e 0 (j_av [.ref 0]) [] (va_up sc 0 S) rf ar al Post
def rF_58_24 : Nat → Int32 → (Nat → Int32) → jSc → Option ((Nat → Int32) × jSc)
  | 0, _, _, _ => none
  | nn + 1, x1, S, ar => (if (10 : Int32) ≤ x1 then some (S, ar) else (if iB x1 53 then (if iB x1 10 then rF_58_24 nn (x1 + (1 : Int32)) S (j_u2 ar 20 (iN x1) (ar 14 (iN x1))) else none) else none))
set_option maxHeartbeats 4000000 in
theorem rt_58_24 {X : jX} (hX : j_LK (g_n X) (g_L X)) (hr : g_rs X = r_sh) {rf : jRf} (hrf : rf 0 = r_rf) {d : Nat} {sc : jSc} {al : jAl} {Post : jPo} {S9 : (Nat → Int32)} {ar9 : jSc} (hP : Post none (va_up sc 0 S9) rf ar9 al) : ∀ (nn : Nat) (x1 : Int32) (S : (Nat → Int32)) (ar : jSc), rF_58_24 nn x1 S ar = some (S9, ar9) → gL X 58 (d + 128) 24 [some (.ref 0), some (.int x1)] [] (va_up sc 0 S) rf ar al Post := by
  intro nn
  induction nn with
  | zero =>
    intro x1 S ar h
    have h : (none : Option ((Nat → Int32) × jSc)) = some _ := h
    cases h
  | succ nn ih =>
    intro x1 S ar h
    unfold rF_58_24 at h
    refine gl_iload_n hX q_58_24 rfl rfl ?_
    refine gl_bipush hX q_58_25 cb_10 rfl ?_
    refine gl_ic_ge hX q_58_27 rfl rfl (fun c1 => ?_) (fun c1 => ?_)
    · have h := (if_pos c1).symm.trans h
      exact gl_return q_58_50 qr_58 (by cases h; exact hP)
    · have h := (if_neg c1).symm.trans h
      refine gl_aload_n hX q_58_30 rfl rfl ?_
      refine gl_getA hX q_58_31 (qf_63 (by decide)) (qs_0 hr) rfl qk_36 ((congrFun hrf 36).trans qa_36) rfl ?_
      refine gl_iconst hX q_58_34 ci_0 rfl ?_
      refine gl_aaload hX q_58_35 (qs_19 hr) (show iB (0 : Int32) 41 by decide) (Or.inr ⟨Or.inl rfl, qs_0 hr⟩) (qo_19 (iB_lt (show iB (0 : Int32) 41 by decide))) rfl ?_
      refine gl_iload_n hX q_58_36 rfl rfl ?_
      refine gl_aload_n hX q_58_37 rfl rfl ?_
      refine gl_getA hX q_58_38 (qf_48 (by decide)) (qs_0 hr) rfl qk_30 ((congrFun hrf 30).trans qa_30) rfl ?_
      refine gl_iload_n hX q_58_41 rfl rfl ?_
      obtain ⟨c2, h⟩ := o_ck h
      refine gl_iaload hX q_58_42 (qs_14 hr) c2 rfl rfl ?_
      obtain ⟨c3, h⟩ := o_ck h
      refine gl_iastore (ar2 := (j_u2 ar 20 (iN x1) (ar 14 (iN x1)))) hX q_58_43 (qs_states hr (i := 0) (by decide)) c3 rfl rfl ?_
      refine gl_iinc (vs2 := [some (.ref 0), some (.int (x1 + (1 : Int32)))]) hX q_58_44 rfl rfl rfl ci_1 rfl rfl ?_
      refine gl_goto hX q_58_47 rfl ?_
      exact gl_weak (vs := [some (.ref 0), some (.int (x1 + (1 : Int32)))]) ⟨rfl, rfl, trivial⟩ (ih (x1 + (1 : Int32)) S (j_u2 ar 20 (iN x1) (ar 14 (iN x1))) h)
def rF_58 (S : (Nat → Int32)) (ar : jSc) : Option ((Nat → Int32) × jSc) :=
  (o_b2 (rF_49 (upd (upd S 16 (0 : Int32)) 31 (0 : Int32)) ar) (fun Se4 are4 => (o_b2 (rF_56 14 53 Se4 are4) (fun Se5 are5 => rF_58_24 oF (0 : Int32) Se5 are5))))
set_option maxHeartbeats 4000000 in
theorem rt_58 {X : jX} (hX : j_LK (g_n X) (g_L X)) (hr : g_rs X = r_sh) {rf : jRf} (hrf : rf 0 = r_rf) {d : Nat} : rT_58 X rf rF_58 (d + 128) := by
  intro sc al Post  S ar S9 ar9 h hP
  unfold rF_58 at h
  refine gl_entry (m := 1) rfl ?_
  show gL X 58 (d + 128) 0 [some (.ref 0), none] [] (va_up sc 0 S) rf ar al Post
  refine gl_aload_n hX q_58_0 rfl rfl ?_
  refine gl_iconst hX q_58_1 ci_0 rfl ?_
  refine gl_put hX q_58_2 (qf_316 (by decide)) (qs_0 hr) rfl qk_16 rfl ru rfl ?_
  refine gl_aload_n hX q_58_5 rfl rfl ?_
  refine gl_iconst hX q_58_6 ci_0 rfl ?_
  refine gl_put hX q_58_7 (qf_341 (by decide)) (qs_0 hr) rfl qk_31 rfl ru rfl ?_
  refine gl_aload_n hX q_58_10 rfl rfl ?_
  obtain ⟨Se4, are4, e4, h⟩ := o_k2 h
  refine gl_callV hX q_58_11 (qm_344 (by decide)) rfl rfl rfl (qs_0 hr) qx_49 rfl rfl ((rt_49 hX hr hrf) _ _ _  _ _ _ _ e4 ?_)
  refine gl_aload_n hX q_58_14 rfl rfl ?_
  refine gl_aload_n hX q_58_15 rfl rfl ?_
  refine gl_getA hX q_58_16 (qf_48 (by decide)) (qs_0 hr) rfl qk_30 ((congrFun hrf 30).trans qa_30) rfl ?_
  obtain ⟨Se5, are5, e5, h⟩ := o_k2 h
  refine gl_callV hX q_58_19 (qm_347 (by decide)) rfl rfl rfl (qs_0 hr) qx_56 rfl rfl ((rt_56 hX hr hrf) _ _ _ _ _ (qs_14 hr) _ _ _ _ e5 ?_)
  refine gl_iconst hX q_58_22 ci_0 rfl ?_
  refine gl_istore_n (vs2 := [some (.ref 0), some (.int (0 : Int32))]) hX q_58_23 rfl rfl rfl rfl ?_
  exact gl_weak (vs := [some (.ref 0), some (.int (0 : Int32))]) ⟨rfl, rfl, trivial⟩ (rt_58_24 hX hr hrf hP oF (0 : Int32) Se5 are5 h)
/-- ClickOrdersModel.beginWindows()V -/
def rT_109 (X : jX) (rf : jRf) (F : (Nat → Int32) → jSc → Option ((Nat → Int32) × jSc)) (e : Nat) : Prop := ∀ (sc : jSc) (al : jAl) (Post : jPo) (S : (Nat → Int32)) (ar : jSc) (S9 : (Nat → Int32)) (ar9 : jSc), F S ar = some (S9, ar9) → Post none (va_up sc 0 S9) rf ar9 al → gW X 109 e 0 (j_av [.ref 0]) [] (va_up sc 0 S) rf ar al Post
def rF_109_99 : Nat → Int32 → (Nat → Int32) → jSc → Option ((Nat → Int32) × jSc)
  | 0, _, _, _ => none
  | nn + 1, x1, S, ar => (if (37 : Int32) ≤ x1 then some ((upd S 29 (-1 : Int32)), ar) else (if iB x1 53 then (if iB x1 53 then rF_109_99 nn (x1 + (1 : Int32)) S (j_u2 ar 714 (iN x1) (ar 13 (iN x1))) else none) else none))
set_option maxHeartbeats 4000000 in
theorem rt_109_99 {X : jX} (hX : j_LK (g_n X) (g_L X)) (hr : g_rs X = r_sh) {rf : jRf} (hrf : rf 0 = r_rf) {d : Nat} {sc : jSc} {al : jAl} {Post : jPo} {S9 : (Nat → Int32)} {ar9 : jSc} (hP : Post none (va_up sc 0 S9) rf ar9 al) : ∀ (nn : Nat) (x1 : Int32) (S : (Nat → Int32)) (ar : jSc), rF_109_99 nn x1 S ar = some (S9, ar9) → gL X 109 (d + 127) 99 [some (.ref 0), some (.int x1)] [] (va_up sc 0 S) rf ar al Post := by
  intro nn
  induction nn with
  | zero =>
    intro x1 S ar h
    have h : (none : Option ((Nat → Int32) × jSc)) = some _ := h
    cases h
  | succ nn ih =>
    intro x1 S ar h
    unfold rF_109_99 at h
    refine gl_iload_n hX q_109_99 rfl rfl ?_
    refine gl_bipush hX q_109_100 cb_37 rfl ?_
    refine gl_ic_ge hX q_109_102 rfl rfl (fun c1 => ?_) (fun c1 => ?_)
    · have h := (if_pos c1).symm.trans h
      refine gl_aload_n hX q_109_125 rfl rfl ?_
      refine gl_iconst hX q_109_126 ci_m1 rfl ?_
      refine gl_put hX q_109_127 (qf_45 (by decide)) (qs_0 hr) rfl qk_29 rfl ru rfl ?_
      exact gl_return q_109_130 qr_109 (by cases h; exact hP)
    · have h := (if_neg c1).symm.trans h
      refine gl_aload_n hX q_109_105 rfl rfl ?_
      refine gl_getA hX q_109_106 (qf_105 (by decide)) (qs_0 hr) rfl qk_54 ((congrFun hrf 54).trans qa_54) rfl ?_
      refine gl_iconst hX q_109_109 ci_0 rfl ?_
      refine gl_aaload hX q_109_110 (qs_713 hr) (show iB (0 : Int32) 2 by decide) (Or.inr ⟨Or.inl rfl, qs_0 hr⟩) (qo_713 (iB_lt (show iB (0 : Int32) 2 by decide))) rfl ?_
      refine gl_iload_n hX q_109_111 rfl rfl ?_
      refine gl_aload_n hX q_109_112 rfl rfl ?_
      refine gl_getA hX q_109_113 (qf_42 (by decide)) (qs_0 hr) rfl qk_21 ((congrFun hrf 21).trans qa_21) rfl ?_
      refine gl_iload_n hX q_109_116 rfl rfl ?_
      obtain ⟨c2, h⟩ := o_ck h
      refine gl_iaload hX q_109_117 (qs_13 hr) c2 rfl rfl ?_
      obtain ⟨c3, h⟩ := o_ck h
      refine gl_iastore (ar2 := (j_u2 ar 714 (iN x1) (ar 13 (iN x1)))) hX q_109_118 (qs_windowPage hr (i := 0) (by decide)) c3 rfl rfl ?_
      refine gl_iinc (vs2 := [some (.ref 0), some (.int (x1 + (1 : Int32)))]) hX q_109_119 rfl rfl rfl ci_1 rfl rfl ?_
      refine gl_goto hX q_109_122 rfl ?_
      exact gl_weak (vs := [some (.ref 0), some (.int (x1 + (1 : Int32)))]) ⟨rfl, rfl, trivial⟩ (ih (x1 + (1 : Int32)) S (j_u2 ar 714 (iN x1) (ar 13 (iN x1))) h)
def rF_109_12 : Nat → Int32 → (Nat → Int32) → jSc → Option ((Nat → Int32) × jSc)
  | 0, _, _, _ => none
  | nn + 1, x1, S, ar => (if (4 : Int32) ≤ x1 then (o_b2 (rF_48 (upd S 29 (0 : Int32)) ar) (fun Se5 are5 => (o_b2 (rF_56 714 53 Se5 are5) (fun Se6 are6 => (o_b2 (rF_48 (upd Se6 29 (1 : Int32)) are6) (fun Se7 are7 => (o_b2 (rF_56 715 53 Se7 are7) (fun Se8 are8 => rF_109_99 oF (33 : Int32) Se8 are8)))))))) else (if iB x1 4 then (if iB x1 4 then (if iB x1 4 then (if iB ((33 : Int32) + x1) 53 then rF_109_12 nn (x1 + (1 : Int32)) S (j_u2 (j_u2 (j_u2 (j_u2 ar 716 (iN x1) (-1 : Int32)) 718 (iN x1) (0 : Int32)) 719 (iN x1) (0 : Int32)) 13 (iN ((33 : Int32) + x1)) (0 : Int32)) else none) else none) else none) else none))
set_option maxHeartbeats 4000000 in
theorem rt_109_12 {X : jX} (hX : j_LK (g_n X) (g_L X)) (hr : g_rs X = r_sh) {rf : jRf} (hrf : rf 0 = r_rf) {d : Nat} {sc : jSc} {al : jAl} {Post : jPo} {S9 : (Nat → Int32)} {ar9 : jSc} (hP : Post none (va_up sc 0 S9) rf ar9 al) : ∀ (nn : Nat) (x1 : Int32) (S : (Nat → Int32)) (ar : jSc), rF_109_12 nn x1 S ar = some (S9, ar9) → gL X 109 (d + 127) 12 [some (.ref 0), some (.int x1)] [] (va_up sc 0 S) rf ar al Post := by
  intro nn
  induction nn with
  | zero =>
    intro x1 S ar h
    have h : (none : Option ((Nat → Int32) × jSc)) = some _ := h
    cases h
  | succ nn ih =>
    intro x1 S ar h
    unfold rF_109_12 at h
    refine gl_iload_n hX q_109_12 rfl rfl ?_
    refine gl_iconst hX q_109_13 ci_4 rfl ?_
    refine gl_ic_ge hX q_109_14 rfl rfl (fun c4 => ?_) (fun c4 => ?_)
    · have h := (if_pos c4).symm.trans h
      refine gl_aload_n hX q_109_58 rfl rfl ?_
      refine gl_iconst hX q_109_59 ci_0 rfl ?_
      refine gl_put hX q_109_60 (qf_45 (by decide)) (qs_0 hr) rfl qk_29 rfl ru rfl ?_
      refine gl_aload_n hX q_109_63 rfl rfl ?_
      obtain ⟨Se5, are5, e5, h⟩ := o_k2 h
      refine gl_callV hX q_109_64 (qm_325 (by decide)) rfl rfl rfl (qs_0 hr) qx_48 rfl rfl ((rt_48 hX hr hrf) _ _ _  _ _ _ _ e5 ?_)
      refine gl_aload_n hX q_109_67 rfl rfl ?_
      refine gl_aload_n hX q_109_68 rfl rfl ?_
      refine gl_getA hX q_109_69 (qf_105 (by decide)) (qs_0 hr) rfl qk_54 ((congrFun hrf 54).trans qa_54) rfl ?_
      refine gl_iconst hX q_109_72 ci_0 rfl ?_
      refine gl_aaload hX q_109_73 (qs_713 hr) (show iB (0 : Int32) 2 by decide) (Or.inr ⟨Or.inl rfl, qs_0 hr⟩) (qo_713 (iB_lt (show iB (0 : Int32) 2 by decide))) rfl ?_
      obtain ⟨Se6, are6, e6, h⟩ := o_k2 h
      refine gl_callV hX q_109_74 (qm_347 (by decide)) rfl rfl rfl (qs_0 hr) qx_56 rfl rfl ((rt_56 hX hr hrf) _ _ _ _ _ (qs_windowPage hr (i := 0) (by decide)) _ _ _ _ e6 ?_)
      refine gl_aload_n hX q_109_77 rfl rfl ?_
      refine gl_iconst hX q_109_78 ci_1 rfl ?_
      refine gl_put hX q_109_79 (qf_45 (by decide)) (qs_0 hr) rfl qk_29 rfl ru rfl ?_
      refine gl_aload_n hX q_109_82 rfl rfl ?_
      obtain ⟨Se7, are7, e7, h⟩ := o_k2 h
      refine gl_callV hX q_109_83 (qm_325 (by decide)) rfl rfl rfl (qs_0 hr) qx_48 rfl rfl ((rt_48 hX hr hrf) _ _ _  _ _ _ _ e7 ?_)
      refine gl_aload_n hX q_109_86 rfl rfl ?_
      refine gl_aload_n hX q_109_87 rfl rfl ?_
      refine gl_getA hX q_109_88 (qf_105 (by decide)) (qs_0 hr) rfl qk_54 ((congrFun hrf 54).trans qa_54) rfl ?_
      refine gl_iconst hX q_109_91 ci_1 rfl ?_
      refine gl_aaload hX q_109_92 (qs_713 hr) (show iB (1 : Int32) 2 by decide) (Or.inr ⟨Or.inl rfl, qs_0 hr⟩) (qo_713 (iB_lt (show iB (1 : Int32) 2 by decide))) rfl ?_
      obtain ⟨Se8, are8, e8, h⟩ := o_k2 h
      refine gl_callV hX q_109_93 (qm_347 (by decide)) rfl rfl rfl (qs_0 hr) qx_56 rfl rfl ((rt_56 hX hr hrf) _ _ _ _ _ (qs_windowPage hr (i := 1) (by decide)) _ _ _ _ e8 ?_)
      refine gl_bipush hX q_109_96 cb_33 rfl ?_
      refine gl_istore_n (vs2 := [some (.ref 0), some (.int (33 : Int32))]) hX q_109_98 rfl rfl rfl rfl ?_
      exact gl_weak (vs := [some (.ref 0), some (.int (33 : Int32))]) ⟨rfl, rfl, trivial⟩ (rt_109_99 hX hr hrf hP oF (33 : Int32) Se8 are8 h)
    · have h := (if_neg c4).symm.trans h
      refine gl_aload_n hX q_109_17 rfl rfl ?_
      refine gl_getA hX q_109_18 (qf_108 (by decide)) (qs_0 hr) rfl qk_55 ((congrFun hrf 55).trans qa_55) rfl ?_
      refine gl_iload_n hX q_109_21 rfl rfl ?_
      refine gl_iconst hX q_109_22 ci_m1 rfl ?_
      obtain ⟨c9, h⟩ := o_ck h
      refine gl_iastore (ar2 := (j_u2 ar 716 (iN x1) (-1 : Int32))) hX q_109_23 (qs_716 hr) c9 rfl rfl ?_
      refine gl_aload_n hX q_109_24 rfl rfl ?_
      refine gl_getA hX q_109_25 (qf_111 (by decide)) (qs_0 hr) rfl qk_56 ((congrFun hrf 56).trans qa_56) rfl ?_
      refine gl_iconst hX q_109_28 ci_0 rfl ?_
      refine gl_aaload hX q_109_29 (qs_717 hr) (show iB (0 : Int32) 2 by decide) (Or.inr ⟨Or.inr rfl, qs_0 hr⟩) (qo_717 (iB_lt (show iB (0 : Int32) 2 by decide))) rfl ?_
      refine gl_iload_n hX q_109_30 rfl rfl ?_
      refine gl_iconst hX q_109_31 ci_0 rfl ?_
      obtain ⟨c10, h⟩ := o_ck h
      refine gl_bastore (ar2 := (j_u2 (j_u2 ar 716 (iN x1) (-1 : Int32)) 718 (iN x1) (0 : Int32))) hX q_109_32 (qs_isAsked hr (i := 0) (by decide)) c10 (Or.inl rfl) rfl rfl ?_
      refine gl_aload_n hX q_109_33 rfl rfl ?_
      refine gl_getA hX q_109_34 (qf_111 (by decide)) (qs_0 hr) rfl qk_56 ((congrFun hrf 56).trans qa_56) rfl ?_
      refine gl_iconst hX q_109_37 ci_1 rfl ?_
      refine gl_aaload hX q_109_38 (qs_717 hr) (show iB (1 : Int32) 2 by decide) (Or.inr ⟨Or.inr rfl, qs_0 hr⟩) (qo_717 (iB_lt (show iB (1 : Int32) 2 by decide))) rfl ?_
      refine gl_iload_n hX q_109_39 rfl rfl ?_
      refine gl_iconst hX q_109_40 ci_0 rfl ?_
      obtain ⟨c11, h⟩ := o_ck h
      refine gl_bastore (ar2 := (j_u2 (j_u2 (j_u2 ar 716 (iN x1) (-1 : Int32)) 718 (iN x1) (0 : Int32)) 719 (iN x1) (0 : Int32))) hX q_109_41 (qs_isAsked hr (i := 1) (by decide)) c11 (Or.inl rfl) rfl rfl ?_
      refine gl_aload_n hX q_109_42 rfl rfl ?_
      refine gl_getA hX q_109_43 (qf_42 (by decide)) (qs_0 hr) rfl qk_21 ((congrFun hrf 21).trans qa_21) rfl ?_
      refine gl_bipush hX q_109_46 cb_33 rfl ?_
      refine gl_iload_n hX q_109_48 rfl rfl ?_
      refine gl_iadd hX q_109_49 rfl ?_
      refine gl_iconst hX q_109_50 ci_0 rfl ?_
      obtain ⟨c12, h⟩ := o_ck h
      refine gl_iastore (ar2 := (j_u2 (j_u2 (j_u2 (j_u2 ar 716 (iN x1) (-1 : Int32)) 718 (iN x1) (0 : Int32)) 719 (iN x1) (0 : Int32)) 13 (iN ((33 : Int32) + x1)) (0 : Int32))) hX q_109_51 (qs_13 hr) c12 rfl rfl ?_
      refine gl_iinc (vs2 := [some (.ref 0), some (.int (x1 + (1 : Int32)))]) hX q_109_52 rfl rfl rfl ci_1 rfl rfl ?_
      refine gl_goto hX q_109_55 rfl ?_
      exact gl_weak (vs := [some (.ref 0), some (.int (x1 + (1 : Int32)))]) ⟨rfl, rfl, trivial⟩ (ih (x1 + (1 : Int32)) S (j_u2 (j_u2 (j_u2 (j_u2 ar 716 (iN x1) (-1 : Int32)) 718 (iN x1) (0 : Int32)) 719 (iN x1) (0 : Int32)) 13 (iN ((33 : Int32) + x1)) (0 : Int32)) h)
def rF_109 (S : (Nat → Int32)) (ar : jSc) : Option ((Nat → Int32) × jSc) :=
  rF_109_12 oF (0 : Int32) (upd (upd S 16 (0 : Int32)) 57 (0 : Int32)) ar
set_option maxHeartbeats 4000000 in
theorem rt_109 {X : jX} (hX : j_LK (g_n X) (g_L X)) (hr : g_rs X = r_sh) {rf : jRf} (hrf : rf 0 = r_rf) {d : Nat} : rT_109 X rf rF_109 (d + 127) := by
  intro sc al Post  S ar S9 ar9 h hP
  unfold rF_109 at h
  refine gl_entry (m := 1) rfl ?_
  show gL X 109 (d + 127) 0 [some (.ref 0), none] [] (va_up sc 0 S) rf ar al Post
  refine gl_aload_n hX q_109_0 rfl rfl ?_
  refine gl_iconst hX q_109_1 ci_0 rfl ?_
  refine gl_put hX q_109_2 (qf_316 (by decide)) (qs_0 hr) rfl qk_16 rfl ru rfl ?_
  refine gl_aload_n hX q_109_5 rfl rfl ?_
  refine gl_iconst hX q_109_6 ci_0 rfl ?_
  refine gl_put hX q_109_7 (qf_294 (by decide)) (qs_0 hr) rfl qk_57 rfl ru rfl ?_
  refine gl_iconst hX q_109_10 ci_0 rfl ?_
  refine gl_istore_n (vs2 := [some (.ref 0), some (.int (0 : Int32))]) hX q_109_11 rfl rfl rfl rfl ?_
  exact gl_weak (vs := [some (.ref 0), some (.int (0 : Int32))]) ⟨rfl, rfl, trivial⟩ (rt_109_12 hX hr hrf hP oF (0 : Int32) (upd (upd S 16 (0 : Int32)) 57 (0 : Int32)) ar h)
/-- ClickOrdersModel.program(I)I -/
def rT_42 (X : jX) (rf : jRf) (F : Int32 → (Nat → Int32) → jSc → Option (Int32 × (Nat → Int32) × jSc)) (e : Nat) : Prop := ∀ (sc : jSc) (al : jAl) (Post : jPo) (x1 : Int32) (S : (Nat → Int32)) (ar : jSc) (r9 : Int32) (S9 : (Nat → Int32)) (ar9 : jSc), F x1 S ar = some (r9, S9, ar9) → Post (some (.int r9)) (va_up sc 0 S9) rf ar9 al → gW X 42 e 0 (j_av [.ref 0, .int x1]) [] (va_up sc 0 S) rf ar al Post
def rF_42_136 (x1 : Int32) (S : (Nat → Int32)) (ar : jSc) : Option (Int32 × (Nat → Int32) × jSc) :=
  (if (S 7) = 0 then (o_b2 (rF_43 x1 (upd (upd S 1 (0 : Int32)) 2 (S 8)) ar) (fun Se2 are2 => (o_b2 (rF_58 Se2 are2) (fun Se3 are3 => (o_b2 (rF_109 Se3 are3) (fun Se4 are4 => some ((are4 9 0), Se4, are4))))))) else some (((S 7) - (10 : Int32)), (upd (upd S 1 (0 : Int32)) 2 (S 8)), ar))
set_option maxHeartbeats 4000000 in
theorem rt_42_136 {X : jX} (hX : j_LK (g_n X) (g_L X)) (hr : g_rs X = r_sh) {rf : jRf} (hrf : rf 0 = r_rf) {d : Nat} {sc : jSc} {al : jAl} {Post : jPo} {r9 : Int32} {S9 : (Nat → Int32)} {ar9 : jSc} (hP : Post (some (.int r9)) (va_up sc 0 S9) rf ar9 al) (x1 : Int32) (S : (Nat → Int32)) (ar : jSc) (h : rF_42_136 x1 S ar = some (r9, S9, ar9)) : gL X 42 (d + 129) 136 [some (.ref 0), some (.int x1), none] [] (va_up sc 0 S) rf ar al Post := by
  unfold rF_42_136 at h
  refine gl_aload_n hX q_42_136 rfl rfl ?_
  refine gl_iconst hX q_42_137 ci_0 rfl ?_
  refine gl_put hX q_42_138 (qf_129 (by decide)) (qs_0 hr) rfl qk_1 rfl ru rfl ?_
  refine gl_aload_n hX q_42_141 rfl rfl ?_
  refine gl_aload_n hX q_42_142 rfl rfl ?_
  refine gl_get hX q_42_143 (qf_148 (by decide)) (qs_0 hr) rfl qk_8 rfl rfl ?_
  refine gl_put hX q_42_146 (qf_11 (by decide)) (qs_0 hr) rfl qk_2 rfl ru rfl ?_
  refine gl_aload_n hX q_42_149 rfl rfl ?_
  refine gl_get hX q_42_150 (qf_145 (by decide)) (qs_0 hr) rfl qk_7 rfl rfl ?_
  refine gl_if_eq hX q_42_153 rfl rfl (fun c1 => ?_) (fun c1 => ?_)
  · have h := (if_pos c1).symm.trans h
    refine gl_aload_n hX q_42_164 rfl rfl ?_
    refine gl_iload_n hX q_42_165 rfl rfl ?_
    obtain ⟨Se2, are2, e2, h⟩ := o_k2 h
    refine gl_callV hX q_42_166 (qm_313 (by decide)) rfl rfl rfl (qs_0 hr) qx_43 rfl rfl ((rt_43 hX hr hrf) _ _ _ _ _ _ _ _ e2 ?_)
    refine gl_aload_n hX q_42_169 rfl rfl ?_
    obtain ⟨Se3, are3, e3, h⟩ := o_k2 h
    refine gl_callV hX q_42_170 (qm_120 (by decide)) rfl rfl rfl (qs_0 hr) qx_58 rfl rfl ((rt_58 hX hr hrf) _ _ _  _ _ _ _ e3 ?_)
    refine gl_aload_n hX q_42_173 rfl rfl ?_
    obtain ⟨Se4, are4, e4, h⟩ := o_k2 h
    refine gl_callV hX q_42_174 (qm_123 (by decide)) rfl rfl rfl (qs_0 hr) qx_109 rfl rfl ((rt_109 hX hr hrf) _ _ _  _ _ _ _ e4 ?_)
    refine gl_aload_n hX q_42_177 rfl rfl ?_
    refine gl_getA hX q_42_178 (qf_30 (by decide)) (qs_0 hr) rfl qk_13 ((congrFun hrf 13).trans qa_13) rfl ?_
    refine gl_iconst hX q_42_181 ci_0 rfl ?_
    refine gl_iaload hX q_42_182 (qs_9 hr) (by decide) rfl rfl ?_
    exact gl_ireturn q_42_183 (Or.inl qr_42) (by cases h; exact hP)
  · have h := (if_neg c1).symm.trans h
    refine gl_aload_n hX q_42_156 rfl rfl ?_
    refine gl_get hX q_42_157 (qf_145 (by decide)) (qs_0 hr) rfl qk_7 rfl rfl ?_
    refine gl_bipush hX q_42_160 cb_10 rfl ?_
    refine gl_isub hX q_42_162 rfl ?_
    exact gl_ireturn q_42_163 (Or.inl qr_42) (by cases h; exact hP)
def rF_42_107 : Nat → Int32 → (Nat → Int32) → jSc → Option (Int32 × (Nat → Int32) × jSc)
  | 0, _, _, _ => none
  | nn + 1, x1, S, ar => (if (S 7) = 0 then (if (S 3) ≤ (S 5) then rF_42_136 x1 S ar else (o_b2 (rF_41 S ar) (fun Se7 are7 => (o_b2 (rF_7 Se7 are7) (fun Se8 are8 => rF_42_107 nn x1 Se8 are8))))) else rF_42_136 x1 S ar)
set_option maxHeartbeats 4000000 in
theorem rt_42_107 {X : jX} (hX : j_LK (g_n X) (g_L X)) (hr : g_rs X = r_sh) {rf : jRf} (hrf : rf 0 = r_rf) {d : Nat} {sc : jSc} {al : jAl} {Post : jPo} {r9 : Int32} {S9 : (Nat → Int32)} {ar9 : jSc} (hP : Post (some (.int r9)) (va_up sc 0 S9) rf ar9 al) : ∀ (nn : Nat) (x1 : Int32) (S : (Nat → Int32)) (ar : jSc), rF_42_107 nn x1 S ar = some (r9, S9, ar9) → gL X 42 (d + 129) 107 [some (.ref 0), some (.int x1), none] [] (va_up sc 0 S) rf ar al Post := by
  intro nn
  induction nn with
  | zero =>
    intro x1 S ar h
    have h : (none : Option (Int32 × (Nat → Int32) × jSc)) = some _ := h
    cases h
  | succ nn ih =>
    intro x1 S ar h
    unfold rF_42_107 at h
    refine gl_aload_n hX q_42_107 rfl rfl ?_
    refine gl_get hX q_42_108 (qf_145 (by decide)) (qs_0 hr) rfl qk_7 rfl rfl ?_
    refine gl_if_ne hX q_42_111 rfl rfl (fun c5 => ?_) (fun c5 => ?_)
    · have h := (if_pos c5).symm.trans h
      refine gl_aload_n hX q_42_114 rfl rfl ?_
      refine gl_get hX q_42_115 (qf_138 (by decide)) (qs_0 hr) rfl qk_5 rfl rfl ?_
      refine gl_aload_n hX q_42_118 rfl rfl ?_
      refine gl_get hX q_42_119 (qf_132 (by decide)) (qs_0 hr) rfl qk_3 rfl rfl ?_
      refine gl_ic_ge hX q_42_122 rfl rfl (fun c6 => ?_) (fun c6 => ?_)
      · have h := (if_pos c6).symm.trans h
        exact gl_weak (vs := [some (.ref 0), some (.int x1), none]) ⟨rfl, rfl, trivial⟩ (rt_42_136 hX hr hrf hP x1 S ar h)
      · have h := (if_neg c6).symm.trans h
        refine gl_aload_n hX q_42_125 rfl rfl ?_
        obtain ⟨Se7, are7, e7, h⟩ := o_k2 h
        refine gl_callV hX q_42_126 (qm_310 (by decide)) rfl rfl rfl (qs_0 hr) qx_41 rfl rfl ((rt_41 hX hr hrf) _ _ _  _ _ _ _ e7 ?_)
        refine gl_aload_n hX q_42_129 rfl rfl ?_
        obtain ⟨Se8, are8, e8, h⟩ := o_k2 h
        refine gl_callV hX q_42_130 (qm_151 (by decide)) rfl rfl rfl (qs_0 hr) qx_7 rfl rfl ((rt_7 hX hr hrf) _ _ _  _ _ _ _ e8 ?_)
        refine gl_goto hX q_42_133 rfl ?_
        exact gl_weak (vs := [some (.ref 0), some (.int x1), none]) ⟨rfl, rfl, trivial⟩ (ih x1 Se8 are8 h)
    · have h := (if_neg c5).symm.trans h
      exact gl_weak (vs := [some (.ref 0), some (.int x1), none]) ⟨rfl, rfl, trivial⟩ (rt_42_136 hX hr hrf hP x1 S ar h)
def rF_42_84 : Nat → Int32 → Int32 → (Nat → Int32) → jSc → Option (Int32 × (Nat → Int32) × jSc)
  | 0, _, _, _, _ => none
  | nn + 1, x1, x2, S, ar => (if (17 : Int32) ≤ x2 then (o_b2 (rF_7 S ar) (fun Se10 are10 => rF_42_107 oF x1 Se10 are10)) else (if iB x2 17 then rF_42_84 nn x1 (x2 + (1 : Int32)) S (j_u2 ar 12 (iN x2) (-1 : Int32)) else none))
set_option maxHeartbeats 4000000 in
theorem rt_42_84 {X : jX} (hX : j_LK (g_n X) (g_L X)) (hr : g_rs X = r_sh) {rf : jRf} (hrf : rf 0 = r_rf) {d : Nat} {sc : jSc} {al : jAl} {Post : jPo} {r9 : Int32} {S9 : (Nat → Int32)} {ar9 : jSc} (hP : Post (some (.int r9)) (va_up sc 0 S9) rf ar9 al) : ∀ (nn : Nat) (x1 : Int32) (x2 : Int32) (S : (Nat → Int32)) (ar : jSc), rF_42_84 nn x1 x2 S ar = some (r9, S9, ar9) → gL X 42 (d + 129) 84 [some (.ref 0), some (.int x1), some (.int x2)] [] (va_up sc 0 S) rf ar al Post := by
  intro nn
  induction nn with
  | zero =>
    intro x1 x2 S ar h
    have h : (none : Option (Int32 × (Nat → Int32) × jSc)) = some _ := h
    cases h
  | succ nn ih =>
    intro x1 x2 S ar h
    unfold rF_42_84 at h
    refine gl_iload_n hX q_42_84 rfl rfl ?_
    refine gl_bipush hX q_42_85 cb_17 rfl ?_
    refine gl_ic_ge hX q_42_87 rfl rfl (fun c9 => ?_) (fun c9 => ?_)
    · have h := (if_pos c9).symm.trans h
      refine gl_aload_n hX q_42_103 rfl rfl ?_
      obtain ⟨Se10, are10, e10, h⟩ := o_k2 h
      refine gl_callV hX q_42_104 (qm_151 (by decide)) rfl rfl rfl (qs_0 hr) qx_7 rfl rfl ((rt_7 hX hr hrf) _ _ _  _ _ _ _ e10 ?_)
      exact gl_weak (vs := [some (.ref 0), some (.int x1), none]) ⟨rfl, rfl, trivial⟩ (rt_42_107 hX hr hrf hP oF x1 Se10 are10 h)
    · have h := (if_neg c9).symm.trans h
      refine gl_aload_n hX q_42_90 rfl rfl ?_
      refine gl_getA hX q_42_91 (qf_39 (by decide)) (qs_0 hr) rfl qk_20 ((congrFun hrf 20).trans qa_20) rfl ?_
      refine gl_iload_n hX q_42_94 rfl rfl ?_
      refine gl_iconst hX q_42_95 ci_m1 rfl ?_
      obtain ⟨c11, h⟩ := o_ck h
      refine gl_iastore (ar2 := (j_u2 ar 12 (iN x2) (-1 : Int32))) hX q_42_96 (qs_12 hr) c11 rfl rfl ?_
      refine gl_iinc (vs2 := [some (.ref 0), some (.int x1), some (.int (x2 + (1 : Int32)))]) hX q_42_97 rfl rfl rfl ci_1 rfl rfl ?_
      refine gl_goto hX q_42_100 rfl ?_
      exact gl_weak (vs := [some (.ref 0), some (.int x1), some (.int (x2 + (1 : Int32)))]) ⟨rfl, rfl, rfl, trivial⟩ (ih x1 (x2 + (1 : Int32)) S (j_u2 ar 12 (iN x2) (-1 : Int32)) h)
def rF_42_23 (x1 : Int32) (y0 : Int32) (S : (Nat → Int32)) (ar : jSc) : Option (Int32 × (Nat → Int32) × jSc) :=
  (o_b3 (rF_3 y0 (1 : Int32) S ar) (fun ve12 Se12 are12 => (if ve12 = 0 then rF_42_84 oF x1 (0 : Int32) (upd (upd (upd (upd (upd (upd (upd (upd (upd (upd Se12 4 (-1 : Int32)) 3 x1) 5 (0 : Int32)) 6 (0 : Int32)) 7 (0 : Int32)) 8 (-1 : Int32)) 17 (0 : Int32)) 18 (-1 : Int32)) 19 (-1 : Int32)) 22 (0 : Int32)) are12 else some ((0 : Int32), Se12, are12))))
set_option maxHeartbeats 4000000 in
theorem rt_42_23 {X : jX} (hX : j_LK (g_n X) (g_L X)) (hr : g_rs X = r_sh) {rf : jRf} (hrf : rf 0 = r_rf) {d : Nat} {sc : jSc} {al : jAl} {Post : jPo} {r9 : Int32} {S9 : (Nat → Int32)} {ar9 : jSc} (hP : Post (some (.int r9)) (va_up sc 0 S9) rf ar9 al) (x1 : Int32) (y0 : Int32) (S : (Nat → Int32)) (ar : jSc) (h : rF_42_23 x1 y0 S ar = some (r9, S9, ar9)) : gL X 42 (d + 129) 23 [some (.ref 0), some (.int x1), none] [.int y0, .ref 0] (va_up sc 0 S) rf ar al Post := by
  unfold rF_42_23 at h
  refine gl_iconst hX q_42_23 ci_1 rfl ?_
  obtain ⟨ve12, Se12, are12, e12, h⟩ := o_k3 h
  refine gl_callV hX q_42_24 (qm_306 (by decide)) rfl rfl rfl (qs_0 hr) qx_3 rfl rfl ((rt_3 hX hr hrf) _ _ _ _ _ _ _ _ _ _ e12 ?_)
  refine gl_if_eq hX q_42_27 rfl rfl (fun c13 => ?_) (fun c13 => ?_)
  · have h := (if_pos c13).symm.trans h
    refine gl_aload_n hX q_42_32 rfl rfl ?_
    refine gl_iconst hX q_42_33 ci_m1 rfl ?_
    refine gl_put hX q_42_34 (qf_135 (by decide)) (qs_0 hr) rfl qk_4 rfl ru rfl ?_
    refine gl_aload_n hX q_42_37 rfl rfl ?_
    refine gl_iload_n hX q_42_38 rfl rfl ?_
    refine gl_put hX q_42_39 (qf_132 (by decide)) (qs_0 hr) rfl qk_3 rfl ru rfl ?_
    refine gl_aload_n hX q_42_42 rfl rfl ?_
    refine gl_iconst hX q_42_43 ci_0 rfl ?_
    refine gl_put hX q_42_44 (qf_138 (by decide)) (qs_0 hr) rfl qk_5 rfl ru rfl ?_
    refine gl_aload_n hX q_42_47 rfl rfl ?_
    refine gl_iconst hX q_42_48 ci_0 rfl ?_
    refine gl_put hX q_42_49 (qf_177 (by decide)) (qs_0 hr) rfl qk_6 rfl ru rfl ?_
    refine gl_aload_n hX q_42_52 rfl rfl ?_
    refine gl_iconst hX q_42_53 ci_0 rfl ?_
    refine gl_put hX q_42_54 (qf_145 (by decide)) (qs_0 hr) rfl qk_7 rfl ru rfl ?_
    refine gl_aload_n hX q_42_57 rfl rfl ?_
    refine gl_iconst hX q_42_58 ci_m1 rfl ?_
    refine gl_put hX q_42_59 (qf_148 (by decide)) (qs_0 hr) rfl qk_8 rfl ru rfl ?_
    refine gl_aload_n hX q_42_62 rfl rfl ?_
    refine gl_iconst hX q_42_63 ci_0 rfl ?_
    refine gl_put hX q_42_64 (qf_241 (by decide)) (qs_0 hr) rfl qk_17 rfl ru rfl ?_
    refine gl_aload_n hX q_42_67 rfl rfl ?_
    refine gl_iconst hX q_42_68 ci_m1 rfl ?_
    refine gl_put hX q_42_69 (qf_300 (by decide)) (qs_0 hr) rfl qk_18 rfl ru rfl ?_
    refine gl_aload_n hX q_42_72 rfl rfl ?_
    refine gl_iconst hX q_42_73 ci_m1 rfl ?_
    refine gl_put hX q_42_74 (qf_303 (by decide)) (qs_0 hr) rfl qk_19 rfl ru rfl ?_
    refine gl_aload_n hX q_42_77 rfl rfl ?_
    refine gl_iconst hX q_42_78 ci_0 rfl ?_
    refine gl_put hX q_42_79 (qf_180 (by decide)) (qs_0 hr) rfl qk_22 rfl ru rfl ?_
    refine gl_iconst hX q_42_82 ci_0 rfl ?_
    refine gl_istore_n (vs2 := [some (.ref 0), some (.int x1), some (.int (0 : Int32))]) hX q_42_83 rfl rfl rfl rfl ?_
    exact gl_weak (vs := [some (.ref 0), some (.int x1), some (.int (0 : Int32))]) ⟨rfl, rfl, rfl, trivial⟩ (rt_42_84 hX hr hrf hP oF x1 (0 : Int32) (upd (upd (upd (upd (upd (upd (upd (upd (upd (upd Se12 4 (-1 : Int32)) 3 x1) 5 (0 : Int32)) 6 (0 : Int32)) 7 (0 : Int32)) 8 (-1 : Int32)) 17 (0 : Int32)) 18 (-1 : Int32)) 19 (-1 : Int32)) 22 (0 : Int32)) are12 h)
  · have h := (if_neg c13).symm.trans h
    refine gl_iconst hX q_42_30 ci_0 rfl ?_
    exact gl_ireturn q_42_31 (Or.inl qr_42) (by cases h; exact hP)
def rF_42 (x1 : Int32) (S : (Nat → Int32)) (ar : jSc) : Option (Int32 × (Nat → Int32) × jSc) :=
  (o_b3 (rF_4 x1 (0 : Int32) (S 1) (upd S 0 (0 : Int32)) ar) (fun ve14 Se14 are14 => (if ve14 = 0 then rF_42_23 x1 (1 : Int32) Se14 are14 else rF_42_23 x1 (0 : Int32) Se14 are14)))
set_option maxHeartbeats 4000000 in
theorem rt_42 {X : jX} (hX : j_LK (g_n X) (g_L X)) (hr : g_rs X = r_sh) {rf : jRf} (hrf : rf 0 = r_rf) {d : Nat} : rT_42 X rf rF_42 (d + 129) := by
  intro sc al Post x1 S ar r9 S9 ar9 h hP
  unfold rF_42 at h
  refine gl_entry (m := 1) rfl ?_
  show gL X 42 (d + 129) 0 [some (.ref 0), some (.int x1), none] [] (va_up sc 0 S) rf ar al Post
  refine gl_aload_n hX q_42_0 rfl rfl ?_
  refine gl_iconst hX q_42_1 ci_0 rfl ?_
  refine gl_put hX q_42_2 (qf_126 (by decide)) (qs_0 hr) rfl qk_0 rfl ru rfl ?_
  refine gl_aload_n hX q_42_5 rfl rfl ?_
  refine gl_iload_n hX q_42_6 rfl rfl ?_
  refine gl_iconst hX q_42_7 ci_0 rfl ?_
  refine gl_aload_n hX q_42_8 rfl rfl ?_
  refine gl_get hX q_42_9 (qf_129 (by decide)) (qs_0 hr) rfl qk_1 rfl rfl ?_
  obtain ⟨ve14, Se14, are14, e14, h⟩ := o_k3 h
  refine gl_callS q_42_12 (qm_247 (by decide)) rfl rfl rfl qx_4 rfl rfl ((rt_4 hX hr hrf) _ _ _ _ _ _ _ _ _ _ _ e14 ?_)
  refine gl_if_ne hX q_42_15 rfl rfl (fun c15 => ?_) (fun c15 => ?_)
  · have h := (if_pos c15).symm.trans h
    refine gl_iconst hX q_42_18 ci_1 rfl ?_
    refine gl_goto hX q_42_19 rfl ?_
    exact gl_weak (vs := [some (.ref 0), some (.int x1), none]) ⟨rfl, rfl, trivial⟩ (rt_42_23 hX hr hrf hP x1 (1 : Int32) Se14 are14 h)
  · have h := (if_neg c15).symm.trans h
    refine gl_iconst hX q_42_22 ci_0 rfl ?_
    exact gl_weak (vs := [some (.ref 0), some (.int x1), none]) ⟨rfl, rfl, trivial⟩ (rt_42_23 hX hr hrf hP x1 (0 : Int32) Se14 are14 h)
/-- ClickOrdersModel.fault()I -/
def rT_44 (X : jX) (rf : jRf) (F : (Nat → Int32) → jSc → Option (Int32 × (Nat → Int32) × jSc)) (e : Nat) : Prop := ∀ (sc : jSc) (al : jAl) (Post : jPo) (S : (Nat → Int32)) (ar : jSc) (r9 : Int32) (S9 : (Nat → Int32)) (ar9 : jSc), F S ar = some (r9, S9, ar9) → Post (some (.int r9)) (va_up sc 0 S9) rf ar9 al → gW X 44 e 0 (j_av [.ref 0]) [] (va_up sc 0 S) rf ar al Post
def rF_44 (S : (Nat → Int32)) (ar : jSc) : Option (Int32 × (Nat → Int32) × jSc) :=
  some ((S 2), (upd S 0 (0 : Int32)), ar)
set_option maxHeartbeats 4000000 in
theorem rt_44 {X : jX} (hX : j_LK (g_n X) (g_L X)) (hr : g_rs X = r_sh) {rf : jRf} (hrf : rf 0 = r_rf) {d : Nat} : rT_44 X rf rF_44 (d + 1) := by
  intro sc al Post  S ar r9 S9 ar9 h hP
  unfold rF_44 at h
  refine gl_entry (m := 0) rfl ?_
  show gL X 44 (d + 1) 0 [some (.ref 0)] [] (va_up sc 0 S) rf ar al Post
  refine gl_aload_n hX q_44_0 rfl rfl ?_
  refine gl_iconst hX q_44_1 ci_0 rfl ?_
  refine gl_put hX q_44_2 (qf_126 (by decide)) (qs_0 hr) rfl qk_0 rfl ru rfl ?_
  refine gl_aload_n hX q_44_5 rfl rfl ?_
  refine gl_get hX q_44_6 (qf_11 (by decide)) (qs_0 hr) rfl qk_2 rfl rfl ?_
  exact gl_ireturn q_44_9 (Or.inl qr_44) (by cases h; exact hP)
/-- ClickOrdersModel.holdsAt(IZ)Z -/
def rT_47 (X : jX) (rf : jRf) (F : Int32 → Int32 → (Nat → Int32) → jSc → Option (Int32 × (Nat → Int32) × jSc)) (e : Nat) : Prop := ∀ (sc : jSc) (al : jAl) (Post : jPo) (x1 : Int32) (x2 : Int32) (S : (Nat → Int32)) (ar : jSc) (r9 : Int32) (S9 : (Nat → Int32)) (ar9 : jSc), F x1 x2 S ar = some (r9, S9, ar9) → Post (some (.int r9)) (va_up sc 0 S9) rf ar9 al → gW X 47 e 0 (j_av [.ref 0, .int x1, .int x2]) [] (va_up sc 0 S) rf ar al Post
def rF_47 (x1 : Int32) (x2 : Int32) (S : (Nat → Int32)) (ar : jSc) : Option (Int32 × (Nat → Int32) × jSc) :=
  (if x1 = (-1 : Int32) then (if x2 = 0 ∨ x2 = 1 then some (x2, S, ar) else none) else (o_b2 (rF_45 x1 S ar) (fun Se3 are3 => (o_b3 ((rG_25 40).2.2 (upd (upd (upd Se3 22 (0 : Int32)) 23 (0 : Int32)) 25 (0 : Int32)) are3) (fun ve4 Se4 are4 => (if ve4 = 0 ∨ ve4 = 1 then some (ve4, Se4, are4) else none))))))
set_option maxHeartbeats 4000000 in
theorem rt_47 {X : jX} (hX : j_LK (g_n X) (g_L X)) (hr : g_rs X = r_sh) {rf : jRf} (hrf : rf 0 = r_rf) {d : Nat} : rT_47 X rf rF_47 (d + 85) := by
  intro sc al Post x1 x2 S ar r9 S9 ar9 h hP
  unfold rF_47 at h
  refine gl_entry (m := 0) rfl ?_
  show gL X 47 (d + 85) 0 [some (.ref 0), some (.int x1), some (.int x2)] [] (va_up sc 0 S) rf ar al Post
  refine gl_iload_n hX q_47_0 rfl rfl ?_
  refine gl_iconst hX q_47_1 ci_m1 rfl ?_
  refine gl_ic_ne hX q_47_2 rfl rfl (fun c1 => ?_) (fun c1 => ?_)
  · have h := (if_pos c1).symm.trans h
    refine gl_iload_n hX q_47_5 rfl rfl ?_
    obtain ⟨c2, h⟩ := o_ck h
    exact gl_ireturn q_47_6 (Or.inr ⟨qr_47, c2⟩) (by cases h; exact hP)
  · have h := (if_neg c1).symm.trans h
    refine gl_aload_n hX q_47_7 rfl rfl ?_
    refine gl_iload_n hX q_47_8 rfl rfl ?_
    obtain ⟨Se3, are3, e3, h⟩ := o_k2 h
    refine gl_callV hX q_47_9 (qm_319 (by decide)) rfl rfl rfl (qs_0 hr) qx_45 rfl rfl ((rt_45 hX hr hrf) _ _ _ _ _ _ _ _ e3 ?_)
    refine gl_aload_n hX q_47_12 rfl rfl ?_
    refine gl_iconst hX q_47_13 ci_0 rfl ?_
    refine gl_put hX q_47_14 (qf_180 (by decide)) (qs_0 hr) rfl qk_22 rfl ru rfl ?_
    refine gl_aload_n hX q_47_17 rfl rfl ?_
    refine gl_iconst hX q_47_18 ci_0 rfl ?_
    refine gl_put hX q_47_19 (qf_184 (by decide)) (qs_0 hr) rfl qk_23 rfl ru rfl ?_
    refine gl_aload_n hX q_47_22 rfl rfl ?_
    refine gl_iconst hX q_47_23 ci_0 rfl ?_
    refine gl_put hX q_47_24 (qf_203 (by decide)) (qs_0 hr) rfl qk_25 rfl ru rfl ?_
    refine gl_aload_n hX q_47_27 rfl rfl ?_
    obtain ⟨ve4, Se4, are4, e4, h⟩ := o_k3 h
    refine gl_callV hX q_47_28 (qm_232 (by decide)) rfl rfl rfl (qs_0 hr) qx_27 rfl rfl (((rtG_25 hX hr hrf 40).2.2) _ _ _  _ _ _ _ _ e4 ?_)
    obtain ⟨c5, h⟩ := o_ck h
    exact gl_ireturn q_47_31 (Or.inr ⟨qr_47, c5⟩) (by cases h; exact hP)
/-- ClickOrdersModel.canCome(I)Z -/
def rT_50 (X : jX) (rf : jRf) (F : Int32 → (Nat → Int32) → jSc → Option (Int32 × (Nat → Int32) × jSc)) (e : Nat) : Prop := ∀ (sc : jSc) (al : jAl) (Post : jPo) (x1 : Int32) (S : (Nat → Int32)) (ar : jSc) (r9 : Int32) (S9 : (Nat → Int32)) (ar9 : jSc), F x1 S ar = some (r9, S9, ar9) → Post (some (.int r9)) (va_up sc 0 S9) rf ar9 al → gW X 50 e 0 (j_av [.ref 0, .int x1]) [] (va_up sc 0 S) rf ar al Post
def rF_50_82 : Nat → Int32 → Int32 → (Nat → Int32) → jSc → Option (Int32 × (Nat → Int32) × jSc)
  | 0, _, _, _, _ => none
  | nn + 1, x1, x2, S, ar => (if (S 38) ≤ x2 then some ((1 : Int32), S, ar) else (if iB x2 6 then (if (ar 106 (iN x2)) = 0 then rF_50_82 nn x1 (x2 + (1 : Int32)) S ar else (if iB x2 6 then (if (ar 102 (iN x2)) = 0 then (if iB x2 6 then (if (ar 103 (iN x2)) = x1 then (if iB x2 6 then (if iB ((10 : Int32) + (ar 104 (iN x2))) 53 then (if (ar 13 (iN ((10 : Int32) + (ar 104 (iN x2))))) ≤ 0 then rF_50_82 nn x1 (x2 + (1 : Int32)) S ar else some ((0 : Int32), S, ar)) else none) else none) else rF_50_82 nn x1 (x2 + (1 : Int32)) S ar) else none) else rF_50_82 nn x1 (x2 + (1 : Int32)) S ar) else none)) else none))
set_option maxHeartbeats 4000000 in
theorem rt_50_82 {X : jX} (hX : j_LK (g_n X) (g_L X)) (hr : g_rs X = r_sh) {rf : jRf} (hrf : rf 0 = r_rf) {d : Nat} {sc : jSc} {al : jAl} {Post : jPo} {r9 : Int32} {S9 : (Nat → Int32)} {ar9 : jSc} (hP : Post (some (.int r9)) (va_up sc 0 S9) rf ar9 al) : ∀ (nn : Nat) (x1 : Int32) (x2 : Int32) (S : (Nat → Int32)) (ar : jSc), rF_50_82 nn x1 x2 S ar = some (r9, S9, ar9) → gL X 50 (d + 1) 82 [some (.ref 0), some (.int x1), some (.int x2)] [] (va_up sc 0 S) rf ar al Post := by
  intro nn
  induction nn with
  | zero =>
    intro x1 x2 S ar h
    have h : (none : Option (Int32 × (Nat → Int32) × jSc)) = some _ := h
    cases h
  | succ nn ih =>
    intro x1 x2 S ar h
    unfold rF_50_82 at h
    refine gl_iload_n hX q_50_82 rfl rfl ?_
    refine gl_aload_n hX q_50_83 rfl rfl ?_
    refine gl_get hX q_50_84 (qf_284 (by decide)) (qs_0 hr) rfl qk_38 rfl rfl ?_
    refine gl_ic_ge hX q_50_87 rfl rfl (fun c1 => ?_) (fun c1 => ?_)
    · have h := (if_pos c1).symm.trans h
      refine gl_iconst hX q_50_143 ci_1 rfl ?_
      exact gl_ireturn q_50_144 (Or.inr ⟨qr_50, Or.inr rfl⟩) (by cases h; exact hP)
    · have h := (if_neg c1).symm.trans h
      refine gl_aload_n hX q_50_90 rfl rfl ?_
      refine gl_getA hX q_50_91 (qf_83 (by decide)) (qs_0 hr) rfl qk_43 ((congrFun hrf 43).trans qa_43) rfl ?_
      refine gl_iload_n hX q_50_94 rfl rfl ?_
      obtain ⟨c2, h⟩ := o_ck h
      refine gl_baload hX q_50_95 (qs_106 hr) c2 rfl rfl ?_
      refine gl_if_eq hX q_50_96 rfl rfl (fun c3 => ?_) (fun c3 => ?_)
      · have h := (if_pos c3).symm.trans h
        refine gl_iinc (vs2 := [some (.ref 0), some (.int x1), some (.int (x2 + (1 : Int32)))]) hX q_50_137 rfl rfl rfl ci_1 rfl rfl ?_
        refine gl_goto hX q_50_140 rfl ?_
        exact gl_weak (vs := [some (.ref 0), some (.int x1), some (.int (x2 + (1 : Int32)))]) ⟨rfl, rfl, rfl, trivial⟩ (ih x1 (x2 + (1 : Int32)) S ar h)
      · have h := (if_neg c3).symm.trans h
        refine gl_aload_n hX q_50_99 rfl rfl ?_
        refine gl_getA hX q_50_100 (qf_71 (by decide)) (qs_0 hr) rfl qk_39 ((congrFun hrf 39).trans qa_39) rfl ?_
        refine gl_iload_n hX q_50_103 rfl rfl ?_
        obtain ⟨c4, h⟩ := o_ck h
        refine gl_iaload hX q_50_104 (qs_102 hr) c4 rfl rfl ?_
        refine gl_if_ne hX q_50_105 rfl rfl (fun c5 => ?_) (fun c5 => ?_)
        · have h := (if_pos c5).symm.trans h
          refine gl_aload_n hX q_50_108 rfl rfl ?_
          refine gl_getA hX q_50_109 (qf_74 (by decide)) (qs_0 hr) rfl qk_40 ((congrFun hrf 40).trans qa_40) rfl ?_
          refine gl_iload_n hX q_50_112 rfl rfl ?_
          obtain ⟨c6, h⟩ := o_ck h
          refine gl_iaload hX q_50_113 (qs_103 hr) c6 rfl rfl ?_
          refine gl_iload_n hX q_50_114 rfl rfl ?_
          refine gl_ic_ne hX q_50_115 rfl rfl (fun c7 => ?_) (fun c7 => ?_)
          · have h := (if_pos c7).symm.trans h
            refine gl_aload_n hX q_50_118 rfl rfl ?_
            refine gl_getA hX q_50_119 (qf_42 (by decide)) (qs_0 hr) rfl qk_21 ((congrFun hrf 21).trans qa_21) rfl ?_
            refine gl_bipush hX q_50_122 cb_10 rfl ?_
            refine gl_aload_n hX q_50_124 rfl rfl ?_
            refine gl_getA hX q_50_125 (qf_77 (by decide)) (qs_0 hr) rfl qk_41 ((congrFun hrf 41).trans qa_41) rfl ?_
            refine gl_iload_n hX q_50_128 rfl rfl ?_
            obtain ⟨c8, h⟩ := o_ck h
            refine gl_iaload hX q_50_129 (qs_104 hr) c8 rfl rfl ?_
            refine gl_iadd hX q_50_130 rfl ?_
            obtain ⟨c9, h⟩ := o_ck h
            refine gl_iaload hX q_50_131 (qs_13 hr) c9 rfl rfl ?_
            refine gl_if_le hX q_50_132 rfl rfl (fun c10 => ?_) (fun c10 => ?_)
            · have h := (if_pos c10).symm.trans h
              refine gl_iinc (vs2 := [some (.ref 0), some (.int x1), some (.int (x2 + (1 : Int32)))]) hX q_50_137 rfl rfl rfl ci_1 rfl rfl ?_
              refine gl_goto hX q_50_140 rfl ?_
              exact gl_weak (vs := [some (.ref 0), some (.int x1), some (.int (x2 + (1 : Int32)))]) ⟨rfl, rfl, rfl, trivial⟩ (ih x1 (x2 + (1 : Int32)) S ar h)
            · have h := (if_neg c10).symm.trans h
              refine gl_iconst hX q_50_135 ci_0 rfl ?_
              exact gl_ireturn q_50_136 (Or.inr ⟨qr_50, Or.inl rfl⟩) (by cases h; exact hP)
          · have h := (if_neg c7).symm.trans h
            refine gl_iinc (vs2 := [some (.ref 0), some (.int x1), some (.int (x2 + (1 : Int32)))]) hX q_50_137 rfl rfl rfl ci_1 rfl rfl ?_
            refine gl_goto hX q_50_140 rfl ?_
            exact gl_weak (vs := [some (.ref 0), some (.int x1), some (.int (x2 + (1 : Int32)))]) ⟨rfl, rfl, rfl, trivial⟩ (ih x1 (x2 + (1 : Int32)) S ar h)
        · have h := (if_neg c5).symm.trans h
          refine gl_iinc (vs2 := [some (.ref 0), some (.int x1), some (.int (x2 + (1 : Int32)))]) hX q_50_137 rfl rfl rfl ci_1 rfl rfl ?_
          refine gl_goto hX q_50_140 rfl ?_
          exact gl_weak (vs := [some (.ref 0), some (.int x1), some (.int (x2 + (1 : Int32)))]) ⟨rfl, rfl, rfl, trivial⟩ (ih x1 (x2 + (1 : Int32)) S ar h)
def rF_50 (x1 : Int32) (S : (Nat → Int32)) (ar : jSc) : Option (Int32 × (Nat → Int32) × jSc) :=
  (if x1 = (8 : Int32) then (if (ar 13 26) ≤ 0 then some ((0 : Int32), S, ar) else some ((1 : Int32), S, ar)) else (if x1 ≤ (8 : Int32) then (if (((ar 13 8) >>> (x1 &&& 31)) &&& (1 : Int32)) = 0 then some ((0 : Int32), S, ar) else (if (((ar 13 9) >>> (x1 &&& 31)) &&& (1 : Int32)) = (1 : Int32) then some ((0 : Int32), S, ar) else rF_50_82 oF x1 (0 : Int32) S ar)) else (if iB (((10 : Int32) + x1) - (9 : Int32)) 53 then (if (ar 13 (iN (((10 : Int32) + x1) - (9 : Int32)))) ≤ 0 then some ((0 : Int32), S, ar) else some ((1 : Int32), S, ar)) else none)))
set_option maxHeartbeats 4000000 in
theorem rt_50 {X : jX} (hX : j_LK (g_n X) (g_L X)) (hr : g_rs X = r_sh) {rf : jRf} (hrf : rf 0 = r_rf) {d : Nat} : rT_50 X rf rF_50 (d + 1) := by
  intro sc al Post x1 S ar r9 S9 ar9 h hP
  unfold rF_50 at h
  refine gl_entry (m := 1) rfl ?_
  show gL X 50 (d + 1) 0 [some (.ref 0), some (.int x1), none] [] (va_up sc 0 S) rf ar al Post
  refine gl_iload_n hX q_50_0 rfl rfl ?_
  refine gl_bipush hX q_50_1 cb_8 rfl ?_
  refine gl_ic_ne hX q_50_3 rfl rfl (fun c11 => ?_) (fun c11 => ?_)
  · have h := (if_pos c11).symm.trans h
    refine gl_aload_n hX q_50_6 rfl rfl ?_
    refine gl_getA hX q_50_7 (qf_42 (by decide)) (qs_0 hr) rfl qk_21 ((congrFun hrf 21).trans qa_21) rfl ?_
    refine gl_bipush hX q_50_10 cb_26 rfl ?_
    refine gl_iaload hX q_50_12 (qs_13 hr) (by decide) rfl rfl ?_
    refine gl_if_le hX q_50_13 rfl rfl (fun c12 => ?_) (fun c12 => ?_)
    · have h := (if_pos c12).symm.trans h
      refine gl_iconst hX q_50_20 ci_0 rfl ?_
      exact gl_ireturn q_50_21 (Or.inr ⟨qr_50, Or.inl rfl⟩) (by cases h; exact hP)
    · have h := (if_neg c12).symm.trans h
      refine gl_iconst hX q_50_16 ci_1 rfl ?_
      refine gl_goto hX q_50_17 rfl ?_
      exact gl_ireturn q_50_21 (Or.inr ⟨qr_50, Or.inr rfl⟩) (by cases h; exact hP)
  · have h := (if_neg c11).symm.trans h
    refine gl_iload_n hX q_50_22 rfl rfl ?_
    refine gl_bipush hX q_50_23 cb_8 rfl ?_
    refine gl_ic_le hX q_50_25 rfl rfl (fun c13 => ?_) (fun c13 => ?_)
    · have h := (if_pos c13).symm.trans h
      refine gl_aload_n hX q_50_49 rfl rfl ?_
      refine gl_getA hX q_50_50 (qf_42 (by decide)) (qs_0 hr) rfl qk_21 ((congrFun hrf 21).trans qa_21) rfl ?_
      refine gl_bipush hX q_50_53 cb_8 rfl ?_
      refine gl_iaload hX q_50_55 (qs_13 hr) (by decide) rfl rfl ?_
      refine gl_iload_n hX q_50_56 rfl rfl ?_
      refine gl_ishr hX q_50_57 rfl ?_
      refine gl_iconst hX q_50_58 ci_1 rfl ?_
      refine gl_iand hX q_50_59 rfl ?_
      refine gl_if_eq hX q_50_60 rfl rfl (fun c14 => ?_) (fun c14 => ?_)
      · have h := (if_pos c14).symm.trans h
        refine gl_iconst hX q_50_78 ci_0 rfl ?_
        exact gl_ireturn q_50_79 (Or.inr ⟨qr_50, Or.inl rfl⟩) (by cases h; exact hP)
      · have h := (if_neg c14).symm.trans h
        refine gl_aload_n hX q_50_63 rfl rfl ?_
        refine gl_getA hX q_50_64 (qf_42 (by decide)) (qs_0 hr) rfl qk_21 ((congrFun hrf 21).trans qa_21) rfl ?_
        refine gl_bipush hX q_50_67 cb_9 rfl ?_
        refine gl_iaload hX q_50_69 (qs_13 hr) (by decide) rfl rfl ?_
        refine gl_iload_n hX q_50_70 rfl rfl ?_
        refine gl_ishr hX q_50_71 rfl ?_
        refine gl_iconst hX q_50_72 ci_1 rfl ?_
        refine gl_iand hX q_50_73 rfl ?_
        refine gl_iconst hX q_50_74 ci_1 rfl ?_
        refine gl_ic_ne hX q_50_75 rfl rfl (fun c15 => ?_) (fun c15 => ?_)
        · have h := (if_pos c15).symm.trans h
          refine gl_iconst hX q_50_78 ci_0 rfl ?_
          exact gl_ireturn q_50_79 (Or.inr ⟨qr_50, Or.inl rfl⟩) (by cases h; exact hP)
        · have h := (if_neg c15).symm.trans h
          refine gl_iconst hX q_50_80 ci_0 rfl ?_
          refine gl_istore_n (vs2 := [some (.ref 0), some (.int x1), some (.int (0 : Int32))]) hX q_50_81 rfl rfl rfl rfl ?_
          exact gl_weak (vs := [some (.ref 0), some (.int x1), some (.int (0 : Int32))]) ⟨rfl, rfl, rfl, trivial⟩ (rt_50_82 hX hr hrf hP oF x1 (0 : Int32) S ar h)
    · have h := (if_neg c13).symm.trans h
      refine gl_aload_n hX q_50_28 rfl rfl ?_
      refine gl_getA hX q_50_29 (qf_42 (by decide)) (qs_0 hr) rfl qk_21 ((congrFun hrf 21).trans qa_21) rfl ?_
      refine gl_bipush hX q_50_32 cb_10 rfl ?_
      refine gl_iload_n hX q_50_34 rfl rfl ?_
      refine gl_iadd hX q_50_35 rfl ?_
      refine gl_bipush hX q_50_36 cb_9 rfl ?_
      refine gl_isub hX q_50_38 rfl ?_
      obtain ⟨c16, h⟩ := o_ck h
      refine gl_iaload hX q_50_39 (qs_13 hr) c16 rfl rfl ?_
      refine gl_if_le hX q_50_40 rfl rfl (fun c17 => ?_) (fun c17 => ?_)
      · have h := (if_pos c17).symm.trans h
        refine gl_iconst hX q_50_47 ci_0 rfl ?_
        exact gl_ireturn q_50_48 (Or.inr ⟨qr_50, Or.inl rfl⟩) (by cases h; exact hP)
      · have h := (if_neg c17).symm.trans h
        refine gl_iconst hX q_50_43 ci_1 rfl ?_
        refine gl_goto hX q_50_44 rfl ?_
        exact gl_ireturn q_50_48 (Or.inr ⟨qr_50, Or.inr rfl⟩) (by cases h; exact hP)
/-- ClickOrdersModel.nextClock()I -/
def rT_51 (X : jX) (rf : jRf) (F : (Nat → Int32) → jSc → Option (Int32 × (Nat → Int32) × jSc)) (e : Nat) : Prop := ∀ (sc : jSc) (al : jAl) (Post : jPo) (S : (Nat → Int32)) (ar : jSc) (r9 : Int32) (S9 : (Nat → Int32)) (ar9 : jSc), F S ar = some (r9, S9, ar9) → Post (some (.int r9)) (va_up sc 0 S9) rf ar9 al → gW X 51 e 0 (j_av [.ref 0]) [] (va_up sc 0 S) rf ar al Post
def rF_51_4 : Nat → Int32 → Int32 → (Nat → Int32) → jSc → Option (Int32 × (Nat → Int32) × jSc)
  | 0, _, _, _, _ => none
  | nn + 1, x1, x2, S, ar => (if (ar 13 26) ≤ x2 then some (x1, S, ar) else (if iB ((30 : Int32) + x2) 53 then (if iB ((30 : Int32) + x1) 53 then (if (ar 13 (iN ((30 : Int32) + x1))) ≤ (ar 13 (iN ((30 : Int32) + x2))) then rF_51_4 nn x1 (x2 + (1 : Int32)) S ar else rF_51_4 nn x2 (x2 + (1 : Int32)) S ar) else none) else none))
set_option maxHeartbeats 4000000 in
theorem rt_51_4 {X : jX} (hX : j_LK (g_n X) (g_L X)) (hr : g_rs X = r_sh) {rf : jRf} (hrf : rf 0 = r_rf) {d : Nat} {sc : jSc} {al : jAl} {Post : jPo} {r9 : Int32} {S9 : (Nat → Int32)} {ar9 : jSc} (hP : Post (some (.int r9)) (va_up sc 0 S9) rf ar9 al) : ∀ (nn : Nat) (x1 : Int32) (x2 : Int32) (S : (Nat → Int32)) (ar : jSc), rF_51_4 nn x1 x2 S ar = some (r9, S9, ar9) → gL X 51 (d + 1) 4 [some (.ref 0), some (.int x1), some (.int x2)] [] (va_up sc 0 S) rf ar al Post := by
  intro nn
  induction nn with
  | zero =>
    intro x1 x2 S ar h
    have h : (none : Option (Int32 × (Nat → Int32) × jSc)) = some _ := h
    cases h
  | succ nn ih =>
    intro x1 x2 S ar h
    unfold rF_51_4 at h
    refine gl_iload_n hX q_51_4 rfl rfl ?_
    refine gl_aload_n hX q_51_5 rfl rfl ?_
    refine gl_getA hX q_51_6 (qf_42 (by decide)) (qs_0 hr) rfl qk_21 ((congrFun hrf 21).trans qa_21) rfl ?_
    refine gl_bipush hX q_51_9 cb_26 rfl ?_
    refine gl_iaload hX q_51_11 (qs_13 hr) (by decide) rfl rfl ?_
    refine gl_ic_ge hX q_51_12 rfl rfl (fun c1 => ?_) (fun c1 => ?_)
    · have h := (if_pos c1).symm.trans h
      refine gl_iload_n hX q_51_44 rfl rfl ?_
      exact gl_ireturn q_51_45 (Or.inl qr_51) (by cases h; exact hP)
    · have h := (if_neg c1).symm.trans h
      refine gl_aload_n hX q_51_15 rfl rfl ?_
      refine gl_getA hX q_51_16 (qf_42 (by decide)) (qs_0 hr) rfl qk_21 ((congrFun hrf 21).trans qa_21) rfl ?_
      refine gl_bipush hX q_51_19 cb_30 rfl ?_
      refine gl_iload_n hX q_51_21 rfl rfl ?_
      refine gl_iadd hX q_51_22 rfl ?_
      obtain ⟨c2, h⟩ := o_ck h
      refine gl_iaload hX q_51_23 (qs_13 hr) c2 rfl rfl ?_
      refine gl_aload_n hX q_51_24 rfl rfl ?_
      refine gl_getA hX q_51_25 (qf_42 (by decide)) (qs_0 hr) rfl qk_21 ((congrFun hrf 21).trans qa_21) rfl ?_
      refine gl_bipush hX q_51_28 cb_30 rfl ?_
      refine gl_iload_n hX q_51_30 rfl rfl ?_
      refine gl_iadd hX q_51_31 rfl ?_
      obtain ⟨c3, h⟩ := o_ck h
      refine gl_iaload hX q_51_32 (qs_13 hr) c3 rfl rfl ?_
      refine gl_ic_ge hX q_51_33 rfl rfl (fun c4 => ?_) (fun c4 => ?_)
      · have h := (if_pos c4).symm.trans h
        refine gl_iinc (vs2 := [some (.ref 0), some (.int x1), some (.int (x2 + (1 : Int32)))]) hX q_51_38 rfl rfl rfl ci_1 rfl rfl ?_
        refine gl_goto hX q_51_41 rfl ?_
        exact gl_weak (vs := [some (.ref 0), some (.int x1), some (.int (x2 + (1 : Int32)))]) ⟨rfl, rfl, rfl, trivial⟩ (ih x1 (x2 + (1 : Int32)) S ar h)
      · have h := (if_neg c4).symm.trans h
        refine gl_iload_n hX q_51_36 rfl rfl ?_
        refine gl_istore_n (vs2 := [some (.ref 0), some (.int x2), some (.int x2)]) hX q_51_37 rfl rfl rfl rfl ?_
        refine gl_iinc (vs2 := [some (.ref 0), some (.int x2), some (.int (x2 + (1 : Int32)))]) hX q_51_38 rfl rfl rfl ci_1 rfl rfl ?_
        refine gl_goto hX q_51_41 rfl ?_
        exact gl_weak (vs := [some (.ref 0), some (.int x2), some (.int (x2 + (1 : Int32)))]) ⟨rfl, rfl, rfl, trivial⟩ (ih x2 (x2 + (1 : Int32)) S ar h)
def rF_51 (S : (Nat → Int32)) (ar : jSc) : Option (Int32 × (Nat → Int32) × jSc) :=
  rF_51_4 oF (0 : Int32) (1 : Int32) S ar
set_option maxHeartbeats 4000000 in
theorem rt_51 {X : jX} (hX : j_LK (g_n X) (g_L X)) (hr : g_rs X = r_sh) {rf : jRf} (hrf : rf 0 = r_rf) {d : Nat} : rT_51 X rf rF_51 (d + 1) := by
  intro sc al Post  S ar r9 S9 ar9 h hP
  unfold rF_51 at h
  refine gl_entry (m := 2) rfl ?_
  show gL X 51 (d + 1) 0 [some (.ref 0), none, none] [] (va_up sc 0 S) rf ar al Post
  refine gl_iconst hX q_51_0 ci_0 rfl ?_
  refine gl_istore_n (vs2 := [some (.ref 0), some (.int (0 : Int32)), none]) hX q_51_1 rfl rfl rfl rfl ?_
  refine gl_iconst hX q_51_2 ci_1 rfl ?_
  refine gl_istore_n (vs2 := [some (.ref 0), some (.int (0 : Int32)), some (.int (1 : Int32))]) hX q_51_3 rfl rfl rfl rfl ?_
  exact gl_weak (vs := [some (.ref 0), some (.int (0 : Int32)), some (.int (1 : Int32))]) ⟨rfl, rfl, rfl, trivial⟩ (rt_51_4 hX hr hrf hP oF (0 : Int32) (1 : Int32) S ar h)
/-- ClickOrdersModel.takesClock(I)V -/
def rT_53 (X : jX) (rf : jRf) (F : Int32 → (Nat → Int32) → jSc → Option ((Nat → Int32) × jSc)) (e : Nat) : Prop := ∀ (sc : jSc) (al : jAl) (Post : jPo) (x1 : Int32) (S : (Nat → Int32)) (ar : jSc) (S9 : (Nat → Int32)) (ar9 : jSc), F x1 S ar = some (S9, ar9) → Post none (va_up sc 0 S9) rf ar9 al → gW X 53 e 0 (j_av [.ref 0, .int x1]) [] (va_up sc 0 S) rf ar al Post
def rF_53_12 : Nat → Int32 → Int32 → (Nat → Int32) → jSc → Option ((Nat → Int32) × jSc)
  | 0, _, _, _, _ => none
  | nn + 1, x2, x3, S, ar => (if x2 ≤ x3 then (if iB ((27 : Int32) + x2) 53 then (if iB ((30 : Int32) + x2) 53 then (if iB ((50 : Int32) + x2) 53 then some (S, (j_u2 (j_u2 (j_u2 (j_u2 ar 13 (iN ((27 : Int32) + x2)) (0 : Int32)) 13 (iN ((30 : Int32) + x2)) (0 : Int32)) 13 (iN ((50 : Int32) + x2)) (0 : Int32)) 13 26 x2)) else none) else none) else none) else (if iB ((28 : Int32) + x3) 53 then (if iB ((27 : Int32) + x3) 53 then (if iB ((31 : Int32) + x3) 53 then (if iB ((30 : Int32) + x3) 53 then (if iB ((51 : Int32) + x3) 53 then (if iB ((50 : Int32) + x3) 53 then rF_53_12 nn x2 (x3 + (1 : Int32)) S (j_u2 (j_u2 (j_u2 ar 13 (iN ((27 : Int32) + x3)) (ar 13 (iN ((28 : Int32) + x3)))) 13 (iN ((30 : Int32) + x3)) ((j_u2 ar 13 (iN ((27 : Int32) + x3)) (ar 13 (iN ((28 : Int32) + x3)))) 13 (iN ((31 : Int32) + x3)))) 13 (iN ((50 : Int32) + x3)) ((j_u2 (j_u2 ar 13 (iN ((27 : Int32) + x3)) (ar 13 (iN ((28 : Int32) + x3)))) 13 (iN ((30 : Int32) + x3)) ((j_u2 ar 13 (iN ((27 : Int32) + x3)) (ar 13 (iN ((28 : Int32) + x3)))) 13 (iN ((31 : Int32) + x3)))) 13 (iN ((51 : Int32) + x3)))) else none) else none) else none) else none) else none) else none))
set_option maxHeartbeats 4000000 in
theorem rt_53_12 {X : jX} (hX : j_LK (g_n X) (g_L X)) (hr : g_rs X = r_sh) {rf : jRf} (hrf : rf 0 = r_rf) {d : Nat} {sc : jSc} {al : jAl} {Post : jPo} {S9 : (Nat → Int32)} {ar9 : jSc} (hP : Post none (va_up sc 0 S9) rf ar9 al) : ∀ (nn : Nat) (x2 : Int32) (x3 : Int32) (S : (Nat → Int32)) (ar : jSc), rF_53_12 nn x2 x3 S ar = some (S9, ar9) → gL X 53 (d + 1) 12 [some (.ref 0), none, some (.int x2), some (.int x3)] [] (va_up sc 0 S) rf ar al Post := by
  intro nn
  induction nn with
  | zero =>
    intro x2 x3 S ar h
    have h : (none : Option ((Nat → Int32) × jSc)) = some _ := h
    cases h
  | succ nn ih =>
    intro x2 x3 S ar h
    unfold rF_53_12 at h
    refine gl_iload_n hX q_53_12 rfl rfl ?_
    refine gl_iload_n hX q_53_13 rfl rfl ?_
    refine gl_ic_ge hX q_53_14 rfl rfl (fun c1 => ?_) (fun c1 => ?_)
    · have h := (if_pos c1).symm.trans h
      refine gl_aload_n hX q_53_77 rfl rfl ?_
      refine gl_getA hX q_53_78 (qf_42 (by decide)) (qs_0 hr) rfl qk_21 ((congrFun hrf 21).trans qa_21) rfl ?_
      refine gl_bipush hX q_53_81 cb_27 rfl ?_
      refine gl_iload_n hX q_53_83 rfl rfl ?_
      refine gl_iadd hX q_53_84 rfl ?_
      refine gl_iconst hX q_53_85 ci_0 rfl ?_
      obtain ⟨c2, h⟩ := o_ck h
      refine gl_iastore (ar2 := (j_u2 ar 13 (iN ((27 : Int32) + x2)) (0 : Int32))) hX q_53_86 (qs_13 hr) c2 rfl rfl ?_
      refine gl_aload_n hX q_53_87 rfl rfl ?_
      refine gl_getA hX q_53_88 (qf_42 (by decide)) (qs_0 hr) rfl qk_21 ((congrFun hrf 21).trans qa_21) rfl ?_
      refine gl_bipush hX q_53_91 cb_30 rfl ?_
      refine gl_iload_n hX q_53_93 rfl rfl ?_
      refine gl_iadd hX q_53_94 rfl ?_
      refine gl_iconst hX q_53_95 ci_0 rfl ?_
      obtain ⟨c3, h⟩ := o_ck h
      refine gl_iastore (ar2 := (j_u2 (j_u2 ar 13 (iN ((27 : Int32) + x2)) (0 : Int32)) 13 (iN ((30 : Int32) + x2)) (0 : Int32))) hX q_53_96 (qs_13 hr) c3 rfl rfl ?_
      refine gl_aload_n hX q_53_97 rfl rfl ?_
      refine gl_getA hX q_53_98 (qf_42 (by decide)) (qs_0 hr) rfl qk_21 ((congrFun hrf 21).trans qa_21) rfl ?_
      refine gl_bipush hX q_53_101 cb_50 rfl ?_
      refine gl_iload_n hX q_53_103 rfl rfl ?_
      refine gl_iadd hX q_53_104 rfl ?_
      refine gl_iconst hX q_53_105 ci_0 rfl ?_
      obtain ⟨c4, h⟩ := o_ck h
      refine gl_iastore (ar2 := (j_u2 (j_u2 (j_u2 ar 13 (iN ((27 : Int32) + x2)) (0 : Int32)) 13 (iN ((30 : Int32) + x2)) (0 : Int32)) 13 (iN ((50 : Int32) + x2)) (0 : Int32))) hX q_53_106 (qs_13 hr) c4 rfl rfl ?_
      refine gl_aload_n hX q_53_107 rfl rfl ?_
      refine gl_getA hX q_53_108 (qf_42 (by decide)) (qs_0 hr) rfl qk_21 ((congrFun hrf 21).trans qa_21) rfl ?_
      refine gl_bipush hX q_53_111 cb_26 rfl ?_
      refine gl_iload_n hX q_53_113 rfl rfl ?_
      refine gl_iastore (ar2 := (j_u2 (j_u2 (j_u2 (j_u2 ar 13 (iN ((27 : Int32) + x2)) (0 : Int32)) 13 (iN ((30 : Int32) + x2)) (0 : Int32)) 13 (iN ((50 : Int32) + x2)) (0 : Int32)) 13 26 x2)) hX q_53_114 (qs_13 hr) (by decide) rfl rfl ?_
      exact gl_return q_53_115 qr_53 (by cases h; exact hP)
    · have h := (if_neg c1).symm.trans h
      refine gl_aload_n hX q_53_17 rfl rfl ?_
      refine gl_getA hX q_53_18 (qf_42 (by decide)) (qs_0 hr) rfl qk_21 ((congrFun hrf 21).trans qa_21) rfl ?_
      refine gl_bipush hX q_53_21 cb_27 rfl ?_
      refine gl_iload_n hX q_53_23 rfl rfl ?_
      refine gl_iadd hX q_53_24 rfl ?_
      refine gl_aload_n hX q_53_25 rfl rfl ?_
      refine gl_getA hX q_53_26 (qf_42 (by decide)) (qs_0 hr) rfl qk_21 ((congrFun hrf 21).trans qa_21) rfl ?_
      refine gl_bipush hX q_53_29 cb_28 rfl ?_
      refine gl_iload_n hX q_53_31 rfl rfl ?_
      refine gl_iadd hX q_53_32 rfl ?_
      obtain ⟨c5, h⟩ := o_ck h
      refine gl_iaload hX q_53_33 (qs_13 hr) c5 rfl rfl ?_
      obtain ⟨c6, h⟩ := o_ck h
      refine gl_iastore (ar2 := (j_u2 ar 13 (iN ((27 : Int32) + x3)) (ar 13 (iN ((28 : Int32) + x3))))) hX q_53_34 (qs_13 hr) c6 rfl rfl ?_
      refine gl_aload_n hX q_53_35 rfl rfl ?_
      refine gl_getA hX q_53_36 (qf_42 (by decide)) (qs_0 hr) rfl qk_21 ((congrFun hrf 21).trans qa_21) rfl ?_
      refine gl_bipush hX q_53_39 cb_30 rfl ?_
      refine gl_iload_n hX q_53_41 rfl rfl ?_
      refine gl_iadd hX q_53_42 rfl ?_
      refine gl_aload_n hX q_53_43 rfl rfl ?_
      refine gl_getA hX q_53_44 (qf_42 (by decide)) (qs_0 hr) rfl qk_21 ((congrFun hrf 21).trans qa_21) rfl ?_
      refine gl_bipush hX q_53_47 cb_31 rfl ?_
      refine gl_iload_n hX q_53_49 rfl rfl ?_
      refine gl_iadd hX q_53_50 rfl ?_
      obtain ⟨c7, h⟩ := o_ck h
      refine gl_iaload hX q_53_51 (qs_13 hr) c7 rfl rfl ?_
      obtain ⟨c8, h⟩ := o_ck h
      refine gl_iastore (ar2 := (j_u2 (j_u2 ar 13 (iN ((27 : Int32) + x3)) (ar 13 (iN ((28 : Int32) + x3)))) 13 (iN ((30 : Int32) + x3)) ((j_u2 ar 13 (iN ((27 : Int32) + x3)) (ar 13 (iN ((28 : Int32) + x3)))) 13 (iN ((31 : Int32) + x3))))) hX q_53_52 (qs_13 hr) c8 rfl rfl ?_
      refine gl_aload_n hX q_53_53 rfl rfl ?_
      refine gl_getA hX q_53_54 (qf_42 (by decide)) (qs_0 hr) rfl qk_21 ((congrFun hrf 21).trans qa_21) rfl ?_
      refine gl_bipush hX q_53_57 cb_50 rfl ?_
      refine gl_iload_n hX q_53_59 rfl rfl ?_
      refine gl_iadd hX q_53_60 rfl ?_
      refine gl_aload_n hX q_53_61 rfl rfl ?_
      refine gl_getA hX q_53_62 (qf_42 (by decide)) (qs_0 hr) rfl qk_21 ((congrFun hrf 21).trans qa_21) rfl ?_
      refine gl_bipush hX q_53_65 cb_51 rfl ?_
      refine gl_iload_n hX q_53_67 rfl rfl ?_
      refine gl_iadd hX q_53_68 rfl ?_
      obtain ⟨c9, h⟩ := o_ck h
      refine gl_iaload hX q_53_69 (qs_13 hr) c9 rfl rfl ?_
      obtain ⟨c10, h⟩ := o_ck h
      refine gl_iastore (ar2 := (j_u2 (j_u2 (j_u2 ar 13 (iN ((27 : Int32) + x3)) (ar 13 (iN ((28 : Int32) + x3)))) 13 (iN ((30 : Int32) + x3)) ((j_u2 ar 13 (iN ((27 : Int32) + x3)) (ar 13 (iN ((28 : Int32) + x3)))) 13 (iN ((31 : Int32) + x3)))) 13 (iN ((50 : Int32) + x3)) ((j_u2 (j_u2 ar 13 (iN ((27 : Int32) + x3)) (ar 13 (iN ((28 : Int32) + x3)))) 13 (iN ((30 : Int32) + x3)) ((j_u2 ar 13 (iN ((27 : Int32) + x3)) (ar 13 (iN ((28 : Int32) + x3)))) 13 (iN ((31 : Int32) + x3)))) 13 (iN ((51 : Int32) + x3))))) hX q_53_70 (qs_13 hr) c10 rfl rfl ?_
      refine gl_iinc (vs2 := [some (.ref 0), none, some (.int x2), some (.int (x3 + (1 : Int32)))]) hX q_53_71 rfl rfl rfl ci_1 rfl rfl ?_
      refine gl_goto hX q_53_74 rfl ?_
      exact gl_weak (vs := [some (.ref 0), none, some (.int x2), some (.int (x3 + (1 : Int32)))]) ⟨rfl, rfl, rfl, trivial⟩ (ih x2 (x3 + (1 : Int32)) S (j_u2 (j_u2 (j_u2 ar 13 (iN ((27 : Int32) + x3)) (ar 13 (iN ((28 : Int32) + x3)))) 13 (iN ((30 : Int32) + x3)) ((j_u2 ar 13 (iN ((27 : Int32) + x3)) (ar 13 (iN ((28 : Int32) + x3)))) 13 (iN ((31 : Int32) + x3)))) 13 (iN ((50 : Int32) + x3)) ((j_u2 (j_u2 ar 13 (iN ((27 : Int32) + x3)) (ar 13 (iN ((28 : Int32) + x3)))) 13 (iN ((30 : Int32) + x3)) ((j_u2 ar 13 (iN ((27 : Int32) + x3)) (ar 13 (iN ((28 : Int32) + x3)))) 13 (iN ((31 : Int32) + x3)))) 13 (iN ((51 : Int32) + x3)))) h)
def rF_53 (x1 : Int32) (S : (Nat → Int32)) (ar : jSc) : Option ((Nat → Int32) × jSc) :=
  rF_53_12 oF ((ar 13 26) - (1 : Int32)) x1 S ar
set_option maxHeartbeats 4000000 in
theorem rt_53 {X : jX} (hX : j_LK (g_n X) (g_L X)) (hr : g_rs X = r_sh) {rf : jRf} (hrf : rf 0 = r_rf) {d : Nat} : rT_53 X rf rF_53 (d + 1) := by
  intro sc al Post x1 S ar S9 ar9 h hP
  unfold rF_53 at h
  refine gl_entry (m := 2) rfl ?_
  show gL X 53 (d + 1) 0 [some (.ref 0), some (.int x1), none, none] [] (va_up sc 0 S) rf ar al Post
  refine gl_aload_n hX q_53_0 rfl rfl ?_
  refine gl_getA hX q_53_1 (qf_42 (by decide)) (qs_0 hr) rfl qk_21 ((congrFun hrf 21).trans qa_21) rfl ?_
  refine gl_bipush hX q_53_4 cb_26 rfl ?_
  refine gl_iaload hX q_53_6 (qs_13 hr) (by decide) rfl rfl ?_
  refine gl_iconst hX q_53_7 ci_1 rfl ?_
  refine gl_isub hX q_53_8 rfl ?_
  refine gl_istore_n (vs2 := [some (.ref 0), some (.int x1), some (.int ((ar 13 26) - (1 : Int32))), none]) hX q_53_9 rfl rfl rfl rfl ?_
  refine gl_iload_n hX q_53_10 rfl rfl ?_
  refine gl_istore_n (vs2 := [some (.ref 0), some (.int x1), some (.int ((ar 13 26) - (1 : Int32))), some (.int x1)]) hX q_53_11 rfl rfl rfl rfl ?_
  exact gl_weak (vs := [some (.ref 0), none, some (.int ((ar 13 26) - (1 : Int32))), some (.int x1)]) ⟨rfl, rfl, rfl, trivial⟩ (rt_53_12 hX hr hrf hP oF ((ar 13 26) - (1 : Int32)) x1 S ar h)
/-- ClickOrdersModel.takesAnswer(I)V -/
def rT_54 (X : jX) (rf : jRf) (F : Int32 → (Nat → Int32) → jSc → Option ((Nat → Int32) × jSc)) (e : Nat) : Prop := ∀ (sc : jSc) (al : jAl) (Post : jPo) (x1 : Int32) (S : (Nat → Int32)) (ar : jSc) (S9 : (Nat → Int32)) (ar9 : jSc), F x1 S ar = some (S9, ar9) → Post none (va_up sc 0 S9) rf ar9 al → gW X 54 e 0 (j_av [.ref 0, .int x1]) [] (va_up sc 0 S) rf ar al Post
def rF_54_14 : Nat → Int32 → Int32 → Int32 → (Nat → Int32) → jSc → Option ((Nat → Int32) × jSc)
  | 0, _, _, _, _, _ => none
  | nn + 1, x1, x2, x3, S, ar => (if x2 ≤ x3 then (if iB (((14 : Int32) + ((3 : Int32) * x1)) + x2) 53 then (if iB (((38 : Int32) + ((3 : Int32) * x1)) + x2) 53 then (if iB ((10 : Int32) + x1) 53 then some (S, (j_u2 (j_u2 (j_u2 ar 13 (iN (((14 : Int32) + ((3 : Int32) * x1)) + x2)) (0 : Int32)) 13 (iN (((38 : Int32) + ((3 : Int32) * x1)) + x2)) (0 : Int32)) 13 (iN ((10 : Int32) + x1)) x2)) else none) else none) else none) else (if iB (((15 : Int32) + ((3 : Int32) * x1)) + x3) 53 then (if iB (((14 : Int32) + ((3 : Int32) * x1)) + x3) 53 then (if iB (((39 : Int32) + ((3 : Int32) * x1)) + x3) 53 then (if iB (((38 : Int32) + ((3 : Int32) * x1)) + x3) 53 then rF_54_14 nn x1 x2 (x3 + (1 : Int32)) S (j_u2 (j_u2 ar 13 (iN (((14 : Int32) + ((3 : Int32) * x1)) + x3)) (ar 13 (iN (((15 : Int32) + ((3 : Int32) * x1)) + x3)))) 13 (iN (((38 : Int32) + ((3 : Int32) * x1)) + x3)) ((j_u2 ar 13 (iN (((14 : Int32) + ((3 : Int32) * x1)) + x3)) (ar 13 (iN (((15 : Int32) + ((3 : Int32) * x1)) + x3)))) 13 (iN (((39 : Int32) + ((3 : Int32) * x1)) + x3)))) else none) else none) else none) else none))
set_option maxHeartbeats 4000000 in
theorem rt_54_14 {X : jX} (hX : j_LK (g_n X) (g_L X)) (hr : g_rs X = r_sh) {rf : jRf} (hrf : rf 0 = r_rf) {d : Nat} {sc : jSc} {al : jAl} {Post : jPo} {S9 : (Nat → Int32)} {ar9 : jSc} (hP : Post none (va_up sc 0 S9) rf ar9 al) : ∀ (nn : Nat) (x1 : Int32) (x2 : Int32) (x3 : Int32) (S : (Nat → Int32)) (ar : jSc), rF_54_14 nn x1 x2 x3 S ar = some (S9, ar9) → gL X 54 (d + 1) 14 [some (.ref 0), some (.int x1), some (.int x2), some (.int x3)] [] (va_up sc 0 S) rf ar al Post := by
  intro nn
  induction nn with
  | zero =>
    intro x1 x2 x3 S ar h
    have h : (none : Option ((Nat → Int32) × jSc)) = some _ := h
    cases h
  | succ nn ih =>
    intro x1 x2 x3 S ar h
    unfold rF_54_14 at h
    refine gl_iload_n hX q_54_14 rfl rfl ?_
    refine gl_iload_n hX q_54_15 rfl rfl ?_
    refine gl_ic_ge hX q_54_16 rfl rfl (fun c1 => ?_) (fun c1 => ?_)
    · have h := (if_pos c1).symm.trans h
      refine gl_aload_n hX q_54_77 rfl rfl ?_
      refine gl_getA hX q_54_78 (qf_42 (by decide)) (qs_0 hr) rfl qk_21 ((congrFun hrf 21).trans qa_21) rfl ?_
      refine gl_bipush hX q_54_81 cb_14 rfl ?_
      refine gl_iconst hX q_54_83 ci_3 rfl ?_
      refine gl_iload_n hX q_54_84 rfl rfl ?_
      refine gl_imul hX q_54_85 rfl ?_
      refine gl_iadd hX q_54_86 rfl ?_
      refine gl_iload_n hX q_54_87 rfl rfl ?_
      refine gl_iadd hX q_54_88 rfl ?_
      refine gl_iconst hX q_54_89 ci_0 rfl ?_
      obtain ⟨c2, h⟩ := o_ck h
      refine gl_iastore (ar2 := (j_u2 ar 13 (iN (((14 : Int32) + ((3 : Int32) * x1)) + x2)) (0 : Int32))) hX q_54_90 (qs_13 hr) c2 rfl rfl ?_
      refine gl_aload_n hX q_54_91 rfl rfl ?_
      refine gl_getA hX q_54_92 (qf_42 (by decide)) (qs_0 hr) rfl qk_21 ((congrFun hrf 21).trans qa_21) rfl ?_
      refine gl_bipush hX q_54_95 cb_38 rfl ?_
      refine gl_iconst hX q_54_97 ci_3 rfl ?_
      refine gl_iload_n hX q_54_98 rfl rfl ?_
      refine gl_imul hX q_54_99 rfl ?_
      refine gl_iadd hX q_54_100 rfl ?_
      refine gl_iload_n hX q_54_101 rfl rfl ?_
      refine gl_iadd hX q_54_102 rfl ?_
      refine gl_iconst hX q_54_103 ci_0 rfl ?_
      obtain ⟨c3, h⟩ := o_ck h
      refine gl_iastore (ar2 := (j_u2 (j_u2 ar 13 (iN (((14 : Int32) + ((3 : Int32) * x1)) + x2)) (0 : Int32)) 13 (iN (((38 : Int32) + ((3 : Int32) * x1)) + x2)) (0 : Int32))) hX q_54_104 (qs_13 hr) c3 rfl rfl ?_
      refine gl_aload_n hX q_54_105 rfl rfl ?_
      refine gl_getA hX q_54_106 (qf_42 (by decide)) (qs_0 hr) rfl qk_21 ((congrFun hrf 21).trans qa_21) rfl ?_
      refine gl_bipush hX q_54_109 cb_10 rfl ?_
      refine gl_iload_n hX q_54_111 rfl rfl ?_
      refine gl_iadd hX q_54_112 rfl ?_
      refine gl_iload_n hX q_54_113 rfl rfl ?_
      obtain ⟨c4, h⟩ := o_ck h
      refine gl_iastore (ar2 := (j_u2 (j_u2 (j_u2 ar 13 (iN (((14 : Int32) + ((3 : Int32) * x1)) + x2)) (0 : Int32)) 13 (iN (((38 : Int32) + ((3 : Int32) * x1)) + x2)) (0 : Int32)) 13 (iN ((10 : Int32) + x1)) x2)) hX q_54_114 (qs_13 hr) c4 rfl rfl ?_
      exact gl_return q_54_115 qr_54 (by cases h; exact hP)
    · have h := (if_neg c1).symm.trans h
      refine gl_aload_n hX q_54_19 rfl rfl ?_
      refine gl_getA hX q_54_20 (qf_42 (by decide)) (qs_0 hr) rfl qk_21 ((congrFun hrf 21).trans qa_21) rfl ?_
      refine gl_bipush hX q_54_23 cb_14 rfl ?_
      refine gl_iconst hX q_54_25 ci_3 rfl ?_
      refine gl_iload_n hX q_54_26 rfl rfl ?_
      refine gl_imul hX q_54_27 rfl ?_
      refine gl_iadd hX q_54_28 rfl ?_
      refine gl_iload_n hX q_54_29 rfl rfl ?_
      refine gl_iadd hX q_54_30 rfl ?_
      refine gl_aload_n hX q_54_31 rfl rfl ?_
      refine gl_getA hX q_54_32 (qf_42 (by decide)) (qs_0 hr) rfl qk_21 ((congrFun hrf 21).trans qa_21) rfl ?_
      refine gl_bipush hX q_54_35 cb_15 rfl ?_
      refine gl_iconst hX q_54_37 ci_3 rfl ?_
      refine gl_iload_n hX q_54_38 rfl rfl ?_
      refine gl_imul hX q_54_39 rfl ?_
      refine gl_iadd hX q_54_40 rfl ?_
      refine gl_iload_n hX q_54_41 rfl rfl ?_
      refine gl_iadd hX q_54_42 rfl ?_
      obtain ⟨c5, h⟩ := o_ck h
      refine gl_iaload hX q_54_43 (qs_13 hr) c5 rfl rfl ?_
      obtain ⟨c6, h⟩ := o_ck h
      refine gl_iastore (ar2 := (j_u2 ar 13 (iN (((14 : Int32) + ((3 : Int32) * x1)) + x3)) (ar 13 (iN (((15 : Int32) + ((3 : Int32) * x1)) + x3))))) hX q_54_44 (qs_13 hr) c6 rfl rfl ?_
      refine gl_aload_n hX q_54_45 rfl rfl ?_
      refine gl_getA hX q_54_46 (qf_42 (by decide)) (qs_0 hr) rfl qk_21 ((congrFun hrf 21).trans qa_21) rfl ?_
      refine gl_bipush hX q_54_49 cb_38 rfl ?_
      refine gl_iconst hX q_54_51 ci_3 rfl ?_
      refine gl_iload_n hX q_54_52 rfl rfl ?_
      refine gl_imul hX q_54_53 rfl ?_
      refine gl_iadd hX q_54_54 rfl ?_
      refine gl_iload_n hX q_54_55 rfl rfl ?_
      refine gl_iadd hX q_54_56 rfl ?_
      refine gl_aload_n hX q_54_57 rfl rfl ?_
      refine gl_getA hX q_54_58 (qf_42 (by decide)) (qs_0 hr) rfl qk_21 ((congrFun hrf 21).trans qa_21) rfl ?_
      refine gl_bipush hX q_54_61 cb_39 rfl ?_
      refine gl_iconst hX q_54_63 ci_3 rfl ?_
      refine gl_iload_n hX q_54_64 rfl rfl ?_
      refine gl_imul hX q_54_65 rfl ?_
      refine gl_iadd hX q_54_66 rfl ?_
      refine gl_iload_n hX q_54_67 rfl rfl ?_
      refine gl_iadd hX q_54_68 rfl ?_
      obtain ⟨c7, h⟩ := o_ck h
      refine gl_iaload hX q_54_69 (qs_13 hr) c7 rfl rfl ?_
      obtain ⟨c8, h⟩ := o_ck h
      refine gl_iastore (ar2 := (j_u2 (j_u2 ar 13 (iN (((14 : Int32) + ((3 : Int32) * x1)) + x3)) (ar 13 (iN (((15 : Int32) + ((3 : Int32) * x1)) + x3)))) 13 (iN (((38 : Int32) + ((3 : Int32) * x1)) + x3)) ((j_u2 ar 13 (iN (((14 : Int32) + ((3 : Int32) * x1)) + x3)) (ar 13 (iN (((15 : Int32) + ((3 : Int32) * x1)) + x3)))) 13 (iN (((39 : Int32) + ((3 : Int32) * x1)) + x3))))) hX q_54_70 (qs_13 hr) c8 rfl rfl ?_
      refine gl_iinc (vs2 := [some (.ref 0), some (.int x1), some (.int x2), some (.int (x3 + (1 : Int32)))]) hX q_54_71 rfl rfl rfl ci_1 rfl rfl ?_
      refine gl_goto hX q_54_74 rfl ?_
      exact gl_weak (vs := [some (.ref 0), some (.int x1), some (.int x2), some (.int (x3 + (1 : Int32)))]) ⟨rfl, rfl, rfl, rfl, trivial⟩ (ih x1 x2 (x3 + (1 : Int32)) S (j_u2 (j_u2 ar 13 (iN (((14 : Int32) + ((3 : Int32) * x1)) + x3)) (ar 13 (iN (((15 : Int32) + ((3 : Int32) * x1)) + x3)))) 13 (iN (((38 : Int32) + ((3 : Int32) * x1)) + x3)) ((j_u2 ar 13 (iN (((14 : Int32) + ((3 : Int32) * x1)) + x3)) (ar 13 (iN (((15 : Int32) + ((3 : Int32) * x1)) + x3)))) 13 (iN (((39 : Int32) + ((3 : Int32) * x1)) + x3)))) h)
def rF_54 (x1 : Int32) (S : (Nat → Int32)) (ar : jSc) : Option ((Nat → Int32) × jSc) :=
  (if iB ((10 : Int32) + x1) 53 then rF_54_14 oF x1 ((ar 13 (iN ((10 : Int32) + x1))) - (1 : Int32)) (0 : Int32) S ar else none)
set_option maxHeartbeats 4000000 in
theorem rt_54 {X : jX} (hX : j_LK (g_n X) (g_L X)) (hr : g_rs X = r_sh) {rf : jRf} (hrf : rf 0 = r_rf) {d : Nat} : rT_54 X rf rF_54 (d + 1) := by
  intro sc al Post x1 S ar S9 ar9 h hP
  unfold rF_54 at h
  refine gl_entry (m := 2) rfl ?_
  show gL X 54 (d + 1) 0 [some (.ref 0), some (.int x1), none, none] [] (va_up sc 0 S) rf ar al Post
  refine gl_aload_n hX q_54_0 rfl rfl ?_
  refine gl_getA hX q_54_1 (qf_42 (by decide)) (qs_0 hr) rfl qk_21 ((congrFun hrf 21).trans qa_21) rfl ?_
  refine gl_bipush hX q_54_4 cb_10 rfl ?_
  refine gl_iload_n hX q_54_6 rfl rfl ?_
  refine gl_iadd hX q_54_7 rfl ?_
  obtain ⟨c9, h⟩ := o_ck h
  refine gl_iaload hX q_54_8 (qs_13 hr) c9 rfl rfl ?_
  refine gl_iconst hX q_54_9 ci_1 rfl ?_
  refine gl_isub hX q_54_10 rfl ?_
  refine gl_istore_n (vs2 := [some (.ref 0), some (.int x1), some (.int ((ar 13 (iN ((10 : Int32) + x1))) - (1 : Int32))), none]) hX q_54_11 rfl rfl rfl rfl ?_
  refine gl_iconst hX q_54_12 ci_0 rfl ?_
  refine gl_istore_n (vs2 := [some (.ref 0), some (.int x1), some (.int ((ar 13 (iN ((10 : Int32) + x1))) - (1 : Int32))), some (.int (0 : Int32))]) hX q_54_13 rfl rfl rfl rfl ?_
  exact gl_weak (vs := [some (.ref 0), some (.int x1), some (.int ((ar 13 (iN ((10 : Int32) + x1))) - (1 : Int32))), some (.int (0 : Int32))]) ⟨rfl, rfl, rfl, rfl, trivial⟩ (rt_54_14 hX hr hrf hP oF x1 ((ar 13 (iN ((10 : Int32) + x1))) - (1 : Int32)) (0 : Int32) S ar h)
