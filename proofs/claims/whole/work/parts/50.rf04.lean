/-! THE REFERENCE: its methods as functions, and that the machine does what they say. -/
/-- ClickOrdersModel.eventHere()I -/
def rT_40 (X : jX) (rf : jRf) (F : (Nat → Int32) → jSc → Option (Int32 × (Nat → Int32) × jSc)) (e : Nat) : Prop := ∀ (sc : jSc) (al : jAl) (Post : jPo) (S : (Nat → Int32)) (ar : jSc) (r9 : Int32) (S9 : (Nat → Int32)) (ar9 : jSc), F S ar = some (r9, S9, ar9) → Post (some (.int r9)) (va_up sc 0 S9) rf ar9 al → gW X 40 e 0 (j_av [.ref 0]) [] (va_up sc 0 S) rf ar al Post
def rF_40 (S : (Nat → Int32)) (ar : jSc) : Option (Int32 × (Nat → Int32) × jSc) :=
  (o_b3 (rF_13 (19 : Int32) (20 : Int32) (1 : Int32) (18 : Int32) (20 : Int32) (0 : Int32) S ar) (fun ve1 Se1 are1 => (if ve1 = 0 then (o_b3 (rF_13 (16 : Int32) (18 : Int32) (5 : Int32) (19 : Int32) (19 : Int32) (0 : Int32) Se1 are1) (fun ve3 Se3 are3 => (if ve3 = 0 then (o_b3 (rF_13 (3 : Int32) (12 : Int32) (15 : Int32) (3 : Int32) (11 : Int32) (0 : Int32) Se3 are3) (fun ve5 Se5 are5 => (if ve5 = 0 then (o_b3 (rF_13 (1 : Int32) (14 : Int32) (19 : Int32) (23 : Int32) (5 : Int32) (18 : Int32) Se5 are5) (fun ve7 Se7 are7 => (if ve7 = 0 then (o_b2 (rF_8 (1 : Int32) (Se7 5) Se7 are7) (fun Se9 are9 => some ((0 : Int32), Se9, are9))) else (o_b2 (rF_14 Se7 are7) (fun Se10 are10 => (o_b3 (rF_17 (3 : Int32) Se10 are10) (fun ve11 Se11 are11 => some (((13 : Int32) + ve11), Se11, are11)))))))) else (o_b2 (rF_14 Se5 are5) (fun Se12 are12 => (o_b3 (rF_17 (3 : Int32) Se12 are12) (fun ve13 Se13 are13 => some (((9 : Int32) + ve13), Se13, are13)))))))) else (o_b2 (rF_14 Se3 are3) (fun Se14 are14 => (o_b3 (rF_17 (7 : Int32) Se14 are14) (fun ve15 Se15 are15 => some (((1 : Int32) + ve15), Se15, are15)))))))) else (o_b2 (rF_14 Se1 are1) (fun Se16 are16 => some ((0 : Int32), Se16, are16))))))
set_option maxHeartbeats 4000000 in
theorem rt_40 {X : jX} (hX : j_LK (g_n X) (g_L X)) (hr : g_rs X = r_sh) {rf : jRf} (hrf : rf 0 = r_rf) {d : Nat} : rT_40 X rf rF_40 (d + 5) := by
  intro sc al Post  S ar r9 S9 ar9 h hP
  unfold rF_40 at h
  refine gl_entry (m := 0) rfl ?_
  show gL X 40 (d + 5) 0 [some (.ref 0)] [] (va_up sc 0 S) rf ar al Post
  refine gl_aload_n hX q_40_0 rfl rfl ?_
  refine gl_bipush hX q_40_1 cb_19 rfl ?_
  refine gl_bipush hX q_40_3 cb_20 rfl ?_
  refine gl_iconst hX q_40_5 ci_1 rfl ?_
  refine gl_bipush hX q_40_6 cb_18 rfl ?_
  refine gl_bipush hX q_40_8 cb_20 rfl ?_
  refine gl_iconst hX q_40_10 ci_0 rfl ?_
  obtain ⟨ve1, Se1, are1, e1, h⟩ := o_k3 h
  refine gl_callV hX q_40_11 (qm_196 (by decide)) rfl rfl rfl (qs_0 hr) qx_13 rfl rfl ((rt_13 hX hr hrf) _ _ _ _ _ _ _ _ _ _ _ _ _ _ e1 ?_)
  refine gl_if_eq hX q_40_14 rfl rfl (fun c2 => ?_) (fun c2 => ?_)
  · have h := (if_pos c2).symm.trans h
    refine gl_aload_n hX q_40_23 rfl rfl ?_
    refine gl_bipush hX q_40_24 cb_16 rfl ?_
    refine gl_bipush hX q_40_26 cb_18 rfl ?_
    refine gl_iconst hX q_40_28 ci_5 rfl ?_
    refine gl_bipush hX q_40_29 cb_19 rfl ?_
    refine gl_bipush hX q_40_31 cb_19 rfl ?_
    refine gl_iconst hX q_40_33 ci_0 rfl ?_
    obtain ⟨ve3, Se3, are3, e3, h⟩ := o_k3 h
    refine gl_callV hX q_40_34 (qm_196 (by decide)) rfl rfl rfl (qs_0 hr) qx_13 rfl rfl ((rt_13 hX hr hrf) _ _ _ _ _ _ _ _ _ _ _ _ _ _ e3 ?_)
    refine gl_if_eq hX q_40_37 rfl rfl (fun c4 => ?_) (fun c4 => ?_)
    · have h := (if_pos c4).symm.trans h
      refine gl_aload_n hX q_40_53 rfl rfl ?_
      refine gl_iconst hX q_40_54 ci_3 rfl ?_
      refine gl_bipush hX q_40_55 cb_12 rfl ?_
      refine gl_bipush hX q_40_57 cb_15 rfl ?_
      refine gl_iconst hX q_40_59 ci_3 rfl ?_
      refine gl_bipush hX q_40_60 cb_11 rfl ?_
      refine gl_iconst hX q_40_62 ci_0 rfl ?_
      obtain ⟨ve5, Se5, are5, e5, h⟩ := o_k3 h
      refine gl_callV hX q_40_63 (qm_196 (by decide)) rfl rfl rfl (qs_0 hr) qx_13 rfl rfl ((rt_13 hX hr hrf) _ _ _ _ _ _ _ _ _ _ _ _ _ _ e5 ?_)
      refine gl_if_eq hX q_40_66 rfl rfl (fun c6 => ?_) (fun c6 => ?_)
      · have h := (if_pos c6).symm.trans h
        refine gl_aload_n hX q_40_82 rfl rfl ?_
        refine gl_iconst hX q_40_83 ci_1 rfl ?_
        refine gl_bipush hX q_40_84 cb_14 rfl ?_
        refine gl_bipush hX q_40_86 cb_19 rfl ?_
        refine gl_bipush hX q_40_88 cb_23 rfl ?_
        refine gl_iconst hX q_40_90 ci_5 rfl ?_
        refine gl_bipush hX q_40_91 cb_18 rfl ?_
        obtain ⟨ve7, Se7, are7, e7, h⟩ := o_k3 h
        refine gl_callV hX q_40_93 (qm_196 (by decide)) rfl rfl rfl (qs_0 hr) qx_13 rfl rfl ((rt_13 hX hr hrf) _ _ _ _ _ _ _ _ _ _ _ _ _ _ e7 ?_)
        refine gl_if_eq hX q_40_96 rfl rfl (fun c8 => ?_) (fun c8 => ?_)
        · have h := (if_pos c8).symm.trans h
          refine gl_aload_n hX q_40_112 rfl rfl ?_
          refine gl_iconst hX q_40_113 ci_1 rfl ?_
          refine gl_aload_n hX q_40_114 rfl rfl ?_
          refine gl_get hX q_40_115 (qf_138 (by decide)) (qs_0 hr) rfl qk_5 rfl rfl ?_
          obtain ⟨Se9, are9, e9, h⟩ := o_k2 h
          refine gl_callV hX q_40_118 (qm_166 (by decide)) rfl rfl rfl (qs_0 hr) qx_8 rfl rfl ((rt_8 hX hr hrf) _ _ _ _ _ _ _ _ _ e9 ?_)
          refine gl_iconst hX q_40_121 ci_0 rfl ?_
          exact gl_ireturn q_40_122 (Or.inl qr_40) (by cases h; exact hP)
        · have h := (if_neg c8).symm.trans h
          refine gl_aload_n hX q_40_99 rfl rfl ?_
          obtain ⟨Se10, are10, e10, h⟩ := o_k2 h
          refine gl_callV hX q_40_100 (qm_200 (by decide)) rfl rfl rfl (qs_0 hr) qx_14 rfl rfl ((rt_14 hX hr hrf) _ _ _  _ _ _ _ e10 ?_)
          refine gl_bipush hX q_40_103 cb_13 rfl ?_
          refine gl_aload_n hX q_40_105 rfl rfl ?_
          refine gl_iconst hX q_40_106 ci_3 rfl ?_
          obtain ⟨ve11, Se11, are11, e11, h⟩ := o_k3 h
          refine gl_callV hX q_40_107 (qm_206 (by decide)) rfl rfl rfl (qs_0 hr) qx_17 rfl rfl ((rt_17 hX hr hrf) _ _ _ _ _ _ _ _ _ e11 ?_)
          refine gl_iadd hX q_40_110 rfl ?_
          exact gl_ireturn q_40_111 (Or.inl qr_40) (by cases h; exact hP)
      · have h := (if_neg c6).symm.trans h
        refine gl_aload_n hX q_40_69 rfl rfl ?_
        obtain ⟨Se12, are12, e12, h⟩ := o_k2 h
        refine gl_callV hX q_40_70 (qm_200 (by decide)) rfl rfl rfl (qs_0 hr) qx_14 rfl rfl ((rt_14 hX hr hrf) _ _ _  _ _ _ _ e12 ?_)
        refine gl_bipush hX q_40_73 cb_9 rfl ?_
        refine gl_aload_n hX q_40_75 rfl rfl ?_
        refine gl_iconst hX q_40_76 ci_3 rfl ?_
        obtain ⟨ve13, Se13, are13, e13, h⟩ := o_k3 h
        refine gl_callV hX q_40_77 (qm_206 (by decide)) rfl rfl rfl (qs_0 hr) qx_17 rfl rfl ((rt_17 hX hr hrf) _ _ _ _ _ _ _ _ _ e13 ?_)
        refine gl_iadd hX q_40_80 rfl ?_
        exact gl_ireturn q_40_81 (Or.inl qr_40) (by cases h; exact hP)
    · have h := (if_neg c4).symm.trans h
      refine gl_aload_n hX q_40_40 rfl rfl ?_
      obtain ⟨Se14, are14, e14, h⟩ := o_k2 h
      refine gl_callV hX q_40_41 (qm_200 (by decide)) rfl rfl rfl (qs_0 hr) qx_14 rfl rfl ((rt_14 hX hr hrf) _ _ _  _ _ _ _ e14 ?_)
      refine gl_iconst hX q_40_44 ci_1 rfl ?_
      refine gl_aload_n hX q_40_45 rfl rfl ?_
      refine gl_bipush hX q_40_46 cb_7 rfl ?_
      obtain ⟨ve15, Se15, are15, e15, h⟩ := o_k3 h
      refine gl_callV hX q_40_48 (qm_206 (by decide)) rfl rfl rfl (qs_0 hr) qx_17 rfl rfl ((rt_17 hX hr hrf) _ _ _ _ _ _ _ _ _ e15 ?_)
      refine gl_iadd hX q_40_51 rfl ?_
      exact gl_ireturn q_40_52 (Or.inl qr_40) (by cases h; exact hP)
  · have h := (if_neg c2).symm.trans h
    refine gl_aload_n hX q_40_17 rfl rfl ?_
    obtain ⟨Se16, are16, e16, h⟩ := o_k2 h
    refine gl_callV hX q_40_18 (qm_200 (by decide)) rfl rfl rfl (qs_0 hr) qx_14 rfl rfl ((rt_14 hX hr hrf) _ _ _  _ _ _ _ e16 ?_)
    refine gl_iconst hX q_40_21 ci_0 rfl ?_
    exact gl_ireturn q_40_22 (Or.inl qr_40) (by cases h; exact hP)
/-- ClickOrdersModel.part()V -/
def rT_41 (X : jX) (rf : jRf) (F : (Nat → Int32) → jSc → Option ((Nat → Int32) × jSc)) (e : Nat) : Prop := ∀ (sc : jSc) (al : jAl) (Post : jPo) (S : (Nat → Int32)) (ar : jSc) (S9 : (Nat → Int32)) (ar9 : jSc), F S ar = some (S9, ar9) → Post none (va_up sc 0 S9) rf ar9 al → gW X 41 e 0 (j_av [.ref 0]) [] (va_up sc 0 S) rf ar al Post
def rF_41_79 : Nat → (Nat → Int32) → jSc → Option ((Nat → Int32) × jSc)
  | 0, _, _ => none
  | nn + 1, S, ar => (if (S 7) = 0 then (o_b3 (rF_6 (S 5) S ar) (fun ve2 Se2 are2 => (if ve2 = (125 : Int32) then some ((upd Se2 5 ((Se2 5) + (1 : Int32))), are2) else (o_b2 ((rG_29 40).1 Se2 are2) (fun Se4 are4 => (o_b2 (rF_7 Se4 are4) (fun Se5 are5 => rF_41_79 nn Se5 are5))))))) else some ((upd S 5 ((S 5) + (1 : Int32))), ar))
set_option maxHeartbeats 4000000 in
theorem rt_41_79 {X : jX} (hX : j_LK (g_n X) (g_L X)) (hr : g_rs X = r_sh) {rf : jRf} (hrf : rf 0 = r_rf) {d : Nat} {sc : jSc} {al : jAl} {Post : jPo} {S9 : (Nat → Int32)} {ar9 : jSc} (hP : Post none (va_up sc 0 S9) rf ar9 al) : ∀ (nn : Nat) (S : (Nat → Int32)) (ar : jSc), rF_41_79 nn S ar = some (S9, ar9) → gL X 41 (d + 125) 79 [some (.ref 0), none, none, none] [] (va_up sc 0 S) rf ar al Post := by
  intro nn
  induction nn with
  | zero =>
    intro S ar h
    have h : (none : Option ((Nat → Int32) × jSc)) = some _ := h
    cases h
  | succ nn ih =>
    intro S ar h
    unfold rF_41_79 at h
    refine gl_aload_n hX q_41_79 rfl rfl ?_
    refine gl_get hX q_41_80 (qf_145 (by decide)) (qs_0 hr) rfl qk_7 rfl rfl ?_
    refine gl_if_ne hX q_41_83 rfl rfl (fun c1 => ?_) (fun c1 => ?_)
    · have h := (if_pos c1).symm.trans h
      refine gl_aload_n hX q_41_86 rfl rfl ?_
      refine gl_aload_n hX q_41_87 rfl rfl ?_
      refine gl_get hX q_41_88 (qf_138 (by decide)) (qs_0 hr) rfl qk_5 rfl rfl ?_
      obtain ⟨ve2, Se2, are2, e2, h⟩ := o_k3 h
      refine gl_callV hX q_41_91 (qm_141 (by decide)) rfl rfl rfl (qs_0 hr) qx_6 rfl rfl ((rt_6 hX hr hrf) _ _ _ _ _ _ _ _ _ e2 ?_)
      refine gl_bipush hX q_41_94 cb_125 rfl ?_
      refine gl_ic_eq hX q_41_96 rfl rfl (fun c3 => ?_) (fun c3 => ?_)
      · have h := (if_pos c3).symm.trans h
        refine gl_aload_n hX q_41_110 rfl rfl ?_
        refine gl_dup hX q_41_111 rfl rfl ?_
        refine gl_get hX q_41_112 (qf_138 (by decide)) (qs_0 hr) rfl qk_5 rfl rfl ?_
        refine gl_iconst hX q_41_115 ci_1 rfl ?_
        refine gl_iadd hX q_41_116 rfl ?_
        refine gl_put hX q_41_117 (qf_138 (by decide)) (qs_0 hr) rfl qk_5 rfl ru rfl ?_
        exact gl_return q_41_120 qr_41 (by cases h; exact hP)
      · have h := (if_neg c3).symm.trans h
        refine gl_aload_n hX q_41_99 rfl rfl ?_
        obtain ⟨Se4, are4, e4, h⟩ := o_k2 h
        refine gl_callV hX q_41_100 (qm_272 (by decide)) rfl rfl rfl (qs_0 hr) qx_29 rfl rfl (((rtG_29 hX hr hrf 40).1) _ _ _  _ _ _ _ e4 ?_)
        refine gl_aload_n hX q_41_103 rfl rfl ?_
        obtain ⟨Se5, are5, e5, h⟩ := o_k2 h
        refine gl_callV hX q_41_104 (qm_151 (by decide)) rfl rfl rfl (qs_0 hr) qx_7 rfl rfl ((rt_7 hX hr hrf) _ _ _  _ _ _ _ e5 ?_)
        refine gl_goto hX q_41_107 rfl ?_
        exact gl_weak (vs := [some (.ref 0), none, none, none]) ⟨rfl, trivial⟩ (ih Se5 are5 h)
    · have h := (if_neg c1).symm.trans h
      refine gl_aload_n hX q_41_110 rfl rfl ?_
      refine gl_dup hX q_41_111 rfl rfl ?_
      refine gl_get hX q_41_112 (qf_138 (by decide)) (qs_0 hr) rfl qk_5 rfl rfl ?_
      refine gl_iconst hX q_41_115 ci_1 rfl ?_
      refine gl_iadd hX q_41_116 rfl ?_
      refine gl_put hX q_41_117 (qf_138 (by decide)) (qs_0 hr) rfl qk_5 rfl ru rfl ?_
      exact gl_return q_41_120 qr_41 (by cases h; exact hP)
def rF_41_52 (x2 : Int32) (S : (Nat → Int32)) (ar : jSc) : Option ((Nat → Int32) × jSc) :=
  (if (S 7) = 0 then (o_b2 (rF_15 (123 : Int32) S ar) (fun Se7 are7 => (if iB x2 17 then (o_b2 (rF_7 Se7 (j_u2 are7 12 (iN x2) (Se7 5))) (fun Se9 are9 => rF_41_79 oF Se9 are9)) else none))) else (if iB x2 17 then (o_b2 (rF_7 S (j_u2 ar 12 (iN x2) (S 5))) (fun Se11 are11 => rF_41_79 oF Se11 are11)) else none))
set_option maxHeartbeats 4000000 in
theorem rt_41_52 {X : jX} (hX : j_LK (g_n X) (g_L X)) (hr : g_rs X = r_sh) {rf : jRf} (hrf : rf 0 = r_rf) {d : Nat} {sc : jSc} {al : jAl} {Post : jPo} {S9 : (Nat → Int32)} {ar9 : jSc} (hP : Post none (va_up sc 0 S9) rf ar9 al) (x2 : Int32) (S : (Nat → Int32)) (ar : jSc) (h : rF_41_52 x2 S ar = some (S9, ar9)) : gL X 41 (d + 125) 52 [some (.ref 0), none, some (.int x2), none] [] (va_up sc 0 S) rf ar al Post := by
  unfold rF_41_52 at h
  refine gl_aload_n hX q_41_52 rfl rfl ?_
  refine gl_get hX q_41_53 (qf_145 (by decide)) (qs_0 hr) rfl qk_7 rfl rfl ?_
  refine gl_if_ne hX q_41_56 rfl rfl (fun c6 => ?_) (fun c6 => ?_)
  · have h := (if_pos c6).symm.trans h
    refine gl_aload_n hX q_41_59 rfl rfl ?_
    refine gl_bipush hX q_41_60 cb_123 rfl ?_
    obtain ⟨Se7, are7, e7, h⟩ := o_k2 h
    refine gl_callV hX q_41_62 (qm_219 (by decide)) rfl rfl rfl (qs_0 hr) qx_15 rfl rfl ((rt_15 hX hr hrf) _ _ _ _ _ _ _ _ e7 ?_)
    refine gl_aload_n hX q_41_65 rfl rfl ?_
    refine gl_getA hX q_41_66 (qf_39 (by decide)) (qs_0 hr) rfl qk_20 ((congrFun hrf 20).trans qa_20) rfl ?_
    refine gl_iload_n hX q_41_69 rfl rfl ?_
    refine gl_aload_n hX q_41_70 rfl rfl ?_
    refine gl_get hX q_41_71 (qf_138 (by decide)) (qs_0 hr) rfl qk_5 rfl rfl ?_
    obtain ⟨c8, h⟩ := o_ck h
    refine gl_iastore (ar2 := (j_u2 are7 12 (iN x2) (Se7 5))) hX q_41_74 (qs_12 hr) c8 rfl rfl ?_
    refine gl_aload_n hX q_41_75 rfl rfl ?_
    obtain ⟨Se9, are9, e9, h⟩ := o_k2 h
    refine gl_callV hX q_41_76 (qm_151 (by decide)) rfl rfl rfl (qs_0 hr) qx_7 rfl rfl ((rt_7 hX hr hrf) _ _ _  _ _ _ _ e9 ?_)
    exact gl_weak (vs := [some (.ref 0), none, none, none]) ⟨rfl, trivial⟩ (rt_41_79 hX hr hrf hP oF Se9 are9 h)
  · have h := (if_neg c6).symm.trans h
    refine gl_aload_n hX q_41_65 rfl rfl ?_
    refine gl_getA hX q_41_66 (qf_39 (by decide)) (qs_0 hr) rfl qk_20 ((congrFun hrf 20).trans qa_20) rfl ?_
    refine gl_iload_n hX q_41_69 rfl rfl ?_
    refine gl_aload_n hX q_41_70 rfl rfl ?_
    refine gl_get hX q_41_71 (qf_138 (by decide)) (qs_0 hr) rfl qk_5 rfl rfl ?_
    obtain ⟨c10, h⟩ := o_ck h
    refine gl_iastore (ar2 := (j_u2 ar 12 (iN x2) (S 5))) hX q_41_74 (qs_12 hr) c10 rfl rfl ?_
    refine gl_aload_n hX q_41_75 rfl rfl ?_
    obtain ⟨Se11, are11, e11, h⟩ := o_k2 h
    refine gl_callV hX q_41_76 (qm_151 (by decide)) rfl rfl rfl (qs_0 hr) qx_7 rfl rfl ((rt_7 hX hr hrf) _ _ _  _ _ _ _ e11 ?_)
    exact gl_weak (vs := [some (.ref 0), none, none, none]) ⟨rfl, trivial⟩ (rt_41_79 hX hr hrf hP oF Se11 are11 h)
def rF_41_165 (x2 : Int32) (S : (Nat → Int32)) (ar : jSc) : Option ((Nat → Int32) × jSc) :=
  (if (S 7) = 0 then (o_b2 (rF_14 S ar) (fun Se13 are13 => (if x2 = 0 then (o_b3 ((rG_25 40).2.2 (upd Se13 19 (Se13 5)) are13) (fun ve15 Se15 are15 => (if (Se15 7) = 0 then (o_b2 (rF_15 (59 : Int32) Se15 are15) (fun Se17 are17 => some (Se17, are17))) else some (Se15, are15)))) else (o_b3 ((rG_25 40).2.2 (upd Se13 18 (Se13 5)) are13) (fun ve18 Se18 are18 => (if (Se18 7) = 0 then (o_b2 (rF_15 (59 : Int32) Se18 are18) (fun Se20 are20 => some (Se20, are20))) else some (Se18, are18))))))) else some (S, ar))
set_option maxHeartbeats 4000000 in
theorem rt_41_165 {X : jX} (hX : j_LK (g_n X) (g_L X)) (hr : g_rs X = r_sh) {rf : jRf} (hrf : rf 0 = r_rf) {d : Nat} {sc : jSc} {al : jAl} {Post : jPo} {S9 : (Nat → Int32)} {ar9 : jSc} (hP : Post none (va_up sc 0 S9) rf ar9 al) (x2 : Int32) (S : (Nat → Int32)) (ar : jSc) (h : rF_41_165 x2 S ar = some (S9, ar9)) : gL X 41 (d + 125) 165 [some (.ref 0), none, some (.int x2), none] [] (va_up sc 0 S) rf ar al Post := by
  unfold rF_41_165 at h
  refine gl_aload_n hX q_41_165 rfl rfl ?_
  refine gl_get hX q_41_166 (qf_145 (by decide)) (qs_0 hr) rfl qk_7 rfl rfl ?_
  refine gl_if_eq hX q_41_169 rfl rfl (fun c12 => ?_) (fun c12 => ?_)
  · have h := (if_pos c12).symm.trans h
    refine gl_aload_n hX q_41_173 rfl rfl ?_
    obtain ⟨Se13, are13, e13, h⟩ := o_k2 h
    refine gl_callV hX q_41_174 (qm_200 (by decide)) rfl rfl rfl (qs_0 hr) qx_14 rfl rfl ((rt_14 hX hr hrf) _ _ _  _ _ _ _ e13 ?_)
    refine gl_iload_n hX q_41_177 rfl rfl ?_
    refine gl_if_eq hX q_41_178 rfl rfl (fun c14 => ?_) (fun c14 => ?_)
    · have h := (if_pos c14).symm.trans h
      refine gl_aload_n hX q_41_192 rfl rfl ?_
      refine gl_aload_n hX q_41_193 rfl rfl ?_
      refine gl_get hX q_41_194 (qf_138 (by decide)) (qs_0 hr) rfl qk_5 rfl rfl ?_
      refine gl_put hX q_41_197 (qf_303 (by decide)) (qs_0 hr) rfl qk_19 rfl ru rfl ?_
      refine gl_aload_n hX q_41_200 rfl rfl ?_
      obtain ⟨ve15, Se15, are15, e15, h⟩ := o_k3 h
      refine gl_callV hX q_41_201 (qm_232 (by decide)) rfl rfl rfl (qs_0 hr) qx_27 rfl rfl (((rtG_25 hX hr hrf 40).2.2) _ _ _  _ _ _ _ _ e15 ?_)
      refine gl_pop hX q_41_204 rfl rfl ?_
      refine gl_aload_n hX q_41_205 rfl rfl ?_
      refine gl_get hX q_41_206 (qf_145 (by decide)) (qs_0 hr) rfl qk_7 rfl rfl ?_
      refine gl_if_ne hX q_41_209 rfl rfl (fun c16 => ?_) (fun c16 => ?_)
      · have h := (if_pos c16).symm.trans h
        refine gl_aload_n hX q_41_212 rfl rfl ?_
        refine gl_bipush hX q_41_213 cb_59 rfl ?_
        obtain ⟨Se17, are17, e17, h⟩ := o_k2 h
        refine gl_callV hX q_41_215 (qm_219 (by decide)) rfl rfl rfl (qs_0 hr) qx_15 rfl rfl ((rt_15 hX hr hrf) _ _ _ _ _ _ _ _ e17 ?_)
        exact gl_return q_41_218 qr_41 (by cases h; exact hP)
      · have h := (if_neg c16).symm.trans h
        exact gl_return q_41_218 qr_41 (by cases h; exact hP)
    · have h := (if_neg c14).symm.trans h
      refine gl_aload_n hX q_41_181 rfl rfl ?_
      refine gl_aload_n hX q_41_182 rfl rfl ?_
      refine gl_get hX q_41_183 (qf_138 (by decide)) (qs_0 hr) rfl qk_5 rfl rfl ?_
      refine gl_put hX q_41_186 (qf_300 (by decide)) (qs_0 hr) rfl qk_18 rfl ru rfl ?_
      refine gl_goto hX q_41_189 rfl ?_
      refine gl_aload_n hX q_41_200 rfl rfl ?_
      obtain ⟨ve18, Se18, are18, e18, h⟩ := o_k3 h
      refine gl_callV hX q_41_201 (qm_232 (by decide)) rfl rfl rfl (qs_0 hr) qx_27 rfl rfl (((rtG_25 hX hr hrf 40).2.2) _ _ _  _ _ _ _ _ e18 ?_)
      refine gl_pop hX q_41_204 rfl rfl ?_
      refine gl_aload_n hX q_41_205 rfl rfl ?_
      refine gl_get hX q_41_206 (qf_145 (by decide)) (qs_0 hr) rfl qk_7 rfl rfl ?_
      refine gl_if_ne hX q_41_209 rfl rfl (fun c19 => ?_) (fun c19 => ?_)
      · have h := (if_pos c19).symm.trans h
        refine gl_aload_n hX q_41_212 rfl rfl ?_
        refine gl_bipush hX q_41_213 cb_59 rfl ?_
        obtain ⟨Se20, are20, e20, h⟩ := o_k2 h
        refine gl_callV hX q_41_215 (qm_219 (by decide)) rfl rfl rfl (qs_0 hr) qx_15 rfl rfl ((rt_15 hX hr hrf) _ _ _ _ _ _ _ _ e20 ?_)
        exact gl_return q_41_218 qr_41 (by cases h; exact hP)
      · have h := (if_neg c19).symm.trans h
        exact gl_return q_41_218 qr_41 (by cases h; exact hP)
  · have h := (if_neg c12).symm.trans h
    exact gl_return q_41_172 qr_41 (by cases h; exact hP)
def rF_41 (S : (Nat → Int32)) (ar : jSc) : Option ((Nat → Int32) × jSc) :=
  (o_b3 (rF_13 (15 : Int32) (14 : Int32) (0 : Int32) (0 : Int32) (0 : Int32) (0 : Int32) S ar) (fun ve21 Se21 are21 => (if ve21 = 0 then (o_b3 (rF_13 (8 : Int32) (1 : Int32) (18 : Int32) (13 : Int32) (0 : Int32) (0 : Int32) Se21 are21) (fun ve23 Se23 are23 => (o_b3 (rF_13 (16 : Int32) (12 : Int32) (1 : Int32) (3 : Int32) (5 : Int32) (0 : Int32) Se23 are23) (fun ve24 Se24 are24 => (if ve23 = 0 then (if ve24 = 0 then (o_b2 (rF_8 (1 : Int32) (Se24 5) Se24 are24) (fun Se27 are27 => rF_41_165 ve23 Se27 are27)) else rF_41_165 ve23 Se24 are24) else rF_41_165 ve23 Se24 are24))))) else (o_b2 (rF_14 Se21 are21) (fun Se28 are28 => (o_b3 (rF_40 Se28 are28) (fun ve29 Se29 are29 => (if (Se29 7) = 0 then (if iB ve29 17 then (if (are29 12 (iN ve29)) = (-1 : Int32) then rF_41_52 ve29 Se29 are29 else (o_b2 (rF_8 (4 : Int32) (S 5) Se29 are29) (fun Se33 are33 => rF_41_52 ve29 Se33 are33))) else none) else rF_41_52 ve29 Se29 are29))))))))
set_option maxHeartbeats 4000000 in
theorem rt_41 {X : jX} (hX : j_LK (g_n X) (g_L X)) (hr : g_rs X = r_sh) {rf : jRf} (hrf : rf 0 = r_rf) {d : Nat} : rT_41 X rf rF_41 (d + 125) := by
  intro sc al Post  S ar S9 ar9 h hP
  unfold rF_41 at h
  refine gl_entry (m := 3) rfl ?_
  show gL X 41 (d + 125) 0 [some (.ref 0), none, none, none] [] (va_up sc 0 S) rf ar al Post
  refine gl_aload_n hX q_41_0 rfl rfl ?_
  refine gl_get hX q_41_1 (qf_138 (by decide)) (qs_0 hr) rfl qk_5 rfl rfl ?_
  refine gl_istore_n (vs2 := [some (.ref 0), some (.int (S 5)), none, none]) hX q_41_4 rfl rfl rfl rfl ?_
  refine gl_aload_n hX q_41_5 rfl rfl ?_
  refine gl_bipush hX q_41_6 cb_15 rfl ?_
  refine gl_bipush hX q_41_8 cb_14 rfl ?_
  refine gl_iconst hX q_41_10 ci_0 rfl ?_
  refine gl_iconst hX q_41_11 ci_0 rfl ?_
  refine gl_iconst hX q_41_12 ci_0 rfl ?_
  refine gl_iconst hX q_41_13 ci_0 rfl ?_
  obtain ⟨ve21, Se21, are21, e21, h⟩ := o_k3 h
  refine gl_callV hX q_41_14 (qm_196 (by decide)) rfl rfl rfl (qs_0 hr) qx_13 rfl rfl ((rt_13 hX hr hrf) _ _ _ _ _ _ _ _ _ _ _ _ _ _ e21 ?_)
  refine gl_if_eq hX q_41_17 rfl rfl (fun c22 => ?_) (fun c22 => ?_)
  · have h := (if_pos c22).symm.trans h
    refine gl_aload_n hX q_41_121 rfl rfl ?_
    refine gl_bipush hX q_41_122 cb_8 rfl ?_
    refine gl_iconst hX q_41_124 ci_1 rfl ?_
    refine gl_bipush hX q_41_125 cb_18 rfl ?_
    refine gl_bipush hX q_41_127 cb_13 rfl ?_
    refine gl_iconst hX q_41_129 ci_0 rfl ?_
    refine gl_iconst hX q_41_130 ci_0 rfl ?_
    obtain ⟨ve23, Se23, are23, e23, h⟩ := o_k3 h
    refine gl_callV hX q_41_131 (qm_196 (by decide)) rfl rfl rfl (qs_0 hr) qx_13 rfl rfl ((rt_13 hX hr hrf) _ _ _ _ _ _ _ _ _ _ _ _ _ _ e23 ?_)
    refine gl_istore_n (vs2 := [some (.ref 0), some (.int (S 5)), some (.int ve23), none]) hX q_41_134 rfl rfl rfl rfl ?_
    refine gl_aload_n hX q_41_135 rfl rfl ?_
    refine gl_bipush hX q_41_136 cb_16 rfl ?_
    refine gl_bipush hX q_41_138 cb_12 rfl ?_
    refine gl_iconst hX q_41_140 ci_1 rfl ?_
    refine gl_iconst hX q_41_141 ci_3 rfl ?_
    refine gl_iconst hX q_41_142 ci_5 rfl ?_
    refine gl_iconst hX q_41_143 ci_0 rfl ?_
    obtain ⟨ve24, Se24, are24, e24, h⟩ := o_k3 h
    refine gl_callV hX q_41_144 (qm_196 (by decide)) rfl rfl rfl (qs_0 hr) qx_13 rfl rfl ((rt_13 hX hr hrf) _ _ _ _ _ _ _ _ _ _ _ _ _ _ e24 ?_)
    refine gl_istore_n (vs2 := [some (.ref 0), some (.int (S 5)), some (.int ve23), some (.int ve24)]) hX q_41_147 rfl rfl rfl rfl ?_
    refine gl_iload_n hX q_41_148 rfl rfl ?_
    refine gl_if_ne hX q_41_149 rfl rfl (fun c25 => ?_) (fun c25 => ?_)
    · have h := (if_pos c25).symm.trans h
      refine gl_iload_n hX q_41_152 rfl rfl ?_
      refine gl_if_ne hX q_41_153 rfl rfl (fun c26 => ?_) (fun c26 => ?_)
      · have h := (if_pos c26).symm.trans h
        refine gl_aload_n hX q_41_156 rfl rfl ?_
        refine gl_iconst hX q_41_157 ci_1 rfl ?_
        refine gl_aload_n hX q_41_158 rfl rfl ?_
        refine gl_get hX q_41_159 (qf_138 (by decide)) (qs_0 hr) rfl qk_5 rfl rfl ?_
        obtain ⟨Se27, are27, e27, h⟩ := o_k2 h
        refine gl_callV hX q_41_162 (qm_166 (by decide)) rfl rfl rfl (qs_0 hr) qx_8 rfl rfl ((rt_8 hX hr hrf) _ _ _ _ _ _ _ _ _ e27 ?_)
        exact gl_weak (vs := [some (.ref 0), none, some (.int ve23), none]) ⟨rfl, rfl, trivial⟩ (rt_41_165 hX hr hrf hP ve23 Se27 are27 h)
      · have h := (if_neg c26).symm.trans h
        exact gl_weak (vs := [some (.ref 0), none, some (.int ve23), none]) ⟨rfl, rfl, trivial⟩ (rt_41_165 hX hr hrf hP ve23 Se24 are24 h)
    · have h := (if_neg c25).symm.trans h
      exact gl_weak (vs := [some (.ref 0), none, some (.int ve23), none]) ⟨rfl, rfl, trivial⟩ (rt_41_165 hX hr hrf hP ve23 Se24 are24 h)
  · have h := (if_neg c22).symm.trans h
    refine gl_aload_n hX q_41_20 rfl rfl ?_
    obtain ⟨Se28, are28, e28, h⟩ := o_k2 h
    refine gl_callV hX q_41_21 (qm_200 (by decide)) rfl rfl rfl (qs_0 hr) qx_14 rfl rfl ((rt_14 hX hr hrf) _ _ _  _ _ _ _ e28 ?_)
    refine gl_aload_n hX q_41_24 rfl rfl ?_
    obtain ⟨ve29, Se29, are29, e29, h⟩ := o_k3 h
    refine gl_callV hX q_41_25 (qm_297 (by decide)) rfl rfl rfl (qs_0 hr) qx_40 rfl rfl ((rt_40 hX hr hrf) _ _ _  _ _ _ _ _ e29 ?_)
    refine gl_istore_n (vs2 := [some (.ref 0), some (.int (S 5)), some (.int ve29), none]) hX q_41_28 rfl rfl rfl rfl ?_
    refine gl_aload_n hX q_41_29 rfl rfl ?_
    refine gl_get hX q_41_30 (qf_145 (by decide)) (qs_0 hr) rfl qk_7 rfl rfl ?_
    refine gl_if_ne hX q_41_33 rfl rfl (fun c30 => ?_) (fun c30 => ?_)
    · have h := (if_pos c30).symm.trans h
      refine gl_aload_n hX q_41_36 rfl rfl ?_
      refine gl_getA hX q_41_37 (qf_39 (by decide)) (qs_0 hr) rfl qk_20 ((congrFun hrf 20).trans qa_20) rfl ?_
      refine gl_iload_n hX q_41_40 rfl rfl ?_
      obtain ⟨c31, h⟩ := o_ck h
      refine gl_iaload hX q_41_41 (qs_12 hr) c31 rfl rfl ?_
      refine gl_iconst hX q_41_42 ci_m1 rfl ?_
      refine gl_ic_eq hX q_41_43 rfl rfl (fun c32 => ?_) (fun c32 => ?_)
      · have h := (if_pos c32).symm.trans h
        exact gl_weak (vs := [some (.ref 0), none, some (.int ve29), none]) ⟨rfl, rfl, trivial⟩ (rt_41_52 hX hr hrf hP ve29 Se29 are29 h)
      · have h := (if_neg c32).symm.trans h
        refine gl_aload_n hX q_41_46 rfl rfl ?_
        refine gl_iconst hX q_41_47 ci_4 rfl ?_
        refine gl_iload_n hX q_41_48 rfl rfl ?_
        obtain ⟨Se33, are33, e33, h⟩ := o_k2 h
        refine gl_callV hX q_41_49 (qm_166 (by decide)) rfl rfl rfl (qs_0 hr) qx_8 rfl rfl ((rt_8 hX hr hrf) _ _ _ _ _ _ _ _ _ e33 ?_)
        exact gl_weak (vs := [some (.ref 0), none, some (.int ve29), none]) ⟨rfl, rfl, trivial⟩ (rt_41_52 hX hr hrf hP ve29 Se33 are33 h)
    · have h := (if_neg c30).symm.trans h
      exact gl_weak (vs := [some (.ref 0), none, some (.int ve29), none]) ⟨rfl, rfl, trivial⟩ (rt_41_52 hX hr hrf hP ve29 Se29 are29 h)
/-- ClickOrdersModel.takesOver(I)V -/
def rT_43 (X : jX) (rf : jRf) (F : Int32 → (Nat → Int32) → jSc → Option ((Nat → Int32) × jSc)) (e : Nat) : Prop := ∀ (sc : jSc) (al : jAl) (Post : jPo) (x1 : Int32) (S : (Nat → Int32)) (ar : jSc) (S9 : (Nat → Int32)) (ar9 : jSc), F x1 S ar = some (S9, ar9) → Post none (va_up sc 0 S9) rf ar9 al → gW X 43 e 0 (j_av [.ref 0, .int x1]) [] (va_up sc 0 S) rf ar al Post
def rF_43_138 : Nat → Int32 → Int32 → (Nat → Int32) → jSc → Option ((Nat → Int32) × jSc)
  | 0, _, _, _, _ => none
  | nn + 1, x1, x2, S, ar => (if (17 : Int32) ≤ x2 then some (S, (j_u2 (j_u2 (j_u2 (j_u2 ar 8 0 x1) 9 0 (S 17)) 10 0 (S 18)) 11 0 (S 19))) else (if iB x2 17 then (if iB x2 17 then rF_43_138 nn x1 (x2 + (1 : Int32)) S (j_u2 ar 6 (iN x2) (ar 12 (iN x2))) else none) else none))
set_option maxHeartbeats 4000000 in
theorem rt_43_138 {X : jX} (hX : j_LK (g_n X) (g_L X)) (hr : g_rs X = r_sh) {rf : jRf} (hrf : rf 0 = r_rf) {d : Nat} {sc : jSc} {al : jAl} {Post : jPo} {S9 : (Nat → Int32)} {ar9 : jSc} (hP : Post none (va_up sc 0 S9) rf ar9 al) : ∀ (nn : Nat) (x1 : Int32) (x2 : Int32) (S : (Nat → Int32)) (ar : jSc), rF_43_138 nn x1 x2 S ar = some (S9, ar9) → gL X 43 (d + 1) 138 [some (.ref 0), some (.int x1), some (.int x2)] [] (va_up sc 0 S) rf ar al Post := by
  intro nn
  induction nn with
  | zero =>
    intro x1 x2 S ar h
    have h : (none : Option ((Nat → Int32) × jSc)) = some _ := h
    cases h
  | succ nn ih =>
    intro x1 x2 S ar h
    unfold rF_43_138 at h
    refine gl_iload_n hX q_43_138 rfl rfl ?_
    refine gl_bipush hX q_43_139 cb_17 rfl ?_
    refine gl_ic_ge hX q_43_141 rfl rfl (fun c1 => ?_) (fun c1 => ?_)
    · have h := (if_pos c1).symm.trans h
      refine gl_aload_n hX q_43_164 rfl rfl ?_
      refine gl_getA hX q_43_165 (qf_27 (by decide)) (qs_0 hr) rfl qk_12 ((congrFun hrf 12).trans qa_12) rfl ?_
      refine gl_iconst hX q_43_168 ci_0 rfl ?_
      refine gl_iload_n hX q_43_169 rfl rfl ?_
      refine gl_iastore (ar2 := (j_u2 ar 8 0 x1)) hX q_43_170 (qs_8 hr) (by decide) rfl rfl ?_
      refine gl_aload_n hX q_43_171 rfl rfl ?_
      refine gl_getA hX q_43_172 (qf_30 (by decide)) (qs_0 hr) rfl qk_13 ((congrFun hrf 13).trans qa_13) rfl ?_
      refine gl_iconst hX q_43_175 ci_0 rfl ?_
      refine gl_aload_n hX q_43_176 rfl rfl ?_
      refine gl_get hX q_43_177 (qf_241 (by decide)) (qs_0 hr) rfl qk_17 rfl rfl ?_
      refine gl_iastore (ar2 := (j_u2 (j_u2 ar 8 0 x1) 9 0 (S 17))) hX q_43_180 (qs_9 hr) (by decide) rfl rfl ?_
      refine gl_aload_n hX q_43_181 rfl rfl ?_
      refine gl_getA hX q_43_182 (qf_33 (by decide)) (qs_0 hr) rfl qk_14 ((congrFun hrf 14).trans qa_14) rfl ?_
      refine gl_iconst hX q_43_185 ci_0 rfl ?_
      refine gl_aload_n hX q_43_186 rfl rfl ?_
      refine gl_get hX q_43_187 (qf_300 (by decide)) (qs_0 hr) rfl qk_18 rfl rfl ?_
      refine gl_iastore (ar2 := (j_u2 (j_u2 (j_u2 ar 8 0 x1) 9 0 (S 17)) 10 0 (S 18))) hX q_43_190 (qs_10 hr) (by decide) rfl rfl ?_
      refine gl_aload_n hX q_43_191 rfl rfl ?_
      refine gl_getA hX q_43_192 (qf_36 (by decide)) (qs_0 hr) rfl qk_15 ((congrFun hrf 15).trans qa_15) rfl ?_
      refine gl_iconst hX q_43_195 ci_0 rfl ?_
      refine gl_aload_n hX q_43_196 rfl rfl ?_
      refine gl_get hX q_43_197 (qf_303 (by decide)) (qs_0 hr) rfl qk_19 rfl rfl ?_
      refine gl_iastore (ar2 := (j_u2 (j_u2 (j_u2 (j_u2 ar 8 0 x1) 9 0 (S 17)) 10 0 (S 18)) 11 0 (S 19))) hX q_43_200 (qs_11 hr) (by decide) rfl rfl ?_
      exact gl_return q_43_201 qr_43 (by cases h; exact hP)
    · have h := (if_neg c1).symm.trans h
      refine gl_aload_n hX q_43_144 rfl rfl ?_
      refine gl_getA hX q_43_145 (qf_24 (by decide)) (qs_0 hr) rfl qk_11 ((congrFun hrf 11).trans qa_11) rfl ?_
      refine gl_iconst hX q_43_148 ci_0 rfl ?_
      refine gl_aaload hX q_43_149 (qs_5 hr) (show iB (0 : Int32) 2 by decide) (Or.inr ⟨Or.inl rfl, qs_0 hr⟩) (qo_5 (iB_lt (show iB (0 : Int32) 2 by decide))) rfl ?_
      refine gl_iload_n hX q_43_150 rfl rfl ?_
      refine gl_aload_n hX q_43_151 rfl rfl ?_
      refine gl_getA hX q_43_152 (qf_39 (by decide)) (qs_0 hr) rfl qk_20 ((congrFun hrf 20).trans qa_20) rfl ?_
      refine gl_iload_n hX q_43_155 rfl rfl ?_
      obtain ⟨c2, h⟩ := o_ck h
      refine gl_iaload hX q_43_156 (qs_12 hr) c2 rfl rfl ?_
      obtain ⟨c3, h⟩ := o_ck h
      refine gl_iastore (ar2 := (j_u2 ar 6 (iN x2) (ar 12 (iN x2)))) hX q_43_157 (qs_handler hr (i := 0) (by decide)) c3 rfl rfl ?_
      refine gl_iinc (vs2 := [some (.ref 0), some (.int x1), some (.int (x2 + (1 : Int32)))]) hX q_43_158 rfl rfl rfl ci_1 rfl rfl ?_
      refine gl_goto hX q_43_161 rfl ?_
      exact gl_weak (vs := [some (.ref 0), some (.int x1), some (.int (x2 + (1 : Int32)))]) ⟨rfl, rfl, rfl, trivial⟩ (ih x1 (x2 + (1 : Int32)) S (j_u2 ar 6 (iN x2) (ar 12 (iN x2))) h)
def rF_43_111 : Nat → Int32 → Int32 → (Nat → Int32) → jSc → Option ((Nat → Int32) × jSc)
  | 0, _, _, _, _ => none
  | nn + 1, x1, x2, S, ar => (if x1 ≤ x2 then rF_43_138 oF x1 (0 : Int32) S ar else (if iB x2 600 then (if iB x2 600 then rF_43_111 nn x1 (x2 + (1 : Int32)) S (j_u2 ar 3 (iN x2) (ar 1 (iN x2))) else none) else none))
set_option maxHeartbeats 4000000 in
theorem rt_43_111 {X : jX} (hX : j_LK (g_n X) (g_L X)) (hr : g_rs X = r_sh) {rf : jRf} (hrf : rf 0 = r_rf) {d : Nat} {sc : jSc} {al : jAl} {Post : jPo} {S9 : (Nat → Int32)} {ar9 : jSc} (hP : Post none (va_up sc 0 S9) rf ar9 al) : ∀ (nn : Nat) (x1 : Int32) (x2 : Int32) (S : (Nat → Int32)) (ar : jSc), rF_43_111 nn x1 x2 S ar = some (S9, ar9) → gL X 43 (d + 1) 111 [some (.ref 0), some (.int x1), some (.int x2)] [] (va_up sc 0 S) rf ar al Post := by
  intro nn
  induction nn with
  | zero =>
    intro x1 x2 S ar h
    have h : (none : Option ((Nat → Int32) × jSc)) = some _ := h
    cases h
  | succ nn ih =>
    intro x1 x2 S ar h
    unfold rF_43_111 at h
    refine gl_iload_n hX q_43_111 rfl rfl ?_
    refine gl_iload_n hX q_43_112 rfl rfl ?_
    refine gl_ic_ge hX q_43_113 rfl rfl (fun c4 => ?_) (fun c4 => ?_)
    · have h := (if_pos c4).symm.trans h
      refine gl_iconst hX q_43_136 ci_0 rfl ?_
      refine gl_istore_n (vs2 := [some (.ref 0), some (.int x1), some (.int (0 : Int32))]) hX q_43_137 rfl rfl rfl rfl ?_
      exact gl_weak (vs := [some (.ref 0), some (.int x1), some (.int (0 : Int32))]) ⟨rfl, rfl, rfl, trivial⟩ (rt_43_138 hX hr hrf hP oF x1 (0 : Int32) S ar h)
    · have h := (if_neg c4).symm.trans h
      refine gl_aload_n hX q_43_116 rfl rfl ?_
      refine gl_getA hX q_43_117 (qf_21 (by decide)) (qs_0 hr) rfl qk_10 ((congrFun hrf 10).trans qa_10) rfl ?_
      refine gl_iconst hX q_43_120 ci_0 rfl ?_
      refine gl_aaload hX q_43_121 (qs_2 hr) (show iB (0 : Int32) 2 by decide) (Or.inr ⟨Or.inl rfl, qs_0 hr⟩) (qo_2 (iB_lt (show iB (0 : Int32) 2 by decide))) rfl ?_
      refine gl_iload_n hX q_43_122 rfl rfl ?_
      refine gl_aload_n hX q_43_123 rfl rfl ?_
      refine gl_getA hX q_43_124 (qf_15 (by decide)) (qs_0 hr) rfl qk_9 ((congrFun hrf 9).trans qa_9) rfl ?_
      refine gl_iload_n hX q_43_127 rfl rfl ?_
      obtain ⟨c5, h⟩ := o_ck h
      refine gl_iaload hX q_43_128 (qs_1 hr) c5 rfl rfl ?_
      obtain ⟨c6, h⟩ := o_ck h
      refine gl_iastore (ar2 := (j_u2 ar 3 (iN x2) (ar 1 (iN x2)))) hX q_43_129 (qs_text hr (i := 0) (by decide)) c6 rfl rfl ?_
      refine gl_iinc (vs2 := [some (.ref 0), some (.int x1), some (.int (x2 + (1 : Int32)))]) hX q_43_130 rfl rfl rfl ci_1 rfl rfl ?_
      refine gl_goto hX q_43_133 rfl ?_
      exact gl_weak (vs := [some (.ref 0), some (.int x1), some (.int (x2 + (1 : Int32)))]) ⟨rfl, rfl, rfl, trivial⟩ (ih x1 (x2 + (1 : Int32)) S (j_u2 ar 3 (iN x2) (ar 1 (iN x2))) h)
def rF_43_33 : Nat → Int32 → Int32 → (Nat → Int32) → jSc → Option ((Nat → Int32) × jSc)
  | 0, _, _, _, _ => none
  | nn + 1, x1, x2, S, ar => (if (17 : Int32) ≤ x2 then rF_43_111 oF x1 (0 : Int32) S (j_u2 (j_u2 (j_u2 (j_u2 ar 8 1 (ar 8 0)) 9 1 (ar 9 0)) 10 1 (ar 10 0)) 11 1 (ar 11 0)) else (if iB x2 17 then (if iB x2 17 then rF_43_33 nn x1 (x2 + (1 : Int32)) S (j_u2 ar 7 (iN x2) (ar 6 (iN x2))) else none) else none))
set_option maxHeartbeats 4000000 in
theorem rt_43_33 {X : jX} (hX : j_LK (g_n X) (g_L X)) (hr : g_rs X = r_sh) {rf : jRf} (hrf : rf 0 = r_rf) {d : Nat} {sc : jSc} {al : jAl} {Post : jPo} {S9 : (Nat → Int32)} {ar9 : jSc} (hP : Post none (va_up sc 0 S9) rf ar9 al) : ∀ (nn : Nat) (x1 : Int32) (x2 : Int32) (S : (Nat → Int32)) (ar : jSc), rF_43_33 nn x1 x2 S ar = some (S9, ar9) → gL X 43 (d + 1) 33 [some (.ref 0), some (.int x1), some (.int x2)] [] (va_up sc 0 S) rf ar al Post := by
  intro nn
  induction nn with
  | zero =>
    intro x1 x2 S ar h
    have h : (none : Option ((Nat → Int32) × jSc)) = some _ := h
    cases h
  | succ nn ih =>
    intro x1 x2 S ar h
    unfold rF_43_33 at h
    refine gl_iload_n hX q_43_33 rfl rfl ?_
    refine gl_bipush hX q_43_34 cb_17 rfl ?_
    refine gl_ic_ge hX q_43_36 rfl rfl (fun c7 => ?_) (fun c7 => ?_)
    · have h := (if_pos c7).symm.trans h
      refine gl_aload_n hX q_43_61 rfl rfl ?_
      refine gl_getA hX q_43_62 (qf_27 (by decide)) (qs_0 hr) rfl qk_12 ((congrFun hrf 12).trans qa_12) rfl ?_
      refine gl_iconst hX q_43_65 ci_1 rfl ?_
      refine gl_aload_n hX q_43_66 rfl rfl ?_
      refine gl_getA hX q_43_67 (qf_27 (by decide)) (qs_0 hr) rfl qk_12 ((congrFun hrf 12).trans qa_12) rfl ?_
      refine gl_iconst hX q_43_70 ci_0 rfl ?_
      refine gl_iaload hX q_43_71 (qs_8 hr) (by decide) rfl rfl ?_
      refine gl_iastore (ar2 := (j_u2 ar 8 1 (ar 8 0))) hX q_43_72 (qs_8 hr) (by decide) rfl rfl ?_
      refine gl_aload_n hX q_43_73 rfl rfl ?_
      refine gl_getA hX q_43_74 (qf_30 (by decide)) (qs_0 hr) rfl qk_13 ((congrFun hrf 13).trans qa_13) rfl ?_
      refine gl_iconst hX q_43_77 ci_1 rfl ?_
      refine gl_aload_n hX q_43_78 rfl rfl ?_
      refine gl_getA hX q_43_79 (qf_30 (by decide)) (qs_0 hr) rfl qk_13 ((congrFun hrf 13).trans qa_13) rfl ?_
      refine gl_iconst hX q_43_82 ci_0 rfl ?_
      refine gl_iaload hX q_43_83 (qs_9 hr) (by decide) rfl rfl ?_
      refine gl_iastore (ar2 := (j_u2 (j_u2 ar 8 1 (ar 8 0)) 9 1 (ar 9 0))) hX q_43_84 (qs_9 hr) (by decide) rfl rfl ?_
      refine gl_aload_n hX q_43_85 rfl rfl ?_
      refine gl_getA hX q_43_86 (qf_33 (by decide)) (qs_0 hr) rfl qk_14 ((congrFun hrf 14).trans qa_14) rfl ?_
      refine gl_iconst hX q_43_89 ci_1 rfl ?_
      refine gl_aload_n hX q_43_90 rfl rfl ?_
      refine gl_getA hX q_43_91 (qf_33 (by decide)) (qs_0 hr) rfl qk_14 ((congrFun hrf 14).trans qa_14) rfl ?_
      refine gl_iconst hX q_43_94 ci_0 rfl ?_
      refine gl_iaload hX q_43_95 (qs_10 hr) (by decide) rfl rfl ?_
      refine gl_iastore (ar2 := (j_u2 (j_u2 (j_u2 ar 8 1 (ar 8 0)) 9 1 (ar 9 0)) 10 1 (ar 10 0))) hX q_43_96 (qs_10 hr) (by decide) rfl rfl ?_
      refine gl_aload_n hX q_43_97 rfl rfl ?_
      refine gl_getA hX q_43_98 (qf_36 (by decide)) (qs_0 hr) rfl qk_15 ((congrFun hrf 15).trans qa_15) rfl ?_
      refine gl_iconst hX q_43_101 ci_1 rfl ?_
      refine gl_aload_n hX q_43_102 rfl rfl ?_
      refine gl_getA hX q_43_103 (qf_36 (by decide)) (qs_0 hr) rfl qk_15 ((congrFun hrf 15).trans qa_15) rfl ?_
      refine gl_iconst hX q_43_106 ci_0 rfl ?_
      refine gl_iaload hX q_43_107 (qs_11 hr) (by decide) rfl rfl ?_
      refine gl_iastore (ar2 := (j_u2 (j_u2 (j_u2 (j_u2 ar 8 1 (ar 8 0)) 9 1 (ar 9 0)) 10 1 (ar 10 0)) 11 1 (ar 11 0))) hX q_43_108 (qs_11 hr) (by decide) rfl rfl ?_
      refine gl_iconst hX q_43_109 ci_0 rfl ?_
      refine gl_istore_n (vs2 := [some (.ref 0), some (.int x1), some (.int (0 : Int32))]) hX q_43_110 rfl rfl rfl rfl ?_
      exact gl_weak (vs := [some (.ref 0), some (.int x1), some (.int (0 : Int32))]) ⟨rfl, rfl, rfl, trivial⟩ (rt_43_111 hX hr hrf hP oF x1 (0 : Int32) S (j_u2 (j_u2 (j_u2 (j_u2 ar 8 1 (ar 8 0)) 9 1 (ar 9 0)) 10 1 (ar 10 0)) 11 1 (ar 11 0)) h)
    · have h := (if_neg c7).symm.trans h
      refine gl_aload_n hX q_43_39 rfl rfl ?_
      refine gl_getA hX q_43_40 (qf_24 (by decide)) (qs_0 hr) rfl qk_11 ((congrFun hrf 11).trans qa_11) rfl ?_
      refine gl_iconst hX q_43_43 ci_1 rfl ?_
      refine gl_aaload hX q_43_44 (qs_5 hr) (show iB (1 : Int32) 2 by decide) (Or.inr ⟨Or.inl rfl, qs_0 hr⟩) (qo_5 (iB_lt (show iB (1 : Int32) 2 by decide))) rfl ?_
      refine gl_iload_n hX q_43_45 rfl rfl ?_
      refine gl_aload_n hX q_43_46 rfl rfl ?_
      refine gl_getA hX q_43_47 (qf_24 (by decide)) (qs_0 hr) rfl qk_11 ((congrFun hrf 11).trans qa_11) rfl ?_
      refine gl_iconst hX q_43_50 ci_0 rfl ?_
      refine gl_aaload hX q_43_51 (qs_5 hr) (show iB (0 : Int32) 2 by decide) (Or.inr ⟨Or.inl rfl, qs_0 hr⟩) (qo_5 (iB_lt (show iB (0 : Int32) 2 by decide))) rfl ?_
      refine gl_iload_n hX q_43_52 rfl rfl ?_
      obtain ⟨c8, h⟩ := o_ck h
      refine gl_iaload hX q_43_53 (qs_handler hr (i := 0) (by decide)) c8 rfl rfl ?_
      obtain ⟨c9, h⟩ := o_ck h
      refine gl_iastore (ar2 := (j_u2 ar 7 (iN x2) (ar 6 (iN x2)))) hX q_43_54 (qs_handler hr (i := 1) (by decide)) c9 rfl rfl ?_
      refine gl_iinc (vs2 := [some (.ref 0), some (.int x1), some (.int (x2 + (1 : Int32)))]) hX q_43_55 rfl rfl rfl ci_1 rfl rfl ?_
      refine gl_goto hX q_43_58 rfl ?_
      exact gl_weak (vs := [some (.ref 0), some (.int x1), some (.int (x2 + (1 : Int32)))]) ⟨rfl, rfl, rfl, trivial⟩ (ih x1 (x2 + (1 : Int32)) S (j_u2 ar 7 (iN x2) (ar 6 (iN x2))) h)
def rF_43_2 : Nat → Int32 → Int32 → (Nat → Int32) → jSc → Option ((Nat → Int32) × jSc)
  | 0, _, _, _, _ => none
  | nn + 1, x1, x2, S, ar => (if (600 : Int32) ≤ x2 then rF_43_33 oF x1 (0 : Int32) S ar else (if iB x2 600 then (if iB x2 600 then rF_43_2 nn x1 (x2 + (1 : Int32)) S (j_u2 ar 4 (iN x2) (ar 3 (iN x2))) else none) else none))
set_option maxHeartbeats 4000000 in
theorem rt_43_2 {X : jX} (hX : j_LK (g_n X) (g_L X)) (hr : g_rs X = r_sh) {rf : jRf} (hrf : rf 0 = r_rf) {d : Nat} {sc : jSc} {al : jAl} {Post : jPo} {S9 : (Nat → Int32)} {ar9 : jSc} (hP : Post none (va_up sc 0 S9) rf ar9 al) : ∀ (nn : Nat) (x1 : Int32) (x2 : Int32) (S : (Nat → Int32)) (ar : jSc), rF_43_2 nn x1 x2 S ar = some (S9, ar9) → gL X 43 (d + 1) 2 [some (.ref 0), some (.int x1), some (.int x2)] [] (va_up sc 0 S) rf ar al Post := by
  intro nn
  induction nn with
  | zero =>
    intro x1 x2 S ar h
    have h : (none : Option ((Nat → Int32) × jSc)) = some _ := h
    cases h
  | succ nn ih =>
    intro x1 x2 S ar h
    unfold rF_43_2 at h
    refine gl_iload_n hX q_43_2 rfl rfl ?_
    refine gl_sipush hX q_43_3 cs_600 rfl ?_
    refine gl_ic_ge hX q_43_6 rfl rfl (fun c10 => ?_) (fun c10 => ?_)
    · have h := (if_pos c10).symm.trans h
      refine gl_iconst hX q_43_31 ci_0 rfl ?_
      refine gl_istore_n (vs2 := [some (.ref 0), some (.int x1), some (.int (0 : Int32))]) hX q_43_32 rfl rfl rfl rfl ?_
      exact gl_weak (vs := [some (.ref 0), some (.int x1), some (.int (0 : Int32))]) ⟨rfl, rfl, rfl, trivial⟩ (rt_43_33 hX hr hrf hP oF x1 (0 : Int32) S ar h)
    · have h := (if_neg c10).symm.trans h
      refine gl_aload_n hX q_43_9 rfl rfl ?_
      refine gl_getA hX q_43_10 (qf_21 (by decide)) (qs_0 hr) rfl qk_10 ((congrFun hrf 10).trans qa_10) rfl ?_
      refine gl_iconst hX q_43_13 ci_1 rfl ?_
      refine gl_aaload hX q_43_14 (qs_2 hr) (show iB (1 : Int32) 2 by decide) (Or.inr ⟨Or.inl rfl, qs_0 hr⟩) (qo_2 (iB_lt (show iB (1 : Int32) 2 by decide))) rfl ?_
      refine gl_iload_n hX q_43_15 rfl rfl ?_
      refine gl_aload_n hX q_43_16 rfl rfl ?_
      refine gl_getA hX q_43_17 (qf_21 (by decide)) (qs_0 hr) rfl qk_10 ((congrFun hrf 10).trans qa_10) rfl ?_
      refine gl_iconst hX q_43_20 ci_0 rfl ?_
      refine gl_aaload hX q_43_21 (qs_2 hr) (show iB (0 : Int32) 2 by decide) (Or.inr ⟨Or.inl rfl, qs_0 hr⟩) (qo_2 (iB_lt (show iB (0 : Int32) 2 by decide))) rfl ?_
      refine gl_iload_n hX q_43_22 rfl rfl ?_
      obtain ⟨c11, h⟩ := o_ck h
      refine gl_iaload hX q_43_23 (qs_text hr (i := 0) (by decide)) c11 rfl rfl ?_
      obtain ⟨c12, h⟩ := o_ck h
      refine gl_iastore (ar2 := (j_u2 ar 4 (iN x2) (ar 3 (iN x2)))) hX q_43_24 (qs_text hr (i := 1) (by decide)) c12 rfl rfl ?_
      refine gl_iinc (vs2 := [some (.ref 0), some (.int x1), some (.int (x2 + (1 : Int32)))]) hX q_43_25 rfl rfl rfl ci_1 rfl rfl ?_
      refine gl_goto hX q_43_28 rfl ?_
      exact gl_weak (vs := [some (.ref 0), some (.int x1), some (.int (x2 + (1 : Int32)))]) ⟨rfl, rfl, rfl, trivial⟩ (ih x1 (x2 + (1 : Int32)) S (j_u2 ar 4 (iN x2) (ar 3 (iN x2))) h)
def rF_43 (x1 : Int32) (S : (Nat → Int32)) (ar : jSc) : Option ((Nat → Int32) × jSc) :=
  rF_43_2 oF x1 (0 : Int32) S ar
set_option maxHeartbeats 4000000 in
theorem rt_43 {X : jX} (hX : j_LK (g_n X) (g_L X)) (hr : g_rs X = r_sh) {rf : jRf} (hrf : rf 0 = r_rf) {d : Nat} : rT_43 X rf rF_43 (d + 1) := by
  intro sc al Post x1 S ar S9 ar9 h hP
  unfold rF_43 at h
  refine gl_entry (m := 1) rfl ?_
  show gL X 43 (d + 1) 0 [some (.ref 0), some (.int x1), none] [] (va_up sc 0 S) rf ar al Post
  refine gl_iconst hX q_43_0 ci_0 rfl ?_
  refine gl_istore_n (vs2 := [some (.ref 0), some (.int x1), some (.int (0 : Int32))]) hX q_43_1 rfl rfl rfl rfl ?_
  exact gl_weak (vs := [some (.ref 0), some (.int x1), some (.int (0 : Int32))]) ⟨rfl, rfl, rfl, trivial⟩ (rt_43_2 hX hr hrf hP oF x1 (0 : Int32) S ar h)
/-- ClickOrdersModel.goesTo(I)V -/
def rT_45 (X : jX) (rf : jRf) (F : Int32 → (Nat → Int32) → jSc → Option ((Nat → Int32) × jSc)) (e : Nat) : Prop := ∀ (sc : jSc) (al : jAl) (Post : jPo) (x1 : Int32) (S : (Nat → Int32)) (ar : jSc) (S9 : (Nat → Int32)) (ar9 : jSc), F x1 S ar = some (S9, ar9) → Post none (va_up sc 0 S9) rf ar9 al → gW X 45 e 0 (j_av [.ref 0, .int x1]) [] (va_up sc 0 S) rf ar al Post
def rF_45 (x1 : Int32) (S : (Nat → Int32)) (ar : jSc) : Option ((Nat → Int32) × jSc) :=
  (if iB (S 16) 2 then some ((upd (upd (upd (upd (upd (upd S 4 (S 16)) 3 (ar 8 (iN (S 16)))) 5 x1) 6 (0 : Int32)) 7 (0 : Int32)) 17 (0 : Int32)), ar) else none)
set_option maxHeartbeats 4000000 in
theorem rt_45 {X : jX} (hX : j_LK (g_n X) (g_L X)) (hr : g_rs X = r_sh) {rf : jRf} (hrf : rf 0 = r_rf) {d : Nat} : rT_45 X rf rF_45 (d + 1) := by
  intro sc al Post x1 S ar S9 ar9 h hP
  unfold rF_45 at h
  refine gl_entry (m := 0) rfl ?_
  show gL X 45 (d + 1) 0 [some (.ref 0), some (.int x1)] [] (va_up sc 0 S) rf ar al Post
  refine gl_aload_n hX q_45_0 rfl rfl ?_
  refine gl_aload_n hX q_45_1 rfl rfl ?_
  refine gl_get hX q_45_2 (qf_316 (by decide)) (qs_0 hr) rfl qk_16 rfl rfl ?_
  refine gl_put hX q_45_5 (qf_135 (by decide)) (qs_0 hr) rfl qk_4 rfl ru rfl ?_
  refine gl_aload_n hX q_45_8 rfl rfl ?_
  refine gl_aload_n hX q_45_9 rfl rfl ?_
  refine gl_getA hX q_45_10 (qf_27 (by decide)) (qs_0 hr) rfl qk_12 ((congrFun hrf 12).trans qa_12) rfl ?_
  refine gl_aload_n hX q_45_13 rfl rfl ?_
  refine gl_get hX q_45_14 (qf_316 (by decide)) (qs_0 hr) rfl qk_16 rfl rfl ?_
  obtain ⟨c1, h⟩ := o_ck h
  refine gl_iaload hX q_45_17 (qs_8 hr) c1 rfl rfl ?_
  refine gl_put hX q_45_18 (qf_132 (by decide)) (qs_0 hr) rfl qk_3 rfl ru rfl ?_
  refine gl_aload_n hX q_45_21 rfl rfl ?_
  refine gl_iload_n hX q_45_22 rfl rfl ?_
  refine gl_put hX q_45_23 (qf_138 (by decide)) (qs_0 hr) rfl qk_5 rfl ru rfl ?_
  refine gl_aload_n hX q_45_26 rfl rfl ?_
  refine gl_iconst hX q_45_27 ci_0 rfl ?_
  refine gl_put hX q_45_28 (qf_177 (by decide)) (qs_0 hr) rfl qk_6 rfl ru rfl ?_
  refine gl_aload_n hX q_45_31 rfl rfl ?_
  refine gl_iconst hX q_45_32 ci_0 rfl ?_
  refine gl_put hX q_45_33 (qf_145 (by decide)) (qs_0 hr) rfl qk_7 rfl ru rfl ?_
  refine gl_aload_n hX q_45_36 rfl rfl ?_
  refine gl_iconst hX q_45_37 ci_0 rfl ?_
  refine gl_put hX q_45_38 (qf_241 (by decide)) (qs_0 hr) rfl qk_17 rfl ru rfl ?_
  exact gl_return q_45_41 qr_45 (by cases h; exact hP)
/-- ClickOrdersModel.runs(I)V -/
def rT_46 (X : jX) (rf : jRf) (F : Int32 → (Nat → Int32) → jSc → Option ((Nat → Int32) × jSc)) (e : Nat) : Prop := ∀ (sc : jSc) (al : jAl) (Post : jPo) (x1 : Int32) (S : (Nat → Int32)) (ar : jSc) (S9 : (Nat → Int32)) (ar9 : jSc), F x1 S ar = some (S9, ar9) → Post none (va_up sc 0 S9) rf ar9 al → gW X 46 e 0 (j_av [.ref 0, .int x1]) [] (va_up sc 0 S) rf ar al Post
def rF_46_42 : Nat → (Nat → Int32) → jSc → Option ((Nat → Int32) × jSc)
  | 0, _, _ => none
  | nn + 1, S, ar => (if (S 24) = 0 then (o_b3 (rF_6 (S 5) S ar) (fun ve2 Se2 are2 => (if ve2 = (125 : Int32) then some (Se2, are2) else (o_b2 ((rG_29 40).1 Se2 are2) (fun Se4 are4 => (o_b2 (rF_7 Se4 are4) (fun Se5 are5 => rF_46_42 nn Se5 are5))))))) else some (S, ar))
set_option maxHeartbeats 4000000 in
theorem rt_46_42 {X : jX} (hX : j_LK (g_n X) (g_L X)) (hr : g_rs X = r_sh) {rf : jRf} (hrf : rf 0 = r_rf) {d : Nat} {sc : jSc} {al : jAl} {Post : jPo} {S9 : (Nat → Int32)} {ar9 : jSc} (hP : Post none (va_up sc 0 S9) rf ar9 al) : ∀ (nn : Nat) (S : (Nat → Int32)) (ar : jSc), rF_46_42 nn S ar = some (S9, ar9) → gL X 46 (d + 125) 42 [some (.ref 0), none, none] [] (va_up sc 0 S) rf ar al Post := by
  intro nn
  induction nn with
  | zero =>
    intro S ar h
    have h : (none : Option ((Nat → Int32) × jSc)) = some _ := h
    cases h
  | succ nn ih =>
    intro S ar h
    unfold rF_46_42 at h
    refine gl_aload_n hX q_46_42 rfl rfl ?_
    refine gl_get hX q_46_43 (qf_278 (by decide)) (qs_0 hr) rfl qk_24 rfl rfl ?_
    refine gl_if_ne hX q_46_46 rfl rfl (fun c1 => ?_) (fun c1 => ?_)
    · have h := (if_pos c1).symm.trans h
      refine gl_aload_n hX q_46_49 rfl rfl ?_
      refine gl_aload_n hX q_46_50 rfl rfl ?_
      refine gl_get hX q_46_51 (qf_138 (by decide)) (qs_0 hr) rfl qk_5 rfl rfl ?_
      obtain ⟨ve2, Se2, are2, e2, h⟩ := o_k3 h
      refine gl_callV hX q_46_54 (qm_141 (by decide)) rfl rfl rfl (qs_0 hr) qx_6 rfl rfl ((rt_6 hX hr hrf) _ _ _ _ _ _ _ _ _ e2 ?_)
      refine gl_bipush hX q_46_57 cb_125 rfl ?_
      refine gl_ic_eq hX q_46_59 rfl rfl (fun c3 => ?_) (fun c3 => ?_)
      · have h := (if_pos c3).symm.trans h
        exact gl_return q_46_73 qr_46 (by cases h; exact hP)
      · have h := (if_neg c3).symm.trans h
        refine gl_aload_n hX q_46_62 rfl rfl ?_
        obtain ⟨Se4, are4, e4, h⟩ := o_k2 h
        refine gl_callV hX q_46_63 (qm_272 (by decide)) rfl rfl rfl (qs_0 hr) qx_29 rfl rfl (((rtG_29 hX hr hrf 40).1) _ _ _  _ _ _ _ e4 ?_)
        refine gl_aload_n hX q_46_66 rfl rfl ?_
        obtain ⟨Se5, are5, e5, h⟩ := o_k2 h
        refine gl_callV hX q_46_67 (qm_151 (by decide)) rfl rfl rfl (qs_0 hr) qx_7 rfl rfl ((rt_7 hX hr hrf) _ _ _  _ _ _ _ e5 ?_)
        refine gl_goto hX q_46_70 rfl ?_
        exact gl_weak (vs := [some (.ref 0), none, none]) ⟨rfl, trivial⟩ (ih Se5 are5 h)
    · have h := (if_neg c1).symm.trans h
      exact gl_return q_46_73 qr_46 (by cases h; exact hP)
def rF_46 (x1 : Int32) (S : (Nat → Int32)) (ar : jSc) : Option ((Nat → Int32) × jSc) :=
  (if iB (S 16) 2 then (if iB x1 17 then (if (ar (6 + iN (S 16)) (iN x1)) = (-1 : Int32) then some ((upd S 24 (0 : Int32)), ar) else (o_b2 (rF_45 (ar (6 + iN (S 16)) (iN x1)) (upd S 24 (0 : Int32)) ar) (fun Se9 are9 => (o_b2 (rF_7 (upd (upd Se9 22 (1 : Int32)) 23 (1 : Int32)) are9) (fun Se10 are10 => rF_46_42 oF Se10 are10))))) else none) else none)
set_option maxHeartbeats 4000000 in
theorem rt_46 {X : jX} (hX : j_LK (g_n X) (g_L X)) (hr : g_rs X = r_sh) {rf : jRf} (hrf : rf 0 = r_rf) {d : Nat} : rT_46 X rf rF_46 (d + 125) := by
  intro sc al Post x1 S ar S9 ar9 h hP
  unfold rF_46 at h
  refine gl_entry (m := 1) rfl ?_
  show gL X 46 (d + 125) 0 [some (.ref 0), some (.int x1), none] [] (va_up sc 0 S) rf ar al Post
  refine gl_aload_n hX q_46_0 rfl rfl ?_
  refine gl_getA hX q_46_1 (qf_24 (by decide)) (qs_0 hr) rfl qk_11 ((congrFun hrf 11).trans qa_11) rfl ?_
  refine gl_aload_n hX q_46_4 rfl rfl ?_
  refine gl_get hX q_46_5 (qf_316 (by decide)) (qs_0 hr) rfl qk_16 rfl rfl ?_
  obtain ⟨c6, h⟩ := o_ck h
  refine gl_aaload hX q_46_8 (qs_5 hr) c6 (Or.inr ⟨Or.inl rfl, qs_0 hr⟩) (qo_5 (iB_lt c6)) rfl ?_
  refine gl_iload_n hX q_46_9 rfl rfl ?_
  obtain ⟨c7, h⟩ := o_ck h
  refine gl_iaload hX q_46_10 (qs_handler hr (iB_lt c6)) c7 rfl rfl ?_
  refine gl_istore_n (vs2 := [some (.ref 0), some (.int x1), some (.int (ar (6 + iN (S 16)) (iN x1)))]) hX q_46_11 rfl rfl rfl rfl ?_
  refine gl_aload_n hX q_46_12 rfl rfl ?_
  refine gl_iconst hX q_46_13 ci_0 rfl ?_
  refine gl_put hX q_46_14 (qf_278 (by decide)) (qs_0 hr) rfl qk_24 rfl ru rfl ?_
  refine gl_iload_n hX q_46_17 rfl rfl ?_
  refine gl_iconst hX q_46_18 ci_m1 rfl ?_
  refine gl_ic_ne hX q_46_19 rfl rfl (fun c8 => ?_) (fun c8 => ?_)
  · have h := (if_pos c8).symm.trans h
    exact gl_return q_46_22 qr_46 (by cases h; exact hP)
  · have h := (if_neg c8).symm.trans h
    refine gl_aload_n hX q_46_23 rfl rfl ?_
    refine gl_iload_n hX q_46_24 rfl rfl ?_
    obtain ⟨Se9, are9, e9, h⟩ := o_k2 h
    refine gl_callV hX q_46_25 (qm_319 (by decide)) rfl rfl rfl (qs_0 hr) qx_45 rfl rfl ((rt_45 hX hr hrf) _ _ _ _ _ _ _ _ e9 ?_)
    refine gl_aload_n hX q_46_28 rfl rfl ?_
    refine gl_iconst hX q_46_29 ci_1 rfl ?_
    refine gl_put hX q_46_30 (qf_180 (by decide)) (qs_0 hr) rfl qk_22 rfl ru rfl ?_
    refine gl_aload_n hX q_46_33 rfl rfl ?_
    refine gl_iconst hX q_46_34 ci_1 rfl ?_
    refine gl_put hX q_46_35 (qf_184 (by decide)) (qs_0 hr) rfl qk_23 rfl ru rfl ?_
    refine gl_aload_n hX q_46_38 rfl rfl ?_
    obtain ⟨Se10, are10, e10, h⟩ := o_k2 h
    refine gl_callV hX q_46_39 (qm_151 (by decide)) rfl rfl rfl (qs_0 hr) qx_7 rfl rfl ((rt_7 hX hr hrf) _ _ _  _ _ _ _ e10 ?_)
    exact gl_weak (vs := [some (.ref 0), none, none]) ⟨rfl, trivial⟩ (rt_46_42 hX hr hrf hP oF Se10 are10 h)
/-- ClickOrdersModel.beginsPage()V -/
def rT_48 (X : jX) (rf : jRf) (F : (Nat → Int32) → jSc → Option ((Nat → Int32) × jSc)) (e : Nat) : Prop := ∀ (sc : jSc) (al : jAl) (Post : jPo) (S : (Nat → Int32)) (ar : jSc) (S9 : (Nat → Int32)) (ar9 : jSc), F S ar = some (S9, ar9) → Post none (va_up sc 0 S9) rf ar9 al → gW X 48 e 0 (j_av [.ref 0]) [] (va_up sc 0 S) rf ar al Post
def rF_48_2 : Nat → Int32 → (Nat → Int32) → jSc → Option ((Nat → Int32) × jSc)
  | 0, _, _, _ => none
  | nn + 1, x1, S, ar => (if (53 : Int32) ≤ x1 then (o_b2 (rF_46 (0 : Int32) (upd (upd S 26 (-1 : Int32)) 25 (0 : Int32)) (j_u2 ar 13 8 (255 : Int32))) (fun Se2 are2 => some (Se2, are2))) else (o_b3 (rF_4 x1 (33 : Int32) (36 : Int32) S ar) (fun ve3 Se3 are3 => (if ve3 = 0 then (if iB x1 53 then rF_48_2 nn (x1 + (1 : Int32)) Se3 (j_u2 are3 13 (iN x1) (0 : Int32)) else none) else (if iB x1 53 then (if iB x1 53 then rF_48_2 nn (x1 + (1 : Int32)) Se3 (j_u2 are3 13 (iN x1) (are3 13 (iN x1))) else none) else none)))))
set_option maxHeartbeats 4000000 in
theorem rt_48_2 {X : jX} (hX : j_LK (g_n X) (g_L X)) (hr : g_rs X = r_sh) {rf : jRf} (hrf : rf 0 = r_rf) {d : Nat} {sc : jSc} {al : jAl} {Post : jPo} {S9 : (Nat → Int32)} {ar9 : jSc} (hP : Post none (va_up sc 0 S9) rf ar9 al) : ∀ (nn : Nat) (x1 : Int32) (S : (Nat → Int32)) (ar : jSc), rF_48_2 nn x1 S ar = some (S9, ar9) → gL X 48 (d + 126) 2 [some (.ref 0), some (.int x1)] [] (va_up sc 0 S) rf ar al Post := by
  intro nn
  induction nn with
  | zero =>
    intro x1 S ar h
    have h : (none : Option ((Nat → Int32) × jSc)) = some _ := h
    cases h
  | succ nn ih =>
    intro x1 S ar h
    unfold rF_48_2 at h
    refine gl_iload_n hX q_48_2 rfl rfl ?_
    refine gl_bipush hX q_48_3 cb_53 rfl ?_
    refine gl_ic_ge hX q_48_5 rfl rfl (fun c1 => ?_) (fun c1 => ?_)
    · have h := (if_pos c1).symm.trans h
      refine gl_aload_n hX q_48_41 rfl rfl ?_
      refine gl_getA hX q_48_42 (qf_42 (by decide)) (qs_0 hr) rfl qk_21 ((congrFun hrf 21).trans qa_21) rfl ?_
      refine gl_bipush hX q_48_45 cb_8 rfl ?_
      refine gl_sipush hX q_48_47 cs_255 rfl ?_
      refine gl_iastore (ar2 := (j_u2 ar 13 8 (255 : Int32))) hX q_48_50 (qs_13 hr) (by decide) rfl rfl ?_
      refine gl_aload_n hX q_48_51 rfl rfl ?_
      refine gl_iconst hX q_48_52 ci_m1 rfl ?_
      refine gl_put hX q_48_53 (qf_281 (by decide)) (qs_0 hr) rfl qk_26 rfl ru rfl ?_
      refine gl_aload_n hX q_48_56 rfl rfl ?_
      refine gl_iconst hX q_48_57 ci_0 rfl ?_
      refine gl_put hX q_48_58 (qf_203 (by decide)) (qs_0 hr) rfl qk_25 rfl ru rfl ?_
      refine gl_aload_n hX q_48_61 rfl rfl ?_
      refine gl_iconst hX q_48_62 ci_0 rfl ?_
      obtain ⟨Se2, are2, e2, h⟩ := o_k2 h
      refine gl_callV hX q_48_63 (qm_322 (by decide)) rfl rfl rfl (qs_0 hr) qx_46 rfl rfl ((rt_46 hX hr hrf) _ _ _ _ _ _ _ _ e2 ?_)
      exact gl_return q_48_66 qr_48 (by cases h; exact hP)
    · have h := (if_neg c1).symm.trans h
      refine gl_aload_n hX q_48_8 rfl rfl ?_
      refine gl_getA hX q_48_9 (qf_42 (by decide)) (qs_0 hr) rfl qk_21 ((congrFun hrf 21).trans qa_21) rfl ?_
      refine gl_iload_n hX q_48_12 rfl rfl ?_
      refine gl_iload_n hX q_48_13 rfl rfl ?_
      refine gl_bipush hX q_48_14 cb_33 rfl ?_
      refine gl_bipush hX q_48_16 cb_36 rfl ?_
      obtain ⟨ve3, Se3, are3, e3, h⟩ := o_k3 h
      refine gl_callS q_48_18 (qm_247 (by decide)) rfl rfl rfl qx_4 rfl rfl ((rt_4 hX hr hrf) _ _ _ _ _ _ _ _ _ _ _ e3 ?_)
      refine gl_if_eq hX q_48_21 rfl rfl (fun c4 => ?_) (fun c4 => ?_)
      · have h := (if_pos c4).symm.trans h
        refine gl_iconst hX q_48_33 ci_0 rfl ?_
        obtain ⟨c5, h⟩ := o_ck h
        refine gl_iastore (ar2 := (j_u2 are3 13 (iN x1) (0 : Int32))) hX q_48_34 (qs_13 hr) c5 rfl rfl ?_
        refine gl_iinc (vs2 := [some (.ref 0), some (.int (x1 + (1 : Int32)))]) hX q_48_35 rfl rfl rfl ci_1 rfl rfl ?_
        refine gl_goto hX q_48_38 rfl ?_
        exact gl_weak (vs := [some (.ref 0), some (.int (x1 + (1 : Int32)))]) ⟨rfl, rfl, trivial⟩ (ih (x1 + (1 : Int32)) Se3 (j_u2 are3 13 (iN x1) (0 : Int32)) h)
      · have h := (if_neg c4).symm.trans h
        refine gl_aload_n hX q_48_24 rfl rfl ?_
        refine gl_getA hX q_48_25 (qf_42 (by decide)) (qs_0 hr) rfl qk_21 ((congrFun hrf 21).trans qa_21) rfl ?_
        refine gl_iload_n hX q_48_28 rfl rfl ?_
        obtain ⟨c6, h⟩ := o_ck h
        refine gl_iaload hX q_48_29 (qs_13 hr) c6 rfl rfl ?_
        refine gl_goto hX q_48_30 rfl ?_
        obtain ⟨c7, h⟩ := o_ck h
        refine gl_iastore (ar2 := (j_u2 are3 13 (iN x1) (are3 13 (iN x1)))) hX q_48_34 (qs_13 hr) c7 rfl rfl ?_
        refine gl_iinc (vs2 := [some (.ref 0), some (.int (x1 + (1 : Int32)))]) hX q_48_35 rfl rfl rfl ci_1 rfl rfl ?_
        refine gl_goto hX q_48_38 rfl ?_
        exact gl_weak (vs := [some (.ref 0), some (.int (x1 + (1 : Int32)))]) ⟨rfl, rfl, trivial⟩ (ih (x1 + (1 : Int32)) Se3 (j_u2 are3 13 (iN x1) (are3 13 (iN x1))) h)
def rF_48 (S : (Nat → Int32)) (ar : jSc) : Option ((Nat → Int32) × jSc) :=
  rF_48_2 oF (0 : Int32) S ar
set_option maxHeartbeats 4000000 in
theorem rt_48 {X : jX} (hX : j_LK (g_n X) (g_L X)) (hr : g_rs X = r_sh) {rf : jRf} (hrf : rf 0 = r_rf) {d : Nat} : rT_48 X rf rF_48 (d + 126) := by
  intro sc al Post  S ar S9 ar9 h hP
  unfold rF_48 at h
  refine gl_entry (m := 1) rfl ?_
  show gL X 48 (d + 126) 0 [some (.ref 0), none] [] (va_up sc 0 S) rf ar al Post
  refine gl_iconst hX q_48_0 ci_0 rfl ?_
  refine gl_istore_n (vs2 := [some (.ref 0), some (.int (0 : Int32))]) hX q_48_1 rfl rfl rfl rfl ?_
  exact gl_weak (vs := [some (.ref 0), some (.int (0 : Int32))]) ⟨rfl, rfl, trivial⟩ (rt_48_2 hX hr hrf hP oF (0 : Int32) S ar h)
/-- ClickOrdersModel.beginsAnew()V -/
def rT_49 (X : jX) (rf : jRf) (F : (Nat → Int32) → jSc → Option ((Nat → Int32) × jSc)) (e : Nat) : Prop := ∀ (sc : jSc) (al : jAl) (Post : jPo) (S : (Nat → Int32)) (ar : jSc) (S9 : (Nat → Int32)) (ar9 : jSc), F S ar = some (S9, ar9) → Post none (va_up sc 0 S9) rf ar9 al → gW X 49 e 0 (j_av [.ref 0]) [] (va_up sc 0 S) rf ar al Post
def rF_49_3 : Nat → Int32 → (Nat → Int32) → jSc → Option ((Nat → Int32) × jSc)
  | 0, _, _, _ => none
  | nn + 1, x1, S, ar => (if (37 : Int32) ≤ x1 then (o_b2 (rF_48 (upd S 29 (-1 : Int32)) ar) (fun Se2 are2 => some (Se2, are2))) else (if iB x1 53 then rF_49_3 nn (x1 + (1 : Int32)) S (j_u2 ar 13 (iN x1) (0 : Int32)) else none))
set_option maxHeartbeats 4000000 in
theorem rt_49_3 {X : jX} (hX : j_LK (g_n X) (g_L X)) (hr : g_rs X = r_sh) {rf : jRf} (hrf : rf 0 = r_rf) {d : Nat} {sc : jSc} {al : jAl} {Post : jPo} {S9 : (Nat → Int32)} {ar9 : jSc} (hP : Post none (va_up sc 0 S9) rf ar9 al) : ∀ (nn : Nat) (x1 : Int32) (S : (Nat → Int32)) (ar : jSc), rF_49_3 nn x1 S ar = some (S9, ar9) → gL X 49 (d + 127) 3 [some (.ref 0), some (.int x1)] [] (va_up sc 0 S) rf ar al Post := by
  intro nn
  induction nn with
  | zero =>
    intro x1 S ar h
    have h : (none : Option ((Nat → Int32) × jSc)) = some _ := h
    cases h
  | succ nn ih =>
    intro x1 S ar h
    unfold rF_49_3 at h
    refine gl_iload_n hX q_49_3 rfl rfl ?_
    refine gl_bipush hX q_49_4 cb_37 rfl ?_
    refine gl_ic_ge hX q_49_6 rfl rfl (fun c1 => ?_) (fun c1 => ?_)
    · have h := (if_pos c1).symm.trans h
      refine gl_aload_n hX q_49_22 rfl rfl ?_
      refine gl_iconst hX q_49_23 ci_m1 rfl ?_
      refine gl_put hX q_49_24 (qf_45 (by decide)) (qs_0 hr) rfl qk_29 rfl ru rfl ?_
      refine gl_aload_n hX q_49_27 rfl rfl ?_
      obtain ⟨Se2, are2, e2, h⟩ := o_k2 h
      refine gl_callV hX q_49_28 (qm_325 (by decide)) rfl rfl rfl (qs_0 hr) qx_48 rfl rfl ((rt_48 hX hr hrf) _ _ _  _ _ _ _ e2 ?_)
      exact gl_return q_49_31 qr_49 (by cases h; exact hP)
    · have h := (if_neg c1).symm.trans h
      refine gl_aload_n hX q_49_9 rfl rfl ?_
      refine gl_getA hX q_49_10 (qf_42 (by decide)) (qs_0 hr) rfl qk_21 ((congrFun hrf 21).trans qa_21) rfl ?_
      refine gl_iload_n hX q_49_13 rfl rfl ?_
      refine gl_iconst hX q_49_14 ci_0 rfl ?_
      obtain ⟨c3, h⟩ := o_ck h
      refine gl_iastore (ar2 := (j_u2 ar 13 (iN x1) (0 : Int32))) hX q_49_15 (qs_13 hr) c3 rfl rfl ?_
      refine gl_iinc (vs2 := [some (.ref 0), some (.int (x1 + (1 : Int32)))]) hX q_49_16 rfl rfl rfl ci_1 rfl rfl ?_
      refine gl_goto hX q_49_19 rfl ?_
      exact gl_weak (vs := [some (.ref 0), some (.int (x1 + (1 : Int32)))]) ⟨rfl, rfl, trivial⟩ (ih (x1 + (1 : Int32)) S (j_u2 ar 13 (iN x1) (0 : Int32)) h)
def rF_49 (S : (Nat → Int32)) (ar : jSc) : Option ((Nat → Int32) × jSc) :=
  rF_49_3 oF (33 : Int32) S ar
set_option maxHeartbeats 4000000 in
theorem rt_49 {X : jX} (hX : j_LK (g_n X) (g_L X)) (hr : g_rs X = r_sh) {rf : jRf} (hrf : rf 0 = r_rf) {d : Nat} : rT_49 X rf rF_49 (d + 127) := by
  intro sc al Post  S ar S9 ar9 h hP
  unfold rF_49 at h
  refine gl_entry (m := 1) rfl ?_
  show gL X 49 (d + 127) 0 [some (.ref 0), none] [] (va_up sc 0 S) rf ar al Post
  refine gl_bipush hX q_49_0 cb_33 rfl ?_
  refine gl_istore_n (vs2 := [some (.ref 0), some (.int (33 : Int32))]) hX q_49_2 rfl rfl rfl rfl ?_
  exact gl_weak (vs := [some (.ref 0), some (.int (33 : Int32))]) ⟨rfl, rfl, trivial⟩ (rt_49_3 hX hr hrf hP oF (33 : Int32) S ar h)
/-- ClickOrdersModel.keeps([I)V -/
def rT_56 (X : jX) (rf : jRf) (F : Nat → Nat → (Nat → Int32) → jSc → Option ((Nat → Int32) × jSc)) (e : Nat) : Prop := ∀ (sc : jSc) (al : jAl) (Post : jPo) (p1 : Nat) (n1 : Nat) (hp1 : (g_L X).1 p1 = .inr (0, n1)) (S : (Nat → Int32)) (ar : jSc) (S9 : (Nat → Int32)) (ar9 : jSc), F p1 n1 S ar = some (S9, ar9) → Post none (va_up sc 0 S9) rf ar9 al → gW X 56 e 0 (j_av [.ref 0, .ref p1]) [] (va_up sc 0 S) rf ar al Post
def rF_56_2 : Nat → Nat → Nat → Int32 → (Nat → Int32) → jSc → Option ((Nat → Int32) × jSc)
  | 0, _, _, _, _, _ => none
  | nn + 1, p1, n1, x2, S, ar => (if (Int32.ofNat n1) ≤ x2 then some (S, ar) else (if iB x2 53 then (if iB x2 n1 then rF_56_2 nn p1 n1 (x2 + (1 : Int32)) S (j_u2 ar p1 (iN x2) (ar 13 (iN x2))) else none) else none))
set_option maxHeartbeats 4000000 in
theorem rt_56_2 {X : jX} (hX : j_LK (g_n X) (g_L X)) (hr : g_rs X = r_sh) {rf : jRf} (hrf : rf 0 = r_rf) {d : Nat} {sc : jSc} {al : jAl} {Post : jPo} {S9 : (Nat → Int32)} {ar9 : jSc} (hP : Post none (va_up sc 0 S9) rf ar9 al) : ∀ (nn : Nat) (p1 : Nat) (n1 : Nat) (x2 : Int32) (S : (Nat → Int32)) (ar : jSc), (g_L X).1 p1 = .inr (0, n1) → rF_56_2 nn p1 n1 x2 S ar = some (S9, ar9) → gL X 56 (d + 1) 2 [some (.ref 0), some (.ref p1), some (.int x2)] [] (va_up sc 0 S) rf ar al Post := by
  intro nn
  induction nn with
  | zero =>
    intro p1 n1 x2 S ar hp1 h
    have h : (none : Option ((Nat → Int32) × jSc)) = some _ := h
    cases h
  | succ nn ih =>
    intro p1 n1 x2 S ar hp1 h
    unfold rF_56_2 at h
    refine gl_iload_n hX q_56_2 rfl rfl ?_
    refine gl_aload_n hX q_56_3 rfl rfl ?_
    refine gl_arraylength hX q_56_4 hp1 (Or.inl (by decide)) rfl ?_
    refine gl_ic_ge hX q_56_5 rfl rfl (fun c1 => ?_) (fun c1 => ?_)
    · have h := (if_pos c1).symm.trans h
      exact gl_return q_56_23 qr_56 (by cases h; exact hP)
    · have h := (if_neg c1).symm.trans h
      refine gl_aload_n hX q_56_8 rfl rfl ?_
      refine gl_iload_n hX q_56_9 rfl rfl ?_
      refine gl_aload_n hX q_56_10 rfl rfl ?_
      refine gl_getA hX q_56_11 (qf_42 (by decide)) (qs_0 hr) rfl qk_21 ((congrFun hrf 21).trans qa_21) rfl ?_
      refine gl_iload_n hX q_56_14 rfl rfl ?_
      obtain ⟨c2, h⟩ := o_ck h
      refine gl_iaload hX q_56_15 (qs_13 hr) c2 rfl rfl ?_
      obtain ⟨c3, h⟩ := o_ck h
      refine gl_iastore (ar2 := (j_u2 ar p1 (iN x2) (ar 13 (iN x2)))) hX q_56_16 hp1 c3 rfl rfl ?_
      refine gl_iinc (vs2 := [some (.ref 0), some (.ref p1), some (.int (x2 + (1 : Int32)))]) hX q_56_17 rfl rfl rfl ci_1 rfl rfl ?_
      refine gl_goto hX q_56_20 rfl ?_
      exact gl_weak (vs := [some (.ref 0), some (.ref p1), some (.int (x2 + (1 : Int32)))]) ⟨rfl, rfl, rfl, trivial⟩ (ih p1 n1 (x2 + (1 : Int32)) S (j_u2 ar p1 (iN x2) (ar 13 (iN x2))) hp1 h)
def rF_56 (p1 : Nat) (n1 : Nat) (S : (Nat → Int32)) (ar : jSc) : Option ((Nat → Int32) × jSc) :=
  rF_56_2 oF p1 n1 (0 : Int32) S ar
set_option maxHeartbeats 4000000 in
theorem rt_56 {X : jX} (hX : j_LK (g_n X) (g_L X)) (hr : g_rs X = r_sh) {rf : jRf} (hrf : rf 0 = r_rf) {d : Nat} : rT_56 X rf rF_56 (d + 1) := by
  intro sc al Post p1 n1 hp1 S ar S9 ar9 h hP
  unfold rF_56 at h
  refine gl_entry (m := 1) rfl ?_
  show gL X 56 (d + 1) 0 [some (.ref 0), some (.ref p1), none] [] (va_up sc 0 S) rf ar al Post
  refine gl_iconst hX q_56_0 ci_0 rfl ?_
  refine gl_istore_n (vs2 := [some (.ref 0), some (.ref p1), some (.int (0 : Int32))]) hX q_56_1 rfl rfl rfl rfl ?_
  exact gl_weak (vs := [some (.ref 0), some (.ref p1), some (.int (0 : Int32))]) ⟨rfl, rfl, rfl, trivial⟩ (rt_56_2 hX hr hrf hP oF p1 n1 (0 : Int32) S ar hp1 h)
