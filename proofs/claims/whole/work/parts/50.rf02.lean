/-! THE REFERENCE: its methods as functions, and that the machine does what they say. -/
/-- ClickOrdersModel.test()Z -/
def rT_25 (X : jX) (rf : jRf) (F : (Nat → Int32) → jSc → Option (Int32 × (Nat → Int32) × jSc)) (e : Nat) : Prop := ∀ (sc : jSc) (al : jAl) (Post : jPo) (S : (Nat → Int32)) (ar : jSc) (r9 : Int32) (S9 : (Nat → Int32)) (ar9 : jSc), F S ar = some (r9, S9, ar9) → Post (some (.int r9)) (va_up sc 0 S9) rf ar9 al → gW X 25 e 0 (j_av [.ref 0]) [] (va_up sc 0 S) rf ar al Post
/-- ClickOrdersModel.ands()Z -/
def rT_26 (X : jX) (rf : jRf) (F : (Nat → Int32) → jSc → Option (Int32 × (Nat → Int32) × jSc)) (e : Nat) : Prop := ∀ (sc : jSc) (al : jAl) (Post : jPo) (S : (Nat → Int32)) (ar : jSc) (r9 : Int32) (S9 : (Nat → Int32)) (ar9 : jSc), F S ar = some (r9, S9, ar9) → Post (some (.int r9)) (va_up sc 0 S9) rf ar9 al → gW X 26 e 0 (j_av [.ref 0]) [] (va_up sc 0 S) rf ar al Post
/-- ClickOrdersModel.ors()Z -/
def rT_27 (X : jX) (rf : jRf) (F : (Nat → Int32) → jSc → Option (Int32 × (Nat → Int32) × jSc)) (e : Nat) : Prop := ∀ (sc : jSc) (al : jAl) (Post : jPo) (S : (Nat → Int32)) (ar : jSc) (r9 : Int32) (S9 : (Nat → Int32)) (ar9 : jSc), F S ar = some (r9, S9, ar9) → Post (some (.int r9)) (va_up sc 0 S9) rf ar9 al → gW X 27 e 0 (j_av [.ref 0]) [] (va_up sc 0 S) rf ar al Post
def rF_25_141 (g25 : (Nat → Int32) → jSc → Option (Int32 × (Nat → Int32) × jSc)) (g26 : (Nat → Int32) → jSc → Option (Int32 × (Nat → Int32) × jSc)) (g27 : (Nat → Int32) → jSc → Option (Int32 × (Nat → Int32) × jSc)) (x1 : Int32) (x2 : Int32) (S : (Nat → Int32)) (ar : jSc) : Option (Int32 × (Nat → Int32) × jSc) :=
  (o_b3 ((rG_22 40).2.2 (upd S 5 ((S 5) + (1 : Int32))) ar) (fun ve1 Se1 are1 => (if x2 = (60 : Int32) then (if ve1 ≤ x1 then some ((0 : Int32), Se1, are1) else some ((1 : Int32), Se1, are1)) else (if x2 = (62 : Int32) then (if x1 ≤ ve1 then some ((0 : Int32), Se1, are1) else some ((1 : Int32), Se1, are1)) else (if x1 = ve1 then some ((1 : Int32), Se1, are1) else some ((0 : Int32), Se1, are1))))))
set_option maxHeartbeats 4000000 in
theorem rt_25_141 {X : jX} (hX : j_LK (g_n X) (g_L X)) (hr : g_rs X = r_sh) {rf : jRf} (hrf : rf 0 = r_rf) {d : Nat} {g25 : (Nat → Int32) → jSc → Option (Int32 × (Nat → Int32) × jSc)} (hg25 : rT_25 X rf g25 (d + 44)) {g26 : (Nat → Int32) → jSc → Option (Int32 × (Nat → Int32) × jSc)} (hg26 : rT_26 X rf g26 (d + 44)) {g27 : (Nat → Int32) → jSc → Option (Int32 × (Nat → Int32) × jSc)} (hg27 : rT_27 X rf g27 (d + 44)) {sc : jSc} {al : jAl} {Post : jPo} {r9 : Int32} {S9 : (Nat → Int32)} {ar9 : jSc} (hP : Post (some (.int r9)) (va_up sc 0 S9) rf ar9 al) (x1 : Int32) (x2 : Int32) (S : (Nat → Int32)) (ar : jSc) (h : rF_25_141 g25 g26 g27 x1 x2 S ar = some (r9, S9, ar9)) : gL X 25 (d + 45) 141 [some (.ref 0), some (.int x1), some (.int x2), none] [] (va_up sc 0 S) rf ar al Post := by
  unfold rF_25_141 at h
  refine gl_aload_n hX q_25_141 rfl rfl ?_
  refine gl_dup hX q_25_142 rfl rfl ?_
  refine gl_get hX q_25_143 (qf_138 (by decide)) (qs_0 hr) rfl qk_5 rfl rfl ?_
  refine gl_iconst hX q_25_146 ci_1 rfl ?_
  refine gl_iadd hX q_25_147 rfl ?_
  refine gl_put hX q_25_148 (qf_138 (by decide)) (qs_0 hr) rfl qk_5 rfl ru rfl ?_
  refine gl_aload_n hX q_25_151 rfl rfl ?_
  obtain ⟨ve1, Se1, are1, e1, h⟩ := o_k3 h
  refine gl_callV hX q_25_152 (qm_216 (by decide)) rfl rfl rfl (qs_0 hr) qx_24 rfl rfl (((rtG_22 hX hr hrf 40).2.2) _ _ _  _ _ _ _ _ e1 ?_)
  refine gl_istore_n (vs2 := [some (.ref 0), some (.int x1), some (.int x2), some (.int ve1)]) hX q_25_155 rfl rfl rfl rfl ?_
  refine gl_iload_n hX q_25_156 rfl rfl ?_
  refine gl_bipush hX q_25_157 cb_60 rfl ?_
  refine gl_ic_ne hX q_25_159 rfl rfl (fun c2 => ?_) (fun c2 => ?_)
  · have h := (if_pos c2).symm.trans h
    refine gl_iload_n hX q_25_162 rfl rfl ?_
    refine gl_iload_n hX q_25_163 rfl rfl ?_
    refine gl_ic_ge hX q_25_164 rfl rfl (fun c3 => ?_) (fun c3 => ?_)
    · have h := (if_pos c3).symm.trans h
      refine gl_iconst hX q_25_171 ci_0 rfl ?_
      refine gl_goto hX q_25_172 rfl ?_
      exact gl_ireturn q_25_204 (Or.inr ⟨qr_25, Or.inl rfl⟩) (by cases h; exact hP)
    · have h := (if_neg c3).symm.trans h
      refine gl_iconst hX q_25_167 ci_1 rfl ?_
      refine gl_goto hX q_25_168 rfl ?_
      exact gl_ireturn q_25_204 (Or.inr ⟨qr_25, Or.inr rfl⟩) (by cases h; exact hP)
  · have h := (if_neg c2).symm.trans h
    refine gl_iload_n hX q_25_175 rfl rfl ?_
    refine gl_bipush hX q_25_176 cb_62 rfl ?_
    refine gl_ic_ne hX q_25_178 rfl rfl (fun c4 => ?_) (fun c4 => ?_)
    · have h := (if_pos c4).symm.trans h
      refine gl_iload_n hX q_25_181 rfl rfl ?_
      refine gl_iload_n hX q_25_182 rfl rfl ?_
      refine gl_ic_le hX q_25_183 rfl rfl (fun c5 => ?_) (fun c5 => ?_)
      · have h := (if_pos c5).symm.trans h
        refine gl_iconst hX q_25_190 ci_0 rfl ?_
        refine gl_goto hX q_25_191 rfl ?_
        exact gl_ireturn q_25_204 (Or.inr ⟨qr_25, Or.inl rfl⟩) (by cases h; exact hP)
      · have h := (if_neg c5).symm.trans h
        refine gl_iconst hX q_25_186 ci_1 rfl ?_
        refine gl_goto hX q_25_187 rfl ?_
        exact gl_ireturn q_25_204 (Or.inr ⟨qr_25, Or.inr rfl⟩) (by cases h; exact hP)
    · have h := (if_neg c4).symm.trans h
      refine gl_iload_n hX q_25_194 rfl rfl ?_
      refine gl_iload_n hX q_25_195 rfl rfl ?_
      refine gl_ic_ne hX q_25_196 rfl rfl (fun c6 => ?_) (fun c6 => ?_)
      · have h := (if_pos c6).symm.trans h
        refine gl_iconst hX q_25_199 ci_1 rfl ?_
        refine gl_goto hX q_25_200 rfl ?_
        exact gl_ireturn q_25_204 (Or.inr ⟨qr_25, Or.inr rfl⟩) (by cases h; exact hP)
      · have h := (if_neg c6).symm.trans h
        refine gl_iconst hX q_25_203 ci_0 rfl ?_
        exact gl_ireturn q_25_204 (Or.inr ⟨qr_25, Or.inl rfl⟩) (by cases h; exact hP)
def rF_25 (g25 : (Nat → Int32) → jSc → Option (Int32 × (Nat → Int32) × jSc)) (g26 : (Nat → Int32) → jSc → Option (Int32 × (Nat → Int32) × jSc)) (g27 : (Nat → Int32) → jSc → Option (Int32 × (Nat → Int32) × jSc)) (S : (Nat → Int32)) (ar : jSc) : Option (Int32 × (Nat → Int32) × jSc) :=
  (if (S 7) = 0 then (o_b3 (rF_13 (14 : Int32) (15 : Int32) (20 : Int32) (0 : Int32) (0 : Int32) (0 : Int32) S ar) (fun ve8 Se8 are8 => (if ve8 = 0 then (o_b3 (rF_6 (Se8 5) Se8 are8) (fun ve10 Se10 are10 => (if ve10 = (91 : Int32) then (o_b2 (rF_18 (1 : Int32) Se10 are10) (fun Se12 are12 => (o_b3 (g27 Se12 are12) (fun ve13 Se13 are13 => (o_b2 (rF_15 (93 : Int32) Se13 are13) (fun Se14 are14 => (if ve13 = 0 ∨ ve13 = 1 then some (ve13, (upd Se14 6 ((Se14 6) - (1 : Int32))), are14) else none))))))) else (o_b3 ((rG_22 40).2.2 Se10 are10) (fun ve16 Se16 are16 => (o_b2 (rF_7 Se16 are16) (fun Se17 are17 => (o_b3 (rF_6 (Se17 5) Se17 are17) (fun ve18 Se18 are18 => (if ve18 = (60 : Int32) then rF_25_141 g25 g26 g27 ve16 ve18 Se18 are18 else (if ve18 = (62 : Int32) then rF_25_141 g25 g26 g27 ve16 ve18 Se18 are18 else (if ve18 = (61 : Int32) then rF_25_141 g25 g26 g27 ve16 ve18 Se18 are18 else (o_b2 (rF_8 (1 : Int32) (Se18 5) Se18 are18) (fun Se22 are22 => rF_25_141 g25 g26 g27 ve16 ve18 Se22 are22)))))))))))))) else (o_b2 (rF_18 (3 : Int32) Se8 are8) (fun Se23 are23 => (o_b3 (g25 Se23 are23) (fun ve24 Se24 are24 => (if ve24 = 0 then some ((1 : Int32), (upd Se24 6 ((Se24 6) - (1 : Int32))), are24) else some ((0 : Int32), (upd Se24 6 ((Se24 6) - (1 : Int32))), are24))))))))) else some ((0 : Int32), S, ar))
set_option maxHeartbeats 4000000 in
theorem rt_25 {X : jX} (hX : j_LK (g_n X) (g_L X)) (hr : g_rs X = r_sh) {rf : jRf} (hrf : rf 0 = r_rf) {d : Nat} {g25 : (Nat → Int32) → jSc → Option (Int32 × (Nat → Int32) × jSc)} (hg25 : rT_25 X rf g25 (d + 44)) {g26 : (Nat → Int32) → jSc → Option (Int32 × (Nat → Int32) × jSc)} (hg26 : rT_26 X rf g26 (d + 44)) {g27 : (Nat → Int32) → jSc → Option (Int32 × (Nat → Int32) × jSc)} (hg27 : rT_27 X rf g27 (d + 44)) : rT_25 X rf (rF_25 g25 g26 g27) (d + 45) := by
  intro sc al Post  S ar r9 S9 ar9 h hP
  unfold rF_25 at h
  refine gl_entry (m := 3) rfl ?_
  show gL X 25 (d + 45) 0 [some (.ref 0), none, none, none] [] (va_up sc 0 S) rf ar al Post
  refine gl_aload_n hX q_25_0 rfl rfl ?_
  refine gl_get hX q_25_1 (qf_145 (by decide)) (qs_0 hr) rfl qk_7 rfl rfl ?_
  refine gl_if_eq hX q_25_4 rfl rfl (fun c7 => ?_) (fun c7 => ?_)
  · have h := (if_pos c7).symm.trans h
    refine gl_aload_n hX q_25_9 rfl rfl ?_
    refine gl_bipush hX q_25_10 cb_14 rfl ?_
    refine gl_bipush hX q_25_12 cb_15 rfl ?_
    refine gl_bipush hX q_25_14 cb_20 rfl ?_
    refine gl_iconst hX q_25_16 ci_0 rfl ?_
    refine gl_iconst hX q_25_17 ci_0 rfl ?_
    refine gl_iconst hX q_25_18 ci_0 rfl ?_
    obtain ⟨ve8, Se8, are8, e8, h⟩ := o_k3 h
    refine gl_callV hX q_25_19 (qm_196 (by decide)) rfl rfl rfl (qs_0 hr) qx_13 rfl rfl ((rt_13 hX hr hrf) _ _ _ _ _ _ _ _ _ _ _ _ _ _ e8 ?_)
    refine gl_if_eq hX q_25_22 rfl rfl (fun c9 => ?_) (fun c9 => ?_)
    · have h := (if_pos c9).symm.trans h
      refine gl_aload_n hX q_25_55 rfl rfl ?_
      refine gl_aload_n hX q_25_56 rfl rfl ?_
      refine gl_get hX q_25_57 (qf_138 (by decide)) (qs_0 hr) rfl qk_5 rfl rfl ?_
      obtain ⟨ve10, Se10, are10, e10, h⟩ := o_k3 h
      refine gl_callV hX q_25_60 (qm_141 (by decide)) rfl rfl rfl (qs_0 hr) qx_6 rfl rfl ((rt_6 hX hr hrf) _ _ _ _ _ _ _ _ _ e10 ?_)
      refine gl_bipush hX q_25_63 cb_91 rfl ?_
      refine gl_ic_ne hX q_25_65 rfl rfl (fun c11 => ?_) (fun c11 => ?_)
      · have h := (if_pos c11).symm.trans h
        refine gl_aload_n hX q_25_68 rfl rfl ?_
        refine gl_iconst hX q_25_69 ci_1 rfl ?_
        obtain ⟨Se12, are12, e12, h⟩ := o_k2 h
        refine gl_callV hX q_25_70 (qm_212 (by decide)) rfl rfl rfl (qs_0 hr) qx_18 rfl rfl ((rt_18 hX hr hrf) _ _ _ _ _ _ _ _ e12 ?_)
        refine gl_aload_n hX q_25_73 rfl rfl ?_
        obtain ⟨ve13, Se13, are13, e13, h⟩ := o_k3 h
        refine gl_callV hX q_25_74 (qm_232 (by decide)) rfl rfl rfl (qs_0 hr) qx_27 rfl rfl (hg27 _ _ _  _ _ _ _ _ e13 ?_)
        refine gl_istore_n (vs2 := [some (.ref 0), some (.int ve13), none, none]) hX q_25_77 rfl rfl rfl rfl ?_
        refine gl_aload_n hX q_25_78 rfl rfl ?_
        refine gl_bipush hX q_25_79 cb_93 rfl ?_
        obtain ⟨Se14, are14, e14, h⟩ := o_k2 h
        refine gl_callV hX q_25_81 (qm_219 (by decide)) rfl rfl rfl (qs_0 hr) qx_15 rfl rfl ((rt_15 hX hr hrf) _ _ _ _ _ _ _ _ e14 ?_)
        refine gl_aload_n hX q_25_84 rfl rfl ?_
        refine gl_dup hX q_25_85 rfl rfl ?_
        refine gl_get hX q_25_86 (qf_177 (by decide)) (qs_0 hr) rfl qk_6 rfl rfl ?_
        refine gl_iconst hX q_25_89 ci_1 rfl ?_
        refine gl_isub hX q_25_90 rfl ?_
        refine gl_put hX q_25_91 (qf_177 (by decide)) (qs_0 hr) rfl qk_6 rfl ru rfl ?_
        refine gl_iload_n hX q_25_94 rfl rfl ?_
        obtain ⟨c15, h⟩ := o_ck h
        exact gl_ireturn q_25_95 (Or.inr ⟨qr_25, c15⟩) (by cases h; exact hP)
      · have h := (if_neg c11).symm.trans h
        refine gl_aload_n hX q_25_96 rfl rfl ?_
        obtain ⟨ve16, Se16, are16, e16, h⟩ := o_k3 h
        refine gl_callV hX q_25_97 (qm_216 (by decide)) rfl rfl rfl (qs_0 hr) qx_24 rfl rfl (((rtG_22 hX hr hrf 40).2.2) _ _ _  _ _ _ _ _ e16 ?_)
        refine gl_istore_n (vs2 := [some (.ref 0), some (.int ve16), none, none]) hX q_25_100 rfl rfl rfl rfl ?_
        refine gl_aload_n hX q_25_101 rfl rfl ?_
        obtain ⟨Se17, are17, e17, h⟩ := o_k2 h
        refine gl_callV hX q_25_102 (qm_151 (by decide)) rfl rfl rfl (qs_0 hr) qx_7 rfl rfl ((rt_7 hX hr hrf) _ _ _  _ _ _ _ e17 ?_)
        refine gl_aload_n hX q_25_105 rfl rfl ?_
        refine gl_aload_n hX q_25_106 rfl rfl ?_
        refine gl_get hX q_25_107 (qf_138 (by decide)) (qs_0 hr) rfl qk_5 rfl rfl ?_
        obtain ⟨ve18, Se18, are18, e18, h⟩ := o_k3 h
        refine gl_callV hX q_25_110 (qm_141 (by decide)) rfl rfl rfl (qs_0 hr) qx_6 rfl rfl ((rt_6 hX hr hrf) _ _ _ _ _ _ _ _ _ e18 ?_)
        refine gl_istore_n (vs2 := [some (.ref 0), some (.int ve16), some (.int ve18), none]) hX q_25_113 rfl rfl rfl rfl ?_
        refine gl_iload_n hX q_25_114 rfl rfl ?_
        refine gl_bipush hX q_25_115 cb_60 rfl ?_
        refine gl_ic_eq hX q_25_117 rfl rfl (fun c19 => ?_) (fun c19 => ?_)
        · have h := (if_pos c19).symm.trans h
          exact gl_weak (vs := [some (.ref 0), some (.int ve16), some (.int ve18), none]) ⟨rfl, rfl, rfl, trivial⟩ (rt_25_141 hX hr hrf hg25 hg26 hg27 hP ve16 ve18 Se18 are18 h)
        · have h := (if_neg c19).symm.trans h
          refine gl_iload_n hX q_25_120 rfl rfl ?_
          refine gl_bipush hX q_25_121 cb_62 rfl ?_
          refine gl_ic_eq hX q_25_123 rfl rfl (fun c20 => ?_) (fun c20 => ?_)
          · have h := (if_pos c20).symm.trans h
            exact gl_weak (vs := [some (.ref 0), some (.int ve16), some (.int ve18), none]) ⟨rfl, rfl, rfl, trivial⟩ (rt_25_141 hX hr hrf hg25 hg26 hg27 hP ve16 ve18 Se18 are18 h)
          · have h := (if_neg c20).symm.trans h
            refine gl_iload_n hX q_25_126 rfl rfl ?_
            refine gl_bipush hX q_25_127 cb_61 rfl ?_
            refine gl_ic_eq hX q_25_129 rfl rfl (fun c21 => ?_) (fun c21 => ?_)
            · have h := (if_pos c21).symm.trans h
              exact gl_weak (vs := [some (.ref 0), some (.int ve16), some (.int ve18), none]) ⟨rfl, rfl, rfl, trivial⟩ (rt_25_141 hX hr hrf hg25 hg26 hg27 hP ve16 ve18 Se18 are18 h)
            · have h := (if_neg c21).symm.trans h
              refine gl_aload_n hX q_25_132 rfl rfl ?_
              refine gl_iconst hX q_25_133 ci_1 rfl ?_
              refine gl_aload_n hX q_25_134 rfl rfl ?_
              refine gl_get hX q_25_135 (qf_138 (by decide)) (qs_0 hr) rfl qk_5 rfl rfl ?_
              obtain ⟨Se22, are22, e22, h⟩ := o_k2 h
              refine gl_callV hX q_25_138 (qm_166 (by decide)) rfl rfl rfl (qs_0 hr) qx_8 rfl rfl ((rt_8 hX hr hrf) _ _ _ _ _ _ _ _ _ e22 ?_)
              exact gl_weak (vs := [some (.ref 0), some (.int ve16), some (.int ve18), none]) ⟨rfl, rfl, rfl, trivial⟩ (rt_25_141 hX hr hrf hg25 hg26 hg27 hP ve16 ve18 Se22 are22 h)
    · have h := (if_neg c9).symm.trans h
      refine gl_aload_n hX q_25_25 rfl rfl ?_
      refine gl_iconst hX q_25_26 ci_3 rfl ?_
      obtain ⟨Se23, are23, e23, h⟩ := o_k2 h
      refine gl_callV hX q_25_27 (qm_212 (by decide)) rfl rfl rfl (qs_0 hr) qx_18 rfl rfl ((rt_18 hX hr hrf) _ _ _ _ _ _ _ _ e23 ?_)
      refine gl_aload_n hX q_25_30 rfl rfl ?_
      obtain ⟨ve24, Se24, are24, e24, h⟩ := o_k3 h
      refine gl_callV hX q_25_31 (qm_228 (by decide)) rfl rfl rfl (qs_0 hr) qx_25 rfl rfl (hg25 _ _ _  _ _ _ _ _ e24 ?_)
      refine gl_if_ne hX q_25_34 rfl rfl (fun c25 => ?_) (fun c25 => ?_)
      · have h := (if_pos c25).symm.trans h
        refine gl_iconst hX q_25_37 ci_1 rfl ?_
        refine gl_goto hX q_25_38 rfl ?_
        refine gl_istore_n (vs2 := [some (.ref 0), some (.int (1 : Int32)), none, none]) hX q_25_42 rfl rfl rfl rfl ?_
        refine gl_aload_n hX q_25_43 rfl rfl ?_
        refine gl_dup hX q_25_44 rfl rfl ?_
        refine gl_get hX q_25_45 (qf_177 (by decide)) (qs_0 hr) rfl qk_6 rfl rfl ?_
        refine gl_iconst hX q_25_48 ci_1 rfl ?_
        refine gl_isub hX q_25_49 rfl ?_
        refine gl_put hX q_25_50 (qf_177 (by decide)) (qs_0 hr) rfl qk_6 rfl ru rfl ?_
        refine gl_iload_n hX q_25_53 rfl rfl ?_
        exact gl_ireturn q_25_54 (Or.inr ⟨qr_25, Or.inr rfl⟩) (by cases h; exact hP)
      · have h := (if_neg c25).symm.trans h
        refine gl_iconst hX q_25_41 ci_0 rfl ?_
        refine gl_istore_n (vs2 := [some (.ref 0), some (.int (0 : Int32)), none, none]) hX q_25_42 rfl rfl rfl rfl ?_
        refine gl_aload_n hX q_25_43 rfl rfl ?_
        refine gl_dup hX q_25_44 rfl rfl ?_
        refine gl_get hX q_25_45 (qf_177 (by decide)) (qs_0 hr) rfl qk_6 rfl rfl ?_
        refine gl_iconst hX q_25_48 ci_1 rfl ?_
        refine gl_isub hX q_25_49 rfl ?_
        refine gl_put hX q_25_50 (qf_177 (by decide)) (qs_0 hr) rfl qk_6 rfl ru rfl ?_
        refine gl_iload_n hX q_25_53 rfl rfl ?_
        exact gl_ireturn q_25_54 (Or.inr ⟨qr_25, Or.inl rfl⟩) (by cases h; exact hP)
  · have h := (if_neg c7).symm.trans h
    refine gl_iconst hX q_25_7 ci_0 rfl ?_
    exact gl_ireturn q_25_8 (Or.inr ⟨qr_25, Or.inl rfl⟩) (by cases h; exact hP)
def rF_26_5 (g25 : (Nat → Int32) → jSc → Option (Int32 × (Nat → Int32) × jSc)) (g26 : (Nat → Int32) → jSc → Option (Int32 × (Nat → Int32) × jSc)) (g27 : (Nat → Int32) → jSc → Option (Int32 × (Nat → Int32) × jSc)) : Nat → Int32 → (Nat → Int32) → jSc → Option (Int32 × (Nat → Int32) × jSc)
  | 0, _, _, _ => none
  | nn + 1, x1, S, ar => (if (S 7) = 0 then (o_b3 (rF_13 (1 : Int32) (14 : Int32) (4 : Int32) (0 : Int32) (0 : Int32) (0 : Int32) S ar) (fun ve2 Se2 are2 => (if ve2 = 0 then (if x1 = 0 ∨ x1 = 1 then some (x1, Se2, are2) else none) else (o_b2 (rF_14 Se2 are2) (fun Se5 are5 => (o_b3 (g25 Se5 are5) (fun ve6 Se6 are6 => (if x1 = 0 then rF_26_5 g25 g26 g27 nn (0 : Int32) Se6 are6 else (if ve6 = 0 then rF_26_5 g25 g26 g27 nn (0 : Int32) Se6 are6 else rF_26_5 g25 g26 g27 nn (1 : Int32) Se6 are6))))))))) else (if x1 = 0 ∨ x1 = 1 then some (x1, S, ar) else none))
set_option maxHeartbeats 4000000 in
theorem rt_26_5 {X : jX} (hX : j_LK (g_n X) (g_L X)) (hr : g_rs X = r_sh) {rf : jRf} (hrf : rf 0 = r_rf) {d : Nat} {g25 : (Nat → Int32) → jSc → Option (Int32 × (Nat → Int32) × jSc)} (hg25 : rT_25 X rf g25 (d + 44)) {g26 : (Nat → Int32) → jSc → Option (Int32 × (Nat → Int32) × jSc)} (hg26 : rT_26 X rf g26 (d + 44)) {g27 : (Nat → Int32) → jSc → Option (Int32 × (Nat → Int32) × jSc)} (hg27 : rT_27 X rf g27 (d + 44)) {sc : jSc} {al : jAl} {Post : jPo} {r9 : Int32} {S9 : (Nat → Int32)} {ar9 : jSc} (hP : Post (some (.int r9)) (va_up sc 0 S9) rf ar9 al) : ∀ (nn : Nat) (x1 : Int32) (S : (Nat → Int32)) (ar : jSc), rF_26_5 g25 g26 g27 nn x1 S ar = some (r9, S9, ar9) → gL X 26 (d + 45) 5 [some (.ref 0), some (.int x1), none] [] (va_up sc 0 S) rf ar al Post := by
  intro nn
  induction nn with
  | zero =>
    intro x1 S ar h
    have h : (none : Option (Int32 × (Nat → Int32) × jSc)) = some _ := h
    cases h
  | succ nn ih =>
    intro x1 S ar h
    unfold rF_26_5 at h
    refine gl_aload_n hX q_26_5 rfl rfl ?_
    refine gl_get hX q_26_6 (qf_145 (by decide)) (qs_0 hr) rfl qk_7 rfl rfl ?_
    refine gl_if_ne hX q_26_9 rfl rfl (fun c1 => ?_) (fun c1 => ?_)
    · have h := (if_pos c1).symm.trans h
      refine gl_aload_n hX q_26_12 rfl rfl ?_
      refine gl_iconst hX q_26_13 ci_1 rfl ?_
      refine gl_bipush hX q_26_14 cb_14 rfl ?_
      refine gl_iconst hX q_26_16 ci_4 rfl ?_
      refine gl_iconst hX q_26_17 ci_0 rfl ?_
      refine gl_iconst hX q_26_18 ci_0 rfl ?_
      refine gl_iconst hX q_26_19 ci_0 rfl ?_
      obtain ⟨ve2, Se2, are2, e2, h⟩ := o_k3 h
      refine gl_callV hX q_26_20 (qm_196 (by decide)) rfl rfl rfl (qs_0 hr) qx_13 rfl rfl ((rt_13 hX hr hrf) _ _ _ _ _ _ _ _ _ _ _ _ _ _ e2 ?_)
      refine gl_if_eq hX q_26_23 rfl rfl (fun c3 => ?_) (fun c3 => ?_)
      · have h := (if_pos c3).symm.trans h
        refine gl_iload_n hX q_26_52 rfl rfl ?_
        obtain ⟨c4, h⟩ := o_ck h
        exact gl_ireturn q_26_53 (Or.inr ⟨qr_26, c4⟩) (by cases h; exact hP)
      · have h := (if_neg c3).symm.trans h
        refine gl_aload_n hX q_26_26 rfl rfl ?_
        obtain ⟨Se5, are5, e5, h⟩ := o_k2 h
        refine gl_callV hX q_26_27 (qm_200 (by decide)) rfl rfl rfl (qs_0 hr) qx_14 rfl rfl ((rt_14 hX hr hrf) _ _ _  _ _ _ _ e5 ?_)
        refine gl_aload_n hX q_26_30 rfl rfl ?_
        obtain ⟨ve6, Se6, are6, e6, h⟩ := o_k3 h
        refine gl_callV hX q_26_31 (qm_228 (by decide)) rfl rfl rfl (qs_0 hr) qx_25 rfl rfl (hg25 _ _ _  _ _ _ _ _ e6 ?_)
        refine gl_istore_n (vs2 := [some (.ref 0), some (.int x1), some (.int ve6)]) hX q_26_34 rfl rfl rfl rfl ?_
        refine gl_iload_n hX q_26_35 rfl rfl ?_
        refine gl_if_eq hX q_26_36 rfl rfl (fun c7 => ?_) (fun c7 => ?_)
        · have h := (if_pos c7).symm.trans h
          refine gl_iconst hX q_26_47 ci_0 rfl ?_
          refine gl_istore_n (vs2 := [some (.ref 0), some (.int (0 : Int32)), some (.int ve6)]) hX q_26_48 rfl rfl rfl rfl ?_
          refine gl_goto hX q_26_49 rfl ?_
          exact gl_weak (vs := [some (.ref 0), some (.int (0 : Int32)), none]) ⟨rfl, rfl, trivial⟩ (ih (0 : Int32) Se6 are6 h)
        · have h := (if_neg c7).symm.trans h
          refine gl_iload_n hX q_26_39 rfl rfl ?_
          refine gl_if_eq hX q_26_40 rfl rfl (fun c8 => ?_) (fun c8 => ?_)
          · have h := (if_pos c8).symm.trans h
            refine gl_iconst hX q_26_47 ci_0 rfl ?_
            refine gl_istore_n (vs2 := [some (.ref 0), some (.int (0 : Int32)), some (.int ve6)]) hX q_26_48 rfl rfl rfl rfl ?_
            refine gl_goto hX q_26_49 rfl ?_
            exact gl_weak (vs := [some (.ref 0), some (.int (0 : Int32)), none]) ⟨rfl, rfl, trivial⟩ (ih (0 : Int32) Se6 are6 h)
          · have h := (if_neg c8).symm.trans h
            refine gl_iconst hX q_26_43 ci_1 rfl ?_
            refine gl_goto hX q_26_44 rfl ?_
            refine gl_istore_n (vs2 := [some (.ref 0), some (.int (1 : Int32)), some (.int ve6)]) hX q_26_48 rfl rfl rfl rfl ?_
            refine gl_goto hX q_26_49 rfl ?_
            exact gl_weak (vs := [some (.ref 0), some (.int (1 : Int32)), none]) ⟨rfl, rfl, trivial⟩ (ih (1 : Int32) Se6 are6 h)
    · have h := (if_neg c1).symm.trans h
      refine gl_iload_n hX q_26_52 rfl rfl ?_
      obtain ⟨c9, h⟩ := o_ck h
      exact gl_ireturn q_26_53 (Or.inr ⟨qr_26, c9⟩) (by cases h; exact hP)
def rF_26 (g25 : (Nat → Int32) → jSc → Option (Int32 × (Nat → Int32) × jSc)) (g26 : (Nat → Int32) → jSc → Option (Int32 × (Nat → Int32) × jSc)) (g27 : (Nat → Int32) → jSc → Option (Int32 × (Nat → Int32) × jSc)) (S : (Nat → Int32)) (ar : jSc) : Option (Int32 × (Nat → Int32) × jSc) :=
  (o_b3 (g25 S ar) (fun ve10 Se10 are10 => rF_26_5 g25 g26 g27 oF ve10 Se10 are10))
set_option maxHeartbeats 4000000 in
theorem rt_26 {X : jX} (hX : j_LK (g_n X) (g_L X)) (hr : g_rs X = r_sh) {rf : jRf} (hrf : rf 0 = r_rf) {d : Nat} {g25 : (Nat → Int32) → jSc → Option (Int32 × (Nat → Int32) × jSc)} (hg25 : rT_25 X rf g25 (d + 44)) {g26 : (Nat → Int32) → jSc → Option (Int32 × (Nat → Int32) × jSc)} (hg26 : rT_26 X rf g26 (d + 44)) {g27 : (Nat → Int32) → jSc → Option (Int32 × (Nat → Int32) × jSc)} (hg27 : rT_27 X rf g27 (d + 44)) : rT_26 X rf (rF_26 g25 g26 g27) (d + 45) := by
  intro sc al Post  S ar r9 S9 ar9 h hP
  unfold rF_26 at h
  refine gl_entry (m := 2) rfl ?_
  show gL X 26 (d + 45) 0 [some (.ref 0), none, none] [] (va_up sc 0 S) rf ar al Post
  refine gl_aload_n hX q_26_0 rfl rfl ?_
  obtain ⟨ve10, Se10, are10, e10, h⟩ := o_k3 h
  refine gl_callV hX q_26_1 (qm_228 (by decide)) rfl rfl rfl (qs_0 hr) qx_25 rfl rfl (hg25 _ _ _  _ _ _ _ _ e10 ?_)
  refine gl_istore_n (vs2 := [some (.ref 0), some (.int ve10), none]) hX q_26_4 rfl rfl rfl rfl ?_
  exact gl_weak (vs := [some (.ref 0), some (.int ve10), none]) ⟨rfl, rfl, trivial⟩ (rt_26_5 hX hr hrf hg25 hg26 hg27 hP oF ve10 Se10 are10 h)
def rF_27_5 (g25 : (Nat → Int32) → jSc → Option (Int32 × (Nat → Int32) × jSc)) (g26 : (Nat → Int32) → jSc → Option (Int32 × (Nat → Int32) × jSc)) (g27 : (Nat → Int32) → jSc → Option (Int32 × (Nat → Int32) × jSc)) : Nat → Int32 → (Nat → Int32) → jSc → Option (Int32 × (Nat → Int32) × jSc)
  | 0, _, _, _ => none
  | nn + 1, x1, S, ar => (if (S 7) = 0 then (o_b3 (rF_13 (15 : Int32) (18 : Int32) (0 : Int32) (0 : Int32) (0 : Int32) (0 : Int32) S ar) (fun ve2 Se2 are2 => (if ve2 = 0 then (if x1 = 0 ∨ x1 = 1 then some (x1, Se2, are2) else none) else (o_b2 (rF_14 Se2 are2) (fun Se5 are5 => (o_b3 (g26 Se5 are5) (fun ve6 Se6 are6 => (if x1 = 0 then (if ve6 = 0 then rF_27_5 g25 g26 g27 nn (0 : Int32) Se6 are6 else rF_27_5 g25 g26 g27 nn (1 : Int32) Se6 are6) else rF_27_5 g25 g26 g27 nn (1 : Int32) Se6 are6)))))))) else (if x1 = 0 ∨ x1 = 1 then some (x1, S, ar) else none))
set_option maxHeartbeats 4000000 in
theorem rt_27_5 {X : jX} (hX : j_LK (g_n X) (g_L X)) (hr : g_rs X = r_sh) {rf : jRf} (hrf : rf 0 = r_rf) {d : Nat} {g25 : (Nat → Int32) → jSc → Option (Int32 × (Nat → Int32) × jSc)} (hg25 : rT_25 X rf g25 (d + 44)) {g26 : (Nat → Int32) → jSc → Option (Int32 × (Nat → Int32) × jSc)} (hg26 : rT_26 X rf g26 (d + 44)) {g27 : (Nat → Int32) → jSc → Option (Int32 × (Nat → Int32) × jSc)} (hg27 : rT_27 X rf g27 (d + 44)) {sc : jSc} {al : jAl} {Post : jPo} {r9 : Int32} {S9 : (Nat → Int32)} {ar9 : jSc} (hP : Post (some (.int r9)) (va_up sc 0 S9) rf ar9 al) : ∀ (nn : Nat) (x1 : Int32) (S : (Nat → Int32)) (ar : jSc), rF_27_5 g25 g26 g27 nn x1 S ar = some (r9, S9, ar9) → gL X 27 (d + 45) 5 [some (.ref 0), some (.int x1), none] [] (va_up sc 0 S) rf ar al Post := by
  intro nn
  induction nn with
  | zero =>
    intro x1 S ar h
    have h : (none : Option (Int32 × (Nat → Int32) × jSc)) = some _ := h
    cases h
  | succ nn ih =>
    intro x1 S ar h
    unfold rF_27_5 at h
    refine gl_aload_n hX q_27_5 rfl rfl ?_
    refine gl_get hX q_27_6 (qf_145 (by decide)) (qs_0 hr) rfl qk_7 rfl rfl ?_
    refine gl_if_ne hX q_27_9 rfl rfl (fun c1 => ?_) (fun c1 => ?_)
    · have h := (if_pos c1).symm.trans h
      refine gl_aload_n hX q_27_12 rfl rfl ?_
      refine gl_bipush hX q_27_13 cb_15 rfl ?_
      refine gl_bipush hX q_27_15 cb_18 rfl ?_
      refine gl_iconst hX q_27_17 ci_0 rfl ?_
      refine gl_iconst hX q_27_18 ci_0 rfl ?_
      refine gl_iconst hX q_27_19 ci_0 rfl ?_
      refine gl_iconst hX q_27_20 ci_0 rfl ?_
      obtain ⟨ve2, Se2, are2, e2, h⟩ := o_k3 h
      refine gl_callV hX q_27_21 (qm_196 (by decide)) rfl rfl rfl (qs_0 hr) qx_13 rfl rfl ((rt_13 hX hr hrf) _ _ _ _ _ _ _ _ _ _ _ _ _ _ e2 ?_)
      refine gl_if_eq hX q_27_24 rfl rfl (fun c3 => ?_) (fun c3 => ?_)
      · have h := (if_pos c3).symm.trans h
        refine gl_iload_n hX q_27_53 rfl rfl ?_
        obtain ⟨c4, h⟩ := o_ck h
        exact gl_ireturn q_27_54 (Or.inr ⟨qr_27, c4⟩) (by cases h; exact hP)
      · have h := (if_neg c3).symm.trans h
        refine gl_aload_n hX q_27_27 rfl rfl ?_
        obtain ⟨Se5, are5, e5, h⟩ := o_k2 h
        refine gl_callV hX q_27_28 (qm_200 (by decide)) rfl rfl rfl (qs_0 hr) qx_14 rfl rfl ((rt_14 hX hr hrf) _ _ _  _ _ _ _ e5 ?_)
        refine gl_aload_n hX q_27_31 rfl rfl ?_
        obtain ⟨ve6, Se6, are6, e6, h⟩ := o_k3 h
        refine gl_callV hX q_27_32 (qm_235 (by decide)) rfl rfl rfl (qs_0 hr) qx_26 rfl rfl (hg26 _ _ _  _ _ _ _ _ e6 ?_)
        refine gl_istore_n (vs2 := [some (.ref 0), some (.int x1), some (.int ve6)]) hX q_27_35 rfl rfl rfl rfl ?_
        refine gl_iload_n hX q_27_36 rfl rfl ?_
        refine gl_if_ne hX q_27_37 rfl rfl (fun c7 => ?_) (fun c7 => ?_)
        · have h := (if_pos c7).symm.trans h
          refine gl_iload_n hX q_27_40 rfl rfl ?_
          refine gl_if_eq hX q_27_41 rfl rfl (fun c8 => ?_) (fun c8 => ?_)
          · have h := (if_pos c8).symm.trans h
            refine gl_iconst hX q_27_48 ci_0 rfl ?_
            refine gl_istore_n (vs2 := [some (.ref 0), some (.int (0 : Int32)), some (.int ve6)]) hX q_27_49 rfl rfl rfl rfl ?_
            refine gl_goto hX q_27_50 rfl ?_
            exact gl_weak (vs := [some (.ref 0), some (.int (0 : Int32)), none]) ⟨rfl, rfl, trivial⟩ (ih (0 : Int32) Se6 are6 h)
          · have h := (if_neg c8).symm.trans h
            refine gl_iconst hX q_27_44 ci_1 rfl ?_
            refine gl_goto hX q_27_45 rfl ?_
            refine gl_istore_n (vs2 := [some (.ref 0), some (.int (1 : Int32)), some (.int ve6)]) hX q_27_49 rfl rfl rfl rfl ?_
            refine gl_goto hX q_27_50 rfl ?_
            exact gl_weak (vs := [some (.ref 0), some (.int (1 : Int32)), none]) ⟨rfl, rfl, trivial⟩ (ih (1 : Int32) Se6 are6 h)
        · have h := (if_neg c7).symm.trans h
          refine gl_iconst hX q_27_44 ci_1 rfl ?_
          refine gl_goto hX q_27_45 rfl ?_
          refine gl_istore_n (vs2 := [some (.ref 0), some (.int (1 : Int32)), some (.int ve6)]) hX q_27_49 rfl rfl rfl rfl ?_
          refine gl_goto hX q_27_50 rfl ?_
          exact gl_weak (vs := [some (.ref 0), some (.int (1 : Int32)), none]) ⟨rfl, rfl, trivial⟩ (ih (1 : Int32) Se6 are6 h)
    · have h := (if_neg c1).symm.trans h
      refine gl_iload_n hX q_27_53 rfl rfl ?_
      obtain ⟨c9, h⟩ := o_ck h
      exact gl_ireturn q_27_54 (Or.inr ⟨qr_27, c9⟩) (by cases h; exact hP)
def rF_27 (g25 : (Nat → Int32) → jSc → Option (Int32 × (Nat → Int32) × jSc)) (g26 : (Nat → Int32) → jSc → Option (Int32 × (Nat → Int32) × jSc)) (g27 : (Nat → Int32) → jSc → Option (Int32 × (Nat → Int32) × jSc)) (S : (Nat → Int32)) (ar : jSc) : Option (Int32 × (Nat → Int32) × jSc) :=
  (o_b3 (g26 S ar) (fun ve10 Se10 are10 => rF_27_5 g25 g26 g27 oF ve10 Se10 are10))
set_option maxHeartbeats 4000000 in
theorem rt_27 {X : jX} (hX : j_LK (g_n X) (g_L X)) (hr : g_rs X = r_sh) {rf : jRf} (hrf : rf 0 = r_rf) {d : Nat} {g25 : (Nat → Int32) → jSc → Option (Int32 × (Nat → Int32) × jSc)} (hg25 : rT_25 X rf g25 (d + 44)) {g26 : (Nat → Int32) → jSc → Option (Int32 × (Nat → Int32) × jSc)} (hg26 : rT_26 X rf g26 (d + 44)) {g27 : (Nat → Int32) → jSc → Option (Int32 × (Nat → Int32) × jSc)} (hg27 : rT_27 X rf g27 (d + 44)) : rT_27 X rf (rF_27 g25 g26 g27) (d + 45) := by
  intro sc al Post  S ar r9 S9 ar9 h hP
  unfold rF_27 at h
  refine gl_entry (m := 2) rfl ?_
  show gL X 27 (d + 45) 0 [some (.ref 0), none, none] [] (va_up sc 0 S) rf ar al Post
  refine gl_aload_n hX q_27_0 rfl rfl ?_
  obtain ⟨ve10, Se10, are10, e10, h⟩ := o_k3 h
  refine gl_callV hX q_27_1 (qm_235 (by decide)) rfl rfl rfl (qs_0 hr) qx_26 rfl rfl (hg26 _ _ _  _ _ _ _ _ e10 ?_)
  refine gl_istore_n (vs2 := [some (.ref 0), some (.int ve10), none]) hX q_27_4 rfl rfl rfl rfl ?_
  exact gl_weak (vs := [some (.ref 0), some (.int ve10), none]) ⟨rfl, rfl, trivial⟩ (rt_27_5 hX hr hrf hg25 hg26 hg27 hP oF ve10 Se10 are10 h)
def rG_25 : Nat → ((Nat → Int32) → jSc → Option (Int32 × (Nat → Int32) × jSc)) × ((Nat → Int32) → jSc → Option (Int32 × (Nat → Int32) × jSc)) × ((Nat → Int32) → jSc → Option (Int32 × (Nat → Int32) × jSc))
  | 0 => (fun _ _ => none, fun _ _ => none, fun _ _ => none)
  | n + 1 => (rF_25 (rG_25 n).1 (rG_25 n).2.1 (rG_25 n).2.2, rF_26 (rG_25 n).1 (rG_25 n).2.1 (rG_25 n).2.2, rF_27 (rG_25 n).1 (rG_25 n).2.1 (rG_25 n).2.2)
theorem rtG_25 {X : jX} (hX : j_LK (g_n X) (g_L X)) (hr : g_rs X = r_sh) {rf : jRf} (hrf : rf 0 = r_rf) {d : Nat} : ∀ n : Nat, rT_25 X rf (rG_25 n).1 (d + n + 44) ∧ rT_26 X rf (rG_25 n).2.1 (d + n + 44) ∧ rT_27 X rf (rG_25 n).2.2 (d + n + 44) := by
  intro n
  induction n with
  | zero =>
    refine ⟨?_, ?_, ?_⟩
    · intro sc al Post S ar r9 S9 ar9 h hP
      cases (show (none : Option (Int32 × (Nat → Int32) × jSc)) = some _ from h)
    · intro sc al Post S ar r9 S9 ar9 h hP
      cases (show (none : Option (Int32 × (Nat → Int32) × jSc)) = some _ from h)
    · intro sc al Post S ar r9 S9 ar9 h hP
      cases (show (none : Option (Int32 × (Nat → Int32) × jSc)) = some _ from h)
  | succ n ih =>
    have e : d + n + 44 + 1 = d + (n + 1) + 44 := by omega
    rw [← e]
    exact ⟨rt_25 hX hr hrf (d := d + n) ih.1 ih.2.1 ih.2.2, rt_26 hX hr hrf (d := d + n) ih.1 ih.2.1 ih.2.2, rt_27 hX hr hrf (d := d + n) ih.1 ih.2.1 ih.2.2⟩
/-- ClickOrdersModel.stepHere()I -/
def rT_28 (X : jX) (rf : jRf) (F : (Nat → Int32) → jSc → Option (Int32 × (Nat → Int32) × jSc)) (e : Nat) : Prop := ∀ (sc : jSc) (al : jAl) (Post : jPo) (S : (Nat → Int32)) (ar : jSc) (r9 : Int32) (S9 : (Nat → Int32)) (ar9 : jSc), F S ar = some (r9, S9, ar9) → Post (some (.int r9)) (va_up sc 0 S9) rf ar9 al → gW X 28 e 0 (j_av [.ref 0]) [] (va_up sc 0 S) rf ar al Post
def rF_28 (S : (Nat → Int32)) (ar : jSc) : Option (Int32 × (Nat → Int32) × jSc) :=
  (o_b3 (rF_19 S ar) (fun ve1 Se1 are1 => (if ve1 = (-1 : Int32) then (o_b3 (rF_13 (19 : Int32) (8 : Int32) (15 : Int32) (23 : Int32) (0 : Int32) (0 : Int32) Se1 are1) (fun ve3 Se3 are3 => (if ve3 = 0 then (o_b3 (rF_13 (8 : Int32) (9 : Int32) (4 : Int32) (5 : Int32) (0 : Int32) (0 : Int32) Se3 are3) (fun ve5 Se5 are5 => (if ve5 = 0 then (o_b3 (rF_13 (7 : Int32) (18 : Int32) (5 : Int32) (25 : Int32) (0 : Int32) (0 : Int32) Se5 are5) (fun ve7 Se7 are7 => (if ve7 = 0 then (o_b3 (rF_13 (12 : Int32) (9 : Int32) (22 : Int32) (5 : Int32) (0 : Int32) (0 : Int32) Se7 are7) (fun ve9 Se9 are9 => (if ve9 = 0 then (o_b3 (rF_13 (3 : Int32) (12 : Int32) (15 : Int32) (3 : Int32) (11 : Int32) (0 : Int32) Se9 are9) (fun ve11 Se11 are11 => (if ve11 = 0 then (o_b3 (rF_13 (1 : Int32) (19 : Int32) (11 : Int32) (0 : Int32) (0 : Int32) (0 : Int32) Se11 are11) (fun ve13 Se13 are13 => (if ve13 = 0 then (o_b3 (rF_13 (19 : Int32) (20 : Int32) (15 : Int32) (16 : Int32) (0 : Int32) (0 : Int32) Se13 are13) (fun ve15 Se15 are15 => (if ve15 = 0 then (o_b3 (rF_13 (19 : Int32) (1 : Int32) (22 : Int32) (5 : Int32) (0 : Int32) (0 : Int32) Se15 are15) (fun ve17 Se17 are17 => (if ve17 = 0 then (o_b3 (rF_13 (6 : Int32) (1 : Int32) (9 : Int32) (12 : Int32) (0 : Int32) (0 : Int32) Se17 are17) (fun ve19 Se19 are19 => (if ve19 = 0 then (o_b3 (rF_13 (9 : Int32) (6 : Int32) (0 : Int32) (0 : Int32) (0 : Int32) (0 : Int32) Se19 are19) (fun ve21 Se21 are21 => (if ve21 = 0 then some ((-1 : Int32), Se21, are21) else some ((10 : Int32), Se21, are21)))) else some ((9 : Int32), Se19, are19)))) else some ((8 : Int32), Se17, are17)))) else some ((7 : Int32), Se15, are15)))) else some ((6 : Int32), Se13, are13)))) else some ((5 : Int32), Se11, are11)))) else some ((4 : Int32), Se9, are9)))) else some ((3 : Int32), Se7, are7)))) else some ((2 : Int32), Se5, are5)))) else some ((1 : Int32), Se3, are3)))) else some ((0 : Int32), Se1, are1))))
set_option maxHeartbeats 4000000 in
theorem rt_28 {X : jX} (hX : j_LK (g_n X) (g_L X)) (hr : g_rs X = r_sh) {rf : jRf} (hrf : rf 0 = r_rf) {d : Nat} : rT_28 X rf rF_28 (d + 5) := by
  intro sc al Post  S ar r9 S9 ar9 h hP
  unfold rF_28 at h
  refine gl_entry (m := 0) rfl ?_
  show gL X 28 (d + 5) 0 [some (.ref 0)] [] (va_up sc 0 S) rf ar al Post
  refine gl_aload_n hX q_28_0 rfl rfl ?_
  obtain ⟨ve1, Se1, are1, e1, h⟩ := o_k3 h
  refine gl_callV hX q_28_1 (qm_190 (by decide)) rfl rfl rfl (qs_0 hr) qx_19 rfl rfl ((rt_19 hX hr hrf) _ _ _  _ _ _ _ _ e1 ?_)
  refine gl_iconst hX q_28_4 ci_m1 rfl ?_
  refine gl_ic_eq hX q_28_5 rfl rfl (fun c2 => ?_) (fun c2 => ?_)
  · have h := (if_pos c2).symm.trans h
    refine gl_aload_n hX q_28_10 rfl rfl ?_
    refine gl_bipush hX q_28_11 cb_19 rfl ?_
    refine gl_bipush hX q_28_13 cb_8 rfl ?_
    refine gl_bipush hX q_28_15 cb_15 rfl ?_
    refine gl_bipush hX q_28_17 cb_23 rfl ?_
    refine gl_iconst hX q_28_19 ci_0 rfl ?_
    refine gl_iconst hX q_28_20 ci_0 rfl ?_
    obtain ⟨ve3, Se3, are3, e3, h⟩ := o_k3 h
    refine gl_callV hX q_28_21 (qm_196 (by decide)) rfl rfl rfl (qs_0 hr) qx_13 rfl rfl ((rt_13 hX hr hrf) _ _ _ _ _ _ _ _ _ _ _ _ _ _ e3 ?_)
    refine gl_if_eq hX q_28_24 rfl rfl (fun c4 => ?_) (fun c4 => ?_)
    · have h := (if_pos c4).symm.trans h
      refine gl_aload_n hX q_28_29 rfl rfl ?_
      refine gl_bipush hX q_28_30 cb_8 rfl ?_
      refine gl_bipush hX q_28_32 cb_9 rfl ?_
      refine gl_iconst hX q_28_34 ci_4 rfl ?_
      refine gl_iconst hX q_28_35 ci_5 rfl ?_
      refine gl_iconst hX q_28_36 ci_0 rfl ?_
      refine gl_iconst hX q_28_37 ci_0 rfl ?_
      obtain ⟨ve5, Se5, are5, e5, h⟩ := o_k3 h
      refine gl_callV hX q_28_38 (qm_196 (by decide)) rfl rfl rfl (qs_0 hr) qx_13 rfl rfl ((rt_13 hX hr hrf) _ _ _ _ _ _ _ _ _ _ _ _ _ _ e5 ?_)
      refine gl_if_eq hX q_28_41 rfl rfl (fun c6 => ?_) (fun c6 => ?_)
      · have h := (if_pos c6).symm.trans h
        refine gl_aload_n hX q_28_46 rfl rfl ?_
        refine gl_bipush hX q_28_47 cb_7 rfl ?_
        refine gl_bipush hX q_28_49 cb_18 rfl ?_
        refine gl_iconst hX q_28_51 ci_5 rfl ?_
        refine gl_bipush hX q_28_52 cb_25 rfl ?_
        refine gl_iconst hX q_28_54 ci_0 rfl ?_
        refine gl_iconst hX q_28_55 ci_0 rfl ?_
        obtain ⟨ve7, Se7, are7, e7, h⟩ := o_k3 h
        refine gl_callV hX q_28_56 (qm_196 (by decide)) rfl rfl rfl (qs_0 hr) qx_13 rfl rfl ((rt_13 hX hr hrf) _ _ _ _ _ _ _ _ _ _ _ _ _ _ e7 ?_)
        refine gl_if_eq hX q_28_59 rfl rfl (fun c8 => ?_) (fun c8 => ?_)
        · have h := (if_pos c8).symm.trans h
          refine gl_aload_n hX q_28_64 rfl rfl ?_
          refine gl_bipush hX q_28_65 cb_12 rfl ?_
          refine gl_bipush hX q_28_67 cb_9 rfl ?_
          refine gl_bipush hX q_28_69 cb_22 rfl ?_
          refine gl_iconst hX q_28_71 ci_5 rfl ?_
          refine gl_iconst hX q_28_72 ci_0 rfl ?_
          refine gl_iconst hX q_28_73 ci_0 rfl ?_
          obtain ⟨ve9, Se9, are9, e9, h⟩ := o_k3 h
          refine gl_callV hX q_28_74 (qm_196 (by decide)) rfl rfl rfl (qs_0 hr) qx_13 rfl rfl ((rt_13 hX hr hrf) _ _ _ _ _ _ _ _ _ _ _ _ _ _ e9 ?_)
          refine gl_if_eq hX q_28_77 rfl rfl (fun c10 => ?_) (fun c10 => ?_)
          · have h := (if_pos c10).symm.trans h
            refine gl_aload_n hX q_28_82 rfl rfl ?_
            refine gl_iconst hX q_28_83 ci_3 rfl ?_
            refine gl_bipush hX q_28_84 cb_12 rfl ?_
            refine gl_bipush hX q_28_86 cb_15 rfl ?_
            refine gl_iconst hX q_28_88 ci_3 rfl ?_
            refine gl_bipush hX q_28_89 cb_11 rfl ?_
            refine gl_iconst hX q_28_91 ci_0 rfl ?_
            obtain ⟨ve11, Se11, are11, e11, h⟩ := o_k3 h
            refine gl_callV hX q_28_92 (qm_196 (by decide)) rfl rfl rfl (qs_0 hr) qx_13 rfl rfl ((rt_13 hX hr hrf) _ _ _ _ _ _ _ _ _ _ _ _ _ _ e11 ?_)
            refine gl_if_eq hX q_28_95 rfl rfl (fun c12 => ?_) (fun c12 => ?_)
            · have h := (if_pos c12).symm.trans h
              refine gl_aload_n hX q_28_100 rfl rfl ?_
              refine gl_iconst hX q_28_101 ci_1 rfl ?_
              refine gl_bipush hX q_28_102 cb_19 rfl ?_
              refine gl_bipush hX q_28_104 cb_11 rfl ?_
              refine gl_iconst hX q_28_106 ci_0 rfl ?_
              refine gl_iconst hX q_28_107 ci_0 rfl ?_
              refine gl_iconst hX q_28_108 ci_0 rfl ?_
              obtain ⟨ve13, Se13, are13, e13, h⟩ := o_k3 h
              refine gl_callV hX q_28_109 (qm_196 (by decide)) rfl rfl rfl (qs_0 hr) qx_13 rfl rfl ((rt_13 hX hr hrf) _ _ _ _ _ _ _ _ _ _ _ _ _ _ e13 ?_)
              refine gl_if_eq hX q_28_112 rfl rfl (fun c14 => ?_) (fun c14 => ?_)
              · have h := (if_pos c14).symm.trans h
                refine gl_aload_n hX q_28_118 rfl rfl ?_
                refine gl_bipush hX q_28_119 cb_19 rfl ?_
                refine gl_bipush hX q_28_121 cb_20 rfl ?_
                refine gl_bipush hX q_28_123 cb_15 rfl ?_
                refine gl_bipush hX q_28_125 cb_16 rfl ?_
                refine gl_iconst hX q_28_127 ci_0 rfl ?_
                refine gl_iconst hX q_28_128 ci_0 rfl ?_
                obtain ⟨ve15, Se15, are15, e15, h⟩ := o_k3 h
                refine gl_callV hX q_28_129 (qm_196 (by decide)) rfl rfl rfl (qs_0 hr) qx_13 rfl rfl ((rt_13 hX hr hrf) _ _ _ _ _ _ _ _ _ _ _ _ _ _ e15 ?_)
                refine gl_if_eq hX q_28_132 rfl rfl (fun c16 => ?_) (fun c16 => ?_)
                · have h := (if_pos c16).symm.trans h
                  refine gl_aload_n hX q_28_138 rfl rfl ?_
                  refine gl_bipush hX q_28_139 cb_19 rfl ?_
                  refine gl_iconst hX q_28_141 ci_1 rfl ?_
                  refine gl_bipush hX q_28_142 cb_22 rfl ?_
                  refine gl_iconst hX q_28_144 ci_5 rfl ?_
                  refine gl_iconst hX q_28_145 ci_0 rfl ?_
                  refine gl_iconst hX q_28_146 ci_0 rfl ?_
                  obtain ⟨ve17, Se17, are17, e17, h⟩ := o_k3 h
                  refine gl_callV hX q_28_147 (qm_196 (by decide)) rfl rfl rfl (qs_0 hr) qx_13 rfl rfl ((rt_13 hX hr hrf) _ _ _ _ _ _ _ _ _ _ _ _ _ _ e17 ?_)
                  refine gl_if_eq hX q_28_150 rfl rfl (fun c18 => ?_) (fun c18 => ?_)
                  · have h := (if_pos c18).symm.trans h
                    refine gl_aload_n hX q_28_156 rfl rfl ?_
                    refine gl_bipush hX q_28_157 cb_6 rfl ?_
                    refine gl_iconst hX q_28_159 ci_1 rfl ?_
                    refine gl_bipush hX q_28_160 cb_9 rfl ?_
                    refine gl_bipush hX q_28_162 cb_12 rfl ?_
                    refine gl_iconst hX q_28_164 ci_0 rfl ?_
                    refine gl_iconst hX q_28_165 ci_0 rfl ?_
                    obtain ⟨ve19, Se19, are19, e19, h⟩ := o_k3 h
                    refine gl_callV hX q_28_166 (qm_196 (by decide)) rfl rfl rfl (qs_0 hr) qx_13 rfl rfl ((rt_13 hX hr hrf) _ _ _ _ _ _ _ _ _ _ _ _ _ _ e19 ?_)
                    refine gl_if_eq hX q_28_169 rfl rfl (fun c20 => ?_) (fun c20 => ?_)
                    · have h := (if_pos c20).symm.trans h
                      refine gl_aload_n hX q_28_175 rfl rfl ?_
                      refine gl_bipush hX q_28_176 cb_9 rfl ?_
                      refine gl_bipush hX q_28_178 cb_6 rfl ?_
                      refine gl_iconst hX q_28_180 ci_0 rfl ?_
                      refine gl_iconst hX q_28_181 ci_0 rfl ?_
                      refine gl_iconst hX q_28_182 ci_0 rfl ?_
                      refine gl_iconst hX q_28_183 ci_0 rfl ?_
                      obtain ⟨ve21, Se21, are21, e21, h⟩ := o_k3 h
                      refine gl_callV hX q_28_184 (qm_196 (by decide)) rfl rfl rfl (qs_0 hr) qx_13 rfl rfl ((rt_13 hX hr hrf) _ _ _ _ _ _ _ _ _ _ _ _ _ _ e21 ?_)
                      refine gl_if_eq hX q_28_187 rfl rfl (fun c22 => ?_) (fun c22 => ?_)
                      · have h := (if_pos c22).symm.trans h
                        refine gl_iconst hX q_28_195 ci_m1 rfl ?_
                        exact gl_ireturn q_28_196 (Or.inl qr_28) (by cases h; exact hP)
                      · have h := (if_neg c22).symm.trans h
                        refine gl_bipush hX q_28_190 cb_10 rfl ?_
                        refine gl_goto hX q_28_192 rfl ?_
                        exact gl_ireturn q_28_196 (Or.inl qr_28) (by cases h; exact hP)
                    · have h := (if_neg c20).symm.trans h
                      refine gl_bipush hX q_28_172 cb_9 rfl ?_
                      exact gl_ireturn q_28_174 (Or.inl qr_28) (by cases h; exact hP)
                  · have h := (if_neg c18).symm.trans h
                    refine gl_bipush hX q_28_153 cb_8 rfl ?_
                    exact gl_ireturn q_28_155 (Or.inl qr_28) (by cases h; exact hP)
                · have h := (if_neg c16).symm.trans h
                  refine gl_bipush hX q_28_135 cb_7 rfl ?_
                  exact gl_ireturn q_28_137 (Or.inl qr_28) (by cases h; exact hP)
              · have h := (if_neg c14).symm.trans h
                refine gl_bipush hX q_28_115 cb_6 rfl ?_
                exact gl_ireturn q_28_117 (Or.inl qr_28) (by cases h; exact hP)
            · have h := (if_neg c12).symm.trans h
              refine gl_iconst hX q_28_98 ci_5 rfl ?_
              exact gl_ireturn q_28_99 (Or.inl qr_28) (by cases h; exact hP)
          · have h := (if_neg c10).symm.trans h
            refine gl_iconst hX q_28_80 ci_4 rfl ?_
            exact gl_ireturn q_28_81 (Or.inl qr_28) (by cases h; exact hP)
        · have h := (if_neg c8).symm.trans h
          refine gl_iconst hX q_28_62 ci_3 rfl ?_
          exact gl_ireturn q_28_63 (Or.inl qr_28) (by cases h; exact hP)
      · have h := (if_neg c6).symm.trans h
        refine gl_iconst hX q_28_44 ci_2 rfl ?_
        exact gl_ireturn q_28_45 (Or.inl qr_28) (by cases h; exact hP)
    · have h := (if_neg c4).symm.trans h
      refine gl_iconst hX q_28_27 ci_1 rfl ?_
      exact gl_ireturn q_28_28 (Or.inl qr_28) (by cases h; exact hP)
  · have h := (if_neg c2).symm.trans h
    refine gl_iconst hX q_28_8 ci_0 rfl ?_
    exact gl_ireturn q_28_9 (Or.inl qr_28) (by cases h; exact hP)
/-- ClickOrdersModel.names(II)V -/
def rT_31 (X : jX) (rf : jRf) (F : Int32 → Int32 → (Nat → Int32) → jSc → Option ((Nat → Int32) × jSc)) (e : Nat) : Prop := ∀ (sc : jSc) (al : jAl) (Post : jPo) (x1 : Int32) (x2 : Int32) (S : (Nat → Int32)) (ar : jSc) (S9 : (Nat → Int32)) (ar9 : jSc), F x1 x2 S ar = some (S9, ar9) → Post none (va_up sc 0 S9) rf ar9 al → gW X 31 e 0 (j_av [.ref 0, .int x1, .int x2]) [] (va_up sc 0 S) rf ar al Post
def rF_31 (x1 : Int32) (x2 : Int32) (S : (Nat → Int32)) (ar : jSc) : Option ((Nat → Int32) × jSc) :=
  (if iB x1 53 then some ((upd S 28 ((S 28) ||| ((1 : Int32) <<< (x1 &&& 31)))), (j_u2 ar 13 (iN x1) x2)) else none)
set_option maxHeartbeats 4000000 in
theorem rt_31 {X : jX} (hX : j_LK (g_n X) (g_L X)) (hr : g_rs X = r_sh) {rf : jRf} (hrf : rf 0 = r_rf) {d : Nat} : rT_31 X rf rF_31 (d + 1) := by
  intro sc al Post x1 x2 S ar S9 ar9 h hP
  unfold rF_31 at h
  refine gl_entry (m := 0) rfl ?_
  show gL X 31 (d + 1) 0 [some (.ref 0), some (.int x1), some (.int x2)] [] (va_up sc 0 S) rf ar al Post
  refine gl_aload_n hX q_31_0 rfl rfl ?_
  refine gl_getA hX q_31_1 (qf_42 (by decide)) (qs_0 hr) rfl qk_21 ((congrFun hrf 21).trans qa_21) rfl ?_
  refine gl_iload_n hX q_31_4 rfl rfl ?_
  refine gl_iload_n hX q_31_5 rfl rfl ?_
  obtain ⟨c1, h⟩ := o_ck h
  refine gl_iastore (ar2 := (j_u2 ar 13 (iN x1) x2)) hX q_31_6 (qs_13 hr) c1 rfl rfl ?_
  refine gl_aload_n hX q_31_7 rfl rfl ?_
  refine gl_dup hX q_31_8 rfl rfl ?_
  refine gl_get hX q_31_9 (qf_275 (by decide)) (qs_0 hr) rfl qk_28 rfl rfl ?_
  refine gl_iconst hX q_31_12 ci_1 rfl ?_
  refine gl_iload_n hX q_31_13 rfl rfl ?_
  refine gl_ishl hX q_31_14 rfl ?_
  refine gl_ior hX q_31_15 rfl ?_
  refine gl_put hX q_31_16 (qf_275 (by decide)) (qs_0 hr) rfl qk_28 rfl ru rfl ?_
  exact gl_return q_31_19 qr_31 (by cases h; exact hP)
/-- ClickOrdersModel.things(II)V -/
def rT_32 (X : jX) (rf : jRf) (F : Int32 → Int32 → (Nat → Int32) → jSc → Option ((Nat → Int32) × jSc)) (e : Nat) : Prop := ∀ (sc : jSc) (al : jAl) (Post : jPo) (x1 : Int32) (x2 : Int32) (S : (Nat → Int32)) (ar : jSc) (S9 : (Nat → Int32)) (ar9 : jSc), F x1 x2 S ar = some (S9, ar9) → Post none (va_up sc 0 S9) rf ar9 al → gW X 32 e 0 (j_av [.ref 0, .int x1, .int x2]) [] (va_up sc 0 S) rf ar al Post
def rF_32 (x1 : Int32) (x2 : Int32) (S : (Nat → Int32)) (ar : jSc) : Option ((Nat → Int32) × jSc) :=
  (if x1 = (1 : Int32) then some ((upd S 28 ((S 28) ||| ((1 : Int32) <<< (((8 : Int32) + x2) &&& 31)))), (j_u2 ar 13 8 ((ar 13 8) ||| ((1 : Int32) <<< (x2 &&& 31))))) else (if x1 = (2 : Int32) then some ((upd S 28 ((S 28) ||| ((1 : Int32) <<< (((8 : Int32) + x2) &&& 31)))), (j_u2 ar 13 8 ((ar 13 8) &&& (((1 : Int32) <<< (x2 &&& 31)) ^^^ (-1 : Int32))))) else (if x1 = (3 : Int32) then some ((upd S 28 ((S 28) ||| ((1 : Int32) <<< (((8 : Int32) + x2) &&& 31)))), (j_u2 ar 13 9 ((ar 13 9) ||| ((1 : Int32) <<< (x2 &&& 31))))) else some ((upd S 28 ((S 28) ||| ((1 : Int32) <<< (((8 : Int32) + x2) &&& 31)))), (j_u2 ar 13 9 ((ar 13 9) &&& (((1 : Int32) <<< (x2 &&& 31)) ^^^ (-1 : Int32))))))))
set_option maxHeartbeats 4000000 in
theorem rt_32 {X : jX} (hX : j_LK (g_n X) (g_L X)) (hr : g_rs X = r_sh) {rf : jRf} (hrf : rf 0 = r_rf) {d : Nat} : rT_32 X rf rF_32 (d + 1) := by
  intro sc al Post x1 x2 S ar S9 ar9 h hP
  unfold rF_32 at h
  refine gl_entry (m := 0) rfl ?_
  show gL X 32 (d + 1) 0 [some (.ref 0), some (.int x1), some (.int x2)] [] (va_up sc 0 S) rf ar al Post
  refine gl_aload_n hX q_32_0 rfl rfl ?_
  refine gl_dup hX q_32_1 rfl rfl ?_
  refine gl_get hX q_32_2 (qf_275 (by decide)) (qs_0 hr) rfl qk_28 rfl rfl ?_
  refine gl_iconst hX q_32_5 ci_1 rfl ?_
  refine gl_bipush hX q_32_6 cb_8 rfl ?_
  refine gl_iload_n hX q_32_8 rfl rfl ?_
  refine gl_iadd hX q_32_9 rfl ?_
  refine gl_ishl hX q_32_10 rfl ?_
  refine gl_ior hX q_32_11 rfl ?_
  refine gl_put hX q_32_12 (qf_275 (by decide)) (qs_0 hr) rfl qk_28 rfl ru rfl ?_
  refine gl_iload_n hX q_32_15 rfl rfl ?_
  refine gl_iconst hX q_32_16 ci_1 rfl ?_
  refine gl_ic_ne hX q_32_17 rfl rfl (fun c1 => ?_) (fun c1 => ?_)
  · have h := (if_pos c1).symm.trans h
    refine gl_aload_n hX q_32_20 rfl rfl ?_
    refine gl_getA hX q_32_21 (qf_42 (by decide)) (qs_0 hr) rfl qk_21 ((congrFun hrf 21).trans qa_21) rfl ?_
    refine gl_bipush hX q_32_24 cb_8 rfl ?_
    refine gl_dup2 hX q_32_26 rfl rfl rfl ?_
    refine gl_iaload hX q_32_27 (qs_13 hr) (by decide) rfl rfl ?_
    refine gl_iconst hX q_32_28 ci_1 rfl ?_
    refine gl_iload_n hX q_32_29 rfl rfl ?_
    refine gl_ishl hX q_32_30 rfl ?_
    refine gl_ior hX q_32_31 rfl ?_
    refine gl_iastore (ar2 := (j_u2 ar 13 8 ((ar 13 8) ||| ((1 : Int32) <<< (x2 &&& 31))))) hX q_32_32 (qs_13 hr) (by decide) rfl rfl ?_
    refine gl_goto hX q_32_33 rfl ?_
    exact gl_return q_32_95 qr_32 (by cases h; exact hP)
  · have h := (if_neg c1).symm.trans h
    refine gl_iload_n hX q_32_36 rfl rfl ?_
    refine gl_iconst hX q_32_37 ci_2 rfl ?_
    refine gl_ic_ne hX q_32_38 rfl rfl (fun c2 => ?_) (fun c2 => ?_)
    · have h := (if_pos c2).symm.trans h
      refine gl_aload_n hX q_32_41 rfl rfl ?_
      refine gl_getA hX q_32_42 (qf_42 (by decide)) (qs_0 hr) rfl qk_21 ((congrFun hrf 21).trans qa_21) rfl ?_
      refine gl_bipush hX q_32_45 cb_8 rfl ?_
      refine gl_dup2 hX q_32_47 rfl rfl rfl ?_
      refine gl_iaload hX q_32_48 (qs_13 hr) (by decide) rfl rfl ?_
      refine gl_iconst hX q_32_49 ci_1 rfl ?_
      refine gl_iload_n hX q_32_50 rfl rfl ?_
      refine gl_ishl hX q_32_51 rfl ?_
      refine gl_iconst hX q_32_52 ci_m1 rfl ?_
      refine gl_ixor hX q_32_53 rfl ?_
      refine gl_iand hX q_32_54 rfl ?_
      refine gl_iastore (ar2 := (j_u2 ar 13 8 ((ar 13 8) &&& (((1 : Int32) <<< (x2 &&& 31)) ^^^ (-1 : Int32))))) hX q_32_55 (qs_13 hr) (by decide) rfl rfl ?_
      refine gl_goto hX q_32_56 rfl ?_
      exact gl_return q_32_95 qr_32 (by cases h; exact hP)
    · have h := (if_neg c2).symm.trans h
      refine gl_iload_n hX q_32_59 rfl rfl ?_
      refine gl_iconst hX q_32_60 ci_3 rfl ?_
      refine gl_ic_ne hX q_32_61 rfl rfl (fun c3 => ?_) (fun c3 => ?_)
      · have h := (if_pos c3).symm.trans h
        refine gl_aload_n hX q_32_64 rfl rfl ?_
        refine gl_getA hX q_32_65 (qf_42 (by decide)) (qs_0 hr) rfl qk_21 ((congrFun hrf 21).trans qa_21) rfl ?_
        refine gl_bipush hX q_32_68 cb_9 rfl ?_
        refine gl_dup2 hX q_32_70 rfl rfl rfl ?_
        refine gl_iaload hX q_32_71 (qs_13 hr) (by decide) rfl rfl ?_
        refine gl_iconst hX q_32_72 ci_1 rfl ?_
        refine gl_iload_n hX q_32_73 rfl rfl ?_
        refine gl_ishl hX q_32_74 rfl ?_
        refine gl_ior hX q_32_75 rfl ?_
        refine gl_iastore (ar2 := (j_u2 ar 13 9 ((ar 13 9) ||| ((1 : Int32) <<< (x2 &&& 31))))) hX q_32_76 (qs_13 hr) (by decide) rfl rfl ?_
        refine gl_goto hX q_32_77 rfl ?_
        exact gl_return q_32_95 qr_32 (by cases h; exact hP)
      · have h := (if_neg c3).symm.trans h
        refine gl_aload_n hX q_32_80 rfl rfl ?_
        refine gl_getA hX q_32_81 (qf_42 (by decide)) (qs_0 hr) rfl qk_21 ((congrFun hrf 21).trans qa_21) rfl ?_
        refine gl_bipush hX q_32_84 cb_9 rfl ?_
        refine gl_dup2 hX q_32_86 rfl rfl rfl ?_
        refine gl_iaload hX q_32_87 (qs_13 hr) (by decide) rfl rfl ?_
        refine gl_iconst hX q_32_88 ci_1 rfl ?_
        refine gl_iload_n hX q_32_89 rfl rfl ?_
        refine gl_ishl hX q_32_90 rfl ?_
        refine gl_iconst hX q_32_91 ci_m1 rfl ?_
        refine gl_ixor hX q_32_92 rfl ?_
        refine gl_iand hX q_32_93 rfl ?_
        refine gl_iastore (ar2 := (j_u2 ar 13 9 ((ar 13 9) &&& (((1 : Int32) <<< (x2 &&& 31)) ^^^ (-1 : Int32))))) hX q_32_94 (qs_13 hr) (by decide) rfl rfl ?_
        exact gl_return q_32_95 qr_32 (by cases h; exact hP)
/-- ClickOrdersModel.fails()V -/
def rT_33 (X : jX) (rf : jRf) (F : (Nat → Int32) → jSc → Option ((Nat → Int32) × jSc)) (e : Nat) : Prop := ∀ (sc : jSc) (al : jAl) (Post : jPo) (S : (Nat → Int32)) (ar : jSc) (S9 : (Nat → Int32)) (ar9 : jSc), F S ar = some (S9, ar9) → Post none (va_up sc 0 S9) rf ar9 al → gW X 33 e 0 (j_av [.ref 0]) [] (va_up sc 0 S) rf ar al Post
def rF_33 (S : (Nat → Int32)) (ar : jSc) : Option ((Nat → Int32) × jSc) :=
  some ((upd S 24 (1 : Int32)), (j_u2 ar 13 37 (1 : Int32)))
set_option maxHeartbeats 4000000 in
theorem rt_33 {X : jX} (hX : j_LK (g_n X) (g_L X)) (hr : g_rs X = r_sh) {rf : jRf} (hrf : rf 0 = r_rf) {d : Nat} : rT_33 X rf rF_33 (d + 1) := by
  intro sc al Post  S ar S9 ar9 h hP
  unfold rF_33 at h
  refine gl_entry (m := 0) rfl ?_
  show gL X 33 (d + 1) 0 [some (.ref 0)] [] (va_up sc 0 S) rf ar al Post
  refine gl_aload_n hX q_33_0 rfl rfl ?_
  refine gl_getA hX q_33_1 (qf_42 (by decide)) (qs_0 hr) rfl qk_21 ((congrFun hrf 21).trans qa_21) rfl ?_
  refine gl_bipush hX q_33_4 cb_37 rfl ?_
  refine gl_iconst hX q_33_6 ci_1 rfl ?_
  refine gl_iastore (ar2 := (j_u2 ar 13 37 (1 : Int32))) hX q_33_7 (qs_13 hr) (by decide) rfl rfl ?_
  refine gl_aload_n hX q_33_8 rfl rfl ?_
  refine gl_iconst hX q_33_9 ci_1 rfl ?_
  refine gl_put hX q_33_10 (qf_278 (by decide)) (qs_0 hr) rfl qk_24 rfl ru rfl ?_
  exact gl_return q_33_13 qr_33 (by cases h; exact hP)
/-- ClickOrdersModel.clocks(II)V -/
def rT_34 (X : jX) (rf : jRf) (F : Int32 → Int32 → (Nat → Int32) → jSc → Option ((Nat → Int32) × jSc)) (e : Nat) : Prop := ∀ (sc : jSc) (al : jAl) (Post : jPo) (x1 : Int32) (x2 : Int32) (S : (Nat → Int32)) (ar : jSc) (S9 : (Nat → Int32)) (ar9 : jSc), F x1 x2 S ar = some (S9, ar9) → Post none (va_up sc 0 S9) rf ar9 al → gW X 34 e 0 (j_av [.ref 0, .int x1, .int x2]) [] (va_up sc 0 S) rf ar al Post
def rF_34 (x1 : Int32) (x2 : Int32) (S : (Nat → Int32)) (ar : jSc) : Option ((Nat → Int32) × jSc) :=
  (if (ar 13 26) = (3 : Int32) then (o_b2 (rF_33 S ar) (fun Se2 are2 => some (Se2, are2))) else (if iB ((27 : Int32) + (ar 13 26)) 53 then (if iB ((30 : Int32) + (ar 13 26)) 53 then (if iB ((50 : Int32) + (ar 13 26)) 53 then some (S, (j_u2 (j_u2 (j_u2 (j_u2 ar 13 (iN ((27 : Int32) + (ar 13 26))) x1) 13 (iN ((30 : Int32) + (ar 13 26))) x2) 13 (iN ((50 : Int32) + (ar 13 26))) (S 26)) 13 26 (((j_u2 (j_u2 (j_u2 ar 13 (iN ((27 : Int32) + (ar 13 26))) x1) 13 (iN ((30 : Int32) + (ar 13 26))) x2) 13 (iN ((50 : Int32) + (ar 13 26))) (S 26)) 13 26) + (1 : Int32)))) else none) else none) else none))
set_option maxHeartbeats 4000000 in
theorem rt_34 {X : jX} (hX : j_LK (g_n X) (g_L X)) (hr : g_rs X = r_sh) {rf : jRf} (hrf : rf 0 = r_rf) {d : Nat} : rT_34 X rf rF_34 (d + 2) := by
  intro sc al Post x1 x2 S ar S9 ar9 h hP
  unfold rF_34 at h
  refine gl_entry (m := 1) rfl ?_
  show gL X 34 (d + 2) 0 [some (.ref 0), some (.int x1), some (.int x2), none] [] (va_up sc 0 S) rf ar al Post
  refine gl_aload_n hX q_34_0 rfl rfl ?_
  refine gl_getA hX q_34_1 (qf_42 (by decide)) (qs_0 hr) rfl qk_21 ((congrFun hrf 21).trans qa_21) rfl ?_
  refine gl_bipush hX q_34_4 cb_26 rfl ?_
  refine gl_iaload hX q_34_6 (qs_13 hr) (by decide) rfl rfl ?_
  refine gl_istore_n (vs2 := [some (.ref 0), some (.int x1), some (.int x2), some (.int (ar 13 26))]) hX q_34_7 rfl rfl rfl rfl ?_
  refine gl_iload_n hX q_34_8 rfl rfl ?_
  refine gl_iconst hX q_34_9 ci_3 rfl ?_
  refine gl_ic_ne hX q_34_10 rfl rfl (fun c1 => ?_) (fun c1 => ?_)
  · have h := (if_pos c1).symm.trans h
    refine gl_aload_n hX q_34_13 rfl rfl ?_
    obtain ⟨Se2, are2, e2, h⟩ := o_k2 h
    refine gl_callV hX q_34_14 (qm_269 (by decide)) rfl rfl rfl (qs_0 hr) qx_33 rfl rfl ((rt_33 hX hr hrf) _ _ _  _ _ _ _ e2 ?_)
    exact gl_return q_34_17 qr_34 (by cases h; exact hP)
  · have h := (if_neg c1).symm.trans h
    refine gl_aload_n hX q_34_18 rfl rfl ?_
    refine gl_getA hX q_34_19 (qf_42 (by decide)) (qs_0 hr) rfl qk_21 ((congrFun hrf 21).trans qa_21) rfl ?_
    refine gl_bipush hX q_34_22 cb_27 rfl ?_
    refine gl_iload_n hX q_34_24 rfl rfl ?_
    refine gl_iadd hX q_34_25 rfl ?_
    refine gl_iload_n hX q_34_26 rfl rfl ?_
    obtain ⟨c3, h⟩ := o_ck h
    refine gl_iastore (ar2 := (j_u2 ar 13 (iN ((27 : Int32) + (ar 13 26))) x1)) hX q_34_27 (qs_13 hr) c3 rfl rfl ?_
    refine gl_aload_n hX q_34_28 rfl rfl ?_
    refine gl_getA hX q_34_29 (qf_42 (by decide)) (qs_0 hr) rfl qk_21 ((congrFun hrf 21).trans qa_21) rfl ?_
    refine gl_bipush hX q_34_32 cb_30 rfl ?_
    refine gl_iload_n hX q_34_34 rfl rfl ?_
    refine gl_iadd hX q_34_35 rfl ?_
    refine gl_iload_n hX q_34_36 rfl rfl ?_
    obtain ⟨c4, h⟩ := o_ck h
    refine gl_iastore (ar2 := (j_u2 (j_u2 ar 13 (iN ((27 : Int32) + (ar 13 26))) x1) 13 (iN ((30 : Int32) + (ar 13 26))) x2)) hX q_34_37 (qs_13 hr) c4 rfl rfl ?_
    refine gl_aload_n hX q_34_38 rfl rfl ?_
    refine gl_getA hX q_34_39 (qf_42 (by decide)) (qs_0 hr) rfl qk_21 ((congrFun hrf 21).trans qa_21) rfl ?_
    refine gl_bipush hX q_34_42 cb_50 rfl ?_
    refine gl_iload_n hX q_34_44 rfl rfl ?_
    refine gl_iadd hX q_34_45 rfl ?_
    refine gl_aload_n hX q_34_46 rfl rfl ?_
    refine gl_get hX q_34_47 (qf_281 (by decide)) (qs_0 hr) rfl qk_26 rfl rfl ?_
    obtain ⟨c5, h⟩ := o_ck h
    refine gl_iastore (ar2 := (j_u2 (j_u2 (j_u2 ar 13 (iN ((27 : Int32) + (ar 13 26))) x1) 13 (iN ((30 : Int32) + (ar 13 26))) x2) 13 (iN ((50 : Int32) + (ar 13 26))) (S 26))) hX q_34_50 (qs_13 hr) c5 rfl rfl ?_
    refine gl_aload_n hX q_34_51 rfl rfl ?_
    refine gl_getA hX q_34_52 (qf_42 (by decide)) (qs_0 hr) rfl qk_21 ((congrFun hrf 21).trans qa_21) rfl ?_
    refine gl_bipush hX q_34_55 cb_26 rfl ?_
    refine gl_dup2 hX q_34_57 rfl rfl rfl ?_
    refine gl_iaload hX q_34_58 (qs_13 hr) (by decide) rfl rfl ?_
    refine gl_iconst hX q_34_59 ci_1 rfl ?_
    refine gl_iadd hX q_34_60 rfl ?_
    refine gl_iastore (ar2 := (j_u2 (j_u2 (j_u2 (j_u2 ar 13 (iN ((27 : Int32) + (ar 13 26))) x1) 13 (iN ((30 : Int32) + (ar 13 26))) x2) 13 (iN ((50 : Int32) + (ar 13 26))) (S 26)) 13 26 (((j_u2 (j_u2 (j_u2 ar 13 (iN ((27 : Int32) + (ar 13 26))) x1) 13 (iN ((30 : Int32) + (ar 13 26))) x2) 13 (iN ((50 : Int32) + (ar 13 26))) (S 26)) 13 26) + (1 : Int32)))) hX q_34_61 (qs_13 hr) (by decide) rfl rfl ?_
    exact gl_return q_34_62 qr_34 (by cases h; exact hP)
/-- ClickOrdersModel.isForm(II)Z -/
def rT_35 (X : jX) (rf : jRf) (F : Int32 → Int32 → (Nat → Int32) → jSc → Option (Int32 × (Nat → Int32) × jSc)) (e : Nat) : Prop := ∀ (sc : jSc) (al : jAl) (Post : jPo) (x1 : Int32) (x2 : Int32) (S : (Nat → Int32)) (ar : jSc) (r9 : Int32) (S9 : (Nat → Int32)) (ar9 : jSc), F x1 x2 S ar = some (r9, S9, ar9) → Post (some (.int r9)) (va_up sc 0 S9) rf ar9 al → gW X 35 e 0 (j_av [.ref 0, .int x1, .int x2]) [] (va_up sc 0 S) rf ar al Post
def rF_35_2 : Nat → Int32 → Int32 → Int32 → (Nat → Int32) → jSc → Option (Int32 × (Nat → Int32) × jSc)
  | 0, _, _, _, _, _ => none
  | nn + 1, x1, x2, x3, S, ar => (if (S 38) ≤ x3 then some ((0 : Int32), S, ar) else (if iB x3 6 then (if (ar 106 (iN x3)) = 0 then rF_35_2 nn x1 x2 (x3 + (1 : Int32)) S ar else (if iB x3 6 then (if (ar 102 (iN x3)) = x1 then (if iB x3 6 then (if (ar 104 (iN x3)) = x2 then some ((1 : Int32), S, ar) else rF_35_2 nn x1 x2 (x3 + (1 : Int32)) S ar) else none) else rF_35_2 nn x1 x2 (x3 + (1 : Int32)) S ar) else none)) else none))
set_option maxHeartbeats 4000000 in
theorem rt_35_2 {X : jX} (hX : j_LK (g_n X) (g_L X)) (hr : g_rs X = r_sh) {rf : jRf} (hrf : rf 0 = r_rf) {d : Nat} {sc : jSc} {al : jAl} {Post : jPo} {r9 : Int32} {S9 : (Nat → Int32)} {ar9 : jSc} (hP : Post (some (.int r9)) (va_up sc 0 S9) rf ar9 al) : ∀ (nn : Nat) (x1 : Int32) (x2 : Int32) (x3 : Int32) (S : (Nat → Int32)) (ar : jSc), rF_35_2 nn x1 x2 x3 S ar = some (r9, S9, ar9) → gL X 35 (d + 1) 2 [some (.ref 0), some (.int x1), some (.int x2), some (.int x3)] [] (va_up sc 0 S) rf ar al Post := by
  intro nn
  induction nn with
  | zero =>
    intro x1 x2 x3 S ar h
    have h : (none : Option (Int32 × (Nat → Int32) × jSc)) = some _ := h
    cases h
  | succ nn ih =>
    intro x1 x2 x3 S ar h
    unfold rF_35_2 at h
    refine gl_iload_n hX q_35_2 rfl rfl ?_
    refine gl_aload_n hX q_35_3 rfl rfl ?_
    refine gl_get hX q_35_4 (qf_284 (by decide)) (qs_0 hr) rfl qk_38 rfl rfl ?_
    refine gl_ic_ge hX q_35_7 rfl rfl (fun c1 => ?_) (fun c1 => ?_)
    · have h := (if_pos c1).symm.trans h
      refine gl_iconst hX q_35_47 ci_0 rfl ?_
      exact gl_ireturn q_35_48 (Or.inr ⟨qr_35, Or.inl rfl⟩) (by cases h; exact hP)
    · have h := (if_neg c1).symm.trans h
      refine gl_aload_n hX q_35_10 rfl rfl ?_
      refine gl_getA hX q_35_11 (qf_83 (by decide)) (qs_0 hr) rfl qk_43 ((congrFun hrf 43).trans qa_43) rfl ?_
      refine gl_iload_n hX q_35_14 rfl rfl ?_
      obtain ⟨c2, h⟩ := o_ck h
      refine gl_baload hX q_35_15 (qs_106 hr) c2 rfl rfl ?_
      refine gl_if_eq hX q_35_16 rfl rfl (fun c3 => ?_) (fun c3 => ?_)
      · have h := (if_pos c3).symm.trans h
        refine gl_iinc (vs2 := [some (.ref 0), some (.int x1), some (.int x2), some (.int (x3 + (1 : Int32)))]) hX q_35_41 rfl rfl rfl ci_1 rfl rfl ?_
        refine gl_goto hX q_35_44 rfl ?_
        exact gl_weak (vs := [some (.ref 0), some (.int x1), some (.int x2), some (.int (x3 + (1 : Int32)))]) ⟨rfl, rfl, rfl, rfl, trivial⟩ (ih x1 x2 (x3 + (1 : Int32)) S ar h)
      · have h := (if_neg c3).symm.trans h
        refine gl_aload_n hX q_35_19 rfl rfl ?_
        refine gl_getA hX q_35_20 (qf_71 (by decide)) (qs_0 hr) rfl qk_39 ((congrFun hrf 39).trans qa_39) rfl ?_
        refine gl_iload_n hX q_35_23 rfl rfl ?_
        obtain ⟨c4, h⟩ := o_ck h
        refine gl_iaload hX q_35_24 (qs_102 hr) c4 rfl rfl ?_
        refine gl_iload_n hX q_35_25 rfl rfl ?_
        refine gl_ic_ne hX q_35_26 rfl rfl (fun c5 => ?_) (fun c5 => ?_)
        · have h := (if_pos c5).symm.trans h
          refine gl_aload_n hX q_35_29 rfl rfl ?_
          refine gl_getA hX q_35_30 (qf_77 (by decide)) (qs_0 hr) rfl qk_41 ((congrFun hrf 41).trans qa_41) rfl ?_
          refine gl_iload_n hX q_35_33 rfl rfl ?_
          obtain ⟨c6, h⟩ := o_ck h
          refine gl_iaload hX q_35_34 (qs_104 hr) c6 rfl rfl ?_
          refine gl_iload_n hX q_35_35 rfl rfl ?_
          refine gl_ic_ne hX q_35_36 rfl rfl (fun c7 => ?_) (fun c7 => ?_)
          · have h := (if_pos c7).symm.trans h
            refine gl_iconst hX q_35_39 ci_1 rfl ?_
            exact gl_ireturn q_35_40 (Or.inr ⟨qr_35, Or.inr rfl⟩) (by cases h; exact hP)
          · have h := (if_neg c7).symm.trans h
            refine gl_iinc (vs2 := [some (.ref 0), some (.int x1), some (.int x2), some (.int (x3 + (1 : Int32)))]) hX q_35_41 rfl rfl rfl ci_1 rfl rfl ?_
            refine gl_goto hX q_35_44 rfl ?_
            exact gl_weak (vs := [some (.ref 0), some (.int x1), some (.int x2), some (.int (x3 + (1 : Int32)))]) ⟨rfl, rfl, rfl, rfl, trivial⟩ (ih x1 x2 (x3 + (1 : Int32)) S ar h)
        · have h := (if_neg c5).symm.trans h
          refine gl_iinc (vs2 := [some (.ref 0), some (.int x1), some (.int x2), some (.int (x3 + (1 : Int32)))]) hX q_35_41 rfl rfl rfl ci_1 rfl rfl ?_
          refine gl_goto hX q_35_44 rfl ?_
          exact gl_weak (vs := [some (.ref 0), some (.int x1), some (.int x2), some (.int (x3 + (1 : Int32)))]) ⟨rfl, rfl, rfl, rfl, trivial⟩ (ih x1 x2 (x3 + (1 : Int32)) S ar h)
def rF_35 (x1 : Int32) (x2 : Int32) (S : (Nat → Int32)) (ar : jSc) : Option (Int32 × (Nat → Int32) × jSc) :=
  rF_35_2 oF x1 x2 (0 : Int32) S ar
set_option maxHeartbeats 4000000 in
theorem rt_35 {X : jX} (hX : j_LK (g_n X) (g_L X)) (hr : g_rs X = r_sh) {rf : jRf} (hrf : rf 0 = r_rf) {d : Nat} : rT_35 X rf rF_35 (d + 1) := by
  intro sc al Post x1 x2 S ar r9 S9 ar9 h hP
  unfold rF_35 at h
  refine gl_entry (m := 1) rfl ?_
  show gL X 35 (d + 1) 0 [some (.ref 0), some (.int x1), some (.int x2), none] [] (va_up sc 0 S) rf ar al Post
  refine gl_iconst hX q_35_0 ci_0 rfl ?_
  refine gl_istore_n (vs2 := [some (.ref 0), some (.int x1), some (.int x2), some (.int (0 : Int32))]) hX q_35_1 rfl rfl rfl rfl ?_
  exact gl_weak (vs := [some (.ref 0), some (.int x1), some (.int x2), some (.int (0 : Int32))]) ⟨rfl, rfl, rfl, rfl, trivial⟩ (rt_35_2 hX hr hrf hP oF x1 x2 (0 : Int32) S ar h)
