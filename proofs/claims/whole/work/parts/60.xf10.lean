/-! ClickOrders: its methods as functions, and that the machine does what they say. -/
/-- ClickOrders$Search.goes(IIZ)V -/
def xT_285 (b : Bool) (rf : jRf) (F : Int32 → Int32 → Int32 → jSc → (Nat → Nat) → jSc → jAl → Option (jSc × (Nat → Nat) × jSc × jAl)) (e : Nat) : Prop := ∀  (Post : jPo) (x1 : Int32) (x2 : Int32) (x3 : Int32) (sc : jSc) (mr : (Nat → Nat)) (ar : jSc) (al : jAl) (sc9 : jSc) (mr9 : (Nat → Nat)) (ar9 : jSc) (al9 : jAl), F x1 x2 x3 sc mr ar al = some (sc9, mr9, ar9, al9) → Post none sc9 (x_mk mr9 rf) ar9 al9 → gW (gX b) 285 e 0 (j_av [.ref 773, .int x1, .int x2, .int x3]) [] sc (x_mk mr rf) ar al Post
def xF_285_176 (k132 : Int32 → Int32 → Int32 → Int32 → jSc → (Nat → Nat) → jSc → jAl → Option (jSc × (Nat → Nat) × jSc × jAl)) (x1 : Int32) (x6 : Int32) (x7 : Int32) (sc : jSc) (mr : (Nat → Nat)) (ar : jSc) (al : jAl) : Option (jSc × (Nat → Nat) × jSc × jAl) :=
  (o_b5 (xF_291 sc mr ar al) (fun ve1 sce1 mre1 are1 ale1 => (if ve1 = 0 then k132 x1 x6 (sce1 774 0) (x7 + (1 : Int32)) sce1 mre1 are1 ale1 else k132 x1 x6 x6 (x7 + (1 : Int32)) sce1 mre1 are1 ale1)))
set_option maxHeartbeats 4000000 in
theorem xt_285_176 {b : Bool} {rf : jRf} {d : Nat} {Post : jPo} {sc9 : jSc} {mr9 : (Nat → Nat)} {ar9 : jSc} {al9 : jAl} {k132 : Int32 → Int32 → Int32 → Int32 → jSc → (Nat → Nat) → jSc → jAl → Option (jSc × (Nat → Nat) × jSc × jAl)} (hk132 : ∀ (x1 : Int32) (x5 : Int32) (x6 : Int32) (x7 : Int32) (sc : jSc) (mr : (Nat → Nat)) (ar : jSc) (al : jAl), k132 x1 x5 x6 x7 sc mr ar al = some (sc9, mr9, ar9, al9) → gL (gX b) 285 (d + 6) 132 [some (.ref 773), some (.int x1), none, none, none, some (.int x5), some (.int x6), some (.int x7), none] [] sc (x_mk mr rf) ar al Post) (hP : Post none sc9 (x_mk mr9 rf) ar9 al9) (x1 : Int32) (x6 : Int32) (x7 : Int32) (sc : jSc) (mr : (Nat → Nat)) (ar : jSc) (al : jAl) (h : xF_285_176 k132 x1 x6 x7 sc mr ar al = some (sc9, mr9, ar9, al9)) : gL (gX b) 285 (d + 6) 176 [some (.ref 773), some (.int x1), none, none, none, none, some (.int x6), some (.int x7), none] [] sc (x_mk mr rf) ar al Post := by
  unfold xF_285_176 at h
  refine gl_iload (gX_LK b) y_285_176 rfl rfl ?_
  refine gl_istore (vs2 := [some (.ref 773), some (.int x1), none, none, none, some (.int x6), some (.int x6), some (.int x7), none]) (gX_LK b) y_285_178 rfl rfl rfl rfl ?_
  refine gl_aload_n (gX_LK b) y_285_180 rfl rfl ?_
  obtain ⟨ve1, sce1, mre1, are1, ale1, e1, h⟩ := o_k5 h
  refine gl_callV (gX_LK b) y_285_181 ym_285_111 rfl rfl rfl ys_773 yx_291 rfl rfl ((xt_291 )  _  _ _ _ _ _ _ _ _ _ e1 ?_)
  refine gl_if_eq (gX_LK b) y_285_184 rfl rfl (fun c2 => ?_) (fun c2 => ?_)
  · have h := (if_pos c2).symm.trans h
    refine gl_aload_n (gX_LK b) y_285_192 rfl rfl ?_
    refine gl_getA (gX_LK b) y_285_193 yf_285_22 ys_773 rfl rfl rfl rfl ?_
    refine gl_get (gX_LK b) y_285_196 yf_285_108 ys_774 rfl rfl rfl rfl ?_
    refine gl_istore (vs2 := [some (.ref 773), some (.int x1), none, none, none, some (.int x6), some (.int (sce1 774 0)), some (.int x7), none]) (gX_LK b) y_285_199 rfl rfl rfl rfl ?_
    refine gl_iinc (vs2 := [some (.ref 773), some (.int x1), none, none, none, some (.int x6), some (.int (sce1 774 0)), some (.int (x7 + (1 : Int32))), none]) (gX_LK b) y_285_201 rfl rfl rfl ci_1 rfl rfl ?_
    refine gl_goto (gX_LK b) y_285_204 rfl ?_
    exact gl_weak (vs := [some (.ref 773), some (.int x1), none, none, none, some (.int x6), some (.int (sce1 774 0)), some (.int (x7 + (1 : Int32))), none]) ⟨rfl, rfl, rfl, rfl, rfl, trivial⟩ (hk132 x1 x6 (sce1 774 0) (x7 + (1 : Int32)) sce1 mre1 are1 ale1 h)
  · have h := (if_neg c2).symm.trans h
    refine gl_iload (gX_LK b) y_285_187 rfl rfl ?_
    refine gl_goto (gX_LK b) y_285_189 rfl ?_
    refine gl_istore (vs2 := [some (.ref 773), some (.int x1), none, none, none, some (.int x6), some (.int x6), some (.int x7), none]) (gX_LK b) y_285_199 rfl rfl rfl rfl ?_
    refine gl_iinc (vs2 := [some (.ref 773), some (.int x1), none, none, none, some (.int x6), some (.int x6), some (.int (x7 + (1 : Int32))), none]) (gX_LK b) y_285_201 rfl rfl rfl ci_1 rfl rfl ?_
    refine gl_goto (gX_LK b) y_285_204 rfl ?_
    exact gl_weak (vs := [some (.ref 773), some (.int x1), none, none, none, some (.int x6), some (.int x6), some (.int (x7 + (1 : Int32))), none]) ⟨rfl, rfl, rfl, rfl, rfl, trivial⟩ (hk132 x1 x6 x6 (x7 + (1 : Int32)) sce1 mre1 are1 ale1 h)
def xF_285_149 (k132 : Int32 → Int32 → Int32 → Int32 → jSc → (Nat → Nat) → jSc → jAl → Option (jSc × (Nat → Nat) × jSc × jAl)) : Nat → Int32 → Int32 → Int32 → Int32 → jSc → (Nat → Nat) → jSc → jAl → Option (jSc × (Nat → Nat) × jSc × jAl)
  | 0, _, _, _, _, _, _, _, _ => none
  | nn + 1, x1, x6, x7, x8, sc, mr, ar, al => (if x6 ≤ x8 then xF_285_176 k132 x1 x6 x7 sc mr ar al else (o_b5 (xF_291 sc mr ar al) (fun ve4 sce4 mre4 are4 ale4 => (if ve4 = 0 then (o_b4 (xF_293 x8 (0 : Int32) sce4 mre4 are4 ale4) (fun sce6 mre6 are6 ale6 => xF_285_149 k132 nn x1 x6 x7 (x8 + (1 : Int32)) sce6 mre6 are6 ale6)) else xF_285_176 k132 x1 x6 x7 sce4 mre4 are4 ale4))))
set_option maxHeartbeats 4000000 in
theorem xt_285_149 {b : Bool} {rf : jRf} {d : Nat} {Post : jPo} {sc9 : jSc} {mr9 : (Nat → Nat)} {ar9 : jSc} {al9 : jAl} {k132 : Int32 → Int32 → Int32 → Int32 → jSc → (Nat → Nat) → jSc → jAl → Option (jSc × (Nat → Nat) × jSc × jAl)} (hk132 : ∀ (x1 : Int32) (x5 : Int32) (x6 : Int32) (x7 : Int32) (sc : jSc) (mr : (Nat → Nat)) (ar : jSc) (al : jAl), k132 x1 x5 x6 x7 sc mr ar al = some (sc9, mr9, ar9, al9) → gL (gX b) 285 (d + 6) 132 [some (.ref 773), some (.int x1), none, none, none, some (.int x5), some (.int x6), some (.int x7), none] [] sc (x_mk mr rf) ar al Post) (hP : Post none sc9 (x_mk mr9 rf) ar9 al9) : ∀ (nn : Nat) (x1 : Int32) (x6 : Int32) (x7 : Int32) (x8 : Int32) (sc : jSc) (mr : (Nat → Nat)) (ar : jSc) (al : jAl), xF_285_149 k132 nn x1 x6 x7 x8 sc mr ar al = some (sc9, mr9, ar9, al9) → gL (gX b) 285 (d + 6) 149 [some (.ref 773), some (.int x1), none, none, none, none, some (.int x6), some (.int x7), some (.int x8)] [] sc (x_mk mr rf) ar al Post := by
  intro nn
  induction nn with
  | zero =>
    intro x1 x6 x7 x8 sc mr ar al h
    have h : (none : Option (jSc × (Nat → Nat) × jSc × jAl)) = some _ := h
    cases h
  | succ nn ih =>
    intro x1 x6 x7 x8 sc mr ar al h
    unfold xF_285_149 at h
    refine gl_iload (gX_LK b) y_285_149 rfl rfl ?_
    refine gl_iload (gX_LK b) y_285_151 rfl rfl ?_
    refine gl_ic_ge (gX_LK b) y_285_153 rfl rfl (fun c3 => ?_) (fun c3 => ?_)
    · have h := (if_pos c3).symm.trans h
      exact gl_weak (vs := [some (.ref 773), some (.int x1), none, none, none, none, some (.int x6), some (.int x7), none]) ⟨rfl, rfl, rfl, rfl, trivial⟩ (xt_285_176  hk132 hP x1 x6 x7 sc mr ar al h)
    · have h := (if_neg c3).symm.trans h
      refine gl_aload_n (gX_LK b) y_285_156 rfl rfl ?_
      obtain ⟨ve4, sce4, mre4, are4, ale4, e4, h⟩ := o_k5 h
      refine gl_callV (gX_LK b) y_285_157 ym_285_111 rfl rfl rfl ys_773 yx_291 rfl rfl ((xt_291 )  _  _ _ _ _ _ _ _ _ _ e4 ?_)
      refine gl_if_ne (gX_LK b) y_285_160 rfl rfl (fun c5 => ?_) (fun c5 => ?_)
      · have h := (if_pos c5).symm.trans h
        refine gl_aload_n (gX_LK b) y_285_163 rfl rfl ?_
        refine gl_iload (gX_LK b) y_285_164 rfl rfl ?_
        refine gl_iconst (gX_LK b) y_285_166 ci_0 rfl ?_
        obtain ⟨sce6, mre6, are6, ale6, e6, h⟩ := o_k4 h
        refine gl_callV (gX_LK b) y_285_167 ym_285_115 rfl rfl rfl ys_773 yx_293 rfl rfl ((xt_293 )  _ _ _ _ _ _ _ _ _ _ _ e6 ?_)
        refine gl_iinc (vs2 := [some (.ref 773), some (.int x1), none, none, none, none, some (.int x6), some (.int x7), some (.int (x8 + (1 : Int32)))]) (gX_LK b) y_285_170 rfl rfl rfl ci_1 rfl rfl ?_
        refine gl_goto (gX_LK b) y_285_173 rfl ?_
        exact gl_weak (vs := [some (.ref 773), some (.int x1), none, none, none, none, some (.int x6), some (.int x7), some (.int (x8 + (1 : Int32)))]) ⟨rfl, rfl, rfl, rfl, rfl, trivial⟩ (ih x1 x6 x7 (x8 + (1 : Int32)) sce6 mre6 are6 ale6 h)
      · have h := (if_neg c5).symm.trans h
        exact gl_weak (vs := [some (.ref 773), some (.int x1), none, none, none, none, some (.int x6), some (.int x7), none]) ⟨rfl, rfl, rfl, rfl, trivial⟩ (xt_285_176  hk132 hP x1 x6 x7 sce4 mre4 are4 ale4 h)
def xF_285_132 : Nat → Int32 → Int32 → Int32 → Int32 → jSc → (Nat → Nat) → jSc → jAl → Option (jSc × (Nat → Nat) × jSc × jAl)
  | 0, _, _, _, _, _, _, _, _ => none
  | nn + 1, x1, x5, x6, x7, sc, mr, ar, al => (if x1 ≤ x7 then some ((j_u2 sc 773 0 (sc 774 0)), mr, ar, al) else (if x6 ≤ x5 then some ((j_u2 sc 773 0 (sc 774 0)), mr, ar, al) else xF_285_149 (fun x1_ x5_ x6_ x7_ sc_ mr_ ar_ al_ => xF_285_132 nn x1_ x5_ x6_ x7_ sc_ mr_ ar_ al_) oF x1 x6 x7 x5 sc mr ar al))
set_option maxHeartbeats 4000000 in
theorem xt_285_132 {b : Bool} {rf : jRf} {d : Nat} {Post : jPo} {sc9 : jSc} {mr9 : (Nat → Nat)} {ar9 : jSc} {al9 : jAl} (hP : Post none sc9 (x_mk mr9 rf) ar9 al9) : ∀ (nn : Nat) (x1 : Int32) (x5 : Int32) (x6 : Int32) (x7 : Int32) (sc : jSc) (mr : (Nat → Nat)) (ar : jSc) (al : jAl), xF_285_132 nn x1 x5 x6 x7 sc mr ar al = some (sc9, mr9, ar9, al9) → gL (gX b) 285 (d + 6) 132 [some (.ref 773), some (.int x1), none, none, none, some (.int x5), some (.int x6), some (.int x7), none] [] sc (x_mk mr rf) ar al Post := by
  intro nn
  induction nn with
  | zero =>
    intro x1 x5 x6 x7 sc mr ar al h
    have h : (none : Option (jSc × (Nat → Nat) × jSc × jAl)) = some _ := h
    cases h
  | succ nn ih =>
    intro x1 x5 x6 x7 sc mr ar al h
    unfold xF_285_132 at h
    refine gl_iload (gX_LK b) y_285_132 rfl rfl ?_
    refine gl_iload_n (gX_LK b) y_285_134 rfl rfl ?_
    refine gl_ic_ge (gX_LK b) y_285_135 rfl rfl (fun c7 => ?_) (fun c7 => ?_)
    · have h := (if_pos c7).symm.trans h
      refine gl_aload_n (gX_LK b) y_285_207 rfl rfl ?_
      refine gl_aload_n (gX_LK b) y_285_208 rfl rfl ?_
      refine gl_getA (gX_LK b) y_285_209 yf_285_22 ys_773 rfl rfl rfl rfl ?_
      refine gl_get (gX_LK b) y_285_212 yf_285_108 ys_774 rfl rfl rfl rfl ?_
      refine gl_put (sc' := (j_u2 sc 773 0 (sc 774 0))) (gX_LK b) y_285_215 yf_285_9 ys_773 rfl rfl rfl rfl rfl ?_
      exact gl_return y_285_218 yt_285 (by cases h; exact hP)
    · have h := (if_neg c7).symm.trans h
      refine gl_iload (gX_LK b) y_285_138 rfl rfl ?_
      refine gl_iload (gX_LK b) y_285_140 rfl rfl ?_
      refine gl_ic_ge (gX_LK b) y_285_142 rfl rfl (fun c8 => ?_) (fun c8 => ?_)
      · have h := (if_pos c8).symm.trans h
        refine gl_aload_n (gX_LK b) y_285_207 rfl rfl ?_
        refine gl_aload_n (gX_LK b) y_285_208 rfl rfl ?_
        refine gl_getA (gX_LK b) y_285_209 yf_285_22 ys_773 rfl rfl rfl rfl ?_
        refine gl_get (gX_LK b) y_285_212 yf_285_108 ys_774 rfl rfl rfl rfl ?_
        refine gl_put (sc' := (j_u2 sc 773 0 (sc 774 0))) (gX_LK b) y_285_215 yf_285_9 ys_773 rfl rfl rfl rfl rfl ?_
        exact gl_return y_285_218 yt_285 (by cases h; exact hP)
      · have h := (if_neg c8).symm.trans h
        refine gl_iload (gX_LK b) y_285_145 rfl rfl ?_
        refine gl_istore (vs2 := [some (.ref 773), some (.int x1), none, none, none, some (.int x5), some (.int x6), some (.int x7), some (.int x5)]) (gX_LK b) y_285_147 rfl rfl rfl rfl ?_
        exact gl_weak (vs := [some (.ref 773), some (.int x1), none, none, none, none, some (.int x6), some (.int x7), some (.int x5)]) ⟨rfl, rfl, rfl, rfl, rfl, trivial⟩ (xt_285_149  ih hP oF x1 x6 x7 x5 sc mr ar al h)
def xF_285_30 (x1 : Int32) (x2 : Int32) (x3 : Int32) (x4 : Int32) (sc : jSc) (mr : (Nat → Nat)) (ar : jSc) (al : jAl) : Option (jSc × (Nat → Nat) × jSc × jAl) :=
  (if x3 = 0 ∨ x3 = 1 then (o_b4 (xF_219 (j_u2 (j_u2 (j_u2 (j_u2 sc 773 16 x4) 773 15 x3) 773 14 (if (600 : Int32) < x2 then (600 : Int32) else x2)) 773 1 (0 : Int32)) mr ar al) (fun sce10 mre10 are10 ale10 => (o_b4 (xF_207 780 sce10 mre10 are10 ale10) (fun sce11 mre11 are11 ale11 => (o_b5 (xF_220 780 sce11 mre11 are11 ale11) (fun ve12 sce12 mre12 are12 ale12 => (o_b5 (xF_294 (-1 : Int32) (-1 : Int32) sce12 mre12 are12 ale12) (fun ve13 sce13 mre13 are13 ale13 => (o_b5 (xF_210 780 sce13 mre13 are13 ale13) (fun ve14 sce14 mre14 are14 ale14 => (if ve14 = 0 then xF_285_132 oF x1 (0 : Int32) (sce14 774 0) (0 : Int32) (j_u2 sce14 773 13 (-1 : Int32)) mre14 are14 ale14 else xF_285_132 oF x1 (0 : Int32) (sce14 774 0) (0 : Int32) (j_u2 sce14 773 13 (0 : Int32)) mre14 are14 ale14))))))))))) else none)
set_option maxHeartbeats 4000000 in
theorem xt_285_30 {b : Bool} {rf : jRf} {d : Nat} {Post : jPo} {sc9 : jSc} {mr9 : (Nat → Nat)} {ar9 : jSc} {al9 : jAl} (hP : Post none sc9 (x_mk mr9 rf) ar9 al9) (x1 : Int32) (x2 : Int32) (x3 : Int32) (x4 : Int32) (sc : jSc) (mr : (Nat → Nat)) (ar : jSc) (al : jAl) (h : xF_285_30 x1 x2 x3 x4 sc mr ar al = some (sc9, mr9, ar9, al9)) : gL (gX b) 285 (d + 6) 30 [some (.ref 773), some (.int x1), some (.int x2), some (.int x3), some (.int x4), none, none, none, none] [] sc (x_mk mr rf) ar al Post := by
  unfold xF_285_30 at h
  refine gl_aload_n (gX_LK b) y_285_30 rfl rfl ?_
  refine gl_iload (gX_LK b) y_285_31 rfl rfl ?_
  refine gl_put (sc' := (j_u2 sc 773 16 x4)) (gX_LK b) y_285_33 yf_285_69 ys_773 rfl rfl rfl rfl rfl ?_
  refine gl_aload_n (gX_LK b) y_285_36 rfl rfl ?_
  refine gl_iload_n (gX_LK b) y_285_37 rfl rfl ?_
  obtain ⟨c9, h⟩ := o_ck h
  refine gl_put (sc' := (j_u2 (j_u2 sc 773 16 x4) 773 15 x3)) (gX_LK b) y_285_38 yf_285_66 ys_773 rfl rfl (Eq.mpr wp_1 c9) rfl rfl ?_
  refine gl_aload_n (gX_LK b) y_285_41 rfl rfl ?_
  refine gl_iload_n (gX_LK b) y_285_42 rfl rfl ?_
  refine gl_sipush (gX_LK b) y_285_43 cs_600 rfl ?_
  refine gl_min (gX_LK b) y_285_46 yn_285_82 yz_285_82 rfl rfl ?_
  refine gl_put (sc' := (j_u2 (j_u2 (j_u2 sc 773 16 x4) 773 15 x3) 773 14 (if (600 : Int32) < x2 then (600 : Int32) else x2))) (gX_LK b) y_285_49 yf_285_63 ys_773 rfl rfl rfl rfl rfl ?_
  refine gl_aload_n (gX_LK b) y_285_52 rfl rfl ?_
  refine gl_iconst (gX_LK b) y_285_53 ci_0 rfl ?_
  refine gl_put (sc' := (j_u2 (j_u2 (j_u2 (j_u2 sc 773 16 x4) 773 15 x3) 773 14 (if (600 : Int32) < x2 then (600 : Int32) else x2)) 773 1 (0 : Int32))) (gX_LK b) y_285_54 yf_285_15 ys_773 rfl rfl rfl rfl rfl ?_
  refine gl_aload_n (gX_LK b) y_285_57 rfl rfl ?_
  refine gl_getA (gX_LK b) y_285_58 yf_285_22 ys_773 rfl rfl rfl rfl ?_
  obtain ⟨sce10, mre10, are10, ale10, e10, h⟩ := o_k4 h
  refine gl_callV (gX_LK b) y_285_61 ym_285_88 rfl rfl rfl ys_774 yx_219 rfl rfl ((xt_219 )  _  _ _ _ _ _ _ _ _ e10 ?_)
  refine gl_aload_n (gX_LK b) y_285_64 rfl rfl ?_
  refine gl_getA (gX_LK b) y_285_65 yf_285_78 ys_773 rfl rfl rfl rfl ?_
  refine gl_aload_n (gX_LK b) y_285_68 rfl rfl ?_
  refine gl_getA (gX_LK b) y_285_69 yf_285_33 ys_773 rfl rfl rfl rfl ?_
  obtain ⟨sce11, mre11, are11, ale11, e11, h⟩ := o_k4 h
  refine gl_callV (gX_LK b) y_285_72 ym_285_91 rfl rfl rfl ys_757 yx_207 rfl rfl ((xt_207 )  _ _ (show x_pg 780 = true from rfl) _ _ _ _ _ _ _ _ e11 ?_)
  refine gl_aload_n (gX_LK b) y_285_75 rfl rfl ?_
  refine gl_getA (gX_LK b) y_285_76 yf_285_22 ys_773 rfl rfl rfl rfl ?_
  refine gl_aload_n (gX_LK b) y_285_79 rfl rfl ?_
  refine gl_getA (gX_LK b) y_285_80 yf_285_33 ys_773 rfl rfl rfl rfl ?_
  obtain ⟨ve12, sce12, mre12, are12, ale12, e12, h⟩ := o_k5 h
  refine gl_callV (gX_LK b) y_285_83 ym_285_97 rfl rfl rfl ys_774 yx_220 rfl rfl ((xt_220 )  _ _ (show x_pg 780 = true from rfl) _ _ _ _ _ _ _ _ _ e12 ?_)
  refine gl_pop (gX_LK b) y_285_86 rfl rfl ?_
  refine gl_aload_n (gX_LK b) y_285_87 rfl rfl ?_
  refine gl_iconst (gX_LK b) y_285_88 ci_m1 rfl ?_
  refine gl_iconst (gX_LK b) y_285_89 ci_m1 rfl ?_
  obtain ⟨ve13, sce13, mre13, are13, ale13, e13, h⟩ := o_k5 h
  refine gl_callV (gX_LK b) y_285_90 ym_285_101 rfl rfl rfl ys_773 yx_294 rfl rfl ((xt_294 )  _ _ _ _ _ _ _ _ _ _ _ _ e13 ?_)
  refine gl_pop (gX_LK b) y_285_93 rfl rfl ?_
  refine gl_aload_n (gX_LK b) y_285_94 rfl rfl ?_
  refine gl_aload_n (gX_LK b) y_285_95 rfl rfl ?_
  refine gl_getA (gX_LK b) y_285_96 yf_285_78 ys_773 rfl rfl rfl rfl ?_
  refine gl_aload_n (gX_LK b) y_285_99 rfl rfl ?_
  refine gl_getA (gX_LK b) y_285_100 yf_285_33 ys_773 rfl rfl rfl rfl ?_
  obtain ⟨ve14, sce14, mre14, are14, ale14, e14, h⟩ := o_k5 h
  refine gl_callV (gX_LK b) y_285_103 ym_285_104 rfl rfl rfl ys_757 yx_210 rfl rfl ((xt_210 )  _ _ (show x_pg 780 = true from rfl) _ _ _ _ _ _ _ _ _ e14 ?_)
  refine gl_if_eq (gX_LK b) y_285_106 rfl rfl (fun c15 => ?_) (fun c15 => ?_)
  · have h := (if_pos c15).symm.trans h
    refine gl_iconst (gX_LK b) y_285_113 ci_m1 rfl ?_
    refine gl_put (sc' := (j_u2 sce14 773 13 (-1 : Int32))) (gX_LK b) y_285_114 yf_285_60 ys_773 rfl rfl rfl rfl rfl ?_
    refine gl_iconst (gX_LK b) y_285_117 ci_0 rfl ?_
    refine gl_istore (vs2 := [some (.ref 773), some (.int x1), some (.int x2), some (.int x3), some (.int x4), some (.int (0 : Int32)), none, none, none]) (gX_LK b) y_285_118 rfl rfl rfl rfl ?_
    refine gl_aload_n (gX_LK b) y_285_120 rfl rfl ?_
    refine gl_getA (gX_LK b) y_285_121 yf_285_22 ys_773 rfl rfl rfl rfl ?_
    refine gl_get (gX_LK b) y_285_124 yf_285_108 ys_774 rfl rfl rfl rfl ?_
    refine gl_istore (vs2 := [some (.ref 773), some (.int x1), some (.int x2), some (.int x3), some (.int x4), some (.int (0 : Int32)), some (.int (sce14 774 0)), none, none]) (gX_LK b) y_285_127 rfl rfl rfl rfl ?_
    refine gl_iconst (gX_LK b) y_285_129 ci_0 rfl ?_
    refine gl_istore (vs2 := [some (.ref 773), some (.int x1), some (.int x2), some (.int x3), some (.int x4), some (.int (0 : Int32)), some (.int (sce14 774 0)), some (.int (0 : Int32)), none]) (gX_LK b) y_285_130 rfl rfl rfl rfl ?_
    exact gl_weak (vs := [some (.ref 773), some (.int x1), none, none, none, some (.int (0 : Int32)), some (.int (sce14 774 0)), some (.int (0 : Int32)), none]) ⟨rfl, rfl, rfl, rfl, rfl, trivial⟩ (xt_285_132  hP oF x1 (0 : Int32) (sce14 774 0) (0 : Int32) (j_u2 sce14 773 13 (-1 : Int32)) mre14 are14 ale14 h)
  · have h := (if_neg c15).symm.trans h
    refine gl_iconst (gX_LK b) y_285_109 ci_0 rfl ?_
    refine gl_goto (gX_LK b) y_285_110 rfl ?_
    refine gl_put (sc' := (j_u2 sce14 773 13 (0 : Int32))) (gX_LK b) y_285_114 yf_285_60 ys_773 rfl rfl rfl rfl rfl ?_
    refine gl_iconst (gX_LK b) y_285_117 ci_0 rfl ?_
    refine gl_istore (vs2 := [some (.ref 773), some (.int x1), some (.int x2), some (.int x3), some (.int x4), some (.int (0 : Int32)), none, none, none]) (gX_LK b) y_285_118 rfl rfl rfl rfl ?_
    refine gl_aload_n (gX_LK b) y_285_120 rfl rfl ?_
    refine gl_getA (gX_LK b) y_285_121 yf_285_22 ys_773 rfl rfl rfl rfl ?_
    refine gl_get (gX_LK b) y_285_124 yf_285_108 ys_774 rfl rfl rfl rfl ?_
    refine gl_istore (vs2 := [some (.ref 773), some (.int x1), some (.int x2), some (.int x3), some (.int x4), some (.int (0 : Int32)), some (.int (sce14 774 0)), none, none]) (gX_LK b) y_285_127 rfl rfl rfl rfl ?_
    refine gl_iconst (gX_LK b) y_285_129 ci_0 rfl ?_
    refine gl_istore (vs2 := [some (.ref 773), some (.int x1), some (.int x2), some (.int x3), some (.int x4), some (.int (0 : Int32)), some (.int (sce14 774 0)), some (.int (0 : Int32)), none]) (gX_LK b) y_285_130 rfl rfl rfl rfl ?_
    exact gl_weak (vs := [some (.ref 773), some (.int x1), none, none, none, some (.int (0 : Int32)), some (.int (sce14 774 0)), some (.int (0 : Int32)), none]) ⟨rfl, rfl, rfl, rfl, rfl, trivial⟩ (xt_285_132  hP oF x1 (0 : Int32) (sce14 774 0) (0 : Int32) (j_u2 sce14 773 13 (0 : Int32)) mre14 are14 ale14 h)
def xF_285 (x1 : Int32) (x2 : Int32) (x3 : Int32) (sc : jSc) (mr : (Nat → Nat)) (ar : jSc) (al : jAl) : Option (jSc × (Nat → Nat) × jSc × jAl) :=
  (if ((x1 * (1024 : Int32)) + x2) = (sc 773 16) then (if (sc 773 15) = 0 then (if x3 = 0 then some (sc, mr, ar, al) else xF_285_30 x1 x2 x3 ((x1 * (1024 : Int32)) + x2) sc mr ar al) else some (sc, mr, ar, al)) else xF_285_30 x1 x2 x3 ((x1 * (1024 : Int32)) + x2) sc mr ar al)
set_option maxHeartbeats 4000000 in
theorem xt_285 {b : Bool} {rf : jRf} {d : Nat} : xT_285 b rf xF_285 (d + 6) := by
  intro  Post x1 x2 x3 sc mr ar al sc9 mr9 ar9 al9 h hP
  unfold xF_285 at h
  refine gl_entry (m := 5) rfl ?_
  show gL (gX b) 285 (d + 6) 0 [some (.ref 773), some (.int x1), some (.int x2), some (.int x3), none, none, none, none, none] [] sc (x_mk mr rf) ar al Post
  refine gl_iload_n (gX_LK b) y_285_0 rfl rfl ?_
  refine gl_sipush (gX_LK b) y_285_1 cs_1024 rfl ?_
  refine gl_imul (gX_LK b) y_285_4 rfl ?_
  refine gl_iload_n (gX_LK b) y_285_5 rfl rfl ?_
  refine gl_iadd (gX_LK b) y_285_6 rfl ?_
  refine gl_istore (vs2 := [some (.ref 773), some (.int x1), some (.int x2), some (.int x3), some (.int ((x1 * (1024 : Int32)) + x2)), none, none, none, none]) (gX_LK b) y_285_7 rfl rfl rfl rfl ?_
  refine gl_iload (gX_LK b) y_285_9 rfl rfl ?_
  refine gl_aload_n (gX_LK b) y_285_11 rfl rfl ?_
  refine gl_get (gX_LK b) y_285_12 yf_285_69 ys_773 rfl rfl rfl rfl ?_
  refine gl_ic_ne (gX_LK b) y_285_15 rfl rfl (fun c16 => ?_) (fun c16 => ?_)
  · have h := (if_pos c16).symm.trans h
    refine gl_aload_n (gX_LK b) y_285_18 rfl rfl ?_
    refine gl_get (gX_LK b) y_285_19 yf_285_66 ys_773 rfl rfl rfl rfl ?_
    refine gl_if_ne (gX_LK b) y_285_22 rfl rfl (fun c17 => ?_) (fun c17 => ?_)
    · have h := (if_pos c17).symm.trans h
      refine gl_iload_n (gX_LK b) y_285_25 rfl rfl ?_
      refine gl_if_ne (gX_LK b) y_285_26 rfl rfl (fun c18 => ?_) (fun c18 => ?_)
      · have h := (if_pos c18).symm.trans h
        exact gl_return y_285_29 yt_285 (by cases h; exact hP)
      · have h := (if_neg c18).symm.trans h
        exact gl_weak (vs := [some (.ref 773), some (.int x1), some (.int x2), some (.int x3), some (.int ((x1 * (1024 : Int32)) + x2)), none, none, none, none]) ⟨rfl, rfl, rfl, rfl, rfl, trivial⟩ (xt_285_30  hP x1 x2 x3 ((x1 * (1024 : Int32)) + x2) sc mr ar al h)
    · have h := (if_neg c17).symm.trans h
      exact gl_return y_285_29 yt_285 (by cases h; exact hP)
  · have h := (if_neg c16).symm.trans h
    exact gl_weak (vs := [some (.ref 773), some (.int x1), some (.int x2), some (.int x3), some (.int ((x1 * (1024 : Int32)) + x2)), none, none, none, none]) ⟨rfl, rfl, rfl, rfl, rfl, trivial⟩ (xt_285_30  hP x1 x2 x3 ((x1 * (1024 : Int32)) + x2) sc mr ar al h)
/-- ClickOrders$Search.depthOf(I)I -/
def xT_292 (b : Bool) (rf : jRf) (F : Int32 → jSc → (Nat → Nat) → jSc → jAl → Option (Int32 × jSc × (Nat → Nat) × jSc × jAl)) (e : Nat) : Prop := ∀  (Post : jPo) (x1 : Int32) (sc : jSc) (mr : (Nat → Nat)) (ar : jSc) (al : jAl) (r9 : Int32) (sc9 : jSc) (mr9 : (Nat → Nat)) (ar9 : jSc) (al9 : jAl), F x1 sc mr ar al = some (r9, sc9, mr9, ar9, al9) → Post (some (.int r9)) sc9 (x_mk mr9 rf) ar9 al9 → gW (gX b) 292 e 0 (j_av [.ref 773, .int x1]) [] sc (x_mk mr rf) ar al Post
def xF_292_7 : Nat → Int32 → Int32 → Int32 → jSc → (Nat → Nat) → jSc → jAl → Option (Int32 × jSc × (Nat → Nat) × jSc × jAl)
  | 0, _, _, _, _, _, _, _ => none
  | nn + 1, x2, x3, x4, sc, mr, ar, al => (if (8 : Int32) ≤ x4 then some (x2, sc, mr, ar, al) else (if x3 ≤ 0 then some (x2, sc, mr, ar, al) else (if iB x3 600 then xF_292_7 nn (x2 + (1 : Int32)) (ar 789 (iN x3)) (x4 + (1 : Int32)) sc mr ar al else none)))
set_option maxHeartbeats 4000000 in
theorem xt_292_7 {b : Bool} {rf : jRf} {d : Nat} {Post : jPo} {r9 : Int32} {sc9 : jSc} {mr9 : (Nat → Nat)} {ar9 : jSc} {al9 : jAl} (hP : Post (some (.int r9)) sc9 (x_mk mr9 rf) ar9 al9) : ∀ (nn : Nat) (x2 : Int32) (x3 : Int32) (x4 : Int32) (sc : jSc) (mr : (Nat → Nat)) (ar : jSc) (al : jAl), xF_292_7 nn x2 x3 x4 sc mr ar al = some (r9, sc9, mr9, ar9, al9) → gL (gX b) 292 (d + 1) 7 [some (.ref 773), none, some (.int x2), some (.int x3), some (.int x4)] [] sc (x_mk mr rf) ar al Post := by
  intro nn
  induction nn with
  | zero =>
    intro x2 x3 x4 sc mr ar al h
    have h : (none : Option (Int32 × jSc × (Nat → Nat) × jSc × jAl)) = some _ := h
    cases h
  | succ nn ih =>
    intro x2 x3 x4 sc mr ar al h
    unfold xF_292_7 at h
    refine gl_iload (gX_LK b) y_292_7 rfl rfl ?_
    refine gl_bipush (gX_LK b) y_292_9 cb_8 rfl ?_
    refine gl_ic_ge (gX_LK b) y_292_11 rfl rfl (fun c1 => ?_) (fun c1 => ?_)
    · have h := (if_pos c1).symm.trans h
      refine gl_iload_n (gX_LK b) y_292_34 rfl rfl ?_
      exact gl_ireturn y_292_35 (Or.inl yt_292) (by cases h; exact hP)
    · have h := (if_neg c1).symm.trans h
      refine gl_iload_n (gX_LK b) y_292_14 rfl rfl ?_
      refine gl_if_le (gX_LK b) y_292_15 rfl rfl (fun c2 => ?_) (fun c2 => ?_)
      · have h := (if_pos c2).symm.trans h
        refine gl_iload_n (gX_LK b) y_292_34 rfl rfl ?_
        exact gl_ireturn y_292_35 (Or.inl yt_292) (by cases h; exact hP)
      · have h := (if_neg c2).symm.trans h
        refine gl_aload_n (gX_LK b) y_292_18 rfl rfl ?_
        refine gl_getA (gX_LK b) y_292_19 yf_292_40 ys_773 rfl rfl rfl rfl ?_
        refine gl_iload_n (gX_LK b) y_292_22 rfl rfl ?_
        obtain ⟨c3, h⟩ := o_ck h
        refine gl_iaload (gX_LK b) y_292_23 ys_789 c3 rfl rfl ?_
        refine gl_istore_n (vs2 := [some (.ref 773), none, some (.int x2), some (.int (ar 789 (iN x3))), some (.int x4)]) (gX_LK b) y_292_24 rfl rfl rfl rfl ?_
        refine gl_iinc (vs2 := [some (.ref 773), none, some (.int (x2 + (1 : Int32))), some (.int (ar 789 (iN x3))), some (.int x4)]) (gX_LK b) y_292_25 rfl rfl rfl ci_1 rfl rfl ?_
        refine gl_iinc (vs2 := [some (.ref 773), none, some (.int (x2 + (1 : Int32))), some (.int (ar 789 (iN x3))), some (.int (x4 + (1 : Int32)))]) (gX_LK b) y_292_28 rfl rfl rfl ci_1 rfl rfl ?_
        refine gl_goto (gX_LK b) y_292_31 rfl ?_
        exact gl_weak (vs := [some (.ref 773), none, some (.int (x2 + (1 : Int32))), some (.int (ar 789 (iN x3))), some (.int (x4 + (1 : Int32)))]) ⟨rfl, rfl, rfl, rfl, trivial⟩ (ih (x2 + (1 : Int32)) (ar 789 (iN x3)) (x4 + (1 : Int32)) sc mr ar al h)
def xF_292 (x1 : Int32) (sc : jSc) (mr : (Nat → Nat)) (ar : jSc) (al : jAl) : Option (Int32 × jSc × (Nat → Nat) × jSc × jAl) :=
  xF_292_7 oF (0 : Int32) x1 (0 : Int32) sc mr ar al
set_option maxHeartbeats 4000000 in
theorem xt_292 {b : Bool} {rf : jRf} {d : Nat} : xT_292 b rf xF_292 (d + 1) := by
  intro  Post x1 sc mr ar al r9 sc9 mr9 ar9 al9 h hP
  unfold xF_292 at h
  refine gl_entry (m := 3) rfl ?_
  show gL (gX b) 292 (d + 1) 0 [some (.ref 773), some (.int x1), none, none, none] [] sc (x_mk mr rf) ar al Post
  refine gl_iconst (gX_LK b) y_292_0 ci_0 rfl ?_
  refine gl_istore_n (vs2 := [some (.ref 773), some (.int x1), some (.int (0 : Int32)), none, none]) (gX_LK b) y_292_1 rfl rfl rfl rfl ?_
  refine gl_iload_n (gX_LK b) y_292_2 rfl rfl ?_
  refine gl_istore_n (vs2 := [some (.ref 773), some (.int x1), some (.int (0 : Int32)), some (.int x1), none]) (gX_LK b) y_292_3 rfl rfl rfl rfl ?_
  refine gl_iconst (gX_LK b) y_292_4 ci_0 rfl ?_
  refine gl_istore (vs2 := [some (.ref 773), some (.int x1), some (.int (0 : Int32)), some (.int x1), some (.int (0 : Int32))]) (gX_LK b) y_292_5 rfl rfl rfl rfl ?_
  exact gl_weak (vs := [some (.ref 773), none, some (.int (0 : Int32)), some (.int x1), some (.int (0 : Int32))]) ⟨rfl, rfl, rfl, rfl, trivial⟩ (xt_292_7  hP oF (0 : Int32) x1 (0 : Int32) sc mr ar al h)
/-- ClickOrders$Search.answer()I -/
def xT_286 (b : Bool) (rf : jRf) (F : jSc → (Nat → Nat) → jSc → jAl → Option (Int32 × jSc × (Nat → Nat) × jSc × jAl)) (e : Nat) : Prop := ∀  (Post : jPo) (sc : jSc) (mr : (Nat → Nat)) (ar : jSc) (al : jAl) (r9 : Int32) (sc9 : jSc) (mr9 : (Nat → Nat)) (ar9 : jSc) (al9 : jAl), F sc mr ar al = some (r9, sc9, mr9, ar9, al9) → Post (some (.int r9)) sc9 (x_mk mr9 rf) ar9 al9 → gW (gX b) 286 e 0 (j_av [.ref 773]) [] sc (x_mk mr rf) ar al Post
def xF_286 (sc : jSc) (mr : (Nat → Nat)) (ar : jSc) (al : jAl) : Option (Int32 × jSc × (Nat → Nat) × jSc × jAl) :=
  (if 0 ≤ (sc 773 13) then (o_b5 (xF_292 (sc 773 13) sc mr ar al) (fun ve2 sce2 mre2 are2 ale2 => some (ve2, sce2, mre2, are2, ale2))) else (if (sc 773 1) = 0 then some ((-1 : Int32), sc, mr, ar, al) else some ((-2 : Int32), sc, mr, ar, al)))
set_option maxHeartbeats 4000000 in
theorem xt_286 {b : Bool} {rf : jRf} {d : Nat} : xT_286 b rf xF_286 (d + 2) := by
  intro  Post  sc mr ar al r9 sc9 mr9 ar9 al9 h hP
  unfold xF_286 at h
  refine gl_entry (m := 0) rfl ?_
  show gL (gX b) 286 (d + 2) 0 [some (.ref 773)] [] sc (x_mk mr rf) ar al Post
  refine gl_aload_n (gX_LK b) y_286_0 rfl rfl ?_
  refine gl_get (gX_LK b) y_286_1 yf_286_60 ys_773 rfl rfl rfl rfl ?_
  refine gl_if_ge (gX_LK b) y_286_4 rfl rfl (fun c1 => ?_) (fun c1 => ?_)
  · have h := (if_pos c1).symm.trans h
    refine gl_aload_n (gX_LK b) y_286_21 rfl rfl ?_
    refine gl_aload_n (gX_LK b) y_286_22 rfl rfl ?_
    refine gl_get (gX_LK b) y_286_23 yf_286_60 ys_773 rfl rfl rfl rfl ?_
    obtain ⟨ve2, sce2, mre2, are2, ale2, e2, h⟩ := o_k5 h
    refine gl_callV (gX_LK b) y_286_26 ym_286_119 rfl rfl rfl ys_773 yx_292 rfl rfl ((xt_292 )  _ _ _ _ _ _ _ _ _ _ _ e2 ?_)
    exact gl_ireturn y_286_29 (Or.inl yt_286) (by cases h; exact hP)
  · have h := (if_neg c1).symm.trans h
    refine gl_aload_n (gX_LK b) y_286_7 rfl rfl ?_
    refine gl_get (gX_LK b) y_286_8 yf_286_15 ys_773 rfl rfl rfl rfl ?_
    refine gl_if_eq (gX_LK b) y_286_11 rfl rfl (fun c3 => ?_) (fun c3 => ?_)
    · have h := (if_pos c3).symm.trans h
      refine gl_iconst (gX_LK b) y_286_19 ci_m1 rfl ?_
      exact gl_ireturn y_286_20 (Or.inl yt_286) (by cases h; exact hP)
    · have h := (if_neg c3).symm.trans h
      refine gl_bipush (gX_LK b) y_286_14 cb_m2 rfl ?_
      refine gl_goto (gX_LK b) y_286_16 rfl ?_
      exact gl_ireturn y_286_20 (Or.inl yt_286) (by cases h; exact hP)
/-- ClickOrders$Search.codeAt(I)I -/
def xT_287 (b : Bool) (rf : jRf) (F : Int32 → jSc → (Nat → Nat) → jSc → jAl → Option (Int32 × jSc × (Nat → Nat) × jSc × jAl)) (e : Nat) : Prop := ∀  (Post : jPo) (x1 : Int32) (sc : jSc) (mr : (Nat → Nat)) (ar : jSc) (al : jAl) (r9 : Int32) (sc9 : jSc) (mr9 : (Nat → Nat)) (ar9 : jSc) (al9 : jAl), F x1 sc mr ar al = some (r9, sc9, mr9, ar9, al9) → Post (some (.int r9)) sc9 (x_mk mr9 rf) ar9 al9 → gW (gX b) 287 e 0 (j_av [.ref 773, .int x1]) [] sc (x_mk mr rf) ar al Post
def xF_287_41 : Nat → Int32 → Int32 → Int32 → jSc → (Nat → Nat) → jSc → jAl → Option (Int32 × jSc × (Nat → Nat) × jSc × jAl)
  | 0, _, _, _, _, _, _, _ => none
  | nn + 1, x1, x3, x4, sc, mr, ar, al => (if x4 ≤ x1 then (if iB x3 600 then some ((ar 790 (iN x3)), sc, mr, ar, al) else none) else (if iB x3 600 then xF_287_41 nn x1 (ar 789 (iN x3)) (x4 + (-1 : Int32)) sc mr ar al else none))
set_option maxHeartbeats 4000000 in
theorem xt_287_41 {b : Bool} {rf : jRf} {d : Nat} {Post : jPo} {r9 : Int32} {sc9 : jSc} {mr9 : (Nat → Nat)} {ar9 : jSc} {al9 : jAl} (hP : Post (some (.int r9)) sc9 (x_mk mr9 rf) ar9 al9) : ∀ (nn : Nat) (x1 : Int32) (x3 : Int32) (x4 : Int32) (sc : jSc) (mr : (Nat → Nat)) (ar : jSc) (al : jAl), xF_287_41 nn x1 x3 x4 sc mr ar al = some (r9, sc9, mr9, ar9, al9) → gL (gX b) 287 (d + 2) 41 [some (.ref 773), some (.int x1), none, some (.int x3), some (.int x4)] [] sc (x_mk mr rf) ar al Post := by
  intro nn
  induction nn with
  | zero =>
    intro x1 x3 x4 sc mr ar al h
    have h : (none : Option (Int32 × jSc × (Nat → Nat) × jSc × jAl)) = some _ := h
    cases h
  | succ nn ih =>
    intro x1 x3 x4 sc mr ar al h
    unfold xF_287_41 at h
    refine gl_iload (gX_LK b) y_287_41 rfl rfl ?_
    refine gl_iload_n (gX_LK b) y_287_43 rfl rfl ?_
    refine gl_ic_le (gX_LK b) y_287_44 rfl rfl (fun c1 => ?_) (fun c1 => ?_)
    · have h := (if_pos c1).symm.trans h
      refine gl_aload_n (gX_LK b) y_287_60 rfl rfl ?_
      refine gl_getA (gX_LK b) y_287_61 yf_287_44 ys_773 rfl rfl rfl rfl ?_
      refine gl_iload_n (gX_LK b) y_287_64 rfl rfl ?_
      obtain ⟨c2, h⟩ := o_ck h
      refine gl_iaload (gX_LK b) y_287_65 ys_790 c2 rfl rfl ?_
      exact gl_ireturn y_287_66 (Or.inl yt_287) (by cases h; exact hP)
    · have h := (if_neg c1).symm.trans h
      refine gl_aload_n (gX_LK b) y_287_47 rfl rfl ?_
      refine gl_getA (gX_LK b) y_287_48 yf_287_40 ys_773 rfl rfl rfl rfl ?_
      refine gl_iload_n (gX_LK b) y_287_51 rfl rfl ?_
      obtain ⟨c3, h⟩ := o_ck h
      refine gl_iaload (gX_LK b) y_287_52 ys_789 c3 rfl rfl ?_
      refine gl_istore_n (vs2 := [some (.ref 773), some (.int x1), none, some (.int (ar 789 (iN x3))), some (.int x4)]) (gX_LK b) y_287_53 rfl rfl rfl rfl ?_
      refine gl_iinc (vs2 := [some (.ref 773), some (.int x1), none, some (.int (ar 789 (iN x3))), some (.int (x4 + (-1 : Int32)))]) (gX_LK b) y_287_54 rfl rfl rfl ci_m1 rfl rfl ?_
      refine gl_goto (gX_LK b) y_287_57 rfl ?_
      exact gl_weak (vs := [some (.ref 773), some (.int x1), none, some (.int (ar 789 (iN x3))), some (.int (x4 + (-1 : Int32)))]) ⟨rfl, rfl, rfl, rfl, trivial⟩ (ih x1 (ar 789 (iN x3)) (x4 + (-1 : Int32)) sc mr ar al h)
def xF_287_19 (x1 : Int32) (y0 : Int32) (sc : jSc) (mr : (Nat → Nat)) (ar : jSc) (al : jAl) : Option (Int32 × jSc × (Nat → Nat) × jSc × jAl) :=
  (if x1 < 0 then some ((-1 : Int32), sc, mr, ar, al) else (if x1 < y0 then xF_287_41 oF x1 (sc 773 13) (y0 - (1 : Int32)) sc mr ar al else some ((-1 : Int32), sc, mr, ar, al)))
set_option maxHeartbeats 4000000 in
theorem xt_287_19 {b : Bool} {rf : jRf} {d : Nat} {Post : jPo} {r9 : Int32} {sc9 : jSc} {mr9 : (Nat → Nat)} {ar9 : jSc} {al9 : jAl} (hP : Post (some (.int r9)) sc9 (x_mk mr9 rf) ar9 al9) (x1 : Int32) (y0 : Int32) (sc : jSc) (mr : (Nat → Nat)) (ar : jSc) (al : jAl) (h : xF_287_19 x1 y0 sc mr ar al = some (r9, sc9, mr9, ar9, al9)) : gL (gX b) 287 (d + 2) 19 [some (.ref 773), some (.int x1), none, none, none] [.int y0] sc (x_mk mr rf) ar al Post := by
  unfold xF_287_19 at h
  refine gl_istore_n (vs2 := [some (.ref 773), some (.int x1), some (.int y0), none, none]) (gX_LK b) y_287_19 rfl rfl rfl rfl ?_
  refine gl_iload_n (gX_LK b) y_287_20 rfl rfl ?_
  refine gl_if_lt (gX_LK b) y_287_21 rfl rfl (fun c4 => ?_) (fun c4 => ?_)
  · have h := (if_pos c4).symm.trans h
    refine gl_iconst (gX_LK b) y_287_29 ci_m1 rfl ?_
    exact gl_ireturn y_287_30 (Or.inl yt_287) (by cases h; exact hP)
  · have h := (if_neg c4).symm.trans h
    refine gl_iload_n (gX_LK b) y_287_24 rfl rfl ?_
    refine gl_iload_n (gX_LK b) y_287_25 rfl rfl ?_
    refine gl_ic_lt (gX_LK b) y_287_26 rfl rfl (fun c5 => ?_) (fun c5 => ?_)
    · have h := (if_pos c5).symm.trans h
      refine gl_aload_n (gX_LK b) y_287_31 rfl rfl ?_
      refine gl_get (gX_LK b) y_287_32 yf_287_60 ys_773 rfl rfl rfl rfl ?_
      refine gl_istore_n (vs2 := [some (.ref 773), some (.int x1), some (.int y0), some (.int (sc 773 13)), none]) (gX_LK b) y_287_35 rfl rfl rfl rfl ?_
      refine gl_iload_n (gX_LK b) y_287_36 rfl rfl ?_
      refine gl_iconst (gX_LK b) y_287_37 ci_1 rfl ?_
      refine gl_isub (gX_LK b) y_287_38 rfl ?_
      refine gl_istore (vs2 := [some (.ref 773), some (.int x1), some (.int y0), some (.int (sc 773 13)), some (.int (y0 - (1 : Int32)))]) (gX_LK b) y_287_39 rfl rfl rfl rfl ?_
      exact gl_weak (vs := [some (.ref 773), some (.int x1), none, some (.int (sc 773 13)), some (.int (y0 - (1 : Int32)))]) ⟨rfl, rfl, rfl, rfl, trivial⟩ (xt_287_41  hP oF x1 (sc 773 13) (y0 - (1 : Int32)) sc mr ar al h)
    · have h := (if_neg c5).symm.trans h
      refine gl_iconst (gX_LK b) y_287_29 ci_m1 rfl ?_
      exact gl_ireturn y_287_30 (Or.inl yt_287) (by cases h; exact hP)
def xF_287 (x1 : Int32) (sc : jSc) (mr : (Nat → Nat)) (ar : jSc) (al : jAl) : Option (Int32 × jSc × (Nat → Nat) × jSc × jAl) :=
  (if 0 ≤ (sc 773 13) then (o_b5 (xF_292 (sc 773 13) sc mr ar al) (fun ve7 sce7 mre7 are7 ale7 => xF_287_19 x1 ve7 sce7 mre7 are7 ale7)) else xF_287_19 x1 (0 : Int32) sc mr ar al)
set_option maxHeartbeats 4000000 in
theorem xt_287 {b : Bool} {rf : jRf} {d : Nat} : xT_287 b rf xF_287 (d + 2) := by
  intro  Post x1 sc mr ar al r9 sc9 mr9 ar9 al9 h hP
  unfold xF_287 at h
  refine gl_entry (m := 3) rfl ?_
  show gL (gX b) 287 (d + 2) 0 [some (.ref 773), some (.int x1), none, none, none] [] sc (x_mk mr rf) ar al Post
  refine gl_aload_n (gX_LK b) y_287_0 rfl rfl ?_
  refine gl_get (gX_LK b) y_287_1 yf_287_60 ys_773 rfl rfl rfl rfl ?_
  refine gl_if_ge (gX_LK b) y_287_4 rfl rfl (fun c6 => ?_) (fun c6 => ?_)
  · have h := (if_pos c6).symm.trans h
    refine gl_aload_n (gX_LK b) y_287_11 rfl rfl ?_
    refine gl_aload_n (gX_LK b) y_287_12 rfl rfl ?_
    refine gl_get (gX_LK b) y_287_13 yf_287_60 ys_773 rfl rfl rfl rfl ?_
    obtain ⟨ve7, sce7, mre7, are7, ale7, e7, h⟩ := o_k5 h
    refine gl_callV (gX_LK b) y_287_16 ym_287_119 rfl rfl rfl ys_773 yx_292 rfl rfl ((xt_292 )  _ _ _ _ _ _ _ _ _ _ _ e7 ?_)
    exact gl_weak (vs := [some (.ref 773), some (.int x1), none, none, none]) ⟨rfl, rfl, trivial⟩ (xt_287_19  hP x1 ve7 sce7 mre7 are7 ale7 h)
  · have h := (if_neg c6).symm.trans h
    refine gl_iconst (gX_LK b) y_287_7 ci_0 rfl ?_
    refine gl_goto (gX_LK b) y_287_8 rfl ?_
    exact gl_weak (vs := [some (.ref 773), some (.int x1), none, none, none]) ⟨rfl, rfl, trivial⟩ (xt_287_19  hP x1 (0 : Int32) sc mr ar al h)
/-- ClickOrders$Search.reaches(LClickOrders$Page;I)Z -/
def xT_297 (b : Bool) (rf : jRf) (F : Nat → Int32 → jSc → (Nat → Nat) → jSc → jAl → Option (Int32 × jSc × (Nat → Nat) × jSc × jAl)) (e : Nat) : Prop := ∀  (Post : jPo) (p1 : Nat) (x2 : Int32) (hp1 : x_pg p1 = true) (sc : jSc) (mr : (Nat → Nat)) (ar : jSc) (al : jAl) (r9 : Int32) (sc9 : jSc) (mr9 : (Nat → Nat)) (ar9 : jSc) (al9 : jAl), F p1 x2 sc mr ar al = some (r9, sc9, mr9, ar9, al9) → Post (some (.int r9)) sc9 (x_mk mr9 rf) ar9 al9 → gW (gX b) 297 e 0 (j_av [.ref 773, .ref p1, .int x2]) [] sc (x_mk mr rf) ar al Post
def xF_297_112 (g297 : Nat → Int32 → jSc → (Nat → Nat) → jSc → jAl → Option (Int32 × jSc × (Nat → Nat) × jSc × jAl)) (k50 : Nat → Int32 → Nat → Int32 → Int32 → jSc → (Nat → Nat) → jSc → jAl → Option (Int32 × jSc × (Nat → Nat) × jSc × jAl)) (p1 : Nat) (x2 : Int32) (p3 : Nat) (x5 : Int32) (y0 : Int32) (sc : jSc) (mr : (Nat → Nat)) (ar : jSc) (al : jAl) : Option (Int32 × jSc × (Nat → Nat) × jSc × jAl) :=
  (o_b4 (xF_226 p3 p1 sc mr ar al) (fun sce1 mre1 are1 ale1 => (o_b5 (xF_209 p3 x5 (-1 : Int32) sce1 mre1 are1 ale1) (fun ve2 sce2 mre2 are2 ale2 => (o_b5 (g297 p3 (x2 - (1 : Int32)) sce2 mre2 are2 ale2) (fun ve3 sce3 mre3 are3 ale3 => (if ve3 = 0 then k50 p1 x2 p3 y0 (x5 + (1 : Int32)) sce3 mre3 are3 ale3 else some ((1 : Int32), sce3, mre3, are3, ale3))))))))
set_option maxHeartbeats 4000000 in
theorem xt_297_112 {b : Bool} {rf : jRf} {d : Nat} {g297 : Nat → Int32 → jSc → (Nat → Nat) → jSc → jAl → Option (Int32 × jSc × (Nat → Nat) × jSc × jAl)} (hg297 : xT_297 b rf g297 (d + 4)) {Post : jPo} {r9 : Int32} {sc9 : jSc} {mr9 : (Nat → Nat)} {ar9 : jSc} {al9 : jAl} {k50 : Nat → Int32 → Nat → Int32 → Int32 → jSc → (Nat → Nat) → jSc → jAl → Option (Int32 × jSc × (Nat → Nat) × jSc × jAl)} (hk50 : ∀ (p1 : Nat) (x2 : Int32) (p3 : Nat) (x4 : Int32) (x5 : Int32) (sc : jSc) (mr : (Nat → Nat)) (ar : jSc) (al : jAl), x_pg p1 = true → x_pg p3 = true → k50 p1 x2 p3 x4 x5 sc mr ar al = some (r9, sc9, mr9, ar9, al9) → gL (gX b) 297 (d + 5) 50 [some (.ref 773), some (.ref p1), some (.int x2), some (.ref p3), some (.int x4), some (.int x5), none] [] sc (x_mk mr rf) ar al Post) (hP : Post (some (.int r9)) sc9 (x_mk mr9 rf) ar9 al9) (p1 : Nat) (x2 : Int32) (p3 : Nat) (x5 : Int32) (y0 : Int32) (sc : jSc) (mr : (Nat → Nat)) (ar : jSc) (al : jAl) (hp1 : x_pg p1 = true) (hp3 : x_pg p3 = true) (h : xF_297_112 g297 k50 p1 x2 p3 x5 y0 sc mr ar al = some (r9, sc9, mr9, ar9, al9)) : gL (gX b) 297 (d + 5) 112 [some (.ref 773), some (.ref p1), some (.int x2), some (.ref p3), none, some (.int x5), none] [.int y0] sc (x_mk mr rf) ar al Post := by
  unfold xF_297_112 at h
  refine gl_istore (vs2 := [some (.ref 773), some (.ref p1), some (.int x2), some (.ref p3), some (.int y0), some (.int x5), none]) (gX_LK b) y_297_112 rfl rfl rfl rfl ?_
  refine gl_aload_n (gX_LK b) y_297_114 rfl rfl ?_
  refine gl_aload_n (gX_LK b) y_297_115 rfl rfl ?_
  obtain ⟨sce1, mre1, are1, ale1, e1, h⟩ := o_k4 h
  refine gl_callV (gX_LK b) y_297_116 ym_297_175 rfl rfl rfl (ys_pg hp3) yx_226 rfl rfl ((xt_226 )  _ _ _ hp3 hp1 _ _ _ _ _ _ _ _ e1 ?_)
  refine gl_aload_n (gX_LK b) y_297_119 rfl rfl ?_
  refine gl_getA (gX_LK b) y_297_120 yf_297_78 ys_773 rfl rfl rfl rfl ?_
  refine gl_aload_n (gX_LK b) y_297_123 rfl rfl ?_
  refine gl_iload (gX_LK b) y_297_124 rfl rfl ?_
  refine gl_iconst (gX_LK b) y_297_126 ci_m1 rfl ?_
  obtain ⟨ve2, sce2, mre2, are2, ale2, e2, h⟩ := o_k5 h
  refine gl_callV (gX_LK b) y_297_127 ym_297_159 rfl rfl rfl ys_757 yx_209 rfl rfl ((xt_209 )  _ _ _ _ hp3 _ _ _ _ _ _ _ _ _ e2 ?_)
  refine gl_pop (gX_LK b) y_297_130 rfl rfl ?_
  refine gl_aload_n (gX_LK b) y_297_131 rfl rfl ?_
  refine gl_aload_n (gX_LK b) y_297_132 rfl rfl ?_
  refine gl_iload_n (gX_LK b) y_297_133 rfl rfl ?_
  refine gl_iconst (gX_LK b) y_297_134 ci_1 rfl ?_
  refine gl_isub (gX_LK b) y_297_135 rfl ?_
  obtain ⟨ve3, sce3, mre3, are3, ale3, e3, h⟩ := o_k5 h
  refine gl_callV (gX_LK b) y_297_136 ym_297_186 rfl rfl rfl ys_773 yx_297 rfl rfl (hg297  _ _ _ hp3 _ _ _ _ _ _ _ _ _ e3 ?_)
  refine gl_if_eq (gX_LK b) y_297_139 rfl rfl (fun c4 => ?_) (fun c4 => ?_)
  · have h := (if_pos c4).symm.trans h
    refine gl_iinc (vs2 := [some (.ref 773), some (.ref p1), some (.int x2), some (.ref p3), some (.int y0), some (.int (x5 + (1 : Int32))), none]) (gX_LK b) y_297_144 rfl rfl rfl ci_1 rfl rfl ?_
    refine gl_goto (gX_LK b) y_297_147 rfl ?_
    exact gl_weak (vs := [some (.ref 773), some (.ref p1), some (.int x2), some (.ref p3), some (.int y0), some (.int (x5 + (1 : Int32))), none]) ⟨rfl, rfl, rfl, rfl, rfl, rfl, trivial⟩ (hk50 p1 x2 p3 y0 (x5 + (1 : Int32)) sce3 mre3 are3 ale3 hp1 hp3 h)
  · have h := (if_neg c4).symm.trans h
    refine gl_iconst (gX_LK b) y_297_142 ci_1 rfl ?_
    exact gl_ireturn y_297_143 (Or.inr ⟨yt_297, Or.inr rfl⟩) (by cases h; exact hP)
def xF_297_81 (g297 : Nat → Int32 → jSc → (Nat → Nat) → jSc → jAl → Option (Int32 × jSc × (Nat → Nat) × jSc × jAl)) (k50 : Nat → Int32 → Nat → Int32 → Int32 → jSc → (Nat → Nat) → jSc → jAl → Option (Int32 × jSc × (Nat → Nat) × jSc × jAl)) (p1 : Nat) (x2 : Int32) (p3 : Nat) (x4 : Int32) (x5 : Int32) (x6 : Int32) (sc : jSc) (mr : (Nat → Nat)) (ar : jSc) (al : jAl) : Option (Int32 × jSc × (Nat → Nat) × jSc × jAl) :=
  (o_b5 (xF_206 p1 x5 sc mr ar al) (fun ve5 sce5 mre5 are5 ale5 => (if ve5 = 0 then k50 p1 x2 p3 x4 (x5 + (1 : Int32)) sce5 mre5 are5 ale5 else (if x4 = 0 then (if x6 = 0 then xF_297_112 g297 k50 p1 x2 p3 x5 (0 : Int32) sce5 mre5 are5 ale5 else xF_297_112 g297 k50 p1 x2 p3 x5 (1 : Int32) sce5 mre5 are5 ale5) else xF_297_112 g297 k50 p1 x2 p3 x5 (1 : Int32) sce5 mre5 are5 ale5))))
set_option maxHeartbeats 4000000 in
theorem xt_297_81 {b : Bool} {rf : jRf} {d : Nat} {g297 : Nat → Int32 → jSc → (Nat → Nat) → jSc → jAl → Option (Int32 × jSc × (Nat → Nat) × jSc × jAl)} (hg297 : xT_297 b rf g297 (d + 4)) {Post : jPo} {r9 : Int32} {sc9 : jSc} {mr9 : (Nat → Nat)} {ar9 : jSc} {al9 : jAl} {k50 : Nat → Int32 → Nat → Int32 → Int32 → jSc → (Nat → Nat) → jSc → jAl → Option (Int32 × jSc × (Nat → Nat) × jSc × jAl)} (hk50 : ∀ (p1 : Nat) (x2 : Int32) (p3 : Nat) (x4 : Int32) (x5 : Int32) (sc : jSc) (mr : (Nat → Nat)) (ar : jSc) (al : jAl), x_pg p1 = true → x_pg p3 = true → k50 p1 x2 p3 x4 x5 sc mr ar al = some (r9, sc9, mr9, ar9, al9) → gL (gX b) 297 (d + 5) 50 [some (.ref 773), some (.ref p1), some (.int x2), some (.ref p3), some (.int x4), some (.int x5), none] [] sc (x_mk mr rf) ar al Post) (hP : Post (some (.int r9)) sc9 (x_mk mr9 rf) ar9 al9) (p1 : Nat) (x2 : Int32) (p3 : Nat) (x4 : Int32) (x5 : Int32) (x6 : Int32) (sc : jSc) (mr : (Nat → Nat)) (ar : jSc) (al : jAl) (hp1 : x_pg p1 = true) (hp3 : x_pg p3 = true) (h : xF_297_81 g297 k50 p1 x2 p3 x4 x5 x6 sc mr ar al = some (r9, sc9, mr9, ar9, al9)) : gL (gX b) 297 (d + 5) 81 [some (.ref 773), some (.ref p1), some (.int x2), some (.ref p3), some (.int x4), some (.int x5), some (.int x6)] [] sc (x_mk mr rf) ar al Post := by
  unfold xF_297_81 at h
  refine gl_aload_n (gX_LK b) y_297_81 rfl rfl ?_
  refine gl_getA (gX_LK b) y_297_82 yf_297_78 ys_773 rfl rfl rfl rfl ?_
  refine gl_aload_n (gX_LK b) y_297_85 rfl rfl ?_
  refine gl_iload (gX_LK b) y_297_86 rfl rfl ?_
  obtain ⟨ve5, sce5, mre5, are5, ale5, e5, h⟩ := o_k5 h
  refine gl_callV (gX_LK b) y_297_88 ym_297_155 rfl rfl rfl ys_757 yx_206 rfl rfl ((xt_206 )  _ _ _ hp1 _ _ _ _ _ _ _ _ _ e5 ?_)
  refine gl_if_ne (gX_LK b) y_297_91 rfl rfl (fun c6 => ?_) (fun c6 => ?_)
  · have h := (if_pos c6).symm.trans h
    refine gl_goto (gX_LK b) y_297_94 rfl ?_
    refine gl_iinc (vs2 := [some (.ref 773), some (.ref p1), some (.int x2), some (.ref p3), some (.int x4), some (.int (x5 + (1 : Int32))), some (.int x6)]) (gX_LK b) y_297_144 rfl rfl rfl ci_1 rfl rfl ?_
    refine gl_goto (gX_LK b) y_297_147 rfl ?_
    exact gl_weak (vs := [some (.ref 773), some (.ref p1), some (.int x2), some (.ref p3), some (.int x4), some (.int (x5 + (1 : Int32))), none]) ⟨rfl, rfl, rfl, rfl, rfl, rfl, trivial⟩ (hk50 p1 x2 p3 x4 (x5 + (1 : Int32)) sce5 mre5 are5 ale5 hp1 hp3 h)
  · have h := (if_neg c6).symm.trans h
    refine gl_iload (gX_LK b) y_297_97 rfl rfl ?_
    refine gl_if_ne (gX_LK b) y_297_99 rfl rfl (fun c7 => ?_) (fun c7 => ?_)
    · have h := (if_pos c7).symm.trans h
      refine gl_iload (gX_LK b) y_297_102 rfl rfl ?_
      refine gl_if_eq (gX_LK b) y_297_104 rfl rfl (fun c8 => ?_) (fun c8 => ?_)
      · have h := (if_pos c8).symm.trans h
        refine gl_iconst (gX_LK b) y_297_111 ci_0 rfl ?_
        exact gl_weak (vs := [some (.ref 773), some (.ref p1), some (.int x2), some (.ref p3), none, some (.int x5), none]) ⟨rfl, rfl, rfl, rfl, rfl, trivial⟩ (xt_297_112  hg297 hk50 hP p1 x2 p3 x5 (0 : Int32) sce5 mre5 are5 ale5 hp1 hp3 h)
      · have h := (if_neg c8).symm.trans h
        refine gl_iconst (gX_LK b) y_297_107 ci_1 rfl ?_
        refine gl_goto (gX_LK b) y_297_108 rfl ?_
        exact gl_weak (vs := [some (.ref 773), some (.ref p1), some (.int x2), some (.ref p3), none, some (.int x5), none]) ⟨rfl, rfl, rfl, rfl, rfl, trivial⟩ (xt_297_112  hg297 hk50 hP p1 x2 p3 x5 (1 : Int32) sce5 mre5 are5 ale5 hp1 hp3 h)
    · have h := (if_neg c7).symm.trans h
      refine gl_iconst (gX_LK b) y_297_107 ci_1 rfl ?_
      refine gl_goto (gX_LK b) y_297_108 rfl ?_
      exact gl_weak (vs := [some (.ref 773), some (.ref p1), some (.int x2), some (.ref p3), none, some (.int x5), none]) ⟨rfl, rfl, rfl, rfl, rfl, trivial⟩ (xt_297_112  hg297 hk50 hP p1 x2 p3 x5 (1 : Int32) sce5 mre5 are5 ale5 hp1 hp3 h)
def xF_297_50 (g297 : Nat → Int32 → jSc → (Nat → Nat) → jSc → jAl → Option (Int32 × jSc × (Nat → Nat) × jSc × jAl)) : Nat → Nat → Int32 → Nat → Int32 → Int32 → jSc → (Nat → Nat) → jSc → jAl → Option (Int32 × jSc × (Nat → Nat) × jSc × jAl)
  | 0, _, _, _, _, _, _, _, _, _ => none
  | nn + 1, p1, x2, p3, x4, x5, sc, mr, ar, al => (if (13 : Int32) ≤ x5 then some ((0 : Int32), sc, mr, ar, al) else (if x_pr (mr 3) = true then (o_b5 (xF_254 (mr 3) x5 sc mr ar al) (fun ve11 sce11 mre11 are11 ale11 => (if ve11 = 0 then xF_297_81 g297 (fun p1_ x2_ p3_ x4_ x5_ sc_ mr_ ar_ al_ => xF_297_50 g297 nn p1_ x2_ p3_ x4_ x5_ sc_ mr_ ar_ al_) p1 x2 p3 x4 x5 ve11 sce11 mre11 are11 ale11 else (if x4 = 0 then xF_297_81 g297 (fun p1_ x2_ p3_ x4_ x5_ sc_ mr_ ar_ al_ => xF_297_50 g297 nn p1_ x2_ p3_ x4_ x5_ sc_ mr_ ar_ al_) p1 x2 p3 x4 x5 ve11 sce11 mre11 are11 ale11 else xF_297_50 g297 nn p1 x2 p3 x4 (x5 + (1 : Int32)) sce11 mre11 are11 ale11)))) else none))
set_option maxHeartbeats 4000000 in
theorem xt_297_50 {b : Bool} {rf : jRf} {d : Nat} {g297 : Nat → Int32 → jSc → (Nat → Nat) → jSc → jAl → Option (Int32 × jSc × (Nat → Nat) × jSc × jAl)} (hg297 : xT_297 b rf g297 (d + 4)) {Post : jPo} {r9 : Int32} {sc9 : jSc} {mr9 : (Nat → Nat)} {ar9 : jSc} {al9 : jAl} (hP : Post (some (.int r9)) sc9 (x_mk mr9 rf) ar9 al9) : ∀ (nn : Nat) (p1 : Nat) (x2 : Int32) (p3 : Nat) (x4 : Int32) (x5 : Int32) (sc : jSc) (mr : (Nat → Nat)) (ar : jSc) (al : jAl), x_pg p1 = true → x_pg p3 = true → xF_297_50 g297 nn p1 x2 p3 x4 x5 sc mr ar al = some (r9, sc9, mr9, ar9, al9) → gL (gX b) 297 (d + 5) 50 [some (.ref 773), some (.ref p1), some (.int x2), some (.ref p3), some (.int x4), some (.int x5), none] [] sc (x_mk mr rf) ar al Post := by
  intro nn
  induction nn with
  | zero =>
    intro p1 x2 p3 x4 x5 sc mr ar al hp1 hp3 h
    have h : (none : Option (Int32 × jSc × (Nat → Nat) × jSc × jAl)) = some _ := h
    cases h
  | succ nn ih =>
    intro p1 x2 p3 x4 x5 sc mr ar al hp1 hp3 h
    unfold xF_297_50 at h
    refine gl_iload (gX_LK b) y_297_50 rfl rfl ?_
    refine gl_bipush (gX_LK b) y_297_52 cb_13 rfl ?_
    refine gl_ic_ge (gX_LK b) y_297_54 rfl rfl (fun c9 => ?_) (fun c9 => ?_)
    · have h := (if_pos c9).symm.trans h
      refine gl_iconst (gX_LK b) y_297_150 ci_0 rfl ?_
      exact gl_ireturn y_297_151 (Or.inr ⟨yt_297, Or.inl rfl⟩) (by cases h; exact hP)
    · have h := (if_neg c9).symm.trans h
      refine gl_aload_n (gX_LK b) y_297_57 rfl rfl ?_
      refine gl_getA (gX_LK b) y_297_58 yf_297_78 ys_773 rfl rfl rfl rfl ?_
      obtain ⟨c10, h⟩ := o_ck h
      refine gl_getA (gX_LK b) y_297_61 yf_297_123 ys_757 rfl rfl rfl rfl ?_
      refine gl_iload (gX_LK b) y_297_64 rfl rfl ?_
      obtain ⟨ve11, sce11, mre11, are11, ale11, e11, h⟩ := o_k5 h
      refine gl_callV (gX_LK b) y_297_66 ym_297_171 rfl rfl rfl (ys_pr c10) yx_254 rfl rfl ((xt_254 )  _ _ _ c10 _ _ _ _ _ _ _ _ _ e11 ?_)
      refine gl_istore (vs2 := [some (.ref 773), some (.ref p1), some (.int x2), some (.ref p3), some (.int x4), some (.int x5), some (.int ve11)]) (gX_LK b) y_297_69 rfl rfl rfl rfl ?_
      refine gl_iload (gX_LK b) y_297_71 rfl rfl ?_
      refine gl_if_eq (gX_LK b) y_297_73 rfl rfl (fun c12 => ?_) (fun c12 => ?_)
      · have h := (if_pos c12).symm.trans h
        exact gl_weak (vs := [some (.ref 773), some (.ref p1), some (.int x2), some (.ref p3), some (.int x4), some (.int x5), some (.int ve11)]) ⟨rfl, rfl, rfl, rfl, rfl, rfl, rfl, trivial⟩ (xt_297_81  hg297 ih hP p1 x2 p3 x4 x5 ve11 sce11 mre11 are11 ale11 hp1 hp3 h)
      · have h := (if_neg c12).symm.trans h
        refine gl_iload (gX_LK b) y_297_76 rfl rfl ?_
        refine gl_if_ne (gX_LK b) y_297_78 rfl rfl (fun c13 => ?_) (fun c13 => ?_)
        · have h := (if_pos c13).symm.trans h
          exact gl_weak (vs := [some (.ref 773), some (.ref p1), some (.int x2), some (.ref p3), some (.int x4), some (.int x5), some (.int ve11)]) ⟨rfl, rfl, rfl, rfl, rfl, rfl, rfl, trivial⟩ (xt_297_81  hg297 ih hP p1 x2 p3 x4 x5 ve11 sce11 mre11 are11 ale11 hp1 hp3 h)
        · have h := (if_neg c13).symm.trans h
          refine gl_iinc (vs2 := [some (.ref 773), some (.ref p1), some (.int x2), some (.ref p3), some (.int x4), some (.int (x5 + (1 : Int32))), some (.int ve11)]) (gX_LK b) y_297_144 rfl rfl rfl ci_1 rfl rfl ?_
          refine gl_goto (gX_LK b) y_297_147 rfl ?_
          exact gl_weak (vs := [some (.ref 773), some (.ref p1), some (.int x2), some (.ref p3), some (.int x4), some (.int (x5 + (1 : Int32))), none]) ⟨rfl, rfl, rfl, rfl, rfl, rfl, trivial⟩ (ih p1 x2 p3 x4 (x5 + (1 : Int32)) sce11 mre11 are11 ale11 hp1 hp3 h)
def xF_297 (g297 : Nat → Int32 → jSc → (Nat → Nat) → jSc → jAl → Option (Int32 × jSc × (Nat → Nat) × jSc × jAl)) (p1 : Nat) (x2 : Int32) (sc : jSc) (mr : (Nat → Nat)) (ar : jSc) (al : jAl) : Option (Int32 × jSc × (Nat → Nat) × jSc × jAl) :=
  (o_b5 (xF_211 p1 sc mr ar al) (fun ve14 sce14 mre14 are14 ale14 => (if ve14 = 0 then (if x2 ≤ 0 then some ((0 : Int32), sce14, mre14, are14, ale14) else (if x2 < (3 : Int32) then (if iB (x2 - (1 : Int32)) 3 then (o_b5 (xF_233 p1 sce14 mre14 are14 ale14) (fun ve19 sce19 mre19 are19 ale19 => (if ve19 = 0 then xF_297_50 g297 oF p1 x2 (783 + 2 * iN (x2 - (1 : Int32))) (1 : Int32) (0 : Int32) sce19 mre19 are19 ale19 else xF_297_50 g297 oF p1 x2 (783 + 2 * iN (x2 - (1 : Int32))) (0 : Int32) (0 : Int32) sce19 mre19 are19 ale19))) else none) else some ((0 : Int32), sce14, mre14, are14, ale14))) else some ((1 : Int32), sce14, mre14, are14, ale14))))
set_option maxHeartbeats 4000000 in
theorem xt_297 {b : Bool} {rf : jRf} {d : Nat} {g297 : Nat → Int32 → jSc → (Nat → Nat) → jSc → jAl → Option (Int32 × jSc × (Nat → Nat) × jSc × jAl)} (hg297 : xT_297 b rf g297 (d + 4)) : xT_297 b rf (xF_297 g297) (d + 5) := by
  intro  Post p1 x2 hp1 sc mr ar al r9 sc9 mr9 ar9 al9 h hP
  unfold xF_297 at h
  refine gl_entry (m := 4) rfl ?_
  show gL (gX b) 297 (d + 5) 0 [some (.ref 773), some (.ref p1), some (.int x2), none, none, none, none] [] sc (x_mk mr rf) ar al Post
  refine gl_aload_n (gX_LK b) y_297_0 rfl rfl ?_
  refine gl_getA (gX_LK b) y_297_1 yf_297_78 ys_773 rfl rfl rfl rfl ?_
  refine gl_aload_n (gX_LK b) y_297_4 rfl rfl ?_
  obtain ⟨ve14, sce14, mre14, are14, ale14, e14, h⟩ := o_k5 h
  refine gl_callV (gX_LK b) y_297_5 ym_297_183 rfl rfl rfl ys_757 yx_211 rfl rfl ((xt_211 )  _ _ hp1 _ _ _ _ _ _ _ _ _ e14 ?_)
  refine gl_if_eq (gX_LK b) y_297_8 rfl rfl (fun c15 => ?_) (fun c15 => ?_)
  · have h := (if_pos c15).symm.trans h
    refine gl_iload_n (gX_LK b) y_297_13 rfl rfl ?_
    refine gl_if_le (gX_LK b) y_297_14 rfl rfl (fun c16 => ?_) (fun c16 => ?_)
    · have h := (if_pos c16).symm.trans h
      refine gl_iconst (gX_LK b) y_297_22 ci_0 rfl ?_
      exact gl_ireturn y_297_23 (Or.inr ⟨yt_297, Or.inl rfl⟩) (by cases h; exact hP)
    · have h := (if_neg c16).symm.trans h
      refine gl_iload_n (gX_LK b) y_297_17 rfl rfl ?_
      refine gl_iconst (gX_LK b) y_297_18 ci_3 rfl ?_
      refine gl_ic_lt (gX_LK b) y_297_19 rfl rfl (fun c17 => ?_) (fun c17 => ?_)
      · have h := (if_pos c17).symm.trans h
        refine gl_aload_n (gX_LK b) y_297_24 rfl rfl ?_
        refine gl_getA (gX_LK b) y_297_25 yf_297_36 ys_773 rfl rfl rfl rfl ?_
        refine gl_iload_n (gX_LK b) y_297_28 rfl rfl ?_
        refine gl_iconst (gX_LK b) y_297_29 ci_1 rfl ?_
        refine gl_isub (gX_LK b) y_297_30 rfl ?_
        obtain ⟨c18, h⟩ := o_ck h
        refine gl_aaload (gX_LK b) y_297_31 ys_782 c18 (Or.inl rfl) (yo_782 (iB_lt c18)) rfl ?_
        refine gl_astore_n (vs2 := [some (.ref 773), some (.ref p1), some (.int x2), some (.ref (783 + 2 * iN (x2 - (1 : Int32)))), none, none, none]) (gX_LK b) y_297_32 rfl rfl rfl rfl ?_
        refine gl_aload_n (gX_LK b) y_297_33 rfl rfl ?_
        obtain ⟨ve19, sce19, mre19, are19, ale19, e19, h⟩ := o_k5 h
        refine gl_callV (gX_LK b) y_297_34 ym_297_167 rfl rfl rfl (ys_pg hp1) yx_233 rfl rfl ((xt_233 )  _ _ hp1 _ _ _ _ _ _ _ _ _ e19 ?_)
        refine gl_if_ne (gX_LK b) y_297_37 rfl rfl (fun c20 => ?_) (fun c20 => ?_)
        · have h := (if_pos c20).symm.trans h
          refine gl_iconst (gX_LK b) y_297_40 ci_1 rfl ?_
          refine gl_goto (gX_LK b) y_297_41 rfl ?_
          refine gl_istore (vs2 := [some (.ref 773), some (.ref p1), some (.int x2), some (.ref (783 + 2 * iN (x2 - (1 : Int32)))), some (.int (1 : Int32)), none, none]) (gX_LK b) y_297_45 rfl rfl rfl rfl ?_
          refine gl_iconst (gX_LK b) y_297_47 ci_0 rfl ?_
          refine gl_istore (vs2 := [some (.ref 773), some (.ref p1), some (.int x2), some (.ref (783 + 2 * iN (x2 - (1 : Int32)))), some (.int (1 : Int32)), some (.int (0 : Int32)), none]) (gX_LK b) y_297_48 rfl rfl rfl rfl ?_
          exact gl_weak (vs := [some (.ref 773), some (.ref p1), some (.int x2), some (.ref (783 + 2 * iN (x2 - (1 : Int32)))), some (.int (1 : Int32)), some (.int (0 : Int32)), none]) ⟨rfl, rfl, rfl, rfl, rfl, rfl, trivial⟩ (xt_297_50  hg297 hP oF p1 x2 (783 + 2 * iN (x2 - (1 : Int32))) (1 : Int32) (0 : Int32) sce19 mre19 are19 ale19 hp1 (pg_782 (iB_lt c18)) h)
        · have h := (if_neg c20).symm.trans h
          refine gl_iconst (gX_LK b) y_297_44 ci_0 rfl ?_
          refine gl_istore (vs2 := [some (.ref 773), some (.ref p1), some (.int x2), some (.ref (783 + 2 * iN (x2 - (1 : Int32)))), some (.int (0 : Int32)), none, none]) (gX_LK b) y_297_45 rfl rfl rfl rfl ?_
          refine gl_iconst (gX_LK b) y_297_47 ci_0 rfl ?_
          refine gl_istore (vs2 := [some (.ref 773), some (.ref p1), some (.int x2), some (.ref (783 + 2 * iN (x2 - (1 : Int32)))), some (.int (0 : Int32)), some (.int (0 : Int32)), none]) (gX_LK b) y_297_48 rfl rfl rfl rfl ?_
          exact gl_weak (vs := [some (.ref 773), some (.ref p1), some (.int x2), some (.ref (783 + 2 * iN (x2 - (1 : Int32)))), some (.int (0 : Int32)), some (.int (0 : Int32)), none]) ⟨rfl, rfl, rfl, rfl, rfl, rfl, trivial⟩ (xt_297_50  hg297 hP oF p1 x2 (783 + 2 * iN (x2 - (1 : Int32))) (0 : Int32) (0 : Int32) sce19 mre19 are19 ale19 hp1 (pg_782 (iB_lt c18)) h)
      · have h := (if_neg c17).symm.trans h
        refine gl_iconst (gX_LK b) y_297_22 ci_0 rfl ?_
        exact gl_ireturn y_297_23 (Or.inr ⟨yt_297, Or.inl rfl⟩) (by cases h; exact hP)
  · have h := (if_neg c15).symm.trans h
    refine gl_iconst (gX_LK b) y_297_11 ci_1 rfl ?_
    exact gl_ireturn y_297_12 (Or.inr ⟨yt_297, Or.inr rfl⟩) (by cases h; exact hP)
def xG_297 : Nat → (Nat → Int32 → jSc → (Nat → Nat) → jSc → jAl → Option (Int32 × jSc × (Nat → Nat) × jSc × jAl))
  | 0 => (fun _ _ _ _ _ _ => none)
  | n + 1 => (xF_297 (xG_297 n))
theorem xtG_297 {b : Bool} {rf : jRf} {d : Nat} : ∀ n : Nat, xT_297 b rf (xG_297 n) (d + n + 4) := by
  intro n
  induction n with
  | zero =>
    · intro  Post p1 x2 hp1 sc mr ar al r9 sc9 mr9 ar9 al9 h hP
      cases (show (none : Option (Int32 × jSc × (Nat → Nat) × jSc × jAl)) = some _ from h)
  | succ n ih =>
    have e : d + n + 4 + 1 = d + (n + 1) + 4 := by omega
    rw [← e]
    exact xt_297  (d := d + n) ih
/-- ClickOrders$Search.gets(II)Z -/
def xT_296 (b : Bool) (rf : jRf) (F : Int32 → Int32 → jSc → (Nat → Nat) → jSc → jAl → Option (Int32 × jSc × (Nat → Nat) × jSc × jAl)) (e : Nat) : Prop := ∀  (Post : jPo) (x1 : Int32) (x2 : Int32) (sc : jSc) (mr : (Nat → Nat)) (ar : jSc) (al : jAl) (r9 : Int32) (sc9 : jSc) (mr9 : (Nat → Nat)) (ar9 : jSc) (al9 : jAl), F x1 x2 sc mr ar al = some (r9, sc9, mr9, ar9, al9) → Post (some (.int r9)) sc9 (x_mk mr9 rf) ar9 al9 → gW (gX b) 296 e 0 (j_av [.ref 773, .int x1, .int x2]) [] sc (x_mk mr rf) ar al Post
def xF_296_256 (g296 : Int32 → Int32 → jSc → (Nat → Nat) → jSc → jAl → Option (Int32 × jSc × (Nat → Nat) × jSc × jAl)) (x1 : Int32) (x2 : Int32) (x4 : Int32) (sc : jSc) (mr : (Nat → Nat)) (ar : jSc) (al : jAl) : Option (Int32 × jSc × (Nat → Nat) × jSc × jAl) :=
  (if x4 = 0 then (if iB x1 2048 then (if x4 = 0 ∨ x4 = 1 then some (x4, sc, mr, (j_u2 ar 794 (iN x1) x2), al) else none) else none) else (if iB x1 2048 then (if x4 = 0 ∨ x4 = 1 then some (x4, sc, mr, (j_u2 ar 793 (iN x1) x2), al) else none) else none))
set_option maxHeartbeats 4000000 in
theorem xt_296_256 {b : Bool} {rf : jRf} {d : Nat} {g296 : Int32 → Int32 → jSc → (Nat → Nat) → jSc → jAl → Option (Int32 × jSc × (Nat → Nat) × jSc × jAl)} (hg296 : xT_296 b rf g296 (d + 44)) {Post : jPo} {r9 : Int32} {sc9 : jSc} {mr9 : (Nat → Nat)} {ar9 : jSc} {al9 : jAl} (hP : Post (some (.int r9)) sc9 (x_mk mr9 rf) ar9 al9) (x1 : Int32) (x2 : Int32) (x4 : Int32) (sc : jSc) (mr : (Nat → Nat)) (ar : jSc) (al : jAl) (h : xF_296_256 g296 x1 x2 x4 sc mr ar al = some (r9, sc9, mr9, ar9, al9)) : gL (gX b) 296 (d + 45) 256 [some (.ref 773), some (.int x1), some (.int x2), none, some (.int x4), none, none] [] sc (x_mk mr rf) ar al Post := by
  unfold xF_296_256 at h
  refine gl_iload (gX_LK b) y_296_256 rfl rfl ?_
  refine gl_if_eq (gX_LK b) y_296_258 rfl rfl (fun c1 => ?_) (fun c1 => ?_)
  · have h := (if_pos c1).symm.trans h
    refine gl_aload_n (gX_LK b) y_296_271 rfl rfl ?_
    refine gl_getA (gX_LK b) y_296_272 yf_296_57 ys_773 rfl rfl rfl rfl ?_
    refine gl_iload_n (gX_LK b) y_296_275 rfl rfl ?_
    refine gl_iload_n (gX_LK b) y_296_276 rfl rfl ?_
    obtain ⟨c2, h⟩ := o_ck h
    refine gl_iastore (ar2 := (j_u2 ar 794 (iN x1) x2)) (gX_LK b) y_296_277 ys_794 c2 rfl rfl ?_
    refine gl_iload (gX_LK b) y_296_278 rfl rfl ?_
    obtain ⟨c3, h⟩ := o_ck h
    exact gl_ireturn y_296_280 (Or.inr ⟨yt_296, c3⟩) (by cases h; exact hP)
  · have h := (if_neg c1).symm.trans h
    refine gl_aload_n (gX_LK b) y_296_261 rfl rfl ?_
    refine gl_getA (gX_LK b) y_296_262 yf_296_54 ys_773 rfl rfl rfl rfl ?_
    refine gl_iload_n (gX_LK b) y_296_265 rfl rfl ?_
    refine gl_iload_n (gX_LK b) y_296_266 rfl rfl ?_
    obtain ⟨c4, h⟩ := o_ck h
    refine gl_iastore (ar2 := (j_u2 ar 793 (iN x1) x2)) (gX_LK b) y_296_267 ys_793 c4 rfl rfl ?_
    refine gl_goto (gX_LK b) y_296_268 rfl ?_
    refine gl_iload (gX_LK b) y_296_278 rfl rfl ?_
    obtain ⟨c5, h⟩ := o_ck h
    exact gl_ireturn y_296_280 (Or.inr ⟨yt_296, c5⟩) (by cases h; exact hP)
def xF_296_153 (g296 : Int32 → Int32 → jSc → (Nat → Nat) → jSc → jAl → Option (Int32 × jSc × (Nat → Nat) × jSc × jAl)) : Nat → Int32 → Int32 → Nat → Int32 → Int32 → jSc → (Nat → Nat) → jSc → jAl → Option (Int32 × jSc × (Nat → Nat) × jSc × jAl)
  | 0, _, _, _, _, _, _, _, _, _ => none
  | nn + 1, x1, x2, p3, x4, x5, sc, mr, ar, al => (if (13 : Int32) ≤ x5 then xF_296_256 g296 x1 x2 x4 sc mr ar al else (if x4 = 0 then (if iB ((x1 * (13 : Int32)) + x5) 26624 then (if (ar 791 (iN ((x1 * (13 : Int32)) + x5))) = (-2 : Int32) then (o_b4 (xF_222 x1 p3 sc mr ar al) (fun sce10 mre10 are10 ale10 => (o_b5 (xF_209 p3 x5 (-1 : Int32) sce10 mre10 are10 ale10) (fun ve11 sce11 mre11 are11 ale11 => (o_b5 ((xG_297 40) p3 (x2 - (1 : Int32)) sce11 mre11 are11 ale11) (fun ve12 sce12 mre12 are12 ale12 => xF_296_153 g296 nn x1 x2 p3 ve12 (x5 + (1 : Int32)) sce12 mre12 are12 ale12)))))) else (if (ar 791 (iN ((x1 * (13 : Int32)) + x5))) < 0 then xF_296_153 g296 nn x1 x2 p3 (0 : Int32) (x5 + (1 : Int32)) sc mr ar al else (if (ar 791 (iN ((x1 * (13 : Int32)) + x5))) = x1 then xF_296_153 g296 nn x1 x2 p3 (0 : Int32) (x5 + (1 : Int32)) sc mr ar al else (o_b5 (g296 (ar 791 (iN ((x1 * (13 : Int32)) + x5))) (x2 - (1 : Int32)) sc mr ar al) (fun ve15 sce15 mre15 are15 ale15 => (if ve15 = 0 then xF_296_153 g296 nn x1 x2 p3 (0 : Int32) (x5 + (1 : Int32)) sce15 mre15 are15 ale15 else xF_296_153 g296 nn x1 x2 p3 (1 : Int32) (x5 + (1 : Int32)) sce15 mre15 are15 ale15)))))) else none) else xF_296_256 g296 x1 x2 x4 sc mr ar al))
set_option maxHeartbeats 4000000 in
theorem xt_296_153 {b : Bool} {rf : jRf} {d : Nat} {g296 : Int32 → Int32 → jSc → (Nat → Nat) → jSc → jAl → Option (Int32 × jSc × (Nat → Nat) × jSc × jAl)} (hg296 : xT_296 b rf g296 (d + 44)) {Post : jPo} {r9 : Int32} {sc9 : jSc} {mr9 : (Nat → Nat)} {ar9 : jSc} {al9 : jAl} (hP : Post (some (.int r9)) sc9 (x_mk mr9 rf) ar9 al9) : ∀ (nn : Nat) (x1 : Int32) (x2 : Int32) (p3 : Nat) (x4 : Int32) (x5 : Int32) (sc : jSc) (mr : (Nat → Nat)) (ar : jSc) (al : jAl), x_pg p3 = true → xF_296_153 g296 nn x1 x2 p3 x4 x5 sc mr ar al = some (r9, sc9, mr9, ar9, al9) → gL (gX b) 296 (d + 45) 153 [some (.ref 773), some (.int x1), some (.int x2), some (.ref p3), some (.int x4), some (.int x5), none] [] sc (x_mk mr rf) ar al Post := by
  intro nn
  induction nn with
  | zero =>
    intro x1 x2 p3 x4 x5 sc mr ar al hp3 h
    have h : (none : Option (Int32 × jSc × (Nat → Nat) × jSc × jAl)) = some _ := h
    cases h
  | succ nn ih =>
    intro x1 x2 p3 x4 x5 sc mr ar al hp3 h
    unfold xF_296_153 at h
    refine gl_iload (gX_LK b) y_296_153 rfl rfl ?_
    refine gl_bipush (gX_LK b) y_296_155 cb_13 rfl ?_
    refine gl_ic_ge (gX_LK b) y_296_157 rfl rfl (fun c6 => ?_) (fun c6 => ?_)
    · have h := (if_pos c6).symm.trans h
      exact gl_weak (vs := [some (.ref 773), some (.int x1), some (.int x2), none, some (.int x4), none, none]) ⟨rfl, rfl, rfl, rfl, trivial⟩ (xt_296_256  hg296 hP x1 x2 x4 sc mr ar al h)
    · have h := (if_neg c6).symm.trans h
      refine gl_iload (gX_LK b) y_296_160 rfl rfl ?_
      refine gl_if_ne (gX_LK b) y_296_162 rfl rfl (fun c7 => ?_) (fun c7 => ?_)
      · have h := (if_pos c7).symm.trans h
        refine gl_aload_n (gX_LK b) y_296_165 rfl rfl ?_
        refine gl_getA (gX_LK b) y_296_166 yf_296_47 ys_773 rfl rfl rfl rfl ?_
        refine gl_iload_n (gX_LK b) y_296_169 rfl rfl ?_
        refine gl_bipush (gX_LK b) y_296_170 cb_13 rfl ?_
        refine gl_imul (gX_LK b) y_296_172 rfl ?_
        refine gl_iload (gX_LK b) y_296_173 rfl rfl ?_
        refine gl_iadd (gX_LK b) y_296_175 rfl ?_
        obtain ⟨c8, h⟩ := o_ck h
        refine gl_iaload (gX_LK b) y_296_176 ys_791 c8 rfl rfl ?_
        refine gl_istore (vs2 := [some (.ref 773), some (.int x1), some (.int x2), some (.ref p3), some (.int x4), some (.int x5), some (.int (ar 791 (iN ((x1 * (13 : Int32)) + x5))))]) (gX_LK b) y_296_177 rfl rfl rfl rfl ?_
        refine gl_iload (gX_LK b) y_296_179 rfl rfl ?_
        refine gl_bipush (gX_LK b) y_296_181 cb_m2 rfl ?_
        refine gl_ic_ne (gX_LK b) y_296_183 rfl rfl (fun c9 => ?_) (fun c9 => ?_)
        · have h := (if_pos c9).symm.trans h
          refine gl_aload_n (gX_LK b) y_296_186 rfl rfl ?_
          refine gl_getA (gX_LK b) y_296_187 yf_296_22 ys_773 rfl rfl rfl rfl ?_
          refine gl_iload_n (gX_LK b) y_296_190 rfl rfl ?_
          refine gl_aload_n (gX_LK b) y_296_191 rfl rfl ?_
          obtain ⟨sce10, mre10, are10, ale10, e10, h⟩ := o_k4 h
          refine gl_callV (gX_LK b) y_296_192 ym_296_163 rfl rfl rfl ys_774 yx_222 rfl rfl ((xt_222 )  _ _ _ hp3 _ _ _ _ _ _ _ _ e10 ?_)
          refine gl_aload_n (gX_LK b) y_296_195 rfl rfl ?_
          refine gl_getA (gX_LK b) y_296_196 yf_296_78 ys_773 rfl rfl rfl rfl ?_
          refine gl_aload_n (gX_LK b) y_296_199 rfl rfl ?_
          refine gl_iload (gX_LK b) y_296_200 rfl rfl ?_
          refine gl_iconst (gX_LK b) y_296_202 ci_m1 rfl ?_
          obtain ⟨ve11, sce11, mre11, are11, ale11, e11, h⟩ := o_k5 h
          refine gl_callV (gX_LK b) y_296_203 ym_296_159 rfl rfl rfl ys_757 yx_209 rfl rfl ((xt_209 )  _ _ _ _ hp3 _ _ _ _ _ _ _ _ _ e11 ?_)
          refine gl_pop (gX_LK b) y_296_206 rfl rfl ?_
          refine gl_aload_n (gX_LK b) y_296_207 rfl rfl ?_
          refine gl_aload_n (gX_LK b) y_296_208 rfl rfl ?_
          refine gl_iload_n (gX_LK b) y_296_209 rfl rfl ?_
          refine gl_iconst (gX_LK b) y_296_210 ci_1 rfl ?_
          refine gl_isub (gX_LK b) y_296_211 rfl ?_
          obtain ⟨ve12, sce12, mre12, are12, ale12, e12, h⟩ := o_k5 h
          refine gl_callV (gX_LK b) y_296_212 ym_296_186 rfl rfl rfl ys_773 yx_297 rfl rfl (((xtG_297  40))  _ _ _ hp3 _ _ _ _ _ _ _ _ _ e12 ?_)
          refine gl_istore (vs2 := [some (.ref 773), some (.int x1), some (.int x2), some (.ref p3), some (.int ve12), some (.int x5), some (.int (ar 791 (iN ((x1 * (13 : Int32)) + x5))))]) (gX_LK b) y_296_215 rfl rfl rfl rfl ?_
          refine gl_goto (gX_LK b) y_296_217 rfl ?_
          refine gl_iinc (vs2 := [some (.ref 773), some (.int x1), some (.int x2), some (.ref p3), some (.int ve12), some (.int (x5 + (1 : Int32))), some (.int (ar 791 (iN ((x1 * (13 : Int32)) + x5))))]) (gX_LK b) y_296_250 rfl rfl rfl ci_1 rfl rfl ?_
          refine gl_goto (gX_LK b) y_296_253 rfl ?_
          exact gl_weak (vs := [some (.ref 773), some (.int x1), some (.int x2), some (.ref p3), some (.int ve12), some (.int (x5 + (1 : Int32))), none]) ⟨rfl, rfl, rfl, rfl, rfl, rfl, trivial⟩ (ih x1 x2 p3 ve12 (x5 + (1 : Int32)) sce12 mre12 are12 ale12 hp3 h)
        · have h := (if_neg c9).symm.trans h
          refine gl_iload (gX_LK b) y_296_220 rfl rfl ?_
          refine gl_if_lt (gX_LK b) y_296_222 rfl rfl (fun c13 => ?_) (fun c13 => ?_)
          · have h := (if_pos c13).symm.trans h
            refine gl_iconst (gX_LK b) y_296_247 ci_0 rfl ?_
            refine gl_istore (vs2 := [some (.ref 773), some (.int x1), some (.int x2), some (.ref p3), some (.int (0 : Int32)), some (.int x5), some (.int (ar 791 (iN ((x1 * (13 : Int32)) + x5))))]) (gX_LK b) y_296_248 rfl rfl rfl rfl ?_
            refine gl_iinc (vs2 := [some (.ref 773), some (.int x1), some (.int x2), some (.ref p3), some (.int (0 : Int32)), some (.int (x5 + (1 : Int32))), some (.int (ar 791 (iN ((x1 * (13 : Int32)) + x5))))]) (gX_LK b) y_296_250 rfl rfl rfl ci_1 rfl rfl ?_
            refine gl_goto (gX_LK b) y_296_253 rfl ?_
            exact gl_weak (vs := [some (.ref 773), some (.int x1), some (.int x2), some (.ref p3), some (.int (0 : Int32)), some (.int (x5 + (1 : Int32))), none]) ⟨rfl, rfl, rfl, rfl, rfl, rfl, trivial⟩ (ih x1 x2 p3 (0 : Int32) (x5 + (1 : Int32)) sc mr ar al hp3 h)
          · have h := (if_neg c13).symm.trans h
            refine gl_iload (gX_LK b) y_296_225 rfl rfl ?_
            refine gl_iload_n (gX_LK b) y_296_227 rfl rfl ?_
            refine gl_ic_eq (gX_LK b) y_296_228 rfl rfl (fun c14 => ?_) (fun c14 => ?_)
            · have h := (if_pos c14).symm.trans h
              refine gl_iconst (gX_LK b) y_296_247 ci_0 rfl ?_
              refine gl_istore (vs2 := [some (.ref 773), some (.int x1), some (.int x2), some (.ref p3), some (.int (0 : Int32)), some (.int x5), some (.int (ar 791 (iN ((x1 * (13 : Int32)) + x5))))]) (gX_LK b) y_296_248 rfl rfl rfl rfl ?_
              refine gl_iinc (vs2 := [some (.ref 773), some (.int x1), some (.int x2), some (.ref p3), some (.int (0 : Int32)), some (.int (x5 + (1 : Int32))), some (.int (ar 791 (iN ((x1 * (13 : Int32)) + x5))))]) (gX_LK b) y_296_250 rfl rfl rfl ci_1 rfl rfl ?_
              refine gl_goto (gX_LK b) y_296_253 rfl ?_
              exact gl_weak (vs := [some (.ref 773), some (.int x1), some (.int x2), some (.ref p3), some (.int (0 : Int32)), some (.int (x5 + (1 : Int32))), none]) ⟨rfl, rfl, rfl, rfl, rfl, rfl, trivial⟩ (ih x1 x2 p3 (0 : Int32) (x5 + (1 : Int32)) sc mr ar al hp3 h)
            · have h := (if_neg c14).symm.trans h
              refine gl_aload_n (gX_LK b) y_296_231 rfl rfl ?_
              refine gl_iload (gX_LK b) y_296_232 rfl rfl ?_
              refine gl_iload_n (gX_LK b) y_296_234 rfl rfl ?_
              refine gl_iconst (gX_LK b) y_296_235 ci_1 rfl ?_
              refine gl_isub (gX_LK b) y_296_236 rfl ?_
              obtain ⟨ve15, sce15, mre15, are15, ale15, e15, h⟩ := o_k5 h
              refine gl_callV (gX_LK b) y_296_237 ym_296_138 rfl rfl rfl ys_773 yx_296 rfl rfl (hg296  _ _ _ _ _ _ _ _ _ _ _ _ e15 ?_)
              refine gl_if_eq (gX_LK b) y_296_240 rfl rfl (fun c16 => ?_) (fun c16 => ?_)
              · have h := (if_pos c16).symm.trans h
                refine gl_iconst (gX_LK b) y_296_247 ci_0 rfl ?_
                refine gl_istore (vs2 := [some (.ref 773), some (.int x1), some (.int x2), some (.ref p3), some (.int (0 : Int32)), some (.int x5), some (.int (ar 791 (iN ((x1 * (13 : Int32)) + x5))))]) (gX_LK b) y_296_248 rfl rfl rfl rfl ?_
                refine gl_iinc (vs2 := [some (.ref 773), some (.int x1), some (.int x2), some (.ref p3), some (.int (0 : Int32)), some (.int (x5 + (1 : Int32))), some (.int (ar 791 (iN ((x1 * (13 : Int32)) + x5))))]) (gX_LK b) y_296_250 rfl rfl rfl ci_1 rfl rfl ?_
                refine gl_goto (gX_LK b) y_296_253 rfl ?_
                exact gl_weak (vs := [some (.ref 773), some (.int x1), some (.int x2), some (.ref p3), some (.int (0 : Int32)), some (.int (x5 + (1 : Int32))), none]) ⟨rfl, rfl, rfl, rfl, rfl, rfl, trivial⟩ (ih x1 x2 p3 (0 : Int32) (x5 + (1 : Int32)) sce15 mre15 are15 ale15 hp3 h)
              · have h := (if_neg c16).symm.trans h
                refine gl_iconst (gX_LK b) y_296_243 ci_1 rfl ?_
                refine gl_goto (gX_LK b) y_296_244 rfl ?_
                refine gl_istore (vs2 := [some (.ref 773), some (.int x1), some (.int x2), some (.ref p3), some (.int (1 : Int32)), some (.int x5), some (.int (ar 791 (iN ((x1 * (13 : Int32)) + x5))))]) (gX_LK b) y_296_248 rfl rfl rfl rfl ?_
                refine gl_iinc (vs2 := [some (.ref 773), some (.int x1), some (.int x2), some (.ref p3), some (.int (1 : Int32)), some (.int (x5 + (1 : Int32))), some (.int (ar 791 (iN ((x1 * (13 : Int32)) + x5))))]) (gX_LK b) y_296_250 rfl rfl rfl ci_1 rfl rfl ?_
                refine gl_goto (gX_LK b) y_296_253 rfl ?_
                exact gl_weak (vs := [some (.ref 773), some (.int x1), some (.int x2), some (.ref p3), some (.int (1 : Int32)), some (.int (x5 + (1 : Int32))), none]) ⟨rfl, rfl, rfl, rfl, rfl, rfl, trivial⟩ (ih x1 x2 p3 (1 : Int32) (x5 + (1 : Int32)) sce15 mre15 are15 ale15 hp3 h)
      · have h := (if_neg c7).symm.trans h
        exact gl_weak (vs := [some (.ref 773), some (.int x1), some (.int x2), none, some (.int x4), none, none]) ⟨rfl, rfl, rfl, rfl, trivial⟩ (xt_296_256  hg296 hP x1 x2 x4 sc mr ar al h)
def xF_296_131 (g296 : Int32 → Int32 → jSc → (Nat → Nat) → jSc → jAl → Option (Int32 × jSc × (Nat → Nat) × jSc × jAl)) (x1 : Int32) (x2 : Int32) (p3 : Nat) (x4 : Int32) (sc : jSc) (mr : (Nat → Nat)) (ar : jSc) (al : jAl) : Option (Int32 × jSc × (Nat → Nat) × jSc × jAl) :=
  (if x2 ≤ 0 then xF_296_256 g296 x1 x2 x4 sc mr ar al else (if iB x1 2048 then (if (ar 792 (iN x1)) = 0 then (o_b4 (xF_293 x1 (1 : Int32) sc mr ar al) (fun sce20 mre20 are20 ale20 => xF_296_153 g296 oF x1 x2 p3 x4 (0 : Int32) sce20 mre20 are20 ale20)) else xF_296_153 g296 oF x1 x2 p3 x4 (0 : Int32) sc mr ar al) else none))
set_option maxHeartbeats 4000000 in
theorem xt_296_131 {b : Bool} {rf : jRf} {d : Nat} {g296 : Int32 → Int32 → jSc → (Nat → Nat) → jSc → jAl → Option (Int32 × jSc × (Nat → Nat) × jSc × jAl)} (hg296 : xT_296 b rf g296 (d + 44)) {Post : jPo} {r9 : Int32} {sc9 : jSc} {mr9 : (Nat → Nat)} {ar9 : jSc} {al9 : jAl} (hP : Post (some (.int r9)) sc9 (x_mk mr9 rf) ar9 al9) (x1 : Int32) (x2 : Int32) (p3 : Nat) (x4 : Int32) (sc : jSc) (mr : (Nat → Nat)) (ar : jSc) (al : jAl) (hp3 : x_pg p3 = true) (h : xF_296_131 g296 x1 x2 p3 x4 sc mr ar al = some (r9, sc9, mr9, ar9, al9)) : gL (gX b) 296 (d + 45) 131 [some (.ref 773), some (.int x1), some (.int x2), some (.ref p3), some (.int x4), none, none] [] sc (x_mk mr rf) ar al Post := by
  unfold xF_296_131 at h
  refine gl_iload_n (gX_LK b) y_296_131 rfl rfl ?_
  refine gl_if_le (gX_LK b) y_296_132 rfl rfl (fun c17 => ?_) (fun c17 => ?_)
  · have h := (if_pos c17).symm.trans h
    exact gl_weak (vs := [some (.ref 773), some (.int x1), some (.int x2), none, some (.int x4), none, none]) ⟨rfl, rfl, rfl, rfl, trivial⟩ (xt_296_256  hg296 hP x1 x2 x4 sc mr ar al h)
  · have h := (if_neg c17).symm.trans h
    refine gl_aload_n (gX_LK b) y_296_135 rfl rfl ?_
    refine gl_getA (gX_LK b) y_296_136 yf_296_50 ys_773 rfl rfl rfl rfl ?_
    refine gl_iload_n (gX_LK b) y_296_139 rfl rfl ?_
    obtain ⟨c18, h⟩ := o_ck h
    refine gl_baload (gX_LK b) y_296_140 ys_792 c18 rfl rfl ?_
    refine gl_if_ne (gX_LK b) y_296_141 rfl rfl (fun c19 => ?_) (fun c19 => ?_)
    · have h := (if_pos c19).symm.trans h
      refine gl_aload_n (gX_LK b) y_296_144 rfl rfl ?_
      refine gl_iload_n (gX_LK b) y_296_145 rfl rfl ?_
      refine gl_iconst (gX_LK b) y_296_146 ci_1 rfl ?_
      obtain ⟨sce20, mre20, are20, ale20, e20, h⟩ := o_k4 h
      refine gl_callV (gX_LK b) y_296_147 ym_296_115 rfl rfl rfl ys_773 yx_293 rfl rfl ((xt_293 )  _ _ _ _ _ _ _ _ _ _ _ e20 ?_)
      refine gl_iconst (gX_LK b) y_296_150 ci_0 rfl ?_
      refine gl_istore (vs2 := [some (.ref 773), some (.int x1), some (.int x2), some (.ref p3), some (.int x4), some (.int (0 : Int32)), none]) (gX_LK b) y_296_151 rfl rfl rfl rfl ?_
      exact gl_weak (vs := [some (.ref 773), some (.int x1), some (.int x2), some (.ref p3), some (.int x4), some (.int (0 : Int32)), none]) ⟨rfl, rfl, rfl, rfl, rfl, rfl, trivial⟩ (xt_296_153  hg296 hP oF x1 x2 p3 x4 (0 : Int32) sce20 mre20 are20 ale20 hp3 h)
    · have h := (if_neg c19).symm.trans h
      refine gl_iconst (gX_LK b) y_296_150 ci_0 rfl ?_
      refine gl_istore (vs2 := [some (.ref 773), some (.int x1), some (.int x2), some (.ref p3), some (.int x4), some (.int (0 : Int32)), none]) (gX_LK b) y_296_151 rfl rfl rfl rfl ?_
      exact gl_weak (vs := [some (.ref 773), some (.int x1), some (.int x2), some (.ref p3), some (.int x4), some (.int (0 : Int32)), none]) ⟨rfl, rfl, rfl, rfl, rfl, rfl, trivial⟩ (xt_296_153  hg296 hP oF x1 x2 p3 x4 (0 : Int32) sc mr ar al hp3 h)
def xF_296_87 (g296 : Int32 → Int32 → jSc → (Nat → Nat) → jSc → jAl → Option (Int32 × jSc × (Nat → Nat) × jSc × jAl)) (x1 : Int32) (x2 : Int32) (sc : jSc) (mr : (Nat → Nat)) (ar : jSc) (al : jAl) : Option (Int32 × jSc × (Nat → Nat) × jSc × jAl) :=
  (if x2 = (1 : Int32) then (if iB x1 2048 then (if (ar 792 (iN x1)) = 0 then (o_b4 (xF_222 x1 787 sc mr ar al) (fun sce24 mre24 are24 ale24 => (o_b5 ((xG_297 40) 787 (1 : Int32) sce24 mre24 are24 ale24) (fun ve25 sce25 mre25 are25 ale25 => xF_296_256 g296 x1 x2 ve25 sce25 mre25 are25 ale25)))) else xF_296_131 g296 x1 x2 787 (0 : Int32) sc mr ar al) else none) else xF_296_131 g296 x1 x2 787 (0 : Int32) sc mr ar al)
set_option maxHeartbeats 4000000 in
theorem xt_296_87 {b : Bool} {rf : jRf} {d : Nat} {g296 : Int32 → Int32 → jSc → (Nat → Nat) → jSc → jAl → Option (Int32 × jSc × (Nat → Nat) × jSc × jAl)} (hg296 : xT_296 b rf g296 (d + 44)) {Post : jPo} {r9 : Int32} {sc9 : jSc} {mr9 : (Nat → Nat)} {ar9 : jSc} {al9 : jAl} (hP : Post (some (.int r9)) sc9 (x_mk mr9 rf) ar9 al9) (x1 : Int32) (x2 : Int32) (sc : jSc) (mr : (Nat → Nat)) (ar : jSc) (al : jAl) (h : xF_296_87 g296 x1 x2 sc mr ar al = some (r9, sc9, mr9, ar9, al9)) : gL (gX b) 296 (d + 45) 87 [some (.ref 773), some (.int x1), some (.int x2), none, none, none, none] [] sc (x_mk mr rf) ar al Post := by
  unfold xF_296_87 at h
  refine gl_aload_n (gX_LK b) y_296_87 rfl rfl ?_
  refine gl_getA (gX_LK b) y_296_88 yf_296_36 ys_773 rfl rfl rfl rfl ?_
  refine gl_iconst (gX_LK b) y_296_91 ci_2 rfl ?_
  refine gl_aaload (q := 787) (gX_LK b) y_296_92 ys_782 (show iB (2 : Int32) 3 by decide) (Or.inl rfl) (yo_782 (i := 2) (by decide)) rfl ?_
  refine gl_astore_n (vs2 := [some (.ref 773), some (.int x1), some (.int x2), some (.ref 787), none, none, none]) (gX_LK b) y_296_93 rfl rfl rfl rfl ?_
  refine gl_iconst (gX_LK b) y_296_94 ci_0 rfl ?_
  refine gl_istore (vs2 := [some (.ref 773), some (.int x1), some (.int x2), some (.ref 787), some (.int (0 : Int32)), none, none]) (gX_LK b) y_296_95 rfl rfl rfl rfl ?_
  refine gl_iload_n (gX_LK b) y_296_97 rfl rfl ?_
  refine gl_iconst (gX_LK b) y_296_98 ci_1 rfl ?_
  refine gl_ic_ne (gX_LK b) y_296_99 rfl rfl (fun c21 => ?_) (fun c21 => ?_)
  · have h := (if_pos c21).symm.trans h
    refine gl_aload_n (gX_LK b) y_296_102 rfl rfl ?_
    refine gl_getA (gX_LK b) y_296_103 yf_296_50 ys_773 rfl rfl rfl rfl ?_
    refine gl_iload_n (gX_LK b) y_296_106 rfl rfl ?_
    obtain ⟨c22, h⟩ := o_ck h
    refine gl_baload (gX_LK b) y_296_107 ys_792 c22 rfl rfl ?_
    refine gl_if_ne (gX_LK b) y_296_108 rfl rfl (fun c23 => ?_) (fun c23 => ?_)
    · have h := (if_pos c23).symm.trans h
      refine gl_aload_n (gX_LK b) y_296_111 rfl rfl ?_
      refine gl_getA (gX_LK b) y_296_112 yf_296_22 ys_773 rfl rfl rfl rfl ?_
      refine gl_iload_n (gX_LK b) y_296_115 rfl rfl ?_
      refine gl_aload_n (gX_LK b) y_296_116 rfl rfl ?_
      obtain ⟨sce24, mre24, are24, ale24, e24, h⟩ := o_k4 h
      refine gl_callV (gX_LK b) y_296_117 ym_296_163 rfl rfl rfl ys_774 yx_222 rfl rfl ((xt_222 )  _ _ _ (show x_pg 787 = true from rfl) _ _ _ _ _ _ _ _ e24 ?_)
      refine gl_aload_n (gX_LK b) y_296_120 rfl rfl ?_
      refine gl_aload_n (gX_LK b) y_296_121 rfl rfl ?_
      refine gl_iconst (gX_LK b) y_296_122 ci_1 rfl ?_
      obtain ⟨ve25, sce25, mre25, are25, ale25, e25, h⟩ := o_k5 h
      refine gl_callV (gX_LK b) y_296_123 ym_296_186 rfl rfl rfl ys_773 yx_297 rfl rfl (((xtG_297  40))  _ _ _ (show x_pg 787 = true from rfl) _ _ _ _ _ _ _ _ _ e25 ?_)
      refine gl_istore (vs2 := [some (.ref 773), some (.int x1), some (.int x2), some (.ref 787), some (.int ve25), none, none]) (gX_LK b) y_296_126 rfl rfl rfl rfl ?_
      refine gl_goto (gX_LK b) y_296_128 rfl ?_
      exact gl_weak (vs := [some (.ref 773), some (.int x1), some (.int x2), none, some (.int ve25), none, none]) ⟨rfl, rfl, rfl, rfl, trivial⟩ (xt_296_256  hg296 hP x1 x2 ve25 sce25 mre25 are25 ale25 h)
    · have h := (if_neg c23).symm.trans h
      exact gl_weak (vs := [some (.ref 773), some (.int x1), some (.int x2), some (.ref 787), some (.int (0 : Int32)), none, none]) ⟨rfl, rfl, rfl, rfl, rfl, trivial⟩ (xt_296_131  hg296 hP x1 x2 787 (0 : Int32) sc mr ar al (show x_pg 787 = true from rfl) h)
  · have h := (if_neg c21).symm.trans h
    exact gl_weak (vs := [some (.ref 773), some (.int x1), some (.int x2), some (.ref 787), some (.int (0 : Int32)), none, none]) ⟨rfl, rfl, rfl, rfl, rfl, trivial⟩ (xt_296_131  hg296 hP x1 x2 787 (0 : Int32) sc mr ar al (show x_pg 787 = true from rfl) h)
def xF_296 (g296 : Int32 → Int32 → jSc → (Nat → Nat) → jSc → jAl → Option (Int32 × jSc × (Nat → Nat) × jSc × jAl)) (x1 : Int32) (x2 : Int32) (sc : jSc) (mr : (Nat → Nat)) (ar : jSc) (al : jAl) : Option (Int32 × jSc × (Nat → Nat) × jSc × jAl) :=
  (if iB x1 2048 then (if (ar 793 (iN x1)) ≤ x2 then (if iB x1 2048 then (if x2 < (ar 793 (iN x1)) then some ((0 : Int32), sc, mr, ar, al) else some ((1 : Int32), sc, mr, ar, al)) else none) else (if iB x1 2048 then (if (ar 794 (iN x1)) < x2 then (if iB x1 2048 then (if 0 ≤ (ar 794 (iN x1)) then xF_296_87 g296 x1 x2 sc mr ar al else (o_b4 (xF_222 x1 780 sc mr ar al) (fun sce34 mre34 are34 ale34 => (o_b5 (xF_211 780 sce34 mre34 are34 ale34) (fun ve35 sce35 mre35 are35 ale35 => (if ve35 = 0 then (if iB x1 2048 then xF_296_87 g296 x1 x2 sce35 mre35 (j_u2 are35 794 (iN x1) (0 : Int32)) ale35 else none) else (if iB x1 2048 then some ((1 : Int32), sce35, mre35, (j_u2 are35 793 (iN x1) (0 : Int32)), ale35) else none))))))) else none) else (if iB x1 2048 then (if x2 < (ar 793 (iN x1)) then some ((0 : Int32), sc, mr, ar, al) else some ((1 : Int32), sc, mr, ar, al)) else none)) else none)) else none)
set_option maxHeartbeats 4000000 in
theorem xt_296 {b : Bool} {rf : jRf} {d : Nat} {g296 : Int32 → Int32 → jSc → (Nat → Nat) → jSc → jAl → Option (Int32 × jSc × (Nat → Nat) × jSc × jAl)} (hg296 : xT_296 b rf g296 (d + 44)) : xT_296 b rf (xF_296 g296) (d + 45) := by
  intro  Post x1 x2 sc mr ar al r9 sc9 mr9 ar9 al9 h hP
  unfold xF_296 at h
  refine gl_entry (m := 4) rfl ?_
  show gL (gX b) 296 (d + 45) 0 [some (.ref 773), some (.int x1), some (.int x2), none, none, none, none] [] sc (x_mk mr rf) ar al Post
  refine gl_aload_n (gX_LK b) y_296_0 rfl rfl ?_
  refine gl_getA (gX_LK b) y_296_1 yf_296_54 ys_773 rfl rfl rfl rfl ?_
  refine gl_iload_n (gX_LK b) y_296_4 rfl rfl ?_
  obtain ⟨c26, h⟩ := o_ck h
  refine gl_iaload (gX_LK b) y_296_5 ys_793 c26 rfl rfl ?_
  refine gl_iload_n (gX_LK b) y_296_6 rfl rfl ?_
  refine gl_ic_le (gX_LK b) y_296_7 rfl rfl (fun c27 => ?_) (fun c27 => ?_)
  · have h := (if_pos c27).symm.trans h
    refine gl_aload_n (gX_LK b) y_296_20 rfl rfl ?_
    refine gl_getA (gX_LK b) y_296_21 yf_296_54 ys_773 rfl rfl rfl rfl ?_
    refine gl_iload_n (gX_LK b) y_296_24 rfl rfl ?_
    obtain ⟨c28, h⟩ := o_ck h
    refine gl_iaload (gX_LK b) y_296_25 ys_793 c28 rfl rfl ?_
    refine gl_iload_n (gX_LK b) y_296_26 rfl rfl ?_
    refine gl_ic_gt (gX_LK b) y_296_27 rfl rfl (fun c29 => ?_) (fun c29 => ?_)
    · have h := (if_pos c29).symm.trans h
      refine gl_iconst (gX_LK b) y_296_34 ci_0 rfl ?_
      exact gl_ireturn y_296_35 (Or.inr ⟨yt_296, Or.inl rfl⟩) (by cases h; exact hP)
    · have h := (if_neg c29).symm.trans h
      refine gl_iconst (gX_LK b) y_296_30 ci_1 rfl ?_
      refine gl_goto (gX_LK b) y_296_31 rfl ?_
      exact gl_ireturn y_296_35 (Or.inr ⟨yt_296, Or.inr rfl⟩) (by cases h; exact hP)
  · have h := (if_neg c27).symm.trans h
    refine gl_aload_n (gX_LK b) y_296_10 rfl rfl ?_
    refine gl_getA (gX_LK b) y_296_11 yf_296_57 ys_773 rfl rfl rfl rfl ?_
    refine gl_iload_n (gX_LK b) y_296_14 rfl rfl ?_
    obtain ⟨c30, h⟩ := o_ck h
    refine gl_iaload (gX_LK b) y_296_15 ys_794 c30 rfl rfl ?_
    refine gl_iload_n (gX_LK b) y_296_16 rfl rfl ?_
    refine gl_ic_lt (gX_LK b) y_296_17 rfl rfl (fun c31 => ?_) (fun c31 => ?_)
    · have h := (if_pos c31).symm.trans h
      refine gl_aload_n (gX_LK b) y_296_36 rfl rfl ?_
      refine gl_getA (gX_LK b) y_296_37 yf_296_57 ys_773 rfl rfl rfl rfl ?_
      refine gl_iload_n (gX_LK b) y_296_40 rfl rfl ?_
      obtain ⟨c32, h⟩ := o_ck h
      refine gl_iaload (gX_LK b) y_296_41 ys_794 c32 rfl rfl ?_
      refine gl_if_ge (gX_LK b) y_296_42 rfl rfl (fun c33 => ?_) (fun c33 => ?_)
      · have h := (if_pos c33).symm.trans h
        exact gl_weak (vs := [some (.ref 773), some (.int x1), some (.int x2), none, none, none, none]) ⟨rfl, rfl, rfl, trivial⟩ (xt_296_87  hg296 hP x1 x2 sc mr ar al h)
      · have h := (if_neg c33).symm.trans h
        refine gl_aload_n (gX_LK b) y_296_45 rfl rfl ?_
        refine gl_getA (gX_LK b) y_296_46 yf_296_22 ys_773 rfl rfl rfl rfl ?_
        refine gl_iload_n (gX_LK b) y_296_49 rfl rfl ?_
        refine gl_aload_n (gX_LK b) y_296_50 rfl rfl ?_
        refine gl_getA (gX_LK b) y_296_51 yf_296_33 ys_773 rfl rfl rfl rfl ?_
        obtain ⟨sce34, mre34, are34, ale34, e34, h⟩ := o_k4 h
        refine gl_callV (gX_LK b) y_296_54 ym_296_163 rfl rfl rfl ys_774 yx_222 rfl rfl ((xt_222 )  _ _ _ (show x_pg 780 = true from rfl) _ _ _ _ _ _ _ _ e34 ?_)
        refine gl_aload_n (gX_LK b) y_296_57 rfl rfl ?_
        refine gl_getA (gX_LK b) y_296_58 yf_296_78 ys_773 rfl rfl rfl rfl ?_
        refine gl_aload_n (gX_LK b) y_296_61 rfl rfl ?_
        refine gl_getA (gX_LK b) y_296_62 yf_296_33 ys_773 rfl rfl rfl rfl ?_
        obtain ⟨ve35, sce35, mre35, are35, ale35, e35, h⟩ := o_k5 h
        refine gl_callV (gX_LK b) y_296_65 ym_296_183 rfl rfl rfl ys_757 yx_211 rfl rfl ((xt_211 )  _ _ (show x_pg 780 = true from rfl) _ _ _ _ _ _ _ _ _ e35 ?_)
        refine gl_if_eq (gX_LK b) y_296_68 rfl rfl (fun c36 => ?_) (fun c36 => ?_)
        · have h := (if_pos c36).symm.trans h
          refine gl_aload_n (gX_LK b) y_296_80 rfl rfl ?_
          refine gl_getA (gX_LK b) y_296_81 yf_296_57 ys_773 rfl rfl rfl rfl ?_
          refine gl_iload_n (gX_LK b) y_296_84 rfl rfl ?_
          refine gl_iconst (gX_LK b) y_296_85 ci_0 rfl ?_
          obtain ⟨c37, h⟩ := o_ck h
          refine gl_iastore (ar2 := (j_u2 are35 794 (iN x1) (0 : Int32))) (gX_LK b) y_296_86 ys_794 c37 rfl rfl ?_
          exact gl_weak (vs := [some (.ref 773), some (.int x1), some (.int x2), none, none, none, none]) ⟨rfl, rfl, rfl, trivial⟩ (xt_296_87  hg296 hP x1 x2 sce35 mre35 (j_u2 are35 794 (iN x1) (0 : Int32)) ale35 h)
        · have h := (if_neg c36).symm.trans h
          refine gl_aload_n (gX_LK b) y_296_71 rfl rfl ?_
          refine gl_getA (gX_LK b) y_296_72 yf_296_54 ys_773 rfl rfl rfl rfl ?_
          refine gl_iload_n (gX_LK b) y_296_75 rfl rfl ?_
          refine gl_iconst (gX_LK b) y_296_76 ci_0 rfl ?_
          obtain ⟨c38, h⟩ := o_ck h
          refine gl_iastore (ar2 := (j_u2 are35 793 (iN x1) (0 : Int32))) (gX_LK b) y_296_77 ys_793 c38 rfl rfl ?_
          refine gl_iconst (gX_LK b) y_296_78 ci_1 rfl ?_
          exact gl_ireturn y_296_79 (Or.inr ⟨yt_296, Or.inr rfl⟩) (by cases h; exact hP)
    · have h := (if_neg c31).symm.trans h
      refine gl_aload_n (gX_LK b) y_296_20 rfl rfl ?_
      refine gl_getA (gX_LK b) y_296_21 yf_296_54 ys_773 rfl rfl rfl rfl ?_
      refine gl_iload_n (gX_LK b) y_296_24 rfl rfl ?_
      obtain ⟨c39, h⟩ := o_ck h
      refine gl_iaload (gX_LK b) y_296_25 ys_793 c39 rfl rfl ?_
      refine gl_iload_n (gX_LK b) y_296_26 rfl rfl ?_
      refine gl_ic_gt (gX_LK b) y_296_27 rfl rfl (fun c40 => ?_) (fun c40 => ?_)
      · have h := (if_pos c40).symm.trans h
        refine gl_iconst (gX_LK b) y_296_34 ci_0 rfl ?_
        exact gl_ireturn y_296_35 (Or.inr ⟨yt_296, Or.inl rfl⟩) (by cases h; exact hP)
      · have h := (if_neg c40).symm.trans h
        refine gl_iconst (gX_LK b) y_296_30 ci_1 rfl ?_
        refine gl_goto (gX_LK b) y_296_31 rfl ?_
        exact gl_ireturn y_296_35 (Or.inr ⟨yt_296, Or.inr rfl⟩) (by cases h; exact hP)
def xG_296 : Nat → (Int32 → Int32 → jSc → (Nat → Nat) → jSc → jAl → Option (Int32 × jSc × (Nat → Nat) × jSc × jAl))
  | 0 => (fun _ _ _ _ _ _ => none)
  | n + 1 => (xF_296 (xG_296 n))
theorem xtG_296 {b : Bool} {rf : jRf} {d : Nat} : ∀ n : Nat, xT_296 b rf (xG_296 n) (d + n + 44) := by
  intro n
  induction n with
  | zero =>
    · intro  Post x1 x2 sc mr ar al r9 sc9 mr9 ar9 al9 h hP
      cases (show (none : Option (Int32 × jSc × (Nat → Nat) × jSc × jAl)) = some _ from h)
  | succ n ih =>
    have e : d + n + 44 + 1 = d + (n + 1) + 44 := by omega
    rw [← e]
    exact xt_296  (d := d + n) ih
