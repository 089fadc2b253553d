/-! ClickOrders: its methods as functions, and that the machine does what they say. -/
/-- ClickOrders$Search.addsBeyond()I -/
def xT_295 (b : Bool) (rf : jRf) (F : jSc → (Nat → Nat) → jSc → jAl → Option (Int32 × jSc × (Nat → Nat) × jSc × jAl)) (e : Nat) : Prop := ∀  (Post : jPo) (sc : jSc) (mr : (Nat → Nat)) (ar : jSc) (al : jAl) (r9 : Int32) (sc9 : jSc) (mr9 : (Nat → Nat)) (ar9 : jSc) (al9 : jAl), F sc mr ar al = some (r9, sc9, mr9, ar9, al9) → Post (some (.int r9)) sc9 (x_mk mr9 rf) ar9 al9 → gW (gX b) 295 e 0 (j_av [.ref 773]) [] sc (x_mk mr rf) ar al Post
def xF_295 (sc : jSc) (mr : (Nat → Nat)) (ar : jSc) (al : jAl) : Option (Int32 × jSc × (Nat → Nat) × jSc × jAl) :=
  (o_b5 (xF_221 780 sc mr ar al) (fun ve1 sce1 mre1 are1 ale1 => (if 0 ≤ ve1 then (if iB ve1 2048 then (if iB ve1 2048 then (if iB ve1 2048 then some (ve1, sce1, mre1, (j_u2 (j_u2 (j_u2 are1 792 (iN ve1) (0 : Int32)) 793 (iN ve1) (9 : Int32)) 794 (iN ve1) (-1 : Int32)), ale1) else none) else none) else none) else some ((-2 : Int32), sce1, mre1, are1, ale1))))
set_option maxHeartbeats 4000000 in
theorem xt_295 {b : Bool} {rf : jRf} {d : Nat} : xT_295 b rf xF_295 (d + 2) := by
  intro  Post  sc mr ar al r9 sc9 mr9 ar9 al9 h hP
  unfold xF_295 at h
  refine gl_entry (m := 1) rfl ?_
  show gL (gX b) 295 (d + 2) 0 [some (.ref 773), none] [] sc (x_mk mr rf) ar al Post
  refine gl_aload_n (gX_LK b) y_295_0 rfl rfl ?_
  refine gl_getA (gX_LK b) y_295_1 yf_295_22 ys_773 rfl rfl rfl rfl ?_
  refine gl_aload_n (gX_LK b) y_295_4 rfl rfl ?_
  refine gl_getA (gX_LK b) y_295_5 yf_295_33 ys_773 rfl rfl rfl rfl ?_
  obtain ⟨ve1, sce1, mre1, are1, ale1, e1, h⟩ := o_k5 h
  refine gl_callV (gX_LK b) y_295_8 ym_295_180 rfl rfl rfl ys_774 yx_221 rfl rfl ((xt_221 )  _ _ (show x_pg 780 = true from rfl) _ _ _ _ _ _ _ _ _ e1 ?_)
  refine gl_istore_n (vs2 := [some (.ref 773), some (.int ve1)]) (gX_LK b) y_295_11 rfl rfl rfl rfl ?_
  refine gl_iload_n (gX_LK b) y_295_12 rfl rfl ?_
  refine gl_if_ge (gX_LK b) y_295_13 rfl rfl (fun c2 => ?_) (fun c2 => ?_)
  · have h := (if_pos c2).symm.trans h
    refine gl_aload_n (gX_LK b) y_295_19 rfl rfl ?_
    refine gl_getA (gX_LK b) y_295_20 yf_295_50 ys_773 rfl rfl rfl rfl ?_
    refine gl_iload_n (gX_LK b) y_295_23 rfl rfl ?_
    refine gl_iconst (gX_LK b) y_295_24 ci_0 rfl ?_
    obtain ⟨c3, h⟩ := o_ck h
    refine gl_bastore (ar2 := (j_u2 are1 792 (iN ve1) (0 : Int32))) (gX_LK b) y_295_25 ys_792 c3 (Or.inl rfl) rfl rfl ?_
    refine gl_aload_n (gX_LK b) y_295_26 rfl rfl ?_
    refine gl_getA (gX_LK b) y_295_27 yf_295_54 ys_773 rfl rfl rfl rfl ?_
    refine gl_iload_n (gX_LK b) y_295_30 rfl rfl ?_
    refine gl_bipush (gX_LK b) y_295_31 cb_9 rfl ?_
    obtain ⟨c4, h⟩ := o_ck h
    refine gl_iastore (ar2 := (j_u2 (j_u2 are1 792 (iN ve1) (0 : Int32)) 793 (iN ve1) (9 : Int32))) (gX_LK b) y_295_33 ys_793 c4 rfl rfl ?_
    refine gl_aload_n (gX_LK b) y_295_34 rfl rfl ?_
    refine gl_getA (gX_LK b) y_295_35 yf_295_57 ys_773 rfl rfl rfl rfl ?_
    refine gl_iload_n (gX_LK b) y_295_38 rfl rfl ?_
    refine gl_iconst (gX_LK b) y_295_39 ci_m1 rfl ?_
    obtain ⟨c5, h⟩ := o_ck h
    refine gl_iastore (ar2 := (j_u2 (j_u2 (j_u2 are1 792 (iN ve1) (0 : Int32)) 793 (iN ve1) (9 : Int32)) 794 (iN ve1) (-1 : Int32))) (gX_LK b) y_295_40 ys_794 c5 rfl rfl ?_
    refine gl_iload_n (gX_LK b) y_295_41 rfl rfl ?_
    exact gl_ireturn y_295_42 (Or.inl yt_295) (by cases h; exact hP)
  · have h := (if_neg c2).symm.trans h
    refine gl_bipush (gX_LK b) y_295_16 cb_m2 rfl ?_
    exact gl_ireturn y_295_18 (Or.inl yt_295) (by cases h; exact hP)
/-- ClickOrders$Search.spreads(IZ)V -/
def xT_293 (b : Bool) (rf : jRf) (F : Int32 → Int32 → jSc → (Nat → Nat) → jSc → jAl → Option (jSc × (Nat → Nat) × jSc × jAl)) (e : Nat) : Prop := ∀  (Post : jPo) (x1 : Int32) (x2 : Int32) (sc : jSc) (mr : (Nat → Nat)) (ar : jSc) (al : jAl) (sc9 : jSc) (mr9 : (Nat → Nat)) (ar9 : jSc) (al9 : jAl), F x1 x2 sc mr ar al = some (sc9, mr9, ar9, al9) → Post none sc9 (x_mk mr9 rf) ar9 al9 → gW (gX b) 293 e 0 (j_av [.ref 773, .int x1, .int x2]) [] sc (x_mk mr rf) ar al Post
def xF_293_207 (k31 : Int32 → Int32 → Int32 → Int32 → jSc → (Nat → Nat) → jSc → jAl → Option (jSc × (Nat → Nat) × jSc × jAl)) (x1 : Int32) (x2 : Int32) (x3 : Int32) (x4 : Int32) (x6 : Int32) (sc : jSc) (mr : (Nat → Nat)) (ar : jSc) (al : jAl) : Option (jSc × (Nat → Nat) × jSc × jAl) :=
  (if iB ((x1 * (13 : Int32)) + x4) 26624 then (if x2 = 0 then (o_b5 (xF_291 sc mr (j_u2 ar 791 (iN ((x1 * (13 : Int32)) + x4)) x6) al) (fun ve3 sce3 mre3 are3 ale3 => (if ve3 = 0 then k31 x1 x2 x3 (x4 + (1 : Int32)) sce3 mre3 are3 ale3 else some (sce3, mre3, are3, ale3)))) else k31 x1 x2 x3 (x4 + (1 : Int32)) sc mr (j_u2 ar 791 (iN ((x1 * (13 : Int32)) + x4)) x6) al) else none)
set_option maxHeartbeats 4000000 in
theorem xt_293_207 {b : Bool} {rf : jRf} {d : Nat} {Post : jPo} {sc9 : jSc} {mr9 : (Nat → Nat)} {ar9 : jSc} {al9 : jAl} {k31 : Int32 → Int32 → Int32 → Int32 → jSc → (Nat → Nat) → jSc → jAl → Option (jSc × (Nat → Nat) × jSc × jAl)} (hk31 : ∀ (x1 : Int32) (x2 : Int32) (x3 : Int32) (x4 : Int32) (sc : jSc) (mr : (Nat → Nat)) (ar : jSc) (al : jAl), k31 x1 x2 x3 x4 sc mr ar al = some (sc9, mr9, ar9, al9) → gL (gX b) 293 (d + 5) 31 [some (.ref 773), some (.int x1), some (.int x2), some (.int x3), some (.int x4), none, none] [] sc (x_mk mr rf) ar al Post) (hP : Post none sc9 (x_mk mr9 rf) ar9 al9) (x1 : Int32) (x2 : Int32) (x3 : Int32) (x4 : Int32) (x6 : Int32) (sc : jSc) (mr : (Nat → Nat)) (ar : jSc) (al : jAl) (h : xF_293_207 k31 x1 x2 x3 x4 x6 sc mr ar al = some (sc9, mr9, ar9, al9)) : gL (gX b) 293 (d + 5) 207 [some (.ref 773), some (.int x1), some (.int x2), some (.int x3), some (.int x4), none, some (.int x6)] [] sc (x_mk mr rf) ar al Post := by
  unfold xF_293_207 at h
  refine gl_aload_n (gX_LK b) y_293_207 rfl rfl ?_
  refine gl_getA (gX_LK b) y_293_208 yf_293_47 ys_773 rfl rfl rfl rfl ?_
  refine gl_iload_n (gX_LK b) y_293_211 rfl rfl ?_
  refine gl_bipush (gX_LK b) y_293_212 cb_13 rfl ?_
  refine gl_imul (gX_LK b) y_293_214 rfl ?_
  refine gl_iload (gX_LK b) y_293_215 rfl rfl ?_
  refine gl_iadd (gX_LK b) y_293_217 rfl ?_
  refine gl_iload (gX_LK b) y_293_218 rfl rfl ?_
  obtain ⟨c1, h⟩ := o_ck h
  refine gl_iastore (ar2 := (j_u2 ar 791 (iN ((x1 * (13 : Int32)) + x4)) x6)) (gX_LK b) y_293_220 ys_791 c1 rfl rfl ?_
  refine gl_iload_n (gX_LK b) y_293_221 rfl rfl ?_
  refine gl_if_ne (gX_LK b) y_293_222 rfl rfl (fun c2 => ?_) (fun c2 => ?_)
  · have h := (if_pos c2).symm.trans h
    refine gl_aload_n (gX_LK b) y_293_225 rfl rfl ?_
    obtain ⟨ve3, sce3, mre3, are3, ale3, e3, h⟩ := o_k5 h
    refine gl_callV (gX_LK b) y_293_226 ym_293_111 rfl rfl rfl ys_773 yx_291 rfl rfl ((xt_291 )  _  _ _ _ _ _ _ _ _ _ e3 ?_)
    refine gl_if_eq (gX_LK b) y_293_229 rfl rfl (fun c4 => ?_) (fun c4 => ?_)
    · have h := (if_pos c4).symm.trans h
      refine gl_iinc (vs2 := [some (.ref 773), some (.int x1), some (.int x2), some (.int x3), some (.int (x4 + (1 : Int32))), none, some (.int x6)]) (gX_LK b) y_293_233 rfl rfl rfl ci_1 rfl rfl ?_
      refine gl_goto (gX_LK b) y_293_236 rfl ?_
      exact gl_weak (vs := [some (.ref 773), some (.int x1), some (.int x2), some (.int x3), some (.int (x4 + (1 : Int32))), none, none]) ⟨rfl, rfl, rfl, rfl, rfl, trivial⟩ (hk31 x1 x2 x3 (x4 + (1 : Int32)) sce3 mre3 are3 ale3 h)
    · have h := (if_neg c4).symm.trans h
      exact gl_return y_293_232 yt_293 (by cases h; exact hP)
  · have h := (if_neg c2).symm.trans h
    refine gl_iinc (vs2 := [some (.ref 773), some (.int x1), some (.int x2), some (.int x3), some (.int (x4 + (1 : Int32))), none, some (.int x6)]) (gX_LK b) y_293_233 rfl rfl rfl ci_1 rfl rfl ?_
    refine gl_goto (gX_LK b) y_293_236 rfl ?_
    exact gl_weak (vs := [some (.ref 773), some (.int x1), some (.int x2), some (.int x3), some (.int (x4 + (1 : Int32))), none, none]) ⟨rfl, rfl, rfl, rfl, rfl, trivial⟩ (hk31 x1 x2 x3 (x4 + (1 : Int32)) sc mr (j_u2 ar 791 (iN ((x1 * (13 : Int32)) + x4)) x6) al h)
def xF_293_187 (k31 : Int32 → Int32 → Int32 → Int32 → jSc → (Nat → Nat) → jSc → jAl → Option (jSc × (Nat → Nat) × jSc × jAl)) (x1 : Int32) (x2 : Int32) (x3 : Int32) (x4 : Int32) (x5 : Int32) (x6 : Int32) (y0 : Int32) (sc : jSc) (mr : (Nat → Nat)) (ar : jSc) (al : jAl) : Option (jSc × (Nat → Nat) × jSc × jAl) :=
  (if x5 = 0 then xF_293_207 k31 x1 x2 x3 x4 x6 (j_u2 sc 773 13 y0) mr ar al else (if x6 < 0 then xF_293_207 k31 x1 x2 x3 x4 x6 (j_u2 sc 773 13 y0) mr ar al else xF_293_207 k31 x1 x2 x6 x4 x6 (j_u2 sc 773 13 y0) mr ar al))
set_option maxHeartbeats 4000000 in
theorem xt_293_187 {b : Bool} {rf : jRf} {d : Nat} {Post : jPo} {sc9 : jSc} {mr9 : (Nat → Nat)} {ar9 : jSc} {al9 : jAl} {k31 : Int32 → Int32 → Int32 → Int32 → jSc → (Nat → Nat) → jSc → jAl → Option (jSc × (Nat → Nat) × jSc × jAl)} (hk31 : ∀ (x1 : Int32) (x2 : Int32) (x3 : Int32) (x4 : Int32) (sc : jSc) (mr : (Nat → Nat)) (ar : jSc) (al : jAl), k31 x1 x2 x3 x4 sc mr ar al = some (sc9, mr9, ar9, al9) → gL (gX b) 293 (d + 5) 31 [some (.ref 773), some (.int x1), some (.int x2), some (.int x3), some (.int x4), none, none] [] sc (x_mk mr rf) ar al Post) (hP : Post none sc9 (x_mk mr9 rf) ar9 al9) (x1 : Int32) (x2 : Int32) (x3 : Int32) (x4 : Int32) (x5 : Int32) (x6 : Int32) (y0 : Int32) (sc : jSc) (mr : (Nat → Nat)) (ar : jSc) (al : jAl) (h : xF_293_187 k31 x1 x2 x3 x4 x5 x6 y0 sc mr ar al = some (sc9, mr9, ar9, al9)) : gL (gX b) 293 (d + 5) 187 [some (.ref 773), some (.int x1), some (.int x2), some (.int x3), some (.int x4), some (.int x5), some (.int x6)] [.int y0, .ref 773] sc (x_mk mr rf) ar al Post := by
  unfold xF_293_187 at h
  refine gl_put (sc' := (j_u2 sc 773 13 y0)) (gX_LK b) y_293_187 yf_293_60 ys_773 rfl rfl rfl rfl rfl ?_
  refine gl_iload (gX_LK b) y_293_190 rfl rfl ?_
  refine gl_if_eq (gX_LK b) y_293_192 rfl rfl (fun c5 => ?_) (fun c5 => ?_)
  · have h := (if_pos c5).symm.trans h
    refine gl_iload_n (gX_LK b) y_293_205 rfl rfl ?_
    refine gl_istore_n (vs2 := [some (.ref 773), some (.int x1), some (.int x2), some (.int x3), some (.int x4), some (.int x5), some (.int x6)]) (gX_LK b) y_293_206 rfl rfl rfl rfl ?_
    exact gl_weak (vs := [some (.ref 773), some (.int x1), some (.int x2), some (.int x3), some (.int x4), none, some (.int x6)]) ⟨rfl, rfl, rfl, rfl, rfl, rfl, trivial⟩ (xt_293_207  hk31 hP x1 x2 x3 x4 x6 (j_u2 sc 773 13 y0) mr ar al h)
  · have h := (if_neg c5).symm.trans h
    refine gl_iload (gX_LK b) y_293_195 rfl rfl ?_
    refine gl_if_lt (gX_LK b) y_293_197 rfl rfl (fun c6 => ?_) (fun c6 => ?_)
    · have h := (if_pos c6).symm.trans h
      refine gl_iload_n (gX_LK b) y_293_205 rfl rfl ?_
      refine gl_istore_n (vs2 := [some (.ref 773), some (.int x1), some (.int x2), some (.int x3), some (.int x4), some (.int x5), some (.int x6)]) (gX_LK b) y_293_206 rfl rfl rfl rfl ?_
      exact gl_weak (vs := [some (.ref 773), some (.int x1), some (.int x2), some (.int x3), some (.int x4), none, some (.int x6)]) ⟨rfl, rfl, rfl, rfl, rfl, rfl, trivial⟩ (xt_293_207  hk31 hP x1 x2 x3 x4 x6 (j_u2 sc 773 13 y0) mr ar al h)
    · have h := (if_neg c6).symm.trans h
      refine gl_iload (gX_LK b) y_293_200 rfl rfl ?_
      refine gl_goto (gX_LK b) y_293_202 rfl ?_
      refine gl_istore_n (vs2 := [some (.ref 773), some (.int x1), some (.int x2), some (.int x6), some (.int x4), some (.int x5), some (.int x6)]) (gX_LK b) y_293_206 rfl rfl rfl rfl ?_
      exact gl_weak (vs := [some (.ref 773), some (.int x1), some (.int x2), some (.int x6), some (.int x4), none, some (.int x6)]) ⟨rfl, rfl, rfl, rfl, rfl, rfl, trivial⟩ (xt_293_207  hk31 hP x1 x2 x6 x4 x6 (j_u2 sc 773 13 y0) mr ar al h)
def xF_293_145 (k31 : Int32 → Int32 → Int32 → Int32 → jSc → (Nat → Nat) → jSc → jAl → Option (jSc × (Nat → Nat) × jSc × jAl)) (x1 : Int32) (x2 : Int32) (x3 : Int32) (x4 : Int32) (x5 : Int32) (y0 : Int32) (sc : jSc) (mr : (Nat → Nat)) (ar : jSc) (al : jAl) : Option (jSc × (Nat → Nat) × jSc × jAl) :=
  (if 0 ≤ (sc 773 13) then xF_293_187 k31 x1 x2 x3 x4 x5 y0 (sc 773 13) sc mr ar al else (if y0 < 0 then xF_293_187 k31 x1 x2 x3 x4 x5 y0 (sc 773 13) sc mr ar al else (if x2 = 0 then (o_b5 (xF_210 780 sc mr ar al) (fun ve10 sce10 mre10 are10 ale10 => (if ve10 = 0 then xF_293_187 k31 x1 x2 x3 x4 x5 y0 (sce10 773 13) sce10 mre10 are10 ale10 else xF_293_187 k31 x1 x2 x3 x4 x5 y0 y0 sce10 mre10 are10 ale10))) else xF_293_187 k31 x1 x2 x3 x4 x5 y0 (sc 773 13) sc mr ar al)))
set_option maxHeartbeats 4000000 in
theorem xt_293_145 {b : Bool} {rf : jRf} {d : Nat} {Post : jPo} {sc9 : jSc} {mr9 : (Nat → Nat)} {ar9 : jSc} {al9 : jAl} {k31 : Int32 → Int32 → Int32 → Int32 → jSc → (Nat → Nat) → jSc → jAl → Option (jSc × (Nat → Nat) × jSc × jAl)} (hk31 : ∀ (x1 : Int32) (x2 : Int32) (x3 : Int32) (x4 : Int32) (sc : jSc) (mr : (Nat → Nat)) (ar : jSc) (al : jAl), k31 x1 x2 x3 x4 sc mr ar al = some (sc9, mr9, ar9, al9) → gL (gX b) 293 (d + 5) 31 [some (.ref 773), some (.int x1), some (.int x2), some (.int x3), some (.int x4), none, none] [] sc (x_mk mr rf) ar al Post) (hP : Post none sc9 (x_mk mr9 rf) ar9 al9) (x1 : Int32) (x2 : Int32) (x3 : Int32) (x4 : Int32) (x5 : Int32) (y0 : Int32) (sc : jSc) (mr : (Nat → Nat)) (ar : jSc) (al : jAl) (h : xF_293_145 k31 x1 x2 x3 x4 x5 y0 sc mr ar al = some (sc9, mr9, ar9, al9)) : gL (gX b) 293 (d + 5) 145 [some (.ref 773), some (.int x1), some (.int x2), some (.int x3), some (.int x4), some (.int x5), none] [.int y0] sc (x_mk mr rf) ar al Post := by
  unfold xF_293_145 at h
  refine gl_istore (vs2 := [some (.ref 773), some (.int x1), some (.int x2), some (.int x3), some (.int x4), some (.int x5), some (.int y0)]) (gX_LK b) y_293_145 rfl rfl rfl rfl ?_
  refine gl_aload_n (gX_LK b) y_293_147 rfl rfl ?_
  refine gl_aload_n (gX_LK b) y_293_148 rfl rfl ?_
  refine gl_get (gX_LK b) y_293_149 yf_293_60 ys_773 rfl rfl rfl rfl ?_
  refine gl_if_ge (gX_LK b) y_293_152 rfl rfl (fun c7 => ?_) (fun c7 => ?_)
  · have h := (if_pos c7).symm.trans h
    refine gl_aload_n (gX_LK b) y_293_183 rfl rfl ?_
    refine gl_get (gX_LK b) y_293_184 yf_293_60 ys_773 rfl rfl rfl rfl ?_
    exact gl_weak (vs := [some (.ref 773), some (.int x1), some (.int x2), some (.int x3), some (.int x4), some (.int x5), some (.int y0)]) ⟨rfl, rfl, rfl, rfl, rfl, rfl, rfl, trivial⟩ (xt_293_187  hk31 hP x1 x2 x3 x4 x5 y0 (sc 773 13) sc mr ar al h)
  · have h := (if_neg c7).symm.trans h
    refine gl_iload (gX_LK b) y_293_155 rfl rfl ?_
    refine gl_if_lt (gX_LK b) y_293_157 rfl rfl (fun c8 => ?_) (fun c8 => ?_)
    · have h := (if_pos c8).symm.trans h
      refine gl_aload_n (gX_LK b) y_293_183 rfl rfl ?_
      refine gl_get (gX_LK b) y_293_184 yf_293_60 ys_773 rfl rfl rfl rfl ?_
      exact gl_weak (vs := [some (.ref 773), some (.int x1), some (.int x2), some (.int x3), some (.int x4), some (.int x5), some (.int y0)]) ⟨rfl, rfl, rfl, rfl, rfl, rfl, rfl, trivial⟩ (xt_293_187  hk31 hP x1 x2 x3 x4 x5 y0 (sc 773 13) sc mr ar al h)
    · have h := (if_neg c8).symm.trans h
      refine gl_iload_n (gX_LK b) y_293_160 rfl rfl ?_
      refine gl_if_ne (gX_LK b) y_293_161 rfl rfl (fun c9 => ?_) (fun c9 => ?_)
      · have h := (if_pos c9).symm.trans h
        refine gl_aload_n (gX_LK b) y_293_164 rfl rfl ?_
        refine gl_getA (gX_LK b) y_293_165 yf_293_78 ys_773 rfl rfl rfl rfl ?_
        refine gl_aload_n (gX_LK b) y_293_168 rfl rfl ?_
        refine gl_getA (gX_LK b) y_293_169 yf_293_33 ys_773 rfl rfl rfl rfl ?_
        obtain ⟨ve10, sce10, mre10, are10, ale10, e10, h⟩ := o_k5 h
        refine gl_callV (gX_LK b) y_293_172 ym_293_104 rfl rfl rfl ys_757 yx_210 rfl rfl ((xt_210 )  _ _ (show x_pg 780 = true from rfl) _ _ _ _ _ _ _ _ _ e10 ?_)
        refine gl_if_eq (gX_LK b) y_293_175 rfl rfl (fun c11 => ?_) (fun c11 => ?_)
        · have h := (if_pos c11).symm.trans h
          refine gl_aload_n (gX_LK b) y_293_183 rfl rfl ?_
          refine gl_get (gX_LK b) y_293_184 yf_293_60 ys_773 rfl rfl rfl rfl ?_
          exact gl_weak (vs := [some (.ref 773), some (.int x1), some (.int x2), some (.int x3), some (.int x4), some (.int x5), some (.int y0)]) ⟨rfl, rfl, rfl, rfl, rfl, rfl, rfl, trivial⟩ (xt_293_187  hk31 hP x1 x2 x3 x4 x5 y0 (sce10 773 13) sce10 mre10 are10 ale10 h)
        · have h := (if_neg c11).symm.trans h
          refine gl_iload (gX_LK b) y_293_178 rfl rfl ?_
          refine gl_goto (gX_LK b) y_293_180 rfl ?_
          exact gl_weak (vs := [some (.ref 773), some (.int x1), some (.int x2), some (.int x3), some (.int x4), some (.int x5), some (.int y0)]) ⟨rfl, rfl, rfl, rfl, rfl, rfl, rfl, trivial⟩ (xt_293_187  hk31 hP x1 x2 x3 x4 x5 y0 y0 sce10 mre10 are10 ale10 h)
      · have h := (if_neg c9).symm.trans h
        refine gl_aload_n (gX_LK b) y_293_183 rfl rfl ?_
        refine gl_get (gX_LK b) y_293_184 yf_293_60 ys_773 rfl rfl rfl rfl ?_
        exact gl_weak (vs := [some (.ref 773), some (.int x1), some (.int x2), some (.int x3), some (.int x4), some (.int x5), some (.int y0)]) ⟨rfl, rfl, rfl, rfl, rfl, rfl, rfl, trivial⟩ (xt_293_187  hk31 hP x1 x2 x3 x4 x5 y0 (sc 773 13) sc mr ar al h)
def xF_293_83 (k31 : Int32 → Int32 → Int32 → Int32 → jSc → (Nat → Nat) → jSc → jAl → Option (jSc × (Nat → Nat) × jSc × jAl)) (x1 : Int32) (x2 : Int32) (x3 : Int32) (x4 : Int32) (x5 : Int32) (sc : jSc) (mr : (Nat → Nat)) (ar : jSc) (al : jAl) : Option (jSc × (Nat → Nat) × jSc × jAl) :=
  (o_b4 (xF_226 780 778 sc mr ar al) (fun sce12 mre12 are12 ale12 => (o_b5 (xF_209 780 x4 (-1 : Int32) sce12 mre12 are12 ale12) (fun ve13 sce13 mre13 are13 ale13 => (o_b5 (xF_220 780 sce13 mre13 are13 ale13) (fun ve14 sce14 mre14 are14 ale14 => (if 0 ≤ ve14 then (if x5 = 0 then xF_293_207 k31 x1 x2 x3 x4 ve14 sce14 mre14 are14 ale14 else (if ve14 < 0 then xF_293_207 k31 x1 x2 x3 x4 ve14 sce14 mre14 are14 ale14 else xF_293_207 k31 x1 x2 ve14 x4 ve14 sce14 mre14 are14 ale14)) else (if x2 = 0 then (o_b5 (xF_294 x1 x4 sce14 mre14 are14 ale14) (fun ve19 sce19 mre19 are19 ale19 => xF_293_145 k31 x1 x2 x3 x4 x5 ve19 sce19 mre19 are19 ale19)) else (o_b5 (xF_295 sce14 mre14 are14 ale14) (fun ve20 sce20 mre20 are20 ale20 => xF_293_145 k31 x1 x2 x3 x4 x5 ve20 sce20 mre20 are20 ale20))))))))))
set_option maxHeartbeats 4000000 in
theorem xt_293_83 {b : Bool} {rf : jRf} {d : Nat} {Post : jPo} {sc9 : jSc} {mr9 : (Nat → Nat)} {ar9 : jSc} {al9 : jAl} {k31 : Int32 → Int32 → Int32 → Int32 → jSc → (Nat → Nat) → jSc → jAl → Option (jSc × (Nat → Nat) × jSc × jAl)} (hk31 : ∀ (x1 : Int32) (x2 : Int32) (x3 : Int32) (x4 : Int32) (sc : jSc) (mr : (Nat → Nat)) (ar : jSc) (al : jAl), k31 x1 x2 x3 x4 sc mr ar al = some (sc9, mr9, ar9, al9) → gL (gX b) 293 (d + 5) 31 [some (.ref 773), some (.int x1), some (.int x2), some (.int x3), some (.int x4), none, none] [] sc (x_mk mr rf) ar al Post) (hP : Post none sc9 (x_mk mr9 rf) ar9 al9) (x1 : Int32) (x2 : Int32) (x3 : Int32) (x4 : Int32) (x5 : Int32) (sc : jSc) (mr : (Nat → Nat)) (ar : jSc) (al : jAl) (h : xF_293_83 k31 x1 x2 x3 x4 x5 sc mr ar al = some (sc9, mr9, ar9, al9)) : gL (gX b) 293 (d + 5) 83 [some (.ref 773), some (.int x1), some (.int x2), some (.int x3), some (.int x4), some (.int x5), none] [] sc (x_mk mr rf) ar al Post := by
  unfold xF_293_83 at h
  refine gl_aload_n (gX_LK b) y_293_83 rfl rfl ?_
  refine gl_getA (gX_LK b) y_293_84 yf_293_33 ys_773 rfl rfl rfl rfl ?_
  refine gl_aload_n (gX_LK b) y_293_87 rfl rfl ?_
  refine gl_getA (gX_LK b) y_293_88 yf_293_29 ys_773 rfl rfl rfl rfl ?_
  obtain ⟨sce12, mre12, are12, ale12, e12, h⟩ := o_k4 h
  refine gl_callV (gX_LK b) y_293_91 ym_293_175 rfl rfl rfl ys_780 yx_226 rfl rfl ((xt_226 )  _ _ _ (show x_pg 780 = true from rfl) (show x_pg 778 = true from rfl) _ _ _ _ _ _ _ _ e12 ?_)
  refine gl_aload_n (gX_LK b) y_293_94 rfl rfl ?_
  refine gl_getA (gX_LK b) y_293_95 yf_293_78 ys_773 rfl rfl rfl rfl ?_
  refine gl_aload_n (gX_LK b) y_293_98 rfl rfl ?_
  refine gl_getA (gX_LK b) y_293_99 yf_293_33 ys_773 rfl rfl rfl rfl ?_
  refine gl_iload (gX_LK b) y_293_102 rfl rfl ?_
  refine gl_iconst (gX_LK b) y_293_104 ci_m1 rfl ?_
  obtain ⟨ve13, sce13, mre13, are13, ale13, e13, h⟩ := o_k5 h
  refine gl_callV (gX_LK b) y_293_105 ym_293_159 rfl rfl rfl ys_757 yx_209 rfl rfl ((xt_209 )  _ _ _ _ (show x_pg 780 = true from rfl) _ _ _ _ _ _ _ _ _ e13 ?_)
  refine gl_pop (gX_LK b) y_293_108 rfl rfl ?_
  refine gl_aload_n (gX_LK b) y_293_109 rfl rfl ?_
  refine gl_getA (gX_LK b) y_293_110 yf_293_22 ys_773 rfl rfl rfl rfl ?_
  refine gl_aload_n (gX_LK b) y_293_113 rfl rfl ?_
  refine gl_getA (gX_LK b) y_293_114 yf_293_33 ys_773 rfl rfl rfl rfl ?_
  obtain ⟨ve14, sce14, mre14, are14, ale14, e14, h⟩ := o_k5 h
  refine gl_callV (gX_LK b) y_293_117 ym_293_97 rfl rfl rfl ys_774 yx_220 rfl rfl ((xt_220 )  _ _ (show x_pg 780 = true from rfl) _ _ _ _ _ _ _ _ _ e14 ?_)
  refine gl_istore (vs2 := [some (.ref 773), some (.int x1), some (.int x2), some (.int x3), some (.int x4), some (.int x5), some (.int ve14)]) (gX_LK b) y_293_120 rfl rfl rfl rfl ?_
  refine gl_iload (gX_LK b) y_293_122 rfl rfl ?_
  refine gl_if_ge (gX_LK b) y_293_124 rfl rfl (fun c15 => ?_) (fun c15 => ?_)
  · have h := (if_pos c15).symm.trans h
    refine gl_iload (gX_LK b) y_293_190 rfl rfl ?_
    refine gl_if_eq (gX_LK b) y_293_192 rfl rfl (fun c16 => ?_) (fun c16 => ?_)
    · have h := (if_pos c16).symm.trans h
      refine gl_iload_n (gX_LK b) y_293_205 rfl rfl ?_
      refine gl_istore_n (vs2 := [some (.ref 773), some (.int x1), some (.int x2), some (.int x3), some (.int x4), some (.int x5), some (.int ve14)]) (gX_LK b) y_293_206 rfl rfl rfl rfl ?_
      exact gl_weak (vs := [some (.ref 773), some (.int x1), some (.int x2), some (.int x3), some (.int x4), none, some (.int ve14)]) ⟨rfl, rfl, rfl, rfl, rfl, rfl, trivial⟩ (xt_293_207  hk31 hP x1 x2 x3 x4 ve14 sce14 mre14 are14 ale14 h)
    · have h := (if_neg c16).symm.trans h
      refine gl_iload (gX_LK b) y_293_195 rfl rfl ?_
      refine gl_if_lt (gX_LK b) y_293_197 rfl rfl (fun c17 => ?_) (fun c17 => ?_)
      · have h := (if_pos c17).symm.trans h
        refine gl_iload_n (gX_LK b) y_293_205 rfl rfl ?_
        refine gl_istore_n (vs2 := [some (.ref 773), some (.int x1), some (.int x2), some (.int x3), some (.int x4), some (.int x5), some (.int ve14)]) (gX_LK b) y_293_206 rfl rfl rfl rfl ?_
        exact gl_weak (vs := [some (.ref 773), some (.int x1), some (.int x2), some (.int x3), some (.int x4), none, some (.int ve14)]) ⟨rfl, rfl, rfl, rfl, rfl, rfl, trivial⟩ (xt_293_207  hk31 hP x1 x2 x3 x4 ve14 sce14 mre14 are14 ale14 h)
      · have h := (if_neg c17).symm.trans h
        refine gl_iload (gX_LK b) y_293_200 rfl rfl ?_
        refine gl_goto (gX_LK b) y_293_202 rfl ?_
        refine gl_istore_n (vs2 := [some (.ref 773), some (.int x1), some (.int x2), some (.int ve14), some (.int x4), some (.int x5), some (.int ve14)]) (gX_LK b) y_293_206 rfl rfl rfl rfl ?_
        exact gl_weak (vs := [some (.ref 773), some (.int x1), some (.int x2), some (.int ve14), some (.int x4), none, some (.int ve14)]) ⟨rfl, rfl, rfl, rfl, rfl, rfl, trivial⟩ (xt_293_207  hk31 hP x1 x2 ve14 x4 ve14 sce14 mre14 are14 ale14 h)
  · have h := (if_neg c15).symm.trans h
    refine gl_iload_n (gX_LK b) y_293_127 rfl rfl ?_
    refine gl_if_eq (gX_LK b) y_293_128 rfl rfl (fun c18 => ?_) (fun c18 => ?_)
    · have h := (if_pos c18).symm.trans h
      refine gl_aload_n (gX_LK b) y_293_138 rfl rfl ?_
      refine gl_iload_n (gX_LK b) y_293_139 rfl rfl ?_
      refine gl_iload (gX_LK b) y_293_140 rfl rfl ?_
      obtain ⟨ve19, sce19, mre19, are19, ale19, e19, h⟩ := o_k5 h
      refine gl_callV (gX_LK b) y_293_142 ym_293_101 rfl rfl rfl ys_773 yx_294 rfl rfl ((xt_294 )  _ _ _ _ _ _ _ _ _ _ _ _ e19 ?_)
      exact gl_weak (vs := [some (.ref 773), some (.int x1), some (.int x2), some (.int x3), some (.int x4), some (.int x5), none]) ⟨rfl, rfl, rfl, rfl, rfl, rfl, trivial⟩ (xt_293_145  hk31 hP x1 x2 x3 x4 x5 ve19 sce19 mre19 are19 ale19 h)
    · have h := (if_neg c18).symm.trans h
      refine gl_aload_n (gX_LK b) y_293_131 rfl rfl ?_
      obtain ⟨ve20, sce20, mre20, are20, ale20, e20, h⟩ := o_k5 h
      refine gl_callV (gX_LK b) y_293_132 ym_293_177 rfl rfl rfl ys_773 yx_295 rfl rfl ((xt_295 )  _  _ _ _ _ _ _ _ _ _ e20 ?_)
      refine gl_goto (gX_LK b) y_293_135 rfl ?_
      exact gl_weak (vs := [some (.ref 773), some (.int x1), some (.int x2), some (.int x3), some (.int x4), some (.int x5), none]) ⟨rfl, rfl, rfl, rfl, rfl, rfl, trivial⟩ (xt_293_145  hk31 hP x1 x2 x3 x4 x5 ve20 sce20 mre20 are20 ale20 h)
def xF_293_31 : Nat → Int32 → Int32 → Int32 → Int32 → jSc → (Nat → Nat) → jSc → jAl → Option (jSc × (Nat → Nat) × jSc × jAl)
  | 0, _, _, _, _, _, _, _, _ => none
  | nn + 1, x1, x2, x3, x4, sc, mr, ar, al => (if (13 : Int32) ≤ x4 then (if iB x1 2048 then some (sc, mr, (j_u2 ar 792 (iN x1) (1 : Int32)), al) else none) else (if x_pr (mr 3) = true then (o_b5 (xF_254 (mr 3) x4 sc mr ar al) (fun ve24 sce24 mre24 are24 ale24 => (o_b5 (xF_206 778 x4 sce24 mre24 are24 ale24) (fun ve25 sce25 mre25 are25 ale25 => (if ve25 = 0 then xF_293_207 (fun x1_ x2_ x3_ x4_ sc_ mr_ ar_ al_ => xF_293_31 nn x1_ x2_ x3_ x4_ sc_ mr_ ar_ al_) x1 x2 x3 x4 (-1 : Int32) sce25 mre25 are25 ale25 else (if ve24 = 0 then xF_293_83 (fun x1_ x2_ x3_ x4_ sc_ mr_ ar_ al_ => xF_293_31 nn x1_ x2_ x3_ x4_ sc_ mr_ ar_ al_) x1 x2 x3 x4 ve24 sce25 mre25 are25 ale25 else (if 0 ≤ x3 then (if ve24 = 0 then xF_293_207 (fun x1_ x2_ x3_ x4_ sc_ mr_ ar_ al_ => xF_293_31 nn x1_ x2_ x3_ x4_ sc_ mr_ ar_ al_) x1 x2 x3 x4 x3 sce25 mre25 are25 ale25 else (if x3 < 0 then xF_293_207 (fun x1_ x2_ x3_ x4_ sc_ mr_ ar_ al_ => xF_293_31 nn x1_ x2_ x3_ x4_ sc_ mr_ ar_ al_) x1 x2 x3 x4 x3 sce25 mre25 are25 ale25 else xF_293_207 (fun x1_ x2_ x3_ x4_ sc_ mr_ ar_ al_ => xF_293_31 nn x1_ x2_ x3_ x4_ sc_ mr_ ar_ al_) x1 x2 x3 x4 x3 sce25 mre25 are25 ale25)) else xF_293_83 (fun x1_ x2_ x3_ x4_ sc_ mr_ ar_ al_ => xF_293_31 nn x1_ x2_ x3_ x4_ sc_ mr_ ar_ al_) x1 x2 x3 x4 ve24 sce25 mre25 are25 ale25))))))) else none))
set_option maxHeartbeats 4000000 in
theorem xt_293_31 {b : Bool} {rf : jRf} {d : Nat} {Post : jPo} {sc9 : jSc} {mr9 : (Nat → Nat)} {ar9 : jSc} {al9 : jAl} (hP : Post none sc9 (x_mk mr9 rf) ar9 al9) : ∀ (nn : Nat) (x1 : Int32) (x2 : Int32) (x3 : Int32) (x4 : Int32) (sc : jSc) (mr : (Nat → Nat)) (ar : jSc) (al : jAl), xF_293_31 nn x1 x2 x3 x4 sc mr ar al = some (sc9, mr9, ar9, al9) → gL (gX b) 293 (d + 5) 31 [some (.ref 773), some (.int x1), some (.int x2), some (.int x3), some (.int x4), none, none] [] sc (x_mk mr rf) ar al Post := by
  intro nn
  induction nn with
  | zero =>
    intro x1 x2 x3 x4 sc mr ar al h
    have h : (none : Option (jSc × (Nat → Nat) × jSc × jAl)) = some _ := h
    cases h
  | succ nn ih =>
    intro x1 x2 x3 x4 sc mr ar al h
    unfold xF_293_31 at h
    refine gl_iload (gX_LK b) y_293_31 rfl rfl ?_
    refine gl_bipush (gX_LK b) y_293_33 cb_13 rfl ?_
    refine gl_ic_ge (gX_LK b) y_293_35 rfl rfl (fun c21 => ?_) (fun c21 => ?_)
    · have h := (if_pos c21).symm.trans h
      refine gl_aload_n (gX_LK b) y_293_239 rfl rfl ?_
      refine gl_getA (gX_LK b) y_293_240 yf_293_50 ys_773 rfl rfl rfl rfl ?_
      refine gl_iload_n (gX_LK b) y_293_243 rfl rfl ?_
      refine gl_iconst (gX_LK b) y_293_244 ci_1 rfl ?_
      obtain ⟨c22, h⟩ := o_ck h
      refine gl_bastore (ar2 := (j_u2 ar 792 (iN x1) (1 : Int32))) (gX_LK b) y_293_245 ys_792 c22 (Or.inr rfl) rfl rfl ?_
      exact gl_return y_293_246 yt_293 (by cases h; exact hP)
    · have h := (if_neg c21).symm.trans h
      refine gl_aload_n (gX_LK b) y_293_38 rfl rfl ?_
      refine gl_getA (gX_LK b) y_293_39 yf_293_78 ys_773 rfl rfl rfl rfl ?_
      obtain ⟨c23, h⟩ := o_ck h
      refine gl_getA (gX_LK b) y_293_42 yf_293_123 ys_757 rfl rfl rfl rfl ?_
      refine gl_iload (gX_LK b) y_293_45 rfl rfl ?_
      obtain ⟨ve24, sce24, mre24, are24, ale24, e24, h⟩ := o_k5 h
      refine gl_callV (gX_LK b) y_293_47 ym_293_171 rfl rfl rfl (ys_pr c23) yx_254 rfl rfl ((xt_254 )  _ _ _ c23 _ _ _ _ _ _ _ _ _ e24 ?_)
      refine gl_istore (vs2 := [some (.ref 773), some (.int x1), some (.int x2), some (.int x3), some (.int x4), some (.int ve24), none]) (gX_LK b) y_293_50 rfl rfl rfl rfl ?_
      refine gl_iconst (gX_LK b) y_293_52 ci_m1 rfl ?_
      refine gl_istore (vs2 := [some (.ref 773), some (.int x1), some (.int x2), some (.int x3), some (.int x4), some (.int ve24), some (.int (-1 : Int32))]) (gX_LK b) y_293_53 rfl rfl rfl rfl ?_
      refine gl_aload_n (gX_LK b) y_293_55 rfl rfl ?_
      refine gl_getA (gX_LK b) y_293_56 yf_293_78 ys_773 rfl rfl rfl rfl ?_
      refine gl_aload_n (gX_LK b) y_293_59 rfl rfl ?_
      refine gl_getA (gX_LK b) y_293_60 yf_293_29 ys_773 rfl rfl rfl rfl ?_
      refine gl_iload (gX_LK b) y_293_63 rfl rfl ?_
      obtain ⟨ve25, sce25, mre25, are25, ale25, e25, h⟩ := o_k5 h
      refine gl_callV (gX_LK b) y_293_65 ym_293_155 rfl rfl rfl ys_757 yx_206 rfl rfl ((xt_206 )  _ _ _ (show x_pg 778 = true from rfl) _ _ _ _ _ _ _ _ _ e25 ?_)
      refine gl_if_eq (gX_LK b) y_293_68 rfl rfl (fun c26 => ?_) (fun c26 => ?_)
      · have h := (if_pos c26).symm.trans h
        exact gl_weak (vs := [some (.ref 773), some (.int x1), some (.int x2), some (.int x3), some (.int x4), none, some (.int (-1 : Int32))]) ⟨rfl, rfl, rfl, rfl, rfl, rfl, trivial⟩ (xt_293_207  ih hP x1 x2 x3 x4 (-1 : Int32) sce25 mre25 are25 ale25 h)
      · have h := (if_neg c26).symm.trans h
        refine gl_iload_n (gX_LK b) y_293_71 rfl rfl ?_
        refine gl_istore (vs2 := [some (.ref 773), some (.int x1), some (.int x2), some (.int x3), some (.int x4), some (.int ve24), some (.int x3)]) (gX_LK b) y_293_72 rfl rfl rfl rfl ?_
        refine gl_iload (gX_LK b) y_293_74 rfl rfl ?_
        refine gl_if_eq (gX_LK b) y_293_76 rfl rfl (fun c27 => ?_) (fun c27 => ?_)
        · have h := (if_pos c27).symm.trans h
          exact gl_weak (vs := [some (.ref 773), some (.int x1), some (.int x2), some (.int x3), some (.int x4), some (.int ve24), none]) ⟨rfl, rfl, rfl, rfl, rfl, rfl, trivial⟩ (xt_293_83  ih hP x1 x2 x3 x4 ve24 sce25 mre25 are25 ale25 h)
        · have h := (if_neg c27).symm.trans h
          refine gl_iload_n (gX_LK b) y_293_79 rfl rfl ?_
          refine gl_if_ge (gX_LK b) y_293_80 rfl rfl (fun c28 => ?_) (fun c28 => ?_)
          · have h := (if_pos c28).symm.trans h
            refine gl_iload (gX_LK b) y_293_190 rfl rfl ?_
            refine gl_if_eq (gX_LK b) y_293_192 rfl rfl (fun c29 => ?_) (fun c29 => ?_)
            · have h := (if_pos c29).symm.trans h
              refine gl_iload_n (gX_LK b) y_293_205 rfl rfl ?_
              refine gl_istore_n (vs2 := [some (.ref 773), some (.int x1), some (.int x2), some (.int x3), some (.int x4), some (.int ve24), some (.int x3)]) (gX_LK b) y_293_206 rfl rfl rfl rfl ?_
              exact gl_weak (vs := [some (.ref 773), some (.int x1), some (.int x2), some (.int x3), some (.int x4), none, some (.int x3)]) ⟨rfl, rfl, rfl, rfl, rfl, rfl, trivial⟩ (xt_293_207  ih hP x1 x2 x3 x4 x3 sce25 mre25 are25 ale25 h)
            · have h := (if_neg c29).symm.trans h
              refine gl_iload (gX_LK b) y_293_195 rfl rfl ?_
              refine gl_if_lt (gX_LK b) y_293_197 rfl rfl (fun c30 => ?_) (fun c30 => ?_)
              · have h := (if_pos c30).symm.trans h
                refine gl_iload_n (gX_LK b) y_293_205 rfl rfl ?_
                refine gl_istore_n (vs2 := [some (.ref 773), some (.int x1), some (.int x2), some (.int x3), some (.int x4), some (.int ve24), some (.int x3)]) (gX_LK b) y_293_206 rfl rfl rfl rfl ?_
                exact gl_weak (vs := [some (.ref 773), some (.int x1), some (.int x2), some (.int x3), some (.int x4), none, some (.int x3)]) ⟨rfl, rfl, rfl, rfl, rfl, rfl, trivial⟩ (xt_293_207  ih hP x1 x2 x3 x4 x3 sce25 mre25 are25 ale25 h)
              · have h := (if_neg c30).symm.trans h
                refine gl_iload (gX_LK b) y_293_200 rfl rfl ?_
                refine gl_goto (gX_LK b) y_293_202 rfl ?_
                refine gl_istore_n (vs2 := [some (.ref 773), some (.int x1), some (.int x2), some (.int x3), some (.int x4), some (.int ve24), some (.int x3)]) (gX_LK b) y_293_206 rfl rfl rfl rfl ?_
                exact gl_weak (vs := [some (.ref 773), some (.int x1), some (.int x2), some (.int x3), some (.int x4), none, some (.int x3)]) ⟨rfl, rfl, rfl, rfl, rfl, rfl, trivial⟩ (xt_293_207  ih hP x1 x2 x3 x4 x3 sce25 mre25 are25 ale25 h)
          · have h := (if_neg c28).symm.trans h
            exact gl_weak (vs := [some (.ref 773), some (.int x1), some (.int x2), some (.int x3), some (.int x4), some (.int ve24), none]) ⟨rfl, rfl, rfl, rfl, rfl, rfl, trivial⟩ (xt_293_83  ih hP x1 x2 x3 x4 ve24 sce25 mre25 are25 ale25 h)
def xF_293 (x1 : Int32) (x2 : Int32) (sc : jSc) (mr : (Nat → Nat)) (ar : jSc) (al : jAl) : Option (jSc × (Nat → Nat) × jSc × jAl) :=
  (o_b4 (xF_222 x1 778 sc mr ar al) (fun sce31 mre31 are31 ale31 => (o_b5 (xF_233 778 sce31 mre31 are31 ale31) (fun ve32 sce32 mre32 are32 ale32 => (if ve32 = 0 then xF_293_31 oF x1 x2 x1 (0 : Int32) sce32 mre32 are32 ale32 else xF_293_31 oF x1 x2 (-1 : Int32) (0 : Int32) sce32 mre32 are32 ale32)))))
set_option maxHeartbeats 4000000 in
theorem xt_293 {b : Bool} {rf : jRf} {d : Nat} : xT_293 b rf xF_293 (d + 5) := by
  intro  Post x1 x2 sc mr ar al sc9 mr9 ar9 al9 h hP
  unfold xF_293 at h
  refine gl_entry (m := 4) rfl ?_
  show gL (gX b) 293 (d + 5) 0 [some (.ref 773), some (.int x1), some (.int x2), none, none, none, none] [] sc (x_mk mr rf) ar al Post
  refine gl_aload_n (gX_LK b) y_293_0 rfl rfl ?_
  refine gl_getA (gX_LK b) y_293_1 yf_293_22 ys_773 rfl rfl rfl rfl ?_
  refine gl_iload_n (gX_LK b) y_293_4 rfl rfl ?_
  refine gl_aload_n (gX_LK b) y_293_5 rfl rfl ?_
  refine gl_getA (gX_LK b) y_293_6 yf_293_29 ys_773 rfl rfl rfl rfl ?_
  obtain ⟨sce31, mre31, are31, ale31, e31, h⟩ := o_k4 h
  refine gl_callV (gX_LK b) y_293_9 ym_293_163 rfl rfl rfl ys_774 yx_222 rfl rfl ((xt_222 )  _ _ _ (show x_pg 778 = true from rfl) _ _ _ _ _ _ _ _ e31 ?_)
  refine gl_aload_n (gX_LK b) y_293_12 rfl rfl ?_
  refine gl_getA (gX_LK b) y_293_13 yf_293_29 ys_773 rfl rfl rfl rfl ?_
  obtain ⟨ve32, sce32, mre32, are32, ale32, e32, h⟩ := o_k5 h
  refine gl_callV (gX_LK b) y_293_16 ym_293_167 rfl rfl rfl ys_778 yx_233 rfl rfl ((xt_233 )  _ _ (show x_pg 778 = true from rfl) _ _ _ _ _ _ _ _ _ e32 ?_)
  refine gl_if_ne (gX_LK b) y_293_19 rfl rfl (fun c33 => ?_) (fun c33 => ?_)
  · have h := (if_pos c33).symm.trans h
    refine gl_iload_n (gX_LK b) y_293_22 rfl rfl ?_
    refine gl_goto (gX_LK b) y_293_23 rfl ?_
    refine gl_istore_n (vs2 := [some (.ref 773), some (.int x1), some (.int x2), some (.int x1), none, none, none]) (gX_LK b) y_293_27 rfl rfl rfl rfl ?_
    refine gl_iconst (gX_LK b) y_293_28 ci_0 rfl ?_
    refine gl_istore (vs2 := [some (.ref 773), some (.int x1), some (.int x2), some (.int x1), some (.int (0 : Int32)), none, none]) (gX_LK b) y_293_29 rfl rfl rfl rfl ?_
    exact gl_weak (vs := [some (.ref 773), some (.int x1), some (.int x2), some (.int x1), some (.int (0 : Int32)), none, none]) ⟨rfl, rfl, rfl, rfl, rfl, trivial⟩ (xt_293_31  hP oF x1 x2 x1 (0 : Int32) sce32 mre32 are32 ale32 h)
  · have h := (if_neg c33).symm.trans h
    refine gl_iconst (gX_LK b) y_293_26 ci_m1 rfl ?_
    refine gl_istore_n (vs2 := [some (.ref 773), some (.int x1), some (.int x2), some (.int (-1 : Int32)), none, none, none]) (gX_LK b) y_293_27 rfl rfl rfl rfl ?_
    refine gl_iconst (gX_LK b) y_293_28 ci_0 rfl ?_
    refine gl_istore (vs2 := [some (.ref 773), some (.int x1), some (.int x2), some (.int (-1 : Int32)), some (.int (0 : Int32)), none, none]) (gX_LK b) y_293_29 rfl rfl rfl rfl ?_
    exact gl_weak (vs := [some (.ref 773), some (.int x1), some (.int x2), some (.int (-1 : Int32)), some (.int (0 : Int32)), none, none]) ⟨rfl, rfl, rfl, rfl, rfl, trivial⟩ (xt_293_31  hP oF x1 x2 (-1 : Int32) (0 : Int32) sce32 mre32 are32 ale32 h)
/-- ClickOrders$Search.goes(IIZ)V -/
def xT_285 (b : Bool) (rf : jRf) (F : Int32 → Int32 → Int32 → jSc → (Nat → Nat) → jSc → jAl → Option (jSc × (Nat → Nat) × jSc × jAl)) (e : Nat) : Prop := ∀  (Post : jPo) (x1 : Int32) (x2 : Int32) (x3 : Int32) (sc : jSc) (mr : (Nat → Nat)) (ar : jSc) (al : jAl) (sc9 : jSc) (mr9 : (Nat → Nat)) (ar9 : jSc) (al9 : jAl), F x1 x2 x3 sc mr ar al = some (sc9, mr9, ar9, al9) → Post none sc9 (x_mk mr9 rf) ar9 al9 → gW (gX b) 285 e 0 (j_av [.ref 773, .int x1, .int x2, .int x3]) [] sc (x_mk mr rf) ar al Post
def xF_285_176 (k132 : Int32 → Int32 → Int32 → Int32 → jSc → (Nat → Nat) → jSc → jAl → Option (jSc × (Nat → Nat) × jSc × jAl)) (x1 : Int32) (x6 : Int32) (x7 : Int32) (sc : jSc) (mr : (Nat → Nat)) (ar : jSc) (al : jAl) : Option (jSc × (Nat → Nat) × jSc × jAl) :=
  (o_b5 (xF_291 sc mr ar al) (fun ve1 sce1 mre1 are1 ale1 => (if ve1 = 0 then k132 x1 x6 (sce1 774 0) (x7 + (1 : Int32)) sce1 mre1 are1 ale1 else k132 x1 x6 x6 (x7 + (1 : Int32)) sce1 mre1 are1 ale1)))
set_option maxHeartbeats 4000000 in
theorem xt_285_176 {b : Bool} {rf : jRf} {d : Nat} {Post : jPo} {sc9 : jSc} {mr9 : (Nat → Nat)} {ar9 : jSc} {al9 : jAl} {k132 : Int32 → Int32 → Int32 → Int32 → jSc → (Nat → Nat) → jSc → jAl → Option (jSc × (Nat → Nat) × jSc × jAl)} (hk132 : ∀ (x1 : Int32) (x5 : Int32) (x6 : Int32) (x7 : Int32) (sc : jSc) (mr : (Nat → Nat)) (ar : jSc) (al : jAl), k132 x1 x5 x6 x7 sc mr ar al = some (sc9, mr9, ar9, al9) → gL (gX b) 285 (d + 6) 132 [some (.ref 773), some (.int x1), none, none, none, some (.int x5), some (.int x6), some (.int x7), none] [] sc (x_mk mr rf) ar al Post) (hP : Post none sc9 (x_mk mr9 rf) ar9 al9) (x1 : Int32) (x6 : Int32) (x7 : Int32) (sc : jSc) (mr : (Nat → Nat)) (ar : jSc) (al : jAl) (h : xF_285_176 k132 x1 x6 x7 sc mr ar al = some (sc9, mr9, ar9, al9)) : gL (gX b) 285 (d + 6) 176 [some (.ref 773), some (.int x1), none, none, none, none, some (.int x6), some (.int x7), none] [] sc (x_mk mr rf) ar al Post := by
  unfold xF_285_176 at h
  refine gl_iload (gX_LK b) y_285_176 rfl rfl ?_
  refine gl_istore (vs2 := [some (.ref 773), some (.int x1), none, none, none, some (.int x6), some (.int x6), some (.int x7), none]) (gX_LK b) y_285_178 rfl rfl rfl rfl ?_
  refine gl_aload_n (gX_LK b) y_285_180 rfl rfl ?_
  obtain ⟨ve1, sce1, mre1, are1, ale1, e1, h⟩ := o_k5 h
  refine gl_callV (gX_LK b) y_285_181 ym_285_111 rfl rfl rfl ys_773 yx_291 rfl rfl ((xt_291 )  _  _ _ _ _ _ _ _ _ _ e1 ?_)
  refine gl_if_eq (gX_LK b) y_285_184 rfl rfl (fun c2 => ?_) (fun c2 => ?_)
  · have h := (if_pos c2).symm.trans h
    refine gl_aload_n (gX_LK b) y_285_192 rfl rfl ?_
    refine gl_getA (gX_LK b) y_285_193 yf_285_22 ys_773 rfl rfl rfl rfl ?_
    refine gl_get (gX_LK b) y_285_196 yf_285_108 ys_774 rfl rfl rfl rfl ?_
    refine gl_istore (vs2 := [some (.ref 773), some (.int x1), none, none, none, some (.int x6), some (.int (sce1 774 0)), some (.int x7), none]) (gX_LK b) y_285_199 rfl rfl rfl rfl ?_
    refine gl_iinc (vs2 := [some (.ref 773), some (.int x1), none, none, none, some (.int x6), some (.int (sce1 774 0)), some (.int (x7 + (1 : Int32))), none]) (gX_LK b) y_285_201 rfl rfl rfl ci_1 rfl rfl ?_
    refine gl_goto (gX_LK b) y_285_204 rfl ?_
    exact gl_weak (vs := [some (.ref 773), some (.int x1), none, none, none, some (.int x6), some (.int (sce1 774 0)), some (.int (x7 + (1 : Int32))), none]) ⟨rfl, rfl, rfl, rfl, rfl, trivial⟩ (hk132 x1 x6 (sce1 774 0) (x7 + (1 : Int32)) sce1 mre1 are1 ale1 h)
  · have h := (if_neg c2).symm.trans h
    refine gl_iload (gX_LK b) y_285_187 rfl rfl ?_
    refine gl_goto (gX_LK b) y_285_189 rfl ?_
    refine gl_istore (vs2 := [some (.ref 773), some (.int x1), none, none, none, some (.int x6), some (.int x6), some (.int x7), none]) (gX_LK b) y_285_199 rfl rfl rfl rfl ?_
    refine gl_iinc (vs2 := [some (.ref 773), some (.int x1), none, none, none, some (.int x6), some (.int x6), some (.int (x7 + (1 : Int32))), none]) (gX_LK b) y_285_201 rfl rfl rfl ci_1 rfl rfl ?_
    refine gl_goto (gX_LK b) y_285_204 rfl ?_
    exact gl_weak (vs := [some (.ref 773), some (.int x1), none, none, none, some (.int x6), some (.int x6), some (.int (x7 + (1 : Int32))), none]) ⟨rfl, rfl, rfl, rfl, rfl, trivial⟩ (hk132 x1 x6 x6 (x7 + (1 : Int32)) sce1 mre1 are1 ale1 h)
def xF_285_149 (k132 : Int32 → Int32 → Int32 → Int32 → jSc → (Nat → Nat) → jSc → jAl → Option (jSc × (Nat → Nat) × jSc × jAl)) : Nat → Int32 → Int32 → Int32 → Int32 → jSc → (Nat → Nat) → jSc → jAl → Option (jSc × (Nat → Nat) × jSc × jAl)
  | 0, _, _, _, _, _, _, _, _ => none
  | nn + 1, x1, x6, x7, x8, sc, mr, ar, al => (if x6 ≤ x8 then xF_285_176 k132 x1 x6 x7 sc mr ar al else (o_b5 (xF_291 sc mr ar al) (fun ve4 sce4 mre4 are4 ale4 => (if ve4 = 0 then (o_b4 (xF_293 x8 (0 : Int32) sce4 mre4 are4 ale4) (fun sce6 mre6 are6 ale6 => xF_285_149 k132 nn x1 x6 x7 (x8 + (1 : Int32)) sce6 mre6 are6 ale6)) else xF_285_176 k132 x1 x6 x7 sce4 mre4 are4 ale4))))
set_option maxHeartbeats 4000000 in
theorem xt_285_149 {b : Bool} {rf : jRf} {d : Nat} {Post : jPo} {sc9 : jSc} {mr9 : (Nat → Nat)} {ar9 : jSc} {al9 : jAl} {k132 : Int32 → Int32 → Int32 → Int32 → jSc → (Nat → Nat) → jSc → jAl → Option (jSc × (Nat → Nat) × jSc × jAl)} (hk132 : ∀ (x1 : Int32) (x5 : Int32) (x6 : Int32) (x7 : Int32) (sc : jSc) (mr : (Nat → Nat)) (ar : jSc) (al : jAl), k132 x1 x5 x6 x7 sc mr ar al = some (sc9, mr9, ar9, al9) → gL (gX b) 285 (d + 6) 132 [some (.ref 773), some (.int x1), none, none, none, some (.int x5), some (.int x6), some (.int x7), none] [] sc (x_mk mr rf) ar al Post) (hP : Post none sc9 (x_mk mr9 rf) ar9 al9) : ∀ (nn : Nat) (x1 : Int32) (x6 : Int32) (x7 : Int32) (x8 : Int32) (sc : jSc) (mr : (Nat → Nat)) (ar : jSc) (al : jAl), xF_285_149 k132 nn x1 x6 x7 x8 sc mr ar al = some (sc9, mr9, ar9, al9) → gL (gX b) 285 (d + 6) 149 [some (.ref 773), some (.int x1), none, none, none, none, some (.int x6), some (.int x7), some (.int x8)] [] sc (x_mk mr rf) ar al Post := by
  intro nn
  induction nn with
  | zero =>
    intro x1 x6 x7 x8 sc mr ar al h
    have h : (none : Option (jSc × (Nat → Nat) × jSc × jAl)) = some _ := h
    cases h
  | succ nn ih =>
    intro x1 x6 x7 x8 sc mr ar al h
    unfold xF_285_149 at h
    refine gl_iload (gX_LK b) y_285_149 rfl rfl ?_
    refine gl_iload (gX_LK b) y_285_151 rfl rfl ?_
    refine gl_ic_ge (gX_LK b) y_285_153 rfl rfl (fun c3 => ?_) (fun c3 => ?_)
    · have h := (if_pos c3).symm.trans h
      exact gl_weak (vs := [some (.ref 773), some (.int x1), none, none, none, none, some (.int x6), some (.int x7), none]) ⟨rfl, rfl, rfl, rfl, trivial⟩ (xt_285_176  hk132 hP x1 x6 x7 sc mr ar al h)
    · have h := (if_neg c3).symm.trans h
      refine gl_aload_n (gX_LK b) y_285_156 rfl rfl ?_
      obtain ⟨ve4, sce4, mre4, are4, ale4, e4, h⟩ := o_k5 h
      refine gl_callV (gX_LK b) y_285_157 ym_285_111 rfl rfl rfl ys_773 yx_291 rfl rfl ((xt_291 )  _  _ _ _ _ _ _ _ _ _ e4 ?_)
      refine gl_if_ne (gX_LK b) y_285_160 rfl rfl (fun c5 => ?_) (fun c5 => ?_)
      · have h := (if_pos c5).symm.trans h
        refine gl_aload_n (gX_LK b) y_285_163 rfl rfl ?_
        refine gl_iload (gX_LK b) y_285_164 rfl rfl ?_
        refine gl_iconst (gX_LK b) y_285_166 ci_0 rfl ?_
        obtain ⟨sce6, mre6, are6, ale6, e6, h⟩ := o_k4 h
        refine gl_callV (gX_LK b) y_285_167 ym_285_115 rfl rfl rfl ys_773 yx_293 rfl rfl ((xt_293 )  _ _ _ _ _ _ _ _ _ _ _ e6 ?_)
        refine gl_iinc (vs2 := [some (.ref 773), some (.int x1), none, none, none, none, some (.int x6), some (.int x7), some (.int (x8 + (1 : Int32)))]) (gX_LK b) y_285_170 rfl rfl rfl ci_1 rfl rfl ?_
        refine gl_goto (gX_LK b) y_285_173 rfl ?_
        exact gl_weak (vs := [some (.ref 773), some (.int x1), none, none, none, none, some (.int x6), some (.int x7), some (.int (x8 + (1 : Int32)))]) ⟨rfl, rfl, rfl, rfl, rfl, trivial⟩ (ih x1 x6 x7 (x8 + (1 : Int32)) sce6 mre6 are6 ale6 h)
      · have h := (if_neg c5).symm.trans h
        exact gl_weak (vs := [some (.ref 773), some (.int x1), none, none, none, none, some (.int x6), some (.int x7), none]) ⟨rfl, rfl, rfl, rfl, trivial⟩ (xt_285_176  hk132 hP x1 x6 x7 sce4 mre4 are4 ale4 h)
def xF_285_132 : Nat → Int32 → Int32 → Int32 → Int32 → jSc → (Nat → Nat) → jSc → jAl → Option (jSc × (Nat → Nat) × jSc × jAl)
  | 0, _, _, _, _, _, _, _, _ => none
  | nn + 1, x1, x5, x6, x7, sc, mr, ar, al => (if x1 ≤ x7 then some ((j_u2 sc 773 0 (sc 774 0)), mr, ar, al) else (if x6 ≤ x5 then some ((j_u2 sc 773 0 (sc 774 0)), mr, ar, al) else xF_285_149 (fun x1_ x5_ x6_ x7_ sc_ mr_ ar_ al_ => xF_285_132 nn x1_ x5_ x6_ x7_ sc_ mr_ ar_ al_) oF x1 x6 x7 x5 sc mr ar al))
set_option maxHeartbeats 4000000 in
theorem xt_285_132 {b : Bool} {rf : jRf} {d : Nat} {Post : jPo} {sc9 : jSc} {mr9 : (Nat → Nat)} {ar9 : jSc} {al9 : jAl} (hP : Post none sc9 (x_mk mr9 rf) ar9 al9) : ∀ (nn : Nat) (x1 : Int32) (x5 : Int32) (x6 : Int32) (x7 : Int32) (sc : jSc) (mr : (Nat → Nat)) (ar : jSc) (al : jAl), xF_285_132 nn x1 x5 x6 x7 sc mr ar al = some (sc9, mr9, ar9, al9) → gL (gX b) 285 (d + 6) 132 [some (.ref 773), some (.int x1), none, none, none, some (.int x5), some (.int x6), some (.int x7), none] [] sc (x_mk mr rf) ar al Post := by
  intro nn
  induction nn with
  | zero =>
    intro x1 x5 x6 x7 sc mr ar al h
    have h : (none : Option (jSc × (Nat → Nat) × jSc × jAl)) = some _ := h
    cases h
  | succ nn ih =>
    intro x1 x5 x6 x7 sc mr ar al h
    unfold xF_285_132 at h
    refine gl_iload (gX_LK b) y_285_132 rfl rfl ?_
    refine gl_iload_n (gX_LK b) y_285_134 rfl rfl ?_
    refine gl_ic_ge (gX_LK b) y_285_135 rfl rfl (fun c7 => ?_) (fun c7 => ?_)
    · have h := (if_pos c7).symm.trans h
      refine gl_aload_n (gX_LK b) y_285_207 rfl rfl ?_
      refine gl_aload_n (gX_LK b) y_285_208 rfl rfl ?_
      refine gl_getA (gX_LK b) y_285_209 yf_285_22 ys_773 rfl rfl rfl rfl ?_
      refine gl_get (gX_LK b) y_285_212 yf_285_108 ys_774 rfl rfl rfl rfl ?_
      refine gl_put (sc' := (j_u2 sc 773 0 (sc 774 0))) (gX_LK b) y_285_215 yf_285_9 ys_773 rfl rfl rfl rfl rfl ?_
      exact gl_return y_285_218 yt_285 (by cases h; exact hP)
    · have h := (if_neg c7).symm.trans h
      refine gl_iload (gX_LK b) y_285_138 rfl rfl ?_
      refine gl_iload (gX_LK b) y_285_140 rfl rfl ?_
      refine gl_ic_ge (gX_LK b) y_285_142 rfl rfl (fun c8 => ?_) (fun c8 => ?_)
      · have h := (if_pos c8).symm.trans h
        refine gl_aload_n (gX_LK b) y_285_207 rfl rfl ?_
        refine gl_aload_n (gX_LK b) y_285_208 rfl rfl ?_
        refine gl_getA (gX_LK b) y_285_209 yf_285_22 ys_773 rfl rfl rfl rfl ?_
        refine gl_get (gX_LK b) y_285_212 yf_285_108 ys_774 rfl rfl rfl rfl ?_
        refine gl_put (sc' := (j_u2 sc 773 0 (sc 774 0))) (gX_LK b) y_285_215 yf_285_9 ys_773 rfl rfl rfl rfl rfl ?_
        exact gl_return y_285_218 yt_285 (by cases h; exact hP)
      · have h := (if_neg c8).symm.trans h
        refine gl_iload (gX_LK b) y_285_145 rfl rfl ?_
        refine gl_istore (vs2 := [some (.ref 773), some (.int x1), none, none, none, some (.int x5), some (.int x6), some (.int x7), some (.int x5)]) (gX_LK b) y_285_147 rfl rfl rfl rfl ?_
        exact gl_weak (vs := [some (.ref 773), some (.int x1), none, none, none, none, some (.int x6), some (.int x7), some (.int x5)]) ⟨rfl, rfl, rfl, rfl, rfl, trivial⟩ (xt_285_149  ih hP oF x1 x6 x7 x5 sc mr ar al h)
def xF_285_30 (x1 : Int32) (x2 : Int32) (x3 : Int32) (x4 : Int32) (sc : jSc) (mr : (Nat → Nat)) (ar : jSc) (al : jAl) : Option (jSc × (Nat → Nat) × jSc × jAl) :=
  (if x3 = 0 ∨ x3 = 1 then (o_b4 (xF_219 (j_u2 (j_u2 (j_u2 (j_u2 sc 773 16 x4) 773 15 x3) 773 14 (if (600 : Int32) < x2 then (600 : Int32) else x2)) 773 1 (0 : Int32)) mr ar al) (fun sce10 mre10 are10 ale10 => (o_b4 (xF_207 780 sce10 mre10 are10 ale10) (fun sce11 mre11 are11 ale11 => (o_b5 (xF_220 780 sce11 mre11 are11 ale11) (fun ve12 sce12 mre12 are12 ale12 => (o_b5 (xF_294 (-1 : Int32) (-1 : Int32) sce12 mre12 are12 ale12) (fun ve13 sce13 mre13 are13 ale13 => (o_b5 (xF_210 780 sce13 mre13 are13 ale13) (fun ve14 sce14 mre14 are14 ale14 => (if ve14 = 0 then xF_285_132 oF x1 (0 : Int32) (sce14 774 0) (0 : Int32) (j_u2 sce14 773 13 (-1 : Int32)) mre14 are14 ale14 else xF_285_132 oF x1 (0 : Int32) (sce14 774 0) (0 : Int32) (j_u2 sce14 773 13 (0 : Int32)) mre14 are14 ale14))))))))))) else none)
set_option maxHeartbeats 4000000 in
theorem xt_285_30 {b : Bool} {rf : jRf} {d : Nat} {Post : jPo} {sc9 : jSc} {mr9 : (Nat → Nat)} {ar9 : jSc} {al9 : jAl} (hP : Post none sc9 (x_mk mr9 rf) ar9 al9) (x1 : Int32) (x2 : Int32) (x3 : Int32) (x4 : Int32) (sc : jSc) (mr : (Nat → Nat)) (ar : jSc) (al : jAl) (h : xF_285_30 x1 x2 x3 x4 sc mr ar al = some (sc9, mr9, ar9, al9)) : gL (gX b) 285 (d + 6) 30 [some (.ref 773), some (.int x1), some (.int x2), some (.int x3), some (.int x4), none, none, none, none] [] sc (x_mk mr rf) ar al Post := by
  unfold xF_285_30 at h
  refine gl_aload_n (gX_LK b) y_285_30 rfl rfl ?_
  refine gl_iload (gX_LK b) y_285_31 rfl rfl ?_
  refine gl_put (sc' := (j_u2 sc 773 16 x4)) (gX_LK b) y_285_33 yf_285_69 ys_773 rfl rfl rfl rfl rfl ?_
  refine gl_aload_n (gX_LK b) y_285_36 rfl rfl ?_
  refine gl_iload_n (gX_LK b) y_285_37 rfl rfl ?_
  obtain ⟨c9, h⟩ := o_ck h
  refine gl_put (sc' := (j_u2 (j_u2 sc 773 16 x4) 773 15 x3)) (gX_LK b) y_285_38 yf_285_66 ys_773 rfl rfl (Eq.mpr wp_1 c9) rfl rfl ?_
  refine gl_aload_n (gX_LK b) y_285_41 rfl rfl ?_
  refine gl_iload_n (gX_LK b) y_285_42 rfl rfl ?_
  refine gl_sipush (gX_LK b) y_285_43 cs_600 rfl ?_
  refine gl_min (gX_LK b) y_285_46 yn_285_82 yz_285_82 rfl rfl ?_
  refine gl_put (sc' := (j_u2 (j_u2 (j_u2 sc 773 16 x4) 773 15 x3) 773 14 (if (600 : Int32) < x2 then (600 : Int32) else x2))) (gX_LK b) y_285_49 yf_285_63 ys_773 rfl rfl rfl rfl rfl ?_
  refine gl_aload_n (gX_LK b) y_285_52 rfl rfl ?_
  refine gl_iconst (gX_LK b) y_285_53 ci_0 rfl ?_
  refine gl_put (sc' := (j_u2 (j_u2 (j_u2 (j_u2 sc 773 16 x4) 773 15 x3) 773 14 (if (600 : Int32) < x2 then (600 : Int32) else x2)) 773 1 (0 : Int32))) (gX_LK b) y_285_54 yf_285_15 ys_773 rfl rfl rfl rfl rfl ?_
  refine gl_aload_n (gX_LK b) y_285_57 rfl rfl ?_
  refine gl_getA (gX_LK b) y_285_58 yf_285_22 ys_773 rfl rfl rfl rfl ?_
  obtain ⟨sce10, mre10, are10, ale10, e10, h⟩ := o_k4 h
  refine gl_callV (gX_LK b) y_285_61 ym_285_88 rfl rfl rfl ys_774 yx_219 rfl rfl ((xt_219 )  _  _ _ _ _ _ _ _ _ e10 ?_)
  refine gl_aload_n (gX_LK b) y_285_64 rfl rfl ?_
  refine gl_getA (gX_LK b) y_285_65 yf_285_78 ys_773 rfl rfl rfl rfl ?_
  refine gl_aload_n (gX_LK b) y_285_68 rfl rfl ?_
  refine gl_getA (gX_LK b) y_285_69 yf_285_33 ys_773 rfl rfl rfl rfl ?_
  obtain ⟨sce11, mre11, are11, ale11, e11, h⟩ := o_k4 h
  refine gl_callV (gX_LK b) y_285_72 ym_285_91 rfl rfl rfl ys_757 yx_207 rfl rfl ((xt_207 )  _ _ (show x_pg 780 = true from rfl) _ _ _ _ _ _ _ _ e11 ?_)
  refine gl_aload_n (gX_LK b) y_285_75 rfl rfl ?_
  refine gl_getA (gX_LK b) y_285_76 yf_285_22 ys_773 rfl rfl rfl rfl ?_
  refine gl_aload_n (gX_LK b) y_285_79 rfl rfl ?_
  refine gl_getA (gX_LK b) y_285_80 yf_285_33 ys_773 rfl rfl rfl rfl ?_
  obtain ⟨ve12, sce12, mre12, are12, ale12, e12, h⟩ := o_k5 h
  refine gl_callV (gX_LK b) y_285_83 ym_285_97 rfl rfl rfl ys_774 yx_220 rfl rfl ((xt_220 )  _ _ (show x_pg 780 = true from rfl) _ _ _ _ _ _ _ _ _ e12 ?_)
  refine gl_pop (gX_LK b) y_285_86 rfl rfl ?_
  refine gl_aload_n (gX_LK b) y_285_87 rfl rfl ?_
  refine gl_iconst (gX_LK b) y_285_88 ci_m1 rfl ?_
  refine gl_iconst (gX_LK b) y_285_89 ci_m1 rfl ?_
  obtain ⟨ve13, sce13, mre13, are13, ale13, e13, h⟩ := o_k5 h
  refine gl_callV (gX_LK b) y_285_90 ym_285_101 rfl rfl rfl ys_773 yx_294 rfl rfl ((xt_294 )  _ _ _ _ _ _ _ _ _ _ _ _ e13 ?_)
  refine gl_pop (gX_LK b) y_285_93 rfl rfl ?_
  refine gl_aload_n (gX_LK b) y_285_94 rfl rfl ?_
  refine gl_aload_n (gX_LK b) y_285_95 rfl rfl ?_
  refine gl_getA (gX_LK b) y_285_96 yf_285_78 ys_773 rfl rfl rfl rfl ?_
  refine gl_aload_n (gX_LK b) y_285_99 rfl rfl ?_
  refine gl_getA (gX_LK b) y_285_100 yf_285_33 ys_773 rfl rfl rfl rfl ?_
  obtain ⟨ve14, sce14, mre14, are14, ale14, e14, h⟩ := o_k5 h
  refine gl_callV (gX_LK b) y_285_103 ym_285_104 rfl rfl rfl ys_757 yx_210 rfl rfl ((xt_210 )  _ _ (show x_pg 780 = true from rfl) _ _ _ _ _ _ _ _ _ e14 ?_)
  refine gl_if_eq (gX_LK b) y_285_106 rfl rfl (fun c15 => ?_) (fun c15 => ?_)
  · have h := (if_pos c15).symm.trans h
    refine gl_iconst (gX_LK b) y_285_113 ci_m1 rfl ?_
    refine gl_put (sc' := (j_u2 sce14 773 13 (-1 : Int32))) (gX_LK b) y_285_114 yf_285_60 ys_773 rfl rfl rfl rfl rfl ?_
    refine gl_iconst (gX_LK b) y_285_117 ci_0 rfl ?_
    refine gl_istore (vs2 := [some (.ref 773), some (.int x1), some (.int x2), some (.int x3), some (.int x4), some (.int (0 : Int32)), none, none, none]) (gX_LK b) y_285_118 rfl rfl rfl rfl ?_
    refine gl_aload_n (gX_LK b) y_285_120 rfl rfl ?_
    refine gl_getA (gX_LK b) y_285_121 yf_285_22 ys_773 rfl rfl rfl rfl ?_
    refine gl_get (gX_LK b) y_285_124 yf_285_108 ys_774 rfl rfl rfl rfl ?_
    refine gl_istore (vs2 := [some (.ref 773), some (.int x1), some (.int x2), some (.int x3), some (.int x4), some (.int (0 : Int32)), some (.int (sce14 774 0)), none, none]) (gX_LK b) y_285_127 rfl rfl rfl rfl ?_
    refine gl_iconst (gX_LK b) y_285_129 ci_0 rfl ?_
    refine gl_istore (vs2 := [some (.ref 773), some (.int x1), some (.int x2), some (.int x3), some (.int x4), some (.int (0 : Int32)), some (.int (sce14 774 0)), some (.int (0 : Int32)), none]) (gX_LK b) y_285_130 rfl rfl rfl rfl ?_
    exact gl_weak (vs := [some (.ref 773), some (.int x1), none, none, none, some (.int (0 : Int32)), some (.int (sce14 774 0)), some (.int (0 : Int32)), none]) ⟨rfl, rfl, rfl, rfl, rfl, trivial⟩ (xt_285_132  hP oF x1 (0 : Int32) (sce14 774 0) (0 : Int32) (j_u2 sce14 773 13 (-1 : Int32)) mre14 are14 ale14 h)
  · have h := (if_neg c15).symm.trans h
    refine gl_iconst (gX_LK b) y_285_109 ci_0 rfl ?_
    refine gl_goto (gX_LK b) y_285_110 rfl ?_
    refine gl_put (sc' := (j_u2 sce14 773 13 (0 : Int32))) (gX_LK b) y_285_114 yf_285_60 ys_773 rfl rfl rfl rfl rfl ?_
    refine gl_iconst (gX_LK b) y_285_117 ci_0 rfl ?_
    refine gl_istore (vs2 := [some (.ref 773), some (.int x1), some (.int x2), some (.int x3), some (.int x4), some (.int (0 : Int32)), none, none, none]) (gX_LK b) y_285_118 rfl rfl rfl rfl ?_
    refine gl_aload_n (gX_LK b) y_285_120 rfl rfl ?_
    refine gl_getA (gX_LK b) y_285_121 yf_285_22 ys_773 rfl rfl rfl rfl ?_
    refine gl_get (gX_LK b) y_285_124 yf_285_108 ys_774 rfl rfl rfl rfl ?_
    refine gl_istore (vs2 := [some (.ref 773), some (.int x1), some (.int x2), some (.int x3), some (.int x4), some (.int (0 : Int32)), some (.int (sce14 774 0)), none, none]) (gX_LK b) y_285_127 rfl rfl rfl rfl ?_
    refine gl_iconst (gX_LK b) y_285_129 ci_0 rfl ?_
    refine gl_istore (vs2 := [some (.ref 773), some (.int x1), some (.int x2), some (.int x3), some (.int x4), some (.int (0 : Int32)), some (.int (sce14 774 0)), some (.int (0 : Int32)), none]) (gX_LK b) y_285_130 rfl rfl rfl rfl ?_
    exact gl_weak (vs := [some (.ref 773), some (.int x1), none, none, none, some (.int (0 : Int32)), some (.int (sce14 774 0)), some (.int (0 : Int32)), none]) ⟨rfl, rfl, rfl, rfl, rfl, trivial⟩ (xt_285_132  hP oF x1 (0 : Int32) (sce14 774 0) (0 : Int32) (j_u2 sce14 773 13 (0 : Int32)) mre14 are14 ale14 h)
def xF_285 (x1 : Int32) (x2 : Int32) (x3 : Int32) (sc : jSc) (mr : (Nat → Nat)) (ar : jSc) (al : jAl) : Option (jSc × (Nat → Nat) × jSc × jAl) :=
  (if ((x1 * (1024 : Int32)) + x2) = (sc 773 16) then (if (sc 773 15) = 0 then (if x3 = 0 then some (sc, mr, ar, al) else xF_285_30 x1 x2 x3 ((x1 * (1024 : Int32)) + x2) sc mr ar al) else some (sc, mr, ar, al)) else xF_285_30 x1 x2 x3 ((x1 * (1024 : Int32)) + x2) sc mr ar al)
set_option maxHeartbeats 4000000 in
theorem xt_285 {b : Bool} {rf : jRf} {d : Nat} : xT_285 b rf xF_285 (d + 6) := by
  intro  Post x1 x2 x3 sc mr ar al sc9 mr9 ar9 al9 h hP
  unfold xF_285 at h
  refine gl_entry (m := 5) rfl ?_
  show gL (gX b) 285 (d + 6) 0 [some (.ref 773), some (.int x1), some (.int x2), some (.int x3), none, none, none, none, none] [] sc (x_mk mr rf) ar al Post
  refine gl_iload_n (gX_LK b) y_285_0 rfl rfl ?_
  refine gl_sipush (gX_LK b) y_285_1 cs_1024 rfl ?_
  refine gl_imul (gX_LK b) y_285_4 rfl ?_
  refine gl_iload_n (gX_LK b) y_285_5 rfl rfl ?_
  refine gl_iadd (gX_LK b) y_285_6 rfl ?_
  refine gl_istore (vs2 := [some (.ref 773), some (.int x1), some (.int x2), some (.int x3), some (.int ((x1 * (1024 : Int32)) + x2)), none, none, none, none]) (gX_LK b) y_285_7 rfl rfl rfl rfl ?_
  refine gl_iload (gX_LK b) y_285_9 rfl rfl ?_
  refine gl_aload_n (gX_LK b) y_285_11 rfl rfl ?_
  refine gl_get (gX_LK b) y_285_12 yf_285_69 ys_773 rfl rfl rfl rfl ?_
  refine gl_ic_ne (gX_LK b) y_285_15 rfl rfl (fun c16 => ?_) (fun c16 => ?_)
  · have h := (if_pos c16).symm.trans h
    refine gl_aload_n (gX_LK b) y_285_18 rfl rfl ?_
    refine gl_get (gX_LK b) y_285_19 yf_285_66 ys_773 rfl rfl rfl rfl ?_
    refine gl_if_ne (gX_LK b) y_285_22 rfl rfl (fun c17 => ?_) (fun c17 => ?_)
    · have h := (if_pos c17).symm.trans h
      refine gl_iload_n (gX_LK b) y_285_25 rfl rfl ?_
      refine gl_if_ne (gX_LK b) y_285_26 rfl rfl (fun c18 => ?_) (fun c18 => ?_)
      · have h := (if_pos c18).symm.trans h
        exact gl_return y_285_29 yt_285 (by cases h; exact hP)
      · have h := (if_neg c18).symm.trans h
        exact gl_weak (vs := [some (.ref 773), some (.int x1), some (.int x2), some (.int x3), some (.int ((x1 * (1024 : Int32)) + x2)), none, none, none, none]) ⟨rfl, rfl, rfl, rfl, rfl, trivial⟩ (xt_285_30  hP x1 x2 x3 ((x1 * (1024 : Int32)) + x2) sc mr ar al h)
    · have h := (if_neg c17).symm.trans h
      exact gl_return y_285_29 yt_285 (by cases h; exact hP)
  · have h := (if_neg c16).symm.trans h
    exact gl_weak (vs := [some (.ref 773), some (.int x1), some (.int x2), some (.int x3), some (.int ((x1 * (1024 : Int32)) + x2)), none, none, none, none]) ⟨rfl, rfl, rfl, rfl, rfl, trivial⟩ (xt_285_30  hP x1 x2 x3 ((x1 * (1024 : Int32)) + x2) sc mr ar al h)
/-- ClickOrders$Search.depthOf(I)I -/
def xT_292 (b : Bool) (rf : jRf) (F : Int32 → jSc → (Nat → Nat) → jSc → jAl → Option (Int32 × jSc × (Nat → Nat) × jSc × jAl)) (e : Nat) : Prop := ∀  (Post : jPo) (x1 : Int32) (sc : jSc) (mr : (Nat → Nat)) (ar : jSc) (al : jAl) (r9 : Int32) (sc9 : jSc) (mr9 : (Nat → Nat)) (ar9 : jSc) (al9 : jAl), F x1 sc mr ar al = some (r9, sc9, mr9, ar9, al9) → Post (some (.int r9)) sc9 (x_mk mr9 rf) ar9 al9 → gW (gX b) 292 e 0 (j_av [.ref 773, .int x1]) [] sc (x_mk mr rf) ar al Post
def xF_292_7 : Nat → Int32 → Int32 → Int32 → jSc → (Nat → Nat) → jSc → jAl → Option (Int32 × jSc × (Nat → Nat) × jSc × jAl)
  | 0, _, _, _, _, _, _, _ => none
  | nn + 1, x2, x3, x4, sc, mr, ar, al => (if (8 : Int32) ≤ x4 then some (x2, sc, mr, ar, al) else (if x3 ≤ 0 then some (x2, sc, mr, ar, al) else (if iB x3 600 then xF_292_7 nn (x2 + (1 : Int32)) (ar 789 (iN x3)) (x4 + (1 : Int32)) sc mr ar al else none)))
set_option maxHeartbeats 4000000 in
theorem xt_292_7 {b : Bool} {rf : jRf} {d : Nat} {Post : jPo} {r9 : Int32} {sc9 : jSc} {mr9 : (Nat → Nat)} {ar9 : jSc} {al9 : jAl} (hP : Post (some (.int r9)) sc9 (x_mk mr9 rf) ar9 al9) : ∀ (nn : Nat) (x2 : Int32) (x3 : Int32) (x4 : Int32) (sc : jSc) (mr : (Nat → Nat)) (ar : jSc) (al : jAl), xF_292_7 nn x2 x3 x4 sc mr ar al = some (r9, sc9, mr9, ar9, al9) → gL (gX b) 292 (d + 1) 7 [some (.ref 773), none, some (.int x2), some (.int x3), some (.int x4)] [] sc (x_mk mr rf) ar al Post := by
  intro nn
  induction nn with
  | zero =>
    intro x2 x3 x4 sc mr ar al h
    have h : (none : Option (Int32 × jSc × (Nat → Nat) × jSc × jAl)) = some _ := h
    cases h
  | succ nn ih =>
    intro x2 x3 x4 sc mr ar al h
    unfold xF_292_7 at h
    refine gl_iload (gX_LK b) y_292_7 rfl rfl ?_
    refine gl_bipush (gX_LK b) y_292_9 cb_8 rfl ?_
    refine gl_ic_ge (gX_LK b) y_292_11 rfl rfl (fun c1 => ?_) (fun c1 => ?_)
    · have h := (if_pos c1).symm.trans h
      refine gl_iload_n (gX_LK b) y_292_34 rfl rfl ?_
      exact gl_ireturn y_292_35 (Or.inl yt_292) (by cases h; exact hP)
    · have h := (if_neg c1).symm.trans h
      refine gl_iload_n (gX_LK b) y_292_14 rfl rfl ?_
      refine gl_if_le (gX_LK b) y_292_15 rfl rfl (fun c2 => ?_) (fun c2 => ?_)
      · have h := (if_pos c2).symm.trans h
        refine gl_iload_n (gX_LK b) y_292_34 rfl rfl ?_
        exact gl_ireturn y_292_35 (Or.inl yt_292) (by cases h; exact hP)
      · have h := (if_neg c2).symm.trans h
        refine gl_aload_n (gX_LK b) y_292_18 rfl rfl ?_
        refine gl_getA (gX_LK b) y_292_19 yf_292_40 ys_773 rfl rfl rfl rfl ?_
        refine gl_iload_n (gX_LK b) y_292_22 rfl rfl ?_
        obtain ⟨c3, h⟩ := o_ck h
        refine gl_iaload (gX_LK b) y_292_23 ys_789 c3 rfl rfl ?_
        refine gl_istore_n (vs2 := [some (.ref 773), none, some (.int x2), some (.int (ar 789 (iN x3))), some (.int x4)]) (gX_LK b) y_292_24 rfl rfl rfl rfl ?_
        refine gl_iinc (vs2 := [some (.ref 773), none, some (.int (x2 + (1 : Int32))), some (.int (ar 789 (iN x3))), some (.int x4)]) (gX_LK b) y_292_25 rfl rfl rfl ci_1 rfl rfl ?_
        refine gl_iinc (vs2 := [some (.ref 773), none, some (.int (x2 + (1 : Int32))), some (.int (ar 789 (iN x3))), some (.int (x4 + (1 : Int32)))]) (gX_LK b) y_292_28 rfl rfl rfl ci_1 rfl rfl ?_
        refine gl_goto (gX_LK b) y_292_31 rfl ?_
        exact gl_weak (vs := [some (.ref 773), none, some (.int (x2 + (1 : Int32))), some (.int (ar 789 (iN x3))), some (.int (x4 + (1 : Int32)))]) ⟨rfl, rfl, rfl, rfl, trivial⟩ (ih (x2 + (1 : Int32)) (ar 789 (iN x3)) (x4 + (1 : Int32)) sc mr ar al h)
def xF_292 (x1 : Int32) (sc : jSc) (mr : (Nat → Nat)) (ar : jSc) (al : jAl) : Option (Int32 × jSc × (Nat → Nat) × jSc × jAl) :=
  xF_292_7 oF (0 : Int32) x1 (0 : Int32) sc mr ar al
set_option maxHeartbeats 4000000 in
theorem xt_292 {b : Bool} {rf : jRf} {d : Nat} : xT_292 b rf xF_292 (d + 1) := by
  intro  Post x1 sc mr ar al r9 sc9 mr9 ar9 al9 h hP
  unfold xF_292 at h
  refine gl_entry (m := 3) rfl ?_
  show gL (gX b) 292 (d + 1) 0 [some (.ref 773), some (.int x1), none, none, none] [] sc (x_mk mr rf) ar al Post
  refine gl_iconst (gX_LK b) y_292_0 ci_0 rfl ?_
  refine gl_istore_n (vs2 := [some (.ref 773), some (.int x1), some (.int (0 : Int32)), none, none]) (gX_LK b) y_292_1 rfl rfl rfl rfl ?_
  refine gl_iload_n (gX_LK b) y_292_2 rfl rfl ?_
  refine gl_istore_n (vs2 := [some (.ref 773), some (.int x1), some (.int (0 : Int32)), some (.int x1), none]) (gX_LK b) y_292_3 rfl rfl rfl rfl ?_
  refine gl_iconst (gX_LK b) y_292_4 ci_0 rfl ?_
  refine gl_istore (vs2 := [some (.ref 773), some (.int x1), some (.int (0 : Int32)), some (.int x1), some (.int (0 : Int32))]) (gX_LK b) y_292_5 rfl rfl rfl rfl ?_
  exact gl_weak (vs := [some (.ref 773), none, some (.int (0 : Int32)), some (.int x1), some (.int (0 : Int32))]) ⟨rfl, rfl, rfl, rfl, trivial⟩ (xt_292_7  hP oF (0 : Int32) x1 (0 : Int32) sc mr ar al h)
