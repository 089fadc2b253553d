/-! ClickOrders: its methods as functions, and that the machine does what they say. -/
/-- ClickOrders$Reader.oneStep()V -/
def xT_259 (b : Bool) (rf : jRf) (F : jSc → (Nat → Nat) → jSc → jAl → Option (jSc × (Nat → Nat) × jSc × jAl)) (e : Nat) : Prop := ∀  (Post : jPo) (sc : jSc) (mr : (Nat → Nat)) (ar : jSc) (al : jAl) (sc9 : jSc) (mr9 : (Nat → Nat)) (ar9 : jSc) (al9 : jAl), F sc mr ar al = some (sc9, mr9, ar9, al9) → Post none sc9 (x_mk mr9 rf) ar9 al9 → gW (gX b) 259 e 0 (j_av [.ref 756]) [] sc (x_mk mr rf) ar al Post
def xF_259_168 (g259 : jSc → (Nat → Nat) → jSc → jAl → Option (jSc × (Nat → Nat) × jSc × jAl)) (x3 : Int32) (x4 : Int32) (sc : jSc) (mr : (Nat → Nat)) (ar : jSc) (al : jAl) : Option (jSc × (Nat → Nat) × jSc × jAl) :=
  (if x3 = (23 : Int32) then (o_b5 (xF_267 sc mr ar al) (fun ve2 sce2 mre2 are2 ale2 => (if x_pr (mre2 4) = true then (o_b5 (xF_252 (mre2 4) x3 ((x4 * (1000 : Int32)) + ve2) sce2 mre2 are2 ale2) (fun ve4 sce4 mre4 are4 ale4 => (o_b4 (xF_271 (59 : Int32) sce4 mre4 are4 ale4) (fun sce5 mre5 are5 ale5 => some (sce5, mre5, are5, ale5))))) else none))) else (if x3 = (18 : Int32) then (o_b4 ((xG_263 40) (0 : Int32) sc mr ar al) (fun sce7 mre7 are7 ale7 => (if x_pr (mre7 4) = true then (o_b5 (xF_252 (mre7 4) x3 x4 sce7 mre7 are7 ale7) (fun ve9 sce9 mre9 are9 ale9 => (o_b4 (xF_271 (59 : Int32) sce9 mre9 are9 ale9) (fun sce10 mre10 are10 ale10 => some (sce10, mre10, are10, ale10))))) else none))) else (if x3 = (24 : Int32) then (o_b4 ((xG_263 40) (0 : Int32) sc mr ar al) (fun sce12 mre12 are12 ale12 => (if x_pr (mre12 4) = true then (o_b5 (xF_252 (mre12 4) x3 x4 sce12 mre12 are12 ale12) (fun ve14 sce14 mre14 are14 ale14 => (o_b4 (xF_271 (59 : Int32) sce14 mre14 are14 ale14) (fun sce15 mre15 are15 ale15 => some (sce15, mre15, are15, ale15))))) else none))) else (if x3 = (26 : Int32) then (o_b4 ((xG_263 40) (0 : Int32) sc mr ar al) (fun sce17 mre17 are17 ale17 => (if x_pr (mre17 4) = true then (o_b5 (xF_252 (mre17 4) x3 x4 sce17 mre17 are17 ale17) (fun ve19 sce19 mre19 are19 ale19 => (o_b4 (xF_271 (59 : Int32) sce19 mre19 are19 ale19) (fun sce20 mre20 are20 ale20 => some (sce20, mre20, are20, ale20))))) else none))) else (if x_pr (mr 4) = true then (o_b5 (xF_252 (mr 4) x3 x4 sc mr ar al) (fun ve22 sce22 mre22 are22 ale22 => (o_b4 (xF_271 (59 : Int32) sce22 mre22 are22 ale22) (fun sce23 mre23 are23 ale23 => some (sce23, mre23, are23, ale23))))) else none)))))
set_option maxHeartbeats 4000000 in
theorem xt_259_168 {b : Bool} {rf : jRf} {d : Nat} {g259 : jSc → (Nat → Nat) → jSc → jAl → Option (jSc × (Nat → Nat) × jSc × jAl)} (hg259 : xT_259 b rf g259 (d + 82)) {Post : jPo} {sc9 : jSc} {mr9 : (Nat → Nat)} {ar9 : jSc} {al9 : jAl} (hP : Post none sc9 (x_mk mr9 rf) ar9 al9) (x3 : Int32) (x4 : Int32) (sc : jSc) (mr : (Nat → Nat)) (ar : jSc) (al : jAl) (h : xF_259_168 g259 x3 x4 sc mr ar al = some (sc9, mr9, ar9, al9)) : gL (gX b) 259 (d + 83) 168 [some (.ref 756), none, none, some (.int x3), some (.int x4)] [] sc (x_mk mr rf) ar al Post := by
  unfold xF_259_168 at h
  refine gl_iload_n (gX_LK b) y_259_168 rfl rfl ?_
  refine gl_bipush (gX_LK b) y_259_169 cb_23 rfl ?_
  refine gl_ic_ne (gX_LK b) y_259_171 rfl rfl (fun c1 => ?_) (fun c1 => ?_)
  · have h := (if_pos c1).symm.trans h
    refine gl_iload (gX_LK b) y_259_174 rfl rfl ?_
    refine gl_sipush (gX_LK b) y_259_176 cs_1000 rfl ?_
    refine gl_imul (gX_LK b) y_259_179 rfl ?_
    refine gl_aload_n (gX_LK b) y_259_180 rfl rfl ?_
    obtain ⟨ve2, sce2, mre2, are2, ale2, e2, h⟩ := o_k5 h
    refine gl_callV (gX_LK b) y_259_181 ym_259_134 rfl rfl rfl ys_756 yx_267 rfl rfl ((xt_267 )  _  _ _ _ _ _ _ _ _ _ e2 ?_)
    refine gl_iadd (gX_LK b) y_259_184 rfl ?_
    refine gl_istore (vs2 := [some (.ref 756), none, none, some (.int x3), some (.int ((x4 * (1000 : Int32)) + ve2))]) (gX_LK b) y_259_185 rfl rfl rfl rfl ?_
    refine gl_goto (gX_LK b) y_259_187 rfl ?_
    refine gl_aload_n (gX_LK b) y_259_213 rfl rfl ?_
    obtain ⟨c3, h⟩ := o_ck h
    refine gl_getA (gX_LK b) y_259_214 yf_259_31 ys_756 rfl rfl rfl rfl ?_
    refine gl_iload_n (gX_LK b) y_259_217 rfl rfl ?_
    refine gl_iload (gX_LK b) y_259_218 rfl rfl ?_
    obtain ⟨ve4, sce4, mre4, are4, ale4, e4, h⟩ := o_k5 h
    refine gl_callV (gX_LK b) y_259_220 ym_259_77 rfl rfl rfl (ys_pr c3) yx_252 rfl rfl ((xt_252 )  _ _ _ _ c3 _ _ _ _ _ _ _ _ _ e4 ?_)
    refine gl_pop (gX_LK b) y_259_223 rfl rfl ?_
    refine gl_aload_n (gX_LK b) y_259_224 rfl rfl ?_
    refine gl_bipush (gX_LK b) y_259_225 cb_59 rfl ?_
    obtain ⟨sce5, mre5, are5, ale5, e5, h⟩ := o_k4 h
    refine gl_callV (gX_LK b) y_259_227 ym_259_80 rfl rfl rfl ys_756 yx_271 rfl rfl ((xt_271 )  _ _ _ _ _ _ _ _ _ _ e5 ?_)
    exact gl_return y_259_230 yt_259 (by cases h; exact hP)
  · have h := (if_neg c1).symm.trans h
    refine gl_iload_n (gX_LK b) y_259_190 rfl rfl ?_
    refine gl_bipush (gX_LK b) y_259_191 cb_18 rfl ?_
    refine gl_ic_eq (gX_LK b) y_259_193 rfl rfl (fun c6 => ?_) (fun c6 => ?_)
    · have h := (if_pos c6).symm.trans h
      refine gl_aload_n (gX_LK b) y_259_208 rfl rfl ?_
      refine gl_iconst (gX_LK b) y_259_209 ci_0 rfl ?_
      obtain ⟨sce7, mre7, are7, ale7, e7, h⟩ := o_k4 h
      refine gl_callV (gX_LK b) y_259_210 ym_259_137 rfl rfl rfl ys_756 yx_263 rfl rfl (((xtG_263  40))  _ _ _ _ _ _ _ _ _ _ e7 ?_)
      refine gl_aload_n (gX_LK b) y_259_213 rfl rfl ?_
      obtain ⟨c8, h⟩ := o_ck h
      refine gl_getA (gX_LK b) y_259_214 yf_259_31 ys_756 rfl rfl rfl rfl ?_
      refine gl_iload_n (gX_LK b) y_259_217 rfl rfl ?_
      refine gl_iload (gX_LK b) y_259_218 rfl rfl ?_
      obtain ⟨ve9, sce9, mre9, are9, ale9, e9, h⟩ := o_k5 h
      refine gl_callV (gX_LK b) y_259_220 ym_259_77 rfl rfl rfl (ys_pr c8) yx_252 rfl rfl ((xt_252 )  _ _ _ _ c8 _ _ _ _ _ _ _ _ _ e9 ?_)
      refine gl_pop (gX_LK b) y_259_223 rfl rfl ?_
      refine gl_aload_n (gX_LK b) y_259_224 rfl rfl ?_
      refine gl_bipush (gX_LK b) y_259_225 cb_59 rfl ?_
      obtain ⟨sce10, mre10, are10, ale10, e10, h⟩ := o_k4 h
      refine gl_callV (gX_LK b) y_259_227 ym_259_80 rfl rfl rfl ys_756 yx_271 rfl rfl ((xt_271 )  _ _ _ _ _ _ _ _ _ _ e10 ?_)
      exact gl_return y_259_230 yt_259 (by cases h; exact hP)
    · have h := (if_neg c6).symm.trans h
      refine gl_iload_n (gX_LK b) y_259_196 rfl rfl ?_
      refine gl_bipush (gX_LK b) y_259_197 cb_24 rfl ?_
      refine gl_ic_eq (gX_LK b) y_259_199 rfl rfl (fun c11 => ?_) (fun c11 => ?_)
      · have h := (if_pos c11).symm.trans h
        refine gl_aload_n (gX_LK b) y_259_208 rfl rfl ?_
        refine gl_iconst (gX_LK b) y_259_209 ci_0 rfl ?_
        obtain ⟨sce12, mre12, are12, ale12, e12, h⟩ := o_k4 h
        refine gl_callV (gX_LK b) y_259_210 ym_259_137 rfl rfl rfl ys_756 yx_263 rfl rfl (((xtG_263  40))  _ _ _ _ _ _ _ _ _ _ e12 ?_)
        refine gl_aload_n (gX_LK b) y_259_213 rfl rfl ?_
        obtain ⟨c13, h⟩ := o_ck h
        refine gl_getA (gX_LK b) y_259_214 yf_259_31 ys_756 rfl rfl rfl rfl ?_
        refine gl_iload_n (gX_LK b) y_259_217 rfl rfl ?_
        refine gl_iload (gX_LK b) y_259_218 rfl rfl ?_
        obtain ⟨ve14, sce14, mre14, are14, ale14, e14, h⟩ := o_k5 h
        refine gl_callV (gX_LK b) y_259_220 ym_259_77 rfl rfl rfl (ys_pr c13) yx_252 rfl rfl ((xt_252 )  _ _ _ _ c13 _ _ _ _ _ _ _ _ _ e14 ?_)
        refine gl_pop (gX_LK b) y_259_223 rfl rfl ?_
        refine gl_aload_n (gX_LK b) y_259_224 rfl rfl ?_
        refine gl_bipush (gX_LK b) y_259_225 cb_59 rfl ?_
        obtain ⟨sce15, mre15, are15, ale15, e15, h⟩ := o_k4 h
        refine gl_callV (gX_LK b) y_259_227 ym_259_80 rfl rfl rfl ys_756 yx_271 rfl rfl ((xt_271 )  _ _ _ _ _ _ _ _ _ _ e15 ?_)
        exact gl_return y_259_230 yt_259 (by cases h; exact hP)
      · have h := (if_neg c11).symm.trans h
        refine gl_iload_n (gX_LK b) y_259_202 rfl rfl ?_
        refine gl_bipush (gX_LK b) y_259_203 cb_26 rfl ?_
        refine gl_ic_ne (gX_LK b) y_259_205 rfl rfl (fun c16 => ?_) (fun c16 => ?_)
        · have h := (if_pos c16).symm.trans h
          refine gl_aload_n (gX_LK b) y_259_208 rfl rfl ?_
          refine gl_iconst (gX_LK b) y_259_209 ci_0 rfl ?_
          obtain ⟨sce17, mre17, are17, ale17, e17, h⟩ := o_k4 h
          refine gl_callV (gX_LK b) y_259_210 ym_259_137 rfl rfl rfl ys_756 yx_263 rfl rfl (((xtG_263  40))  _ _ _ _ _ _ _ _ _ _ e17 ?_)
          refine gl_aload_n (gX_LK b) y_259_213 rfl rfl ?_
          obtain ⟨c18, h⟩ := o_ck h
          refine gl_getA (gX_LK b) y_259_214 yf_259_31 ys_756 rfl rfl rfl rfl ?_
          refine gl_iload_n (gX_LK b) y_259_217 rfl rfl ?_
          refine gl_iload (gX_LK b) y_259_218 rfl rfl ?_
          obtain ⟨ve19, sce19, mre19, are19, ale19, e19, h⟩ := o_k5 h
          refine gl_callV (gX_LK b) y_259_220 ym_259_77 rfl rfl rfl (ys_pr c18) yx_252 rfl rfl ((xt_252 )  _ _ _ _ c18 _ _ _ _ _ _ _ _ _ e19 ?_)
          refine gl_pop (gX_LK b) y_259_223 rfl rfl ?_
          refine gl_aload_n (gX_LK b) y_259_224 rfl rfl ?_
          refine gl_bipush (gX_LK b) y_259_225 cb_59 rfl ?_
          obtain ⟨sce20, mre20, are20, ale20, e20, h⟩ := o_k4 h
          refine gl_callV (gX_LK b) y_259_227 ym_259_80 rfl rfl rfl ys_756 yx_271 rfl rfl ((xt_271 )  _ _ _ _ _ _ _ _ _ _ e20 ?_)
          exact gl_return y_259_230 yt_259 (by cases h; exact hP)
        · have h := (if_neg c16).symm.trans h
          refine gl_aload_n (gX_LK b) y_259_213 rfl rfl ?_
          obtain ⟨c21, h⟩ := o_ck h
          refine gl_getA (gX_LK b) y_259_214 yf_259_31 ys_756 rfl rfl rfl rfl ?_
          refine gl_iload_n (gX_LK b) y_259_217 rfl rfl ?_
          refine gl_iload (gX_LK b) y_259_218 rfl rfl ?_
          obtain ⟨ve22, sce22, mre22, are22, ale22, e22, h⟩ := o_k5 h
          refine gl_callV (gX_LK b) y_259_220 ym_259_77 rfl rfl rfl (ys_pr c21) yx_252 rfl rfl ((xt_252 )  _ _ _ _ c21 _ _ _ _ _ _ _ _ _ e22 ?_)
          refine gl_pop (gX_LK b) y_259_223 rfl rfl ?_
          refine gl_aload_n (gX_LK b) y_259_224 rfl rfl ?_
          refine gl_bipush (gX_LK b) y_259_225 cb_59 rfl ?_
          obtain ⟨sce23, mre23, are23, ale23, e23, h⟩ := o_k4 h
          refine gl_callV (gX_LK b) y_259_227 ym_259_80 rfl rfl rfl ys_756 yx_271 rfl rfl ((xt_271 )  _ _ _ _ _ _ _ _ _ _ e23 ?_)
          exact gl_return y_259_230 yt_259 (by cases h; exact hP)
def xF_259_27 (g259 : jSc → (Nat → Nat) → jSc → jAl → Option (jSc × (Nat → Nat) × jSc × jAl)) (x1 : Int32) (x2 : Int32) (y0 : Int32) (sc : jSc) (mr : (Nat → Nat)) (ar : jSc) (al : jAl) : Option (jSc × (Nat → Nat) × jSc × jAl) :=
  (if 0 ≤ y0 then (if x_pr (mr 4) = true then (if x_pr (mr 4) = true then (if ((j_u2 sc (mr 4) 4 ((sc (mr 4) 4) + (1 : Int32))) (mr 4) 4) ≤ (60 : Int32) then (if y0 = (17 : Int32) then (o_b5 (xF_265 x1 (j_u2 sc (mr 4) 4 ((sc (mr 4) 4) + (1 : Int32))) mr ar al) (fun ve29 sce29 mre29 are29 ale29 => (if ve29 = 0 then some (sce29, mre29, are29, ale29) else (o_b4 ((xG_261 40) (0 : Int32) sce29 mre29 are29 ale29) (fun sce31 mre31 are31 ale31 => (if x_pr (mre31 4) = true then (o_b5 (xF_252 (mre31 4) (17 : Int32) (0 : Int32) sce31 mre31 are31 ale31) (fun ve33 sce33 mre33 are33 ale33 => (o_b4 (g259 sce33 mre33 are33 ale33) (fun sce34 mre34 are34 ale34 => (if x_pr (mre34 4) = true then (o_b4 (xF_253 (mre34 4) ve33 sce34 mre34 are34 ale34) (fun sce36 mre36 are36 ale36 => some ((j_u2 sce36 756 3 ((sce36 756 3) - (1 : Int32))), mre36, are36, ale36))) else none))))) else none)))))) else (if y0 = (18 : Int32) then (o_b4 (xF_271 (61 : Int32) (j_u2 sc (mr 4) 4 ((sc (mr 4) 4) + (1 : Int32))) mr ar al) (fun sce38 mre38 are38 ale38 => xF_259_168 g259 y0 x2 sce38 mre38 are38 ale38)) else (if y0 = (27 : Int32) then xF_259_168 g259 y0 x2 (j_u2 sc (mr 4) 4 ((sc (mr 4) 4) + (1 : Int32))) mr ar al else (if (22 : Int32) < y0 then (o_b5 (xF_266 (4 : Int32) (j_u2 sc (mr 4) 4 ((sc (mr 4) 4) + (1 : Int32))) mr ar al) (fun ve41 sce41 mre41 are41 ale41 => xF_259_168 g259 y0 ve41 sce41 mre41 are41 ale41)) else (o_b5 (xF_266 (8 : Int32) (j_u2 sc (mr 4) 4 ((sc (mr 4) 4) + (1 : Int32))) mr ar al) (fun ve42 sce42 mre42 are42 ale42 => xF_259_168 g259 y0 ve42 sce42 mre42 are42 ale42)))))) else (o_b4 (xF_276 (3 : Int32) x1 (j_u2 sc (mr 4) 4 ((sc (mr 4) 4) + (1 : Int32))) mr ar al) (fun sce43 mre43 are43 ale43 => some (sce43, mre43, are43, ale43)))) else none) else none) else (o_b4 (xF_276 (1 : Int32) x1 sc mr ar al) (fun sce44 mre44 are44 ale44 => some (sce44, mre44, are44, ale44))))
set_option maxHeartbeats 4000000 in
theorem xt_259_27 {b : Bool} {rf : jRf} {d : Nat} {g259 : jSc → (Nat → Nat) → jSc → jAl → Option (jSc × (Nat → Nat) × jSc × jAl)} (hg259 : xT_259 b rf g259 (d + 82)) {Post : jPo} {sc9 : jSc} {mr9 : (Nat → Nat)} {ar9 : jSc} {al9 : jAl} (hP : Post none sc9 (x_mk mr9 rf) ar9 al9) (x1 : Int32) (x2 : Int32) (y0 : Int32) (sc : jSc) (mr : (Nat → Nat)) (ar : jSc) (al : jAl) (h : xF_259_27 g259 x1 x2 y0 sc mr ar al = some (sc9, mr9, ar9, al9)) : gL (gX b) 259 (d + 83) 27 [some (.ref 756), some (.int x1), some (.int x2), none, none] [.int y0] sc (x_mk mr rf) ar al Post := by
  unfold xF_259_27 at h
  refine gl_istore_n (vs2 := [some (.ref 756), some (.int x1), some (.int x2), some (.int y0), none]) (gX_LK b) y_259_27 rfl rfl rfl rfl ?_
  refine gl_iload_n (gX_LK b) y_259_28 rfl rfl ?_
  refine gl_if_ge (gX_LK b) y_259_29 rfl rfl (fun c24 => ?_) (fun c24 => ?_)
  · have h := (if_pos c24).symm.trans h
    refine gl_aload_n (gX_LK b) y_259_39 rfl rfl ?_
    obtain ⟨c25, h⟩ := o_ck h
    refine gl_getA (gX_LK b) y_259_40 yf_259_31 ys_756 rfl rfl rfl rfl ?_
    refine gl_dup (gX_LK b) y_259_43 rfl rfl ?_
    refine gl_get (gX_LK b) y_259_44 yf_259_122 (ys_pr c25) rfl rfl rfl rfl ?_
    refine gl_iconst (gX_LK b) y_259_47 ci_1 rfl ?_
    refine gl_iadd (gX_LK b) y_259_48 rfl ?_
    refine gl_put (sc' := (j_u2 sc (mr 4) 4 ((sc (mr 4) 4) + (1 : Int32)))) (gX_LK b) y_259_49 yf_259_122 (ys_pr c25) rfl rfl rfl rfl rfl ?_
    refine gl_aload_n (gX_LK b) y_259_52 rfl rfl ?_
    obtain ⟨c26, h⟩ := o_ck h
    refine gl_getA (gX_LK b) y_259_53 yf_259_31 ys_756 rfl rfl rfl rfl ?_
    refine gl_get (gX_LK b) y_259_56 yf_259_122 (ys_pr c26) rfl rfl rfl rfl ?_
    refine gl_bipush (gX_LK b) y_259_59 cb_60 rfl ?_
    refine gl_ic_le (gX_LK b) y_259_61 rfl rfl (fun c27 => ?_) (fun c27 => ?_)
    · have h := (if_pos c27).symm.trans h
      refine gl_iload_n (gX_LK b) y_259_71 rfl rfl ?_
      refine gl_bipush (gX_LK b) y_259_72 cb_17 rfl ?_
      refine gl_ic_ne (gX_LK b) y_259_74 rfl rfl (fun c28 => ?_) (fun c28 => ?_)
      · have h := (if_pos c28).symm.trans h
        refine gl_aload_n (gX_LK b) y_259_77 rfl rfl ?_
        refine gl_iload_n (gX_LK b) y_259_78 rfl rfl ?_
        obtain ⟨ve29, sce29, mre29, are29, ale29, e29, h⟩ := o_k5 h
        refine gl_callV (gX_LK b) y_259_79 ym_259_125 rfl rfl rfl ys_756 yx_265 rfl rfl ((xt_265 )  _ _ _ _ _ _ _ _ _ _ _ e29 ?_)
        refine gl_if_eq (gX_LK b) y_259_82 rfl rfl (fun c30 => ?_) (fun c30 => ?_)
        · have h := (if_pos c30).symm.trans h
          exact gl_return y_259_125 yt_259 (by cases h; exact hP)
        · have h := (if_neg c30).symm.trans h
          refine gl_aload_n (gX_LK b) y_259_85 rfl rfl ?_
          refine gl_iconst (gX_LK b) y_259_86 ci_0 rfl ?_
          obtain ⟨sce31, mre31, are31, ale31, e31, h⟩ := o_k4 h
          refine gl_callV (gX_LK b) y_259_87 ym_259_74 rfl rfl rfl ys_756 yx_261 rfl rfl (((xtG_261  40))  _ _ _ _ _ _ _ _ _ _ e31 ?_)
          refine gl_aload_n (gX_LK b) y_259_90 rfl rfl ?_
          obtain ⟨c32, h⟩ := o_ck h
          refine gl_getA (gX_LK b) y_259_91 yf_259_31 ys_756 rfl rfl rfl rfl ?_
          refine gl_bipush (gX_LK b) y_259_94 cb_17 rfl ?_
          refine gl_iconst (gX_LK b) y_259_96 ci_0 rfl ?_
          obtain ⟨ve33, sce33, mre33, are33, ale33, e33, h⟩ := o_k5 h
          refine gl_callV (gX_LK b) y_259_97 ym_259_77 rfl rfl rfl (ys_pr c32) yx_252 rfl rfl ((xt_252 )  _ _ _ _ c32 _ _ _ _ _ _ _ _ _ e33 ?_)
          refine gl_istore (vs2 := [some (.ref 756), some (.int x1), some (.int x2), some (.int y0), some (.int ve33)]) (gX_LK b) y_259_100 rfl rfl rfl rfl ?_
          refine gl_aload_n (gX_LK b) y_259_102 rfl rfl ?_
          obtain ⟨sce34, mre34, are34, ale34, e34, h⟩ := o_k4 h
          refine gl_callV (gX_LK b) y_259_103 ym_259_98 rfl rfl rfl ys_756 yx_259 rfl rfl (hg259  _  _ _ _ _ _ _ _ _ e34 ?_)
          refine gl_aload_n (gX_LK b) y_259_106 rfl rfl ?_
          obtain ⟨c35, h⟩ := o_ck h
          refine gl_getA (gX_LK b) y_259_107 yf_259_31 ys_756 rfl rfl rfl rfl ?_
          refine gl_iload (gX_LK b) y_259_110 rfl rfl ?_
          obtain ⟨sce36, mre36, are36, ale36, e36, h⟩ := o_k4 h
          refine gl_callV (gX_LK b) y_259_112 ym_259_129 rfl rfl rfl (ys_pr c35) yx_253 rfl rfl ((xt_253 )  _ _ _ c35 _ _ _ _ _ _ _ _ e36 ?_)
          refine gl_aload_n (gX_LK b) y_259_115 rfl rfl ?_
          refine gl_dup (gX_LK b) y_259_116 rfl rfl ?_
          refine gl_get (gX_LK b) y_259_117 yf_259_18 ys_756 rfl rfl rfl rfl ?_
          refine gl_iconst (gX_LK b) y_259_120 ci_1 rfl ?_
          refine gl_isub (gX_LK b) y_259_121 rfl ?_
          refine gl_put (sc' := (j_u2 sce36 756 3 ((sce36 756 3) - (1 : Int32)))) (gX_LK b) y_259_122 yf_259_18 ys_756 rfl rfl rfl rfl rfl ?_
          exact gl_return y_259_125 yt_259 (by cases h; exact hP)
      · have h := (if_neg c28).symm.trans h
        refine gl_iload_n (gX_LK b) y_259_126 rfl rfl ?_
        refine gl_istore (vs2 := [some (.ref 756), some (.int x1), some (.int x2), some (.int y0), some (.int x2)]) (gX_LK b) y_259_127 rfl rfl rfl rfl ?_
        refine gl_iload_n (gX_LK b) y_259_129 rfl rfl ?_
        refine gl_bipush (gX_LK b) y_259_130 cb_18 rfl ?_
        refine gl_ic_ne (gX_LK b) y_259_132 rfl rfl (fun c37 => ?_) (fun c37 => ?_)
        · have h := (if_pos c37).symm.trans h
          refine gl_aload_n (gX_LK b) y_259_135 rfl rfl ?_
          refine gl_bipush (gX_LK b) y_259_136 cb_61 rfl ?_
          obtain ⟨sce38, mre38, are38, ale38, e38, h⟩ := o_k4 h
          refine gl_callV (gX_LK b) y_259_138 ym_259_80 rfl rfl rfl ys_756 yx_271 rfl rfl ((xt_271 )  _ _ _ _ _ _ _ _ _ _ e38 ?_)
          refine gl_goto (gX_LK b) y_259_141 rfl ?_
          exact gl_weak (vs := [some (.ref 756), none, none, some (.int y0), some (.int x2)]) ⟨rfl, rfl, rfl, trivial⟩ (xt_259_168  hg259 hP y0 x2 sce38 mre38 are38 ale38 h)
        · have h := (if_neg c37).symm.trans h
          refine gl_iload_n (gX_LK b) y_259_144 rfl rfl ?_
          refine gl_bipush (gX_LK b) y_259_145 cb_27 rfl ?_
          refine gl_ic_eq (gX_LK b) y_259_147 rfl rfl (fun c39 => ?_) (fun c39 => ?_)
          · have h := (if_pos c39).symm.trans h
            exact gl_weak (vs := [some (.ref 756), none, none, some (.int y0), some (.int x2)]) ⟨rfl, rfl, rfl, trivial⟩ (xt_259_168  hg259 hP y0 x2 (j_u2 sc (mr 4) 4 ((sc (mr 4) 4) + (1 : Int32))) mr ar al h)
          · have h := (if_neg c39).symm.trans h
            refine gl_aload_n (gX_LK b) y_259_150 rfl rfl ?_
            refine gl_iload_n (gX_LK b) y_259_151 rfl rfl ?_
            refine gl_bipush (gX_LK b) y_259_152 cb_22 rfl ?_
            refine gl_ic_gt (gX_LK b) y_259_154 rfl rfl (fun c40 => ?_) (fun c40 => ?_)
            · have h := (if_pos c40).symm.trans h
              refine gl_iconst (gX_LK b) y_259_162 ci_4 rfl ?_
              obtain ⟨ve41, sce41, mre41, are41, ale41, e41, h⟩ := o_k5 h
              refine gl_callV (gX_LK b) y_259_163 ym_259_105 rfl rfl rfl ys_756 yx_266 rfl rfl ((xt_266 )  _ _ _ _ _ _ _ _ _ _ _ e41 ?_)
              refine gl_istore (vs2 := [some (.ref 756), some (.int x1), some (.int x2), some (.int y0), some (.int ve41)]) (gX_LK b) y_259_166 rfl rfl rfl rfl ?_
              exact gl_weak (vs := [some (.ref 756), none, none, some (.int y0), some (.int ve41)]) ⟨rfl, rfl, rfl, trivial⟩ (xt_259_168  hg259 hP y0 ve41 sce41 mre41 are41 ale41 h)
            · have h := (if_neg c40).symm.trans h
              refine gl_bipush (gX_LK b) y_259_157 cb_8 rfl ?_
              refine gl_goto (gX_LK b) y_259_159 rfl ?_
              obtain ⟨ve42, sce42, mre42, are42, ale42, e42, h⟩ := o_k5 h
              refine gl_callV (gX_LK b) y_259_163 ym_259_105 rfl rfl rfl ys_756 yx_266 rfl rfl ((xt_266 )  _ _ _ _ _ _ _ _ _ _ _ e42 ?_)
              refine gl_istore (vs2 := [some (.ref 756), some (.int x1), some (.int x2), some (.int y0), some (.int ve42)]) (gX_LK b) y_259_166 rfl rfl rfl rfl ?_
              exact gl_weak (vs := [some (.ref 756), none, none, some (.int y0), some (.int ve42)]) ⟨rfl, rfl, rfl, trivial⟩ (xt_259_168  hg259 hP y0 ve42 sce42 mre42 are42 ale42 h)
    · have h := (if_neg c27).symm.trans h
      refine gl_aload_n (gX_LK b) y_259_64 rfl rfl ?_
      refine gl_iconst (gX_LK b) y_259_65 ci_3 rfl ?_
      refine gl_iload_n (gX_LK b) y_259_66 rfl rfl ?_
      obtain ⟨sce43, mre43, are43, ale43, e43, h⟩ := o_k4 h
      refine gl_callV (gX_LK b) y_259_67 ym_259_70 rfl rfl rfl ys_756 yx_276 rfl rfl ((xt_276 )  _ _ _ _ _ _ _ _ _ _ _ e43 ?_)
      exact gl_return y_259_70 yt_259 (by cases h; exact hP)
  · have h := (if_neg c24).symm.trans h
    refine gl_aload_n (gX_LK b) y_259_32 rfl rfl ?_
    refine gl_iconst (gX_LK b) y_259_33 ci_1 rfl ?_
    refine gl_iload_n (gX_LK b) y_259_34 rfl rfl ?_
    obtain ⟨sce44, mre44, are44, ale44, e44, h⟩ := o_k4 h
    refine gl_callV (gX_LK b) y_259_35 ym_259_70 rfl rfl rfl ys_756 yx_276 rfl rfl ((xt_276 )  _ _ _ _ _ _ _ _ _ _ _ e44 ?_)
    exact gl_return y_259_38 yt_259 (by cases h; exact hP)
def xF_259 (g259 : jSc → (Nat → Nat) → jSc → jAl → Option (jSc × (Nat → Nat) × jSc × jAl)) (sc : jSc) (mr : (Nat → Nat)) (ar : jSc) (al : jAl) : Option (jSc × (Nat → Nat) × jSc × jAl) :=
  (o_b4 (xF_273 sc mr ar al) (fun sce45 mre45 are45 ale45 => (o_b5 (xF_268 sce45 mre45 are45 ale45) (fun ve46 sce46 mre46 are46 ale46 => (if ve46 < 0 then (o_b5 (xF_260 sce46 mre46 are46 ale46) (fun ve48 sce48 mre48 are48 ale48 => xF_259_27 g259 (sce45 756 2) ve46 ve48 sce48 mre48 are48 ale48)) else xF_259_27 g259 (sce45 756 2) ve46 (18 : Int32) sce46 mre46 are46 ale46)))))
set_option maxHeartbeats 4000000 in
theorem xt_259 {b : Bool} {rf : jRf} {d : Nat} {g259 : jSc → (Nat → Nat) → jSc → jAl → Option (jSc × (Nat → Nat) × jSc × jAl)} (hg259 : xT_259 b rf g259 (d + 82)) : xT_259 b rf (xF_259 g259) (d + 83) := by
  intro  Post  sc mr ar al sc9 mr9 ar9 al9 h hP
  unfold xF_259 at h
  refine gl_entry (m := 4) rfl ?_
  show gL (gX b) 259 (d + 83) 0 [some (.ref 756), none, none, none, none] [] sc (x_mk mr rf) ar al Post
  refine gl_aload_n (gX_LK b) y_259_0 rfl rfl ?_
  obtain ⟨sce45, mre45, are45, ale45, e45, h⟩ := o_k4 h
  refine gl_callV (gX_LK b) y_259_1 ym_259_113 rfl rfl rfl ys_756 yx_273 rfl rfl ((xt_273 )  _  _ _ _ _ _ _ _ _ e45 ?_)
  refine gl_aload_n (gX_LK b) y_259_4 rfl rfl ?_
  refine gl_get (gX_LK b) y_259_5 yf_259_15 ys_756 rfl rfl rfl rfl ?_
  refine gl_istore_n (vs2 := [some (.ref 756), some (.int (sce45 756 2)), none, none, none]) (gX_LK b) y_259_8 rfl rfl rfl rfl ?_
  refine gl_aload_n (gX_LK b) y_259_9 rfl rfl ?_
  obtain ⟨ve46, sce46, mre46, are46, ale46, e46, h⟩ := o_k5 h
  refine gl_callV (gX_LK b) y_259_10 ym_259_116 rfl rfl rfl ys_756 yx_268 rfl rfl ((xt_268 )  _  _ _ _ _ _ _ _ _ _ e46 ?_)
  refine gl_istore_n (vs2 := [some (.ref 756), some (.int (sce45 756 2)), some (.int ve46), none, none]) (gX_LK b) y_259_13 rfl rfl rfl rfl ?_
  refine gl_iload_n (gX_LK b) y_259_14 rfl rfl ?_
  refine gl_if_lt (gX_LK b) y_259_15 rfl rfl (fun c47 => ?_) (fun c47 => ?_)
  · have h := (if_pos c47).symm.trans h
    refine gl_aload_n (gX_LK b) y_259_23 rfl rfl ?_
    obtain ⟨ve48, sce48, mre48, are48, ale48, e48, h⟩ := o_k5 h
    refine gl_callV (gX_LK b) y_259_24 ym_259_119 rfl rfl rfl ys_756 yx_260 rfl rfl ((xt_260 )  _  _ _ _ _ _ _ _ _ _ e48 ?_)
    exact gl_weak (vs := [some (.ref 756), some (.int (sce45 756 2)), some (.int ve46), none, none]) ⟨rfl, rfl, rfl, trivial⟩ (xt_259_27  hg259 hP (sce45 756 2) ve46 ve48 sce48 mre48 are48 ale48 h)
  · have h := (if_neg c47).symm.trans h
    refine gl_bipush (gX_LK b) y_259_18 cb_18 rfl ?_
    refine gl_goto (gX_LK b) y_259_20 rfl ?_
    exact gl_weak (vs := [some (.ref 756), some (.int (sce45 756 2)), some (.int ve46), none, none]) ⟨rfl, rfl, rfl, trivial⟩ (xt_259_27  hg259 hP (sce45 756 2) ve46 (18 : Int32) sce46 mre46 are46 ale46 h)
def xG_259 : Nat → (jSc → (Nat → Nat) → jSc → jAl → Option (jSc × (Nat → Nat) × jSc × jAl))
  | 0 => (fun _ _ _ _ => none)
  | n + 1 => (xF_259 (xG_259 n))
theorem xtG_259 {b : Bool} {rf : jRf} {d : Nat} : ∀ n : Nat, xT_259 b rf (xG_259 n) (d + n + 82) := by
  intro n
  induction n with
  | zero =>
    · intro  Post sc mr ar al sc9 mr9 ar9 al9 h hP
      cases (show (none : Option (jSc × (Nat → Nat) × jSc × jAl)) = some _ from h)
  | succ n ih =>
    have e : d + n + 82 + 1 = d + (n + 1) + 82 := by omega
    rw [← e]
    exact xt_259  (d := d + n) ih
/-- ClickOrders$Reader.handler(I)V -/
def xT_257 (b : Bool) (rf : jRf) (F : Int32 → jSc → (Nat → Nat) → jSc → jAl → Option (jSc × (Nat → Nat) × jSc × jAl)) (e : Nat) : Prop := ∀  (Post : jPo) (x1 : Int32) (sc : jSc) (mr : (Nat → Nat)) (ar : jSc) (al : jAl) (sc9 : jSc) (mr9 : (Nat → Nat)) (ar9 : jSc) (al9 : jAl), F x1 sc mr ar al = some (sc9, mr9, ar9, al9) → Post none sc9 (x_mk mr9 rf) ar9 al9 → gW (gX b) 257 e 0 (j_av [.ref 756, .int x1]) [] sc (x_mk mr rf) ar al Post
def xF_257_69 : Nat → Int32 → jSc → (Nat → Nat) → jSc → jAl → Option (jSc × (Nat → Nat) × jSc × jAl)
  | 0, _, _, _, _, _ => none
  | nn + 1, x3, sc, mr, ar, al => (if (sc 756 1) < x3 then (if x_pr (mr 4) = true then (o_b5 (xF_252 (mr 4) (16 : Int32) (0 : Int32) sc mr ar al) (fun ve3 sce3 mre3 are3 ale3 => some (sce3, mre3, are3, ale3))) else none) else (if (sc 756 4) = 0 then (o_b5 (xF_270 (125 : Int32) sc mr ar al) (fun ve5 sce5 mre5 are5 ale5 => (if ve5 = 0 then (o_b4 ((xG_259 40) sce5 mre5 are5 ale5) (fun sce7 mre7 are7 ale7 => xF_257_69 nn (x3 + (1 : Int32)) sce7 mre7 are7 ale7)) else (if x_pr (mre5 4) = true then (o_b5 (xF_252 (mre5 4) (16 : Int32) (0 : Int32) sce5 mre5 are5 ale5) (fun ve9 sce9 mre9 are9 ale9 => some (sce9, mre9, are9, ale9))) else none)))) else (if x_pr (mr 4) = true then (o_b5 (xF_252 (mr 4) (16 : Int32) (0 : Int32) sc mr ar al) (fun ve11 sce11 mre11 are11 ale11 => some (sce11, mre11, are11, ale11))) else none)))
set_option maxHeartbeats 4000000 in
theorem xt_257_69 {b : Bool} {rf : jRf} {d : Nat} {Post : jPo} {sc9 : jSc} {mr9 : (Nat → Nat)} {ar9 : jSc} {al9 : jAl} (hP : Post none sc9 (x_mk mr9 rf) ar9 al9) : ∀ (nn : Nat) (x3 : Int32) (sc : jSc) (mr : (Nat → Nat)) (ar : jSc) (al : jAl), xF_257_69 nn x3 sc mr ar al = some (sc9, mr9, ar9, al9) → gL (gX b) 257 (d + 123) 69 [some (.ref 756), none, none, some (.int x3)] [] sc (x_mk mr rf) ar al Post := by
  intro nn
  induction nn with
  | zero =>
    intro x3 sc mr ar al h
    have h : (none : Option (jSc × (Nat → Nat) × jSc × jAl)) = some _ := h
    cases h
  | succ nn ih =>
    intro x3 sc mr ar al h
    unfold xF_257_69 at h
    refine gl_iload_n (gX_LK b) y_257_69 rfl rfl ?_
    refine gl_aload_n (gX_LK b) y_257_70 rfl rfl ?_
    refine gl_get (gX_LK b) y_257_71 yf_257_9 ys_756 rfl rfl rfl rfl ?_
    refine gl_ic_gt (gX_LK b) y_257_74 rfl rfl (fun c1 => ?_) (fun c1 => ?_)
    · have h := (if_pos c1).symm.trans h
      refine gl_aload_n (gX_LK b) y_257_103 rfl rfl ?_
      obtain ⟨c2, h⟩ := o_ck h
      refine gl_getA (gX_LK b) y_257_104 yf_257_31 ys_756 rfl rfl rfl rfl ?_
      refine gl_bipush (gX_LK b) y_257_107 cb_16 rfl ?_
      refine gl_iconst (gX_LK b) y_257_109 ci_0 rfl ?_
      obtain ⟨ve3, sce3, mre3, are3, ale3, e3, h⟩ := o_k5 h
      refine gl_callV (gX_LK b) y_257_110 ym_257_77 rfl rfl rfl (ys_pr c2) yx_252 rfl rfl ((xt_252 )  _ _ _ _ c2 _ _ _ _ _ _ _ _ _ e3 ?_)
      refine gl_pop (gX_LK b) y_257_113 rfl rfl ?_
      exact gl_return y_257_114 yt_257 (by cases h; exact hP)
    · have h := (if_neg c1).symm.trans h
      refine gl_aload_n (gX_LK b) y_257_77 rfl rfl ?_
      refine gl_get (gX_LK b) y_257_78 yf_257_21 ys_756 rfl rfl rfl rfl ?_
      refine gl_if_ne (gX_LK b) y_257_81 rfl rfl (fun c4 => ?_) (fun c4 => ?_)
      · have h := (if_pos c4).symm.trans h
        refine gl_aload_n (gX_LK b) y_257_84 rfl rfl ?_
        refine gl_bipush (gX_LK b) y_257_85 cb_125 rfl ?_
        obtain ⟨ve5, sce5, mre5, are5, ale5, e5, h⟩ := o_k5 h
        refine gl_callV (gX_LK b) y_257_87 ym_257_94 rfl rfl rfl ys_756 yx_270 rfl rfl ((xt_270 )  _ _ _ _ _ _ _ _ _ _ _ e5 ?_)
        refine gl_if_ne (gX_LK b) y_257_90 rfl rfl (fun c6 => ?_) (fun c6 => ?_)
        · have h := (if_pos c6).symm.trans h
          refine gl_aload_n (gX_LK b) y_257_93 rfl rfl ?_
          obtain ⟨sce7, mre7, are7, ale7, e7, h⟩ := o_k4 h
          refine gl_callV (gX_LK b) y_257_94 ym_257_98 rfl rfl rfl ys_756 yx_259 rfl rfl (((xtG_259  40))  _  _ _ _ _ _ _ _ _ e7 ?_)
          refine gl_iinc (vs2 := [some (.ref 756), none, none, some (.int (x3 + (1 : Int32)))]) (gX_LK b) y_257_97 rfl rfl rfl ci_1 rfl rfl ?_
          refine gl_goto (gX_LK b) y_257_100 rfl ?_
          exact gl_weak (vs := [some (.ref 756), none, none, some (.int (x3 + (1 : Int32)))]) ⟨rfl, rfl, trivial⟩ (ih (x3 + (1 : Int32)) sce7 mre7 are7 ale7 h)
        · have h := (if_neg c6).symm.trans h
          refine gl_aload_n (gX_LK b) y_257_103 rfl rfl ?_
          obtain ⟨c8, h⟩ := o_ck h
          refine gl_getA (gX_LK b) y_257_104 yf_257_31 ys_756 rfl rfl rfl rfl ?_
          refine gl_bipush (gX_LK b) y_257_107 cb_16 rfl ?_
          refine gl_iconst (gX_LK b) y_257_109 ci_0 rfl ?_
          obtain ⟨ve9, sce9, mre9, are9, ale9, e9, h⟩ := o_k5 h
          refine gl_callV (gX_LK b) y_257_110 ym_257_77 rfl rfl rfl (ys_pr c8) yx_252 rfl rfl ((xt_252 )  _ _ _ _ c8 _ _ _ _ _ _ _ _ _ e9 ?_)
          refine gl_pop (gX_LK b) y_257_113 rfl rfl ?_
          exact gl_return y_257_114 yt_257 (by cases h; exact hP)
      · have h := (if_neg c4).symm.trans h
        refine gl_aload_n (gX_LK b) y_257_103 rfl rfl ?_
        obtain ⟨c10, h⟩ := o_ck h
        refine gl_getA (gX_LK b) y_257_104 yf_257_31 ys_756 rfl rfl rfl rfl ?_
        refine gl_bipush (gX_LK b) y_257_107 cb_16 rfl ?_
        refine gl_iconst (gX_LK b) y_257_109 ci_0 rfl ?_
        obtain ⟨ve11, sce11, mre11, are11, ale11, e11, h⟩ := o_k5 h
        refine gl_callV (gX_LK b) y_257_110 ym_257_77 rfl rfl rfl (ys_pr c10) yx_252 rfl rfl ((xt_252 )  _ _ _ _ c10 _ _ _ _ _ _ _ _ _ e11 ?_)
        refine gl_pop (gX_LK b) y_257_113 rfl rfl ?_
        exact gl_return y_257_114 yt_257 (by cases h; exact hP)
def xF_257 (x1 : Int32) (sc : jSc) (mr : (Nat → Nat)) (ar : jSc) (al : jAl) : Option (jSc × (Nat → Nat) × jSc × jAl) :=
  (o_b5 (xF_258 sc mr ar al) (fun ve12 sce12 mre12 are12 ale12 => (if (sce12 756 4) = 0 then (if x_pr (mre12 4) = true then (if iB ve12 17 then (if (are12 ((mre12 4) + 3) (iN ve12)) < 0 then (o_b4 (xF_271 (123 : Int32) sce12 mre12 are12 ale12) (fun sce17 mre17 are17 ale17 => (if x_pr (mre17 4) = true then (if x_pr (mre17 4) = true then (if iB ve12 17 then (if x_pr (mre17 4) = true then xF_257_69 oF (0 : Int32) (j_u2 sce17 (mre17 4) 5 ((sce17 (mre17 4) 5) + (1 : Int32))) mre17 (j_u2 are17 ((mre17 4) + 3) (iN ve12) (sce17 (mre17 4) 3)) ale17 else none) else none) else none) else none))) else (o_b4 (xF_276 (4 : Int32) x1 sce12 mre12 are12 ale12) (fun sce22 mre22 are22 ale22 => some (sce22, mre22, are22, ale22)))) else none) else none) else some (sce12, mre12, are12, ale12))))
set_option maxHeartbeats 4000000 in
theorem xt_257 {b : Bool} {rf : jRf} {d : Nat} : xT_257 b rf xF_257 (d + 123) := by
  intro  Post x1 sc mr ar al sc9 mr9 ar9 al9 h hP
  unfold xF_257 at h
  refine gl_entry (m := 2) rfl ?_
  show gL (gX b) 257 (d + 123) 0 [some (.ref 756), some (.int x1), none, none] [] sc (x_mk mr rf) ar al Post
  refine gl_aload_n (gX_LK b) y_257_0 rfl rfl ?_
  obtain ⟨ve12, sce12, mre12, are12, ale12, e12, h⟩ := o_k5 h
  refine gl_callV (gX_LK b) y_257_1 ym_257_84 rfl rfl rfl ys_756 yx_258 rfl rfl ((xt_258 )  _  _ _ _ _ _ _ _ _ _ e12 ?_)
  refine gl_istore_n (vs2 := [some (.ref 756), some (.int x1), some (.int ve12), none]) (gX_LK b) y_257_4 rfl rfl rfl rfl ?_
  refine gl_aload_n (gX_LK b) y_257_5 rfl rfl ?_
  refine gl_get (gX_LK b) y_257_6 yf_257_21 ys_756 rfl rfl rfl rfl ?_
  refine gl_if_eq (gX_LK b) y_257_9 rfl rfl (fun c13 => ?_) (fun c13 => ?_)
  · have h := (if_pos c13).symm.trans h
    refine gl_aload_n (gX_LK b) y_257_13 rfl rfl ?_
    obtain ⟨c14, h⟩ := o_ck h
    refine gl_getA (gX_LK b) y_257_14 yf_257_31 ys_756 rfl rfl rfl rfl ?_
    refine gl_getA (gX_LK b) y_257_17 yf_257_88 (ys_pr c14) rfl rfl (yr_pr3 c14) rfl ?_
    refine gl_iload_n (gX_LK b) y_257_20 rfl rfl ?_
    obtain ⟨c15, h⟩ := o_ck h
    refine gl_iaload (gX_LK b) y_257_21 (ys_pr3 c14) c15 rfl rfl ?_
    refine gl_if_lt (gX_LK b) y_257_22 rfl rfl (fun c16 => ?_) (fun c16 => ?_)
    · have h := (if_pos c16).symm.trans h
      refine gl_aload_n (gX_LK b) y_257_32 rfl rfl ?_
      refine gl_bipush (gX_LK b) y_257_33 cb_123 rfl ?_
      obtain ⟨sce17, mre17, are17, ale17, e17, h⟩ := o_k4 h
      refine gl_callV (gX_LK b) y_257_35 ym_257_80 rfl rfl rfl ys_756 yx_271 rfl rfl ((xt_271 )  _ _ _ _ _ _ _ _ _ _ e17 ?_)
      refine gl_aload_n (gX_LK b) y_257_38 rfl rfl ?_
      obtain ⟨c18, h⟩ := o_ck h
      refine gl_getA (gX_LK b) y_257_39 yf_257_31 ys_756 rfl rfl rfl rfl ?_
      refine gl_getA (gX_LK b) y_257_42 yf_257_88 (ys_pr c18) rfl rfl (yr_pr3 c18) rfl ?_
      refine gl_iload_n (gX_LK b) y_257_45 rfl rfl ?_
      refine gl_aload_n (gX_LK b) y_257_46 rfl rfl ?_
      obtain ⟨c19, h⟩ := o_ck h
      refine gl_getA (gX_LK b) y_257_47 yf_257_31 ys_756 rfl rfl rfl rfl ?_
      refine gl_get (gX_LK b) y_257_50 yf_257_62 (ys_pr c19) rfl rfl rfl rfl ?_
      obtain ⟨c20, h⟩ := o_ck h
      refine gl_iastore (ar2 := (j_u2 are17 ((mre17 4) + 3) (iN ve12) (sce17 (mre17 4) 3))) (gX_LK b) y_257_53 (ys_pr3 c18) c20 rfl rfl ?_
      refine gl_aload_n (gX_LK b) y_257_54 rfl rfl ?_
      obtain ⟨c21, h⟩ := o_ck h
      refine gl_getA (gX_LK b) y_257_55 yf_257_31 ys_756 rfl rfl rfl rfl ?_
      refine gl_dup (gX_LK b) y_257_58 rfl rfl ?_
      refine gl_get (gX_LK b) y_257_59 yf_257_91 (ys_pr c21) rfl rfl rfl rfl ?_
      refine gl_iconst (gX_LK b) y_257_62 ci_1 rfl ?_
      refine gl_iadd (gX_LK b) y_257_63 rfl ?_
      refine gl_put (sc' := (j_u2 sce17 (mre17 4) 5 ((sce17 (mre17 4) 5) + (1 : Int32)))) (gX_LK b) y_257_64 yf_257_91 (ys_pr c21) rfl rfl rfl rfl rfl ?_
      refine gl_iconst (gX_LK b) y_257_67 ci_0 rfl ?_
      refine gl_istore_n (vs2 := [some (.ref 756), some (.int x1), some (.int ve12), some (.int (0 : Int32))]) (gX_LK b) y_257_68 rfl rfl rfl rfl ?_
      exact gl_weak (vs := [some (.ref 756), none, none, some (.int (0 : Int32))]) ⟨rfl, rfl, trivial⟩ (xt_257_69  hP oF (0 : Int32) (j_u2 sce17 (mre17 4) 5 ((sce17 (mre17 4) 5) + (1 : Int32))) mre17 (j_u2 are17 ((mre17 4) + 3) (iN ve12) (sce17 (mre17 4) 3)) ale17 h)
    · have h := (if_neg c16).symm.trans h
      refine gl_aload_n (gX_LK b) y_257_25 rfl rfl ?_
      refine gl_iconst (gX_LK b) y_257_26 ci_4 rfl ?_
      refine gl_iload_n (gX_LK b) y_257_27 rfl rfl ?_
      obtain ⟨sce22, mre22, are22, ale22, e22, h⟩ := o_k4 h
      refine gl_callV (gX_LK b) y_257_28 ym_257_70 rfl rfl rfl ys_756 yx_276 rfl rfl ((xt_276 )  _ _ _ _ _ _ _ _ _ _ _ e22 ?_)
      exact gl_return y_257_31 yt_257 (by cases h; exact hP)
  · have h := (if_neg c13).symm.trans h
    exact gl_return y_257_12 yt_257 (by cases h; exact hP)
/-- ClickOrders$Reader.isAtEnd()Z -/
def xT_272 (b : Bool) (rf : jRf) (F : jSc → (Nat → Nat) → jSc → jAl → Option (Int32 × jSc × (Nat → Nat) × jSc × jAl)) (e : Nat) : Prop := ∀  (Post : jPo) (sc : jSc) (mr : (Nat → Nat)) (ar : jSc) (al : jAl) (r9 : Int32) (sc9 : jSc) (mr9 : (Nat → Nat)) (ar9 : jSc) (al9 : jAl), F sc mr ar al = some (r9, sc9, mr9, ar9, al9) → Post (some (.int r9)) sc9 (x_mk mr9 rf) ar9 al9 → gW (gX b) 272 e 0 (j_av [.ref 756]) [] sc (x_mk mr rf) ar al Post
def xF_272 (sc : jSc) (mr : (Nat → Nat)) (ar : jSc) (al : jAl) : Option (Int32 × jSc × (Nat → Nat) × jSc × jAl) :=
  (o_b4 (xF_273 sc mr ar al) (fun sce1 mre1 are1 ale1 => (if (sce1 756 2) < (sce1 756 1) then some ((0 : Int32), sce1, mre1, are1, ale1) else some ((1 : Int32), sce1, mre1, are1, ale1))))
set_option maxHeartbeats 4000000 in
theorem xt_272 {b : Bool} {rf : jRf} {d : Nat} : xT_272 b rf xF_272 (d + 2) := by
  intro  Post  sc mr ar al r9 sc9 mr9 ar9 al9 h hP
  unfold xF_272 at h
  refine gl_entry (m := 0) rfl ?_
  show gL (gX b) 272 (d + 2) 0 [some (.ref 756)] [] sc (x_mk mr rf) ar al Post
  refine gl_aload_n (gX_LK b) y_272_0 rfl rfl ?_
  obtain ⟨sce1, mre1, are1, ale1, e1, h⟩ := o_k4 h
  refine gl_callV (gX_LK b) y_272_1 ym_272_113 rfl rfl rfl ys_756 yx_273 rfl rfl ((xt_273 )  _  _ _ _ _ _ _ _ _ e1 ?_)
  refine gl_aload_n (gX_LK b) y_272_4 rfl rfl ?_
  refine gl_get (gX_LK b) y_272_5 yf_272_15 ys_756 rfl rfl rfl rfl ?_
  refine gl_aload_n (gX_LK b) y_272_8 rfl rfl ?_
  refine gl_get (gX_LK b) y_272_9 yf_272_9 ys_756 rfl rfl rfl rfl ?_
  refine gl_ic_lt (gX_LK b) y_272_12 rfl rfl (fun c2 => ?_) (fun c2 => ?_)
  · have h := (if_pos c2).symm.trans h
    refine gl_iconst (gX_LK b) y_272_19 ci_0 rfl ?_
    exact gl_ireturn y_272_20 (Or.inr ⟨yt_272, Or.inl rfl⟩) (by cases h; exact hP)
  · have h := (if_neg c2).symm.trans h
    refine gl_iconst (gX_LK b) y_272_15 ci_1 rfl ?_
    refine gl_goto (gX_LK b) y_272_16 rfl ?_
    exact gl_ireturn y_272_20 (Or.inr ⟨yt_272, Or.inr rfl⟩) (by cases h; exact hP)
/-- ClickOrders$Reader.reads(ILClickOrders$Program;)I -/
def xT_255 (b : Bool) (rf : jRf) (F : Int32 → Nat → jSc → (Nat → Nat) → jSc → jAl → Option (Int32 × jSc × (Nat → Nat) × jSc × jAl)) (e : Nat) : Prop := ∀  (Post : jPo) (x1 : Int32) (p2 : Nat) (hp2 : x_pr p2 = true) (sc : jSc) (mr : (Nat → Nat)) (ar : jSc) (al : jAl) (r9 : Int32) (sc9 : jSc) (mr9 : (Nat → Nat)) (ar9 : jSc) (al9 : jAl), F x1 p2 sc mr ar al = some (r9, sc9, mr9, ar9, al9) → Post (some (.int r9)) sc9 (x_mk mr9 rf) ar9 al9 → gW (gX b) 255 e 0 (j_av [.ref 756, .int x1, .ref p2]) [] sc (x_mk mr rf) ar al Post
def xF_255_47 : Nat → Int32 → jSc → (Nat → Nat) → jSc → jAl → Option (Int32 × jSc × (Nat → Nat) × jSc × jAl)
  | 0, _, _, _, _, _ => none
  | nn + 1, x3, sc, mr, ar, al => (if (sc 756 1) < x3 then some ((sc 756 4), sc, mr, ar, al) else (o_b5 (xF_272 sc mr ar al) (fun ve2 sce2 mre2 are2 ale2 => (if ve2 = 0 then (o_b5 (xF_269 15 sce2 mre2 are2 ale2) (fun ve4 sce4 mre4 are4 ale4 => (if ve4 = 0 then (o_b5 (xF_269 8 sce4 mre4 are4 ale4) (fun ve6 sce6 mre6 are6 ale6 => (if ve6 = 0 then (o_b5 (xF_269 17 sce6 mre6 are6 ale6) (fun ve8 sce8 mre8 are8 ale8 => (if ve8 = 0 then (o_b4 (xF_276 (1 : Int32) (sce2 756 2) sce8 mre8 are8 ale8) (fun sce10 mre10 are10 ale10 => xF_255_47 nn (x3 + (1 : Int32)) sce10 mre10 are10 ale10)) else (if x_pr (mre8 4) = true then (if x_pr (mre8 4) = true then (o_b4 (xF_256 (j_u2 sce8 (mre8 4) 8 (sce8 (mre8 4) 3)) mre8 are8 ale8) (fun sce13 mre13 are13 ale13 => xF_255_47 nn (x3 + (1 : Int32)) sce13 mre13 are13 ale13)) else none) else none)))) else (if x_pr (mre6 4) = true then (if x_pr (mre6 4) = true then (o_b4 (xF_256 (j_u2 sce6 (mre6 4) 7 (sce6 (mre6 4) 3)) mre6 are6 ale6) (fun sce16 mre16 are16 ale16 => xF_255_47 nn (x3 + (1 : Int32)) sce16 mre16 are16 ale16)) else none) else none)))) else (o_b4 (xF_257 (sce2 756 2) sce4 mre4 are4 ale4) (fun sce17 mre17 are17 ale17 => xF_255_47 nn (x3 + (1 : Int32)) sce17 mre17 are17 ale17))))) else some ((sce2 756 4), sce2, mre2, are2, ale2)))))
set_option maxHeartbeats 4000000 in
theorem xt_255_47 {b : Bool} {rf : jRf} {d : Nat} {Post : jPo} {r9 : Int32} {sc9 : jSc} {mr9 : (Nat → Nat)} {ar9 : jSc} {al9 : jAl} (hP : Post (some (.int r9)) sc9 (x_mk mr9 rf) ar9 al9) : ∀ (nn : Nat) (x3 : Int32) (sc : jSc) (mr : (Nat → Nat)) (ar : jSc) (al : jAl), xF_255_47 nn x3 sc mr ar al = some (r9, sc9, mr9, ar9, al9) → gL (gX b) 255 (d + 124) 47 [some (.ref 756), none, none, some (.int x3), none] [] sc (x_mk mr rf) ar al Post := by
  intro nn
  induction nn with
  | zero =>
    intro x3 sc mr ar al h
    have h : (none : Option (Int32 × jSc × (Nat → Nat) × jSc × jAl)) = some _ := h
    cases h
  | succ nn ih =>
    intro x3 sc mr ar al h
    unfold xF_255_47 at h
    refine gl_iload_n (gX_LK b) y_255_47 rfl rfl ?_
    refine gl_aload_n (gX_LK b) y_255_48 rfl rfl ?_
    refine gl_get (gX_LK b) y_255_49 yf_255_9 ys_756 rfl rfl rfl rfl ?_
    refine gl_ic_gt (gX_LK b) y_255_52 rfl rfl (fun c1 => ?_) (fun c1 => ?_)
    · have h := (if_pos c1).symm.trans h
      refine gl_aload_n (gX_LK b) y_255_159 rfl rfl ?_
      refine gl_get (gX_LK b) y_255_160 yf_255_21 ys_756 rfl rfl rfl rfl ?_
      exact gl_ireturn y_255_163 (Or.inl yt_255) (by cases h; exact hP)
    · have h := (if_neg c1).symm.trans h
      refine gl_aload_n (gX_LK b) y_255_55 rfl rfl ?_
      obtain ⟨ve2, sce2, mre2, are2, ale2, e2, h⟩ := o_k5 h
      refine gl_callV (gX_LK b) y_255_56 ym_255_46 rfl rfl rfl ys_756 yx_272 rfl rfl ((xt_272 )  _  _ _ _ _ _ _ _ _ _ e2 ?_)
      refine gl_if_ne (gX_LK b) y_255_59 rfl rfl (fun c3 => ?_) (fun c3 => ?_)
      · have h := (if_pos c3).symm.trans h
        refine gl_aload_n (gX_LK b) y_255_62 rfl rfl ?_
        refine gl_get (gX_LK b) y_255_63 yf_255_15 ys_756 rfl rfl rfl rfl ?_
        refine gl_istore (vs2 := [some (.ref 756), none, none, some (.int x3), some (.int (sce2 756 2))]) (gX_LK b) y_255_66 rfl rfl rfl rfl ?_
        refine gl_aload_n (gX_LK b) y_255_68 rfl rfl ?_
        refine gl_ldcS (i := 15) (gX_LK b) y_255_69 yk_255_50 yz_255_50 (by decide) rfl ?_
        obtain ⟨ve4, sce4, mre4, are4, ale4, e4, h⟩ := o_k5 h
        refine gl_callV (gX_LK b) y_255_71 ym_255_52 rfl rfl rfl ys_756 yx_269 rfl rfl ((xt_269 )  _ _ (by decide) _ _ _ _ _ _ _ _ _ e4 ?_)
        refine gl_if_eq (gX_LK b) y_255_74 rfl rfl (fun c5 => ?_) (fun c5 => ?_)
        · have h := (if_pos c5).symm.trans h
          refine gl_aload_n (gX_LK b) y_255_86 rfl rfl ?_
          refine gl_ldcS (i := 8) (gX_LK b) y_255_87 yk_255_60 yz_255_60 (by decide) rfl ?_
          obtain ⟨ve6, sce6, mre6, are6, ale6, e6, h⟩ := o_k5 h
          refine gl_callV (gX_LK b) y_255_89 ym_255_52 rfl rfl rfl ys_756 yx_269 rfl rfl ((xt_269 )  _ _ (by decide) _ _ _ _ _ _ _ _ _ e6 ?_)
          refine gl_if_eq (gX_LK b) y_255_92 rfl rfl (fun c7 => ?_) (fun c7 => ?_)
          · have h := (if_pos c7).symm.trans h
            refine gl_aload_n (gX_LK b) y_255_116 rfl rfl ?_
            refine gl_ldcS (i := 17) (gX_LK b) y_255_117 yk_255_68 yz_255_68 (by decide) rfl ?_
            obtain ⟨ve8, sce8, mre8, are8, ale8, e8, h⟩ := o_k5 h
            refine gl_callV (gX_LK b) y_255_119 ym_255_52 rfl rfl rfl ys_756 yx_269 rfl rfl ((xt_269 )  _ _ (by decide) _ _ _ _ _ _ _ _ _ e8 ?_)
            refine gl_if_eq (gX_LK b) y_255_122 rfl rfl (fun c9 => ?_) (fun c9 => ?_)
            · have h := (if_pos c9).symm.trans h
              refine gl_aload_n (gX_LK b) y_255_146 rfl rfl ?_
              refine gl_iconst (gX_LK b) y_255_147 ci_1 rfl ?_
              refine gl_iload (gX_LK b) y_255_148 rfl rfl ?_
              obtain ⟨sce10, mre10, are10, ale10, e10, h⟩ := o_k4 h
              refine gl_callV (gX_LK b) y_255_150 ym_255_70 rfl rfl rfl ys_756 yx_276 rfl rfl ((xt_276 )  _ _ _ _ _ _ _ _ _ _ _ e10 ?_)
              refine gl_iinc (vs2 := [some (.ref 756), none, none, some (.int (x3 + (1 : Int32))), some (.int (sce2 756 2))]) (gX_LK b) y_255_153 rfl rfl rfl ci_1 rfl rfl ?_
              refine gl_goto (gX_LK b) y_255_156 rfl ?_
              exact gl_weak (vs := [some (.ref 756), none, none, some (.int (x3 + (1 : Int32))), none]) ⟨rfl, rfl, trivial⟩ (ih (x3 + (1 : Int32)) sce10 mre10 are10 ale10 h)
            · have h := (if_neg c9).symm.trans h
              refine gl_aload_n (gX_LK b) y_255_125 rfl rfl ?_
              obtain ⟨c11, h⟩ := o_ck h
              refine gl_getA (gX_LK b) y_255_126 yf_255_31 ys_756 rfl rfl rfl rfl ?_
              refine gl_aload_n (gX_LK b) y_255_129 rfl rfl ?_
              obtain ⟨c12, h⟩ := o_ck h
              refine gl_getA (gX_LK b) y_255_130 yf_255_31 ys_756 rfl rfl rfl rfl ?_
              refine gl_get (gX_LK b) y_255_133 yf_255_62 (ys_pr c12) rfl rfl rfl rfl ?_
              refine gl_put (sc' := (j_u2 sce8 (mre8 4) 8 (sce8 (mre8 4) 3))) (gX_LK b) y_255_136 yf_255_69 (ys_pr c11) rfl rfl rfl rfl rfl ?_
              refine gl_aload_n (gX_LK b) y_255_139 rfl rfl ?_
              obtain ⟨sce13, mre13, are13, ale13, e13, h⟩ := o_k4 h
              refine gl_callV (gX_LK b) y_255_140 ym_255_65 rfl rfl rfl ys_756 yx_256 rfl rfl ((xt_256 )  _  _ _ _ _ _ _ _ _ e13 ?_)
              refine gl_goto (gX_LK b) y_255_143 rfl ?_
              refine gl_iinc (vs2 := [some (.ref 756), none, none, some (.int (x3 + (1 : Int32))), some (.int (sce2 756 2))]) (gX_LK b) y_255_153 rfl rfl rfl ci_1 rfl rfl ?_
              refine gl_goto (gX_LK b) y_255_156 rfl ?_
              exact gl_weak (vs := [some (.ref 756), none, none, some (.int (x3 + (1 : Int32))), none]) ⟨rfl, rfl, trivial⟩ (ih (x3 + (1 : Int32)) sce13 mre13 are13 ale13 h)
          · have h := (if_neg c7).symm.trans h
            refine gl_aload_n (gX_LK b) y_255_95 rfl rfl ?_
            obtain ⟨c14, h⟩ := o_ck h
            refine gl_getA (gX_LK b) y_255_96 yf_255_31 ys_756 rfl rfl rfl rfl ?_
            refine gl_aload_n (gX_LK b) y_255_99 rfl rfl ?_
            obtain ⟨c15, h⟩ := o_ck h
            refine gl_getA (gX_LK b) y_255_100 yf_255_31 ys_756 rfl rfl rfl rfl ?_
            refine gl_get (gX_LK b) y_255_103 yf_255_62 (ys_pr c15) rfl rfl rfl rfl ?_
            refine gl_put (sc' := (j_u2 sce6 (mre6 4) 7 (sce6 (mre6 4) 3))) (gX_LK b) y_255_106 yf_255_63 (ys_pr c14) rfl rfl rfl rfl rfl ?_
            refine gl_aload_n (gX_LK b) y_255_109 rfl rfl ?_
            obtain ⟨sce16, mre16, are16, ale16, e16, h⟩ := o_k4 h
            refine gl_callV (gX_LK b) y_255_110 ym_255_65 rfl rfl rfl ys_756 yx_256 rfl rfl ((xt_256 )  _  _ _ _ _ _ _ _ _ e16 ?_)
            refine gl_goto (gX_LK b) y_255_113 rfl ?_
            refine gl_iinc (vs2 := [some (.ref 756), none, none, some (.int (x3 + (1 : Int32))), some (.int (sce2 756 2))]) (gX_LK b) y_255_153 rfl rfl rfl ci_1 rfl rfl ?_
            refine gl_goto (gX_LK b) y_255_156 rfl ?_
            exact gl_weak (vs := [some (.ref 756), none, none, some (.int (x3 + (1 : Int32))), none]) ⟨rfl, rfl, trivial⟩ (ih (x3 + (1 : Int32)) sce16 mre16 are16 ale16 h)
        · have h := (if_neg c5).symm.trans h
          refine gl_aload_n (gX_LK b) y_255_77 rfl rfl ?_
          refine gl_iload (gX_LK b) y_255_78 rfl rfl ?_
          obtain ⟨sce17, mre17, are17, ale17, e17, h⟩ := o_k4 h
          refine gl_callV (gX_LK b) y_255_80 ym_255_56 rfl rfl rfl ys_756 yx_257 rfl rfl ((xt_257 )  _ _ _ _ _ _ _ _ _ _ e17 ?_)
          refine gl_goto (gX_LK b) y_255_83 rfl ?_
          refine gl_iinc (vs2 := [some (.ref 756), none, none, some (.int (x3 + (1 : Int32))), some (.int (sce2 756 2))]) (gX_LK b) y_255_153 rfl rfl rfl ci_1 rfl rfl ?_
          refine gl_goto (gX_LK b) y_255_156 rfl ?_
          exact gl_weak (vs := [some (.ref 756), none, none, some (.int (x3 + (1 : Int32))), none]) ⟨rfl, rfl, trivial⟩ (ih (x3 + (1 : Int32)) sce17 mre17 are17 ale17 h)
      · have h := (if_neg c3).symm.trans h
        refine gl_aload_n (gX_LK b) y_255_159 rfl rfl ?_
        refine gl_get (gX_LK b) y_255_160 yf_255_21 ys_756 rfl rfl rfl rfl ?_
        exact gl_ireturn y_255_163 (Or.inl yt_255) (by cases h; exact hP)
def xF_255 (x1 : Int32) (p2 : Nat) (sc : jSc) (mr : (Nat → Nat)) (ar : jSc) (al : jAl) : Option (Int32 × jSc × (Nat → Nat) × jSc × jAl) :=
  (if x_pr p2 = true then (o_b4 (xF_251 p2 (j_u2 (j_u2 (j_u2 (j_u2 (j_u2 sc 756 1 (if (Int32.ofNat 600) < x1 then (Int32.ofNat 600) else x1)) 756 2 (0 : Int32)) 756 3 (0 : Int32)) 756 4 (0 : Int32)) 756 6 (-1 : Int32)) (va_up mr 4 p2) ar al) (fun sce19 mre19 are19 ale19 => xF_255_47 oF (0 : Int32) sce19 mre19 are19 ale19)) else none)
set_option maxHeartbeats 4000000 in
theorem xt_255 {b : Bool} {rf : jRf} {d : Nat} : xT_255 b rf xF_255 (d + 124) := by
  intro  Post x1 p2 hp2 sc mr ar al r9 sc9 mr9 ar9 al9 h hP
  unfold xF_255 at h
  refine gl_entry (m := 2) rfl ?_
  show gL (gX b) 255 (d + 124) 0 [some (.ref 756), some (.int x1), some (.ref p2), none, none] [] sc (x_mk mr rf) ar al Post
  refine gl_aload_n (gX_LK b) y_255_0 rfl rfl ?_
  refine gl_iload_n (gX_LK b) y_255_1 rfl rfl ?_
  refine gl_aload_n (gX_LK b) y_255_2 rfl rfl ?_
  refine gl_getA (gX_LK b) y_255_3 yf_255_27 ys_756 rfl rfl rfl rfl ?_
  refine gl_arraylength (gX_LK b) y_255_6 ys_735 (Or.inl (by decide)) rfl ?_
  refine gl_min (gX_LK b) y_255_7 yn_255_35 yz_255_35 rfl rfl ?_
  refine gl_put (sc' := (j_u2 sc 756 1 (if (Int32.ofNat 600) < x1 then (Int32.ofNat 600) else x1))) (gX_LK b) y_255_10 yf_255_9 ys_756 rfl rfl rfl rfl rfl ?_
  refine gl_aload_n (gX_LK b) y_255_13 rfl rfl ?_
  refine gl_iconst (gX_LK b) y_255_14 ci_0 rfl ?_
  refine gl_put (sc' := (j_u2 (j_u2 sc 756 1 (if (Int32.ofNat 600) < x1 then (Int32.ofNat 600) else x1)) 756 2 (0 : Int32))) (gX_LK b) y_255_15 yf_255_15 ys_756 rfl rfl rfl rfl rfl ?_
  refine gl_aload_n (gX_LK b) y_255_18 rfl rfl ?_
  refine gl_iconst (gX_LK b) y_255_19 ci_0 rfl ?_
  refine gl_put (sc' := (j_u2 (j_u2 (j_u2 sc 756 1 (if (Int32.ofNat 600) < x1 then (Int32.ofNat 600) else x1)) 756 2 (0 : Int32)) 756 3 (0 : Int32))) (gX_LK b) y_255_20 yf_255_18 ys_756 rfl rfl rfl rfl rfl ?_
  refine gl_aload_n (gX_LK b) y_255_23 rfl rfl ?_
  refine gl_iconst (gX_LK b) y_255_24 ci_0 rfl ?_
  refine gl_put (sc' := (j_u2 (j_u2 (j_u2 (j_u2 sc 756 1 (if (Int32.ofNat 600) < x1 then (Int32.ofNat 600) else x1)) 756 2 (0 : Int32)) 756 3 (0 : Int32)) 756 4 (0 : Int32))) (gX_LK b) y_255_25 yf_255_21 ys_756 rfl rfl rfl rfl rfl ?_
  refine gl_aload_n (gX_LK b) y_255_28 rfl rfl ?_
  refine gl_iconst (gX_LK b) y_255_29 ci_m1 rfl ?_
  refine gl_put (sc' := (j_u2 (j_u2 (j_u2 (j_u2 (j_u2 sc 756 1 (if (Int32.ofNat 600) < x1 then (Int32.ofNat 600) else x1)) 756 2 (0 : Int32)) 756 3 (0 : Int32)) 756 4 (0 : Int32)) 756 6 (-1 : Int32))) (gX_LK b) y_255_30 yf_255_24 ys_756 rfl rfl rfl rfl rfl ?_
  refine gl_aload_n (gX_LK b) y_255_33 rfl rfl ?_
  refine gl_aload_n (gX_LK b) y_255_34 rfl rfl ?_
  refine gl_putA (gX_LK b) y_255_35 yf_255_31 ys_756 rfl rfl rfl xmk_4 rfl ?_
  refine gl_aload_n (gX_LK b) y_255_38 rfl rfl ?_
  obtain ⟨c18, h⟩ := o_ck h
  refine gl_getA (gX_LK b) y_255_39 yf_255_31 ys_756 rfl rfl rfl rfl ?_
  obtain ⟨sce19, mre19, are19, ale19, e19, h⟩ := o_k4 h
  refine gl_callV (gX_LK b) y_255_42 ym_255_41 rfl rfl rfl (ys_pr c18) yx_251 rfl rfl ((xt_251 )  _ _ c18 _ _ _ _ _ _ _ _ e19 ?_)
  refine gl_iconst (gX_LK b) y_255_45 ci_0 rfl ?_
  refine gl_istore_n (vs2 := [some (.ref 756), some (.int x1), some (.ref p2), some (.int (0 : Int32)), none]) (gX_LK b) y_255_46 rfl rfl rfl rfl ?_
  exact gl_weak (vs := [some (.ref 756), none, none, some (.int (0 : Int32)), none]) ⟨rfl, rfl, trivial⟩ (xt_255_47  hP oF (0 : Int32) sce19 mre19 are19 ale19 h)
/-- ClickOrders$Row.adds(I)I -/
def xT_277 (b : Bool) (rf : jRf) (F : Int32 → jSc → (Nat → Nat) → jSc → jAl → Option (Int32 × jSc × (Nat → Nat) × jSc × jAl)) (e : Nat) : Prop := ∀  (Post : jPo) (x1 : Int32) (sc : jSc) (mr : (Nat → Nat)) (ar : jSc) (al : jAl) (r9 : Int32) (sc9 : jSc) (mr9 : (Nat → Nat)) (ar9 : jSc) (al9 : jAl), F x1 sc mr ar al = some (r9, sc9, mr9, ar9, al9) → Post (some (.int r9)) sc9 (x_mk mr9 rf) ar9 al9 → gW (gX b) 277 e 0 (j_av [.ref 819, .int x1]) [] sc (x_mk mr rf) ar al Post
def xF_277 (x1 : Int32) (sc : jSc) (mr : (Nat → Nat)) (ar : jSc) (al : jAl) : Option (Int32 × jSc × (Nat → Nat) × jSc × jAl) :=
  (if (sc 819 1) < (40 : Int32) then (if iB (sc 819 1) 40 then some (((sc 819 1) + (1 : Int32)), (j_u2 sc 819 1 ((sc 819 1) + (1 : Int32))), mr, (j_u2 ar 820 (iN (sc 819 1)) x1), al) else none) else some ((-1 : Int32), sc, mr, ar, al))
set_option maxHeartbeats 4000000 in
theorem xt_277 {b : Bool} {rf : jRf} {d : Nat} : xT_277 b rf xF_277 (d + 1) := by
  intro  Post x1 sc mr ar al r9 sc9 mr9 ar9 al9 h hP
  unfold xF_277 at h
  refine gl_entry (m := 0) rfl ?_
  show gL (gX b) 277 (d + 1) 0 [some (.ref 819), some (.int x1)] [] sc (x_mk mr rf) ar al Post
  refine gl_aload_n (gX_LK b) y_277_0 rfl rfl ?_
  refine gl_get (gX_LK b) y_277_1 yf_277_15 ys_819 rfl rfl rfl rfl ?_
  refine gl_bipush (gX_LK b) y_277_4 cb_40 rfl ?_
  refine gl_ic_lt (gX_LK b) y_277_6 rfl rfl (fun c1 => ?_) (fun c1 => ?_)
  · have h := (if_pos c1).symm.trans h
    refine gl_aload_n (gX_LK b) y_277_11 rfl rfl ?_
    refine gl_getA (gX_LK b) y_277_12 yf_277_11 ys_819 rfl rfl rfl rfl ?_
    refine gl_aload_n (gX_LK b) y_277_15 rfl rfl ?_
    refine gl_get (gX_LK b) y_277_16 yf_277_15 ys_819 rfl rfl rfl rfl ?_
    refine gl_iload_n (gX_LK b) y_277_19 rfl rfl ?_
    obtain ⟨c2, h⟩ := o_ck h
    refine gl_iastore (ar2 := (j_u2 ar 820 (iN (sc 819 1)) x1)) (gX_LK b) y_277_20 ys_820 c2 rfl rfl ?_
    refine gl_aload_n (gX_LK b) y_277_21 rfl rfl ?_
    refine gl_dup (gX_LK b) y_277_22 rfl rfl ?_
    refine gl_get (gX_LK b) y_277_23 yf_277_15 ys_819 rfl rfl rfl rfl ?_
    refine gl_iconst (gX_LK b) y_277_26 ci_1 rfl ?_
    refine gl_iadd (gX_LK b) y_277_27 rfl ?_
    refine gl_put (sc' := (j_u2 sc 819 1 ((sc 819 1) + (1 : Int32)))) (gX_LK b) y_277_28 yf_277_15 ys_819 rfl rfl rfl rfl rfl ?_
    refine gl_aload_n (gX_LK b) y_277_31 rfl rfl ?_
    refine gl_get (gX_LK b) y_277_32 yf_277_15 ys_819 rfl rfl rfl rfl ?_
    exact gl_ireturn y_277_35 (Or.inl yt_277) (by cases h; exact hP)
  · have h := (if_neg c1).symm.trans h
    refine gl_iconst (gX_LK b) y_277_9 ci_m1 rfl ?_
    exact gl_ireturn y_277_10 (Or.inl yt_277) (by cases h; exact hP)
/-- ClickOrders$Row.firstRefused()I -/
def xT_278 (b : Bool) (rf : jRf) (F : jSc → (Nat → Nat) → jSc → jAl → Option (Int32 × jSc × (Nat → Nat) × jSc × jAl)) (e : Nat) : Prop := ∀  (Post : jPo) (sc : jSc) (mr : (Nat → Nat)) (ar : jSc) (al : jAl) (r9 : Int32) (sc9 : jSc) (mr9 : (Nat → Nat)) (ar9 : jSc) (al9 : jAl), F sc mr ar al = some (r9, sc9, mr9, ar9, al9) → Post (some (.int r9)) sc9 (x_mk mr9 rf) ar9 al9 → gW (gX b) 278 e 0 (j_av [.ref 819]) [] sc (x_mk mr rf) ar al Post
def xF_278_13 : Nat → Int32 → jSc → (Nat → Nat) → jSc → jAl → Option (Int32 × jSc × (Nat → Nat) × jSc × jAl)
  | 0, _, _, _, _, _ => none
  | nn + 1, x1, sc, mr, ar, al => (if (sc 819 1) ≤ x1 then some ((-1 : Int32), sc, mr, ar, al) else (if iB x1 40 then (o_b5 (xF_206 821 (ar 820 (iN x1)) sc mr ar al) (fun ve3 sce3 mre3 are3 ale3 => (if ve3 = 0 then some (x1, sce3, mre3, are3, ale3) else (if iB x1 40 then (o_b5 (xF_209 821 (are3 820 (iN x1)) (-1 : Int32) sce3 mre3 are3 ale3) (fun ve6 sce6 mre6 are6 ale6 => xF_278_13 nn (x1 + (1 : Int32)) sce6 mre6 are6 ale6)) else none)))) else none))
set_option maxHeartbeats 4000000 in
theorem xt_278_13 {b : Bool} {rf : jRf} {d : Nat} {Post : jPo} {r9 : Int32} {sc9 : jSc} {mr9 : (Nat → Nat)} {ar9 : jSc} {al9 : jAl} (hP : Post (some (.int r9)) sc9 (x_mk mr9 rf) ar9 al9) : ∀ (nn : Nat) (x1 : Int32) (sc : jSc) (mr : (Nat → Nat)) (ar : jSc) (al : jAl), xF_278_13 nn x1 sc mr ar al = some (r9, sc9, mr9, ar9, al9) → gL (gX b) 278 (d + 5) 13 [some (.ref 819), some (.int x1)] [] sc (x_mk mr rf) ar al Post := by
  intro nn
  induction nn with
  | zero =>
    intro x1 sc mr ar al h
    have h : (none : Option (Int32 × jSc × (Nat → Nat) × jSc × jAl)) = some _ := h
    cases h
  | succ nn ih =>
    intro x1 sc mr ar al h
    unfold xF_278_13 at h
    refine gl_iload_n (gX_LK b) y_278_13 rfl rfl ?_
    refine gl_aload_n (gX_LK b) y_278_14 rfl rfl ?_
    refine gl_get (gX_LK b) y_278_15 yf_278_15 ys_819 rfl rfl rfl rfl ?_
    refine gl_ic_ge (gX_LK b) y_278_18 rfl rfl (fun c1 => ?_) (fun c1 => ?_)
    · have h := (if_pos c1).symm.trans h
      refine gl_iconst (gX_LK b) y_278_68 ci_m1 rfl ?_
      exact gl_ireturn y_278_69 (Or.inl yt_278) (by cases h; exact hP)
    · have h := (if_neg c1).symm.trans h
      refine gl_aload_n (gX_LK b) y_278_21 rfl rfl ?_
      refine gl_getA (gX_LK b) y_278_22 yf_278_26 ys_819 rfl rfl rfl rfl ?_
      refine gl_aload_n (gX_LK b) y_278_25 rfl rfl ?_
      refine gl_getA (gX_LK b) y_278_26 yf_278_22 ys_819 rfl rfl rfl rfl ?_
      refine gl_aload_n (gX_LK b) y_278_29 rfl rfl ?_
      refine gl_getA (gX_LK b) y_278_30 yf_278_11 ys_819 rfl rfl rfl rfl ?_
      refine gl_iload_n (gX_LK b) y_278_33 rfl rfl ?_
      obtain ⟨c2, h⟩ := o_ck h
      refine gl_iaload (gX_LK b) y_278_34 ys_820 c2 rfl rfl ?_
      obtain ⟨ve3, sce3, mre3, are3, ale3, e3, h⟩ := o_k5 h
      refine gl_callV (gX_LK b) y_278_35 ym_278_36 rfl rfl rfl ys_757 yx_206 rfl rfl ((xt_206 )  _ _ _ (show x_pg 821 = true from rfl) _ _ _ _ _ _ _ _ _ e3 ?_)
      refine gl_if_ne (gX_LK b) y_278_38 rfl rfl (fun c4 => ?_) (fun c4 => ?_)
      · have h := (if_pos c4).symm.trans h
        refine gl_iload_n (gX_LK b) y_278_41 rfl rfl ?_
        exact gl_ireturn y_278_42 (Or.inl yt_278) (by cases h; exact hP)
      · have h := (if_neg c4).symm.trans h
        refine gl_aload_n (gX_LK b) y_278_43 rfl rfl ?_
        refine gl_getA (gX_LK b) y_278_44 yf_278_26 ys_819 rfl rfl rfl rfl ?_
        refine gl_aload_n (gX_LK b) y_278_47 rfl rfl ?_
        refine gl_getA (gX_LK b) y_278_48 yf_278_22 ys_819 rfl rfl rfl rfl ?_
        refine gl_aload_n (gX_LK b) y_278_51 rfl rfl ?_
        refine gl_getA (gX_LK b) y_278_52 yf_278_11 ys_819 rfl rfl rfl rfl ?_
        refine gl_iload_n (gX_LK b) y_278_55 rfl rfl ?_
        obtain ⟨c5, h⟩ := o_ck h
        refine gl_iaload (gX_LK b) y_278_56 ys_820 c5 rfl rfl ?_
        refine gl_iconst (gX_LK b) y_278_57 ci_m1 rfl ?_
        obtain ⟨ve6, sce6, mre6, are6, ale6, e6, h⟩ := o_k5 h
        refine gl_callV (gX_LK b) y_278_58 ym_278_40 rfl rfl rfl ys_757 yx_209 rfl rfl ((xt_209 )  _ _ _ _ (show x_pg 821 = true from rfl) _ _ _ _ _ _ _ _ _ e6 ?_)
        refine gl_pop (gX_LK b) y_278_61 rfl rfl ?_
        refine gl_iinc (vs2 := [some (.ref 819), some (.int (x1 + (1 : Int32)))]) (gX_LK b) y_278_62 rfl rfl rfl ci_1 rfl rfl ?_
        refine gl_goto (gX_LK b) y_278_65 rfl ?_
        exact gl_weak (vs := [some (.ref 819), some (.int (x1 + (1 : Int32)))]) ⟨rfl, rfl, trivial⟩ (ih (x1 + (1 : Int32)) sce6 mre6 are6 ale6 h)
def xF_278 (sc : jSc) (mr : (Nat → Nat)) (ar : jSc) (al : jAl) : Option (Int32 × jSc × (Nat → Nat) × jSc × jAl) :=
  (o_b4 (xF_207 821 sc mr ar al) (fun sce7 mre7 are7 ale7 => xF_278_13 oF (0 : Int32) sce7 mre7 are7 ale7))
set_option maxHeartbeats 4000000 in
theorem xt_278 {b : Bool} {rf : jRf} {d : Nat} : xT_278 b rf xF_278 (d + 5) := by
  intro  Post  sc mr ar al r9 sc9 mr9 ar9 al9 h hP
  unfold xF_278 at h
  refine gl_entry (m := 1) rfl ?_
  show gL (gX b) 278 (d + 5) 0 [some (.ref 819), none] [] sc (x_mk mr rf) ar al Post
  refine gl_aload_n (gX_LK b) y_278_0 rfl rfl ?_
  refine gl_getA (gX_LK b) y_278_1 yf_278_26 ys_819 rfl rfl rfl rfl ?_
  refine gl_aload_n (gX_LK b) y_278_4 rfl rfl ?_
  refine gl_getA (gX_LK b) y_278_5 yf_278_22 ys_819 rfl rfl rfl rfl ?_
  obtain ⟨sce7, mre7, are7, ale7, e7, h⟩ := o_k4 h
  refine gl_callV (gX_LK b) y_278_8 ym_278_30 rfl rfl rfl ys_757 yx_207 rfl rfl ((xt_207 )  _ _ (show x_pg 821 = true from rfl) _ _ _ _ _ _ _ _ e7 ?_)
  refine gl_iconst (gX_LK b) y_278_11 ci_0 rfl ?_
  refine gl_istore_n (vs2 := [some (.ref 819), some (.int (0 : Int32))]) (gX_LK b) y_278_12 rfl rfl rfl rfl ?_
  exact gl_weak (vs := [some (.ref 819), some (.int (0 : Int32))]) ⟨rfl, rfl, trivial⟩ (xt_278_13  hP oF (0 : Int32) sce7 mre7 are7 ale7 h)
/-- ClickOrders$Row.drops(I)V -/
def xT_281 (b : Bool) (rf : jRf) (F : Int32 → jSc → (Nat → Nat) → jSc → jAl → Option (jSc × (Nat → Nat) × jSc × jAl)) (e : Nat) : Prop := ∀  (Post : jPo) (x1 : Int32) (sc : jSc) (mr : (Nat → Nat)) (ar : jSc) (al : jAl) (sc9 : jSc) (mr9 : (Nat → Nat)) (ar9 : jSc) (al9 : jAl), F x1 sc mr ar al = some (sc9, mr9, ar9, al9) → Post none sc9 (x_mk mr9 rf) ar9 al9 → gW (gX b) 281 e 0 (j_av [.ref 819, .int x1]) [] sc (x_mk mr rf) ar al Post
def xF_281_2 : Nat → Int32 → jSc → (Nat → Nat) → jSc → jAl → Option (jSc × (Nat → Nat) × jSc × jAl)
  | 0, _, _, _, _, _ => none
  | nn + 1, x2, sc, mr, ar, al => (if (sc 819 1) ≤ (x2 + (1 : Int32)) then some ((j_u2 sc 819 1 ((sc 819 1) - (1 : Int32))), mr, ar, al) else (if iB (x2 + (1 : Int32)) 40 then (if iB x2 40 then xF_281_2 nn (x2 + (1 : Int32)) sc mr (j_u2 ar 820 (iN x2) (ar 820 (iN (x2 + (1 : Int32))))) al else none) else none))
set_option maxHeartbeats 4000000 in
theorem xt_281_2 {b : Bool} {rf : jRf} {d : Nat} {Post : jPo} {sc9 : jSc} {mr9 : (Nat → Nat)} {ar9 : jSc} {al9 : jAl} (hP : Post none sc9 (x_mk mr9 rf) ar9 al9) : ∀ (nn : Nat) (x2 : Int32) (sc : jSc) (mr : (Nat → Nat)) (ar : jSc) (al : jAl), xF_281_2 nn x2 sc mr ar al = some (sc9, mr9, ar9, al9) → gL (gX b) 281 (d + 1) 2 [some (.ref 819), none, some (.int x2)] [] sc (x_mk mr rf) ar al Post := by
  intro nn
  induction nn with
  | zero =>
    intro x2 sc mr ar al h
    have h : (none : Option (jSc × (Nat → Nat) × jSc × jAl)) = some _ := h
    cases h
  | succ nn ih =>
    intro x2 sc mr ar al h
    unfold xF_281_2 at h
    refine gl_iload_n (gX_LK b) y_281_2 rfl rfl ?_
    refine gl_iconst (gX_LK b) y_281_3 ci_1 rfl ?_
    refine gl_iadd (gX_LK b) y_281_4 rfl ?_
    refine gl_aload_n (gX_LK b) y_281_5 rfl rfl ?_
    refine gl_get (gX_LK b) y_281_6 yf_281_15 ys_819 rfl rfl rfl rfl ?_
    refine gl_ic_ge (gX_LK b) y_281_9 rfl rfl (fun c1 => ?_) (fun c1 => ?_)
    · have h := (if_pos c1).symm.trans h
      refine gl_aload_n (gX_LK b) y_281_32 rfl rfl ?_
      refine gl_dup (gX_LK b) y_281_33 rfl rfl ?_
      refine gl_get (gX_LK b) y_281_34 yf_281_15 ys_819 rfl rfl rfl rfl ?_
      refine gl_iconst (gX_LK b) y_281_37 ci_1 rfl ?_
      refine gl_isub (gX_LK b) y_281_38 rfl ?_
      refine gl_put (sc' := (j_u2 sc 819 1 ((sc 819 1) - (1 : Int32)))) (gX_LK b) y_281_39 yf_281_15 ys_819 rfl rfl rfl rfl rfl ?_
      exact gl_return y_281_42 yt_281 (by cases h; exact hP)
    · have h := (if_neg c1).symm.trans h
      refine gl_aload_n (gX_LK b) y_281_12 rfl rfl ?_
      refine gl_getA (gX_LK b) y_281_13 yf_281_11 ys_819 rfl rfl rfl rfl ?_
      refine gl_iload_n (gX_LK b) y_281_16 rfl rfl ?_
      refine gl_aload_n (gX_LK b) y_281_17 rfl rfl ?_
      refine gl_getA (gX_LK b) y_281_18 yf_281_11 ys_819 rfl rfl rfl rfl ?_
      refine gl_iload_n (gX_LK b) y_281_21 rfl rfl ?_
      refine gl_iconst (gX_LK b) y_281_22 ci_1 rfl ?_
      refine gl_iadd (gX_LK b) y_281_23 rfl ?_
      obtain ⟨c2, h⟩ := o_ck h
      refine gl_iaload (gX_LK b) y_281_24 ys_820 c2 rfl rfl ?_
      obtain ⟨c3, h⟩ := o_ck h
      refine gl_iastore (ar2 := (j_u2 ar 820 (iN x2) (ar 820 (iN (x2 + (1 : Int32)))))) (gX_LK b) y_281_25 ys_820 c3 rfl rfl ?_
      refine gl_iinc (vs2 := [some (.ref 819), none, some (.int (x2 + (1 : Int32)))]) (gX_LK b) y_281_26 rfl rfl rfl ci_1 rfl rfl ?_
      refine gl_goto (gX_LK b) y_281_29 rfl ?_
      exact gl_weak (vs := [some (.ref 819), none, some (.int (x2 + (1 : Int32)))]) ⟨rfl, rfl, trivial⟩ (ih (x2 + (1 : Int32)) sc mr (j_u2 ar 820 (iN x2) (ar 820 (iN (x2 + (1 : Int32))))) al h)
def xF_281 (x1 : Int32) (sc : jSc) (mr : (Nat → Nat)) (ar : jSc) (al : jAl) : Option (jSc × (Nat → Nat) × jSc × jAl) :=
  xF_281_2 oF x1 sc mr ar al
set_option maxHeartbeats 4000000 in
theorem xt_281 {b : Bool} {rf : jRf} {d : Nat} : xT_281 b rf xF_281 (d + 1) := by
  intro  Post x1 sc mr ar al sc9 mr9 ar9 al9 h hP
  unfold xF_281 at h
  refine gl_entry (m := 1) rfl ?_
  show gL (gX b) 281 (d + 1) 0 [some (.ref 819), some (.int x1), none] [] sc (x_mk mr rf) ar al Post
  refine gl_iload_n (gX_LK b) y_281_0 rfl rfl ?_
  refine gl_istore_n (vs2 := [some (.ref 819), some (.int x1), some (.int x1)]) (gX_LK b) y_281_1 rfl rfl rfl rfl ?_
  exact gl_weak (vs := [some (.ref 819), none, some (.int x1)]) ⟨rfl, rfl, trivial⟩ (xt_281_2  hP oF x1 sc mr ar al h)
