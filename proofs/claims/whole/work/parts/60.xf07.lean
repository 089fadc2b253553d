/-! ClickOrders: its methods as functions, and that the machine does what they say. -/
/-- ClickOrders$Reader.value(I)V -/
def xT_263 (b : Bool) (rf : jRf) (F : Int32 → jSc → (Nat → Nat) → jSc → jAl → Option (jSc × (Nat → Nat) × jSc × jAl)) (e : Nat) : Prop := ∀  (Post : jPo) (x1 : Int32) (sc : jSc) (mr : (Nat → Nat)) (ar : jSc) (al : jAl) (sc9 : jSc) (mr9 : (Nat → Nat)) (ar9 : jSc) (al9 : jAl), F x1 sc mr ar al = some (sc9, mr9, ar9, al9) → Post none sc9 (x_mk mr9 rf) ar9 al9 → gW (gX b) 263 e 0 (j_av [.ref 756, .int x1]) [] sc (x_mk mr rf) ar al Post
def xF_263_14 (g263 : Int32 → jSc → (Nat → Nat) → jSc → jAl → Option (jSc × (Nat → Nat) × jSc × jAl)) : Nat → Int32 → Int32 → jSc → (Nat → Nat) → jSc → jAl → Option (jSc × (Nat → Nat) × jSc × jAl)
  | 0, _, _, _, _, _, _ => none
  | nn + 1, x1, x2, sc, mr, ar, al => (if (sc 756 1) ≤ x2 then some (sc, mr, ar, al) else (o_b5 (xF_264 x1 sc mr ar al) (fun ve2 sce2 mre2 are2 ale2 => (if 0 ≤ ve2 then (o_b4 (g263 (x1 + (1 : Int32)) sce2 mre2 are2 ale2) (fun sce4 mre4 are4 ale4 => (if x_pr (mre4 4) = true then (o_b5 (xF_252 (mre4 4) ve2 (0 : Int32) sce4 mre4 are4 ale4) (fun ve6 sce6 mre6 are6 ale6 => xF_263_14 g263 nn x1 (x2 + (1 : Int32)) sce6 mre6 are6 ale6)) else none))) else some (sce2, mre2, are2, ale2)))))
set_option maxHeartbeats 4000000 in
theorem xt_263_14 {b : Bool} {rf : jRf} {d : Nat} {g263 : Int32 → jSc → (Nat → Nat) → jSc → jAl → Option (jSc × (Nat → Nat) × jSc × jAl)} (hg263 : xT_263 b rf g263 (d + 2)) {Post : jPo} {sc9 : jSc} {mr9 : (Nat → Nat)} {ar9 : jSc} {al9 : jAl} (hP : Post none sc9 (x_mk mr9 rf) ar9 al9) : ∀ (nn : Nat) (x1 : Int32) (x2 : Int32) (sc : jSc) (mr : (Nat → Nat)) (ar : jSc) (al : jAl), xF_263_14 g263 nn x1 x2 sc mr ar al = some (sc9, mr9, ar9, al9) → gL (gX b) 263 (d + 3) 14 [some (.ref 756), some (.int x1), some (.int x2), none, none] [] sc (x_mk mr rf) ar al Post := by
  intro nn
  induction nn with
  | zero =>
    intro x1 x2 sc mr ar al h
    have h : (none : Option (jSc × (Nat → Nat) × jSc × jAl)) = some _ := h
    cases h
  | succ nn ih =>
    intro x1 x2 sc mr ar al h
    unfold xF_263_14 at h
    refine gl_iload_n (gX_LK b) y_263_14 rfl rfl ?_
    refine gl_aload_n (gX_LK b) y_263_15 rfl rfl ?_
    refine gl_get (gX_LK b) y_263_16 yf_263_9 ys_756 rfl rfl rfl rfl ?_
    refine gl_ic_ge (gX_LK b) y_263_19 rfl rfl (fun c1 => ?_) (fun c1 => ?_)
    · have h := (if_pos c1).symm.trans h
      exact gl_return y_263_56 yt_263 (by cases h; exact hP)
    · have h := (if_neg c1).symm.trans h
      refine gl_aload_n (gX_LK b) y_263_22 rfl rfl ?_
      refine gl_iload_n (gX_LK b) y_263_23 rfl rfl ?_
      obtain ⟨ve2, sce2, mre2, are2, ale2, e2, h⟩ := o_k5 h
      refine gl_callV (gX_LK b) y_263_24 ym_263_167 rfl rfl rfl ys_756 yx_264 rfl rfl ((xt_264 )  _ _ _ _ _ _ _ _ _ _ _ e2 ?_)
      refine gl_istore_n (vs2 := [some (.ref 756), some (.int x1), some (.int x2), some (.int ve2), none]) (gX_LK b) y_263_27 rfl rfl rfl rfl ?_
      refine gl_iload_n (gX_LK b) y_263_28 rfl rfl ?_
      refine gl_if_ge (gX_LK b) y_263_29 rfl rfl (fun c3 => ?_) (fun c3 => ?_)
      · have h := (if_pos c3).symm.trans h
        refine gl_aload_n (gX_LK b) y_263_33 rfl rfl ?_
        refine gl_iload_n (gX_LK b) y_263_34 rfl rfl ?_
        refine gl_iconst (gX_LK b) y_263_35 ci_1 rfl ?_
        refine gl_iadd (gX_LK b) y_263_36 rfl ?_
        obtain ⟨sce4, mre4, are4, ale4, e4, h⟩ := o_k4 h
        refine gl_callV (gX_LK b) y_263_37 ym_263_137 rfl rfl rfl ys_756 yx_263 rfl rfl (hg263  _ _ _ _ _ _ _ _ _ _ e4 ?_)
        refine gl_aload_n (gX_LK b) y_263_40 rfl rfl ?_
        obtain ⟨c5, h⟩ := o_ck h
        refine gl_getA (gX_LK b) y_263_41 yf_263_31 ys_756 rfl rfl rfl rfl ?_
        refine gl_iload_n (gX_LK b) y_263_44 rfl rfl ?_
        refine gl_iconst (gX_LK b) y_263_45 ci_0 rfl ?_
        obtain ⟨ve6, sce6, mre6, are6, ale6, e6, h⟩ := o_k5 h
        refine gl_callV (gX_LK b) y_263_46 ym_263_77 rfl rfl rfl (ys_pr c5) yx_252 rfl rfl ((xt_252 )  _ _ _ _ c5 _ _ _ _ _ _ _ _ _ e6 ?_)
        refine gl_pop (gX_LK b) y_263_49 rfl rfl ?_
        refine gl_iinc (vs2 := [some (.ref 756), some (.int x1), some (.int (x2 + (1 : Int32))), some (.int ve2), none]) (gX_LK b) y_263_50 rfl rfl rfl ci_1 rfl rfl ?_
        refine gl_goto (gX_LK b) y_263_53 rfl ?_
        exact gl_weak (vs := [some (.ref 756), some (.int x1), some (.int (x2 + (1 : Int32))), none, none]) ⟨rfl, rfl, rfl, trivial⟩ (ih x1 (x2 + (1 : Int32)) sce6 mre6 are6 ale6 h)
      · have h := (if_neg c3).symm.trans h
        exact gl_return y_263_32 yt_263 (by cases h; exact hP)
def xF_263_288 (g263 : Int32 → jSc → (Nat → Nat) → jSc → jAl → Option (jSc × (Nat → Nat) × jSc × jAl)) (x4 : Int32) (sc : jSc) (mr : (Nat → Nat)) (ar : jSc) (al : jAl) : Option (jSc × (Nat → Nat) × jSc × jAl) :=
  (if x_pr (mr 4) = true then (if x4 = 0 then (o_b5 (xF_252 (mr 4) (10 : Int32) (0 : Int32) sc mr ar al) (fun ve9 sce9 mre9 are9 ale9 => some (sce9, mre9, are9, ale9))) else (o_b5 (xF_252 (mr 4) (9 : Int32) (0 : Int32) sc mr ar al) (fun ve10 sce10 mre10 are10 ale10 => some (sce10, mre10, are10, ale10)))) else none)
set_option maxHeartbeats 4000000 in
theorem xt_263_288 {b : Bool} {rf : jRf} {d : Nat} {g263 : Int32 → jSc → (Nat → Nat) → jSc → jAl → Option (jSc × (Nat → Nat) × jSc × jAl)} (hg263 : xT_263 b rf g263 (d + 2)) {Post : jPo} {sc9 : jSc} {mr9 : (Nat → Nat)} {ar9 : jSc} {al9 : jAl} (hP : Post none sc9 (x_mk mr9 rf) ar9 al9) (x4 : Int32) (sc : jSc) (mr : (Nat → Nat)) (ar : jSc) (al : jAl) (h : xF_263_288 g263 x4 sc mr ar al = some (sc9, mr9, ar9, al9)) : gL (gX b) 263 (d + 3) 288 [some (.ref 756), none, none, none, some (.int x4)] [] sc (x_mk mr rf) ar al Post := by
  unfold xF_263_288 at h
  refine gl_aload_n (gX_LK b) y_263_288 rfl rfl ?_
  obtain ⟨c7, h⟩ := o_ck h
  refine gl_getA (gX_LK b) y_263_289 yf_263_31 ys_756 rfl rfl rfl rfl ?_
  refine gl_iload (gX_LK b) y_263_292 rfl rfl ?_
  refine gl_if_eq (gX_LK b) y_263_294 rfl rfl (fun c8 => ?_) (fun c8 => ?_)
  · have h := (if_pos c8).symm.trans h
    refine gl_bipush (gX_LK b) y_263_302 cb_10 rfl ?_
    refine gl_iconst (gX_LK b) y_263_304 ci_0 rfl ?_
    obtain ⟨ve9, sce9, mre9, are9, ale9, e9, h⟩ := o_k5 h
    refine gl_callV (gX_LK b) y_263_305 ym_263_77 rfl rfl rfl (ys_pr c7) yx_252 rfl rfl ((xt_252 )  _ _ _ _ c7 _ _ _ _ _ _ _ _ _ e9 ?_)
    refine gl_pop (gX_LK b) y_263_308 rfl rfl ?_
    exact gl_return y_263_309 yt_263 (by cases h; exact hP)
  · have h := (if_neg c8).symm.trans h
    refine gl_bipush (gX_LK b) y_263_297 cb_9 rfl ?_
    refine gl_goto (gX_LK b) y_263_299 rfl ?_
    refine gl_iconst (gX_LK b) y_263_304 ci_0 rfl ?_
    obtain ⟨ve10, sce10, mre10, are10, ale10, e10, h⟩ := o_k5 h
    refine gl_callV (gX_LK b) y_263_305 ym_263_77 rfl rfl rfl (ys_pr c7) yx_252 rfl rfl ((xt_252 )  _ _ _ _ c7 _ _ _ _ _ _ _ _ _ e10 ?_)
    refine gl_pop (gX_LK b) y_263_308 rfl rfl ?_
    exact gl_return y_263_309 yt_263 (by cases h; exact hP)
def xF_263_233 (g263 : Int32 → jSc → (Nat → Nat) → jSc → jAl → Option (jSc × (Nat → Nat) × jSc × jAl)) (x4 : Int32) (sc : jSc) (mr : (Nat → Nat)) (ar : jSc) (al : jAl) : Option (jSc × (Nat → Nat) × jSc × jAl) :=
  (o_b4 (xF_273 sc mr ar al) (fun sce11 mre11 are11 ale11 => (o_b4 (xF_271 (40 : Int32) sce11 mre11 are11 ale11) (fun sce12 mre12 are12 ale12 => (o_b5 (xF_265 (sce11 756 2) sce12 mre12 are12 ale12) (fun ve13 sce13 mre13 are13 ale13 => (if ve13 = 0 then xF_263_288 g263 x4 sce13 mre13 are13 ale13 else (o_b4 (g263 (0 : Int32) sce13 mre13 are13 ale13) (fun sce15 mre15 are15 ale15 => (o_b4 (xF_271 (44 : Int32) sce15 mre15 are15 ale15) (fun sce16 mre16 are16 ale16 => (o_b4 (g263 (0 : Int32) sce16 mre16 are16 ale16) (fun sce17 mre17 are17 ale17 => (o_b4 (xF_271 (41 : Int32) sce17 mre17 are17 ale17) (fun sce18 mre18 are18 ale18 => xF_263_288 g263 x4 (j_u2 sce18 756 3 ((sce18 756 3) - (1 : Int32))) mre18 are18 ale18)))))))))))))))
set_option maxHeartbeats 4000000 in
theorem xt_263_233 {b : Bool} {rf : jRf} {d : Nat} {g263 : Int32 → jSc → (Nat → Nat) → jSc → jAl → Option (jSc × (Nat → Nat) × jSc × jAl)} (hg263 : xT_263 b rf g263 (d + 2)) {Post : jPo} {sc9 : jSc} {mr9 : (Nat → Nat)} {ar9 : jSc} {al9 : jAl} (hP : Post none sc9 (x_mk mr9 rf) ar9 al9) (x4 : Int32) (sc : jSc) (mr : (Nat → Nat)) (ar : jSc) (al : jAl) (h : xF_263_233 g263 x4 sc mr ar al = some (sc9, mr9, ar9, al9)) : gL (gX b) 263 (d + 3) 233 [some (.ref 756), none, none, none, some (.int x4)] [] sc (x_mk mr rf) ar al Post := by
  unfold xF_263_233 at h
  refine gl_aload_n (gX_LK b) y_263_233 rfl rfl ?_
  obtain ⟨sce11, mre11, are11, ale11, e11, h⟩ := o_k4 h
  refine gl_callV (gX_LK b) y_263_234 ym_263_113 rfl rfl rfl ys_756 yx_273 rfl rfl ((xt_273 )  _  _ _ _ _ _ _ _ _ e11 ?_)
  refine gl_aload_n (gX_LK b) y_263_237 rfl rfl ?_
  refine gl_get (gX_LK b) y_263_238 yf_263_15 ys_756 rfl rfl rfl rfl ?_
  refine gl_istore_n (vs2 := [some (.ref 756), none, some (.int (sce11 756 2)), none, some (.int x4)]) (gX_LK b) y_263_241 rfl rfl rfl rfl ?_
  refine gl_aload_n (gX_LK b) y_263_242 rfl rfl ?_
  refine gl_bipush (gX_LK b) y_263_243 cb_40 rfl ?_
  obtain ⟨sce12, mre12, are12, ale12, e12, h⟩ := o_k4 h
  refine gl_callV (gX_LK b) y_263_245 ym_263_80 rfl rfl rfl ys_756 yx_271 rfl rfl ((xt_271 )  _ _ _ _ _ _ _ _ _ _ e12 ?_)
  refine gl_aload_n (gX_LK b) y_263_248 rfl rfl ?_
  refine gl_iload_n (gX_LK b) y_263_249 rfl rfl ?_
  obtain ⟨ve13, sce13, mre13, are13, ale13, e13, h⟩ := o_k5 h
  refine gl_callV (gX_LK b) y_263_250 ym_263_125 rfl rfl rfl ys_756 yx_265 rfl rfl ((xt_265 )  _ _ _ _ _ _ _ _ _ _ _ e13 ?_)
  refine gl_if_eq (gX_LK b) y_263_253 rfl rfl (fun c14 => ?_) (fun c14 => ?_)
  · have h := (if_pos c14).symm.trans h
    exact gl_weak (vs := [some (.ref 756), none, none, none, some (.int x4)]) ⟨rfl, rfl, trivial⟩ (xt_263_288  hg263 hP x4 sce13 mre13 are13 ale13 h)
  · have h := (if_neg c14).symm.trans h
    refine gl_aload_n (gX_LK b) y_263_256 rfl rfl ?_
    refine gl_iconst (gX_LK b) y_263_257 ci_0 rfl ?_
    obtain ⟨sce15, mre15, are15, ale15, e15, h⟩ := o_k4 h
    refine gl_callV (gX_LK b) y_263_258 ym_263_137 rfl rfl rfl ys_756 yx_263 rfl rfl (hg263  _ _ _ _ _ _ _ _ _ _ e15 ?_)
    refine gl_aload_n (gX_LK b) y_263_261 rfl rfl ?_
    refine gl_bipush (gX_LK b) y_263_262 cb_44 rfl ?_
    obtain ⟨sce16, mre16, are16, ale16, e16, h⟩ := o_k4 h
    refine gl_callV (gX_LK b) y_263_264 ym_263_80 rfl rfl rfl ys_756 yx_271 rfl rfl ((xt_271 )  _ _ _ _ _ _ _ _ _ _ e16 ?_)
    refine gl_aload_n (gX_LK b) y_263_267 rfl rfl ?_
    refine gl_iconst (gX_LK b) y_263_268 ci_0 rfl ?_
    obtain ⟨sce17, mre17, are17, ale17, e17, h⟩ := o_k4 h
    refine gl_callV (gX_LK b) y_263_269 ym_263_137 rfl rfl rfl ys_756 yx_263 rfl rfl (hg263  _ _ _ _ _ _ _ _ _ _ e17 ?_)
    refine gl_aload_n (gX_LK b) y_263_272 rfl rfl ?_
    refine gl_bipush (gX_LK b) y_263_273 cb_41 rfl ?_
    obtain ⟨sce18, mre18, are18, ale18, e18, h⟩ := o_k4 h
    refine gl_callV (gX_LK b) y_263_275 ym_263_80 rfl rfl rfl ys_756 yx_271 rfl rfl ((xt_271 )  _ _ _ _ _ _ _ _ _ _ e18 ?_)
    refine gl_aload_n (gX_LK b) y_263_278 rfl rfl ?_
    refine gl_dup (gX_LK b) y_263_279 rfl rfl ?_
    refine gl_get (gX_LK b) y_263_280 yf_263_18 ys_756 rfl rfl rfl rfl ?_
    refine gl_iconst (gX_LK b) y_263_283 ci_1 rfl ?_
    refine gl_isub (gX_LK b) y_263_284 rfl ?_
    refine gl_put (sc' := (j_u2 sce18 756 3 ((sce18 756 3) - (1 : Int32)))) (gX_LK b) y_263_285 yf_263_18 ys_756 rfl rfl rfl rfl rfl ?_
    exact gl_weak (vs := [some (.ref 756), none, none, none, some (.int x4)]) ⟨rfl, rfl, trivial⟩ (xt_263_288  hg263 hP x4 (j_u2 sce18 756 3 ((sce18 756 3) - (1 : Int32))) mre18 are18 ale18 h)
def xF_263 (g263 : Int32 → jSc → (Nat → Nat) → jSc → jAl → Option (jSc × (Nat → Nat) × jSc × jAl)) (x1 : Int32) (sc : jSc) (mr : (Nat → Nat)) (ar : jSc) (al : jAl) : Option (jSc × (Nat → Nat) × jSc × jAl) :=
  (if (2 : Int32) ≤ x1 then (o_b4 (xF_273 sc mr ar al) (fun sce20 mre20 are20 ale20 => (o_b5 (xF_268 sce20 mre20 are20 ale20) (fun ve21 sce21 mre21 are21 ale21 => (if ve21 < 0 then (o_b5 (xF_274 (sce21 756 2) sce21 mre21 are21 ale21) (fun ve23 sce23 mre23 are23 ale23 => (if ve23 = 0 then (o_b5 (xF_269 6 sce23 mre23 are23 ale23) (fun ve25 sce25 mre25 are25 ale25 => (if ve25 = 0 then (o_b5 (xF_269 5 sce25 mre25 are25 ale25) (fun ve27 sce27 mre27 are27 ale27 => (if ve27 = 0 then (o_b5 (xF_270 (40 : Int32) sce27 mre27 are27 ale27) (fun ve29 sce29 mre29 are29 ale29 => (if ve29 = 0 then (o_b5 (xF_269 11 sce29 mre29 are29 ale29) (fun ve31 sce31 mre31 are31 ale31 => (if ve31 = 0 then (o_b5 (xF_269 13 sce31 mre31 are31 ale31) (fun ve33 sce33 mre33 are33 ale33 => (if ve33 = 0 then (o_b4 (xF_276 (1 : Int32) (sce20 756 2) sce33 mre33 are33 ale33) (fun sce35 mre35 are35 ale35 => some (sce35, mre35, are35, ale35))) else xF_263_233 g263 ve31 sce33 mre33 are33 ale33))) else xF_263_233 g263 ve31 sce31 mre31 are31 ale31))) else (o_b5 (xF_265 (sce20 756 2) sce29 mre29 are29 ale29) (fun ve36 sce36 mre36 are36 ale36 => (if ve36 = 0 then some (sce36, mre36, are36, ale36) else (o_b4 (g263 (0 : Int32) sce36 mre36 are36 ale36) (fun sce38 mre38 are38 ale38 => (o_b4 (xF_271 (41 : Int32) sce38 mre38 are38 ale38) (fun sce39 mre39 are39 ale39 => some ((j_u2 sce39 756 3 ((sce39 756 3) - (1 : Int32))), mre39, are39, ale39))))))))))) else (if x_pr (mre27 4) = true then (o_b5 (xF_266 (4 : Int32) sce27 mre27 are27 ale27) (fun ve41 sce41 mre41 are41 ale41 => (o_b5 (xF_252 (mre27 4) (3 : Int32) ve41 sce41 mre41 are41 ale41) (fun ve42 sce42 mre42 are42 ale42 => some (sce42, mre42, are42, ale42))))) else none)))) else (if x_pr (mre25 4) = true then (o_b5 (xF_252 (mre25 4) (2 : Int32) (0 : Int32) sce25 mre25 are25 ale25) (fun ve44 sce44 mre44 are44 ale44 => some (sce44, mre44, are44, ale44))) else none)))) else (if x_pr (mre23 4) = true then (o_b5 (xF_267 sce23 mre23 are23 ale23) (fun ve46 sce46 mre46 are46 ale46 => (o_b5 (xF_252 (mre23 4) (0 : Int32) ve46 sce46 mre46 are46 ale46) (fun ve47 sce47 mre47 are47 ale47 => some (sce47, mre47, are47, ale47))))) else none)))) else (if x_pr (mre21 4) = true then (o_b5 (xF_252 (mre21 4) (1 : Int32) ve21 sce21 mre21 are21 ale21) (fun ve49 sce49 mre49 are49 ale49 => some (sce49, mre49, are49, ale49))) else none)))))) else (o_b4 (g263 (x1 + (1 : Int32)) sc mr ar al) (fun sce50 mre50 are50 ale50 => xF_263_14 g263 oF x1 (0 : Int32) sce50 mre50 are50 ale50)))
set_option maxHeartbeats 4000000 in
theorem xt_263 {b : Bool} {rf : jRf} {d : Nat} {g263 : Int32 → jSc → (Nat → Nat) → jSc → jAl → Option (jSc × (Nat → Nat) × jSc × jAl)} (hg263 : xT_263 b rf g263 (d + 2)) : xT_263 b rf (xF_263 g263) (d + 3) := by
  intro  Post x1 sc mr ar al sc9 mr9 ar9 al9 h hP
  unfold xF_263 at h
  refine gl_entry (m := 3) rfl ?_
  show gL (gX b) 263 (d + 3) 0 [some (.ref 756), some (.int x1), none, none, none] [] sc (x_mk mr rf) ar al Post
  refine gl_iload_n (gX_LK b) y_263_0 rfl rfl ?_
  refine gl_iconst (gX_LK b) y_263_1 ci_2 rfl ?_
  refine gl_ic_ge (gX_LK b) y_263_2 rfl rfl (fun c19 => ?_) (fun c19 => ?_)
  · have h := (if_pos c19).symm.trans h
    refine gl_aload_n (gX_LK b) y_263_57 rfl rfl ?_
    obtain ⟨sce20, mre20, are20, ale20, e20, h⟩ := o_k4 h
    refine gl_callV (gX_LK b) y_263_58 ym_263_113 rfl rfl rfl ys_756 yx_273 rfl rfl ((xt_273 )  _  _ _ _ _ _ _ _ _ e20 ?_)
    refine gl_aload_n (gX_LK b) y_263_61 rfl rfl ?_
    refine gl_get (gX_LK b) y_263_62 yf_263_15 ys_756 rfl rfl rfl rfl ?_
    refine gl_istore_n (vs2 := [some (.ref 756), some (.int x1), some (.int (sce20 756 2)), none, none]) (gX_LK b) y_263_65 rfl rfl rfl rfl ?_
    refine gl_aload_n (gX_LK b) y_263_66 rfl rfl ?_
    obtain ⟨ve21, sce21, mre21, are21, ale21, e21, h⟩ := o_k5 h
    refine gl_callV (gX_LK b) y_263_67 ym_263_116 rfl rfl rfl ys_756 yx_268 rfl rfl ((xt_268 )  _  _ _ _ _ _ _ _ _ _ e21 ?_)
    refine gl_istore_n (vs2 := [some (.ref 756), some (.int x1), some (.int (sce20 756 2)), some (.int ve21), none]) (gX_LK b) y_263_70 rfl rfl rfl rfl ?_
    refine gl_iload_n (gX_LK b) y_263_71 rfl rfl ?_
    refine gl_if_lt (gX_LK b) y_263_72 rfl rfl (fun c22 => ?_) (fun c22 => ?_)
    · have h := (if_pos c22).symm.trans h
      refine gl_aload_n (gX_LK b) y_263_88 rfl rfl ?_
      refine gl_aload_n (gX_LK b) y_263_89 rfl rfl ?_
      refine gl_get (gX_LK b) y_263_90 yf_263_15 ys_756 rfl rfl rfl rfl ?_
      obtain ⟨ve23, sce23, mre23, are23, ale23, e23, h⟩ := o_k5 h
      refine gl_callV (gX_LK b) y_263_93 ym_263_170 rfl rfl rfl ys_756 yx_274 rfl rfl ((xt_274 )  _ _ _ _ _ _ _ _ _ _ _ e23 ?_)
      refine gl_if_eq (gX_LK b) y_263_96 rfl rfl (fun c24 => ?_) (fun c24 => ?_)
      · have h := (if_pos c24).symm.trans h
        refine gl_aload_n (gX_LK b) y_263_115 rfl rfl ?_
        refine gl_ldcS (i := 6) (gX_LK b) y_263_116 yk_263_173 yz_263_173 (by decide) rfl ?_
        obtain ⟨ve25, sce25, mre25, are25, ale25, e25, h⟩ := o_k5 h
        refine gl_callV (gX_LK b) y_263_118 ym_263_52 rfl rfl rfl ys_756 yx_269 rfl rfl ((xt_269 )  _ _ (by decide) _ _ _ _ _ _ _ _ _ e25 ?_)
        refine gl_if_eq (gX_LK b) y_263_121 rfl rfl (fun c26 => ?_) (fun c26 => ?_)
        · have h := (if_pos c26).symm.trans h
          refine gl_aload_n (gX_LK b) y_263_137 rfl rfl ?_
          refine gl_ldcS (i := 5) (gX_LK b) y_263_138 yk_263_175 yz_263_175 (by decide) rfl ?_
          obtain ⟨ve27, sce27, mre27, are27, ale27, e27, h⟩ := o_k5 h
          refine gl_callV (gX_LK b) y_263_140 ym_263_52 rfl rfl rfl ys_756 yx_269 rfl rfl ((xt_269 )  _ _ (by decide) _ _ _ _ _ _ _ _ _ e27 ?_)
          refine gl_if_eq (gX_LK b) y_263_143 rfl rfl (fun c28 => ?_) (fun c28 => ?_)
          · have h := (if_pos c28).symm.trans h
            refine gl_aload_n (gX_LK b) y_263_163 rfl rfl ?_
            refine gl_bipush (gX_LK b) y_263_164 cb_40 rfl ?_
            obtain ⟨ve29, sce29, mre29, are29, ale29, e29, h⟩ := o_k5 h
            refine gl_callV (gX_LK b) y_263_166 ym_263_94 rfl rfl rfl ys_756 yx_270 rfl rfl ((xt_270 )  _ _ _ _ _ _ _ _ _ _ _ e29 ?_)
            refine gl_if_eq (gX_LK b) y_263_169 rfl rfl (fun c30 => ?_) (fun c30 => ?_)
            · have h := (if_pos c30).symm.trans h
              refine gl_aload_n (gX_LK b) y_263_204 rfl rfl ?_
              refine gl_ldcS (i := 11) (gX_LK b) y_263_205 yk_263_177 yz_263_177 (by decide) rfl ?_
              obtain ⟨ve31, sce31, mre31, are31, ale31, e31, h⟩ := o_k5 h
              refine gl_callV (gX_LK b) y_263_207 ym_263_52 rfl rfl rfl ys_756 yx_269 rfl rfl ((xt_269 )  _ _ (by decide) _ _ _ _ _ _ _ _ _ e31 ?_)
              refine gl_istore (vs2 := [some (.ref 756), some (.int x1), some (.int (sce20 756 2)), some (.int ve21), some (.int ve31)]) (gX_LK b) y_263_210 rfl rfl rfl rfl ?_
              refine gl_iload (gX_LK b) y_263_212 rfl rfl ?_
              refine gl_if_ne (gX_LK b) y_263_214 rfl rfl (fun c32 => ?_) (fun c32 => ?_)
              · have h := (if_pos c32).symm.trans h
                refine gl_aload_n (gX_LK b) y_263_217 rfl rfl ?_
                refine gl_ldcS (i := 13) (gX_LK b) y_263_218 yk_263_179 yz_263_179 (by decide) rfl ?_
                obtain ⟨ve33, sce33, mre33, are33, ale33, e33, h⟩ := o_k5 h
                refine gl_callV (gX_LK b) y_263_220 ym_263_52 rfl rfl rfl ys_756 yx_269 rfl rfl ((xt_269 )  _ _ (by decide) _ _ _ _ _ _ _ _ _ e33 ?_)
                refine gl_if_ne (gX_LK b) y_263_223 rfl rfl (fun c34 => ?_) (fun c34 => ?_)
                · have h := (if_pos c34).symm.trans h
                  refine gl_aload_n (gX_LK b) y_263_226 rfl rfl ?_
                  refine gl_iconst (gX_LK b) y_263_227 ci_1 rfl ?_
                  refine gl_iload_n (gX_LK b) y_263_228 rfl rfl ?_
                  obtain ⟨sce35, mre35, are35, ale35, e35, h⟩ := o_k4 h
                  refine gl_callV (gX_LK b) y_263_229 ym_263_70 rfl rfl rfl ys_756 yx_276 rfl rfl ((xt_276 )  _ _ _ _ _ _ _ _ _ _ _ e35 ?_)
                  exact gl_return y_263_232 yt_263 (by cases h; exact hP)
                · have h := (if_neg c34).symm.trans h
                  exact gl_weak (vs := [some (.ref 756), none, none, none, some (.int ve31)]) ⟨rfl, rfl, trivial⟩ (xt_263_233  hg263 hP ve31 sce33 mre33 are33 ale33 h)
              · have h := (if_neg c32).symm.trans h
                exact gl_weak (vs := [some (.ref 756), none, none, none, some (.int ve31)]) ⟨rfl, rfl, trivial⟩ (xt_263_233  hg263 hP ve31 sce31 mre31 are31 ale31 h)
            · have h := (if_neg c30).symm.trans h
              refine gl_aload_n (gX_LK b) y_263_172 rfl rfl ?_
              refine gl_iload_n (gX_LK b) y_263_173 rfl rfl ?_
              obtain ⟨ve36, sce36, mre36, are36, ale36, e36, h⟩ := o_k5 h
              refine gl_callV (gX_LK b) y_263_174 ym_263_125 rfl rfl rfl ys_756 yx_265 rfl rfl ((xt_265 )  _ _ _ _ _ _ _ _ _ _ _ e36 ?_)
              refine gl_if_eq (gX_LK b) y_263_177 rfl rfl (fun c37 => ?_) (fun c37 => ?_)
              · have h := (if_pos c37).symm.trans h
                exact gl_return y_263_309 yt_263 (by cases h; exact hP)
              · have h := (if_neg c37).symm.trans h
                refine gl_aload_n (gX_LK b) y_263_180 rfl rfl ?_
                refine gl_iconst (gX_LK b) y_263_181 ci_0 rfl ?_
                obtain ⟨sce38, mre38, are38, ale38, e38, h⟩ := o_k4 h
                refine gl_callV (gX_LK b) y_263_182 ym_263_137 rfl rfl rfl ys_756 yx_263 rfl rfl (hg263  _ _ _ _ _ _ _ _ _ _ e38 ?_)
                refine gl_aload_n (gX_LK b) y_263_185 rfl rfl ?_
                refine gl_bipush (gX_LK b) y_263_186 cb_41 rfl ?_
                obtain ⟨sce39, mre39, are39, ale39, e39, h⟩ := o_k4 h
                refine gl_callV (gX_LK b) y_263_188 ym_263_80 rfl rfl rfl ys_756 yx_271 rfl rfl ((xt_271 )  _ _ _ _ _ _ _ _ _ _ e39 ?_)
                refine gl_aload_n (gX_LK b) y_263_191 rfl rfl ?_
                refine gl_dup (gX_LK b) y_263_192 rfl rfl ?_
                refine gl_get (gX_LK b) y_263_193 yf_263_18 ys_756 rfl rfl rfl rfl ?_
                refine gl_iconst (gX_LK b) y_263_196 ci_1 rfl ?_
                refine gl_isub (gX_LK b) y_263_197 rfl ?_
                refine gl_put (sc' := (j_u2 sce39 756 3 ((sce39 756 3) - (1 : Int32)))) (gX_LK b) y_263_198 yf_263_18 ys_756 rfl rfl rfl rfl rfl ?_
                refine gl_goto (gX_LK b) y_263_201 rfl ?_
                exact gl_return y_263_309 yt_263 (by cases h; exact hP)
          · have h := (if_neg c28).symm.trans h
            refine gl_aload_n (gX_LK b) y_263_146 rfl rfl ?_
            obtain ⟨c40, h⟩ := o_ck h
            refine gl_getA (gX_LK b) y_263_147 yf_263_31 ys_756 rfl rfl rfl rfl ?_
            refine gl_iconst (gX_LK b) y_263_150 ci_3 rfl ?_
            refine gl_aload_n (gX_LK b) y_263_151 rfl rfl ?_
            refine gl_iconst (gX_LK b) y_263_152 ci_4 rfl ?_
            obtain ⟨ve41, sce41, mre41, are41, ale41, e41, h⟩ := o_k5 h
            refine gl_callV (gX_LK b) y_263_153 ym_263_105 rfl rfl rfl ys_756 yx_266 rfl rfl ((xt_266 )  _ _ _ _ _ _ _ _ _ _ _ e41 ?_)
            obtain ⟨ve42, sce42, mre42, are42, ale42, e42, h⟩ := o_k5 h
            refine gl_callV (gX_LK b) y_263_156 ym_263_77 rfl rfl rfl (ys_pr c40) yx_252 rfl rfl ((xt_252 )  _ _ _ _ c40 _ _ _ _ _ _ _ _ _ e42 ?_)
            refine gl_pop (gX_LK b) y_263_159 rfl rfl ?_
            refine gl_goto (gX_LK b) y_263_160 rfl ?_
            exact gl_return y_263_309 yt_263 (by cases h; exact hP)
        · have h := (if_neg c26).symm.trans h
          refine gl_aload_n (gX_LK b) y_263_124 rfl rfl ?_
          obtain ⟨c43, h⟩ := o_ck h
          refine gl_getA (gX_LK b) y_263_125 yf_263_31 ys_756 rfl rfl rfl rfl ?_
          refine gl_iconst (gX_LK b) y_263_128 ci_2 rfl ?_
          refine gl_iconst (gX_LK b) y_263_129 ci_0 rfl ?_
          obtain ⟨ve44, sce44, mre44, are44, ale44, e44, h⟩ := o_k5 h
          refine gl_callV (gX_LK b) y_263_130 ym_263_77 rfl rfl rfl (ys_pr c43) yx_252 rfl rfl ((xt_252 )  _ _ _ _ c43 _ _ _ _ _ _ _ _ _ e44 ?_)
          refine gl_pop (gX_LK b) y_263_133 rfl rfl ?_
          refine gl_goto (gX_LK b) y_263_134 rfl ?_
          exact gl_return y_263_309 yt_263 (by cases h; exact hP)
      · have h := (if_neg c24).symm.trans h
        refine gl_aload_n (gX_LK b) y_263_99 rfl rfl ?_
        obtain ⟨c45, h⟩ := o_ck h
        refine gl_getA (gX_LK b) y_263_100 yf_263_31 ys_756 rfl rfl rfl rfl ?_
        refine gl_iconst (gX_LK b) y_263_103 ci_0 rfl ?_
        refine gl_aload_n (gX_LK b) y_263_104 rfl rfl ?_
        obtain ⟨ve46, sce46, mre46, are46, ale46, e46, h⟩ := o_k5 h
        refine gl_callV (gX_LK b) y_263_105 ym_263_134 rfl rfl rfl ys_756 yx_267 rfl rfl ((xt_267 )  _  _ _ _ _ _ _ _ _ _ e46 ?_)
        obtain ⟨ve47, sce47, mre47, are47, ale47, e47, h⟩ := o_k5 h
        refine gl_callV (gX_LK b) y_263_108 ym_263_77 rfl rfl rfl (ys_pr c45) yx_252 rfl rfl ((xt_252 )  _ _ _ _ c45 _ _ _ _ _ _ _ _ _ e47 ?_)
        refine gl_pop (gX_LK b) y_263_111 rfl rfl ?_
        refine gl_goto (gX_LK b) y_263_112 rfl ?_
        exact gl_return y_263_309 yt_263 (by cases h; exact hP)
    · have h := (if_neg c22).symm.trans h
      refine gl_aload_n (gX_LK b) y_263_75 rfl rfl ?_
      obtain ⟨c48, h⟩ := o_ck h
      refine gl_getA (gX_LK b) y_263_76 yf_263_31 ys_756 rfl rfl rfl rfl ?_
      refine gl_iconst (gX_LK b) y_263_79 ci_1 rfl ?_
      refine gl_iload_n (gX_LK b) y_263_80 rfl rfl ?_
      obtain ⟨ve49, sce49, mre49, are49, ale49, e49, h⟩ := o_k5 h
      refine gl_callV (gX_LK b) y_263_81 ym_263_77 rfl rfl rfl (ys_pr c48) yx_252 rfl rfl ((xt_252 )  _ _ _ _ c48 _ _ _ _ _ _ _ _ _ e49 ?_)
      refine gl_pop (gX_LK b) y_263_84 rfl rfl ?_
      refine gl_goto (gX_LK b) y_263_85 rfl ?_
      exact gl_return y_263_309 yt_263 (by cases h; exact hP)
  · have h := (if_neg c19).symm.trans h
    refine gl_aload_n (gX_LK b) y_263_5 rfl rfl ?_
    refine gl_iload_n (gX_LK b) y_263_6 rfl rfl ?_
    refine gl_iconst (gX_LK b) y_263_7 ci_1 rfl ?_
    refine gl_iadd (gX_LK b) y_263_8 rfl ?_
    obtain ⟨sce50, mre50, are50, ale50, e50, h⟩ := o_k4 h
    refine gl_callV (gX_LK b) y_263_9 ym_263_137 rfl rfl rfl ys_756 yx_263 rfl rfl (hg263  _ _ _ _ _ _ _ _ _ _ e50 ?_)
    refine gl_iconst (gX_LK b) y_263_12 ci_0 rfl ?_
    refine gl_istore_n (vs2 := [some (.ref 756), some (.int x1), some (.int (0 : Int32)), none, none]) (gX_LK b) y_263_13 rfl rfl rfl rfl ?_
    exact gl_weak (vs := [some (.ref 756), some (.int x1), some (.int (0 : Int32)), none, none]) ⟨rfl, rfl, rfl, trivial⟩ (xt_263_14  hg263 hP oF x1 (0 : Int32) sce50 mre50 are50 ale50 h)
def xG_263 : Nat → (Int32 → jSc → (Nat → Nat) → jSc → jAl → Option (jSc × (Nat → Nat) × jSc × jAl))
  | 0 => (fun _ _ _ _ _ => none)
  | n + 1 => (xF_263 (xG_263 n))
theorem xtG_263 {b : Bool} {rf : jRf} {d : Nat} : ∀ n : Nat, xT_263 b rf (xG_263 n) (d + n + 2) := by
  intro n
  induction n with
  | zero =>
    · intro  Post x1 sc mr ar al sc9 mr9 ar9 al9 h hP
      cases (show (none : Option (jSc × (Nat → Nat) × jSc × jAl)) = some _ from h)
  | succ n ih =>
    have e : d + n + 2 + 1 = d + (n + 1) + 2 := by omega
    rw [← e]
    exact xt_263  (d := d + n) ih
/-- ClickOrders$Reader.truth(I)V -/
def xT_261 (b : Bool) (rf : jRf) (F : Int32 → jSc → (Nat → Nat) → jSc → jAl → Option (jSc × (Nat → Nat) × jSc × jAl)) (e : Nat) : Prop := ∀  (Post : jPo) (x1 : Int32) (sc : jSc) (mr : (Nat → Nat)) (ar : jSc) (al : jAl) (sc9 : jSc) (mr9 : (Nat → Nat)) (ar9 : jSc) (al9 : jAl), F x1 sc mr ar al = some (sc9, mr9, ar9, al9) → Post none sc9 (x_mk mr9 rf) ar9 al9 → gW (gX b) 261 e 0 (j_av [.ref 756, .int x1]) [] sc (x_mk mr rf) ar al Post
def xF_261_26 (g261 : Int32 → jSc → (Nat → Nat) → jSc → jAl → Option (jSc × (Nat → Nat) × jSc × jAl)) : Nat → Int32 → Nat → Int32 → jSc → (Nat → Nat) → jSc → jAl → Option (jSc × (Nat → Nat) × jSc × jAl)
  | 0, _, _, _, _, _, _, _ => none
  | nn + 1, x1, p2, x3, sc, mr, ar, al => (if (sc 756 1) ≤ x3 then some (sc, mr, ar, al) else (o_b5 (xF_269 p2 sc mr ar al) (fun ve2 sce2 mre2 are2 ale2 => (if ve2 = 0 then some (sce2, mre2, are2, ale2) else (o_b4 (g261 (x1 + (1 : Int32)) sce2 mre2 are2 ale2) (fun sce4 mre4 are4 ale4 => (if x_pr (mre4 4) = true then (if x1 = 0 then (o_b5 (xF_252 (mre4 4) (15 : Int32) (0 : Int32) sce4 mre4 are4 ale4) (fun ve7 sce7 mre7 are7 ale7 => xF_261_26 g261 nn x1 p2 (x3 + (1 : Int32)) sce7 mre7 are7 ale7)) else (o_b5 (xF_252 (mre4 4) (14 : Int32) (0 : Int32) sce4 mre4 are4 ale4) (fun ve8 sce8 mre8 are8 ale8 => xF_261_26 g261 nn x1 p2 (x3 + (1 : Int32)) sce8 mre8 are8 ale8))) else none)))))))
set_option maxHeartbeats 4000000 in
theorem xt_261_26 {b : Bool} {rf : jRf} {d : Nat} {g261 : Int32 → jSc → (Nat → Nat) → jSc → jAl → Option (jSc × (Nat → Nat) × jSc × jAl)} (hg261 : xT_261 b rf g261 (d + 42)) {Post : jPo} {sc9 : jSc} {mr9 : (Nat → Nat)} {ar9 : jSc} {al9 : jAl} (hP : Post none sc9 (x_mk mr9 rf) ar9 al9) : ∀ (nn : Nat) (x1 : Int32) (p2 : Nat) (x3 : Int32) (sc : jSc) (mr : (Nat → Nat)) (ar : jSc) (al : jAl), p2 < 23 → xF_261_26 g261 nn x1 p2 x3 sc mr ar al = some (sc9, mr9, ar9, al9) → gL (gX b) 261 (d + 43) 26 [some (.ref 756), some (.int x1), some (.ref (900 + p2)), some (.int x3)] [] sc (x_mk mr rf) ar al Post := by
  intro nn
  induction nn with
  | zero =>
    intro x1 p2 x3 sc mr ar al hp2 h
    have h : (none : Option (jSc × (Nat → Nat) × jSc × jAl)) = some _ := h
    cases h
  | succ nn ih =>
    intro x1 p2 x3 sc mr ar al hp2 h
    unfold xF_261_26 at h
    refine gl_iload_n (gX_LK b) y_261_26 rfl rfl ?_
    refine gl_aload_n (gX_LK b) y_261_27 rfl rfl ?_
    refine gl_get (gX_LK b) y_261_28 yf_261_9 ys_756 rfl rfl rfl rfl ?_
    refine gl_ic_ge (gX_LK b) y_261_31 rfl rfl (fun c1 => ?_) (fun c1 => ?_)
    · have h := (if_pos c1).symm.trans h
      exact gl_return y_261_75 yt_261 (by cases h; exact hP)
    · have h := (if_neg c1).symm.trans h
      refine gl_aload_n (gX_LK b) y_261_34 rfl rfl ?_
      refine gl_aload_n (gX_LK b) y_261_35 rfl rfl ?_
      obtain ⟨ve2, sce2, mre2, are2, ale2, e2, h⟩ := o_k5 h
      refine gl_callV (gX_LK b) y_261_36 ym_261_52 rfl rfl rfl ys_756 yx_269 rfl rfl ((xt_269 )  _ _ hp2 _ _ _ _ _ _ _ _ _ e2 ?_)
      refine gl_if_eq (gX_LK b) y_261_39 rfl rfl (fun c3 => ?_) (fun c3 => ?_)
      · have h := (if_pos c3).symm.trans h
        exact gl_return y_261_75 yt_261 (by cases h; exact hP)
      · have h := (if_neg c3).symm.trans h
        refine gl_aload_n (gX_LK b) y_261_42 rfl rfl ?_
        refine gl_iload_n (gX_LK b) y_261_43 rfl rfl ?_
        refine gl_iconst (gX_LK b) y_261_44 ci_1 rfl ?_
        refine gl_iadd (gX_LK b) y_261_45 rfl ?_
        obtain ⟨sce4, mre4, are4, ale4, e4, h⟩ := o_k4 h
        refine gl_callV (gX_LK b) y_261_46 ym_261_74 rfl rfl rfl ys_756 yx_261 rfl rfl (hg261  _ _ _ _ _ _ _ _ _ _ e4 ?_)
        refine gl_aload_n (gX_LK b) y_261_49 rfl rfl ?_
        obtain ⟨c5, h⟩ := o_ck h
        refine gl_getA (gX_LK b) y_261_50 yf_261_31 ys_756 rfl rfl rfl rfl ?_
        refine gl_iload_n (gX_LK b) y_261_53 rfl rfl ?_
        refine gl_if_ne (gX_LK b) y_261_54 rfl rfl (fun c6 => ?_) (fun c6 => ?_)
        · have h := (if_pos c6).symm.trans h
          refine gl_bipush (gX_LK b) y_261_57 cb_15 rfl ?_
          refine gl_goto (gX_LK b) y_261_59 rfl ?_
          refine gl_iconst (gX_LK b) y_261_64 ci_0 rfl ?_
          obtain ⟨ve7, sce7, mre7, are7, ale7, e7, h⟩ := o_k5 h
          refine gl_callV (gX_LK b) y_261_65 ym_261_77 rfl rfl rfl (ys_pr c5) yx_252 rfl rfl ((xt_252 )  _ _ _ _ c5 _ _ _ _ _ _ _ _ _ e7 ?_)
          refine gl_pop (gX_LK b) y_261_68 rfl rfl ?_
          refine gl_iinc (vs2 := [some (.ref 756), some (.int x1), some (.ref (900 + p2)), some (.int (x3 + (1 : Int32)))]) (gX_LK b) y_261_69 rfl rfl rfl ci_1 rfl rfl ?_
          refine gl_goto (gX_LK b) y_261_72 rfl ?_
          exact gl_weak (vs := [some (.ref 756), some (.int x1), some (.ref (900 + p2)), some (.int (x3 + (1 : Int32)))]) ⟨rfl, rfl, rfl, rfl, trivial⟩ (ih x1 p2 (x3 + (1 : Int32)) sce7 mre7 are7 ale7 hp2 h)
        · have h := (if_neg c6).symm.trans h
          refine gl_bipush (gX_LK b) y_261_62 cb_14 rfl ?_
          refine gl_iconst (gX_LK b) y_261_64 ci_0 rfl ?_
          obtain ⟨ve8, sce8, mre8, are8, ale8, e8, h⟩ := o_k5 h
          refine gl_callV (gX_LK b) y_261_65 ym_261_77 rfl rfl rfl (ys_pr c5) yx_252 rfl rfl ((xt_252 )  _ _ _ _ c5 _ _ _ _ _ _ _ _ _ e8 ?_)
          refine gl_pop (gX_LK b) y_261_68 rfl rfl ?_
          refine gl_iinc (vs2 := [some (.ref 756), some (.int x1), some (.ref (900 + p2)), some (.int (x3 + (1 : Int32)))]) (gX_LK b) y_261_69 rfl rfl rfl ci_1 rfl rfl ?_
          refine gl_goto (gX_LK b) y_261_72 rfl ?_
          exact gl_weak (vs := [some (.ref 756), some (.int x1), some (.ref (900 + p2)), some (.int (x3 + (1 : Int32)))]) ⟨rfl, rfl, rfl, rfl, trivial⟩ (ih x1 p2 (x3 + (1 : Int32)) sce8 mre8 are8 ale8 hp2 h)
def xF_261 (g261 : Int32 → jSc → (Nat → Nat) → jSc → jAl → Option (jSc × (Nat → Nat) × jSc × jAl)) (x1 : Int32) (sc : jSc) (mr : (Nat → Nat)) (ar : jSc) (al : jAl) : Option (jSc × (Nat → Nat) × jSc × jAl) :=
  (if (2 : Int32) ≤ x1 then (o_b4 (xF_273 sc mr ar al) (fun sce10 mre10 are10 ale10 => (o_b5 (xF_269 14 sce10 mre10 are10 ale10) (fun ve11 sce11 mre11 are11 ale11 => (if ve11 = 0 then (o_b5 (xF_270 (91 : Int32) sce11 mre11 are11 ale11) (fun ve13 sce13 mre13 are13 ale13 => (if ve13 = 0 then (o_b4 ((xG_263 40) (0 : Int32) sce13 mre13 are13 ale13) (fun sce15 mre15 are15 ale15 => (o_b5 (xF_262 sce15 mre15 are15 ale15) (fun ve16 sce16 mre16 are16 ale16 => (o_b4 ((xG_263 40) (0 : Int32) sce16 mre16 are16 ale16) (fun sce17 mre17 are17 ale17 => (if x_pr (mre17 4) = true then (o_b5 (xF_252 (mre17 4) ve16 (0 : Int32) sce17 mre17 are17 ale17) (fun ve19 sce19 mre19 are19 ale19 => some (sce19, mre19, are19, ale19))) else none))))))) else (o_b5 (xF_265 (sce10 756 2) sce13 mre13 are13 ale13) (fun ve20 sce20 mre20 are20 ale20 => (if ve20 = 0 then some (sce20, mre20, are20, ale20) else (o_b4 (g261 (0 : Int32) sce20 mre20 are20 ale20) (fun sce22 mre22 are22 ale22 => (o_b4 (xF_271 (93 : Int32) sce22 mre22 are22 ale22) (fun sce23 mre23 are23 ale23 => some ((j_u2 sce23 756 3 ((sce23 756 3) - (1 : Int32))), mre23, are23, ale23))))))))))) else (o_b5 (xF_265 (sce10 756 2) sce11 mre11 are11 ale11) (fun ve24 sce24 mre24 are24 ale24 => (if ve24 = 0 then some (sce24, mre24, are24, ale24) else (o_b4 (g261 (2 : Int32) sce24 mre24 are24 ale24) (fun sce26 mre26 are26 ale26 => (if x_pr (mre26 4) = true then (o_b5 (xF_252 (mre26 4) (4 : Int32) (0 : Int32) sce26 mre26 are26 ale26) (fun ve28 sce28 mre28 are28 ale28 => some ((j_u2 sce28 756 3 ((sce28 756 3) - (1 : Int32))), mre28, are28, ale28))) else none))))))))))) else (o_b4 (g261 (x1 + (1 : Int32)) sc mr ar al) (fun sce29 mre29 are29 ale29 => (if x1 = 0 then xF_261_26 g261 oF x1 16 (0 : Int32) sce29 mre29 are29 ale29 else xF_261_26 g261 oF x1 0 (0 : Int32) sce29 mre29 are29 ale29))))
set_option maxHeartbeats 4000000 in
theorem xt_261 {b : Bool} {rf : jRf} {d : Nat} {g261 : Int32 → jSc → (Nat → Nat) → jSc → jAl → Option (jSc × (Nat → Nat) × jSc × jAl)} (hg261 : xT_261 b rf g261 (d + 42)) : xT_261 b rf (xF_261 g261) (d + 43) := by
  intro  Post x1 sc mr ar al sc9 mr9 ar9 al9 h hP
  unfold xF_261 at h
  refine gl_entry (m := 2) rfl ?_
  show gL (gX b) 261 (d + 43) 0 [some (.ref 756), some (.int x1), none, none] [] sc (x_mk mr rf) ar al Post
  refine gl_iload_n (gX_LK b) y_261_0 rfl rfl ?_
  refine gl_iconst (gX_LK b) y_261_1 ci_2 rfl ?_
  refine gl_ic_ge (gX_LK b) y_261_2 rfl rfl (fun c9 => ?_) (fun c9 => ?_)
  · have h := (if_pos c9).symm.trans h
    refine gl_aload_n (gX_LK b) y_261_76 rfl rfl ?_
    obtain ⟨sce10, mre10, are10, ale10, e10, h⟩ := o_k4 h
    refine gl_callV (gX_LK b) y_261_77 ym_261_113 rfl rfl rfl ys_756 yx_273 rfl rfl ((xt_273 )  _  _ _ _ _ _ _ _ _ e10 ?_)
    refine gl_aload_n (gX_LK b) y_261_80 rfl rfl ?_
    refine gl_get (gX_LK b) y_261_81 yf_261_15 ys_756 rfl rfl rfl rfl ?_
    refine gl_istore_n (vs2 := [some (.ref 756), some (.int x1), some (.int (sce10 756 2)), none]) (gX_LK b) y_261_84 rfl rfl rfl rfl ?_
    refine gl_aload_n (gX_LK b) y_261_85 rfl rfl ?_
    refine gl_ldcS (i := 14) (gX_LK b) y_261_86 yk_261_162 yz_261_162 (by decide) rfl ?_
    obtain ⟨ve11, sce11, mre11, are11, ale11, e11, h⟩ := o_k5 h
    refine gl_callV (gX_LK b) y_261_88 ym_261_52 rfl rfl rfl ys_756 yx_269 rfl rfl ((xt_269 )  _ _ (by decide) _ _ _ _ _ _ _ _ _ e11 ?_)
    refine gl_if_eq (gX_LK b) y_261_91 rfl rfl (fun c12 => ?_) (fun c12 => ?_)
    · have h := (if_pos c12).symm.trans h
      refine gl_aload_n (gX_LK b) y_261_128 rfl rfl ?_
      refine gl_bipush (gX_LK b) y_261_129 cb_91 rfl ?_
      obtain ⟨ve13, sce13, mre13, are13, ale13, e13, h⟩ := o_k5 h
      refine gl_callV (gX_LK b) y_261_131 ym_261_94 rfl rfl rfl ys_756 yx_270 rfl rfl ((xt_270 )  _ _ _ _ _ _ _ _ _ _ _ e13 ?_)
      refine gl_if_eq (gX_LK b) y_261_134 rfl rfl (fun c14 => ?_) (fun c14 => ?_)
      · have h := (if_pos c14).symm.trans h
        refine gl_aload_n (gX_LK b) y_261_167 rfl rfl ?_
        refine gl_iconst (gX_LK b) y_261_168 ci_0 rfl ?_
        obtain ⟨sce15, mre15, are15, ale15, e15, h⟩ := o_k4 h
        refine gl_callV (gX_LK b) y_261_169 ym_261_137 rfl rfl rfl ys_756 yx_263 rfl rfl (((xtG_263  40))  _ _ _ _ _ _ _ _ _ _ e15 ?_)
        refine gl_aload_n (gX_LK b) y_261_172 rfl rfl ?_
        obtain ⟨ve16, sce16, mre16, are16, ale16, e16, h⟩ := o_k5 h
        refine gl_callV (gX_LK b) y_261_173 ym_261_164 rfl rfl rfl ys_756 yx_262 rfl rfl ((xt_262 )  _  _ _ _ _ _ _ _ _ _ e16 ?_)
        refine gl_istore_n (vs2 := [some (.ref 756), some (.int x1), some (.int (sce10 756 2)), some (.int ve16)]) (gX_LK b) y_261_176 rfl rfl rfl rfl ?_
        refine gl_aload_n (gX_LK b) y_261_177 rfl rfl ?_
        refine gl_iconst (gX_LK b) y_261_178 ci_0 rfl ?_
        obtain ⟨sce17, mre17, are17, ale17, e17, h⟩ := o_k4 h
        refine gl_callV (gX_LK b) y_261_179 ym_261_137 rfl rfl rfl ys_756 yx_263 rfl rfl (((xtG_263  40))  _ _ _ _ _ _ _ _ _ _ e17 ?_)
        refine gl_aload_n (gX_LK b) y_261_182 rfl rfl ?_
        obtain ⟨c18, h⟩ := o_ck h
        refine gl_getA (gX_LK b) y_261_183 yf_261_31 ys_756 rfl rfl rfl rfl ?_
        refine gl_iload_n (gX_LK b) y_261_186 rfl rfl ?_
        refine gl_iconst (gX_LK b) y_261_187 ci_0 rfl ?_
        obtain ⟨ve19, sce19, mre19, are19, ale19, e19, h⟩ := o_k5 h
        refine gl_callV (gX_LK b) y_261_188 ym_261_77 rfl rfl rfl (ys_pr c18) yx_252 rfl rfl ((xt_252 )  _ _ _ _ c18 _ _ _ _ _ _ _ _ _ e19 ?_)
        refine gl_pop (gX_LK b) y_261_191 rfl rfl ?_
        exact gl_return y_261_192 yt_261 (by cases h; exact hP)
      · have h := (if_neg c14).symm.trans h
        refine gl_aload_n (gX_LK b) y_261_137 rfl rfl ?_
        refine gl_iload_n (gX_LK b) y_261_138 rfl rfl ?_
        obtain ⟨ve20, sce20, mre20, are20, ale20, e20, h⟩ := o_k5 h
        refine gl_callV (gX_LK b) y_261_139 ym_261_125 rfl rfl rfl ys_756 yx_265 rfl rfl ((xt_265 )  _ _ _ _ _ _ _ _ _ _ _ e20 ?_)
        refine gl_if_eq (gX_LK b) y_261_142 rfl rfl (fun c21 => ?_) (fun c21 => ?_)
        · have h := (if_pos c21).symm.trans h
          exact gl_return y_261_166 yt_261 (by cases h; exact hP)
        · have h := (if_neg c21).symm.trans h
          refine gl_aload_n (gX_LK b) y_261_145 rfl rfl ?_
          refine gl_iconst (gX_LK b) y_261_146 ci_0 rfl ?_
          obtain ⟨sce22, mre22, are22, ale22, e22, h⟩ := o_k4 h
          refine gl_callV (gX_LK b) y_261_147 ym_261_74 rfl rfl rfl ys_756 yx_261 rfl rfl (hg261  _ _ _ _ _ _ _ _ _ _ e22 ?_)
          refine gl_aload_n (gX_LK b) y_261_150 rfl rfl ?_
          refine gl_bipush (gX_LK b) y_261_151 cb_93 rfl ?_
          obtain ⟨sce23, mre23, are23, ale23, e23, h⟩ := o_k4 h
          refine gl_callV (gX_LK b) y_261_153 ym_261_80 rfl rfl rfl ys_756 yx_271 rfl rfl ((xt_271 )  _ _ _ _ _ _ _ _ _ _ e23 ?_)
          refine gl_aload_n (gX_LK b) y_261_156 rfl rfl ?_
          refine gl_dup (gX_LK b) y_261_157 rfl rfl ?_
          refine gl_get (gX_LK b) y_261_158 yf_261_18 ys_756 rfl rfl rfl rfl ?_
          refine gl_iconst (gX_LK b) y_261_161 ci_1 rfl ?_
          refine gl_isub (gX_LK b) y_261_162 rfl ?_
          refine gl_put (sc' := (j_u2 sce23 756 3 ((sce23 756 3) - (1 : Int32)))) (gX_LK b) y_261_163 yf_261_18 ys_756 rfl rfl rfl rfl rfl ?_
          exact gl_return y_261_166 yt_261 (by cases h; exact hP)
    · have h := (if_neg c12).symm.trans h
      refine gl_aload_n (gX_LK b) y_261_94 rfl rfl ?_
      refine gl_iload_n (gX_LK b) y_261_95 rfl rfl ?_
      obtain ⟨ve24, sce24, mre24, are24, ale24, e24, h⟩ := o_k5 h
      refine gl_callV (gX_LK b) y_261_96 ym_261_125 rfl rfl rfl ys_756 yx_265 rfl rfl ((xt_265 )  _ _ _ _ _ _ _ _ _ _ _ e24 ?_)
      refine gl_if_eq (gX_LK b) y_261_99 rfl rfl (fun c25 => ?_) (fun c25 => ?_)
      · have h := (if_pos c25).symm.trans h
        exact gl_return y_261_127 yt_261 (by cases h; exact hP)
      · have h := (if_neg c25).symm.trans h
        refine gl_aload_n (gX_LK b) y_261_102 rfl rfl ?_
        refine gl_iconst (gX_LK b) y_261_103 ci_2 rfl ?_
        obtain ⟨sce26, mre26, are26, ale26, e26, h⟩ := o_k4 h
        refine gl_callV (gX_LK b) y_261_104 ym_261_74 rfl rfl rfl ys_756 yx_261 rfl rfl (hg261  _ _ _ _ _ _ _ _ _ _ e26 ?_)
        refine gl_aload_n (gX_LK b) y_261_107 rfl rfl ?_
        obtain ⟨c27, h⟩ := o_ck h
        refine gl_getA (gX_LK b) y_261_108 yf_261_31 ys_756 rfl rfl rfl rfl ?_
        refine gl_iconst (gX_LK b) y_261_111 ci_4 rfl ?_
        refine gl_iconst (gX_LK b) y_261_112 ci_0 rfl ?_
        obtain ⟨ve28, sce28, mre28, are28, ale28, e28, h⟩ := o_k5 h
        refine gl_callV (gX_LK b) y_261_113 ym_261_77 rfl rfl rfl (ys_pr c27) yx_252 rfl rfl ((xt_252 )  _ _ _ _ c27 _ _ _ _ _ _ _ _ _ e28 ?_)
        refine gl_pop (gX_LK b) y_261_116 rfl rfl ?_
        refine gl_aload_n (gX_LK b) y_261_117 rfl rfl ?_
        refine gl_dup (gX_LK b) y_261_118 rfl rfl ?_
        refine gl_get (gX_LK b) y_261_119 yf_261_18 ys_756 rfl rfl rfl rfl ?_
        refine gl_iconst (gX_LK b) y_261_122 ci_1 rfl ?_
        refine gl_isub (gX_LK b) y_261_123 rfl ?_
        refine gl_put (sc' := (j_u2 sce28 756 3 ((sce28 756 3) - (1 : Int32)))) (gX_LK b) y_261_124 yf_261_18 ys_756 rfl rfl rfl rfl rfl ?_
        exact gl_return y_261_127 yt_261 (by cases h; exact hP)
  · have h := (if_neg c9).symm.trans h
    refine gl_aload_n (gX_LK b) y_261_5 rfl rfl ?_
    refine gl_iload_n (gX_LK b) y_261_6 rfl rfl ?_
    refine gl_iconst (gX_LK b) y_261_7 ci_1 rfl ?_
    refine gl_iadd (gX_LK b) y_261_8 rfl ?_
    obtain ⟨sce29, mre29, are29, ale29, e29, h⟩ := o_k4 h
    refine gl_callV (gX_LK b) y_261_9 ym_261_74 rfl rfl rfl ys_756 yx_261 rfl rfl (hg261  _ _ _ _ _ _ _ _ _ _ e29 ?_)
    refine gl_iload_n (gX_LK b) y_261_12 rfl rfl ?_
    refine gl_if_ne (gX_LK b) y_261_13 rfl rfl (fun c30 => ?_) (fun c30 => ?_)
    · have h := (if_pos c30).symm.trans h
      refine gl_ldcS (i := 16) (gX_LK b) y_261_16 yk_261_158 yz_261_158 (by decide) rfl ?_
      refine gl_goto (gX_LK b) y_261_18 rfl ?_
      refine gl_astore_n (vs2 := [some (.ref 756), some (.int x1), some (.ref (900 + 16)), none]) (gX_LK b) y_261_23 rfl rfl rfl rfl ?_
      refine gl_iconst (gX_LK b) y_261_24 ci_0 rfl ?_
      refine gl_istore_n (vs2 := [some (.ref 756), some (.int x1), some (.ref (900 + 16)), some (.int (0 : Int32))]) (gX_LK b) y_261_25 rfl rfl rfl rfl ?_
      exact gl_weak (vs := [some (.ref 756), some (.int x1), some (.ref (900 + 16)), some (.int (0 : Int32))]) ⟨rfl, rfl, rfl, rfl, trivial⟩ (xt_261_26  hg261 hP oF x1 16 (0 : Int32) sce29 mre29 are29 ale29 (by decide) h)
    · have h := (if_neg c30).symm.trans h
      refine gl_ldcS (i := 0) (gX_LK b) y_261_21 yk_261_160 yz_261_160 (by decide) rfl ?_
      refine gl_astore_n (vs2 := [some (.ref 756), some (.int x1), some (.ref (900 + 0)), none]) (gX_LK b) y_261_23 rfl rfl rfl rfl ?_
      refine gl_iconst (gX_LK b) y_261_24 ci_0 rfl ?_
      refine gl_istore_n (vs2 := [some (.ref 756), some (.int x1), some (.ref (900 + 0)), some (.int (0 : Int32))]) (gX_LK b) y_261_25 rfl rfl rfl rfl ?_
      exact gl_weak (vs := [some (.ref 756), some (.int x1), some (.ref (900 + 0)), some (.int (0 : Int32))]) ⟨rfl, rfl, rfl, rfl, trivial⟩ (xt_261_26  hg261 hP oF x1 0 (0 : Int32) sce29 mre29 are29 ale29 (by decide) h)
def xG_261 : Nat → (Int32 → jSc → (Nat → Nat) → jSc → jAl → Option (jSc × (Nat → Nat) × jSc × jAl))
  | 0 => (fun _ _ _ _ _ => none)
  | n + 1 => (xF_261 (xG_261 n))
theorem xtG_261 {b : Bool} {rf : jRf} {d : Nat} : ∀ n : Nat, xT_261 b rf (xG_261 n) (d + n + 42) := by
  intro n
  induction n with
  | zero =>
    · intro  Post x1 sc mr ar al sc9 mr9 ar9 al9 h hP
      cases (show (none : Option (jSc × (Nat → Nat) × jSc × jAl)) = some _ from h)
  | succ n ih =>
    have e : d + n + 42 + 1 = d + (n + 1) + 42 := by omega
    rw [← e]
    exact xt_261  (d := d + n) ih
/-- ClickOrders$Reader.finishes()V -/
def xT_256 (b : Bool) (rf : jRf) (F : jSc → (Nat → Nat) → jSc → jAl → Option (jSc × (Nat → Nat) × jSc × jAl)) (e : Nat) : Prop := ∀  (Post : jPo) (sc : jSc) (mr : (Nat → Nat)) (ar : jSc) (al : jAl) (sc9 : jSc) (mr9 : (Nat → Nat)) (ar9 : jSc) (al9 : jAl), F sc mr ar al = some (sc9, mr9, ar9, al9) → Post none sc9 (x_mk mr9 rf) ar9 al9 → gW (gX b) 256 e 0 (j_av [.ref 756]) [] sc (x_mk mr rf) ar al Post
def xF_256 (sc : jSc) (mr : (Nat → Nat)) (ar : jSc) (al : jAl) : Option (jSc × (Nat → Nat) × jSc × jAl) :=
  (o_b4 ((xG_261 40) (0 : Int32) sc mr ar al) (fun sce1 mre1 are1 ale1 => (if x_pr (mre1 4) = true then (o_b5 (xF_252 (mre1 4) (16 : Int32) (0 : Int32) sce1 mre1 are1 ale1) (fun ve3 sce3 mre3 are3 ale3 => (o_b4 (xF_271 (59 : Int32) sce3 mre3 are3 ale3) (fun sce4 mre4 are4 ale4 => some (sce4, mre4, are4, ale4))))) else none)))
set_option maxHeartbeats 4000000 in
theorem xt_256 {b : Bool} {rf : jRf} {d : Nat} : xT_256 b rf xF_256 (d + 83) := by
  intro  Post  sc mr ar al sc9 mr9 ar9 al9 h hP
  unfold xF_256 at h
  refine gl_entry (m := 0) rfl ?_
  show gL (gX b) 256 (d + 83) 0 [some (.ref 756)] [] sc (x_mk mr rf) ar al Post
  refine gl_aload_n (gX_LK b) y_256_0 rfl rfl ?_
  refine gl_iconst (gX_LK b) y_256_1 ci_0 rfl ?_
  obtain ⟨sce1, mre1, are1, ale1, e1, h⟩ := o_k4 h
  refine gl_callV (gX_LK b) y_256_2 ym_256_74 rfl rfl rfl ys_756 yx_261 rfl rfl (((xtG_261  40))  _ _ _ _ _ _ _ _ _ _ e1 ?_)
  refine gl_aload_n (gX_LK b) y_256_5 rfl rfl ?_
  obtain ⟨c2, h⟩ := o_ck h
  refine gl_getA (gX_LK b) y_256_6 yf_256_31 ys_756 rfl rfl rfl rfl ?_
  refine gl_bipush (gX_LK b) y_256_9 cb_16 rfl ?_
  refine gl_iconst (gX_LK b) y_256_11 ci_0 rfl ?_
  obtain ⟨ve3, sce3, mre3, are3, ale3, e3, h⟩ := o_k5 h
  refine gl_callV (gX_LK b) y_256_12 ym_256_77 rfl rfl rfl (ys_pr c2) yx_252 rfl rfl ((xt_252 )  _ _ _ _ c2 _ _ _ _ _ _ _ _ _ e3 ?_)
  refine gl_pop (gX_LK b) y_256_15 rfl rfl ?_
  refine gl_aload_n (gX_LK b) y_256_16 rfl rfl ?_
  refine gl_bipush (gX_LK b) y_256_17 cb_59 rfl ?_
  obtain ⟨sce4, mre4, are4, ale4, e4, h⟩ := o_k4 h
  refine gl_callV (gX_LK b) y_256_19 ym_256_80 rfl rfl rfl ys_756 yx_271 rfl rfl ((xt_271 )  _ _ _ _ _ _ _ _ _ _ e4 ?_)
  exact gl_return y_256_22 yt_256 (by cases h; exact hP)
/-- ClickOrders$Reader.event()I -/
def xT_258 (b : Bool) (rf : jRf) (F : jSc → (Nat → Nat) → jSc → jAl → Option (Int32 × jSc × (Nat → Nat) × jSc × jAl)) (e : Nat) : Prop := ∀  (Post : jPo) (sc : jSc) (mr : (Nat → Nat)) (ar : jSc) (al : jAl) (r9 : Int32) (sc9 : jSc) (mr9 : (Nat → Nat)) (ar9 : jSc) (al9 : jAl), F sc mr ar al = some (r9, sc9, mr9, ar9, al9) → Post (some (.int r9)) sc9 (x_mk mr9 rf) ar9 al9 → gW (gX b) 258 e 0 (j_av [.ref 756]) [] sc (x_mk mr rf) ar al Post
def xF_258 (sc : jSc) (mr : (Nat → Nat)) (ar : jSc) (al : jAl) : Option (Int32 × jSc × (Nat → Nat) × jSc × jAl) :=
  (o_b5 (xF_269 21 sc mr ar al) (fun ve1 sce1 mre1 are1 ale1 => (if ve1 = 0 then (o_b5 (xF_269 18 sce1 mre1 are1 ale1) (fun ve3 sce3 mre3 are3 ale3 => (if ve3 = 0 then (o_b5 (xF_269 3 sce3 mre3 are3 ale3) (fun ve5 sce5 mre5 are5 ale5 => (if ve5 = 0 then (o_b5 (xF_269 1 sce5 mre5 are5 ale5) (fun ve7 sce7 mre7 are7 ale7 => (if ve7 = 0 then (o_b4 (xF_276 (1 : Int32) (sce7 756 2) sce7 mre7 are7 ale7) (fun sce9 mre9 are9 ale9 => some ((0 : Int32), sce9, mre9, are9, ale9))) else (o_b5 (xF_266 (4 : Int32) sce7 mre7 are7 ale7) (fun ve10 sce10 mre10 are10 ale10 => some (((13 : Int32) + ve10), sce10, mre10, are10, ale10)))))) else (o_b5 (xF_266 (4 : Int32) sce5 mre5 are5 ale5) (fun ve11 sce11 mre11 are11 ale11 => some (((9 : Int32) + ve11), sce11, mre11, are11, ale11)))))) else (o_b5 (xF_266 (8 : Int32) sce3 mre3 are3 ale3) (fun ve12 sce12 mre12 are12 ale12 => some (((1 : Int32) + ve12), sce12, mre12, are12, ale12)))))) else some ((0 : Int32), sce1, mre1, are1, ale1))))
set_option maxHeartbeats 4000000 in
theorem xt_258 {b : Bool} {rf : jRf} {d : Nat} : xT_258 b rf xF_258 (d + 3) := by
  intro  Post  sc mr ar al r9 sc9 mr9 ar9 al9 h hP
  unfold xF_258 at h
  refine gl_entry (m := 0) rfl ?_
  show gL (gX b) 258 (d + 3) 0 [some (.ref 756)] [] sc (x_mk mr rf) ar al Post
  refine gl_aload_n (gX_LK b) y_258_0 rfl rfl ?_
  refine gl_ldcS (i := 21) (gX_LK b) y_258_1 yk_258_101 yz_258_101 (by decide) rfl ?_
  obtain ⟨ve1, sce1, mre1, are1, ale1, e1, h⟩ := o_k5 h
  refine gl_callV (gX_LK b) y_258_3 ym_258_52 rfl rfl rfl ys_756 yx_269 rfl rfl ((xt_269 )  _ _ (by decide) _ _ _ _ _ _ _ _ _ e1 ?_)
  refine gl_if_eq (gX_LK b) y_258_6 rfl rfl (fun c2 => ?_) (fun c2 => ?_)
  · have h := (if_pos c2).symm.trans h
    refine gl_aload_n (gX_LK b) y_258_11 rfl rfl ?_
    refine gl_ldcS (i := 18) (gX_LK b) y_258_12 yk_258_103 yz_258_103 (by decide) rfl ?_
    obtain ⟨ve3, sce3, mre3, are3, ale3, e3, h⟩ := o_k5 h
    refine gl_callV (gX_LK b) y_258_14 ym_258_52 rfl rfl rfl ys_756 yx_269 rfl rfl ((xt_269 )  _ _ (by decide) _ _ _ _ _ _ _ _ _ e3 ?_)
    refine gl_if_eq (gX_LK b) y_258_17 rfl rfl (fun c4 => ?_) (fun c4 => ?_)
    · have h := (if_pos c4).symm.trans h
      refine gl_aload_n (gX_LK b) y_258_29 rfl rfl ?_
      refine gl_ldcS (i := 3) (gX_LK b) y_258_30 yk_258_109 yz_258_109 (by decide) rfl ?_
      obtain ⟨ve5, sce5, mre5, are5, ale5, e5, h⟩ := o_k5 h
      refine gl_callV (gX_LK b) y_258_32 ym_258_52 rfl rfl rfl ys_756 yx_269 rfl rfl ((xt_269 )  _ _ (by decide) _ _ _ _ _ _ _ _ _ e5 ?_)
      refine gl_if_eq (gX_LK b) y_258_35 rfl rfl (fun c6 => ?_) (fun c6 => ?_)
      · have h := (if_pos c6).symm.trans h
        refine gl_aload_n (gX_LK b) y_258_47 rfl rfl ?_
        refine gl_ldcS (i := 1) (gX_LK b) y_258_48 yk_258_111 yz_258_111 (by decide) rfl ?_
        obtain ⟨ve7, sce7, mre7, are7, ale7, e7, h⟩ := o_k5 h
        refine gl_callV (gX_LK b) y_258_50 ym_258_52 rfl rfl rfl ys_756 yx_269 rfl rfl ((xt_269 )  _ _ (by decide) _ _ _ _ _ _ _ _ _ e7 ?_)
        refine gl_if_eq (gX_LK b) y_258_53 rfl rfl (fun c8 => ?_) (fun c8 => ?_)
        · have h := (if_pos c8).symm.trans h
          refine gl_aload_n (gX_LK b) y_258_65 rfl rfl ?_
          refine gl_iconst (gX_LK b) y_258_66 ci_1 rfl ?_
          refine gl_aload_n (gX_LK b) y_258_67 rfl rfl ?_
          refine gl_get (gX_LK b) y_258_68 yf_258_15 ys_756 rfl rfl rfl rfl ?_
          obtain ⟨sce9, mre9, are9, ale9, e9, h⟩ := o_k4 h
          refine gl_callV (gX_LK b) y_258_71 ym_258_70 rfl rfl rfl ys_756 yx_276 rfl rfl ((xt_276 )  _ _ _ _ _ _ _ _ _ _ _ e9 ?_)
          refine gl_iconst (gX_LK b) y_258_74 ci_0 rfl ?_
          exact gl_ireturn y_258_75 (Or.inl yt_258) (by cases h; exact hP)
        · have h := (if_neg c8).symm.trans h
          refine gl_bipush (gX_LK b) y_258_56 cb_13 rfl ?_
          refine gl_aload_n (gX_LK b) y_258_58 rfl rfl ?_
          refine gl_iconst (gX_LK b) y_258_59 ci_4 rfl ?_
          obtain ⟨ve10, sce10, mre10, are10, ale10, e10, h⟩ := o_k5 h
          refine gl_callV (gX_LK b) y_258_60 ym_258_105 rfl rfl rfl ys_756 yx_266 rfl rfl ((xt_266 )  _ _ _ _ _ _ _ _ _ _ _ e10 ?_)
          refine gl_iadd (gX_LK b) y_258_63 rfl ?_
          exact gl_ireturn y_258_64 (Or.inl yt_258) (by cases h; exact hP)
      · have h := (if_neg c6).symm.trans h
        refine gl_bipush (gX_LK b) y_258_38 cb_9 rfl ?_
        refine gl_aload_n (gX_LK b) y_258_40 rfl rfl ?_
        refine gl_iconst (gX_LK b) y_258_41 ci_4 rfl ?_
        obtain ⟨ve11, sce11, mre11, are11, ale11, e11, h⟩ := o_k5 h
        refine gl_callV (gX_LK b) y_258_42 ym_258_105 rfl rfl rfl ys_756 yx_266 rfl rfl ((xt_266 )  _ _ _ _ _ _ _ _ _ _ _ e11 ?_)
        refine gl_iadd (gX_LK b) y_258_45 rfl ?_
        exact gl_ireturn y_258_46 (Or.inl yt_258) (by cases h; exact hP)
    · have h := (if_neg c4).symm.trans h
      refine gl_iconst (gX_LK b) y_258_20 ci_1 rfl ?_
      refine gl_aload_n (gX_LK b) y_258_21 rfl rfl ?_
      refine gl_bipush (gX_LK b) y_258_22 cb_8 rfl ?_
      obtain ⟨ve12, sce12, mre12, are12, ale12, e12, h⟩ := o_k5 h
      refine gl_callV (gX_LK b) y_258_24 ym_258_105 rfl rfl rfl ys_756 yx_266 rfl rfl ((xt_266 )  _ _ _ _ _ _ _ _ _ _ _ e12 ?_)
      refine gl_iadd (gX_LK b) y_258_27 rfl ?_
      exact gl_ireturn y_258_28 (Or.inl yt_258) (by cases h; exact hP)
  · have h := (if_neg c2).symm.trans h
    refine gl_iconst (gX_LK b) y_258_9 ci_0 rfl ?_
    exact gl_ireturn y_258_10 (Or.inl yt_258) (by cases h; exact hP)
/-- ClickOrders$Reader.stepWord()I -/
def xT_260 (b : Bool) (rf : jRf) (F : jSc → (Nat → Nat) → jSc → jAl → Option (Int32 × jSc × (Nat → Nat) × jSc × jAl)) (e : Nat) : Prop := ∀  (Post : jPo) (sc : jSc) (mr : (Nat → Nat)) (ar : jSc) (al : jAl) (r9 : Int32) (sc9 : jSc) (mr9 : (Nat → Nat)) (ar9 : jSc) (al9 : jAl), F sc mr ar al = some (r9, sc9, mr9, ar9, al9) → Post (some (.int r9)) sc9 (x_mk mr9 rf) ar9 al9 → gW (gX b) 260 e 0 (j_av [.ref 756]) [] sc (x_mk mr rf) ar al Post
def xF_260 (sc : jSc) (mr : (Nat → Nat)) (ar : jSc) (al : jAl) : Option (Int32 × jSc × (Nat → Nat) × jSc × jAl) :=
  (o_b5 (xF_269 20 sc mr ar al) (fun ve1 sce1 mre1 are1 ale1 => (if ve1 = 0 then (o_b5 (xF_269 9 sce1 mre1 are1 ale1) (fun ve3 sce3 mre3 are3 ale3 => (if ve3 = 0 then (o_b5 (xF_269 7 sce3 mre3 are3 ale3) (fun ve5 sce5 mre5 are5 ale5 => (if ve5 = 0 then (o_b5 (xF_269 12 sce5 mre5 are5 ale5) (fun ve7 sce7 mre7 are7 ale7 => (if ve7 = 0 then (o_b5 (xF_269 3 sce7 mre7 are7 ale7) (fun ve9 sce9 mre9 are9 ale9 => (if ve9 = 0 then (o_b5 (xF_269 2 sce9 mre9 are9 ale9) (fun ve11 sce11 mre11 are11 ale11 => (if ve11 = 0 then (o_b5 (xF_269 22 sce11 mre11 are11 ale11) (fun ve13 sce13 mre13 are13 ale13 => (if ve13 = 0 then (o_b5 (xF_269 19 sce13 mre13 are13 ale13) (fun ve15 sce15 mre15 are15 ale15 => (if ve15 = 0 then (o_b5 (xF_269 4 sce15 mre15 are15 ale15) (fun ve17 sce17 mre17 are17 ale17 => (if ve17 = 0 then (o_b5 (xF_269 10 sce17 mre17 are17 ale17) (fun ve19 sce19 mre19 are19 ale19 => (if ve19 = 0 then some ((-1 : Int32), sce19, mre19, are19, ale19) else some ((17 : Int32), sce19, mre19, are19, ale19)))) else some ((27 : Int32), sce17, mre17, are17, ale17)))) else some ((26 : Int32), sce15, mre15, are15, ale15)))) else some ((25 : Int32), sce13, mre13, are13, ale13)))) else some ((24 : Int32), sce11, mre11, are11, ale11)))) else some ((23 : Int32), sce9, mre9, are9, ale9)))) else some ((22 : Int32), sce7, mre7, are7, ale7)))) else some ((21 : Int32), sce5, mre5, are5, ale5)))) else some ((20 : Int32), sce3, mre3, are3, ale3)))) else some ((19 : Int32), sce1, mre1, are1, ale1))))
set_option maxHeartbeats 4000000 in
theorem xt_260 {b : Bool} {rf : jRf} {d : Nat} : xT_260 b rf xF_260 (d + 3) := by
  intro  Post  sc mr ar al r9 sc9 mr9 ar9 al9 h hP
  unfold xF_260 at h
  refine gl_entry (m := 0) rfl ?_
  show gL (gX b) 260 (d + 3) 0 [some (.ref 756)] [] sc (x_mk mr rf) ar al Post
  refine gl_aload_n (gX_LK b) y_260_0 rfl rfl ?_
  refine gl_ldcS (i := 20) (gX_LK b) y_260_1 yk_260_140 yz_260_140 (by decide) rfl ?_
  obtain ⟨ve1, sce1, mre1, are1, ale1, e1, h⟩ := o_k5 h
  refine gl_callV (gX_LK b) y_260_3 ym_260_52 rfl rfl rfl ys_756 yx_269 rfl rfl ((xt_269 )  _ _ (by decide) _ _ _ _ _ _ _ _ _ e1 ?_)
  refine gl_if_eq (gX_LK b) y_260_6 rfl rfl (fun c2 => ?_) (fun c2 => ?_)
  · have h := (if_pos c2).symm.trans h
    refine gl_aload_n (gX_LK b) y_260_12 rfl rfl ?_
    refine gl_ldcS (i := 9) (gX_LK b) y_260_13 yk_260_142 yz_260_142 (by decide) rfl ?_
    obtain ⟨ve3, sce3, mre3, are3, ale3, e3, h⟩ := o_k5 h
    refine gl_callV (gX_LK b) y_260_15 ym_260_52 rfl rfl rfl ys_756 yx_269 rfl rfl ((xt_269 )  _ _ (by decide) _ _ _ _ _ _ _ _ _ e3 ?_)
    refine gl_if_eq (gX_LK b) y_260_18 rfl rfl (fun c4 => ?_) (fun c4 => ?_)
    · have h := (if_pos c4).symm.trans h
      refine gl_aload_n (gX_LK b) y_260_24 rfl rfl ?_
      refine gl_ldcS (i := 7) (gX_LK b) y_260_25 yk_260_144 yz_260_144 (by decide) rfl ?_
      obtain ⟨ve5, sce5, mre5, are5, ale5, e5, h⟩ := o_k5 h
      refine gl_callV (gX_LK b) y_260_27 ym_260_52 rfl rfl rfl ys_756 yx_269 rfl rfl ((xt_269 )  _ _ (by decide) _ _ _ _ _ _ _ _ _ e5 ?_)
      refine gl_if_eq (gX_LK b) y_260_30 rfl rfl (fun c6 => ?_) (fun c6 => ?_)
      · have h := (if_pos c6).symm.trans h
        refine gl_aload_n (gX_LK b) y_260_36 rfl rfl ?_
        refine gl_ldcS (i := 12) (gX_LK b) y_260_37 yk_260_146 yz_260_146 (by decide) rfl ?_
        obtain ⟨ve7, sce7, mre7, are7, ale7, e7, h⟩ := o_k5 h
        refine gl_callV (gX_LK b) y_260_39 ym_260_52 rfl rfl rfl ys_756 yx_269 rfl rfl ((xt_269 )  _ _ (by decide) _ _ _ _ _ _ _ _ _ e7 ?_)
        refine gl_if_eq (gX_LK b) y_260_42 rfl rfl (fun c8 => ?_) (fun c8 => ?_)
        · have h := (if_pos c8).symm.trans h
          refine gl_aload_n (gX_LK b) y_260_48 rfl rfl ?_
          refine gl_ldcS (i := 3) (gX_LK b) y_260_49 yk_260_109 yz_260_109 (by decide) rfl ?_
          obtain ⟨ve9, sce9, mre9, are9, ale9, e9, h⟩ := o_k5 h
          refine gl_callV (gX_LK b) y_260_51 ym_260_52 rfl rfl rfl ys_756 yx_269 rfl rfl ((xt_269 )  _ _ (by decide) _ _ _ _ _ _ _ _ _ e9 ?_)
          refine gl_if_eq (gX_LK b) y_260_54 rfl rfl (fun c10 => ?_) (fun c10 => ?_)
          · have h := (if_pos c10).symm.trans h
            refine gl_aload_n (gX_LK b) y_260_60 rfl rfl ?_
            refine gl_ldcS (i := 2) (gX_LK b) y_260_61 yk_260_148 yz_260_148 (by decide) rfl ?_
            obtain ⟨ve11, sce11, mre11, are11, ale11, e11, h⟩ := o_k5 h
            refine gl_callV (gX_LK b) y_260_63 ym_260_52 rfl rfl rfl ys_756 yx_269 rfl rfl ((xt_269 )  _ _ (by decide) _ _ _ _ _ _ _ _ _ e11 ?_)
            refine gl_if_eq (gX_LK b) y_260_66 rfl rfl (fun c12 => ?_) (fun c12 => ?_)
            · have h := (if_pos c12).symm.trans h
              refine gl_aload_n (gX_LK b) y_260_72 rfl rfl ?_
              refine gl_ldcS (i := 22) (gX_LK b) y_260_73 yk_260_150 yz_260_150 (by decide) rfl ?_
              obtain ⟨ve13, sce13, mre13, are13, ale13, e13, h⟩ := o_k5 h
              refine gl_callV (gX_LK b) y_260_75 ym_260_52 rfl rfl rfl ys_756 yx_269 rfl rfl ((xt_269 )  _ _ (by decide) _ _ _ _ _ _ _ _ _ e13 ?_)
              refine gl_if_eq (gX_LK b) y_260_78 rfl rfl (fun c14 => ?_) (fun c14 => ?_)
              · have h := (if_pos c14).symm.trans h
                refine gl_aload_n (gX_LK b) y_260_84 rfl rfl ?_
                refine gl_ldcS (i := 19) (gX_LK b) y_260_85 yk_260_152 yz_260_152 (by decide) rfl ?_
                obtain ⟨ve15, sce15, mre15, are15, ale15, e15, h⟩ := o_k5 h
                refine gl_callV (gX_LK b) y_260_87 ym_260_52 rfl rfl rfl ys_756 yx_269 rfl rfl ((xt_269 )  _ _ (by decide) _ _ _ _ _ _ _ _ _ e15 ?_)
                refine gl_if_eq (gX_LK b) y_260_90 rfl rfl (fun c16 => ?_) (fun c16 => ?_)
                · have h := (if_pos c16).symm.trans h
                  refine gl_aload_n (gX_LK b) y_260_96 rfl rfl ?_
                  refine gl_ldcS (i := 4) (gX_LK b) y_260_97 yk_260_154 yz_260_154 (by decide) rfl ?_
                  obtain ⟨ve17, sce17, mre17, are17, ale17, e17, h⟩ := o_k5 h
                  refine gl_callV (gX_LK b) y_260_99 ym_260_52 rfl rfl rfl ys_756 yx_269 rfl rfl ((xt_269 )  _ _ (by decide) _ _ _ _ _ _ _ _ _ e17 ?_)
                  refine gl_if_eq (gX_LK b) y_260_102 rfl rfl (fun c18 => ?_) (fun c18 => ?_)
                  · have h := (if_pos c18).symm.trans h
                    refine gl_aload_n (gX_LK b) y_260_108 rfl rfl ?_
                    refine gl_ldcS (i := 10) (gX_LK b) y_260_109 yk_260_156 yz_260_156 (by decide) rfl ?_
                    obtain ⟨ve19, sce19, mre19, are19, ale19, e19, h⟩ := o_k5 h
                    refine gl_callV (gX_LK b) y_260_111 ym_260_52 rfl rfl rfl ys_756 yx_269 rfl rfl ((xt_269 )  _ _ (by decide) _ _ _ _ _ _ _ _ _ e19 ?_)
                    refine gl_if_eq (gX_LK b) y_260_114 rfl rfl (fun c20 => ?_) (fun c20 => ?_)
                    · have h := (if_pos c20).symm.trans h
                      refine gl_iconst (gX_LK b) y_260_122 ci_m1 rfl ?_
                      exact gl_ireturn y_260_123 (Or.inl yt_260) (by cases h; exact hP)
                    · have h := (if_neg c20).symm.trans h
                      refine gl_bipush (gX_LK b) y_260_117 cb_17 rfl ?_
                      refine gl_goto (gX_LK b) y_260_119 rfl ?_
                      exact gl_ireturn y_260_123 (Or.inl yt_260) (by cases h; exact hP)
                  · have h := (if_neg c18).symm.trans h
                    refine gl_bipush (gX_LK b) y_260_105 cb_27 rfl ?_
                    exact gl_ireturn y_260_107 (Or.inl yt_260) (by cases h; exact hP)
                · have h := (if_neg c16).symm.trans h
                  refine gl_bipush (gX_LK b) y_260_93 cb_26 rfl ?_
                  exact gl_ireturn y_260_95 (Or.inl yt_260) (by cases h; exact hP)
              · have h := (if_neg c14).symm.trans h
                refine gl_bipush (gX_LK b) y_260_81 cb_25 rfl ?_
                exact gl_ireturn y_260_83 (Or.inl yt_260) (by cases h; exact hP)
            · have h := (if_neg c12).symm.trans h
              refine gl_bipush (gX_LK b) y_260_69 cb_24 rfl ?_
              exact gl_ireturn y_260_71 (Or.inl yt_260) (by cases h; exact hP)
          · have h := (if_neg c10).symm.trans h
            refine gl_bipush (gX_LK b) y_260_57 cb_23 rfl ?_
            exact gl_ireturn y_260_59 (Or.inl yt_260) (by cases h; exact hP)
        · have h := (if_neg c8).symm.trans h
          refine gl_bipush (gX_LK b) y_260_45 cb_22 rfl ?_
          exact gl_ireturn y_260_47 (Or.inl yt_260) (by cases h; exact hP)
      · have h := (if_neg c6).symm.trans h
        refine gl_bipush (gX_LK b) y_260_33 cb_21 rfl ?_
        exact gl_ireturn y_260_35 (Or.inl yt_260) (by cases h; exact hP)
    · have h := (if_neg c4).symm.trans h
      refine gl_bipush (gX_LK b) y_260_21 cb_20 rfl ?_
      exact gl_ireturn y_260_23 (Or.inl yt_260) (by cases h; exact hP)
  · have h := (if_neg c2).symm.trans h
    refine gl_bipush (gX_LK b) y_260_9 cb_19 rfl ?_
    exact gl_ireturn y_260_11 (Or.inl yt_260) (by cases h; exact hP)
