/-! ClickOrders: its methods as functions, and that the machine does what they say. -/
/-- ClickOrders.use(IZ)Z -/
def xT_343 (b : Bool) (rf : jRf) (F : Int32 → Int32 → jSc → (Nat → Nat) → jSc → jAl → Option (Int32 × jSc × (Nat → Nat) × jSc × jAl)) (e : Nat) : Prop := ∀  (Post : jPo) (x1 : Int32) (x2 : Int32) (sc : jSc) (mr : (Nat → Nat)) (ar : jSc) (al : jAl) (r9 : Int32) (sc9 : jSc) (mr9 : (Nat → Nat)) (ar9 : jSc) (al9 : jAl), F x1 x2 sc mr ar al = some (r9, sc9, mr9, ar9, al9) → Post (some (.int r9)) sc9 (x_mk mr9 rf) ar9 al9 → gW (gX b) 343 e 0 (j_av [.ref 734, .int x1, .int x2]) [] sc (x_mk mr rf) ar al Post
def xF_343_33 (x2 : Int32) (x3 : Int32) (y0 : Int32) (sc : jSc) (mr : (Nat → Nat)) (ar : jSc) (al : jAl) : Option (Int32 × jSc × (Nat → Nat) × jSc × jAl) :=
  (if y0 = x2 then (if y0 = 0 ∨ y0 = 1 then some (y0, sc, mr, ar, al) else none) else (o_b4 (xF_201 ((sc 736 6) ^^^ x3) sc mr ar al) (fun sce3 mre3 are3 ale3 => (o_b4 (xF_353 sce3 mre3 are3 ale3) (fun sce4 mre4 are4 ale4 => (if y0 = 0 ∨ y0 = 1 then some (y0, sce4, mre4, are4, ale4) else none))))))
set_option maxHeartbeats 4000000 in
theorem xt_343_33 {b : Bool} {rf : jRf} {d : Nat} {Post : jPo} {r9 : Int32} {sc9 : jSc} {mr9 : (Nat → Nat)} {ar9 : jSc} {al9 : jAl} (hP : Post (some (.int r9)) sc9 (x_mk mr9 rf) ar9 al9) (x2 : Int32) (x3 : Int32) (y0 : Int32) (sc : jSc) (mr : (Nat → Nat)) (ar : jSc) (al : jAl) (h : xF_343_33 x2 x3 y0 sc mr ar al = some (r9, sc9, mr9, ar9, al9)) : gL (gX b) 343 (d + 3) 33 [some (.ref 734), none, some (.int x2), some (.int x3), none] [.int y0] sc (x_mk mr rf) ar al Post := by
  unfold xF_343_33 at h
  refine gl_istore (vs2 := [some (.ref 734), none, some (.int x2), some (.int x3), some (.int y0)]) (gX_LK b) y_343_33 rfl rfl rfl rfl ?_
  refine gl_iload (gX_LK b) y_343_35 rfl rfl ?_
  refine gl_iload_n (gX_LK b) y_343_37 rfl rfl ?_
  refine gl_ic_eq (gX_LK b) y_343_38 rfl rfl (fun c1 => ?_) (fun c1 => ?_)
  · have h := (if_pos c1).symm.trans h
    refine gl_iload (gX_LK b) y_343_61 rfl rfl ?_
    obtain ⟨c2, h⟩ := o_ck h
    exact gl_ireturn y_343_63 (Or.inr ⟨yt_343, c2⟩) (by cases h; exact hP)
  · have h := (if_neg c1).symm.trans h
    refine gl_aload_n (gX_LK b) y_343_41 rfl rfl ?_
    refine gl_getA (gX_LK b) y_343_42 yf_343_16 ys_734 rfl rfl rfl rfl ?_
    refine gl_aload_n (gX_LK b) y_343_45 rfl rfl ?_
    refine gl_getA (gX_LK b) y_343_46 yf_343_16 ys_734 rfl rfl rfl rfl ?_
    refine gl_get (gX_LK b) y_343_49 yf_343_253 ys_736 rfl rfl rfl rfl ?_
    refine gl_iload_n (gX_LK b) y_343_52 rfl rfl ?_
    refine gl_ixor (gX_LK b) y_343_53 rfl ?_
    obtain ⟨sce3, mre3, are3, ale3, e3, h⟩ := o_k4 h
    refine gl_callV (gX_LK b) y_343_54 ym_343_256 rfl rfl rfl ys_736 yx_201 rfl rfl ((xt_201 )  _ _ _ _ _ _ _ _ _ _ e3 ?_)
    refine gl_aload_n (gX_LK b) y_343_57 rfl rfl ?_
    obtain ⟨sce4, mre4, are4, ale4, e4, h⟩ := o_k4 h
    refine gl_callV (gX_LK b) y_343_58 ym_343_259 rfl rfl rfl ys_734 yx_353 rfl rfl ((xt_353 )  _  _ _ _ _ _ _ _ _ e4 ?_)
    refine gl_iload (gX_LK b) y_343_61 rfl rfl ?_
    obtain ⟨c5, h⟩ := o_ck h
    exact gl_ireturn y_343_63 (Or.inr ⟨yt_343, c5⟩) (by cases h; exact hP)
def xF_343 (x1 : Int32) (x2 : Int32) (sc : jSc) (mr : (Nat → Nat)) (ar : jSc) (al : jAl) : Option (Int32 × jSc × (Nat → Nat) × jSc × jAl) :=
  (o_b4 (xF_355 x1 (sc 736 5) sc mr ar al) (fun sce6 mre6 are6 ale6 => (if ((sce6 736 6) &&& ((1 : Int32) <<< (x1 &&& 31))) = 0 then xF_343_33 x2 ((1 : Int32) <<< (x1 &&& 31)) (0 : Int32) sce6 mre6 are6 ale6 else xF_343_33 x2 ((1 : Int32) <<< (x1 &&& 31)) (1 : Int32) sce6 mre6 are6 ale6)))
set_option maxHeartbeats 4000000 in
theorem xt_343 {b : Bool} {rf : jRf} {d : Nat} : xT_343 b rf xF_343 (d + 3) := by
  intro  Post x1 x2 sc mr ar al r9 sc9 mr9 ar9 al9 h hP
  unfold xF_343 at h
  refine gl_entry (m := 2) rfl ?_
  show gL (gX b) 343 (d + 3) 0 [some (.ref 734), some (.int x1), some (.int x2), none, none] [] sc (x_mk mr rf) ar al Post
  refine gl_aload_n (gX_LK b) y_343_0 rfl rfl ?_
  refine gl_iload_n (gX_LK b) y_343_1 rfl rfl ?_
  refine gl_aload_n (gX_LK b) y_343_2 rfl rfl ?_
  refine gl_getA (gX_LK b) y_343_3 yf_343_16 ys_734 rfl rfl rfl rfl ?_
  refine gl_get (gX_LK b) y_343_6 yf_343_252 ys_736 rfl rfl rfl rfl ?_
  obtain ⟨sce6, mre6, are6, ale6, e6, h⟩ := o_k4 h
  refine gl_callV (gX_LK b) y_343_9 ym_343_139 rfl rfl rfl ys_734 yx_355 rfl rfl ((xt_355 )  _ _ _ _ _ _ _ _ _ _ _ e6 ?_)
  refine gl_iconst (gX_LK b) y_343_12 ci_1 rfl ?_
  refine gl_iload_n (gX_LK b) y_343_13 rfl rfl ?_
  refine gl_ishl (gX_LK b) y_343_14 rfl ?_
  refine gl_istore_n (vs2 := [some (.ref 734), some (.int x1), some (.int x2), some (.int ((1 : Int32) <<< (x1 &&& 31))), none]) (gX_LK b) y_343_15 rfl rfl rfl rfl ?_
  refine gl_aload_n (gX_LK b) y_343_16 rfl rfl ?_
  refine gl_getA (gX_LK b) y_343_17 yf_343_16 ys_734 rfl rfl rfl rfl ?_
  refine gl_get (gX_LK b) y_343_20 yf_343_253 ys_736 rfl rfl rfl rfl ?_
  refine gl_iload_n (gX_LK b) y_343_23 rfl rfl ?_
  refine gl_iand (gX_LK b) y_343_24 rfl ?_
  refine gl_if_eq (gX_LK b) y_343_25 rfl rfl (fun c7 => ?_) (fun c7 => ?_)
  · have h := (if_pos c7).symm.trans h
    refine gl_iconst (gX_LK b) y_343_32 ci_0 rfl ?_
    exact gl_weak (vs := [some (.ref 734), none, some (.int x2), some (.int ((1 : Int32) <<< (x1 &&& 31))), none]) ⟨rfl, rfl, rfl, trivial⟩ (xt_343_33  hP x2 ((1 : Int32) <<< (x1 &&& 31)) (0 : Int32) sce6 mre6 are6 ale6 h)
  · have h := (if_neg c7).symm.trans h
    refine gl_iconst (gX_LK b) y_343_28 ci_1 rfl ?_
    refine gl_goto (gX_LK b) y_343_29 rfl ?_
    exact gl_weak (vs := [some (.ref 734), none, some (.int x2), some (.int ((1 : Int32) <<< (x1 &&& 31))), none]) ⟨rfl, rfl, rfl, trivial⟩ (xt_343_33  hP x2 ((1 : Int32) <<< (x1 &&& 31)) (1 : Int32) sce6 mre6 are6 ale6 h)
/-- ClickOrders.cheapest(IIII)I -/
def xT_344 (b : Bool) (rf : jRf) (F : Int32 → Int32 → Int32 → Int32 → jSc → (Nat → Nat) → jSc → jAl → Option (Int32 × jSc × (Nat → Nat) × jSc × jAl)) (e : Nat) : Prop := ∀  (Post : jPo) (x1 : Int32) (x2 : Int32) (x3 : Int32) (x4 : Int32) (sc : jSc) (mr : (Nat → Nat)) (ar : jSc) (al : jAl) (r9 : Int32) (sc9 : jSc) (mr9 : (Nat → Nat)) (ar9 : jSc) (al9 : jAl), F x1 x2 x3 x4 sc mr ar al = some (r9, sc9, mr9, ar9, al9) → Post (some (.int r9)) sc9 (x_mk mr9 rf) ar9 al9 → gW (gX b) 344 e 0 (j_av [.ref 734, .int x1, .int x2, .int x3, .int x4]) [] sc (x_mk mr rf) ar al Post
def xF_344_207 (x4 : Int32) (sc : jSc) (mr : (Nat → Nat)) (ar : jSc) (al : jAl) : Option (Int32 × jSc × (Nat → Nat) × jSc × jAl) :=
  (if (sc 734 14) < 0 then some ((sc 734 14), sc, mr, ar, al) else (if x4 = 0 then some ((sc 734 14), sc, mr, ar, al) else (o_b5 (xF_202 (sc 734 14) sc mr ar al) (fun ve3 sce3 mre3 are3 ale3 => some (ve3, sce3, mre3, are3, ale3)))))
set_option maxHeartbeats 4000000 in
theorem xt_344_207 {b : Bool} {rf : jRf} {d : Nat} {Post : jPo} {r9 : Int32} {sc9 : jSc} {mr9 : (Nat → Nat)} {ar9 : jSc} {al9 : jAl} (hP : Post (some (.int r9)) sc9 (x_mk mr9 rf) ar9 al9) (x4 : Int32) (sc : jSc) (mr : (Nat → Nat)) (ar : jSc) (al : jAl) (h : xF_344_207 x4 sc mr ar al = some (r9, sc9, mr9, ar9, al9)) : gL (gX b) 344 (d + 86) 207 [some (.ref 734), none, none, none, some (.int x4), none, none, none, none] [] sc (x_mk mr rf) ar al Post := by
  unfold xF_344_207 at h
  refine gl_aload_n (gX_LK b) y_344_207 rfl rfl ?_
  refine gl_get (gX_LK b) y_344_208 yf_344_91 ys_734 rfl rfl rfl rfl ?_
  refine gl_if_lt (gX_LK b) y_344_211 rfl rfl (fun c1 => ?_) (fun c1 => ?_)
  · have h := (if_pos c1).symm.trans h
    refine gl_aload_n (gX_LK b) y_344_219 rfl rfl ?_
    refine gl_get (gX_LK b) y_344_220 yf_344_91 ys_734 rfl rfl rfl rfl ?_
    refine gl_goto (gX_LK b) y_344_223 rfl ?_
    exact gl_ireturn y_344_237 (Or.inl yt_344) (by cases h; exact hP)
  · have h := (if_neg c1).symm.trans h
    refine gl_iload (gX_LK b) y_344_214 rfl rfl ?_
    refine gl_if_ne (gX_LK b) y_344_216 rfl rfl (fun c2 => ?_) (fun c2 => ?_)
    · have h := (if_pos c2).symm.trans h
      refine gl_aload_n (gX_LK b) y_344_219 rfl rfl ?_
      refine gl_get (gX_LK b) y_344_220 yf_344_91 ys_734 rfl rfl rfl rfl ?_
      refine gl_goto (gX_LK b) y_344_223 rfl ?_
      exact gl_ireturn y_344_237 (Or.inl yt_344) (by cases h; exact hP)
    · have h := (if_neg c2).symm.trans h
      refine gl_aload_n (gX_LK b) y_344_226 rfl rfl ?_
      refine gl_getA (gX_LK b) y_344_227 yf_344_16 ys_734 rfl rfl rfl rfl ?_
      refine gl_aload_n (gX_LK b) y_344_230 rfl rfl ?_
      refine gl_get (gX_LK b) y_344_231 yf_344_91 ys_734 rfl rfl rfl rfl ?_
      obtain ⟨ve3, sce3, mre3, are3, ale3, e3, h⟩ := o_k5 h
      refine gl_callV (gX_LK b) y_344_234 ym_344_284 rfl rfl rfl ys_736 yx_202 rfl rfl ((xt_202 )  _ _ _ _ _ _ _ _ _ _ _ e3 ?_)
      exact gl_ireturn y_344_237 (Or.inl yt_344) (by cases h; exact hP)
def xF_344_99 : Nat → Int32 → Int32 → Int32 → Int32 → Int32 → Int32 → Int32 → jSc → (Nat → Nat) → jSc → jAl → Option (Int32 × jSc × (Nat → Nat) × jSc × jAl)
  | 0, _, _, _, _, _, _, _, _, _, _, _ => none
  | nn + 1, x1, x2, x3, x4, x6, x7, x8, sc, mr, ar, al => (if (64 : Int32) ≤ x8 then (o_b4 (xF_201 x6 sc mr ar al) (fun sce5 mre5 are5 ale5 => (o_b4 (xF_283 sce5 mre5 are5 ale5) (fun sce6 mre6 are6 ale6 => xF_344_207 x4 sce6 mre6 are6 ale6)))) else (if x7 < 0 then (o_b4 (xF_201 x6 sc mr ar al) (fun sce8 mre8 are8 ale8 => (o_b4 (xF_283 sce8 mre8 are8 ale8) (fun sce9 mre9 are9 ale9 => xF_344_207 x4 sce9 mre9 are9 ale9)))) else (if 0 ≤ (sc 734 14) then (o_b4 (xF_201 x6 sc mr ar al) (fun sce11 mre11 are11 ale11 => (o_b4 (xF_283 sce11 mre11 are11 ale11) (fun sce12 mre12 are12 ale12 => xF_344_207 x4 sce12 mre12 are12 ale12)))) else (o_b4 (xF_201 x7 sc mr ar al) (fun sce13 mre13 are13 ale13 => (if x_pr (mre13 0) = true then (o_b5 (xF_205 (sce13 (mre13 0) 6) sce13 mre13 are13 ale13) (fun ve15 sce15 mre15 are15 ale15 => (if ve15 = 0 then (o_b5 (xF_204 x7 sce15 mre15 are15 ale15) (fun ve17 sce17 mre17 are17 ale17 => xF_344_99 nn x1 x2 x3 x4 x6 ve17 (x8 + (1 : Int32)) sce17 mre17 are17 ale17)) else (o_b5 (xF_289 x1 x3 sce15 mre15 are15 ale15) (fun ve18 sce18 mre18 are18 ale18 => (if ve18 = 0 then (o_b5 (xF_204 x7 sce18 mre18 are18 ale18) (fun ve20 sce20 mre20 are20 ale20 => xF_344_99 nn x1 x2 x3 x4 x6 ve20 (x8 + (1 : Int32)) sce20 mre20 are20 ale20)) else (o_b5 (xF_288 x2 (1 : Int32) sce18 mre18 are18 ale18) (fun ve21 sce21 mre21 are21 ale21 => (if ve21 = 0 then (o_b5 (xF_204 x7 (j_u2 sce21 734 14 x7) mre21 are21 ale21) (fun ve23 sce23 mre23 are23 ale23 => xF_344_99 nn x1 x2 x3 x4 x6 ve23 (x8 + (1 : Int32)) sce23 mre23 are23 ale23)) else (o_b5 (xF_204 x7 sce21 mre21 are21 ale21) (fun ve24 sce24 mre24 are24 ale24 => xF_344_99 nn x1 x2 x3 x4 x6 ve24 (x8 + (1 : Int32)) sce24 mre24 are24 ale24))))))))))) else none))))))
set_option maxHeartbeats 4000000 in
theorem xt_344_99 {b : Bool} {rf : jRf} {d : Nat} {Post : jPo} {r9 : Int32} {sc9 : jSc} {mr9 : (Nat → Nat)} {ar9 : jSc} {al9 : jAl} (hP : Post (some (.int r9)) sc9 (x_mk mr9 rf) ar9 al9) : ∀ (nn : Nat) (x1 : Int32) (x2 : Int32) (x3 : Int32) (x4 : Int32) (x6 : Int32) (x7 : Int32) (x8 : Int32) (sc : jSc) (mr : (Nat → Nat)) (ar : jSc) (al : jAl), xF_344_99 nn x1 x2 x3 x4 x6 x7 x8 sc mr ar al = some (r9, sc9, mr9, ar9, al9) → gL (gX b) 344 (d + 86) 99 [some (.ref 734), some (.int x1), some (.int x2), some (.int x3), some (.int x4), none, some (.int x6), some (.int x7), some (.int x8)] [] sc (x_mk mr rf) ar al Post := by
  intro nn
  induction nn with
  | zero =>
    intro x1 x2 x3 x4 x6 x7 x8 sc mr ar al h
    have h : (none : Option (Int32 × jSc × (Nat → Nat) × jSc × jAl)) = some _ := h
    cases h
  | succ nn ih =>
    intro x1 x2 x3 x4 x6 x7 x8 sc mr ar al h
    unfold xF_344_99 at h
    refine gl_iload (gX_LK b) y_344_99 rfl rfl ?_
    refine gl_bipush (gX_LK b) y_344_101 cb_64 rfl ?_
    refine gl_ic_ge (gX_LK b) y_344_103 rfl rfl (fun c4 => ?_) (fun c4 => ?_)
    · have h := (if_pos c4).symm.trans h
      refine gl_aload_n (gX_LK b) y_344_191 rfl rfl ?_
      refine gl_getA (gX_LK b) y_344_192 yf_344_16 ys_734 rfl rfl rfl rfl ?_
      refine gl_iload (gX_LK b) y_344_195 rfl rfl ?_
      obtain ⟨sce5, mre5, are5, ale5, e5, h⟩ := o_k4 h
      refine gl_callV (gX_LK b) y_344_197 ym_344_256 rfl rfl rfl ys_736 yx_201 rfl rfl ((xt_201 )  _ _ _ _ _ _ _ _ _ _ e5 ?_)
      refine gl_aload_n (gX_LK b) y_344_200 rfl rfl ?_
      refine gl_getA (gX_LK b) y_344_201 yf_344_63 ys_734 rfl rfl rfl rfl ?_
      obtain ⟨sce6, mre6, are6, ale6, e6, h⟩ := o_k4 h
      refine gl_callV (gX_LK b) y_344_204 ym_344_281 rfl rfl rfl ys_773 yx_283 rfl rfl ((xt_283 )  _  _ _ _ _ _ _ _ _ e6 ?_)
      exact gl_weak (vs := [some (.ref 734), none, none, none, some (.int x4), none, none, none, none]) ⟨rfl, rfl, trivial⟩ (xt_344_207  hP x4 sce6 mre6 are6 ale6 h)
    · have h := (if_neg c4).symm.trans h
      refine gl_iload (gX_LK b) y_344_106 rfl rfl ?_
      refine gl_if_lt (gX_LK b) y_344_108 rfl rfl (fun c7 => ?_) (fun c7 => ?_)
      · have h := (if_pos c7).symm.trans h
        refine gl_aload_n (gX_LK b) y_344_191 rfl rfl ?_
        refine gl_getA (gX_LK b) y_344_192 yf_344_16 ys_734 rfl rfl rfl rfl ?_
        refine gl_iload (gX_LK b) y_344_195 rfl rfl ?_
        obtain ⟨sce8, mre8, are8, ale8, e8, h⟩ := o_k4 h
        refine gl_callV (gX_LK b) y_344_197 ym_344_256 rfl rfl rfl ys_736 yx_201 rfl rfl ((xt_201 )  _ _ _ _ _ _ _ _ _ _ e8 ?_)
        refine gl_aload_n (gX_LK b) y_344_200 rfl rfl ?_
        refine gl_getA (gX_LK b) y_344_201 yf_344_63 ys_734 rfl rfl rfl rfl ?_
        obtain ⟨sce9, mre9, are9, ale9, e9, h⟩ := o_k4 h
        refine gl_callV (gX_LK b) y_344_204 ym_344_281 rfl rfl rfl ys_773 yx_283 rfl rfl ((xt_283 )  _  _ _ _ _ _ _ _ _ e9 ?_)
        exact gl_weak (vs := [some (.ref 734), none, none, none, some (.int x4), none, none, none, none]) ⟨rfl, rfl, trivial⟩ (xt_344_207  hP x4 sce9 mre9 are9 ale9 h)
      · have h := (if_neg c7).symm.trans h
        refine gl_aload_n (gX_LK b) y_344_111 rfl rfl ?_
        refine gl_get (gX_LK b) y_344_112 yf_344_91 ys_734 rfl rfl rfl rfl ?_
        refine gl_if_ge (gX_LK b) y_344_115 rfl rfl (fun c10 => ?_) (fun c10 => ?_)
        · have h := (if_pos c10).symm.trans h
          refine gl_aload_n (gX_LK b) y_344_191 rfl rfl ?_
          refine gl_getA (gX_LK b) y_344_192 yf_344_16 ys_734 rfl rfl rfl rfl ?_
          refine gl_iload (gX_LK b) y_344_195 rfl rfl ?_
          obtain ⟨sce11, mre11, are11, ale11, e11, h⟩ := o_k4 h
          refine gl_callV (gX_LK b) y_344_197 ym_344_256 rfl rfl rfl ys_736 yx_201 rfl rfl ((xt_201 )  _ _ _ _ _ _ _ _ _ _ e11 ?_)
          refine gl_aload_n (gX_LK b) y_344_200 rfl rfl ?_
          refine gl_getA (gX_LK b) y_344_201 yf_344_63 ys_734 rfl rfl rfl rfl ?_
          obtain ⟨sce12, mre12, are12, ale12, e12, h⟩ := o_k4 h
          refine gl_callV (gX_LK b) y_344_204 ym_344_281 rfl rfl rfl ys_773 yx_283 rfl rfl ((xt_283 )  _  _ _ _ _ _ _ _ _ e12 ?_)
          exact gl_weak (vs := [some (.ref 734), none, none, none, some (.int x4), none, none, none, none]) ⟨rfl, rfl, trivial⟩ (xt_344_207  hP x4 sce12 mre12 are12 ale12 h)
        · have h := (if_neg c10).symm.trans h
          refine gl_aload_n (gX_LK b) y_344_118 rfl rfl ?_
          refine gl_getA (gX_LK b) y_344_119 yf_344_16 ys_734 rfl rfl rfl rfl ?_
          refine gl_iload (gX_LK b) y_344_122 rfl rfl ?_
          obtain ⟨sce13, mre13, are13, ale13, e13, h⟩ := o_k4 h
          refine gl_callV (gX_LK b) y_344_124 ym_344_256 rfl rfl rfl ys_736 yx_201 rfl rfl ((xt_201 )  _ _ _ _ _ _ _ _ _ _ e13 ?_)
          refine gl_aload_n (gX_LK b) y_344_127 rfl rfl ?_
          refine gl_getA (gX_LK b) y_344_128 yf_344_16 ys_734 rfl rfl rfl rfl ?_
          refine gl_aload_n (gX_LK b) y_344_131 rfl rfl ?_
          obtain ⟨c14, h⟩ := o_ck h
          refine gl_getA (gX_LK b) y_344_132 yf_344_23 ys_734 rfl rfl rfl rfl ?_
          refine gl_get (gX_LK b) y_344_135 yf_344_271 (ys_pr c14) rfl rfl rfl rfl ?_
          obtain ⟨ve15, sce15, mre15, are15, ale15, e15, h⟩ := o_k5 h
          refine gl_callV (gX_LK b) y_344_138 ym_344_274 rfl rfl rfl ys_736 yx_205 rfl rfl ((xt_205 )  _ _ _ _ _ _ _ _ _ _ _ e15 ?_)
          refine gl_if_eq (gX_LK b) y_344_141 rfl rfl (fun c16 => ?_) (fun c16 => ?_)
          · have h := (if_pos c16).symm.trans h
            refine gl_aload_n (gX_LK b) y_344_174 rfl rfl ?_
            refine gl_getA (gX_LK b) y_344_175 yf_344_16 ys_734 rfl rfl rfl rfl ?_
            refine gl_iload (gX_LK b) y_344_178 rfl rfl ?_
            obtain ⟨ve17, sce17, mre17, are17, ale17, e17, h⟩ := o_k5 h
            refine gl_callV (gX_LK b) y_344_180 ym_344_268 rfl rfl rfl ys_736 yx_204 rfl rfl ((xt_204 )  _ _ _ _ _ _ _ _ _ _ _ e17 ?_)
            refine gl_istore (vs2 := [some (.ref 734), some (.int x1), some (.int x2), some (.int x3), some (.int x4), none, some (.int x6), some (.int ve17), some (.int x8)]) (gX_LK b) y_344_183 rfl rfl rfl rfl ?_
            refine gl_iinc (vs2 := [some (.ref 734), some (.int x1), some (.int x2), some (.int x3), some (.int x4), none, some (.int x6), some (.int ve17), some (.int (x8 + (1 : Int32)))]) (gX_LK b) y_344_185 rfl rfl rfl ci_1 rfl rfl ?_
            refine gl_goto (gX_LK b) y_344_188 rfl ?_
            exact gl_weak (vs := [some (.ref 734), some (.int x1), some (.int x2), some (.int x3), some (.int x4), none, some (.int x6), some (.int ve17), some (.int (x8 + (1 : Int32)))]) ⟨rfl, rfl, rfl, rfl, rfl, rfl, rfl, rfl, trivial⟩ (ih x1 x2 x3 x4 x6 ve17 (x8 + (1 : Int32)) sce17 mre17 are17 ale17 h)
          · have h := (if_neg c16).symm.trans h
            refine gl_aload_n (gX_LK b) y_344_144 rfl rfl ?_
            refine gl_getA (gX_LK b) y_344_145 yf_344_63 ys_734 rfl rfl rfl rfl ?_
            refine gl_iload_n (gX_LK b) y_344_148 rfl rfl ?_
            refine gl_iload_n (gX_LK b) y_344_149 rfl rfl ?_
            obtain ⟨ve18, sce18, mre18, are18, ale18, e18, h⟩ := o_k5 h
            refine gl_callV (gX_LK b) y_344_150 ym_344_278 rfl rfl rfl ys_773 yx_289 rfl rfl ((xt_289 )  _ _ _ _ _ _ _ _ _ _ _ _ e18 ?_)
            refine gl_if_eq (gX_LK b) y_344_153 rfl rfl (fun c19 => ?_) (fun c19 => ?_)
            · have h := (if_pos c19).symm.trans h
              refine gl_aload_n (gX_LK b) y_344_174 rfl rfl ?_
              refine gl_getA (gX_LK b) y_344_175 yf_344_16 ys_734 rfl rfl rfl rfl ?_
              refine gl_iload (gX_LK b) y_344_178 rfl rfl ?_
              obtain ⟨ve20, sce20, mre20, are20, ale20, e20, h⟩ := o_k5 h
              refine gl_callV (gX_LK b) y_344_180 ym_344_268 rfl rfl rfl ys_736 yx_204 rfl rfl ((xt_204 )  _ _ _ _ _ _ _ _ _ _ _ e20 ?_)
              refine gl_istore (vs2 := [some (.ref 734), some (.int x1), some (.int x2), some (.int x3), some (.int x4), none, some (.int x6), some (.int ve20), some (.int x8)]) (gX_LK b) y_344_183 rfl rfl rfl rfl ?_
              refine gl_iinc (vs2 := [some (.ref 734), some (.int x1), some (.int x2), some (.int x3), some (.int x4), none, some (.int x6), some (.int ve20), some (.int (x8 + (1 : Int32)))]) (gX_LK b) y_344_185 rfl rfl rfl ci_1 rfl rfl ?_
              refine gl_goto (gX_LK b) y_344_188 rfl ?_
              exact gl_weak (vs := [some (.ref 734), some (.int x1), some (.int x2), some (.int x3), some (.int x4), none, some (.int x6), some (.int ve20), some (.int (x8 + (1 : Int32)))]) ⟨rfl, rfl, rfl, rfl, rfl, rfl, rfl, rfl, trivial⟩ (ih x1 x2 x3 x4 x6 ve20 (x8 + (1 : Int32)) sce20 mre20 are20 ale20 h)
            · have h := (if_neg c19).symm.trans h
              refine gl_aload_n (gX_LK b) y_344_156 rfl rfl ?_
              refine gl_getA (gX_LK b) y_344_157 yf_344_63 ys_734 rfl rfl rfl rfl ?_
              refine gl_iload_n (gX_LK b) y_344_160 rfl rfl ?_
              refine gl_iconst (gX_LK b) y_344_161 ci_1 rfl ?_
              obtain ⟨ve21, sce21, mre21, are21, ale21, e21, h⟩ := o_k5 h
              refine gl_callV (gX_LK b) y_344_162 ym_344_237 rfl rfl rfl ys_773 yx_288 rfl rfl ((xt_288 )  _ _ _ _ _ _ _ _ _ _ _ _ e21 ?_)
              refine gl_if_ne (gX_LK b) y_344_165 rfl rfl (fun c22 => ?_) (fun c22 => ?_)
              · have h := (if_pos c22).symm.trans h
                refine gl_aload_n (gX_LK b) y_344_168 rfl rfl ?_
                refine gl_iload (gX_LK b) y_344_169 rfl rfl ?_
                refine gl_put (sc' := (j_u2 sce21 734 14 x7)) (gX_LK b) y_344_171 yf_344_91 ys_734 rfl rfl rfl rfl rfl ?_
                refine gl_aload_n (gX_LK b) y_344_174 rfl rfl ?_
                refine gl_getA (gX_LK b) y_344_175 yf_344_16 ys_734 rfl rfl rfl rfl ?_
                refine gl_iload (gX_LK b) y_344_178 rfl rfl ?_
                obtain ⟨ve23, sce23, mre23, are23, ale23, e23, h⟩ := o_k5 h
                refine gl_callV (gX_LK b) y_344_180 ym_344_268 rfl rfl rfl ys_736 yx_204 rfl rfl ((xt_204 )  _ _ _ _ _ _ _ _ _ _ _ e23 ?_)
                refine gl_istore (vs2 := [some (.ref 734), some (.int x1), some (.int x2), some (.int x3), some (.int x4), none, some (.int x6), some (.int ve23), some (.int x8)]) (gX_LK b) y_344_183 rfl rfl rfl rfl ?_
                refine gl_iinc (vs2 := [some (.ref 734), some (.int x1), some (.int x2), some (.int x3), some (.int x4), none, some (.int x6), some (.int ve23), some (.int (x8 + (1 : Int32)))]) (gX_LK b) y_344_185 rfl rfl rfl ci_1 rfl rfl ?_
                refine gl_goto (gX_LK b) y_344_188 rfl ?_
                exact gl_weak (vs := [some (.ref 734), some (.int x1), some (.int x2), some (.int x3), some (.int x4), none, some (.int x6), some (.int ve23), some (.int (x8 + (1 : Int32)))]) ⟨rfl, rfl, rfl, rfl, rfl, rfl, rfl, rfl, trivial⟩ (ih x1 x2 x3 x4 x6 ve23 (x8 + (1 : Int32)) sce23 mre23 are23 ale23 h)
              · have h := (if_neg c22).symm.trans h
                refine gl_aload_n (gX_LK b) y_344_174 rfl rfl ?_
                refine gl_getA (gX_LK b) y_344_175 yf_344_16 ys_734 rfl rfl rfl rfl ?_
                refine gl_iload (gX_LK b) y_344_178 rfl rfl ?_
                obtain ⟨ve24, sce24, mre24, are24, ale24, e24, h⟩ := o_k5 h
                refine gl_callV (gX_LK b) y_344_180 ym_344_268 rfl rfl rfl ys_736 yx_204 rfl rfl ((xt_204 )  _ _ _ _ _ _ _ _ _ _ _ e24 ?_)
                refine gl_istore (vs2 := [some (.ref 734), some (.int x1), some (.int x2), some (.int x3), some (.int x4), none, some (.int x6), some (.int ve24), some (.int x8)]) (gX_LK b) y_344_183 rfl rfl rfl rfl ?_
                refine gl_iinc (vs2 := [some (.ref 734), some (.int x1), some (.int x2), some (.int x3), some (.int x4), none, some (.int x6), some (.int ve24), some (.int (x8 + (1 : Int32)))]) (gX_LK b) y_344_185 rfl rfl rfl ci_1 rfl rfl ?_
                refine gl_goto (gX_LK b) y_344_188 rfl ?_
                exact gl_weak (vs := [some (.ref 734), some (.int x1), some (.int x2), some (.int x3), some (.int x4), none, some (.int x6), some (.int ve24), some (.int (x8 + (1 : Int32)))]) ⟨rfl, rfl, rfl, rfl, rfl, rfl, rfl, rfl, trivial⟩ (ih x1 x2 x3 x4 x6 ve24 (x8 + (1 : Int32)) sce24 mre24 are24 ale24 h)
def xF_344 (x1 : Int32) (x2 : Int32) (x3 : Int32) (x4 : Int32) (sc : jSc) (mr : (Nat → Nat)) (ar : jSc) (al : jAl) : Option (Int32 × jSc × (Nat → Nat) × jSc × jAl) :=
  (o_b4 (xF_357 x1 x3 sc mr ar al) (fun sce25 mre25 are25 ale25 => (o_b4 (xF_358 x2 sce25 mre25 are25 ale25) (fun sce26 mre26 are26 ale26 => (if x4 < 0 then none else (if x4 ≤ (1 : Int32) then (if ((((x1 * (4 : Int32)) + x2) * (1024 : Int32)) + x3) = (sce26 734 13) then xF_344_207 x4 sce26 mre26 are26 ale26 else (o_b4 (xF_203 (j_u2 (j_u2 sce26 734 13 ((((x1 * (4 : Int32)) + x2) * (1024 : Int32)) + x3)) 734 14 (-1 : Int32)) mre26 are26 ale26) (fun sce30 mre30 are30 ale30 => (o_b4 (xF_284 sce30 mre30 are30 ale30) (fun sce31 mre31 are31 ale31 => (o_b5 (xF_204 (-1 : Int32) sce31 mre31 are31 ale31) (fun ve32 sce32 mre32 are32 ale32 => xF_344_99 oF x1 x2 x3 x4 (sce26 736 6) ve32 (0 : Int32) sce32 mre32 are32 ale32))))))) else none))))))
set_option maxHeartbeats 4000000 in
theorem xt_344 {b : Bool} {rf : jRf} {d : Nat} : xT_344 b rf xF_344 (d + 86) := by
  intro  Post x1 x2 x3 x4 sc mr ar al r9 sc9 mr9 ar9 al9 h hP
  unfold xF_344 at h
  refine gl_entry (m := 4) rfl ?_
  show gL (gX b) 344 (d + 86) 0 [some (.ref 734), some (.int x1), some (.int x2), some (.int x3), some (.int x4), none, none, none, none] [] sc (x_mk mr rf) ar al Post
  refine gl_aload_n (gX_LK b) y_344_0 rfl rfl ?_
  refine gl_iload_n (gX_LK b) y_344_1 rfl rfl ?_
  refine gl_iload_n (gX_LK b) y_344_2 rfl rfl ?_
  obtain ⟨sce25, mre25, are25, ale25, e25, h⟩ := o_k4 h
  refine gl_callV (gX_LK b) y_344_3 ym_344_214 rfl rfl rfl ys_734 yx_357 rfl rfl ((xt_357 )  _ _ _ _ _ _ _ _ _ _ _ e25 ?_)
  refine gl_aload_n (gX_LK b) y_344_6 rfl rfl ?_
  refine gl_iload_n (gX_LK b) y_344_7 rfl rfl ?_
  obtain ⟨sce26, mre26, are26, ale26, e26, h⟩ := o_k4 h
  refine gl_callV (gX_LK b) y_344_8 ym_344_234 rfl rfl rfl ys_734 yx_358 rfl rfl ((xt_358 )  _ _ _ _ _ _ _ _ _ _ e26 ?_)
  refine gl_iload (gX_LK b) y_344_11 rfl rfl ?_
  refine gl_if_lt (gX_LK b) y_344_13 rfl rfl (fun c27 => ?_) (fun c27 => ?_)
  · have h := (if_pos c27).symm.trans h
    cases h
  · have h := (if_neg c27).symm.trans h
    refine gl_iload (gX_LK b) y_344_16 rfl rfl ?_
    refine gl_iconst (gX_LK b) y_344_18 ci_1 rfl ?_
    refine gl_ic_le (gX_LK b) y_344_19 rfl rfl (fun c28 => ?_) (fun c28 => ?_)
    · have h := (if_pos c28).symm.trans h
      refine gl_iload_n (gX_LK b) y_344_30 rfl rfl ?_
      refine gl_iconst (gX_LK b) y_344_31 ci_4 rfl ?_
      refine gl_imul (gX_LK b) y_344_32 rfl ?_
      refine gl_iload_n (gX_LK b) y_344_33 rfl rfl ?_
      refine gl_iadd (gX_LK b) y_344_34 rfl ?_
      refine gl_sipush (gX_LK b) y_344_35 cs_1024 rfl ?_
      refine gl_imul (gX_LK b) y_344_38 rfl ?_
      refine gl_iload_n (gX_LK b) y_344_39 rfl rfl ?_
      refine gl_iadd (gX_LK b) y_344_40 rfl ?_
      refine gl_istore (vs2 := [some (.ref 734), some (.int x1), some (.int x2), some (.int x3), some (.int x4), some (.int ((((x1 * (4 : Int32)) + x2) * (1024 : Int32)) + x3)), none, none, none]) (gX_LK b) y_344_41 rfl rfl rfl rfl ?_
      refine gl_iload (gX_LK b) y_344_43 rfl rfl ?_
      refine gl_aload_n (gX_LK b) y_344_45 rfl rfl ?_
      refine gl_get (gX_LK b) y_344_46 yf_344_88 ys_734 rfl rfl rfl rfl ?_
      refine gl_ic_eq (gX_LK b) y_344_49 rfl rfl (fun c29 => ?_) (fun c29 => ?_)
      · have h := (if_pos c29).symm.trans h
        exact gl_weak (vs := [some (.ref 734), none, none, none, some (.int x4), none, none, none, none]) ⟨rfl, rfl, trivial⟩ (xt_344_207  hP x4 sce26 mre26 are26 ale26 h)
      · have h := (if_neg c29).symm.trans h
        refine gl_aload_n (gX_LK b) y_344_52 rfl rfl ?_
        refine gl_iload (gX_LK b) y_344_53 rfl rfl ?_
        refine gl_put (sc' := (j_u2 sce26 734 13 ((((x1 * (4 : Int32)) + x2) * (1024 : Int32)) + x3))) (gX_LK b) y_344_55 yf_344_88 ys_734 rfl rfl rfl rfl rfl ?_
        refine gl_aload_n (gX_LK b) y_344_58 rfl rfl ?_
        refine gl_iconst (gX_LK b) y_344_59 ci_m1 rfl ?_
        refine gl_put (sc' := (j_u2 (j_u2 sce26 734 13 ((((x1 * (4 : Int32)) + x2) * (1024 : Int32)) + x3)) 734 14 (-1 : Int32))) (gX_LK b) y_344_60 yf_344_91 ys_734 rfl rfl rfl rfl rfl ?_
        refine gl_aload_n (gX_LK b) y_344_63 rfl rfl ?_
        refine gl_getA (gX_LK b) y_344_64 yf_344_16 ys_734 rfl rfl rfl rfl ?_
        refine gl_get (gX_LK b) y_344_67 yf_344_253 ys_736 rfl rfl rfl rfl ?_
        refine gl_istore (vs2 := [some (.ref 734), some (.int x1), some (.int x2), some (.int x3), some (.int x4), some (.int ((((x1 * (4 : Int32)) + x2) * (1024 : Int32)) + x3)), some (.int (sce26 736 6)), none, none]) (gX_LK b) y_344_70 rfl rfl rfl rfl ?_
        refine gl_aload_n (gX_LK b) y_344_72 rfl rfl ?_
        refine gl_getA (gX_LK b) y_344_73 yf_344_16 ys_734 rfl rfl rfl rfl ?_
        obtain ⟨sce30, mre30, are30, ale30, e30, h⟩ := o_k4 h
        refine gl_callV (gX_LK b) y_344_76 ym_344_262 rfl rfl rfl ys_736 yx_203 rfl rfl ((xt_203 )  _  _ _ _ _ _ _ _ _ e30 ?_)
        refine gl_aload_n (gX_LK b) y_344_79 rfl rfl ?_
        refine gl_getA (gX_LK b) y_344_80 yf_344_63 ys_734 rfl rfl rfl rfl ?_
        obtain ⟨sce31, mre31, are31, ale31, e31, h⟩ := o_k4 h
        refine gl_callV (gX_LK b) y_344_83 ym_344_265 rfl rfl rfl ys_773 yx_284 rfl rfl ((xt_284 )  _  _ _ _ _ _ _ _ _ e31 ?_)
        refine gl_aload_n (gX_LK b) y_344_86 rfl rfl ?_
        refine gl_getA (gX_LK b) y_344_87 yf_344_16 ys_734 rfl rfl rfl rfl ?_
        refine gl_iconst (gX_LK b) y_344_90 ci_m1 rfl ?_
        obtain ⟨ve32, sce32, mre32, are32, ale32, e32, h⟩ := o_k5 h
        refine gl_callV (gX_LK b) y_344_91 ym_344_268 rfl rfl rfl ys_736 yx_204 rfl rfl ((xt_204 )  _ _ _ _ _ _ _ _ _ _ _ e32 ?_)
        refine gl_istore (vs2 := [some (.ref 734), some (.int x1), some (.int x2), some (.int x3), some (.int x4), some (.int ((((x1 * (4 : Int32)) + x2) * (1024 : Int32)) + x3)), some (.int (sce26 736 6)), some (.int ve32), none]) (gX_LK b) y_344_94 rfl rfl rfl rfl ?_
        refine gl_iconst (gX_LK b) y_344_96 ci_0 rfl ?_
        refine gl_istore (vs2 := [some (.ref 734), some (.int x1), some (.int x2), some (.int x3), some (.int x4), some (.int ((((x1 * (4 : Int32)) + x2) * (1024 : Int32)) + x3)), some (.int (sce26 736 6)), some (.int ve32), some (.int (0 : Int32))]) (gX_LK b) y_344_97 rfl rfl rfl rfl ?_
        exact gl_weak (vs := [some (.ref 734), some (.int x1), some (.int x2), some (.int x3), some (.int x4), none, some (.int (sce26 736 6)), some (.int ve32), some (.int (0 : Int32))]) ⟨rfl, rfl, rfl, rfl, rfl, rfl, rfl, rfl, trivial⟩ (xt_344_99  hP oF x1 x2 x3 x4 (sce26 736 6) ve32 (0 : Int32) sce32 mre32 are32 ale32 h)
    · have h := (if_neg c28).symm.trans h
      cases h
/-- ClickOrders.windows()I -/
def xT_345 (b : Bool) (rf : jRf) (F : jSc → (Nat → Nat) → jSc → jAl → Option (Int32 × jSc × (Nat → Nat) × jSc × jAl)) (e : Nat) : Prop := ∀  (Post : jPo) (sc : jSc) (mr : (Nat → Nat)) (ar : jSc) (al : jAl) (r9 : Int32) (sc9 : jSc) (mr9 : (Nat → Nat)) (ar9 : jSc) (al9 : jAl), F sc mr ar al = some (r9, sc9, mr9, ar9, al9) → Post (some (.int r9)) sc9 (x_mk mr9 rf) ar9 al9 → gW (gX b) 345 e 0 (j_av [.ref 734]) [] sc (x_mk mr rf) ar al Post
def xF_345 (sc : jSc) (mr : (Nat → Nat)) (ar : jSc) (al : jAl) : Option (Int32 × jSc × (Nat → Nat) × jSc × jAl) :=
  (o_b4 (xF_244 sc mr ar al) (fun sce1 mre1 are1 ale1 => some ((sc 796 1), sce1, mre1, are1, ale1)))
set_option maxHeartbeats 4000000 in
theorem xt_345 {b : Bool} {rf : jRf} {d : Nat} : xT_345 b rf xF_345 (d + 8) := by
  intro  Post  sc mr ar al r9 sc9 mr9 ar9 al9 h hP
  unfold xF_345 at h
  refine gl_entry (m := 1) rfl ?_
  show gL (gX b) 345 (d + 8) 0 [some (.ref 734), none] [] sc (x_mk mr rf) ar al Post
  refine gl_aload_n (gX_LK b) y_345_0 rfl rfl ?_
  refine gl_getA (gX_LK b) y_345_1 yf_345_70 ys_734 rfl rfl rfl rfl ?_
  refine gl_get (gX_LK b) y_345_4 yf_345_287 ys_796 rfl rfl rfl rfl ?_
  refine gl_istore_n (vs2 := [some (.ref 734), some (.int (sc 796 1))]) (gX_LK b) y_345_7 rfl rfl rfl rfl ?_
  refine gl_aload_n (gX_LK b) y_345_8 rfl rfl ?_
  refine gl_getA (gX_LK b) y_345_9 yf_345_70 ys_734 rfl rfl rfl rfl ?_
  obtain ⟨sce1, mre1, are1, ale1, e1, h⟩ := o_k4 h
  refine gl_callV (gX_LK b) y_345_12 ym_345_97 rfl rfl rfl ys_796 yx_244 rfl rfl ((xt_244 )  _  _ _ _ _ _ _ _ _ e1 ?_)
  refine gl_iload_n (gX_LK b) y_345_15 rfl rfl ?_
  exact gl_ireturn y_345_16 (Or.inl yt_345) (by cases h; exact hP)
/-- ClickOrders.comes(II)I -/
def xT_346 (b : Bool) (rf : jRf) (F : Int32 → Int32 → jSc → (Nat → Nat) → jSc → jAl → Option (Int32 × jSc × (Nat → Nat) × jSc × jAl)) (e : Nat) : Prop := ∀  (Post : jPo) (x1 : Int32) (x2 : Int32) (sc : jSc) (mr : (Nat → Nat)) (ar : jSc) (al : jAl) (r9 : Int32) (sc9 : jSc) (mr9 : (Nat → Nat)) (ar9 : jSc) (al9 : jAl), F x1 x2 sc mr ar al = some (r9, sc9, mr9, ar9, al9) → Post (some (.int r9)) sc9 (x_mk mr9 rf) ar9 al9 → gW (gX b) 346 e 0 (j_av [.ref 734, .int x1, .int x2]) [] sc (x_mk mr rf) ar al Post
def xF_346 (x1 : Int32) (x2 : Int32) (sc : jSc) (mr : (Nat → Nat)) (ar : jSc) (al : jAl) : Option (Int32 × jSc × (Nat → Nat) × jSc × jAl) :=
  (o_b4 (xF_354 x2 sc mr ar al) (fun sce1 mre1 are1 ale1 => (if x1 < 0 then none else (if x1 ≤ (1 : Int32) then (o_b5 (xF_245 x1 x2 sce1 mre1 are1 ale1) (fun ve4 sce4 mre4 are4 ale4 => some (ve4, sce4, mre4, are4, ale4))) else none))))
set_option maxHeartbeats 4000000 in
theorem xt_346 {b : Bool} {rf : jRf} {d : Nat} : xT_346 b rf xF_346 (d + 7) := by
  intro  Post x1 x2 sc mr ar al r9 sc9 mr9 ar9 al9 h hP
  unfold xF_346 at h
  refine gl_entry (m := 0) rfl ?_
  show gL (gX b) 346 (d + 7) 0 [some (.ref 734), some (.int x1), some (.int x2)] [] sc (x_mk mr rf) ar al Post
  refine gl_aload_n (gX_LK b) y_346_0 rfl rfl ?_
  refine gl_iload_n (gX_LK b) y_346_1 rfl rfl ?_
  obtain ⟨sce1, mre1, are1, ale1, e1, h⟩ := o_k4 h
  refine gl_callV (gX_LK b) y_346_2 ym_346_124 rfl rfl rfl ys_734 yx_354 rfl rfl ((xt_354 )  _ _ _ _ _ _ _ _ _ _ e1 ?_)
  refine gl_iload_n (gX_LK b) y_346_5 rfl rfl ?_
  refine gl_if_lt (gX_LK b) y_346_6 rfl rfl (fun c2 => ?_) (fun c2 => ?_)
  · have h := (if_pos c2).symm.trans h
    cases h
  · have h := (if_neg c2).symm.trans h
    refine gl_iload_n (gX_LK b) y_346_9 rfl rfl ?_
    refine gl_iconst (gX_LK b) y_346_10 ci_1 rfl ?_
    refine gl_ic_le (gX_LK b) y_346_11 rfl rfl (fun c3 => ?_) (fun c3 => ?_)
    · have h := (if_pos c3).symm.trans h
      refine gl_aload_n (gX_LK b) y_346_22 rfl rfl ?_
      refine gl_getA (gX_LK b) y_346_23 yf_346_70 ys_734 rfl rfl rfl rfl ?_
      refine gl_iload_n (gX_LK b) y_346_26 rfl rfl ?_
      refine gl_iload_n (gX_LK b) y_346_27 rfl rfl ?_
      obtain ⟨ve4, sce4, mre4, are4, ale4, e4, h⟩ := o_k5 h
      refine gl_callV (gX_LK b) y_346_28 ym_346_290 rfl rfl rfl ys_796 yx_245 rfl rfl ((xt_245 )  _ _ _ _ _ _ _ _ _ _ _ _ e4 ?_)
      exact gl_ireturn y_346_31 (Or.inl yt_346) (by cases h; exact hP)
    · have h := (if_neg c3).symm.trans h
      cases h
/-- ClickOrders.shows(II)I -/
def xT_347 (b : Bool) (rf : jRf) (F : Int32 → Int32 → jSc → (Nat → Nat) → jSc → jAl → Option (Int32 × jSc × (Nat → Nat) × jSc × jAl)) (e : Nat) : Prop := ∀  (Post : jPo) (x1 : Int32) (x2 : Int32) (sc : jSc) (mr : (Nat → Nat)) (ar : jSc) (al : jAl) (r9 : Int32) (sc9 : jSc) (mr9 : (Nat → Nat)) (ar9 : jSc) (al9 : jAl), F x1 x2 sc mr ar al = some (r9, sc9, mr9, ar9, al9) → Post (some (.int r9)) sc9 (x_mk mr9 rf) ar9 al9 → gW (gX b) 347 e 0 (j_av [.ref 734, .int x1, .int x2]) [] sc (x_mk mr rf) ar al Post
def xF_347 (x1 : Int32) (x2 : Int32) (sc : jSc) (mr : (Nat → Nat)) (ar : jSc) (al : jAl) : Option (Int32 × jSc × (Nat → Nat) × jSc × jAl) :=
  (o_b4 (xF_355 x2 (8 : Int32) sc mr ar al) (fun sce1 mre1 are1 ale1 => (if x1 < 0 then none else (if x1 ≤ (1 : Int32) then (if iB x1 10 then (if iB x2 50 then some ((are1 ((799 + 2 * iN x1) + 1) (iN x2)), sce1, mre1, are1, ale1) else none) else none) else none))))
set_option maxHeartbeats 4000000 in
theorem xt_347 {b : Bool} {rf : jRf} {d : Nat} : xT_347 b rf xF_347 (d + 2) := by
  intro  Post x1 x2 sc mr ar al r9 sc9 mr9 ar9 al9 h hP
  unfold xF_347 at h
  refine gl_entry (m := 0) rfl ?_
  show gL (gX b) 347 (d + 2) 0 [some (.ref 734), some (.int x1), some (.int x2)] [] sc (x_mk mr rf) ar al Post
  refine gl_aload_n (gX_LK b) y_347_0 rfl rfl ?_
  refine gl_iload_n (gX_LK b) y_347_1 rfl rfl ?_
  refine gl_bipush (gX_LK b) y_347_2 cb_8 rfl ?_
  obtain ⟨sce1, mre1, are1, ale1, e1, h⟩ := o_k4 h
  refine gl_callV (gX_LK b) y_347_4 ym_347_139 rfl rfl rfl ys_734 yx_355 rfl rfl ((xt_355 )  _ _ _ _ _ _ _ _ _ _ _ e1 ?_)
  refine gl_iload_n (gX_LK b) y_347_7 rfl rfl ?_
  refine gl_if_lt (gX_LK b) y_347_8 rfl rfl (fun c2 => ?_) (fun c2 => ?_)
  · have h := (if_pos c2).symm.trans h
    cases h
  · have h := (if_neg c2).symm.trans h
    refine gl_iload_n (gX_LK b) y_347_11 rfl rfl ?_
    refine gl_iconst (gX_LK b) y_347_12 ci_1 rfl ?_
    refine gl_ic_le (gX_LK b) y_347_13 rfl rfl (fun c3 => ?_) (fun c3 => ?_)
    · have h := (if_pos c3).symm.trans h
      refine gl_aload_n (gX_LK b) y_347_24 rfl rfl ?_
      refine gl_getA (gX_LK b) y_347_25 yf_347_70 ys_734 rfl rfl rfl rfl ?_
      refine gl_getA (gX_LK b) y_347_28 yf_347_293 ys_796 rfl rfl rfl rfl ?_
      refine gl_iload_n (gX_LK b) y_347_31 rfl rfl ?_
      obtain ⟨c4, h⟩ := o_ck h
      refine gl_aaload (gX_LK b) y_347_32 ys_797 c4 (Or.inl rfl) (yo_797 (iB_lt c4)) rfl ?_
      refine gl_getA (gX_LK b) y_347_33 yf_347_143 (ys_pg (pg_797 (iB_lt c4))) rfl rfl (yr_pg (pg_797 (iB_lt c4))) rfl ?_
      refine gl_iload_n (gX_LK b) y_347_36 rfl rfl ?_
      obtain ⟨c5, h⟩ := o_ck h
      refine gl_iaload (gX_LK b) y_347_37 (ys_pgc (pg_797 (iB_lt c4))) c5 rfl rfl ?_
      exact gl_ireturn y_347_38 (Or.inl yt_347) (by cases h; exact hP)
    · have h := (if_neg c3).symm.trans h
      cases h
/-- ClickOrders.lost(I)I -/
def xT_348 (b : Bool) (rf : jRf) (F : Int32 → jSc → (Nat → Nat) → jSc → jAl → Option (Int32 × jSc × (Nat → Nat) × jSc × jAl)) (e : Nat) : Prop := ∀  (Post : jPo) (x1 : Int32) (sc : jSc) (mr : (Nat → Nat)) (ar : jSc) (al : jAl) (r9 : Int32) (sc9 : jSc) (mr9 : (Nat → Nat)) (ar9 : jSc) (al9 : jAl), F x1 sc mr ar al = some (r9, sc9, mr9, ar9, al9) → Post (some (.int r9)) sc9 (x_mk mr9 rf) ar9 al9 → gW (gX b) 348 e 0 (j_av [.ref 734, .int x1]) [] sc (x_mk mr rf) ar al Post
def xF_348 (x1 : Int32) (sc : jSc) (mr : (Nat → Nat)) (ar : jSc) (al : jAl) : Option (Int32 × jSc × (Nat → Nat) × jSc × jAl) :=
  (o_b4 (xF_358 x1 sc mr ar al) (fun sce1 mre1 are1 ale1 => (o_b5 (xF_247 x1 sce1 mre1 are1 ale1) (fun ve2 sce2 mre2 are2 ale2 => some (ve2, sce2, mre2, are2, ale2)))))
set_option maxHeartbeats 4000000 in
theorem xt_348 {b : Bool} {rf : jRf} {d : Nat} : xT_348 b rf xF_348 (d + 47) := by
  intro  Post x1 sc mr ar al r9 sc9 mr9 ar9 al9 h hP
  unfold xF_348 at h
  refine gl_entry (m := 0) rfl ?_
  show gL (gX b) 348 (d + 47) 0 [some (.ref 734), some (.int x1)] [] sc (x_mk mr rf) ar al Post
  refine gl_aload_n (gX_LK b) y_348_0 rfl rfl ?_
  refine gl_iload_n (gX_LK b) y_348_1 rfl rfl ?_
  obtain ⟨sce1, mre1, are1, ale1, e1, h⟩ := o_k4 h
  refine gl_callV (gX_LK b) y_348_2 ym_348_234 rfl rfl rfl ys_734 yx_358 rfl rfl ((xt_358 )  _ _ _ _ _ _ _ _ _ _ e1 ?_)
  refine gl_aload_n (gX_LK b) y_348_5 rfl rfl ?_
  refine gl_getA (gX_LK b) y_348_6 yf_348_70 ys_734 rfl rfl rfl rfl ?_
  refine gl_iload_n (gX_LK b) y_348_9 rfl rfl ?_
  obtain ⟨ve2, sce2, mre2, are2, ale2, e2, h⟩ := o_k5 h
  refine gl_callV (gX_LK b) y_348_10 ym_348_297 rfl rfl rfl ys_796 yx_247 rfl rfl ((xt_247 )  _ _ _ _ _ _ _ _ _ _ _ e2 ?_)
  exact gl_ireturn y_348_13 (Or.inl yt_348) (by cases h; exact hP)
/-- ClickOrders.newer(II)I -/
def xT_349 (b : Bool) (rf : jRf) (F : Int32 → Int32 → jSc → (Nat → Nat) → jSc → jAl → Option (Int32 × jSc × (Nat → Nat) × jSc × jAl)) (e : Nat) : Prop := ∀  (Post : jPo) (x1 : Int32) (x2 : Int32) (sc : jSc) (mr : (Nat → Nat)) (ar : jSc) (al : jAl) (r9 : Int32) (sc9 : jSc) (mr9 : (Nat → Nat)) (ar9 : jSc) (al9 : jAl), F x1 x2 sc mr ar al = some (r9, sc9, mr9, ar9, al9) → Post (some (.int r9)) sc9 (x_mk mr9 rf) ar9 al9 → gW (gX b) 349 e 0 (j_av [.ref 734, .int x1, .int x2]) [] sc (x_mk mr rf) ar al Post
def xF_349 (x1 : Int32) (x2 : Int32) (sc : jSc) (mr : (Nat → Nat)) (ar : jSc) (al : jAl) : Option (Int32 × jSc × (Nat → Nat) × jSc × jAl) :=
  (o_b4 (xF_357 x1 x2 sc mr ar al) (fun sce1 mre1 are1 ale1 => (if x_pr (mre1 1) = true then (o_b4 (xF_283 sce1 (va_up mre1 3 (mre1 1)) are1 ale1) (fun sce3 mre3 are3 ale3 => (o_b4 (xF_285 x1 x2 (0 : Int32) sce3 mre3 are3 ale3) (fun sce4 mre4 are4 ale4 => (o_b5 (xF_286 sce4 mre4 are4 ale4) (fun ve5 sce5 mre5 are5 ale5 => (if x_pr (mre5 0) = true then (o_b4 (xF_283 sce5 (va_up mre5 3 (mre5 0)) are5 ale5) (fun sce7 mre7 are7 ale7 => (if ve5 < 0 then (o_b4 (xF_285 x1 x2 (0 : Int32) sce7 mre7 are7 ale7) (fun sce9 mre9 are9 ale9 => (o_b5 (xF_286 sce9 mre9 are9 ale9) (fun ve10 sce10 mre10 are10 ale10 => some ((if ve10 < (-1 : Int32) then (-1 : Int32) else ve10), sce10, mre10, are10, ale10))))) else some ((-1 : Int32), sce7, mre7, are7, ale7)))) else none))))))) else none)))
set_option maxHeartbeats 4000000 in
theorem xt_349 {b : Bool} {rf : jRf} {d : Nat} : xT_349 b rf xF_349 (d + 7) := by
  intro  Post x1 x2 sc mr ar al r9 sc9 mr9 ar9 al9 h hP
  unfold xF_349 at h
  refine gl_entry (m := 1) rfl ?_
  show gL (gX b) 349 (d + 7) 0 [some (.ref 734), some (.int x1), some (.int x2), none] [] sc (x_mk mr rf) ar al Post
  refine gl_aload_n (gX_LK b) y_349_0 rfl rfl ?_
  refine gl_iload_n (gX_LK b) y_349_1 rfl rfl ?_
  refine gl_iload_n (gX_LK b) y_349_2 rfl rfl ?_
  obtain ⟨sce1, mre1, are1, ale1, e1, h⟩ := o_k4 h
  refine gl_callV (gX_LK b) y_349_3 ym_349_214 rfl rfl rfl ys_734 yx_357 rfl rfl ((xt_357 )  _ _ _ _ _ _ _ _ _ _ _ e1 ?_)
  refine gl_aload_n (gX_LK b) y_349_6 rfl rfl ?_
  refine gl_getA (gX_LK b) y_349_7 yf_349_47 ys_734 rfl rfl rfl rfl ?_
  refine gl_aload_n (gX_LK b) y_349_10 rfl rfl ?_
  obtain ⟨c2, h⟩ := o_ck h
  refine gl_getA (gX_LK b) y_349_11 yf_349_27 ys_734 rfl rfl rfl rfl ?_
  refine gl_putA (gX_LK b) y_349_14 yf_349_112 ys_757 rfl rfl rfl xmk_3 rfl ?_
  refine gl_aload_n (gX_LK b) y_349_17 rfl rfl ?_
  refine gl_getA (gX_LK b) y_349_18 yf_349_63 ys_734 rfl rfl rfl rfl ?_
  obtain ⟨sce3, mre3, are3, ale3, e3, h⟩ := o_k4 h
  refine gl_callV (gX_LK b) y_349_21 ym_349_281 rfl rfl rfl ys_773 yx_283 rfl rfl ((xt_283 )  _  _ _ _ _ _ _ _ _ e3 ?_)
  refine gl_aload_n (gX_LK b) y_349_24 rfl rfl ?_
  refine gl_getA (gX_LK b) y_349_25 yf_349_63 ys_734 rfl rfl rfl rfl ?_
  refine gl_iload_n (gX_LK b) y_349_28 rfl rfl ?_
  refine gl_iload_n (gX_LK b) y_349_29 rfl rfl ?_
  refine gl_iconst (gX_LK b) y_349_30 ci_0 rfl ?_
  obtain ⟨sce4, mre4, are4, ale4, e4, h⟩ := o_k4 h
  refine gl_callV (gX_LK b) y_349_31 ym_349_217 rfl rfl rfl ys_773 yx_285 rfl rfl ((xt_285 )  _ _ _ _ _ _ _ _ _ _ _ _ e4 ?_)
  refine gl_aload_n (gX_LK b) y_349_34 rfl rfl ?_
  refine gl_getA (gX_LK b) y_349_35 yf_349_63 ys_734 rfl rfl rfl rfl ?_
  obtain ⟨ve5, sce5, mre5, are5, ale5, e5, h⟩ := o_k5 h
  refine gl_callV (gX_LK b) y_349_38 ym_349_221 rfl rfl rfl ys_773 yx_286 rfl rfl ((xt_286 )  _  _ _ _ _ _ _ _ _ _ e5 ?_)
  refine gl_istore_n (vs2 := [some (.ref 734), some (.int x1), some (.int x2), some (.int ve5)]) (gX_LK b) y_349_41 rfl rfl rfl rfl ?_
  refine gl_aload_n (gX_LK b) y_349_42 rfl rfl ?_
  refine gl_getA (gX_LK b) y_349_43 yf_349_47 ys_734 rfl rfl rfl rfl ?_
  refine gl_aload_n (gX_LK b) y_349_46 rfl rfl ?_
  obtain ⟨c6, h⟩ := o_ck h
  refine gl_getA (gX_LK b) y_349_47 yf_349_23 ys_734 rfl rfl rfl rfl ?_
  refine gl_putA (gX_LK b) y_349_50 yf_349_112 ys_757 rfl rfl rfl xmk_3 rfl ?_
  refine gl_aload_n (gX_LK b) y_349_53 rfl rfl ?_
  refine gl_getA (gX_LK b) y_349_54 yf_349_63 ys_734 rfl rfl rfl rfl ?_
  obtain ⟨sce7, mre7, are7, ale7, e7, h⟩ := o_k4 h
  refine gl_callV (gX_LK b) y_349_57 ym_349_281 rfl rfl rfl ys_773 yx_283 rfl rfl ((xt_283 )  _  _ _ _ _ _ _ _ _ e7 ?_)
  refine gl_iload_n (gX_LK b) y_349_60 rfl rfl ?_
  refine gl_if_lt (gX_LK b) y_349_61 rfl rfl (fun c8 => ?_) (fun c8 => ?_)
  · have h := (if_pos c8).symm.trans h
    refine gl_aload_n (gX_LK b) y_349_66 rfl rfl ?_
    refine gl_getA (gX_LK b) y_349_67 yf_349_63 ys_734 rfl rfl rfl rfl ?_
    refine gl_iload_n (gX_LK b) y_349_70 rfl rfl ?_
    refine gl_iload_n (gX_LK b) y_349_71 rfl rfl ?_
    refine gl_iconst (gX_LK b) y_349_72 ci_0 rfl ?_
    obtain ⟨sce9, mre9, are9, ale9, e9, h⟩ := o_k4 h
    refine gl_callV (gX_LK b) y_349_73 ym_349_217 rfl rfl rfl ys_773 yx_285 rfl rfl ((xt_285 )  _ _ _ _ _ _ _ _ _ _ _ _ e9 ?_)
    refine gl_aload_n (gX_LK b) y_349_76 rfl rfl ?_
    refine gl_getA (gX_LK b) y_349_77 yf_349_63 ys_734 rfl rfl rfl rfl ?_
    obtain ⟨ve10, sce10, mre10, are10, ale10, e10, h⟩ := o_k5 h
    refine gl_callV (gX_LK b) y_349_80 ym_349_221 rfl rfl rfl ys_773 yx_286 rfl rfl ((xt_286 )  _  _ _ _ _ _ _ _ _ _ e10 ?_)
    refine gl_iconst (gX_LK b) y_349_83 ci_m1 rfl ?_
    refine gl_max (gX_LK b) y_349_84 yn_349_197 yz_349_197 rfl rfl ?_
    exact gl_ireturn y_349_87 (Or.inl yt_349) (by cases h; exact hP)
  · have h := (if_neg c8).symm.trans h
    refine gl_iconst (gX_LK b) y_349_64 ci_m1 rfl ?_
    exact gl_ireturn y_349_65 (Or.inl yt_349) (by cases h; exact hP)
/-- ClickOrders.count(I)I -/
def xT_350 (b : Bool) (rf : jRf) (F : Int32 → jSc → (Nat → Nat) → jSc → jAl → Option (Int32 × jSc × (Nat → Nat) × jSc × jAl)) (e : Nat) : Prop := ∀  (Post : jPo) (x1 : Int32) (sc : jSc) (mr : (Nat → Nat)) (ar : jSc) (al : jAl) (r9 : Int32) (sc9 : jSc) (mr9 : (Nat → Nat)) (ar9 : jSc) (al9 : jAl), F x1 sc mr ar al = some (r9, sc9, mr9, ar9, al9) → Post (some (.int r9)) sc9 (x_mk mr9 rf) ar9 al9 → gW (gX b) 350 e 0 (j_av [.ref 734, .int x1]) [] sc (x_mk mr rf) ar al Post
def xF_350 (x1 : Int32) (sc : jSc) (mr : (Nat → Nat)) (ar : jSc) (al : jAl) : Option (Int32 × jSc × (Nat → Nat) × jSc × jAl) :=
  (if x1 = (0 : Int32) then (if x_pr (mr 0) = true then some ((sc (mr 0) 4), sc, mr, ar, al) else none) else (if x1 = (1 : Int32) then (if x_pr (mr 0) = true then some ((sc (mr 0) 5), sc, mr, ar, al) else none) else (if x1 = (2 : Int32) then some ((sc 759 5), sc, mr, ar, al) else (if x1 = (3 : Int32) then (o_b5 (xF_231 760 sc mr ar al) (fun ve3 sce3 mre3 are3 ale3 => some (ve3, sce3, mre3, are3, ale3))) else (if x1 = (4 : Int32) then (o_b5 (xF_233 760 sc mr ar al) (fun ve4 sce4 mre4 are4 ale4 => some (ve4, sce4, mre4, are4, ale4))) else (if x1 = (5 : Int32) then some ((sc 736 5), sc, mr, ar, al) else (if x1 = (6 : Int32) then some ((sc 819 1), sc, mr, ar, al) else (if x1 = (7 : Int32) then some ((sc 734 11), sc, mr, ar, al) else some ((-1 : Int32), sc, mr, ar, al)))))))))
set_option maxHeartbeats 4000000 in
theorem xt_350 {b : Bool} {rf : jRf} {d : Nat} : xT_350 b rf xF_350 (d + 2) := by
  intro  Post x1 sc mr ar al r9 sc9 mr9 ar9 al9 h hP
  unfold xF_350 at h
  refine gl_entry (m := 0) rfl ?_
  show gL (gX b) 350 (d + 2) 0 [some (.ref 734), some (.int x1)] [] sc (x_mk mr rf) ar al Post
  refine gl_iload_n (gX_LK b) y_350_0 rfl rfl ?_
  refine gl_tsw (gX_LK b) y_350_1 rfl rfl (fun c => ?_) (fun j o ho hj => ?_)
  · have h := (if_neg (fun z => c 0 (by decide) (by rw [z]; decide))).symm.trans h
    have h := (if_neg (fun z => c 1 (by decide) (by rw [z]; decide))).symm.trans h
    have h := (if_neg (fun z => c 2 (by decide) (by rw [z]; decide))).symm.trans h
    have h := (if_neg (fun z => c 3 (by decide) (by rw [z]; decide))).symm.trans h
    have h := (if_neg (fun z => c 4 (by decide) (by rw [z]; decide))).symm.trans h
    have h := (if_neg (fun z => c 5 (by decide) (by rw [z]; decide))).symm.trans h
    have h := (if_neg (fun z => c 6 (by decide) (by rw [z]; decide))).symm.trans h
    have h := (if_neg (fun z => c 7 (by decide) (by rw [z]; decide))).symm.trans h
    refine gl_iconst (gX_LK b) y_350_115 ci_m1 rfl ?_
    exact gl_ireturn y_350_116 (Or.inl yt_350) (by cases h; exact hP)
  · rcases (show j = 0 ∨ j = 1 ∨ j = 2 ∨ j = 3 ∨ j = 4 ∨ j = 5 ∨ j = 6 ∨ j = 7 by have := (Array.getElem?_eq_some_iff.mp ho).1; simp only [List.size_toArray, List.length_cons, List.length_nil] at this; omega) with rfl | rfl | rfl | rfl | rfl | rfl | rfl | rfl
    · have hj : x1 = (0 : Int32) := Int32.toInt_inj.mp (hj.trans (by decide))
      cases (show some _ = some _ from ho)
      have h := (if_pos hj).symm.trans h
      refine ⟨48, rfl, ?_⟩
      refine gl_aload_n (gX_LK b) y_350_48 rfl rfl ?_
      obtain ⟨c1, h⟩ := o_ck h
      refine gl_getA (gX_LK b) y_350_49 yf_350_23 ys_734 rfl rfl rfl rfl ?_
      refine gl_get (gX_LK b) y_350_52 yf_350_118 (ys_pr c1) rfl rfl rfl rfl ?_
      exact gl_ireturn y_350_55 (Or.inl yt_350) (by cases h; exact hP)
    · have hj : x1 = (1 : Int32) := Int32.toInt_inj.mp (hj.trans (by decide))
      cases (show some _ = some _ from ho)
      have h := (if_neg (fun z => absurd (hj.symm.trans z) (by decide))).symm.trans h
      have h := (if_pos hj).symm.trans h
      refine ⟨56, rfl, ?_⟩
      refine gl_aload_n (gX_LK b) y_350_56 rfl rfl ?_
      obtain ⟨c2, h⟩ := o_ck h
      refine gl_getA (gX_LK b) y_350_57 yf_350_23 ys_734 rfl rfl rfl rfl ?_
      refine gl_get (gX_LK b) y_350_60 yf_350_300 (ys_pr c2) rfl rfl rfl rfl ?_
      exact gl_ireturn y_350_63 (Or.inl yt_350) (by cases h; exact hP)
    · have hj : x1 = (2 : Int32) := Int32.toInt_inj.mp (hj.trans (by decide))
      cases (show some _ = some _ from ho)
      have h := (if_neg (fun z => absurd (hj.symm.trans z) (by decide))).symm.trans h
      have h := (if_neg (fun z => absurd (hj.symm.trans z) (by decide))).symm.trans h
      have h := (if_pos hj).symm.trans h
      refine ⟨64, rfl, ?_⟩
      refine gl_aload_n (gX_LK b) y_350_64 rfl rfl ?_
      refine gl_getA (gX_LK b) y_350_65 yf_350_56 ys_734 rfl rfl rfl rfl ?_
      refine gl_get (gX_LK b) y_350_68 yf_350_121 ys_759 rfl rfl rfl rfl ?_
      exact gl_ireturn y_350_71 (Or.inl yt_350) (by cases h; exact hP)
    · have hj : x1 = (3 : Int32) := Int32.toInt_inj.mp (hj.trans (by decide))
      cases (show some _ = some _ from ho)
      have h := (if_neg (fun z => absurd (hj.symm.trans z) (by decide))).symm.trans h
      have h := (if_neg (fun z => absurd (hj.symm.trans z) (by decide))).symm.trans h
      have h := (if_neg (fun z => absurd (hj.symm.trans z) (by decide))).symm.trans h
      have h := (if_pos hj).symm.trans h
      refine ⟨72, rfl, ?_⟩
      refine gl_aload_n (gX_LK b) y_350_72 rfl rfl ?_
      refine gl_getA (gX_LK b) y_350_73 yf_350_56 ys_734 rfl rfl rfl rfl ?_
      refine gl_getA (gX_LK b) y_350_76 yf_350_127 ys_759 rfl rfl rfl rfl ?_
      obtain ⟨ve3, sce3, mre3, are3, ale3, e3, h⟩ := o_k5 h
      refine gl_callV (gX_LK b) y_350_79 ym_350_303 rfl rfl rfl ys_760 yx_231 rfl rfl ((xt_231 )  _ _ (show x_pg 760 = true from rfl) _ _ _ _ _ _ _ _ _ e3 ?_)
      exact gl_ireturn y_350_82 (Or.inl yt_350) (by cases h; exact hP)
    · have hj : x1 = (4 : Int32) := Int32.toInt_inj.mp (hj.trans (by decide))
      cases (show some _ = some _ from ho)
      have h := (if_neg (fun z => absurd (hj.symm.trans z) (by decide))).symm.trans h
      have h := (if_neg (fun z => absurd (hj.symm.trans z) (by decide))).symm.trans h
      have h := (if_neg (fun z => absurd (hj.symm.trans z) (by decide))).symm.trans h
      have h := (if_neg (fun z => absurd (hj.symm.trans z) (by decide))).symm.trans h
      have h := (if_pos hj).symm.trans h
      refine ⟨83, rfl, ?_⟩
      refine gl_aload_n (gX_LK b) y_350_83 rfl rfl ?_
      refine gl_getA (gX_LK b) y_350_84 yf_350_56 ys_734 rfl rfl rfl rfl ?_
      refine gl_getA (gX_LK b) y_350_87 yf_350_127 ys_759 rfl rfl rfl rfl ?_
      obtain ⟨ve4, sce4, mre4, are4, ale4, e4, h⟩ := o_k5 h
      refine gl_callV (gX_LK b) y_350_90 ym_350_152 rfl rfl rfl ys_760 yx_233 rfl rfl ((xt_233 )  _ _ (show x_pg 760 = true from rfl) _ _ _ _ _ _ _ _ _ e4 ?_)
      exact gl_ireturn y_350_93 (Or.inl yt_350) (by cases h; exact hP)
    · have hj : x1 = (5 : Int32) := Int32.toInt_inj.mp (hj.trans (by decide))
      cases (show some _ = some _ from ho)
      have h := (if_neg (fun z => absurd (hj.symm.trans z) (by decide))).symm.trans h
      have h := (if_neg (fun z => absurd (hj.symm.trans z) (by decide))).symm.trans h
      have h := (if_neg (fun z => absurd (hj.symm.trans z) (by decide))).symm.trans h
      have h := (if_neg (fun z => absurd (hj.symm.trans z) (by decide))).symm.trans h
      have h := (if_neg (fun z => absurd (hj.symm.trans z) (by decide))).symm.trans h
      have h := (if_pos hj).symm.trans h
      refine ⟨94, rfl, ?_⟩
      refine gl_aload_n (gX_LK b) y_350_94 rfl rfl ?_
      refine gl_getA (gX_LK b) y_350_95 yf_350_16 ys_734 rfl rfl rfl rfl ?_
      refine gl_get (gX_LK b) y_350_98 yf_350_252 ys_736 rfl rfl rfl rfl ?_
      exact gl_ireturn y_350_101 (Or.inl yt_350) (by cases h; exact hP)
    · have hj : x1 = (6 : Int32) := Int32.toInt_inj.mp (hj.trans (by decide))
      cases (show some _ = some _ from ho)
      have h := (if_neg (fun z => absurd (hj.symm.trans z) (by decide))).symm.trans h
      have h := (if_neg (fun z => absurd (hj.symm.trans z) (by decide))).symm.trans h
      have h := (if_neg (fun z => absurd (hj.symm.trans z) (by decide))).symm.trans h
      have h := (if_neg (fun z => absurd (hj.symm.trans z) (by decide))).symm.trans h
      have h := (if_neg (fun z => absurd (hj.symm.trans z) (by decide))).symm.trans h
      have h := (if_neg (fun z => absurd (hj.symm.trans z) (by decide))).symm.trans h
      have h := (if_pos hj).symm.trans h
      refine ⟨102, rfl, ?_⟩
      refine gl_aload_n (gX_LK b) y_350_102 rfl rfl ?_
      refine gl_getA (gX_LK b) y_350_103 yf_350_77 ys_734 rfl rfl rfl rfl ?_
      refine gl_get (gX_LK b) y_350_106 yf_350_241 ys_819 rfl rfl rfl rfl ?_
      exact gl_ireturn y_350_109 (Or.inl yt_350) (by cases h; exact hP)
    · have hj : x1 = (7 : Int32) := Int32.toInt_inj.mp (hj.trans (by decide))
      cases (show some _ = some _ from ho)
      have h := (if_neg (fun z => absurd (hj.symm.trans z) (by decide))).symm.trans h
      have h := (if_neg (fun z => absurd (hj.symm.trans z) (by decide))).symm.trans h
      have h := (if_neg (fun z => absurd (hj.symm.trans z) (by decide))).symm.trans h
      have h := (if_neg (fun z => absurd (hj.symm.trans z) (by decide))).symm.trans h
      have h := (if_neg (fun z => absurd (hj.symm.trans z) (by decide))).symm.trans h
      have h := (if_neg (fun z => absurd (hj.symm.trans z) (by decide))).symm.trans h
      have h := (if_neg (fun z => absurd (hj.symm.trans z) (by decide))).symm.trans h
      have h := (if_pos hj).symm.trans h
      refine ⟨110, rfl, ?_⟩
      refine gl_aload_n (gX_LK b) y_350_110 rfl rfl ?_
      refine gl_get (gX_LK b) y_350_111 yf_350_81 ys_734 rfl rfl rfl rfl ?_
      exact gl_ireturn y_350_114 (Or.inl yt_350) (by cases h; exact hP)
