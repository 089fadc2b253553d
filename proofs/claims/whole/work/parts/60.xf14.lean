/-! ClickOrders: its methods as functions, and that the machine does what they say. -/
/-- ClickOrders.checkHappening(I)V -/
def xT_356 (b : Bool) (rf : jRf) (F : Int32 → jSc → (Nat → Nat) → jSc → jAl → Option (jSc × (Nat → Nat) × jSc × jAl)) (e : Nat) : Prop := ∀  (Post : jPo) (x1 : Int32) (sc : jSc) (mr : (Nat → Nat)) (ar : jSc) (al : jAl) (sc9 : jSc) (mr9 : (Nat → Nat)) (ar9 : jSc) (al9 : jAl), F x1 sc mr ar al = some (sc9, mr9, ar9, al9) → Post none sc9 (x_mk mr9 rf) ar9 al9 → gW (gX b) 356 e 0 (j_av [.ref 734, .int x1]) [] sc (x_mk mr rf) ar al Post
def xF_356 (x1 : Int32) (sc : jSc) (mr : (Nat → Nat)) (ar : jSc) (al : jAl) : Option (jSc × (Nat → Nat) × jSc × jAl) :=
  (if x1 < 0 then none else (if x1 < (sc 759 5) then some (sc, mr, ar, al) else none))
set_option maxHeartbeats 4000000 in
theorem xt_356 {b : Bool} {rf : jRf} {d : Nat} : xT_356 b rf xF_356 (d + 1) := by
  intro  Post x1 sc mr ar al sc9 mr9 ar9 al9 h hP
  unfold xF_356 at h
  refine gl_entry (m := 0) rfl ?_
  show gL (gX b) 356 (d + 1) 0 [some (.ref 734), some (.int x1)] [] sc (x_mk mr rf) ar al Post
  refine gl_iload_n (gX_LK b) y_356_0 rfl rfl ?_
  refine gl_if_lt (gX_LK b) y_356_1 rfl rfl (fun c1 => ?_) (fun c1 => ?_)
  · have h := (if_pos c1).symm.trans h
    cases h
  · have h := (if_neg c1).symm.trans h
    refine gl_iload_n (gX_LK b) y_356_4 rfl rfl ?_
    refine gl_aload_n (gX_LK b) y_356_5 rfl rfl ?_
    refine gl_getA (gX_LK b) y_356_6 yf_356_56 ys_734 rfl rfl rfl rfl ?_
    refine gl_get (gX_LK b) y_356_9 yf_356_121 ys_759 rfl rfl rfl rfl ?_
    refine gl_ic_lt (gX_LK b) y_356_12 rfl rfl (fun c2 => ?_) (fun c2 => ?_)
    · have h := (if_pos c2).symm.trans h
      exact gl_return y_356_23 yt_356 (by cases h; exact hP)
    · have h := (if_neg c2).symm.trans h
      cases h
/-- ClickOrders.happening(II)I -/
def xT_326 (b : Bool) (rf : jRf) (F : Int32 → Int32 → jSc → (Nat → Nat) → jSc → jAl → Option (Int32 × jSc × (Nat → Nat) × jSc × jAl)) (e : Nat) : Prop := ∀  (Post : jPo) (x1 : Int32) (x2 : Int32) (sc : jSc) (mr : (Nat → Nat)) (ar : jSc) (al : jAl) (r9 : Int32) (sc9 : jSc) (mr9 : (Nat → Nat)) (ar9 : jSc) (al9 : jAl), F x1 x2 sc mr ar al = some (r9, sc9, mr9, ar9, al9) → Post (some (.int r9)) sc9 (x_mk mr9 rf) ar9 al9 → gW (gX b) 326 e 0 (j_av [.ref 734, .int x1, .int x2]) [] sc (x_mk mr rf) ar al Post
def xF_326 (x1 : Int32) (x2 : Int32) (sc : jSc) (mr : (Nat → Nat)) (ar : jSc) (al : jAl) : Option (Int32 × jSc × (Nat → Nat) × jSc × jAl) :=
  (o_b4 (xF_356 x1 sc mr ar al) (fun sce1 mre1 are1 ale1 => (if x2 = (0 : Int32) then (if iB x1 40 then some ((are1 762 (iN x1)), sce1, mre1, are1, ale1) else none) else (if x2 = (1 : Int32) then (if iB x1 40 then some ((are1 763 (iN x1)), sce1, mre1, are1, ale1) else none) else (if x2 = (2 : Int32) then (if iB x1 40 then some ((are1 764 (iN x1)), sce1, mre1, are1, ale1) else none) else (if x2 = (3 : Int32) then (if iB x1 40 then some ((are1 765 (iN x1)), sce1, mre1, are1, ale1) else none) else none))))))
set_option maxHeartbeats 4000000 in
theorem xt_326 {b : Bool} {rf : jRf} {d : Nat} : xT_326 b rf xF_326 (d + 2) := by
  intro  Post x1 x2 sc mr ar al r9 sc9 mr9 ar9 al9 h hP
  unfold xF_326 at h
  refine gl_entry (m := 0) rfl ?_
  show gL (gX b) 326 (d + 2) 0 [some (.ref 734), some (.int x1), some (.int x2)] [] sc (x_mk mr rf) ar al Post
  refine gl_aload_n (gX_LK b) y_326_0 rfl rfl ?_
  refine gl_iload_n (gX_LK b) y_326_1 rfl rfl ?_
  obtain ⟨sce1, mre1, are1, ale1, e1, h⟩ := o_k4 h
  refine gl_callV (gX_LK b) y_326_2 ym_326_167 rfl rfl rfl ys_734 yx_356 rfl rfl ((xt_356 )  _ _ _ _ _ _ _ _ _ _ e1 ?_)
  refine gl_iload_n (gX_LK b) y_326_5 rfl rfl ?_
  refine gl_tsw (gX_LK b) y_326_6 rfl rfl (fun c => ?_) (fun j o ho hj => ?_)
  · have h := (if_neg (fun z => c 0 (by decide) (by rw [z]; decide))).symm.trans h
    have h := (if_neg (fun z => c 1 (by decide) (by rw [z]; decide))).symm.trans h
    have h := (if_neg (fun z => c 2 (by decide) (by rw [z]; decide))).symm.trans h
    have h := (if_neg (fun z => c 3 (by decide) (by rw [z]; decide))).symm.trans h
    cases h
  · rcases (show j = 0 ∨ j = 1 ∨ j = 2 ∨ j = 3 by have := (Array.getElem?_eq_some_iff.mp ho).1; simp only [List.size_toArray, List.length_cons, List.length_nil] at this; omega) with rfl | rfl | rfl | rfl
    · have hj : x2 = (0 : Int32) := Int32.toInt_inj.mp (hj.trans (by decide))
      cases (show some _ = some _ from ho)
      have h := (if_pos hj).symm.trans h
      refine ⟨36, rfl, ?_⟩
      refine gl_aload_n (gX_LK b) y_326_36 rfl rfl ?_
      refine gl_getA (gX_LK b) y_326_37 yf_326_56 ys_734 rfl rfl rfl rfl ?_
      refine gl_getA (gX_LK b) y_326_40 yf_326_170 ys_759 rfl rfl rfl rfl ?_
      refine gl_iload_n (gX_LK b) y_326_43 rfl rfl ?_
      obtain ⟨c2, h⟩ := o_ck h
      refine gl_iaload (gX_LK b) y_326_44 ys_762 c2 rfl rfl ?_
      exact gl_ireturn y_326_45 (Or.inl yt_326) (by cases h; exact hP)
    · have hj : x2 = (1 : Int32) := Int32.toInt_inj.mp (hj.trans (by decide))
      cases (show some _ = some _ from ho)
      have h := (if_neg (fun z => absurd (hj.symm.trans z) (by decide))).symm.trans h
      have h := (if_pos hj).symm.trans h
      refine ⟨46, rfl, ?_⟩
      refine gl_aload_n (gX_LK b) y_326_46 rfl rfl ?_
      refine gl_getA (gX_LK b) y_326_47 yf_326_56 ys_734 rfl rfl rfl rfl ?_
      refine gl_getA (gX_LK b) y_326_50 yf_326_173 ys_759 rfl rfl rfl rfl ?_
      refine gl_iload_n (gX_LK b) y_326_53 rfl rfl ?_
      obtain ⟨c3, h⟩ := o_ck h
      refine gl_iaload (gX_LK b) y_326_54 ys_763 c3 rfl rfl ?_
      exact gl_ireturn y_326_55 (Or.inl yt_326) (by cases h; exact hP)
    · have hj : x2 = (2 : Int32) := Int32.toInt_inj.mp (hj.trans (by decide))
      cases (show some _ = some _ from ho)
      have h := (if_neg (fun z => absurd (hj.symm.trans z) (by decide))).symm.trans h
      have h := (if_neg (fun z => absurd (hj.symm.trans z) (by decide))).symm.trans h
      have h := (if_pos hj).symm.trans h
      refine ⟨56, rfl, ?_⟩
      refine gl_aload_n (gX_LK b) y_326_56 rfl rfl ?_
      refine gl_getA (gX_LK b) y_326_57 yf_326_56 ys_734 rfl rfl rfl rfl ?_
      refine gl_getA (gX_LK b) y_326_60 yf_326_176 ys_759 rfl rfl rfl rfl ?_
      refine gl_iload_n (gX_LK b) y_326_63 rfl rfl ?_
      obtain ⟨c4, h⟩ := o_ck h
      refine gl_iaload (gX_LK b) y_326_64 ys_764 c4 rfl rfl ?_
      exact gl_ireturn y_326_65 (Or.inl yt_326) (by cases h; exact hP)
    · have hj : x2 = (3 : Int32) := Int32.toInt_inj.mp (hj.trans (by decide))
      cases (show some _ = some _ from ho)
      have h := (if_neg (fun z => absurd (hj.symm.trans z) (by decide))).symm.trans h
      have h := (if_neg (fun z => absurd (hj.symm.trans z) (by decide))).symm.trans h
      have h := (if_neg (fun z => absurd (hj.symm.trans z) (by decide))).symm.trans h
      have h := (if_pos hj).symm.trans h
      refine ⟨66, rfl, ?_⟩
      refine gl_aload_n (gX_LK b) y_326_66 rfl rfl ?_
      refine gl_getA (gX_LK b) y_326_67 yf_326_56 ys_734 rfl rfl rfl rfl ?_
      refine gl_getA (gX_LK b) y_326_70 yf_326_178 ys_759 rfl rfl rfl rfl ?_
      refine gl_iload_n (gX_LK b) y_326_73 rfl rfl ?_
      obtain ⟨c5, h⟩ := o_ck h
      refine gl_iaload (gX_LK b) y_326_74 ys_765 c5 rfl rfl ?_
      exact gl_ireturn y_326_75 (Or.inl yt_326) (by cases h; exact hP)
/-- ClickOrders.ordered(II)Z -/
def xT_327 (b : Bool) (rf : jRf) (F : Int32 → Int32 → jSc → (Nat → Nat) → jSc → jAl → Option (Int32 × jSc × (Nat → Nat) × jSc × jAl)) (e : Nat) : Prop := ∀  (Post : jPo) (x1 : Int32) (x2 : Int32) (sc : jSc) (mr : (Nat → Nat)) (ar : jSc) (al : jAl) (r9 : Int32) (sc9 : jSc) (mr9 : (Nat → Nat)) (ar9 : jSc) (al9 : jAl), F x1 x2 sc mr ar al = some (r9, sc9, mr9, ar9, al9) → Post (some (.int r9)) sc9 (x_mk mr9 rf) ar9 al9 → gW (gX b) 327 e 0 (j_av [.ref 734, .int x1, .int x2]) [] sc (x_mk mr rf) ar al Post
def xF_327 (x1 : Int32) (x2 : Int32) (sc : jSc) (mr : (Nat → Nat)) (ar : jSc) (al : jAl) : Option (Int32 × jSc × (Nat → Nat) × jSc × jAl) :=
  (o_b4 (xF_356 x1 sc mr ar al) (fun sce1 mre1 are1 ale1 => (o_b4 (xF_356 x2 sce1 mre1 are1 ale1) (fun sce2 mre2 are2 ale2 => (o_b5 (xF_300 x1 x2 sce2 mre2 are2 ale2) (fun ve3 sce3 mre3 are3 ale3 => (if ve3 = 0 ∨ ve3 = 1 then some (ve3, sce3, mre3, are3, ale3) else none)))))))
set_option maxHeartbeats 4000000 in
theorem xt_327 {b : Bool} {rf : jRf} {d : Nat} : xT_327 b rf xF_327 (d + 2) := by
  intro  Post x1 x2 sc mr ar al r9 sc9 mr9 ar9 al9 h hP
  unfold xF_327 at h
  refine gl_entry (m := 0) rfl ?_
  show gL (gX b) 327 (d + 2) 0 [some (.ref 734), some (.int x1), some (.int x2)] [] sc (x_mk mr rf) ar al Post
  refine gl_aload_n (gX_LK b) y_327_0 rfl rfl ?_
  refine gl_iload_n (gX_LK b) y_327_1 rfl rfl ?_
  obtain ⟨sce1, mre1, are1, ale1, e1, h⟩ := o_k4 h
  refine gl_callV (gX_LK b) y_327_2 ym_327_167 rfl rfl rfl ys_734 yx_356 rfl rfl ((xt_356 )  _ _ _ _ _ _ _ _ _ _ e1 ?_)
  refine gl_aload_n (gX_LK b) y_327_5 rfl rfl ?_
  refine gl_iload_n (gX_LK b) y_327_6 rfl rfl ?_
  obtain ⟨sce2, mre2, are2, ale2, e2, h⟩ := o_k4 h
  refine gl_callV (gX_LK b) y_327_7 ym_327_167 rfl rfl rfl ys_734 yx_356 rfl rfl ((xt_356 )  _ _ _ _ _ _ _ _ _ _ e2 ?_)
  refine gl_aload_n (gX_LK b) y_327_10 rfl rfl ?_
  refine gl_getA (gX_LK b) y_327_11 yf_327_56 ys_734 rfl rfl rfl rfl ?_
  refine gl_iload_n (gX_LK b) y_327_14 rfl rfl ?_
  refine gl_iload_n (gX_LK b) y_327_15 rfl rfl ?_
  obtain ⟨ve3, sce3, mre3, are3, ale3, e3, h⟩ := o_k5 h
  refine gl_callV (gX_LK b) y_327_16 ym_327_181 rfl rfl rfl ys_759 yx_300 rfl rfl ((xt_300 )  _ _ _ _ _ _ _ _ _ _ _ _ e3 ?_)
  obtain ⟨c4, h⟩ := o_ck h
  exact gl_ireturn y_327_19 (Or.inr ⟨yt_327, c4⟩) (by cases h; exact hP)
/-- ClickOrders.crossings()I -/
def xT_328 (b : Bool) (rf : jRf) (F : jSc → (Nat → Nat) → jSc → jAl → Option (Int32 × jSc × (Nat → Nat) × jSc × jAl)) (e : Nat) : Prop := ∀  (Post : jPo) (sc : jSc) (mr : (Nat → Nat)) (ar : jSc) (al : jAl) (r9 : Int32) (sc9 : jSc) (mr9 : (Nat → Nat)) (ar9 : jSc) (al9 : jAl), F sc mr ar al = some (r9, sc9, mr9, ar9, al9) → Post (some (.int r9)) sc9 (x_mk mr9 rf) ar9 al9 → gW (gX b) 328 e 0 (j_av [.ref 734]) [] sc (x_mk mr rf) ar al Post
def xF_328 (sc : jSc) (mr : (Nat → Nat)) (ar : jSc) (al : jAl) : Option (Int32 × jSc × (Nat → Nat) × jSc × jAl) :=
  (o_b5 (xF_302 sc mr ar al) (fun ve1 sce1 mre1 are1 ale1 => some (ve1, sce1, mre1, are1, ale1)))
set_option maxHeartbeats 4000000 in
theorem xt_328 {b : Bool} {rf : jRf} {d : Nat} : xT_328 b rf xF_328 (d + 4) := by
  intro  Post  sc mr ar al r9 sc9 mr9 ar9 al9 h hP
  unfold xF_328 at h
  refine gl_entry (m := 0) rfl ?_
  show gL (gX b) 328 (d + 4) 0 [some (.ref 734)] [] sc (x_mk mr rf) ar al Post
  refine gl_aload_n (gX_LK b) y_328_0 rfl rfl ?_
  refine gl_getA (gX_LK b) y_328_1 yf_328_56 ys_734 rfl rfl rfl rfl ?_
  obtain ⟨ve1, sce1, mre1, are1, ale1, e1, h⟩ := o_k5 h
  refine gl_callV (gX_LK b) y_328_4 ym_328_185 rfl rfl rfl ys_759 yx_302 rfl rfl ((xt_302 )  _  _ _ _ _ _ _ _ _ _ e1 ?_)
  exact gl_ireturn y_328_7 (Or.inl yt_328) (by cases h; exact hP)
/-- ClickOrders.crossing(I)I -/
def xT_329 (b : Bool) (rf : jRf) (F : Int32 → jSc → (Nat → Nat) → jSc → jAl → Option (Int32 × jSc × (Nat → Nat) × jSc × jAl)) (e : Nat) : Prop := ∀  (Post : jPo) (x1 : Int32) (sc : jSc) (mr : (Nat → Nat)) (ar : jSc) (al : jAl) (r9 : Int32) (sc9 : jSc) (mr9 : (Nat → Nat)) (ar9 : jSc) (al9 : jAl), F x1 sc mr ar al = some (r9, sc9, mr9, ar9, al9) → Post (some (.int r9)) sc9 (x_mk mr9 rf) ar9 al9 → gW (gX b) 329 e 0 (j_av [.ref 734, .int x1]) [] sc (x_mk mr rf) ar al Post
def xF_329 (x1 : Int32) (sc : jSc) (mr : (Nat → Nat)) (ar : jSc) (al : jAl) : Option (Int32 × jSc × (Nat → Nat) × jSc × jAl) :=
  (o_b5 (xF_303 x1 sc mr ar al) (fun ve1 sce1 mre1 are1 ale1 => some (ve1, sce1, mre1, are1, ale1)))
set_option maxHeartbeats 4000000 in
theorem xt_329 {b : Bool} {rf : jRf} {d : Nat} : xT_329 b rf xF_329 (d + 4) := by
  intro  Post x1 sc mr ar al r9 sc9 mr9 ar9 al9 h hP
  unfold xF_329 at h
  refine gl_entry (m := 0) rfl ?_
  show gL (gX b) 329 (d + 4) 0 [some (.ref 734), some (.int x1)] [] sc (x_mk mr rf) ar al Post
  refine gl_aload_n (gX_LK b) y_329_0 rfl rfl ?_
  refine gl_getA (gX_LK b) y_329_1 yf_329_56 ys_734 rfl rfl rfl rfl ?_
  refine gl_iload_n (gX_LK b) y_329_4 rfl rfl ?_
  obtain ⟨ve1, sce1, mre1, are1, ale1, e1, h⟩ := o_k5 h
  refine gl_callV (gX_LK b) y_329_5 ym_329_188 rfl rfl rfl ys_759 yx_303 rfl rfl ((xt_303 )  _ _ _ _ _ _ _ _ _ _ _ e1 ?_)
  exact gl_ireturn y_329_8 (Or.inl yt_329) (by cases h; exact hP)
/-- java/lang/Integer.numberOfTrailingZeros(I)I -/
def xT_500 (b : Bool) (rf : jRf) (F : Int32 → jSc → (Nat → Nat) → jSc → jAl → Option (Int32 × jSc × (Nat → Nat) × jSc × jAl)) (e : Nat) : Prop := ∀  (Post : jPo) (x1 : Int32) (sc : jSc) (mr : (Nat → Nat)) (ar : jSc) (al : jAl) (r9 : Int32) (sc9 : jSc) (mr9 : (Nat → Nat)) (ar9 : jSc) (al9 : jAl), F x1 sc mr ar al = some (r9, sc9, mr9, ar9, al9) → Post (some (.int r9)) sc9 (x_mk mr9 rf) ar9 al9 → gW (gX b) 500 e 0 (j_av [.int x1]) [] sc (x_mk mr rf) ar al Post
def xF_500_62 (x0 : Int32) (x1 : Int32) (sc : jSc) (mr : (Nat → Nat)) (ar : jSc) (al : jAl) : Option (Int32 × jSc × (Nat → Nat) × jSc × jAl) :=
  (if x0 ≤ (4 : Int32) then some ((x1 + ((x0).toUInt32 >>> (((1 : Int32)).toUInt32 &&& Int32.toUInt32 31)).toInt32), sc, mr, ar, al) else some (((x1 + (2 : Int32)) + ((((x0).toUInt32 >>> (((2 : Int32)).toUInt32 &&& Int32.toUInt32 31)).toInt32).toUInt32 >>> (((1 : Int32)).toUInt32 &&& Int32.toUInt32 31)).toInt32), sc, mr, ar, al))
set_option maxHeartbeats 4000000 in
theorem xt_500_62 {b : Bool} {rf : jRf} {d : Nat} {Post : jPo} {r9 : Int32} {sc9 : jSc} {mr9 : (Nat → Nat)} {ar9 : jSc} {al9 : jAl} (hP : Post (some (.int r9)) sc9 (x_mk mr9 rf) ar9 al9) (x0 : Int32) (x1 : Int32) (sc : jSc) (mr : (Nat → Nat)) (ar : jSc) (al : jAl) (h : xF_500_62 x0 x1 sc mr ar al = some (r9, sc9, mr9, ar9, al9)) : gL (gX b) 500 (d + 1) 62 [some (.int x0), some (.int x1)] [] sc (x_mk mr rf) ar al Post := by
  unfold xF_500_62 at h
  refine gl_iload_n (gX_LK b) y_500_62 rfl rfl ?_
  refine gl_iconst (gX_LK b) y_500_63 ci_4 rfl ?_
  refine gl_ic_le (gX_LK b) y_500_64 rfl rfl (fun c1 => ?_) (fun c1 => ?_)
  · have h := (if_pos c1).symm.trans h
    refine gl_iload_n (gX_LK b) y_500_74 rfl rfl ?_
    refine gl_iload_n (gX_LK b) y_500_75 rfl rfl ?_
    refine gl_iconst (gX_LK b) y_500_76 ci_1 rfl ?_
    refine gl_iushr (gX_LK b) y_500_77 rfl ?_
    refine gl_iadd (gX_LK b) y_500_78 rfl ?_
    exact gl_ireturn y_500_79 (Or.inl yt_500) (by cases h; exact hP)
  · have h := (if_neg c1).symm.trans h
    refine gl_iinc (vs2 := [some (.int x0), some (.int (x1 + (2 : Int32)))]) (gX_LK b) y_500_67 rfl rfl rfl ci_2 rfl rfl ?_
    refine gl_iload_n (gX_LK b) y_500_70 rfl rfl ?_
    refine gl_iconst (gX_LK b) y_500_71 ci_2 rfl ?_
    refine gl_iushr (gX_LK b) y_500_72 rfl ?_
    refine gl_istore_n (vs2 := [some (.int ((x0).toUInt32 >>> (((2 : Int32)).toUInt32 &&& Int32.toUInt32 31)).toInt32), some (.int (x1 + (2 : Int32)))]) (gX_LK b) y_500_73 rfl rfl rfl rfl ?_
    refine gl_iload_n (gX_LK b) y_500_74 rfl rfl ?_
    refine gl_iload_n (gX_LK b) y_500_75 rfl rfl ?_
    refine gl_iconst (gX_LK b) y_500_76 ci_1 rfl ?_
    refine gl_iushr (gX_LK b) y_500_77 rfl ?_
    refine gl_iadd (gX_LK b) y_500_78 rfl ?_
    exact gl_ireturn y_500_79 (Or.inl yt_500) (by cases h; exact hP)
def xF_500_34 (x0 : Int32) (x1 : Int32) (sc : jSc) (mr : (Nat → Nat)) (ar : jSc) (al : jAl) : Option (Int32 × jSc × (Nat → Nat) × jSc × jAl) :=
  (if x0 ≤ (256 : Int32) then (if x0 ≤ (16 : Int32) then xF_500_62 x0 x1 sc mr ar al else xF_500_62 ((x0).toUInt32 >>> (((4 : Int32)).toUInt32 &&& Int32.toUInt32 31)).toInt32 (x1 + (4 : Int32)) sc mr ar al) else (if ((x0).toUInt32 >>> (((8 : Int32)).toUInt32 &&& Int32.toUInt32 31)).toInt32 ≤ (16 : Int32) then xF_500_62 ((x0).toUInt32 >>> (((8 : Int32)).toUInt32 &&& Int32.toUInt32 31)).toInt32 (x1 + (8 : Int32)) sc mr ar al else xF_500_62 ((((x0).toUInt32 >>> (((8 : Int32)).toUInt32 &&& Int32.toUInt32 31)).toInt32).toUInt32 >>> (((4 : Int32)).toUInt32 &&& Int32.toUInt32 31)).toInt32 ((x1 + (8 : Int32)) + (4 : Int32)) sc mr ar al))
set_option maxHeartbeats 4000000 in
theorem xt_500_34 {b : Bool} {rf : jRf} {d : Nat} {Post : jPo} {r9 : Int32} {sc9 : jSc} {mr9 : (Nat → Nat)} {ar9 : jSc} {al9 : jAl} (hP : Post (some (.int r9)) sc9 (x_mk mr9 rf) ar9 al9) (x0 : Int32) (x1 : Int32) (sc : jSc) (mr : (Nat → Nat)) (ar : jSc) (al : jAl) (h : xF_500_34 x0 x1 sc mr ar al = some (r9, sc9, mr9, ar9, al9)) : gL (gX b) 500 (d + 1) 34 [some (.int x0), some (.int x1)] [] sc (x_mk mr rf) ar al Post := by
  unfold xF_500_34 at h
  refine gl_iload_n (gX_LK b) y_500_34 rfl rfl ?_
  refine gl_sipush (gX_LK b) y_500_35 cs_256 rfl ?_
  refine gl_ic_le (gX_LK b) y_500_38 rfl rfl (fun c2 => ?_) (fun c2 => ?_)
  · have h := (if_pos c2).symm.trans h
    refine gl_iload_n (gX_LK b) y_500_49 rfl rfl ?_
    refine gl_bipush (gX_LK b) y_500_50 cb_16 rfl ?_
    refine gl_ic_le (gX_LK b) y_500_52 rfl rfl (fun c3 => ?_) (fun c3 => ?_)
    · have h := (if_pos c3).symm.trans h
      exact gl_weak (vs := [some (.int x0), some (.int x1)]) ⟨rfl, rfl, trivial⟩ (xt_500_62  hP x0 x1 sc mr ar al h)
    · have h := (if_neg c3).symm.trans h
      refine gl_iinc (vs2 := [some (.int x0), some (.int (x1 + (4 : Int32)))]) (gX_LK b) y_500_55 rfl rfl rfl ci_4 rfl rfl ?_
      refine gl_iload_n (gX_LK b) y_500_58 rfl rfl ?_
      refine gl_iconst (gX_LK b) y_500_59 ci_4 rfl ?_
      refine gl_iushr (gX_LK b) y_500_60 rfl ?_
      refine gl_istore_n (vs2 := [some (.int ((x0).toUInt32 >>> (((4 : Int32)).toUInt32 &&& Int32.toUInt32 31)).toInt32), some (.int (x1 + (4 : Int32)))]) (gX_LK b) y_500_61 rfl rfl rfl rfl ?_
      exact gl_weak (vs := [some (.int ((x0).toUInt32 >>> (((4 : Int32)).toUInt32 &&& Int32.toUInt32 31)).toInt32), some (.int (x1 + (4 : Int32)))]) ⟨rfl, rfl, trivial⟩ (xt_500_62  hP ((x0).toUInt32 >>> (((4 : Int32)).toUInt32 &&& Int32.toUInt32 31)).toInt32 (x1 + (4 : Int32)) sc mr ar al h)
  · have h := (if_neg c2).symm.trans h
    refine gl_iinc (vs2 := [some (.int x0), some (.int (x1 + (8 : Int32)))]) (gX_LK b) y_500_41 rfl rfl rfl ci_8 rfl rfl ?_
    refine gl_iload_n (gX_LK b) y_500_44 rfl rfl ?_
    refine gl_bipush (gX_LK b) y_500_45 cb_8 rfl ?_
    refine gl_iushr (gX_LK b) y_500_47 rfl ?_
    refine gl_istore_n (vs2 := [some (.int ((x0).toUInt32 >>> (((8 : Int32)).toUInt32 &&& Int32.toUInt32 31)).toInt32), some (.int (x1 + (8 : Int32)))]) (gX_LK b) y_500_48 rfl rfl rfl rfl ?_
    refine gl_iload_n (gX_LK b) y_500_49 rfl rfl ?_
    refine gl_bipush (gX_LK b) y_500_50 cb_16 rfl ?_
    refine gl_ic_le (gX_LK b) y_500_52 rfl rfl (fun c4 => ?_) (fun c4 => ?_)
    · have h := (if_pos c4).symm.trans h
      exact gl_weak (vs := [some (.int ((x0).toUInt32 >>> (((8 : Int32)).toUInt32 &&& Int32.toUInt32 31)).toInt32), some (.int (x1 + (8 : Int32)))]) ⟨rfl, rfl, trivial⟩ (xt_500_62  hP ((x0).toUInt32 >>> (((8 : Int32)).toUInt32 &&& Int32.toUInt32 31)).toInt32 (x1 + (8 : Int32)) sc mr ar al h)
    · have h := (if_neg c4).symm.trans h
      refine gl_iinc (vs2 := [some (.int ((x0).toUInt32 >>> (((8 : Int32)).toUInt32 &&& Int32.toUInt32 31)).toInt32), some (.int ((x1 + (8 : Int32)) + (4 : Int32)))]) (gX_LK b) y_500_55 rfl rfl rfl ci_4 rfl rfl ?_
      refine gl_iload_n (gX_LK b) y_500_58 rfl rfl ?_
      refine gl_iconst (gX_LK b) y_500_59 ci_4 rfl ?_
      refine gl_iushr (gX_LK b) y_500_60 rfl ?_
      refine gl_istore_n (vs2 := [some (.int ((((x0).toUInt32 >>> (((8 : Int32)).toUInt32 &&& Int32.toUInt32 31)).toInt32).toUInt32 >>> (((4 : Int32)).toUInt32 &&& Int32.toUInt32 31)).toInt32), some (.int ((x1 + (8 : Int32)) + (4 : Int32)))]) (gX_LK b) y_500_61 rfl rfl rfl rfl ?_
      exact gl_weak (vs := [some (.int ((((x0).toUInt32 >>> (((8 : Int32)).toUInt32 &&& Int32.toUInt32 31)).toInt32).toUInt32 >>> (((4 : Int32)).toUInt32 &&& Int32.toUInt32 31)).toInt32), some (.int ((x1 + (8 : Int32)) + (4 : Int32)))]) ⟨rfl, rfl, trivial⟩ (xt_500_62  hP ((((x0).toUInt32 >>> (((8 : Int32)).toUInt32 &&& Int32.toUInt32 31)).toInt32).toUInt32 >>> (((4 : Int32)).toUInt32 &&& Int32.toUInt32 31)).toInt32 ((x1 + (8 : Int32)) + (4 : Int32)) sc mr ar al h)
def xF_500 (x1 : Int32) (sc : jSc) (mr : (Nat → Nat)) (ar : jSc) (al : jAl) : Option (Int32 × jSc × (Nat → Nat) × jSc × jAl) :=
  (if 0 < ((x1 ^^^ (-1 : Int32)) &&& (x1 - (1 : Int32))) then (if ((x1 ^^^ (-1 : Int32)) &&& (x1 - (1 : Int32))) ≤ (65536 : Int32) then xF_500_34 ((x1 ^^^ (-1 : Int32)) &&& (x1 - (1 : Int32))) (1 : Int32) sc mr ar al else xF_500_34 ((((x1 ^^^ (-1 : Int32)) &&& (x1 - (1 : Int32)))).toUInt32 >>> (((16 : Int32)).toUInt32 &&& Int32.toUInt32 31)).toInt32 ((1 : Int32) + (16 : Int32)) sc mr ar al) else some ((((x1 ^^^ (-1 : Int32)) &&& (x1 - (1 : Int32))) &&& (32 : Int32)), sc, mr, ar, al))
set_option maxHeartbeats 4000000 in
theorem xt_500 {b : Bool} {rf : jRf} {d : Nat} : xT_500 b rf xF_500 (d + 1) := by
  intro  Post x1 sc mr ar al r9 sc9 mr9 ar9 al9 h hP
  unfold xF_500 at h
  refine gl_entry (m := 1) rfl ?_
  show gL (gX b) 500 (d + 1) 0 [some (.int x1), none] [] sc (x_mk mr rf) ar al Post
  refine gl_iload_n (gX_LK b) y_500_0 rfl rfl ?_
  refine gl_iconst (gX_LK b) y_500_1 ci_m1 rfl ?_
  refine gl_ixor (gX_LK b) y_500_2 rfl ?_
  refine gl_iload_n (gX_LK b) y_500_3 rfl rfl ?_
  refine gl_iconst (gX_LK b) y_500_4 ci_1 rfl ?_
  refine gl_isub (gX_LK b) y_500_5 rfl ?_
  refine gl_iand (gX_LK b) y_500_6 rfl ?_
  refine gl_istore_n (vs2 := [some (.int ((x1 ^^^ (-1 : Int32)) &&& (x1 - (1 : Int32)))), none]) (gX_LK b) y_500_7 rfl rfl rfl rfl ?_
  refine gl_iload_n (gX_LK b) y_500_8 rfl rfl ?_
  refine gl_if_gt (gX_LK b) y_500_9 rfl rfl (fun c5 => ?_) (fun c5 => ?_)
  · have h := (if_pos c5).symm.trans h
    refine gl_iconst (gX_LK b) y_500_17 ci_1 rfl ?_
    refine gl_istore_n (vs2 := [some (.int ((x1 ^^^ (-1 : Int32)) &&& (x1 - (1 : Int32)))), some (.int (1 : Int32))]) (gX_LK b) y_500_18 rfl rfl rfl rfl ?_
    refine gl_iload_n (gX_LK b) y_500_19 rfl rfl ?_
    refine gl_ldc_w (gX_LK b) y_500_20 yc_500_264 rfl ?_
    refine gl_ic_le (gX_LK b) y_500_23 rfl rfl (fun c6 => ?_) (fun c6 => ?_)
    · have h := (if_pos c6).symm.trans h
      exact gl_weak (vs := [some (.int ((x1 ^^^ (-1 : Int32)) &&& (x1 - (1 : Int32)))), some (.int (1 : Int32))]) ⟨rfl, rfl, trivial⟩ (xt_500_34  hP ((x1 ^^^ (-1 : Int32)) &&& (x1 - (1 : Int32))) (1 : Int32) sc mr ar al h)
    · have h := (if_neg c6).symm.trans h
      refine gl_iinc (vs2 := [some (.int ((x1 ^^^ (-1 : Int32)) &&& (x1 - (1 : Int32)))), some (.int ((1 : Int32) + (16 : Int32)))]) (gX_LK b) y_500_26 rfl rfl rfl ci_16 rfl rfl ?_
      refine gl_iload_n (gX_LK b) y_500_29 rfl rfl ?_
      refine gl_bipush (gX_LK b) y_500_30 cb_16 rfl ?_
      refine gl_iushr (gX_LK b) y_500_32 rfl ?_
      refine gl_istore_n (vs2 := [some (.int ((((x1 ^^^ (-1 : Int32)) &&& (x1 - (1 : Int32)))).toUInt32 >>> (((16 : Int32)).toUInt32 &&& Int32.toUInt32 31)).toInt32), some (.int ((1 : Int32) + (16 : Int32)))]) (gX_LK b) y_500_33 rfl rfl rfl rfl ?_
      exact gl_weak (vs := [some (.int ((((x1 ^^^ (-1 : Int32)) &&& (x1 - (1 : Int32)))).toUInt32 >>> (((16 : Int32)).toUInt32 &&& Int32.toUInt32 31)).toInt32), some (.int ((1 : Int32) + (16 : Int32)))]) ⟨rfl, rfl, trivial⟩ (xt_500_34  hP ((((x1 ^^^ (-1 : Int32)) &&& (x1 - (1 : Int32)))).toUInt32 >>> (((16 : Int32)).toUInt32 &&& Int32.toUInt32 31)).toInt32 ((1 : Int32) + (16 : Int32)) sc mr ar al h)
  · have h := (if_neg c5).symm.trans h
    refine gl_iload_n (gX_LK b) y_500_12 rfl rfl ?_
    refine gl_bipush (gX_LK b) y_500_13 cb_32 rfl ?_
    refine gl_iand (gX_LK b) y_500_15 rfl ?_
    exact gl_ireturn y_500_16 (Or.inl yt_500) (by cases h; exact hP)
/-- ClickOrders.why(II)I -/
def xT_330 (b : Bool) (rf : jRf) (F : Int32 → Int32 → jSc → (Nat → Nat) → jSc → jAl → Option (Int32 × jSc × (Nat → Nat) × jSc × jAl)) (e : Nat) : Prop := ∀  (Post : jPo) (x1 : Int32) (x2 : Int32) (sc : jSc) (mr : (Nat → Nat)) (ar : jSc) (al : jAl) (r9 : Int32) (sc9 : jSc) (mr9 : (Nat → Nat)) (ar9 : jSc) (al9 : jAl), F x1 x2 sc mr ar al = some (r9, sc9, mr9, ar9, al9) → Post (some (.int r9)) sc9 (x_mk mr9 rf) ar9 al9 → gW (gX b) 330 e 0 (j_av [.ref 734, .int x1, .int x2]) [] sc (x_mk mr rf) ar al Post
def xF_330 (x1 : Int32) (x2 : Int32) (sc : jSc) (mr : (Nat → Nat)) (ar : jSc) (al : jAl) : Option (Int32 × jSc × (Nat → Nat) × jSc × jAl) :=
  (o_b4 (xF_356 x1 sc mr ar al) (fun sce1 mre1 are1 ale1 => (o_b4 (xF_356 x2 sce1 mre1 are1 ale1) (fun sce2 mre2 are2 ale2 => (o_b5 (xF_301 (if x2 < x1 then x2 else x1) (if x1 < x2 then x2 else x1) sce2 mre2 are2 ale2) (fun ve3 sce3 mre3 are3 ale3 => (if ve3 = 0 then some ((-1 : Int32), sce3, mre3, are3, ale3) else (o_b5 (xF_500 ve3 sce3 mre3 are3 ale3) (fun ve5 sce5 mre5 are5 ale5 => some (ve5, sce5, mre5, are5, ale5))))))))))
set_option maxHeartbeats 4000000 in
theorem xt_330 {b : Bool} {rf : jRf} {d : Nat} : xT_330 b rf xF_330 (d + 3) := by
  intro  Post x1 x2 sc mr ar al r9 sc9 mr9 ar9 al9 h hP
  unfold xF_330 at h
  refine gl_entry (m := 1) rfl ?_
  show gL (gX b) 330 (d + 3) 0 [some (.ref 734), some (.int x1), some (.int x2), none] [] sc (x_mk mr rf) ar al Post
  refine gl_aload_n (gX_LK b) y_330_0 rfl rfl ?_
  refine gl_iload_n (gX_LK b) y_330_1 rfl rfl ?_
  obtain ⟨sce1, mre1, are1, ale1, e1, h⟩ := o_k4 h
  refine gl_callV (gX_LK b) y_330_2 ym_330_167 rfl rfl rfl ys_734 yx_356 rfl rfl ((xt_356 )  _ _ _ _ _ _ _ _ _ _ e1 ?_)
  refine gl_aload_n (gX_LK b) y_330_5 rfl rfl ?_
  refine gl_iload_n (gX_LK b) y_330_6 rfl rfl ?_
  obtain ⟨sce2, mre2, are2, ale2, e2, h⟩ := o_k4 h
  refine gl_callV (gX_LK b) y_330_7 ym_330_167 rfl rfl rfl ys_734 yx_356 rfl rfl ((xt_356 )  _ _ _ _ _ _ _ _ _ _ e2 ?_)
  refine gl_aload_n (gX_LK b) y_330_10 rfl rfl ?_
  refine gl_getA (gX_LK b) y_330_11 yf_330_56 ys_734 rfl rfl rfl rfl ?_
  refine gl_iload_n (gX_LK b) y_330_14 rfl rfl ?_
  refine gl_iload_n (gX_LK b) y_330_15 rfl rfl ?_
  refine gl_min (gX_LK b) y_330_16 yn_330_191 yz_330_191 rfl rfl ?_
  refine gl_iload_n (gX_LK b) y_330_19 rfl rfl ?_
  refine gl_iload_n (gX_LK b) y_330_20 rfl rfl ?_
  refine gl_max (gX_LK b) y_330_21 yn_330_197 yz_330_197 rfl rfl ?_
  obtain ⟨ve3, sce3, mre3, are3, ale3, e3, h⟩ := o_k5 h
  refine gl_callV (gX_LK b) y_330_24 ym_330_200 rfl rfl rfl ys_759 yx_301 rfl rfl ((xt_301 )  _ _ _ _ _ _ _ _ _ _ _ _ e3 ?_)
  refine gl_istore_n (vs2 := [some (.ref 734), some (.int x1), some (.int x2), some (.int ve3)]) (gX_LK b) y_330_27 rfl rfl rfl rfl ?_
  refine gl_iload_n (gX_LK b) y_330_28 rfl rfl ?_
  refine gl_if_ne (gX_LK b) y_330_29 rfl rfl (fun c4 => ?_) (fun c4 => ?_)
  · have h := (if_pos c4).symm.trans h
    refine gl_iconst (gX_LK b) y_330_32 ci_m1 rfl ?_
    refine gl_goto (gX_LK b) y_330_33 rfl ?_
    exact gl_ireturn y_330_40 (Or.inl yt_330) (by cases h; exact hP)
  · have h := (if_neg c4).symm.trans h
    refine gl_iload_n (gX_LK b) y_330_36 rfl rfl ?_
    obtain ⟨ve5, sce5, mre5, are5, ale5, e5, h⟩ := o_k5 h
    refine gl_callS y_330_37 ym_330_203 rfl rfl rfl yx_500 rfl rfl ((xt_500 )  _ _ _ _ _ _ _ _ _ _ _ e5 ?_)
    exact gl_ireturn y_330_40 (Or.inl yt_330) (by cases h; exact hP)
/-- ClickOrders.turn(II)I -/
def xT_331 (b : Bool) (rf : jRf) (F : Int32 → Int32 → jSc → (Nat → Nat) → jSc → jAl → Option (Int32 × jSc × (Nat → Nat) × jSc × jAl)) (e : Nat) : Prop := ∀  (Post : jPo) (x1 : Int32) (x2 : Int32) (sc : jSc) (mr : (Nat → Nat)) (ar : jSc) (al : jAl) (r9 : Int32) (sc9 : jSc) (mr9 : (Nat → Nat)) (ar9 : jSc) (al9 : jAl), F x1 x2 sc mr ar al = some (r9, sc9, mr9, ar9, al9) → Post (some (.int r9)) sc9 (x_mk mr9 rf) ar9 al9 → gW (gX b) 331 e 0 (j_av [.ref 734, .int x1, .int x2]) [] sc (x_mk mr rf) ar al Post
def xF_331 (x1 : Int32) (x2 : Int32) (sc : jSc) (mr : (Nat → Nat)) (ar : jSc) (al : jAl) : Option (Int32 × jSc × (Nat → Nat) × jSc × jAl) :=
  (o_b4 (xF_356 x1 sc mr ar al) (fun sce1 mre1 are1 ale1 => (o_b4 (xF_356 x2 sce1 mre1 are1 ale1) (fun sce2 mre2 are2 ale2 => (o_b5 (xF_301 (if x2 < x1 then x2 else x1) (if x1 < x2 then x2 else x1) sce2 mre2 are2 ale2) (fun ve3 sce3 mre3 are3 ale3 => (if ve3 = 0 then some ((-1 : Int32), sce3, mre3, are3, ale3) else (o_b5 (xF_306 (if x2 < x1 then x2 else x1) (if x1 < x2 then x2 else x1) sce3 mre3 are3 ale3) (fun ve5 sce5 mre5 are5 ale5 => some (ve5, sce5, mre5, are5, ale5))))))))))
set_option maxHeartbeats 4000000 in
theorem xt_331 {b : Bool} {rf : jRf} {d : Nat} : xT_331 b rf xF_331 (d + 7) := by
  intro  Post x1 x2 sc mr ar al r9 sc9 mr9 ar9 al9 h hP
  unfold xF_331 at h
  refine gl_entry (m := 2) rfl ?_
  show gL (gX b) 331 (d + 7) 0 [some (.ref 734), some (.int x1), some (.int x2), none, none] [] sc (x_mk mr rf) ar al Post
  refine gl_aload_n (gX_LK b) y_331_0 rfl rfl ?_
  refine gl_iload_n (gX_LK b) y_331_1 rfl rfl ?_
  obtain ⟨sce1, mre1, are1, ale1, e1, h⟩ := o_k4 h
  refine gl_callV (gX_LK b) y_331_2 ym_331_167 rfl rfl rfl ys_734 yx_356 rfl rfl ((xt_356 )  _ _ _ _ _ _ _ _ _ _ e1 ?_)
  refine gl_aload_n (gX_LK b) y_331_5 rfl rfl ?_
  refine gl_iload_n (gX_LK b) y_331_6 rfl rfl ?_
  obtain ⟨sce2, mre2, are2, ale2, e2, h⟩ := o_k4 h
  refine gl_callV (gX_LK b) y_331_7 ym_331_167 rfl rfl rfl ys_734 yx_356 rfl rfl ((xt_356 )  _ _ _ _ _ _ _ _ _ _ e2 ?_)
  refine gl_iload_n (gX_LK b) y_331_10 rfl rfl ?_
  refine gl_iload_n (gX_LK b) y_331_11 rfl rfl ?_
  refine gl_min (gX_LK b) y_331_12 yn_331_191 yz_331_191 rfl rfl ?_
  refine gl_istore_n (vs2 := [some (.ref 734), some (.int x1), some (.int x2), some (.int (if x2 < x1 then x2 else x1)), none]) (gX_LK b) y_331_15 rfl rfl rfl rfl ?_
  refine gl_iload_n (gX_LK b) y_331_16 rfl rfl ?_
  refine gl_iload_n (gX_LK b) y_331_17 rfl rfl ?_
  refine gl_max (gX_LK b) y_331_18 yn_331_197 yz_331_197 rfl rfl ?_
  refine gl_istore (vs2 := [some (.ref 734), some (.int x1), some (.int x2), some (.int (if x2 < x1 then x2 else x1)), some (.int (if x1 < x2 then x2 else x1))]) (gX_LK b) y_331_21 rfl rfl rfl rfl ?_
  refine gl_aload_n (gX_LK b) y_331_23 rfl rfl ?_
  refine gl_getA (gX_LK b) y_331_24 yf_331_56 ys_734 rfl rfl rfl rfl ?_
  refine gl_iload_n (gX_LK b) y_331_27 rfl rfl ?_
  refine gl_iload (gX_LK b) y_331_28 rfl rfl ?_
  obtain ⟨ve3, sce3, mre3, are3, ale3, e3, h⟩ := o_k5 h
  refine gl_callV (gX_LK b) y_331_30 ym_331_200 rfl rfl rfl ys_759 yx_301 rfl rfl ((xt_301 )  _ _ _ _ _ _ _ _ _ _ _ _ e3 ?_)
  refine gl_if_ne (gX_LK b) y_331_33 rfl rfl (fun c4 => ?_) (fun c4 => ?_)
  · have h := (if_pos c4).symm.trans h
    refine gl_iconst (gX_LK b) y_331_36 ci_m1 rfl ?_
    refine gl_goto (gX_LK b) y_331_37 rfl ?_
    exact gl_ireturn y_331_50 (Or.inl yt_331) (by cases h; exact hP)
  · have h := (if_neg c4).symm.trans h
    refine gl_aload_n (gX_LK b) y_331_40 rfl rfl ?_
    refine gl_getA (gX_LK b) y_331_41 yf_331_56 ys_734 rfl rfl rfl rfl ?_
    refine gl_iload_n (gX_LK b) y_331_44 rfl rfl ?_
    refine gl_iload (gX_LK b) y_331_45 rfl rfl ?_
    obtain ⟨ve5, sce5, mre5, are5, ale5, e5, h⟩ := o_k5 h
    refine gl_callV (gX_LK b) y_331_47 ym_331_208 rfl rfl rfl ys_759 yx_306 rfl rfl ((xt_306 )  _ _ _ _ _ _ _ _ _ _ _ _ e5 ?_)
    exact gl_ireturn y_331_50 (Or.inl yt_331) (by cases h; exact hP)
/-- ClickOrders.sorts(I)I -/
def xT_332 (b : Bool) (rf : jRf) (F : Int32 → jSc → (Nat → Nat) → jSc → jAl → Option (Int32 × jSc × (Nat → Nat) × jSc × jAl)) (e : Nat) : Prop := ∀  (Post : jPo) (x1 : Int32) (sc : jSc) (mr : (Nat → Nat)) (ar : jSc) (al : jAl) (r9 : Int32) (sc9 : jSc) (mr9 : (Nat → Nat)) (ar9 : jSc) (al9 : jAl), F x1 sc mr ar al = some (r9, sc9, mr9, ar9, al9) → Post (some (.int r9)) sc9 (x_mk mr9 rf) ar9 al9 → gW (gX b) 332 e 0 (j_av [.ref 734, .int x1]) [] sc (x_mk mr rf) ar al Post
def xF_332 (x1 : Int32) (sc : jSc) (mr : (Nat → Nat)) (ar : jSc) (al : jAl) : Option (Int32 × jSc × (Nat → Nat) × jSc × jAl) :=
  (if x1 < 0 then none else (if x1 < (5 : Int32) then (o_b5 (xF_304 x1 sc mr ar al) (fun ve3 sce3 mre3 are3 ale3 => some (ve3, sce3, mre3, are3, ale3))) else none))
set_option maxHeartbeats 4000000 in
theorem xt_332 {b : Bool} {rf : jRf} {d : Nat} : xT_332 b rf xF_332 (d + 8) := by
  intro  Post x1 sc mr ar al r9 sc9 mr9 ar9 al9 h hP
  unfold xF_332 at h
  refine gl_entry (m := 0) rfl ?_
  show gL (gX b) 332 (d + 8) 0 [some (.ref 734), some (.int x1)] [] sc (x_mk mr rf) ar al Post
  refine gl_iload_n (gX_LK b) y_332_0 rfl rfl ?_
  refine gl_if_lt (gX_LK b) y_332_1 rfl rfl (fun c1 => ?_) (fun c1 => ?_)
  · have h := (if_pos c1).symm.trans h
    cases h
  · have h := (if_neg c1).symm.trans h
    refine gl_iload_n (gX_LK b) y_332_4 rfl rfl ?_
    refine gl_iconst (gX_LK b) y_332_5 ci_5 rfl ?_
    refine gl_ic_lt (gX_LK b) y_332_6 rfl rfl (fun c2 => ?_) (fun c2 => ?_)
    · have h := (if_pos c2).symm.trans h
      refine gl_aload_n (gX_LK b) y_332_17 rfl rfl ?_
      refine gl_getA (gX_LK b) y_332_18 yf_332_56 ys_734 rfl rfl rfl rfl ?_
      refine gl_iload_n (gX_LK b) y_332_21 rfl rfl ?_
      obtain ⟨ve3, sce3, mre3, are3, ale3, e3, h⟩ := o_k5 h
      refine gl_callV (gX_LK b) y_332_22 ym_332_211 rfl rfl rfl ys_759 yx_304 rfl rfl ((xt_304 )  _ _ _ _ _ _ _ _ _ _ _ e3 ?_)
      exact gl_ireturn y_332_25 (Or.inl yt_332) (by cases h; exact hP)
    · have h := (if_neg c2).symm.trans h
      cases h
/-- ClickOrders.checkRows(II)V -/
def xT_357 (b : Bool) (rf : jRf) (F : Int32 → Int32 → jSc → (Nat → Nat) → jSc → jAl → Option (jSc × (Nat → Nat) × jSc × jAl)) (e : Nat) : Prop := ∀  (Post : jPo) (x1 : Int32) (x2 : Int32) (sc : jSc) (mr : (Nat → Nat)) (ar : jSc) (al : jAl) (sc9 : jSc) (mr9 : (Nat → Nat)) (ar9 : jSc) (al9 : jAl), F x1 x2 sc mr ar al = some (sc9, mr9, ar9, al9) → Post none sc9 (x_mk mr9 rf) ar9 al9 → gW (gX b) 357 e 0 (j_av [.ref 734, .int x1, .int x2]) [] sc (x_mk mr rf) ar al Post
def xF_357 (x1 : Int32) (x2 : Int32) (sc : jSc) (mr : (Nat → Nat)) (ar : jSc) (al : jAl) : Option (jSc × (Nat → Nat) × jSc × jAl) :=
  (if x1 < 0 then none else (if (8 : Int32) < x1 then none else (if x2 < (1 : Int32) then none else (if x2 ≤ (600 : Int32) then some (sc, mr, ar, al) else none))))
set_option maxHeartbeats 4000000 in
theorem xt_357 {b : Bool} {rf : jRf} {d : Nat} : xT_357 b rf xF_357 (d + 1) := by
  intro  Post x1 x2 sc mr ar al sc9 mr9 ar9 al9 h hP
  unfold xF_357 at h
  refine gl_entry (m := 0) rfl ?_
  show gL (gX b) 357 (d + 1) 0 [some (.ref 734), some (.int x1), some (.int x2)] [] sc (x_mk mr rf) ar al Post
  refine gl_iload_n (gX_LK b) y_357_0 rfl rfl ?_
  refine gl_if_lt (gX_LK b) y_357_1 rfl rfl (fun c1 => ?_) (fun c1 => ?_)
  · have h := (if_pos c1).symm.trans h
    cases h
  · have h := (if_neg c1).symm.trans h
    refine gl_iload_n (gX_LK b) y_357_4 rfl rfl ?_
    refine gl_bipush (gX_LK b) y_357_5 cb_8 rfl ?_
    refine gl_ic_gt (gX_LK b) y_357_7 rfl rfl (fun c2 => ?_) (fun c2 => ?_)
    · have h := (if_pos c2).symm.trans h
      cases h
    · have h := (if_neg c2).symm.trans h
      refine gl_iload_n (gX_LK b) y_357_10 rfl rfl ?_
      refine gl_iconst (gX_LK b) y_357_11 ci_1 rfl ?_
      refine gl_ic_lt (gX_LK b) y_357_12 rfl rfl (fun c3 => ?_) (fun c3 => ?_)
      · have h := (if_pos c3).symm.trans h
        cases h
      · have h := (if_neg c3).symm.trans h
        refine gl_iload_n (gX_LK b) y_357_15 rfl rfl ?_
        refine gl_sipush (gX_LK b) y_357_16 cs_600 rfl ?_
        refine gl_ic_le (gX_LK b) y_357_19 rfl rfl (fun c4 => ?_) (fun c4 => ?_)
        · have h := (if_pos c4).symm.trans h
          exact gl_return y_357_30 yt_357 (by cases h; exact hP)
        · have h := (if_neg c4).symm.trans h
          cases h
/-- ClickOrders.worst(II)I -/
def xT_333 (b : Bool) (rf : jRf) (F : Int32 → Int32 → jSc → (Nat → Nat) → jSc → jAl → Option (Int32 × jSc × (Nat → Nat) × jSc × jAl)) (e : Nat) : Prop := ∀  (Post : jPo) (x1 : Int32) (x2 : Int32) (sc : jSc) (mr : (Nat → Nat)) (ar : jSc) (al : jAl) (r9 : Int32) (sc9 : jSc) (mr9 : (Nat → Nat)) (ar9 : jSc) (al9 : jAl), F x1 x2 sc mr ar al = some (r9, sc9, mr9, ar9, al9) → Post (some (.int r9)) sc9 (x_mk mr9 rf) ar9 al9 → gW (gX b) 333 e 0 (j_av [.ref 734, .int x1, .int x2]) [] sc (x_mk mr rf) ar al Post
def xF_333 (x1 : Int32) (x2 : Int32) (sc : jSc) (mr : (Nat → Nat)) (ar : jSc) (al : jAl) : Option (Int32 × jSc × (Nat → Nat) × jSc × jAl) :=
  (o_b4 (xF_357 x1 x2 sc mr ar al) (fun sce1 mre1 are1 ale1 => (o_b4 (xF_285 x1 x2 (0 : Int32) sce1 mre1 are1 ale1) (fun sce2 mre2 are2 ale2 => (o_b5 (xF_286 sce2 mre2 are2 ale2) (fun ve3 sce3 mre3 are3 ale3 => some (ve3, sce3, mre3, are3, ale3)))))))
set_option maxHeartbeats 4000000 in
theorem xt_333 {b : Bool} {rf : jRf} {d : Nat} : xT_333 b rf xF_333 (d + 7) := by
  intro  Post x1 x2 sc mr ar al r9 sc9 mr9 ar9 al9 h hP
  unfold xF_333 at h
  refine gl_entry (m := 0) rfl ?_
  show gL (gX b) 333 (d + 7) 0 [some (.ref 734), some (.int x1), some (.int x2)] [] sc (x_mk mr rf) ar al Post
  refine gl_aload_n (gX_LK b) y_333_0 rfl rfl ?_
  refine gl_iload_n (gX_LK b) y_333_1 rfl rfl ?_
  refine gl_iload_n (gX_LK b) y_333_2 rfl rfl ?_
  obtain ⟨sce1, mre1, are1, ale1, e1, h⟩ := o_k4 h
  refine gl_callV (gX_LK b) y_333_3 ym_333_214 rfl rfl rfl ys_734 yx_357 rfl rfl ((xt_357 )  _ _ _ _ _ _ _ _ _ _ _ e1 ?_)
  refine gl_aload_n (gX_LK b) y_333_6 rfl rfl ?_
  refine gl_getA (gX_LK b) y_333_7 yf_333_63 ys_734 rfl rfl rfl rfl ?_
  refine gl_iload_n (gX_LK b) y_333_10 rfl rfl ?_
  refine gl_iload_n (gX_LK b) y_333_11 rfl rfl ?_
  refine gl_iconst (gX_LK b) y_333_12 ci_0 rfl ?_
  obtain ⟨sce2, mre2, are2, ale2, e2, h⟩ := o_k4 h
  refine gl_callV (gX_LK b) y_333_13 ym_333_217 rfl rfl rfl ys_773 yx_285 rfl rfl ((xt_285 )  _ _ _ _ _ _ _ _ _ _ _ _ e2 ?_)
  refine gl_aload_n (gX_LK b) y_333_16 rfl rfl ?_
  refine gl_getA (gX_LK b) y_333_17 yf_333_63 ys_734 rfl rfl rfl rfl ?_
  obtain ⟨ve3, sce3, mre3, are3, ale3, e3, h⟩ := o_k5 h
  refine gl_callV (gX_LK b) y_333_20 ym_333_221 rfl rfl rfl ys_773 yx_286 rfl rfl ((xt_286 )  _  _ _ _ _ _ _ _ _ _ e3 ?_)
  exact gl_ireturn y_333_23 (Or.inl yt_333) (by cases h; exact hP)
/-- ClickOrders.step(III)I -/
def xT_334 (b : Bool) (rf : jRf) (F : Int32 → Int32 → Int32 → jSc → (Nat → Nat) → jSc → jAl → Option (Int32 × jSc × (Nat → Nat) × jSc × jAl)) (e : Nat) : Prop := ∀  (Post : jPo) (x1 : Int32) (x2 : Int32) (x3 : Int32) (sc : jSc) (mr : (Nat → Nat)) (ar : jSc) (al : jAl) (r9 : Int32) (sc9 : jSc) (mr9 : (Nat → Nat)) (ar9 : jSc) (al9 : jAl), F x1 x2 x3 sc mr ar al = some (r9, sc9, mr9, ar9, al9) → Post (some (.int r9)) sc9 (x_mk mr9 rf) ar9 al9 → gW (gX b) 334 e 0 (j_av [.ref 734, .int x1, .int x2, .int x3]) [] sc (x_mk mr rf) ar al Post
def xF_334 (x1 : Int32) (x2 : Int32) (x3 : Int32) (sc : jSc) (mr : (Nat → Nat)) (ar : jSc) (al : jAl) : Option (Int32 × jSc × (Nat → Nat) × jSc × jAl) :=
  (o_b4 (xF_357 x1 x2 sc mr ar al) (fun sce1 mre1 are1 ale1 => (o_b4 (xF_285 x1 x2 (0 : Int32) sce1 mre1 are1 ale1) (fun sce2 mre2 are2 ale2 => (o_b5 (xF_287 x3 sce2 mre2 are2 ale2) (fun ve3 sce3 mre3 are3 ale3 => some (ve3, sce3, mre3, are3, ale3)))))))
set_option maxHeartbeats 4000000 in
theorem xt_334 {b : Bool} {rf : jRf} {d : Nat} : xT_334 b rf xF_334 (d + 7) := by
  intro  Post x1 x2 x3 sc mr ar al r9 sc9 mr9 ar9 al9 h hP
  unfold xF_334 at h
  refine gl_entry (m := 0) rfl ?_
  show gL (gX b) 334 (d + 7) 0 [some (.ref 734), some (.int x1), some (.int x2), some (.int x3)] [] sc (x_mk mr rf) ar al Post
  refine gl_aload_n (gX_LK b) y_334_0 rfl rfl ?_
  refine gl_iload_n (gX_LK b) y_334_1 rfl rfl ?_
  refine gl_iload_n (gX_LK b) y_334_2 rfl rfl ?_
  obtain ⟨sce1, mre1, are1, ale1, e1, h⟩ := o_k4 h
  refine gl_callV (gX_LK b) y_334_3 ym_334_214 rfl rfl rfl ys_734 yx_357 rfl rfl ((xt_357 )  _ _ _ _ _ _ _ _ _ _ _ e1 ?_)
  refine gl_aload_n (gX_LK b) y_334_6 rfl rfl ?_
  refine gl_getA (gX_LK b) y_334_7 yf_334_63 ys_734 rfl rfl rfl rfl ?_
  refine gl_iload_n (gX_LK b) y_334_10 rfl rfl ?_
  refine gl_iload_n (gX_LK b) y_334_11 rfl rfl ?_
  refine gl_iconst (gX_LK b) y_334_12 ci_0 rfl ?_
  obtain ⟨sce2, mre2, are2, ale2, e2, h⟩ := o_k4 h
  refine gl_callV (gX_LK b) y_334_13 ym_334_217 rfl rfl rfl ys_773 yx_285 rfl rfl ((xt_285 )  _ _ _ _ _ _ _ _ _ _ _ _ e2 ?_)
  refine gl_aload_n (gX_LK b) y_334_16 rfl rfl ?_
  refine gl_getA (gX_LK b) y_334_17 yf_334_63 ys_734 rfl rfl rfl rfl ?_
  refine gl_iload_n (gX_LK b) y_334_20 rfl rfl ?_
  obtain ⟨ve3, sce3, mre3, are3, ale3, e3, h⟩ := o_k5 h
  refine gl_callV (gX_LK b) y_334_21 ym_334_224 rfl rfl rfl ys_773 yx_287 rfl rfl ((xt_287 )  _ _ _ _ _ _ _ _ _ _ _ e3 ?_)
  exact gl_ireturn y_334_24 (Or.inl yt_334) (by cases h; exact hP)
/-- ClickOrders.pages(II)I -/
def xT_335 (b : Bool) (rf : jRf) (F : Int32 → Int32 → jSc → (Nat → Nat) → jSc → jAl → Option (Int32 × jSc × (Nat → Nat) × jSc × jAl)) (e : Nat) : Prop := ∀  (Post : jPo) (x1 : Int32) (x2 : Int32) (sc : jSc) (mr : (Nat → Nat)) (ar : jSc) (al : jAl) (r9 : Int32) (sc9 : jSc) (mr9 : (Nat → Nat)) (ar9 : jSc) (al9 : jAl), F x1 x2 sc mr ar al = some (r9, sc9, mr9, ar9, al9) → Post (some (.int r9)) sc9 (x_mk mr9 rf) ar9 al9 → gW (gX b) 335 e 0 (j_av [.ref 734, .int x1, .int x2]) [] sc (x_mk mr rf) ar al Post
def xF_335 (x1 : Int32) (x2 : Int32) (sc : jSc) (mr : (Nat → Nat)) (ar : jSc) (al : jAl) : Option (Int32 × jSc × (Nat → Nat) × jSc × jAl) :=
  (o_b4 (xF_357 x1 x2 sc mr ar al) (fun sce1 mre1 are1 ale1 => (o_b4 (xF_285 x1 x2 (1 : Int32) sce1 mre1 are1 ale1) (fun sce2 mre2 are2 ale2 => (if (sce2 773 1) = 0 then some ((sce2 773 0), sce2, mre2, are2, ale2) else some ((-2 : Int32), sce2, mre2, are2, ale2))))))
set_option maxHeartbeats 4000000 in
theorem xt_335 {b : Bool} {rf : jRf} {d : Nat} : xT_335 b rf xF_335 (d + 7) := by
  intro  Post x1 x2 sc mr ar al r9 sc9 mr9 ar9 al9 h hP
  unfold xF_335 at h
  refine gl_entry (m := 0) rfl ?_
  show gL (gX b) 335 (d + 7) 0 [some (.ref 734), some (.int x1), some (.int x2)] [] sc (x_mk mr rf) ar al Post
  refine gl_aload_n (gX_LK b) y_335_0 rfl rfl ?_
  refine gl_iload_n (gX_LK b) y_335_1 rfl rfl ?_
  refine gl_iload_n (gX_LK b) y_335_2 rfl rfl ?_
  obtain ⟨sce1, mre1, are1, ale1, e1, h⟩ := o_k4 h
  refine gl_callV (gX_LK b) y_335_3 ym_335_214 rfl rfl rfl ys_734 yx_357 rfl rfl ((xt_357 )  _ _ _ _ _ _ _ _ _ _ _ e1 ?_)
  refine gl_aload_n (gX_LK b) y_335_6 rfl rfl ?_
  refine gl_getA (gX_LK b) y_335_7 yf_335_63 ys_734 rfl rfl rfl rfl ?_
  refine gl_iload_n (gX_LK b) y_335_10 rfl rfl ?_
  refine gl_iload_n (gX_LK b) y_335_11 rfl rfl ?_
  refine gl_iconst (gX_LK b) y_335_12 ci_1 rfl ?_
  obtain ⟨sce2, mre2, are2, ale2, e2, h⟩ := o_k4 h
  refine gl_callV (gX_LK b) y_335_13 ym_335_217 rfl rfl rfl ys_773 yx_285 rfl rfl ((xt_285 )  _ _ _ _ _ _ _ _ _ _ _ _ e2 ?_)
  refine gl_aload_n (gX_LK b) y_335_16 rfl rfl ?_
  refine gl_getA (gX_LK b) y_335_17 yf_335_63 ys_734 rfl rfl rfl rfl ?_
  refine gl_get (gX_LK b) y_335_20 yf_335_227 ys_773 rfl rfl rfl rfl ?_
  refine gl_if_eq (gX_LK b) y_335_23 rfl rfl (fun c3 => ?_) (fun c3 => ?_)
  · have h := (if_pos c3).symm.trans h
    refine gl_aload_n (gX_LK b) y_335_31 rfl rfl ?_
    refine gl_getA (gX_LK b) y_335_32 yf_335_63 ys_734 rfl rfl rfl rfl ?_
    refine gl_get (gX_LK b) y_335_35 yf_335_231 ys_773 rfl rfl rfl rfl ?_
    exact gl_ireturn y_335_38 (Or.inl yt_335) (by cases h; exact hP)
  · have h := (if_neg c3).symm.trans h
    refine gl_bipush (gX_LK b) y_335_26 cb_m2 rfl ?_
    refine gl_goto (gX_LK b) y_335_28 rfl ?_
    exact gl_ireturn y_335_38 (Or.inl yt_335) (by cases h; exact hP)
/-- ClickOrders.checkMore(I)V -/
def xT_358 (b : Bool) (rf : jRf) (F : Int32 → jSc → (Nat → Nat) → jSc → jAl → Option (jSc × (Nat → Nat) × jSc × jAl)) (e : Nat) : Prop := ∀  (Post : jPo) (x1 : Int32) (sc : jSc) (mr : (Nat → Nat)) (ar : jSc) (al : jAl) (sc9 : jSc) (mr9 : (Nat → Nat)) (ar9 : jSc) (al9 : jAl), F x1 sc mr ar al = some (sc9, mr9, ar9, al9) → Post none sc9 (x_mk mr9 rf) ar9 al9 → gW (gX b) 358 e 0 (j_av [.ref 734, .int x1]) [] sc (x_mk mr rf) ar al Post
def xF_358 (x1 : Int32) (sc : jSc) (mr : (Nat → Nat)) (ar : jSc) (al : jAl) : Option (jSc × (Nat → Nat) × jSc × jAl) :=
  (if x1 < 0 then none else (if x1 ≤ (3 : Int32) then some (sc, mr, ar, al) else none))
set_option maxHeartbeats 4000000 in
theorem xt_358 {b : Bool} {rf : jRf} {d : Nat} : xT_358 b rf xF_358 (d + 1) := by
  intro  Post x1 sc mr ar al sc9 mr9 ar9 al9 h hP
  unfold xF_358 at h
  refine gl_entry (m := 0) rfl ?_
  show gL (gX b) 358 (d + 1) 0 [some (.ref 734), some (.int x1)] [] sc (x_mk mr rf) ar al Post
  refine gl_iload_n (gX_LK b) y_358_0 rfl rfl ?_
  refine gl_if_lt (gX_LK b) y_358_1 rfl rfl (fun c1 => ?_) (fun c1 => ?_)
  · have h := (if_pos c1).symm.trans h
    cases h
  · have h := (if_neg c1).symm.trans h
    refine gl_iload_n (gX_LK b) y_358_4 rfl rfl ?_
    refine gl_iconst (gX_LK b) y_358_5 ci_3 rfl ?_
    refine gl_ic_le (gX_LK b) y_358_6 rfl rfl (fun c2 => ?_) (fun c2 => ?_)
    · have h := (if_pos c2).symm.trans h
      exact gl_return y_358_17 yt_358 (by cases h; exact hP)
    · have h := (if_neg c2).symm.trans h
      cases h
/-- ClickOrders.stuck(III)I -/
def xT_336 (b : Bool) (rf : jRf) (F : Int32 → Int32 → Int32 → jSc → (Nat → Nat) → jSc → jAl → Option (Int32 × jSc × (Nat → Nat) × jSc × jAl)) (e : Nat) : Prop := ∀  (Post : jPo) (x1 : Int32) (x2 : Int32) (x3 : Int32) (sc : jSc) (mr : (Nat → Nat)) (ar : jSc) (al : jAl) (r9 : Int32) (sc9 : jSc) (mr9 : (Nat → Nat)) (ar9 : jSc) (al9 : jAl), F x1 x2 x3 sc mr ar al = some (r9, sc9, mr9, ar9, al9) → Post (some (.int r9)) sc9 (x_mk mr9 rf) ar9 al9 → gW (gX b) 336 e 0 (j_av [.ref 734, .int x1, .int x2, .int x3]) [] sc (x_mk mr rf) ar al Post
def xF_336 (x1 : Int32) (x2 : Int32) (x3 : Int32) (sc : jSc) (mr : (Nat → Nat)) (ar : jSc) (al : jAl) : Option (Int32 × jSc × (Nat → Nat) × jSc × jAl) :=
  (o_b4 (xF_357 x1 x3 sc mr ar al) (fun sce1 mre1 are1 ale1 => (o_b4 (xF_358 x2 sce1 mre1 are1 ale1) (fun sce2 mre2 are2 ale2 => (o_b4 (xF_285 x1 x3 (1 : Int32) sce2 mre2 are2 ale2) (fun sce3 mre3 are3 ale3 => (if (sce3 773 1) = 0 then (o_b5 (xF_288 x2 (600 : Int32) sce3 mre3 are3 ale3) (fun ve5 sce5 mre5 are5 ale5 => some (ve5, sce5, mre5, are5, ale5))) else some ((-2 : Int32), sce3, mre3, are3, ale3))))))))
set_option maxHeartbeats 4000000 in
theorem xt_336 {b : Bool} {rf : jRf} {d : Nat} : xT_336 b rf xF_336 (d + 86) := by
  intro  Post x1 x2 x3 sc mr ar al r9 sc9 mr9 ar9 al9 h hP
  unfold xF_336 at h
  refine gl_entry (m := 0) rfl ?_
  show gL (gX b) 336 (d + 86) 0 [some (.ref 734), some (.int x1), some (.int x2), some (.int x3)] [] sc (x_mk mr rf) ar al Post
  refine gl_aload_n (gX_LK b) y_336_0 rfl rfl ?_
  refine gl_iload_n (gX_LK b) y_336_1 rfl rfl ?_
  refine gl_iload_n (gX_LK b) y_336_2 rfl rfl ?_
  obtain ⟨sce1, mre1, are1, ale1, e1, h⟩ := o_k4 h
  refine gl_callV (gX_LK b) y_336_3 ym_336_214 rfl rfl rfl ys_734 yx_357 rfl rfl ((xt_357 )  _ _ _ _ _ _ _ _ _ _ _ e1 ?_)
  refine gl_aload_n (gX_LK b) y_336_6 rfl rfl ?_
  refine gl_iload_n (gX_LK b) y_336_7 rfl rfl ?_
  obtain ⟨sce2, mre2, are2, ale2, e2, h⟩ := o_k4 h
  refine gl_callV (gX_LK b) y_336_8 ym_336_234 rfl rfl rfl ys_734 yx_358 rfl rfl ((xt_358 )  _ _ _ _ _ _ _ _ _ _ e2 ?_)
  refine gl_aload_n (gX_LK b) y_336_11 rfl rfl ?_
  refine gl_getA (gX_LK b) y_336_12 yf_336_63 ys_734 rfl rfl rfl rfl ?_
  refine gl_iload_n (gX_LK b) y_336_15 rfl rfl ?_
  refine gl_iload_n (gX_LK b) y_336_16 rfl rfl ?_
  refine gl_iconst (gX_LK b) y_336_17 ci_1 rfl ?_
  obtain ⟨sce3, mre3, are3, ale3, e3, h⟩ := o_k4 h
  refine gl_callV (gX_LK b) y_336_18 ym_336_217 rfl rfl rfl ys_773 yx_285 rfl rfl ((xt_285 )  _ _ _ _ _ _ _ _ _ _ _ _ e3 ?_)
  refine gl_aload_n (gX_LK b) y_336_21 rfl rfl ?_
  refine gl_getA (gX_LK b) y_336_22 yf_336_63 ys_734 rfl rfl rfl rfl ?_
  refine gl_get (gX_LK b) y_336_25 yf_336_227 ys_773 rfl rfl rfl rfl ?_
  refine gl_if_eq (gX_LK b) y_336_28 rfl rfl (fun c4 => ?_) (fun c4 => ?_)
  · have h := (if_pos c4).symm.trans h
    refine gl_aload_n (gX_LK b) y_336_36 rfl rfl ?_
    refine gl_getA (gX_LK b) y_336_37 yf_336_63 ys_734 rfl rfl rfl rfl ?_
    refine gl_iload_n (gX_LK b) y_336_40 rfl rfl ?_
    refine gl_sipush (gX_LK b) y_336_41 cs_600 rfl ?_
    obtain ⟨ve5, sce5, mre5, are5, ale5, e5, h⟩ := o_k5 h
    refine gl_callV (gX_LK b) y_336_44 ym_336_237 rfl rfl rfl ys_773 yx_288 rfl rfl ((xt_288 )  _ _ _ _ _ _ _ _ _ _ _ _ e5 ?_)
    exact gl_ireturn y_336_47 (Or.inl yt_336) (by cases h; exact hP)
  · have h := (if_neg c4).symm.trans h
    refine gl_bipush (gX_LK b) y_336_31 cb_m2 rfl ?_
    refine gl_goto (gX_LK b) y_336_33 rfl ?_
    exact gl_ireturn y_336_47 (Or.inl yt_336) (by cases h; exact hP)
/-- ClickOrders.tell(I)I -/
def xT_337 (b : Bool) (rf : jRf) (F : Int32 → jSc → (Nat → Nat) → jSc → jAl → Option (Int32 × jSc × (Nat → Nat) × jSc × jAl)) (e : Nat) : Prop := ∀  (Post : jPo) (x1 : Int32) (sc : jSc) (mr : (Nat → Nat)) (ar : jSc) (al : jAl) (r9 : Int32) (sc9 : jSc) (mr9 : (Nat → Nat)) (ar9 : jSc) (al9 : jAl), F x1 sc mr ar al = some (r9, sc9, mr9, ar9, al9) → Post (some (.int r9)) sc9 (x_mk mr9 rf) ar9 al9 → gW (gX b) 337 e 0 (j_av [.ref 734, .int x1]) [] sc (x_mk mr rf) ar al Post
def xF_337 (x1 : Int32) (sc : jSc) (mr : (Nat → Nat)) (ar : jSc) (al : jAl) : Option (Int32 × jSc × (Nat → Nat) × jSc × jAl) :=
  (o_b4 (xF_354 x1 sc mr ar al) (fun sce1 mre1 are1 ale1 => (o_b5 (xF_277 x1 sce1 mre1 are1 ale1) (fun ve2 sce2 mre2 are2 ale2 => some (ve2, sce2, mre2, are2, ale2)))))
set_option maxHeartbeats 4000000 in
theorem xt_337 {b : Bool} {rf : jRf} {d : Nat} : xT_337 b rf xF_337 (d + 2) := by
  intro  Post x1 sc mr ar al r9 sc9 mr9 ar9 al9 h hP
  unfold xF_337 at h
  refine gl_entry (m := 0) rfl ?_
  show gL (gX b) 337 (d + 2) 0 [some (.ref 734), some (.int x1)] [] sc (x_mk mr rf) ar al Post
  refine gl_aload_n (gX_LK b) y_337_0 rfl rfl ?_
  refine gl_iload_n (gX_LK b) y_337_1 rfl rfl ?_
  obtain ⟨sce1, mre1, are1, ale1, e1, h⟩ := o_k4 h
  refine gl_callV (gX_LK b) y_337_2 ym_337_124 rfl rfl rfl ys_734 yx_354 rfl rfl ((xt_354 )  _ _ _ _ _ _ _ _ _ _ e1 ?_)
  refine gl_aload_n (gX_LK b) y_337_5 rfl rfl ?_
  refine gl_getA (gX_LK b) y_337_6 yf_337_77 ys_734 rfl rfl rfl rfl ?_
  refine gl_iload_n (gX_LK b) y_337_9 rfl rfl ?_
  obtain ⟨ve2, sce2, mre2, are2, ale2, e2, h⟩ := o_k5 h
  refine gl_callV (gX_LK b) y_337_10 ym_337_240 rfl rfl rfl ys_819 yx_277 rfl rfl ((xt_277 )  _ _ _ _ _ _ _ _ _ _ _ e2 ?_)
  exact gl_ireturn y_337_13 (Or.inl yt_337) (by cases h; exact hP)
/-- ClickOrders.clear()I -/
def xT_338 (b : Bool) (rf : jRf) (F : jSc → (Nat → Nat) → jSc → jAl → Option (Int32 × jSc × (Nat → Nat) × jSc × jAl)) (e : Nat) : Prop := ∀  (Post : jPo) (sc : jSc) (mr : (Nat → Nat)) (ar : jSc) (al : jAl) (r9 : Int32) (sc9 : jSc) (mr9 : (Nat → Nat)) (ar9 : jSc) (al9 : jAl), F sc mr ar al = some (r9, sc9, mr9, ar9, al9) → Post (some (.int r9)) sc9 (x_mk mr9 rf) ar9 al9 → gW (gX b) 338 e 0 (j_av [.ref 734]) [] sc (x_mk mr rf) ar al Post
def xF_338 (sc : jSc) (mr : (Nat → Nat)) (ar : jSc) (al : jAl) : Option (Int32 × jSc × (Nat → Nat) × jSc × jAl) :=
  some ((sc 819 1), (j_u2 sc 819 1 (0 : Int32)), mr, ar, al)
set_option maxHeartbeats 4000000 in
theorem xt_338 {b : Bool} {rf : jRf} {d : Nat} : xT_338 b rf xF_338 (d + 1) := by
  intro  Post  sc mr ar al r9 sc9 mr9 ar9 al9 h hP
  unfold xF_338 at h
  refine gl_entry (m := 1) rfl ?_
  show gL (gX b) 338 (d + 1) 0 [some (.ref 734), none] [] sc (x_mk mr rf) ar al Post
  refine gl_aload_n (gX_LK b) y_338_0 rfl rfl ?_
  refine gl_getA (gX_LK b) y_338_1 yf_338_77 ys_734 rfl rfl rfl rfl ?_
  refine gl_get (gX_LK b) y_338_4 yf_338_241 ys_819 rfl rfl rfl rfl ?_
  refine gl_istore_n (vs2 := [some (.ref 734), some (.int (sc 819 1))]) (gX_LK b) y_338_7 rfl rfl rfl rfl ?_
  refine gl_aload_n (gX_LK b) y_338_8 rfl rfl ?_
  refine gl_getA (gX_LK b) y_338_9 yf_338_77 ys_734 rfl rfl rfl rfl ?_
  refine gl_iconst (gX_LK b) y_338_12 ci_0 rfl ?_
  refine gl_put (sc' := (j_u2 sc 819 1 (0 : Int32))) (gX_LK b) y_338_13 yf_338_241 ys_819 rfl rfl rfl rfl rfl ?_
  refine gl_iload_n (gX_LK b) y_338_16 rfl rfl ?_
  exact gl_ireturn y_338_17 (Or.inl yt_338) (by cases h; exact hP)
/-- ClickOrders.record()I -/
def xT_339 (b : Bool) (rf : jRf) (F : jSc → (Nat → Nat) → jSc → jAl → Option (Int32 × jSc × (Nat → Nat) × jSc × jAl)) (e : Nat) : Prop := ∀  (Post : jPo) (sc : jSc) (mr : (Nat → Nat)) (ar : jSc) (al : jAl) (r9 : Int32) (sc9 : jSc) (mr9 : (Nat → Nat)) (ar9 : jSc) (al9 : jAl), F sc mr ar al = some (r9, sc9, mr9, ar9, al9) → Post (some (.int r9)) sc9 (x_mk mr9 rf) ar9 al9 → gW (gX b) 339 e 0 (j_av [.ref 734]) [] sc (x_mk mr rf) ar al Post
def xF_339 (sc : jSc) (mr : (Nat → Nat)) (ar : jSc) (al : jAl) : Option (Int32 × jSc × (Nat → Nat) × jSc × jAl) :=
  (o_b5 (xF_278 sc mr ar al) (fun ve1 sce1 mre1 are1 ale1 => some (ve1, sce1, mre1, are1, ale1)))
set_option maxHeartbeats 4000000 in
theorem xt_339 {b : Bool} {rf : jRf} {d : Nat} : xT_339 b rf xF_339 (d + 6) := by
  intro  Post  sc mr ar al r9 sc9 mr9 ar9 al9 h hP
  unfold xF_339 at h
  refine gl_entry (m := 0) rfl ?_
  show gL (gX b) 339 (d + 6) 0 [some (.ref 734)] [] sc (x_mk mr rf) ar al Post
  refine gl_aload_n (gX_LK b) y_339_0 rfl rfl ?_
  refine gl_getA (gX_LK b) y_339_1 yf_339_77 ys_734 rfl rfl rfl rfl ?_
  obtain ⟨ve1, sce1, mre1, are1, ale1, e1, h⟩ := o_k5 h
  refine gl_callV (gX_LK b) y_339_4 ym_339_242 rfl rfl rfl ys_819 yx_278 rfl rfl ((xt_278 )  _  _ _ _ _ _ _ _ _ _ e1 ?_)
  exact gl_ireturn y_339_7 (Or.inl yt_339) (by cases h; exact hP)
/-- ClickOrders.cut()I -/
def xT_340 (b : Bool) (rf : jRf) (F : jSc → (Nat → Nat) → jSc → jAl → Option (Int32 × jSc × (Nat → Nat) × jSc × jAl)) (e : Nat) : Prop := ∀  (Post : jPo) (sc : jSc) (mr : (Nat → Nat)) (ar : jSc) (al : jAl) (r9 : Int32) (sc9 : jSc) (mr9 : (Nat → Nat)) (ar9 : jSc) (al9 : jAl), F sc mr ar al = some (r9, sc9, mr9, ar9, al9) → Post (some (.int r9)) sc9 (x_mk mr9 rf) ar9 al9 → gW (gX b) 340 e 0 (j_av [.ref 734]) [] sc (x_mk mr rf) ar al Post
def xF_340 (sc : jSc) (mr : (Nat → Nat)) (ar : jSc) (al : jAl) : Option (Int32 × jSc × (Nat → Nat) × jSc × jAl) :=
  (o_b5 (xF_279 sc mr ar al) (fun ve1 sce1 mre1 are1 ale1 => some (ve1, sce1, mre1, are1, ale1)))
set_option maxHeartbeats 4000000 in
theorem xt_340 {b : Bool} {rf : jRf} {d : Nat} : xT_340 b rf xF_340 (d + 8) := by
  intro  Post  sc mr ar al r9 sc9 mr9 ar9 al9 h hP
  unfold xF_340 at h
  refine gl_entry (m := 0) rfl ?_
  show gL (gX b) 340 (d + 8) 0 [some (.ref 734)] [] sc (x_mk mr rf) ar al Post
  refine gl_aload_n (gX_LK b) y_340_0 rfl rfl ?_
  refine gl_getA (gX_LK b) y_340_1 yf_340_77 ys_734 rfl rfl rfl rfl ?_
  obtain ⟨ve1, sce1, mre1, are1, ale1, e1, h⟩ := o_k5 h
  refine gl_callV (gX_LK b) y_340_4 ym_340_245 rfl rfl rfl ys_819 yx_279 rfl rfl ((xt_279 )  _  _ _ _ _ _ _ _ _ _ e1 ?_)
  exact gl_ireturn y_340_7 (Or.inl yt_340) (by cases h; exact hP)
/-- ClickOrders.told(I)I -/
def xT_341 (b : Bool) (rf : jRf) (F : Int32 → jSc → (Nat → Nat) → jSc → jAl → Option (Int32 × jSc × (Nat → Nat) × jSc × jAl)) (e : Nat) : Prop := ∀  (Post : jPo) (x1 : Int32) (sc : jSc) (mr : (Nat → Nat)) (ar : jSc) (al : jAl) (r9 : Int32) (sc9 : jSc) (mr9 : (Nat → Nat)) (ar9 : jSc) (al9 : jAl), F x1 sc mr ar al = some (r9, sc9, mr9, ar9, al9) → Post (some (.int r9)) sc9 (x_mk mr9 rf) ar9 al9 → gW (gX b) 341 e 0 (j_av [.ref 734, .int x1]) [] sc (x_mk mr rf) ar al Post
def xF_341 (x1 : Int32) (sc : jSc) (mr : (Nat → Nat)) (ar : jSc) (al : jAl) : Option (Int32 × jSc × (Nat → Nat) × jSc × jAl) :=
  (if x1 < 0 then some ((-1 : Int32), sc, mr, ar, al) else (if x1 < (sc 819 1) then (if iB x1 40 then some ((ar 820 (iN x1)), sc, mr, ar, al) else none) else some ((-1 : Int32), sc, mr, ar, al)))
set_option maxHeartbeats 4000000 in
theorem xt_341 {b : Bool} {rf : jRf} {d : Nat} : xT_341 b rf xF_341 (d + 1) := by
  intro  Post x1 sc mr ar al r9 sc9 mr9 ar9 al9 h hP
  unfold xF_341 at h
  refine gl_entry (m := 0) rfl ?_
  show gL (gX b) 341 (d + 1) 0 [some (.ref 734), some (.int x1)] [] sc (x_mk mr rf) ar al Post
  refine gl_iload_n (gX_LK b) y_341_0 rfl rfl ?_
  refine gl_if_lt (gX_LK b) y_341_1 rfl rfl (fun c1 => ?_) (fun c1 => ?_)
  · have h := (if_pos c1).symm.trans h
    refine gl_iconst (gX_LK b) y_341_15 ci_m1 rfl ?_
    refine gl_goto (gX_LK b) y_341_16 rfl ?_
    exact gl_ireturn y_341_28 (Or.inl yt_341) (by cases h; exact hP)
  · have h := (if_neg c1).symm.trans h
    refine gl_iload_n (gX_LK b) y_341_4 rfl rfl ?_
    refine gl_aload_n (gX_LK b) y_341_5 rfl rfl ?_
    refine gl_getA (gX_LK b) y_341_6 yf_341_77 ys_734 rfl rfl rfl rfl ?_
    refine gl_get (gX_LK b) y_341_9 yf_341_241 ys_819 rfl rfl rfl rfl ?_
    refine gl_ic_lt (gX_LK b) y_341_12 rfl rfl (fun c2 => ?_) (fun c2 => ?_)
    · have h := (if_pos c2).symm.trans h
      refine gl_aload_n (gX_LK b) y_341_19 rfl rfl ?_
      refine gl_getA (gX_LK b) y_341_20 yf_341_77 ys_734 rfl rfl rfl rfl ?_
      refine gl_getA (gX_LK b) y_341_23 yf_341_248 ys_819 rfl rfl rfl rfl ?_
      refine gl_iload_n (gX_LK b) y_341_26 rfl rfl ?_
      obtain ⟨c3, h⟩ := o_ck h
      refine gl_iaload (gX_LK b) y_341_27 ys_820 c3 rfl rfl ?_
      exact gl_ireturn y_341_28 (Or.inl yt_341) (by cases h; exact hP)
    · have h := (if_neg c2).symm.trans h
      refine gl_iconst (gX_LK b) y_341_15 ci_m1 rfl ?_
      refine gl_goto (gX_LK b) y_341_16 rfl ?_
      exact gl_ireturn y_341_28 (Or.inl yt_341) (by cases h; exact hP)
/-- ClickOrders.form(IIII)I -/
def xT_342 (b : Bool) (rf : jRf) (F : Int32 → Int32 → Int32 → Int32 → jSc → (Nat → Nat) → jSc → jAl → Option (Int32 × jSc × (Nat → Nat) × jSc × jAl)) (e : Nat) : Prop := ∀  (Post : jPo) (x1 : Int32) (x2 : Int32) (x3 : Int32) (x4 : Int32) (sc : jSc) (mr : (Nat → Nat)) (ar : jSc) (al : jAl) (r9 : Int32) (sc9 : jSc) (mr9 : (Nat → Nat)) (ar9 : jSc) (al9 : jAl), F x1 x2 x3 x4 sc mr ar al = some (r9, sc9, mr9, ar9, al9) → Post (some (.int r9)) sc9 (x_mk mr9 rf) ar9 al9 → gW (gX b) 342 e 0 (j_av [.ref 734, .int x1, .int x2, .int x3, .int x4]) [] sc (x_mk mr rf) ar al Post
def xF_342_51 (x1 : Int32) (x2 : Int32) (x3 : Int32) (x4 : Int32) (x5 : Int32) (x6 : Int32) (y0 : Int32) (sc : jSc) (mr : (Nat → Nat)) (ar : jSc) (al : jAl) : Option (Int32 × jSc × (Nat → Nat) × jSc × jAl) :=
  (if x5 = 0 then none else (if x6 = 0 then none else (if y0 = 0 then none else (if x4 < 0 then none else (if x4 ≤ (100 : Int32) then (o_b4 (xF_352 sc mr ar al) (fun sce6 mre6 are6 ale6 => (o_b5 (xF_200 x1 x2 x3 x4 sce6 mre6 are6 ale6) (fun ve7 sce7 mre7 are7 ale7 => some (ve7, sce7, mre7, are7, ale7))))) else none)))))
set_option maxHeartbeats 4000000 in
theorem xt_342_51 {b : Bool} {rf : jRf} {d : Nat} {Post : jPo} {r9 : Int32} {sc9 : jSc} {mr9 : (Nat → Nat)} {ar9 : jSc} {al9 : jAl} (hP : Post (some (.int r9)) sc9 (x_mk mr9 rf) ar9 al9) (x1 : Int32) (x2 : Int32) (x3 : Int32) (x4 : Int32) (x5 : Int32) (x6 : Int32) (y0 : Int32) (sc : jSc) (mr : (Nat → Nat)) (ar : jSc) (al : jAl) (h : xF_342_51 x1 x2 x3 x4 x5 x6 y0 sc mr ar al = some (r9, sc9, mr9, ar9, al9)) : gL (gX b) 342 (d + 4) 51 [some (.ref 734), some (.int x1), some (.int x2), some (.int x3), some (.int x4), some (.int x5), some (.int x6), none] [.int y0] sc (x_mk mr rf) ar al Post := by
  unfold xF_342_51 at h
  refine gl_istore (vs2 := [some (.ref 734), some (.int x1), some (.int x2), some (.int x3), some (.int x4), some (.int x5), some (.int x6), some (.int y0)]) (gX_LK b) y_342_51 rfl rfl rfl rfl ?_
  refine gl_iload (gX_LK b) y_342_53 rfl rfl ?_
  refine gl_if_eq (gX_LK b) y_342_55 rfl rfl (fun c1 => ?_) (fun c1 => ?_)
  · have h := (if_pos c1).symm.trans h
    cases h
  · have h := (if_neg c1).symm.trans h
    refine gl_iload (gX_LK b) y_342_58 rfl rfl ?_
    refine gl_if_eq (gX_LK b) y_342_60 rfl rfl (fun c2 => ?_) (fun c2 => ?_)
    · have h := (if_pos c2).symm.trans h
      cases h
    · have h := (if_neg c2).symm.trans h
      refine gl_iload (gX_LK b) y_342_63 rfl rfl ?_
      refine gl_if_eq (gX_LK b) y_342_65 rfl rfl (fun c3 => ?_) (fun c3 => ?_)
      · have h := (if_pos c3).symm.trans h
        cases h
      · have h := (if_neg c3).symm.trans h
        refine gl_iload (gX_LK b) y_342_68 rfl rfl ?_
        refine gl_if_lt (gX_LK b) y_342_70 rfl rfl (fun c4 => ?_) (fun c4 => ?_)
        · have h := (if_pos c4).symm.trans h
          cases h
        · have h := (if_neg c4).symm.trans h
          refine gl_iload (gX_LK b) y_342_73 rfl rfl ?_
          refine gl_bipush (gX_LK b) y_342_75 cb_100 rfl ?_
          refine gl_ic_le (gX_LK b) y_342_77 rfl rfl (fun c5 => ?_) (fun c5 => ?_)
          · have h := (if_pos c5).symm.trans h
            refine gl_aload_n (gX_LK b) y_342_88 rfl rfl ?_
            obtain ⟨sce6, mre6, are6, ale6, e6, h⟩ := o_k4 h
            refine gl_callV (gX_LK b) y_342_89 ym_342_115 rfl rfl rfl ys_734 yx_352 rfl rfl ((xt_352 )  _  _ _ _ _ _ _ _ _ e6 ?_)
            refine gl_aload_n (gX_LK b) y_342_92 rfl rfl ?_
            refine gl_getA (gX_LK b) y_342_93 yf_342_16 ys_734 rfl rfl rfl rfl ?_
            refine gl_iload_n (gX_LK b) y_342_96 rfl rfl ?_
            refine gl_iload_n (gX_LK b) y_342_97 rfl rfl ?_
            refine gl_iload_n (gX_LK b) y_342_98 rfl rfl ?_
            refine gl_iload (gX_LK b) y_342_99 rfl rfl ?_
            obtain ⟨ve7, sce7, mre7, are7, ale7, e7, h⟩ := o_k5 h
            refine gl_callV (gX_LK b) y_342_101 ym_342_249 rfl rfl rfl ys_736 yx_200 rfl rfl ((xt_200 )  _ _ _ _ _ _ _ _ _ _ _ _ _ _ e7 ?_)
            exact gl_ireturn y_342_104 (Or.inl yt_342) (by cases h; exact hP)
          · have h := (if_neg c5).symm.trans h
            cases h
def xF_342_30 (x1 : Int32) (x2 : Int32) (x3 : Int32) (x4 : Int32) (x5 : Int32) (sc : jSc) (mr : (Nat → Nat)) (ar : jSc) (al : jAl) : Option (Int32 × jSc × (Nat → Nat) × jSc × jAl) :=
  (if x3 < 0 then xF_342_51 x1 x2 x3 x4 x5 (1 : Int32) (0 : Int32) sc mr ar al else (if (4 : Int32) ≤ x3 then xF_342_51 x1 x2 x3 x4 x5 (1 : Int32) (0 : Int32) sc mr ar al else xF_342_51 x1 x2 x3 x4 x5 (1 : Int32) (1 : Int32) sc mr ar al))
set_option maxHeartbeats 4000000 in
theorem xt_342_30 {b : Bool} {rf : jRf} {d : Nat} {Post : jPo} {r9 : Int32} {sc9 : jSc} {mr9 : (Nat → Nat)} {ar9 : jSc} {al9 : jAl} (hP : Post (some (.int r9)) sc9 (x_mk mr9 rf) ar9 al9) (x1 : Int32) (x2 : Int32) (x3 : Int32) (x4 : Int32) (x5 : Int32) (sc : jSc) (mr : (Nat → Nat)) (ar : jSc) (al : jAl) (h : xF_342_30 x1 x2 x3 x4 x5 sc mr ar al = some (r9, sc9, mr9, ar9, al9)) : gL (gX b) 342 (d + 4) 30 [some (.ref 734), some (.int x1), some (.int x2), some (.int x3), some (.int x4), some (.int x5), none, none] [] sc (x_mk mr rf) ar al Post := by
  unfold xF_342_30 at h
  refine gl_iconst (gX_LK b) y_342_30 ci_1 rfl ?_
  refine gl_goto (gX_LK b) y_342_31 rfl ?_
  refine gl_istore (vs2 := [some (.ref 734), some (.int x1), some (.int x2), some (.int x3), some (.int x4), some (.int x5), some (.int (1 : Int32)), none]) (gX_LK b) y_342_35 rfl rfl rfl rfl ?_
  refine gl_iload_n (gX_LK b) y_342_37 rfl rfl ?_
  refine gl_if_lt (gX_LK b) y_342_38 rfl rfl (fun c8 => ?_) (fun c8 => ?_)
  · have h := (if_pos c8).symm.trans h
    refine gl_iconst (gX_LK b) y_342_50 ci_0 rfl ?_
    exact gl_weak (vs := [some (.ref 734), some (.int x1), some (.int x2), some (.int x3), some (.int x4), some (.int x5), some (.int (1 : Int32)), none]) ⟨rfl, rfl, rfl, rfl, rfl, rfl, rfl, trivial⟩ (xt_342_51  hP x1 x2 x3 x4 x5 (1 : Int32) (0 : Int32) sc mr ar al h)
  · have h := (if_neg c8).symm.trans h
    refine gl_iload_n (gX_LK b) y_342_41 rfl rfl ?_
    refine gl_iconst (gX_LK b) y_342_42 ci_4 rfl ?_
    refine gl_ic_ge (gX_LK b) y_342_43 rfl rfl (fun c9 => ?_) (fun c9 => ?_)
    · have h := (if_pos c9).symm.trans h
      refine gl_iconst (gX_LK b) y_342_50 ci_0 rfl ?_
      exact gl_weak (vs := [some (.ref 734), some (.int x1), some (.int x2), some (.int x3), some (.int x4), some (.int x5), some (.int (1 : Int32)), none]) ⟨rfl, rfl, rfl, rfl, rfl, rfl, rfl, trivial⟩ (xt_342_51  hP x1 x2 x3 x4 x5 (1 : Int32) (0 : Int32) sc mr ar al h)
    · have h := (if_neg c9).symm.trans h
      refine gl_iconst (gX_LK b) y_342_46 ci_1 rfl ?_
      refine gl_goto (gX_LK b) y_342_47 rfl ?_
      exact gl_weak (vs := [some (.ref 734), some (.int x1), some (.int x2), some (.int x3), some (.int x4), some (.int x5), some (.int (1 : Int32)), none]) ⟨rfl, rfl, rfl, rfl, rfl, rfl, rfl, trivial⟩ (xt_342_51  hP x1 x2 x3 x4 x5 (1 : Int32) (1 : Int32) sc mr ar al h)
def xF_342_14 (x1 : Int32) (x2 : Int32) (x3 : Int32) (x4 : Int32) (y0 : Int32) (sc : jSc) (mr : (Nat → Nat)) (ar : jSc) (al : jAl) : Option (Int32 × jSc × (Nat → Nat) × jSc × jAl) :=
  (if x1 = 0 then (if x2 < 0 then (if x3 < 0 then xF_342_51 x1 x2 x3 x4 y0 (0 : Int32) (0 : Int32) sc mr ar al else (if (4 : Int32) ≤ x3 then xF_342_51 x1 x2 x3 x4 y0 (0 : Int32) (0 : Int32) sc mr ar al else xF_342_51 x1 x2 x3 x4 y0 (0 : Int32) (1 : Int32) sc mr ar al)) else (if (8 : Int32) ≤ x2 then (if x3 < 0 then xF_342_51 x1 x2 x3 x4 y0 (0 : Int32) (0 : Int32) sc mr ar al else (if (4 : Int32) ≤ x3 then xF_342_51 x1 x2 x3 x4 y0 (0 : Int32) (0 : Int32) sc mr ar al else xF_342_51 x1 x2 x3 x4 y0 (0 : Int32) (1 : Int32) sc mr ar al)) else xF_342_30 x1 x2 x3 x4 y0 sc mr ar al)) else xF_342_30 x1 x2 x3 x4 y0 sc mr ar al)
set_option maxHeartbeats 4000000 in
theorem xt_342_14 {b : Bool} {rf : jRf} {d : Nat} {Post : jPo} {r9 : Int32} {sc9 : jSc} {mr9 : (Nat → Nat)} {ar9 : jSc} {al9 : jAl} (hP : Post (some (.int r9)) sc9 (x_mk mr9 rf) ar9 al9) (x1 : Int32) (x2 : Int32) (x3 : Int32) (x4 : Int32) (y0 : Int32) (sc : jSc) (mr : (Nat → Nat)) (ar : jSc) (al : jAl) (h : xF_342_14 x1 x2 x3 x4 y0 sc mr ar al = some (r9, sc9, mr9, ar9, al9)) : gL (gX b) 342 (d + 4) 14 [some (.ref 734), some (.int x1), some (.int x2), some (.int x3), some (.int x4), none, none, none] [.int y0] sc (x_mk mr rf) ar al Post := by
  unfold xF_342_14 at h
  refine gl_istore (vs2 := [some (.ref 734), some (.int x1), some (.int x2), some (.int x3), some (.int x4), some (.int y0), none, none]) (gX_LK b) y_342_14 rfl rfl rfl rfl ?_
  refine gl_iload_n (gX_LK b) y_342_16 rfl rfl ?_
  refine gl_if_ne (gX_LK b) y_342_17 rfl rfl (fun c10 => ?_) (fun c10 => ?_)
  · have h := (if_pos c10).symm.trans h
    refine gl_iload_n (gX_LK b) y_342_20 rfl rfl ?_
    refine gl_if_lt (gX_LK b) y_342_21 rfl rfl (fun c11 => ?_) (fun c11 => ?_)
    · have h := (if_pos c11).symm.trans h
      refine gl_iconst (gX_LK b) y_342_34 ci_0 rfl ?_
      refine gl_istore (vs2 := [some (.ref 734), some (.int x1), some (.int x2), some (.int x3), some (.int x4), some (.int y0), some (.int (0 : Int32)), none]) (gX_LK b) y_342_35 rfl rfl rfl rfl ?_
      refine gl_iload_n (gX_LK b) y_342_37 rfl rfl ?_
      refine gl_if_lt (gX_LK b) y_342_38 rfl rfl (fun c12 => ?_) (fun c12 => ?_)
      · have h := (if_pos c12).symm.trans h
        refine gl_iconst (gX_LK b) y_342_50 ci_0 rfl ?_
        exact gl_weak (vs := [some (.ref 734), some (.int x1), some (.int x2), some (.int x3), some (.int x4), some (.int y0), some (.int (0 : Int32)), none]) ⟨rfl, rfl, rfl, rfl, rfl, rfl, rfl, trivial⟩ (xt_342_51  hP x1 x2 x3 x4 y0 (0 : Int32) (0 : Int32) sc mr ar al h)
      · have h := (if_neg c12).symm.trans h
        refine gl_iload_n (gX_LK b) y_342_41 rfl rfl ?_
        refine gl_iconst (gX_LK b) y_342_42 ci_4 rfl ?_
        refine gl_ic_ge (gX_LK b) y_342_43 rfl rfl (fun c13 => ?_) (fun c13 => ?_)
        · have h := (if_pos c13).symm.trans h
          refine gl_iconst (gX_LK b) y_342_50 ci_0 rfl ?_
          exact gl_weak (vs := [some (.ref 734), some (.int x1), some (.int x2), some (.int x3), some (.int x4), some (.int y0), some (.int (0 : Int32)), none]) ⟨rfl, rfl, rfl, rfl, rfl, rfl, rfl, trivial⟩ (xt_342_51  hP x1 x2 x3 x4 y0 (0 : Int32) (0 : Int32) sc mr ar al h)
        · have h := (if_neg c13).symm.trans h
          refine gl_iconst (gX_LK b) y_342_46 ci_1 rfl ?_
          refine gl_goto (gX_LK b) y_342_47 rfl ?_
          exact gl_weak (vs := [some (.ref 734), some (.int x1), some (.int x2), some (.int x3), some (.int x4), some (.int y0), some (.int (0 : Int32)), none]) ⟨rfl, rfl, rfl, rfl, rfl, rfl, rfl, trivial⟩ (xt_342_51  hP x1 x2 x3 x4 y0 (0 : Int32) (1 : Int32) sc mr ar al h)
    · have h := (if_neg c11).symm.trans h
      refine gl_iload_n (gX_LK b) y_342_24 rfl rfl ?_
      refine gl_bipush (gX_LK b) y_342_25 cb_8 rfl ?_
      refine gl_ic_ge (gX_LK b) y_342_27 rfl rfl (fun c14 => ?_) (fun c14 => ?_)
      · have h := (if_pos c14).symm.trans h
        refine gl_iconst (gX_LK b) y_342_34 ci_0 rfl ?_
        refine gl_istore (vs2 := [some (.ref 734), some (.int x1), some (.int x2), some (.int x3), some (.int x4), some (.int y0), some (.int (0 : Int32)), none]) (gX_LK b) y_342_35 rfl rfl rfl rfl ?_
        refine gl_iload_n (gX_LK b) y_342_37 rfl rfl ?_
        refine gl_if_lt (gX_LK b) y_342_38 rfl rfl (fun c15 => ?_) (fun c15 => ?_)
        · have h := (if_pos c15).symm.trans h
          refine gl_iconst (gX_LK b) y_342_50 ci_0 rfl ?_
          exact gl_weak (vs := [some (.ref 734), some (.int x1), some (.int x2), some (.int x3), some (.int x4), some (.int y0), some (.int (0 : Int32)), none]) ⟨rfl, rfl, rfl, rfl, rfl, rfl, rfl, trivial⟩ (xt_342_51  hP x1 x2 x3 x4 y0 (0 : Int32) (0 : Int32) sc mr ar al h)
        · have h := (if_neg c15).symm.trans h
          refine gl_iload_n (gX_LK b) y_342_41 rfl rfl ?_
          refine gl_iconst (gX_LK b) y_342_42 ci_4 rfl ?_
          refine gl_ic_ge (gX_LK b) y_342_43 rfl rfl (fun c16 => ?_) (fun c16 => ?_)
          · have h := (if_pos c16).symm.trans h
            refine gl_iconst (gX_LK b) y_342_50 ci_0 rfl ?_
            exact gl_weak (vs := [some (.ref 734), some (.int x1), some (.int x2), some (.int x3), some (.int x4), some (.int y0), some (.int (0 : Int32)), none]) ⟨rfl, rfl, rfl, rfl, rfl, rfl, rfl, trivial⟩ (xt_342_51  hP x1 x2 x3 x4 y0 (0 : Int32) (0 : Int32) sc mr ar al h)
          · have h := (if_neg c16).symm.trans h
            refine gl_iconst (gX_LK b) y_342_46 ci_1 rfl ?_
            refine gl_goto (gX_LK b) y_342_47 rfl ?_
            exact gl_weak (vs := [some (.ref 734), some (.int x1), some (.int x2), some (.int x3), some (.int x4), some (.int y0), some (.int (0 : Int32)), none]) ⟨rfl, rfl, rfl, rfl, rfl, rfl, rfl, trivial⟩ (xt_342_51  hP x1 x2 x3 x4 y0 (0 : Int32) (1 : Int32) sc mr ar al h)
      · have h := (if_neg c14).symm.trans h
        exact gl_weak (vs := [some (.ref 734), some (.int x1), some (.int x2), some (.int x3), some (.int x4), some (.int y0), none, none]) ⟨rfl, rfl, rfl, rfl, rfl, rfl, trivial⟩ (xt_342_30  hP x1 x2 x3 x4 y0 sc mr ar al h)
  · have h := (if_neg c10).symm.trans h
    exact gl_weak (vs := [some (.ref 734), some (.int x1), some (.int x2), some (.int x3), some (.int x4), some (.int y0), none, none]) ⟨rfl, rfl, rfl, rfl, rfl, rfl, trivial⟩ (xt_342_30  hP x1 x2 x3 x4 y0 sc mr ar al h)
def xF_342 (x1 : Int32) (x2 : Int32) (x3 : Int32) (x4 : Int32) (sc : jSc) (mr : (Nat → Nat)) (ar : jSc) (al : jAl) : Option (Int32 × jSc × (Nat → Nat) × jSc × jAl) :=
  (if x1 < 0 then xF_342_14 x1 x2 x3 x4 (0 : Int32) sc mr ar al else (if (3 : Int32) ≤ x1 then xF_342_14 x1 x2 x3 x4 (0 : Int32) sc mr ar al else xF_342_14 x1 x2 x3 x4 (1 : Int32) sc mr ar al))
set_option maxHeartbeats 4000000 in
theorem xt_342 {b : Bool} {rf : jRf} {d : Nat} : xT_342 b rf xF_342 (d + 4) := by
  intro  Post x1 x2 x3 x4 sc mr ar al r9 sc9 mr9 ar9 al9 h hP
  unfold xF_342 at h
  refine gl_entry (m := 3) rfl ?_
  show gL (gX b) 342 (d + 4) 0 [some (.ref 734), some (.int x1), some (.int x2), some (.int x3), some (.int x4), none, none, none] [] sc (x_mk mr rf) ar al Post
  refine gl_iload_n (gX_LK b) y_342_0 rfl rfl ?_
  refine gl_if_lt (gX_LK b) y_342_1 rfl rfl (fun c17 => ?_) (fun c17 => ?_)
  · have h := (if_pos c17).symm.trans h
    refine gl_iconst (gX_LK b) y_342_13 ci_0 rfl ?_
    exact gl_weak (vs := [some (.ref 734), some (.int x1), some (.int x2), some (.int x3), some (.int x4), none, none, none]) ⟨rfl, rfl, rfl, rfl, rfl, trivial⟩ (xt_342_14  hP x1 x2 x3 x4 (0 : Int32) sc mr ar al h)
  · have h := (if_neg c17).symm.trans h
    refine gl_iload_n (gX_LK b) y_342_4 rfl rfl ?_
    refine gl_iconst (gX_LK b) y_342_5 ci_3 rfl ?_
    refine gl_ic_ge (gX_LK b) y_342_6 rfl rfl (fun c18 => ?_) (fun c18 => ?_)
    · have h := (if_pos c18).symm.trans h
      refine gl_iconst (gX_LK b) y_342_13 ci_0 rfl ?_
      exact gl_weak (vs := [some (.ref 734), some (.int x1), some (.int x2), some (.int x3), some (.int x4), none, none, none]) ⟨rfl, rfl, rfl, rfl, rfl, trivial⟩ (xt_342_14  hP x1 x2 x3 x4 (0 : Int32) sc mr ar al h)
    · have h := (if_neg c18).symm.trans h
      refine gl_iconst (gX_LK b) y_342_9 ci_1 rfl ?_
      refine gl_goto (gX_LK b) y_342_10 rfl ?_
      exact gl_weak (vs := [some (.ref 734), some (.int x1), some (.int x2), some (.int x3), some (.int x4), none, none, none]) ⟨rfl, rfl, rfl, rfl, rfl, trivial⟩ (xt_342_14  hP x1 x2 x3 x4 (1 : Int32) sc mr ar al h)
