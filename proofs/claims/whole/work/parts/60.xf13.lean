/-! ClickOrders: its methods as functions, and that the machine does what they say. -/
/-- ClickOrders$Track.tallyOf(I)I -/
def xT_304 (b : Bool) (rf : jRf) (F : Int32 → jSc → (Nat → Nat) → jSc → jAl → Option (Int32 × jSc × (Nat → Nat) × jSc × jAl)) (e : Nat) : Prop := ∀  (Post : jPo) (x1 : Int32) (sc : jSc) (mr : (Nat → Nat)) (ar : jSc) (al : jAl) (r9 : Int32) (sc9 : jSc) (mr9 : (Nat → Nat)) (ar9 : jSc) (al9 : jAl), F x1 sc mr ar al = some (r9, sc9, mr9, ar9, al9) → Post (some (.int r9)) sc9 (x_mk mr9 rf) ar9 al9 → gW (gX b) 304 e 0 (j_av [.ref 759, .int x1]) [] sc (x_mk mr rf) ar al Post
def xF_304_29 (k17 : Int32 → Int32 → jSc → (Nat → Nat) → jSc → jAl → Option (Int32 × jSc × (Nat → Nat) × jSc × jAl)) : Nat → Int32 → Int32 → Int32 → jSc → (Nat → Nat) → jSc → jAl → Option (Int32 × jSc × (Nat → Nat) × jSc × jAl)
  | 0, _, _, _, _, _, _, _ => none
  | nn + 1, x1, x2, x3, sc, mr, ar, al => (if (sc 759 5) ≤ x3 then k17 x1 (x2 + (1 : Int32)) sc mr ar al else (o_b5 (xF_301 x2 x3 sc mr ar al) (fun ve2 sce2 mre2 are2 ale2 => (if ve2 = 0 then xF_304_29 k17 nn x1 x2 (x3 + (1 : Int32)) sce2 mre2 are2 ale2 else (o_b5 (xF_306 x2 x3 sce2 mre2 are2 ale2) (fun ve4 sce4 mre4 are4 ale4 => (if iB ve4 5 then (if iB ve4 5 then xF_304_29 k17 nn x1 x2 (x3 + (1 : Int32)) sce4 mre4 (j_u2 are4 772 (iN ve4) ((are4 772 (iN ve4)) + (1 : Int32))) ale4 else none) else none)))))))
set_option maxHeartbeats 4000000 in
theorem xt_304_29 {b : Bool} {rf : jRf} {d : Nat} {Post : jPo} {r9 : Int32} {sc9 : jSc} {mr9 : (Nat → Nat)} {ar9 : jSc} {al9 : jAl} {k17 : Int32 → Int32 → jSc → (Nat → Nat) → jSc → jAl → Option (Int32 × jSc × (Nat → Nat) × jSc × jAl)} (hk17 : ∀ (x1 : Int32) (x2 : Int32) (sc : jSc) (mr : (Nat → Nat)) (ar : jSc) (al : jAl), k17 x1 x2 sc mr ar al = some (r9, sc9, mr9, ar9, al9) → gL (gX b) 304 (d + 7) 17 [some (.ref 759), some (.int x1), some (.int x2), none] [] sc (x_mk mr rf) ar al Post) (hP : Post (some (.int r9)) sc9 (x_mk mr9 rf) ar9 al9) : ∀ (nn : Nat) (x1 : Int32) (x2 : Int32) (x3 : Int32) (sc : jSc) (mr : (Nat → Nat)) (ar : jSc) (al : jAl), xF_304_29 k17 nn x1 x2 x3 sc mr ar al = some (r9, sc9, mr9, ar9, al9) → gL (gX b) 304 (d + 7) 29 [some (.ref 759), some (.int x1), some (.int x2), some (.int x3)] [] sc (x_mk mr rf) ar al Post := by
  intro nn
  induction nn with
  | zero =>
    intro x1 x2 x3 sc mr ar al h
    have h : (none : Option (Int32 × jSc × (Nat → Nat) × jSc × jAl)) = some _ := h
    cases h
  | succ nn ih =>
    intro x1 x2 x3 sc mr ar al h
    unfold xF_304_29 at h
    refine gl_iload_n (gX_LK b) y_304_29 rfl rfl ?_
    refine gl_aload_n (gX_LK b) y_304_30 rfl rfl ?_
    refine gl_get (gX_LK b) y_304_31 yf_304_31 ys_759 rfl rfl rfl rfl ?_
    refine gl_ic_ge (gX_LK b) y_304_34 rfl rfl (fun c1 => ?_) (fun c1 => ?_)
    · have h := (if_pos c1).symm.trans h
      refine gl_iinc (vs2 := [some (.ref 759), some (.int x1), some (.int (x2 + (1 : Int32))), some (.int x3)]) (gX_LK b) y_304_67 rfl rfl rfl ci_1 rfl rfl ?_
      refine gl_goto (gX_LK b) y_304_70 rfl ?_
      exact gl_weak (vs := [some (.ref 759), some (.int x1), some (.int (x2 + (1 : Int32))), none]) ⟨rfl, rfl, rfl, trivial⟩ (hk17 x1 (x2 + (1 : Int32)) sc mr ar al h)
    · have h := (if_neg c1).symm.trans h
      refine gl_aload_n (gX_LK b) y_304_37 rfl rfl ?_
      refine gl_iload_n (gX_LK b) y_304_38 rfl rfl ?_
      refine gl_iload_n (gX_LK b) y_304_39 rfl rfl ?_
      obtain ⟨ve2, sce2, mre2, are2, ale2, e2, h⟩ := o_k5 h
      refine gl_callV (gX_LK b) y_304_40 ym_304_90 rfl rfl rfl ys_759 yx_301 rfl rfl ((xt_301 )  _ _ _ _ _ _ _ _ _ _ _ _ e2 ?_)
      refine gl_if_eq (gX_LK b) y_304_43 rfl rfl (fun c3 => ?_) (fun c3 => ?_)
      · have h := (if_pos c3).symm.trans h
        refine gl_iinc (vs2 := [some (.ref 759), some (.int x1), some (.int x2), some (.int (x3 + (1 : Int32)))]) (gX_LK b) y_304_61 rfl rfl rfl ci_1 rfl rfl ?_
        refine gl_goto (gX_LK b) y_304_64 rfl ?_
        exact gl_weak (vs := [some (.ref 759), some (.int x1), some (.int x2), some (.int (x3 + (1 : Int32)))]) ⟨rfl, rfl, rfl, rfl, trivial⟩ (ih x1 x2 (x3 + (1 : Int32)) sce2 mre2 are2 ale2 h)
      · have h := (if_neg c3).symm.trans h
        refine gl_aload_n (gX_LK b) y_304_46 rfl rfl ?_
        refine gl_getA (gX_LK b) y_304_47 yf_304_54 ys_759 rfl rfl rfl rfl ?_
        refine gl_aload_n (gX_LK b) y_304_50 rfl rfl ?_
        refine gl_iload_n (gX_LK b) y_304_51 rfl rfl ?_
        refine gl_iload_n (gX_LK b) y_304_52 rfl rfl ?_
        obtain ⟨ve4, sce4, mre4, are4, ale4, e4, h⟩ := o_k5 h
        refine gl_callV (gX_LK b) y_304_53 ym_304_100 rfl rfl rfl ys_759 yx_306 rfl rfl ((xt_306 )  _ _ _ _ _ _ _ _ _ _ _ _ e4 ?_)
        refine gl_dup2 (gX_LK b) y_304_56 rfl rfl rfl ?_
        obtain ⟨c5, h⟩ := o_ck h
        refine gl_iaload (gX_LK b) y_304_57 ys_772 c5 rfl rfl ?_
        refine gl_iconst (gX_LK b) y_304_58 ci_1 rfl ?_
        refine gl_iadd (gX_LK b) y_304_59 rfl ?_
        obtain ⟨c6, h⟩ := o_ck h
        refine gl_iastore (ar2 := (j_u2 are4 772 (iN ve4) ((are4 772 (iN ve4)) + (1 : Int32)))) (gX_LK b) y_304_60 ys_772 c6 rfl rfl ?_
        refine gl_iinc (vs2 := [some (.ref 759), some (.int x1), some (.int x2), some (.int (x3 + (1 : Int32)))]) (gX_LK b) y_304_61 rfl rfl rfl ci_1 rfl rfl ?_
        refine gl_goto (gX_LK b) y_304_64 rfl ?_
        exact gl_weak (vs := [some (.ref 759), some (.int x1), some (.int x2), some (.int (x3 + (1 : Int32)))]) ⟨rfl, rfl, rfl, rfl, trivial⟩ (ih x1 x2 (x3 + (1 : Int32)) sce4 mre4 (j_u2 are4 772 (iN ve4) ((are4 772 (iN ve4)) + (1 : Int32))) ale4 h)
def xF_304_17 : Nat → Int32 → Int32 → jSc → (Nat → Nat) → jSc → jAl → Option (Int32 × jSc × (Nat → Nat) × jSc × jAl)
  | 0, _, _, _, _, _, _ => none
  | nn + 1, x1, x2, sc, mr, ar, al => (if (sc 759 5) ≤ x2 then (if iB x1 5 then some ((ar 772 (iN x1)), (j_u2 sc 759 14 (1 : Int32)), mr, ar, al) else none) else xF_304_29 (fun x1_ x2_ sc_ mr_ ar_ al_ => xF_304_17 nn x1_ x2_ sc_ mr_ ar_ al_) oF x1 x2 (x2 + (1 : Int32)) sc mr ar al)
set_option maxHeartbeats 4000000 in
theorem xt_304_17 {b : Bool} {rf : jRf} {d : Nat} {Post : jPo} {r9 : Int32} {sc9 : jSc} {mr9 : (Nat → Nat)} {ar9 : jSc} {al9 : jAl} (hP : Post (some (.int r9)) sc9 (x_mk mr9 rf) ar9 al9) : ∀ (nn : Nat) (x1 : Int32) (x2 : Int32) (sc : jSc) (mr : (Nat → Nat)) (ar : jSc) (al : jAl), xF_304_17 nn x1 x2 sc mr ar al = some (r9, sc9, mr9, ar9, al9) → gL (gX b) 304 (d + 7) 17 [some (.ref 759), some (.int x1), some (.int x2), none] [] sc (x_mk mr rf) ar al Post := by
  intro nn
  induction nn with
  | zero =>
    intro x1 x2 sc mr ar al h
    have h : (none : Option (Int32 × jSc × (Nat → Nat) × jSc × jAl)) = some _ := h
    cases h
  | succ nn ih =>
    intro x1 x2 sc mr ar al h
    unfold xF_304_17 at h
    refine gl_iload_n (gX_LK b) y_304_17 rfl rfl ?_
    refine gl_aload_n (gX_LK b) y_304_18 rfl rfl ?_
    refine gl_get (gX_LK b) y_304_19 yf_304_31 ys_759 rfl rfl rfl rfl ?_
    refine gl_ic_ge (gX_LK b) y_304_22 rfl rfl (fun c7 => ?_) (fun c7 => ?_)
    · have h := (if_pos c7).symm.trans h
      refine gl_aload_n (gX_LK b) y_304_73 rfl rfl ?_
      refine gl_iconst (gX_LK b) y_304_74 ci_1 rfl ?_
      refine gl_put (sc' := (j_u2 sc 759 14 (1 : Int32))) (gX_LK b) y_304_75 yf_304_57 ys_759 rfl rfl rfl rfl rfl ?_
      refine gl_aload_n (gX_LK b) y_304_78 rfl rfl ?_
      refine gl_getA (gX_LK b) y_304_79 yf_304_54 ys_759 rfl rfl rfl rfl ?_
      refine gl_iload_n (gX_LK b) y_304_82 rfl rfl ?_
      obtain ⟨c8, h⟩ := o_ck h
      refine gl_iaload (gX_LK b) y_304_83 ys_772 c8 rfl rfl ?_
      exact gl_ireturn y_304_84 (Or.inl yt_304) (by cases h; exact hP)
    · have h := (if_neg c7).symm.trans h
      refine gl_iload_n (gX_LK b) y_304_25 rfl rfl ?_
      refine gl_iconst (gX_LK b) y_304_26 ci_1 rfl ?_
      refine gl_iadd (gX_LK b) y_304_27 rfl ?_
      refine gl_istore_n (vs2 := [some (.ref 759), some (.int x1), some (.int x2), some (.int (x2 + (1 : Int32)))]) (gX_LK b) y_304_28 rfl rfl rfl rfl ?_
      exact gl_weak (vs := [some (.ref 759), some (.int x1), some (.int x2), some (.int (x2 + (1 : Int32)))]) ⟨rfl, rfl, rfl, rfl, trivial⟩ (xt_304_29  ih hP oF x1 x2 (x2 + (1 : Int32)) sc mr ar al h)
def xF_304 (x1 : Int32) (sc : jSc) (mr : (Nat → Nat)) (ar : jSc) (al : jAl) : Option (Int32 × jSc × (Nat → Nat) × jSc × jAl) :=
  (if (sc 759 14) = 0 then (o_b4 (xF_503 772 5 (0 : Int32) sc mr ar al) (fun sce10 mre10 are10 ale10 => xF_304_17 oF x1 (0 : Int32) sce10 mre10 are10 ale10)) else (if iB x1 5 then some ((ar 772 (iN x1)), sc, mr, ar, al) else none))
set_option maxHeartbeats 4000000 in
theorem xt_304 {b : Bool} {rf : jRf} {d : Nat} : xT_304 b rf xF_304 (d + 7) := by
  intro  Post x1 sc mr ar al r9 sc9 mr9 ar9 al9 h hP
  unfold xF_304 at h
  refine gl_entry (m := 2) rfl ?_
  show gL (gX b) 304 (d + 7) 0 [some (.ref 759), some (.int x1), none, none] [] sc (x_mk mr rf) ar al Post
  refine gl_aload_n (gX_LK b) y_304_0 rfl rfl ?_
  refine gl_get (gX_LK b) y_304_1 yf_304_57 ys_759 rfl rfl rfl rfl ?_
  refine gl_if_ne (gX_LK b) y_304_4 rfl rfl (fun c9 => ?_) (fun c9 => ?_)
  · have h := (if_pos c9).symm.trans h
    refine gl_aload_n (gX_LK b) y_304_7 rfl rfl ?_
    refine gl_getA (gX_LK b) y_304_8 yf_304_54 ys_759 rfl rfl rfl rfl ?_
    refine gl_iconst (gX_LK b) y_304_11 ci_0 rfl ?_
    obtain ⟨sce10, mre10, are10, ale10, e10, h⟩ := o_k4 h
    refine gl_callS y_304_12 ym_304_94 rfl rfl rfl yx_503 rfl rfl ((xt_503 )  _ _ _ _ ys_772 _ _ _ _ _ _ _ _ e10 ?_)
    refine gl_iconst (gX_LK b) y_304_15 ci_0 rfl ?_
    refine gl_istore_n (vs2 := [some (.ref 759), some (.int x1), some (.int (0 : Int32)), none]) (gX_LK b) y_304_16 rfl rfl rfl rfl ?_
    exact gl_weak (vs := [some (.ref 759), some (.int x1), some (.int (0 : Int32)), none]) ⟨rfl, rfl, rfl, trivial⟩ (xt_304_17  hP oF x1 (0 : Int32) sce10 mre10 are10 ale10 h)
  · have h := (if_neg c9).symm.trans h
    refine gl_aload_n (gX_LK b) y_304_78 rfl rfl ?_
    refine gl_getA (gX_LK b) y_304_79 yf_304_54 ys_759 rfl rfl rfl rfl ?_
    refine gl_iload_n (gX_LK b) y_304_82 rfl rfl ?_
    obtain ⟨c11, h⟩ := o_ck h
    refine gl_iaload (gX_LK b) y_304_83 ys_772 c11 rfl rfl ?_
    exact gl_ireturn y_304_84 (Or.inl yt_304) (by cases h; exact hP)
/-- ClickOrders$Track.forgetsTally()V -/
def xT_305 (b : Bool) (rf : jRf) (F : jSc → (Nat → Nat) → jSc → jAl → Option (jSc × (Nat → Nat) × jSc × jAl)) (e : Nat) : Prop := ∀  (Post : jPo) (sc : jSc) (mr : (Nat → Nat)) (ar : jSc) (al : jAl) (sc9 : jSc) (mr9 : (Nat → Nat)) (ar9 : jSc) (al9 : jAl), F sc mr ar al = some (sc9, mr9, ar9, al9) → Post none sc9 (x_mk mr9 rf) ar9 al9 → gW (gX b) 305 e 0 (j_av [.ref 759]) [] sc (x_mk mr rf) ar al Post
def xF_305 (sc : jSc) (mr : (Nat → Nat)) (ar : jSc) (al : jAl) : Option (jSc × (Nat → Nat) × jSc × jAl) :=
  some ((j_u2 sc 759 14 (0 : Int32)), mr, ar, al)
set_option maxHeartbeats 4000000 in
theorem xt_305 {b : Bool} {rf : jRf} {d : Nat} : xT_305 b rf xF_305 (d + 1) := by
  intro  Post  sc mr ar al sc9 mr9 ar9 al9 h hP
  unfold xF_305 at h
  refine gl_entry (m := 0) rfl ?_
  show gL (gX b) 305 (d + 1) 0 [some (.ref 759)] [] sc (x_mk mr rf) ar al Post
  refine gl_aload_n (gX_LK b) y_305_0 rfl rfl ?_
  refine gl_iconst (gX_LK b) y_305_1 ci_0 rfl ?_
  refine gl_put (sc' := (j_u2 sc 759 14 (0 : Int32))) (gX_LK b) y_305_2 yf_305_57 ys_759 rfl rfl rfl rfl rfl ?_
  exact gl_return y_305_5 yt_305 (by cases h; exact hP)
/-- ClickOrders.puts(I)V -/
def xT_351 (b : Bool) (rf : jRf) (F : Int32 → jSc → (Nat → Nat) → jSc → jAl → Option (jSc × (Nat → Nat) × jSc × jAl)) (e : Nat) : Prop := ∀  (Post : jPo) (x1 : Int32) (sc : jSc) (mr : (Nat → Nat)) (ar : jSc) (al : jAl) (sc9 : jSc) (mr9 : (Nat → Nat)) (ar9 : jSc) (al9 : jAl), F x1 sc mr ar al = some (sc9, mr9, ar9, al9) → Post none sc9 (x_mk mr9 rf) ar9 al9 → gW (gX b) 351 e 0 (j_av [.ref 734, .int x1]) [] sc (x_mk mr rf) ar al Post
def xF_351_3 : Nat → Int32 → Int32 → jSc → (Nat → Nat) → jSc → jAl → Option (jSc × (Nat → Nat) × jSc × jAl)
  | 0, _, _, _, _, _, _ => none
  | nn + 1, x1, x2, sc, mr, ar, al => (if x2 < 0 then some (sc, mr, ar, al) else (if (600 : Int32) ≤ (sc 734 11) then xF_351_3 nn x1 (x2 + (-8 : Int32)) sc mr ar al else (if iB (sc 734 11) 600 then xF_351_3 nn x1 (x2 + (-8 : Int32)) (j_u2 sc 734 11 ((sc 734 11) + (1 : Int32))) mr (j_u2 ar 735 (iN (sc 734 11)) ((x1 >>> (x2 &&& 31)) &&& (255 : Int32))) al else none)))
set_option maxHeartbeats 4000000 in
theorem xt_351_3 {b : Bool} {rf : jRf} {d : Nat} {Post : jPo} {sc9 : jSc} {mr9 : (Nat → Nat)} {ar9 : jSc} {al9 : jAl} (hP : Post none sc9 (x_mk mr9 rf) ar9 al9) : ∀ (nn : Nat) (x1 : Int32) (x2 : Int32) (sc : jSc) (mr : (Nat → Nat)) (ar : jSc) (al : jAl), xF_351_3 nn x1 x2 sc mr ar al = some (sc9, mr9, ar9, al9) → gL (gX b) 351 (d + 1) 3 [some (.ref 734), some (.int x1), some (.int x2)] [] sc (x_mk mr rf) ar al Post := by
  intro nn
  induction nn with
  | zero =>
    intro x1 x2 sc mr ar al h
    have h : (none : Option (jSc × (Nat → Nat) × jSc × jAl)) = some _ := h
    cases h
  | succ nn ih =>
    intro x1 x2 sc mr ar al h
    unfold xF_351_3 at h
    refine gl_iload_n (gX_LK b) y_351_3 rfl rfl ?_
    refine gl_if_lt (gX_LK b) y_351_4 rfl rfl (fun c1 => ?_) (fun c1 => ?_)
    · have h := (if_pos c1).symm.trans h
      exact gl_return y_351_49 yt_351 (by cases h; exact hP)
    · have h := (if_neg c1).symm.trans h
      refine gl_aload_n (gX_LK b) y_351_7 rfl rfl ?_
      refine gl_get (gX_LK b) y_351_8 yf_351_81 ys_734 rfl rfl rfl rfl ?_
      refine gl_sipush (gX_LK b) y_351_11 cs_600 rfl ?_
      refine gl_ic_ge (gX_LK b) y_351_14 rfl rfl (fun c2 => ?_) (fun c2 => ?_)
      · have h := (if_pos c2).symm.trans h
        refine gl_iinc (vs2 := [some (.ref 734), some (.int x1), some (.int (x2 + (-8 : Int32)))]) (gX_LK b) y_351_43 rfl rfl rfl ci_m8 rfl rfl ?_
        refine gl_goto (gX_LK b) y_351_46 rfl ?_
        exact gl_weak (vs := [some (.ref 734), some (.int x1), some (.int (x2 + (-8 : Int32)))]) ⟨rfl, rfl, rfl, trivial⟩ (ih x1 (x2 + (-8 : Int32)) sc mr ar al h)
      · have h := (if_neg c2).symm.trans h
        refine gl_aload_n (gX_LK b) y_351_17 rfl rfl ?_
        refine gl_getA (gX_LK b) y_351_18 yf_351_9 ys_734 rfl rfl rfl rfl ?_
        refine gl_aload_n (gX_LK b) y_351_21 rfl rfl ?_
        refine gl_get (gX_LK b) y_351_22 yf_351_81 ys_734 rfl rfl rfl rfl ?_
        refine gl_iload_n (gX_LK b) y_351_25 rfl rfl ?_
        refine gl_iload_n (gX_LK b) y_351_26 rfl rfl ?_
        refine gl_ishr (gX_LK b) y_351_27 rfl ?_
        refine gl_sipush (gX_LK b) y_351_28 cs_255 rfl ?_
        refine gl_iand (gX_LK b) y_351_31 rfl ?_
        obtain ⟨c3, h⟩ := o_ck h
        refine gl_iastore (ar2 := (j_u2 ar 735 (iN (sc 734 11)) ((x1 >>> (x2 &&& 31)) &&& (255 : Int32)))) (gX_LK b) y_351_32 ys_735 c3 rfl rfl ?_
        refine gl_aload_n (gX_LK b) y_351_33 rfl rfl ?_
        refine gl_dup (gX_LK b) y_351_34 rfl rfl ?_
        refine gl_get (gX_LK b) y_351_35 yf_351_81 ys_734 rfl rfl rfl rfl ?_
        refine gl_iconst (gX_LK b) y_351_38 ci_1 rfl ?_
        refine gl_iadd (gX_LK b) y_351_39 rfl ?_
        refine gl_put (sc' := (j_u2 sc 734 11 ((sc 734 11) + (1 : Int32)))) (gX_LK b) y_351_40 yf_351_81 ys_734 rfl rfl rfl rfl rfl ?_
        refine gl_iinc (vs2 := [some (.ref 734), some (.int x1), some (.int (x2 + (-8 : Int32)))]) (gX_LK b) y_351_43 rfl rfl rfl ci_m8 rfl rfl ?_
        refine gl_goto (gX_LK b) y_351_46 rfl ?_
        exact gl_weak (vs := [some (.ref 734), some (.int x1), some (.int (x2 + (-8 : Int32)))]) ⟨rfl, rfl, rfl, trivial⟩ (ih x1 (x2 + (-8 : Int32)) (j_u2 sc 734 11 ((sc 734 11) + (1 : Int32))) mr (j_u2 ar 735 (iN (sc 734 11)) ((x1 >>> (x2 &&& 31)) &&& (255 : Int32))) al h)
def xF_351 (x1 : Int32) (sc : jSc) (mr : (Nat → Nat)) (ar : jSc) (al : jAl) : Option (jSc × (Nat → Nat) × jSc × jAl) :=
  xF_351_3 oF x1 (24 : Int32) sc mr ar al
set_option maxHeartbeats 4000000 in
theorem xt_351 {b : Bool} {rf : jRf} {d : Nat} : xT_351 b rf xF_351 (d + 1) := by
  intro  Post x1 sc mr ar al sc9 mr9 ar9 al9 h hP
  unfold xF_351 at h
  refine gl_entry (m := 1) rfl ?_
  show gL (gX b) 351 (d + 1) 0 [some (.ref 734), some (.int x1), none] [] sc (x_mk mr rf) ar al Post
  refine gl_bipush (gX_LK b) y_351_0 cb_24 rfl ?_
  refine gl_istore_n (vs2 := [some (.ref 734), some (.int x1), some (.int (24 : Int32))]) (gX_LK b) y_351_2 rfl rfl rfl rfl ?_
  exact gl_weak (vs := [some (.ref 734), some (.int x1), some (.int (24 : Int32))]) ⟨rfl, rfl, rfl, trivial⟩ (xt_351_3  hP oF x1 (24 : Int32) sc mr ar al h)
/-- ClickOrders.feed(IIIII)I -/
def xT_313 (b : Bool) (rf : jRf) (F : Int32 → Int32 → Int32 → Int32 → Int32 → jSc → (Nat → Nat) → jSc → jAl → Option (Int32 × jSc × (Nat → Nat) × jSc × jAl)) (e : Nat) : Prop := ∀  (Post : jPo) (x1 : Int32) (x2 : Int32) (x3 : Int32) (x4 : Int32) (x5 : Int32) (sc : jSc) (mr : (Nat → Nat)) (ar : jSc) (al : jAl) (r9 : Int32) (sc9 : jSc) (mr9 : (Nat → Nat)) (ar9 : jSc) (al9 : jAl), F x1 x2 x3 x4 x5 sc mr ar al = some (r9, sc9, mr9, ar9, al9) → Post (some (.int r9)) sc9 (x_mk mr9 rf) ar9 al9 → gW (gX b) 313 e 0 (j_av [.ref 734, .int x1, .int x2, .int x3, .int x4, .int x5]) [] sc (x_mk mr rf) ar al Post
def xF_313 (x1 : Int32) (x2 : Int32) (x3 : Int32) (x4 : Int32) (x5 : Int32) (sc : jSc) (mr : (Nat → Nat)) (ar : jSc) (al : jAl) : Option (Int32 × jSc × (Nat → Nat) × jSc × jAl) :=
  (if ((sc 734 11) + (20 : Int32)) ≤ (600 : Int32) then (o_b4 (xF_351 x1 sc mr ar al) (fun sce2 mre2 are2 ale2 => (o_b4 (xF_351 x2 sce2 mre2 are2 ale2) (fun sce3 mre3 are3 ale3 => (o_b4 (xF_351 x3 sce3 mre3 are3 ale3) (fun sce4 mre4 are4 ale4 => (o_b4 (xF_351 x4 sce4 mre4 are4 ale4) (fun sce5 mre5 are5 ale5 => (o_b4 (xF_351 x5 sce5 mre5 are5 ale5) (fun sce6 mre6 are6 ale6 => some ((sce6 734 11), sce6, mre6, are6, ale6))))))))))) else some ((-1 : Int32), sc, mr, ar, al))
set_option maxHeartbeats 4000000 in
theorem xt_313 {b : Bool} {rf : jRf} {d : Nat} : xT_313 b rf xF_313 (d + 2) := by
  intro  Post x1 x2 x3 x4 x5 sc mr ar al r9 sc9 mr9 ar9 al9 h hP
  unfold xF_313 at h
  refine gl_entry (m := 0) rfl ?_
  show gL (gX b) 313 (d + 2) 0 [some (.ref 734), some (.int x1), some (.int x2), some (.int x3), some (.int x4), some (.int x5)] [] sc (x_mk mr rf) ar al Post
  refine gl_aload_n (gX_LK b) y_313_0 rfl rfl ?_
  refine gl_get (gX_LK b) y_313_1 yf_313_81 ys_734 rfl rfl rfl rfl ?_
  refine gl_bipush (gX_LK b) y_313_4 cb_20 rfl ?_
  refine gl_iadd (gX_LK b) y_313_6 rfl ?_
  refine gl_sipush (gX_LK b) y_313_7 cs_600 rfl ?_
  refine gl_ic_le (gX_LK b) y_313_10 rfl rfl (fun c1 => ?_) (fun c1 => ?_)
  · have h := (if_pos c1).symm.trans h
    refine gl_aload_n (gX_LK b) y_313_15 rfl rfl ?_
    refine gl_iload_n (gX_LK b) y_313_16 rfl rfl ?_
    obtain ⟨sce2, mre2, are2, ale2, e2, h⟩ := o_k4 h
    refine gl_callV (gX_LK b) y_313_17 ym_313_98 rfl rfl rfl ys_734 yx_351 rfl rfl ((xt_351 )  _ _ _ _ _ _ _ _ _ _ e2 ?_)
    refine gl_aload_n (gX_LK b) y_313_20 rfl rfl ?_
    refine gl_iload_n (gX_LK b) y_313_21 rfl rfl ?_
    obtain ⟨sce3, mre3, are3, ale3, e3, h⟩ := o_k4 h
    refine gl_callV (gX_LK b) y_313_22 ym_313_98 rfl rfl rfl ys_734 yx_351 rfl rfl ((xt_351 )  _ _ _ _ _ _ _ _ _ _ e3 ?_)
    refine gl_aload_n (gX_LK b) y_313_25 rfl rfl ?_
    refine gl_iload_n (gX_LK b) y_313_26 rfl rfl ?_
    obtain ⟨sce4, mre4, are4, ale4, e4, h⟩ := o_k4 h
    refine gl_callV (gX_LK b) y_313_27 ym_313_98 rfl rfl rfl ys_734 yx_351 rfl rfl ((xt_351 )  _ _ _ _ _ _ _ _ _ _ e4 ?_)
    refine gl_aload_n (gX_LK b) y_313_30 rfl rfl ?_
    refine gl_iload (gX_LK b) y_313_31 rfl rfl ?_
    obtain ⟨sce5, mre5, are5, ale5, e5, h⟩ := o_k4 h
    refine gl_callV (gX_LK b) y_313_33 ym_313_98 rfl rfl rfl ys_734 yx_351 rfl rfl ((xt_351 )  _ _ _ _ _ _ _ _ _ _ e5 ?_)
    refine gl_aload_n (gX_LK b) y_313_36 rfl rfl ?_
    refine gl_iload (gX_LK b) y_313_37 rfl rfl ?_
    obtain ⟨sce6, mre6, are6, ale6, e6, h⟩ := o_k4 h
    refine gl_callV (gX_LK b) y_313_39 ym_313_98 rfl rfl rfl ys_734 yx_351 rfl rfl ((xt_351 )  _ _ _ _ _ _ _ _ _ _ e6 ?_)
    refine gl_aload_n (gX_LK b) y_313_42 rfl rfl ?_
    refine gl_get (gX_LK b) y_313_43 yf_313_81 ys_734 rfl rfl rfl rfl ?_
    exact gl_ireturn y_313_46 (Or.inl yt_313) (by cases h; exact hP)
  · have h := (if_neg c1).symm.trans h
    refine gl_iconst (gX_LK b) y_313_13 ci_m1 rfl ?_
    exact gl_ireturn y_313_14 (Or.inl yt_313) (by cases h; exact hP)
/-- ClickOrders.forgetsAllButSets()V -/
def xT_353 (b : Bool) (rf : jRf) (F : jSc → (Nat → Nat) → jSc → jAl → Option (jSc × (Nat → Nat) × jSc × jAl)) (e : Nat) : Prop := ∀  (Post : jPo) (sc : jSc) (mr : (Nat → Nat)) (ar : jSc) (al : jAl) (sc9 : jSc) (mr9 : (Nat → Nat)) (ar9 : jSc) (al9 : jAl), F sc mr ar al = some (sc9, mr9, ar9, al9) → Post none sc9 (x_mk mr9 rf) ar9 al9 → gW (gX b) 353 e 0 (j_av [.ref 734]) [] sc (x_mk mr rf) ar al Post
def xF_353 (sc : jSc) (mr : (Nat → Nat)) (ar : jSc) (al : jAl) : Option (jSc × (Nat → Nat) × jSc × jAl) :=
  (o_b4 (xF_283 sc mr ar al) (fun sce1 mre1 are1 ale1 => (o_b4 (xF_246 sce1 mre1 are1 ale1) (fun sce2 mre2 are2 ale2 => (o_b4 (xF_305 sce2 mre2 are2 ale2) (fun sce3 mre3 are3 ale3 => some (sce3, mre3, are3, ale3)))))))
set_option maxHeartbeats 4000000 in
theorem xt_353 {b : Bool} {rf : jRf} {d : Nat} : xT_353 b rf xF_353 (d + 2) := by
  intro  Post  sc mr ar al sc9 mr9 ar9 al9 h hP
  unfold xF_353 at h
  refine gl_entry (m := 0) rfl ?_
  show gL (gX b) 353 (d + 2) 0 [some (.ref 734)] [] sc (x_mk mr rf) ar al Post
  refine gl_aload_n (gX_LK b) y_353_0 rfl rfl ?_
  refine gl_getA (gX_LK b) y_353_1 yf_353_63 ys_734 rfl rfl rfl rfl ?_
  obtain ⟨sce1, mre1, are1, ale1, e1, h⟩ := o_k4 h
  refine gl_callV (gX_LK b) y_353_4 ym_353_281 rfl rfl rfl ys_773 yx_283 rfl rfl ((xt_283 )  _  _ _ _ _ _ _ _ _ e1 ?_)
  refine gl_aload_n (gX_LK b) y_353_7 rfl rfl ?_
  refine gl_getA (gX_LK b) y_353_8 yf_353_70 ys_734 rfl rfl rfl rfl ?_
  obtain ⟨sce2, mre2, are2, ale2, e2, h⟩ := o_k4 h
  refine gl_callV (gX_LK b) y_353_11 ym_353_306 rfl rfl rfl ys_796 yx_246 rfl rfl ((xt_246 )  _  _ _ _ _ _ _ _ _ e2 ?_)
  refine gl_aload_n (gX_LK b) y_353_14 rfl rfl ?_
  refine gl_getA (gX_LK b) y_353_15 yf_353_56 ys_734 rfl rfl rfl rfl ?_
  obtain ⟨sce3, mre3, are3, ale3, e3, h⟩ := o_k4 h
  refine gl_callV (gX_LK b) y_353_18 ym_353_309 rfl rfl rfl ys_759 yx_305 rfl rfl ((xt_305 )  _  _ _ _ _ _ _ _ _ e3 ?_)
  exact gl_return y_353_21 yt_353 (by cases h; exact hP)
/-- ClickOrders.forgets()V -/
def xT_352 (b : Bool) (rf : jRf) (F : jSc → (Nat → Nat) → jSc → jAl → Option (jSc × (Nat → Nat) × jSc × jAl)) (e : Nat) : Prop := ∀  (Post : jPo) (sc : jSc) (mr : (Nat → Nat)) (ar : jSc) (al : jAl) (sc9 : jSc) (mr9 : (Nat → Nat)) (ar9 : jSc) (al9 : jAl), F sc mr ar al = some (sc9, mr9, ar9, al9) → Post none sc9 (x_mk mr9 rf) ar9 al9 → gW (gX b) 352 e 0 (j_av [.ref 734]) [] sc (x_mk mr rf) ar al Post
def xF_352 (sc : jSc) (mr : (Nat → Nat)) (ar : jSc) (al : jAl) : Option (jSc × (Nat → Nat) × jSc × jAl) :=
  (o_b4 (xF_353 (j_u2 sc 734 13 (-1 : Int32)) mr ar al) (fun sce1 mre1 are1 ale1 => some (sce1, mre1, are1, ale1)))
set_option maxHeartbeats 4000000 in
theorem xt_352 {b : Bool} {rf : jRf} {d : Nat} : xT_352 b rf xF_352 (d + 3) := by
  intro  Post  sc mr ar al sc9 mr9 ar9 al9 h hP
  unfold xF_352 at h
  refine gl_entry (m := 0) rfl ?_
  show gL (gX b) 352 (d + 3) 0 [some (.ref 734)] [] sc (x_mk mr rf) ar al Post
  refine gl_aload_n (gX_LK b) y_352_0 rfl rfl ?_
  refine gl_iconst (gX_LK b) y_352_1 ci_m1 rfl ?_
  refine gl_put (sc' := (j_u2 sc 734 13 (-1 : Int32))) (gX_LK b) y_352_2 yf_352_88 ys_734 rfl rfl rfl rfl rfl ?_
  refine gl_aload_n (gX_LK b) y_352_5 rfl rfl ?_
  obtain ⟨sce1, mre1, are1, ale1, e1, h⟩ := o_k4 h
  refine gl_callV (gX_LK b) y_352_6 ym_352_259 rfl rfl rfl ys_734 yx_353 rfl rfl ((xt_353 )  _  _ _ _ _ _ _ _ _ e1 ?_)
  exact gl_return y_352_9 yt_352 (by cases h; exact hP)
/-- ClickOrders.program(I)I -/
def xT_314 (b : Bool) (rf : jRf) (F : Int32 → jSc → (Nat → Nat) → jSc → jAl → Option (Int32 × jSc × (Nat → Nat) × jSc × jAl)) (e : Nat) : Prop := ∀  (Post : jPo) (x1 : Int32) (sc : jSc) (mr : (Nat → Nat)) (ar : jSc) (al : jAl) (r9 : Int32) (sc9 : jSc) (mr9 : (Nat → Nat)) (ar9 : jSc) (al9 : jAl), F x1 sc mr ar al = some (r9, sc9, mr9, ar9, al9) → Post (some (.int r9)) sc9 (x_mk mr9 rf) ar9 al9 → gW (gX b) 314 e 0 (j_av [.ref 734, .int x1]) [] sc (x_mk mr rf) ar al Post
def xF_314 (x1 : Int32) (sc : jSc) (mr : (Nat → Nat)) (ar : jSc) (al : jAl) : Option (Int32 × jSc × (Nat → Nat) × jSc × jAl) :=
  (if x1 < 0 then none else (if x1 ≤ (sc 734 11) then (if x_pr (mr 2) = true then (o_b5 (xF_255 x1 (mr 2) sc mr ar al) (fun ve4 sce4 mre4 are4 ale4 => (if ve4 = 0 then (if x_pr (mre4 1) = true then (if x_pr (mre4 0) = true then (if x_pr (mre4 2) = true then (if x_pr (mre4 2) = true then (o_b4 (xF_352 (j_u2 (j_u2 sce4 734 11 (0 : Int32)) 734 12 (sce4 756 6)) (va_up (va_up (va_up (va_up mre4 1 (mre4 0)) 0 (mre4 2)) 2 (mre4 1)) 3 (mre4 2)) are4 ale4) (fun sce10 mre10 are10 ale10 => (o_b4 (xF_298 sce10 mre10 are10 ale10) (fun sce11 mre11 are11 ale11 => (o_b4 (xF_244 sce11 mre11 are11 ale11) (fun sce12 mre12 are12 ale12 => (if x_pr (mre12 0) = true then some ((sce12 (mre12 0) 4), sce12, mre12, are12, ale12) else none))))))) else none) else none) else none) else none) else some ((ve4 - (10 : Int32)), (j_u2 (j_u2 sce4 734 11 (0 : Int32)) 734 12 (sce4 756 6)), mre4, are4, ale4)))) else none) else none))
set_option maxHeartbeats 4000000 in
theorem xt_314 {b : Bool} {rf : jRf} {d : Nat} : xT_314 b rf xF_314 (d + 125) := by
  intro  Post x1 sc mr ar al r9 sc9 mr9 ar9 al9 h hP
  unfold xF_314 at h
  refine gl_entry (m := 2) rfl ?_
  show gL (gX b) 314 (d + 125) 0 [some (.ref 734), some (.int x1), none, none] [] sc (x_mk mr rf) ar al Post
  refine gl_iload_n (gX_LK b) y_314_0 rfl rfl ?_
  refine gl_if_lt (gX_LK b) y_314_1 rfl rfl (fun c1 => ?_) (fun c1 => ?_)
  · have h := (if_pos c1).symm.trans h
    cases h
  · have h := (if_neg c1).symm.trans h
    refine gl_iload_n (gX_LK b) y_314_4 rfl rfl ?_
    refine gl_aload_n (gX_LK b) y_314_5 rfl rfl ?_
    refine gl_get (gX_LK b) y_314_6 yf_314_81 ys_734 rfl rfl rfl rfl ?_
    refine gl_ic_le (gX_LK b) y_314_9 rfl rfl (fun c2 => ?_) (fun c2 => ?_)
    · have h := (if_pos c2).symm.trans h
      refine gl_aload_n (gX_LK b) y_314_20 rfl rfl ?_
      refine gl_getA (gX_LK b) y_314_21 yf_314_38 ys_734 rfl rfl rfl rfl ?_
      refine gl_iload_n (gX_LK b) y_314_24 rfl rfl ?_
      refine gl_aload_n (gX_LK b) y_314_25 rfl rfl ?_
      obtain ⟨c3, h⟩ := o_ck h
      refine gl_getA (gX_LK b) y_314_26 yf_314_30 ys_734 rfl rfl rfl rfl ?_
      obtain ⟨ve4, sce4, mre4, are4, ale4, e4, h⟩ := o_k5 h
      refine gl_callV (gX_LK b) y_314_29 ym_314_105 rfl rfl rfl ys_756 yx_255 rfl rfl ((xt_255 )  _ _ _ c3 _ _ _ _ _ _ _ _ _ e4 ?_)
      refine gl_istore_n (vs2 := [some (.ref 734), some (.int x1), some (.int ve4), none]) (gX_LK b) y_314_32 rfl rfl rfl rfl ?_
      refine gl_aload_n (gX_LK b) y_314_33 rfl rfl ?_
      refine gl_iconst (gX_LK b) y_314_34 ci_0 rfl ?_
      refine gl_put (sc' := (j_u2 sce4 734 11 (0 : Int32))) (gX_LK b) y_314_35 yf_314_81 ys_734 rfl rfl rfl rfl rfl ?_
      refine gl_aload_n (gX_LK b) y_314_38 rfl rfl ?_
      refine gl_aload_n (gX_LK b) y_314_39 rfl rfl ?_
      refine gl_getA (gX_LK b) y_314_40 yf_314_38 ys_734 rfl rfl rfl rfl ?_
      refine gl_get (gX_LK b) y_314_43 yf_314_109 ys_756 rfl rfl rfl rfl ?_
      refine gl_put (sc' := (j_u2 (j_u2 sce4 734 11 (0 : Int32)) 734 12 (sce4 756 6))) (gX_LK b) y_314_46 yf_314_85 ys_734 rfl rfl rfl rfl rfl ?_
      refine gl_iload_n (gX_LK b) y_314_49 rfl rfl ?_
      refine gl_if_eq (gX_LK b) y_314_50 rfl rfl (fun c5 => ?_) (fun c5 => ?_)
      · have h := (if_pos c5).symm.trans h
        refine gl_aload_n (gX_LK b) y_314_58 rfl rfl ?_
        obtain ⟨c6, h⟩ := o_ck h
        refine gl_getA (gX_LK b) y_314_59 yf_314_27 ys_734 rfl rfl rfl rfl ?_
        refine gl_astore_n (vs2 := [some (.ref 734), some (.int x1), some (.int ve4), some (.ref (mre4 1))]) (gX_LK b) y_314_62 rfl rfl rfl rfl ?_
        refine gl_aload_n (gX_LK b) y_314_63 rfl rfl ?_
        refine gl_aload_n (gX_LK b) y_314_64 rfl rfl ?_
        obtain ⟨c7, h⟩ := o_ck h
        refine gl_getA (gX_LK b) y_314_65 yf_314_23 ys_734 rfl rfl rfl rfl ?_
        refine gl_putA (gX_LK b) y_314_68 yf_314_27 ys_734 rfl rfl rfl xmk_1 rfl ?_
        refine gl_aload_n (gX_LK b) y_314_71 rfl rfl ?_
        refine gl_aload_n (gX_LK b) y_314_72 rfl rfl ?_
        obtain ⟨c8, h⟩ := o_ck h
        refine gl_getA (gX_LK b) y_314_73 yf_314_30 ys_734 rfl rfl rfl rfl ?_
        refine gl_putA (gX_LK b) y_314_76 yf_314_23 ys_734 rfl rfl rfl xmk_0 rfl ?_
        refine gl_aload_n (gX_LK b) y_314_79 rfl rfl ?_
        refine gl_aload_n (gX_LK b) y_314_80 rfl rfl ?_
        refine gl_putA (gX_LK b) y_314_81 yf_314_30 ys_734 rfl rfl rfl xmk_2 rfl ?_
        refine gl_aload_n (gX_LK b) y_314_84 rfl rfl ?_
        refine gl_getA (gX_LK b) y_314_85 yf_314_47 ys_734 rfl rfl rfl rfl ?_
        refine gl_aload_n (gX_LK b) y_314_88 rfl rfl ?_
        obtain ⟨c9, h⟩ := o_ck h
        refine gl_getA (gX_LK b) y_314_89 yf_314_23 ys_734 rfl rfl rfl rfl ?_
        refine gl_putA (gX_LK b) y_314_92 yf_314_112 ys_757 rfl rfl rfl xmk_3 rfl ?_
        refine gl_aload_n (gX_LK b) y_314_95 rfl rfl ?_
        obtain ⟨sce10, mre10, are10, ale10, e10, h⟩ := o_k4 h
        refine gl_callV (gX_LK b) y_314_96 ym_314_115 rfl rfl rfl ys_734 yx_352 rfl rfl ((xt_352 )  _  _ _ _ _ _ _ _ _ e10 ?_)
        refine gl_aload_n (gX_LK b) y_314_99 rfl rfl ?_
        refine gl_getA (gX_LK b) y_314_100 yf_314_56 ys_734 rfl rfl rfl rfl ?_
        obtain ⟨sce11, mre11, are11, ale11, e11, h⟩ := o_k4 h
        refine gl_callV (gX_LK b) y_314_103 ym_314_94 rfl rfl rfl ys_759 yx_298 rfl rfl ((xt_298 )  _  _ _ _ _ _ _ _ _ e11 ?_)
        refine gl_aload_n (gX_LK b) y_314_106 rfl rfl ?_
        refine gl_getA (gX_LK b) y_314_107 yf_314_70 ys_734 rfl rfl rfl rfl ?_
        obtain ⟨sce12, mre12, are12, ale12, e12, h⟩ := o_k4 h
        refine gl_callV (gX_LK b) y_314_110 ym_314_97 rfl rfl rfl ys_796 yx_244 rfl rfl ((xt_244 )  _  _ _ _ _ _ _ _ _ e12 ?_)
        refine gl_aload_n (gX_LK b) y_314_113 rfl rfl ?_
        obtain ⟨c13, h⟩ := o_ck h
        refine gl_getA (gX_LK b) y_314_114 yf_314_23 ys_734 rfl rfl rfl rfl ?_
        refine gl_get (gX_LK b) y_314_117 yf_314_118 (ys_pr c13) rfl rfl rfl rfl ?_
        exact gl_ireturn y_314_120 (Or.inl yt_314) (by cases h; exact hP)
      · have h := (if_neg c5).symm.trans h
        refine gl_iload_n (gX_LK b) y_314_53 rfl rfl ?_
        refine gl_bipush (gX_LK b) y_314_54 cb_10 rfl ?_
        refine gl_isub (gX_LK b) y_314_56 rfl ?_
        exact gl_ireturn y_314_57 (Or.inl yt_314) (by cases h; exact hP)
    · have h := (if_neg c2).symm.trans h
      cases h
/-- ClickOrders.fault()I -/
def xT_315 (b : Bool) (rf : jRf) (F : jSc → (Nat → Nat) → jSc → jAl → Option (Int32 × jSc × (Nat → Nat) × jSc × jAl)) (e : Nat) : Prop := ∀  (Post : jPo) (sc : jSc) (mr : (Nat → Nat)) (ar : jSc) (al : jAl) (r9 : Int32) (sc9 : jSc) (mr9 : (Nat → Nat)) (ar9 : jSc) (al9 : jAl), F sc mr ar al = some (r9, sc9, mr9, ar9, al9) → Post (some (.int r9)) sc9 (x_mk mr9 rf) ar9 al9 → gW (gX b) 315 e 0 (j_av [.ref 734]) [] sc (x_mk mr rf) ar al Post
def xF_315 (sc : jSc) (mr : (Nat → Nat)) (ar : jSc) (al : jAl) : Option (Int32 × jSc × (Nat → Nat) × jSc × jAl) :=
  some ((sc 734 12), sc, mr, ar, al)
set_option maxHeartbeats 4000000 in
theorem xt_315 {b : Bool} {rf : jRf} {d : Nat} : xT_315 b rf xF_315 (d + 1) := by
  intro  Post  sc mr ar al r9 sc9 mr9 ar9 al9 h hP
  unfold xF_315 at h
  refine gl_entry (m := 0) rfl ?_
  show gL (gX b) 315 (d + 1) 0 [some (.ref 734)] [] sc (x_mk mr rf) ar al Post
  refine gl_aload_n (gX_LK b) y_315_0 rfl rfl ?_
  refine gl_get (gX_LK b) y_315_1 yf_315_85 ys_734 rfl rfl rfl rfl ?_
  exact gl_ireturn y_315_4 (Or.inl yt_315) (by cases h; exact hP)
/-- ClickOrders.begin()I -/
def xT_316 (b : Bool) (rf : jRf) (F : jSc → (Nat → Nat) → jSc → jAl → Option (Int32 × jSc × (Nat → Nat) × jSc × jAl)) (e : Nat) : Prop := ∀  (Post : jPo) (sc : jSc) (mr : (Nat → Nat)) (ar : jSc) (al : jAl) (r9 : Int32) (sc9 : jSc) (mr9 : (Nat → Nat)) (ar9 : jSc) (al9 : jAl), F sc mr ar al = some (r9, sc9, mr9, ar9, al9) → Post (some (.int r9)) sc9 (x_mk mr9 rf) ar9 al9 → gW (gX b) 316 e 0 (j_av [.ref 734]) [] sc (x_mk mr rf) ar al Post
def xF_316 (sc : jSc) (mr : (Nat → Nat)) (ar : jSc) (al : jAl) : Option (Int32 × jSc × (Nat → Nat) × jSc × jAl) :=
  (o_b4 (xF_298 sc mr ar al) (fun sce1 mre1 are1 ale1 => some ((sc 759 5), sce1, mre1, are1, ale1)))
set_option maxHeartbeats 4000000 in
theorem xt_316 {b : Bool} {rf : jRf} {d : Nat} : xT_316 b rf xF_316 (d + 6) := by
  intro  Post  sc mr ar al r9 sc9 mr9 ar9 al9 h hP
  unfold xF_316 at h
  refine gl_entry (m := 1) rfl ?_
  show gL (gX b) 316 (d + 6) 0 [some (.ref 734), none] [] sc (x_mk mr rf) ar al Post
  refine gl_aload_n (gX_LK b) y_316_0 rfl rfl ?_
  refine gl_getA (gX_LK b) y_316_1 yf_316_56 ys_734 rfl rfl rfl rfl ?_
  refine gl_get (gX_LK b) y_316_4 yf_316_121 ys_759 rfl rfl rfl rfl ?_
  refine gl_istore_n (vs2 := [some (.ref 734), some (.int (sc 759 5))]) (gX_LK b) y_316_7 rfl rfl rfl rfl ?_
  refine gl_aload_n (gX_LK b) y_316_8 rfl rfl ?_
  refine gl_getA (gX_LK b) y_316_9 yf_316_56 ys_734 rfl rfl rfl rfl ?_
  obtain ⟨sce1, mre1, are1, ale1, e1, h⟩ := o_k4 h
  refine gl_callV (gX_LK b) y_316_12 ym_316_94 rfl rfl rfl ys_759 yx_298 rfl rfl ((xt_298 )  _  _ _ _ _ _ _ _ _ e1 ?_)
  refine gl_iload_n (gX_LK b) y_316_15 rfl rfl ?_
  exact gl_ireturn y_316_16 (Or.inl yt_316) (by cases h; exact hP)
/-- ClickOrders.checkCode(I)V -/
def xT_354 (b : Bool) (rf : jRf) (F : Int32 → jSc → (Nat → Nat) → jSc → jAl → Option (jSc × (Nat → Nat) × jSc × jAl)) (e : Nat) : Prop := ∀  (Post : jPo) (x1 : Int32) (sc : jSc) (mr : (Nat → Nat)) (ar : jSc) (al : jAl) (sc9 : jSc) (mr9 : (Nat → Nat)) (ar9 : jSc) (al9 : jAl), F x1 sc mr ar al = some (sc9, mr9, ar9, al9) → Post none sc9 (x_mk mr9 rf) ar9 al9 → gW (gX b) 354 e 0 (j_av [.ref 734, .int x1]) [] sc (x_mk mr rf) ar al Post
def xF_354 (x1 : Int32) (sc : jSc) (mr : (Nat → Nat)) (ar : jSc) (al : jAl) : Option (jSc × (Nat → Nat) × jSc × jAl) :=
  (if x1 < 0 then none else (if x1 < (13 : Int32) then some (sc, mr, ar, al) else none))
set_option maxHeartbeats 4000000 in
theorem xt_354 {b : Bool} {rf : jRf} {d : Nat} : xT_354 b rf xF_354 (d + 1) := by
  intro  Post x1 sc mr ar al sc9 mr9 ar9 al9 h hP
  unfold xF_354 at h
  refine gl_entry (m := 0) rfl ?_
  show gL (gX b) 354 (d + 1) 0 [some (.ref 734), some (.int x1)] [] sc (x_mk mr rf) ar al Post
  refine gl_iload_n (gX_LK b) y_354_0 rfl rfl ?_
  refine gl_if_lt (gX_LK b) y_354_1 rfl rfl (fun c1 => ?_) (fun c1 => ?_)
  · have h := (if_pos c1).symm.trans h
    cases h
  · have h := (if_neg c1).symm.trans h
    refine gl_iload_n (gX_LK b) y_354_4 rfl rfl ?_
    refine gl_bipush (gX_LK b) y_354_5 cb_13 rfl ?_
    refine gl_ic_lt (gX_LK b) y_354_7 rfl rfl (fun c2 => ?_) (fun c2 => ?_)
    · have h := (if_pos c2).symm.trans h
      exact gl_return y_354_18 yt_354 (by cases h; exact hP)
    · have h := (if_neg c2).symm.trans h
      cases h
/-- ClickOrders.can(I)Z -/
def xT_317 (b : Bool) (rf : jRf) (F : Int32 → jSc → (Nat → Nat) → jSc → jAl → Option (Int32 × jSc × (Nat → Nat) × jSc × jAl)) (e : Nat) : Prop := ∀  (Post : jPo) (x1 : Int32) (sc : jSc) (mr : (Nat → Nat)) (ar : jSc) (al : jAl) (r9 : Int32) (sc9 : jSc) (mr9 : (Nat → Nat)) (ar9 : jSc) (al9 : jAl), F x1 sc mr ar al = some (r9, sc9, mr9, ar9, al9) → Post (some (.int r9)) sc9 (x_mk mr9 rf) ar9 al9 → gW (gX b) 317 e 0 (j_av [.ref 734, .int x1]) [] sc (x_mk mr rf) ar al Post
def xF_317 (x1 : Int32) (sc : jSc) (mr : (Nat → Nat)) (ar : jSc) (al : jAl) : Option (Int32 × jSc × (Nat → Nat) × jSc × jAl) :=
  (o_b4 (xF_354 x1 sc mr ar al) (fun sce1 mre1 are1 ale1 => (o_b5 (xF_206 760 x1 sce1 mre1 are1 ale1) (fun ve2 sce2 mre2 are2 ale2 => (if ve2 = 0 ∨ ve2 = 1 then some (ve2, sce2, mre2, are2, ale2) else none)))))
set_option maxHeartbeats 4000000 in
theorem xt_317 {b : Bool} {rf : jRf} {d : Nat} : xT_317 b rf xF_317 (d + 3) := by
  intro  Post x1 sc mr ar al r9 sc9 mr9 ar9 al9 h hP
  unfold xF_317 at h
  refine gl_entry (m := 0) rfl ?_
  show gL (gX b) 317 (d + 3) 0 [some (.ref 734), some (.int x1)] [] sc (x_mk mr rf) ar al Post
  refine gl_aload_n (gX_LK b) y_317_0 rfl rfl ?_
  refine gl_iload_n (gX_LK b) y_317_1 rfl rfl ?_
  obtain ⟨sce1, mre1, are1, ale1, e1, h⟩ := o_k4 h
  refine gl_callV (gX_LK b) y_317_2 ym_317_124 rfl rfl rfl ys_734 yx_354 rfl rfl ((xt_354 )  _ _ _ _ _ _ _ _ _ _ e1 ?_)
  refine gl_aload_n (gX_LK b) y_317_5 rfl rfl ?_
  refine gl_getA (gX_LK b) y_317_6 yf_317_47 ys_734 rfl rfl rfl rfl ?_
  refine gl_aload_n (gX_LK b) y_317_9 rfl rfl ?_
  refine gl_getA (gX_LK b) y_317_10 yf_317_56 ys_734 rfl rfl rfl rfl ?_
  refine gl_getA (gX_LK b) y_317_13 yf_317_127 ys_759 rfl rfl rfl rfl ?_
  refine gl_iload_n (gX_LK b) y_317_16 rfl rfl ?_
  obtain ⟨ve2, sce2, mre2, are2, ale2, e2, h⟩ := o_k5 h
  refine gl_callV (gX_LK b) y_317_17 ym_317_131 rfl rfl rfl ys_757 yx_206 rfl rfl ((xt_206 )  _ _ _ (show x_pg 760 = true from rfl) _ _ _ _ _ _ _ _ _ e2 ?_)
  obtain ⟨c3, h⟩ := o_ck h
  exact gl_ireturn y_317_20 (Or.inr ⟨yt_317, c3⟩) (by cases h; exact hP)
/-- ClickOrders.come(I)I -/
def xT_318 (b : Bool) (rf : jRf) (F : Int32 → jSc → (Nat → Nat) → jSc → jAl → Option (Int32 × jSc × (Nat → Nat) × jSc × jAl)) (e : Nat) : Prop := ∀  (Post : jPo) (x1 : Int32) (sc : jSc) (mr : (Nat → Nat)) (ar : jSc) (al : jAl) (r9 : Int32) (sc9 : jSc) (mr9 : (Nat → Nat)) (ar9 : jSc) (al9 : jAl), F x1 sc mr ar al = some (r9, sc9, mr9, ar9, al9) → Post (some (.int r9)) sc9 (x_mk mr9 rf) ar9 al9 → gW (gX b) 318 e 0 (j_av [.ref 734, .int x1]) [] sc (x_mk mr rf) ar al Post
def xF_318 (x1 : Int32) (sc : jSc) (mr : (Nat → Nat)) (ar : jSc) (al : jAl) : Option (Int32 × jSc × (Nat → Nat) × jSc × jAl) :=
  (o_b4 (xF_354 x1 sc mr ar al) (fun sce1 mre1 are1 ale1 => (o_b5 (xF_206 760 x1 sce1 mre1 are1 ale1) (fun ve2 sce2 mre2 are2 ale2 => (if ve2 = 0 then some ((-1 : Int32), sce2, mre2, are2, ale2) else (if (sce2 759 5) < (40 : Int32) then (o_b5 (xF_299 x1 sce2 mre2 are2 ale2) (fun ve5 sce5 mre5 are5 ale5 => some (ve5, sce5, mre5, are5, ale5))) else some ((-2 : Int32), sce2, mre2, are2, ale2)))))))
set_option maxHeartbeats 4000000 in
theorem xt_318 {b : Bool} {rf : jRf} {d : Nat} : xT_318 b rf xF_318 (d + 6) := by
  intro  Post x1 sc mr ar al r9 sc9 mr9 ar9 al9 h hP
  unfold xF_318 at h
  refine gl_entry (m := 0) rfl ?_
  show gL (gX b) 318 (d + 6) 0 [some (.ref 734), some (.int x1)] [] sc (x_mk mr rf) ar al Post
  refine gl_aload_n (gX_LK b) y_318_0 rfl rfl ?_
  refine gl_iload_n (gX_LK b) y_318_1 rfl rfl ?_
  obtain ⟨sce1, mre1, are1, ale1, e1, h⟩ := o_k4 h
  refine gl_callV (gX_LK b) y_318_2 ym_318_124 rfl rfl rfl ys_734 yx_354 rfl rfl ((xt_354 )  _ _ _ _ _ _ _ _ _ _ e1 ?_)
  refine gl_aload_n (gX_LK b) y_318_5 rfl rfl ?_
  refine gl_getA (gX_LK b) y_318_6 yf_318_47 ys_734 rfl rfl rfl rfl ?_
  refine gl_aload_n (gX_LK b) y_318_9 rfl rfl ?_
  refine gl_getA (gX_LK b) y_318_10 yf_318_56 ys_734 rfl rfl rfl rfl ?_
  refine gl_getA (gX_LK b) y_318_13 yf_318_127 ys_759 rfl rfl rfl rfl ?_
  refine gl_iload_n (gX_LK b) y_318_16 rfl rfl ?_
  obtain ⟨ve2, sce2, mre2, are2, ale2, e2, h⟩ := o_k5 h
  refine gl_callV (gX_LK b) y_318_17 ym_318_131 rfl rfl rfl ys_757 yx_206 rfl rfl ((xt_206 )  _ _ _ (show x_pg 760 = true from rfl) _ _ _ _ _ _ _ _ _ e2 ?_)
  refine gl_if_ne (gX_LK b) y_318_20 rfl rfl (fun c3 => ?_) (fun c3 => ?_)
  · have h := (if_pos c3).symm.trans h
    refine gl_iconst (gX_LK b) y_318_23 ci_m1 rfl ?_
    exact gl_ireturn y_318_24 (Or.inl yt_318) (by cases h; exact hP)
  · have h := (if_neg c3).symm.trans h
    refine gl_aload_n (gX_LK b) y_318_25 rfl rfl ?_
    refine gl_getA (gX_LK b) y_318_26 yf_318_56 ys_734 rfl rfl rfl rfl ?_
    refine gl_get (gX_LK b) y_318_29 yf_318_121 ys_759 rfl rfl rfl rfl ?_
    refine gl_bipush (gX_LK b) y_318_32 cb_40 rfl ?_
    refine gl_ic_lt (gX_LK b) y_318_34 rfl rfl (fun c4 => ?_) (fun c4 => ?_)
    · have h := (if_pos c4).symm.trans h
      refine gl_aload_n (gX_LK b) y_318_40 rfl rfl ?_
      refine gl_getA (gX_LK b) y_318_41 yf_318_56 ys_734 rfl rfl rfl rfl ?_
      refine gl_iload_n (gX_LK b) y_318_44 rfl rfl ?_
      obtain ⟨ve5, sce5, mre5, are5, ale5, e5, h⟩ := o_k5 h
      refine gl_callV (gX_LK b) y_318_45 ym_318_135 rfl rfl rfl ys_759 yx_299 rfl rfl ((xt_299 )  _ _ _ _ _ _ _ _ _ _ _ e5 ?_)
      exact gl_ireturn y_318_48 (Or.inl yt_318) (by cases h; exact hP)
    · have h := (if_neg c4).symm.trans h
      refine gl_bipush (gX_LK b) y_318_37 cb_m2 rfl ?_
      exact gl_ireturn y_318_39 (Or.inl yt_318) (by cases h; exact hP)
/-- ClickOrders.checkIndex(II)V -/
def xT_355 (b : Bool) (rf : jRf) (F : Int32 → Int32 → jSc → (Nat → Nat) → jSc → jAl → Option (jSc × (Nat → Nat) × jSc × jAl)) (e : Nat) : Prop := ∀  (Post : jPo) (x1 : Int32) (x2 : Int32) (sc : jSc) (mr : (Nat → Nat)) (ar : jSc) (al : jAl) (sc9 : jSc) (mr9 : (Nat → Nat)) (ar9 : jSc) (al9 : jAl), F x1 x2 sc mr ar al = some (sc9, mr9, ar9, al9) → Post none sc9 (x_mk mr9 rf) ar9 al9 → gW (gX b) 355 e 0 (j_av [.ref 734, .int x1, .int x2]) [] sc (x_mk mr rf) ar al Post
def xF_355 (x1 : Int32) (x2 : Int32) (sc : jSc) (mr : (Nat → Nat)) (ar : jSc) (al : jAl) : Option (jSc × (Nat → Nat) × jSc × jAl) :=
  (if x1 < 0 then none else (if x1 < x2 then some (sc, mr, ar, al) else none))
set_option maxHeartbeats 4000000 in
theorem xt_355 {b : Bool} {rf : jRf} {d : Nat} : xT_355 b rf xF_355 (d + 1) := by
  intro  Post x1 x2 sc mr ar al sc9 mr9 ar9 al9 h hP
  unfold xF_355 at h
  refine gl_entry (m := 0) rfl ?_
  show gL (gX b) 355 (d + 1) 0 [some (.ref 734), some (.int x1), some (.int x2)] [] sc (x_mk mr rf) ar al Post
  refine gl_iload_n (gX_LK b) y_355_0 rfl rfl ?_
  refine gl_if_lt (gX_LK b) y_355_1 rfl rfl (fun c1 => ?_) (fun c1 => ?_)
  · have h := (if_pos c1).symm.trans h
    cases h
  · have h := (if_neg c1).symm.trans h
    refine gl_iload_n (gX_LK b) y_355_4 rfl rfl ?_
    refine gl_iload_n (gX_LK b) y_355_5 rfl rfl ?_
    refine gl_ic_lt (gX_LK b) y_355_6 rfl rfl (fun c2 => ?_) (fun c2 => ?_)
    · have h := (if_pos c2).symm.trans h
      exact gl_return y_355_17 yt_355 (by cases h; exact hP)
    · have h := (if_neg c2).symm.trans h
      cases h
/-- ClickOrders.name(I)I -/
def xT_319 (b : Bool) (rf : jRf) (F : Int32 → jSc → (Nat → Nat) → jSc → jAl → Option (Int32 × jSc × (Nat → Nat) × jSc × jAl)) (e : Nat) : Prop := ∀  (Post : jPo) (x1 : Int32) (sc : jSc) (mr : (Nat → Nat)) (ar : jSc) (al : jAl) (r9 : Int32) (sc9 : jSc) (mr9 : (Nat → Nat)) (ar9 : jSc) (al9 : jAl), F x1 sc mr ar al = some (r9, sc9, mr9, ar9, al9) → Post (some (.int r9)) sc9 (x_mk mr9 rf) ar9 al9 → gW (gX b) 319 e 0 (j_av [.ref 734, .int x1]) [] sc (x_mk mr rf) ar al Post
def xF_319 (x1 : Int32) (sc : jSc) (mr : (Nat → Nat)) (ar : jSc) (al : jAl) : Option (Int32 × jSc × (Nat → Nat) × jSc × jAl) :=
  (o_b4 (xF_355 x1 (8 : Int32) sc mr ar al) (fun sce1 mre1 are1 ale1 => (if iB x1 50 then some ((are1 761 (iN x1)), sce1, mre1, are1, ale1) else none)))
set_option maxHeartbeats 4000000 in
theorem xt_319 {b : Bool} {rf : jRf} {d : Nat} : xT_319 b rf xF_319 (d + 2) := by
  intro  Post x1 sc mr ar al r9 sc9 mr9 ar9 al9 h hP
  unfold xF_319 at h
  refine gl_entry (m := 0) rfl ?_
  show gL (gX b) 319 (d + 2) 0 [some (.ref 734), some (.int x1)] [] sc (x_mk mr rf) ar al Post
  refine gl_aload_n (gX_LK b) y_319_0 rfl rfl ?_
  refine gl_iload_n (gX_LK b) y_319_1 rfl rfl ?_
  refine gl_bipush (gX_LK b) y_319_2 cb_8 rfl ?_
  obtain ⟨sce1, mre1, are1, ale1, e1, h⟩ := o_k4 h
  refine gl_callV (gX_LK b) y_319_4 ym_319_139 rfl rfl rfl ys_734 yx_355 rfl rfl ((xt_355 )  _ _ _ _ _ _ _ _ _ _ _ e1 ?_)
  refine gl_aload_n (gX_LK b) y_319_7 rfl rfl ?_
  refine gl_getA (gX_LK b) y_319_8 yf_319_56 ys_734 rfl rfl rfl rfl ?_
  refine gl_getA (gX_LK b) y_319_11 yf_319_127 ys_759 rfl rfl rfl rfl ?_
  refine gl_getA (gX_LK b) y_319_14 yf_319_143 ys_760 rfl rfl rfl rfl ?_
  refine gl_iload_n (gX_LK b) y_319_17 rfl rfl ?_
  obtain ⟨c2, h⟩ := o_ck h
  refine gl_iaload (gX_LK b) y_319_18 ys_761 c2 rfl rfl ?_
  exact gl_ireturn y_319_19 (Or.inl yt_319) (by cases h; exact hP)
/-- ClickOrders.thing(I)I -/
def xT_320 (b : Bool) (rf : jRf) (F : Int32 → jSc → (Nat → Nat) → jSc → jAl → Option (Int32 × jSc × (Nat → Nat) × jSc × jAl)) (e : Nat) : Prop := ∀  (Post : jPo) (x1 : Int32) (sc : jSc) (mr : (Nat → Nat)) (ar : jSc) (al : jAl) (r9 : Int32) (sc9 : jSc) (mr9 : (Nat → Nat)) (ar9 : jSc) (al9 : jAl), F x1 sc mr ar al = some (r9, sc9, mr9, ar9, al9) → Post (some (.int r9)) sc9 (x_mk mr9 rf) ar9 al9 → gW (gX b) 320 e 0 (j_av [.ref 734, .int x1]) [] sc (x_mk mr rf) ar al Post
def xF_320 (x1 : Int32) (sc : jSc) (mr : (Nat → Nat)) (ar : jSc) (al : jAl) : Option (Int32 × jSc × (Nat → Nat) × jSc × jAl) :=
  (o_b4 (xF_355 x1 (8 : Int32) sc mr ar al) (fun sce1 mre1 are1 ale1 => some (((((are1 761 8) >>> (x1 &&& 31)) &&& (1 : Int32)) + ((2 : Int32) * (((are1 761 9) >>> (x1 &&& 31)) &&& (1 : Int32)))), sce1, mre1, are1, ale1)))
set_option maxHeartbeats 4000000 in
theorem xt_320 {b : Bool} {rf : jRf} {d : Nat} : xT_320 b rf xF_320 (d + 2) := by
  intro  Post x1 sc mr ar al r9 sc9 mr9 ar9 al9 h hP
  unfold xF_320 at h
  refine gl_entry (m := 2) rfl ?_
  show gL (gX b) 320 (d + 2) 0 [some (.ref 734), some (.int x1), none, none] [] sc (x_mk mr rf) ar al Post
  refine gl_aload_n (gX_LK b) y_320_0 rfl rfl ?_
  refine gl_iload_n (gX_LK b) y_320_1 rfl rfl ?_
  refine gl_bipush (gX_LK b) y_320_2 cb_8 rfl ?_
  obtain ⟨sce1, mre1, are1, ale1, e1, h⟩ := o_k4 h
  refine gl_callV (gX_LK b) y_320_4 ym_320_139 rfl rfl rfl ys_734 yx_355 rfl rfl ((xt_355 )  _ _ _ _ _ _ _ _ _ _ _ e1 ?_)
  refine gl_aload_n (gX_LK b) y_320_7 rfl rfl ?_
  refine gl_getA (gX_LK b) y_320_8 yf_320_56 ys_734 rfl rfl rfl rfl ?_
  refine gl_getA (gX_LK b) y_320_11 yf_320_127 ys_759 rfl rfl rfl rfl ?_
  refine gl_getA (gX_LK b) y_320_14 yf_320_143 ys_760 rfl rfl rfl rfl ?_
  refine gl_bipush (gX_LK b) y_320_17 cb_8 rfl ?_
  refine gl_iaload (gX_LK b) y_320_19 ys_761 (by decide) rfl rfl ?_
  refine gl_iload_n (gX_LK b) y_320_20 rfl rfl ?_
  refine gl_ishr (gX_LK b) y_320_21 rfl ?_
  refine gl_iconst (gX_LK b) y_320_22 ci_1 rfl ?_
  refine gl_iand (gX_LK b) y_320_23 rfl ?_
  refine gl_istore_n (vs2 := [some (.ref 734), some (.int x1), some (.int (((are1 761 8) >>> (x1 &&& 31)) &&& (1 : Int32))), none]) (gX_LK b) y_320_24 rfl rfl rfl rfl ?_
  refine gl_aload_n (gX_LK b) y_320_25 rfl rfl ?_
  refine gl_getA (gX_LK b) y_320_26 yf_320_56 ys_734 rfl rfl rfl rfl ?_
  refine gl_getA (gX_LK b) y_320_29 yf_320_127 ys_759 rfl rfl rfl rfl ?_
  refine gl_getA (gX_LK b) y_320_32 yf_320_143 ys_760 rfl rfl rfl rfl ?_
  refine gl_bipush (gX_LK b) y_320_35 cb_9 rfl ?_
  refine gl_iaload (gX_LK b) y_320_37 ys_761 (by decide) rfl rfl ?_
  refine gl_iload_n (gX_LK b) y_320_38 rfl rfl ?_
  refine gl_ishr (gX_LK b) y_320_39 rfl ?_
  refine gl_iconst (gX_LK b) y_320_40 ci_1 rfl ?_
  refine gl_iand (gX_LK b) y_320_41 rfl ?_
  refine gl_istore_n (vs2 := [some (.ref 734), some (.int x1), some (.int (((are1 761 8) >>> (x1 &&& 31)) &&& (1 : Int32))), some (.int (((are1 761 9) >>> (x1 &&& 31)) &&& (1 : Int32)))]) (gX_LK b) y_320_42 rfl rfl rfl rfl ?_
  refine gl_iload_n (gX_LK b) y_320_43 rfl rfl ?_
  refine gl_iconst (gX_LK b) y_320_44 ci_2 rfl ?_
  refine gl_iload_n (gX_LK b) y_320_45 rfl rfl ?_
  refine gl_imul (gX_LK b) y_320_46 rfl ?_
  refine gl_iadd (gX_LK b) y_320_47 rfl ?_
  exact gl_ireturn y_320_48 (Or.inl yt_320) (by cases h; exact hP)
/-- ClickOrders.far(I)I -/
def xT_321 (b : Bool) (rf : jRf) (F : Int32 → jSc → (Nat → Nat) → jSc → jAl → Option (Int32 × jSc × (Nat → Nat) × jSc × jAl)) (e : Nat) : Prop := ∀  (Post : jPo) (x1 : Int32) (sc : jSc) (mr : (Nat → Nat)) (ar : jSc) (al : jAl) (r9 : Int32) (sc9 : jSc) (mr9 : (Nat → Nat)) (ar9 : jSc) (al9 : jAl), F x1 sc mr ar al = some (r9, sc9, mr9, ar9, al9) → Post (some (.int r9)) sc9 (x_mk mr9 rf) ar9 al9 → gW (gX b) 321 e 0 (j_av [.ref 734, .int x1]) [] sc (x_mk mr rf) ar al Post
def xF_321 (x1 : Int32) (sc : jSc) (mr : (Nat → Nat)) (ar : jSc) (al : jAl) : Option (Int32 × jSc × (Nat → Nat) × jSc × jAl) :=
  (o_b4 (xF_355 x1 (4 : Int32) sc mr ar al) (fun sce1 mre1 are1 ale1 => (if iB ((10 : Int32) + x1) 50 then some ((are1 761 (iN ((10 : Int32) + x1))), sce1, mre1, are1, ale1) else none)))
set_option maxHeartbeats 4000000 in
theorem xt_321 {b : Bool} {rf : jRf} {d : Nat} : xT_321 b rf xF_321 (d + 2) := by
  intro  Post x1 sc mr ar al r9 sc9 mr9 ar9 al9 h hP
  unfold xF_321 at h
  refine gl_entry (m := 0) rfl ?_
  show gL (gX b) 321 (d + 2) 0 [some (.ref 734), some (.int x1)] [] sc (x_mk mr rf) ar al Post
  refine gl_aload_n (gX_LK b) y_321_0 rfl rfl ?_
  refine gl_iload_n (gX_LK b) y_321_1 rfl rfl ?_
  refine gl_iconst (gX_LK b) y_321_2 ci_4 rfl ?_
  obtain ⟨sce1, mre1, are1, ale1, e1, h⟩ := o_k4 h
  refine gl_callV (gX_LK b) y_321_3 ym_321_139 rfl rfl rfl ys_734 yx_355 rfl rfl ((xt_355 )  _ _ _ _ _ _ _ _ _ _ _ e1 ?_)
  refine gl_aload_n (gX_LK b) y_321_6 rfl rfl ?_
  refine gl_getA (gX_LK b) y_321_7 yf_321_56 ys_734 rfl rfl rfl rfl ?_
  refine gl_getA (gX_LK b) y_321_10 yf_321_127 ys_759 rfl rfl rfl rfl ?_
  refine gl_getA (gX_LK b) y_321_13 yf_321_143 ys_760 rfl rfl rfl rfl ?_
  refine gl_bipush (gX_LK b) y_321_16 cb_10 rfl ?_
  refine gl_iload_n (gX_LK b) y_321_18 rfl rfl ?_
  refine gl_iadd (gX_LK b) y_321_19 rfl ?_
  obtain ⟨c2, h⟩ := o_ck h
  refine gl_iaload (gX_LK b) y_321_20 ys_761 c2 rfl rfl ?_
  exact gl_ireturn y_321_21 (Or.inl yt_321) (by cases h; exact hP)
/-- ClickOrders.line(II)I -/
def xT_322 (b : Bool) (rf : jRf) (F : Int32 → Int32 → jSc → (Nat → Nat) → jSc → jAl → Option (Int32 × jSc × (Nat → Nat) × jSc × jAl)) (e : Nat) : Prop := ∀  (Post : jPo) (x1 : Int32) (x2 : Int32) (sc : jSc) (mr : (Nat → Nat)) (ar : jSc) (al : jAl) (r9 : Int32) (sc9 : jSc) (mr9 : (Nat → Nat)) (ar9 : jSc) (al9 : jAl), F x1 x2 sc mr ar al = some (r9, sc9, mr9, ar9, al9) → Post (some (.int r9)) sc9 (x_mk mr9 rf) ar9 al9 → gW (gX b) 322 e 0 (j_av [.ref 734, .int x1, .int x2]) [] sc (x_mk mr rf) ar al Post
def xF_322 (x1 : Int32) (x2 : Int32) (sc : jSc) (mr : (Nat → Nat)) (ar : jSc) (al : jAl) : Option (Int32 × jSc × (Nat → Nat) × jSc × jAl) :=
  (o_b4 (xF_355 x1 (4 : Int32) sc mr ar al) (fun sce1 mre1 are1 ale1 => (o_b5 (xF_230 760 x1 sce1 mre1 are1 ale1) (fun ve2 sce2 mre2 are2 ale2 => (if x2 = (-1 : Int32) then some (ve2, sce2, mre2, are2, ale2) else (if x2 < 0 then some ((-2147483648 : Int32), sce2, mre2, are2, ale2) else (if x2 < ve2 then (if iB (((20 : Int32) + (x1 * (3 : Int32))) + x2) 50 then some ((are2 761 (iN (((20 : Int32) + (x1 * (3 : Int32))) + x2))), sce2, mre2, are2, ale2) else none) else some ((-2147483648 : Int32), sce2, mre2, are2, ale2))))))))
set_option maxHeartbeats 4000000 in
theorem xt_322 {b : Bool} {rf : jRf} {d : Nat} : xT_322 b rf xF_322 (d + 2) := by
  intro  Post x1 x2 sc mr ar al r9 sc9 mr9 ar9 al9 h hP
  unfold xF_322 at h
  refine gl_entry (m := 1) rfl ?_
  show gL (gX b) 322 (d + 2) 0 [some (.ref 734), some (.int x1), some (.int x2), none] [] sc (x_mk mr rf) ar al Post
  refine gl_aload_n (gX_LK b) y_322_0 rfl rfl ?_
  refine gl_iload_n (gX_LK b) y_322_1 rfl rfl ?_
  refine gl_iconst (gX_LK b) y_322_2 ci_4 rfl ?_
  obtain ⟨sce1, mre1, are1, ale1, e1, h⟩ := o_k4 h
  refine gl_callV (gX_LK b) y_322_3 ym_322_139 rfl rfl rfl ys_734 yx_355 rfl rfl ((xt_355 )  _ _ _ _ _ _ _ _ _ _ _ e1 ?_)
  refine gl_aload_n (gX_LK b) y_322_6 rfl rfl ?_
  refine gl_getA (gX_LK b) y_322_7 yf_322_56 ys_734 rfl rfl rfl rfl ?_
  refine gl_getA (gX_LK b) y_322_10 yf_322_127 ys_759 rfl rfl rfl rfl ?_
  refine gl_iload_n (gX_LK b) y_322_13 rfl rfl ?_
  obtain ⟨ve2, sce2, mre2, are2, ale2, e2, h⟩ := o_k5 h
  refine gl_callV (gX_LK b) y_322_14 ym_322_148 rfl rfl rfl ys_760 yx_230 rfl rfl ((xt_230 )  _ _ _ (show x_pg 760 = true from rfl) _ _ _ _ _ _ _ _ _ e2 ?_)
  refine gl_istore_n (vs2 := [some (.ref 734), some (.int x1), some (.int x2), some (.int ve2)]) (gX_LK b) y_322_17 rfl rfl rfl rfl ?_
  refine gl_iload_n (gX_LK b) y_322_18 rfl rfl ?_
  refine gl_iconst (gX_LK b) y_322_19 ci_m1 rfl ?_
  refine gl_ic_ne (gX_LK b) y_322_20 rfl rfl (fun c3 => ?_) (fun c3 => ?_)
  · have h := (if_pos c3).symm.trans h
    refine gl_iload_n (gX_LK b) y_322_23 rfl rfl ?_
    exact gl_ireturn y_322_24 (Or.inl yt_322) (by cases h; exact hP)
  · have h := (if_neg c3).symm.trans h
    refine gl_iload_n (gX_LK b) y_322_25 rfl rfl ?_
    refine gl_if_lt (gX_LK b) y_322_26 rfl rfl (fun c4 => ?_) (fun c4 => ?_)
    · have h := (if_pos c4).symm.trans h
      refine gl_ldc (gX_LK b) y_322_34 yc_322_151 rfl ?_
      exact gl_ireturn y_322_36 (Or.inl yt_322) (by cases h; exact hP)
    · have h := (if_neg c4).symm.trans h
      refine gl_iload_n (gX_LK b) y_322_29 rfl rfl ?_
      refine gl_iload_n (gX_LK b) y_322_30 rfl rfl ?_
      refine gl_ic_lt (gX_LK b) y_322_31 rfl rfl (fun c5 => ?_) (fun c5 => ?_)
      · have h := (if_pos c5).symm.trans h
        refine gl_aload_n (gX_LK b) y_322_37 rfl rfl ?_
        refine gl_getA (gX_LK b) y_322_38 yf_322_56 ys_734 rfl rfl rfl rfl ?_
        refine gl_getA (gX_LK b) y_322_41 yf_322_127 ys_759 rfl rfl rfl rfl ?_
        refine gl_getA (gX_LK b) y_322_44 yf_322_143 ys_760 rfl rfl rfl rfl ?_
        refine gl_bipush (gX_LK b) y_322_47 cb_20 rfl ?_
        refine gl_iload_n (gX_LK b) y_322_49 rfl rfl ?_
        refine gl_iconst (gX_LK b) y_322_50 ci_3 rfl ?_
        refine gl_imul (gX_LK b) y_322_51 rfl ?_
        refine gl_iadd (gX_LK b) y_322_52 rfl ?_
        refine gl_iload_n (gX_LK b) y_322_53 rfl rfl ?_
        refine gl_iadd (gX_LK b) y_322_54 rfl ?_
        obtain ⟨c6, h⟩ := o_ck h
        refine gl_iaload (gX_LK b) y_322_55 ys_761 c6 rfl rfl ?_
        exact gl_ireturn y_322_56 (Or.inl yt_322) (by cases h; exact hP)
      · have h := (if_neg c5).symm.trans h
        refine gl_ldc (gX_LK b) y_322_34 yc_322_151 rfl ?_
        exact gl_ireturn y_322_36 (Or.inl yt_322) (by cases h; exact hP)
/-- ClickOrders.clock(I)I -/
def xT_323 (b : Bool) (rf : jRf) (F : Int32 → jSc → (Nat → Nat) → jSc → jAl → Option (Int32 × jSc × (Nat → Nat) × jSc × jAl)) (e : Nat) : Prop := ∀  (Post : jPo) (x1 : Int32) (sc : jSc) (mr : (Nat → Nat)) (ar : jSc) (al : jAl) (r9 : Int32) (sc9 : jSc) (mr9 : (Nat → Nat)) (ar9 : jSc) (al9 : jAl), F x1 sc mr ar al = some (r9, sc9, mr9, ar9, al9) → Post (some (.int r9)) sc9 (x_mk mr9 rf) ar9 al9 → gW (gX b) 323 e 0 (j_av [.ref 734, .int x1]) [] sc (x_mk mr rf) ar al Post
def xF_323 (x1 : Int32) (sc : jSc) (mr : (Nat → Nat)) (ar : jSc) (al : jAl) : Option (Int32 × jSc × (Nat → Nat) × jSc × jAl) :=
  (o_b5 (xF_233 760 sc mr ar al) (fun ve1 sce1 mre1 are1 ale1 => (if x1 = (-1 : Int32) then some (ve1, sce1, mre1, are1, ale1) else (if x1 < 0 then some ((-1 : Int32), sce1, mre1, are1, ale1) else (if x1 < ve1 then (o_b5 (xF_243 760 x1 sce1 mre1 are1 ale1) (fun ve5 sce5 mre5 are5 ale5 => some (ve5, sce5, mre5, are5, ale5))) else some ((-1 : Int32), sce1, mre1, are1, ale1))))))
set_option maxHeartbeats 4000000 in
theorem xt_323 {b : Bool} {rf : jRf} {d : Nat} : xT_323 b rf xF_323 (d + 2) := by
  intro  Post x1 sc mr ar al r9 sc9 mr9 ar9 al9 h hP
  unfold xF_323 at h
  refine gl_entry (m := 1) rfl ?_
  show gL (gX b) 323 (d + 2) 0 [some (.ref 734), some (.int x1), none] [] sc (x_mk mr rf) ar al Post
  refine gl_aload_n (gX_LK b) y_323_0 rfl rfl ?_
  refine gl_getA (gX_LK b) y_323_1 yf_323_56 ys_734 rfl rfl rfl rfl ?_
  refine gl_getA (gX_LK b) y_323_4 yf_323_127 ys_759 rfl rfl rfl rfl ?_
  obtain ⟨ve1, sce1, mre1, are1, ale1, e1, h⟩ := o_k5 h
  refine gl_callV (gX_LK b) y_323_7 ym_323_152 rfl rfl rfl ys_760 yx_233 rfl rfl ((xt_233 )  _ _ (show x_pg 760 = true from rfl) _ _ _ _ _ _ _ _ _ e1 ?_)
  refine gl_istore_n (vs2 := [some (.ref 734), some (.int x1), some (.int ve1)]) (gX_LK b) y_323_10 rfl rfl rfl rfl ?_
  refine gl_iload_n (gX_LK b) y_323_11 rfl rfl ?_
  refine gl_iconst (gX_LK b) y_323_12 ci_m1 rfl ?_
  refine gl_ic_ne (gX_LK b) y_323_13 rfl rfl (fun c2 => ?_) (fun c2 => ?_)
  · have h := (if_pos c2).symm.trans h
    refine gl_iload_n (gX_LK b) y_323_16 rfl rfl ?_
    exact gl_ireturn y_323_17 (Or.inl yt_323) (by cases h; exact hP)
  · have h := (if_neg c2).symm.trans h
    refine gl_iload_n (gX_LK b) y_323_18 rfl rfl ?_
    refine gl_if_lt (gX_LK b) y_323_19 rfl rfl (fun c3 => ?_) (fun c3 => ?_)
    · have h := (if_pos c3).symm.trans h
      refine gl_iconst (gX_LK b) y_323_27 ci_m1 rfl ?_
      exact gl_ireturn y_323_28 (Or.inl yt_323) (by cases h; exact hP)
    · have h := (if_neg c3).symm.trans h
      refine gl_iload_n (gX_LK b) y_323_22 rfl rfl ?_
      refine gl_iload_n (gX_LK b) y_323_23 rfl rfl ?_
      refine gl_ic_lt (gX_LK b) y_323_24 rfl rfl (fun c4 => ?_) (fun c4 => ?_)
      · have h := (if_pos c4).symm.trans h
        refine gl_aload_n (gX_LK b) y_323_29 rfl rfl ?_
        refine gl_getA (gX_LK b) y_323_30 yf_323_56 ys_734 rfl rfl rfl rfl ?_
        refine gl_getA (gX_LK b) y_323_33 yf_323_127 ys_759 rfl rfl rfl rfl ?_
        refine gl_iload_n (gX_LK b) y_323_36 rfl rfl ?_
        obtain ⟨ve5, sce5, mre5, are5, ale5, e5, h⟩ := o_k5 h
        refine gl_callV (gX_LK b) y_323_37 ym_323_156 rfl rfl rfl ys_760 yx_243 rfl rfl ((xt_243 )  _ _ _ (show x_pg 760 = true from rfl) _ _ _ _ _ _ _ _ _ e5 ?_)
        exact gl_ireturn y_323_40 (Or.inl yt_323) (by cases h; exact hP)
      · have h := (if_neg c4).symm.trans h
        refine gl_iconst (gX_LK b) y_323_27 ci_m1 rfl ?_
        exact gl_ireturn y_323_28 (Or.inl yt_323) (by cases h; exact hP)
/-- ClickOrders.failed()Z -/
def xT_324 (b : Bool) (rf : jRf) (F : jSc → (Nat → Nat) → jSc → jAl → Option (Int32 × jSc × (Nat → Nat) × jSc × jAl)) (e : Nat) : Prop := ∀  (Post : jPo) (sc : jSc) (mr : (Nat → Nat)) (ar : jSc) (al : jAl) (r9 : Int32) (sc9 : jSc) (mr9 : (Nat → Nat)) (ar9 : jSc) (al9 : jAl), F sc mr ar al = some (r9, sc9, mr9, ar9, al9) → Post (some (.int r9)) sc9 (x_mk mr9 rf) ar9 al9 → gW (gX b) 324 e 0 (j_av [.ref 734]) [] sc (x_mk mr rf) ar al Post
def xF_324 (sc : jSc) (mr : (Nat → Nat)) (ar : jSc) (al : jAl) : Option (Int32 × jSc × (Nat → Nat) × jSc × jAl) :=
  (o_b5 (xF_228 760 sc mr ar al) (fun ve1 sce1 mre1 are1 ale1 => (if ve1 = 0 ∨ ve1 = 1 then some (ve1, sce1, mre1, are1, ale1) else none)))
set_option maxHeartbeats 4000000 in
theorem xt_324 {b : Bool} {rf : jRf} {d : Nat} : xT_324 b rf xF_324 (d + 2) := by
  intro  Post  sc mr ar al r9 sc9 mr9 ar9 al9 h hP
  unfold xF_324 at h
  refine gl_entry (m := 0) rfl ?_
  show gL (gX b) 324 (d + 2) 0 [some (.ref 734)] [] sc (x_mk mr rf) ar al Post
  refine gl_aload_n (gX_LK b) y_324_0 rfl rfl ?_
  refine gl_getA (gX_LK b) y_324_1 yf_324_56 ys_734 rfl rfl rfl rfl ?_
  refine gl_getA (gX_LK b) y_324_4 yf_324_127 ys_759 rfl rfl rfl rfl ?_
  obtain ⟨ve1, sce1, mre1, are1, ale1, e1, h⟩ := o_k5 h
  refine gl_callV (gX_LK b) y_324_7 ym_324_159 rfl rfl rfl ys_760 yx_228 rfl rfl ((xt_228 )  _ _ (show x_pg 760 = true from rfl) _ _ _ _ _ _ _ _ _ e1 ?_)
  obtain ⟨c2, h⟩ := o_ck h
  exact gl_ireturn y_324_10 (Or.inr ⟨yt_324, c2⟩) (by cases h; exact hP)
/-- ClickOrders.spoilt()Z -/
def xT_325 (b : Bool) (rf : jRf) (F : jSc → (Nat → Nat) → jSc → jAl → Option (Int32 × jSc × (Nat → Nat) × jSc × jAl)) (e : Nat) : Prop := ∀  (Post : jPo) (sc : jSc) (mr : (Nat → Nat)) (ar : jSc) (al : jAl) (r9 : Int32) (sc9 : jSc) (mr9 : (Nat → Nat)) (ar9 : jSc) (al9 : jAl), F sc mr ar al = some (r9, sc9, mr9, ar9, al9) → Post (some (.int r9)) sc9 (x_mk mr9 rf) ar9 al9 → gW (gX b) 325 e 0 (j_av [.ref 734]) [] sc (x_mk mr rf) ar al Post
def xF_325 (sc : jSc) (mr : (Nat → Nat)) (ar : jSc) (al : jAl) : Option (Int32 × jSc × (Nat → Nat) × jSc × jAl) :=
  (o_b5 (xF_210 760 sc mr ar al) (fun ve1 sce1 mre1 are1 ale1 => (if ve1 = 0 ∨ ve1 = 1 then some (ve1, sce1, mre1, are1, ale1) else none)))
set_option maxHeartbeats 4000000 in
theorem xt_325 {b : Bool} {rf : jRf} {d : Nat} : xT_325 b rf xF_325 (d + 5) := by
  intro  Post  sc mr ar al r9 sc9 mr9 ar9 al9 h hP
  unfold xF_325 at h
  refine gl_entry (m := 0) rfl ?_
  show gL (gX b) 325 (d + 5) 0 [some (.ref 734)] [] sc (x_mk mr rf) ar al Post
  refine gl_aload_n (gX_LK b) y_325_0 rfl rfl ?_
  refine gl_getA (gX_LK b) y_325_1 yf_325_47 ys_734 rfl rfl rfl rfl ?_
  refine gl_aload_n (gX_LK b) y_325_4 rfl rfl ?_
  refine gl_getA (gX_LK b) y_325_5 yf_325_56 ys_734 rfl rfl rfl rfl ?_
  refine gl_getA (gX_LK b) y_325_8 yf_325_127 ys_759 rfl rfl rfl rfl ?_
  obtain ⟨ve1, sce1, mre1, are1, ale1, e1, h⟩ := o_k5 h
  refine gl_callV (gX_LK b) y_325_11 ym_325_163 rfl rfl rfl ys_757 yx_210 rfl rfl ((xt_210 )  _ _ (show x_pg 760 = true from rfl) _ _ _ _ _ _ _ _ _ e1 ?_)
  obtain ⟨c2, h⟩ := o_ck h
  exact gl_ireturn y_325_14 (Or.inr ⟨yt_325, c2⟩) (by cases h; exact hP)
