/-! ClickOrders: its methods as functions, and that the machine does what they say. -/
/-- ClickOrders$Track.isAhead(II)Z -/
def xT_300 (b : Bool) (rf : jRf) (F : Int32 → Int32 → jSc → (Nat → Nat) → jSc → jAl → Option (Int32 × jSc × (Nat → Nat) × jSc × jAl)) (e : Nat) : Prop := ∀  (Post : jPo) (x1 : Int32) (x2 : Int32) (sc : jSc) (mr : (Nat → Nat)) (ar : jSc) (al : jAl) (r9 : Int32) (sc9 : jSc) (mr9 : (Nat → Nat)) (ar9 : jSc) (al9 : jAl), F x1 x2 sc mr ar al = some (r9, sc9, mr9, ar9, al9) → Post (some (.int r9)) sc9 (x_mk mr9 rf) ar9 al9 → gW (gX b) 300 e 0 (j_av [.ref 759, .int x1, .int x2]) [] sc (x_mk mr rf) ar al Post
def xF_300 (x1 : Int32) (x2 : Int32) (sc : jSc) (mr : (Nat → Nat)) (ar : jSc) (al : jAl) : Option (Int32 × jSc × (Nat → Nat) × jSc × jAl) :=
  (if x2 ≤ x1 then some ((0 : Int32), sc, mr, ar, al) else (if iB x2 40 then (if (lg_cmp (((al 768 (iN x2)) >>> ((x1).toInt64 &&& 63)) &&& (Int64.ofNat ((1 : Fin 2) : Nat))) (Int64.ofNat ((0 : Fin 2) : Nat))) = 0 then some ((0 : Int32), sc, mr, ar, al) else some ((1 : Int32), sc, mr, ar, al)) else none))
set_option maxHeartbeats 4000000 in
theorem xt_300 {b : Bool} {rf : jRf} {d : Nat} : xT_300 b rf xF_300 (d + 1) := by
  intro  Post x1 x2 sc mr ar al r9 sc9 mr9 ar9 al9 h hP
  unfold xF_300 at h
  refine gl_entry (m := 0) rfl ?_
  show gL (gX b) 300 (d + 1) 0 [some (.ref 759), some (.int x1), some (.int x2)] [] sc (x_mk mr rf) ar al Post
  refine gl_iload_n (gX_LK b) y_300_0 rfl rfl ?_
  refine gl_iload_n (gX_LK b) y_300_1 rfl rfl ?_
  refine gl_ic_ge (gX_LK b) y_300_2 rfl rfl (fun c1 => ?_) (fun c1 => ?_)
  · have h := (if_pos c1).symm.trans h
    refine gl_iconst (gX_LK b) y_300_24 ci_0 rfl ?_
    exact gl_ireturn y_300_25 (Or.inr ⟨yt_300, Or.inl rfl⟩) (by cases h; exact hP)
  · have h := (if_neg c1).symm.trans h
    refine gl_aload_n (gX_LK b) y_300_5 rfl rfl ?_
    refine gl_getA (gX_LK b) y_300_6 yf_300_38 ys_759 rfl rfl rfl rfl ?_
    refine gl_iload_n (gX_LK b) y_300_9 rfl rfl ?_
    obtain ⟨c2, h⟩ := o_ck h
    refine gl_laload (gX_LK b) y_300_10 ys_768 c2 rfl rfl ?_
    refine gl_iload_n (gX_LK b) y_300_11 rfl rfl ?_
    refine gl_lshr (gX_LK b) y_300_12 rfl ?_
    refine gl_lconst (gX_LK b) y_300_13 rfl ?_
    refine gl_land (gX_LK b) y_300_14 rfl ?_
    refine gl_lconst (gX_LK b) y_300_15 rfl ?_
    refine gl_lcmp (gX_LK b) y_300_16 rfl ?_
    refine gl_if_eq (gX_LK b) y_300_17 rfl rfl (fun c3 => ?_) (fun c3 => ?_)
    · have h := (if_pos c3).symm.trans h
      refine gl_iconst (gX_LK b) y_300_24 ci_0 rfl ?_
      exact gl_ireturn y_300_25 (Or.inr ⟨yt_300, Or.inl rfl⟩) (by cases h; exact hP)
    · have h := (if_neg c3).symm.trans h
      refine gl_iconst (gX_LK b) y_300_20 ci_1 rfl ?_
      refine gl_goto (gX_LK b) y_300_21 rfl ?_
      exact gl_ireturn y_300_25 (Or.inr ⟨yt_300, Or.inr rfl⟩) (by cases h; exact hP)
/-- ClickOrders$Track.crossed(II)I -/
def xT_301 (b : Bool) (rf : jRf) (F : Int32 → Int32 → jSc → (Nat → Nat) → jSc → jAl → Option (Int32 × jSc × (Nat → Nat) × jSc × jAl)) (e : Nat) : Prop := ∀  (Post : jPo) (x1 : Int32) (x2 : Int32) (sc : jSc) (mr : (Nat → Nat)) (ar : jSc) (al : jAl) (r9 : Int32) (sc9 : jSc) (mr9 : (Nat → Nat)) (ar9 : jSc) (al9 : jAl), F x1 x2 sc mr ar al = some (r9, sc9, mr9, ar9, al9) → Post (some (.int r9)) sc9 (x_mk mr9 rf) ar9 al9 → gW (gX b) 301 e 0 (j_av [.ref 759, .int x1, .int x2]) [] sc (x_mk mr rf) ar al Post
def xF_301 (x1 : Int32) (x2 : Int32) (sc : jSc) (mr : (Nat → Nat)) (ar : jSc) (al : jAl) : Option (Int32 × jSc × (Nat → Nat) × jSc × jAl) :=
  (if x1 = x2 then some ((0 : Int32), sc, mr, ar, al) else (o_b5 (xF_300 x1 x2 sc mr ar al) (fun ve2 sce2 mre2 are2 ale2 => (if ve2 = 0 then (if iB x1 40 then (if iB x2 40 then (if iB x2 40 then (if iB x2 40 then (if iB x1 40 then (if iB x1 40 then some ((((are2 765 (iN x1)) &&& ((are2 764 (iN x2)) ||| (are2 765 (iN x2)))) ||| ((are2 765 (iN x2)) &&& ((are2 764 (iN x1)) ||| (are2 765 (iN x1))))), sce2, mre2, are2, ale2) else none) else none) else none) else none) else none) else none) else some ((0 : Int32), sce2, mre2, are2, ale2)))))
set_option maxHeartbeats 4000000 in
theorem xt_301 {b : Bool} {rf : jRf} {d : Nat} : xT_301 b rf xF_301 (d + 2) := by
  intro  Post x1 x2 sc mr ar al r9 sc9 mr9 ar9 al9 h hP
  unfold xF_301 at h
  refine gl_entry (m := 0) rfl ?_
  show gL (gX b) 301 (d + 2) 0 [some (.ref 759), some (.int x1), some (.int x2)] [] sc (x_mk mr rf) ar al Post
  refine gl_iload_n (gX_LK b) y_301_0 rfl rfl ?_
  refine gl_iload_n (gX_LK b) y_301_1 rfl rfl ?_
  refine gl_ic_eq (gX_LK b) y_301_2 rfl rfl (fun c1 => ?_) (fun c1 => ?_)
  · have h := (if_pos c1).symm.trans h
    refine gl_iconst (gX_LK b) y_301_14 ci_0 rfl ?_
    exact gl_ireturn y_301_15 (Or.inl yt_301) (by cases h; exact hP)
  · have h := (if_neg c1).symm.trans h
    refine gl_aload_n (gX_LK b) y_301_5 rfl rfl ?_
    refine gl_iload_n (gX_LK b) y_301_6 rfl rfl ?_
    refine gl_iload_n (gX_LK b) y_301_7 rfl rfl ?_
    obtain ⟨ve2, sce2, mre2, are2, ale2, e2, h⟩ := o_k5 h
    refine gl_callV (gX_LK b) y_301_8 ym_301_86 rfl rfl rfl ys_759 yx_300 rfl rfl ((xt_300 )  _ _ _ _ _ _ _ _ _ _ _ _ e2 ?_)
    refine gl_if_eq (gX_LK b) y_301_11 rfl rfl (fun c3 => ?_) (fun c3 => ?_)
    · have h := (if_pos c3).symm.trans h
      refine gl_aload_n (gX_LK b) y_301_16 rfl rfl ?_
      refine gl_getA (gX_LK b) y_301_17 yf_301_28 ys_759 rfl rfl rfl rfl ?_
      refine gl_iload_n (gX_LK b) y_301_20 rfl rfl ?_
      obtain ⟨c4, h⟩ := o_ck h
      refine gl_iaload (gX_LK b) y_301_21 ys_765 c4 rfl rfl ?_
      refine gl_aload_n (gX_LK b) y_301_22 rfl rfl ?_
      refine gl_getA (gX_LK b) y_301_23 yf_301_25 ys_759 rfl rfl rfl rfl ?_
      refine gl_iload_n (gX_LK b) y_301_26 rfl rfl ?_
      obtain ⟨c5, h⟩ := o_ck h
      refine gl_iaload (gX_LK b) y_301_27 ys_764 c5 rfl rfl ?_
      refine gl_aload_n (gX_LK b) y_301_28 rfl rfl ?_
      refine gl_getA (gX_LK b) y_301_29 yf_301_28 ys_759 rfl rfl rfl rfl ?_
      refine gl_iload_n (gX_LK b) y_301_32 rfl rfl ?_
      obtain ⟨c6, h⟩ := o_ck h
      refine gl_iaload (gX_LK b) y_301_33 ys_765 c6 rfl rfl ?_
      refine gl_ior (gX_LK b) y_301_34 rfl ?_
      refine gl_iand (gX_LK b) y_301_35 rfl ?_
      refine gl_aload_n (gX_LK b) y_301_36 rfl rfl ?_
      refine gl_getA (gX_LK b) y_301_37 yf_301_28 ys_759 rfl rfl rfl rfl ?_
      refine gl_iload_n (gX_LK b) y_301_40 rfl rfl ?_
      obtain ⟨c7, h⟩ := o_ck h
      refine gl_iaload (gX_LK b) y_301_41 ys_765 c7 rfl rfl ?_
      refine gl_aload_n (gX_LK b) y_301_42 rfl rfl ?_
      refine gl_getA (gX_LK b) y_301_43 yf_301_25 ys_759 rfl rfl rfl rfl ?_
      refine gl_iload_n (gX_LK b) y_301_46 rfl rfl ?_
      obtain ⟨c8, h⟩ := o_ck h
      refine gl_iaload (gX_LK b) y_301_47 ys_764 c8 rfl rfl ?_
      refine gl_aload_n (gX_LK b) y_301_48 rfl rfl ?_
      refine gl_getA (gX_LK b) y_301_49 yf_301_28 ys_759 rfl rfl rfl rfl ?_
      refine gl_iload_n (gX_LK b) y_301_52 rfl rfl ?_
      obtain ⟨c9, h⟩ := o_ck h
      refine gl_iaload (gX_LK b) y_301_53 ys_765 c9 rfl rfl ?_
      refine gl_ior (gX_LK b) y_301_54 rfl ?_
      refine gl_iand (gX_LK b) y_301_55 rfl ?_
      refine gl_ior (gX_LK b) y_301_56 rfl ?_
      exact gl_ireturn y_301_57 (Or.inl yt_301) (by cases h; exact hP)
    · have h := (if_neg c3).symm.trans h
      refine gl_iconst (gX_LK b) y_301_14 ci_0 rfl ?_
      exact gl_ireturn y_301_15 (Or.inl yt_301) (by cases h; exact hP)
/-- ClickOrders$Track.crossingCount()I -/
def xT_302 (b : Bool) (rf : jRf) (F : jSc → (Nat → Nat) → jSc → jAl → Option (Int32 × jSc × (Nat → Nat) × jSc × jAl)) (e : Nat) : Prop := ∀  (Post : jPo) (sc : jSc) (mr : (Nat → Nat)) (ar : jSc) (al : jAl) (r9 : Int32) (sc9 : jSc) (mr9 : (Nat → Nat)) (ar9 : jSc) (al9 : jAl), F sc mr ar al = some (r9, sc9, mr9, ar9, al9) → Post (some (.int r9)) sc9 (x_mk mr9 rf) ar9 al9 → gW (gX b) 302 e 0 (j_av [.ref 759]) [] sc (x_mk mr rf) ar al Post
def xF_302_16 (k4 : Int32 → Int32 → jSc → (Nat → Nat) → jSc → jAl → Option (Int32 × jSc × (Nat → Nat) × jSc × jAl)) : Nat → Int32 → Int32 → Int32 → jSc → (Nat → Nat) → jSc → jAl → Option (Int32 × jSc × (Nat → Nat) × jSc × jAl)
  | 0, _, _, _, _, _, _, _ => none
  | nn + 1, x1, x2, x3, sc, mr, ar, al => (if (sc 759 5) ≤ x3 then k4 x1 (x2 + (1 : Int32)) sc mr ar al else (o_b5 (xF_301 x2 x3 sc mr ar al) (fun ve2 sce2 mre2 are2 ale2 => (if ve2 = 0 then xF_302_16 k4 nn x1 x2 (x3 + (1 : Int32)) sce2 mre2 are2 ale2 else xF_302_16 k4 nn (x1 + (1 : Int32)) x2 (x3 + (1 : Int32)) sce2 mre2 are2 ale2))))
set_option maxHeartbeats 4000000 in
theorem xt_302_16 {b : Bool} {rf : jRf} {d : Nat} {Post : jPo} {r9 : Int32} {sc9 : jSc} {mr9 : (Nat → Nat)} {ar9 : jSc} {al9 : jAl} {k4 : Int32 → Int32 → jSc → (Nat → Nat) → jSc → jAl → Option (Int32 × jSc × (Nat → Nat) × jSc × jAl)} (hk4 : ∀ (x1 : Int32) (x2 : Int32) (sc : jSc) (mr : (Nat → Nat)) (ar : jSc) (al : jAl), k4 x1 x2 sc mr ar al = some (r9, sc9, mr9, ar9, al9) → gL (gX b) 302 (d + 3) 4 [some (.ref 759), some (.int x1), some (.int x2), none] [] sc (x_mk mr rf) ar al Post) (hP : Post (some (.int r9)) sc9 (x_mk mr9 rf) ar9 al9) : ∀ (nn : Nat) (x1 : Int32) (x2 : Int32) (x3 : Int32) (sc : jSc) (mr : (Nat → Nat)) (ar : jSc) (al : jAl), xF_302_16 k4 nn x1 x2 x3 sc mr ar al = some (r9, sc9, mr9, ar9, al9) → gL (gX b) 302 (d + 3) 16 [some (.ref 759), some (.int x1), some (.int x2), some (.int x3)] [] sc (x_mk mr rf) ar al Post := by
  intro nn
  induction nn with
  | zero =>
    intro x1 x2 x3 sc mr ar al h
    have h : (none : Option (Int32 × jSc × (Nat → Nat) × jSc × jAl)) = some _ := h
    cases h
  | succ nn ih =>
    intro x1 x2 x3 sc mr ar al h
    unfold xF_302_16 at h
    refine gl_iload_n (gX_LK b) y_302_16 rfl rfl ?_
    refine gl_aload_n (gX_LK b) y_302_17 rfl rfl ?_
    refine gl_get (gX_LK b) y_302_18 yf_302_31 ys_759 rfl rfl rfl rfl ?_
    refine gl_ic_ge (gX_LK b) y_302_21 rfl rfl (fun c1 => ?_) (fun c1 => ?_)
    · have h := (if_pos c1).symm.trans h
      refine gl_iinc (vs2 := [some (.ref 759), some (.int x1), some (.int (x2 + (1 : Int32))), some (.int x3)]) (gX_LK b) y_302_42 rfl rfl rfl ci_1 rfl rfl ?_
      refine gl_goto (gX_LK b) y_302_45 rfl ?_
      exact gl_weak (vs := [some (.ref 759), some (.int x1), some (.int (x2 + (1 : Int32))), none]) ⟨rfl, rfl, rfl, trivial⟩ (hk4 x1 (x2 + (1 : Int32)) sc mr ar al h)
    · have h := (if_neg c1).symm.trans h
      refine gl_aload_n (gX_LK b) y_302_24 rfl rfl ?_
      refine gl_iload_n (gX_LK b) y_302_25 rfl rfl ?_
      refine gl_iload_n (gX_LK b) y_302_26 rfl rfl ?_
      obtain ⟨ve2, sce2, mre2, are2, ale2, e2, h⟩ := o_k5 h
      refine gl_callV (gX_LK b) y_302_27 ym_302_90 rfl rfl rfl ys_759 yx_301 rfl rfl ((xt_301 )  _ _ _ _ _ _ _ _ _ _ _ _ e2 ?_)
      refine gl_if_eq (gX_LK b) y_302_30 rfl rfl (fun c3 => ?_) (fun c3 => ?_)
      · have h := (if_pos c3).symm.trans h
        refine gl_iinc (vs2 := [some (.ref 759), some (.int x1), some (.int x2), some (.int (x3 + (1 : Int32)))]) (gX_LK b) y_302_36 rfl rfl rfl ci_1 rfl rfl ?_
        refine gl_goto (gX_LK b) y_302_39 rfl ?_
        exact gl_weak (vs := [some (.ref 759), some (.int x1), some (.int x2), some (.int (x3 + (1 : Int32)))]) ⟨rfl, rfl, rfl, rfl, trivial⟩ (ih x1 x2 (x3 + (1 : Int32)) sce2 mre2 are2 ale2 h)
      · have h := (if_neg c3).symm.trans h
        refine gl_iinc (vs2 := [some (.ref 759), some (.int (x1 + (1 : Int32))), some (.int x2), some (.int x3)]) (gX_LK b) y_302_33 rfl rfl rfl ci_1 rfl rfl ?_
        refine gl_iinc (vs2 := [some (.ref 759), some (.int (x1 + (1 : Int32))), some (.int x2), some (.int (x3 + (1 : Int32)))]) (gX_LK b) y_302_36 rfl rfl rfl ci_1 rfl rfl ?_
        refine gl_goto (gX_LK b) y_302_39 rfl ?_
        exact gl_weak (vs := [some (.ref 759), some (.int (x1 + (1 : Int32))), some (.int x2), some (.int (x3 + (1 : Int32)))]) ⟨rfl, rfl, rfl, rfl, trivial⟩ (ih (x1 + (1 : Int32)) x2 (x3 + (1 : Int32)) sce2 mre2 are2 ale2 h)
def xF_302_4 : Nat → Int32 → Int32 → jSc → (Nat → Nat) → jSc → jAl → Option (Int32 × jSc × (Nat → Nat) × jSc × jAl)
  | 0, _, _, _, _, _, _ => none
  | nn + 1, x1, x2, sc, mr, ar, al => (if (sc 759 5) ≤ x2 then some (x1, sc, mr, ar, al) else xF_302_16 (fun x1_ x2_ sc_ mr_ ar_ al_ => xF_302_4 nn x1_ x2_ sc_ mr_ ar_ al_) oF x1 x2 (x2 + (1 : Int32)) sc mr ar al)
set_option maxHeartbeats 4000000 in
theorem xt_302_4 {b : Bool} {rf : jRf} {d : Nat} {Post : jPo} {r9 : Int32} {sc9 : jSc} {mr9 : (Nat → Nat)} {ar9 : jSc} {al9 : jAl} (hP : Post (some (.int r9)) sc9 (x_mk mr9 rf) ar9 al9) : ∀ (nn : Nat) (x1 : Int32) (x2 : Int32) (sc : jSc) (mr : (Nat → Nat)) (ar : jSc) (al : jAl), xF_302_4 nn x1 x2 sc mr ar al = some (r9, sc9, mr9, ar9, al9) → gL (gX b) 302 (d + 3) 4 [some (.ref 759), some (.int x1), some (.int x2), none] [] sc (x_mk mr rf) ar al Post := by
  intro nn
  induction nn with
  | zero =>
    intro x1 x2 sc mr ar al h
    have h : (none : Option (Int32 × jSc × (Nat → Nat) × jSc × jAl)) = some _ := h
    cases h
  | succ nn ih =>
    intro x1 x2 sc mr ar al h
    unfold xF_302_4 at h
    refine gl_iload_n (gX_LK b) y_302_4 rfl rfl ?_
    refine gl_aload_n (gX_LK b) y_302_5 rfl rfl ?_
    refine gl_get (gX_LK b) y_302_6 yf_302_31 ys_759 rfl rfl rfl rfl ?_
    refine gl_ic_ge (gX_LK b) y_302_9 rfl rfl (fun c4 => ?_) (fun c4 => ?_)
    · have h := (if_pos c4).symm.trans h
      refine gl_iload_n (gX_LK b) y_302_48 rfl rfl ?_
      exact gl_ireturn y_302_49 (Or.inl yt_302) (by cases h; exact hP)
    · have h := (if_neg c4).symm.trans h
      refine gl_iload_n (gX_LK b) y_302_12 rfl rfl ?_
      refine gl_iconst (gX_LK b) y_302_13 ci_1 rfl ?_
      refine gl_iadd (gX_LK b) y_302_14 rfl ?_
      refine gl_istore_n (vs2 := [some (.ref 759), some (.int x1), some (.int x2), some (.int (x2 + (1 : Int32)))]) (gX_LK b) y_302_15 rfl rfl rfl rfl ?_
      exact gl_weak (vs := [some (.ref 759), some (.int x1), some (.int x2), some (.int (x2 + (1 : Int32)))]) ⟨rfl, rfl, rfl, rfl, trivial⟩ (xt_302_16  ih hP oF x1 x2 (x2 + (1 : Int32)) sc mr ar al h)
def xF_302 (sc : jSc) (mr : (Nat → Nat)) (ar : jSc) (al : jAl) : Option (Int32 × jSc × (Nat → Nat) × jSc × jAl) :=
  xF_302_4 oF (0 : Int32) (0 : Int32) sc mr ar al
set_option maxHeartbeats 4000000 in
theorem xt_302 {b : Bool} {rf : jRf} {d : Nat} : xT_302 b rf xF_302 (d + 3) := by
  intro  Post  sc mr ar al r9 sc9 mr9 ar9 al9 h hP
  unfold xF_302 at h
  refine gl_entry (m := 3) rfl ?_
  show gL (gX b) 302 (d + 3) 0 [some (.ref 759), none, none, none] [] sc (x_mk mr rf) ar al Post
  refine gl_iconst (gX_LK b) y_302_0 ci_0 rfl ?_
  refine gl_istore_n (vs2 := [some (.ref 759), some (.int (0 : Int32)), none, none]) (gX_LK b) y_302_1 rfl rfl rfl rfl ?_
  refine gl_iconst (gX_LK b) y_302_2 ci_0 rfl ?_
  refine gl_istore_n (vs2 := [some (.ref 759), some (.int (0 : Int32)), some (.int (0 : Int32)), none]) (gX_LK b) y_302_3 rfl rfl rfl rfl ?_
  exact gl_weak (vs := [some (.ref 759), some (.int (0 : Int32)), some (.int (0 : Int32)), none]) ⟨rfl, rfl, rfl, trivial⟩ (xt_302_4  hP oF (0 : Int32) (0 : Int32) sc mr ar al h)
/-- ClickOrders$Track.crossingAt(I)I -/
def xT_303 (b : Bool) (rf : jRf) (F : Int32 → jSc → (Nat → Nat) → jSc → jAl → Option (Int32 × jSc × (Nat → Nat) × jSc × jAl)) (e : Nat) : Prop := ∀  (Post : jPo) (x1 : Int32) (sc : jSc) (mr : (Nat → Nat)) (ar : jSc) (al : jAl) (r9 : Int32) (sc9 : jSc) (mr9 : (Nat → Nat)) (ar9 : jSc) (al9 : jAl), F x1 sc mr ar al = some (r9, sc9, mr9, ar9, al9) → Post (some (.int r9)) sc9 (x_mk mr9 rf) ar9 al9 → gW (gX b) 303 e 0 (j_av [.ref 759, .int x1]) [] sc (x_mk mr rf) ar al Post
def xF_303_21 (k4 : Int32 → Int32 → Int32 → jSc → (Nat → Nat) → jSc → jAl → Option (Int32 × jSc × (Nat → Nat) × jSc × jAl)) : Nat → Int32 → Int32 → Int32 → Int32 → jSc → (Nat → Nat) → jSc → jAl → Option (Int32 × jSc × (Nat → Nat) × jSc × jAl)
  | 0, _, _, _, _, _, _, _, _ => none
  | nn + 1, x1, x2, x3, x4, sc, mr, ar, al => (if (sc 759 5) ≤ x4 then k4 x1 x2 (x3 + (1 : Int32)) sc mr ar al else (o_b5 (xF_301 x3 x4 sc mr ar al) (fun ve2 sce2 mre2 are2 ale2 => (if ve2 = 0 then xF_303_21 k4 nn x1 x2 x3 (x4 + (1 : Int32)) sce2 mre2 are2 ale2 else (if x2 = 0 then some ((((64 : Int32) * x3) + x4), sce2, mre2, are2, ale2) else xF_303_21 k4 nn x1 (x2 + (-1 : Int32)) x3 (x4 + (1 : Int32)) sce2 mre2 are2 ale2)))))
set_option maxHeartbeats 4000000 in
theorem xt_303_21 {b : Bool} {rf : jRf} {d : Nat} {Post : jPo} {r9 : Int32} {sc9 : jSc} {mr9 : (Nat → Nat)} {ar9 : jSc} {al9 : jAl} {k4 : Int32 → Int32 → Int32 → jSc → (Nat → Nat) → jSc → jAl → Option (Int32 × jSc × (Nat → Nat) × jSc × jAl)} (hk4 : ∀ (x1 : Int32) (x2 : Int32) (x3 : Int32) (sc : jSc) (mr : (Nat → Nat)) (ar : jSc) (al : jAl), k4 x1 x2 x3 sc mr ar al = some (r9, sc9, mr9, ar9, al9) → gL (gX b) 303 (d + 3) 4 [some (.ref 759), some (.int x1), some (.int x2), some (.int x3), none] [] sc (x_mk mr rf) ar al Post) (hP : Post (some (.int r9)) sc9 (x_mk mr9 rf) ar9 al9) : ∀ (nn : Nat) (x1 : Int32) (x2 : Int32) (x3 : Int32) (x4 : Int32) (sc : jSc) (mr : (Nat → Nat)) (ar : jSc) (al : jAl), xF_303_21 k4 nn x1 x2 x3 x4 sc mr ar al = some (r9, sc9, mr9, ar9, al9) → gL (gX b) 303 (d + 3) 21 [some (.ref 759), some (.int x1), some (.int x2), some (.int x3), some (.int x4)] [] sc (x_mk mr rf) ar al Post := by
  intro nn
  induction nn with
  | zero =>
    intro x1 x2 x3 x4 sc mr ar al h
    have h : (none : Option (Int32 × jSc × (Nat → Nat) × jSc × jAl)) = some _ := h
    cases h
  | succ nn ih =>
    intro x1 x2 x3 x4 sc mr ar al h
    unfold xF_303_21 at h
    refine gl_iload (gX_LK b) y_303_21 rfl rfl ?_
    refine gl_aload_n (gX_LK b) y_303_23 rfl rfl ?_
    refine gl_get (gX_LK b) y_303_24 yf_303_31 ys_759 rfl rfl rfl rfl ?_
    refine gl_ic_ge (gX_LK b) y_303_27 rfl rfl (fun c1 => ?_) (fun c1 => ?_)
    · have h := (if_pos c1).symm.trans h
      refine gl_iinc (vs2 := [some (.ref 759), some (.int x1), some (.int x2), some (.int (x3 + (1 : Int32))), some (.int x4)]) (gX_LK b) y_303_64 rfl rfl rfl ci_1 rfl rfl ?_
      refine gl_goto (gX_LK b) y_303_67 rfl ?_
      exact gl_weak (vs := [some (.ref 759), some (.int x1), some (.int x2), some (.int (x3 + (1 : Int32))), none]) ⟨rfl, rfl, rfl, rfl, trivial⟩ (hk4 x1 x2 (x3 + (1 : Int32)) sc mr ar al h)
    · have h := (if_neg c1).symm.trans h
      refine gl_aload_n (gX_LK b) y_303_30 rfl rfl ?_
      refine gl_iload_n (gX_LK b) y_303_31 rfl rfl ?_
      refine gl_iload (gX_LK b) y_303_32 rfl rfl ?_
      obtain ⟨ve2, sce2, mre2, are2, ale2, e2, h⟩ := o_k5 h
      refine gl_callV (gX_LK b) y_303_34 ym_303_90 rfl rfl rfl ys_759 yx_301 rfl rfl ((xt_301 )  _ _ _ _ _ _ _ _ _ _ _ _ e2 ?_)
      refine gl_if_ne (gX_LK b) y_303_37 rfl rfl (fun c3 => ?_) (fun c3 => ?_)
      · have h := (if_pos c3).symm.trans h
        refine gl_goto (gX_LK b) y_303_40 rfl ?_
        refine gl_iinc (vs2 := [some (.ref 759), some (.int x1), some (.int x2), some (.int x3), some (.int (x4 + (1 : Int32)))]) (gX_LK b) y_303_58 rfl rfl rfl ci_1 rfl rfl ?_
        refine gl_goto (gX_LK b) y_303_61 rfl ?_
        exact gl_weak (vs := [some (.ref 759), some (.int x1), some (.int x2), some (.int x3), some (.int (x4 + (1 : Int32)))]) ⟨rfl, rfl, rfl, rfl, rfl, trivial⟩ (ih x1 x2 x3 (x4 + (1 : Int32)) sce2 mre2 are2 ale2 h)
      · have h := (if_neg c3).symm.trans h
        refine gl_iload_n (gX_LK b) y_303_43 rfl rfl ?_
        refine gl_if_ne (gX_LK b) y_303_44 rfl rfl (fun c4 => ?_) (fun c4 => ?_)
        · have h := (if_pos c4).symm.trans h
          refine gl_bipush (gX_LK b) y_303_47 cb_64 rfl ?_
          refine gl_iload_n (gX_LK b) y_303_49 rfl rfl ?_
          refine gl_imul (gX_LK b) y_303_50 rfl ?_
          refine gl_iload (gX_LK b) y_303_51 rfl rfl ?_
          refine gl_iadd (gX_LK b) y_303_53 rfl ?_
          exact gl_ireturn y_303_54 (Or.inl yt_303) (by cases h; exact hP)
        · have h := (if_neg c4).symm.trans h
          refine gl_iinc (vs2 := [some (.ref 759), some (.int x1), some (.int (x2 + (-1 : Int32))), some (.int x3), some (.int x4)]) (gX_LK b) y_303_55 rfl rfl rfl ci_m1 rfl rfl ?_
          refine gl_iinc (vs2 := [some (.ref 759), some (.int x1), some (.int (x2 + (-1 : Int32))), some (.int x3), some (.int (x4 + (1 : Int32)))]) (gX_LK b) y_303_58 rfl rfl rfl ci_1 rfl rfl ?_
          refine gl_goto (gX_LK b) y_303_61 rfl ?_
          exact gl_weak (vs := [some (.ref 759), some (.int x1), some (.int (x2 + (-1 : Int32))), some (.int x3), some (.int (x4 + (1 : Int32)))]) ⟨rfl, rfl, rfl, rfl, rfl, trivial⟩ (ih x1 (x2 + (-1 : Int32)) x3 (x4 + (1 : Int32)) sce2 mre2 are2 ale2 h)
def xF_303_4 : Nat → Int32 → Int32 → Int32 → jSc → (Nat → Nat) → jSc → jAl → Option (Int32 × jSc × (Nat → Nat) × jSc × jAl)
  | 0, _, _, _, _, _, _, _ => none
  | nn + 1, x1, x2, x3, sc, mr, ar, al => (if (sc 759 5) ≤ x3 then some ((-1 : Int32), sc, mr, ar, al) else (if x1 < 0 then some ((-1 : Int32), sc, mr, ar, al) else xF_303_21 (fun x1_ x2_ x3_ sc_ mr_ ar_ al_ => xF_303_4 nn x1_ x2_ x3_ sc_ mr_ ar_ al_) oF x1 x2 x3 (x3 + (1 : Int32)) sc mr ar al))
set_option maxHeartbeats 4000000 in
theorem xt_303_4 {b : Bool} {rf : jRf} {d : Nat} {Post : jPo} {r9 : Int32} {sc9 : jSc} {mr9 : (Nat → Nat)} {ar9 : jSc} {al9 : jAl} (hP : Post (some (.int r9)) sc9 (x_mk mr9 rf) ar9 al9) : ∀ (nn : Nat) (x1 : Int32) (x2 : Int32) (x3 : Int32) (sc : jSc) (mr : (Nat → Nat)) (ar : jSc) (al : jAl), xF_303_4 nn x1 x2 x3 sc mr ar al = some (r9, sc9, mr9, ar9, al9) → gL (gX b) 303 (d + 3) 4 [some (.ref 759), some (.int x1), some (.int x2), some (.int x3), none] [] sc (x_mk mr rf) ar al Post := by
  intro nn
  induction nn with
  | zero =>
    intro x1 x2 x3 sc mr ar al h
    have h : (none : Option (Int32 × jSc × (Nat → Nat) × jSc × jAl)) = some _ := h
    cases h
  | succ nn ih =>
    intro x1 x2 x3 sc mr ar al h
    unfold xF_303_4 at h
    refine gl_iload_n (gX_LK b) y_303_4 rfl rfl ?_
    refine gl_aload_n (gX_LK b) y_303_5 rfl rfl ?_
    refine gl_get (gX_LK b) y_303_6 yf_303_31 ys_759 rfl rfl rfl rfl ?_
    refine gl_ic_ge (gX_LK b) y_303_9 rfl rfl (fun c5 => ?_) (fun c5 => ?_)
    · have h := (if_pos c5).symm.trans h
      refine gl_iconst (gX_LK b) y_303_70 ci_m1 rfl ?_
      exact gl_ireturn y_303_71 (Or.inl yt_303) (by cases h; exact hP)
    · have h := (if_neg c5).symm.trans h
      refine gl_iload_n (gX_LK b) y_303_12 rfl rfl ?_
      refine gl_if_lt (gX_LK b) y_303_13 rfl rfl (fun c6 => ?_) (fun c6 => ?_)
      · have h := (if_pos c6).symm.trans h
        refine gl_iconst (gX_LK b) y_303_70 ci_m1 rfl ?_
        exact gl_ireturn y_303_71 (Or.inl yt_303) (by cases h; exact hP)
      · have h := (if_neg c6).symm.trans h
        refine gl_iload_n (gX_LK b) y_303_16 rfl rfl ?_
        refine gl_iconst (gX_LK b) y_303_17 ci_1 rfl ?_
        refine gl_iadd (gX_LK b) y_303_18 rfl ?_
        refine gl_istore (vs2 := [some (.ref 759), some (.int x1), some (.int x2), some (.int x3), some (.int (x3 + (1 : Int32)))]) (gX_LK b) y_303_19 rfl rfl rfl rfl ?_
        exact gl_weak (vs := [some (.ref 759), some (.int x1), some (.int x2), some (.int x3), some (.int (x3 + (1 : Int32)))]) ⟨rfl, rfl, rfl, rfl, rfl, trivial⟩ (xt_303_21  ih hP oF x1 x2 x3 (x3 + (1 : Int32)) sc mr ar al h)
def xF_303 (x1 : Int32) (sc : jSc) (mr : (Nat → Nat)) (ar : jSc) (al : jAl) : Option (Int32 × jSc × (Nat → Nat) × jSc × jAl) :=
  xF_303_4 oF x1 x1 (0 : Int32) sc mr ar al
set_option maxHeartbeats 4000000 in
theorem xt_303 {b : Bool} {rf : jRf} {d : Nat} : xT_303 b rf xF_303 (d + 3) := by
  intro  Post x1 sc mr ar al r9 sc9 mr9 ar9 al9 h hP
  unfold xF_303 at h
  refine gl_entry (m := 3) rfl ?_
  show gL (gX b) 303 (d + 3) 0 [some (.ref 759), some (.int x1), none, none, none] [] sc (x_mk mr rf) ar al Post
  refine gl_iload_n (gX_LK b) y_303_0 rfl rfl ?_
  refine gl_istore_n (vs2 := [some (.ref 759), some (.int x1), some (.int x1), none, none]) (gX_LK b) y_303_1 rfl rfl rfl rfl ?_
  refine gl_iconst (gX_LK b) y_303_2 ci_0 rfl ?_
  refine gl_istore_n (vs2 := [some (.ref 759), some (.int x1), some (.int x1), some (.int (0 : Int32)), none]) (gX_LK b) y_303_3 rfl rfl rfl rfl ?_
  exact gl_weak (vs := [some (.ref 759), some (.int x1), some (.int x1), some (.int (0 : Int32)), none]) ⟨rfl, rfl, rfl, rfl, trivial⟩ (xt_303_4  hP oF x1 x1 (0 : Int32) sc mr ar al h)
/-- ClickOrders$Track.comesAgain(I)Z -/
def xT_307 (b : Bool) (rf : jRf) (F : Int32 → jSc → (Nat → Nat) → jSc → jAl → Option (Int32 × jSc × (Nat → Nat) × jSc × jAl)) (e : Nat) : Prop := ∀  (Post : jPo) (x1 : Int32) (sc : jSc) (mr : (Nat → Nat)) (ar : jSc) (al : jAl) (r9 : Int32) (sc9 : jSc) (mr9 : (Nat → Nat)) (ar9 : jSc) (al9 : jAl), F x1 sc mr ar al = some (r9, sc9, mr9, ar9, al9) → Post (some (.int r9)) sc9 (x_mk mr9 rf) ar9 al9 → gW (gX b) 307 e 0 (j_av [.ref 759, .int x1]) [] sc (x_mk mr rf) ar al Post
def xF_307 (x1 : Int32) (sc : jSc) (mr : (Nat → Nat)) (ar : jSc) (al : jAl) : Option (Int32 × jSc × (Nat → Nat) × jSc × jAl) :=
  (if iB x1 40 then (o_b5 (xF_206 766 (ar 762 (iN x1)) sc mr ar al) (fun ve2 sce2 mre2 are2 ale2 => (if ve2 = 0 then some ((0 : Int32), sce2, mre2, are2, ale2) else (if (sce2 759 12) < (40 : Int32) then (if iB x1 40 then (o_b5 (xF_209 766 (are2 762 (iN x1)) (-1 : Int32) sce2 mre2 are2 ale2) (fun ve6 sce6 mre6 are6 ale6 => (if xcp (0 : Int32) ((sce6 759 12) * (10 : Int32)) (10 : Int32) 50 400 then some ((1 : Int32), (j_u2 sce6 759 12 ((sce6 759 12) + (1 : Int32))), mre6, (va_up are6 771 (va_cpy (are6 767) (are6 771) (iN (0 : Int32)) (iN ((sce6 759 12) * (10 : Int32))) (iN (10 : Int32)))), ale6) else none))) else none) else some ((0 : Int32), sce2, mre2, are2, ale2))))) else none)
set_option maxHeartbeats 4000000 in
theorem xt_307 {b : Bool} {rf : jRf} {d : Nat} : xT_307 b rf xF_307 (d + 5) := by
  intro  Post x1 sc mr ar al r9 sc9 mr9 ar9 al9 h hP
  unfold xF_307 at h
  refine gl_entry (m := 0) rfl ?_
  show gL (gX b) 307 (d + 5) 0 [some (.ref 759), some (.int x1)] [] sc (x_mk mr rf) ar al Post
  refine gl_aload_n (gX_LK b) y_307_0 rfl rfl ?_
  refine gl_getA (gX_LK b) y_307_1 yf_307_61 ys_759 rfl rfl rfl rfl ?_
  refine gl_aload_n (gX_LK b) y_307_4 rfl rfl ?_
  refine gl_getA (gX_LK b) y_307_5 yf_307_35 ys_759 rfl rfl rfl rfl ?_
  refine gl_aload_n (gX_LK b) y_307_8 rfl rfl ?_
  refine gl_getA (gX_LK b) y_307_9 yf_307_18 ys_759 rfl rfl rfl rfl ?_
  refine gl_iload_n (gX_LK b) y_307_12 rfl rfl ?_
  obtain ⟨c1, h⟩ := o_ck h
  refine gl_iaload (gX_LK b) y_307_13 ys_762 c1 rfl rfl ?_
  obtain ⟨ve2, sce2, mre2, are2, ale2, e2, h⟩ := o_k5 h
  refine gl_callV (gX_LK b) y_307_14 ym_307_118 rfl rfl rfl ys_757 yx_206 rfl rfl ((xt_206 )  _ _ _ (show x_pg 766 = true from rfl) _ _ _ _ _ _ _ _ _ e2 ?_)
  refine gl_if_eq (gX_LK b) y_307_17 rfl rfl (fun c3 => ?_) (fun c3 => ?_)
  · have h := (if_pos c3).symm.trans h
    refine gl_iconst (gX_LK b) y_307_29 ci_0 rfl ?_
    exact gl_ireturn y_307_30 (Or.inr ⟨yt_307, Or.inl rfl⟩) (by cases h; exact hP)
  · have h := (if_neg c3).symm.trans h
    refine gl_aload_n (gX_LK b) y_307_20 rfl rfl ?_
    refine gl_get (gX_LK b) y_307_21 yf_307_51 ys_759 rfl rfl rfl rfl ?_
    refine gl_bipush (gX_LK b) y_307_24 cb_40 rfl ?_
    refine gl_ic_lt (gX_LK b) y_307_26 rfl rfl (fun c4 => ?_) (fun c4 => ?_)
    · have h := (if_pos c4).symm.trans h
      refine gl_aload_n (gX_LK b) y_307_31 rfl rfl ?_
      refine gl_getA (gX_LK b) y_307_32 yf_307_61 ys_759 rfl rfl rfl rfl ?_
      refine gl_aload_n (gX_LK b) y_307_35 rfl rfl ?_
      refine gl_getA (gX_LK b) y_307_36 yf_307_35 ys_759 rfl rfl rfl rfl ?_
      refine gl_aload_n (gX_LK b) y_307_39 rfl rfl ?_
      refine gl_getA (gX_LK b) y_307_40 yf_307_18 ys_759 rfl rfl rfl rfl ?_
      refine gl_iload_n (gX_LK b) y_307_43 rfl rfl ?_
      obtain ⟨c5, h⟩ := o_ck h
      refine gl_iaload (gX_LK b) y_307_44 ys_762 c5 rfl rfl ?_
      refine gl_iconst (gX_LK b) y_307_45 ci_m1 rfl ?_
      obtain ⟨ve6, sce6, mre6, are6, ale6, e6, h⟩ := o_k5 h
      refine gl_callV (gX_LK b) y_307_46 ym_307_74 rfl rfl rfl ys_757 yx_209 rfl rfl ((xt_209 )  _ _ _ _ (show x_pg 766 = true from rfl) _ _ _ _ _ _ _ _ _ e6 ?_)
      refine gl_pop (gX_LK b) y_307_49 rfl rfl ?_
      refine gl_aload_n (gX_LK b) y_307_50 rfl rfl ?_
      refine gl_getA (gX_LK b) y_307_51 yf_307_35 ys_759 rfl rfl rfl rfl ?_
      refine gl_getA (gX_LK b) y_307_54 yf_307_122 ys_766 rfl rfl rfl rfl ?_
      refine gl_iconst (gX_LK b) y_307_57 ci_0 rfl ?_
      refine gl_aload_n (gX_LK b) y_307_58 rfl rfl ?_
      refine gl_getA (gX_LK b) y_307_59 yf_307_48 ys_759 rfl rfl rfl rfl ?_
      refine gl_aload_n (gX_LK b) y_307_62 rfl rfl ?_
      refine gl_get (gX_LK b) y_307_63 yf_307_51 ys_759 rfl rfl rfl rfl ?_
      refine gl_bipush (gX_LK b) y_307_66 cb_10 rfl ?_
      refine gl_imul (gX_LK b) y_307_68 rfl ?_
      refine gl_bipush (gX_LK b) y_307_69 cb_10 rfl ?_
      obtain ⟨c7, h⟩ := o_ck h
      refine gl_copy (gX_LK b) y_307_71 yn_307_125 yz_307_125 ys_767 ys_771 c7 rfl rfl ?_
      refine gl_aload_n (gX_LK b) y_307_74 rfl rfl ?_
      refine gl_dup (gX_LK b) y_307_75 rfl rfl ?_
      refine gl_get (gX_LK b) y_307_76 yf_307_51 ys_759 rfl rfl rfl rfl ?_
      refine gl_iconst (gX_LK b) y_307_79 ci_1 rfl ?_
      refine gl_iadd (gX_LK b) y_307_80 rfl ?_
      refine gl_put (sc' := (j_u2 sce6 759 12 ((sce6 759 12) + (1 : Int32)))) (gX_LK b) y_307_81 yf_307_51 ys_759 rfl rfl rfl rfl rfl ?_
      refine gl_iconst (gX_LK b) y_307_84 ci_1 rfl ?_
      exact gl_ireturn y_307_85 (Or.inr ⟨yt_307, Or.inr rfl⟩) (by cases h; exact hP)
    · have h := (if_neg c4).symm.trans h
      refine gl_iconst (gX_LK b) y_307_29 ci_0 rfl ?_
      exact gl_ireturn y_307_30 (Or.inr ⟨yt_307, Or.inl rfl⟩) (by cases h; exact hP)
/-- ClickOrders$Track.isSameShown(II)Z -/
def xT_309 (b : Bool) (rf : jRf) (F : Int32 → Int32 → jSc → (Nat → Nat) → jSc → jAl → Option (Int32 × jSc × (Nat → Nat) × jSc × jAl)) (e : Nat) : Prop := ∀  (Post : jPo) (x1 : Int32) (x2 : Int32) (sc : jSc) (mr : (Nat → Nat)) (ar : jSc) (al : jAl) (r9 : Int32) (sc9 : jSc) (mr9 : (Nat → Nat)) (ar9 : jSc) (al9 : jAl), F x1 x2 sc mr ar al = some (r9, sc9, mr9, ar9, al9) → Post (some (.int r9)) sc9 (x_mk mr9 rf) ar9 al9 → gW (gX b) 309 e 0 (j_av [.ref 759, .int x1, .int x2]) [] sc (x_mk mr rf) ar al Post
def xF_309_2 : Nat → Int32 → Int32 → Int32 → jSc → (Nat → Nat) → jSc → jAl → Option (Int32 × jSc × (Nat → Nat) × jSc × jAl)
  | 0, _, _, _, _, _, _, _ => none
  | nn + 1, x1, x2, x3, sc, mr, ar, al => (if (10 : Int32) ≤ x3 then some ((1 : Int32), sc, mr, ar, al) else (if iB (x1 + x3) 400 then (if iB (x2 + x3) 410 then (if (ar 771 (iN (x1 + x3))) = (ar 770 (iN (x2 + x3))) then xF_309_2 nn x1 x2 (x3 + (1 : Int32)) sc mr ar al else some ((0 : Int32), sc, mr, ar, al)) else none) else none))
set_option maxHeartbeats 4000000 in
theorem xt_309_2 {b : Bool} {rf : jRf} {d : Nat} {Post : jPo} {r9 : Int32} {sc9 : jSc} {mr9 : (Nat → Nat)} {ar9 : jSc} {al9 : jAl} (hP : Post (some (.int r9)) sc9 (x_mk mr9 rf) ar9 al9) : ∀ (nn : Nat) (x1 : Int32) (x2 : Int32) (x3 : Int32) (sc : jSc) (mr : (Nat → Nat)) (ar : jSc) (al : jAl), xF_309_2 nn x1 x2 x3 sc mr ar al = some (r9, sc9, mr9, ar9, al9) → gL (gX b) 309 (d + 1) 2 [some (.ref 759), some (.int x1), some (.int x2), some (.int x3)] [] sc (x_mk mr rf) ar al Post := by
  intro nn
  induction nn with
  | zero =>
    intro x1 x2 x3 sc mr ar al h
    have h : (none : Option (Int32 × jSc × (Nat → Nat) × jSc × jAl)) = some _ := h
    cases h
  | succ nn ih =>
    intro x1 x2 x3 sc mr ar al h
    unfold xF_309_2 at h
    refine gl_iload_n (gX_LK b) y_309_2 rfl rfl ?_
    refine gl_bipush (gX_LK b) y_309_3 cb_10 rfl ?_
    refine gl_ic_ge (gX_LK b) y_309_5 rfl rfl (fun c1 => ?_) (fun c1 => ?_)
    · have h := (if_pos c1).symm.trans h
      refine gl_iconst (gX_LK b) y_309_35 ci_1 rfl ?_
      exact gl_ireturn y_309_36 (Or.inr ⟨yt_309, Or.inr rfl⟩) (by cases h; exact hP)
    · have h := (if_neg c1).symm.trans h
      refine gl_aload_n (gX_LK b) y_309_8 rfl rfl ?_
      refine gl_getA (gX_LK b) y_309_9 yf_309_48 ys_759 rfl rfl rfl rfl ?_
      refine gl_iload_n (gX_LK b) y_309_12 rfl rfl ?_
      refine gl_iload_n (gX_LK b) y_309_13 rfl rfl ?_
      refine gl_iadd (gX_LK b) y_309_14 rfl ?_
      obtain ⟨c2, h⟩ := o_ck h
      refine gl_iaload (gX_LK b) y_309_15 ys_771 c2 rfl rfl ?_
      refine gl_aload_n (gX_LK b) y_309_16 rfl rfl ?_
      refine gl_getA (gX_LK b) y_309_17 yf_309_45 ys_759 rfl rfl rfl rfl ?_
      refine gl_iload_n (gX_LK b) y_309_20 rfl rfl ?_
      refine gl_iload_n (gX_LK b) y_309_21 rfl rfl ?_
      refine gl_iadd (gX_LK b) y_309_22 rfl ?_
      obtain ⟨c3, h⟩ := o_ck h
      refine gl_iaload (gX_LK b) y_309_23 ys_770 c3 rfl rfl ?_
      refine gl_ic_eq (gX_LK b) y_309_24 rfl rfl (fun c4 => ?_) (fun c4 => ?_)
      · have h := (if_pos c4).symm.trans h
        refine gl_iinc (vs2 := [some (.ref 759), some (.int x1), some (.int x2), some (.int (x3 + (1 : Int32)))]) (gX_LK b) y_309_29 rfl rfl rfl ci_1 rfl rfl ?_
        refine gl_goto (gX_LK b) y_309_32 rfl ?_
        exact gl_weak (vs := [some (.ref 759), some (.int x1), some (.int x2), some (.int (x3 + (1 : Int32)))]) ⟨rfl, rfl, rfl, rfl, trivial⟩ (ih x1 x2 (x3 + (1 : Int32)) sc mr ar al h)
      · have h := (if_neg c4).symm.trans h
        refine gl_iconst (gX_LK b) y_309_27 ci_0 rfl ?_
        exact gl_ireturn y_309_28 (Or.inr ⟨yt_309, Or.inl rfl⟩) (by cases h; exact hP)
def xF_309 (x1 : Int32) (x2 : Int32) (sc : jSc) (mr : (Nat → Nat)) (ar : jSc) (al : jAl) : Option (Int32 × jSc × (Nat → Nat) × jSc × jAl) :=
  xF_309_2 oF x1 x2 (0 : Int32) sc mr ar al
set_option maxHeartbeats 4000000 in
theorem xt_309 {b : Bool} {rf : jRf} {d : Nat} : xT_309 b rf xF_309 (d + 1) := by
  intro  Post x1 x2 sc mr ar al r9 sc9 mr9 ar9 al9 h hP
  unfold xF_309 at h
  refine gl_entry (m := 1) rfl ?_
  show gL (gX b) 309 (d + 1) 0 [some (.ref 759), some (.int x1), some (.int x2), none] [] sc (x_mk mr rf) ar al Post
  refine gl_iconst (gX_LK b) y_309_0 ci_0 rfl ?_
  refine gl_istore_n (vs2 := [some (.ref 759), some (.int x1), some (.int x2), some (.int (0 : Int32))]) (gX_LK b) y_309_1 rfl rfl rfl rfl ?_
  exact gl_weak (vs := [some (.ref 759), some (.int x1), some (.int x2), some (.int (0 : Int32))]) ⟨rfl, rfl, rfl, rfl, trivial⟩ (xt_309_2  hP oF x1 x2 (0 : Int32) sc mr ar al h)
/-- ClickOrders$Track.isStrange()Z -/
def xT_308 (b : Bool) (rf : jRf) (F : jSc → (Nat → Nat) → jSc → jAl → Option (Int32 × jSc × (Nat → Nat) × jSc × jAl)) (e : Nat) : Prop := ∀  (Post : jPo) (sc : jSc) (mr : (Nat → Nat)) (ar : jSc) (al : jAl) (r9 : Int32) (sc9 : jSc) (mr9 : (Nat → Nat)) (ar9 : jSc) (al9 : jAl), F sc mr ar al = some (r9, sc9, mr9, ar9, al9) → Post (some (.int r9)) sc9 (x_mk mr9 rf) ar9 al9 → gW (gX b) 308 e 0 (j_av [.ref 759]) [] sc (x_mk mr rf) ar al Post
def xF_308_14 (k2 : Int32 → jSc → (Nat → Nat) → jSc → jAl → Option (Int32 × jSc × (Nat → Nat) × jSc × jAl)) : Nat → Int32 → Int32 → Int32 → jSc → (Nat → Nat) → jSc → jAl → Option (Int32 × jSc × (Nat → Nat) × jSc × jAl)
  | 0, _, _, _, _, _, _, _ => none
  | nn + 1, x1, x2, x3, sc, mr, ar, al => (if (sc 759 5) < x3 then (if x2 = 0 then some ((1 : Int32), sc, mr, ar, al) else k2 (x1 + (1 : Int32)) sc mr ar al) else (if x2 = 0 then (o_b5 (xF_309 (x1 * (10 : Int32)) (x3 * (10 : Int32)) sc mr ar al) (fun ve4 sce4 mre4 are4 ale4 => xF_308_14 k2 nn x1 ve4 (x3 + (1 : Int32)) sce4 mre4 are4 ale4)) else (if x2 = 0 then some ((1 : Int32), sc, mr, ar, al) else k2 (x1 + (1 : Int32)) sc mr ar al)))
set_option maxHeartbeats 4000000 in
theorem xt_308_14 {b : Bool} {rf : jRf} {d : Nat} {Post : jPo} {r9 : Int32} {sc9 : jSc} {mr9 : (Nat → Nat)} {ar9 : jSc} {al9 : jAl} {k2 : Int32 → jSc → (Nat → Nat) → jSc → jAl → Option (Int32 × jSc × (Nat → Nat) × jSc × jAl)} (hk2 : ∀ (x1 : Int32) (sc : jSc) (mr : (Nat → Nat)) (ar : jSc) (al : jAl), k2 x1 sc mr ar al = some (r9, sc9, mr9, ar9, al9) → gL (gX b) 308 (d + 2) 2 [some (.ref 759), some (.int x1), none, none] [] sc (x_mk mr rf) ar al Post) (hP : Post (some (.int r9)) sc9 (x_mk mr9 rf) ar9 al9) : ∀ (nn : Nat) (x1 : Int32) (x2 : Int32) (x3 : Int32) (sc : jSc) (mr : (Nat → Nat)) (ar : jSc) (al : jAl), xF_308_14 k2 nn x1 x2 x3 sc mr ar al = some (r9, sc9, mr9, ar9, al9) → gL (gX b) 308 (d + 2) 14 [some (.ref 759), some (.int x1), some (.int x2), some (.int x3)] [] sc (x_mk mr rf) ar al Post := by
  intro nn
  induction nn with
  | zero =>
    intro x1 x2 x3 sc mr ar al h
    have h : (none : Option (Int32 × jSc × (Nat → Nat) × jSc × jAl)) = some _ := h
    cases h
  | succ nn ih =>
    intro x1 x2 x3 sc mr ar al h
    unfold xF_308_14 at h
    refine gl_iload_n (gX_LK b) y_308_14 rfl rfl ?_
    refine gl_aload_n (gX_LK b) y_308_15 rfl rfl ?_
    refine gl_get (gX_LK b) y_308_16 yf_308_31 ys_759 rfl rfl rfl rfl ?_
    refine gl_ic_gt (gX_LK b) y_308_19 rfl rfl (fun c1 => ?_) (fun c1 => ?_)
    · have h := (if_pos c1).symm.trans h
      refine gl_iload_n (gX_LK b) y_308_45 rfl rfl ?_
      refine gl_if_ne (gX_LK b) y_308_46 rfl rfl (fun c2 => ?_) (fun c2 => ?_)
      · have h := (if_pos c2).symm.trans h
        refine gl_iconst (gX_LK b) y_308_49 ci_1 rfl ?_
        exact gl_ireturn y_308_50 (Or.inr ⟨yt_308, Or.inr rfl⟩) (by cases h; exact hP)
      · have h := (if_neg c2).symm.trans h
        refine gl_iinc (vs2 := [some (.ref 759), some (.int (x1 + (1 : Int32))), some (.int x2), some (.int x3)]) (gX_LK b) y_308_51 rfl rfl rfl ci_1 rfl rfl ?_
        refine gl_goto (gX_LK b) y_308_54 rfl ?_
        exact gl_weak (vs := [some (.ref 759), some (.int (x1 + (1 : Int32))), none, none]) ⟨rfl, rfl, trivial⟩ (hk2 (x1 + (1 : Int32)) sc mr ar al h)
    · have h := (if_neg c1).symm.trans h
      refine gl_iload_n (gX_LK b) y_308_22 rfl rfl ?_
      refine gl_if_ne (gX_LK b) y_308_23 rfl rfl (fun c3 => ?_) (fun c3 => ?_)
      · have h := (if_pos c3).symm.trans h
        refine gl_aload_n (gX_LK b) y_308_26 rfl rfl ?_
        refine gl_iload_n (gX_LK b) y_308_27 rfl rfl ?_
        refine gl_bipush (gX_LK b) y_308_28 cb_10 rfl ?_
        refine gl_imul (gX_LK b) y_308_30 rfl ?_
        refine gl_iload_n (gX_LK b) y_308_31 rfl rfl ?_
        refine gl_bipush (gX_LK b) y_308_32 cb_10 rfl ?_
        refine gl_imul (gX_LK b) y_308_34 rfl ?_
        obtain ⟨ve4, sce4, mre4, are4, ale4, e4, h⟩ := o_k5 h
        refine gl_callV (gX_LK b) y_308_35 ym_308_131 rfl rfl rfl ys_759 yx_309 rfl rfl ((xt_309 )  _ _ _ _ _ _ _ _ _ _ _ _ e4 ?_)
        refine gl_istore_n (vs2 := [some (.ref 759), some (.int x1), some (.int ve4), some (.int x3)]) (gX_LK b) y_308_38 rfl rfl rfl rfl ?_
        refine gl_iinc (vs2 := [some (.ref 759), some (.int x1), some (.int ve4), some (.int (x3 + (1 : Int32)))]) (gX_LK b) y_308_39 rfl rfl rfl ci_1 rfl rfl ?_
        refine gl_goto (gX_LK b) y_308_42 rfl ?_
        exact gl_weak (vs := [some (.ref 759), some (.int x1), some (.int ve4), some (.int (x3 + (1 : Int32)))]) ⟨rfl, rfl, rfl, rfl, trivial⟩ (ih x1 ve4 (x3 + (1 : Int32)) sce4 mre4 are4 ale4 h)
      · have h := (if_neg c3).symm.trans h
        refine gl_iload_n (gX_LK b) y_308_45 rfl rfl ?_
        refine gl_if_ne (gX_LK b) y_308_46 rfl rfl (fun c5 => ?_) (fun c5 => ?_)
        · have h := (if_pos c5).symm.trans h
          refine gl_iconst (gX_LK b) y_308_49 ci_1 rfl ?_
          exact gl_ireturn y_308_50 (Or.inr ⟨yt_308, Or.inr rfl⟩) (by cases h; exact hP)
        · have h := (if_neg c5).symm.trans h
          refine gl_iinc (vs2 := [some (.ref 759), some (.int (x1 + (1 : Int32))), some (.int x2), some (.int x3)]) (gX_LK b) y_308_51 rfl rfl rfl ci_1 rfl rfl ?_
          refine gl_goto (gX_LK b) y_308_54 rfl ?_
          exact gl_weak (vs := [some (.ref 759), some (.int (x1 + (1 : Int32))), none, none]) ⟨rfl, rfl, trivial⟩ (hk2 (x1 + (1 : Int32)) sc mr ar al h)
def xF_308_2 : Nat → Int32 → jSc → (Nat → Nat) → jSc → jAl → Option (Int32 × jSc × (Nat → Nat) × jSc × jAl)
  | 0, _, _, _, _, _ => none
  | nn + 1, x1, sc, mr, ar, al => (if (sc 759 12) ≤ x1 then some ((0 : Int32), sc, mr, ar, al) else xF_308_14 (fun x1_ sc_ mr_ ar_ al_ => xF_308_2 nn x1_ sc_ mr_ ar_ al_) oF x1 (0 : Int32) (0 : Int32) sc mr ar al)
set_option maxHeartbeats 4000000 in
theorem xt_308_2 {b : Bool} {rf : jRf} {d : Nat} {Post : jPo} {r9 : Int32} {sc9 : jSc} {mr9 : (Nat → Nat)} {ar9 : jSc} {al9 : jAl} (hP : Post (some (.int r9)) sc9 (x_mk mr9 rf) ar9 al9) : ∀ (nn : Nat) (x1 : Int32) (sc : jSc) (mr : (Nat → Nat)) (ar : jSc) (al : jAl), xF_308_2 nn x1 sc mr ar al = some (r9, sc9, mr9, ar9, al9) → gL (gX b) 308 (d + 2) 2 [some (.ref 759), some (.int x1), none, none] [] sc (x_mk mr rf) ar al Post := by
  intro nn
  induction nn with
  | zero =>
    intro x1 sc mr ar al h
    have h : (none : Option (Int32 × jSc × (Nat → Nat) × jSc × jAl)) = some _ := h
    cases h
  | succ nn ih =>
    intro x1 sc mr ar al h
    unfold xF_308_2 at h
    refine gl_iload_n (gX_LK b) y_308_2 rfl rfl ?_
    refine gl_aload_n (gX_LK b) y_308_3 rfl rfl ?_
    refine gl_get (gX_LK b) y_308_4 yf_308_51 ys_759 rfl rfl rfl rfl ?_
    refine gl_ic_ge (gX_LK b) y_308_7 rfl rfl (fun c6 => ?_) (fun c6 => ?_)
    · have h := (if_pos c6).symm.trans h
      refine gl_iconst (gX_LK b) y_308_57 ci_0 rfl ?_
      exact gl_ireturn y_308_58 (Or.inr ⟨yt_308, Or.inl rfl⟩) (by cases h; exact hP)
    · have h := (if_neg c6).symm.trans h
      refine gl_iconst (gX_LK b) y_308_10 ci_0 rfl ?_
      refine gl_istore_n (vs2 := [some (.ref 759), some (.int x1), some (.int (0 : Int32)), none]) (gX_LK b) y_308_11 rfl rfl rfl rfl ?_
      refine gl_iconst (gX_LK b) y_308_12 ci_0 rfl ?_
      refine gl_istore_n (vs2 := [some (.ref 759), some (.int x1), some (.int (0 : Int32)), some (.int (0 : Int32))]) (gX_LK b) y_308_13 rfl rfl rfl rfl ?_
      exact gl_weak (vs := [some (.ref 759), some (.int x1), some (.int (0 : Int32)), some (.int (0 : Int32))]) ⟨rfl, rfl, rfl, rfl, trivial⟩ (xt_308_14  ih hP oF x1 (0 : Int32) (0 : Int32) sc mr ar al h)
def xF_308 (sc : jSc) (mr : (Nat → Nat)) (ar : jSc) (al : jAl) : Option (Int32 × jSc × (Nat → Nat) × jSc × jAl) :=
  xF_308_2 oF (0 : Int32) sc mr ar al
set_option maxHeartbeats 4000000 in
theorem xt_308 {b : Bool} {rf : jRf} {d : Nat} : xT_308 b rf xF_308 (d + 2) := by
  intro  Post  sc mr ar al r9 sc9 mr9 ar9 al9 h hP
  unfold xF_308 at h
  refine gl_entry (m := 3) rfl ?_
  show gL (gX b) 308 (d + 2) 0 [some (.ref 759), none, none, none] [] sc (x_mk mr rf) ar al Post
  refine gl_iconst (gX_LK b) y_308_0 ci_0 rfl ?_
  refine gl_istore_n (vs2 := [some (.ref 759), some (.int (0 : Int32)), none, none]) (gX_LK b) y_308_1 rfl rfl rfl rfl ?_
  exact gl_weak (vs := [some (.ref 759), some (.int (0 : Int32)), none, none]) ⟨rfl, rfl, trivial⟩ (xt_308_2  hP oF (0 : Int32) sc mr ar al h)
/-- ClickOrders$Track.turned(II)I -/
def xT_306 (b : Bool) (rf : jRf) (F : Int32 → Int32 → jSc → (Nat → Nat) → jSc → jAl → Option (Int32 × jSc × (Nat → Nat) × jSc × jAl)) (e : Nat) : Prop := ∀  (Post : jPo) (x1 : Int32) (x2 : Int32) (sc : jSc) (mr : (Nat → Nat)) (ar : jSc) (al : jAl) (r9 : Int32) (sc9 : jSc) (mr9 : (Nat → Nat)) (ar9 : jSc) (al9 : jAl), F x1 x2 sc mr ar al = some (r9, sc9, mr9, ar9, al9) → Post (some (.int r9)) sc9 (x_mk mr9 rf) ar9 al9 → gW (gX b) 306 e 0 (j_av [.ref 759, .int x1, .int x2]) [] sc (x_mk mr rf) ar al Post
def xF_306_157 (sc : jSc) (mr : (Nat → Nat)) (ar : jSc) (al : jAl) : Option (Int32 × jSc × (Nat → Nat) × jSc × jAl) :=
  (o_b5 (xF_227 766 760 sc mr ar al) (fun ve1 sce1 mre1 are1 ale1 => (if ve1 = 0 then some ((3 : Int32), sce1, mre1, are1, ale1) else (o_b5 (xF_308 sce1 mre1 are1 ale1) (fun ve3 sce3 mre3 are3 ale3 => (if ve3 = 0 then some ((1 : Int32), sce3, mre3, are3, ale3) else some ((2 : Int32), sce3, mre3, are3, ale3)))))))
set_option maxHeartbeats 4000000 in
theorem xt_306_157 {b : Bool} {rf : jRf} {d : Nat} {Post : jPo} {r9 : Int32} {sc9 : jSc} {mr9 : (Nat → Nat)} {ar9 : jSc} {al9 : jAl} (hP : Post (some (.int r9)) sc9 (x_mk mr9 rf) ar9 al9) (sc : jSc) (mr : (Nat → Nat)) (ar : jSc) (al : jAl) (h : xF_306_157 sc mr ar al = some (r9, sc9, mr9, ar9, al9)) : gL (gX b) 306 (d + 6) 157 [some (.ref 759), none, none, none] [] sc (x_mk mr rf) ar al Post := by
  unfold xF_306_157 at h
  refine gl_aload_n (gX_LK b) y_306_157 rfl rfl ?_
  refine gl_getA (gX_LK b) y_306_158 yf_306_35 ys_759 rfl rfl rfl rfl ?_
  refine gl_aload_n (gX_LK b) y_306_161 rfl rfl ?_
  refine gl_getA (gX_LK b) y_306_162 yf_306_12 ys_759 rfl rfl rfl rfl ?_
  obtain ⟨ve1, sce1, mre1, are1, ale1, e1, h⟩ := o_k5 h
  refine gl_callV (gX_LK b) y_306_165 ym_306_111 rfl rfl rfl ys_766 yx_227 rfl rfl ((xt_227 )  _ _ _ (show x_pg 766 = true from rfl) (show x_pg 760 = true from rfl) _ _ _ _ _ _ _ _ _ e1 ?_)
  refine gl_if_ne (gX_LK b) y_306_168 rfl rfl (fun c2 => ?_) (fun c2 => ?_)
  · have h := (if_pos c2).symm.trans h
    refine gl_iconst (gX_LK b) y_306_171 ci_3 rfl ?_
    exact gl_ireturn y_306_172 (Or.inl yt_306) (by cases h; exact hP)
  · have h := (if_neg c2).symm.trans h
    refine gl_aload_n (gX_LK b) y_306_173 rfl rfl ?_
    obtain ⟨ve3, sce3, mre3, are3, ale3, e3, h⟩ := o_k5 h
    refine gl_callV (gX_LK b) y_306_174 ym_306_115 rfl rfl rfl ys_759 yx_308 rfl rfl ((xt_308 )  _  _ _ _ _ _ _ _ _ _ e3 ?_)
    refine gl_if_eq (gX_LK b) y_306_177 rfl rfl (fun c4 => ?_) (fun c4 => ?_)
    · have h := (if_pos c4).symm.trans h
      refine gl_iconst (gX_LK b) y_306_184 ci_1 rfl ?_
      exact gl_ireturn y_306_185 (Or.inl yt_306) (by cases h; exact hP)
    · have h := (if_neg c4).symm.trans h
      refine gl_iconst (gX_LK b) y_306_180 ci_2 rfl ?_
      refine gl_goto (gX_LK b) y_306_181 rfl ?_
      exact gl_ireturn y_306_185 (Or.inl yt_306) (by cases h; exact hP)
def xF_306_115 : Nat → Int32 → jSc → (Nat → Nat) → jSc → jAl → Option (Int32 × jSc × (Nat → Nat) × jSc × jAl)
  | 0, _, _, _, _, _ => none
  | nn + 1, x3, sc, mr, ar, al => (if (sc 759 5) ≤ x3 then (o_b5 (xF_228 766 sc mr ar al) (fun ve6 sce6 mre6 are6 ale6 => (if ve6 = 0 then xF_306_157 sce6 mre6 are6 ale6 else (o_b5 (xF_228 760 sce6 mre6 are6 ale6) (fun ve8 sce8 mre8 are8 ale8 => (if ve8 = 0 then some ((4 : Int32), sce8, mre8, are8, ale8) else xF_306_157 sce8 mre8 are8 ale8)))))) else (o_b5 (xF_307 x3 sc mr ar al) (fun ve10 sce10 mre10 are10 ale10 => xF_306_115 nn (x3 + (1 : Int32)) sce10 mre10 are10 ale10)))
set_option maxHeartbeats 4000000 in
theorem xt_306_115 {b : Bool} {rf : jRf} {d : Nat} {Post : jPo} {r9 : Int32} {sc9 : jSc} {mr9 : (Nat → Nat)} {ar9 : jSc} {al9 : jAl} (hP : Post (some (.int r9)) sc9 (x_mk mr9 rf) ar9 al9) : ∀ (nn : Nat) (x3 : Int32) (sc : jSc) (mr : (Nat → Nat)) (ar : jSc) (al : jAl), xF_306_115 nn x3 sc mr ar al = some (r9, sc9, mr9, ar9, al9) → gL (gX b) 306 (d + 6) 115 [some (.ref 759), none, none, some (.int x3)] [] sc (x_mk mr rf) ar al Post := by
  intro nn
  induction nn with
  | zero =>
    intro x3 sc mr ar al h
    have h : (none : Option (Int32 × jSc × (Nat → Nat) × jSc × jAl)) = some _ := h
    cases h
  | succ nn ih =>
    intro x3 sc mr ar al h
    unfold xF_306_115 at h
    refine gl_iload_n (gX_LK b) y_306_115 rfl rfl ?_
    refine gl_aload_n (gX_LK b) y_306_116 rfl rfl ?_
    refine gl_get (gX_LK b) y_306_117 yf_306_31 ys_759 rfl rfl rfl rfl ?_
    refine gl_ic_ge (gX_LK b) y_306_120 rfl rfl (fun c5 => ?_) (fun c5 => ?_)
    · have h := (if_pos c5).symm.trans h
      refine gl_aload_n (gX_LK b) y_306_135 rfl rfl ?_
      refine gl_getA (gX_LK b) y_306_136 yf_306_35 ys_759 rfl rfl rfl rfl ?_
      obtain ⟨ve6, sce6, mre6, are6, ale6, e6, h⟩ := o_k5 h
      refine gl_callV (gX_LK b) y_306_139 ym_306_107 rfl rfl rfl ys_766 yx_228 rfl rfl ((xt_228 )  _ _ (show x_pg 766 = true from rfl) _ _ _ _ _ _ _ _ _ e6 ?_)
      refine gl_if_eq (gX_LK b) y_306_142 rfl rfl (fun c7 => ?_) (fun c7 => ?_)
      · have h := (if_pos c7).symm.trans h
        exact gl_weak (vs := [some (.ref 759), none, none, none]) ⟨rfl, trivial⟩ (xt_306_157  hP sce6 mre6 are6 ale6 h)
      · have h := (if_neg c7).symm.trans h
        refine gl_aload_n (gX_LK b) y_306_145 rfl rfl ?_
        refine gl_getA (gX_LK b) y_306_146 yf_306_12 ys_759 rfl rfl rfl rfl ?_
        obtain ⟨ve8, sce8, mre8, are8, ale8, e8, h⟩ := o_k5 h
        refine gl_callV (gX_LK b) y_306_149 ym_306_107 rfl rfl rfl ys_760 yx_228 rfl rfl ((xt_228 )  _ _ (show x_pg 760 = true from rfl) _ _ _ _ _ _ _ _ _ e8 ?_)
        refine gl_if_ne (gX_LK b) y_306_152 rfl rfl (fun c9 => ?_) (fun c9 => ?_)
        · have h := (if_pos c9).symm.trans h
          refine gl_iconst (gX_LK b) y_306_155 ci_4 rfl ?_
          exact gl_ireturn y_306_156 (Or.inl yt_306) (by cases h; exact hP)
        · have h := (if_neg c9).symm.trans h
          exact gl_weak (vs := [some (.ref 759), none, none, none]) ⟨rfl, trivial⟩ (xt_306_157  hP sce8 mre8 are8 ale8 h)
    · have h := (if_neg c5).symm.trans h
      refine gl_aload_n (gX_LK b) y_306_123 rfl rfl ?_
      refine gl_iload_n (gX_LK b) y_306_124 rfl rfl ?_
      obtain ⟨ve10, sce10, mre10, are10, ale10, e10, h⟩ := o_k5 h
      refine gl_callV (gX_LK b) y_306_125 ym_306_103 rfl rfl rfl ys_759 yx_307 rfl rfl ((xt_307 )  _ _ _ _ _ _ _ _ _ _ _ e10 ?_)
      refine gl_pop (gX_LK b) y_306_128 rfl rfl ?_
      refine gl_iinc (vs2 := [some (.ref 759), none, none, some (.int (x3 + (1 : Int32)))]) (gX_LK b) y_306_129 rfl rfl rfl ci_1 rfl rfl ?_
      refine gl_goto (gX_LK b) y_306_132 rfl ?_
      exact gl_weak (vs := [some (.ref 759), none, none, some (.int (x3 + (1 : Int32)))]) ⟨rfl, rfl, trivial⟩ (ih (x3 + (1 : Int32)) sce10 mre10 are10 ale10 h)
def xF_306_85 : Nat → Int32 → Int32 → jSc → (Nat → Nat) → jSc → jAl → Option (Int32 × jSc × (Nat → Nat) × jSc × jAl)
  | 0, _, _, _, _, _, _ => none
  | nn + 1, x2, x3, sc, mr, ar, al => (if x2 ≤ x3 then xF_306_115 oF (x2 + (1 : Int32)) sc mr ar al else (o_b5 (xF_300 x3 x2 sc mr ar al) (fun ve12 sce12 mre12 are12 ale12 => (if ve12 = 0 then (o_b5 (xF_307 x3 sce12 mre12 are12 ale12) (fun ve14 sce14 mre14 are14 ale14 => xF_306_85 nn x2 (x3 + (1 : Int32)) sce14 mre14 are14 ale14)) else xF_306_85 nn x2 (x3 + (1 : Int32)) sce12 mre12 are12 ale12))))
set_option maxHeartbeats 4000000 in
theorem xt_306_85 {b : Bool} {rf : jRf} {d : Nat} {Post : jPo} {r9 : Int32} {sc9 : jSc} {mr9 : (Nat → Nat)} {ar9 : jSc} {al9 : jAl} (hP : Post (some (.int r9)) sc9 (x_mk mr9 rf) ar9 al9) : ∀ (nn : Nat) (x2 : Int32) (x3 : Int32) (sc : jSc) (mr : (Nat → Nat)) (ar : jSc) (al : jAl), xF_306_85 nn x2 x3 sc mr ar al = some (r9, sc9, mr9, ar9, al9) → gL (gX b) 306 (d + 6) 85 [some (.ref 759), none, some (.int x2), some (.int x3)] [] sc (x_mk mr rf) ar al Post := by
  intro nn
  induction nn with
  | zero =>
    intro x2 x3 sc mr ar al h
    have h : (none : Option (Int32 × jSc × (Nat → Nat) × jSc × jAl)) = some _ := h
    cases h
  | succ nn ih =>
    intro x2 x3 sc mr ar al h
    unfold xF_306_85 at h
    refine gl_iload_n (gX_LK b) y_306_85 rfl rfl ?_
    refine gl_iload_n (gX_LK b) y_306_86 rfl rfl ?_
    refine gl_ic_ge (gX_LK b) y_306_87 rfl rfl (fun c11 => ?_) (fun c11 => ?_)
    · have h := (if_pos c11).symm.trans h
      refine gl_iload_n (gX_LK b) y_306_111 rfl rfl ?_
      refine gl_iconst (gX_LK b) y_306_112 ci_1 rfl ?_
      refine gl_iadd (gX_LK b) y_306_113 rfl ?_
      refine gl_istore_n (vs2 := [some (.ref 759), none, some (.int x2), some (.int (x2 + (1 : Int32)))]) (gX_LK b) y_306_114 rfl rfl rfl rfl ?_
      exact gl_weak (vs := [some (.ref 759), none, none, some (.int (x2 + (1 : Int32)))]) ⟨rfl, rfl, trivial⟩ (xt_306_115  hP oF (x2 + (1 : Int32)) sc mr ar al h)
    · have h := (if_neg c11).symm.trans h
      refine gl_aload_n (gX_LK b) y_306_90 rfl rfl ?_
      refine gl_iload_n (gX_LK b) y_306_91 rfl rfl ?_
      refine gl_iload_n (gX_LK b) y_306_92 rfl rfl ?_
      obtain ⟨ve12, sce12, mre12, are12, ale12, e12, h⟩ := o_k5 h
      refine gl_callV (gX_LK b) y_306_93 ym_306_86 rfl rfl rfl ys_759 yx_300 rfl rfl ((xt_300 )  _ _ _ _ _ _ _ _ _ _ _ _ e12 ?_)
      refine gl_if_ne (gX_LK b) y_306_96 rfl rfl (fun c13 => ?_) (fun c13 => ?_)
      · have h := (if_pos c13).symm.trans h
        refine gl_aload_n (gX_LK b) y_306_99 rfl rfl ?_
        refine gl_iload_n (gX_LK b) y_306_100 rfl rfl ?_
        obtain ⟨ve14, sce14, mre14, are14, ale14, e14, h⟩ := o_k5 h
        refine gl_callV (gX_LK b) y_306_101 ym_306_103 rfl rfl rfl ys_759 yx_307 rfl rfl ((xt_307 )  _ _ _ _ _ _ _ _ _ _ _ e14 ?_)
        refine gl_pop (gX_LK b) y_306_104 rfl rfl ?_
        refine gl_iinc (vs2 := [some (.ref 759), none, some (.int x2), some (.int (x3 + (1 : Int32)))]) (gX_LK b) y_306_105 rfl rfl rfl ci_1 rfl rfl ?_
        refine gl_goto (gX_LK b) y_306_108 rfl ?_
        exact gl_weak (vs := [some (.ref 759), none, some (.int x2), some (.int (x3 + (1 : Int32)))]) ⟨rfl, rfl, rfl, trivial⟩ (ih x2 (x3 + (1 : Int32)) sce14 mre14 are14 ale14 h)
      · have h := (if_neg c13).symm.trans h
        refine gl_iinc (vs2 := [some (.ref 759), none, some (.int x2), some (.int (x3 + (1 : Int32)))]) (gX_LK b) y_306_105 rfl rfl rfl ci_1 rfl rfl ?_
        refine gl_goto (gX_LK b) y_306_108 rfl ?_
        exact gl_weak (vs := [some (.ref 759), none, some (.int x2), some (.int (x3 + (1 : Int32)))]) ⟨rfl, rfl, rfl, trivial⟩ (ih x2 (x3 + (1 : Int32)) sce12 mre12 are12 ale12 h)
def xF_306_39 : Nat → Int32 → Int32 → Int32 → jSc → (Nat → Nat) → jSc → jAl → Option (Int32 × jSc × (Nat → Nat) × jSc × jAl)
  | 0, _, _, _, _, _, _, _ => none
  | nn + 1, x1, x2, x3, sc, mr, ar, al => (if x2 ≤ x3 then (o_b5 (xF_307 x2 sc mr ar al) (fun ve16 sce16 mre16 are16 ale16 => (if ve16 = 0 then some ((0 : Int32), sce16, mre16, are16, ale16) else (o_b5 (xF_307 x1 sce16 mre16 are16 ale16) (fun ve18 sce18 mre18 are18 ale18 => xF_306_85 oF x2 (x1 + (1 : Int32)) sce18 mre18 are18 ale18))))) else (o_b5 (xF_300 x3 x2 sc mr ar al) (fun ve19 sce19 mre19 are19 ale19 => (if ve19 = 0 then xF_306_39 nn x1 x2 (x3 + (1 : Int32)) sce19 mre19 are19 ale19 else (o_b5 (xF_307 x3 sce19 mre19 are19 ale19) (fun ve21 sce21 mre21 are21 ale21 => xF_306_39 nn x1 x2 (x3 + (1 : Int32)) sce21 mre21 are21 ale21))))))
set_option maxHeartbeats 4000000 in
theorem xt_306_39 {b : Bool} {rf : jRf} {d : Nat} {Post : jPo} {r9 : Int32} {sc9 : jSc} {mr9 : (Nat → Nat)} {ar9 : jSc} {al9 : jAl} (hP : Post (some (.int r9)) sc9 (x_mk mr9 rf) ar9 al9) : ∀ (nn : Nat) (x1 : Int32) (x2 : Int32) (x3 : Int32) (sc : jSc) (mr : (Nat → Nat)) (ar : jSc) (al : jAl), xF_306_39 nn x1 x2 x3 sc mr ar al = some (r9, sc9, mr9, ar9, al9) → gL (gX b) 306 (d + 6) 39 [some (.ref 759), some (.int x1), some (.int x2), some (.int x3)] [] sc (x_mk mr rf) ar al Post := by
  intro nn
  induction nn with
  | zero =>
    intro x1 x2 x3 sc mr ar al h
    have h : (none : Option (Int32 × jSc × (Nat → Nat) × jSc × jAl)) = some _ := h
    cases h
  | succ nn ih =>
    intro x1 x2 x3 sc mr ar al h
    unfold xF_306_39 at h
    refine gl_iload_n (gX_LK b) y_306_39 rfl rfl ?_
    refine gl_iload_n (gX_LK b) y_306_40 rfl rfl ?_
    refine gl_ic_ge (gX_LK b) y_306_41 rfl rfl (fun c15 => ?_) (fun c15 => ?_)
    · have h := (if_pos c15).symm.trans h
      refine gl_aload_n (gX_LK b) y_306_65 rfl rfl ?_
      refine gl_iload_n (gX_LK b) y_306_66 rfl rfl ?_
      obtain ⟨ve16, sce16, mre16, are16, ale16, e16, h⟩ := o_k5 h
      refine gl_callV (gX_LK b) y_306_67 ym_306_103 rfl rfl rfl ys_759 yx_307 rfl rfl ((xt_307 )  _ _ _ _ _ _ _ _ _ _ _ e16 ?_)
      refine gl_if_ne (gX_LK b) y_306_70 rfl rfl (fun c17 => ?_) (fun c17 => ?_)
      · have h := (if_pos c17).symm.trans h
        refine gl_iconst (gX_LK b) y_306_73 ci_0 rfl ?_
        exact gl_ireturn y_306_74 (Or.inl yt_306) (by cases h; exact hP)
      · have h := (if_neg c17).symm.trans h
        refine gl_aload_n (gX_LK b) y_306_75 rfl rfl ?_
        refine gl_iload_n (gX_LK b) y_306_76 rfl rfl ?_
        obtain ⟨ve18, sce18, mre18, are18, ale18, e18, h⟩ := o_k5 h
        refine gl_callV (gX_LK b) y_306_77 ym_306_103 rfl rfl rfl ys_759 yx_307 rfl rfl ((xt_307 )  _ _ _ _ _ _ _ _ _ _ _ e18 ?_)
        refine gl_pop (gX_LK b) y_306_80 rfl rfl ?_
        refine gl_iload_n (gX_LK b) y_306_81 rfl rfl ?_
        refine gl_iconst (gX_LK b) y_306_82 ci_1 rfl ?_
        refine gl_iadd (gX_LK b) y_306_83 rfl ?_
        refine gl_istore_n (vs2 := [some (.ref 759), some (.int x1), some (.int x2), some (.int (x1 + (1 : Int32)))]) (gX_LK b) y_306_84 rfl rfl rfl rfl ?_
        exact gl_weak (vs := [some (.ref 759), none, some (.int x2), some (.int (x1 + (1 : Int32)))]) ⟨rfl, rfl, rfl, trivial⟩ (xt_306_85  hP oF x2 (x1 + (1 : Int32)) sce18 mre18 are18 ale18 h)
    · have h := (if_neg c15).symm.trans h
      refine gl_aload_n (gX_LK b) y_306_44 rfl rfl ?_
      refine gl_iload_n (gX_LK b) y_306_45 rfl rfl ?_
      refine gl_iload_n (gX_LK b) y_306_46 rfl rfl ?_
      obtain ⟨ve19, sce19, mre19, are19, ale19, e19, h⟩ := o_k5 h
      refine gl_callV (gX_LK b) y_306_47 ym_306_86 rfl rfl rfl ys_759 yx_300 rfl rfl ((xt_300 )  _ _ _ _ _ _ _ _ _ _ _ _ e19 ?_)
      refine gl_if_eq (gX_LK b) y_306_50 rfl rfl (fun c20 => ?_) (fun c20 => ?_)
      · have h := (if_pos c20).symm.trans h
        refine gl_iinc (vs2 := [some (.ref 759), some (.int x1), some (.int x2), some (.int (x3 + (1 : Int32)))]) (gX_LK b) y_306_59 rfl rfl rfl ci_1 rfl rfl ?_
        refine gl_goto (gX_LK b) y_306_62 rfl ?_
        exact gl_weak (vs := [some (.ref 759), some (.int x1), some (.int x2), some (.int (x3 + (1 : Int32)))]) ⟨rfl, rfl, rfl, rfl, trivial⟩ (ih x1 x2 (x3 + (1 : Int32)) sce19 mre19 are19 ale19 h)
      · have h := (if_neg c20).symm.trans h
        refine gl_aload_n (gX_LK b) y_306_53 rfl rfl ?_
        refine gl_iload_n (gX_LK b) y_306_54 rfl rfl ?_
        obtain ⟨ve21, sce21, mre21, are21, ale21, e21, h⟩ := o_k5 h
        refine gl_callV (gX_LK b) y_306_55 ym_306_103 rfl rfl rfl ys_759 yx_307 rfl rfl ((xt_307 )  _ _ _ _ _ _ _ _ _ _ _ e21 ?_)
        refine gl_pop (gX_LK b) y_306_58 rfl rfl ?_
        refine gl_iinc (vs2 := [some (.ref 759), some (.int x1), some (.int x2), some (.int (x3 + (1 : Int32)))]) (gX_LK b) y_306_59 rfl rfl rfl ci_1 rfl rfl ?_
        refine gl_goto (gX_LK b) y_306_62 rfl ?_
        exact gl_weak (vs := [some (.ref 759), some (.int x1), some (.int x2), some (.int (x3 + (1 : Int32)))]) ⟨rfl, rfl, rfl, rfl, trivial⟩ (ih x1 x2 (x3 + (1 : Int32)) sce21 mre21 are21 ale21 h)
def xF_306_18 : Nat → Int32 → Int32 → Int32 → jSc → (Nat → Nat) → jSc → jAl → Option (Int32 × jSc × (Nat → Nat) × jSc × jAl)
  | 0, _, _, _, _, _, _, _ => none
  | nn + 1, x1, x2, x3, sc, mr, ar, al => (if x1 ≤ x3 then xF_306_39 oF x1 x2 (x1 + (1 : Int32)) sc mr ar al else (o_b5 (xF_307 x3 sc mr ar al) (fun ve23 sce23 mre23 are23 ale23 => xF_306_18 nn x1 x2 (x3 + (1 : Int32)) sce23 mre23 are23 ale23)))
set_option maxHeartbeats 4000000 in
theorem xt_306_18 {b : Bool} {rf : jRf} {d : Nat} {Post : jPo} {r9 : Int32} {sc9 : jSc} {mr9 : (Nat → Nat)} {ar9 : jSc} {al9 : jAl} (hP : Post (some (.int r9)) sc9 (x_mk mr9 rf) ar9 al9) : ∀ (nn : Nat) (x1 : Int32) (x2 : Int32) (x3 : Int32) (sc : jSc) (mr : (Nat → Nat)) (ar : jSc) (al : jAl), xF_306_18 nn x1 x2 x3 sc mr ar al = some (r9, sc9, mr9, ar9, al9) → gL (gX b) 306 (d + 6) 18 [some (.ref 759), some (.int x1), some (.int x2), some (.int x3)] [] sc (x_mk mr rf) ar al Post := by
  intro nn
  induction nn with
  | zero =>
    intro x1 x2 x3 sc mr ar al h
    have h : (none : Option (Int32 × jSc × (Nat → Nat) × jSc × jAl)) = some _ := h
    cases h
  | succ nn ih =>
    intro x1 x2 x3 sc mr ar al h
    unfold xF_306_18 at h
    refine gl_iload_n (gX_LK b) y_306_18 rfl rfl ?_
    refine gl_iload_n (gX_LK b) y_306_19 rfl rfl ?_
    refine gl_ic_ge (gX_LK b) y_306_20 rfl rfl (fun c22 => ?_) (fun c22 => ?_)
    · have h := (if_pos c22).symm.trans h
      refine gl_iload_n (gX_LK b) y_306_35 rfl rfl ?_
      refine gl_iconst (gX_LK b) y_306_36 ci_1 rfl ?_
      refine gl_iadd (gX_LK b) y_306_37 rfl ?_
      refine gl_istore_n (vs2 := [some (.ref 759), some (.int x1), some (.int x2), some (.int (x1 + (1 : Int32)))]) (gX_LK b) y_306_38 rfl rfl rfl rfl ?_
      exact gl_weak (vs := [some (.ref 759), some (.int x1), some (.int x2), some (.int (x1 + (1 : Int32)))]) ⟨rfl, rfl, rfl, rfl, trivial⟩ (xt_306_39  hP oF x1 x2 (x1 + (1 : Int32)) sc mr ar al h)
    · have h := (if_neg c22).symm.trans h
      refine gl_aload_n (gX_LK b) y_306_23 rfl rfl ?_
      refine gl_iload_n (gX_LK b) y_306_24 rfl rfl ?_
      obtain ⟨ve23, sce23, mre23, are23, ale23, e23, h⟩ := o_k5 h
      refine gl_callV (gX_LK b) y_306_25 ym_306_103 rfl rfl rfl ys_759 yx_307 rfl rfl ((xt_307 )  _ _ _ _ _ _ _ _ _ _ _ e23 ?_)
      refine gl_pop (gX_LK b) y_306_28 rfl rfl ?_
      refine gl_iinc (vs2 := [some (.ref 759), some (.int x1), some (.int x2), some (.int (x3 + (1 : Int32)))]) (gX_LK b) y_306_29 rfl rfl rfl ci_1 rfl rfl ?_
      refine gl_goto (gX_LK b) y_306_32 rfl ?_
      exact gl_weak (vs := [some (.ref 759), some (.int x1), some (.int x2), some (.int (x3 + (1 : Int32)))]) ⟨rfl, rfl, rfl, rfl, trivial⟩ (ih x1 x2 (x3 + (1 : Int32)) sce23 mre23 are23 ale23 h)
def xF_306 (x1 : Int32) (x2 : Int32) (sc : jSc) (mr : (Nat → Nat)) (ar : jSc) (al : jAl) : Option (Int32 × jSc × (Nat → Nat) × jSc × jAl) :=
  (o_b4 (xF_207 766 sc mr ar al) (fun sce24 mre24 are24 ale24 => xF_306_18 oF x1 x2 (0 : Int32) (j_u2 sce24 759 12 (0 : Int32)) mre24 are24 ale24))
set_option maxHeartbeats 4000000 in
theorem xt_306 {b : Bool} {rf : jRf} {d : Nat} : xT_306 b rf xF_306 (d + 6) := by
  intro  Post x1 x2 sc mr ar al r9 sc9 mr9 ar9 al9 h hP
  unfold xF_306 at h
  refine gl_entry (m := 1) rfl ?_
  show gL (gX b) 306 (d + 6) 0 [some (.ref 759), some (.int x1), some (.int x2), none] [] sc (x_mk mr rf) ar al Post
  refine gl_aload_n (gX_LK b) y_306_0 rfl rfl ?_
  refine gl_getA (gX_LK b) y_306_1 yf_306_61 ys_759 rfl rfl rfl rfl ?_
  refine gl_aload_n (gX_LK b) y_306_4 rfl rfl ?_
  refine gl_getA (gX_LK b) y_306_5 yf_306_35 ys_759 rfl rfl rfl rfl ?_
  obtain ⟨sce24, mre24, are24, ale24, e24, h⟩ := o_k4 h
  refine gl_callV (gX_LK b) y_306_8 ym_306_65 rfl rfl rfl ys_757 yx_207 rfl rfl ((xt_207 )  _ _ (show x_pg 766 = true from rfl) _ _ _ _ _ _ _ _ e24 ?_)
  refine gl_aload_n (gX_LK b) y_306_11 rfl rfl ?_
  refine gl_iconst (gX_LK b) y_306_12 ci_0 rfl ?_
  refine gl_put (sc' := (j_u2 sce24 759 12 (0 : Int32))) (gX_LK b) y_306_13 yf_306_51 ys_759 rfl rfl rfl rfl rfl ?_
  refine gl_iconst (gX_LK b) y_306_16 ci_0 rfl ?_
  refine gl_istore_n (vs2 := [some (.ref 759), some (.int x1), some (.int x2), some (.int (0 : Int32))]) (gX_LK b) y_306_17 rfl rfl rfl rfl ?_
  exact gl_weak (vs := [some (.ref 759), some (.int x1), some (.int x2), some (.int (0 : Int32))]) ⟨rfl, rfl, rfl, rfl, trivial⟩ (xt_306_18  hP oF x1 x2 (0 : Int32) (j_u2 sce24 759 12 (0 : Int32)) mre24 are24 ale24 h)
