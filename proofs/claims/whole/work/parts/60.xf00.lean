/-! ClickOrders: its methods as functions, and that the machine does what they say. -/
/-- ClickOrders$Forms.adds(IIII)I -/
def xT_200 (b : Bool) (rf : jRf) (F : Int32 → Int32 → Int32 → Int32 → jSc → (Nat → Nat) → jSc → jAl → Option (Int32 × jSc × (Nat → Nat) × jSc × jAl)) (e : Nat) : Prop := ∀  (Post : jPo) (x1 : Int32) (x2 : Int32) (x3 : Int32) (x4 : Int32) (sc : jSc) (mr : (Nat → Nat)) (ar : jSc) (al : jAl) (r9 : Int32) (sc9 : jSc) (mr9 : (Nat → Nat)) (ar9 : jSc) (al9 : jAl), F x1 x2 x3 x4 sc mr ar al = some (r9, sc9, mr9, ar9, al9) → Post (some (.int r9)) sc9 (x_mk mr9 rf) ar9 al9 → gW (gX b) 200 e 0 (j_av [.ref 736, .int x1, .int x2, .int x3, .int x4]) [] sc (x_mk mr rf) ar al Post
def xF_200_38 (x3 : Int32) (x4 : Int32) (y0 : Int32) (y1 : Int32) (sc : jSc) (mr : (Nat → Nat)) (ar : jSc) (al : jAl) : Option (Int32 × jSc × (Nat → Nat) × jSc × jAl) :=
  (if iB y1 6 then (if iB (sc 736 5) 6 then (if iB (sc 736 5) 6 then some ((((sc 736 5) + (1 : Int32)) - (1 : Int32)), (j_u2 sc 736 5 ((sc 736 5) + (1 : Int32))), mr, (j_u2 (j_u2 (j_u2 ar 738 (iN y1) y0) 739 (iN (sc 736 5)) x3) 740 (iN (sc 736 5)) x4), al) else none) else none) else none)
set_option maxHeartbeats 4000000 in
theorem xt_200_38 {b : Bool} {rf : jRf} {d : Nat} {Post : jPo} {r9 : Int32} {sc9 : jSc} {mr9 : (Nat → Nat)} {ar9 : jSc} {al9 : jAl} (hP : Post (some (.int r9)) sc9 (x_mk mr9 rf) ar9 al9) (x3 : Int32) (x4 : Int32) (y0 : Int32) (y1 : Int32) (sc : jSc) (mr : (Nat → Nat)) (ar : jSc) (al : jAl) (h : xF_200_38 x3 x4 y0 y1 sc mr ar al = some (r9, sc9, mr9, ar9, al9)) : gL (gX b) 200 (d + 1) 38 [some (.ref 736), none, none, some (.int x3), some (.int x4)] [.int y0, .int y1, .ref 738] sc (x_mk mr rf) ar al Post := by
  unfold xF_200_38 at h
  obtain ⟨c1, h⟩ := o_ck h
  refine gl_iastore (ar2 := (j_u2 ar 738 (iN y1) y0)) (gX_LK b) y_200_38 ys_738 c1 rfl rfl ?_
  refine gl_aload_n (gX_LK b) y_200_39 rfl rfl ?_
  refine gl_getA (gX_LK b) y_200_40 yf_200_18 ys_736 rfl rfl rfl rfl ?_
  refine gl_aload_n (gX_LK b) y_200_43 rfl rfl ?_
  refine gl_get (gX_LK b) y_200_44 yf_200_27 ys_736 rfl rfl rfl rfl ?_
  refine gl_iload_n (gX_LK b) y_200_47 rfl rfl ?_
  obtain ⟨c2, h⟩ := o_ck h
  refine gl_iastore (ar2 := (j_u2 (j_u2 ar 738 (iN y1) y0) 739 (iN (sc 736 5)) x3)) (gX_LK b) y_200_48 ys_739 c2 rfl rfl ?_
  refine gl_aload_n (gX_LK b) y_200_49 rfl rfl ?_
  refine gl_getA (gX_LK b) y_200_50 yf_200_21 ys_736 rfl rfl rfl rfl ?_
  refine gl_aload_n (gX_LK b) y_200_53 rfl rfl ?_
  refine gl_get (gX_LK b) y_200_54 yf_200_27 ys_736 rfl rfl rfl rfl ?_
  refine gl_iload (gX_LK b) y_200_57 rfl rfl ?_
  obtain ⟨c3, h⟩ := o_ck h
  refine gl_iastore (ar2 := (j_u2 (j_u2 (j_u2 ar 738 (iN y1) y0) 739 (iN (sc 736 5)) x3) 740 (iN (sc 736 5)) x4)) (gX_LK b) y_200_59 ys_740 c3 rfl rfl ?_
  refine gl_aload_n (gX_LK b) y_200_60 rfl rfl ?_
  refine gl_dup (gX_LK b) y_200_61 rfl rfl ?_
  refine gl_get (gX_LK b) y_200_62 yf_200_27 ys_736 rfl rfl rfl rfl ?_
  refine gl_iconst (gX_LK b) y_200_65 ci_1 rfl ?_
  refine gl_iadd (gX_LK b) y_200_66 rfl ?_
  refine gl_put (sc' := (j_u2 sc 736 5 ((sc 736 5) + (1 : Int32)))) (gX_LK b) y_200_67 yf_200_27 ys_736 rfl rfl rfl rfl rfl ?_
  refine gl_aload_n (gX_LK b) y_200_70 rfl rfl ?_
  refine gl_get (gX_LK b) y_200_71 yf_200_27 ys_736 rfl rfl rfl rfl ?_
  refine gl_iconst (gX_LK b) y_200_74 ci_1 rfl ?_
  refine gl_isub (gX_LK b) y_200_75 rfl ?_
  exact gl_ireturn y_200_76 (Or.inl yt_200) (by cases h; exact hP)
def xF_200 (x1 : Int32) (x2 : Int32) (x3 : Int32) (x4 : Int32) (sc : jSc) (mr : (Nat → Nat)) (ar : jSc) (al : jAl) : Option (Int32 × jSc × (Nat → Nat) × jSc × jAl) :=
  (if (sc 736 5) < (6 : Int32) then (if iB (sc 736 5) 6 then (if x1 = 0 then xF_200_38 x3 x4 x2 (sc 736 5) sc mr (j_u2 ar 737 (iN (sc 736 5)) x1) al else xF_200_38 x3 x4 (0 : Int32) (sc 736 5) sc mr (j_u2 ar 737 (iN (sc 736 5)) x1) al) else none) else some ((-1 : Int32), sc, mr, ar, al))
set_option maxHeartbeats 4000000 in
theorem xt_200 {b : Bool} {rf : jRf} {d : Nat} : xT_200 b rf xF_200 (d + 1) := by
  intro  Post x1 x2 x3 x4 sc mr ar al r9 sc9 mr9 ar9 al9 h hP
  unfold xF_200 at h
  refine gl_entry (m := 0) rfl ?_
  show gL (gX b) 200 (d + 1) 0 [some (.ref 736), some (.int x1), some (.int x2), some (.int x3), some (.int x4)] [] sc (x_mk mr rf) ar al Post
  refine gl_aload_n (gX_LK b) y_200_0 rfl rfl ?_
  refine gl_get (gX_LK b) y_200_1 yf_200_27 ys_736 rfl rfl rfl rfl ?_
  refine gl_bipush (gX_LK b) y_200_4 cb_6 rfl ?_
  refine gl_ic_lt (gX_LK b) y_200_6 rfl rfl (fun c4 => ?_) (fun c4 => ?_)
  · have h := (if_pos c4).symm.trans h
    refine gl_aload_n (gX_LK b) y_200_11 rfl rfl ?_
    refine gl_getA (gX_LK b) y_200_12 yf_200_11 ys_736 rfl rfl rfl rfl ?_
    refine gl_aload_n (gX_LK b) y_200_15 rfl rfl ?_
    refine gl_get (gX_LK b) y_200_16 yf_200_27 ys_736 rfl rfl rfl rfl ?_
    refine gl_iload_n (gX_LK b) y_200_19 rfl rfl ?_
    obtain ⟨c5, h⟩ := o_ck h
    refine gl_iastore (ar2 := (j_u2 ar 737 (iN (sc 736 5)) x1)) (gX_LK b) y_200_20 ys_737 c5 rfl rfl ?_
    refine gl_aload_n (gX_LK b) y_200_21 rfl rfl ?_
    refine gl_getA (gX_LK b) y_200_22 yf_200_15 ys_736 rfl rfl rfl rfl ?_
    refine gl_aload_n (gX_LK b) y_200_25 rfl rfl ?_
    refine gl_get (gX_LK b) y_200_26 yf_200_27 ys_736 rfl rfl rfl rfl ?_
    refine gl_iload_n (gX_LK b) y_200_29 rfl rfl ?_
    refine gl_if_ne (gX_LK b) y_200_30 rfl rfl (fun c6 => ?_) (fun c6 => ?_)
    · have h := (if_pos c6).symm.trans h
      refine gl_iload_n (gX_LK b) y_200_33 rfl rfl ?_
      refine gl_goto (gX_LK b) y_200_34 rfl ?_
      exact gl_weak (vs := [some (.ref 736), none, none, some (.int x3), some (.int x4)]) ⟨rfl, rfl, rfl, trivial⟩ (xt_200_38  hP x3 x4 x2 (sc 736 5) sc mr (j_u2 ar 737 (iN (sc 736 5)) x1) al h)
    · have h := (if_neg c6).symm.trans h
      refine gl_iconst (gX_LK b) y_200_37 ci_0 rfl ?_
      exact gl_weak (vs := [some (.ref 736), none, none, some (.int x3), some (.int x4)]) ⟨rfl, rfl, rfl, trivial⟩ (xt_200_38  hP x3 x4 (0 : Int32) (sc 736 5) sc mr (j_u2 ar 737 (iN (sc 736 5)) x1) al h)
  · have h := (if_neg c4).symm.trans h
    refine gl_iconst (gX_LK b) y_200_9 ci_m1 rfl ?_
    exact gl_ireturn y_200_10 (Or.inl yt_200) (by cases h; exact hP)
/-- java/util/Arrays.fill([II)V -/
def xT_503 (b : Bool) (rf : jRf) (F : Nat → Nat → Int32 → jSc → (Nat → Nat) → jSc → jAl → Option (jSc × (Nat → Nat) × jSc × jAl)) (e : Nat) : Prop := ∀  (Post : jPo) (p1 : Nat) (n1 : Nat) (x2 : Int32) (hp1 : (g_L (gX b)).1 p1 = .inr (0, n1)) (sc : jSc) (mr : (Nat → Nat)) (ar : jSc) (al : jAl) (sc9 : jSc) (mr9 : (Nat → Nat)) (ar9 : jSc) (al9 : jAl), F p1 n1 x2 sc mr ar al = some (sc9, mr9, ar9, al9) → Post none sc9 (x_mk mr9 rf) ar9 al9 → gW (gX b) 503 e 0 (j_av [.ref p1, .int x2]) [] sc (x_mk mr rf) ar al Post
def xF_503_5 : Nat → Nat → Nat → Int32 → Int32 → Int32 → jSc → (Nat → Nat) → jSc → jAl → Option (jSc × (Nat → Nat) × jSc × jAl)
  | 0, _, _, _, _, _, _, _, _, _ => none
  | nn + 1, p0, n0, x1, x2, x3, sc, mr, ar, al => (if x3 ≤ x2 then some (sc, mr, ar, al) else (if iB x2 n0 then xF_503_5 nn p0 n0 x1 (x2 + (1 : Int32)) x3 sc mr (j_u2 ar p0 (iN x2) x1) al else none))
set_option maxHeartbeats 4000000 in
theorem xt_503_5 {b : Bool} {rf : jRf} {d : Nat} {Post : jPo} {sc9 : jSc} {mr9 : (Nat → Nat)} {ar9 : jSc} {al9 : jAl} (hP : Post none sc9 (x_mk mr9 rf) ar9 al9) : ∀ (nn : Nat) (p0 : Nat) (n0 : Nat) (x1 : Int32) (x2 : Int32) (x3 : Int32) (sc : jSc) (mr : (Nat → Nat)) (ar : jSc) (al : jAl), (g_L (gX b)).1 p0 = .inr (0, n0) → xF_503_5 nn p0 n0 x1 x2 x3 sc mr ar al = some (sc9, mr9, ar9, al9) → gL (gX b) 503 (d + 1) 5 [some (.ref p0), some (.int x1), some (.int x2), some (.int x3)] [] sc (x_mk mr rf) ar al Post := by
  intro nn
  induction nn with
  | zero =>
    intro p0 n0 x1 x2 x3 sc mr ar al hp0 h
    have h : (none : Option (jSc × (Nat → Nat) × jSc × jAl)) = some _ := h
    cases h
  | succ nn ih =>
    intro p0 n0 x1 x2 x3 sc mr ar al hp0 h
    unfold xF_503_5 at h
    refine gl_iload_n (gX_LK b) y_503_5 rfl rfl ?_
    refine gl_iload_n (gX_LK b) y_503_6 rfl rfl ?_
    refine gl_ic_ge (gX_LK b) y_503_7 rfl rfl (fun c1 => ?_) (fun c1 => ?_)
    · have h := (if_pos c1).symm.trans h
      exact gl_return y_503_20 yt_503 (by cases h; exact hP)
    · have h := (if_neg c1).symm.trans h
      refine gl_aload_n (gX_LK b) y_503_10 rfl rfl ?_
      refine gl_iload_n (gX_LK b) y_503_11 rfl rfl ?_
      refine gl_iload_n (gX_LK b) y_503_12 rfl rfl ?_
      obtain ⟨c2, h⟩ := o_ck h
      refine gl_iastore (ar2 := (j_u2 ar p0 (iN x2) x1)) (gX_LK b) y_503_13 hp0 c2 rfl rfl ?_
      refine gl_iinc (vs2 := [some (.ref p0), some (.int x1), some (.int (x2 + (1 : Int32))), some (.int x3)]) (gX_LK b) y_503_14 rfl rfl rfl ci_1 rfl rfl ?_
      refine gl_goto (gX_LK b) y_503_17 rfl ?_
      exact gl_weak (vs := [some (.ref p0), some (.int x1), some (.int (x2 + (1 : Int32))), some (.int x3)]) ⟨rfl, rfl, rfl, rfl, trivial⟩ (ih p0 n0 x1 (x2 + (1 : Int32)) x3 sc mr (j_u2 ar p0 (iN x2) x1) al hp0 h)
def xF_503 (p1 : Nat) (n1 : Nat) (x2 : Int32) (sc : jSc) (mr : (Nat → Nat)) (ar : jSc) (al : jAl) : Option (jSc × (Nat → Nat) × jSc × jAl) :=
  xF_503_5 oF p1 n1 x2 (0 : Int32) (Int32.ofNat n1) sc mr ar al
set_option maxHeartbeats 4000000 in
theorem xt_503 {b : Bool} {rf : jRf} {d : Nat} : xT_503 b rf xF_503 (d + 1) := by
  intro  Post p1 n1 x2 hp1 sc mr ar al sc9 mr9 ar9 al9 h hP
  unfold xF_503 at h
  refine gl_entry (m := 2) rfl ?_
  show gL (gX b) 503 (d + 1) 0 [some (.ref p1), some (.int x2), none, none] [] sc (x_mk mr rf) ar al Post
  refine gl_iconst (gX_LK b) y_503_0 ci_0 rfl ?_
  refine gl_istore_n (vs2 := [some (.ref p1), some (.int x2), some (.int (0 : Int32)), none]) (gX_LK b) y_503_1 rfl rfl rfl rfl ?_
  refine gl_aload_n (gX_LK b) y_503_2 rfl rfl ?_
  refine gl_arraylength (gX_LK b) y_503_3 hp1 (Or.inl (by decide)) rfl ?_
  refine gl_istore_n (vs2 := [some (.ref p1), some (.int x2), some (.int (0 : Int32)), some (.int (Int32.ofNat n1))]) (gX_LK b) y_503_4 rfl rfl rfl rfl ?_
  exact gl_weak (vs := [some (.ref p1), some (.int x2), some (.int (0 : Int32)), some (.int (Int32.ofNat n1))]) ⟨rfl, rfl, rfl, rfl, trivial⟩ (xt_503_5  hP oF p1 n1 x2 (0 : Int32) (Int32.ofNat n1) sc mr ar al hp1 h)
/-- ClickOrders$Forms.turns(I)V -/
def xT_201 (b : Bool) (rf : jRf) (F : Int32 → jSc → (Nat → Nat) → jSc → jAl → Option (jSc × (Nat → Nat) × jSc × jAl)) (e : Nat) : Prop := ∀  (Post : jPo) (x1 : Int32) (sc : jSc) (mr : (Nat → Nat)) (ar : jSc) (al : jAl) (sc9 : jSc) (mr9 : (Nat → Nat)) (ar9 : jSc) (al9 : jAl), F x1 sc mr ar al = some (sc9, mr9, ar9, al9) → Post none sc9 (x_mk mr9 rf) ar9 al9 → gW (gX b) 201 e 0 (j_av [.ref 736, .int x1]) [] sc (x_mk mr rf) ar al Post
def xF_201_25 : Nat → Int32 → Int32 → jSc → (Nat → Nat) → jSc → jAl → Option (jSc × (Nat → Nat) × jSc × jAl)
  | 0, _, _, _, _, _, _ => none
  | nn + 1, x1, x2, sc, mr, ar, al => (if (sc 736 5) ≤ x2 then some (sc, mr, ar, al) else (if ((x1 >>> (x2 &&& 31)) &&& (1 : Int32)) = 0 then xF_201_25 nn x1 (x2 + (1 : Int32)) sc mr ar al else (if iB x2 6 then (if iB x2 6 then (if (ar 737 (iN x2)) = 0 then (if iB x2 6 then (if iB (ar 738 (iN x2)) 8 then (if iB (ar 738 (iN x2)) 8 then xF_201_25 nn x1 (x2 + (1 : Int32)) sc mr (j_u2 ar 741 (iN (ar 738 (iN x2))) ((ar 741 (iN (ar 738 (iN x2)))) ||| ((1 : Int32) <<< ((ar 739 (iN x2)) &&& 31)))) al else none) else none) else none) else (if iB x2 6 then (if (ar 737 (iN x2)) = (1 : Int32) then xF_201_25 nn x1 (x2 + (1 : Int32)) (j_u2 sc 736 7 ((sc 736 7) ||| ((1 : Int32) <<< ((ar 739 (iN x2)) &&& 31)))) mr ar al else xF_201_25 nn x1 (x2 + (1 : Int32)) (j_u2 sc 736 8 ((sc 736 8) ||| ((1 : Int32) <<< ((ar 739 (iN x2)) &&& 31)))) mr ar al) else none)) else none) else none)))
set_option maxHeartbeats 4000000 in
theorem xt_201_25 {b : Bool} {rf : jRf} {d : Nat} {Post : jPo} {sc9 : jSc} {mr9 : (Nat → Nat)} {ar9 : jSc} {al9 : jAl} (hP : Post none sc9 (x_mk mr9 rf) ar9 al9) : ∀ (nn : Nat) (x1 : Int32) (x2 : Int32) (sc : jSc) (mr : (Nat → Nat)) (ar : jSc) (al : jAl), xF_201_25 nn x1 x2 sc mr ar al = some (sc9, mr9, ar9, al9) → gL (gX b) 201 (d + 2) 25 [some (.ref 736), some (.int x1), some (.int x2), none] [] sc (x_mk mr rf) ar al Post := by
  intro nn
  induction nn with
  | zero =>
    intro x1 x2 sc mr ar al h
    have h : (none : Option (jSc × (Nat → Nat) × jSc × jAl)) = some _ := h
    cases h
  | succ nn ih =>
    intro x1 x2 sc mr ar al h
    unfold xF_201_25 at h
    refine gl_iload_n (gX_LK b) y_201_25 rfl rfl ?_
    refine gl_aload_n (gX_LK b) y_201_26 rfl rfl ?_
    refine gl_get (gX_LK b) y_201_27 yf_201_27 ys_736 rfl rfl rfl rfl ?_
    refine gl_ic_ge (gX_LK b) y_201_30 rfl rfl (fun c1 => ?_) (fun c1 => ?_)
    · have h := (if_pos c1).symm.trans h
      exact gl_return y_201_119 yt_201 (by cases h; exact hP)
    · have h := (if_neg c1).symm.trans h
      refine gl_iload_n (gX_LK b) y_201_33 rfl rfl ?_
      refine gl_iload_n (gX_LK b) y_201_34 rfl rfl ?_
      refine gl_ishr (gX_LK b) y_201_35 rfl ?_
      refine gl_iconst (gX_LK b) y_201_36 ci_1 rfl ?_
      refine gl_iand (gX_LK b) y_201_37 rfl ?_
      refine gl_if_ne (gX_LK b) y_201_38 rfl rfl (fun c2 => ?_) (fun c2 => ?_)
      · have h := (if_pos c2).symm.trans h
        refine gl_goto (gX_LK b) y_201_41 rfl ?_
        refine gl_iinc (vs2 := [some (.ref 736), some (.int x1), some (.int (x2 + (1 : Int32))), none]) (gX_LK b) y_201_113 rfl rfl rfl ci_1 rfl rfl ?_
        refine gl_goto (gX_LK b) y_201_116 rfl ?_
        exact gl_weak (vs := [some (.ref 736), some (.int x1), some (.int (x2 + (1 : Int32))), none]) ⟨rfl, rfl, rfl, trivial⟩ (ih x1 (x2 + (1 : Int32)) sc mr ar al h)
      · have h := (if_neg c2).symm.trans h
        refine gl_iconst (gX_LK b) y_201_44 ci_1 rfl ?_
        refine gl_aload_n (gX_LK b) y_201_45 rfl rfl ?_
        refine gl_getA (gX_LK b) y_201_46 yf_201_18 ys_736 rfl rfl rfl rfl ?_
        refine gl_iload_n (gX_LK b) y_201_49 rfl rfl ?_
        obtain ⟨c3, h⟩ := o_ck h
        refine gl_iaload (gX_LK b) y_201_50 ys_739 c3 rfl rfl ?_
        refine gl_ishl (gX_LK b) y_201_51 rfl ?_
        refine gl_istore_n (vs2 := [some (.ref 736), some (.int x1), some (.int x2), some (.int ((1 : Int32) <<< ((ar 739 (iN x2)) &&& 31)))]) (gX_LK b) y_201_52 rfl rfl rfl rfl ?_
        refine gl_aload_n (gX_LK b) y_201_53 rfl rfl ?_
        refine gl_getA (gX_LK b) y_201_54 yf_201_11 ys_736 rfl rfl rfl rfl ?_
        refine gl_iload_n (gX_LK b) y_201_57 rfl rfl ?_
        obtain ⟨c4, h⟩ := o_ck h
        refine gl_iaload (gX_LK b) y_201_58 ys_737 c4 rfl rfl ?_
        refine gl_if_ne (gX_LK b) y_201_59 rfl rfl (fun c5 => ?_) (fun c5 => ?_)
        · have h := (if_pos c5).symm.trans h
          refine gl_aload_n (gX_LK b) y_201_62 rfl rfl ?_
          refine gl_getA (gX_LK b) y_201_63 yf_201_24 ys_736 rfl rfl rfl rfl ?_
          refine gl_aload_n (gX_LK b) y_201_66 rfl rfl ?_
          refine gl_getA (gX_LK b) y_201_67 yf_201_15 ys_736 rfl rfl rfl rfl ?_
          refine gl_iload_n (gX_LK b) y_201_70 rfl rfl ?_
          obtain ⟨c6, h⟩ := o_ck h
          refine gl_iaload (gX_LK b) y_201_71 ys_738 c6 rfl rfl ?_
          refine gl_dup2 (gX_LK b) y_201_72 rfl rfl rfl ?_
          obtain ⟨c7, h⟩ := o_ck h
          refine gl_iaload (gX_LK b) y_201_73 ys_741 c7 rfl rfl ?_
          refine gl_iload_n (gX_LK b) y_201_74 rfl rfl ?_
          refine gl_ior (gX_LK b) y_201_75 rfl ?_
          obtain ⟨c8, h⟩ := o_ck h
          refine gl_iastore (ar2 := (j_u2 ar 741 (iN (ar 738 (iN x2))) ((ar 741 (iN (ar 738 (iN x2)))) ||| ((1 : Int32) <<< ((ar 739 (iN x2)) &&& 31))))) (gX_LK b) y_201_76 ys_741 c8 rfl rfl ?_
          refine gl_goto (gX_LK b) y_201_77 rfl ?_
          refine gl_iinc (vs2 := [some (.ref 736), some (.int x1), some (.int (x2 + (1 : Int32))), some (.int ((1 : Int32) <<< ((ar 739 (iN x2)) &&& 31)))]) (gX_LK b) y_201_113 rfl rfl rfl ci_1 rfl rfl ?_
          refine gl_goto (gX_LK b) y_201_116 rfl ?_
          exact gl_weak (vs := [some (.ref 736), some (.int x1), some (.int (x2 + (1 : Int32))), none]) ⟨rfl, rfl, rfl, trivial⟩ (ih x1 (x2 + (1 : Int32)) sc mr (j_u2 ar 741 (iN (ar 738 (iN x2))) ((ar 741 (iN (ar 738 (iN x2)))) ||| ((1 : Int32) <<< ((ar 739 (iN x2)) &&& 31)))) al h)
        · have h := (if_neg c5).symm.trans h
          refine gl_aload_n (gX_LK b) y_201_80 rfl rfl ?_
          refine gl_getA (gX_LK b) y_201_81 yf_201_11 ys_736 rfl rfl rfl rfl ?_
          refine gl_iload_n (gX_LK b) y_201_84 rfl rfl ?_
          obtain ⟨c9, h⟩ := o_ck h
          refine gl_iaload (gX_LK b) y_201_85 ys_737 c9 rfl rfl ?_
          refine gl_iconst (gX_LK b) y_201_86 ci_1 rfl ?_
          refine gl_ic_ne (gX_LK b) y_201_87 rfl rfl (fun c10 => ?_) (fun c10 => ?_)
          · have h := (if_pos c10).symm.trans h
            refine gl_aload_n (gX_LK b) y_201_90 rfl rfl ?_
            refine gl_dup (gX_LK b) y_201_91 rfl rfl ?_
            refine gl_get (gX_LK b) y_201_92 yf_201_34 ys_736 rfl rfl rfl rfl ?_
            refine gl_iload_n (gX_LK b) y_201_95 rfl rfl ?_
            refine gl_ior (gX_LK b) y_201_96 rfl ?_
            refine gl_put (sc' := (j_u2 sc 736 7 ((sc 736 7) ||| ((1 : Int32) <<< ((ar 739 (iN x2)) &&& 31))))) (gX_LK b) y_201_97 yf_201_34 ys_736 rfl rfl rfl rfl rfl ?_
            refine gl_goto (gX_LK b) y_201_100 rfl ?_
            refine gl_iinc (vs2 := [some (.ref 736), some (.int x1), some (.int (x2 + (1 : Int32))), some (.int ((1 : Int32) <<< ((ar 739 (iN x2)) &&& 31)))]) (gX_LK b) y_201_113 rfl rfl rfl ci_1 rfl rfl ?_
            refine gl_goto (gX_LK b) y_201_116 rfl ?_
            exact gl_weak (vs := [some (.ref 736), some (.int x1), some (.int (x2 + (1 : Int32))), none]) ⟨rfl, rfl, rfl, trivial⟩ (ih x1 (x2 + (1 : Int32)) (j_u2 sc 736 7 ((sc 736 7) ||| ((1 : Int32) <<< ((ar 739 (iN x2)) &&& 31)))) mr ar al h)
          · have h := (if_neg c10).symm.trans h
            refine gl_aload_n (gX_LK b) y_201_103 rfl rfl ?_
            refine gl_dup (gX_LK b) y_201_104 rfl rfl ?_
            refine gl_get (gX_LK b) y_201_105 yf_201_37 ys_736 rfl rfl rfl rfl ?_
            refine gl_iload_n (gX_LK b) y_201_108 rfl rfl ?_
            refine gl_ior (gX_LK b) y_201_109 rfl ?_
            refine gl_put (sc' := (j_u2 sc 736 8 ((sc 736 8) ||| ((1 : Int32) <<< ((ar 739 (iN x2)) &&& 31))))) (gX_LK b) y_201_110 yf_201_37 ys_736 rfl rfl rfl rfl rfl ?_
            refine gl_iinc (vs2 := [some (.ref 736), some (.int x1), some (.int (x2 + (1 : Int32))), some (.int ((1 : Int32) <<< ((ar 739 (iN x2)) &&& 31)))]) (gX_LK b) y_201_113 rfl rfl rfl ci_1 rfl rfl ?_
            refine gl_goto (gX_LK b) y_201_116 rfl ?_
            exact gl_weak (vs := [some (.ref 736), some (.int x1), some (.int (x2 + (1 : Int32))), none]) ⟨rfl, rfl, rfl, trivial⟩ (ih x1 (x2 + (1 : Int32)) (j_u2 sc 736 8 ((sc 736 8) ||| ((1 : Int32) <<< ((ar 739 (iN x2)) &&& 31)))) mr ar al h)
def xF_201 (x1 : Int32) (sc : jSc) (mr : (Nat → Nat)) (ar : jSc) (al : jAl) : Option (jSc × (Nat → Nat) × jSc × jAl) :=
  (o_b4 (xF_503 741 8 (0 : Int32) (j_u2 (j_u2 (j_u2 sc 736 6 x1) 736 7 (0 : Int32)) 736 8 (0 : Int32)) mr ar al) (fun sce11 mre11 are11 ale11 => xF_201_25 oF x1 (0 : Int32) sce11 mre11 are11 ale11))
set_option maxHeartbeats 4000000 in
theorem xt_201 {b : Bool} {rf : jRf} {d : Nat} : xT_201 b rf xF_201 (d + 2) := by
  intro  Post x1 sc mr ar al sc9 mr9 ar9 al9 h hP
  unfold xF_201 at h
  refine gl_entry (m := 2) rfl ?_
  show gL (gX b) 201 (d + 2) 0 [some (.ref 736), some (.int x1), none, none] [] sc (x_mk mr rf) ar al Post
  refine gl_aload_n (gX_LK b) y_201_0 rfl rfl ?_
  refine gl_iload_n (gX_LK b) y_201_1 rfl rfl ?_
  refine gl_put (sc' := (j_u2 sc 736 6 x1)) (gX_LK b) y_201_2 yf_201_31 ys_736 rfl rfl rfl rfl rfl ?_
  refine gl_aload_n (gX_LK b) y_201_5 rfl rfl ?_
  refine gl_iconst (gX_LK b) y_201_6 ci_0 rfl ?_
  refine gl_put (sc' := (j_u2 (j_u2 sc 736 6 x1) 736 7 (0 : Int32))) (gX_LK b) y_201_7 yf_201_34 ys_736 rfl rfl rfl rfl rfl ?_
  refine gl_aload_n (gX_LK b) y_201_10 rfl rfl ?_
  refine gl_iconst (gX_LK b) y_201_11 ci_0 rfl ?_
  refine gl_put (sc' := (j_u2 (j_u2 (j_u2 sc 736 6 x1) 736 7 (0 : Int32)) 736 8 (0 : Int32))) (gX_LK b) y_201_12 yf_201_37 ys_736 rfl rfl rfl rfl rfl ?_
  refine gl_aload_n (gX_LK b) y_201_15 rfl rfl ?_
  refine gl_getA (gX_LK b) y_201_16 yf_201_24 ys_736 rfl rfl rfl rfl ?_
  refine gl_iconst (gX_LK b) y_201_19 ci_0 rfl ?_
  obtain ⟨sce11, mre11, are11, ale11, e11, h⟩ := o_k4 h
  refine gl_callS y_201_20 ym_201_50 rfl rfl rfl yx_503 rfl rfl ((xt_503 )  _ _ _ _ ys_741 _ _ _ _ _ _ _ _ e11 ?_)
  refine gl_iconst (gX_LK b) y_201_23 ci_0 rfl ?_
  refine gl_istore_n (vs2 := [some (.ref 736), some (.int x1), some (.int (0 : Int32)), none]) (gX_LK b) y_201_24 rfl rfl rfl rfl ?_
  exact gl_weak (vs := [some (.ref 736), some (.int x1), some (.int (0 : Int32)), none]) ⟨rfl, rfl, rfl, trivial⟩ (xt_201_25  hP oF x1 (0 : Int32) sce11 mre11 are11 ale11 h)
/-- ClickOrders$Forms.priceOf(I)I -/
def xT_202 (b : Bool) (rf : jRf) (F : Int32 → jSc → (Nat → Nat) → jSc → jAl → Option (Int32 × jSc × (Nat → Nat) × jSc × jAl)) (e : Nat) : Prop := ∀  (Post : jPo) (x1 : Int32) (sc : jSc) (mr : (Nat → Nat)) (ar : jSc) (al : jAl) (r9 : Int32) (sc9 : jSc) (mr9 : (Nat → Nat)) (ar9 : jSc) (al9 : jAl), F x1 sc mr ar al = some (r9, sc9, mr9, ar9, al9) → Post (some (.int r9)) sc9 (x_mk mr9 rf) ar9 al9 → gW (gX b) 202 e 0 (j_av [.ref 736, .int x1]) [] sc (x_mk mr rf) ar al Post
def xF_202_4 : Nat → Int32 → Int32 → Int32 → jSc → (Nat → Nat) → jSc → jAl → Option (Int32 × jSc × (Nat → Nat) × jSc × jAl)
  | 0, _, _, _, _, _, _, _ => none
  | nn + 1, x1, x2, x3, sc, mr, ar, al => (if (sc 736 5) ≤ x3 then some (x2, sc, mr, ar, al) else (if ((x1 >>> (x3 &&& 31)) &&& (1 : Int32)) = 0 then xF_202_4 nn x1 x2 (x3 + (1 : Int32)) sc mr ar al else (if iB x3 6 then xF_202_4 nn x1 (x2 + (ar 740 (iN x3))) (x3 + (1 : Int32)) sc mr ar al else none)))
set_option maxHeartbeats 4000000 in
theorem xt_202_4 {b : Bool} {rf : jRf} {d : Nat} {Post : jPo} {r9 : Int32} {sc9 : jSc} {mr9 : (Nat → Nat)} {ar9 : jSc} {al9 : jAl} (hP : Post (some (.int r9)) sc9 (x_mk mr9 rf) ar9 al9) : ∀ (nn : Nat) (x1 : Int32) (x2 : Int32) (x3 : Int32) (sc : jSc) (mr : (Nat → Nat)) (ar : jSc) (al : jAl), xF_202_4 nn x1 x2 x3 sc mr ar al = some (r9, sc9, mr9, ar9, al9) → gL (gX b) 202 (d + 1) 4 [some (.ref 736), some (.int x1), some (.int x2), some (.int x3)] [] sc (x_mk mr rf) ar al Post := by
  intro nn
  induction nn with
  | zero =>
    intro x1 x2 x3 sc mr ar al h
    have h : (none : Option (Int32 × jSc × (Nat → Nat) × jSc × jAl)) = some _ := h
    cases h
  | succ nn ih =>
    intro x1 x2 x3 sc mr ar al h
    unfold xF_202_4 at h
    refine gl_iload_n (gX_LK b) y_202_4 rfl rfl ?_
    refine gl_aload_n (gX_LK b) y_202_5 rfl rfl ?_
    refine gl_get (gX_LK b) y_202_6 yf_202_27 ys_736 rfl rfl rfl rfl ?_
    refine gl_ic_ge (gX_LK b) y_202_9 rfl rfl (fun c1 => ?_) (fun c1 => ?_)
    · have h := (if_pos c1).symm.trans h
      refine gl_iload_n (gX_LK b) y_202_35 rfl rfl ?_
      exact gl_ireturn y_202_36 (Or.inl yt_202) (by cases h; exact hP)
    · have h := (if_neg c1).symm.trans h
      refine gl_iload_n (gX_LK b) y_202_12 rfl rfl ?_
      refine gl_iload_n (gX_LK b) y_202_13 rfl rfl ?_
      refine gl_ishr (gX_LK b) y_202_14 rfl ?_
      refine gl_iconst (gX_LK b) y_202_15 ci_1 rfl ?_
      refine gl_iand (gX_LK b) y_202_16 rfl ?_
      refine gl_if_eq (gX_LK b) y_202_17 rfl rfl (fun c2 => ?_) (fun c2 => ?_)
      · have h := (if_pos c2).symm.trans h
        refine gl_iinc (vs2 := [some (.ref 736), some (.int x1), some (.int x2), some (.int (x3 + (1 : Int32)))]) (gX_LK b) y_202_29 rfl rfl rfl ci_1 rfl rfl ?_
        refine gl_goto (gX_LK b) y_202_32 rfl ?_
        exact gl_weak (vs := [some (.ref 736), some (.int x1), some (.int x2), some (.int (x3 + (1 : Int32)))]) ⟨rfl, rfl, rfl, rfl, trivial⟩ (ih x1 x2 (x3 + (1 : Int32)) sc mr ar al h)
      · have h := (if_neg c2).symm.trans h
        refine gl_iload_n (gX_LK b) y_202_20 rfl rfl ?_
        refine gl_aload_n (gX_LK b) y_202_21 rfl rfl ?_
        refine gl_getA (gX_LK b) y_202_22 yf_202_21 ys_736 rfl rfl rfl rfl ?_
        refine gl_iload_n (gX_LK b) y_202_25 rfl rfl ?_
        obtain ⟨c3, h⟩ := o_ck h
        refine gl_iaload (gX_LK b) y_202_26 ys_740 c3 rfl rfl ?_
        refine gl_iadd (gX_LK b) y_202_27 rfl ?_
        refine gl_istore_n (vs2 := [some (.ref 736), some (.int x1), some (.int (x2 + (ar 740 (iN x3)))), some (.int x3)]) (gX_LK b) y_202_28 rfl rfl rfl rfl ?_
        refine gl_iinc (vs2 := [some (.ref 736), some (.int x1), some (.int (x2 + (ar 740 (iN x3)))), some (.int (x3 + (1 : Int32)))]) (gX_LK b) y_202_29 rfl rfl rfl ci_1 rfl rfl ?_
        refine gl_goto (gX_LK b) y_202_32 rfl ?_
        exact gl_weak (vs := [some (.ref 736), some (.int x1), some (.int (x2 + (ar 740 (iN x3)))), some (.int (x3 + (1 : Int32)))]) ⟨rfl, rfl, rfl, rfl, trivial⟩ (ih x1 (x2 + (ar 740 (iN x3))) (x3 + (1 : Int32)) sc mr ar al h)
def xF_202 (x1 : Int32) (sc : jSc) (mr : (Nat → Nat)) (ar : jSc) (al : jAl) : Option (Int32 × jSc × (Nat → Nat) × jSc × jAl) :=
  xF_202_4 oF x1 (0 : Int32) (0 : Int32) sc mr ar al
set_option maxHeartbeats 4000000 in
theorem xt_202 {b : Bool} {rf : jRf} {d : Nat} : xT_202 b rf xF_202 (d + 1) := by
  intro  Post x1 sc mr ar al r9 sc9 mr9 ar9 al9 h hP
  unfold xF_202 at h
  refine gl_entry (m := 2) rfl ?_
  show gL (gX b) 202 (d + 1) 0 [some (.ref 736), some (.int x1), none, none] [] sc (x_mk mr rf) ar al Post
  refine gl_iconst (gX_LK b) y_202_0 ci_0 rfl ?_
  refine gl_istore_n (vs2 := [some (.ref 736), some (.int x1), some (.int (0 : Int32)), none]) (gX_LK b) y_202_1 rfl rfl rfl rfl ?_
  refine gl_iconst (gX_LK b) y_202_2 ci_0 rfl ?_
  refine gl_istore_n (vs2 := [some (.ref 736), some (.int x1), some (.int (0 : Int32)), some (.int (0 : Int32))]) (gX_LK b) y_202_3 rfl rfl rfl rfl ?_
  exact gl_weak (vs := [some (.ref 736), some (.int x1), some (.int (0 : Int32)), some (.int (0 : Int32))]) ⟨rfl, rfl, rfl, rfl, trivial⟩ (xt_202_4  hP oF x1 (0 : Int32) (0 : Int32) sc mr ar al h)
/-- java/lang/Integer.bitCount(I)I -/
def xT_501 (b : Bool) (rf : jRf) (F : Int32 → jSc → (Nat → Nat) → jSc → jAl → Option (Int32 × jSc × (Nat → Nat) × jSc × jAl)) (e : Nat) : Prop := ∀  (Post : jPo) (x1 : Int32) (sc : jSc) (mr : (Nat → Nat)) (ar : jSc) (al : jAl) (r9 : Int32) (sc9 : jSc) (mr9 : (Nat → Nat)) (ar9 : jSc) (al9 : jAl), F x1 sc mr ar al = some (r9, sc9, mr9, ar9, al9) → Post (some (.int r9)) sc9 (x_mk mr9 rf) ar9 al9 → gW (gX b) 501 e 0 (j_av [.int x1]) [] sc (x_mk mr rf) ar al Post
def xF_501 (x1 : Int32) (sc : jSc) (mr : (Nat → Nat)) (ar : jSc) (al : jAl) : Option (Int32 × jSc × (Nat → Nat) × jSc × jAl) :=
  some (((((((((x1 - (((x1).toUInt32 >>> (((1 : Int32)).toUInt32 &&& Int32.toUInt32 31)).toInt32 &&& (1431655765 : Int32))) &&& (858993459 : Int32)) + ((((x1 - (((x1).toUInt32 >>> (((1 : Int32)).toUInt32 &&& Int32.toUInt32 31)).toInt32 &&& (1431655765 : Int32)))).toUInt32 >>> (((2 : Int32)).toUInt32 &&& Int32.toUInt32 31)).toInt32 &&& (858993459 : Int32))) + (((((x1 - (((x1).toUInt32 >>> (((1 : Int32)).toUInt32 &&& Int32.toUInt32 31)).toInt32 &&& (1431655765 : Int32))) &&& (858993459 : Int32)) + ((((x1 - (((x1).toUInt32 >>> (((1 : Int32)).toUInt32 &&& Int32.toUInt32 31)).toInt32 &&& (1431655765 : Int32)))).toUInt32 >>> (((2 : Int32)).toUInt32 &&& Int32.toUInt32 31)).toInt32 &&& (858993459 : Int32)))).toUInt32 >>> (((4 : Int32)).toUInt32 &&& Int32.toUInt32 31)).toInt32) &&& (252645135 : Int32)) + (((((((x1 - (((x1).toUInt32 >>> (((1 : Int32)).toUInt32 &&& Int32.toUInt32 31)).toInt32 &&& (1431655765 : Int32))) &&& (858993459 : Int32)) + ((((x1 - (((x1).toUInt32 >>> (((1 : Int32)).toUInt32 &&& Int32.toUInt32 31)).toInt32 &&& (1431655765 : Int32)))).toUInt32 >>> (((2 : Int32)).toUInt32 &&& Int32.toUInt32 31)).toInt32 &&& (858993459 : Int32))) + (((((x1 - (((x1).toUInt32 >>> (((1 : Int32)).toUInt32 &&& Int32.toUInt32 31)).toInt32 &&& (1431655765 : Int32))) &&& (858993459 : Int32)) + ((((x1 - (((x1).toUInt32 >>> (((1 : Int32)).toUInt32 &&& Int32.toUInt32 31)).toInt32 &&& (1431655765 : Int32)))).toUInt32 >>> (((2 : Int32)).toUInt32 &&& Int32.toUInt32 31)).toInt32 &&& (858993459 : Int32)))).toUInt32 >>> (((4 : Int32)).toUInt32 &&& Int32.toUInt32 31)).toInt32) &&& (252645135 : Int32))).toUInt32 >>> (((8 : Int32)).toUInt32 &&& Int32.toUInt32 31)).toInt32) + ((((((((x1 - (((x1).toUInt32 >>> (((1 : Int32)).toUInt32 &&& Int32.toUInt32 31)).toInt32 &&& (1431655765 : Int32))) &&& (858993459 : Int32)) + ((((x1 - (((x1).toUInt32 >>> (((1 : Int32)).toUInt32 &&& Int32.toUInt32 31)).toInt32 &&& (1431655765 : Int32)))).toUInt32 >>> (((2 : Int32)).toUInt32 &&& Int32.toUInt32 31)).toInt32 &&& (858993459 : Int32))) + (((((x1 - (((x1).toUInt32 >>> (((1 : Int32)).toUInt32 &&& Int32.toUInt32 31)).toInt32 &&& (1431655765 : Int32))) &&& (858993459 : Int32)) + ((((x1 - (((x1).toUInt32 >>> (((1 : Int32)).toUInt32 &&& Int32.toUInt32 31)).toInt32 &&& (1431655765 : Int32)))).toUInt32 >>> (((2 : Int32)).toUInt32 &&& Int32.toUInt32 31)).toInt32 &&& (858993459 : Int32)))).toUInt32 >>> (((4 : Int32)).toUInt32 &&& Int32.toUInt32 31)).toInt32) &&& (252645135 : Int32)) + (((((((x1 - (((x1).toUInt32 >>> (((1 : Int32)).toUInt32 &&& Int32.toUInt32 31)).toInt32 &&& (1431655765 : Int32))) &&& (858993459 : Int32)) + ((((x1 - (((x1).toUInt32 >>> (((1 : Int32)).toUInt32 &&& Int32.toUInt32 31)).toInt32 &&& (1431655765 : Int32)))).toUInt32 >>> (((2 : Int32)).toUInt32 &&& Int32.toUInt32 31)).toInt32 &&& (858993459 : Int32))) + (((((x1 - (((x1).toUInt32 >>> (((1 : Int32)).toUInt32 &&& Int32.toUInt32 31)).toInt32 &&& (1431655765 : Int32))) &&& (858993459 : Int32)) + ((((x1 - (((x1).toUInt32 >>> (((1 : Int32)).toUInt32 &&& Int32.toUInt32 31)).toInt32 &&& (1431655765 : Int32)))).toUInt32 >>> (((2 : Int32)).toUInt32 &&& Int32.toUInt32 31)).toInt32 &&& (858993459 : Int32)))).toUInt32 >>> (((4 : Int32)).toUInt32 &&& Int32.toUInt32 31)).toInt32) &&& (252645135 : Int32))).toUInt32 >>> (((8 : Int32)).toUInt32 &&& Int32.toUInt32 31)).toInt32)).toUInt32 >>> (((16 : Int32)).toUInt32 &&& Int32.toUInt32 31)).toInt32) &&& (63 : Int32)), sc, mr, ar, al)
set_option maxHeartbeats 4000000 in
theorem xt_501 {b : Bool} {rf : jRf} {d : Nat} : xT_501 b rf xF_501 (d + 1) := by
  intro  Post x1 sc mr ar al r9 sc9 mr9 ar9 al9 h hP
  unfold xF_501 at h
  refine gl_entry (m := 0) rfl ?_
  show gL (gX b) 501 (d + 1) 0 [some (.int x1)] [] sc (x_mk mr rf) ar al Post
  refine gl_iload_n (gX_LK b) y_501_0 rfl rfl ?_
  refine gl_iload_n (gX_LK b) y_501_1 rfl rfl ?_
  refine gl_iconst (gX_LK b) y_501_2 ci_1 rfl ?_
  refine gl_iushr (gX_LK b) y_501_3 rfl ?_
  refine gl_ldc_w (gX_LK b) y_501_4 yc_501_265 rfl ?_
  refine gl_iand (gX_LK b) y_501_7 rfl ?_
  refine gl_isub (gX_LK b) y_501_8 rfl ?_
  refine gl_istore_n (vs2 := [some (.int (x1 - (((x1).toUInt32 >>> (((1 : Int32)).toUInt32 &&& Int32.toUInt32 31)).toInt32 &&& (1431655765 : Int32))))]) (gX_LK b) y_501_9 rfl rfl rfl rfl ?_
  refine gl_iload_n (gX_LK b) y_501_10 rfl rfl ?_
  refine gl_ldc_w (gX_LK b) y_501_11 yc_501_266 rfl ?_
  refine gl_iand (gX_LK b) y_501_14 rfl ?_
  refine gl_iload_n (gX_LK b) y_501_15 rfl rfl ?_
  refine gl_iconst (gX_LK b) y_501_16 ci_2 rfl ?_
  refine gl_iushr (gX_LK b) y_501_17 rfl ?_
  refine gl_ldc_w (gX_LK b) y_501_18 yc_501_266 rfl ?_
  refine gl_iand (gX_LK b) y_501_21 rfl ?_
  refine gl_iadd (gX_LK b) y_501_22 rfl ?_
  refine gl_istore_n (vs2 := [some (.int (((x1 - (((x1).toUInt32 >>> (((1 : Int32)).toUInt32 &&& Int32.toUInt32 31)).toInt32 &&& (1431655765 : Int32))) &&& (858993459 : Int32)) + ((((x1 - (((x1).toUInt32 >>> (((1 : Int32)).toUInt32 &&& Int32.toUInt32 31)).toInt32 &&& (1431655765 : Int32)))).toUInt32 >>> (((2 : Int32)).toUInt32 &&& Int32.toUInt32 31)).toInt32 &&& (858993459 : Int32))))]) (gX_LK b) y_501_23 rfl rfl rfl rfl ?_
  refine gl_iload_n (gX_LK b) y_501_24 rfl rfl ?_
  refine gl_iload_n (gX_LK b) y_501_25 rfl rfl ?_
  refine gl_iconst (gX_LK b) y_501_26 ci_4 rfl ?_
  refine gl_iushr (gX_LK b) y_501_27 rfl ?_
  refine gl_iadd (gX_LK b) y_501_28 rfl ?_
  refine gl_ldc_w (gX_LK b) y_501_29 yc_501_267 rfl ?_
  refine gl_iand (gX_LK b) y_501_32 rfl ?_
  refine gl_istore_n (vs2 := [some (.int (((((x1 - (((x1).toUInt32 >>> (((1 : Int32)).toUInt32 &&& Int32.toUInt32 31)).toInt32 &&& (1431655765 : Int32))) &&& (858993459 : Int32)) + ((((x1 - (((x1).toUInt32 >>> (((1 : Int32)).toUInt32 &&& Int32.toUInt32 31)).toInt32 &&& (1431655765 : Int32)))).toUInt32 >>> (((2 : Int32)).toUInt32 &&& Int32.toUInt32 31)).toInt32 &&& (858993459 : Int32))) + (((((x1 - (((x1).toUInt32 >>> (((1 : Int32)).toUInt32 &&& Int32.toUInt32 31)).toInt32 &&& (1431655765 : Int32))) &&& (858993459 : Int32)) + ((((x1 - (((x1).toUInt32 >>> (((1 : Int32)).toUInt32 &&& Int32.toUInt32 31)).toInt32 &&& (1431655765 : Int32)))).toUInt32 >>> (((2 : Int32)).toUInt32 &&& Int32.toUInt32 31)).toInt32 &&& (858993459 : Int32)))).toUInt32 >>> (((4 : Int32)).toUInt32 &&& Int32.toUInt32 31)).toInt32) &&& (252645135 : Int32)))]) (gX_LK b) y_501_33 rfl rfl rfl rfl ?_
  refine gl_iload_n (gX_LK b) y_501_34 rfl rfl ?_
  refine gl_iload_n (gX_LK b) y_501_35 rfl rfl ?_
  refine gl_bipush (gX_LK b) y_501_36 cb_8 rfl ?_
  refine gl_iushr (gX_LK b) y_501_38 rfl ?_
  refine gl_iadd (gX_LK b) y_501_39 rfl ?_
  refine gl_istore_n (vs2 := [some (.int ((((((x1 - (((x1).toUInt32 >>> (((1 : Int32)).toUInt32 &&& Int32.toUInt32 31)).toInt32 &&& (1431655765 : Int32))) &&& (858993459 : Int32)) + ((((x1 - (((x1).toUInt32 >>> (((1 : Int32)).toUInt32 &&& Int32.toUInt32 31)).toInt32 &&& (1431655765 : Int32)))).toUInt32 >>> (((2 : Int32)).toUInt32 &&& Int32.toUInt32 31)).toInt32 &&& (858993459 : Int32))) + (((((x1 - (((x1).toUInt32 >>> (((1 : Int32)).toUInt32 &&& Int32.toUInt32 31)).toInt32 &&& (1431655765 : Int32))) &&& (858993459 : Int32)) + ((((x1 - (((x1).toUInt32 >>> (((1 : Int32)).toUInt32 &&& Int32.toUInt32 31)).toInt32 &&& (1431655765 : Int32)))).toUInt32 >>> (((2 : Int32)).toUInt32 &&& Int32.toUInt32 31)).toInt32 &&& (858993459 : Int32)))).toUInt32 >>> (((4 : Int32)).toUInt32 &&& Int32.toUInt32 31)).toInt32) &&& (252645135 : Int32)) + (((((((x1 - (((x1).toUInt32 >>> (((1 : Int32)).toUInt32 &&& Int32.toUInt32 31)).toInt32 &&& (1431655765 : Int32))) &&& (858993459 : Int32)) + ((((x1 - (((x1).toUInt32 >>> (((1 : Int32)).toUInt32 &&& Int32.toUInt32 31)).toInt32 &&& (1431655765 : Int32)))).toUInt32 >>> (((2 : Int32)).toUInt32 &&& Int32.toUInt32 31)).toInt32 &&& (858993459 : Int32))) + (((((x1 - (((x1).toUInt32 >>> (((1 : Int32)).toUInt32 &&& Int32.toUInt32 31)).toInt32 &&& (1431655765 : Int32))) &&& (858993459 : Int32)) + ((((x1 - (((x1).toUInt32 >>> (((1 : Int32)).toUInt32 &&& Int32.toUInt32 31)).toInt32 &&& (1431655765 : Int32)))).toUInt32 >>> (((2 : Int32)).toUInt32 &&& Int32.toUInt32 31)).toInt32 &&& (858993459 : Int32)))).toUInt32 >>> (((4 : Int32)).toUInt32 &&& Int32.toUInt32 31)).toInt32) &&& (252645135 : Int32))).toUInt32 >>> (((8 : Int32)).toUInt32 &&& Int32.toUInt32 31)).toInt32))]) (gX_LK b) y_501_40 rfl rfl rfl rfl ?_
  refine gl_iload_n (gX_LK b) y_501_41 rfl rfl ?_
  refine gl_iload_n (gX_LK b) y_501_42 rfl rfl ?_
  refine gl_bipush (gX_LK b) y_501_43 cb_16 rfl ?_
  refine gl_iushr (gX_LK b) y_501_45 rfl ?_
  refine gl_iadd (gX_LK b) y_501_46 rfl ?_
  refine gl_istore_n (vs2 := [some (.int (((((((x1 - (((x1).toUInt32 >>> (((1 : Int32)).toUInt32 &&& Int32.toUInt32 31)).toInt32 &&& (1431655765 : Int32))) &&& (858993459 : Int32)) + ((((x1 - (((x1).toUInt32 >>> (((1 : Int32)).toUInt32 &&& Int32.toUInt32 31)).toInt32 &&& (1431655765 : Int32)))).toUInt32 >>> (((2 : Int32)).toUInt32 &&& Int32.toUInt32 31)).toInt32 &&& (858993459 : Int32))) + (((((x1 - (((x1).toUInt32 >>> (((1 : Int32)).toUInt32 &&& Int32.toUInt32 31)).toInt32 &&& (1431655765 : Int32))) &&& (858993459 : Int32)) + ((((x1 - (((x1).toUInt32 >>> (((1 : Int32)).toUInt32 &&& Int32.toUInt32 31)).toInt32 &&& (1431655765 : Int32)))).toUInt32 >>> (((2 : Int32)).toUInt32 &&& Int32.toUInt32 31)).toInt32 &&& (858993459 : Int32)))).toUInt32 >>> (((4 : Int32)).toUInt32 &&& Int32.toUInt32 31)).toInt32) &&& (252645135 : Int32)) + (((((((x1 - (((x1).toUInt32 >>> (((1 : Int32)).toUInt32 &&& Int32.toUInt32 31)).toInt32 &&& (1431655765 : Int32))) &&& (858993459 : Int32)) + ((((x1 - (((x1).toUInt32 >>> (((1 : Int32)).toUInt32 &&& Int32.toUInt32 31)).toInt32 &&& (1431655765 : Int32)))).toUInt32 >>> (((2 : Int32)).toUInt32 &&& Int32.toUInt32 31)).toInt32 &&& (858993459 : Int32))) + (((((x1 - (((x1).toUInt32 >>> (((1 : Int32)).toUInt32 &&& Int32.toUInt32 31)).toInt32 &&& (1431655765 : Int32))) &&& (858993459 : Int32)) + ((((x1 - (((x1).toUInt32 >>> (((1 : Int32)).toUInt32 &&& Int32.toUInt32 31)).toInt32 &&& (1431655765 : Int32)))).toUInt32 >>> (((2 : Int32)).toUInt32 &&& Int32.toUInt32 31)).toInt32 &&& (858993459 : Int32)))).toUInt32 >>> (((4 : Int32)).toUInt32 &&& Int32.toUInt32 31)).toInt32) &&& (252645135 : Int32))).toUInt32 >>> (((8 : Int32)).toUInt32 &&& Int32.toUInt32 31)).toInt32) + ((((((((x1 - (((x1).toUInt32 >>> (((1 : Int32)).toUInt32 &&& Int32.toUInt32 31)).toInt32 &&& (1431655765 : Int32))) &&& (858993459 : Int32)) + ((((x1 - (((x1).toUInt32 >>> (((1 : Int32)).toUInt32 &&& Int32.toUInt32 31)).toInt32 &&& (1431655765 : Int32)))).toUInt32 >>> (((2 : Int32)).toUInt32 &&& Int32.toUInt32 31)).toInt32 &&& (858993459 : Int32))) + (((((x1 - (((x1).toUInt32 >>> (((1 : Int32)).toUInt32 &&& Int32.toUInt32 31)).toInt32 &&& (1431655765 : Int32))) &&& (858993459 : Int32)) + ((((x1 - (((x1).toUInt32 >>> (((1 : Int32)).toUInt32 &&& Int32.toUInt32 31)).toInt32 &&& (1431655765 : Int32)))).toUInt32 >>> (((2 : Int32)).toUInt32 &&& Int32.toUInt32 31)).toInt32 &&& (858993459 : Int32)))).toUInt32 >>> (((4 : Int32)).toUInt32 &&& Int32.toUInt32 31)).toInt32) &&& (252645135 : Int32)) + (((((((x1 - (((x1).toUInt32 >>> (((1 : Int32)).toUInt32 &&& Int32.toUInt32 31)).toInt32 &&& (1431655765 : Int32))) &&& (858993459 : Int32)) + ((((x1 - (((x1).toUInt32 >>> (((1 : Int32)).toUInt32 &&& Int32.toUInt32 31)).toInt32 &&& (1431655765 : Int32)))).toUInt32 >>> (((2 : Int32)).toUInt32 &&& Int32.toUInt32 31)).toInt32 &&& (858993459 : Int32))) + (((((x1 - (((x1).toUInt32 >>> (((1 : Int32)).toUInt32 &&& Int32.toUInt32 31)).toInt32 &&& (1431655765 : Int32))) &&& (858993459 : Int32)) + ((((x1 - (((x1).toUInt32 >>> (((1 : Int32)).toUInt32 &&& Int32.toUInt32 31)).toInt32 &&& (1431655765 : Int32)))).toUInt32 >>> (((2 : Int32)).toUInt32 &&& Int32.toUInt32 31)).toInt32 &&& (858993459 : Int32)))).toUInt32 >>> (((4 : Int32)).toUInt32 &&& Int32.toUInt32 31)).toInt32) &&& (252645135 : Int32))).toUInt32 >>> (((8 : Int32)).toUInt32 &&& Int32.toUInt32 31)).toInt32)).toUInt32 >>> (((16 : Int32)).toUInt32 &&& Int32.toUInt32 31)).toInt32))]) (gX_LK b) y_501_47 rfl rfl rfl rfl ?_
  refine gl_iload_n (gX_LK b) y_501_48 rfl rfl ?_
  refine gl_bipush (gX_LK b) y_501_49 cb_63 rfl ?_
  refine gl_iand (gX_LK b) y_501_51 rfl ?_
  exact gl_ireturn y_501_52 (Or.inl yt_501) (by cases h; exact hP)
/-- ClickOrders$Forms.ranksSets()V -/
def xT_203 (b : Bool) (rf : jRf) (F : jSc → (Nat → Nat) → jSc → jAl → Option (jSc × (Nat → Nat) × jSc × jAl)) (e : Nat) : Prop := ∀  (Post : jPo) (sc : jSc) (mr : (Nat → Nat)) (ar : jSc) (al : jAl) (sc9 : jSc) (mr9 : (Nat → Nat)) (ar9 : jSc) (al9 : jAl), F sc mr ar al = some (sc9, mr9, ar9, al9) → Post none sc9 (x_mk mr9 rf) ar9 al9 → gW (gX b) 203 e 0 (j_av [.ref 736]) [] sc (x_mk mr rf) ar al Post
def xF_203_22 (k2 : Int32 → jSc → (Nat → Nat) → jSc → jAl → Option (jSc × (Nat → Nat) × jSc × jAl)) : Nat → Int32 → Int32 → Int32 → jSc → (Nat → Nat) → jSc → jAl → Option (jSc × (Nat → Nat) × jSc × jAl)
  | 0, _, _, _, _, _, _, _ => none
  | nn + 1, x1, x2, x3, sc, mr, ar, al => (if (sc 736 5) ≤ x3 then (o_b5 (xF_202 x1 sc mr ar al) (fun ve2 sce2 mre2 are2 ale2 => (o_b5 (xF_501 x1 sce2 mre2 are2 ale2) (fun ve3 sce3 mre3 are3 ale3 => (if iB x1 64 then k2 (x1 + (1 : Int32)) sce3 mre3 (j_u2 are3 742 (iN x1) ((((((ve2 * (8 : Int32)) + ve3) * (64 : Int32)) + (64 : Int32)) - (1 : Int32)) - x2)) ale3 else none))))) else xF_203_22 k2 nn x1 (x2 ||| (((x1 >>> (x3 &&& 31)) &&& (1 : Int32)) <<< (((5 : Int32) - x3) &&& 31))) (x3 + (1 : Int32)) sc mr ar al)
set_option maxHeartbeats 4000000 in
theorem xt_203_22 {b : Bool} {rf : jRf} {d : Nat} {Post : jPo} {sc9 : jSc} {mr9 : (Nat → Nat)} {ar9 : jSc} {al9 : jAl} {k2 : Int32 → jSc → (Nat → Nat) → jSc → jAl → Option (jSc × (Nat → Nat) × jSc × jAl)} (hk2 : ∀ (x1 : Int32) (sc : jSc) (mr : (Nat → Nat)) (ar : jSc) (al : jAl), k2 x1 sc mr ar al = some (sc9, mr9, ar9, al9) → gL (gX b) 203 (d + 2) 2 [some (.ref 736), some (.int x1), none, none] [] sc (x_mk mr rf) ar al Post) (hP : Post none sc9 (x_mk mr9 rf) ar9 al9) : ∀ (nn : Nat) (x1 : Int32) (x2 : Int32) (x3 : Int32) (sc : jSc) (mr : (Nat → Nat)) (ar : jSc) (al : jAl), xF_203_22 k2 nn x1 x2 x3 sc mr ar al = some (sc9, mr9, ar9, al9) → gL (gX b) 203 (d + 2) 22 [some (.ref 736), some (.int x1), some (.int x2), some (.int x3)] [] sc (x_mk mr rf) ar al Post := by
  intro nn
  induction nn with
  | zero =>
    intro x1 x2 x3 sc mr ar al h
    have h : (none : Option (jSc × (Nat → Nat) × jSc × jAl)) = some _ := h
    cases h
  | succ nn ih =>
    intro x1 x2 x3 sc mr ar al h
    unfold xF_203_22 at h
    refine gl_iload_n (gX_LK b) y_203_22 rfl rfl ?_
    refine gl_aload_n (gX_LK b) y_203_23 rfl rfl ?_
    refine gl_get (gX_LK b) y_203_24 yf_203_27 ys_736 rfl rfl rfl rfl ?_
    refine gl_ic_ge (gX_LK b) y_203_27 rfl rfl (fun c1 => ?_) (fun c1 => ?_)
    · have h := (if_pos c1).symm.trans h
      refine gl_aload_n (gX_LK b) y_203_48 rfl rfl ?_
      refine gl_getA (gX_LK b) y_203_49 yf_203_40 ys_736 rfl rfl rfl rfl ?_
      refine gl_iload_n (gX_LK b) y_203_52 rfl rfl ?_
      refine gl_aload_n (gX_LK b) y_203_53 rfl rfl ?_
      refine gl_iload_n (gX_LK b) y_203_54 rfl rfl ?_
      obtain ⟨ve2, sce2, mre2, are2, ale2, e2, h⟩ := o_k5 h
      refine gl_callV (gX_LK b) y_203_55 ym_203_56 rfl rfl rfl ys_736 yx_202 rfl rfl ((xt_202 )  _ _ _ _ _ _ _ _ _ _ _ e2 ?_)
      refine gl_bipush (gX_LK b) y_203_58 cb_8 rfl ?_
      refine gl_imul (gX_LK b) y_203_60 rfl ?_
      refine gl_iload_n (gX_LK b) y_203_61 rfl rfl ?_
      obtain ⟨ve3, sce3, mre3, are3, ale3, e3, h⟩ := o_k5 h
      refine gl_callS y_203_62 ym_203_60 rfl rfl rfl yx_501 rfl rfl ((xt_501 )  _ _ _ _ _ _ _ _ _ _ _ e3 ?_)
      refine gl_iadd (gX_LK b) y_203_65 rfl ?_
      refine gl_bipush (gX_LK b) y_203_66 cb_64 rfl ?_
      refine gl_imul (gX_LK b) y_203_68 rfl ?_
      refine gl_bipush (gX_LK b) y_203_69 cb_64 rfl ?_
      refine gl_iadd (gX_LK b) y_203_71 rfl ?_
      refine gl_iconst (gX_LK b) y_203_72 ci_1 rfl ?_
      refine gl_isub (gX_LK b) y_203_73 rfl ?_
      refine gl_iload_n (gX_LK b) y_203_74 rfl rfl ?_
      refine gl_isub (gX_LK b) y_203_75 rfl ?_
      obtain ⟨c4, h⟩ := o_ck h
      refine gl_iastore (ar2 := (j_u2 are3 742 (iN x1) ((((((ve2 * (8 : Int32)) + ve3) * (64 : Int32)) + (64 : Int32)) - (1 : Int32)) - x2))) (gX_LK b) y_203_76 ys_742 c4 rfl rfl ?_
      refine gl_iinc (vs2 := [some (.ref 736), some (.int (x1 + (1 : Int32))), some (.int x2), some (.int x3)]) (gX_LK b) y_203_77 rfl rfl rfl ci_1 rfl rfl ?_
      refine gl_goto (gX_LK b) y_203_80 rfl ?_
      exact gl_weak (vs := [some (.ref 736), some (.int (x1 + (1 : Int32))), none, none]) ⟨rfl, rfl, trivial⟩ (hk2 (x1 + (1 : Int32)) sce3 mre3 (j_u2 are3 742 (iN x1) ((((((ve2 * (8 : Int32)) + ve3) * (64 : Int32)) + (64 : Int32)) - (1 : Int32)) - x2)) ale3 h)
    · have h := (if_neg c1).symm.trans h
      refine gl_iload_n (gX_LK b) y_203_30 rfl rfl ?_
      refine gl_iload_n (gX_LK b) y_203_31 rfl rfl ?_
      refine gl_iload_n (gX_LK b) y_203_32 rfl rfl ?_
      refine gl_ishr (gX_LK b) y_203_33 rfl ?_
      refine gl_iconst (gX_LK b) y_203_34 ci_1 rfl ?_
      refine gl_iand (gX_LK b) y_203_35 rfl ?_
      refine gl_iconst (gX_LK b) y_203_36 ci_5 rfl ?_
      refine gl_iload_n (gX_LK b) y_203_37 rfl rfl ?_
      refine gl_isub (gX_LK b) y_203_38 rfl ?_
      refine gl_ishl (gX_LK b) y_203_39 rfl ?_
      refine gl_ior (gX_LK b) y_203_40 rfl ?_
      refine gl_istore_n (vs2 := [some (.ref 736), some (.int x1), some (.int (x2 ||| (((x1 >>> (x3 &&& 31)) &&& (1 : Int32)) <<< (((5 : Int32) - x3) &&& 31)))), some (.int x3)]) (gX_LK b) y_203_41 rfl rfl rfl rfl ?_
      refine gl_iinc (vs2 := [some (.ref 736), some (.int x1), some (.int (x2 ||| (((x1 >>> (x3 &&& 31)) &&& (1 : Int32)) <<< (((5 : Int32) - x3) &&& 31)))), some (.int (x3 + (1 : Int32)))]) (gX_LK b) y_203_42 rfl rfl rfl ci_1 rfl rfl ?_
      refine gl_goto (gX_LK b) y_203_45 rfl ?_
      exact gl_weak (vs := [some (.ref 736), some (.int x1), some (.int (x2 ||| (((x1 >>> (x3 &&& 31)) &&& (1 : Int32)) <<< (((5 : Int32) - x3) &&& 31)))), some (.int (x3 + (1 : Int32)))]) ⟨rfl, rfl, rfl, rfl, trivial⟩ (ih x1 (x2 ||| (((x1 >>> (x3 &&& 31)) &&& (1 : Int32)) <<< (((5 : Int32) - x3) &&& 31))) (x3 + (1 : Int32)) sc mr ar al h)
def xF_203_2 : Nat → Int32 → jSc → (Nat → Nat) → jSc → jAl → Option (jSc × (Nat → Nat) × jSc × jAl)
  | 0, _, _, _, _, _ => none
  | nn + 1, x1, sc, mr, ar, al => (if ((1 : Int32) <<< ((sc 736 5) &&& 31)) ≤ x1 then some ((j_u2 sc 736 11 (0 : Int32)), mr, ar, al) else (if (64 : Int32) ≤ x1 then some ((j_u2 sc 736 11 (0 : Int32)), mr, ar, al) else xF_203_22 (fun x1_ sc_ mr_ ar_ al_ => xF_203_2 nn x1_ sc_ mr_ ar_ al_) oF x1 (0 : Int32) (0 : Int32) sc mr ar al))
set_option maxHeartbeats 4000000 in
theorem xt_203_2 {b : Bool} {rf : jRf} {d : Nat} {Post : jPo} {sc9 : jSc} {mr9 : (Nat → Nat)} {ar9 : jSc} {al9 : jAl} (hP : Post none sc9 (x_mk mr9 rf) ar9 al9) : ∀ (nn : Nat) (x1 : Int32) (sc : jSc) (mr : (Nat → Nat)) (ar : jSc) (al : jAl), xF_203_2 nn x1 sc mr ar al = some (sc9, mr9, ar9, al9) → gL (gX b) 203 (d + 2) 2 [some (.ref 736), some (.int x1), none, none] [] sc (x_mk mr rf) ar al Post := by
  intro nn
  induction nn with
  | zero =>
    intro x1 sc mr ar al h
    have h : (none : Option (jSc × (Nat → Nat) × jSc × jAl)) = some _ := h
    cases h
  | succ nn ih =>
    intro x1 sc mr ar al h
    unfold xF_203_2 at h
    refine gl_iload_n (gX_LK b) y_203_2 rfl rfl ?_
    refine gl_iconst (gX_LK b) y_203_3 ci_1 rfl ?_
    refine gl_aload_n (gX_LK b) y_203_4 rfl rfl ?_
    refine gl_get (gX_LK b) y_203_5 yf_203_27 ys_736 rfl rfl rfl rfl ?_
    refine gl_ishl (gX_LK b) y_203_8 rfl ?_
    refine gl_ic_ge (gX_LK b) y_203_9 rfl rfl (fun c5 => ?_) (fun c5 => ?_)
    · have h := (if_pos c5).symm.trans h
      refine gl_aload_n (gX_LK b) y_203_83 rfl rfl ?_
      refine gl_iconst (gX_LK b) y_203_84 ci_0 rfl ?_
      refine gl_put (sc' := (j_u2 sc 736 11 (0 : Int32))) (gX_LK b) y_203_85 yf_203_47 ys_736 rfl rfl rfl rfl rfl ?_
      exact gl_return y_203_88 yt_203 (by cases h; exact hP)
    · have h := (if_neg c5).symm.trans h
      refine gl_iload_n (gX_LK b) y_203_12 rfl rfl ?_
      refine gl_bipush (gX_LK b) y_203_13 cb_64 rfl ?_
      refine gl_ic_ge (gX_LK b) y_203_15 rfl rfl (fun c6 => ?_) (fun c6 => ?_)
      · have h := (if_pos c6).symm.trans h
        refine gl_aload_n (gX_LK b) y_203_83 rfl rfl ?_
        refine gl_iconst (gX_LK b) y_203_84 ci_0 rfl ?_
        refine gl_put (sc' := (j_u2 sc 736 11 (0 : Int32))) (gX_LK b) y_203_85 yf_203_47 ys_736 rfl rfl rfl rfl rfl ?_
        exact gl_return y_203_88 yt_203 (by cases h; exact hP)
      · have h := (if_neg c6).symm.trans h
        refine gl_iconst (gX_LK b) y_203_18 ci_0 rfl ?_
        refine gl_istore_n (vs2 := [some (.ref 736), some (.int x1), some (.int (0 : Int32)), none]) (gX_LK b) y_203_19 rfl rfl rfl rfl ?_
        refine gl_iconst (gX_LK b) y_203_20 ci_0 rfl ?_
        refine gl_istore_n (vs2 := [some (.ref 736), some (.int x1), some (.int (0 : Int32)), some (.int (0 : Int32))]) (gX_LK b) y_203_21 rfl rfl rfl rfl ?_
        exact gl_weak (vs := [some (.ref 736), some (.int x1), some (.int (0 : Int32)), some (.int (0 : Int32))]) ⟨rfl, rfl, rfl, rfl, trivial⟩ (xt_203_22  ih hP oF x1 (0 : Int32) (0 : Int32) sc mr ar al h)
def xF_203 (sc : jSc) (mr : (Nat → Nat)) (ar : jSc) (al : jAl) : Option (jSc × (Nat → Nat) × jSc × jAl) :=
  xF_203_2 oF (0 : Int32) sc mr ar al
set_option maxHeartbeats 4000000 in
theorem xt_203 {b : Bool} {rf : jRf} {d : Nat} : xT_203 b rf xF_203 (d + 2) := by
  intro  Post  sc mr ar al sc9 mr9 ar9 al9 h hP
  unfold xF_203 at h
  refine gl_entry (m := 3) rfl ?_
  show gL (gX b) 203 (d + 2) 0 [some (.ref 736), none, none, none] [] sc (x_mk mr rf) ar al Post
  refine gl_iconst (gX_LK b) y_203_0 ci_0 rfl ?_
  refine gl_istore_n (vs2 := [some (.ref 736), some (.int (0 : Int32)), none, none]) (gX_LK b) y_203_1 rfl rfl rfl rfl ?_
  exact gl_weak (vs := [some (.ref 736), some (.int (0 : Int32)), none, none]) ⟨rfl, rfl, trivial⟩ (xt_203_2  hP oF (0 : Int32) sc mr ar al h)
/-- ClickOrders$Forms.nextSet(I)I -/
def xT_204 (b : Bool) (rf : jRf) (F : Int32 → jSc → (Nat → Nat) → jSc → jAl → Option (Int32 × jSc × (Nat → Nat) × jSc × jAl)) (e : Nat) : Prop := ∀  (Post : jPo) (x1 : Int32) (sc : jSc) (mr : (Nat → Nat)) (ar : jSc) (al : jAl) (r9 : Int32) (sc9 : jSc) (mr9 : (Nat → Nat)) (ar9 : jSc) (al9 : jAl), F x1 sc mr ar al = some (r9, sc9, mr9, ar9, al9) → Post (some (.int r9)) sc9 (x_mk mr9 rf) ar9 al9 → gW (gX b) 204 e 0 (j_av [.ref 736, .int x1]) [] sc (x_mk mr rf) ar al Post
def xF_204_26 : Nat → Int32 → Int32 → Int32 → jSc → (Nat → Nat) → jSc → jAl → Option (Int32 × jSc × (Nat → Nat) × jSc × jAl)
  | 0, _, _, _, _, _, _, _ => none
  | nn + 1, x2, x3, x4, sc, mr, ar, al => (if ((1 : Int32) <<< ((sc 736 5) &&& 31)) ≤ x4 then some (x3, sc, mr, ar, al) else (if (64 : Int32) ≤ x4 then some (x3, sc, mr, ar, al) else (if iB x4 64 then (if (ar 742 (iN x4)) ≤ x2 then xF_204_26 nn x2 x3 (x4 + (1 : Int32)) sc mr ar al else (if x3 < 0 then xF_204_26 nn x2 x4 (x4 + (1 : Int32)) sc mr ar al else (if iB x4 64 then (if iB x3 64 then (if (ar 742 (iN x3)) ≤ (ar 742 (iN x4)) then xF_204_26 nn x2 x3 (x4 + (1 : Int32)) sc mr ar al else xF_204_26 nn x2 x4 (x4 + (1 : Int32)) sc mr ar al) else none) else none))) else none)))
set_option maxHeartbeats 4000000 in
theorem xt_204_26 {b : Bool} {rf : jRf} {d : Nat} {Post : jPo} {r9 : Int32} {sc9 : jSc} {mr9 : (Nat → Nat)} {ar9 : jSc} {al9 : jAl} (hP : Post (some (.int r9)) sc9 (x_mk mr9 rf) ar9 al9) : ∀ (nn : Nat) (x2 : Int32) (x3 : Int32) (x4 : Int32) (sc : jSc) (mr : (Nat → Nat)) (ar : jSc) (al : jAl), xF_204_26 nn x2 x3 x4 sc mr ar al = some (r9, sc9, mr9, ar9, al9) → gL (gX b) 204 (d + 1) 26 [some (.ref 736), none, some (.int x2), some (.int x3), some (.int x4)] [] sc (x_mk mr rf) ar al Post := by
  intro nn
  induction nn with
  | zero =>
    intro x2 x3 x4 sc mr ar al h
    have h : (none : Option (Int32 × jSc × (Nat → Nat) × jSc × jAl)) = some _ := h
    cases h
  | succ nn ih =>
    intro x2 x3 x4 sc mr ar al h
    unfold xF_204_26 at h
    refine gl_iload (gX_LK b) y_204_26 rfl rfl ?_
    refine gl_iconst (gX_LK b) y_204_28 ci_1 rfl ?_
    refine gl_aload_n (gX_LK b) y_204_29 rfl rfl ?_
    refine gl_get (gX_LK b) y_204_30 yf_204_27 ys_736 rfl rfl rfl rfl ?_
    refine gl_ishl (gX_LK b) y_204_33 rfl ?_
    refine gl_ic_ge (gX_LK b) y_204_34 rfl rfl (fun c1 => ?_) (fun c1 => ?_)
    · have h := (if_pos c1).symm.trans h
      refine gl_iload_n (gX_LK b) y_204_84 rfl rfl ?_
      exact gl_ireturn y_204_85 (Or.inl yt_204) (by cases h; exact hP)
    · have h := (if_neg c1).symm.trans h
      refine gl_iload (gX_LK b) y_204_37 rfl rfl ?_
      refine gl_bipush (gX_LK b) y_204_39 cb_64 rfl ?_
      refine gl_ic_ge (gX_LK b) y_204_41 rfl rfl (fun c2 => ?_) (fun c2 => ?_)
      · have h := (if_pos c2).symm.trans h
        refine gl_iload_n (gX_LK b) y_204_84 rfl rfl ?_
        exact gl_ireturn y_204_85 (Or.inl yt_204) (by cases h; exact hP)
      · have h := (if_neg c2).symm.trans h
        refine gl_aload_n (gX_LK b) y_204_44 rfl rfl ?_
        refine gl_getA (gX_LK b) y_204_45 yf_204_40 ys_736 rfl rfl rfl rfl ?_
        refine gl_iload (gX_LK b) y_204_48 rfl rfl ?_
        obtain ⟨c3, h⟩ := o_ck h
        refine gl_iaload (gX_LK b) y_204_50 ys_742 c3 rfl rfl ?_
        refine gl_iload_n (gX_LK b) y_204_51 rfl rfl ?_
        refine gl_ic_le (gX_LK b) y_204_52 rfl rfl (fun c4 => ?_) (fun c4 => ?_)
        · have h := (if_pos c4).symm.trans h
          refine gl_iinc (vs2 := [some (.ref 736), none, some (.int x2), some (.int x3), some (.int (x4 + (1 : Int32)))]) (gX_LK b) y_204_78 rfl rfl rfl ci_1 rfl rfl ?_
          refine gl_goto (gX_LK b) y_204_81 rfl ?_
          exact gl_weak (vs := [some (.ref 736), none, some (.int x2), some (.int x3), some (.int (x4 + (1 : Int32)))]) ⟨rfl, rfl, rfl, rfl, trivial⟩ (ih x2 x3 (x4 + (1 : Int32)) sc mr ar al h)
        · have h := (if_neg c4).symm.trans h
          refine gl_iload_n (gX_LK b) y_204_55 rfl rfl ?_
          refine gl_if_lt (gX_LK b) y_204_56 rfl rfl (fun c5 => ?_) (fun c5 => ?_)
          · have h := (if_pos c5).symm.trans h
            refine gl_iload (gX_LK b) y_204_75 rfl rfl ?_
            refine gl_istore_n (vs2 := [some (.ref 736), none, some (.int x2), some (.int x4), some (.int x4)]) (gX_LK b) y_204_77 rfl rfl rfl rfl ?_
            refine gl_iinc (vs2 := [some (.ref 736), none, some (.int x2), some (.int x4), some (.int (x4 + (1 : Int32)))]) (gX_LK b) y_204_78 rfl rfl rfl ci_1 rfl rfl ?_
            refine gl_goto (gX_LK b) y_204_81 rfl ?_
            exact gl_weak (vs := [some (.ref 736), none, some (.int x2), some (.int x4), some (.int (x4 + (1 : Int32)))]) ⟨rfl, rfl, rfl, rfl, trivial⟩ (ih x2 x4 (x4 + (1 : Int32)) sc mr ar al h)
          · have h := (if_neg c5).symm.trans h
            refine gl_aload_n (gX_LK b) y_204_59 rfl rfl ?_
            refine gl_getA (gX_LK b) y_204_60 yf_204_40 ys_736 rfl rfl rfl rfl ?_
            refine gl_iload (gX_LK b) y_204_63 rfl rfl ?_
            obtain ⟨c6, h⟩ := o_ck h
            refine gl_iaload (gX_LK b) y_204_65 ys_742 c6 rfl rfl ?_
            refine gl_aload_n (gX_LK b) y_204_66 rfl rfl ?_
            refine gl_getA (gX_LK b) y_204_67 yf_204_40 ys_736 rfl rfl rfl rfl ?_
            refine gl_iload_n (gX_LK b) y_204_70 rfl rfl ?_
            obtain ⟨c7, h⟩ := o_ck h
            refine gl_iaload (gX_LK b) y_204_71 ys_742 c7 rfl rfl ?_
            refine gl_ic_ge (gX_LK b) y_204_72 rfl rfl (fun c8 => ?_) (fun c8 => ?_)
            · have h := (if_pos c8).symm.trans h
              refine gl_iinc (vs2 := [some (.ref 736), none, some (.int x2), some (.int x3), some (.int (x4 + (1 : Int32)))]) (gX_LK b) y_204_78 rfl rfl rfl ci_1 rfl rfl ?_
              refine gl_goto (gX_LK b) y_204_81 rfl ?_
              exact gl_weak (vs := [some (.ref 736), none, some (.int x2), some (.int x3), some (.int (x4 + (1 : Int32)))]) ⟨rfl, rfl, rfl, rfl, trivial⟩ (ih x2 x3 (x4 + (1 : Int32)) sc mr ar al h)
            · have h := (if_neg c8).symm.trans h
              refine gl_iload (gX_LK b) y_204_75 rfl rfl ?_
              refine gl_istore_n (vs2 := [some (.ref 736), none, some (.int x2), some (.int x4), some (.int x4)]) (gX_LK b) y_204_77 rfl rfl rfl rfl ?_
              refine gl_iinc (vs2 := [some (.ref 736), none, some (.int x2), some (.int x4), some (.int (x4 + (1 : Int32)))]) (gX_LK b) y_204_78 rfl rfl rfl ci_1 rfl rfl ?_
              refine gl_goto (gX_LK b) y_204_81 rfl ?_
              exact gl_weak (vs := [some (.ref 736), none, some (.int x2), some (.int x4), some (.int (x4 + (1 : Int32)))]) ⟨rfl, rfl, rfl, rfl, trivial⟩ (ih x2 x4 (x4 + (1 : Int32)) sc mr ar al h)
def xF_204 (x1 : Int32) (sc : jSc) (mr : (Nat → Nat)) (ar : jSc) (al : jAl) : Option (Int32 × jSc × (Nat → Nat) × jSc × jAl) :=
  (if x1 < 0 then xF_204_26 oF (-1 : Int32) (-1 : Int32) (0 : Int32) sc mr ar al else (if x1 < (64 : Int32) then (if iB x1 64 then xF_204_26 oF (ar 742 (iN x1)) (-1 : Int32) (0 : Int32) sc mr ar al else none) else xF_204_26 oF (-1 : Int32) (-1 : Int32) (0 : Int32) sc mr ar al))
set_option maxHeartbeats 4000000 in
theorem xt_204 {b : Bool} {rf : jRf} {d : Nat} : xT_204 b rf xF_204 (d + 1) := by
  intro  Post x1 sc mr ar al r9 sc9 mr9 ar9 al9 h hP
  unfold xF_204 at h
  refine gl_entry (m := 3) rfl ?_
  show gL (gX b) 204 (d + 1) 0 [some (.ref 736), some (.int x1), none, none, none] [] sc (x_mk mr rf) ar al Post
  refine gl_iload_n (gX_LK b) y_204_0 rfl rfl ?_
  refine gl_if_lt (gX_LK b) y_204_1 rfl rfl (fun c9 => ?_) (fun c9 => ?_)
  · have h := (if_pos c9).symm.trans h
    refine gl_iconst (gX_LK b) y_204_10 ci_m1 rfl ?_
    refine gl_goto (gX_LK b) y_204_11 rfl ?_
    refine gl_istore_n (vs2 := [some (.ref 736), some (.int x1), some (.int (-1 : Int32)), none, none]) (gX_LK b) y_204_20 rfl rfl rfl rfl ?_
    refine gl_iconst (gX_LK b) y_204_21 ci_m1 rfl ?_
    refine gl_istore_n (vs2 := [some (.ref 736), some (.int x1), some (.int (-1 : Int32)), some (.int (-1 : Int32)), none]) (gX_LK b) y_204_22 rfl rfl rfl rfl ?_
    refine gl_iconst (gX_LK b) y_204_23 ci_0 rfl ?_
    refine gl_istore (vs2 := [some (.ref 736), some (.int x1), some (.int (-1 : Int32)), some (.int (-1 : Int32)), some (.int (0 : Int32))]) (gX_LK b) y_204_24 rfl rfl rfl rfl ?_
    exact gl_weak (vs := [some (.ref 736), none, some (.int (-1 : Int32)), some (.int (-1 : Int32)), some (.int (0 : Int32))]) ⟨rfl, rfl, rfl, rfl, trivial⟩ (xt_204_26  hP oF (-1 : Int32) (-1 : Int32) (0 : Int32) sc mr ar al h)
  · have h := (if_neg c9).symm.trans h
    refine gl_iload_n (gX_LK b) y_204_4 rfl rfl ?_
    refine gl_bipush (gX_LK b) y_204_5 cb_64 rfl ?_
    refine gl_ic_lt (gX_LK b) y_204_7 rfl rfl (fun c10 => ?_) (fun c10 => ?_)
    · have h := (if_pos c10).symm.trans h
      refine gl_aload_n (gX_LK b) y_204_14 rfl rfl ?_
      refine gl_getA (gX_LK b) y_204_15 yf_204_40 ys_736 rfl rfl rfl rfl ?_
      refine gl_iload_n (gX_LK b) y_204_18 rfl rfl ?_
      obtain ⟨c11, h⟩ := o_ck h
      refine gl_iaload (gX_LK b) y_204_19 ys_742 c11 rfl rfl ?_
      refine gl_istore_n (vs2 := [some (.ref 736), some (.int x1), some (.int (ar 742 (iN x1))), none, none]) (gX_LK b) y_204_20 rfl rfl rfl rfl ?_
      refine gl_iconst (gX_LK b) y_204_21 ci_m1 rfl ?_
      refine gl_istore_n (vs2 := [some (.ref 736), some (.int x1), some (.int (ar 742 (iN x1))), some (.int (-1 : Int32)), none]) (gX_LK b) y_204_22 rfl rfl rfl rfl ?_
      refine gl_iconst (gX_LK b) y_204_23 ci_0 rfl ?_
      refine gl_istore (vs2 := [some (.ref 736), some (.int x1), some (.int (ar 742 (iN x1))), some (.int (-1 : Int32)), some (.int (0 : Int32))]) (gX_LK b) y_204_24 rfl rfl rfl rfl ?_
      exact gl_weak (vs := [some (.ref 736), none, some (.int (ar 742 (iN x1))), some (.int (-1 : Int32)), some (.int (0 : Int32))]) ⟨rfl, rfl, rfl, rfl, trivial⟩ (xt_204_26  hP oF (ar 742 (iN x1)) (-1 : Int32) (0 : Int32) sc mr ar al h)
    · have h := (if_neg c10).symm.trans h
      refine gl_iconst (gX_LK b) y_204_10 ci_m1 rfl ?_
      refine gl_goto (gX_LK b) y_204_11 rfl ?_
      refine gl_istore_n (vs2 := [some (.ref 736), some (.int x1), some (.int (-1 : Int32)), none, none]) (gX_LK b) y_204_20 rfl rfl rfl rfl ?_
      refine gl_iconst (gX_LK b) y_204_21 ci_m1 rfl ?_
      refine gl_istore_n (vs2 := [some (.ref 736), some (.int x1), some (.int (-1 : Int32)), some (.int (-1 : Int32)), none]) (gX_LK b) y_204_22 rfl rfl rfl rfl ?_
      refine gl_iconst (gX_LK b) y_204_23 ci_0 rfl ?_
      refine gl_istore (vs2 := [some (.ref 736), some (.int x1), some (.int (-1 : Int32)), some (.int (-1 : Int32)), some (.int (0 : Int32))]) (gX_LK b) y_204_24 rfl rfl rfl rfl ?_
      exact gl_weak (vs := [some (.ref 736), none, some (.int (-1 : Int32)), some (.int (-1 : Int32)), some (.int (0 : Int32))]) ⟨rfl, rfl, rfl, rfl, trivial⟩ (xt_204_26  hP oF (-1 : Int32) (-1 : Int32) (0 : Int32) sc mr ar al h)
/-- ClickOrders$Forms.isNewWork(I)Z -/
def xT_205 (b : Bool) (rf : jRf) (F : Int32 → jSc → (Nat → Nat) → jSc → jAl → Option (Int32 × jSc × (Nat → Nat) × jSc × jAl)) (e : Nat) : Prop := ∀  (Post : jPo) (x1 : Int32) (sc : jSc) (mr : (Nat → Nat)) (ar : jSc) (al : jAl) (r9 : Int32) (sc9 : jSc) (mr9 : (Nat → Nat)) (ar9 : jSc) (al9 : jAl), F x1 sc mr ar al = some (r9, sc9, mr9, ar9, al9) → Post (some (.int r9)) sc9 (x_mk mr9 rf) ar9 al9 → gW (gX b) 205 e 0 (j_av [.ref 736, .int x1]) [] sc (x_mk mr rf) ar al Post
def xF_205_52 : Nat → Int64 → Int32 → jSc → (Nat → Nat) → jSc → jAl → Option (Int32 × jSc × (Nat → Nat) × jSc × jAl)
  | 0, _, _, _, _, _, _ => none
  | nn + 1, x2, x4, sc, mr, ar, al => (if (sc 736 11) ≤ x4 then (if (64 : Int32) ≤ (sc 736 11) then some ((1 : Int32), sc, mr, ar, al) else (if iB (sc 736 11) 64 then some ((1 : Int32), (j_u2 sc 736 11 ((sc 736 11) + (1 : Int32))), mr, ar, (j_u2 al 743 (iN (sc 736 11)) x2)) else none)) else (if iB x4 64 then (if (lg_cmp (al 743 (iN x4)) x2) = 0 then some ((0 : Int32), sc, mr, ar, al) else xF_205_52 nn x2 (x4 + (1 : Int32)) sc mr ar al) else none))
set_option maxHeartbeats 4000000 in
theorem xt_205_52 {b : Bool} {rf : jRf} {d : Nat} {Post : jPo} {r9 : Int32} {sc9 : jSc} {mr9 : (Nat → Nat)} {ar9 : jSc} {al9 : jAl} (hP : Post (some (.int r9)) sc9 (x_mk mr9 rf) ar9 al9) : ∀ (nn : Nat) (x2 : Int64) (x4 : Int32) (sc : jSc) (mr : (Nat → Nat)) (ar : jSc) (al : jAl), xF_205_52 nn x2 x4 sc mr ar al = some (r9, sc9, mr9, ar9, al9) → gL (gX b) 205 (d + 1) 52 [some (.ref 736), none, some (.long x2), none, some (.int x4)] [] sc (x_mk mr rf) ar al Post := by
  intro nn
  induction nn with
  | zero =>
    intro x2 x4 sc mr ar al h
    have h : (none : Option (Int32 × jSc × (Nat → Nat) × jSc × jAl)) = some _ := h
    cases h
  | succ nn ih =>
    intro x2 x4 sc mr ar al h
    unfold xF_205_52 at h
    refine gl_iload (gX_LK b) y_205_52 rfl rfl ?_
    refine gl_aload_n (gX_LK b) y_205_54 rfl rfl ?_
    refine gl_get (gX_LK b) y_205_55 yf_205_47 ys_736 rfl rfl rfl rfl ?_
    refine gl_ic_ge (gX_LK b) y_205_58 rfl rfl (fun c1 => ?_) (fun c1 => ?_)
    · have h := (if_pos c1).symm.trans h
      refine gl_aload_n (gX_LK b) y_205_81 rfl rfl ?_
      refine gl_get (gX_LK b) y_205_82 yf_205_47 ys_736 rfl rfl rfl rfl ?_
      refine gl_bipush (gX_LK b) y_205_85 cb_64 rfl ?_
      refine gl_ic_ge (gX_LK b) y_205_87 rfl rfl (fun c2 => ?_) (fun c2 => ?_)
      · have h := (if_pos c2).symm.trans h
        refine gl_iconst (gX_LK b) y_205_110 ci_1 rfl ?_
        exact gl_ireturn y_205_111 (Or.inr ⟨yt_205, Or.inr rfl⟩) (by cases h; exact hP)
      · have h := (if_neg c2).symm.trans h
        refine gl_aload_n (gX_LK b) y_205_90 rfl rfl ?_
        refine gl_getA (gX_LK b) y_205_91 yf_205_43 ys_736 rfl rfl rfl rfl ?_
        refine gl_aload_n (gX_LK b) y_205_94 rfl rfl ?_
        refine gl_get (gX_LK b) y_205_95 yf_205_47 ys_736 rfl rfl rfl rfl ?_
        refine gl_lload_n (gX_LK b) y_205_98 rfl rfl ?_
        obtain ⟨c3, h⟩ := o_ck h
        refine gl_lastore (gX_LK b) y_205_99 ys_743 c3 rfl ?_
        refine gl_aload_n (gX_LK b) y_205_100 rfl rfl ?_
        refine gl_dup (gX_LK b) y_205_101 rfl rfl ?_
        refine gl_get (gX_LK b) y_205_102 yf_205_47 ys_736 rfl rfl rfl rfl ?_
        refine gl_iconst (gX_LK b) y_205_105 ci_1 rfl ?_
        refine gl_iadd (gX_LK b) y_205_106 rfl ?_
        refine gl_put (sc' := (j_u2 sc 736 11 ((sc 736 11) + (1 : Int32)))) (gX_LK b) y_205_107 yf_205_47 ys_736 rfl rfl rfl rfl rfl ?_
        refine gl_iconst (gX_LK b) y_205_110 ci_1 rfl ?_
        exact gl_ireturn y_205_111 (Or.inr ⟨yt_205, Or.inr rfl⟩) (by cases h; exact hP)
    · have h := (if_neg c1).symm.trans h
      refine gl_aload_n (gX_LK b) y_205_61 rfl rfl ?_
      refine gl_getA (gX_LK b) y_205_62 yf_205_43 ys_736 rfl rfl rfl rfl ?_
      refine gl_iload (gX_LK b) y_205_65 rfl rfl ?_
      obtain ⟨c4, h⟩ := o_ck h
      refine gl_laload (gX_LK b) y_205_67 ys_743 c4 rfl rfl ?_
      refine gl_lload_n (gX_LK b) y_205_68 rfl rfl ?_
      refine gl_lcmp (gX_LK b) y_205_69 rfl ?_
      refine gl_if_ne (gX_LK b) y_205_70 rfl rfl (fun c5 => ?_) (fun c5 => ?_)
      · have h := (if_pos c5).symm.trans h
        refine gl_iconst (gX_LK b) y_205_73 ci_0 rfl ?_
        exact gl_ireturn y_205_74 (Or.inr ⟨yt_205, Or.inl rfl⟩) (by cases h; exact hP)
      · have h := (if_neg c5).symm.trans h
        refine gl_iinc (vs2 := [some (.ref 736), none, some (.long x2), none, some (.int (x4 + (1 : Int32)))]) (gX_LK b) y_205_75 rfl rfl rfl ci_1 rfl rfl ?_
        refine gl_goto (gX_LK b) y_205_78 rfl ?_
        exact gl_weak (vs := [some (.ref 736), none, some (.long x2), none, some (.int (x4 + (1 : Int32)))]) ⟨rfl, rfl, rfl, trivial⟩ (ih x2 (x4 + (1 : Int32)) sc mr ar al h)
def xF_205_21 : Nat → Int32 → Int64 → Int32 → jSc → (Nat → Nat) → jSc → jAl → Option (Int32 × jSc × (Nat → Nat) × jSc × jAl)
  | 0, _, _, _, _, _, _, _ => none
  | nn + 1, x1, x2, x4, sc, mr, ar, al => (if (8 : Int32) ≤ x4 then xF_205_52 oF x2 (0 : Int32) sc mr ar al else (if iB x4 8 then xF_205_21 nn x1 ((x2 <<< (((4 : Int32)).toInt64 &&& 63)) ||| (((ar 741 (iN x4)) &&& x1)).toInt64) (x4 + (1 : Int32)) sc mr ar al else none))
set_option maxHeartbeats 4000000 in
theorem xt_205_21 {b : Bool} {rf : jRf} {d : Nat} {Post : jPo} {r9 : Int32} {sc9 : jSc} {mr9 : (Nat → Nat)} {ar9 : jSc} {al9 : jAl} (hP : Post (some (.int r9)) sc9 (x_mk mr9 rf) ar9 al9) : ∀ (nn : Nat) (x1 : Int32) (x2 : Int64) (x4 : Int32) (sc : jSc) (mr : (Nat → Nat)) (ar : jSc) (al : jAl), xF_205_21 nn x1 x2 x4 sc mr ar al = some (r9, sc9, mr9, ar9, al9) → gL (gX b) 205 (d + 1) 21 [some (.ref 736), some (.int x1), some (.long x2), none, some (.int x4)] [] sc (x_mk mr rf) ar al Post := by
  intro nn
  induction nn with
  | zero =>
    intro x1 x2 x4 sc mr ar al h
    have h : (none : Option (Int32 × jSc × (Nat → Nat) × jSc × jAl)) = some _ := h
    cases h
  | succ nn ih =>
    intro x1 x2 x4 sc mr ar al h
    unfold xF_205_21 at h
    refine gl_iload (gX_LK b) y_205_21 rfl rfl ?_
    refine gl_bipush (gX_LK b) y_205_23 cb_8 rfl ?_
    refine gl_ic_ge (gX_LK b) y_205_25 rfl rfl (fun c6 => ?_) (fun c6 => ?_)
    · have h := (if_pos c6).symm.trans h
      refine gl_iconst (gX_LK b) y_205_49 ci_0 rfl ?_
      refine gl_istore (vs2 := [some (.ref 736), some (.int x1), some (.long x2), none, some (.int (0 : Int32))]) (gX_LK b) y_205_50 rfl rfl rfl rfl ?_
      exact gl_weak (vs := [some (.ref 736), none, some (.long x2), none, some (.int (0 : Int32))]) ⟨rfl, rfl, rfl, trivial⟩ (xt_205_52  hP oF x2 (0 : Int32) sc mr ar al h)
    · have h := (if_neg c6).symm.trans h
      refine gl_lload_n (gX_LK b) y_205_28 rfl rfl ?_
      refine gl_iconst (gX_LK b) y_205_29 ci_4 rfl ?_
      refine gl_lshl (gX_LK b) y_205_30 rfl ?_
      refine gl_aload_n (gX_LK b) y_205_31 rfl rfl ?_
      refine gl_getA (gX_LK b) y_205_32 yf_205_24 ys_736 rfl rfl rfl rfl ?_
      refine gl_iload (gX_LK b) y_205_35 rfl rfl ?_
      obtain ⟨c7, h⟩ := o_ck h
      refine gl_iaload (gX_LK b) y_205_37 ys_741 c7 rfl rfl ?_
      refine gl_iload_n (gX_LK b) y_205_38 rfl rfl ?_
      refine gl_iand (gX_LK b) y_205_39 rfl ?_
      refine gl_i2l (gX_LK b) y_205_40 rfl ?_
      refine gl_lor (gX_LK b) y_205_41 rfl ?_
      refine gl_lstore_n (vs2 := [some (.ref 736), some (.int x1), some (.long ((x2 <<< (((4 : Int32)).toInt64 &&& 63)) ||| (((ar 741 (iN x4)) &&& x1)).toInt64)), none, some (.int x4)]) (gX_LK b) y_205_42 rfl rfl rfl rfl ?_
      refine gl_iinc (vs2 := [some (.ref 736), some (.int x1), some (.long ((x2 <<< (((4 : Int32)).toInt64 &&& 63)) ||| (((ar 741 (iN x4)) &&& x1)).toInt64)), none, some (.int (x4 + (1 : Int32)))]) (gX_LK b) y_205_43 rfl rfl rfl ci_1 rfl rfl ?_
      refine gl_goto (gX_LK b) y_205_46 rfl ?_
      exact gl_weak (vs := [some (.ref 736), some (.int x1), some (.long ((x2 <<< (((4 : Int32)).toInt64 &&& 63)) ||| (((ar 741 (iN x4)) &&& x1)).toInt64)), none, some (.int (x4 + (1 : Int32)))]) ⟨rfl, rfl, rfl, rfl, trivial⟩ (ih x1 ((x2 <<< (((4 : Int32)).toInt64 &&& 63)) ||| (((ar 741 (iN x4)) &&& x1)).toInt64) (x4 + (1 : Int32)) sc mr ar al h)
def xF_205 (x1 : Int32) (sc : jSc) (mr : (Nat → Nat)) (ar : jSc) (al : jAl) : Option (Int32 × jSc × (Nat → Nat) × jSc × jAl) :=
  xF_205_21 oF x1 (((((sc 736 7) &&& x1)).toInt64 <<< (((4 : Int32)).toInt64 &&& 63)) ||| (((sc 736 8) &&& x1)).toInt64) (0 : Int32) sc mr ar al
set_option maxHeartbeats 4000000 in
theorem xt_205 {b : Bool} {rf : jRf} {d : Nat} : xT_205 b rf xF_205 (d + 1) := by
  intro  Post x1 sc mr ar al r9 sc9 mr9 ar9 al9 h hP
  unfold xF_205 at h
  refine gl_entry (m := 3) rfl ?_
  show gL (gX b) 205 (d + 1) 0 [some (.ref 736), some (.int x1), none, none, none] [] sc (x_mk mr rf) ar al Post
  refine gl_aload_n (gX_LK b) y_205_0 rfl rfl ?_
  refine gl_get (gX_LK b) y_205_1 yf_205_34 ys_736 rfl rfl rfl rfl ?_
  refine gl_iload_n (gX_LK b) y_205_4 rfl rfl ?_
  refine gl_iand (gX_LK b) y_205_5 rfl ?_
  refine gl_i2l (gX_LK b) y_205_6 rfl ?_
  refine gl_iconst (gX_LK b) y_205_7 ci_4 rfl ?_
  refine gl_lshl (gX_LK b) y_205_8 rfl ?_
  refine gl_aload_n (gX_LK b) y_205_9 rfl rfl ?_
  refine gl_get (gX_LK b) y_205_10 yf_205_37 ys_736 rfl rfl rfl rfl ?_
  refine gl_iload_n (gX_LK b) y_205_13 rfl rfl ?_
  refine gl_iand (gX_LK b) y_205_14 rfl ?_
  refine gl_i2l (gX_LK b) y_205_15 rfl ?_
  refine gl_lor (gX_LK b) y_205_16 rfl ?_
  refine gl_lstore_n (vs2 := [some (.ref 736), some (.int x1), some (.long (((((sc 736 7) &&& x1)).toInt64 <<< (((4 : Int32)).toInt64 &&& 63)) ||| (((sc 736 8) &&& x1)).toInt64)), none, none]) (gX_LK b) y_205_17 rfl rfl rfl rfl ?_
  refine gl_iconst (gX_LK b) y_205_18 ci_0 rfl ?_
  refine gl_istore (vs2 := [some (.ref 736), some (.int x1), some (.long (((((sc 736 7) &&& x1)).toInt64 <<< (((4 : Int32)).toInt64 &&& 63)) ||| (((sc 736 8) &&& x1)).toInt64)), none, some (.int (0 : Int32))]) (gX_LK b) y_205_19 rfl rfl rfl rfl ?_
  exact gl_weak (vs := [some (.ref 736), some (.int x1), some (.long (((((sc 736 7) &&& x1)).toInt64 <<< (((4 : Int32)).toInt64 &&& 63)) ||| (((sc 736 8) &&& x1)).toInt64)), none, some (.int (0 : Int32))]) ⟨rfl, rfl, rfl, rfl, trivial⟩ (xt_205_21  hP oF x1 (((((sc 736 7) &&& x1)).toInt64 <<< (((4 : Int32)).toInt64 &&& 63)) ||| (((sc 736 8) &&& x1)).toInt64) (0 : Int32) sc mr ar al h)
