/-! ClickOrders: its methods as functions, and that the machine does what they say. -/
/-- java/util/Arrays.rangeCheck(III)V -/
def xT_502 (b : Bool) (rf : jRf) (F : Int32 → Int32 → Int32 → jSc → (Nat → Nat) → jSc → jAl → Option (jSc × (Nat → Nat) × jSc × jAl)) (e : Nat) : Prop := ∀  (Post : jPo) (x1 : Int32) (x2 : Int32) (x3 : Int32) (sc : jSc) (mr : (Nat → Nat)) (ar : jSc) (al : jAl) (sc9 : jSc) (mr9 : (Nat → Nat)) (ar9 : jSc) (al9 : jAl), F x1 x2 x3 sc mr ar al = some (sc9, mr9, ar9, al9) → Post none sc9 (x_mk mr9 rf) ar9 al9 → gW (gX b) 502 e 0 (j_av [.int x1, .int x2, .int x3]) [] sc (x_mk mr rf) ar al Post
def xF_502 (x1 : Int32) (x2 : Int32) (x3 : Int32) (sc : jSc) (mr : (Nat → Nat)) (ar : jSc) (al : jAl) : Option (jSc × (Nat → Nat) × jSc × jAl) :=
  (if x2 ≤ x3 then (if 0 ≤ x2 then (if x3 ≤ x1 then some (sc, mr, ar, al) else none) else none) else none)
set_option maxHeartbeats 4000000 in
theorem xt_502 {b : Bool} {rf : jRf} {d : Nat} : xT_502 b rf xF_502 (d + 1) := by
  intro  Post x1 x2 x3 sc mr ar al sc9 mr9 ar9 al9 h hP
  unfold xF_502 at h
  refine gl_entry (m := 0) rfl ?_
  show gL (gX b) 502 (d + 1) 0 [some (.int x1), some (.int x2), some (.int x3)] [] sc (x_mk mr rf) ar al Post
  refine gl_iload_n (gX_LK b) y_502_0 rfl rfl ?_
  refine gl_iload_n (gX_LK b) y_502_1 rfl rfl ?_
  refine gl_ic_le (gX_LK b) y_502_2 rfl rfl (fun c1 => ?_) (fun c1 => ?_)
  · have h := (if_pos c1).symm.trans h
    refine gl_iload_n (gX_LK b) y_502_46 rfl rfl ?_
    refine gl_if_ge (gX_LK b) y_502_47 rfl rfl (fun c2 => ?_) (fun c2 => ?_)
    · have h := (if_pos c2).symm.trans h
      refine gl_iload_n (gX_LK b) y_502_59 rfl rfl ?_
      refine gl_iload_n (gX_LK b) y_502_60 rfl rfl ?_
      refine gl_ic_le (gX_LK b) y_502_61 rfl rfl (fun c3 => ?_) (fun c3 => ?_)
      · have h := (if_pos c3).symm.trans h
        exact gl_return y_502_73 yt_502 (by cases h; exact hP)
      · have h := (if_neg c3).symm.trans h
        cases h
    · have h := (if_neg c2).symm.trans h
      cases h
  · have h := (if_neg c1).symm.trans h
    cases h
/-- java/util/Arrays.fill([IIII)V -/
def xT_504 (b : Bool) (rf : jRf) (F : Nat → Nat → Int32 → Int32 → Int32 → jSc → (Nat → Nat) → jSc → jAl → Option (jSc × (Nat → Nat) × jSc × jAl)) (e : Nat) : Prop := ∀  (Post : jPo) (p1 : Nat) (n1 : Nat) (x2 : Int32) (x3 : Int32) (x4 : Int32) (hp1 : (g_L (gX b)).1 p1 = .inr (0, n1)) (sc : jSc) (mr : (Nat → Nat)) (ar : jSc) (al : jAl) (sc9 : jSc) (mr9 : (Nat → Nat)) (ar9 : jSc) (al9 : jAl), F p1 n1 x2 x3 x4 sc mr ar al = some (sc9, mr9, ar9, al9) → Post none sc9 (x_mk mr9 rf) ar9 al9 → gW (gX b) 504 e 0 (j_av [.ref p1, .int x2, .int x3, .int x4]) [] sc (x_mk mr rf) ar al Post
def xF_504_10 : Nat → Nat → Nat → Int32 → Int32 → Int32 → jSc → (Nat → Nat) → jSc → jAl → Option (jSc × (Nat → Nat) × jSc × jAl)
  | 0, _, _, _, _, _, _, _, _, _ => none
  | nn + 1, p0, n0, x2, x3, x4, sc, mr, ar, al => (if x2 ≤ x4 then some (sc, mr, ar, al) else (if iB x4 n0 then xF_504_10 nn p0 n0 x2 x3 (x4 + (1 : Int32)) sc mr (j_u2 ar p0 (iN x4) x3) al else none))
set_option maxHeartbeats 4000000 in
theorem xt_504_10 {b : Bool} {rf : jRf} {d : Nat} {Post : jPo} {sc9 : jSc} {mr9 : (Nat → Nat)} {ar9 : jSc} {al9 : jAl} (hP : Post none sc9 (x_mk mr9 rf) ar9 al9) : ∀ (nn : Nat) (p0 : Nat) (n0 : Nat) (x2 : Int32) (x3 : Int32) (x4 : Int32) (sc : jSc) (mr : (Nat → Nat)) (ar : jSc) (al : jAl), (g_L (gX b)).1 p0 = .inr (0, n0) → xF_504_10 nn p0 n0 x2 x3 x4 sc mr ar al = some (sc9, mr9, ar9, al9) → gL (gX b) 504 (d + 2) 10 [some (.ref p0), none, some (.int x2), some (.int x3), some (.int x4)] [] sc (x_mk mr rf) ar al Post := by
  intro nn
  induction nn with
  | zero =>
    intro p0 n0 x2 x3 x4 sc mr ar al hp0 h
    have h : (none : Option (jSc × (Nat → Nat) × jSc × jAl)) = some _ := h
    cases h
  | succ nn ih =>
    intro p0 n0 x2 x3 x4 sc mr ar al hp0 h
    unfold xF_504_10 at h
    refine gl_iload (gX_LK b) y_504_10 rfl rfl ?_
    refine gl_iload_n (gX_LK b) y_504_12 rfl rfl ?_
    refine gl_ic_ge (gX_LK b) y_504_13 rfl rfl (fun c1 => ?_) (fun c1 => ?_)
    · have h := (if_pos c1).symm.trans h
      exact gl_return y_504_27 yt_504 (by cases h; exact hP)
    · have h := (if_neg c1).symm.trans h
      refine gl_aload_n (gX_LK b) y_504_16 rfl rfl ?_
      refine gl_iload (gX_LK b) y_504_17 rfl rfl ?_
      refine gl_iload_n (gX_LK b) y_504_19 rfl rfl ?_
      obtain ⟨c2, h⟩ := o_ck h
      refine gl_iastore (ar2 := (j_u2 ar p0 (iN x4) x3)) (gX_LK b) y_504_20 hp0 c2 rfl rfl ?_
      refine gl_iinc (vs2 := [some (.ref p0), none, some (.int x2), some (.int x3), some (.int (x4 + (1 : Int32)))]) (gX_LK b) y_504_21 rfl rfl rfl ci_1 rfl rfl ?_
      refine gl_goto (gX_LK b) y_504_24 rfl ?_
      exact gl_weak (vs := [some (.ref p0), none, some (.int x2), some (.int x3), some (.int (x4 + (1 : Int32)))]) ⟨rfl, rfl, rfl, rfl, trivial⟩ (ih p0 n0 x2 x3 (x4 + (1 : Int32)) sc mr (j_u2 ar p0 (iN x4) x3) al hp0 h)
def xF_504 (p1 : Nat) (n1 : Nat) (x2 : Int32) (x3 : Int32) (x4 : Int32) (sc : jSc) (mr : (Nat → Nat)) (ar : jSc) (al : jAl) : Option (jSc × (Nat → Nat) × jSc × jAl) :=
  (o_b4 (xF_502 (Int32.ofNat n1) x2 x3 sc mr ar al) (fun sce3 mre3 are3 ale3 => xF_504_10 oF p1 n1 x3 x4 x2 sce3 mre3 are3 ale3))
set_option maxHeartbeats 4000000 in
theorem xt_504 {b : Bool} {rf : jRf} {d : Nat} : xT_504 b rf xF_504 (d + 2) := by
  intro  Post p1 n1 x2 x3 x4 hp1 sc mr ar al sc9 mr9 ar9 al9 h hP
  unfold xF_504 at h
  refine gl_entry (m := 1) rfl ?_
  show gL (gX b) 504 (d + 2) 0 [some (.ref p1), some (.int x2), some (.int x3), some (.int x4), none] [] sc (x_mk mr rf) ar al Post
  refine gl_aload_n (gX_LK b) y_504_0 rfl rfl ?_
  refine gl_arraylength (gX_LK b) y_504_1 hp1 (Or.inl (by decide)) rfl ?_
  refine gl_iload_n (gX_LK b) y_504_2 rfl rfl ?_
  refine gl_iload_n (gX_LK b) y_504_3 rfl rfl ?_
  obtain ⟨sce3, mre3, are3, ale3, e3, h⟩ := o_k4 h
  refine gl_callS y_504_4 ym_504_13 rfl rfl rfl yx_502 rfl rfl ((xt_502 )  _ _ _ _ _ _ _ _ _ _ _ _ e3 ?_)
  refine gl_iload_n (gX_LK b) y_504_7 rfl rfl ?_
  refine gl_istore (vs2 := [some (.ref p1), some (.int x2), some (.int x3), some (.int x4), some (.int x2)]) (gX_LK b) y_504_8 rfl rfl rfl rfl ?_
  exact gl_weak (vs := [some (.ref p1), none, some (.int x3), some (.int x4), some (.int x2)]) ⟨rfl, rfl, rfl, rfl, trivial⟩ (xt_504_10  hP oF p1 n1 x3 x4 x2 sce3 mre3 are3 ale3 hp1 h)
/-- ClickOrders$Search.stuckCount(II)I -/
def xT_288 (b : Bool) (rf : jRf) (F : Int32 → Int32 → jSc → (Nat → Nat) → jSc → jAl → Option (Int32 × jSc × (Nat → Nat) × jSc × jAl)) (e : Nat) : Prop := ∀  (Post : jPo) (x1 : Int32) (x2 : Int32) (sc : jSc) (mr : (Nat → Nat)) (ar : jSc) (al : jAl) (r9 : Int32) (sc9 : jSc) (mr9 : (Nat → Nat)) (ar9 : jSc) (al9 : jAl), F x1 x2 sc mr ar al = some (r9, sc9, mr9, ar9, al9) → Post (some (.int r9)) sc9 (x_mk mr9 rf) ar9 al9 → gW (gX b) 288 e 0 (j_av [.ref 773, .int x1, .int x2]) [] sc (x_mk mr rf) ar al Post
def xF_288_53 : Nat → Int32 → Int32 → Int32 → Int32 → jSc → (Nat → Nat) → jSc → jAl → Option (Int32 × jSc × (Nat → Nat) × jSc × jAl)
  | 0, _, _, _, _, _, _, _, _ => none
  | nn + 1, x1, x2, x3, x4, sc, mr, ar, al => (if (sc 773 0) ≤ x4 then some (x3, sc, mr, ar, al) else (if x2 ≤ x3 then some (x3, sc, mr, ar, al) else (o_b5 ((xG_296 40) x4 x1 sc mr ar al) (fun ve3 sce3 mre3 are3 ale3 => (if ve3 = 0 then xF_288_53 nn x1 x2 (x3 + (1 : Int32)) (x4 + (1 : Int32)) sce3 mre3 are3 ale3 else xF_288_53 nn x1 x2 x3 (x4 + (1 : Int32)) sce3 mre3 are3 ale3)))))
set_option maxHeartbeats 4000000 in
theorem xt_288_53 {b : Bool} {rf : jRf} {d : Nat} {Post : jPo} {r9 : Int32} {sc9 : jSc} {mr9 : (Nat → Nat)} {ar9 : jSc} {al9 : jAl} (hP : Post (some (.int r9)) sc9 (x_mk mr9 rf) ar9 al9) : ∀ (nn : Nat) (x1 : Int32) (x2 : Int32) (x3 : Int32) (x4 : Int32) (sc : jSc) (mr : (Nat → Nat)) (ar : jSc) (al : jAl), xF_288_53 nn x1 x2 x3 x4 sc mr ar al = some (r9, sc9, mr9, ar9, al9) → gL (gX b) 288 (d + 85) 53 [some (.ref 773), some (.int x1), some (.int x2), some (.int x3), some (.int x4)] [] sc (x_mk mr rf) ar al Post := by
  intro nn
  induction nn with
  | zero =>
    intro x1 x2 x3 x4 sc mr ar al h
    have h : (none : Option (Int32 × jSc × (Nat → Nat) × jSc × jAl)) = some _ := h
    cases h
  | succ nn ih =>
    intro x1 x2 x3 x4 sc mr ar al h
    unfold xF_288_53 at h
    refine gl_iload (gX_LK b) y_288_53 rfl rfl ?_
    refine gl_aload_n (gX_LK b) y_288_55 rfl rfl ?_
    refine gl_get (gX_LK b) y_288_56 yf_288_9 ys_773 rfl rfl rfl rfl ?_
    refine gl_ic_ge (gX_LK b) y_288_59 rfl rfl (fun c1 => ?_) (fun c1 => ?_)
    · have h := (if_pos c1).symm.trans h
      refine gl_iload_n (gX_LK b) y_288_86 rfl rfl ?_
      exact gl_ireturn y_288_87 (Or.inl yt_288) (by cases h; exact hP)
    · have h := (if_neg c1).symm.trans h
      refine gl_iload_n (gX_LK b) y_288_62 rfl rfl ?_
      refine gl_iload_n (gX_LK b) y_288_63 rfl rfl ?_
      refine gl_ic_ge (gX_LK b) y_288_64 rfl rfl (fun c2 => ?_) (fun c2 => ?_)
      · have h := (if_pos c2).symm.trans h
        refine gl_iload_n (gX_LK b) y_288_86 rfl rfl ?_
        exact gl_ireturn y_288_87 (Or.inl yt_288) (by cases h; exact hP)
      · have h := (if_neg c2).symm.trans h
        refine gl_aload_n (gX_LK b) y_288_67 rfl rfl ?_
        refine gl_iload (gX_LK b) y_288_68 rfl rfl ?_
        refine gl_iload_n (gX_LK b) y_288_70 rfl rfl ?_
        obtain ⟨ve3, sce3, mre3, are3, ale3, e3, h⟩ := o_k5 h
        refine gl_callV (gX_LK b) y_288_71 ym_288_138 rfl rfl rfl ys_773 yx_296 rfl rfl (((xtG_296  40))  _ _ _ _ _ _ _ _ _ _ _ _ e3 ?_)
        refine gl_if_ne (gX_LK b) y_288_74 rfl rfl (fun c4 => ?_) (fun c4 => ?_)
        · have h := (if_pos c4).symm.trans h
          refine gl_iinc (vs2 := [some (.ref 773), some (.int x1), some (.int x2), some (.int (x3 + (1 : Int32))), some (.int x4)]) (gX_LK b) y_288_77 rfl rfl rfl ci_1 rfl rfl ?_
          refine gl_iinc (vs2 := [some (.ref 773), some (.int x1), some (.int x2), some (.int (x3 + (1 : Int32))), some (.int (x4 + (1 : Int32)))]) (gX_LK b) y_288_80 rfl rfl rfl ci_1 rfl rfl ?_
          refine gl_goto (gX_LK b) y_288_83 rfl ?_
          exact gl_weak (vs := [some (.ref 773), some (.int x1), some (.int x2), some (.int (x3 + (1 : Int32))), some (.int (x4 + (1 : Int32)))]) ⟨rfl, rfl, rfl, rfl, rfl, trivial⟩ (ih x1 x2 (x3 + (1 : Int32)) (x4 + (1 : Int32)) sce3 mre3 are3 ale3 h)
        · have h := (if_neg c4).symm.trans h
          refine gl_iinc (vs2 := [some (.ref 773), some (.int x1), some (.int x2), some (.int x3), some (.int (x4 + (1 : Int32)))]) (gX_LK b) y_288_80 rfl rfl rfl ci_1 rfl rfl ?_
          refine gl_goto (gX_LK b) y_288_83 rfl ?_
          exact gl_weak (vs := [some (.ref 773), some (.int x1), some (.int x2), some (.int x3), some (.int (x4 + (1 : Int32)))]) ⟨rfl, rfl, rfl, rfl, rfl, trivial⟩ (ih x1 x2 x3 (x4 + (1 : Int32)) sce3 mre3 are3 ale3 h)
def xF_288 (x1 : Int32) (x2 : Int32) (sc : jSc) (mr : (Nat → Nat)) (ar : jSc) (al : jAl) : Option (Int32 × jSc × (Nat → Nat) × jSc × jAl) :=
  (if x_pr (mr 3) = true then (if 0 ≤ (sc (mr 3) 8) then (o_b4 (xF_504 793 2048 (0 : Int32) (sc 774 0) (9 : Int32) sc mr ar al) (fun sce7 mre7 are7 ale7 => (o_b4 (xF_504 794 2048 (0 : Int32) (sce7 774 0) (-1 : Int32) sce7 mre7 are7 ale7) (fun sce8 mre8 are8 ale8 => xF_288_53 oF x1 x2 (0 : Int32) (0 : Int32) sce8 mre8 are8 ale8)))) else some ((0 : Int32), sc, mr, ar, al)) else none)
set_option maxHeartbeats 4000000 in
theorem xt_288 {b : Bool} {rf : jRf} {d : Nat} : xT_288 b rf xF_288 (d + 85) := by
  intro  Post x1 x2 sc mr ar al r9 sc9 mr9 ar9 al9 h hP
  unfold xF_288 at h
  refine gl_entry (m := 2) rfl ?_
  show gL (gX b) 288 (d + 85) 0 [some (.ref 773), some (.int x1), some (.int x2), none, none] [] sc (x_mk mr rf) ar al Post
  refine gl_aload_n (gX_LK b) y_288_0 rfl rfl ?_
  refine gl_getA (gX_LK b) y_288_1 yf_288_78 ys_773 rfl rfl rfl rfl ?_
  obtain ⟨c5, h⟩ := o_ck h
  refine gl_getA (gX_LK b) y_288_4 yf_288_123 ys_757 rfl rfl rfl rfl ?_
  refine gl_get (gX_LK b) y_288_7 yf_288_127 (ys_pr c5) rfl rfl rfl rfl ?_
  refine gl_if_ge (gX_LK b) y_288_10 rfl rfl (fun c6 => ?_) (fun c6 => ?_)
  · have h := (if_pos c6).symm.trans h
    refine gl_aload_n (gX_LK b) y_288_15 rfl rfl ?_
    refine gl_getA (gX_LK b) y_288_16 yf_288_54 ys_773 rfl rfl rfl rfl ?_
    refine gl_iconst (gX_LK b) y_288_19 ci_0 rfl ?_
    refine gl_aload_n (gX_LK b) y_288_20 rfl rfl ?_
    refine gl_getA (gX_LK b) y_288_21 yf_288_22 ys_773 rfl rfl rfl rfl ?_
    refine gl_get (gX_LK b) y_288_24 yf_288_108 ys_774 rfl rfl rfl rfl ?_
    refine gl_bipush (gX_LK b) y_288_27 cb_9 rfl ?_
    obtain ⟨sce7, mre7, are7, ale7, e7, h⟩ := o_k4 h
    refine gl_callS y_288_29 ym_288_132 rfl rfl rfl yx_504 rfl rfl ((xt_504 )  _ _ _ _ _ _ ys_793 _ _ _ _ _ _ _ _ e7 ?_)
    refine gl_aload_n (gX_LK b) y_288_32 rfl rfl ?_
    refine gl_getA (gX_LK b) y_288_33 yf_288_57 ys_773 rfl rfl rfl rfl ?_
    refine gl_iconst (gX_LK b) y_288_36 ci_0 rfl ?_
    refine gl_aload_n (gX_LK b) y_288_37 rfl rfl ?_
    refine gl_getA (gX_LK b) y_288_38 yf_288_22 ys_773 rfl rfl rfl rfl ?_
    refine gl_get (gX_LK b) y_288_41 yf_288_108 ys_774 rfl rfl rfl rfl ?_
    refine gl_iconst (gX_LK b) y_288_44 ci_m1 rfl ?_
    obtain ⟨sce8, mre8, are8, ale8, e8, h⟩ := o_k4 h
    refine gl_callS y_288_45 ym_288_132 rfl rfl rfl yx_504 rfl rfl ((xt_504 )  _ _ _ _ _ _ ys_794 _ _ _ _ _ _ _ _ e8 ?_)
    refine gl_iconst (gX_LK b) y_288_48 ci_0 rfl ?_
    refine gl_istore_n (vs2 := [some (.ref 773), some (.int x1), some (.int x2), some (.int (0 : Int32)), none]) (gX_LK b) y_288_49 rfl rfl rfl rfl ?_
    refine gl_iconst (gX_LK b) y_288_50 ci_0 rfl ?_
    refine gl_istore (vs2 := [some (.ref 773), some (.int x1), some (.int x2), some (.int (0 : Int32)), some (.int (0 : Int32))]) (gX_LK b) y_288_51 rfl rfl rfl rfl ?_
    exact gl_weak (vs := [some (.ref 773), some (.int x1), some (.int x2), some (.int (0 : Int32)), some (.int (0 : Int32))]) ⟨rfl, rfl, rfl, rfl, rfl, trivial⟩ (xt_288_53  hP oF x1 x2 (0 : Int32) (0 : Int32) sce8 mre8 are8 ale8 h)
  · have h := (if_neg c6).symm.trans h
    refine gl_iconst (gX_LK b) y_288_13 ci_0 rfl ?_
    exact gl_ireturn y_288_14 (Or.inl yt_288) (by cases h; exact hP)
/-- ClickOrders$Search.spoilsAgain()Z -/
def xT_290 (b : Bool) (rf : jRf) (F : jSc → (Nat → Nat) → jSc → jAl → Option (Int32 × jSc × (Nat → Nat) × jSc × jAl)) (e : Nat) : Prop := ∀  (Post : jPo) (sc : jSc) (mr : (Nat → Nat)) (ar : jSc) (al : jAl) (r9 : Int32) (sc9 : jSc) (mr9 : (Nat → Nat)) (ar9 : jSc) (al9 : jAl), F sc mr ar al = some (r9, sc9, mr9, ar9, al9) → Post (some (.int r9)) sc9 (x_mk mr9 rf) ar9 al9 → gW (gX b) 290 e 0 (j_av [.ref 773]) [] sc (x_mk mr rf) ar al Post
def xF_290_13 : Nat → Int32 → jSc → (Nat → Nat) → jSc → jAl → Option (Int32 × jSc × (Nat → Nat) × jSc × jAl)
  | 0, _, _, _, _, _ => none
  | nn + 1, x1, sc, mr, ar, al => (if (sc 773 18) ≤ x1 then (o_b5 (xF_210 780 sc mr ar al) (fun ve2 sce2 mre2 are2 ale2 => (if ve2 = 0 ∨ ve2 = 1 then some (ve2, sce2, mre2, are2, ale2) else none))) else (if iB x1 8 then (o_b5 (xF_206 780 (ar 795 (iN x1)) sc mr ar al) (fun ve5 sce5 mre5 are5 ale5 => (if ve5 = 0 then xF_290_13 nn (x1 + (1 : Int32)) sce5 mre5 are5 ale5 else (if iB x1 8 then (o_b5 (xF_209 780 (are5 795 (iN x1)) (-1 : Int32) sce5 mre5 are5 ale5) (fun ve8 sce8 mre8 are8 ale8 => xF_290_13 nn (x1 + (1 : Int32)) sce8 mre8 are8 ale8)) else none)))) else none))
set_option maxHeartbeats 4000000 in
theorem xt_290_13 {b : Bool} {rf : jRf} {d : Nat} {Post : jPo} {r9 : Int32} {sc9 : jSc} {mr9 : (Nat → Nat)} {ar9 : jSc} {al9 : jAl} (hP : Post (some (.int r9)) sc9 (x_mk mr9 rf) ar9 al9) : ∀ (nn : Nat) (x1 : Int32) (sc : jSc) (mr : (Nat → Nat)) (ar : jSc) (al : jAl), xF_290_13 nn x1 sc mr ar al = some (r9, sc9, mr9, ar9, al9) → gL (gX b) 290 (d + 5) 13 [some (.ref 773), some (.int x1)] [] sc (x_mk mr rf) ar al Post := by
  intro nn
  induction nn with
  | zero =>
    intro x1 sc mr ar al h
    have h : (none : Option (Int32 × jSc × (Nat → Nat) × jSc × jAl)) = some _ := h
    cases h
  | succ nn ih =>
    intro x1 sc mr ar al h
    unfold xF_290_13 at h
    refine gl_iload_n (gX_LK b) y_290_13 rfl rfl ?_
    refine gl_aload_n (gX_LK b) y_290_14 rfl rfl ?_
    refine gl_get (gX_LK b) y_290_15 yf_290_75 ys_773 rfl rfl rfl rfl ?_
    refine gl_ic_ge (gX_LK b) y_290_18 rfl rfl (fun c1 => ?_) (fun c1 => ?_)
    · have h := (if_pos c1).symm.trans h
      refine gl_aload_n (gX_LK b) y_290_66 rfl rfl ?_
      refine gl_getA (gX_LK b) y_290_67 yf_290_78 ys_773 rfl rfl rfl rfl ?_
      refine gl_aload_n (gX_LK b) y_290_70 rfl rfl ?_
      refine gl_getA (gX_LK b) y_290_71 yf_290_33 ys_773 rfl rfl rfl rfl ?_
      obtain ⟨ve2, sce2, mre2, are2, ale2, e2, h⟩ := o_k5 h
      refine gl_callV (gX_LK b) y_290_74 ym_290_104 rfl rfl rfl ys_757 yx_210 rfl rfl ((xt_210 )  _ _ (show x_pg 780 = true from rfl) _ _ _ _ _ _ _ _ _ e2 ?_)
      obtain ⟨c3, h⟩ := o_ck h
      exact gl_ireturn y_290_77 (Or.inr ⟨yt_290, c3⟩) (by cases h; exact hP)
    · have h := (if_neg c1).symm.trans h
      refine gl_aload_n (gX_LK b) y_290_21 rfl rfl ?_
      refine gl_getA (gX_LK b) y_290_22 yf_290_78 ys_773 rfl rfl rfl rfl ?_
      refine gl_aload_n (gX_LK b) y_290_25 rfl rfl ?_
      refine gl_getA (gX_LK b) y_290_26 yf_290_33 ys_773 rfl rfl rfl rfl ?_
      refine gl_aload_n (gX_LK b) y_290_29 rfl rfl ?_
      refine gl_getA (gX_LK b) y_290_30 yf_290_72 ys_773 rfl rfl rfl rfl ?_
      refine gl_iload_n (gX_LK b) y_290_33 rfl rfl ?_
      obtain ⟨c4, h⟩ := o_ck h
      refine gl_iaload (gX_LK b) y_290_34 ys_795 c4 rfl rfl ?_
      obtain ⟨ve5, sce5, mre5, are5, ale5, e5, h⟩ := o_k5 h
      refine gl_callV (gX_LK b) y_290_35 ym_290_155 rfl rfl rfl ys_757 yx_206 rfl rfl ((xt_206 )  _ _ _ (show x_pg 780 = true from rfl) _ _ _ _ _ _ _ _ _ e5 ?_)
      refine gl_if_eq (gX_LK b) y_290_38 rfl rfl (fun c6 => ?_) (fun c6 => ?_)
      · have h := (if_pos c6).symm.trans h
        refine gl_iinc (vs2 := [some (.ref 773), some (.int (x1 + (1 : Int32)))]) (gX_LK b) y_290_60 rfl rfl rfl ci_1 rfl rfl ?_
        refine gl_goto (gX_LK b) y_290_63 rfl ?_
        exact gl_weak (vs := [some (.ref 773), some (.int (x1 + (1 : Int32)))]) ⟨rfl, rfl, trivial⟩ (ih (x1 + (1 : Int32)) sce5 mre5 are5 ale5 h)
      · have h := (if_neg c6).symm.trans h
        refine gl_aload_n (gX_LK b) y_290_41 rfl rfl ?_
        refine gl_getA (gX_LK b) y_290_42 yf_290_78 ys_773 rfl rfl rfl rfl ?_
        refine gl_aload_n (gX_LK b) y_290_45 rfl rfl ?_
        refine gl_getA (gX_LK b) y_290_46 yf_290_33 ys_773 rfl rfl rfl rfl ?_
        refine gl_aload_n (gX_LK b) y_290_49 rfl rfl ?_
        refine gl_getA (gX_LK b) y_290_50 yf_290_72 ys_773 rfl rfl rfl rfl ?_
        refine gl_iload_n (gX_LK b) y_290_53 rfl rfl ?_
        obtain ⟨c7, h⟩ := o_ck h
        refine gl_iaload (gX_LK b) y_290_54 ys_795 c7 rfl rfl ?_
        refine gl_iconst (gX_LK b) y_290_55 ci_m1 rfl ?_
        obtain ⟨ve8, sce8, mre8, are8, ale8, e8, h⟩ := o_k5 h
        refine gl_callV (gX_LK b) y_290_56 ym_290_159 rfl rfl rfl ys_757 yx_209 rfl rfl ((xt_209 )  _ _ _ _ (show x_pg 780 = true from rfl) _ _ _ _ _ _ _ _ _ e8 ?_)
        refine gl_pop (gX_LK b) y_290_59 rfl rfl ?_
        refine gl_iinc (vs2 := [some (.ref 773), some (.int (x1 + (1 : Int32)))]) (gX_LK b) y_290_60 rfl rfl rfl ci_1 rfl rfl ?_
        refine gl_goto (gX_LK b) y_290_63 rfl ?_
        exact gl_weak (vs := [some (.ref 773), some (.int (x1 + (1 : Int32)))]) ⟨rfl, rfl, trivial⟩ (ih (x1 + (1 : Int32)) sce8 mre8 are8 ale8 h)
def xF_290 (sc : jSc) (mr : (Nat → Nat)) (ar : jSc) (al : jAl) : Option (Int32 × jSc × (Nat → Nat) × jSc × jAl) :=
  (o_b4 (xF_207 780 sc mr ar al) (fun sce9 mre9 are9 ale9 => xF_290_13 oF (0 : Int32) sce9 mre9 are9 ale9))
set_option maxHeartbeats 4000000 in
theorem xt_290 {b : Bool} {rf : jRf} {d : Nat} : xT_290 b rf xF_290 (d + 5) := by
  intro  Post  sc mr ar al r9 sc9 mr9 ar9 al9 h hP
  unfold xF_290 at h
  refine gl_entry (m := 1) rfl ?_
  show gL (gX b) 290 (d + 5) 0 [some (.ref 773), none] [] sc (x_mk mr rf) ar al Post
  refine gl_aload_n (gX_LK b) y_290_0 rfl rfl ?_
  refine gl_getA (gX_LK b) y_290_1 yf_290_78 ys_773 rfl rfl rfl rfl ?_
  refine gl_aload_n (gX_LK b) y_290_4 rfl rfl ?_
  refine gl_getA (gX_LK b) y_290_5 yf_290_33 ys_773 rfl rfl rfl rfl ?_
  obtain ⟨sce9, mre9, are9, ale9, e9, h⟩ := o_k4 h
  refine gl_callV (gX_LK b) y_290_8 ym_290_91 rfl rfl rfl ys_757 yx_207 rfl rfl ((xt_207 )  _ _ (show x_pg 780 = true from rfl) _ _ _ _ _ _ _ _ e9 ?_)
  refine gl_iconst (gX_LK b) y_290_11 ci_0 rfl ?_
  refine gl_istore_n (vs2 := [some (.ref 773), some (.int (0 : Int32))]) (gX_LK b) y_290_12 rfl rfl rfl rfl ?_
  exact gl_weak (vs := [some (.ref 773), some (.int (0 : Int32))]) ⟨rfl, rfl, trivial⟩ (xt_290_13  hP oF (0 : Int32) sce9 mre9 are9 ale9 h)
/-- ClickOrders$Search.isClean(II)Z -/
def xT_289 (b : Bool) (rf : jRf) (F : Int32 → Int32 → jSc → (Nat → Nat) → jSc → jAl → Option (Int32 × jSc × (Nat → Nat) × jSc × jAl)) (e : Nat) : Prop := ∀  (Post : jPo) (x1 : Int32) (x2 : Int32) (sc : jSc) (mr : (Nat → Nat)) (ar : jSc) (al : jAl) (r9 : Int32) (sc9 : jSc) (mr9 : (Nat → Nat)) (ar9 : jSc) (al9 : jAl), F x1 x2 sc mr ar al = some (r9, sc9, mr9, ar9, al9) → Post (some (.int r9)) sc9 (x_mk mr9 rf) ar9 al9 → gW (gX b) 289 e 0 (j_av [.ref 773, .int x1, .int x2]) [] sc (x_mk mr rf) ar al Post
def xF_289_48 : Nat → Int32 → jSc → (Nat → Nat) → jSc → jAl → Option (Int32 × jSc × (Nat → Nat) × jSc × jAl)
  | 0, _, _, _, _, _ => none
  | nn + 1, x3, sc, mr, ar, al => (if (sc 773 18) ≤ x3 then (if 0 ≤ (sc 773 13) then some ((0 : Int32), sc, mr, ar, al) else (if (sc 773 1) = 0 then some ((1 : Int32), sc, mr, ar, al) else some ((0 : Int32), sc, mr, ar, al))) else (o_b5 (xF_287 x3 sc mr ar al) (fun ve4 sce4 mre4 are4 ale4 => (if iB x3 8 then xF_289_48 nn (x3 + (1 : Int32)) sce4 mre4 (j_u2 are4 795 (iN x3) ve4) ale4 else none))))
set_option maxHeartbeats 4000000 in
theorem xt_289_48 {b : Bool} {rf : jRf} {d : Nat} {Post : jPo} {r9 : Int32} {sc9 : jSc} {mr9 : (Nat → Nat)} {ar9 : jSc} {al9 : jAl} (hP : Post (some (.int r9)) sc9 (x_mk mr9 rf) ar9 al9) : ∀ (nn : Nat) (x3 : Int32) (sc : jSc) (mr : (Nat → Nat)) (ar : jSc) (al : jAl), xF_289_48 nn x3 sc mr ar al = some (r9, sc9, mr9, ar9, al9) → gL (gX b) 289 (d + 7) 48 [some (.ref 773), none, none, some (.int x3)] [] sc (x_mk mr rf) ar al Post := by
  intro nn
  induction nn with
  | zero =>
    intro x3 sc mr ar al h
    have h : (none : Option (Int32 × jSc × (Nat → Nat) × jSc × jAl)) = some _ := h
    cases h
  | succ nn ih =>
    intro x3 sc mr ar al h
    unfold xF_289_48 at h
    refine gl_iload_n (gX_LK b) y_289_48 rfl rfl ?_
    refine gl_aload_n (gX_LK b) y_289_49 rfl rfl ?_
    refine gl_get (gX_LK b) y_289_50 yf_289_75 ys_773 rfl rfl rfl rfl ?_
    refine gl_ic_ge (gX_LK b) y_289_53 rfl rfl (fun c1 => ?_) (fun c1 => ?_)
    · have h := (if_pos c1).symm.trans h
      refine gl_aload_n (gX_LK b) y_289_73 rfl rfl ?_
      refine gl_get (gX_LK b) y_289_74 yf_289_60 ys_773 rfl rfl rfl rfl ?_
      refine gl_if_ge (gX_LK b) y_289_77 rfl rfl (fun c2 => ?_) (fun c2 => ?_)
      · have h := (if_pos c2).symm.trans h
        refine gl_iconst (gX_LK b) y_289_91 ci_0 rfl ?_
        exact gl_ireturn y_289_92 (Or.inr ⟨yt_289, Or.inl rfl⟩) (by cases h; exact hP)
      · have h := (if_neg c2).symm.trans h
        refine gl_aload_n (gX_LK b) y_289_80 rfl rfl ?_
        refine gl_get (gX_LK b) y_289_81 yf_289_15 ys_773 rfl rfl rfl rfl ?_
        refine gl_if_ne (gX_LK b) y_289_84 rfl rfl (fun c3 => ?_) (fun c3 => ?_)
        · have h := (if_pos c3).symm.trans h
          refine gl_iconst (gX_LK b) y_289_87 ci_1 rfl ?_
          refine gl_goto (gX_LK b) y_289_88 rfl ?_
          exact gl_ireturn y_289_92 (Or.inr ⟨yt_289, Or.inr rfl⟩) (by cases h; exact hP)
        · have h := (if_neg c3).symm.trans h
          refine gl_iconst (gX_LK b) y_289_91 ci_0 rfl ?_
          exact gl_ireturn y_289_92 (Or.inr ⟨yt_289, Or.inl rfl⟩) (by cases h; exact hP)
    · have h := (if_neg c1).symm.trans h
      refine gl_aload_n (gX_LK b) y_289_56 rfl rfl ?_
      refine gl_getA (gX_LK b) y_289_57 yf_289_72 ys_773 rfl rfl rfl rfl ?_
      refine gl_iload_n (gX_LK b) y_289_60 rfl rfl ?_
      refine gl_aload_n (gX_LK b) y_289_61 rfl rfl ?_
      refine gl_iload_n (gX_LK b) y_289_62 rfl rfl ?_
      obtain ⟨ve4, sce4, mre4, are4, ale4, e4, h⟩ := o_k5 h
      refine gl_callV (gX_LK b) y_289_63 ym_289_152 rfl rfl rfl ys_773 yx_287 rfl rfl ((xt_287 )  _ _ _ _ _ _ _ _ _ _ _ e4 ?_)
      obtain ⟨c5, h⟩ := o_ck h
      refine gl_iastore (ar2 := (j_u2 are4 795 (iN x3) ve4)) (gX_LK b) y_289_66 ys_795 c5 rfl rfl ?_
      refine gl_iinc (vs2 := [some (.ref 773), none, none, some (.int (x3 + (1 : Int32)))]) (gX_LK b) y_289_67 rfl rfl rfl ci_1 rfl rfl ?_
      refine gl_goto (gX_LK b) y_289_70 rfl ?_
      exact gl_weak (vs := [some (.ref 773), none, none, some (.int (x3 + (1 : Int32)))]) ⟨rfl, rfl, trivial⟩ (ih (x3 + (1 : Int32)) sce4 mre4 (j_u2 are4 795 (iN x3) ve4) ale4 h)
def xF_289_16 (x1 : Int32) (x2 : Int32) (sc : jSc) (mr : (Nat → Nat)) (ar : jSc) (al : jAl) : Option (Int32 × jSc × (Nat → Nat) × jSc × jAl) :=
  (o_b4 (xF_283 sc mr ar al) (fun sce6 mre6 are6 ale6 => (o_b4 (xF_285 x1 x2 (0 : Int32) sce6 mre6 are6 ale6) (fun sce7 mre7 are7 ale7 => (if (sce7 773 13) < 0 then (if 0 ≤ (sce7 773 13) then some ((0 : Int32), sce7, mre7, are7, ale7) else (if (sce7 773 1) = 0 then some ((1 : Int32), sce7, mre7, are7, ale7) else some ((0 : Int32), sce7, mre7, are7, ale7))) else (o_b5 (xF_292 (sce7 773 13) sce7 mre7 are7 ale7) (fun ve11 sce11 mre11 are11 ale11 => xF_289_48 oF (0 : Int32) (j_u2 sce11 773 18 ve11) mre11 are11 ale11)))))))
set_option maxHeartbeats 4000000 in
theorem xt_289_16 {b : Bool} {rf : jRf} {d : Nat} {Post : jPo} {r9 : Int32} {sc9 : jSc} {mr9 : (Nat → Nat)} {ar9 : jSc} {al9 : jAl} (hP : Post (some (.int r9)) sc9 (x_mk mr9 rf) ar9 al9) (x1 : Int32) (x2 : Int32) (sc : jSc) (mr : (Nat → Nat)) (ar : jSc) (al : jAl) (h : xF_289_16 x1 x2 sc mr ar al = some (r9, sc9, mr9, ar9, al9)) : gL (gX b) 289 (d + 7) 16 [some (.ref 773), some (.int x1), some (.int x2), none] [] sc (x_mk mr rf) ar al Post := by
  unfold xF_289_16 at h
  refine gl_aload_n (gX_LK b) y_289_16 rfl rfl ?_
  obtain ⟨sce6, mre6, are6, ale6, e6, h⟩ := o_k4 h
  refine gl_callV (gX_LK b) y_289_17 ym_289_145 rfl rfl rfl ys_773 yx_283 rfl rfl ((xt_283 )  _  _ _ _ _ _ _ _ _ e6 ?_)
  refine gl_aload_n (gX_LK b) y_289_20 rfl rfl ?_
  refine gl_iload_n (gX_LK b) y_289_21 rfl rfl ?_
  refine gl_iload_n (gX_LK b) y_289_22 rfl rfl ?_
  refine gl_iconst (gX_LK b) y_289_23 ci_0 rfl ?_
  obtain ⟨sce7, mre7, are7, ale7, e7, h⟩ := o_k4 h
  refine gl_callV (gX_LK b) y_289_24 ym_289_148 rfl rfl rfl ys_773 yx_285 rfl rfl ((xt_285 )  _ _ _ _ _ _ _ _ _ _ _ _ e7 ?_)
  refine gl_aload_n (gX_LK b) y_289_27 rfl rfl ?_
  refine gl_get (gX_LK b) y_289_28 yf_289_60 ys_773 rfl rfl rfl rfl ?_
  refine gl_if_lt (gX_LK b) y_289_31 rfl rfl (fun c8 => ?_) (fun c8 => ?_)
  · have h := (if_pos c8).symm.trans h
    refine gl_aload_n (gX_LK b) y_289_73 rfl rfl ?_
    refine gl_get (gX_LK b) y_289_74 yf_289_60 ys_773 rfl rfl rfl rfl ?_
    refine gl_if_ge (gX_LK b) y_289_77 rfl rfl (fun c9 => ?_) (fun c9 => ?_)
    · have h := (if_pos c9).symm.trans h
      refine gl_iconst (gX_LK b) y_289_91 ci_0 rfl ?_
      exact gl_ireturn y_289_92 (Or.inr ⟨yt_289, Or.inl rfl⟩) (by cases h; exact hP)
    · have h := (if_neg c9).symm.trans h
      refine gl_aload_n (gX_LK b) y_289_80 rfl rfl ?_
      refine gl_get (gX_LK b) y_289_81 yf_289_15 ys_773 rfl rfl rfl rfl ?_
      refine gl_if_ne (gX_LK b) y_289_84 rfl rfl (fun c10 => ?_) (fun c10 => ?_)
      · have h := (if_pos c10).symm.trans h
        refine gl_iconst (gX_LK b) y_289_87 ci_1 rfl ?_
        refine gl_goto (gX_LK b) y_289_88 rfl ?_
        exact gl_ireturn y_289_92 (Or.inr ⟨yt_289, Or.inr rfl⟩) (by cases h; exact hP)
      · have h := (if_neg c10).symm.trans h
        refine gl_iconst (gX_LK b) y_289_91 ci_0 rfl ?_
        exact gl_ireturn y_289_92 (Or.inr ⟨yt_289, Or.inl rfl⟩) (by cases h; exact hP)
  · have h := (if_neg c8).symm.trans h
    refine gl_aload_n (gX_LK b) y_289_34 rfl rfl ?_
    refine gl_aload_n (gX_LK b) y_289_35 rfl rfl ?_
    refine gl_aload_n (gX_LK b) y_289_36 rfl rfl ?_
    refine gl_get (gX_LK b) y_289_37 yf_289_60 ys_773 rfl rfl rfl rfl ?_
    obtain ⟨ve11, sce11, mre11, are11, ale11, e11, h⟩ := o_k5 h
    refine gl_callV (gX_LK b) y_289_40 ym_289_119 rfl rfl rfl ys_773 yx_292 rfl rfl ((xt_292 )  _ _ _ _ _ _ _ _ _ _ _ e11 ?_)
    refine gl_put (sc' := (j_u2 sce11 773 18 ve11)) (gX_LK b) y_289_43 yf_289_75 ys_773 rfl rfl rfl rfl rfl ?_
    refine gl_iconst (gX_LK b) y_289_46 ci_0 rfl ?_
    refine gl_istore_n (vs2 := [some (.ref 773), some (.int x1), some (.int x2), some (.int (0 : Int32))]) (gX_LK b) y_289_47 rfl rfl rfl rfl ?_
    exact gl_weak (vs := [some (.ref 773), none, none, some (.int (0 : Int32))]) ⟨rfl, rfl, trivial⟩ (xt_289_48  hP oF (0 : Int32) (j_u2 sce11 773 18 ve11) mre11 are11 ale11 h)
def xF_289 (x1 : Int32) (x2 : Int32) (sc : jSc) (mr : (Nat → Nat)) (ar : jSc) (al : jAl) : Option (Int32 × jSc × (Nat → Nat) × jSc × jAl) :=
  (if (sc 773 18) < 0 then xF_289_16 x1 x2 sc mr ar al else (o_b5 (xF_290 sc mr ar al) (fun ve13 sce13 mre13 are13 ale13 => (if ve13 = 0 then xF_289_16 x1 x2 sce13 mre13 are13 ale13 else some ((0 : Int32), sce13, mre13, are13, ale13)))))
set_option maxHeartbeats 4000000 in
theorem xt_289 {b : Bool} {rf : jRf} {d : Nat} : xT_289 b rf xF_289 (d + 7) := by
  intro  Post x1 x2 sc mr ar al r9 sc9 mr9 ar9 al9 h hP
  unfold xF_289 at h
  refine gl_entry (m := 1) rfl ?_
  show gL (gX b) 289 (d + 7) 0 [some (.ref 773), some (.int x1), some (.int x2), none] [] sc (x_mk mr rf) ar al Post
  refine gl_aload_n (gX_LK b) y_289_0 rfl rfl ?_
  refine gl_get (gX_LK b) y_289_1 yf_289_75 ys_773 rfl rfl rfl rfl ?_
  refine gl_if_lt (gX_LK b) y_289_4 rfl rfl (fun c12 => ?_) (fun c12 => ?_)
  · have h := (if_pos c12).symm.trans h
    exact gl_weak (vs := [some (.ref 773), some (.int x1), some (.int x2), none]) ⟨rfl, rfl, rfl, trivial⟩ (xt_289_16  hP x1 x2 sc mr ar al h)
  · have h := (if_neg c12).symm.trans h
    refine gl_aload_n (gX_LK b) y_289_7 rfl rfl ?_
    obtain ⟨ve13, sce13, mre13, are13, ale13, e13, h⟩ := o_k5 h
    refine gl_callV (gX_LK b) y_289_8 ym_289_142 rfl rfl rfl ys_773 yx_290 rfl rfl ((xt_290 )  _  _ _ _ _ _ _ _ _ _ e13 ?_)
    refine gl_if_eq (gX_LK b) y_289_11 rfl rfl (fun c14 => ?_) (fun c14 => ?_)
    · have h := (if_pos c14).symm.trans h
      exact gl_weak (vs := [some (.ref 773), some (.int x1), some (.int x2), none]) ⟨rfl, rfl, rfl, trivial⟩ (xt_289_16  hP x1 x2 sce13 mre13 are13 ale13 h)
    · have h := (if_neg c14).symm.trans h
      refine gl_iconst (gX_LK b) y_289_14 ci_0 rfl ?_
      exact gl_ireturn y_289_15 (Or.inr ⟨yt_289, Or.inl rfl⟩) (by cases h; exact hP)
/-- ClickOrders$Track.keepsShown()V -/
def xT_310 (b : Bool) (rf : jRf) (F : jSc → (Nat → Nat) → jSc → jAl → Option (jSc × (Nat → Nat) × jSc × jAl)) (e : Nat) : Prop := ∀  (Post : jPo) (sc : jSc) (mr : (Nat → Nat)) (ar : jSc) (al : jAl) (sc9 : jSc) (mr9 : (Nat → Nat)) (ar9 : jSc) (al9 : jAl), F sc mr ar al = some (sc9, mr9, ar9, al9) → Post none sc9 (x_mk mr9 rf) ar9 al9 → gW (gX b) 310 e 0 (j_av [.ref 759]) [] sc (x_mk mr rf) ar al Post
def xF_310 (sc : jSc) (mr : (Nat → Nat)) (ar : jSc) (al : jAl) : Option (jSc × (Nat → Nat) × jSc × jAl) :=
  (o_b5 (xF_229 760 sc mr ar al) (fun ve1 sce1 mre1 are1 ale1 => (if iB (sc 759 5) 41 then (if xcp (0 : Int32) ((sce1 759 5) * (10 : Int32)) (10 : Int32) 50 410 then some (sce1, mre1, (va_up (j_u2 are1 769 (iN (sc 759 5)) ve1) 770 (va_cpy ((j_u2 are1 769 (iN (sc 759 5)) ve1) 761) ((j_u2 are1 769 (iN (sc 759 5)) ve1) 770) (iN (0 : Int32)) (iN ((sce1 759 5) * (10 : Int32))) (iN (10 : Int32)))), ale1) else none) else none)))
set_option maxHeartbeats 4000000 in
theorem xt_310 {b : Bool} {rf : jRf} {d : Nat} : xT_310 b rf xF_310 (d + 2) := by
  intro  Post  sc mr ar al sc9 mr9 ar9 al9 h hP
  unfold xF_310 at h
  refine gl_entry (m := 0) rfl ?_
  show gL (gX b) 310 (d + 2) 0 [some (.ref 759)] [] sc (x_mk mr rf) ar al Post
  refine gl_aload_n (gX_LK b) y_310_0 rfl rfl ?_
  refine gl_getA (gX_LK b) y_310_1 yf_310_42 ys_759 rfl rfl rfl rfl ?_
  refine gl_aload_n (gX_LK b) y_310_4 rfl rfl ?_
  refine gl_get (gX_LK b) y_310_5 yf_310_31 ys_759 rfl rfl rfl rfl ?_
  refine gl_aload_n (gX_LK b) y_310_8 rfl rfl ?_
  refine gl_getA (gX_LK b) y_310_9 yf_310_12 ys_759 rfl rfl rfl rfl ?_
  obtain ⟨ve1, sce1, mre1, are1, ale1, e1, h⟩ := o_k5 h
  refine gl_callV (gX_LK b) y_310_12 ym_310_134 rfl rfl rfl ys_760 yx_229 rfl rfl ((xt_229 )  _ _ (show x_pg 760 = true from rfl) _ _ _ _ _ _ _ _ _ e1 ?_)
  obtain ⟨c2, h⟩ := o_ck h
  refine gl_iastore (ar2 := (j_u2 are1 769 (iN (sc 759 5)) ve1)) (gX_LK b) y_310_15 ys_769 c2 rfl rfl ?_
  refine gl_aload_n (gX_LK b) y_310_16 rfl rfl ?_
  refine gl_getA (gX_LK b) y_310_17 yf_310_12 ys_759 rfl rfl rfl rfl ?_
  refine gl_getA (gX_LK b) y_310_20 yf_310_122 ys_760 rfl rfl rfl rfl ?_
  refine gl_iconst (gX_LK b) y_310_23 ci_0 rfl ?_
  refine gl_aload_n (gX_LK b) y_310_24 rfl rfl ?_
  refine gl_getA (gX_LK b) y_310_25 yf_310_45 ys_759 rfl rfl rfl rfl ?_
  refine gl_aload_n (gX_LK b) y_310_28 rfl rfl ?_
  refine gl_get (gX_LK b) y_310_29 yf_310_31 ys_759 rfl rfl rfl rfl ?_
  refine gl_bipush (gX_LK b) y_310_32 cb_10 rfl ?_
  refine gl_imul (gX_LK b) y_310_34 rfl ?_
  refine gl_bipush (gX_LK b) y_310_35 cb_10 rfl ?_
  obtain ⟨c3, h⟩ := o_ck h
  refine gl_copy (gX_LK b) y_310_37 yn_310_125 yz_310_125 ys_761 ys_770 c3 rfl rfl ?_
  exact gl_return y_310_40 yt_310 (by cases h; exact hP)
/-- ClickOrders$Track.begins()V -/
def xT_298 (b : Bool) (rf : jRf) (F : jSc → (Nat → Nat) → jSc → jAl → Option (jSc × (Nat → Nat) × jSc × jAl)) (e : Nat) : Prop := ∀  (Post : jPo) (sc : jSc) (mr : (Nat → Nat)) (ar : jSc) (al : jAl) (sc9 : jSc) (mr9 : (Nat → Nat)) (ar9 : jSc) (al9 : jAl), F sc mr ar al = some (sc9, mr9, ar9, al9) → Post none sc9 (x_mk mr9 rf) ar9 al9 → gW (gX b) 298 e 0 (j_av [.ref 759]) [] sc (x_mk mr rf) ar al Post
def xF_298 (sc : jSc) (mr : (Nat → Nat)) (ar : jSc) (al : jAl) : Option (jSc × (Nat → Nat) × jSc × jAl) :=
  (o_b4 (xF_207 760 sc mr ar al) (fun sce1 mre1 are1 ale1 => (o_b4 (xF_310 (j_u2 sce1 759 5 (0 : Int32)) mre1 are1 ale1) (fun sce2 mre2 are2 ale2 => some ((j_u2 sce2 759 14 (0 : Int32)), mre2, are2, ale2)))))
set_option maxHeartbeats 4000000 in
theorem xt_298 {b : Bool} {rf : jRf} {d : Nat} : xT_298 b rf xF_298 (d + 5) := by
  intro  Post  sc mr ar al sc9 mr9 ar9 al9 h hP
  unfold xF_298 at h
  refine gl_entry (m := 0) rfl ?_
  show gL (gX b) 298 (d + 5) 0 [some (.ref 759)] [] sc (x_mk mr rf) ar al Post
  refine gl_aload_n (gX_LK b) y_298_0 rfl rfl ?_
  refine gl_getA (gX_LK b) y_298_1 yf_298_61 ys_759 rfl rfl rfl rfl ?_
  refine gl_aload_n (gX_LK b) y_298_4 rfl rfl ?_
  refine gl_getA (gX_LK b) y_298_5 yf_298_12 ys_759 rfl rfl rfl rfl ?_
  obtain ⟨sce1, mre1, are1, ale1, e1, h⟩ := o_k4 h
  refine gl_callV (gX_LK b) y_298_8 ym_298_65 rfl rfl rfl ys_757 yx_207 rfl rfl ((xt_207 )  _ _ (show x_pg 760 = true from rfl) _ _ _ _ _ _ _ _ e1 ?_)
  refine gl_aload_n (gX_LK b) y_298_11 rfl rfl ?_
  refine gl_iconst (gX_LK b) y_298_12 ci_0 rfl ?_
  refine gl_put (sc' := (j_u2 sce1 759 5 (0 : Int32))) (gX_LK b) y_298_13 yf_298_31 ys_759 rfl rfl rfl rfl rfl ?_
  refine gl_aload_n (gX_LK b) y_298_16 rfl rfl ?_
  obtain ⟨sce2, mre2, are2, ale2, e2, h⟩ := o_k4 h
  refine gl_callV (gX_LK b) y_298_17 ym_298_71 rfl rfl rfl ys_759 yx_310 rfl rfl ((xt_310 )  _  _ _ _ _ _ _ _ _ e2 ?_)
  refine gl_aload_n (gX_LK b) y_298_20 rfl rfl ?_
  refine gl_iconst (gX_LK b) y_298_21 ci_0 rfl ?_
  refine gl_put (sc' := (j_u2 sce2 759 14 (0 : Int32))) (gX_LK b) y_298_22 yf_298_57 ys_759 rfl rfl rfl rfl rfl ?_
  exact gl_return y_298_25 yt_298 (by cases h; exact hP)
/-- ClickOrders$Track.freed(I)I -/
def xT_312 (b : Bool) (rf : jRf) (F : Int32 → jSc → (Nat → Nat) → jSc → jAl → Option (Int32 × jSc × (Nat → Nat) × jSc × jAl)) (e : Nat) : Prop := ∀  (Post : jPo) (x1 : Int32) (sc : jSc) (mr : (Nat → Nat)) (ar : jSc) (al : jAl) (r9 : Int32) (sc9 : jSc) (mr9 : (Nat → Nat)) (ar9 : jSc) (al9 : jAl), F x1 sc mr ar al = some (r9, sc9, mr9, ar9, al9) → Post (some (.int r9)) sc9 (x_mk mr9 rf) ar9 al9 → gW (gX b) 312 e 0 (j_av [.ref 759, .int x1]) [] sc (x_mk mr rf) ar al Post
def xF_312_26 : Nat → Int32 → Int32 → jSc → (Nat → Nat) → jSc → jAl → Option (Int32 × jSc × (Nat → Nat) × jSc × jAl)
  | 0, _, _, _, _, _, _ => none
  | nn + 1, x2, x3, sc, mr, ar, al => (if x3 < 0 then some ((-1 : Int32), sc, mr, ar, al) else (if iB (x3 + (1 : Int32)) 41 then (if ((ar 769 (iN (x3 + (1 : Int32)))) &&& x2) = 0 then xF_312_26 nn x2 (x3 + (-1 : Int32)) sc mr ar al else (if iB x3 41 then (if ((ar 769 (iN x3)) &&& x2) = 0 then some (x3, sc, mr, ar, al) else xF_312_26 nn x2 (x3 + (-1 : Int32)) sc mr ar al) else none)) else none))
set_option maxHeartbeats 4000000 in
theorem xt_312_26 {b : Bool} {rf : jRf} {d : Nat} {Post : jPo} {r9 : Int32} {sc9 : jSc} {mr9 : (Nat → Nat)} {ar9 : jSc} {al9 : jAl} (hP : Post (some (.int r9)) sc9 (x_mk mr9 rf) ar9 al9) : ∀ (nn : Nat) (x2 : Int32) (x3 : Int32) (sc : jSc) (mr : (Nat → Nat)) (ar : jSc) (al : jAl), xF_312_26 nn x2 x3 sc mr ar al = some (r9, sc9, mr9, ar9, al9) → gL (gX b) 312 (d + 1) 26 [some (.ref 759), none, some (.int x2), some (.int x3)] [] sc (x_mk mr rf) ar al Post := by
  intro nn
  induction nn with
  | zero =>
    intro x2 x3 sc mr ar al h
    have h : (none : Option (Int32 × jSc × (Nat → Nat) × jSc × jAl)) = some _ := h
    cases h
  | succ nn ih =>
    intro x2 x3 sc mr ar al h
    unfold xF_312_26 at h
    refine gl_iload_n (gX_LK b) y_312_26 rfl rfl ?_
    refine gl_if_lt (gX_LK b) y_312_27 rfl rfl (fun c1 => ?_) (fun c1 => ?_)
    · have h := (if_pos c1).symm.trans h
      refine gl_iconst (gX_LK b) y_312_62 ci_m1 rfl ?_
      exact gl_ireturn y_312_63 (Or.inl yt_312) (by cases h; exact hP)
    · have h := (if_neg c1).symm.trans h
      refine gl_aload_n (gX_LK b) y_312_30 rfl rfl ?_
      refine gl_getA (gX_LK b) y_312_31 yf_312_42 ys_759 rfl rfl rfl rfl ?_
      refine gl_iload_n (gX_LK b) y_312_34 rfl rfl ?_
      refine gl_iconst (gX_LK b) y_312_35 ci_1 rfl ?_
      refine gl_iadd (gX_LK b) y_312_36 rfl ?_
      obtain ⟨c2, h⟩ := o_ck h
      refine gl_iaload (gX_LK b) y_312_37 ys_769 c2 rfl rfl ?_
      refine gl_iload_n (gX_LK b) y_312_38 rfl rfl ?_
      refine gl_iand (gX_LK b) y_312_39 rfl ?_
      refine gl_if_eq (gX_LK b) y_312_40 rfl rfl (fun c3 => ?_) (fun c3 => ?_)
      · have h := (if_pos c3).symm.trans h
        refine gl_iinc (vs2 := [some (.ref 759), none, some (.int x2), some (.int (x3 + (-1 : Int32)))]) (gX_LK b) y_312_56 rfl rfl rfl ci_m1 rfl rfl ?_
        refine gl_goto (gX_LK b) y_312_59 rfl ?_
        exact gl_weak (vs := [some (.ref 759), none, some (.int x2), some (.int (x3 + (-1 : Int32)))]) ⟨rfl, rfl, rfl, trivial⟩ (ih x2 (x3 + (-1 : Int32)) sc mr ar al h)
      · have h := (if_neg c3).symm.trans h
        refine gl_aload_n (gX_LK b) y_312_43 rfl rfl ?_
        refine gl_getA (gX_LK b) y_312_44 yf_312_42 ys_759 rfl rfl rfl rfl ?_
        refine gl_iload_n (gX_LK b) y_312_47 rfl rfl ?_
        obtain ⟨c4, h⟩ := o_ck h
        refine gl_iaload (gX_LK b) y_312_48 ys_769 c4 rfl rfl ?_
        refine gl_iload_n (gX_LK b) y_312_49 rfl rfl ?_
        refine gl_iand (gX_LK b) y_312_50 rfl ?_
        refine gl_if_ne (gX_LK b) y_312_51 rfl rfl (fun c5 => ?_) (fun c5 => ?_)
        · have h := (if_pos c5).symm.trans h
          refine gl_iload_n (gX_LK b) y_312_54 rfl rfl ?_
          exact gl_ireturn y_312_55 (Or.inl yt_312) (by cases h; exact hP)
        · have h := (if_neg c5).symm.trans h
          refine gl_iinc (vs2 := [some (.ref 759), none, some (.int x2), some (.int (x3 + (-1 : Int32)))]) (gX_LK b) y_312_56 rfl rfl rfl ci_m1 rfl rfl ?_
          refine gl_goto (gX_LK b) y_312_59 rfl ?_
          exact gl_weak (vs := [some (.ref 759), none, some (.int x2), some (.int (x3 + (-1 : Int32)))]) ⟨rfl, rfl, rfl, trivial⟩ (ih x2 (x3 + (-1 : Int32)) sc mr ar al h)
def xF_312 (x1 : Int32) (sc : jSc) (mr : (Nat → Nat)) (ar : jSc) (al : jAl) : Option (Int32 × jSc × (Nat → Nat) × jSc × jAl) :=
  (if iB x1 40 then (if (ar 762 (iN x1)) < (8 : Int32) then (if iB x1 40 then xF_312_26 oF ((1 : Int32) <<< ((ar 762 (iN x1)) &&& 31)) (x1 - (1 : Int32)) sc mr ar al else none) else some ((-1 : Int32), sc, mr, ar, al)) else none)
set_option maxHeartbeats 4000000 in
theorem xt_312 {b : Bool} {rf : jRf} {d : Nat} : xT_312 b rf xF_312 (d + 1) := by
  intro  Post x1 sc mr ar al r9 sc9 mr9 ar9 al9 h hP
  unfold xF_312 at h
  refine gl_entry (m := 2) rfl ?_
  show gL (gX b) 312 (d + 1) 0 [some (.ref 759), some (.int x1), none, none] [] sc (x_mk mr rf) ar al Post
  refine gl_aload_n (gX_LK b) y_312_0 rfl rfl ?_
  refine gl_getA (gX_LK b) y_312_1 yf_312_18 ys_759 rfl rfl rfl rfl ?_
  refine gl_iload_n (gX_LK b) y_312_4 rfl rfl ?_
  obtain ⟨c6, h⟩ := o_ck h
  refine gl_iaload (gX_LK b) y_312_5 ys_762 c6 rfl rfl ?_
  refine gl_bipush (gX_LK b) y_312_6 cb_8 rfl ?_
  refine gl_ic_lt (gX_LK b) y_312_8 rfl rfl (fun c7 => ?_) (fun c7 => ?_)
  · have h := (if_pos c7).symm.trans h
    refine gl_iconst (gX_LK b) y_312_13 ci_1 rfl ?_
    refine gl_aload_n (gX_LK b) y_312_14 rfl rfl ?_
    refine gl_getA (gX_LK b) y_312_15 yf_312_18 ys_759 rfl rfl rfl rfl ?_
    refine gl_iload_n (gX_LK b) y_312_18 rfl rfl ?_
    obtain ⟨c8, h⟩ := o_ck h
    refine gl_iaload (gX_LK b) y_312_19 ys_762 c8 rfl rfl ?_
    refine gl_ishl (gX_LK b) y_312_20 rfl ?_
    refine gl_istore_n (vs2 := [some (.ref 759), some (.int x1), some (.int ((1 : Int32) <<< ((ar 762 (iN x1)) &&& 31))), none]) (gX_LK b) y_312_21 rfl rfl rfl rfl ?_
    refine gl_iload_n (gX_LK b) y_312_22 rfl rfl ?_
    refine gl_iconst (gX_LK b) y_312_23 ci_1 rfl ?_
    refine gl_isub (gX_LK b) y_312_24 rfl ?_
    refine gl_istore_n (vs2 := [some (.ref 759), some (.int x1), some (.int ((1 : Int32) <<< ((ar 762 (iN x1)) &&& 31))), some (.int (x1 - (1 : Int32)))]) (gX_LK b) y_312_25 rfl rfl rfl rfl ?_
    exact gl_weak (vs := [some (.ref 759), none, some (.int ((1 : Int32) <<< ((ar 762 (iN x1)) &&& 31))), some (.int (x1 - (1 : Int32)))]) ⟨rfl, rfl, rfl, trivial⟩ (xt_312_26  hP oF ((1 : Int32) <<< ((ar 762 (iN x1)) &&& 31)) (x1 - (1 : Int32)) sc mr ar al h)
  · have h := (if_neg c7).symm.trans h
    refine gl_iconst (gX_LK b) y_312_11 ci_m1 rfl ?_
    exact gl_ireturn y_312_12 (Or.inl yt_312) (by cases h; exact hP)
/-- ClickOrders$Track.allAhead(I)J -/
def xT_311 (b : Bool) (rf : jRf) (F : Int32 → jSc → (Nat → Nat) → jSc → jAl → Option (Int64 × jSc × (Nat → Nat) × jSc × jAl)) (e : Nat) : Prop := ∀  (Post : jPo) (x1 : Int32) (sc : jSc) (mr : (Nat → Nat)) (ar : jSc) (al : jAl) (r9 : Int64) (sc9 : jSc) (mr9 : (Nat → Nat)) (ar9 : jSc) (al9 : jAl), F x1 sc mr ar al = some (r9, sc9, mr9, ar9, al9) → Post (some (.long r9)) sc9 (x_mk mr9 rf) ar9 al9 → gW (gX b) 311 e 0 (j_av [.ref 759, .int x1]) [] sc (x_mk mr rf) ar al Post
def xF_311_50 (k12 : Int32 → Int64 → Int32 → Int32 → jSc → (Nat → Nat) → jSc → jAl → Option (Int64 × jSc × (Nat → Nat) × jSc × jAl)) (x1 : Int32) (x2 : Int64) (x4 : Int32) (x5 : Int32) (y0 : Int32) (sc : jSc) (mr : (Nat → Nat)) (ar : jSc) (al : jAl) : Option (Int64 × jSc × (Nat → Nat) × jSc × jAl) :=
  (if y0 = 0 then (if iB x1 40 then (if x5 = (ar 763 (iN x1)) then (if iB x5 40 then k12 x1 (x2 ||| (((Int64.ofNat ((1 : Fin 2) : Nat)) <<< ((x5).toInt64 &&& 63)) ||| (al 768 (iN x5)))) x4 (x5 + (1 : Int32)) sc mr ar al else none) else (if x5 = x4 then (if iB x5 40 then k12 x1 (x2 ||| (((Int64.ofNat ((1 : Fin 2) : Nat)) <<< ((x5).toInt64 &&& 63)) ||| (al 768 (iN x5)))) x4 (x5 + (1 : Int32)) sc mr ar al else none) else k12 x1 x2 x4 (x5 + (1 : Int32)) sc mr ar al)) else none) else (if iB x5 40 then k12 x1 (x2 ||| (((Int64.ofNat ((1 : Fin 2) : Nat)) <<< ((x5).toInt64 &&& 63)) ||| (al 768 (iN x5)))) x4 (x5 + (1 : Int32)) sc mr ar al else none))
set_option maxHeartbeats 4000000 in
theorem xt_311_50 {b : Bool} {rf : jRf} {d : Nat} {Post : jPo} {r9 : Int64} {sc9 : jSc} {mr9 : (Nat → Nat)} {ar9 : jSc} {al9 : jAl} {k12 : Int32 → Int64 → Int32 → Int32 → jSc → (Nat → Nat) → jSc → jAl → Option (Int64 × jSc × (Nat → Nat) × jSc × jAl)} (hk12 : ∀ (x1 : Int32) (x2 : Int64) (x4 : Int32) (x5 : Int32) (sc : jSc) (mr : (Nat → Nat)) (ar : jSc) (al : jAl), k12 x1 x2 x4 x5 sc mr ar al = some (r9, sc9, mr9, ar9, al9) → gL (gX b) 311 (d + 2) 12 [some (.ref 759), some (.int x1), some (.long x2), none, some (.int x4), some (.int x5), none] [] sc (x_mk mr rf) ar al Post) (hP : Post (some (.long r9)) sc9 (x_mk mr9 rf) ar9 al9) (x1 : Int32) (x2 : Int64) (x4 : Int32) (x5 : Int32) (y0 : Int32) (sc : jSc) (mr : (Nat → Nat)) (ar : jSc) (al : jAl) (h : xF_311_50 k12 x1 x2 x4 x5 y0 sc mr ar al = some (r9, sc9, mr9, ar9, al9)) : gL (gX b) 311 (d + 2) 50 [some (.ref 759), some (.int x1), some (.long x2), none, some (.int x4), some (.int x5), none] [.int y0] sc (x_mk mr rf) ar al Post := by
  unfold xF_311_50 at h
  refine gl_istore (vs2 := [some (.ref 759), some (.int x1), some (.long x2), none, some (.int x4), some (.int x5), some (.int y0)]) (gX_LK b) y_311_50 rfl rfl rfl rfl ?_
  refine gl_iload (gX_LK b) y_311_52 rfl rfl ?_
  refine gl_if_ne (gX_LK b) y_311_54 rfl rfl (fun c1 => ?_) (fun c1 => ?_)
  · have h := (if_pos c1).symm.trans h
    refine gl_iload (gX_LK b) y_311_57 rfl rfl ?_
    refine gl_aload_n (gX_LK b) y_311_59 rfl rfl ?_
    refine gl_getA (gX_LK b) y_311_60 yf_311_22 ys_759 rfl rfl rfl rfl ?_
    refine gl_iload_n (gX_LK b) y_311_63 rfl rfl ?_
    obtain ⟨c2, h⟩ := o_ck h
    refine gl_iaload (gX_LK b) y_311_64 ys_763 c2 rfl rfl ?_
    refine gl_ic_eq (gX_LK b) y_311_65 rfl rfl (fun c3 => ?_) (fun c3 => ?_)
    · have h := (if_pos c3).symm.trans h
      refine gl_lload_n (gX_LK b) y_311_75 rfl rfl ?_
      refine gl_lconst (gX_LK b) y_311_76 rfl ?_
      refine gl_iload (gX_LK b) y_311_77 rfl rfl ?_
      refine gl_lshl (gX_LK b) y_311_79 rfl ?_
      refine gl_aload_n (gX_LK b) y_311_80 rfl rfl ?_
      refine gl_getA (gX_LK b) y_311_81 yf_311_38 ys_759 rfl rfl rfl rfl ?_
      refine gl_iload (gX_LK b) y_311_84 rfl rfl ?_
      obtain ⟨c4, h⟩ := o_ck h
      refine gl_laload (gX_LK b) y_311_86 ys_768 c4 rfl rfl ?_
      refine gl_lor (gX_LK b) y_311_87 rfl ?_
      refine gl_lor (gX_LK b) y_311_88 rfl ?_
      refine gl_lstore_n (vs2 := [some (.ref 759), some (.int x1), some (.long (x2 ||| (((Int64.ofNat ((1 : Fin 2) : Nat)) <<< ((x5).toInt64 &&& 63)) ||| (al 768 (iN x5))))), none, some (.int x4), some (.int x5), some (.int y0)]) (gX_LK b) y_311_89 rfl rfl rfl rfl ?_
      refine gl_iinc (vs2 := [some (.ref 759), some (.int x1), some (.long (x2 ||| (((Int64.ofNat ((1 : Fin 2) : Nat)) <<< ((x5).toInt64 &&& 63)) ||| (al 768 (iN x5))))), none, some (.int x4), some (.int (x5 + (1 : Int32))), some (.int y0)]) (gX_LK b) y_311_90 rfl rfl rfl ci_1 rfl rfl ?_
      refine gl_goto (gX_LK b) y_311_93 rfl ?_
      exact gl_weak (vs := [some (.ref 759), some (.int x1), some (.long (x2 ||| (((Int64.ofNat ((1 : Fin 2) : Nat)) <<< ((x5).toInt64 &&& 63)) ||| (al 768 (iN x5))))), none, some (.int x4), some (.int (x5 + (1 : Int32))), none]) ⟨rfl, rfl, rfl, rfl, rfl, trivial⟩ (hk12 x1 (x2 ||| (((Int64.ofNat ((1 : Fin 2) : Nat)) <<< ((x5).toInt64 &&& 63)) ||| (al 768 (iN x5)))) x4 (x5 + (1 : Int32)) sc mr ar al h)
    · have h := (if_neg c3).symm.trans h
      refine gl_iload (gX_LK b) y_311_68 rfl rfl ?_
      refine gl_iload (gX_LK b) y_311_70 rfl rfl ?_
      refine gl_ic_ne (gX_LK b) y_311_72 rfl rfl (fun c5 => ?_) (fun c5 => ?_)
      · have h := (if_pos c5).symm.trans h
        refine gl_lload_n (gX_LK b) y_311_75 rfl rfl ?_
        refine gl_lconst (gX_LK b) y_311_76 rfl ?_
        refine gl_iload (gX_LK b) y_311_77 rfl rfl ?_
        refine gl_lshl (gX_LK b) y_311_79 rfl ?_
        refine gl_aload_n (gX_LK b) y_311_80 rfl rfl ?_
        refine gl_getA (gX_LK b) y_311_81 yf_311_38 ys_759 rfl rfl rfl rfl ?_
        refine gl_iload (gX_LK b) y_311_84 rfl rfl ?_
        obtain ⟨c6, h⟩ := o_ck h
        refine gl_laload (gX_LK b) y_311_86 ys_768 c6 rfl rfl ?_
        refine gl_lor (gX_LK b) y_311_87 rfl ?_
        refine gl_lor (gX_LK b) y_311_88 rfl ?_
        refine gl_lstore_n (vs2 := [some (.ref 759), some (.int x1), some (.long (x2 ||| (((Int64.ofNat ((1 : Fin 2) : Nat)) <<< ((x5).toInt64 &&& 63)) ||| (al 768 (iN x5))))), none, some (.int x4), some (.int x5), some (.int y0)]) (gX_LK b) y_311_89 rfl rfl rfl rfl ?_
        refine gl_iinc (vs2 := [some (.ref 759), some (.int x1), some (.long (x2 ||| (((Int64.ofNat ((1 : Fin 2) : Nat)) <<< ((x5).toInt64 &&& 63)) ||| (al 768 (iN x5))))), none, some (.int x4), some (.int (x5 + (1 : Int32))), some (.int y0)]) (gX_LK b) y_311_90 rfl rfl rfl ci_1 rfl rfl ?_
        refine gl_goto (gX_LK b) y_311_93 rfl ?_
        exact gl_weak (vs := [some (.ref 759), some (.int x1), some (.long (x2 ||| (((Int64.ofNat ((1 : Fin 2) : Nat)) <<< ((x5).toInt64 &&& 63)) ||| (al 768 (iN x5))))), none, some (.int x4), some (.int (x5 + (1 : Int32))), none]) ⟨rfl, rfl, rfl, rfl, rfl, trivial⟩ (hk12 x1 (x2 ||| (((Int64.ofNat ((1 : Fin 2) : Nat)) <<< ((x5).toInt64 &&& 63)) ||| (al 768 (iN x5)))) x4 (x5 + (1 : Int32)) sc mr ar al h)
      · have h := (if_neg c5).symm.trans h
        refine gl_iinc (vs2 := [some (.ref 759), some (.int x1), some (.long x2), none, some (.int x4), some (.int (x5 + (1 : Int32))), some (.int y0)]) (gX_LK b) y_311_90 rfl rfl rfl ci_1 rfl rfl ?_
        refine gl_goto (gX_LK b) y_311_93 rfl ?_
        exact gl_weak (vs := [some (.ref 759), some (.int x1), some (.long x2), none, some (.int x4), some (.int (x5 + (1 : Int32))), none]) ⟨rfl, rfl, rfl, rfl, rfl, trivial⟩ (hk12 x1 x2 x4 (x5 + (1 : Int32)) sc mr ar al h)
  · have h := (if_neg c1).symm.trans h
    refine gl_lload_n (gX_LK b) y_311_75 rfl rfl ?_
    refine gl_lconst (gX_LK b) y_311_76 rfl ?_
    refine gl_iload (gX_LK b) y_311_77 rfl rfl ?_
    refine gl_lshl (gX_LK b) y_311_79 rfl ?_
    refine gl_aload_n (gX_LK b) y_311_80 rfl rfl ?_
    refine gl_getA (gX_LK b) y_311_81 yf_311_38 ys_759 rfl rfl rfl rfl ?_
    refine gl_iload (gX_LK b) y_311_84 rfl rfl ?_
    obtain ⟨c7, h⟩ := o_ck h
    refine gl_laload (gX_LK b) y_311_86 ys_768 c7 rfl rfl ?_
    refine gl_lor (gX_LK b) y_311_87 rfl ?_
    refine gl_lor (gX_LK b) y_311_88 rfl ?_
    refine gl_lstore_n (vs2 := [some (.ref 759), some (.int x1), some (.long (x2 ||| (((Int64.ofNat ((1 : Fin 2) : Nat)) <<< ((x5).toInt64 &&& 63)) ||| (al 768 (iN x5))))), none, some (.int x4), some (.int x5), some (.int y0)]) (gX_LK b) y_311_89 rfl rfl rfl rfl ?_
    refine gl_iinc (vs2 := [some (.ref 759), some (.int x1), some (.long (x2 ||| (((Int64.ofNat ((1 : Fin 2) : Nat)) <<< ((x5).toInt64 &&& 63)) ||| (al 768 (iN x5))))), none, some (.int x4), some (.int (x5 + (1 : Int32))), some (.int y0)]) (gX_LK b) y_311_90 rfl rfl rfl ci_1 rfl rfl ?_
    refine gl_goto (gX_LK b) y_311_93 rfl ?_
    exact gl_weak (vs := [some (.ref 759), some (.int x1), some (.long (x2 ||| (((Int64.ofNat ((1 : Fin 2) : Nat)) <<< ((x5).toInt64 &&& 63)) ||| (al 768 (iN x5))))), none, some (.int x4), some (.int (x5 + (1 : Int32))), none]) ⟨rfl, rfl, rfl, rfl, rfl, trivial⟩ (hk12 x1 (x2 ||| (((Int64.ofNat ((1 : Fin 2) : Nat)) <<< ((x5).toInt64 &&& 63)) ||| (al 768 (iN x5)))) x4 (x5 + (1 : Int32)) sc mr ar al h)
def xF_311_12 : Nat → Int32 → Int64 → Int32 → Int32 → jSc → (Nat → Nat) → jSc → jAl → Option (Int64 × jSc × (Nat → Nat) × jSc × jAl)
  | 0, _, _, _, _, _, _, _, _ => none
  | nn + 1, x1, x2, x4, x5, sc, mr, ar, al => (if x1 ≤ x5 then some (x2, sc, mr, ar, al) else (if iB x1 40 then (if (ar 762 (iN x1)) < (8 : Int32) then xF_311_50 (fun x1_ x2_ x4_ x5_ sc_ mr_ ar_ al_ => xF_311_12 nn x1_ x2_ x4_ x5_ sc_ mr_ ar_ al_) x1 x2 x4 x5 (0 : Int32) sc mr ar al else (if iB x5 40 then (if iB x1 40 then (if (ar 762 (iN x5)) = (ar 762 (iN x1)) then xF_311_50 (fun x1_ x2_ x4_ x5_ sc_ mr_ ar_ al_ => xF_311_12 nn x1_ x2_ x4_ x5_ sc_ mr_ ar_ al_) x1 x2 x4 x5 (1 : Int32) sc mr ar al else xF_311_50 (fun x1_ x2_ x4_ x5_ sc_ mr_ ar_ al_ => xF_311_12 nn x1_ x2_ x4_ x5_ sc_ mr_ ar_ al_) x1 x2 x4 x5 (0 : Int32) sc mr ar al) else none) else none)) else none))
set_option maxHeartbeats 4000000 in
theorem xt_311_12 {b : Bool} {rf : jRf} {d : Nat} {Post : jPo} {r9 : Int64} {sc9 : jSc} {mr9 : (Nat → Nat)} {ar9 : jSc} {al9 : jAl} (hP : Post (some (.long r9)) sc9 (x_mk mr9 rf) ar9 al9) : ∀ (nn : Nat) (x1 : Int32) (x2 : Int64) (x4 : Int32) (x5 : Int32) (sc : jSc) (mr : (Nat → Nat)) (ar : jSc) (al : jAl), xF_311_12 nn x1 x2 x4 x5 sc mr ar al = some (r9, sc9, mr9, ar9, al9) → gL (gX b) 311 (d + 2) 12 [some (.ref 759), some (.int x1), some (.long x2), none, some (.int x4), some (.int x5), none] [] sc (x_mk mr rf) ar al Post := by
  intro nn
  induction nn with
  | zero =>
    intro x1 x2 x4 x5 sc mr ar al h
    have h : (none : Option (Int64 × jSc × (Nat → Nat) × jSc × jAl)) = some _ := h
    cases h
  | succ nn ih =>
    intro x1 x2 x4 x5 sc mr ar al h
    unfold xF_311_12 at h
    refine gl_iload (gX_LK b) y_311_12 rfl rfl ?_
    refine gl_iload_n (gX_LK b) y_311_14 rfl rfl ?_
    refine gl_ic_ge (gX_LK b) y_311_15 rfl rfl (fun c8 => ?_) (fun c8 => ?_)
    · have h := (if_pos c8).symm.trans h
      refine gl_lload_n (gX_LK b) y_311_96 rfl rfl ?_
      exact gl_lreturn y_311_97 yt_311 (by cases h; exact hP)
    · have h := (if_neg c8).symm.trans h
      refine gl_aload_n (gX_LK b) y_311_18 rfl rfl ?_
      refine gl_getA (gX_LK b) y_311_19 yf_311_18 ys_759 rfl rfl rfl rfl ?_
      refine gl_iload_n (gX_LK b) y_311_22 rfl rfl ?_
      obtain ⟨c9, h⟩ := o_ck h
      refine gl_iaload (gX_LK b) y_311_23 ys_762 c9 rfl rfl ?_
      refine gl_bipush (gX_LK b) y_311_24 cb_8 rfl ?_
      refine gl_ic_lt (gX_LK b) y_311_26 rfl rfl (fun c10 => ?_) (fun c10 => ?_)
      · have h := (if_pos c10).symm.trans h
        refine gl_iconst (gX_LK b) y_311_49 ci_0 rfl ?_
        exact gl_weak (vs := [some (.ref 759), some (.int x1), some (.long x2), none, some (.int x4), some (.int x5), none]) ⟨rfl, rfl, rfl, rfl, rfl, trivial⟩ (xt_311_50  ih hP x1 x2 x4 x5 (0 : Int32) sc mr ar al h)
      · have h := (if_neg c10).symm.trans h
        refine gl_aload_n (gX_LK b) y_311_29 rfl rfl ?_
        refine gl_getA (gX_LK b) y_311_30 yf_311_18 ys_759 rfl rfl rfl rfl ?_
        refine gl_iload (gX_LK b) y_311_33 rfl rfl ?_
        obtain ⟨c11, h⟩ := o_ck h
        refine gl_iaload (gX_LK b) y_311_35 ys_762 c11 rfl rfl ?_
        refine gl_aload_n (gX_LK b) y_311_36 rfl rfl ?_
        refine gl_getA (gX_LK b) y_311_37 yf_311_18 ys_759 rfl rfl rfl rfl ?_
        refine gl_iload_n (gX_LK b) y_311_40 rfl rfl ?_
        obtain ⟨c12, h⟩ := o_ck h
        refine gl_iaload (gX_LK b) y_311_41 ys_762 c12 rfl rfl ?_
        refine gl_ic_ne (gX_LK b) y_311_42 rfl rfl (fun c13 => ?_) (fun c13 => ?_)
        · have h := (if_pos c13).symm.trans h
          refine gl_iconst (gX_LK b) y_311_45 ci_1 rfl ?_
          refine gl_goto (gX_LK b) y_311_46 rfl ?_
          exact gl_weak (vs := [some (.ref 759), some (.int x1), some (.long x2), none, some (.int x4), some (.int x5), none]) ⟨rfl, rfl, rfl, rfl, rfl, trivial⟩ (xt_311_50  ih hP x1 x2 x4 x5 (1 : Int32) sc mr ar al h)
        · have h := (if_neg c13).symm.trans h
          refine gl_iconst (gX_LK b) y_311_49 ci_0 rfl ?_
          exact gl_weak (vs := [some (.ref 759), some (.int x1), some (.long x2), none, some (.int x4), some (.int x5), none]) ⟨rfl, rfl, rfl, rfl, rfl, trivial⟩ (xt_311_50  ih hP x1 x2 x4 x5 (0 : Int32) sc mr ar al h)
def xF_311 (x1 : Int32) (sc : jSc) (mr : (Nat → Nat)) (ar : jSc) (al : jAl) : Option (Int64 × jSc × (Nat → Nat) × jSc × jAl) :=
  (o_b5 (xF_312 x1 sc mr ar al) (fun ve14 sce14 mre14 are14 ale14 => xF_311_12 oF x1 (Int64.ofNat ((0 : Fin 2) : Nat)) ve14 (0 : Int32) sce14 mre14 are14 ale14))
set_option maxHeartbeats 4000000 in
theorem xt_311 {b : Bool} {rf : jRf} {d : Nat} : xT_311 b rf xF_311 (d + 2) := by
  intro  Post x1 sc mr ar al r9 sc9 mr9 ar9 al9 h hP
  unfold xF_311 at h
  refine gl_entry (m := 5) rfl ?_
  show gL (gX b) 311 (d + 2) 0 [some (.ref 759), some (.int x1), none, none, none, none, none] [] sc (x_mk mr rf) ar al Post
  refine gl_lconst (gX_LK b) y_311_0 rfl ?_
  refine gl_lstore_n (vs2 := [some (.ref 759), some (.int x1), some (.long (Int64.ofNat ((0 : Fin 2) : Nat))), none, none, none, none]) (gX_LK b) y_311_1 rfl rfl rfl rfl ?_
  refine gl_aload_n (gX_LK b) y_311_2 rfl rfl ?_
  refine gl_iload_n (gX_LK b) y_311_3 rfl rfl ?_
  obtain ⟨ve14, sce14, mre14, are14, ale14, e14, h⟩ := o_k5 h
  refine gl_callV (gX_LK b) y_311_4 ym_311_138 rfl rfl rfl ys_759 yx_312 rfl rfl ((xt_312 )  _ _ _ _ _ _ _ _ _ _ _ e14 ?_)
  refine gl_istore (vs2 := [some (.ref 759), some (.int x1), some (.long (Int64.ofNat ((0 : Fin 2) : Nat))), none, some (.int ve14), none, none]) (gX_LK b) y_311_7 rfl rfl rfl rfl ?_
  refine gl_iconst (gX_LK b) y_311_9 ci_0 rfl ?_
  refine gl_istore (vs2 := [some (.ref 759), some (.int x1), some (.long (Int64.ofNat ((0 : Fin 2) : Nat))), none, some (.int ve14), some (.int (0 : Int32)), none]) (gX_LK b) y_311_10 rfl rfl rfl rfl ?_
  exact gl_weak (vs := [some (.ref 759), some (.int x1), some (.long (Int64.ofNat ((0 : Fin 2) : Nat))), none, some (.int ve14), some (.int (0 : Int32)), none]) ⟨rfl, rfl, rfl, rfl, rfl, trivial⟩ (xt_311_12  hP oF x1 (Int64.ofNat ((0 : Fin 2) : Nat)) ve14 (0 : Int32) sce14 mre14 are14 ale14 h)
/-- ClickOrders$Track.adds(I)I -/
def xT_299 (b : Bool) (rf : jRf) (F : Int32 → jSc → (Nat → Nat) → jSc → jAl → Option (Int32 × jSc × (Nat → Nat) × jSc × jAl)) (e : Nat) : Prop := ∀  (Post : jPo) (x1 : Int32) (sc : jSc) (mr : (Nat → Nat)) (ar : jSc) (al : jAl) (r9 : Int32) (sc9 : jSc) (mr9 : (Nat → Nat)) (ar9 : jSc) (al9 : jAl), F x1 sc mr ar al = some (r9, sc9, mr9, ar9, al9) → Post (some (.int r9)) sc9 (x_mk mr9 rf) ar9 al9 → gW (gX b) 299 e 0 (j_av [.ref 759, .int x1]) [] sc (x_mk mr rf) ar al Post
def xF_299 (x1 : Int32) (sc : jSc) (mr : (Nat → Nat)) (ar : jSc) (al : jAl) : Option (Int32 × jSc × (Nat → Nat) × jSc × jAl) :=
  (if (sc 759 5) < (40 : Int32) then (if iB (sc 759 5) 40 then (o_b5 (xF_209 760 x1 (sc 759 5) sc mr (j_u2 ar 762 (iN (sc 759 5)) x1) al) (fun ve3 sce3 mre3 are3 ale3 => (if iB (sc 759 5) 40 then (if iB (sc 759 5) 40 then (if iB (sc 759 5) 40 then (o_b5 (xF_311 (sc 759 5) sce3 mre3 (j_u2 (j_u2 (j_u2 are3 763 (iN (sc 759 5)) ve3) 764 (iN (sc 759 5)) (sce3 757 3)) 765 (iN (sc 759 5)) (sce3 757 4)) ale3) (fun ve7 sce7 mre7 are7 ale7 => (if iB (sc 759 5) 40 then (o_b4 (xF_310 (j_u2 sce7 759 5 ((sce7 759 5) + (1 : Int32))) mre7 are7 (j_u2 ale7 768 (iN (sc 759 5)) ve7)) (fun sce9 mre9 are9 ale9 => some ((sc 759 5), (j_u2 sce9 759 14 (0 : Int32)), mre9, are9, ale9))) else none))) else none) else none) else none))) else none) else some ((-1 : Int32), sc, mr, ar, al))
set_option maxHeartbeats 4000000 in
theorem xt_299 {b : Bool} {rf : jRf} {d : Nat} : xT_299 b rf xF_299 (d + 5) := by
  intro  Post x1 sc mr ar al r9 sc9 mr9 ar9 al9 h hP
  unfold xF_299 at h
  refine gl_entry (m := 1) rfl ?_
  show gL (gX b) 299 (d + 5) 0 [some (.ref 759), some (.int x1), none] [] sc (x_mk mr rf) ar al Post
  refine gl_aload_n (gX_LK b) y_299_0 rfl rfl ?_
  refine gl_get (gX_LK b) y_299_1 yf_299_31 ys_759 rfl rfl rfl rfl ?_
  refine gl_bipush (gX_LK b) y_299_4 cb_40 rfl ?_
  refine gl_ic_lt (gX_LK b) y_299_6 rfl rfl (fun c1 => ?_) (fun c1 => ?_)
  · have h := (if_pos c1).symm.trans h
    refine gl_aload_n (gX_LK b) y_299_11 rfl rfl ?_
    refine gl_get (gX_LK b) y_299_12 yf_299_31 ys_759 rfl rfl rfl rfl ?_
    refine gl_istore_n (vs2 := [some (.ref 759), some (.int x1), some (.int (sc 759 5))]) (gX_LK b) y_299_15 rfl rfl rfl rfl ?_
    refine gl_aload_n (gX_LK b) y_299_16 rfl rfl ?_
    refine gl_getA (gX_LK b) y_299_17 yf_299_18 ys_759 rfl rfl rfl rfl ?_
    refine gl_iload_n (gX_LK b) y_299_20 rfl rfl ?_
    refine gl_iload_n (gX_LK b) y_299_21 rfl rfl ?_
    obtain ⟨c2, h⟩ := o_ck h
    refine gl_iastore (ar2 := (j_u2 ar 762 (iN (sc 759 5)) x1)) (gX_LK b) y_299_22 ys_762 c2 rfl rfl ?_
    refine gl_aload_n (gX_LK b) y_299_23 rfl rfl ?_
    refine gl_getA (gX_LK b) y_299_24 yf_299_22 ys_759 rfl rfl rfl rfl ?_
    refine gl_iload_n (gX_LK b) y_299_27 rfl rfl ?_
    refine gl_aload_n (gX_LK b) y_299_28 rfl rfl ?_
    refine gl_getA (gX_LK b) y_299_29 yf_299_61 ys_759 rfl rfl rfl rfl ?_
    refine gl_aload_n (gX_LK b) y_299_32 rfl rfl ?_
    refine gl_getA (gX_LK b) y_299_33 yf_299_12 ys_759 rfl rfl rfl rfl ?_
    refine gl_iload_n (gX_LK b) y_299_36 rfl rfl ?_
    refine gl_iload_n (gX_LK b) y_299_37 rfl rfl ?_
    obtain ⟨ve3, sce3, mre3, are3, ale3, e3, h⟩ := o_k5 h
    refine gl_callV (gX_LK b) y_299_38 ym_299_74 rfl rfl rfl ys_757 yx_209 rfl rfl ((xt_209 )  _ _ _ _ (show x_pg 760 = true from rfl) _ _ _ _ _ _ _ _ _ e3 ?_)
    obtain ⟨c4, h⟩ := o_ck h
    refine gl_iastore (ar2 := (j_u2 are3 763 (iN (sc 759 5)) ve3)) (gX_LK b) y_299_41 ys_763 c4 rfl rfl ?_
    refine gl_aload_n (gX_LK b) y_299_42 rfl rfl ?_
    refine gl_getA (gX_LK b) y_299_43 yf_299_25 ys_759 rfl rfl rfl rfl ?_
    refine gl_iload_n (gX_LK b) y_299_46 rfl rfl ?_
    refine gl_aload_n (gX_LK b) y_299_47 rfl rfl ?_
    refine gl_getA (gX_LK b) y_299_48 yf_299_61 ys_759 rfl rfl rfl rfl ?_
    refine gl_get (gX_LK b) y_299_51 yf_299_78 ys_757 rfl rfl rfl rfl ?_
    obtain ⟨c5, h⟩ := o_ck h
    refine gl_iastore (ar2 := (j_u2 (j_u2 are3 763 (iN (sc 759 5)) ve3) 764 (iN (sc 759 5)) (sce3 757 3))) (gX_LK b) y_299_54 ys_764 c5 rfl rfl ?_
    refine gl_aload_n (gX_LK b) y_299_55 rfl rfl ?_
    refine gl_getA (gX_LK b) y_299_56 yf_299_28 ys_759 rfl rfl rfl rfl ?_
    refine gl_iload_n (gX_LK b) y_299_59 rfl rfl ?_
    refine gl_aload_n (gX_LK b) y_299_60 rfl rfl ?_
    refine gl_getA (gX_LK b) y_299_61 yf_299_61 ys_759 rfl rfl rfl rfl ?_
    refine gl_get (gX_LK b) y_299_64 yf_299_80 ys_757 rfl rfl rfl rfl ?_
    obtain ⟨c6, h⟩ := o_ck h
    refine gl_iastore (ar2 := (j_u2 (j_u2 (j_u2 are3 763 (iN (sc 759 5)) ve3) 764 (iN (sc 759 5)) (sce3 757 3)) 765 (iN (sc 759 5)) (sce3 757 4))) (gX_LK b) y_299_67 ys_765 c6 rfl rfl ?_
    refine gl_aload_n (gX_LK b) y_299_68 rfl rfl ?_
    refine gl_getA (gX_LK b) y_299_69 yf_299_38 ys_759 rfl rfl rfl rfl ?_
    refine gl_iload_n (gX_LK b) y_299_72 rfl rfl ?_
    refine gl_aload_n (gX_LK b) y_299_73 rfl rfl ?_
    refine gl_iload_n (gX_LK b) y_299_74 rfl rfl ?_
    obtain ⟨ve7, sce7, mre7, are7, ale7, e7, h⟩ := o_k5 h
    refine gl_callV (gX_LK b) y_299_75 ym_299_82 rfl rfl rfl ys_759 yx_311 rfl rfl ((xt_311 )  _ _ _ _ _ _ _ _ _ _ _ e7 ?_)
    obtain ⟨c8, h⟩ := o_ck h
    refine gl_lastore (gX_LK b) y_299_78 ys_768 c8 rfl ?_
    refine gl_aload_n (gX_LK b) y_299_79 rfl rfl ?_
    refine gl_dup (gX_LK b) y_299_80 rfl rfl ?_
    refine gl_get (gX_LK b) y_299_81 yf_299_31 ys_759 rfl rfl rfl rfl ?_
    refine gl_iconst (gX_LK b) y_299_84 ci_1 rfl ?_
    refine gl_iadd (gX_LK b) y_299_85 rfl ?_
    refine gl_put (sc' := (j_u2 sce7 759 5 ((sce7 759 5) + (1 : Int32)))) (gX_LK b) y_299_86 yf_299_31 ys_759 rfl rfl rfl rfl rfl ?_
    refine gl_aload_n (gX_LK b) y_299_89 rfl rfl ?_
    obtain ⟨sce9, mre9, are9, ale9, e9, h⟩ := o_k4 h
    refine gl_callV (gX_LK b) y_299_90 ym_299_71 rfl rfl rfl ys_759 yx_310 rfl rfl ((xt_310 )  _  _ _ _ _ _ _ _ _ e9 ?_)
    refine gl_aload_n (gX_LK b) y_299_93 rfl rfl ?_
    refine gl_iconst (gX_LK b) y_299_94 ci_0 rfl ?_
    refine gl_put (sc' := (j_u2 sce9 759 14 (0 : Int32))) (gX_LK b) y_299_95 yf_299_57 ys_759 rfl rfl rfl rfl rfl ?_
    refine gl_iload_n (gX_LK b) y_299_98 rfl rfl ?_
    exact gl_ireturn y_299_99 (Or.inl yt_299) (by cases h; exact hP)
  · have h := (if_neg c1).symm.trans h
    refine gl_iconst (gX_LK b) y_299_9 ci_m1 rfl ?_
    exact gl_ireturn y_299_10 (Or.inl yt_299) (by cases h; exact hP)
