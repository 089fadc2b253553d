/-! ClickOrders: its methods as functions, and that the machine does what they say. -/
/-- ClickOrders$Met.hash(LClickOrders$Page;)I -/
def xT_224 (b : Bool) (rf : jRf) (F : Nat → jSc → (Nat → Nat) → jSc → jAl → Option (Int32 × jSc × (Nat → Nat) × jSc × jAl)) (e : Nat) : Prop := ∀  (Post : jPo) (p1 : Nat) (hp1 : x_pg p1 = true) (sc : jSc) (mr : (Nat → Nat)) (ar : jSc) (al : jAl) (r9 : Int32) (sc9 : jSc) (mr9 : (Nat → Nat)) (ar9 : jSc) (al9 : jAl), F p1 sc mr ar al = some (r9, sc9, mr9, ar9, al9) → Post (some (.int r9)) sc9 (x_mk mr9 rf) ar9 al9 → gW (gX b) 224 e 0 (j_av [.ref 774, .ref p1]) [] sc (x_mk mr rf) ar al Post
def xF_224_4 : Nat → Nat → Int32 → Int32 → jSc → (Nat → Nat) → jSc → jAl → Option (Int32 × jSc × (Nat → Nat) × jSc × jAl)
  | 0, _, _, _, _, _, _, _ => none
  | nn + 1, p1, x2, x3, sc, mr, ar, al => (if (sc 774 5) ≤ x3 then some (((((x2 * (-1640531535 : Int32))).toUInt32 >>> (((19 : Int32)).toUInt32 &&& Int32.toUInt32 31)).toInt32 &&& (8191 : Int32)), sc, mr, ar, al) else (if iB x3 50 then xF_224_4 nn p1 ((x2 * (31 : Int32)) + (ar (p1 + 1) (iN x3))) (x3 + (1 : Int32)) sc mr ar al else none))
set_option maxHeartbeats 4000000 in
theorem xt_224_4 {b : Bool} {rf : jRf} {d : Nat} {Post : jPo} {r9 : Int32} {sc9 : jSc} {mr9 : (Nat → Nat)} {ar9 : jSc} {al9 : jAl} (hP : Post (some (.int r9)) sc9 (x_mk mr9 rf) ar9 al9) : ∀ (nn : Nat) (p1 : Nat) (x2 : Int32) (x3 : Int32) (sc : jSc) (mr : (Nat → Nat)) (ar : jSc) (al : jAl), x_pg p1 = true → xF_224_4 nn p1 x2 x3 sc mr ar al = some (r9, sc9, mr9, ar9, al9) → gL (gX b) 224 (d + 1) 4 [some (.ref 774), some (.ref p1), some (.int x2), some (.int x3)] [] sc (x_mk mr rf) ar al Post := by
  intro nn
  induction nn with
  | zero =>
    intro p1 x2 x3 sc mr ar al hp1 h
    have h : (none : Option (Int32 × jSc × (Nat → Nat) × jSc × jAl)) = some _ := h
    cases h
  | succ nn ih =>
    intro p1 x2 x3 sc mr ar al hp1 h
    unfold xF_224_4 at h
    refine gl_iload_n (gX_LK b) y_224_4 rfl rfl ?_
    refine gl_aload_n (gX_LK b) y_224_5 rfl rfl ?_
    refine gl_get (gX_LK b) y_224_6 yf_224_31 ys_774 rfl rfl rfl rfl ?_
    refine gl_ic_ge (gX_LK b) y_224_9 rfl rfl (fun c1 => ?_) (fun c1 => ?_)
    · have h := (if_pos c1).symm.trans h
      refine gl_iload_n (gX_LK b) y_224_30 rfl rfl ?_
      refine gl_ldc (gX_LK b) y_224_31 yc_224_53 rfl ?_
      refine gl_imul (gX_LK b) y_224_33 rfl ?_
      refine gl_istore_n (vs2 := [some (.ref 774), some (.ref p1), some (.int (x2 * (-1640531535 : Int32))), some (.int x3)]) (gX_LK b) y_224_34 rfl rfl rfl rfl ?_
      refine gl_iload_n (gX_LK b) y_224_35 rfl rfl ?_
      refine gl_bipush (gX_LK b) y_224_36 cb_19 rfl ?_
      refine gl_iushr (gX_LK b) y_224_38 rfl ?_
      refine gl_sipush (gX_LK b) y_224_39 cs_8191 rfl ?_
      refine gl_iand (gX_LK b) y_224_42 rfl ?_
      exact gl_ireturn y_224_43 (Or.inl yt_224) (by cases h; exact hP)
    · have h := (if_neg c1).symm.trans h
      refine gl_iload_n (gX_LK b) y_224_12 rfl rfl ?_
      refine gl_bipush (gX_LK b) y_224_13 cb_31 rfl ?_
      refine gl_imul (gX_LK b) y_224_15 rfl ?_
      refine gl_aload_n (gX_LK b) y_224_16 rfl rfl ?_
      refine gl_getA (gX_LK b) y_224_17 yf_224_46 (ys_pg hp1) rfl rfl (yr_pg hp1) rfl ?_
      refine gl_iload_n (gX_LK b) y_224_20 rfl rfl ?_
      obtain ⟨c2, h⟩ := o_ck h
      refine gl_iaload (gX_LK b) y_224_21 (ys_pgc hp1) c2 rfl rfl ?_
      refine gl_iadd (gX_LK b) y_224_22 rfl ?_
      refine gl_istore_n (vs2 := [some (.ref 774), some (.ref p1), some (.int ((x2 * (31 : Int32)) + (ar (p1 + 1) (iN x3)))), some (.int x3)]) (gX_LK b) y_224_23 rfl rfl rfl rfl ?_
      refine gl_iinc (vs2 := [some (.ref 774), some (.ref p1), some (.int ((x2 * (31 : Int32)) + (ar (p1 + 1) (iN x3)))), some (.int (x3 + (1 : Int32)))]) (gX_LK b) y_224_24 rfl rfl rfl ci_1 rfl rfl ?_
      refine gl_goto (gX_LK b) y_224_27 rfl ?_
      exact gl_weak (vs := [some (.ref 774), some (.ref p1), some (.int ((x2 * (31 : Int32)) + (ar (p1 + 1) (iN x3)))), some (.int (x3 + (1 : Int32)))]) ⟨rfl, rfl, rfl, rfl, trivial⟩ (ih p1 ((x2 * (31 : Int32)) + (ar (p1 + 1) (iN x3))) (x3 + (1 : Int32)) sc mr ar al hp1 h)
def xF_224 (p1 : Nat) (sc : jSc) (mr : (Nat → Nat)) (ar : jSc) (al : jAl) : Option (Int32 × jSc × (Nat → Nat) × jSc × jAl) :=
  xF_224_4 oF p1 (0 : Int32) (0 : Int32) sc mr ar al
set_option maxHeartbeats 4000000 in
theorem xt_224 {b : Bool} {rf : jRf} {d : Nat} : xT_224 b rf xF_224 (d + 1) := by
  intro  Post p1 hp1 sc mr ar al r9 sc9 mr9 ar9 al9 h hP
  unfold xF_224 at h
  refine gl_entry (m := 2) rfl ?_
  show gL (gX b) 224 (d + 1) 0 [some (.ref 774), some (.ref p1), none, none] [] sc (x_mk mr rf) ar al Post
  refine gl_iconst (gX_LK b) y_224_0 ci_0 rfl ?_
  refine gl_istore_n (vs2 := [some (.ref 774), some (.ref p1), some (.int (0 : Int32)), none]) (gX_LK b) y_224_1 rfl rfl rfl rfl ?_
  refine gl_iconst (gX_LK b) y_224_2 ci_0 rfl ?_
  refine gl_istore_n (vs2 := [some (.ref 774), some (.ref p1), some (.int (0 : Int32)), some (.int (0 : Int32))]) (gX_LK b) y_224_3 rfl rfl rfl rfl ?_
  exact gl_weak (vs := [some (.ref 774), some (.ref p1), some (.int (0 : Int32)), some (.int (0 : Int32))]) ⟨rfl, rfl, rfl, rfl, trivial⟩ (xt_224_4  hP oF p1 (0 : Int32) (0 : Int32) sc mr ar al hp1 h)
/-- ClickOrders$Met.seeks(LClickOrders$Page;)I -/
def xT_220 (b : Bool) (rf : jRf) (F : Nat → jSc → (Nat → Nat) → jSc → jAl → Option (Int32 × jSc × (Nat → Nat) × jSc × jAl)) (e : Nat) : Prop := ∀  (Post : jPo) (p1 : Nat) (hp1 : x_pg p1 = true) (sc : jSc) (mr : (Nat → Nat)) (ar : jSc) (al : jAl) (r9 : Int32) (sc9 : jSc) (mr9 : (Nat → Nat)) (ar9 : jSc) (al9 : jAl), F p1 sc mr ar al = some (r9, sc9, mr9, ar9, al9) → Post (some (.int r9)) sc9 (x_mk mr9 rf) ar9 al9 → gW (gX b) 220 e 0 (j_av [.ref 774, .ref p1]) [] sc (x_mk mr rf) ar al Post
def xF_220_29 : Nat → Nat → Int32 → jSc → (Nat → Nat) → jSc → jAl → Option (Int32 × jSc × (Nat → Nat) × jSc × jAl)
  | 0, _, _, _, _, _, _ => none
  | nn + 1, p1, x2, sc, mr, ar, al => (if (8192 : Int32) ≤ x2 then some ((-1 : Int32), sc, mr, ar, al) else (if iB (sc 774 4) 8192 then (if 0 ≤ ((ar 776 (iN (sc 774 4))) - (1 : Int32)) then (o_b5 (xF_223 ((ar 776 (iN (sc 774 4))) - (1 : Int32)) p1 sc mr ar al) (fun ve4 sce4 mre4 are4 ale4 => (if ve4 = 0 then xF_220_29 nn p1 (x2 + (1 : Int32)) (j_u2 sce4 774 4 (((sce4 774 4) + (1 : Int32)) &&& (8191 : Int32))) mre4 are4 ale4 else some (((ar 776 (iN (sc 774 4))) - (1 : Int32)), sce4, mre4, are4, ale4)))) else some ((-1 : Int32), sc, mr, ar, al)) else none))
set_option maxHeartbeats 4000000 in
theorem xt_220_29 {b : Bool} {rf : jRf} {d : Nat} {Post : jPo} {r9 : Int32} {sc9 : jSc} {mr9 : (Nat → Nat)} {ar9 : jSc} {al9 : jAl} (hP : Post (some (.int r9)) sc9 (x_mk mr9 rf) ar9 al9) : ∀ (nn : Nat) (p1 : Nat) (x2 : Int32) (sc : jSc) (mr : (Nat → Nat)) (ar : jSc) (al : jAl), x_pg p1 = true → xF_220_29 nn p1 x2 sc mr ar al = some (r9, sc9, mr9, ar9, al9) → gL (gX b) 220 (d + 3) 29 [some (.ref 774), some (.ref p1), some (.int x2), none] [] sc (x_mk mr rf) ar al Post := by
  intro nn
  induction nn with
  | zero =>
    intro p1 x2 sc mr ar al hp1 h
    have h : (none : Option (Int32 × jSc × (Nat → Nat) × jSc × jAl)) = some _ := h
    cases h
  | succ nn ih =>
    intro p1 x2 sc mr ar al hp1 h
    unfold xF_220_29 at h
    refine gl_iload_n (gX_LK b) y_220_29 rfl rfl ?_
    refine gl_sipush (gX_LK b) y_220_30 cs_8192 rfl ?_
    refine gl_ic_ge (gX_LK b) y_220_33 rfl rfl (fun c1 => ?_) (fun c1 => ?_)
    · have h := (if_pos c1).symm.trans h
      refine gl_iconst (gX_LK b) y_220_85 ci_m1 rfl ?_
      exact gl_ireturn y_220_86 (Or.inl yt_220) (by cases h; exact hP)
    · have h := (if_neg c1).symm.trans h
      refine gl_aload_n (gX_LK b) y_220_36 rfl rfl ?_
      refine gl_getA (gX_LK b) y_220_37 yf_220_22 ys_774 rfl rfl rfl rfl ?_
      refine gl_aload_n (gX_LK b) y_220_40 rfl rfl ?_
      refine gl_get (gX_LK b) y_220_41 yf_220_28 ys_774 rfl rfl rfl rfl ?_
      obtain ⟨c2, h⟩ := o_ck h
      refine gl_iaload (gX_LK b) y_220_44 ys_776 c2 rfl rfl ?_
      refine gl_iconst (gX_LK b) y_220_45 ci_1 rfl ?_
      refine gl_isub (gX_LK b) y_220_46 rfl ?_
      refine gl_istore_n (vs2 := [some (.ref 774), some (.ref p1), some (.int x2), some (.int ((ar 776 (iN (sc 774 4))) - (1 : Int32)))]) (gX_LK b) y_220_47 rfl rfl rfl rfl ?_
      refine gl_iload_n (gX_LK b) y_220_48 rfl rfl ?_
      refine gl_if_ge (gX_LK b) y_220_49 rfl rfl (fun c3 => ?_) (fun c3 => ?_)
      · have h := (if_pos c3).symm.trans h
        refine gl_aload_n (gX_LK b) y_220_54 rfl rfl ?_
        refine gl_iload_n (gX_LK b) y_220_55 rfl rfl ?_
        refine gl_aload_n (gX_LK b) y_220_56 rfl rfl ?_
        obtain ⟨ve4, sce4, mre4, are4, ale4, e4, h⟩ := o_k5 h
        refine gl_callV (gX_LK b) y_220_57 ym_220_42 rfl rfl rfl ys_774 yx_223 rfl rfl ((xt_223 )  _ _ _ hp1 _ _ _ _ _ _ _ _ _ e4 ?_)
        refine gl_if_eq (gX_LK b) y_220_60 rfl rfl (fun c5 => ?_) (fun c5 => ?_)
        · have h := (if_pos c5).symm.trans h
          refine gl_aload_n (gX_LK b) y_220_65 rfl rfl ?_
          refine gl_aload_n (gX_LK b) y_220_66 rfl rfl ?_
          refine gl_get (gX_LK b) y_220_67 yf_220_28 ys_774 rfl rfl rfl rfl ?_
          refine gl_iconst (gX_LK b) y_220_70 ci_1 rfl ?_
          refine gl_iadd (gX_LK b) y_220_71 rfl ?_
          refine gl_sipush (gX_LK b) y_220_72 cs_8191 rfl ?_
          refine gl_iand (gX_LK b) y_220_75 rfl ?_
          refine gl_put (sc' := (j_u2 sce4 774 4 (((sce4 774 4) + (1 : Int32)) &&& (8191 : Int32)))) (gX_LK b) y_220_76 yf_220_28 ys_774 rfl rfl rfl rfl rfl ?_
          refine gl_iinc (vs2 := [some (.ref 774), some (.ref p1), some (.int (x2 + (1 : Int32))), some (.int ((ar 776 (iN (sc 774 4))) - (1 : Int32)))]) (gX_LK b) y_220_79 rfl rfl rfl ci_1 rfl rfl ?_
          refine gl_goto (gX_LK b) y_220_82 rfl ?_
          exact gl_weak (vs := [some (.ref 774), some (.ref p1), some (.int (x2 + (1 : Int32))), none]) ⟨rfl, rfl, rfl, trivial⟩ (ih p1 (x2 + (1 : Int32)) (j_u2 sce4 774 4 (((sce4 774 4) + (1 : Int32)) &&& (8191 : Int32))) mre4 are4 ale4 hp1 h)
        · have h := (if_neg c5).symm.trans h
          refine gl_iload_n (gX_LK b) y_220_63 rfl rfl ?_
          exact gl_ireturn y_220_64 (Or.inl yt_220) (by cases h; exact hP)
      · have h := (if_neg c3).symm.trans h
        refine gl_iconst (gX_LK b) y_220_52 ci_m1 rfl ?_
        exact gl_ireturn y_220_53 (Or.inl yt_220) (by cases h; exact hP)
def xF_220 (p1 : Nat) (sc : jSc) (mr : (Nat → Nat)) (ar : jSc) (al : jAl) : Option (Int32 × jSc × (Nat → Nat) × jSc × jAl) :=
  (o_b5 (xF_234 p1 sc mr ar al) (fun ve6 sce6 mre6 are6 ale6 => (if ve6 = 0 then (o_b5 (xF_224 p1 (j_u2 sce6 774 5 (35 : Int32)) mre6 are6 ale6) (fun ve8 sce8 mre8 are8 ale8 => xF_220_29 oF p1 (0 : Int32) (j_u2 sce8 774 4 ve8) mre8 are8 ale8)) else (o_b5 (xF_224 p1 (j_u2 sce6 774 5 (20 : Int32)) mre6 are6 ale6) (fun ve9 sce9 mre9 are9 ale9 => xF_220_29 oF p1 (0 : Int32) (j_u2 sce9 774 4 ve9) mre9 are9 ale9)))))
set_option maxHeartbeats 4000000 in
theorem xt_220 {b : Bool} {rf : jRf} {d : Nat} : xT_220 b rf xF_220 (d + 3) := by
  intro  Post p1 hp1 sc mr ar al r9 sc9 mr9 ar9 al9 h hP
  unfold xF_220 at h
  refine gl_entry (m := 2) rfl ?_
  show gL (gX b) 220 (d + 3) 0 [some (.ref 774), some (.ref p1), none, none] [] sc (x_mk mr rf) ar al Post
  refine gl_aload_n (gX_LK b) y_220_0 rfl rfl ?_
  refine gl_aload_n (gX_LK b) y_220_1 rfl rfl ?_
  obtain ⟨ve6, sce6, mre6, are6, ale6, e6, h⟩ := o_k5 h
  refine gl_callV (gX_LK b) y_220_2 ym_220_34 rfl rfl rfl (ys_pg hp1) yx_234 rfl rfl ((xt_234 )  _ _ hp1 _ _ _ _ _ _ _ _ _ e6 ?_)
  refine gl_if_eq (gX_LK b) y_220_5 rfl rfl (fun c7 => ?_) (fun c7 => ?_)
  · have h := (if_pos c7).symm.trans h
    refine gl_bipush (gX_LK b) y_220_13 cb_35 rfl ?_
    refine gl_put (sc' := (j_u2 sce6 774 5 (35 : Int32))) (gX_LK b) y_220_15 yf_220_31 ys_774 rfl rfl rfl rfl rfl ?_
    refine gl_aload_n (gX_LK b) y_220_18 rfl rfl ?_
    refine gl_aload_n (gX_LK b) y_220_19 rfl rfl ?_
    refine gl_aload_n (gX_LK b) y_220_20 rfl rfl ?_
    obtain ⟨ve8, sce8, mre8, are8, ale8, e8, h⟩ := o_k5 h
    refine gl_callV (gX_LK b) y_220_21 ym_220_38 rfl rfl rfl ys_774 yx_224 rfl rfl ((xt_224 )  _ _ hp1 _ _ _ _ _ _ _ _ _ e8 ?_)
    refine gl_put (sc' := (j_u2 sce8 774 4 ve8)) (gX_LK b) y_220_24 yf_220_28 ys_774 rfl rfl rfl rfl rfl ?_
    refine gl_iconst (gX_LK b) y_220_27 ci_0 rfl ?_
    refine gl_istore_n (vs2 := [some (.ref 774), some (.ref p1), some (.int (0 : Int32)), none]) (gX_LK b) y_220_28 rfl rfl rfl rfl ?_
    exact gl_weak (vs := [some (.ref 774), some (.ref p1), some (.int (0 : Int32)), none]) ⟨rfl, rfl, rfl, trivial⟩ (xt_220_29  hP oF p1 (0 : Int32) (j_u2 sce8 774 4 ve8) mre8 are8 ale8 hp1 h)
  · have h := (if_neg c7).symm.trans h
    refine gl_bipush (gX_LK b) y_220_8 cb_20 rfl ?_
    refine gl_goto (gX_LK b) y_220_10 rfl ?_
    refine gl_put (sc' := (j_u2 sce6 774 5 (20 : Int32))) (gX_LK b) y_220_15 yf_220_31 ys_774 rfl rfl rfl rfl rfl ?_
    refine gl_aload_n (gX_LK b) y_220_18 rfl rfl ?_
    refine gl_aload_n (gX_LK b) y_220_19 rfl rfl ?_
    refine gl_aload_n (gX_LK b) y_220_20 rfl rfl ?_
    obtain ⟨ve9, sce9, mre9, are9, ale9, e9, h⟩ := o_k5 h
    refine gl_callV (gX_LK b) y_220_21 ym_220_38 rfl rfl rfl ys_774 yx_224 rfl rfl ((xt_224 )  _ _ hp1 _ _ _ _ _ _ _ _ _ e9 ?_)
    refine gl_put (sc' := (j_u2 sce9 774 4 ve9)) (gX_LK b) y_220_24 yf_220_28 ys_774 rfl rfl rfl rfl rfl ?_
    refine gl_iconst (gX_LK b) y_220_27 ci_0 rfl ?_
    refine gl_istore_n (vs2 := [some (.ref 774), some (.ref p1), some (.int (0 : Int32)), none]) (gX_LK b) y_220_28 rfl rfl rfl rfl ?_
    exact gl_weak (vs := [some (.ref 774), some (.ref p1), some (.int (0 : Int32)), none]) ⟨rfl, rfl, rfl, trivial⟩ (xt_220_29  hP oF p1 (0 : Int32) (j_u2 sce9 774 4 ve9) mre9 are9 ale9 hp1 h)
/-- ClickOrders$Met.adds(LClickOrders$Page;)I -/
def xT_221 (b : Bool) (rf : jRf) (F : Nat → jSc → (Nat → Nat) → jSc → jAl → Option (Int32 × jSc × (Nat → Nat) × jSc × jAl)) (e : Nat) : Prop := ∀  (Post : jPo) (p1 : Nat) (hp1 : x_pg p1 = true) (sc : jSc) (mr : (Nat → Nat)) (ar : jSc) (al : jAl) (r9 : Int32) (sc9 : jSc) (mr9 : (Nat → Nat)) (ar9 : jSc) (al9 : jAl), F p1 sc mr ar al = some (r9, sc9, mr9, ar9, al9) → Post (some (.int r9)) sc9 (x_mk mr9 rf) ar9 al9 → gW (gX b) 221 e 0 (j_av [.ref 774, .ref p1]) [] sc (x_mk mr rf) ar al Post
def xF_221 (p1 : Nat) (sc : jSc) (mr : (Nat → Nat)) (ar : jSc) (al : jAl) : Option (Int32 × jSc × (Nat → Nat) × jSc × jAl) :=
  (if (2048 : Int32) ≤ (sc 774 0) then some ((-1 : Int32), sc, mr, ar, al) else (if iB (sc 774 4) 8192 then (if (ar 776 (iN (sc 774 4))) = 0 then (if xcp (0 : Int32) ((sc 774 0) * (35 : Int32)) (35 : Int32) 50 71680 then (if iB (sc 774 0) 2048 then (if iB (sc 774 4) 8192 then some ((((sc 774 0) + (1 : Int32)) - (1 : Int32)), (j_u2 sc 774 0 ((sc 774 0) + (1 : Int32))), mr, (j_u2 (j_u2 (va_up ar 775 (va_cpy (ar (p1 + 1)) (ar 775) (iN (0 : Int32)) (iN ((sc 774 0) * (35 : Int32))) (iN (35 : Int32)))) 777 (iN (sc 774 0)) (sc 774 4)) 776 (iN (sc 774 4)) ((sc 774 0) + (1 : Int32))), al) else none) else none) else none) else some ((-1 : Int32), sc, mr, ar, al)) else none))
set_option maxHeartbeats 4000000 in
theorem xt_221 {b : Bool} {rf : jRf} {d : Nat} : xT_221 b rf xF_221 (d + 1) := by
  intro  Post p1 hp1 sc mr ar al r9 sc9 mr9 ar9 al9 h hP
  unfold xF_221 at h
  refine gl_entry (m := 0) rfl ?_
  show gL (gX b) 221 (d + 1) 0 [some (.ref 774), some (.ref p1)] [] sc (x_mk mr rf) ar al Post
  refine gl_aload_n (gX_LK b) y_221_0 rfl rfl ?_
  refine gl_get (gX_LK b) y_221_1 yf_221_9 ys_774 rfl rfl rfl rfl ?_
  refine gl_sipush (gX_LK b) y_221_4 cs_2048 rfl ?_
  refine gl_ic_ge (gX_LK b) y_221_7 rfl rfl (fun c1 => ?_) (fun c1 => ?_)
  · have h := (if_pos c1).symm.trans h
    refine gl_iconst (gX_LK b) y_221_22 ci_m1 rfl ?_
    exact gl_ireturn y_221_23 (Or.inl yt_221) (by cases h; exact hP)
  · have h := (if_neg c1).symm.trans h
    refine gl_aload_n (gX_LK b) y_221_10 rfl rfl ?_
    refine gl_getA (gX_LK b) y_221_11 yf_221_22 ys_774 rfl rfl rfl rfl ?_
    refine gl_aload_n (gX_LK b) y_221_14 rfl rfl ?_
    refine gl_get (gX_LK b) y_221_15 yf_221_28 ys_774 rfl rfl rfl rfl ?_
    obtain ⟨c2, h⟩ := o_ck h
    refine gl_iaload (gX_LK b) y_221_18 ys_776 c2 rfl rfl ?_
    refine gl_if_eq (gX_LK b) y_221_19 rfl rfl (fun c3 => ?_) (fun c3 => ?_)
    · have h := (if_pos c3).symm.trans h
      refine gl_aload_n (gX_LK b) y_221_24 rfl rfl ?_
      refine gl_getA (gX_LK b) y_221_25 yf_221_46 (ys_pg hp1) rfl rfl (yr_pg hp1) rfl ?_
      refine gl_iconst (gX_LK b) y_221_28 ci_0 rfl ?_
      refine gl_aload_n (gX_LK b) y_221_29 rfl rfl ?_
      refine gl_getA (gX_LK b) y_221_30 yf_221_18 ys_774 rfl rfl rfl rfl ?_
      refine gl_aload_n (gX_LK b) y_221_33 rfl rfl ?_
      refine gl_get (gX_LK b) y_221_34 yf_221_9 ys_774 rfl rfl rfl rfl ?_
      refine gl_bipush (gX_LK b) y_221_37 cb_35 rfl ?_
      refine gl_imul (gX_LK b) y_221_39 rfl ?_
      refine gl_bipush (gX_LK b) y_221_40 cb_35 rfl ?_
      obtain ⟨c4, h⟩ := o_ck h
      refine gl_copy (gX_LK b) y_221_42 yn_221_47 yz_221_47 (ys_pgc hp1) ys_775 c4 rfl rfl ?_
      refine gl_aload_n (gX_LK b) y_221_45 rfl rfl ?_
      refine gl_getA (gX_LK b) y_221_46 yf_221_25 ys_774 rfl rfl rfl rfl ?_
      refine gl_aload_n (gX_LK b) y_221_49 rfl rfl ?_
      refine gl_get (gX_LK b) y_221_50 yf_221_9 ys_774 rfl rfl rfl rfl ?_
      refine gl_aload_n (gX_LK b) y_221_53 rfl rfl ?_
      refine gl_get (gX_LK b) y_221_54 yf_221_28 ys_774 rfl rfl rfl rfl ?_
      obtain ⟨c5, h⟩ := o_ck h
      refine gl_iastore (ar2 := (j_u2 (va_up ar 775 (va_cpy (ar (p1 + 1)) (ar 775) (iN (0 : Int32)) (iN ((sc 774 0) * (35 : Int32))) (iN (35 : Int32)))) 777 (iN (sc 774 0)) (sc 774 4))) (gX_LK b) y_221_57 ys_777 c5 rfl rfl ?_
      refine gl_aload_n (gX_LK b) y_221_58 rfl rfl ?_
      refine gl_dup (gX_LK b) y_221_59 rfl rfl ?_
      refine gl_get (gX_LK b) y_221_60 yf_221_9 ys_774 rfl rfl rfl rfl ?_
      refine gl_iconst (gX_LK b) y_221_63 ci_1 rfl ?_
      refine gl_iadd (gX_LK b) y_221_64 rfl ?_
      refine gl_put (sc' := (j_u2 sc 774 0 ((sc 774 0) + (1 : Int32)))) (gX_LK b) y_221_65 yf_221_9 ys_774 rfl rfl rfl rfl rfl ?_
      refine gl_aload_n (gX_LK b) y_221_68 rfl rfl ?_
      refine gl_getA (gX_LK b) y_221_69 yf_221_22 ys_774 rfl rfl rfl rfl ?_
      refine gl_aload_n (gX_LK b) y_221_72 rfl rfl ?_
      refine gl_get (gX_LK b) y_221_73 yf_221_28 ys_774 rfl rfl rfl rfl ?_
      refine gl_aload_n (gX_LK b) y_221_76 rfl rfl ?_
      refine gl_get (gX_LK b) y_221_77 yf_221_9 ys_774 rfl rfl rfl rfl ?_
      obtain ⟨c6, h⟩ := o_ck h
      refine gl_iastore (ar2 := (j_u2 (j_u2 (va_up ar 775 (va_cpy (ar (p1 + 1)) (ar 775) (iN (0 : Int32)) (iN ((sc 774 0) * (35 : Int32))) (iN (35 : Int32)))) 777 (iN (sc 774 0)) (sc 774 4)) 776 (iN (sc 774 4)) ((sc 774 0) + (1 : Int32)))) (gX_LK b) y_221_80 ys_776 c6 rfl rfl ?_
      refine gl_aload_n (gX_LK b) y_221_81 rfl rfl ?_
      refine gl_get (gX_LK b) y_221_82 yf_221_9 ys_774 rfl rfl rfl rfl ?_
      refine gl_iconst (gX_LK b) y_221_85 ci_1 rfl ?_
      refine gl_isub (gX_LK b) y_221_86 rfl ?_
      exact gl_ireturn y_221_87 (Or.inl yt_221) (by cases h; exact hP)
    · have h := (if_neg c3).symm.trans h
      refine gl_iconst (gX_LK b) y_221_22 ci_m1 rfl ?_
      exact gl_ireturn y_221_23 (Or.inl yt_221) (by cases h; exact hP)
/-- ClickOrders$Met.copies(ILClickOrders$Page;)V -/
def xT_222 (b : Bool) (rf : jRf) (F : Int32 → Nat → jSc → (Nat → Nat) → jSc → jAl → Option (jSc × (Nat → Nat) × jSc × jAl)) (e : Nat) : Prop := ∀  (Post : jPo) (x1 : Int32) (p2 : Nat) (hp2 : x_pg p2 = true) (sc : jSc) (mr : (Nat → Nat)) (ar : jSc) (al : jAl) (sc9 : jSc) (mr9 : (Nat → Nat)) (ar9 : jSc) (al9 : jAl), F x1 p2 sc mr ar al = some (sc9, mr9, ar9, al9) → Post none sc9 (x_mk mr9 rf) ar9 al9 → gW (gX b) 222 e 0 (j_av [.ref 774, .int x1, .ref p2]) [] sc (x_mk mr rf) ar al Post
def xF_222 (x1 : Int32) (p2 : Nat) (sc : jSc) (mr : (Nat → Nat)) (ar : jSc) (al : jAl) : Option (jSc × (Nat → Nat) × jSc × jAl) :=
  (if x1 < 0 then some (sc, mr, ar, al) else (if (sc 774 0) ≤ x1 then some (sc, mr, ar, al) else (if xcp (x1 * (35 : Int32)) (0 : Int32) (35 : Int32) 71680 50 then some (sc, mr, (va_up ar (p2 + 1) (va_cpy (ar 775) (ar (p2 + 1)) (iN (x1 * (35 : Int32))) (iN (0 : Int32)) (iN (35 : Int32)))), al) else none)))
set_option maxHeartbeats 4000000 in
theorem xt_222 {b : Bool} {rf : jRf} {d : Nat} : xT_222 b rf xF_222 (d + 1) := by
  intro  Post x1 p2 hp2 sc mr ar al sc9 mr9 ar9 al9 h hP
  unfold xF_222 at h
  refine gl_entry (m := 0) rfl ?_
  show gL (gX b) 222 (d + 1) 0 [some (.ref 774), some (.int x1), some (.ref p2)] [] sc (x_mk mr rf) ar al Post
  refine gl_iload_n (gX_LK b) y_222_0 rfl rfl ?_
  refine gl_if_lt (gX_LK b) y_222_1 rfl rfl (fun c1 => ?_) (fun c1 => ?_)
  · have h := (if_pos c1).symm.trans h
    exact gl_return y_222_30 yt_222 (by cases h; exact hP)
  · have h := (if_neg c1).symm.trans h
    refine gl_iload_n (gX_LK b) y_222_4 rfl rfl ?_
    refine gl_aload_n (gX_LK b) y_222_5 rfl rfl ?_
    refine gl_get (gX_LK b) y_222_6 yf_222_9 ys_774 rfl rfl rfl rfl ?_
    refine gl_ic_ge (gX_LK b) y_222_9 rfl rfl (fun c2 => ?_) (fun c2 => ?_)
    · have h := (if_pos c2).symm.trans h
      exact gl_return y_222_30 yt_222 (by cases h; exact hP)
    · have h := (if_neg c2).symm.trans h
      refine gl_aload_n (gX_LK b) y_222_12 rfl rfl ?_
      refine gl_getA (gX_LK b) y_222_13 yf_222_18 ys_774 rfl rfl rfl rfl ?_
      refine gl_iload_n (gX_LK b) y_222_16 rfl rfl ?_
      refine gl_bipush (gX_LK b) y_222_17 cb_35 rfl ?_
      refine gl_imul (gX_LK b) y_222_19 rfl ?_
      refine gl_aload_n (gX_LK b) y_222_20 rfl rfl ?_
      refine gl_getA (gX_LK b) y_222_21 yf_222_46 (ys_pg hp2) rfl rfl (yr_pg hp2) rfl ?_
      refine gl_iconst (gX_LK b) y_222_24 ci_0 rfl ?_
      refine gl_bipush (gX_LK b) y_222_25 cb_35 rfl ?_
      obtain ⟨c3, h⟩ := o_ck h
      refine gl_copy (gX_LK b) y_222_27 yn_222_47 yz_222_47 ys_775 (ys_pgc hp2) c3 rfl rfl ?_
      exact gl_return y_222_30 yt_222 (by cases h; exact hP)
/-- ClickOrders$Page.copies(LClickOrders$Page;)V -/
def xT_226 (b : Bool) (rf : jRf) (F : Nat → Nat → jSc → (Nat → Nat) → jSc → jAl → Option (jSc × (Nat → Nat) × jSc × jAl)) (e : Nat) : Prop := ∀  (Post : jPo) (p0 : Nat) (p1 : Nat) (hp0 : x_pg p0 = true) (hp1 : x_pg p1 = true) (sc : jSc) (mr : (Nat → Nat)) (ar : jSc) (al : jAl) (sc9 : jSc) (mr9 : (Nat → Nat)) (ar9 : jSc) (al9 : jAl), F p0 p1 sc mr ar al = some (sc9, mr9, ar9, al9) → Post none sc9 (x_mk mr9 rf) ar9 al9 → gW (gX b) 226 e 0 (j_av [.ref p0, .ref p1]) [] sc (x_mk mr rf) ar al Post
def xF_226 (p0 : Nat) (p1 : Nat) (sc : jSc) (mr : (Nat → Nat)) (ar : jSc) (al : jAl) : Option (jSc × (Nat → Nat) × jSc × jAl) :=
  some (sc, mr, (va_up ar (p0 + 1) (va_cpy (ar (p1 + 1)) (ar (p0 + 1)) (iN (0 : Int32)) (iN (0 : Int32)) (iN (50 : Int32)))), al)
set_option maxHeartbeats 4000000 in
theorem xt_226 {b : Bool} {rf : jRf} {d : Nat} : xT_226 b rf xF_226 (d + 1) := by
  intro  Post p0 p1 hp0 hp1 sc mr ar al sc9 mr9 ar9 al9 h hP
  unfold xF_226 at h
  refine gl_entry (m := 0) rfl ?_
  show gL (gX b) 226 (d + 1) 0 [some (.ref p0), some (.ref p1)] [] sc (x_mk mr rf) ar al Post
  refine gl_aload_n (gX_LK b) y_226_0 rfl rfl ?_
  refine gl_getA (gX_LK b) y_226_1 yf_226_11 (ys_pg hp1) rfl rfl (yr_pg hp1) rfl ?_
  refine gl_iconst (gX_LK b) y_226_4 ci_0 rfl ?_
  refine gl_aload_n (gX_LK b) y_226_5 rfl rfl ?_
  refine gl_getA (gX_LK b) y_226_6 yf_226_11 (ys_pg hp0) rfl rfl (yr_pg hp0) rfl ?_
  refine gl_iconst (gX_LK b) y_226_9 ci_0 rfl ?_
  refine gl_bipush (gX_LK b) y_226_10 cb_50 rfl ?_
  refine gl_copy (gX_LK b) y_226_12 yn_226_21 yz_226_21 (ys_pgc hp1) (ys_pgc hp0) (by decide) rfl rfl ?_
  exact gl_return y_226_15 yt_226 (by cases h; exact hP)
/-- ClickOrders$Page.isAlike(LClickOrders$Page;)Z -/
def xT_227 (b : Bool) (rf : jRf) (F : Nat → Nat → jSc → (Nat → Nat) → jSc → jAl → Option (Int32 × jSc × (Nat → Nat) × jSc × jAl)) (e : Nat) : Prop := ∀  (Post : jPo) (p0 : Nat) (p1 : Nat) (hp0 : x_pg p0 = true) (hp1 : x_pg p1 = true) (sc : jSc) (mr : (Nat → Nat)) (ar : jSc) (al : jAl) (r9 : Int32) (sc9 : jSc) (mr9 : (Nat → Nat)) (ar9 : jSc) (al9 : jAl), F p0 p1 sc mr ar al = some (r9, sc9, mr9, ar9, al9) → Post (some (.int r9)) sc9 (x_mk mr9 rf) ar9 al9 → gW (gX b) 227 e 0 (j_av [.ref p0, .ref p1]) [] sc (x_mk mr rf) ar al Post
def xF_227_2 : Nat → Nat → Nat → Int32 → jSc → (Nat → Nat) → jSc → jAl → Option (Int32 × jSc × (Nat → Nat) × jSc × jAl)
  | 0, _, _, _, _, _, _, _ => none
  | nn + 1, p0, p1, x2, sc, mr, ar, al => (if (35 : Int32) ≤ x2 then some ((1 : Int32), sc, mr, ar, al) else (if iB x2 50 then (if iB x2 50 then (if (ar (p0 + 1) (iN x2)) = (ar (p1 + 1) (iN x2)) then xF_227_2 nn p0 p1 (x2 + (1 : Int32)) sc mr ar al else some ((0 : Int32), sc, mr, ar, al)) else none) else none))
set_option maxHeartbeats 4000000 in
theorem xt_227_2 {b : Bool} {rf : jRf} {d : Nat} {Post : jPo} {r9 : Int32} {sc9 : jSc} {mr9 : (Nat → Nat)} {ar9 : jSc} {al9 : jAl} (hP : Post (some (.int r9)) sc9 (x_mk mr9 rf) ar9 al9) : ∀ (nn : Nat) (p0 : Nat) (p1 : Nat) (x2 : Int32) (sc : jSc) (mr : (Nat → Nat)) (ar : jSc) (al : jAl), x_pg p0 = true → x_pg p1 = true → xF_227_2 nn p0 p1 x2 sc mr ar al = some (r9, sc9, mr9, ar9, al9) → gL (gX b) 227 (d + 1) 2 [some (.ref p0), some (.ref p1), some (.int x2)] [] sc (x_mk mr rf) ar al Post := by
  intro nn
  induction nn with
  | zero =>
    intro p0 p1 x2 sc mr ar al hp0 hp1 h
    have h : (none : Option (Int32 × jSc × (Nat → Nat) × jSc × jAl)) = some _ := h
    cases h
  | succ nn ih =>
    intro p0 p1 x2 sc mr ar al hp0 hp1 h
    unfold xF_227_2 at h
    refine gl_iload_n (gX_LK b) y_227_2 rfl rfl ?_
    refine gl_bipush (gX_LK b) y_227_3 cb_35 rfl ?_
    refine gl_ic_ge (gX_LK b) y_227_5 rfl rfl (fun c1 => ?_) (fun c1 => ?_)
    · have h := (if_pos c1).symm.trans h
      refine gl_iconst (gX_LK b) y_227_31 ci_1 rfl ?_
      exact gl_ireturn y_227_32 (Or.inr ⟨yt_227, Or.inr rfl⟩) (by cases h; exact hP)
    · have h := (if_neg c1).symm.trans h
      refine gl_aload_n (gX_LK b) y_227_8 rfl rfl ?_
      refine gl_getA (gX_LK b) y_227_9 yf_227_11 (ys_pg hp0) rfl rfl (yr_pg hp0) rfl ?_
      refine gl_iload_n (gX_LK b) y_227_12 rfl rfl ?_
      obtain ⟨c2, h⟩ := o_ck h
      refine gl_iaload (gX_LK b) y_227_13 (ys_pgc hp0) c2 rfl rfl ?_
      refine gl_aload_n (gX_LK b) y_227_14 rfl rfl ?_
      refine gl_getA (gX_LK b) y_227_15 yf_227_11 (ys_pg hp1) rfl rfl (yr_pg hp1) rfl ?_
      refine gl_iload_n (gX_LK b) y_227_18 rfl rfl ?_
      obtain ⟨c3, h⟩ := o_ck h
      refine gl_iaload (gX_LK b) y_227_19 (ys_pgc hp1) c3 rfl rfl ?_
      refine gl_ic_eq (gX_LK b) y_227_20 rfl rfl (fun c4 => ?_) (fun c4 => ?_)
      · have h := (if_pos c4).symm.trans h
        refine gl_iinc (vs2 := [some (.ref p0), some (.ref p1), some (.int (x2 + (1 : Int32)))]) (gX_LK b) y_227_25 rfl rfl rfl ci_1 rfl rfl ?_
        refine gl_goto (gX_LK b) y_227_28 rfl ?_
        exact gl_weak (vs := [some (.ref p0), some (.ref p1), some (.int (x2 + (1 : Int32)))]) ⟨rfl, rfl, rfl, trivial⟩ (ih p0 p1 (x2 + (1 : Int32)) sc mr ar al hp0 hp1 h)
      · have h := (if_neg c4).symm.trans h
        refine gl_iconst (gX_LK b) y_227_23 ci_0 rfl ?_
        exact gl_ireturn y_227_24 (Or.inr ⟨yt_227, Or.inl rfl⟩) (by cases h; exact hP)
def xF_227 (p0 : Nat) (p1 : Nat) (sc : jSc) (mr : (Nat → Nat)) (ar : jSc) (al : jAl) : Option (Int32 × jSc × (Nat → Nat) × jSc × jAl) :=
  xF_227_2 oF p0 p1 (0 : Int32) sc mr ar al
set_option maxHeartbeats 4000000 in
theorem xt_227 {b : Bool} {rf : jRf} {d : Nat} : xT_227 b rf xF_227 (d + 1) := by
  intro  Post p0 p1 hp0 hp1 sc mr ar al r9 sc9 mr9 ar9 al9 h hP
  unfold xF_227 at h
  refine gl_entry (m := 1) rfl ?_
  show gL (gX b) 227 (d + 1) 0 [some (.ref p0), some (.ref p1), none] [] sc (x_mk mr rf) ar al Post
  refine gl_iconst (gX_LK b) y_227_0 ci_0 rfl ?_
  refine gl_istore_n (vs2 := [some (.ref p0), some (.ref p1), some (.int (0 : Int32))]) (gX_LK b) y_227_1 rfl rfl rfl rfl ?_
  exact gl_weak (vs := [some (.ref p0), some (.ref p1), some (.int (0 : Int32))]) ⟨rfl, rfl, rfl, trivial⟩ (xt_227_2  hP oF p0 p1 (0 : Int32) sc mr ar al hp0 hp1 h)
/-- ClickOrders$Page.clockOfRank(I)I -/
def xT_243 (b : Bool) (rf : jRf) (F : Nat → Int32 → jSc → (Nat → Nat) → jSc → jAl → Option (Int32 × jSc × (Nat → Nat) × jSc × jAl)) (e : Nat) : Prop := ∀  (Post : jPo) (p0 : Nat) (x1 : Int32) (hp0 : x_pg p0 = true) (sc : jSc) (mr : (Nat → Nat)) (ar : jSc) (al : jAl) (r9 : Int32) (sc9 : jSc) (mr9 : (Nat → Nat)) (ar9 : jSc) (al9 : jAl), F p0 x1 sc mr ar al = some (r9, sc9, mr9, ar9, al9) → Post (some (.int r9)) sc9 (x_mk mr9 rf) ar9 al9 → gW (gX b) 243 e 0 (j_av [.ref p0, .int x1]) [] sc (x_mk mr rf) ar al Post
def xF_243_40 (k14 : Nat → Int32 → Int32 → Int32 → jSc → (Nat → Nat) → jSc → jAl → Option (Int32 × jSc × (Nat → Nat) × jSc × jAl)) : Nat → Nat → Int32 → Int32 → Int32 → Int32 → Int32 → Int32 → jSc → (Nat → Nat) → jSc → jAl → Option (Int32 × jSc × (Nat → Nat) × jSc × jAl)
  | 0, _, _, _, _, _, _, _, _, _, _, _ => none
  | nn + 1, p0, x1, x2, x3, x4, x5, x6, sc, mr, ar, al => (if x2 ≤ x6 then (if x5 = x1 then (if iB ((32 : Int32) + x3) 50 then some ((ar (p0 + 1) (iN ((32 : Int32) + x3))), sc, mr, ar, al) else none) else k14 p0 x1 x2 (x3 + (1 : Int32)) sc mr ar al) else (if iB ((32 : Int32) + x6) 50 then (if ((ar (p0 + 1) (iN ((32 : Int32) + x6))) - (ar (p0 + 1) (iN ((32 : Int32) + x6))) / (1000 : Int32) * (1000 : Int32)) < x4 then xF_243_40 k14 nn p0 x1 x2 x3 x4 (x5 + (1 : Int32)) (x6 + (1 : Int32)) sc mr ar al else (if ((ar (p0 + 1) (iN ((32 : Int32) + x6))) - (ar (p0 + 1) (iN ((32 : Int32) + x6))) / (1000 : Int32) * (1000 : Int32)) = x4 then (if x3 ≤ x6 then xF_243_40 k14 nn p0 x1 x2 x3 x4 x5 (x6 + (1 : Int32)) sc mr ar al else xF_243_40 k14 nn p0 x1 x2 x3 x4 (x5 + (1 : Int32)) (x6 + (1 : Int32)) sc mr ar al) else xF_243_40 k14 nn p0 x1 x2 x3 x4 x5 (x6 + (1 : Int32)) sc mr ar al)) else none))
set_option maxHeartbeats 4000000 in
theorem xt_243_40 {b : Bool} {rf : jRf} {d : Nat} {Post : jPo} {r9 : Int32} {sc9 : jSc} {mr9 : (Nat → Nat)} {ar9 : jSc} {al9 : jAl} {k14 : Nat → Int32 → Int32 → Int32 → jSc → (Nat → Nat) → jSc → jAl → Option (Int32 × jSc × (Nat → Nat) × jSc × jAl)} (hk14 : ∀ (p0 : Nat) (x1 : Int32) (x2 : Int32) (x3 : Int32) (sc : jSc) (mr : (Nat → Nat)) (ar : jSc) (al : jAl), x_pg p0 = true → k14 p0 x1 x2 x3 sc mr ar al = some (r9, sc9, mr9, ar9, al9) → gL (gX b) 243 (d + 1) 14 [some (.ref p0), some (.int x1), some (.int x2), some (.int x3), none, none, none, none] [] sc (x_mk mr rf) ar al Post) (hP : Post (some (.int r9)) sc9 (x_mk mr9 rf) ar9 al9) : ∀ (nn : Nat) (p0 : Nat) (x1 : Int32) (x2 : Int32) (x3 : Int32) (x4 : Int32) (x5 : Int32) (x6 : Int32) (sc : jSc) (mr : (Nat → Nat)) (ar : jSc) (al : jAl), x_pg p0 = true → xF_243_40 k14 nn p0 x1 x2 x3 x4 x5 x6 sc mr ar al = some (r9, sc9, mr9, ar9, al9) → gL (gX b) 243 (d + 1) 40 [some (.ref p0), some (.int x1), some (.int x2), some (.int x3), some (.int x4), some (.int x5), some (.int x6), none] [] sc (x_mk mr rf) ar al Post := by
  intro nn
  induction nn with
  | zero =>
    intro p0 x1 x2 x3 x4 x5 x6 sc mr ar al hp0 h
    have h : (none : Option (Int32 × jSc × (Nat → Nat) × jSc × jAl)) = some _ := h
    cases h
  | succ nn ih =>
    intro p0 x1 x2 x3 x4 x5 x6 sc mr ar al hp0 h
    unfold xF_243_40 at h
    refine gl_iload (gX_LK b) y_243_40 rfl rfl ?_
    refine gl_iload_n (gX_LK b) y_243_42 rfl rfl ?_
    refine gl_ic_ge (gX_LK b) y_243_43 rfl rfl (fun c1 => ?_) (fun c1 => ?_)
    · have h := (if_pos c1).symm.trans h
      refine gl_iload (gX_LK b) y_243_91 rfl rfl ?_
      refine gl_iload_n (gX_LK b) y_243_93 rfl rfl ?_
      refine gl_ic_ne (gX_LK b) y_243_94 rfl rfl (fun c2 => ?_) (fun c2 => ?_)
      · have h := (if_pos c2).symm.trans h
        refine gl_aload_n (gX_LK b) y_243_97 rfl rfl ?_
        refine gl_getA (gX_LK b) y_243_98 yf_243_11 (ys_pg hp0) rfl rfl (yr_pg hp0) rfl ?_
        refine gl_bipush (gX_LK b) y_243_101 cb_32 rfl ?_
        refine gl_iload_n (gX_LK b) y_243_103 rfl rfl ?_
        refine gl_iadd (gX_LK b) y_243_104 rfl ?_
        obtain ⟨c3, h⟩ := o_ck h
        refine gl_iaload (gX_LK b) y_243_105 (ys_pgc hp0) c3 rfl rfl ?_
        exact gl_ireturn y_243_106 (Or.inl yt_243) (by cases h; exact hP)
      · have h := (if_neg c2).symm.trans h
        refine gl_iinc (vs2 := [some (.ref p0), some (.int x1), some (.int x2), some (.int (x3 + (1 : Int32))), some (.int x4), some (.int x5), some (.int x6), none]) (gX_LK b) y_243_107 rfl rfl rfl ci_1 rfl rfl ?_
        refine gl_goto (gX_LK b) y_243_110 rfl ?_
        exact gl_weak (vs := [some (.ref p0), some (.int x1), some (.int x2), some (.int (x3 + (1 : Int32))), none, none, none, none]) ⟨rfl, rfl, rfl, rfl, trivial⟩ (hk14 p0 x1 x2 (x3 + (1 : Int32)) sc mr ar al hp0 h)
    · have h := (if_neg c1).symm.trans h
      refine gl_aload_n (gX_LK b) y_243_46 rfl rfl ?_
      refine gl_getA (gX_LK b) y_243_47 yf_243_11 (ys_pg hp0) rfl rfl (yr_pg hp0) rfl ?_
      refine gl_bipush (gX_LK b) y_243_50 cb_32 rfl ?_
      refine gl_iload (gX_LK b) y_243_52 rfl rfl ?_
      refine gl_iadd (gX_LK b) y_243_54 rfl ?_
      obtain ⟨c4, h⟩ := o_ck h
      refine gl_iaload (gX_LK b) y_243_55 (ys_pgc hp0) c4 rfl rfl ?_
      refine gl_sipush (gX_LK b) y_243_56 cs_1000 rfl ?_
      refine gl_irem (gX_LK b) y_243_59 (by decide) rfl ?_
      refine gl_istore (vs2 := [some (.ref p0), some (.int x1), some (.int x2), some (.int x3), some (.int x4), some (.int x5), some (.int x6), some (.int ((ar (p0 + 1) (iN ((32 : Int32) + x6))) - (ar (p0 + 1) (iN ((32 : Int32) + x6))) / (1000 : Int32) * (1000 : Int32)))]) (gX_LK b) y_243_60 rfl rfl rfl rfl ?_
      refine gl_iload (gX_LK b) y_243_62 rfl rfl ?_
      refine gl_iload (gX_LK b) y_243_64 rfl rfl ?_
      refine gl_ic_lt (gX_LK b) y_243_66 rfl rfl (fun c5 => ?_) (fun c5 => ?_)
      · have h := (if_pos c5).symm.trans h
        refine gl_iinc (vs2 := [some (.ref p0), some (.int x1), some (.int x2), some (.int x3), some (.int x4), some (.int (x5 + (1 : Int32))), some (.int x6), some (.int ((ar (p0 + 1) (iN ((32 : Int32) + x6))) - (ar (p0 + 1) (iN ((32 : Int32) + x6))) / (1000 : Int32) * (1000 : Int32)))]) (gX_LK b) y_243_82 rfl rfl rfl ci_1 rfl rfl ?_
        refine gl_iinc (vs2 := [some (.ref p0), some (.int x1), some (.int x2), some (.int x3), some (.int x4), some (.int (x5 + (1 : Int32))), some (.int (x6 + (1 : Int32))), some (.int ((ar (p0 + 1) (iN ((32 : Int32) + x6))) - (ar (p0 + 1) (iN ((32 : Int32) + x6))) / (1000 : Int32) * (1000 : Int32)))]) (gX_LK b) y_243_85 rfl rfl rfl ci_1 rfl rfl ?_
        refine gl_goto (gX_LK b) y_243_88 rfl ?_
        exact gl_weak (vs := [some (.ref p0), some (.int x1), some (.int x2), some (.int x3), some (.int x4), some (.int (x5 + (1 : Int32))), some (.int (x6 + (1 : Int32))), none]) ⟨rfl, rfl, rfl, rfl, rfl, rfl, rfl, trivial⟩ (ih p0 x1 x2 x3 x4 (x5 + (1 : Int32)) (x6 + (1 : Int32)) sc mr ar al hp0 h)
      · have h := (if_neg c5).symm.trans h
        refine gl_iload (gX_LK b) y_243_69 rfl rfl ?_
        refine gl_iload (gX_LK b) y_243_71 rfl rfl ?_
        refine gl_ic_ne (gX_LK b) y_243_73 rfl rfl (fun c6 => ?_) (fun c6 => ?_)
        · have h := (if_pos c6).symm.trans h
          refine gl_iload (gX_LK b) y_243_76 rfl rfl ?_
          refine gl_iload_n (gX_LK b) y_243_78 rfl rfl ?_
          refine gl_ic_ge (gX_LK b) y_243_79 rfl rfl (fun c7 => ?_) (fun c7 => ?_)
          · have h := (if_pos c7).symm.trans h
            refine gl_iinc (vs2 := [some (.ref p0), some (.int x1), some (.int x2), some (.int x3), some (.int x4), some (.int x5), some (.int (x6 + (1 : Int32))), some (.int ((ar (p0 + 1) (iN ((32 : Int32) + x6))) - (ar (p0 + 1) (iN ((32 : Int32) + x6))) / (1000 : Int32) * (1000 : Int32)))]) (gX_LK b) y_243_85 rfl rfl rfl ci_1 rfl rfl ?_
            refine gl_goto (gX_LK b) y_243_88 rfl ?_
            exact gl_weak (vs := [some (.ref p0), some (.int x1), some (.int x2), some (.int x3), some (.int x4), some (.int x5), some (.int (x6 + (1 : Int32))), none]) ⟨rfl, rfl, rfl, rfl, rfl, rfl, rfl, trivial⟩ (ih p0 x1 x2 x3 x4 x5 (x6 + (1 : Int32)) sc mr ar al hp0 h)
          · have h := (if_neg c7).symm.trans h
            refine gl_iinc (vs2 := [some (.ref p0), some (.int x1), some (.int x2), some (.int x3), some (.int x4), some (.int (x5 + (1 : Int32))), some (.int x6), some (.int ((ar (p0 + 1) (iN ((32 : Int32) + x6))) - (ar (p0 + 1) (iN ((32 : Int32) + x6))) / (1000 : Int32) * (1000 : Int32)))]) (gX_LK b) y_243_82 rfl rfl rfl ci_1 rfl rfl ?_
            refine gl_iinc (vs2 := [some (.ref p0), some (.int x1), some (.int x2), some (.int x3), some (.int x4), some (.int (x5 + (1 : Int32))), some (.int (x6 + (1 : Int32))), some (.int ((ar (p0 + 1) (iN ((32 : Int32) + x6))) - (ar (p0 + 1) (iN ((32 : Int32) + x6))) / (1000 : Int32) * (1000 : Int32)))]) (gX_LK b) y_243_85 rfl rfl rfl ci_1 rfl rfl ?_
            refine gl_goto (gX_LK b) y_243_88 rfl ?_
            exact gl_weak (vs := [some (.ref p0), some (.int x1), some (.int x2), some (.int x3), some (.int x4), some (.int (x5 + (1 : Int32))), some (.int (x6 + (1 : Int32))), none]) ⟨rfl, rfl, rfl, rfl, rfl, rfl, rfl, trivial⟩ (ih p0 x1 x2 x3 x4 (x5 + (1 : Int32)) (x6 + (1 : Int32)) sc mr ar al hp0 h)
        · have h := (if_neg c6).symm.trans h
          refine gl_iinc (vs2 := [some (.ref p0), some (.int x1), some (.int x2), some (.int x3), some (.int x4), some (.int x5), some (.int (x6 + (1 : Int32))), some (.int ((ar (p0 + 1) (iN ((32 : Int32) + x6))) - (ar (p0 + 1) (iN ((32 : Int32) + x6))) / (1000 : Int32) * (1000 : Int32)))]) (gX_LK b) y_243_85 rfl rfl rfl ci_1 rfl rfl ?_
          refine gl_goto (gX_LK b) y_243_88 rfl ?_
          exact gl_weak (vs := [some (.ref p0), some (.int x1), some (.int x2), some (.int x3), some (.int x4), some (.int x5), some (.int (x6 + (1 : Int32))), none]) ⟨rfl, rfl, rfl, rfl, rfl, rfl, rfl, trivial⟩ (ih p0 x1 x2 x3 x4 x5 (x6 + (1 : Int32)) sc mr ar al hp0 h)
def xF_243_14 : Nat → Nat → Int32 → Int32 → Int32 → jSc → (Nat → Nat) → jSc → jAl → Option (Int32 × jSc × (Nat → Nat) × jSc × jAl)
  | 0, _, _, _, _, _, _, _, _ => none
  | nn + 1, p0, x1, x2, x3, sc, mr, ar, al => (if x2 ≤ x3 then some ((-1 : Int32), sc, mr, ar, al) else (if iB ((32 : Int32) + x3) 50 then xF_243_40 (fun p0_ x1_ x2_ x3_ sc_ mr_ ar_ al_ => xF_243_14 nn p0_ x1_ x2_ x3_ sc_ mr_ ar_ al_) oF p0 x1 x2 x3 ((ar (p0 + 1) (iN ((32 : Int32) + x3))) - (ar (p0 + 1) (iN ((32 : Int32) + x3))) / (1000 : Int32) * (1000 : Int32)) (0 : Int32) (0 : Int32) sc mr ar al else none))
set_option maxHeartbeats 4000000 in
theorem xt_243_14 {b : Bool} {rf : jRf} {d : Nat} {Post : jPo} {r9 : Int32} {sc9 : jSc} {mr9 : (Nat → Nat)} {ar9 : jSc} {al9 : jAl} (hP : Post (some (.int r9)) sc9 (x_mk mr9 rf) ar9 al9) : ∀ (nn : Nat) (p0 : Nat) (x1 : Int32) (x2 : Int32) (x3 : Int32) (sc : jSc) (mr : (Nat → Nat)) (ar : jSc) (al : jAl), x_pg p0 = true → xF_243_14 nn p0 x1 x2 x3 sc mr ar al = some (r9, sc9, mr9, ar9, al9) → gL (gX b) 243 (d + 1) 14 [some (.ref p0), some (.int x1), some (.int x2), some (.int x3), none, none, none, none] [] sc (x_mk mr rf) ar al Post := by
  intro nn
  induction nn with
  | zero =>
    intro p0 x1 x2 x3 sc mr ar al hp0 h
    have h : (none : Option (Int32 × jSc × (Nat → Nat) × jSc × jAl)) = some _ := h
    cases h
  | succ nn ih =>
    intro p0 x1 x2 x3 sc mr ar al hp0 h
    unfold xF_243_14 at h
    refine gl_iload_n (gX_LK b) y_243_14 rfl rfl ?_
    refine gl_iload_n (gX_LK b) y_243_15 rfl rfl ?_
    refine gl_ic_ge (gX_LK b) y_243_16 rfl rfl (fun c8 => ?_) (fun c8 => ?_)
    · have h := (if_pos c8).symm.trans h
      refine gl_iconst (gX_LK b) y_243_113 ci_m1 rfl ?_
      exact gl_ireturn y_243_114 (Or.inl yt_243) (by cases h; exact hP)
    · have h := (if_neg c8).symm.trans h
      refine gl_aload_n (gX_LK b) y_243_19 rfl rfl ?_
      refine gl_getA (gX_LK b) y_243_20 yf_243_11 (ys_pg hp0) rfl rfl (yr_pg hp0) rfl ?_
      refine gl_bipush (gX_LK b) y_243_23 cb_32 rfl ?_
      refine gl_iload_n (gX_LK b) y_243_25 rfl rfl ?_
      refine gl_iadd (gX_LK b) y_243_26 rfl ?_
      obtain ⟨c9, h⟩ := o_ck h
      refine gl_iaload (gX_LK b) y_243_27 (ys_pgc hp0) c9 rfl rfl ?_
      refine gl_sipush (gX_LK b) y_243_28 cs_1000 rfl ?_
      refine gl_irem (gX_LK b) y_243_31 (by decide) rfl ?_
      refine gl_istore (vs2 := [some (.ref p0), some (.int x1), some (.int x2), some (.int x3), some (.int ((ar (p0 + 1) (iN ((32 : Int32) + x3))) - (ar (p0 + 1) (iN ((32 : Int32) + x3))) / (1000 : Int32) * (1000 : Int32))), none, none, none]) (gX_LK b) y_243_32 rfl rfl rfl rfl ?_
      refine gl_iconst (gX_LK b) y_243_34 ci_0 rfl ?_
      refine gl_istore (vs2 := [some (.ref p0), some (.int x1), some (.int x2), some (.int x3), some (.int ((ar (p0 + 1) (iN ((32 : Int32) + x3))) - (ar (p0 + 1) (iN ((32 : Int32) + x3))) / (1000 : Int32) * (1000 : Int32))), some (.int (0 : Int32)), none, none]) (gX_LK b) y_243_35 rfl rfl rfl rfl ?_
      refine gl_iconst (gX_LK b) y_243_37 ci_0 rfl ?_
      refine gl_istore (vs2 := [some (.ref p0), some (.int x1), some (.int x2), some (.int x3), some (.int ((ar (p0 + 1) (iN ((32 : Int32) + x3))) - (ar (p0 + 1) (iN ((32 : Int32) + x3))) / (1000 : Int32) * (1000 : Int32))), some (.int (0 : Int32)), some (.int (0 : Int32)), none]) (gX_LK b) y_243_38 rfl rfl rfl rfl ?_
      exact gl_weak (vs := [some (.ref p0), some (.int x1), some (.int x2), some (.int x3), some (.int ((ar (p0 + 1) (iN ((32 : Int32) + x3))) - (ar (p0 + 1) (iN ((32 : Int32) + x3))) / (1000 : Int32) * (1000 : Int32))), some (.int (0 : Int32)), some (.int (0 : Int32)), none]) ⟨rfl, rfl, rfl, rfl, rfl, rfl, rfl, trivial⟩ (xt_243_40  ih hP oF p0 x1 x2 x3 ((ar (p0 + 1) (iN ((32 : Int32) + x3))) - (ar (p0 + 1) (iN ((32 : Int32) + x3))) / (1000 : Int32) * (1000 : Int32)) (0 : Int32) (0 : Int32) sc mr ar al hp0 h)
def xF_243 (p0 : Nat) (x1 : Int32) (sc : jSc) (mr : (Nat → Nat)) (ar : jSc) (al : jAl) : Option (Int32 × jSc × (Nat → Nat) × jSc × jAl) :=
  xF_243_14 oF p0 x1 (if (3 : Int32) < (ar (p0 + 1) 19) then (3 : Int32) else (ar (p0 + 1) 19)) (0 : Int32) sc mr ar al
set_option maxHeartbeats 4000000 in
theorem xt_243 {b : Bool} {rf : jRf} {d : Nat} : xT_243 b rf xF_243 (d + 1) := by
  intro  Post p0 x1 hp0 sc mr ar al r9 sc9 mr9 ar9 al9 h hP
  unfold xF_243 at h
  refine gl_entry (m := 6) rfl ?_
  show gL (gX b) 243 (d + 1) 0 [some (.ref p0), some (.int x1), none, none, none, none, none, none] [] sc (x_mk mr rf) ar al Post
  refine gl_aload_n (gX_LK b) y_243_0 rfl rfl ?_
  refine gl_getA (gX_LK b) y_243_1 yf_243_11 (ys_pg hp0) rfl rfl (yr_pg hp0) rfl ?_
  refine gl_bipush (gX_LK b) y_243_4 cb_19 rfl ?_
  refine gl_iaload (gX_LK b) y_243_6 (ys_pgc hp0) (by decide) rfl rfl ?_
  refine gl_iconst (gX_LK b) y_243_7 ci_3 rfl ?_
  refine gl_min (gX_LK b) y_243_8 yn_243_31 yz_243_31 rfl rfl ?_
  refine gl_istore_n (vs2 := [some (.ref p0), some (.int x1), some (.int (if (3 : Int32) < (ar (p0 + 1) 19) then (3 : Int32) else (ar (p0 + 1) 19))), none, none, none, none, none]) (gX_LK b) y_243_11 rfl rfl rfl rfl ?_
  refine gl_iconst (gX_LK b) y_243_12 ci_0 rfl ?_
  refine gl_istore_n (vs2 := [some (.ref p0), some (.int x1), some (.int (if (3 : Int32) < (ar (p0 + 1) 19) then (3 : Int32) else (ar (p0 + 1) 19))), some (.int (0 : Int32)), none, none, none, none]) (gX_LK b) y_243_13 rfl rfl rfl rfl ?_
  exact gl_weak (vs := [some (.ref p0), some (.int x1), some (.int (if (3 : Int32) < (ar (p0 + 1) 19) then (3 : Int32) else (ar (p0 + 1) 19))), some (.int (0 : Int32)), none, none, none, none]) ⟨rfl, rfl, rfl, rfl, trivial⟩ (xt_243_14  hP oF p0 x1 (if (3 : Int32) < (ar (p0 + 1) 19) then (3 : Int32) else (ar (p0 + 1) 19)) (0 : Int32) sc mr ar al hp0 h)
/-- ClickOrders$Pair.moves(III)I -/
def xT_249 (b : Bool) (rf : jRf) (F : Int32 → Int32 → Int32 → jSc → (Nat → Nat) → jSc → jAl → Option (Int32 × jSc × (Nat → Nat) × jSc × jAl)) (e : Nat) : Prop := ∀  (Post : jPo) (x1 : Int32) (x2 : Int32) (x3 : Int32) (sc : jSc) (mr : (Nat → Nat)) (ar : jSc) (al : jAl) (r9 : Int32) (sc9 : jSc) (mr9 : (Nat → Nat)) (ar9 : jSc) (al9 : jAl), F x1 x2 x3 sc mr ar al = some (r9, sc9, mr9, ar9, al9) → Post (some (.int r9)) sc9 (x_mk mr9 rf) ar9 al9 → gW (gX b) 249 e 0 (j_av [.ref 796, .int x1, .int x2, .int x3]) [] sc (x_mk mr rf) ar al Post
def xF_249_74 (x1 : Int32) (x2 : Int32) (p4 : Nat) (p5 : Nat) (sc : jSc) (mr : (Nat → Nat)) (ar : jSc) (al : jAl) : Option (Int32 × jSc × (Nat → Nat) × jSc × jAl) :=
  (if iB (x1 + x2) 10 then (if iB ((x1 + (1 : Int32)) - x2) 10 then (if iB ((x1 + (1 : Int32)) - x2) 10 then some ((sc 757 6), (j_u2 sc 757 5 (0 : Int32)), mr, (va_up (j_u2 (j_u2 ar 798 (iN (x1 + x2)) (sc 757 5)) 798 (iN ((x1 + (1 : Int32)) - x2)) (((j_u2 ar 798 (iN (x1 + x2)) (sc 757 5)) 798 (iN ((x1 + (1 : Int32)) - x2))) ||| (((sc 757 4) >>> ((16 : Int32) &&& 31)) &&& (15 : Int32)))) (p5 + 1) (va_cpy ((j_u2 (j_u2 ar 798 (iN (x1 + x2)) (sc 757 5)) 798 (iN ((x1 + (1 : Int32)) - x2)) (((j_u2 ar 798 (iN (x1 + x2)) (sc 757 5)) 798 (iN ((x1 + (1 : Int32)) - x2))) ||| (((sc 757 4) >>> ((16 : Int32) &&& 31)) &&& (15 : Int32)))) (p4 + 1)) ((j_u2 (j_u2 ar 798 (iN (x1 + x2)) (sc 757 5)) 798 (iN ((x1 + (1 : Int32)) - x2)) (((j_u2 ar 798 (iN (x1 + x2)) (sc 757 5)) 798 (iN ((x1 + (1 : Int32)) - x2))) ||| (((sc 757 4) >>> ((16 : Int32) &&& 31)) &&& (15 : Int32)))) (p5 + 1)) (iN (10 : Int32)) (iN (10 : Int32)) (iN (4 : Int32)))), al) else none) else none) else none)
set_option maxHeartbeats 4000000 in
theorem xt_249_74 {b : Bool} {rf : jRf} {d : Nat} {Post : jPo} {r9 : Int32} {sc9 : jSc} {mr9 : (Nat → Nat)} {ar9 : jSc} {al9 : jAl} (hP : Post (some (.int r9)) sc9 (x_mk mr9 rf) ar9 al9) (x1 : Int32) (x2 : Int32) (p4 : Nat) (p5 : Nat) (sc : jSc) (mr : (Nat → Nat)) (ar : jSc) (al : jAl) (hp4 : x_pg p4 = true) (hp5 : x_pg p5 = true) (h : xF_249_74 x1 x2 p4 p5 sc mr ar al = some (r9, sc9, mr9, ar9, al9)) : gL (gX b) 249 (d + 5) 74 [some (.ref 796), some (.int x1), some (.int x2), none, some (.ref p4), some (.ref p5)] [] sc (x_mk mr rf) ar al Post := by
  unfold xF_249_74 at h
  refine gl_aload_n (gX_LK b) y_249_74 rfl rfl ?_
  refine gl_getA (gX_LK b) y_249_75 yf_249_21 ys_796 rfl rfl rfl rfl ?_
  refine gl_iload_n (gX_LK b) y_249_78 rfl rfl ?_
  refine gl_iload_n (gX_LK b) y_249_79 rfl rfl ?_
  refine gl_iadd (gX_LK b) y_249_80 rfl ?_
  refine gl_aload_n (gX_LK b) y_249_81 rfl rfl ?_
  refine gl_getA (gX_LK b) y_249_82 yf_249_31 ys_796 rfl rfl rfl rfl ?_
  refine gl_get (gX_LK b) y_249_85 yf_249_57 ys_757 rfl rfl rfl rfl ?_
  obtain ⟨c1, h⟩ := o_ck h
  refine gl_iastore (ar2 := (j_u2 ar 798 (iN (x1 + x2)) (sc 757 5))) (gX_LK b) y_249_88 ys_798 c1 rfl rfl ?_
  refine gl_aload_n (gX_LK b) y_249_89 rfl rfl ?_
  refine gl_getA (gX_LK b) y_249_90 yf_249_21 ys_796 rfl rfl rfl rfl ?_
  refine gl_iload_n (gX_LK b) y_249_93 rfl rfl ?_
  refine gl_iconst (gX_LK b) y_249_94 ci_1 rfl ?_
  refine gl_iadd (gX_LK b) y_249_95 rfl ?_
  refine gl_iload_n (gX_LK b) y_249_96 rfl rfl ?_
  refine gl_isub (gX_LK b) y_249_97 rfl ?_
  refine gl_dup2 (gX_LK b) y_249_98 rfl rfl rfl ?_
  obtain ⟨c2, h⟩ := o_ck h
  refine gl_iaload (gX_LK b) y_249_99 ys_798 c2 rfl rfl ?_
  refine gl_aload_n (gX_LK b) y_249_100 rfl rfl ?_
  refine gl_getA (gX_LK b) y_249_101 yf_249_31 ys_796 rfl rfl rfl rfl ?_
  refine gl_get (gX_LK b) y_249_104 yf_249_67 ys_757 rfl rfl rfl rfl ?_
  refine gl_bipush (gX_LK b) y_249_107 cb_16 rfl ?_
  refine gl_ishr (gX_LK b) y_249_109 rfl ?_
  refine gl_bipush (gX_LK b) y_249_110 cb_15 rfl ?_
  refine gl_iand (gX_LK b) y_249_112 rfl ?_
  refine gl_ior (gX_LK b) y_249_113 rfl ?_
  obtain ⟨c3, h⟩ := o_ck h
  refine gl_iastore (ar2 := (j_u2 (j_u2 ar 798 (iN (x1 + x2)) (sc 757 5)) 798 (iN ((x1 + (1 : Int32)) - x2)) (((j_u2 ar 798 (iN (x1 + x2)) (sc 757 5)) 798 (iN ((x1 + (1 : Int32)) - x2))) ||| (((sc 757 4) >>> ((16 : Int32) &&& 31)) &&& (15 : Int32))))) (gX_LK b) y_249_114 ys_798 c3 rfl rfl ?_
  refine gl_aload (gX_LK b) y_249_115 rfl rfl ?_
  refine gl_getA (gX_LK b) y_249_117 yf_249_70 (ys_pg hp4) rfl rfl (yr_pg hp4) rfl ?_
  refine gl_bipush (gX_LK b) y_249_120 cb_10 rfl ?_
  refine gl_aload (gX_LK b) y_249_122 rfl rfl ?_
  refine gl_getA (gX_LK b) y_249_124 yf_249_70 (ys_pg hp5) rfl rfl (yr_pg hp5) rfl ?_
  refine gl_bipush (gX_LK b) y_249_127 cb_10 rfl ?_
  refine gl_iconst (gX_LK b) y_249_129 ci_4 rfl ?_
  refine gl_copy (gX_LK b) y_249_130 yn_249_73 yz_249_73 (ys_pgc hp4) (ys_pgc hp5) (by decide) rfl rfl ?_
  refine gl_aload_n (gX_LK b) y_249_133 rfl rfl ?_
  refine gl_getA (gX_LK b) y_249_134 yf_249_31 ys_796 rfl rfl rfl rfl ?_
  refine gl_iconst (gX_LK b) y_249_137 ci_0 rfl ?_
  refine gl_put (sc' := (j_u2 sc 757 5 (0 : Int32))) (gX_LK b) y_249_138 yf_249_57 ys_757 rfl rfl rfl rfl rfl ?_
  refine gl_aload_n (gX_LK b) y_249_141 rfl rfl ?_
  refine gl_getA (gX_LK b) y_249_142 yf_249_31 ys_796 rfl rfl rfl rfl ?_
  refine gl_get (gX_LK b) y_249_145 yf_249_59 ys_757 rfl rfl rfl rfl ?_
  exact gl_ireturn y_249_148 (Or.inl yt_249) (by cases h; exact hP)
def xF_249 (x1 : Int32) (x2 : Int32) (x3 : Int32) (sc : jSc) (mr : (Nat → Nat)) (ar : jSc) (al : jAl) : Option (Int32 × jSc × (Nat → Nat) × jSc × jAl) :=
  (if iB (x1 + x2) 10 then (if iB ((x1 + (1 : Int32)) - x2) 10 then (if iB (x1 + x2) 10 then (if x3 = (-1 : Int32) then (o_b4 (xF_208 (799 + 2 * iN (x1 + x2)) (j_u2 (j_u2 sc 757 5 (ar 798 (iN (x1 + x2)))) 757 6 (0 : Int32)) mr ar al) (fun sce8 mre8 are8 ale8 => xF_249_74 x1 x2 (799 + 2 * iN (x1 + x2)) (799 + 2 * iN ((x1 + (1 : Int32)) - x2)) sce8 mre8 are8 ale8)) else (o_b5 (xF_209 (799 + 2 * iN (x1 + x2)) x3 (-1 : Int32) (j_u2 (j_u2 sc 757 5 (ar 798 (iN (x1 + x2)))) 757 6 (0 : Int32)) mr ar al) (fun ve9 sce9 mre9 are9 ale9 => xF_249_74 x1 x2 (799 + 2 * iN (x1 + x2)) (799 + 2 * iN ((x1 + (1 : Int32)) - x2)) sce9 mre9 are9 ale9))) else none) else none) else none)
set_option maxHeartbeats 4000000 in
theorem xt_249 {b : Bool} {rf : jRf} {d : Nat} : xT_249 b rf xF_249 (d + 5) := by
  intro  Post x1 x2 x3 sc mr ar al r9 sc9 mr9 ar9 al9 h hP
  unfold xF_249 at h
  refine gl_entry (m := 2) rfl ?_
  show gL (gX b) 249 (d + 5) 0 [some (.ref 796), some (.int x1), some (.int x2), some (.int x3), none, none] [] sc (x_mk mr rf) ar al Post
  refine gl_aload_n (gX_LK b) y_249_0 rfl rfl ?_
  refine gl_getA (gX_LK b) y_249_1 yf_249_13 ys_796 rfl rfl rfl rfl ?_
  refine gl_iload_n (gX_LK b) y_249_4 rfl rfl ?_
  refine gl_iload_n (gX_LK b) y_249_5 rfl rfl ?_
  refine gl_iadd (gX_LK b) y_249_6 rfl ?_
  obtain ⟨c4, h⟩ := o_ck h
  refine gl_aaload (gX_LK b) y_249_7 ys_797 c4 (Or.inl rfl) (yo_797 (iB_lt c4)) rfl ?_
  refine gl_astore (vs2 := [some (.ref 796), some (.int x1), some (.int x2), some (.int x3), some (.ref (799 + 2 * iN (x1 + x2))), none]) (gX_LK b) y_249_8 rfl rfl rfl rfl ?_
  refine gl_aload_n (gX_LK b) y_249_10 rfl rfl ?_
  refine gl_getA (gX_LK b) y_249_11 yf_249_13 ys_796 rfl rfl rfl rfl ?_
  refine gl_iload_n (gX_LK b) y_249_14 rfl rfl ?_
  refine gl_iconst (gX_LK b) y_249_15 ci_1 rfl ?_
  refine gl_iadd (gX_LK b) y_249_16 rfl ?_
  refine gl_iload_n (gX_LK b) y_249_17 rfl rfl ?_
  refine gl_isub (gX_LK b) y_249_18 rfl ?_
  obtain ⟨c5, h⟩ := o_ck h
  refine gl_aaload (gX_LK b) y_249_19 ys_797 c5 (Or.inl rfl) (yo_797 (iB_lt c5)) rfl ?_
  refine gl_astore (vs2 := [some (.ref 796), some (.int x1), some (.int x2), some (.int x3), some (.ref (799 + 2 * iN (x1 + x2))), some (.ref (799 + 2 * iN ((x1 + (1 : Int32)) - x2)))]) (gX_LK b) y_249_20 rfl rfl rfl rfl ?_
  refine gl_aload_n (gX_LK b) y_249_22 rfl rfl ?_
  refine gl_getA (gX_LK b) y_249_23 yf_249_31 ys_796 rfl rfl rfl rfl ?_
  refine gl_aload_n (gX_LK b) y_249_26 rfl rfl ?_
  refine gl_getA (gX_LK b) y_249_27 yf_249_21 ys_796 rfl rfl rfl rfl ?_
  refine gl_iload_n (gX_LK b) y_249_30 rfl rfl ?_
  refine gl_iload_n (gX_LK b) y_249_31 rfl rfl ?_
  refine gl_iadd (gX_LK b) y_249_32 rfl ?_
  obtain ⟨c6, h⟩ := o_ck h
  refine gl_iaload (gX_LK b) y_249_33 ys_798 c6 rfl rfl ?_
  refine gl_put (sc' := (j_u2 sc 757 5 (ar 798 (iN (x1 + x2))))) (gX_LK b) y_249_34 yf_249_57 ys_757 rfl rfl rfl rfl rfl ?_
  refine gl_aload_n (gX_LK b) y_249_37 rfl rfl ?_
  refine gl_getA (gX_LK b) y_249_38 yf_249_31 ys_796 rfl rfl rfl rfl ?_
  refine gl_iconst (gX_LK b) y_249_41 ci_0 rfl ?_
  refine gl_put (sc' := (j_u2 (j_u2 sc 757 5 (ar 798 (iN (x1 + x2)))) 757 6 (0 : Int32))) (gX_LK b) y_249_42 yf_249_59 ys_757 rfl rfl rfl rfl rfl ?_
  refine gl_iload_n (gX_LK b) y_249_45 rfl rfl ?_
  refine gl_iconst (gX_LK b) y_249_46 ci_m1 rfl ?_
  refine gl_ic_ne (gX_LK b) y_249_47 rfl rfl (fun c7 => ?_) (fun c7 => ?_)
  · have h := (if_pos c7).symm.trans h
    refine gl_aload_n (gX_LK b) y_249_50 rfl rfl ?_
    refine gl_getA (gX_LK b) y_249_51 yf_249_31 ys_796 rfl rfl rfl rfl ?_
    refine gl_aload (gX_LK b) y_249_54 rfl rfl ?_
    obtain ⟨sce8, mre8, are8, ale8, e8, h⟩ := o_k4 h
    refine gl_callV (gX_LK b) y_249_56 ym_249_60 rfl rfl rfl ys_757 yx_208 rfl rfl ((xt_208 )  _ _ (pg_797 (iB_lt c4)) _ _ _ _ _ _ _ _ e8 ?_)
    refine gl_goto (gX_LK b) y_249_59 rfl ?_
    exact gl_weak (vs := [some (.ref 796), some (.int x1), some (.int x2), none, some (.ref (799 + 2 * iN (x1 + x2))), some (.ref (799 + 2 * iN ((x1 + (1 : Int32)) - x2)))]) ⟨rfl, rfl, rfl, rfl, rfl, trivial⟩ (xt_249_74  hP x1 x2 (799 + 2 * iN (x1 + x2)) (799 + 2 * iN ((x1 + (1 : Int32)) - x2)) sce8 mre8 are8 ale8 (pg_797 (iB_lt c4)) (pg_797 (iB_lt c5)) h)
  · have h := (if_neg c7).symm.trans h
    refine gl_aload_n (gX_LK b) y_249_62 rfl rfl ?_
    refine gl_getA (gX_LK b) y_249_63 yf_249_31 ys_796 rfl rfl rfl rfl ?_
    refine gl_aload (gX_LK b) y_249_66 rfl rfl ?_
    refine gl_iload_n (gX_LK b) y_249_68 rfl rfl ?_
    refine gl_iconst (gX_LK b) y_249_69 ci_m1 rfl ?_
    obtain ⟨ve9, sce9, mre9, are9, ale9, e9, h⟩ := o_k5 h
    refine gl_callV (gX_LK b) y_249_70 ym_249_63 rfl rfl rfl ys_757 yx_209 rfl rfl ((xt_209 )  _ _ _ _ (pg_797 (iB_lt c4)) _ _ _ _ _ _ _ _ _ e9 ?_)
    refine gl_pop (gX_LK b) y_249_73 rfl rfl ?_
    exact gl_weak (vs := [some (.ref 796), some (.int x1), some (.int x2), none, some (.ref (799 + 2 * iN (x1 + x2))), some (.ref (799 + 2 * iN ((x1 + (1 : Int32)) - x2)))]) ⟨rfl, rfl, rfl, rfl, rfl, trivial⟩ (xt_249_74  hP x1 x2 (799 + 2 * iN (x1 + x2)) (799 + 2 * iN ((x1 + (1 : Int32)) - x2)) sce9 mre9 are9 ale9 (pg_797 (iB_lt c4)) (pg_797 (iB_lt c5)) h)
/-- ClickOrders$Pair.starts(I)I -/
def xT_248 (b : Bool) (rf : jRf) (F : Int32 → jSc → (Nat → Nat) → jSc → jAl → Option (Int32 × jSc × (Nat → Nat) × jSc × jAl)) (e : Nat) : Prop := ∀  (Post : jPo) (x1 : Int32) (sc : jSc) (mr : (Nat → Nat)) (ar : jSc) (al : jAl) (r9 : Int32) (sc9 : jSc) (mr9 : (Nat → Nat)) (ar9 : jSc) (al9 : jAl), F x1 sc mr ar al = some (r9, sc9, mr9, ar9, al9) → Post (some (.int r9)) sc9 (x_mk mr9 rf) ar9 al9 → gW (gX b) 248 e 0 (j_av [.ref 796, .int x1]) [] sc (x_mk mr rf) ar al Post
def xF_248 (x1 : Int32) (sc : jSc) (mr : (Nat → Nat)) (ar : jSc) (al : jAl) : Option (Int32 × jSc × (Nat → Nat) × jSc × jAl) :=
  (if iB x1 10 then (o_b4 (xF_225 (799 + 2 * iN x1) sc mr ar al) (fun sce2 mre2 are2 ale2 => (if iB (x1 + (1 : Int32)) 10 then (o_b4 (xF_225 (799 + 2 * iN (x1 + (1 : Int32))) sce2 mre2 are2 ale2) (fun sce4 mre4 are4 ale4 => (if iB x1 10 then (if iB (x1 + (1 : Int32)) 10 then (o_b5 (xF_249 x1 (0 : Int32) (-1 : Int32) sce4 mre4 (j_u2 (j_u2 are4 798 (iN x1) (0 : Int32)) 798 (iN (x1 + (1 : Int32))) (0 : Int32)) ale4) (fun ve7 sce7 mre7 are7 ale7 => (o_b5 (xF_249 x1 (1 : Int32) (-1 : Int32) sce7 mre7 are7 ale7) (fun ve8 sce8 mre8 are8 ale8 => some ((ve7 + ve8), sce8, mre8, are8, ale8))))) else none) else none))) else none))) else none)
set_option maxHeartbeats 4000000 in
theorem xt_248 {b : Bool} {rf : jRf} {d : Nat} : xT_248 b rf xF_248 (d + 6) := by
  intro  Post x1 sc mr ar al r9 sc9 mr9 ar9 al9 h hP
  unfold xF_248 at h
  refine gl_entry (m := 0) rfl ?_
  show gL (gX b) 248 (d + 6) 0 [some (.ref 796), some (.int x1)] [] sc (x_mk mr rf) ar al Post
  refine gl_aload_n (gX_LK b) y_248_0 rfl rfl ?_
  refine gl_getA (gX_LK b) y_248_1 yf_248_13 ys_796 rfl rfl rfl rfl ?_
  refine gl_iload_n (gX_LK b) y_248_4 rfl rfl ?_
  obtain ⟨c1, h⟩ := o_ck h
  refine gl_aaload (gX_LK b) y_248_5 ys_797 c1 (Or.inl rfl) (yo_797 (iB_lt c1)) rfl ?_
  obtain ⟨sce2, mre2, are2, ale2, e2, h⟩ := o_k4 h
  refine gl_callV (gX_LK b) y_248_6 ym_248_54 rfl rfl rfl (ys_pg (pg_797 (iB_lt c1))) yx_225 rfl rfl ((xt_225 )  _ _ (pg_797 (iB_lt c1)) _ _ _ _ _ _ _ _ e2 ?_)
  refine gl_aload_n (gX_LK b) y_248_9 rfl rfl ?_
  refine gl_getA (gX_LK b) y_248_10 yf_248_13 ys_796 rfl rfl rfl rfl ?_
  refine gl_iload_n (gX_LK b) y_248_13 rfl rfl ?_
  refine gl_iconst (gX_LK b) y_248_14 ci_1 rfl ?_
  refine gl_iadd (gX_LK b) y_248_15 rfl ?_
  obtain ⟨c3, h⟩ := o_ck h
  refine gl_aaload (gX_LK b) y_248_16 ys_797 c3 (Or.inl rfl) (yo_797 (iB_lt c3)) rfl ?_
  obtain ⟨sce4, mre4, are4, ale4, e4, h⟩ := o_k4 h
  refine gl_callV (gX_LK b) y_248_17 ym_248_54 rfl rfl rfl (ys_pg (pg_797 (iB_lt c3))) yx_225 rfl rfl ((xt_225 )  _ _ (pg_797 (iB_lt c3)) _ _ _ _ _ _ _ _ e4 ?_)
  refine gl_aload_n (gX_LK b) y_248_20 rfl rfl ?_
  refine gl_getA (gX_LK b) y_248_21 yf_248_21 ys_796 rfl rfl rfl rfl ?_
  refine gl_iload_n (gX_LK b) y_248_24 rfl rfl ?_
  refine gl_iconst (gX_LK b) y_248_25 ci_0 rfl ?_
  obtain ⟨c5, h⟩ := o_ck h
  refine gl_iastore (ar2 := (j_u2 are4 798 (iN x1) (0 : Int32))) (gX_LK b) y_248_26 ys_798 c5 rfl rfl ?_
  refine gl_aload_n (gX_LK b) y_248_27 rfl rfl ?_
  refine gl_getA (gX_LK b) y_248_28 yf_248_21 ys_796 rfl rfl rfl rfl ?_
  refine gl_iload_n (gX_LK b) y_248_31 rfl rfl ?_
  refine gl_iconst (gX_LK b) y_248_32 ci_1 rfl ?_
  refine gl_iadd (gX_LK b) y_248_33 rfl ?_
  refine gl_iconst (gX_LK b) y_248_34 ci_0 rfl ?_
  obtain ⟨c6, h⟩ := o_ck h
  refine gl_iastore (ar2 := (j_u2 (j_u2 are4 798 (iN x1) (0 : Int32)) 798 (iN (x1 + (1 : Int32))) (0 : Int32))) (gX_LK b) y_248_35 ys_798 c6 rfl rfl ?_
  refine gl_aload_n (gX_LK b) y_248_36 rfl rfl ?_
  refine gl_iload_n (gX_LK b) y_248_37 rfl rfl ?_
  refine gl_iconst (gX_LK b) y_248_38 ci_0 rfl ?_
  refine gl_iconst (gX_LK b) y_248_39 ci_m1 rfl ?_
  obtain ⟨ve7, sce7, mre7, are7, ale7, e7, h⟩ := o_k5 h
  refine gl_callV (gX_LK b) y_248_40 ym_248_46 rfl rfl rfl ys_796 yx_249 rfl rfl ((xt_249 )  _ _ _ _ _ _ _ _ _ _ _ _ _ e7 ?_)
  refine gl_aload_n (gX_LK b) y_248_43 rfl rfl ?_
  refine gl_iload_n (gX_LK b) y_248_44 rfl rfl ?_
  refine gl_iconst (gX_LK b) y_248_45 ci_1 rfl ?_
  refine gl_iconst (gX_LK b) y_248_46 ci_m1 rfl ?_
  obtain ⟨ve8, sce8, mre8, are8, ale8, e8, h⟩ := o_k5 h
  refine gl_callV (gX_LK b) y_248_47 ym_248_46 rfl rfl rfl ys_796 yx_249 rfl rfl ((xt_249 )  _ _ _ _ _ _ _ _ _ _ _ _ _ e8 ?_)
  refine gl_iadd (gX_LK b) y_248_50 rfl ?_
  exact gl_ireturn y_248_51 (Or.inl yt_248) (by cases h; exact hP)
/-- ClickOrders$Pair.begins()V -/
def xT_244 (b : Bool) (rf : jRf) (F : jSc → (Nat → Nat) → jSc → jAl → Option (jSc × (Nat → Nat) × jSc × jAl)) (e : Nat) : Prop := ∀  (Post : jPo) (sc : jSc) (mr : (Nat → Nat)) (ar : jSc) (al : jAl) (sc9 : jSc) (mr9 : (Nat → Nat)) (ar9 : jSc) (al9 : jAl), F sc mr ar al = some (sc9, mr9, ar9, al9) → Post none sc9 (x_mk mr9 rf) ar9 al9 → gW (gX b) 244 e 0 (j_av [.ref 796]) [] sc (x_mk mr rf) ar al Post
def xF_244 (sc : jSc) (mr : (Nat → Nat)) (ar : jSc) (al : jAl) : Option (jSc × (Nat → Nat) × jSc × jAl) :=
  (o_b5 (xF_248 (0 : Int32) sc mr ar al) (fun ve1 sce1 mre1 are1 ale1 => some ((j_u2 sce1 796 1 ve1), mre1, are1, ale1)))
set_option maxHeartbeats 4000000 in
theorem xt_244 {b : Bool} {rf : jRf} {d : Nat} : xT_244 b rf xF_244 (d + 7) := by
  intro  Post  sc mr ar al sc9 mr9 ar9 al9 h hP
  unfold xF_244 at h
  refine gl_entry (m := 0) rfl ?_
  show gL (gX b) 244 (d + 7) 0 [some (.ref 796)] [] sc (x_mk mr rf) ar al Post
  refine gl_aload_n (gX_LK b) y_244_0 rfl rfl ?_
  refine gl_aload_n (gX_LK b) y_244_1 rfl rfl ?_
  refine gl_iconst (gX_LK b) y_244_2 ci_0 rfl ?_
  obtain ⟨ve1, sce1, mre1, are1, ale1, e1, h⟩ := o_k5 h
  refine gl_callV (gX_LK b) y_244_3 ym_244_36 rfl rfl rfl ys_796 yx_248 rfl rfl ((xt_248 )  _ _ _ _ _ _ _ _ _ _ _ e1 ?_)
  refine gl_put (sc' := (j_u2 sce1 796 1 ve1)) (gX_LK b) y_244_6 yf_244_17 ys_796 rfl rfl rfl rfl rfl ?_
  exact gl_return y_244_9 yt_244 (by cases h; exact hP)
/-- ClickOrders$Pair.takes(II)I -/
def xT_245 (b : Bool) (rf : jRf) (F : Int32 → Int32 → jSc → (Nat → Nat) → jSc → jAl → Option (Int32 × jSc × (Nat → Nat) × jSc × jAl)) (e : Nat) : Prop := ∀  (Post : jPo) (x1 : Int32) (x2 : Int32) (sc : jSc) (mr : (Nat → Nat)) (ar : jSc) (al : jAl) (r9 : Int32) (sc9 : jSc) (mr9 : (Nat → Nat)) (ar9 : jSc) (al9 : jAl), F x1 x2 sc mr ar al = some (r9, sc9, mr9, ar9, al9) → Post (some (.int r9)) sc9 (x_mk mr9 rf) ar9 al9 → gW (gX b) 245 e 0 (j_av [.ref 796, .int x1, .int x2]) [] sc (x_mk mr rf) ar al Post
def xF_245 (x1 : Int32) (x2 : Int32) (sc : jSc) (mr : (Nat → Nat)) (ar : jSc) (al : jAl) : Option (Int32 × jSc × (Nat → Nat) × jSc × jAl) :=
  (if iB x1 10 then (o_b5 (xF_206 (799 + 2 * iN x1) x2 sc mr ar al) (fun ve2 sce2 mre2 are2 ale2 => (if ve2 = 0 then some ((-1 : Int32), sce2, mre2, are2, ale2) else (o_b5 (xF_249 (0 : Int32) x1 x2 sce2 mre2 are2 ale2) (fun ve4 sce4 mre4 are4 ale4 => some (((sce2 796 1) + ve4), (j_u2 sce4 796 1 ((sce2 796 1) + ve4)), mre4, are4, ale4)))))) else none)
set_option maxHeartbeats 4000000 in
theorem xt_245 {b : Bool} {rf : jRf} {d : Nat} : xT_245 b rf xF_245 (d + 6) := by
  intro  Post x1 x2 sc mr ar al r9 sc9 mr9 ar9 al9 h hP
  unfold xF_245 at h
  refine gl_entry (m := 0) rfl ?_
  show gL (gX b) 245 (d + 6) 0 [some (.ref 796), some (.int x1), some (.int x2)] [] sc (x_mk mr rf) ar al Post
  refine gl_aload_n (gX_LK b) y_245_0 rfl rfl ?_
  refine gl_getA (gX_LK b) y_245_1 yf_245_31 ys_796 rfl rfl rfl rfl ?_
  refine gl_aload_n (gX_LK b) y_245_4 rfl rfl ?_
  refine gl_getA (gX_LK b) y_245_5 yf_245_13 ys_796 rfl rfl rfl rfl ?_
  refine gl_iload_n (gX_LK b) y_245_8 rfl rfl ?_
  obtain ⟨c1, h⟩ := o_ck h
  refine gl_aaload (gX_LK b) y_245_9 ys_797 c1 (Or.inl rfl) (yo_797 (iB_lt c1)) rfl ?_
  refine gl_iload_n (gX_LK b) y_245_10 rfl rfl ?_
  obtain ⟨ve2, sce2, mre2, are2, ale2, e2, h⟩ := o_k5 h
  refine gl_callV (gX_LK b) y_245_11 ym_245_40 rfl rfl rfl ys_757 yx_206 rfl rfl ((xt_206 )  _ _ _ (pg_797 (iB_lt c1)) _ _ _ _ _ _ _ _ _ e2 ?_)
  refine gl_if_ne (gX_LK b) y_245_14 rfl rfl (fun c3 => ?_) (fun c3 => ?_)
  · have h := (if_pos c3).symm.trans h
    refine gl_iconst (gX_LK b) y_245_17 ci_m1 rfl ?_
    exact gl_ireturn y_245_18 (Or.inl yt_245) (by cases h; exact hP)
  · have h := (if_neg c3).symm.trans h
    refine gl_aload_n (gX_LK b) y_245_19 rfl rfl ?_
    refine gl_dup (gX_LK b) y_245_20 rfl rfl ?_
    refine gl_get (gX_LK b) y_245_21 yf_245_17 ys_796 rfl rfl rfl rfl ?_
    refine gl_aload_n (gX_LK b) y_245_24 rfl rfl ?_
    refine gl_iconst (gX_LK b) y_245_25 ci_0 rfl ?_
    refine gl_iload_n (gX_LK b) y_245_26 rfl rfl ?_
    refine gl_iload_n (gX_LK b) y_245_27 rfl rfl ?_
    obtain ⟨ve4, sce4, mre4, are4, ale4, e4, h⟩ := o_k5 h
    refine gl_callV (gX_LK b) y_245_28 ym_245_46 rfl rfl rfl ys_796 yx_249 rfl rfl ((xt_249 )  _ _ _ _ _ _ _ _ _ _ _ _ _ e4 ?_)
    refine gl_iadd (gX_LK b) y_245_31 rfl ?_
    refine gl_put (sc' := (j_u2 sce4 796 1 ((sce2 796 1) + ve4))) (gX_LK b) y_245_32 yf_245_17 ys_796 rfl rfl rfl rfl rfl ?_
    refine gl_aload_n (gX_LK b) y_245_35 rfl rfl ?_
    refine gl_get (gX_LK b) y_245_36 yf_245_17 ys_796 rfl rfl rfl rfl ?_
    exact gl_ireturn y_245_39 (Or.inl yt_245) (by cases h; exact hP)
