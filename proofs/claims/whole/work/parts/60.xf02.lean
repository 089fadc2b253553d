/-! ClickOrders: its methods as functions, and that the machine does what they say. -/
/-- ClickOrders$Page.empties(I)V -/
def xT_236 (b : Bool) (rf : jRf) (F : Nat → Int32 → jSc → (Nat → Nat) → jSc → jAl → Option (jSc × (Nat → Nat) × jSc × jAl)) (e : Nat) : Prop := ∀  (Post : jPo) (p0 : Nat) (x1 : Int32) (hp0 : x_pg p0 = true) (sc : jSc) (mr : (Nat → Nat)) (ar : jSc) (al : jAl) (sc9 : jSc) (mr9 : (Nat → Nat)) (ar9 : jSc) (al9 : jAl), F p0 x1 sc mr ar al = some (sc9, mr9, ar9, al9) → Post none sc9 (x_mk mr9 rf) ar9 al9 → gW (gX b) 236 e 0 (j_av [.ref p0, .int x1]) [] sc (x_mk mr rf) ar al Post
def xF_236_6 : Nat → Nat → Int32 → Int32 → Int32 → jSc → (Nat → Nat) → jSc → jAl → Option (jSc × (Nat → Nat) × jSc × jAl)
  | 0, _, _, _, _, _, _, _, _ => none
  | nn + 1, p0, x1, x2, x3, sc, mr, ar, al => (if (3 : Int32) ≤ x3 then (if iB ((15 : Int32) + x1) 50 then some (sc, mr, (j_u2 ar (p0 + 1) (iN ((15 : Int32) + x1)) (0 : Int32)), al) else none) else (if iB (((20 : Int32) + x2) + x3) 50 then xF_236_6 nn p0 x1 x2 (x3 + (1 : Int32)) sc mr (j_u2 ar (p0 + 1) (iN (((20 : Int32) + x2) + x3)) (0 : Int32)) al else none))
set_option maxHeartbeats 4000000 in
theorem xt_236_6 {b : Bool} {rf : jRf} {d : Nat} {Post : jPo} {sc9 : jSc} {mr9 : (Nat → Nat)} {ar9 : jSc} {al9 : jAl} (hP : Post none sc9 (x_mk mr9 rf) ar9 al9) : ∀ (nn : Nat) (p0 : Nat) (x1 : Int32) (x2 : Int32) (x3 : Int32) (sc : jSc) (mr : (Nat → Nat)) (ar : jSc) (al : jAl), x_pg p0 = true → xF_236_6 nn p0 x1 x2 x3 sc mr ar al = some (sc9, mr9, ar9, al9) → gL (gX b) 236 (d + 1) 6 [some (.ref p0), some (.int x1), some (.int x2), some (.int x3)] [] sc (x_mk mr rf) ar al Post := by
  intro nn
  induction nn with
  | zero =>
    intro p0 x1 x2 x3 sc mr ar al hp0 h
    have h : (none : Option (jSc × (Nat → Nat) × jSc × jAl)) = some _ := h
    cases h
  | succ nn ih =>
    intro p0 x1 x2 x3 sc mr ar al hp0 h
    unfold xF_236_6 at h
    refine gl_iload_n (gX_LK b) y_236_6 rfl rfl ?_
    refine gl_iconst (gX_LK b) y_236_7 ci_3 rfl ?_
    refine gl_ic_ge (gX_LK b) y_236_8 rfl rfl (fun c1 => ?_) (fun c1 => ?_)
    · have h := (if_pos c1).symm.trans h
      refine gl_aload_n (gX_LK b) y_236_29 rfl rfl ?_
      refine gl_getA (gX_LK b) y_236_30 yf_236_11 (ys_pg hp0) rfl rfl (yr_pg hp0) rfl ?_
      refine gl_bipush (gX_LK b) y_236_33 cb_15 rfl ?_
      refine gl_iload_n (gX_LK b) y_236_35 rfl rfl ?_
      refine gl_iadd (gX_LK b) y_236_36 rfl ?_
      refine gl_iconst (gX_LK b) y_236_37 ci_0 rfl ?_
      obtain ⟨c2, h⟩ := o_ck h
      refine gl_iastore (ar2 := (j_u2 ar (p0 + 1) (iN ((15 : Int32) + x1)) (0 : Int32))) (gX_LK b) y_236_38 (ys_pgc hp0) c2 rfl rfl ?_
      exact gl_return y_236_39 yt_236 (by cases h; exact hP)
    · have h := (if_neg c1).symm.trans h
      refine gl_aload_n (gX_LK b) y_236_11 rfl rfl ?_
      refine gl_getA (gX_LK b) y_236_12 yf_236_11 (ys_pg hp0) rfl rfl (yr_pg hp0) rfl ?_
      refine gl_bipush (gX_LK b) y_236_15 cb_20 rfl ?_
      refine gl_iload_n (gX_LK b) y_236_17 rfl rfl ?_
      refine gl_iadd (gX_LK b) y_236_18 rfl ?_
      refine gl_iload_n (gX_LK b) y_236_19 rfl rfl ?_
      refine gl_iadd (gX_LK b) y_236_20 rfl ?_
      refine gl_iconst (gX_LK b) y_236_21 ci_0 rfl ?_
      obtain ⟨c3, h⟩ := o_ck h
      refine gl_iastore (ar2 := (j_u2 ar (p0 + 1) (iN (((20 : Int32) + x2) + x3)) (0 : Int32))) (gX_LK b) y_236_22 (ys_pgc hp0) c3 rfl rfl ?_
      refine gl_iinc (vs2 := [some (.ref p0), some (.int x1), some (.int x2), some (.int (x3 + (1 : Int32)))]) (gX_LK b) y_236_23 rfl rfl rfl ci_1 rfl rfl ?_
      refine gl_goto (gX_LK b) y_236_26 rfl ?_
      exact gl_weak (vs := [some (.ref p0), some (.int x1), some (.int x2), some (.int (x3 + (1 : Int32)))]) ⟨rfl, rfl, rfl, rfl, trivial⟩ (ih p0 x1 x2 (x3 + (1 : Int32)) sc mr (j_u2 ar (p0 + 1) (iN (((20 : Int32) + x2) + x3)) (0 : Int32)) al hp0 h)
def xF_236 (p0 : Nat) (x1 : Int32) (sc : jSc) (mr : (Nat → Nat)) (ar : jSc) (al : jAl) : Option (jSc × (Nat → Nat) × jSc × jAl) :=
  xF_236_6 oF p0 x1 (x1 * (3 : Int32)) (0 : Int32) sc mr ar al
set_option maxHeartbeats 4000000 in
theorem xt_236 {b : Bool} {rf : jRf} {d : Nat} : xT_236 b rf xF_236 (d + 1) := by
  intro  Post p0 x1 hp0 sc mr ar al sc9 mr9 ar9 al9 h hP
  unfold xF_236 at h
  refine gl_entry (m := 2) rfl ?_
  show gL (gX b) 236 (d + 1) 0 [some (.ref p0), some (.int x1), none, none] [] sc (x_mk mr rf) ar al Post
  refine gl_iload_n (gX_LK b) y_236_0 rfl rfl ?_
  refine gl_iconst (gX_LK b) y_236_1 ci_3 rfl ?_
  refine gl_imul (gX_LK b) y_236_2 rfl ?_
  refine gl_istore_n (vs2 := [some (.ref p0), some (.int x1), some (.int (x1 * (3 : Int32))), none]) (gX_LK b) y_236_3 rfl rfl rfl rfl ?_
  refine gl_iconst (gX_LK b) y_236_4 ci_0 rfl ?_
  refine gl_istore_n (vs2 := [some (.ref p0), some (.int x1), some (.int (x1 * (3 : Int32))), some (.int (0 : Int32))]) (gX_LK b) y_236_5 rfl rfl rfl rfl ?_
  exact gl_weak (vs := [some (.ref p0), some (.int x1), some (.int (x1 * (3 : Int32))), some (.int (0 : Int32))]) ⟨rfl, rfl, rfl, rfl, trivial⟩ (xt_236_6  hP oF p0 x1 (x1 * (3 : Int32)) (0 : Int32) sc mr ar al hp0 h)
/-- ClickOrders$Page.takesClock(II)Z -/
def xT_239 (b : Bool) (rf : jRf) (F : Nat → Int32 → Int32 → jSc → (Nat → Nat) → jSc → jAl → Option (Int32 × jSc × (Nat → Nat) × jSc × jAl)) (e : Nat) : Prop := ∀  (Post : jPo) (p0 : Nat) (x1 : Int32) (x2 : Int32) (hp0 : x_pg p0 = true) (sc : jSc) (mr : (Nat → Nat)) (ar : jSc) (al : jAl) (r9 : Int32) (sc9 : jSc) (mr9 : (Nat → Nat)) (ar9 : jSc) (al9 : jAl), F p0 x1 x2 sc mr ar al = some (r9, sc9, mr9, ar9, al9) → Post (some (.int r9)) sc9 (x_mk mr9 rf) ar9 al9 → gW (gX b) 239 e 0 (j_av [.ref p0, .int x1, .int x2]) [] sc (x_mk mr rf) ar al Post
def xF_239 (p0 : Nat) (x1 : Int32) (x2 : Int32) (sc : jSc) (mr : (Nat → Nat)) (ar : jSc) (al : jAl) : Option (Int32 × jSc × (Nat → Nat) × jSc × jAl) :=
  (if (ar (p0 + 1) 19) < 0 then some ((0 : Int32), sc, mr, ar, al) else (if (ar (p0 + 1) 19) < (3 : Int32) then (if iB ((32 : Int32) + (ar (p0 + 1) 19)) 50 then (if iB ((47 : Int32) + (ar (p0 + 1) 19)) 50 then some ((1 : Int32), sc, mr, (j_u2 (j_u2 (j_u2 ar (p0 + 1) (iN ((32 : Int32) + (ar (p0 + 1) 19))) x1) (p0 + 1) (iN ((47 : Int32) + (ar (p0 + 1) 19))) x2) (p0 + 1) 19 ((ar (p0 + 1) 19) + (1 : Int32))), al) else none) else none) else some ((0 : Int32), sc, mr, ar, al)))
set_option maxHeartbeats 4000000 in
theorem xt_239 {b : Bool} {rf : jRf} {d : Nat} : xT_239 b rf xF_239 (d + 1) := by
  intro  Post p0 x1 x2 hp0 sc mr ar al r9 sc9 mr9 ar9 al9 h hP
  unfold xF_239 at h
  refine gl_entry (m := 1) rfl ?_
  show gL (gX b) 239 (d + 1) 0 [some (.ref p0), some (.int x1), some (.int x2), none] [] sc (x_mk mr rf) ar al Post
  refine gl_aload_n (gX_LK b) y_239_0 rfl rfl ?_
  refine gl_getA (gX_LK b) y_239_1 yf_239_11 (ys_pg hp0) rfl rfl (yr_pg hp0) rfl ?_
  refine gl_bipush (gX_LK b) y_239_4 cb_19 rfl ?_
  refine gl_iaload (gX_LK b) y_239_6 (ys_pgc hp0) (by decide) rfl rfl ?_
  refine gl_istore_n (vs2 := [some (.ref p0), some (.int x1), some (.int x2), some (.int (ar (p0 + 1) 19))]) (gX_LK b) y_239_7 rfl rfl rfl rfl ?_
  refine gl_iload_n (gX_LK b) y_239_8 rfl rfl ?_
  refine gl_if_lt (gX_LK b) y_239_9 rfl rfl (fun c1 => ?_) (fun c1 => ?_)
  · have h := (if_pos c1).symm.trans h
    refine gl_iconst (gX_LK b) y_239_17 ci_0 rfl ?_
    exact gl_ireturn y_239_18 (Or.inr ⟨yt_239, Or.inl rfl⟩) (by cases h; exact hP)
  · have h := (if_neg c1).symm.trans h
    refine gl_iload_n (gX_LK b) y_239_12 rfl rfl ?_
    refine gl_iconst (gX_LK b) y_239_13 ci_3 rfl ?_
    refine gl_ic_lt (gX_LK b) y_239_14 rfl rfl (fun c2 => ?_) (fun c2 => ?_)
    · have h := (if_pos c2).symm.trans h
      refine gl_aload_n (gX_LK b) y_239_19 rfl rfl ?_
      refine gl_getA (gX_LK b) y_239_20 yf_239_11 (ys_pg hp0) rfl rfl (yr_pg hp0) rfl ?_
      refine gl_bipush (gX_LK b) y_239_23 cb_32 rfl ?_
      refine gl_iload_n (gX_LK b) y_239_25 rfl rfl ?_
      refine gl_iadd (gX_LK b) y_239_26 rfl ?_
      refine gl_iload_n (gX_LK b) y_239_27 rfl rfl ?_
      obtain ⟨c3, h⟩ := o_ck h
      refine gl_iastore (ar2 := (j_u2 ar (p0 + 1) (iN ((32 : Int32) + (ar (p0 + 1) 19))) x1)) (gX_LK b) y_239_28 (ys_pgc hp0) c3 rfl rfl ?_
      refine gl_aload_n (gX_LK b) y_239_29 rfl rfl ?_
      refine gl_getA (gX_LK b) y_239_30 yf_239_11 (ys_pg hp0) rfl rfl (yr_pg hp0) rfl ?_
      refine gl_bipush (gX_LK b) y_239_33 cb_47 rfl ?_
      refine gl_iload_n (gX_LK b) y_239_35 rfl rfl ?_
      refine gl_iadd (gX_LK b) y_239_36 rfl ?_
      refine gl_iload_n (gX_LK b) y_239_37 rfl rfl ?_
      obtain ⟨c4, h⟩ := o_ck h
      refine gl_iastore (ar2 := (j_u2 (j_u2 ar (p0 + 1) (iN ((32 : Int32) + (ar (p0 + 1) 19))) x1) (p0 + 1) (iN ((47 : Int32) + (ar (p0 + 1) 19))) x2)) (gX_LK b) y_239_38 (ys_pgc hp0) c4 rfl rfl ?_
      refine gl_aload_n (gX_LK b) y_239_39 rfl rfl ?_
      refine gl_getA (gX_LK b) y_239_40 yf_239_11 (ys_pg hp0) rfl rfl (yr_pg hp0) rfl ?_
      refine gl_bipush (gX_LK b) y_239_43 cb_19 rfl ?_
      refine gl_iload_n (gX_LK b) y_239_45 rfl rfl ?_
      refine gl_iconst (gX_LK b) y_239_46 ci_1 rfl ?_
      refine gl_iadd (gX_LK b) y_239_47 rfl ?_
      refine gl_iastore (ar2 := (j_u2 (j_u2 (j_u2 ar (p0 + 1) (iN ((32 : Int32) + (ar (p0 + 1) 19))) x1) (p0 + 1) (iN ((47 : Int32) + (ar (p0 + 1) 19))) x2) (p0 + 1) 19 ((ar (p0 + 1) 19) + (1 : Int32)))) (gX_LK b) y_239_48 (ys_pgc hp0) (by decide) rfl rfl ?_
      refine gl_iconst (gX_LK b) y_239_49 ci_1 rfl ?_
      exact gl_ireturn y_239_50 (Or.inr ⟨yt_239, Or.inr rfl⟩) (by cases h; exact hP)
    · have h := (if_neg c2).symm.trans h
      refine gl_iconst (gX_LK b) y_239_17 ci_0 rfl ?_
      exact gl_ireturn y_239_18 (Or.inr ⟨yt_239, Or.inl rfl⟩) (by cases h; exact hP)
/-- ClickOrders$Hand.does(LClickOrders$Page;II)Z -/
def xT_216 (b : Bool) (rf : jRf) (F : Nat → Int32 → Int32 → jSc → (Nat → Nat) → jSc → jAl → Option (Int32 × jSc × (Nat → Nat) × jSc × jAl)) (e : Nat) : Prop := ∀  (Post : jPo) (p1 : Nat) (x2 : Int32) (x3 : Int32) (hp1 : x_pg p1 = true) (sc : jSc) (mr : (Nat → Nat)) (ar : jSc) (al : jAl) (r9 : Int32) (sc9 : jSc) (mr9 : (Nat → Nat)) (ar9 : jSc) (al9 : jAl), F p1 x2 x3 sc mr ar al = some (r9, sc9, mr9, ar9, al9) → Post (some (.int r9)) sc9 (x_mk mr9 rf) ar9 al9 → gW (gX b) 216 e 0 (j_av [.ref 757, .ref p1, .int x2, .int x3]) [] sc (x_mk mr rf) ar al Post
def xF_216_109 (p1 : Nat) (x3 : Int32) (sc : jSc) (mr : (Nat → Nat)) (ar : jSc) (al : jAl) : Option (Int32 × jSc × (Nat → Nat) × jSc × jAl) :=
  (o_b5 (xF_218 sc mr ar al) (fun ve1 sce1 mre1 are1 ale1 => (o_b5 (xF_235 p1 x3 ve1 (sce1 757 8) sce1 mre1 are1 ale1) (fun ve2 sce2 mre2 are2 ale2 => (if ve2 = 0 then some ((0 : Int32), sce2, mre2, are2, ale2) else some ((1 : Int32), (j_u2 sce2 757 4 ((sce2 757 4) ||| ((1 : Int32) <<< (((20 : Int32) + x3) &&& 31)))), mre2, are2, ale2))))))
set_option maxHeartbeats 4000000 in
theorem xt_216_109 {b : Bool} {rf : jRf} {d : Nat} {Post : jPo} {r9 : Int32} {sc9 : jSc} {mr9 : (Nat → Nat)} {ar9 : jSc} {al9 : jAl} (hP : Post (some (.int r9)) sc9 (x_mk mr9 rf) ar9 al9) (p1 : Nat) (x3 : Int32) (sc : jSc) (mr : (Nat → Nat)) (ar : jSc) (al : jAl) (hp1 : x_pg p1 = true) (h : xF_216_109 p1 x3 sc mr ar al = some (r9, sc9, mr9, ar9, al9)) : gL (gX b) 216 (d + 2) 109 [some (.ref 757), some (.ref p1), none, some (.int x3)] [] sc (x_mk mr rf) ar al Post := by
  unfold xF_216_109 at h
  refine gl_aload_n (gX_LK b) y_216_109 rfl rfl ?_
  refine gl_iload_n (gX_LK b) y_216_110 rfl rfl ?_
  refine gl_aload_n (gX_LK b) y_216_111 rfl rfl ?_
  obtain ⟨ve1, sce1, mre1, are1, ale1, e1, h⟩ := o_k5 h
  refine gl_callV (gX_LK b) y_216_112 ym_216_129 rfl rfl rfl ys_757 yx_218 rfl rfl ((xt_218 )  _  _ _ _ _ _ _ _ _ _ e1 ?_)
  refine gl_aload_n (gX_LK b) y_216_115 rfl rfl ?_
  refine gl_get (gX_LK b) y_216_116 yf_216_31 ys_757 rfl rfl rfl rfl ?_
  obtain ⟨ve2, sce2, mre2, are2, ale2, e2, h⟩ := o_k5 h
  refine gl_callV (gX_LK b) y_216_119 ym_216_159 rfl rfl rfl (ys_pg hp1) yx_235 rfl rfl ((xt_235 )  _ _ _ _ _ hp1 _ _ _ _ _ _ _ _ _ e2 ?_)
  refine gl_if_ne (gX_LK b) y_216_122 rfl rfl (fun c3 => ?_) (fun c3 => ?_)
  · have h := (if_pos c3).symm.trans h
    refine gl_iconst (gX_LK b) y_216_125 ci_0 rfl ?_
    exact gl_ireturn y_216_126 (Or.inr ⟨yt_216, Or.inl rfl⟩) (by cases h; exact hP)
  · have h := (if_neg c3).symm.trans h
    refine gl_aload_n (gX_LK b) y_216_127 rfl rfl ?_
    refine gl_dup (gX_LK b) y_216_128 rfl rfl ?_
    refine gl_get (gX_LK b) y_216_129 yf_216_19 ys_757 rfl rfl rfl rfl ?_
    refine gl_iconst (gX_LK b) y_216_132 ci_1 rfl ?_
    refine gl_bipush (gX_LK b) y_216_133 cb_20 rfl ?_
    refine gl_iload_n (gX_LK b) y_216_135 rfl rfl ?_
    refine gl_iadd (gX_LK b) y_216_136 rfl ?_
    refine gl_ishl (gX_LK b) y_216_137 rfl ?_
    refine gl_ior (gX_LK b) y_216_138 rfl ?_
    refine gl_put (sc' := (j_u2 sce2 757 4 ((sce2 757 4) ||| ((1 : Int32) <<< (((20 : Int32) + x3) &&& 31))))) (gX_LK b) y_216_139 yf_216_19 ys_757 rfl rfl rfl rfl rfl ?_
    refine gl_iconst (gX_LK b) y_216_142 ci_1 rfl ?_
    exact gl_ireturn y_216_143 (Or.inr ⟨yt_216, Or.inr rfl⟩) (by cases h; exact hP)
def xF_216 (p1 : Nat) (x2 : Int32) (x3 : Int32) (sc : jSc) (mr : (Nat → Nat)) (ar : jSc) (al : jAl) : Option (Int32 × jSc × (Nat → Nat) × jSc × jAl) :=
  (if x2 = (18 : Int32) then (o_b5 (xF_218 (j_u2 sc 757 4 ((sc 757 4) ||| ((1 : Int32) <<< (x3 &&& 31)))) mr ar al) (fun ve5 sce5 mre5 are5 ale5 => (if iB x3 50 then some ((1 : Int32), sce5, mre5, (j_u2 are5 (p1 + 1) (iN x3) ve5), ale5) else none))) else (if x2 = (19 : Int32) then (o_b4 (xF_217 p1 x2 x3 sc mr ar al) (fun sce7 mre7 are7 ale7 => some ((1 : Int32), sce7, mre7, are7, ale7))) else (if x2 = (20 : Int32) then (o_b4 (xF_217 p1 x2 x3 sc mr ar al) (fun sce8 mre8 are8 ale8 => some ((1 : Int32), sce8, mre8, are8, ale8))) else (if x2 = (21 : Int32) then (o_b4 (xF_217 p1 x2 x3 sc mr ar al) (fun sce9 mre9 are9 ale9 => some ((1 : Int32), sce9, mre9, are9, ale9))) else (if x2 = (22 : Int32) then (o_b4 (xF_217 p1 x2 x3 sc mr ar al) (fun sce10 mre10 are10 ale10 => some ((1 : Int32), sce10, mre10, are10, ale10))) else (if x2 = (23 : Int32) then (o_b5 (xF_239 p1 x3 (sc 757 8) sc mr ar al) (fun ve11 sce11 mre11 are11 ale11 => (if ve11 = 0 ∨ ve11 = 1 then some (ve11, sce11, mre11, are11, ale11) else none))) else (if x2 = (24 : Int32) then (if (((sc 736 8) >>> (x3 &&& 31)) &&& (1 : Int32)) = 0 then xF_216_109 p1 x3 sc mr ar al else (o_b4 (xF_236 p1 x3 sc mr ar al) (fun sce14 mre14 are14 ale14 => xF_216_109 p1 x3 sce14 mre14 are14 ale14))) else (if x2 = (25 : Int32) then (o_b4 (xF_236 p1 x3 (j_u2 sc 757 4 ((sc 757 4) ||| ((1 : Int32) <<< (((20 : Int32) + x3) &&& 31)))) mr ar al) (fun sce15 mre15 are15 ale15 => some ((1 : Int32), sce15, mre15, are15, ale15))) else (if x2 = (26 : Int32) then (o_b5 (xF_218 (j_u2 (j_u2 (j_u2 sc 757 4 ((sc 757 4) ||| ((1 : Int32) <<< (((16 : Int32) + x3) &&& 31)))) 757 6 ((sc 757 6) + (((sc 757 5) >>> (x3 &&& 31)) &&& (1 : Int32)))) 757 5 ((sc 757 5) &&& (((1 : Int32) <<< (x3 &&& 31)) ^^^ (-1 : Int32)))) mr ar al) (fun ve16 sce16 mre16 are16 ale16 => (if iB ((10 : Int32) + x3) 50 then some ((1 : Int32), sce16, mre16, (j_u2 are16 (p1 + 1) (iN ((10 : Int32) + x3)) ve16), ale16) else none))) else (if x2 = (27 : Int32) then some ((0 : Int32), sc, mr, ar, al) else (o_b4 (xF_217 p1 x2 x3 sc mr ar al) (fun sce4 mre4 are4 ale4 => some ((1 : Int32), sce4, mre4, are4, ale4)))))))))))))
set_option maxHeartbeats 4000000 in
theorem xt_216 {b : Bool} {rf : jRf} {d : Nat} : xT_216 b rf xF_216 (d + 2) := by
  intro  Post p1 x2 x3 hp1 sc mr ar al r9 sc9 mr9 ar9 al9 h hP
  unfold xF_216 at h
  refine gl_entry (m := 0) rfl ?_
  show gL (gX b) 216 (d + 2) 0 [some (.ref 757), some (.ref p1), some (.int x2), some (.int x3)] [] sc (x_mk mr rf) ar al Post
  refine gl_iload_n (gX_LK b) y_216_0 rfl rfl ?_
  refine gl_tsw (gX_LK b) y_216_1 rfl rfl (fun c => ?_) (fun j o ho hj => ?_)
  · have h := (if_neg (fun z => c 0 (by decide) (by rw [z]; decide))).symm.trans h
    have h := (if_neg (fun z => c 1 (by decide) (by rw [z]; decide))).symm.trans h
    have h := (if_neg (fun z => c 2 (by decide) (by rw [z]; decide))).symm.trans h
    have h := (if_neg (fun z => c 3 (by decide) (by rw [z]; decide))).symm.trans h
    have h := (if_neg (fun z => c 4 (by decide) (by rw [z]; decide))).symm.trans h
    have h := (if_neg (fun z => c 5 (by decide) (by rw [z]; decide))).symm.trans h
    have h := (if_neg (fun z => c 6 (by decide) (by rw [z]; decide))).symm.trans h
    have h := (if_neg (fun z => c 7 (by decide) (by rw [z]; decide))).symm.trans h
    have h := (if_neg (fun z => c 8 (by decide) (by rw [z]; decide))).symm.trans h
    have h := (if_neg (fun z => c 9 (by decide) (by rw [z]; decide))).symm.trans h
    refine gl_aload_n (gX_LK b) y_216_229 rfl rfl ?_
    refine gl_aload_n (gX_LK b) y_216_230 rfl rfl ?_
    refine gl_iload_n (gX_LK b) y_216_231 rfl rfl ?_
    refine gl_iload_n (gX_LK b) y_216_232 rfl rfl ?_
    obtain ⟨sce4, mre4, are4, ale4, e4, h⟩ := o_k4 h
    refine gl_callV (gX_LK b) y_216_233 ym_216_163 rfl rfl rfl ys_757 yx_217 rfl rfl ((xt_217 )  _ _ _ _ hp1 _ _ _ _ _ _ _ _ e4 ?_)
    refine gl_iconst (gX_LK b) y_216_236 ci_1 rfl ?_
    exact gl_ireturn y_216_237 (Or.inr ⟨yt_216, Or.inr rfl⟩) (by cases h; exact hP)
  · rcases (show j = 0 ∨ j = 1 ∨ j = 2 ∨ j = 3 ∨ j = 4 ∨ j = 5 ∨ j = 6 ∨ j = 7 ∨ j = 8 ∨ j = 9 by have := (Array.getElem?_eq_some_iff.mp ho).1; simp only [List.size_toArray, List.length_cons, List.length_nil] at this; omega) with rfl | rfl | rfl | rfl | rfl | rfl | rfl | rfl | rfl | rfl
    · have hj : x2 = (18 : Int32) := Int32.toInt_inj.mp (hj.trans (by decide))
      cases (show some _ = some _ from ho)
      have h := (if_pos hj).symm.trans h
      refine ⟨56, rfl, ?_⟩
      refine gl_aload_n (gX_LK b) y_216_56 rfl rfl ?_
      refine gl_dup (gX_LK b) y_216_57 rfl rfl ?_
      refine gl_get (gX_LK b) y_216_58 yf_216_19 ys_757 rfl rfl rfl rfl ?_
      refine gl_iconst (gX_LK b) y_216_61 ci_1 rfl ?_
      refine gl_iload_n (gX_LK b) y_216_62 rfl rfl ?_
      refine gl_ishl (gX_LK b) y_216_63 rfl ?_
      refine gl_ior (gX_LK b) y_216_64 rfl ?_
      refine gl_put (sc' := (j_u2 sc 757 4 ((sc 757 4) ||| ((1 : Int32) <<< (x3 &&& 31))))) (gX_LK b) y_216_65 yf_216_19 ys_757 rfl rfl rfl rfl rfl ?_
      refine gl_aload_n (gX_LK b) y_216_68 rfl rfl ?_
      refine gl_getA (gX_LK b) y_216_69 yf_216_97 (ys_pg hp1) rfl rfl (yr_pg hp1) rfl ?_
      refine gl_iload_n (gX_LK b) y_216_72 rfl rfl ?_
      refine gl_aload_n (gX_LK b) y_216_73 rfl rfl ?_
      obtain ⟨ve5, sce5, mre5, are5, ale5, e5, h⟩ := o_k5 h
      refine gl_callV (gX_LK b) y_216_74 ym_216_129 rfl rfl rfl ys_757 yx_218 rfl rfl ((xt_218 )  _  _ _ _ _ _ _ _ _ _ e5 ?_)
      obtain ⟨c6, h⟩ := o_ck h
      refine gl_iastore (ar2 := (j_u2 are5 (p1 + 1) (iN x3) ve5)) (gX_LK b) y_216_77 (ys_pgc hp1) c6 rfl rfl ?_
      refine gl_iconst (gX_LK b) y_216_78 ci_1 rfl ?_
      exact gl_ireturn y_216_79 (Or.inr ⟨yt_216, Or.inr rfl⟩) (by cases h; exact hP)
    · have hj : x2 = (19 : Int32) := Int32.toInt_inj.mp (hj.trans (by decide))
      cases (show some _ = some _ from ho)
      have h := (if_neg (fun z => absurd (hj.symm.trans z) (by decide))).symm.trans h
      have h := (if_pos hj).symm.trans h
      refine ⟨229, rfl, ?_⟩
      refine gl_aload_n (gX_LK b) y_216_229 rfl rfl ?_
      refine gl_aload_n (gX_LK b) y_216_230 rfl rfl ?_
      refine gl_iload_n (gX_LK b) y_216_231 rfl rfl ?_
      refine gl_iload_n (gX_LK b) y_216_232 rfl rfl ?_
      obtain ⟨sce7, mre7, are7, ale7, e7, h⟩ := o_k4 h
      refine gl_callV (gX_LK b) y_216_233 ym_216_163 rfl rfl rfl ys_757 yx_217 rfl rfl ((xt_217 )  _ _ _ _ hp1 _ _ _ _ _ _ _ _ e7 ?_)
      refine gl_iconst (gX_LK b) y_216_236 ci_1 rfl ?_
      exact gl_ireturn y_216_237 (Or.inr ⟨yt_216, Or.inr rfl⟩) (by cases h; exact hP)
    · have hj : x2 = (20 : Int32) := Int32.toInt_inj.mp (hj.trans (by decide))
      cases (show some _ = some _ from ho)
      have h := (if_neg (fun z => absurd (hj.symm.trans z) (by decide))).symm.trans h
      have h := (if_neg (fun z => absurd (hj.symm.trans z) (by decide))).symm.trans h
      have h := (if_pos hj).symm.trans h
      refine ⟨229, rfl, ?_⟩
      refine gl_aload_n (gX_LK b) y_216_229 rfl rfl ?_
      refine gl_aload_n (gX_LK b) y_216_230 rfl rfl ?_
      refine gl_iload_n (gX_LK b) y_216_231 rfl rfl ?_
      refine gl_iload_n (gX_LK b) y_216_232 rfl rfl ?_
      obtain ⟨sce8, mre8, are8, ale8, e8, h⟩ := o_k4 h
      refine gl_callV (gX_LK b) y_216_233 ym_216_163 rfl rfl rfl ys_757 yx_217 rfl rfl ((xt_217 )  _ _ _ _ hp1 _ _ _ _ _ _ _ _ e8 ?_)
      refine gl_iconst (gX_LK b) y_216_236 ci_1 rfl ?_
      exact gl_ireturn y_216_237 (Or.inr ⟨yt_216, Or.inr rfl⟩) (by cases h; exact hP)
    · have hj : x2 = (21 : Int32) := Int32.toInt_inj.mp (hj.trans (by decide))
      cases (show some _ = some _ from ho)
      have h := (if_neg (fun z => absurd (hj.symm.trans z) (by decide))).symm.trans h
      have h := (if_neg (fun z => absurd (hj.symm.trans z) (by decide))).symm.trans h
      have h := (if_neg (fun z => absurd (hj.symm.trans z) (by decide))).symm.trans h
      have h := (if_pos hj).symm.trans h
      refine ⟨229, rfl, ?_⟩
      refine gl_aload_n (gX_LK b) y_216_229 rfl rfl ?_
      refine gl_aload_n (gX_LK b) y_216_230 rfl rfl ?_
      refine gl_iload_n (gX_LK b) y_216_231 rfl rfl ?_
      refine gl_iload_n (gX_LK b) y_216_232 rfl rfl ?_
      obtain ⟨sce9, mre9, are9, ale9, e9, h⟩ := o_k4 h
      refine gl_callV (gX_LK b) y_216_233 ym_216_163 rfl rfl rfl ys_757 yx_217 rfl rfl ((xt_217 )  _ _ _ _ hp1 _ _ _ _ _ _ _ _ e9 ?_)
      refine gl_iconst (gX_LK b) y_216_236 ci_1 rfl ?_
      exact gl_ireturn y_216_237 (Or.inr ⟨yt_216, Or.inr rfl⟩) (by cases h; exact hP)
    · have hj : x2 = (22 : Int32) := Int32.toInt_inj.mp (hj.trans (by decide))
      cases (show some _ = some _ from ho)
      have h := (if_neg (fun z => absurd (hj.symm.trans z) (by decide))).symm.trans h
      have h := (if_neg (fun z => absurd (hj.symm.trans z) (by decide))).symm.trans h
      have h := (if_neg (fun z => absurd (hj.symm.trans z) (by decide))).symm.trans h
      have h := (if_neg (fun z => absurd (hj.symm.trans z) (by decide))).symm.trans h
      have h := (if_pos hj).symm.trans h
      refine ⟨229, rfl, ?_⟩
      refine gl_aload_n (gX_LK b) y_216_229 rfl rfl ?_
      refine gl_aload_n (gX_LK b) y_216_230 rfl rfl ?_
      refine gl_iload_n (gX_LK b) y_216_231 rfl rfl ?_
      refine gl_iload_n (gX_LK b) y_216_232 rfl rfl ?_
      obtain ⟨sce10, mre10, are10, ale10, e10, h⟩ := o_k4 h
      refine gl_callV (gX_LK b) y_216_233 ym_216_163 rfl rfl rfl ys_757 yx_217 rfl rfl ((xt_217 )  _ _ _ _ hp1 _ _ _ _ _ _ _ _ e10 ?_)
      refine gl_iconst (gX_LK b) y_216_236 ci_1 rfl ?_
      exact gl_ireturn y_216_237 (Or.inr ⟨yt_216, Or.inr rfl⟩) (by cases h; exact hP)
    · have hj : x2 = (23 : Int32) := Int32.toInt_inj.mp (hj.trans (by decide))
      cases (show some _ = some _ from ho)
      have h := (if_neg (fun z => absurd (hj.symm.trans z) (by decide))).symm.trans h
      have h := (if_neg (fun z => absurd (hj.symm.trans z) (by decide))).symm.trans h
      have h := (if_neg (fun z => absurd (hj.symm.trans z) (by decide))).symm.trans h
      have h := (if_neg (fun z => absurd (hj.symm.trans z) (by decide))).symm.trans h
      have h := (if_neg (fun z => absurd (hj.symm.trans z) (by decide))).symm.trans h
      have h := (if_pos hj).symm.trans h
      refine ⟨80, rfl, ?_⟩
      refine gl_aload_n (gX_LK b) y_216_80 rfl rfl ?_
      refine gl_iload_n (gX_LK b) y_216_81 rfl rfl ?_
      refine gl_aload_n (gX_LK b) y_216_82 rfl rfl ?_
      refine gl_get (gX_LK b) y_216_83 yf_216_31 ys_757 rfl rfl rfl rfl ?_
      obtain ⟨ve11, sce11, mre11, are11, ale11, e11, h⟩ := o_k5 h
      refine gl_callV (gX_LK b) y_216_86 ym_216_149 rfl rfl rfl (ys_pg hp1) yx_239 rfl rfl ((xt_239 )  _ _ _ _ hp1 _ _ _ _ _ _ _ _ _ e11 ?_)
      obtain ⟨c12, h⟩ := o_ck h
      exact gl_ireturn y_216_89 (Or.inr ⟨yt_216, c12⟩) (by cases h; exact hP)
    · have hj : x2 = (24 : Int32) := Int32.toInt_inj.mp (hj.trans (by decide))
      cases (show some _ = some _ from ho)
      have h := (if_neg (fun z => absurd (hj.symm.trans z) (by decide))).symm.trans h
      have h := (if_neg (fun z => absurd (hj.symm.trans z) (by decide))).symm.trans h
      have h := (if_neg (fun z => absurd (hj.symm.trans z) (by decide))).symm.trans h
      have h := (if_neg (fun z => absurd (hj.symm.trans z) (by decide))).symm.trans h
      have h := (if_neg (fun z => absurd (hj.symm.trans z) (by decide))).symm.trans h
      have h := (if_neg (fun z => absurd (hj.symm.trans z) (by decide))).symm.trans h
      have h := (if_pos hj).symm.trans h
      refine ⟨90, rfl, ?_⟩
      refine gl_aload_n (gX_LK b) y_216_90 rfl rfl ?_
      refine gl_getA (gX_LK b) y_216_91 yf_216_37 ys_757 rfl rfl rfl rfl ?_
      refine gl_get (gX_LK b) y_216_94 yf_216_153 ys_736 rfl rfl rfl rfl ?_
      refine gl_iload_n (gX_LK b) y_216_97 rfl rfl ?_
      refine gl_ishr (gX_LK b) y_216_98 rfl ?_
      refine gl_iconst (gX_LK b) y_216_99 ci_1 rfl ?_
      refine gl_iand (gX_LK b) y_216_100 rfl ?_
      refine gl_if_eq (gX_LK b) y_216_101 rfl rfl (fun c13 => ?_) (fun c13 => ?_)
      · have h := (if_pos c13).symm.trans h
        exact gl_weak (vs := [some (.ref 757), some (.ref p1), none, some (.int x3)]) ⟨rfl, rfl, rfl, trivial⟩ (xt_216_109  hP p1 x3 sc mr ar al hp1 h)
      · have h := (if_neg c13).symm.trans h
        refine gl_aload_n (gX_LK b) y_216_104 rfl rfl ?_
        refine gl_iload_n (gX_LK b) y_216_105 rfl rfl ?_
        obtain ⟨sce14, mre14, are14, ale14, e14, h⟩ := o_k4 h
        refine gl_callV (gX_LK b) y_216_106 ym_216_156 rfl rfl rfl (ys_pg hp1) yx_236 rfl rfl ((xt_236 )  _ _ _ hp1 _ _ _ _ _ _ _ _ e14 ?_)
        exact gl_weak (vs := [some (.ref 757), some (.ref p1), none, some (.int x3)]) ⟨rfl, rfl, rfl, trivial⟩ (xt_216_109  hP p1 x3 sce14 mre14 are14 ale14 hp1 h)
    · have hj : x2 = (25 : Int32) := Int32.toInt_inj.mp (hj.trans (by decide))
      cases (show some _ = some _ from ho)
      have h := (if_neg (fun z => absurd (hj.symm.trans z) (by decide))).symm.trans h
      have h := (if_neg (fun z => absurd (hj.symm.trans z) (by decide))).symm.trans h
      have h := (if_neg (fun z => absurd (hj.symm.trans z) (by decide))).symm.trans h
      have h := (if_neg (fun z => absurd (hj.symm.trans z) (by decide))).symm.trans h
      have h := (if_neg (fun z => absurd (hj.symm.trans z) (by decide))).symm.trans h
      have h := (if_neg (fun z => absurd (hj.symm.trans z) (by decide))).symm.trans h
      have h := (if_neg (fun z => absurd (hj.symm.trans z) (by decide))).symm.trans h
      have h := (if_pos hj).symm.trans h
      refine ⟨144, rfl, ?_⟩
      refine gl_aload_n (gX_LK b) y_216_144 rfl rfl ?_
      refine gl_dup (gX_LK b) y_216_145 rfl rfl ?_
      refine gl_get (gX_LK b) y_216_146 yf_216_19 ys_757 rfl rfl rfl rfl ?_
      refine gl_iconst (gX_LK b) y_216_149 ci_1 rfl ?_
      refine gl_bipush (gX_LK b) y_216_150 cb_20 rfl ?_
      refine gl_iload_n (gX_LK b) y_216_152 rfl rfl ?_
      refine gl_iadd (gX_LK b) y_216_153 rfl ?_
      refine gl_ishl (gX_LK b) y_216_154 rfl ?_
      refine gl_ior (gX_LK b) y_216_155 rfl ?_
      refine gl_put (sc' := (j_u2 sc 757 4 ((sc 757 4) ||| ((1 : Int32) <<< (((20 : Int32) + x3) &&& 31))))) (gX_LK b) y_216_156 yf_216_19 ys_757 rfl rfl rfl rfl rfl ?_
      refine gl_aload_n (gX_LK b) y_216_159 rfl rfl ?_
      refine gl_iload_n (gX_LK b) y_216_160 rfl rfl ?_
      obtain ⟨sce15, mre15, are15, ale15, e15, h⟩ := o_k4 h
      refine gl_callV (gX_LK b) y_216_161 ym_216_156 rfl rfl rfl (ys_pg hp1) yx_236 rfl rfl ((xt_236 )  _ _ _ hp1 _ _ _ _ _ _ _ _ e15 ?_)
      refine gl_iconst (gX_LK b) y_216_164 ci_1 rfl ?_
      exact gl_ireturn y_216_165 (Or.inr ⟨yt_216, Or.inr rfl⟩) (by cases h; exact hP)
    · have hj : x2 = (26 : Int32) := Int32.toInt_inj.mp (hj.trans (by decide))
      cases (show some _ = some _ from ho)
      have h := (if_neg (fun z => absurd (hj.symm.trans z) (by decide))).symm.trans h
      have h := (if_neg (fun z => absurd (hj.symm.trans z) (by decide))).symm.trans h
      have h := (if_neg (fun z => absurd (hj.symm.trans z) (by decide))).symm.trans h
      have h := (if_neg (fun z => absurd (hj.symm.trans z) (by decide))).symm.trans h
      have h := (if_neg (fun z => absurd (hj.symm.trans z) (by decide))).symm.trans h
      have h := (if_neg (fun z => absurd (hj.symm.trans z) (by decide))).symm.trans h
      have h := (if_neg (fun z => absurd (hj.symm.trans z) (by decide))).symm.trans h
      have h := (if_neg (fun z => absurd (hj.symm.trans z) (by decide))).symm.trans h
      have h := (if_pos hj).symm.trans h
      refine ⟨166, rfl, ?_⟩
      refine gl_aload_n (gX_LK b) y_216_166 rfl rfl ?_
      refine gl_dup (gX_LK b) y_216_167 rfl rfl ?_
      refine gl_get (gX_LK b) y_216_168 yf_216_19 ys_757 rfl rfl rfl rfl ?_
      refine gl_iconst (gX_LK b) y_216_171 ci_1 rfl ?_
      refine gl_bipush (gX_LK b) y_216_172 cb_16 rfl ?_
      refine gl_iload_n (gX_LK b) y_216_174 rfl rfl ?_
      refine gl_iadd (gX_LK b) y_216_175 rfl ?_
      refine gl_ishl (gX_LK b) y_216_176 rfl ?_
      refine gl_ior (gX_LK b) y_216_177 rfl ?_
      refine gl_put (sc' := (j_u2 sc 757 4 ((sc 757 4) ||| ((1 : Int32) <<< (((16 : Int32) + x3) &&& 31))))) (gX_LK b) y_216_178 yf_216_19 ys_757 rfl rfl rfl rfl rfl ?_
      refine gl_aload_n (gX_LK b) y_216_181 rfl rfl ?_
      refine gl_dup (gX_LK b) y_216_182 rfl rfl ?_
      refine gl_get (gX_LK b) y_216_183 yf_216_25 ys_757 rfl rfl rfl rfl ?_
      refine gl_aload_n (gX_LK b) y_216_186 rfl rfl ?_
      refine gl_get (gX_LK b) y_216_187 yf_216_22 ys_757 rfl rfl rfl rfl ?_
      refine gl_iload_n (gX_LK b) y_216_190 rfl rfl ?_
      refine gl_ishr (gX_LK b) y_216_191 rfl ?_
      refine gl_iconst (gX_LK b) y_216_192 ci_1 rfl ?_
      refine gl_iand (gX_LK b) y_216_193 rfl ?_
      refine gl_iadd (gX_LK b) y_216_194 rfl ?_
      refine gl_put (sc' := (j_u2 (j_u2 sc 757 4 ((sc 757 4) ||| ((1 : Int32) <<< (((16 : Int32) + x3) &&& 31)))) 757 6 ((sc 757 6) + (((sc 757 5) >>> (x3 &&& 31)) &&& (1 : Int32))))) (gX_LK b) y_216_195 yf_216_25 ys_757 rfl rfl rfl rfl rfl ?_
      refine gl_aload_n (gX_LK b) y_216_198 rfl rfl ?_
      refine gl_dup (gX_LK b) y_216_199 rfl rfl ?_
      refine gl_get (gX_LK b) y_216_200 yf_216_22 ys_757 rfl rfl rfl rfl ?_
      refine gl_iconst (gX_LK b) y_216_203 ci_1 rfl ?_
      refine gl_iload_n (gX_LK b) y_216_204 rfl rfl ?_
      refine gl_ishl (gX_LK b) y_216_205 rfl ?_
      refine gl_iconst (gX_LK b) y_216_206 ci_m1 rfl ?_
      refine gl_ixor (gX_LK b) y_216_207 rfl ?_
      refine gl_iand (gX_LK b) y_216_208 rfl ?_
      refine gl_put (sc' := (j_u2 (j_u2 (j_u2 sc 757 4 ((sc 757 4) ||| ((1 : Int32) <<< (((16 : Int32) + x3) &&& 31)))) 757 6 ((sc 757 6) + (((sc 757 5) >>> (x3 &&& 31)) &&& (1 : Int32)))) 757 5 ((sc 757 5) &&& (((1 : Int32) <<< (x3 &&& 31)) ^^^ (-1 : Int32))))) (gX_LK b) y_216_209 yf_216_22 ys_757 rfl rfl rfl rfl rfl ?_
      refine gl_aload_n (gX_LK b) y_216_212 rfl rfl ?_
      refine gl_getA (gX_LK b) y_216_213 yf_216_97 (ys_pg hp1) rfl rfl (yr_pg hp1) rfl ?_
      refine gl_bipush (gX_LK b) y_216_216 cb_10 rfl ?_
      refine gl_iload_n (gX_LK b) y_216_218 rfl rfl ?_
      refine gl_iadd (gX_LK b) y_216_219 rfl ?_
      refine gl_aload_n (gX_LK b) y_216_220 rfl rfl ?_
      obtain ⟨ve16, sce16, mre16, are16, ale16, e16, h⟩ := o_k5 h
      refine gl_callV (gX_LK b) y_216_221 ym_216_129 rfl rfl rfl ys_757 yx_218 rfl rfl ((xt_218 )  _  _ _ _ _ _ _ _ _ _ e16 ?_)
      obtain ⟨c17, h⟩ := o_ck h
      refine gl_iastore (ar2 := (j_u2 are16 (p1 + 1) (iN ((10 : Int32) + x3)) ve16)) (gX_LK b) y_216_224 (ys_pgc hp1) c17 rfl rfl ?_
      refine gl_iconst (gX_LK b) y_216_225 ci_1 rfl ?_
      exact gl_ireturn y_216_226 (Or.inr ⟨yt_216, Or.inr rfl⟩) (by cases h; exact hP)
    · have hj : x2 = (27 : Int32) := Int32.toInt_inj.mp (hj.trans (by decide))
      cases (show some _ = some _ from ho)
      have h := (if_neg (fun z => absurd (hj.symm.trans z) (by decide))).symm.trans h
      have h := (if_neg (fun z => absurd (hj.symm.trans z) (by decide))).symm.trans h
      have h := (if_neg (fun z => absurd (hj.symm.trans z) (by decide))).symm.trans h
      have h := (if_neg (fun z => absurd (hj.symm.trans z) (by decide))).symm.trans h
      have h := (if_neg (fun z => absurd (hj.symm.trans z) (by decide))).symm.trans h
      have h := (if_neg (fun z => absurd (hj.symm.trans z) (by decide))).symm.trans h
      have h := (if_neg (fun z => absurd (hj.symm.trans z) (by decide))).symm.trans h
      have h := (if_neg (fun z => absurd (hj.symm.trans z) (by decide))).symm.trans h
      have h := (if_neg (fun z => absurd (hj.symm.trans z) (by decide))).symm.trans h
      have h := (if_pos hj).symm.trans h
      refine ⟨227, rfl, ?_⟩
      refine gl_iconst (gX_LK b) y_216_227 ci_0 rfl ?_
      exact gl_ireturn y_216_228 (Or.inr ⟨yt_216, Or.inl rfl⟩) (by cases h; exact hP)
/-- ClickOrders$Hand.works(LClickOrders$Page;I)V -/
def xT_213 (b : Bool) (rf : jRf) (F : Nat → Int32 → jSc → (Nat → Nat) → jSc → jAl → Option (jSc × (Nat → Nat) × jSc × jAl)) (e : Nat) : Prop := ∀  (Post : jPo) (p1 : Nat) (x2 : Int32) (hp1 : x_pg p1 = true) (sc : jSc) (mr : (Nat → Nat)) (ar : jSc) (al : jAl) (sc9 : jSc) (mr9 : (Nat → Nat)) (ar9 : jSc) (al9 : jAl), F p1 x2 sc mr ar al = some (sc9, mr9, ar9, al9) → Post none sc9 (x_mk mr9 rf) ar9 al9 → gW (gX b) 213 e 0 (j_av [.ref 757, .ref p1, .int x2]) [] sc (x_mk mr rf) ar al Post
def xF_213_7 : Nat → Nat → Int32 → jSc → (Nat → Nat) → jSc → jAl → Option (jSc × (Nat → Nat) × jSc × jAl)
  | 0, _, _, _, _, _, _ => none
  | nn + 1, p1, x3, sc, mr, ar, al => (if x3 < 0 then some (sc, mr, ar, al) else (if x_pr (mr 3) = true then (if (sc (mr 3) 3) ≤ x3 then some (sc, mr, ar, al) else (if x_pr (mr 3) = true then (if iB x3 700 then (if x_pr (mr 3) = true then (if iB x3 700 then (if (16 : Int32) ≤ (ar ((mr 3) + 1) (iN x3)) then (if (ar ((mr 3) + 1) (iN x3)) = (16 : Int32) then some (sc, mr, ar, al) else (if (ar ((mr 3) + 1) (iN x3)) = (17 : Int32) then (o_b5 (xF_218 sc mr ar al) (fun ve11 sce11 mre11 are11 ale11 => (if ve11 = 0 then xF_213_7 nn p1 ((if x3 < ((ar ((mr 3) + 2) (iN x3)) - (1 : Int32)) then ((ar ((mr 3) + 2) (iN x3)) - (1 : Int32)) else x3) + (1 : Int32)) sce11 mre11 are11 ale11 else xF_213_7 nn p1 (x3 + (1 : Int32)) sce11 mre11 are11 ale11))) else (o_b5 (xF_216 p1 (ar ((mr 3) + 1) (iN x3)) (ar ((mr 3) + 2) (iN x3)) sc mr ar al) (fun ve13 sce13 mre13 are13 ale13 => (if ve13 = 0 then some (sce13, mre13, (j_u2 are13 (p1 + 1) 14 (1 : Int32)), ale13) else xF_213_7 nn p1 (x3 + (1 : Int32)) sce13 mre13 are13 ale13))))) else (o_b4 (xF_214 p1 (ar ((mr 3) + 1) (iN x3)) (ar ((mr 3) + 2) (iN x3)) sc mr ar al) (fun sce15 mre15 are15 ale15 => xF_213_7 nn p1 (x3 + (1 : Int32)) sce15 mre15 are15 ale15))) else none) else none) else none) else none)) else none))
set_option maxHeartbeats 4000000 in
theorem xt_213_7 {b : Bool} {rf : jRf} {d : Nat} {Post : jPo} {sc9 : jSc} {mr9 : (Nat → Nat)} {ar9 : jSc} {al9 : jAl} (hP : Post none sc9 (x_mk mr9 rf) ar9 al9) : ∀ (nn : Nat) (p1 : Nat) (x3 : Int32) (sc : jSc) (mr : (Nat → Nat)) (ar : jSc) (al : jAl), x_pg p1 = true → xF_213_7 nn p1 x3 sc mr ar al = some (sc9, mr9, ar9, al9) → gL (gX b) 213 (d + 3) 7 [some (.ref 757), some (.ref p1), none, some (.int x3), none, none] [] sc (x_mk mr rf) ar al Post := by
  intro nn
  induction nn with
  | zero =>
    intro p1 x3 sc mr ar al hp1 h
    have h : (none : Option (jSc × (Nat → Nat) × jSc × jAl)) = some _ := h
    cases h
  | succ nn ih =>
    intro p1 x3 sc mr ar al hp1 h
    unfold xF_213_7 at h
    refine gl_iload_n (gX_LK b) y_213_7 rfl rfl ?_
    refine gl_if_lt (gX_LK b) y_213_8 rfl rfl (fun c1 => ?_) (fun c1 => ?_)
    · have h := (if_pos c1).symm.trans h
      exact gl_return y_213_124 yt_213 (by cases h; exact hP)
    · have h := (if_neg c1).symm.trans h
      refine gl_iload_n (gX_LK b) y_213_11 rfl rfl ?_
      refine gl_aload_n (gX_LK b) y_213_12 rfl rfl ?_
      obtain ⟨c2, h⟩ := o_ck h
      refine gl_getA (gX_LK b) y_213_13 yf_213_41 ys_757 rfl rfl rfl rfl ?_
      refine gl_get (gX_LK b) y_213_16 yf_213_116 (ys_pr c2) rfl rfl rfl rfl ?_
      refine gl_ic_ge (gX_LK b) y_213_19 rfl rfl (fun c3 => ?_) (fun c3 => ?_)
      · have h := (if_pos c3).symm.trans h
        exact gl_return y_213_124 yt_213 (by cases h; exact hP)
      · have h := (if_neg c3).symm.trans h
        refine gl_aload_n (gX_LK b) y_213_22 rfl rfl ?_
        obtain ⟨c4, h⟩ := o_ck h
        refine gl_getA (gX_LK b) y_213_23 yf_213_41 ys_757 rfl rfl rfl rfl ?_
        refine gl_getA (gX_LK b) y_213_26 yf_213_119 (ys_pr c4) rfl rfl (yr_pr1 c4) rfl ?_
        refine gl_iload_n (gX_LK b) y_213_29 rfl rfl ?_
        obtain ⟨c5, h⟩ := o_ck h
        refine gl_iaload (gX_LK b) y_213_30 (ys_pr1 c4) c5 rfl rfl ?_
        refine gl_istore (vs2 := [some (.ref 757), some (.ref p1), none, some (.int x3), some (.int (ar ((mr 3) + 1) (iN x3))), none]) (gX_LK b) y_213_31 rfl rfl rfl rfl ?_
        refine gl_aload_n (gX_LK b) y_213_33 rfl rfl ?_
        obtain ⟨c6, h⟩ := o_ck h
        refine gl_getA (gX_LK b) y_213_34 yf_213_41 ys_757 rfl rfl rfl rfl ?_
        refine gl_getA (gX_LK b) y_213_37 yf_213_122 (ys_pr c6) rfl rfl (yr_pr2 c6) rfl ?_
        refine gl_iload_n (gX_LK b) y_213_40 rfl rfl ?_
        obtain ⟨c7, h⟩ := o_ck h
        refine gl_iaload (gX_LK b) y_213_41 (ys_pr2 c6) c7 rfl rfl ?_
        refine gl_istore (vs2 := [some (.ref 757), some (.ref p1), none, some (.int x3), some (.int (ar ((mr 3) + 1) (iN x3))), some (.int (ar ((mr 3) + 2) (iN x3)))]) (gX_LK b) y_213_42 rfl rfl rfl rfl ?_
        refine gl_iload (gX_LK b) y_213_44 rfl rfl ?_
        refine gl_bipush (gX_LK b) y_213_46 cb_16 rfl ?_
        refine gl_ic_ge (gX_LK b) y_213_48 rfl rfl (fun c8 => ?_) (fun c8 => ?_)
        · have h := (if_pos c8).symm.trans h
          refine gl_iload (gX_LK b) y_213_63 rfl rfl ?_
          refine gl_bipush (gX_LK b) y_213_65 cb_16 rfl ?_
          refine gl_ic_ne (gX_LK b) y_213_67 rfl rfl (fun c9 => ?_) (fun c9 => ?_)
          · have h := (if_pos c9).symm.trans h
            exact gl_return y_213_70 yt_213 (by cases h; exact hP)
          · have h := (if_neg c9).symm.trans h
            refine gl_iload (gX_LK b) y_213_71 rfl rfl ?_
            refine gl_bipush (gX_LK b) y_213_73 cb_17 rfl ?_
            refine gl_ic_ne (gX_LK b) y_213_75 rfl rfl (fun c10 => ?_) (fun c10 => ?_)
            · have h := (if_pos c10).symm.trans h
              refine gl_aload_n (gX_LK b) y_213_78 rfl rfl ?_
              obtain ⟨ve11, sce11, mre11, are11, ale11, e11, h⟩ := o_k5 h
              refine gl_callV (gX_LK b) y_213_79 ym_213_129 rfl rfl rfl ys_757 yx_218 rfl rfl ((xt_218 )  _  _ _ _ _ _ _ _ _ _ e11 ?_)
              refine gl_if_ne (gX_LK b) y_213_82 rfl rfl (fun c12 => ?_) (fun c12 => ?_)
              · have h := (if_pos c12).symm.trans h
                refine gl_iload_n (gX_LK b) y_213_85 rfl rfl ?_
                refine gl_iload (gX_LK b) y_213_86 rfl rfl ?_
                refine gl_iconst (gX_LK b) y_213_88 ci_1 rfl ?_
                refine gl_isub (gX_LK b) y_213_89 rfl ?_
                refine gl_max (gX_LK b) y_213_90 yn_213_132 yz_213_132 rfl rfl ?_
                refine gl_istore_n (vs2 := [some (.ref 757), some (.ref p1), none, some (.int (if x3 < ((ar ((mr 3) + 2) (iN x3)) - (1 : Int32)) then ((ar ((mr 3) + 2) (iN x3)) - (1 : Int32)) else x3)), some (.int (ar ((mr 3) + 1) (iN x3))), some (.int (ar ((mr 3) + 2) (iN x3)))]) (gX_LK b) y_213_93 rfl rfl rfl rfl ?_
                refine gl_goto (gX_LK b) y_213_94 rfl ?_
                refine gl_iinc (vs2 := [some (.ref 757), some (.ref p1), none, some (.int ((if x3 < ((ar ((mr 3) + 2) (iN x3)) - (1 : Int32)) then ((ar ((mr 3) + 2) (iN x3)) - (1 : Int32)) else x3) + (1 : Int32))), some (.int (ar ((mr 3) + 1) (iN x3))), some (.int (ar ((mr 3) + 2) (iN x3)))]) (gX_LK b) y_213_118 rfl rfl rfl ci_1 rfl rfl ?_
                refine gl_goto (gX_LK b) y_213_121 rfl ?_
                exact gl_weak (vs := [some (.ref 757), some (.ref p1), none, some (.int ((if x3 < ((ar ((mr 3) + 2) (iN x3)) - (1 : Int32)) then ((ar ((mr 3) + 2) (iN x3)) - (1 : Int32)) else x3) + (1 : Int32))), none, none]) ⟨rfl, rfl, rfl, trivial⟩ (ih p1 ((if x3 < ((ar ((mr 3) + 2) (iN x3)) - (1 : Int32)) then ((ar ((mr 3) + 2) (iN x3)) - (1 : Int32)) else x3) + (1 : Int32)) sce11 mre11 are11 ale11 hp1 h)
              · have h := (if_neg c12).symm.trans h
                refine gl_iinc (vs2 := [some (.ref 757), some (.ref p1), none, some (.int (x3 + (1 : Int32))), some (.int (ar ((mr 3) + 1) (iN x3))), some (.int (ar ((mr 3) + 2) (iN x3)))]) (gX_LK b) y_213_118 rfl rfl rfl ci_1 rfl rfl ?_
                refine gl_goto (gX_LK b) y_213_121 rfl ?_
                exact gl_weak (vs := [some (.ref 757), some (.ref p1), none, some (.int (x3 + (1 : Int32))), none, none]) ⟨rfl, rfl, rfl, trivial⟩ (ih p1 (x3 + (1 : Int32)) sce11 mre11 are11 ale11 hp1 h)
            · have h := (if_neg c10).symm.trans h
              refine gl_aload_n (gX_LK b) y_213_97 rfl rfl ?_
              refine gl_aload_n (gX_LK b) y_213_98 rfl rfl ?_
              refine gl_iload (gX_LK b) y_213_99 rfl rfl ?_
              refine gl_iload (gX_LK b) y_213_101 rfl rfl ?_
              obtain ⟨ve13, sce13, mre13, are13, ale13, e13, h⟩ := o_k5 h
              refine gl_callV (gX_LK b) y_213_103 ym_213_138 rfl rfl rfl ys_757 yx_216 rfl rfl ((xt_216 )  _ _ _ _ hp1 _ _ _ _ _ _ _ _ _ e13 ?_)
              refine gl_if_ne (gX_LK b) y_213_106 rfl rfl (fun c14 => ?_) (fun c14 => ?_)
              · have h := (if_pos c14).symm.trans h
                refine gl_aload_n (gX_LK b) y_213_109 rfl rfl ?_
                refine gl_getA (gX_LK b) y_213_110 yf_213_97 (ys_pg hp1) rfl rfl (yr_pg hp1) rfl ?_
                refine gl_bipush (gX_LK b) y_213_113 cb_14 rfl ?_
                refine gl_iconst (gX_LK b) y_213_115 ci_1 rfl ?_
                refine gl_iastore (ar2 := (j_u2 are13 (p1 + 1) 14 (1 : Int32))) (gX_LK b) y_213_116 (ys_pgc hp1) (by decide) rfl rfl ?_
                exact gl_return y_213_117 yt_213 (by cases h; exact hP)
              · have h := (if_neg c14).symm.trans h
                refine gl_iinc (vs2 := [some (.ref 757), some (.ref p1), none, some (.int (x3 + (1 : Int32))), some (.int (ar ((mr 3) + 1) (iN x3))), some (.int (ar ((mr 3) + 2) (iN x3)))]) (gX_LK b) y_213_118 rfl rfl rfl ci_1 rfl rfl ?_
                refine gl_goto (gX_LK b) y_213_121 rfl ?_
                exact gl_weak (vs := [some (.ref 757), some (.ref p1), none, some (.int (x3 + (1 : Int32))), none, none]) ⟨rfl, rfl, rfl, trivial⟩ (ih p1 (x3 + (1 : Int32)) sce13 mre13 are13 ale13 hp1 h)
        · have h := (if_neg c8).symm.trans h
          refine gl_aload_n (gX_LK b) y_213_51 rfl rfl ?_
          refine gl_aload_n (gX_LK b) y_213_52 rfl rfl ?_
          refine gl_iload (gX_LK b) y_213_53 rfl rfl ?_
          refine gl_iload (gX_LK b) y_213_55 rfl rfl ?_
          obtain ⟨sce15, mre15, are15, ale15, e15, h⟩ := o_k4 h
          refine gl_callV (gX_LK b) y_213_57 ym_213_125 rfl rfl rfl ys_757 yx_214 rfl rfl ((xt_214 )  _ _ _ _ hp1 _ _ _ _ _ _ _ _ e15 ?_)
          refine gl_goto (gX_LK b) y_213_60 rfl ?_
          refine gl_iinc (vs2 := [some (.ref 757), some (.ref p1), none, some (.int (x3 + (1 : Int32))), some (.int (ar ((mr 3) + 1) (iN x3))), some (.int (ar ((mr 3) + 2) (iN x3)))]) (gX_LK b) y_213_118 rfl rfl rfl ci_1 rfl rfl ?_
          refine gl_goto (gX_LK b) y_213_121 rfl ?_
          exact gl_weak (vs := [some (.ref 757), some (.ref p1), none, some (.int (x3 + (1 : Int32))), none, none]) ⟨rfl, rfl, rfl, trivial⟩ (ih p1 (x3 + (1 : Int32)) sce15 mre15 are15 ale15 hp1 h)
def xF_213 (p1 : Nat) (x2 : Int32) (sc : jSc) (mr : (Nat → Nat)) (ar : jSc) (al : jAl) : Option (jSc × (Nat → Nat) × jSc × jAl) :=
  xF_213_7 oF p1 x2 (j_u2 sc 757 9 (0 : Int32)) mr ar al
set_option maxHeartbeats 4000000 in
theorem xt_213 {b : Bool} {rf : jRf} {d : Nat} : xT_213 b rf xF_213 (d + 3) := by
  intro  Post p1 x2 hp1 sc mr ar al sc9 mr9 ar9 al9 h hP
  unfold xF_213 at h
  refine gl_entry (m := 3) rfl ?_
  show gL (gX b) 213 (d + 3) 0 [some (.ref 757), some (.ref p1), some (.int x2), none, none, none] [] sc (x_mk mr rf) ar al Post
  refine gl_aload_n (gX_LK b) y_213_0 rfl rfl ?_
  refine gl_iconst (gX_LK b) y_213_1 ci_0 rfl ?_
  refine gl_put (sc' := (j_u2 sc 757 9 (0 : Int32))) (gX_LK b) y_213_2 yf_213_34 ys_757 rfl rfl rfl rfl rfl ?_
  refine gl_iload_n (gX_LK b) y_213_5 rfl rfl ?_
  refine gl_istore_n (vs2 := [some (.ref 757), some (.ref p1), some (.int x2), some (.int x2), none, none]) (gX_LK b) y_213_6 rfl rfl rfl rfl ?_
  exact gl_weak (vs := [some (.ref 757), some (.ref p1), none, some (.int x2), none, none]) ⟨rfl, rfl, rfl, trivial⟩ (xt_213_7  hP oF p1 x2 (j_u2 sc 757 9 (0 : Int32)) mr ar al hp1 h)
/-- ClickOrders$Page.blanks()V -/
def xT_225 (b : Bool) (rf : jRf) (F : Nat → jSc → (Nat → Nat) → jSc → jAl → Option (jSc × (Nat → Nat) × jSc × jAl)) (e : Nat) : Prop := ∀  (Post : jPo) (p0 : Nat) (hp0 : x_pg p0 = true) (sc : jSc) (mr : (Nat → Nat)) (ar : jSc) (al : jAl) (sc9 : jSc) (mr9 : (Nat → Nat)) (ar9 : jSc) (al9 : jAl), F p0 sc mr ar al = some (sc9, mr9, ar9, al9) → Post none sc9 (x_mk mr9 rf) ar9 al9 → gW (gX b) 225 e 0 (j_av [.ref p0]) [] sc (x_mk mr rf) ar al Post
def xF_225 (p0 : Nat) (sc : jSc) (mr : (Nat → Nat)) (ar : jSc) (al : jAl) : Option (jSc × (Nat → Nat) × jSc × jAl) :=
  (o_b4 (xF_503 (p0 + 1) 50 (0 : Int32) sc mr ar al) (fun sce1 mre1 are1 ale1 => some (sce1, mre1, (j_u2 are1 (p0 + 1) 8 (255 : Int32)), ale1)))
set_option maxHeartbeats 4000000 in
theorem xt_225 {b : Bool} {rf : jRf} {d : Nat} : xT_225 b rf xF_225 (d + 2) := by
  intro  Post p0 hp0 sc mr ar al sc9 mr9 ar9 al9 h hP
  unfold xF_225 at h
  refine gl_entry (m := 0) rfl ?_
  show gL (gX b) 225 (d + 2) 0 [some (.ref p0)] [] sc (x_mk mr rf) ar al Post
  refine gl_aload_n (gX_LK b) y_225_0 rfl rfl ?_
  refine gl_getA (gX_LK b) y_225_1 yf_225_11 (ys_pg hp0) rfl rfl (yr_pg hp0) rfl ?_
  refine gl_iconst (gX_LK b) y_225_4 ci_0 rfl ?_
  obtain ⟨sce1, mre1, are1, ale1, e1, h⟩ := o_k4 h
  refine gl_callS y_225_5 ym_225_15 rfl rfl rfl yx_503 rfl rfl ((xt_503 )  _ _ _ _ (ys_pgc hp0) _ _ _ _ _ _ _ _ e1 ?_)
  refine gl_aload_n (gX_LK b) y_225_8 rfl rfl ?_
  refine gl_getA (gX_LK b) y_225_9 yf_225_11 (ys_pg hp0) rfl rfl (yr_pg hp0) rfl ?_
  refine gl_bipush (gX_LK b) y_225_12 cb_8 rfl ?_
  refine gl_sipush (gX_LK b) y_225_14 cs_255 rfl ?_
  refine gl_iastore (ar2 := (j_u2 are1 (p0 + 1) 8 (255 : Int32))) (gX_LK b) y_225_17 (ys_pgc hp0) (by decide) rfl rfl ?_
  exact gl_return y_225_18 yt_225 (by cases h; exact hP)
/-- ClickOrders$Hand.begins(LClickOrders$Page;)V -/
def xT_207 (b : Bool) (rf : jRf) (F : Nat → jSc → (Nat → Nat) → jSc → jAl → Option (jSc × (Nat → Nat) × jSc × jAl)) (e : Nat) : Prop := ∀  (Post : jPo) (p1 : Nat) (hp1 : x_pg p1 = true) (sc : jSc) (mr : (Nat → Nat)) (ar : jSc) (al : jAl) (sc9 : jSc) (mr9 : (Nat → Nat)) (ar9 : jSc) (al9 : jAl), F p1 sc mr ar al = some (sc9, mr9, ar9, al9) → Post none sc9 (x_mk mr9 rf) ar9 al9 → gW (gX b) 207 e 0 (j_av [.ref 757, .ref p1]) [] sc (x_mk mr rf) ar al Post
def xF_207 (p1 : Nat) (sc : jSc) (mr : (Nat → Nat)) (ar : jSc) (al : jAl) : Option (jSc × (Nat → Nat) × jSc × jAl) :=
  (o_b4 (xF_225 p1 sc mr ar al) (fun sce1 mre1 are1 ale1 => (o_b4 (xF_212 (-1 : Int32) sce1 mre1 are1 ale1) (fun sce2 mre2 are2 ale2 => (if x_pr (mre2 3) = true then (o_b4 (xF_213 p1 (are2 ((mre2 3) + 3) 0) sce2 mre2 are2 ale2) (fun sce4 mre4 are4 ale4 => some (sce4, mre4, are4, ale4))) else none)))))
set_option maxHeartbeats 4000000 in
theorem xt_207 {b : Bool} {rf : jRf} {d : Nat} : xT_207 b rf xF_207 (d + 4) := by
  intro  Post p1 hp1 sc mr ar al sc9 mr9 ar9 al9 h hP
  unfold xF_207 at h
  refine gl_entry (m := 0) rfl ?_
  show gL (gX b) 207 (d + 4) 0 [some (.ref 757), some (.ref p1)] [] sc (x_mk mr rf) ar al Post
  refine gl_aload_n (gX_LK b) y_207_0 rfl rfl ?_
  obtain ⟨sce1, mre1, are1, ale1, e1, h⟩ := o_k4 h
  refine gl_callV (gX_LK b) y_207_1 ym_207_66 rfl rfl rfl (ys_pg hp1) yx_225 rfl rfl ((xt_225 )  _ _ hp1 _ _ _ _ _ _ _ _ e1 ?_)
  refine gl_aload_n (gX_LK b) y_207_4 rfl rfl ?_
  refine gl_iconst (gX_LK b) y_207_5 ci_m1 rfl ?_
  obtain ⟨sce2, mre2, are2, ale2, e2, h⟩ := o_k4 h
  refine gl_callV (gX_LK b) y_207_6 ym_207_69 rfl rfl rfl ys_757 yx_212 rfl rfl ((xt_212 )  _ _ _ _ _ _ _ _ _ _ e2 ?_)
  refine gl_aload_n (gX_LK b) y_207_9 rfl rfl ?_
  refine gl_aload_n (gX_LK b) y_207_10 rfl rfl ?_
  refine gl_aload_n (gX_LK b) y_207_11 rfl rfl ?_
  obtain ⟨c3, h⟩ := o_ck h
  refine gl_getA (gX_LK b) y_207_12 yf_207_41 ys_757 rfl rfl rfl rfl ?_
  refine gl_getA (gX_LK b) y_207_15 yf_207_73 (ys_pr c3) rfl rfl (yr_pr3 c3) rfl ?_
  refine gl_iconst (gX_LK b) y_207_18 ci_0 rfl ?_
  refine gl_iaload (gX_LK b) y_207_19 (ys_pr3 c3) (by decide) rfl rfl ?_
  obtain ⟨sce4, mre4, are4, ale4, e4, h⟩ := o_k4 h
  refine gl_callV (gX_LK b) y_207_20 ym_207_78 rfl rfl rfl ys_757 yx_213 rfl rfl ((xt_213 )  _ _ _ hp1 _ _ _ _ _ _ _ _ e4 ?_)
  exact gl_return y_207_23 yt_207 (by cases h; exact hP)
/-- ClickOrders$Hand.starts(LClickOrders$Page;)V -/
def xT_208 (b : Bool) (rf : jRf) (F : Nat → jSc → (Nat → Nat) → jSc → jAl → Option (jSc × (Nat → Nat) × jSc × jAl)) (e : Nat) : Prop := ∀  (Post : jPo) (p1 : Nat) (hp1 : x_pg p1 = true) (sc : jSc) (mr : (Nat → Nat)) (ar : jSc) (al : jAl) (sc9 : jSc) (mr9 : (Nat → Nat)) (ar9 : jSc) (al9 : jAl), F p1 sc mr ar al = some (sc9, mr9, ar9, al9) → Post none sc9 (x_mk mr9 rf) ar9 al9 → gW (gX b) 208 e 0 (j_av [.ref 757, .ref p1]) [] sc (x_mk mr rf) ar al Post
def xF_208 (p1 : Nat) (sc : jSc) (mr : (Nat → Nat)) (ar : jSc) (al : jAl) : Option (jSc × (Nat → Nat) × jSc × jAl) :=
  (o_b4 (xF_212 (-1 : Int32) sc mr ar al) (fun sce1 mre1 are1 ale1 => (if x_pr (mre1 3) = true then (o_b4 (xF_213 p1 (are1 ((mre1 3) + 3) 0) sce1 mre1 are1 ale1) (fun sce3 mre3 are3 ale3 => some (sce3, mre3, are3, ale3))) else none)))
set_option maxHeartbeats 4000000 in
theorem xt_208 {b : Bool} {rf : jRf} {d : Nat} : xT_208 b rf xF_208 (d + 4) := by
  intro  Post p1 hp1 sc mr ar al sc9 mr9 ar9 al9 h hP
  unfold xF_208 at h
  refine gl_entry (m := 0) rfl ?_
  show gL (gX b) 208 (d + 4) 0 [some (.ref 757), some (.ref p1)] [] sc (x_mk mr rf) ar al Post
  refine gl_aload_n (gX_LK b) y_208_0 rfl rfl ?_
  refine gl_iconst (gX_LK b) y_208_1 ci_m1 rfl ?_
  obtain ⟨sce1, mre1, are1, ale1, e1, h⟩ := o_k4 h
  refine gl_callV (gX_LK b) y_208_2 ym_208_69 rfl rfl rfl ys_757 yx_212 rfl rfl ((xt_212 )  _ _ _ _ _ _ _ _ _ _ e1 ?_)
  refine gl_aload_n (gX_LK b) y_208_5 rfl rfl ?_
  refine gl_aload_n (gX_LK b) y_208_6 rfl rfl ?_
  refine gl_aload_n (gX_LK b) y_208_7 rfl rfl ?_
  obtain ⟨c2, h⟩ := o_ck h
  refine gl_getA (gX_LK b) y_208_8 yf_208_41 ys_757 rfl rfl rfl rfl ?_
  refine gl_getA (gX_LK b) y_208_11 yf_208_73 (ys_pr c2) rfl rfl (yr_pr3 c2) rfl ?_
  refine gl_iconst (gX_LK b) y_208_14 ci_0 rfl ?_
  refine gl_iaload (gX_LK b) y_208_15 (ys_pr3 c2) (by decide) rfl rfl ?_
  obtain ⟨sce3, mre3, are3, ale3, e3, h⟩ := o_k4 h
  refine gl_callV (gX_LK b) y_208_16 ym_208_78 rfl rfl rfl ys_757 yx_213 rfl rfl ((xt_213 )  _ _ _ hp1 _ _ _ _ _ _ _ _ e3 ?_)
  exact gl_return y_208_19 yt_208 (by cases h; exact hP)
/-- ClickOrders$Page.asker(I)I -/
def xT_237 (b : Bool) (rf : jRf) (F : Nat → Int32 → jSc → (Nat → Nat) → jSc → jAl → Option (Int32 × jSc × (Nat → Nat) × jSc × jAl)) (e : Nat) : Prop := ∀  (Post : jPo) (p0 : Nat) (x1 : Int32) (hp0 : x_pg p0 = true) (sc : jSc) (mr : (Nat → Nat)) (ar : jSc) (al : jAl) (r9 : Int32) (sc9 : jSc) (mr9 : (Nat → Nat)) (ar9 : jSc) (al9 : jAl), F p0 x1 sc mr ar al = some (r9, sc9, mr9, ar9, al9) → Post (some (.int r9)) sc9 (x_mk mr9 rf) ar9 al9 → gW (gX b) 237 e 0 (j_av [.ref p0, .int x1]) [] sc (x_mk mr rf) ar al Post
def xF_237 (p0 : Nat) (x1 : Int32) (sc : jSc) (mr : (Nat → Nat)) (ar : jSc) (al : jAl) : Option (Int32 × jSc × (Nat → Nat) × jSc × jAl) :=
  (if iB ((35 : Int32) + (x1 * (3 : Int32))) 50 then some ((ar (p0 + 1) (iN ((35 : Int32) + (x1 * (3 : Int32))))), sc, mr, ar, al) else none)
set_option maxHeartbeats 4000000 in
theorem xt_237 {b : Bool} {rf : jRf} {d : Nat} : xT_237 b rf xF_237 (d + 1) := by
  intro  Post p0 x1 hp0 sc mr ar al r9 sc9 mr9 ar9 al9 h hP
  unfold xF_237 at h
  refine gl_entry (m := 0) rfl ?_
  show gL (gX b) 237 (d + 1) 0 [some (.ref p0), some (.int x1)] [] sc (x_mk mr rf) ar al Post
  refine gl_aload_n (gX_LK b) y_237_0 rfl rfl ?_
  refine gl_getA (gX_LK b) y_237_1 yf_237_11 (ys_pg hp0) rfl rfl (yr_pg hp0) rfl ?_
  refine gl_bipush (gX_LK b) y_237_4 cb_35 rfl ?_
  refine gl_iload_n (gX_LK b) y_237_6 rfl rfl ?_
  refine gl_iconst (gX_LK b) y_237_7 ci_3 rfl ?_
  refine gl_imul (gX_LK b) y_237_8 rfl ?_
  refine gl_iadd (gX_LK b) y_237_9 rfl ?_
  obtain ⟨c1, h⟩ := o_ck h
  refine gl_iaload (gX_LK b) y_237_10 (ys_pgc hp0) c1 rfl rfl ?_
  exact gl_ireturn y_237_11 (Or.inl yt_237) (by cases h; exact hP)
/-- ClickOrders$Page.givesAnswer(I)I -/
def xT_238 (b : Bool) (rf : jRf) (F : Nat → Int32 → jSc → (Nat → Nat) → jSc → jAl → Option (Int32 × jSc × (Nat → Nat) × jSc × jAl)) (e : Nat) : Prop := ∀  (Post : jPo) (p0 : Nat) (x1 : Int32) (hp0 : x_pg p0 = true) (sc : jSc) (mr : (Nat → Nat)) (ar : jSc) (al : jAl) (r9 : Int32) (sc9 : jSc) (mr9 : (Nat → Nat)) (ar9 : jSc) (al9 : jAl), F p0 x1 sc mr ar al = some (r9, sc9, mr9, ar9, al9) → Post (some (.int r9)) sc9 (x_mk mr9 rf) ar9 al9 → gW (gX b) 238 e 0 (j_av [.ref p0, .int x1]) [] sc (x_mk mr rf) ar al Post
def xF_238 (p0 : Nat) (x1 : Int32) (sc : jSc) (mr : (Nat → Nat)) (ar : jSc) (al : jAl) : Option (Int32 × jSc × (Nat → Nat) × jSc × jAl) :=
  (if iB ((15 : Int32) + x1) 50 then (if 0 < (ar (p0 + 1) (iN ((15 : Int32) + x1))) then (if iB ((20 : Int32) + (x1 * (3 : Int32))) 50 then (if xcp (((20 : Int32) + (x1 * (3 : Int32))) + (1 : Int32)) ((20 : Int32) + (x1 * (3 : Int32))) (2 : Int32) 50 50 then (if xcp (((35 : Int32) + (x1 * (3 : Int32))) + (1 : Int32)) ((35 : Int32) + (x1 * (3 : Int32))) (2 : Int32) 50 50 then (if iB ((((20 : Int32) + (x1 * (3 : Int32))) + (3 : Int32)) - (1 : Int32)) 50 then (if iB ((15 : Int32) + x1) 50 then some ((ar (p0 + 1) (iN ((20 : Int32) + (x1 * (3 : Int32))))), sc, mr, (j_u2 (j_u2 (va_up (va_up ar (p0 + 1) (va_cpy (ar (p0 + 1)) (ar (p0 + 1)) (iN (((20 : Int32) + (x1 * (3 : Int32))) + (1 : Int32))) (iN ((20 : Int32) + (x1 * (3 : Int32)))) (iN (2 : Int32)))) (p0 + 1) (va_cpy ((va_up ar (p0 + 1) (va_cpy (ar (p0 + 1)) (ar (p0 + 1)) (iN (((20 : Int32) + (x1 * (3 : Int32))) + (1 : Int32))) (iN ((20 : Int32) + (x1 * (3 : Int32)))) (iN (2 : Int32)))) (p0 + 1)) ((va_up ar (p0 + 1) (va_cpy (ar (p0 + 1)) (ar (p0 + 1)) (iN (((20 : Int32) + (x1 * (3 : Int32))) + (1 : Int32))) (iN ((20 : Int32) + (x1 * (3 : Int32)))) (iN (2 : Int32)))) (p0 + 1)) (iN (((35 : Int32) + (x1 * (3 : Int32))) + (1 : Int32))) (iN ((35 : Int32) + (x1 * (3 : Int32)))) (iN (2 : Int32)))) (p0 + 1) (iN ((((20 : Int32) + (x1 * (3 : Int32))) + (3 : Int32)) - (1 : Int32))) (0 : Int32)) (p0 + 1) (iN ((15 : Int32) + x1)) ((ar (p0 + 1) (iN ((15 : Int32) + x1))) - (1 : Int32))), al) else none) else none) else none) else none) else none) else some ((0 : Int32), sc, mr, ar, al)) else none)
set_option maxHeartbeats 4000000 in
theorem xt_238 {b : Bool} {rf : jRf} {d : Nat} : xT_238 b rf xF_238 (d + 1) := by
  intro  Post p0 x1 hp0 sc mr ar al r9 sc9 mr9 ar9 al9 h hP
  unfold xF_238 at h
  refine gl_entry (m := 3) rfl ?_
  show gL (gX b) 238 (d + 1) 0 [some (.ref p0), some (.int x1), none, none, none] [] sc (x_mk mr rf) ar al Post
  refine gl_aload_n (gX_LK b) y_238_0 rfl rfl ?_
  refine gl_getA (gX_LK b) y_238_1 yf_238_11 (ys_pg hp0) rfl rfl (yr_pg hp0) rfl ?_
  refine gl_bipush (gX_LK b) y_238_4 cb_15 rfl ?_
  refine gl_iload_n (gX_LK b) y_238_6 rfl rfl ?_
  refine gl_iadd (gX_LK b) y_238_7 rfl ?_
  obtain ⟨c1, h⟩ := o_ck h
  refine gl_iaload (gX_LK b) y_238_8 (ys_pgc hp0) c1 rfl rfl ?_
  refine gl_istore_n (vs2 := [some (.ref p0), some (.int x1), some (.int (ar (p0 + 1) (iN ((15 : Int32) + x1)))), none, none]) (gX_LK b) y_238_9 rfl rfl rfl rfl ?_
  refine gl_iload_n (gX_LK b) y_238_10 rfl rfl ?_
  refine gl_if_gt (gX_LK b) y_238_11 rfl rfl (fun c2 => ?_) (fun c2 => ?_)
  · have h := (if_pos c2).symm.trans h
    refine gl_iload_n (gX_LK b) y_238_16 rfl rfl ?_
    refine gl_iconst (gX_LK b) y_238_17 ci_3 rfl ?_
    refine gl_imul (gX_LK b) y_238_18 rfl ?_
    refine gl_istore_n (vs2 := [some (.ref p0), some (.int x1), some (.int (ar (p0 + 1) (iN ((15 : Int32) + x1)))), some (.int (x1 * (3 : Int32))), none]) (gX_LK b) y_238_19 rfl rfl rfl rfl ?_
    refine gl_aload_n (gX_LK b) y_238_20 rfl rfl ?_
    refine gl_getA (gX_LK b) y_238_21 yf_238_11 (ys_pg hp0) rfl rfl (yr_pg hp0) rfl ?_
    refine gl_bipush (gX_LK b) y_238_24 cb_20 rfl ?_
    refine gl_iload_n (gX_LK b) y_238_26 rfl rfl ?_
    refine gl_iadd (gX_LK b) y_238_27 rfl ?_
    obtain ⟨c3, h⟩ := o_ck h
    refine gl_iaload (gX_LK b) y_238_28 (ys_pgc hp0) c3 rfl rfl ?_
    refine gl_istore (vs2 := [some (.ref p0), some (.int x1), some (.int (ar (p0 + 1) (iN ((15 : Int32) + x1)))), some (.int (x1 * (3 : Int32))), some (.int (ar (p0 + 1) (iN ((20 : Int32) + (x1 * (3 : Int32))))))]) (gX_LK b) y_238_29 rfl rfl rfl rfl ?_
    refine gl_aload_n (gX_LK b) y_238_31 rfl rfl ?_
    refine gl_getA (gX_LK b) y_238_32 yf_238_11 (ys_pg hp0) rfl rfl (yr_pg hp0) rfl ?_
    refine gl_bipush (gX_LK b) y_238_35 cb_20 rfl ?_
    refine gl_iload_n (gX_LK b) y_238_37 rfl rfl ?_
    refine gl_iadd (gX_LK b) y_238_38 rfl ?_
    refine gl_iconst (gX_LK b) y_238_39 ci_1 rfl ?_
    refine gl_iadd (gX_LK b) y_238_40 rfl ?_
    refine gl_aload_n (gX_LK b) y_238_41 rfl rfl ?_
    refine gl_getA (gX_LK b) y_238_42 yf_238_11 (ys_pg hp0) rfl rfl (yr_pg hp0) rfl ?_
    refine gl_bipush (gX_LK b) y_238_45 cb_20 rfl ?_
    refine gl_iload_n (gX_LK b) y_238_47 rfl rfl ?_
    refine gl_iadd (gX_LK b) y_238_48 rfl ?_
    refine gl_iconst (gX_LK b) y_238_49 ci_2 rfl ?_
    obtain ⟨c4, h⟩ := o_ck h
    refine gl_copy (gX_LK b) y_238_50 yn_238_21 yz_238_21 (ys_pgc hp0) (ys_pgc hp0) c4 rfl rfl ?_
    refine gl_aload_n (gX_LK b) y_238_53 rfl rfl ?_
    refine gl_getA (gX_LK b) y_238_54 yf_238_11 (ys_pg hp0) rfl rfl (yr_pg hp0) rfl ?_
    refine gl_bipush (gX_LK b) y_238_57 cb_35 rfl ?_
    refine gl_iload_n (gX_LK b) y_238_59 rfl rfl ?_
    refine gl_iadd (gX_LK b) y_238_60 rfl ?_
    refine gl_iconst (gX_LK b) y_238_61 ci_1 rfl ?_
    refine gl_iadd (gX_LK b) y_238_62 rfl ?_
    refine gl_aload_n (gX_LK b) y_238_63 rfl rfl ?_
    refine gl_getA (gX_LK b) y_238_64 yf_238_11 (ys_pg hp0) rfl rfl (yr_pg hp0) rfl ?_
    refine gl_bipush (gX_LK b) y_238_67 cb_35 rfl ?_
    refine gl_iload_n (gX_LK b) y_238_69 rfl rfl ?_
    refine gl_iadd (gX_LK b) y_238_70 rfl ?_
    refine gl_iconst (gX_LK b) y_238_71 ci_2 rfl ?_
    obtain ⟨c5, h⟩ := o_ck h
    refine gl_copy (gX_LK b) y_238_72 yn_238_21 yz_238_21 (ys_pgc hp0) (ys_pgc hp0) c5 rfl rfl ?_
    refine gl_aload_n (gX_LK b) y_238_75 rfl rfl ?_
    refine gl_getA (gX_LK b) y_238_76 yf_238_11 (ys_pg hp0) rfl rfl (yr_pg hp0) rfl ?_
    refine gl_bipush (gX_LK b) y_238_79 cb_20 rfl ?_
    refine gl_iload_n (gX_LK b) y_238_81 rfl rfl ?_
    refine gl_iadd (gX_LK b) y_238_82 rfl ?_
    refine gl_iconst (gX_LK b) y_238_83 ci_3 rfl ?_
    refine gl_iadd (gX_LK b) y_238_84 rfl ?_
    refine gl_iconst (gX_LK b) y_238_85 ci_1 rfl ?_
    refine gl_isub (gX_LK b) y_238_86 rfl ?_
    refine gl_iconst (gX_LK b) y_238_87 ci_0 rfl ?_
    obtain ⟨c6, h⟩ := o_ck h
    refine gl_iastore (ar2 := (j_u2 (va_up (va_up ar (p0 + 1) (va_cpy (ar (p0 + 1)) (ar (p0 + 1)) (iN (((20 : Int32) + (x1 * (3 : Int32))) + (1 : Int32))) (iN ((20 : Int32) + (x1 * (3 : Int32)))) (iN (2 : Int32)))) (p0 + 1) (va_cpy ((va_up ar (p0 + 1) (va_cpy (ar (p0 + 1)) (ar (p0 + 1)) (iN (((20 : Int32) + (x1 * (3 : Int32))) + (1 : Int32))) (iN ((20 : Int32) + (x1 * (3 : Int32)))) (iN (2 : Int32)))) (p0 + 1)) ((va_up ar (p0 + 1) (va_cpy (ar (p0 + 1)) (ar (p0 + 1)) (iN (((20 : Int32) + (x1 * (3 : Int32))) + (1 : Int32))) (iN ((20 : Int32) + (x1 * (3 : Int32)))) (iN (2 : Int32)))) (p0 + 1)) (iN (((35 : Int32) + (x1 * (3 : Int32))) + (1 : Int32))) (iN ((35 : Int32) + (x1 * (3 : Int32)))) (iN (2 : Int32)))) (p0 + 1) (iN ((((20 : Int32) + (x1 * (3 : Int32))) + (3 : Int32)) - (1 : Int32))) (0 : Int32))) (gX_LK b) y_238_88 (ys_pgc hp0) c6 rfl rfl ?_
    refine gl_aload_n (gX_LK b) y_238_89 rfl rfl ?_
    refine gl_getA (gX_LK b) y_238_90 yf_238_11 (ys_pg hp0) rfl rfl (yr_pg hp0) rfl ?_
    refine gl_bipush (gX_LK b) y_238_93 cb_15 rfl ?_
    refine gl_iload_n (gX_LK b) y_238_95 rfl rfl ?_
    refine gl_iadd (gX_LK b) y_238_96 rfl ?_
    refine gl_iload_n (gX_LK b) y_238_97 rfl rfl ?_
    refine gl_iconst (gX_LK b) y_238_98 ci_1 rfl ?_
    refine gl_isub (gX_LK b) y_238_99 rfl ?_
    obtain ⟨c7, h⟩ := o_ck h
    refine gl_iastore (ar2 := (j_u2 (j_u2 (va_up (va_up ar (p0 + 1) (va_cpy (ar (p0 + 1)) (ar (p0 + 1)) (iN (((20 : Int32) + (x1 * (3 : Int32))) + (1 : Int32))) (iN ((20 : Int32) + (x1 * (3 : Int32)))) (iN (2 : Int32)))) (p0 + 1) (va_cpy ((va_up ar (p0 + 1) (va_cpy (ar (p0 + 1)) (ar (p0 + 1)) (iN (((20 : Int32) + (x1 * (3 : Int32))) + (1 : Int32))) (iN ((20 : Int32) + (x1 * (3 : Int32)))) (iN (2 : Int32)))) (p0 + 1)) ((va_up ar (p0 + 1) (va_cpy (ar (p0 + 1)) (ar (p0 + 1)) (iN (((20 : Int32) + (x1 * (3 : Int32))) + (1 : Int32))) (iN ((20 : Int32) + (x1 * (3 : Int32)))) (iN (2 : Int32)))) (p0 + 1)) (iN (((35 : Int32) + (x1 * (3 : Int32))) + (1 : Int32))) (iN ((35 : Int32) + (x1 * (3 : Int32)))) (iN (2 : Int32)))) (p0 + 1) (iN ((((20 : Int32) + (x1 * (3 : Int32))) + (3 : Int32)) - (1 : Int32))) (0 : Int32)) (p0 + 1) (iN ((15 : Int32) + x1)) ((ar (p0 + 1) (iN ((15 : Int32) + x1))) - (1 : Int32)))) (gX_LK b) y_238_100 (ys_pgc hp0) c7 rfl rfl ?_
    refine gl_iload (gX_LK b) y_238_101 rfl rfl ?_
    exact gl_ireturn y_238_103 (Or.inl yt_238) (by cases h; exact hP)
  · have h := (if_neg c2).symm.trans h
    refine gl_iconst (gX_LK b) y_238_14 ci_0 rfl ?_
    exact gl_ireturn y_238_15 (Or.inl yt_238) (by cases h; exact hP)
