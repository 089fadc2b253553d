/-! ClickOrders: its methods as functions, and that the machine does what they say. -/
/-- ClickOrders$Page.freeThings()I -/
def xT_229 (b : Bool) (rf : jRf) (F : Nat → jSc → (Nat → Nat) → jSc → jAl → Option (Int32 × jSc × (Nat → Nat) × jSc × jAl)) (e : Nat) : Prop := ∀  (Post : jPo) (p0 : Nat) (hp0 : x_pg p0 = true) (sc : jSc) (mr : (Nat → Nat)) (ar : jSc) (al : jAl) (r9 : Int32) (sc9 : jSc) (mr9 : (Nat → Nat)) (ar9 : jSc) (al9 : jAl), F p0 sc mr ar al = some (r9, sc9, mr9, ar9, al9) → Post (some (.int r9)) sc9 (x_mk mr9 rf) ar9 al9 → gW (gX b) 229 e 0 (j_av [.ref p0]) [] sc (x_mk mr rf) ar al Post
def xF_229 (p0 : Nat) (sc : jSc) (mr : (Nat → Nat)) (ar : jSc) (al : jAl) : Option (Int32 × jSc × (Nat → Nat) × jSc × jAl) :=
  some (((ar (p0 + 1) 8) &&& ((ar (p0 + 1) 9) ^^^ (-1 : Int32))), sc, mr, ar, al)
set_option maxHeartbeats 4000000 in
theorem xt_229 {b : Bool} {rf : jRf} {d : Nat} : xT_229 b rf xF_229 (d + 1) := by
  intro  Post p0 hp0 sc mr ar al r9 sc9 mr9 ar9 al9 h hP
  unfold xF_229 at h
  refine gl_entry (m := 0) rfl ?_
  show gL (gX b) 229 (d + 1) 0 [some (.ref p0)] [] sc (x_mk mr rf) ar al Post
  refine gl_aload_n (gX_LK b) y_229_0 rfl rfl ?_
  refine gl_getA (gX_LK b) y_229_1 yf_229_11 (ys_pg hp0) rfl rfl (yr_pg hp0) rfl ?_
  refine gl_bipush (gX_LK b) y_229_4 cb_8 rfl ?_
  refine gl_iaload (gX_LK b) y_229_6 (ys_pgc hp0) (by decide) rfl rfl ?_
  refine gl_aload_n (gX_LK b) y_229_7 rfl rfl ?_
  refine gl_getA (gX_LK b) y_229_8 yf_229_11 (ys_pg hp0) rfl rfl (yr_pg hp0) rfl ?_
  refine gl_bipush (gX_LK b) y_229_11 cb_9 rfl ?_
  refine gl_iaload (gX_LK b) y_229_13 (ys_pgc hp0) (by decide) rfl rfl ?_
  refine gl_iconst (gX_LK b) y_229_14 ci_m1 rfl ?_
  refine gl_ixor (gX_LK b) y_229_15 rfl ?_
  refine gl_iand (gX_LK b) y_229_16 rfl ?_
  exact gl_ireturn y_229_17 (Or.inl yt_229) (by cases h; exact hP)
/-- ClickOrders$Page.waiting(I)I -/
def xT_230 (b : Bool) (rf : jRf) (F : Nat → Int32 → jSc → (Nat → Nat) → jSc → jAl → Option (Int32 × jSc × (Nat → Nat) × jSc × jAl)) (e : Nat) : Prop := ∀  (Post : jPo) (p0 : Nat) (x1 : Int32) (hp0 : x_pg p0 = true) (sc : jSc) (mr : (Nat → Nat)) (ar : jSc) (al : jAl) (r9 : Int32) (sc9 : jSc) (mr9 : (Nat → Nat)) (ar9 : jSc) (al9 : jAl), F p0 x1 sc mr ar al = some (r9, sc9, mr9, ar9, al9) → Post (some (.int r9)) sc9 (x_mk mr9 rf) ar9 al9 → gW (gX b) 230 e 0 (j_av [.ref p0, .int x1]) [] sc (x_mk mr rf) ar al Post
def xF_230 (p0 : Nat) (x1 : Int32) (sc : jSc) (mr : (Nat → Nat)) (ar : jSc) (al : jAl) : Option (Int32 × jSc × (Nat → Nat) × jSc × jAl) :=
  (if iB ((15 : Int32) + x1) 50 then some ((ar (p0 + 1) (iN ((15 : Int32) + x1))), sc, mr, ar, al) else none)
set_option maxHeartbeats 4000000 in
theorem xt_230 {b : Bool} {rf : jRf} {d : Nat} : xT_230 b rf xF_230 (d + 1) := by
  intro  Post p0 x1 hp0 sc mr ar al r9 sc9 mr9 ar9 al9 h hP
  unfold xF_230 at h
  refine gl_entry (m := 0) rfl ?_
  show gL (gX b) 230 (d + 1) 0 [some (.ref p0), some (.int x1)] [] sc (x_mk mr rf) ar al Post
  refine gl_aload_n (gX_LK b) y_230_0 rfl rfl ?_
  refine gl_getA (gX_LK b) y_230_1 yf_230_11 (ys_pg hp0) rfl rfl (yr_pg hp0) rfl ?_
  refine gl_bipush (gX_LK b) y_230_4 cb_15 rfl ?_
  refine gl_iload_n (gX_LK b) y_230_6 rfl rfl ?_
  refine gl_iadd (gX_LK b) y_230_7 rfl ?_
  obtain ⟨c1, h⟩ := o_ck h
  refine gl_iaload (gX_LK b) y_230_8 (ys_pgc hp0) c1 rfl rfl ?_
  exact gl_ireturn y_230_9 (Or.inl yt_230) (by cases h; exact hP)
/-- ClickOrders$Page.busyLines()I -/
def xT_232 (b : Bool) (rf : jRf) (F : Nat → jSc → (Nat → Nat) → jSc → jAl → Option (Int32 × jSc × (Nat → Nat) × jSc × jAl)) (e : Nat) : Prop := ∀  (Post : jPo) (p0 : Nat) (hp0 : x_pg p0 = true) (sc : jSc) (mr : (Nat → Nat)) (ar : jSc) (al : jAl) (r9 : Int32) (sc9 : jSc) (mr9 : (Nat → Nat)) (ar9 : jSc) (al9 : jAl), F p0 sc mr ar al = some (r9, sc9, mr9, ar9, al9) → Post (some (.int r9)) sc9 (x_mk mr9 rf) ar9 al9 → gW (gX b) 232 e 0 (j_av [.ref p0]) [] sc (x_mk mr rf) ar al Post
def xF_232_4 : Nat → Nat → Int32 → Int32 → jSc → (Nat → Nat) → jSc → jAl → Option (Int32 × jSc × (Nat → Nat) × jSc × jAl)
  | 0, _, _, _, _, _, _, _ => none
  | nn + 1, p0, x1, x2, sc, mr, ar, al => (if (4 : Int32) ≤ x2 then some (x1, sc, mr, ar, al) else (if iB ((15 : Int32) + x2) 50 then (if (ar (p0 + 1) (iN ((15 : Int32) + x2))) ≤ 0 then xF_232_4 nn p0 x1 (x2 + (1 : Int32)) sc mr ar al else xF_232_4 nn p0 (x1 ||| ((1 : Int32) <<< (x2 &&& 31))) (x2 + (1 : Int32)) sc mr ar al) else none))
set_option maxHeartbeats 4000000 in
theorem xt_232_4 {b : Bool} {rf : jRf} {d : Nat} {Post : jPo} {r9 : Int32} {sc9 : jSc} {mr9 : (Nat → Nat)} {ar9 : jSc} {al9 : jAl} (hP : Post (some (.int r9)) sc9 (x_mk mr9 rf) ar9 al9) : ∀ (nn : Nat) (p0 : Nat) (x1 : Int32) (x2 : Int32) (sc : jSc) (mr : (Nat → Nat)) (ar : jSc) (al : jAl), x_pg p0 = true → xF_232_4 nn p0 x1 x2 sc mr ar al = some (r9, sc9, mr9, ar9, al9) → gL (gX b) 232 (d + 1) 4 [some (.ref p0), some (.int x1), some (.int x2)] [] sc (x_mk mr rf) ar al Post := by
  intro nn
  induction nn with
  | zero =>
    intro p0 x1 x2 sc mr ar al hp0 h
    have h : (none : Option (Int32 × jSc × (Nat → Nat) × jSc × jAl)) = some _ := h
    cases h
  | succ nn ih =>
    intro p0 x1 x2 sc mr ar al hp0 h
    unfold xF_232_4 at h
    refine gl_iload_n (gX_LK b) y_232_4 rfl rfl ?_
    refine gl_iconst (gX_LK b) y_232_5 ci_4 rfl ?_
    refine gl_ic_ge (gX_LK b) y_232_6 rfl rfl (fun c1 => ?_) (fun c1 => ?_)
    · have h := (if_pos c1).symm.trans h
      refine gl_iload_n (gX_LK b) y_232_33 rfl rfl ?_
      exact gl_ireturn y_232_34 (Or.inl yt_232) (by cases h; exact hP)
    · have h := (if_neg c1).symm.trans h
      refine gl_aload_n (gX_LK b) y_232_9 rfl rfl ?_
      refine gl_getA (gX_LK b) y_232_10 yf_232_11 (ys_pg hp0) rfl rfl (yr_pg hp0) rfl ?_
      refine gl_bipush (gX_LK b) y_232_13 cb_15 rfl ?_
      refine gl_iload_n (gX_LK b) y_232_15 rfl rfl ?_
      refine gl_iadd (gX_LK b) y_232_16 rfl ?_
      obtain ⟨c2, h⟩ := o_ck h
      refine gl_iaload (gX_LK b) y_232_17 (ys_pgc hp0) c2 rfl rfl ?_
      refine gl_if_le (gX_LK b) y_232_18 rfl rfl (fun c3 => ?_) (fun c3 => ?_)
      · have h := (if_pos c3).symm.trans h
        refine gl_iinc (vs2 := [some (.ref p0), some (.int x1), some (.int (x2 + (1 : Int32)))]) (gX_LK b) y_232_27 rfl rfl rfl ci_1 rfl rfl ?_
        refine gl_goto (gX_LK b) y_232_30 rfl ?_
        exact gl_weak (vs := [some (.ref p0), some (.int x1), some (.int (x2 + (1 : Int32)))]) ⟨rfl, rfl, rfl, trivial⟩ (ih p0 x1 (x2 + (1 : Int32)) sc mr ar al hp0 h)
      · have h := (if_neg c3).symm.trans h
        refine gl_iload_n (gX_LK b) y_232_21 rfl rfl ?_
        refine gl_iconst (gX_LK b) y_232_22 ci_1 rfl ?_
        refine gl_iload_n (gX_LK b) y_232_23 rfl rfl ?_
        refine gl_ishl (gX_LK b) y_232_24 rfl ?_
        refine gl_ior (gX_LK b) y_232_25 rfl ?_
        refine gl_istore_n (vs2 := [some (.ref p0), some (.int (x1 ||| ((1 : Int32) <<< (x2 &&& 31)))), some (.int x2)]) (gX_LK b) y_232_26 rfl rfl rfl rfl ?_
        refine gl_iinc (vs2 := [some (.ref p0), some (.int (x1 ||| ((1 : Int32) <<< (x2 &&& 31)))), some (.int (x2 + (1 : Int32)))]) (gX_LK b) y_232_27 rfl rfl rfl ci_1 rfl rfl ?_
        refine gl_goto (gX_LK b) y_232_30 rfl ?_
        exact gl_weak (vs := [some (.ref p0), some (.int (x1 ||| ((1 : Int32) <<< (x2 &&& 31)))), some (.int (x2 + (1 : Int32)))]) ⟨rfl, rfl, rfl, trivial⟩ (ih p0 (x1 ||| ((1 : Int32) <<< (x2 &&& 31))) (x2 + (1 : Int32)) sc mr ar al hp0 h)
def xF_232 (p0 : Nat) (sc : jSc) (mr : (Nat → Nat)) (ar : jSc) (al : jAl) : Option (Int32 × jSc × (Nat → Nat) × jSc × jAl) :=
  xF_232_4 oF p0 (0 : Int32) (0 : Int32) sc mr ar al
set_option maxHeartbeats 4000000 in
theorem xt_232 {b : Bool} {rf : jRf} {d : Nat} : xT_232 b rf xF_232 (d + 1) := by
  intro  Post p0 hp0 sc mr ar al r9 sc9 mr9 ar9 al9 h hP
  unfold xF_232 at h
  refine gl_entry (m := 2) rfl ?_
  show gL (gX b) 232 (d + 1) 0 [some (.ref p0), none, none] [] sc (x_mk mr rf) ar al Post
  refine gl_iconst (gX_LK b) y_232_0 ci_0 rfl ?_
  refine gl_istore_n (vs2 := [some (.ref p0), some (.int (0 : Int32)), none]) (gX_LK b) y_232_1 rfl rfl rfl rfl ?_
  refine gl_iconst (gX_LK b) y_232_2 ci_0 rfl ?_
  refine gl_istore_n (vs2 := [some (.ref p0), some (.int (0 : Int32)), some (.int (0 : Int32))]) (gX_LK b) y_232_3 rfl rfl rfl rfl ?_
  exact gl_weak (vs := [some (.ref p0), some (.int (0 : Int32)), some (.int (0 : Int32))]) ⟨rfl, rfl, rfl, trivial⟩ (xt_232_4  hP oF p0 (0 : Int32) (0 : Int32) sc mr ar al hp0 h)
/-- ClickOrders$Page.ticking()I -/
def xT_233 (b : Bool) (rf : jRf) (F : Nat → jSc → (Nat → Nat) → jSc → jAl → Option (Int32 × jSc × (Nat → Nat) × jSc × jAl)) (e : Nat) : Prop := ∀  (Post : jPo) (p0 : Nat) (hp0 : x_pg p0 = true) (sc : jSc) (mr : (Nat → Nat)) (ar : jSc) (al : jAl) (r9 : Int32) (sc9 : jSc) (mr9 : (Nat → Nat)) (ar9 : jSc) (al9 : jAl), F p0 sc mr ar al = some (r9, sc9, mr9, ar9, al9) → Post (some (.int r9)) sc9 (x_mk mr9 rf) ar9 al9 → gW (gX b) 233 e 0 (j_av [.ref p0]) [] sc (x_mk mr rf) ar al Post
def xF_233 (p0 : Nat) (sc : jSc) (mr : (Nat → Nat)) (ar : jSc) (al : jAl) : Option (Int32 × jSc × (Nat → Nat) × jSc × jAl) :=
  some ((ar (p0 + 1) 19), sc, mr, ar, al)
set_option maxHeartbeats 4000000 in
theorem xt_233 {b : Bool} {rf : jRf} {d : Nat} : xT_233 b rf xF_233 (d + 1) := by
  intro  Post p0 hp0 sc mr ar al r9 sc9 mr9 ar9 al9 h hP
  unfold xF_233 at h
  refine gl_entry (m := 0) rfl ?_
  show gL (gX b) 233 (d + 1) 0 [some (.ref p0)] [] sc (x_mk mr rf) ar al Post
  refine gl_aload_n (gX_LK b) y_233_0 rfl rfl ?_
  refine gl_getA (gX_LK b) y_233_1 yf_233_11 (ys_pg hp0) rfl rfl (yr_pg hp0) rfl ?_
  refine gl_bipush (gX_LK b) y_233_4 cb_19 rfl ?_
  refine gl_iaload (gX_LK b) y_233_6 (ys_pgc hp0) (by decide) rfl rfl ?_
  exact gl_ireturn y_233_7 (Or.inl yt_233) (by cases h; exact hP)
/-- ClickOrders$Hand.may(LClickOrders$Page;I)Z -/
def xT_206 (b : Bool) (rf : jRf) (F : Nat → Int32 → jSc → (Nat → Nat) → jSc → jAl → Option (Int32 × jSc × (Nat → Nat) × jSc × jAl)) (e : Nat) : Prop := ∀  (Post : jPo) (p1 : Nat) (x2 : Int32) (hp1 : x_pg p1 = true) (sc : jSc) (mr : (Nat → Nat)) (ar : jSc) (al : jAl) (r9 : Int32) (sc9 : jSc) (mr9 : (Nat → Nat)) (ar9 : jSc) (al9 : jAl), F p1 x2 sc mr ar al = some (r9, sc9, mr9, ar9, al9) → Post (some (.int r9)) sc9 (x_mk mr9 rf) ar9 al9 → gW (gX b) 206 e 0 (j_av [.ref 757, .ref p1, .int x2]) [] sc (x_mk mr rf) ar al Post
def xF_206 (p1 : Nat) (x2 : Int32) (sc : jSc) (mr : (Nat → Nat)) (ar : jSc) (al : jAl) : Option (Int32 × jSc × (Nat → Nat) × jSc × jAl) :=
  (if (8 : Int32) ≤ x2 then (if x2 = (8 : Int32) then (o_b5 (xF_233 p1 sc mr ar al) (fun ve3 sce3 mre3 are3 ale3 => (if ve3 ≤ 0 then some ((0 : Int32), sce3, mre3, are3, ale3) else some ((1 : Int32), sce3, mre3, are3, ale3)))) else (o_b5 (xF_230 p1 (x2 - (9 : Int32)) sc mr ar al) (fun ve5 sce5 mre5 are5 ale5 => (if ve5 ≤ 0 then some ((0 : Int32), sce5, mre5, are5, ale5) else some ((1 : Int32), sce5, mre5, are5, ale5))))) else (if iB x2 8 then (o_b5 (xF_229 p1 sc mr ar al) (fun ve8 sce8 mre8 are8 ale8 => (if ((ve8 >>> (x2 &&& 31)) &&& (1 : Int32)) = 0 then some ((0 : Int32), sce8, mre8, are8, ale8) else (if (ar 741 (iN x2)) = 0 then some ((1 : Int32), sce8, mre8, are8, ale8) else (o_b5 (xF_232 p1 sce8 mre8 are8 ale8) (fun ve11 sce11 mre11 are11 ale11 => (if ((ar 741 (iN x2)) &&& ve11) = 0 then some ((1 : Int32), sce11, mre11, are11, ale11) else some ((0 : Int32), sce11, mre11, are11, ale11)))))))) else none))
set_option maxHeartbeats 4000000 in
theorem xt_206 {b : Bool} {rf : jRf} {d : Nat} : xT_206 b rf xF_206 (d + 2) := by
  intro  Post p1 x2 hp1 sc mr ar al r9 sc9 mr9 ar9 al9 h hP
  unfold xF_206 at h
  refine gl_entry (m := 1) rfl ?_
  show gL (gX b) 206 (d + 2) 0 [some (.ref 757), some (.ref p1), some (.int x2), none] [] sc (x_mk mr rf) ar al Post
  refine gl_iload_n (gX_LK b) y_206_0 rfl rfl ?_
  refine gl_bipush (gX_LK b) y_206_1 cb_8 rfl ?_
  refine gl_ic_ge (gX_LK b) y_206_3 rfl rfl (fun c1 => ?_) (fun c1 => ?_)
  · have h := (if_pos c1).symm.trans h
    refine gl_iload_n (gX_LK b) y_206_46 rfl rfl ?_
    refine gl_bipush (gX_LK b) y_206_47 cb_8 rfl ?_
    refine gl_ic_ne (gX_LK b) y_206_49 rfl rfl (fun c2 => ?_) (fun c2 => ?_)
    · have h := (if_pos c2).symm.trans h
      refine gl_aload_n (gX_LK b) y_206_52 rfl rfl ?_
      obtain ⟨ve3, sce3, mre3, are3, ale3, e3, h⟩ := o_k5 h
      refine gl_callV (gX_LK b) y_206_53 ym_206_59 rfl rfl rfl (ys_pg hp1) yx_233 rfl rfl ((xt_233 )  _ _ hp1 _ _ _ _ _ _ _ _ _ e3 ?_)
      refine gl_if_le (gX_LK b) y_206_56 rfl rfl (fun c4 => ?_) (fun c4 => ?_)
      · have h := (if_pos c4).symm.trans h
        refine gl_iconst (gX_LK b) y_206_63 ci_0 rfl ?_
        exact gl_ireturn y_206_64 (Or.inr ⟨yt_206, Or.inl rfl⟩) (by cases h; exact hP)
      · have h := (if_neg c4).symm.trans h
        refine gl_iconst (gX_LK b) y_206_59 ci_1 rfl ?_
        refine gl_goto (gX_LK b) y_206_60 rfl ?_
        exact gl_ireturn y_206_64 (Or.inr ⟨yt_206, Or.inr rfl⟩) (by cases h; exact hP)
    · have h := (if_neg c2).symm.trans h
      refine gl_aload_n (gX_LK b) y_206_65 rfl rfl ?_
      refine gl_iload_n (gX_LK b) y_206_66 rfl rfl ?_
      refine gl_bipush (gX_LK b) y_206_67 cb_9 rfl ?_
      refine gl_isub (gX_LK b) y_206_69 rfl ?_
      obtain ⟨ve5, sce5, mre5, are5, ale5, e5, h⟩ := o_k5 h
      refine gl_callV (gX_LK b) y_206_70 ym_206_62 rfl rfl rfl (ys_pg hp1) yx_230 rfl rfl ((xt_230 )  _ _ _ hp1 _ _ _ _ _ _ _ _ _ e5 ?_)
      refine gl_if_le (gX_LK b) y_206_73 rfl rfl (fun c6 => ?_) (fun c6 => ?_)
      · have h := (if_pos c6).symm.trans h
        refine gl_iconst (gX_LK b) y_206_80 ci_0 rfl ?_
        exact gl_ireturn y_206_81 (Or.inr ⟨yt_206, Or.inl rfl⟩) (by cases h; exact hP)
      · have h := (if_neg c6).symm.trans h
        refine gl_iconst (gX_LK b) y_206_76 ci_1 rfl ?_
        refine gl_goto (gX_LK b) y_206_77 rfl ?_
        exact gl_ireturn y_206_81 (Or.inr ⟨yt_206, Or.inr rfl⟩) (by cases h; exact hP)
  · have h := (if_neg c1).symm.trans h
    refine gl_aload_n (gX_LK b) y_206_6 rfl rfl ?_
    refine gl_getA (gX_LK b) y_206_7 yf_206_37 ys_757 rfl rfl rfl rfl ?_
    refine gl_getA (gX_LK b) y_206_10 yf_206_45 ys_736 rfl rfl rfl rfl ?_
    refine gl_iload_n (gX_LK b) y_206_13 rfl rfl ?_
    obtain ⟨c7, h⟩ := o_ck h
    refine gl_iaload (gX_LK b) y_206_14 ys_741 c7 rfl rfl ?_
    refine gl_istore_n (vs2 := [some (.ref 757), some (.ref p1), some (.int x2), some (.int (ar 741 (iN x2)))]) (gX_LK b) y_206_15 rfl rfl rfl rfl ?_
    refine gl_aload_n (gX_LK b) y_206_16 rfl rfl ?_
    obtain ⟨ve8, sce8, mre8, are8, ale8, e8, h⟩ := o_k5 h
    refine gl_callV (gX_LK b) y_206_17 ym_206_50 rfl rfl rfl (ys_pg hp1) yx_229 rfl rfl ((xt_229 )  _ _ hp1 _ _ _ _ _ _ _ _ _ e8 ?_)
    refine gl_iload_n (gX_LK b) y_206_20 rfl rfl ?_
    refine gl_ishr (gX_LK b) y_206_21 rfl ?_
    refine gl_iconst (gX_LK b) y_206_22 ci_1 rfl ?_
    refine gl_iand (gX_LK b) y_206_23 rfl ?_
    refine gl_if_eq (gX_LK b) y_206_24 rfl rfl (fun c9 => ?_) (fun c9 => ?_)
    · have h := (if_pos c9).symm.trans h
      refine gl_iconst (gX_LK b) y_206_44 ci_0 rfl ?_
      exact gl_ireturn y_206_45 (Or.inr ⟨yt_206, Or.inl rfl⟩) (by cases h; exact hP)
    · have h := (if_neg c9).symm.trans h
      refine gl_iload_n (gX_LK b) y_206_27 rfl rfl ?_
      refine gl_if_eq (gX_LK b) y_206_28 rfl rfl (fun c10 => ?_) (fun c10 => ?_)
      · have h := (if_pos c10).symm.trans h
        refine gl_iconst (gX_LK b) y_206_40 ci_1 rfl ?_
        refine gl_goto (gX_LK b) y_206_41 rfl ?_
        exact gl_ireturn y_206_45 (Or.inr ⟨yt_206, Or.inr rfl⟩) (by cases h; exact hP)
      · have h := (if_neg c10).symm.trans h
        refine gl_iload_n (gX_LK b) y_206_31 rfl rfl ?_
        refine gl_aload_n (gX_LK b) y_206_32 rfl rfl ?_
        obtain ⟨ve11, sce11, mre11, are11, ale11, e11, h⟩ := o_k5 h
        refine gl_callV (gX_LK b) y_206_33 ym_206_56 rfl rfl rfl (ys_pg hp1) yx_232 rfl rfl ((xt_232 )  _ _ hp1 _ _ _ _ _ _ _ _ _ e11 ?_)
        refine gl_iand (gX_LK b) y_206_36 rfl ?_
        refine gl_if_ne (gX_LK b) y_206_37 rfl rfl (fun c12 => ?_) (fun c12 => ?_)
        · have h := (if_pos c12).symm.trans h
          refine gl_iconst (gX_LK b) y_206_40 ci_1 rfl ?_
          refine gl_goto (gX_LK b) y_206_41 rfl ?_
          exact gl_ireturn y_206_45 (Or.inr ⟨yt_206, Or.inr rfl⟩) (by cases h; exact hP)
        · have h := (if_neg c12).symm.trans h
          refine gl_iconst (gX_LK b) y_206_44 ci_0 rfl ?_
          exact gl_ireturn y_206_45 (Or.inr ⟨yt_206, Or.inl rfl⟩) (by cases h; exact hP)
/-- ClickOrders$Hand.readies(I)V -/
def xT_212 (b : Bool) (rf : jRf) (F : Int32 → jSc → (Nat → Nat) → jSc → jAl → Option (jSc × (Nat → Nat) × jSc × jAl)) (e : Nat) : Prop := ∀  (Post : jPo) (x1 : Int32) (sc : jSc) (mr : (Nat → Nat)) (ar : jSc) (al : jAl) (sc9 : jSc) (mr9 : (Nat → Nat)) (ar9 : jSc) (al9 : jAl), F x1 sc mr ar al = some (sc9, mr9, ar9, al9) → Post none sc9 (x_mk mr9 rf) ar9 al9 → gW (gX b) 212 e 0 (j_av [.ref 757, .int x1]) [] sc (x_mk mr rf) ar al Post
def xF_212 (x1 : Int32) (sc : jSc) (mr : (Nat → Nat)) (ar : jSc) (al : jAl) : Option (jSc × (Nat → Nat) × jSc × jAl) :=
  some ((j_u2 (j_u2 (j_u2 (j_u2 sc 757 3 (0 : Int32)) 757 4 (0 : Int32)) 757 7 (0 : Int32)) 757 8 x1), mr, ar, al)
set_option maxHeartbeats 4000000 in
theorem xt_212 {b : Bool} {rf : jRf} {d : Nat} : xT_212 b rf xF_212 (d + 1) := by
  intro  Post x1 sc mr ar al sc9 mr9 ar9 al9 h hP
  unfold xF_212 at h
  refine gl_entry (m := 0) rfl ?_
  show gL (gX b) 212 (d + 1) 0 [some (.ref 757), some (.int x1)] [] sc (x_mk mr rf) ar al Post
  refine gl_aload_n (gX_LK b) y_212_0 rfl rfl ?_
  refine gl_iconst (gX_LK b) y_212_1 ci_0 rfl ?_
  refine gl_put (sc' := (j_u2 sc 757 3 (0 : Int32))) (gX_LK b) y_212_2 yf_212_15 ys_757 rfl rfl rfl rfl rfl ?_
  refine gl_aload_n (gX_LK b) y_212_5 rfl rfl ?_
  refine gl_iconst (gX_LK b) y_212_6 ci_0 rfl ?_
  refine gl_put (sc' := (j_u2 (j_u2 sc 757 3 (0 : Int32)) 757 4 (0 : Int32))) (gX_LK b) y_212_7 yf_212_19 ys_757 rfl rfl rfl rfl rfl ?_
  refine gl_aload_n (gX_LK b) y_212_10 rfl rfl ?_
  refine gl_iconst (gX_LK b) y_212_11 ci_0 rfl ?_
  refine gl_put (sc' := (j_u2 (j_u2 (j_u2 sc 757 3 (0 : Int32)) 757 4 (0 : Int32)) 757 7 (0 : Int32))) (gX_LK b) y_212_12 yf_212_28 ys_757 rfl rfl rfl rfl rfl ?_
  refine gl_aload_n (gX_LK b) y_212_15 rfl rfl ?_
  refine gl_iload_n (gX_LK b) y_212_16 rfl rfl ?_
  refine gl_put (sc' := (j_u2 (j_u2 (j_u2 (j_u2 sc 757 3 (0 : Int32)) 757 4 (0 : Int32)) 757 7 (0 : Int32)) 757 8 x1)) (gX_LK b) y_212_17 yf_212_31 ys_757 rfl rfl rfl rfl rfl ?_
  exact gl_return y_212_20 yt_212 (by cases h; exact hP)
/-- ClickOrders$Hand.joined(III)I -/
def xT_215 (b : Bool) (rf : jRf) (F : Int32 → Int32 → Int32 → jSc → (Nat → Nat) → jSc → jAl → Option (Int32 × jSc × (Nat → Nat) × jSc × jAl)) (e : Nat) : Prop := ∀  (Post : jPo) (x1 : Int32) (x2 : Int32) (x3 : Int32) (sc : jSc) (mr : (Nat → Nat)) (ar : jSc) (al : jAl) (r9 : Int32) (sc9 : jSc) (mr9 : (Nat → Nat)) (ar9 : jSc) (al9 : jAl), F x1 x2 x3 sc mr ar al = some (r9, sc9, mr9, ar9, al9) → Post (some (.int r9)) sc9 (x_mk mr9 rf) ar9 al9 → gW (gX b) 215 e 0 (j_av [.ref 757, .int x1, .int x2, .int x3]) [] sc (x_mk mr rf) ar al Post
def xF_215 (x1 : Int32) (x2 : Int32) (x3 : Int32) (sc : jSc) (mr : (Nat → Nat)) (ar : jSc) (al : jAl) : Option (Int32 × jSc × (Nat → Nat) × jSc × jAl) :=
  (if x1 = (5 : Int32) then some ((x2 + x3), sc, mr, ar, al) else (if x1 = (6 : Int32) then some ((x2 - x3), sc, mr, ar, al) else (if x1 = (7 : Int32) then some ((x2 * x3), sc, mr, ar, al) else (if x1 = (8 : Int32) then (if x3 = 0 then some ((0 : Int32), sc, mr, ar, al) else (if ¬ x3 = 0 then some ((x2 / x3), sc, mr, ar, al) else none)) else (if x1 = (9 : Int32) then some ((if x3 < x2 then x3 else x2), sc, mr, ar, al) else (if x1 = (10 : Int32) then some ((if x2 < x3 then x3 else x2), sc, mr, ar, al) else (if x1 = (11 : Int32) then (if x3 ≤ x2 then some ((0 : Int32), sc, mr, ar, al) else some ((1 : Int32), sc, mr, ar, al)) else (if x1 = (12 : Int32) then (if x2 ≤ x3 then some ((0 : Int32), sc, mr, ar, al) else some ((1 : Int32), sc, mr, ar, al)) else (if x1 = (13 : Int32) then (if x2 = x3 then some ((1 : Int32), sc, mr, ar, al) else some ((0 : Int32), sc, mr, ar, al)) else (if x1 = (14 : Int32) then some ((x2 &&& x3), sc, mr, ar, al) else some ((x2 ||| x3), sc, mr, ar, al)))))))))))
set_option maxHeartbeats 4000000 in
theorem xt_215 {b : Bool} {rf : jRf} {d : Nat} : xT_215 b rf xF_215 (d + 1) := by
  intro  Post x1 x2 x3 sc mr ar al r9 sc9 mr9 ar9 al9 h hP
  unfold xF_215 at h
  refine gl_entry (m := 0) rfl ?_
  show gL (gX b) 215 (d + 1) 0 [some (.ref 757), some (.int x1), some (.int x2), some (.int x3)] [] sc (x_mk mr rf) ar al Post
  refine gl_iload_n (gX_LK b) y_215_0 rfl rfl ?_
  refine gl_tsw (gX_LK b) y_215_1 rfl rfl (fun c => ?_) (fun j o ho hj => ?_)
  · have h := (if_neg (fun z => c 0 (by decide) (by rw [z]; decide))).symm.trans h
    have h := (if_neg (fun z => c 1 (by decide) (by rw [z]; decide))).symm.trans h
    have h := (if_neg (fun z => c 2 (by decide) (by rw [z]; decide))).symm.trans h
    have h := (if_neg (fun z => c 3 (by decide) (by rw [z]; decide))).symm.trans h
    have h := (if_neg (fun z => c 4 (by decide) (by rw [z]; decide))).symm.trans h
    have h := (if_neg (fun z => c 5 (by decide) (by rw [z]; decide))).symm.trans h
    have h := (if_neg (fun z => c 6 (by decide) (by rw [z]; decide))).symm.trans h
    have h := (if_neg (fun z => c 7 (by decide) (by rw [z]; decide))).symm.trans h
    have h := (if_neg (fun z => c 8 (by decide) (by rw [z]; decide))).symm.trans h
    have h := (if_neg (fun z => c 9 (by decide) (by rw [z]; decide))).symm.trans h
    refine gl_iload_n (gX_LK b) y_215_129 rfl rfl ?_
    refine gl_iload_n (gX_LK b) y_215_130 rfl rfl ?_
    refine gl_ior (gX_LK b) y_215_131 rfl ?_
    exact gl_ireturn y_215_132 (Or.inl yt_215) (by cases h; exact hP)
  · rcases (show j = 0 ∨ j = 1 ∨ j = 2 ∨ j = 3 ∨ j = 4 ∨ j = 5 ∨ j = 6 ∨ j = 7 ∨ j = 8 ∨ j = 9 by have := (Array.getElem?_eq_some_iff.mp ho).1; simp only [List.size_toArray, List.length_cons, List.length_nil] at this; omega) with rfl | rfl | rfl | rfl | rfl | rfl | rfl | rfl | rfl | rfl
    · have hj : x1 = (5 : Int32) := Int32.toInt_inj.mp (hj.trans (by decide))
      cases (show some _ = some _ from ho)
      have h := (if_pos hj).symm.trans h
      refine ⟨56, rfl, ?_⟩
      refine gl_iload_n (gX_LK b) y_215_56 rfl rfl ?_
      refine gl_iload_n (gX_LK b) y_215_57 rfl rfl ?_
      refine gl_iadd (gX_LK b) y_215_58 rfl ?_
      exact gl_ireturn y_215_59 (Or.inl yt_215) (by cases h; exact hP)
    · have hj : x1 = (6 : Int32) := Int32.toInt_inj.mp (hj.trans (by decide))
      cases (show some _ = some _ from ho)
      have h := (if_neg (fun z => absurd (hj.symm.trans z) (by decide))).symm.trans h
      have h := (if_pos hj).symm.trans h
      refine ⟨60, rfl, ?_⟩
      refine gl_iload_n (gX_LK b) y_215_60 rfl rfl ?_
      refine gl_iload_n (gX_LK b) y_215_61 rfl rfl ?_
      refine gl_isub (gX_LK b) y_215_62 rfl ?_
      exact gl_ireturn y_215_63 (Or.inl yt_215) (by cases h; exact hP)
    · have hj : x1 = (7 : Int32) := Int32.toInt_inj.mp (hj.trans (by decide))
      cases (show some _ = some _ from ho)
      have h := (if_neg (fun z => absurd (hj.symm.trans z) (by decide))).symm.trans h
      have h := (if_neg (fun z => absurd (hj.symm.trans z) (by decide))).symm.trans h
      have h := (if_pos hj).symm.trans h
      refine ⟨64, rfl, ?_⟩
      refine gl_iload_n (gX_LK b) y_215_64 rfl rfl ?_
      refine gl_iload_n (gX_LK b) y_215_65 rfl rfl ?_
      refine gl_imul (gX_LK b) y_215_66 rfl ?_
      exact gl_ireturn y_215_67 (Or.inl yt_215) (by cases h; exact hP)
    · have hj : x1 = (8 : Int32) := Int32.toInt_inj.mp (hj.trans (by decide))
      cases (show some _ = some _ from ho)
      have h := (if_neg (fun z => absurd (hj.symm.trans z) (by decide))).symm.trans h
      have h := (if_neg (fun z => absurd (hj.symm.trans z) (by decide))).symm.trans h
      have h := (if_neg (fun z => absurd (hj.symm.trans z) (by decide))).symm.trans h
      have h := (if_pos hj).symm.trans h
      refine ⟨68, rfl, ?_⟩
      refine gl_iload_n (gX_LK b) y_215_68 rfl rfl ?_
      refine gl_if_ne (gX_LK b) y_215_69 rfl rfl (fun c1 => ?_) (fun c1 => ?_)
      · have h := (if_pos c1).symm.trans h
        refine gl_iconst (gX_LK b) y_215_72 ci_0 rfl ?_
        refine gl_goto (gX_LK b) y_215_73 rfl ?_
        exact gl_ireturn y_215_79 (Or.inl yt_215) (by cases h; exact hP)
      · have h := (if_neg c1).symm.trans h
        refine gl_iload_n (gX_LK b) y_215_76 rfl rfl ?_
        refine gl_iload_n (gX_LK b) y_215_77 rfl rfl ?_
        obtain ⟨c2, h⟩ := o_ck h
        refine gl_idiv (gX_LK b) y_215_78 c2 rfl ?_
        exact gl_ireturn y_215_79 (Or.inl yt_215) (by cases h; exact hP)
    · have hj : x1 = (9 : Int32) := Int32.toInt_inj.mp (hj.trans (by decide))
      cases (show some _ = some _ from ho)
      have h := (if_neg (fun z => absurd (hj.symm.trans z) (by decide))).symm.trans h
      have h := (if_neg (fun z => absurd (hj.symm.trans z) (by decide))).symm.trans h
      have h := (if_neg (fun z => absurd (hj.symm.trans z) (by decide))).symm.trans h
      have h := (if_neg (fun z => absurd (hj.symm.trans z) (by decide))).symm.trans h
      have h := (if_pos hj).symm.trans h
      refine ⟨80, rfl, ?_⟩
      refine gl_iload_n (gX_LK b) y_215_80 rfl rfl ?_
      refine gl_iload_n (gX_LK b) y_215_81 rfl rfl ?_
      refine gl_min (gX_LK b) y_215_82 yn_215_146 yz_215_146 rfl rfl ?_
      exact gl_ireturn y_215_85 (Or.inl yt_215) (by cases h; exact hP)
    · have hj : x1 = (10 : Int32) := Int32.toInt_inj.mp (hj.trans (by decide))
      cases (show some _ = some _ from ho)
      have h := (if_neg (fun z => absurd (hj.symm.trans z) (by decide))).symm.trans h
      have h := (if_neg (fun z => absurd (hj.symm.trans z) (by decide))).symm.trans h
      have h := (if_neg (fun z => absurd (hj.symm.trans z) (by decide))).symm.trans h
      have h := (if_neg (fun z => absurd (hj.symm.trans z) (by decide))).symm.trans h
      have h := (if_neg (fun z => absurd (hj.symm.trans z) (by decide))).symm.trans h
      have h := (if_pos hj).symm.trans h
      refine ⟨86, rfl, ?_⟩
      refine gl_iload_n (gX_LK b) y_215_86 rfl rfl ?_
      refine gl_iload_n (gX_LK b) y_215_87 rfl rfl ?_
      refine gl_max (gX_LK b) y_215_88 yn_215_132 yz_215_132 rfl rfl ?_
      exact gl_ireturn y_215_91 (Or.inl yt_215) (by cases h; exact hP)
    · have hj : x1 = (11 : Int32) := Int32.toInt_inj.mp (hj.trans (by decide))
      cases (show some _ = some _ from ho)
      have h := (if_neg (fun z => absurd (hj.symm.trans z) (by decide))).symm.trans h
      have h := (if_neg (fun z => absurd (hj.symm.trans z) (by decide))).symm.trans h
      have h := (if_neg (fun z => absurd (hj.symm.trans z) (by decide))).symm.trans h
      have h := (if_neg (fun z => absurd (hj.symm.trans z) (by decide))).symm.trans h
      have h := (if_neg (fun z => absurd (hj.symm.trans z) (by decide))).symm.trans h
      have h := (if_neg (fun z => absurd (hj.symm.trans z) (by decide))).symm.trans h
      have h := (if_pos hj).symm.trans h
      refine ⟨92, rfl, ?_⟩
      refine gl_iload_n (gX_LK b) y_215_92 rfl rfl ?_
      refine gl_iload_n (gX_LK b) y_215_93 rfl rfl ?_
      refine gl_ic_ge (gX_LK b) y_215_94 rfl rfl (fun c3 => ?_) (fun c3 => ?_)
      · have h := (if_pos c3).symm.trans h
        refine gl_iconst (gX_LK b) y_215_101 ci_0 rfl ?_
        exact gl_ireturn y_215_102 (Or.inl yt_215) (by cases h; exact hP)
      · have h := (if_neg c3).symm.trans h
        refine gl_iconst (gX_LK b) y_215_97 ci_1 rfl ?_
        refine gl_goto (gX_LK b) y_215_98 rfl ?_
        exact gl_ireturn y_215_102 (Or.inl yt_215) (by cases h; exact hP)
    · have hj : x1 = (12 : Int32) := Int32.toInt_inj.mp (hj.trans (by decide))
      cases (show some _ = some _ from ho)
      have h := (if_neg (fun z => absurd (hj.symm.trans z) (by decide))).symm.trans h
      have h := (if_neg (fun z => absurd (hj.symm.trans z) (by decide))).symm.trans h
      have h := (if_neg (fun z => absurd (hj.symm.trans z) (by decide))).symm.trans h
      have h := (if_neg (fun z => absurd (hj.symm.trans z) (by decide))).symm.trans h
      have h := (if_neg (fun z => absurd (hj.symm.trans z) (by decide))).symm.trans h
      have h := (if_neg (fun z => absurd (hj.symm.trans z) (by decide))).symm.trans h
      have h := (if_neg (fun z => absurd (hj.symm.trans z) (by decide))).symm.trans h
      have h := (if_pos hj).symm.trans h
      refine ⟨103, rfl, ?_⟩
      refine gl_iload_n (gX_LK b) y_215_103 rfl rfl ?_
      refine gl_iload_n (gX_LK b) y_215_104 rfl rfl ?_
      refine gl_ic_le (gX_LK b) y_215_105 rfl rfl (fun c4 => ?_) (fun c4 => ?_)
      · have h := (if_pos c4).symm.trans h
        refine gl_iconst (gX_LK b) y_215_112 ci_0 rfl ?_
        exact gl_ireturn y_215_113 (Or.inl yt_215) (by cases h; exact hP)
      · have h := (if_neg c4).symm.trans h
        refine gl_iconst (gX_LK b) y_215_108 ci_1 rfl ?_
        refine gl_goto (gX_LK b) y_215_109 rfl ?_
        exact gl_ireturn y_215_113 (Or.inl yt_215) (by cases h; exact hP)
    · have hj : x1 = (13 : Int32) := Int32.toInt_inj.mp (hj.trans (by decide))
      cases (show some _ = some _ from ho)
      have h := (if_neg (fun z => absurd (hj.symm.trans z) (by decide))).symm.trans h
      have h := (if_neg (fun z => absurd (hj.symm.trans z) (by decide))).symm.trans h
      have h := (if_neg (fun z => absurd (hj.symm.trans z) (by decide))).symm.trans h
      have h := (if_neg (fun z => absurd (hj.symm.trans z) (by decide))).symm.trans h
      have h := (if_neg (fun z => absurd (hj.symm.trans z) (by decide))).symm.trans h
      have h := (if_neg (fun z => absurd (hj.symm.trans z) (by decide))).symm.trans h
      have h := (if_neg (fun z => absurd (hj.symm.trans z) (by decide))).symm.trans h
      have h := (if_neg (fun z => absurd (hj.symm.trans z) (by decide))).symm.trans h
      have h := (if_pos hj).symm.trans h
      refine ⟨114, rfl, ?_⟩
      refine gl_iload_n (gX_LK b) y_215_114 rfl rfl ?_
      refine gl_iload_n (gX_LK b) y_215_115 rfl rfl ?_
      refine gl_ic_ne (gX_LK b) y_215_116 rfl rfl (fun c5 => ?_) (fun c5 => ?_)
      · have h := (if_pos c5).symm.trans h
        refine gl_iconst (gX_LK b) y_215_119 ci_1 rfl ?_
        refine gl_goto (gX_LK b) y_215_120 rfl ?_
        exact gl_ireturn y_215_124 (Or.inl yt_215) (by cases h; exact hP)
      · have h := (if_neg c5).symm.trans h
        refine gl_iconst (gX_LK b) y_215_123 ci_0 rfl ?_
        exact gl_ireturn y_215_124 (Or.inl yt_215) (by cases h; exact hP)
    · have hj : x1 = (14 : Int32) := Int32.toInt_inj.mp (hj.trans (by decide))
      cases (show some _ = some _ from ho)
      have h := (if_neg (fun z => absurd (hj.symm.trans z) (by decide))).symm.trans h
      have h := (if_neg (fun z => absurd (hj.symm.trans z) (by decide))).symm.trans h
      have h := (if_neg (fun z => absurd (hj.symm.trans z) (by decide))).symm.trans h
      have h := (if_neg (fun z => absurd (hj.symm.trans z) (by decide))).symm.trans h
      have h := (if_neg (fun z => absurd (hj.symm.trans z) (by decide))).symm.trans h
      have h := (if_neg (fun z => absurd (hj.symm.trans z) (by decide))).symm.trans h
      have h := (if_neg (fun z => absurd (hj.symm.trans z) (by decide))).symm.trans h
      have h := (if_neg (fun z => absurd (hj.symm.trans z) (by decide))).symm.trans h
      have h := (if_neg (fun z => absurd (hj.symm.trans z) (by decide))).symm.trans h
      have h := (if_pos hj).symm.trans h
      refine ⟨125, rfl, ?_⟩
      refine gl_iload_n (gX_LK b) y_215_125 rfl rfl ?_
      refine gl_iload_n (gX_LK b) y_215_126 rfl rfl ?_
      refine gl_iand (gX_LK b) y_215_127 rfl ?_
      exact gl_ireturn y_215_128 (Or.inl yt_215) (by cases h; exact hP)
/-- ClickOrders$Hand.pops()I -/
def xT_218 (b : Bool) (rf : jRf) (F : jSc → (Nat → Nat) → jSc → jAl → Option (Int32 × jSc × (Nat → Nat) × jSc × jAl)) (e : Nat) : Prop := ∀  (Post : jPo) (sc : jSc) (mr : (Nat → Nat)) (ar : jSc) (al : jAl) (r9 : Int32) (sc9 : jSc) (mr9 : (Nat → Nat)) (ar9 : jSc) (al9 : jAl), F sc mr ar al = some (r9, sc9, mr9, ar9, al9) → Post (some (.int r9)) sc9 (x_mk mr9 rf) ar9 al9 → gW (gX b) 218 e 0 (j_av [.ref 757]) [] sc (x_mk mr rf) ar al Post
def xF_218 (sc : jSc) (mr : (Nat → Nat)) (ar : jSc) (al : jAl) : Option (Int32 × jSc × (Nat → Nat) × jSc × jAl) :=
  (if (sc 757 9) ≤ 0 then some ((0 : Int32), sc, mr, ar, al) else (if (sc 757 9) ≤ (64 : Int32) then (if iB ((sc 757 9) - (1 : Int32)) 64 then some ((ar 758 (iN ((sc 757 9) - (1 : Int32)))), (j_u2 sc 757 9 ((sc 757 9) - (1 : Int32))), mr, ar, al) else none) else some ((0 : Int32), sc, mr, ar, al)))
set_option maxHeartbeats 4000000 in
theorem xt_218 {b : Bool} {rf : jRf} {d : Nat} : xT_218 b rf xF_218 (d + 1) := by
  intro  Post  sc mr ar al r9 sc9 mr9 ar9 al9 h hP
  unfold xF_218 at h
  refine gl_entry (m := 0) rfl ?_
  show gL (gX b) 218 (d + 1) 0 [some (.ref 757)] [] sc (x_mk mr rf) ar al Post
  refine gl_aload_n (gX_LK b) y_218_0 rfl rfl ?_
  refine gl_get (gX_LK b) y_218_1 yf_218_34 ys_757 rfl rfl rfl rfl ?_
  refine gl_if_le (gX_LK b) y_218_4 rfl rfl (fun c1 => ?_) (fun c1 => ?_)
  · have h := (if_pos c1).symm.trans h
    refine gl_iconst (gX_LK b) y_218_16 ci_0 rfl ?_
    exact gl_ireturn y_218_17 (Or.inl yt_218) (by cases h; exact hP)
  · have h := (if_neg c1).symm.trans h
    refine gl_aload_n (gX_LK b) y_218_7 rfl rfl ?_
    refine gl_get (gX_LK b) y_218_8 yf_218_34 ys_757 rfl rfl rfl rfl ?_
    refine gl_bipush (gX_LK b) y_218_11 cb_64 rfl ?_
    refine gl_ic_le (gX_LK b) y_218_13 rfl rfl (fun c2 => ?_) (fun c2 => ?_)
    · have h := (if_pos c2).symm.trans h
      refine gl_aload_n (gX_LK b) y_218_18 rfl rfl ?_
      refine gl_dup (gX_LK b) y_218_19 rfl rfl ?_
      refine gl_get (gX_LK b) y_218_20 yf_218_34 ys_757 rfl rfl rfl rfl ?_
      refine gl_iconst (gX_LK b) y_218_23 ci_1 rfl ?_
      refine gl_isub (gX_LK b) y_218_24 rfl ?_
      refine gl_put (sc' := (j_u2 sc 757 9 ((sc 757 9) - (1 : Int32)))) (gX_LK b) y_218_25 yf_218_34 ys_757 rfl rfl rfl rfl rfl ?_
      refine gl_aload_n (gX_LK b) y_218_28 rfl rfl ?_
      refine gl_getA (gX_LK b) y_218_29 yf_218_11 ys_757 rfl rfl rfl rfl ?_
      refine gl_aload_n (gX_LK b) y_218_32 rfl rfl ?_
      refine gl_get (gX_LK b) y_218_33 yf_218_34 ys_757 rfl rfl rfl rfl ?_
      obtain ⟨c3, h⟩ := o_ck h
      refine gl_iaload (gX_LK b) y_218_36 ys_758 c3 rfl rfl ?_
      exact gl_ireturn y_218_37 (Or.inl yt_218) (by cases h; exact hP)
    · have h := (if_neg c2).symm.trans h
      refine gl_iconst (gX_LK b) y_218_16 ci_0 rfl ?_
      exact gl_ireturn y_218_17 (Or.inl yt_218) (by cases h; exact hP)
/-- ClickOrders$Hand.thinks(LClickOrders$Page;II)V -/
def xT_214 (b : Bool) (rf : jRf) (F : Nat → Int32 → Int32 → jSc → (Nat → Nat) → jSc → jAl → Option (jSc × (Nat → Nat) × jSc × jAl)) (e : Nat) : Prop := ∀  (Post : jPo) (p1 : Nat) (x2 : Int32) (x3 : Int32) (hp1 : x_pg p1 = true) (sc : jSc) (mr : (Nat → Nat)) (ar : jSc) (al : jAl) (sc9 : jSc) (mr9 : (Nat → Nat)) (ar9 : jSc) (al9 : jAl), F p1 x2 x3 sc mr ar al = some (sc9, mr9, ar9, al9) → Post none sc9 (x_mk mr9 rf) ar9 al9 → gW (gX b) 214 e 0 (j_av [.ref 757, .ref p1, .int x2, .int x3]) [] sc (x_mk mr rf) ar al Post
def xF_214_138 (x4 : Int32) (sc : jSc) (mr : (Nat → Nat)) (ar : jSc) (al : jAl) : Option (jSc × (Nat → Nat) × jSc × jAl) :=
  (if (sc 757 9) < 0 then some (sc, mr, ar, al) else (if (64 : Int32) ≤ (sc 757 9) then some (sc, mr, ar, al) else (if iB (sc 757 9) 64 then some ((j_u2 sc 757 9 ((sc 757 9) + (1 : Int32))), mr, (j_u2 ar 758 (iN (sc 757 9)) x4), al) else none)))
set_option maxHeartbeats 4000000 in
theorem xt_214_138 {b : Bool} {rf : jRf} {d : Nat} {Post : jPo} {sc9 : jSc} {mr9 : (Nat → Nat)} {ar9 : jSc} {al9 : jAl} (hP : Post none sc9 (x_mk mr9 rf) ar9 al9) (x4 : Int32) (sc : jSc) (mr : (Nat → Nat)) (ar : jSc) (al : jAl) (h : xF_214_138 x4 sc mr ar al = some (sc9, mr9, ar9, al9)) : gL (gX b) 214 (d + 2) 138 [some (.ref 757), none, none, none, some (.int x4), none] [] sc (x_mk mr rf) ar al Post := by
  unfold xF_214_138 at h
  refine gl_aload_n (gX_LK b) y_214_138 rfl rfl ?_
  refine gl_get (gX_LK b) y_214_139 yf_214_34 ys_757 rfl rfl rfl rfl ?_
  refine gl_if_lt (gX_LK b) y_214_142 rfl rfl (fun c1 => ?_) (fun c1 => ?_)
  · have h := (if_pos c1).symm.trans h
    exact gl_return y_214_175 yt_214 (by cases h; exact hP)
  · have h := (if_neg c1).symm.trans h
    refine gl_aload_n (gX_LK b) y_214_145 rfl rfl ?_
    refine gl_get (gX_LK b) y_214_146 yf_214_34 ys_757 rfl rfl rfl rfl ?_
    refine gl_bipush (gX_LK b) y_214_149 cb_64 rfl ?_
    refine gl_ic_ge (gX_LK b) y_214_151 rfl rfl (fun c2 => ?_) (fun c2 => ?_)
    · have h := (if_pos c2).symm.trans h
      exact gl_return y_214_175 yt_214 (by cases h; exact hP)
    · have h := (if_neg c2).symm.trans h
      refine gl_aload_n (gX_LK b) y_214_154 rfl rfl ?_
      refine gl_getA (gX_LK b) y_214_155 yf_214_11 ys_757 rfl rfl rfl rfl ?_
      refine gl_aload_n (gX_LK b) y_214_158 rfl rfl ?_
      refine gl_get (gX_LK b) y_214_159 yf_214_34 ys_757 rfl rfl rfl rfl ?_
      refine gl_iload (gX_LK b) y_214_162 rfl rfl ?_
      obtain ⟨c3, h⟩ := o_ck h
      refine gl_iastore (ar2 := (j_u2 ar 758 (iN (sc 757 9)) x4)) (gX_LK b) y_214_164 ys_758 c3 rfl rfl ?_
      refine gl_aload_n (gX_LK b) y_214_165 rfl rfl ?_
      refine gl_dup (gX_LK b) y_214_166 rfl rfl ?_
      refine gl_get (gX_LK b) y_214_167 yf_214_34 ys_757 rfl rfl rfl rfl ?_
      refine gl_iconst (gX_LK b) y_214_170 ci_1 rfl ?_
      refine gl_iadd (gX_LK b) y_214_171 rfl ?_
      refine gl_put (sc' := (j_u2 sc 757 9 ((sc 757 9) + (1 : Int32)))) (gX_LK b) y_214_172 yf_214_34 ys_757 rfl rfl rfl rfl rfl ?_
      exact gl_return y_214_175 yt_214 (by cases h; exact hP)
def xF_214 (p1 : Nat) (x2 : Int32) (x3 : Int32) (sc : jSc) (mr : (Nat → Nat)) (ar : jSc) (al : jAl) : Option (jSc × (Nat → Nat) × jSc × jAl) :=
  (if x2 = 0 then xF_214_138 x3 sc mr ar al else (if x2 = (1 : Int32) then (if iB x3 50 then xF_214_138 (ar (p1 + 1) (iN x3)) (j_u2 sc 757 3 ((sc 757 3) ||| ((1 : Int32) <<< (x3 &&& 31)))) mr ar al else none) else (if x2 = (2 : Int32) then xF_214_138 (sc 757 7) sc mr ar al else (if x2 = (3 : Int32) then (if iB ((10 : Int32) + x3) 50 then xF_214_138 (ar (p1 + 1) (iN ((10 : Int32) + x3))) (j_u2 (j_u2 sc 757 3 ((sc 757 3) ||| ((1 : Int32) <<< (((16 : Int32) + x3) &&& 31)))) 757 5 ((sc 757 5) &&& (((1 : Int32) <<< (x3 &&& 31)) ^^^ (-1 : Int32)))) mr ar al else none) else (if x2 = (4 : Int32) then (o_b5 (xF_218 sc mr ar al) (fun ve11 sce11 mre11 are11 ale11 => xF_214_138 ((1 : Int32) - ve11) sce11 mre11 are11 ale11)) else (o_b5 (xF_218 sc mr ar al) (fun ve12 sce12 mre12 are12 ale12 => (o_b5 (xF_218 sce12 mre12 are12 ale12) (fun ve13 sce13 mre13 are13 ale13 => (o_b5 (xF_215 x2 ve13 ve12 sce13 mre13 are13 ale13) (fun ve14 sce14 mre14 are14 ale14 => xF_214_138 ve14 sce14 mre14 are14 ale14)))))))))))
set_option maxHeartbeats 4000000 in
theorem xt_214 {b : Bool} {rf : jRf} {d : Nat} : xT_214 b rf xF_214 (d + 2) := by
  intro  Post p1 x2 x3 hp1 sc mr ar al sc9 mr9 ar9 al9 h hP
  unfold xF_214 at h
  refine gl_entry (m := 2) rfl ?_
  show gL (gX b) 214 (d + 2) 0 [some (.ref 757), some (.ref p1), some (.int x2), some (.int x3), none, none] [] sc (x_mk mr rf) ar al Post
  refine gl_iconst (gX_LK b) y_214_0 ci_0 rfl ?_
  refine gl_istore (vs2 := [some (.ref 757), some (.ref p1), some (.int x2), some (.int x3), some (.int (0 : Int32)), none]) (gX_LK b) y_214_1 rfl rfl rfl rfl ?_
  refine gl_iload_n (gX_LK b) y_214_3 rfl rfl ?_
  refine gl_if_ne (gX_LK b) y_214_4 rfl rfl (fun c4 => ?_) (fun c4 => ?_)
  · have h := (if_pos c4).symm.trans h
    refine gl_iload_n (gX_LK b) y_214_7 rfl rfl ?_
    refine gl_istore (vs2 := [some (.ref 757), some (.ref p1), some (.int x2), some (.int x3), some (.int x3), none]) (gX_LK b) y_214_8 rfl rfl rfl rfl ?_
    refine gl_goto (gX_LK b) y_214_10 rfl ?_
    exact gl_weak (vs := [some (.ref 757), none, none, none, some (.int x3), none]) ⟨rfl, rfl, trivial⟩ (xt_214_138  hP x3 sc mr ar al h)
  · have h := (if_neg c4).symm.trans h
    refine gl_iload_n (gX_LK b) y_214_13 rfl rfl ?_
    refine gl_iconst (gX_LK b) y_214_14 ci_1 rfl ?_
    refine gl_ic_ne (gX_LK b) y_214_15 rfl rfl (fun c5 => ?_) (fun c5 => ?_)
    · have h := (if_pos c5).symm.trans h
      refine gl_aload_n (gX_LK b) y_214_18 rfl rfl ?_
      refine gl_dup (gX_LK b) y_214_19 rfl rfl ?_
      refine gl_get (gX_LK b) y_214_20 yf_214_15 ys_757 rfl rfl rfl rfl ?_
      refine gl_iconst (gX_LK b) y_214_23 ci_1 rfl ?_
      refine gl_iload_n (gX_LK b) y_214_24 rfl rfl ?_
      refine gl_ishl (gX_LK b) y_214_25 rfl ?_
      refine gl_ior (gX_LK b) y_214_26 rfl ?_
      refine gl_put (sc' := (j_u2 sc 757 3 ((sc 757 3) ||| ((1 : Int32) <<< (x3 &&& 31))))) (gX_LK b) y_214_27 yf_214_15 ys_757 rfl rfl rfl rfl rfl ?_
      refine gl_aload_n (gX_LK b) y_214_30 rfl rfl ?_
      refine gl_getA (gX_LK b) y_214_31 yf_214_97 (ys_pg hp1) rfl rfl (yr_pg hp1) rfl ?_
      refine gl_iload_n (gX_LK b) y_214_34 rfl rfl ?_
      obtain ⟨c6, h⟩ := o_ck h
      refine gl_iaload (gX_LK b) y_214_35 (ys_pgc hp1) c6 rfl rfl ?_
      refine gl_istore (vs2 := [some (.ref 757), some (.ref p1), some (.int x2), some (.int x3), some (.int (ar (p1 + 1) (iN x3))), none]) (gX_LK b) y_214_36 rfl rfl rfl rfl ?_
      refine gl_goto (gX_LK b) y_214_38 rfl ?_
      exact gl_weak (vs := [some (.ref 757), none, none, none, some (.int (ar (p1 + 1) (iN x3))), none]) ⟨rfl, rfl, trivial⟩ (xt_214_138  hP (ar (p1 + 1) (iN x3)) (j_u2 sc 757 3 ((sc 757 3) ||| ((1 : Int32) <<< (x3 &&& 31)))) mr ar al h)
    · have h := (if_neg c5).symm.trans h
      refine gl_iload_n (gX_LK b) y_214_41 rfl rfl ?_
      refine gl_iconst (gX_LK b) y_214_42 ci_2 rfl ?_
      refine gl_ic_ne (gX_LK b) y_214_43 rfl rfl (fun c7 => ?_) (fun c7 => ?_)
      · have h := (if_pos c7).symm.trans h
        refine gl_aload_n (gX_LK b) y_214_46 rfl rfl ?_
        refine gl_get (gX_LK b) y_214_47 yf_214_28 ys_757 rfl rfl rfl rfl ?_
        refine gl_istore (vs2 := [some (.ref 757), some (.ref p1), some (.int x2), some (.int x3), some (.int (sc 757 7)), none]) (gX_LK b) y_214_50 rfl rfl rfl rfl ?_
        refine gl_goto (gX_LK b) y_214_52 rfl ?_
        exact gl_weak (vs := [some (.ref 757), none, none, none, some (.int (sc 757 7)), none]) ⟨rfl, rfl, trivial⟩ (xt_214_138  hP (sc 757 7) sc mr ar al h)
      · have h := (if_neg c7).symm.trans h
        refine gl_iload_n (gX_LK b) y_214_55 rfl rfl ?_
        refine gl_iconst (gX_LK b) y_214_56 ci_3 rfl ?_
        refine gl_ic_ne (gX_LK b) y_214_57 rfl rfl (fun c8 => ?_) (fun c8 => ?_)
        · have h := (if_pos c8).symm.trans h
          refine gl_aload_n (gX_LK b) y_214_60 rfl rfl ?_
          refine gl_dup (gX_LK b) y_214_61 rfl rfl ?_
          refine gl_get (gX_LK b) y_214_62 yf_214_15 ys_757 rfl rfl rfl rfl ?_
          refine gl_iconst (gX_LK b) y_214_65 ci_1 rfl ?_
          refine gl_bipush (gX_LK b) y_214_66 cb_16 rfl ?_
          refine gl_iload_n (gX_LK b) y_214_68 rfl rfl ?_
          refine gl_iadd (gX_LK b) y_214_69 rfl ?_
          refine gl_ishl (gX_LK b) y_214_70 rfl ?_
          refine gl_ior (gX_LK b) y_214_71 rfl ?_
          refine gl_put (sc' := (j_u2 sc 757 3 ((sc 757 3) ||| ((1 : Int32) <<< (((16 : Int32) + x3) &&& 31))))) (gX_LK b) y_214_72 yf_214_15 ys_757 rfl rfl rfl rfl rfl ?_
          refine gl_aload_n (gX_LK b) y_214_75 rfl rfl ?_
          refine gl_dup (gX_LK b) y_214_76 rfl rfl ?_
          refine gl_get (gX_LK b) y_214_77 yf_214_22 ys_757 rfl rfl rfl rfl ?_
          refine gl_iconst (gX_LK b) y_214_80 ci_1 rfl ?_
          refine gl_iload_n (gX_LK b) y_214_81 rfl rfl ?_
          refine gl_ishl (gX_LK b) y_214_82 rfl ?_
          refine gl_iconst (gX_LK b) y_214_83 ci_m1 rfl ?_
          refine gl_ixor (gX_LK b) y_214_84 rfl ?_
          refine gl_iand (gX_LK b) y_214_85 rfl ?_
          refine gl_put (sc' := (j_u2 (j_u2 sc 757 3 ((sc 757 3) ||| ((1 : Int32) <<< (((16 : Int32) + x3) &&& 31)))) 757 5 ((sc 757 5) &&& (((1 : Int32) <<< (x3 &&& 31)) ^^^ (-1 : Int32))))) (gX_LK b) y_214_86 yf_214_22 ys_757 rfl rfl rfl rfl rfl ?_
          refine gl_aload_n (gX_LK b) y_214_89 rfl rfl ?_
          refine gl_getA (gX_LK b) y_214_90 yf_214_97 (ys_pg hp1) rfl rfl (yr_pg hp1) rfl ?_
          refine gl_bipush (gX_LK b) y_214_93 cb_10 rfl ?_
          refine gl_iload_n (gX_LK b) y_214_95 rfl rfl ?_
          refine gl_iadd (gX_LK b) y_214_96 rfl ?_
          obtain ⟨c9, h⟩ := o_ck h
          refine gl_iaload (gX_LK b) y_214_97 (ys_pgc hp1) c9 rfl rfl ?_
          refine gl_istore (vs2 := [some (.ref 757), some (.ref p1), some (.int x2), some (.int x3), some (.int (ar (p1 + 1) (iN ((10 : Int32) + x3)))), none]) (gX_LK b) y_214_98 rfl rfl rfl rfl ?_
          refine gl_goto (gX_LK b) y_214_100 rfl ?_
          exact gl_weak (vs := [some (.ref 757), none, none, none, some (.int (ar (p1 + 1) (iN ((10 : Int32) + x3)))), none]) ⟨rfl, rfl, trivial⟩ (xt_214_138  hP (ar (p1 + 1) (iN ((10 : Int32) + x3))) (j_u2 (j_u2 sc 757 3 ((sc 757 3) ||| ((1 : Int32) <<< (((16 : Int32) + x3) &&& 31)))) 757 5 ((sc 757 5) &&& (((1 : Int32) <<< (x3 &&& 31)) ^^^ (-1 : Int32)))) mr ar al h)
        · have h := (if_neg c8).symm.trans h
          refine gl_iload_n (gX_LK b) y_214_103 rfl rfl ?_
          refine gl_iconst (gX_LK b) y_214_104 ci_4 rfl ?_
          refine gl_ic_ne (gX_LK b) y_214_105 rfl rfl (fun c10 => ?_) (fun c10 => ?_)
          · have h := (if_pos c10).symm.trans h
            refine gl_iconst (gX_LK b) y_214_108 ci_1 rfl ?_
            refine gl_aload_n (gX_LK b) y_214_109 rfl rfl ?_
            obtain ⟨ve11, sce11, mre11, are11, ale11, e11, h⟩ := o_k5 h
            refine gl_callV (gX_LK b) y_214_110 ym_214_129 rfl rfl rfl ys_757 yx_218 rfl rfl ((xt_218 )  _  _ _ _ _ _ _ _ _ _ e11 ?_)
            refine gl_isub (gX_LK b) y_214_113 rfl ?_
            refine gl_istore (vs2 := [some (.ref 757), some (.ref p1), some (.int x2), some (.int x3), some (.int ((1 : Int32) - ve11)), none]) (gX_LK b) y_214_114 rfl rfl rfl rfl ?_
            refine gl_goto (gX_LK b) y_214_116 rfl ?_
            exact gl_weak (vs := [some (.ref 757), none, none, none, some (.int ((1 : Int32) - ve11)), none]) ⟨rfl, rfl, trivial⟩ (xt_214_138  hP ((1 : Int32) - ve11) sce11 mre11 are11 ale11 h)
          · have h := (if_neg c10).symm.trans h
            refine gl_aload_n (gX_LK b) y_214_119 rfl rfl ?_
            obtain ⟨ve12, sce12, mre12, are12, ale12, e12, h⟩ := o_k5 h
            refine gl_callV (gX_LK b) y_214_120 ym_214_129 rfl rfl rfl ys_757 yx_218 rfl rfl ((xt_218 )  _  _ _ _ _ _ _ _ _ _ e12 ?_)
            refine gl_istore (vs2 := [some (.ref 757), some (.ref p1), some (.int x2), some (.int x3), some (.int (0 : Int32)), some (.int ve12)]) (gX_LK b) y_214_123 rfl rfl rfl rfl ?_
            refine gl_aload_n (gX_LK b) y_214_125 rfl rfl ?_
            refine gl_iload_n (gX_LK b) y_214_126 rfl rfl ?_
            refine gl_aload_n (gX_LK b) y_214_127 rfl rfl ?_
            obtain ⟨ve13, sce13, mre13, are13, ale13, e13, h⟩ := o_k5 h
            refine gl_callV (gX_LK b) y_214_128 ym_214_129 rfl rfl rfl ys_757 yx_218 rfl rfl ((xt_218 )  _  _ _ _ _ _ _ _ _ _ e13 ?_)
            refine gl_iload (gX_LK b) y_214_131 rfl rfl ?_
            obtain ⟨ve14, sce14, mre14, are14, ale14, e14, h⟩ := o_k5 h
            refine gl_callV (gX_LK b) y_214_133 ym_214_142 rfl rfl rfl ys_757 yx_215 rfl rfl ((xt_215 )  _ _ _ _ _ _ _ _ _ _ _ _ _ e14 ?_)
            refine gl_istore (vs2 := [some (.ref 757), some (.ref p1), some (.int x2), some (.int x3), some (.int ve14), some (.int ve12)]) (gX_LK b) y_214_136 rfl rfl rfl rfl ?_
            exact gl_weak (vs := [some (.ref 757), none, none, none, some (.int ve14), none]) ⟨rfl, rfl, trivial⟩ (xt_214_138  hP ve14 sce14 mre14 are14 ale14 h)
/-- ClickOrders$Hand.shades(LClickOrders$Page;II)V -/
def xT_217 (b : Bool) (rf : jRf) (F : Nat → Int32 → Int32 → jSc → (Nat → Nat) → jSc → jAl → Option (jSc × (Nat → Nat) × jSc × jAl)) (e : Nat) : Prop := ∀  (Post : jPo) (p1 : Nat) (x2 : Int32) (x3 : Int32) (hp1 : x_pg p1 = true) (sc : jSc) (mr : (Nat → Nat)) (ar : jSc) (al : jAl) (sc9 : jSc) (mr9 : (Nat → Nat)) (ar9 : jSc) (al9 : jAl), F p1 x2 x3 sc mr ar al = some (sc9, mr9, ar9, al9) → Post none sc9 (x_mk mr9 rf) ar9 al9 → gW (gX b) 217 e 0 (j_av [.ref 757, .ref p1, .int x2, .int x3]) [] sc (x_mk mr rf) ar al Post
def xF_217 (p1 : Nat) (x2 : Int32) (x3 : Int32) (sc : jSc) (mr : (Nat → Nat)) (ar : jSc) (al : jAl) : Option (jSc × (Nat → Nat) × jSc × jAl) :=
  (if x2 = (19 : Int32) then some ((j_u2 sc 757 4 ((sc 757 4) ||| (((1 : Int32) <<< (x3 &&& 31)) <<< ((8 : Int32) &&& 31)))), mr, (j_u2 ar (p1 + 1) 8 ((ar (p1 + 1) 8) ||| ((1 : Int32) <<< (x3 &&& 31)))), al) else (if x2 = (20 : Int32) then some ((j_u2 sc 757 4 ((sc 757 4) ||| (((1 : Int32) <<< (x3 &&& 31)) <<< ((8 : Int32) &&& 31)))), mr, (j_u2 ar (p1 + 1) 8 ((ar (p1 + 1) 8) &&& (((1 : Int32) <<< (x3 &&& 31)) ^^^ (-1 : Int32)))), al) else (if x2 = (21 : Int32) then some ((j_u2 sc 757 4 ((sc 757 4) ||| (((1 : Int32) <<< (x3 &&& 31)) <<< ((8 : Int32) &&& 31)))), mr, (j_u2 ar (p1 + 1) 9 ((ar (p1 + 1) 9) ||| ((1 : Int32) <<< (x3 &&& 31)))), al) else some ((j_u2 sc 757 4 ((sc 757 4) ||| (((1 : Int32) <<< (x3 &&& 31)) <<< ((8 : Int32) &&& 31)))), mr, (j_u2 ar (p1 + 1) 9 ((ar (p1 + 1) 9) &&& (((1 : Int32) <<< (x3 &&& 31)) ^^^ (-1 : Int32)))), al))))
set_option maxHeartbeats 4000000 in
theorem xt_217 {b : Bool} {rf : jRf} {d : Nat} : xT_217 b rf xF_217 (d + 1) := by
  intro  Post p1 x2 x3 hp1 sc mr ar al sc9 mr9 ar9 al9 h hP
  unfold xF_217 at h
  refine gl_entry (m := 1) rfl ?_
  show gL (gX b) 217 (d + 1) 0 [some (.ref 757), some (.ref p1), some (.int x2), some (.int x3), none] [] sc (x_mk mr rf) ar al Post
  refine gl_iconst (gX_LK b) y_217_0 ci_1 rfl ?_
  refine gl_iload_n (gX_LK b) y_217_1 rfl rfl ?_
  refine gl_ishl (gX_LK b) y_217_2 rfl ?_
  refine gl_istore (vs2 := [some (.ref 757), some (.ref p1), some (.int x2), some (.int x3), some (.int ((1 : Int32) <<< (x3 &&& 31)))]) (gX_LK b) y_217_3 rfl rfl rfl rfl ?_
  refine gl_aload_n (gX_LK b) y_217_5 rfl rfl ?_
  refine gl_dup (gX_LK b) y_217_6 rfl rfl ?_
  refine gl_get (gX_LK b) y_217_7 yf_217_19 ys_757 rfl rfl rfl rfl ?_
  refine gl_iload (gX_LK b) y_217_10 rfl rfl ?_
  refine gl_bipush (gX_LK b) y_217_12 cb_8 rfl ?_
  refine gl_ishl (gX_LK b) y_217_14 rfl ?_
  refine gl_ior (gX_LK b) y_217_15 rfl ?_
  refine gl_put (sc' := (j_u2 sc 757 4 ((sc 757 4) ||| (((1 : Int32) <<< (x3 &&& 31)) <<< ((8 : Int32) &&& 31))))) (gX_LK b) y_217_16 yf_217_19 ys_757 rfl rfl rfl rfl rfl ?_
  refine gl_iload_n (gX_LK b) y_217_19 rfl rfl ?_
  refine gl_bipush (gX_LK b) y_217_20 cb_19 rfl ?_
  refine gl_ic_ne (gX_LK b) y_217_22 rfl rfl (fun c1 => ?_) (fun c1 => ?_)
  · have h := (if_pos c1).symm.trans h
    refine gl_aload_n (gX_LK b) y_217_25 rfl rfl ?_
    refine gl_getA (gX_LK b) y_217_26 yf_217_97 (ys_pg hp1) rfl rfl (yr_pg hp1) rfl ?_
    refine gl_bipush (gX_LK b) y_217_29 cb_8 rfl ?_
    refine gl_dup2 (gX_LK b) y_217_31 rfl rfl rfl ?_
    refine gl_iaload (gX_LK b) y_217_32 (ys_pgc hp1) (by decide) rfl rfl ?_
    refine gl_iload (gX_LK b) y_217_33 rfl rfl ?_
    refine gl_ior (gX_LK b) y_217_35 rfl ?_
    refine gl_iastore (ar2 := (j_u2 ar (p1 + 1) 8 ((ar (p1 + 1) 8) ||| ((1 : Int32) <<< (x3 &&& 31))))) (gX_LK b) y_217_36 (ys_pgc hp1) (by decide) rfl rfl ?_
    refine gl_goto (gX_LK b) y_217_37 rfl ?_
    exact gl_return y_217_98 yt_217 (by cases h; exact hP)
  · have h := (if_neg c1).symm.trans h
    refine gl_iload_n (gX_LK b) y_217_40 rfl rfl ?_
    refine gl_bipush (gX_LK b) y_217_41 cb_20 rfl ?_
    refine gl_ic_ne (gX_LK b) y_217_43 rfl rfl (fun c2 => ?_) (fun c2 => ?_)
    · have h := (if_pos c2).symm.trans h
      refine gl_aload_n (gX_LK b) y_217_46 rfl rfl ?_
      refine gl_getA (gX_LK b) y_217_47 yf_217_97 (ys_pg hp1) rfl rfl (yr_pg hp1) rfl ?_
      refine gl_bipush (gX_LK b) y_217_50 cb_8 rfl ?_
      refine gl_dup2 (gX_LK b) y_217_52 rfl rfl rfl ?_
      refine gl_iaload (gX_LK b) y_217_53 (ys_pgc hp1) (by decide) rfl rfl ?_
      refine gl_iload (gX_LK b) y_217_54 rfl rfl ?_
      refine gl_iconst (gX_LK b) y_217_56 ci_m1 rfl ?_
      refine gl_ixor (gX_LK b) y_217_57 rfl ?_
      refine gl_iand (gX_LK b) y_217_58 rfl ?_
      refine gl_iastore (ar2 := (j_u2 ar (p1 + 1) 8 ((ar (p1 + 1) 8) &&& (((1 : Int32) <<< (x3 &&& 31)) ^^^ (-1 : Int32))))) (gX_LK b) y_217_59 (ys_pgc hp1) (by decide) rfl rfl ?_
      refine gl_goto (gX_LK b) y_217_60 rfl ?_
      exact gl_return y_217_98 yt_217 (by cases h; exact hP)
    · have h := (if_neg c2).symm.trans h
      refine gl_iload_n (gX_LK b) y_217_63 rfl rfl ?_
      refine gl_bipush (gX_LK b) y_217_64 cb_21 rfl ?_
      refine gl_ic_ne (gX_LK b) y_217_66 rfl rfl (fun c3 => ?_) (fun c3 => ?_)
      · have h := (if_pos c3).symm.trans h
        refine gl_aload_n (gX_LK b) y_217_69 rfl rfl ?_
        refine gl_getA (gX_LK b) y_217_70 yf_217_97 (ys_pg hp1) rfl rfl (yr_pg hp1) rfl ?_
        refine gl_bipush (gX_LK b) y_217_73 cb_9 rfl ?_
        refine gl_dup2 (gX_LK b) y_217_75 rfl rfl rfl ?_
        refine gl_iaload (gX_LK b) y_217_76 (ys_pgc hp1) (by decide) rfl rfl ?_
        refine gl_iload (gX_LK b) y_217_77 rfl rfl ?_
        refine gl_ior (gX_LK b) y_217_79 rfl ?_
        refine gl_iastore (ar2 := (j_u2 ar (p1 + 1) 9 ((ar (p1 + 1) 9) ||| ((1 : Int32) <<< (x3 &&& 31))))) (gX_LK b) y_217_80 (ys_pgc hp1) (by decide) rfl rfl ?_
        refine gl_goto (gX_LK b) y_217_81 rfl ?_
        exact gl_return y_217_98 yt_217 (by cases h; exact hP)
      · have h := (if_neg c3).symm.trans h
        refine gl_aload_n (gX_LK b) y_217_84 rfl rfl ?_
        refine gl_getA (gX_LK b) y_217_85 yf_217_97 (ys_pg hp1) rfl rfl (yr_pg hp1) rfl ?_
        refine gl_bipush (gX_LK b) y_217_88 cb_9 rfl ?_
        refine gl_dup2 (gX_LK b) y_217_90 rfl rfl rfl ?_
        refine gl_iaload (gX_LK b) y_217_91 (ys_pgc hp1) (by decide) rfl rfl ?_
        refine gl_iload (gX_LK b) y_217_92 rfl rfl ?_
        refine gl_iconst (gX_LK b) y_217_94 ci_m1 rfl ?_
        refine gl_ixor (gX_LK b) y_217_95 rfl ?_
        refine gl_iand (gX_LK b) y_217_96 rfl ?_
        refine gl_iastore (ar2 := (j_u2 ar (p1 + 1) 9 ((ar (p1 + 1) 9) &&& (((1 : Int32) <<< (x3 &&& 31)) ^^^ (-1 : Int32))))) (gX_LK b) y_217_97 (ys_pgc hp1) (by decide) rfl rfl ?_
        exact gl_return y_217_98 yt_217 (by cases h; exact hP)
/-- ClickOrders$Page.takesAnswer(III)Z -/
def xT_235 (b : Bool) (rf : jRf) (F : Nat → Int32 → Int32 → Int32 → jSc → (Nat → Nat) → jSc → jAl → Option (Int32 × jSc × (Nat → Nat) × jSc × jAl)) (e : Nat) : Prop := ∀  (Post : jPo) (p0 : Nat) (x1 : Int32) (x2 : Int32) (x3 : Int32) (hp0 : x_pg p0 = true) (sc : jSc) (mr : (Nat → Nat)) (ar : jSc) (al : jAl) (r9 : Int32) (sc9 : jSc) (mr9 : (Nat → Nat)) (ar9 : jSc) (al9 : jAl), F p0 x1 x2 x3 sc mr ar al = some (r9, sc9, mr9, ar9, al9) → Post (some (.int r9)) sc9 (x_mk mr9 rf) ar9 al9 → gW (gX b) 235 e 0 (j_av [.ref p0, .int x1, .int x2, .int x3]) [] sc (x_mk mr rf) ar al Post
def xF_235 (p0 : Nat) (x1 : Int32) (x2 : Int32) (x3 : Int32) (sc : jSc) (mr : (Nat → Nat)) (ar : jSc) (al : jAl) : Option (Int32 × jSc × (Nat → Nat) × jSc × jAl) :=
  (if iB ((15 : Int32) + x1) 50 then (if (ar (p0 + 1) (iN ((15 : Int32) + x1))) < 0 then some ((0 : Int32), sc, mr, ar, al) else (if (ar (p0 + 1) (iN ((15 : Int32) + x1))) < (3 : Int32) then (if iB ((20 : Int32) + ((x1 * (3 : Int32)) + (ar (p0 + 1) (iN ((15 : Int32) + x1))))) 50 then (if iB ((35 : Int32) + ((x1 * (3 : Int32)) + (ar (p0 + 1) (iN ((15 : Int32) + x1))))) 50 then (if iB ((15 : Int32) + x1) 50 then some ((1 : Int32), sc, mr, (j_u2 (j_u2 (j_u2 ar (p0 + 1) (iN ((20 : Int32) + ((x1 * (3 : Int32)) + (ar (p0 + 1) (iN ((15 : Int32) + x1)))))) x2) (p0 + 1) (iN ((35 : Int32) + ((x1 * (3 : Int32)) + (ar (p0 + 1) (iN ((15 : Int32) + x1)))))) x3) (p0 + 1) (iN ((15 : Int32) + x1)) ((ar (p0 + 1) (iN ((15 : Int32) + x1))) + (1 : Int32))), al) else none) else none) else none) else some ((0 : Int32), sc, mr, ar, al))) else none)
set_option maxHeartbeats 4000000 in
theorem xt_235 {b : Bool} {rf : jRf} {d : Nat} : xT_235 b rf xF_235 (d + 1) := by
  intro  Post p0 x1 x2 x3 hp0 sc mr ar al r9 sc9 mr9 ar9 al9 h hP
  unfold xF_235 at h
  refine gl_entry (m := 2) rfl ?_
  show gL (gX b) 235 (d + 1) 0 [some (.ref p0), some (.int x1), some (.int x2), some (.int x3), none, none] [] sc (x_mk mr rf) ar al Post
  refine gl_aload_n (gX_LK b) y_235_0 rfl rfl ?_
  refine gl_getA (gX_LK b) y_235_1 yf_235_11 (ys_pg hp0) rfl rfl (yr_pg hp0) rfl ?_
  refine gl_bipush (gX_LK b) y_235_4 cb_15 rfl ?_
  refine gl_iload_n (gX_LK b) y_235_6 rfl rfl ?_
  refine gl_iadd (gX_LK b) y_235_7 rfl ?_
  obtain ⟨c1, h⟩ := o_ck h
  refine gl_iaload (gX_LK b) y_235_8 (ys_pgc hp0) c1 rfl rfl ?_
  refine gl_istore (vs2 := [some (.ref p0), some (.int x1), some (.int x2), some (.int x3), some (.int (ar (p0 + 1) (iN ((15 : Int32) + x1)))), none]) (gX_LK b) y_235_9 rfl rfl rfl rfl ?_
  refine gl_iload (gX_LK b) y_235_11 rfl rfl ?_
  refine gl_if_lt (gX_LK b) y_235_13 rfl rfl (fun c2 => ?_) (fun c2 => ?_)
  · have h := (if_pos c2).symm.trans h
    refine gl_iconst (gX_LK b) y_235_22 ci_0 rfl ?_
    exact gl_ireturn y_235_23 (Or.inr ⟨yt_235, Or.inl rfl⟩) (by cases h; exact hP)
  · have h := (if_neg c2).symm.trans h
    refine gl_iload (gX_LK b) y_235_16 rfl rfl ?_
    refine gl_iconst (gX_LK b) y_235_18 ci_3 rfl ?_
    refine gl_ic_lt (gX_LK b) y_235_19 rfl rfl (fun c3 => ?_) (fun c3 => ?_)
    · have h := (if_pos c3).symm.trans h
      refine gl_iload_n (gX_LK b) y_235_24 rfl rfl ?_
      refine gl_iconst (gX_LK b) y_235_25 ci_3 rfl ?_
      refine gl_imul (gX_LK b) y_235_26 rfl ?_
      refine gl_iload (gX_LK b) y_235_27 rfl rfl ?_
      refine gl_iadd (gX_LK b) y_235_29 rfl ?_
      refine gl_istore (vs2 := [some (.ref p0), some (.int x1), some (.int x2), some (.int x3), some (.int (ar (p0 + 1) (iN ((15 : Int32) + x1)))), some (.int ((x1 * (3 : Int32)) + (ar (p0 + 1) (iN ((15 : Int32) + x1)))))]) (gX_LK b) y_235_30 rfl rfl rfl rfl ?_
      refine gl_aload_n (gX_LK b) y_235_32 rfl rfl ?_
      refine gl_getA (gX_LK b) y_235_33 yf_235_11 (ys_pg hp0) rfl rfl (yr_pg hp0) rfl ?_
      refine gl_bipush (gX_LK b) y_235_36 cb_20 rfl ?_
      refine gl_iload (gX_LK b) y_235_38 rfl rfl ?_
      refine gl_iadd (gX_LK b) y_235_40 rfl ?_
      refine gl_iload_n (gX_LK b) y_235_41 rfl rfl ?_
      obtain ⟨c4, h⟩ := o_ck h
      refine gl_iastore (ar2 := (j_u2 ar (p0 + 1) (iN ((20 : Int32) + ((x1 * (3 : Int32)) + (ar (p0 + 1) (iN ((15 : Int32) + x1)))))) x2)) (gX_LK b) y_235_42 (ys_pgc hp0) c4 rfl rfl ?_
      refine gl_aload_n (gX_LK b) y_235_43 rfl rfl ?_
      refine gl_getA (gX_LK b) y_235_44 yf_235_11 (ys_pg hp0) rfl rfl (yr_pg hp0) rfl ?_
      refine gl_bipush (gX_LK b) y_235_47 cb_35 rfl ?_
      refine gl_iload (gX_LK b) y_235_49 rfl rfl ?_
      refine gl_iadd (gX_LK b) y_235_51 rfl ?_
      refine gl_iload_n (gX_LK b) y_235_52 rfl rfl ?_
      obtain ⟨c5, h⟩ := o_ck h
      refine gl_iastore (ar2 := (j_u2 (j_u2 ar (p0 + 1) (iN ((20 : Int32) + ((x1 * (3 : Int32)) + (ar (p0 + 1) (iN ((15 : Int32) + x1)))))) x2) (p0 + 1) (iN ((35 : Int32) + ((x1 * (3 : Int32)) + (ar (p0 + 1) (iN ((15 : Int32) + x1)))))) x3)) (gX_LK b) y_235_53 (ys_pgc hp0) c5 rfl rfl ?_
      refine gl_aload_n (gX_LK b) y_235_54 rfl rfl ?_
      refine gl_getA (gX_LK b) y_235_55 yf_235_11 (ys_pg hp0) rfl rfl (yr_pg hp0) rfl ?_
      refine gl_bipush (gX_LK b) y_235_58 cb_15 rfl ?_
      refine gl_iload_n (gX_LK b) y_235_60 rfl rfl ?_
      refine gl_iadd (gX_LK b) y_235_61 rfl ?_
      refine gl_iload (gX_LK b) y_235_62 rfl rfl ?_
      refine gl_iconst (gX_LK b) y_235_64 ci_1 rfl ?_
      refine gl_iadd (gX_LK b) y_235_65 rfl ?_
      obtain ⟨c6, h⟩ := o_ck h
      refine gl_iastore (ar2 := (j_u2 (j_u2 (j_u2 ar (p0 + 1) (iN ((20 : Int32) + ((x1 * (3 : Int32)) + (ar (p0 + 1) (iN ((15 : Int32) + x1)))))) x2) (p0 + 1) (iN ((35 : Int32) + ((x1 * (3 : Int32)) + (ar (p0 + 1) (iN ((15 : Int32) + x1)))))) x3) (p0 + 1) (iN ((15 : Int32) + x1)) ((ar (p0 + 1) (iN ((15 : Int32) + x1))) + (1 : Int32)))) (gX_LK b) y_235_66 (ys_pgc hp0) c6 rfl rfl ?_
      refine gl_iconst (gX_LK b) y_235_67 ci_1 rfl ?_
      exact gl_ireturn y_235_68 (Or.inr ⟨yt_235, Or.inr rfl⟩) (by cases h; exact hP)
    · have h := (if_neg c3).symm.trans h
      refine gl_iconst (gX_LK b) y_235_22 ci_0 rfl ?_
      exact gl_ireturn y_235_23 (Or.inr ⟨yt_235, Or.inl rfl⟩) (by cases h; exact hP)
