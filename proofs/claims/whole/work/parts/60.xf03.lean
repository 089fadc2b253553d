/-! ClickOrders: its methods as functions, and that the machine does what they say. -/
/-- ClickOrders$Page.ages()V -/
def xT_240 (b : Bool) (rf : jRf) (F : Nat → jSc → (Nat → Nat) → jSc → jAl → Option (jSc × (Nat → Nat) × jSc × jAl)) (e : Nat) : Prop := ∀  (Post : jPo) (p0 : Nat) (hp0 : x_pg p0 = true) (sc : jSc) (mr : (Nat → Nat)) (ar : jSc) (al : jAl) (sc9 : jSc) (mr9 : (Nat → Nat)) (ar9 : jSc) (al9 : jAl), F p0 sc mr ar al = some (sc9, mr9, ar9, al9) → Post none sc9 (x_mk mr9 rf) ar9 al9 → gW (gX b) 240 e 0 (j_av [.ref p0]) [] sc (x_mk mr rf) ar al Post
def xF_240_2 : Nat → Nat → Int32 → jSc → (Nat → Nat) → jSc → jAl → Option (jSc × (Nat → Nat) × jSc × jAl)
  | 0, _, _, _, _, _, _ => none
  | nn + 1, p0, x1, sc, mr, ar, al => (if (ar (p0 + 1) 19) ≤ x1 then some (sc, mr, ar, al) else (if (3 : Int32) ≤ x1 then some (sc, mr, ar, al) else (if iB ((32 : Int32) + x1) 50 then (if ((ar (p0 + 1) (iN ((32 : Int32) + x1))) - (ar (p0 + 1) (iN ((32 : Int32) + x1))) / (1000 : Int32) * (1000 : Int32)) ≤ 0 then xF_240_2 nn p0 (x1 + (1 : Int32)) sc mr ar al else (if iB ((32 : Int32) + x1) 50 then (if iB ((32 : Int32) + x1) 50 then xF_240_2 nn p0 (x1 + (1 : Int32)) sc mr (j_u2 ar (p0 + 1) (iN ((32 : Int32) + x1)) ((ar (p0 + 1) (iN ((32 : Int32) + x1))) - (1 : Int32))) al else none) else none)) else none)))
set_option maxHeartbeats 4000000 in
theorem xt_240_2 {b : Bool} {rf : jRf} {d : Nat} {Post : jPo} {sc9 : jSc} {mr9 : (Nat → Nat)} {ar9 : jSc} {al9 : jAl} (hP : Post none sc9 (x_mk mr9 rf) ar9 al9) : ∀ (nn : Nat) (p0 : Nat) (x1 : Int32) (sc : jSc) (mr : (Nat → Nat)) (ar : jSc) (al : jAl), x_pg p0 = true → xF_240_2 nn p0 x1 sc mr ar al = some (sc9, mr9, ar9, al9) → gL (gX b) 240 (d + 1) 2 [some (.ref p0), some (.int x1)] [] sc (x_mk mr rf) ar al Post := by
  intro nn
  induction nn with
  | zero =>
    intro p0 x1 sc mr ar al hp0 h
    have h : (none : Option (jSc × (Nat → Nat) × jSc × jAl)) = some _ := h
    cases h
  | succ nn ih =>
    intro p0 x1 sc mr ar al hp0 h
    unfold xF_240_2 at h
    refine gl_iload_n (gX_LK b) y_240_2 rfl rfl ?_
    refine gl_aload_n (gX_LK b) y_240_3 rfl rfl ?_
    refine gl_getA (gX_LK b) y_240_4 yf_240_11 (ys_pg hp0) rfl rfl (yr_pg hp0) rfl ?_
    refine gl_bipush (gX_LK b) y_240_7 cb_19 rfl ?_
    refine gl_iaload (gX_LK b) y_240_9 (ys_pgc hp0) (by decide) rfl rfl ?_
    refine gl_ic_ge (gX_LK b) y_240_10 rfl rfl (fun c1 => ?_) (fun c1 => ?_)
    · have h := (if_pos c1).symm.trans h
      exact gl_return y_240_53 yt_240 (by cases h; exact hP)
    · have h := (if_neg c1).symm.trans h
      refine gl_iload_n (gX_LK b) y_240_13 rfl rfl ?_
      refine gl_iconst (gX_LK b) y_240_14 ci_3 rfl ?_
      refine gl_ic_ge (gX_LK b) y_240_15 rfl rfl (fun c2 => ?_) (fun c2 => ?_)
      · have h := (if_pos c2).symm.trans h
        exact gl_return y_240_53 yt_240 (by cases h; exact hP)
      · have h := (if_neg c2).symm.trans h
        refine gl_aload_n (gX_LK b) y_240_18 rfl rfl ?_
        refine gl_getA (gX_LK b) y_240_19 yf_240_11 (ys_pg hp0) rfl rfl (yr_pg hp0) rfl ?_
        refine gl_bipush (gX_LK b) y_240_22 cb_32 rfl ?_
        refine gl_iload_n (gX_LK b) y_240_24 rfl rfl ?_
        refine gl_iadd (gX_LK b) y_240_25 rfl ?_
        obtain ⟨c3, h⟩ := o_ck h
        refine gl_iaload (gX_LK b) y_240_26 (ys_pgc hp0) c3 rfl rfl ?_
        refine gl_sipush (gX_LK b) y_240_27 cs_1000 rfl ?_
        refine gl_irem (gX_LK b) y_240_30 (by decide) rfl ?_
        refine gl_if_le (gX_LK b) y_240_31 rfl rfl (fun c4 => ?_) (fun c4 => ?_)
        · have h := (if_pos c4).symm.trans h
          refine gl_iinc (vs2 := [some (.ref p0), some (.int (x1 + (1 : Int32)))]) (gX_LK b) y_240_47 rfl rfl rfl ci_1 rfl rfl ?_
          refine gl_goto (gX_LK b) y_240_50 rfl ?_
          exact gl_weak (vs := [some (.ref p0), some (.int (x1 + (1 : Int32)))]) ⟨rfl, rfl, trivial⟩ (ih p0 (x1 + (1 : Int32)) sc mr ar al hp0 h)
        · have h := (if_neg c4).symm.trans h
          refine gl_aload_n (gX_LK b) y_240_34 rfl rfl ?_
          refine gl_getA (gX_LK b) y_240_35 yf_240_11 (ys_pg hp0) rfl rfl (yr_pg hp0) rfl ?_
          refine gl_bipush (gX_LK b) y_240_38 cb_32 rfl ?_
          refine gl_iload_n (gX_LK b) y_240_40 rfl rfl ?_
          refine gl_iadd (gX_LK b) y_240_41 rfl ?_
          refine gl_dup2 (gX_LK b) y_240_42 rfl rfl rfl ?_
          obtain ⟨c5, h⟩ := o_ck h
          refine gl_iaload (gX_LK b) y_240_43 (ys_pgc hp0) c5 rfl rfl ?_
          refine gl_iconst (gX_LK b) y_240_44 ci_1 rfl ?_
          refine gl_isub (gX_LK b) y_240_45 rfl ?_
          obtain ⟨c6, h⟩ := o_ck h
          refine gl_iastore (ar2 := (j_u2 ar (p0 + 1) (iN ((32 : Int32) + x1)) ((ar (p0 + 1) (iN ((32 : Int32) + x1))) - (1 : Int32)))) (gX_LK b) y_240_46 (ys_pgc hp0) c6 rfl rfl ?_
          refine gl_iinc (vs2 := [some (.ref p0), some (.int (x1 + (1 : Int32)))]) (gX_LK b) y_240_47 rfl rfl rfl ci_1 rfl rfl ?_
          refine gl_goto (gX_LK b) y_240_50 rfl ?_
          exact gl_weak (vs := [some (.ref p0), some (.int (x1 + (1 : Int32)))]) ⟨rfl, rfl, trivial⟩ (ih p0 (x1 + (1 : Int32)) sc mr (j_u2 ar (p0 + 1) (iN ((32 : Int32) + x1)) ((ar (p0 + 1) (iN ((32 : Int32) + x1))) - (1 : Int32))) al hp0 h)
def xF_240 (p0 : Nat) (sc : jSc) (mr : (Nat → Nat)) (ar : jSc) (al : jAl) : Option (jSc × (Nat → Nat) × jSc × jAl) :=
  xF_240_2 oF p0 (0 : Int32) sc mr ar al
set_option maxHeartbeats 4000000 in
theorem xt_240 {b : Bool} {rf : jRf} {d : Nat} : xT_240 b rf xF_240 (d + 1) := by
  intro  Post p0 hp0 sc mr ar al sc9 mr9 ar9 al9 h hP
  unfold xF_240 at h
  refine gl_entry (m := 1) rfl ?_
  show gL (gX b) 240 (d + 1) 0 [some (.ref p0), none] [] sc (x_mk mr rf) ar al Post
  refine gl_iconst (gX_LK b) y_240_0 ci_0 rfl ?_
  refine gl_istore_n (vs2 := [some (.ref p0), some (.int (0 : Int32))]) (gX_LK b) y_240_1 rfl rfl rfl rfl ?_
  exact gl_weak (vs := [some (.ref p0), some (.int (0 : Int32))]) ⟨rfl, rfl, trivial⟩ (xt_240_2  hP oF p0 (0 : Int32) sc mr ar al hp0 h)
/-- ClickOrders$Page.soonest()I -/
def xT_241 (b : Bool) (rf : jRf) (F : Nat → jSc → (Nat → Nat) → jSc → jAl → Option (Int32 × jSc × (Nat → Nat) × jSc × jAl)) (e : Nat) : Prop := ∀  (Post : jPo) (p0 : Nat) (hp0 : x_pg p0 = true) (sc : jSc) (mr : (Nat → Nat)) (ar : jSc) (al : jAl) (r9 : Int32) (sc9 : jSc) (mr9 : (Nat → Nat)) (ar9 : jSc) (al9 : jAl), F p0 sc mr ar al = some (r9, sc9, mr9, ar9, al9) → Post (some (.int r9)) sc9 (x_mk mr9 rf) ar9 al9 → gW (gX b) 241 e 0 (j_av [.ref p0]) [] sc (x_mk mr rf) ar al Post
def xF_241_4 : Nat → Nat → Int32 → Int32 → jSc → (Nat → Nat) → jSc → jAl → Option (Int32 × jSc × (Nat → Nat) × jSc × jAl)
  | 0, _, _, _, _, _, _, _ => none
  | nn + 1, p0, x1, x2, sc, mr, ar, al => (if (ar (p0 + 1) 19) ≤ x2 then some (x1, sc, mr, ar, al) else (if (3 : Int32) ≤ x2 then some (x1, sc, mr, ar, al) else (if x1 < 0 then xF_241_4 nn p0 x2 (x2 + (1 : Int32)) sc mr ar al else (if iB ((32 : Int32) + x2) 50 then (if iB ((32 : Int32) + x1) 50 then (if ((ar (p0 + 1) (iN ((32 : Int32) + x1))) - (ar (p0 + 1) (iN ((32 : Int32) + x1))) / (1000 : Int32) * (1000 : Int32)) ≤ ((ar (p0 + 1) (iN ((32 : Int32) + x2))) - (ar (p0 + 1) (iN ((32 : Int32) + x2))) / (1000 : Int32) * (1000 : Int32)) then xF_241_4 nn p0 x1 (x2 + (1 : Int32)) sc mr ar al else xF_241_4 nn p0 x2 (x2 + (1 : Int32)) sc mr ar al) else none) else none))))
set_option maxHeartbeats 4000000 in
theorem xt_241_4 {b : Bool} {rf : jRf} {d : Nat} {Post : jPo} {r9 : Int32} {sc9 : jSc} {mr9 : (Nat → Nat)} {ar9 : jSc} {al9 : jAl} (hP : Post (some (.int r9)) sc9 (x_mk mr9 rf) ar9 al9) : ∀ (nn : Nat) (p0 : Nat) (x1 : Int32) (x2 : Int32) (sc : jSc) (mr : (Nat → Nat)) (ar : jSc) (al : jAl), x_pg p0 = true → xF_241_4 nn p0 x1 x2 sc mr ar al = some (r9, sc9, mr9, ar9, al9) → gL (gX b) 241 (d + 1) 4 [some (.ref p0), some (.int x1), some (.int x2)] [] sc (x_mk mr rf) ar al Post := by
  intro nn
  induction nn with
  | zero =>
    intro p0 x1 x2 sc mr ar al hp0 h
    have h : (none : Option (Int32 × jSc × (Nat → Nat) × jSc × jAl)) = some _ := h
    cases h
  | succ nn ih =>
    intro p0 x1 x2 sc mr ar al hp0 h
    unfold xF_241_4 at h
    refine gl_iload_n (gX_LK b) y_241_4 rfl rfl ?_
    refine gl_aload_n (gX_LK b) y_241_5 rfl rfl ?_
    refine gl_getA (gX_LK b) y_241_6 yf_241_11 (ys_pg hp0) rfl rfl (yr_pg hp0) rfl ?_
    refine gl_bipush (gX_LK b) y_241_9 cb_19 rfl ?_
    refine gl_iaload (gX_LK b) y_241_11 (ys_pgc hp0) (by decide) rfl rfl ?_
    refine gl_ic_ge (gX_LK b) y_241_12 rfl rfl (fun c1 => ?_) (fun c1 => ?_)
    · have h := (if_pos c1).symm.trans h
      refine gl_iload_n (gX_LK b) y_241_61 rfl rfl ?_
      exact gl_ireturn y_241_62 (Or.inl yt_241) (by cases h; exact hP)
    · have h := (if_neg c1).symm.trans h
      refine gl_iload_n (gX_LK b) y_241_15 rfl rfl ?_
      refine gl_iconst (gX_LK b) y_241_16 ci_3 rfl ?_
      refine gl_ic_ge (gX_LK b) y_241_17 rfl rfl (fun c2 => ?_) (fun c2 => ?_)
      · have h := (if_pos c2).symm.trans h
        refine gl_iload_n (gX_LK b) y_241_61 rfl rfl ?_
        exact gl_ireturn y_241_62 (Or.inl yt_241) (by cases h; exact hP)
      · have h := (if_neg c2).symm.trans h
        refine gl_iload_n (gX_LK b) y_241_20 rfl rfl ?_
        refine gl_if_lt (gX_LK b) y_241_21 rfl rfl (fun c3 => ?_) (fun c3 => ?_)
        · have h := (if_pos c3).symm.trans h
          refine gl_iload_n (gX_LK b) y_241_53 rfl rfl ?_
          refine gl_istore_n (vs2 := [some (.ref p0), some (.int x2), some (.int x2)]) (gX_LK b) y_241_54 rfl rfl rfl rfl ?_
          refine gl_iinc (vs2 := [some (.ref p0), some (.int x2), some (.int (x2 + (1 : Int32)))]) (gX_LK b) y_241_55 rfl rfl rfl ci_1 rfl rfl ?_
          refine gl_goto (gX_LK b) y_241_58 rfl ?_
          exact gl_weak (vs := [some (.ref p0), some (.int x2), some (.int (x2 + (1 : Int32)))]) ⟨rfl, rfl, rfl, trivial⟩ (ih p0 x2 (x2 + (1 : Int32)) sc mr ar al hp0 h)
        · have h := (if_neg c3).symm.trans h
          refine gl_aload_n (gX_LK b) y_241_24 rfl rfl ?_
          refine gl_getA (gX_LK b) y_241_25 yf_241_11 (ys_pg hp0) rfl rfl (yr_pg hp0) rfl ?_
          refine gl_bipush (gX_LK b) y_241_28 cb_32 rfl ?_
          refine gl_iload_n (gX_LK b) y_241_30 rfl rfl ?_
          refine gl_iadd (gX_LK b) y_241_31 rfl ?_
          obtain ⟨c4, h⟩ := o_ck h
          refine gl_iaload (gX_LK b) y_241_32 (ys_pgc hp0) c4 rfl rfl ?_
          refine gl_sipush (gX_LK b) y_241_33 cs_1000 rfl ?_
          refine gl_irem (gX_LK b) y_241_36 (by decide) rfl ?_
          refine gl_aload_n (gX_LK b) y_241_37 rfl rfl ?_
          refine gl_getA (gX_LK b) y_241_38 yf_241_11 (ys_pg hp0) rfl rfl (yr_pg hp0) rfl ?_
          refine gl_bipush (gX_LK b) y_241_41 cb_32 rfl ?_
          refine gl_iload_n (gX_LK b) y_241_43 rfl rfl ?_
          refine gl_iadd (gX_LK b) y_241_44 rfl ?_
          obtain ⟨c5, h⟩ := o_ck h
          refine gl_iaload (gX_LK b) y_241_45 (ys_pgc hp0) c5 rfl rfl ?_
          refine gl_sipush (gX_LK b) y_241_46 cs_1000 rfl ?_
          refine gl_irem (gX_LK b) y_241_49 (by decide) rfl ?_
          refine gl_ic_ge (gX_LK b) y_241_50 rfl rfl (fun c6 => ?_) (fun c6 => ?_)
          · have h := (if_pos c6).symm.trans h
            refine gl_iinc (vs2 := [some (.ref p0), some (.int x1), some (.int (x2 + (1 : Int32)))]) (gX_LK b) y_241_55 rfl rfl rfl ci_1 rfl rfl ?_
            refine gl_goto (gX_LK b) y_241_58 rfl ?_
            exact gl_weak (vs := [some (.ref p0), some (.int x1), some (.int (x2 + (1 : Int32)))]) ⟨rfl, rfl, rfl, trivial⟩ (ih p0 x1 (x2 + (1 : Int32)) sc mr ar al hp0 h)
          · have h := (if_neg c6).symm.trans h
            refine gl_iload_n (gX_LK b) y_241_53 rfl rfl ?_
            refine gl_istore_n (vs2 := [some (.ref p0), some (.int x2), some (.int x2)]) (gX_LK b) y_241_54 rfl rfl rfl rfl ?_
            refine gl_iinc (vs2 := [some (.ref p0), some (.int x2), some (.int (x2 + (1 : Int32)))]) (gX_LK b) y_241_55 rfl rfl rfl ci_1 rfl rfl ?_
            refine gl_goto (gX_LK b) y_241_58 rfl ?_
            exact gl_weak (vs := [some (.ref p0), some (.int x2), some (.int (x2 + (1 : Int32)))]) ⟨rfl, rfl, rfl, trivial⟩ (ih p0 x2 (x2 + (1 : Int32)) sc mr ar al hp0 h)
def xF_241 (p0 : Nat) (sc : jSc) (mr : (Nat → Nat)) (ar : jSc) (al : jAl) : Option (Int32 × jSc × (Nat → Nat) × jSc × jAl) :=
  xF_241_4 oF p0 (-1 : Int32) (0 : Int32) sc mr ar al
set_option maxHeartbeats 4000000 in
theorem xt_241 {b : Bool} {rf : jRf} {d : Nat} : xT_241 b rf xF_241 (d + 1) := by
  intro  Post p0 hp0 sc mr ar al r9 sc9 mr9 ar9 al9 h hP
  unfold xF_241 at h
  refine gl_entry (m := 2) rfl ?_
  show gL (gX b) 241 (d + 1) 0 [some (.ref p0), none, none] [] sc (x_mk mr rf) ar al Post
  refine gl_iconst (gX_LK b) y_241_0 ci_m1 rfl ?_
  refine gl_istore_n (vs2 := [some (.ref p0), some (.int (-1 : Int32)), none]) (gX_LK b) y_241_1 rfl rfl rfl rfl ?_
  refine gl_iconst (gX_LK b) y_241_2 ci_0 rfl ?_
  refine gl_istore_n (vs2 := [some (.ref p0), some (.int (-1 : Int32)), some (.int (0 : Int32))]) (gX_LK b) y_241_3 rfl rfl rfl rfl ?_
  exact gl_weak (vs := [some (.ref p0), some (.int (-1 : Int32)), some (.int (0 : Int32))]) ⟨rfl, rfl, rfl, trivial⟩ (xt_241_4  hP oF p0 (-1 : Int32) (0 : Int32) sc mr ar al hp0 h)
/-- ClickOrders$Page.dropsClock(I)V -/
def xT_242 (b : Bool) (rf : jRf) (F : Nat → Int32 → jSc → (Nat → Nat) → jSc → jAl → Option (jSc × (Nat → Nat) × jSc × jAl)) (e : Nat) : Prop := ∀  (Post : jPo) (p0 : Nat) (x1 : Int32) (hp0 : x_pg p0 = true) (sc : jSc) (mr : (Nat → Nat)) (ar : jSc) (al : jAl) (sc9 : jSc) (mr9 : (Nat → Nat)) (ar9 : jSc) (al9 : jAl), F p0 x1 sc mr ar al = some (sc9, mr9, ar9, al9) → Post none sc9 (x_mk mr9 rf) ar9 al9 → gW (gX b) 242 e 0 (j_av [.ref p0, .int x1]) [] sc (x_mk mr rf) ar al Post
def xF_242 (p0 : Nat) (x1 : Int32) (sc : jSc) (mr : (Nat → Nat)) (ar : jSc) (al : jAl) : Option (jSc × (Nat → Nat) × jSc × jAl) :=
  (if x1 < 0 then some (sc, mr, ar, al) else (if x1 < (3 : Int32) then (if xcp (((32 : Int32) + x1) + (1 : Int32)) ((32 : Int32) + x1) ((2 : Int32) - x1) 50 50 then (if xcp (((47 : Int32) + x1) + (1 : Int32)) ((47 : Int32) + x1) ((2 : Int32) - x1) 50 50 then some (sc, mr, (j_u2 (j_u2 (va_up (va_up ar (p0 + 1) (va_cpy (ar (p0 + 1)) (ar (p0 + 1)) (iN (((32 : Int32) + x1) + (1 : Int32))) (iN ((32 : Int32) + x1)) (iN ((2 : Int32) - x1)))) (p0 + 1) (va_cpy ((va_up ar (p0 + 1) (va_cpy (ar (p0 + 1)) (ar (p0 + 1)) (iN (((32 : Int32) + x1) + (1 : Int32))) (iN ((32 : Int32) + x1)) (iN ((2 : Int32) - x1)))) (p0 + 1)) ((va_up ar (p0 + 1) (va_cpy (ar (p0 + 1)) (ar (p0 + 1)) (iN (((32 : Int32) + x1) + (1 : Int32))) (iN ((32 : Int32) + x1)) (iN ((2 : Int32) - x1)))) (p0 + 1)) (iN (((47 : Int32) + x1) + (1 : Int32))) (iN ((47 : Int32) + x1)) (iN ((2 : Int32) - x1)))) (p0 + 1) 34 (0 : Int32)) (p0 + 1) 19 (((j_u2 (va_up (va_up ar (p0 + 1) (va_cpy (ar (p0 + 1)) (ar (p0 + 1)) (iN (((32 : Int32) + x1) + (1 : Int32))) (iN ((32 : Int32) + x1)) (iN ((2 : Int32) - x1)))) (p0 + 1) (va_cpy ((va_up ar (p0 + 1) (va_cpy (ar (p0 + 1)) (ar (p0 + 1)) (iN (((32 : Int32) + x1) + (1 : Int32))) (iN ((32 : Int32) + x1)) (iN ((2 : Int32) - x1)))) (p0 + 1)) ((va_up ar (p0 + 1) (va_cpy (ar (p0 + 1)) (ar (p0 + 1)) (iN (((32 : Int32) + x1) + (1 : Int32))) (iN ((32 : Int32) + x1)) (iN ((2 : Int32) - x1)))) (p0 + 1)) (iN (((47 : Int32) + x1) + (1 : Int32))) (iN ((47 : Int32) + x1)) (iN ((2 : Int32) - x1)))) (p0 + 1) 34 (0 : Int32)) (p0 + 1) 19) - (1 : Int32))), al) else none) else none) else some (sc, mr, ar, al)))
set_option maxHeartbeats 4000000 in
theorem xt_242 {b : Bool} {rf : jRf} {d : Nat} : xT_242 b rf xF_242 (d + 1) := by
  intro  Post p0 x1 hp0 sc mr ar al sc9 mr9 ar9 al9 h hP
  unfold xF_242 at h
  refine gl_entry (m := 0) rfl ?_
  show gL (gX b) 242 (d + 1) 0 [some (.ref p0), some (.int x1)] [] sc (x_mk mr rf) ar al Post
  refine gl_iload_n (gX_LK b) y_242_0 rfl rfl ?_
  refine gl_if_lt (gX_LK b) y_242_1 rfl rfl (fun c1 => ?_) (fun c1 => ?_)
  · have h := (if_pos c1).symm.trans h
    exact gl_return y_242_9 yt_242 (by cases h; exact hP)
  · have h := (if_neg c1).symm.trans h
    refine gl_iload_n (gX_LK b) y_242_4 rfl rfl ?_
    refine gl_iconst (gX_LK b) y_242_5 ci_3 rfl ?_
    refine gl_ic_lt (gX_LK b) y_242_6 rfl rfl (fun c2 => ?_) (fun c2 => ?_)
    · have h := (if_pos c2).symm.trans h
      refine gl_aload_n (gX_LK b) y_242_10 rfl rfl ?_
      refine gl_getA (gX_LK b) y_242_11 yf_242_11 (ys_pg hp0) rfl rfl (yr_pg hp0) rfl ?_
      refine gl_bipush (gX_LK b) y_242_14 cb_32 rfl ?_
      refine gl_iload_n (gX_LK b) y_242_16 rfl rfl ?_
      refine gl_iadd (gX_LK b) y_242_17 rfl ?_
      refine gl_iconst (gX_LK b) y_242_18 ci_1 rfl ?_
      refine gl_iadd (gX_LK b) y_242_19 rfl ?_
      refine gl_aload_n (gX_LK b) y_242_20 rfl rfl ?_
      refine gl_getA (gX_LK b) y_242_21 yf_242_11 (ys_pg hp0) rfl rfl (yr_pg hp0) rfl ?_
      refine gl_bipush (gX_LK b) y_242_24 cb_32 rfl ?_
      refine gl_iload_n (gX_LK b) y_242_26 rfl rfl ?_
      refine gl_iadd (gX_LK b) y_242_27 rfl ?_
      refine gl_iconst (gX_LK b) y_242_28 ci_2 rfl ?_
      refine gl_iload_n (gX_LK b) y_242_29 rfl rfl ?_
      refine gl_isub (gX_LK b) y_242_30 rfl ?_
      obtain ⟨c3, h⟩ := o_ck h
      refine gl_copy (gX_LK b) y_242_31 yn_242_21 yz_242_21 (ys_pgc hp0) (ys_pgc hp0) c3 rfl rfl ?_
      refine gl_aload_n (gX_LK b) y_242_34 rfl rfl ?_
      refine gl_getA (gX_LK b) y_242_35 yf_242_11 (ys_pg hp0) rfl rfl (yr_pg hp0) rfl ?_
      refine gl_bipush (gX_LK b) y_242_38 cb_47 rfl ?_
      refine gl_iload_n (gX_LK b) y_242_40 rfl rfl ?_
      refine gl_iadd (gX_LK b) y_242_41 rfl ?_
      refine gl_iconst (gX_LK b) y_242_42 ci_1 rfl ?_
      refine gl_iadd (gX_LK b) y_242_43 rfl ?_
      refine gl_aload_n (gX_LK b) y_242_44 rfl rfl ?_
      refine gl_getA (gX_LK b) y_242_45 yf_242_11 (ys_pg hp0) rfl rfl (yr_pg hp0) rfl ?_
      refine gl_bipush (gX_LK b) y_242_48 cb_47 rfl ?_
      refine gl_iload_n (gX_LK b) y_242_50 rfl rfl ?_
      refine gl_iadd (gX_LK b) y_242_51 rfl ?_
      refine gl_iconst (gX_LK b) y_242_52 ci_2 rfl ?_
      refine gl_iload_n (gX_LK b) y_242_53 rfl rfl ?_
      refine gl_isub (gX_LK b) y_242_54 rfl ?_
      obtain ⟨c4, h⟩ := o_ck h
      refine gl_copy (gX_LK b) y_242_55 yn_242_21 yz_242_21 (ys_pgc hp0) (ys_pgc hp0) c4 rfl rfl ?_
      refine gl_aload_n (gX_LK b) y_242_58 rfl rfl ?_
      refine gl_getA (gX_LK b) y_242_59 yf_242_11 (ys_pg hp0) rfl rfl (yr_pg hp0) rfl ?_
      refine gl_bipush (gX_LK b) y_242_62 cb_34 rfl ?_
      refine gl_iconst (gX_LK b) y_242_64 ci_0 rfl ?_
      refine gl_iastore (ar2 := (j_u2 (va_up (va_up ar (p0 + 1) (va_cpy (ar (p0 + 1)) (ar (p0 + 1)) (iN (((32 : Int32) + x1) + (1 : Int32))) (iN ((32 : Int32) + x1)) (iN ((2 : Int32) - x1)))) (p0 + 1) (va_cpy ((va_up ar (p0 + 1) (va_cpy (ar (p0 + 1)) (ar (p0 + 1)) (iN (((32 : Int32) + x1) + (1 : Int32))) (iN ((32 : Int32) + x1)) (iN ((2 : Int32) - x1)))) (p0 + 1)) ((va_up ar (p0 + 1) (va_cpy (ar (p0 + 1)) (ar (p0 + 1)) (iN (((32 : Int32) + x1) + (1 : Int32))) (iN ((32 : Int32) + x1)) (iN ((2 : Int32) - x1)))) (p0 + 1)) (iN (((47 : Int32) + x1) + (1 : Int32))) (iN ((47 : Int32) + x1)) (iN ((2 : Int32) - x1)))) (p0 + 1) 34 (0 : Int32))) (gX_LK b) y_242_65 (ys_pgc hp0) (by decide) rfl rfl ?_
      refine gl_aload_n (gX_LK b) y_242_66 rfl rfl ?_
      refine gl_getA (gX_LK b) y_242_67 yf_242_11 (ys_pg hp0) rfl rfl (yr_pg hp0) rfl ?_
      refine gl_bipush (gX_LK b) y_242_70 cb_19 rfl ?_
      refine gl_dup2 (gX_LK b) y_242_72 rfl rfl rfl ?_
      refine gl_iaload (gX_LK b) y_242_73 (ys_pgc hp0) (by decide) rfl rfl ?_
      refine gl_iconst (gX_LK b) y_242_74 ci_1 rfl ?_
      refine gl_isub (gX_LK b) y_242_75 rfl ?_
      refine gl_iastore (ar2 := (j_u2 (j_u2 (va_up (va_up ar (p0 + 1) (va_cpy (ar (p0 + 1)) (ar (p0 + 1)) (iN (((32 : Int32) + x1) + (1 : Int32))) (iN ((32 : Int32) + x1)) (iN ((2 : Int32) - x1)))) (p0 + 1) (va_cpy ((va_up ar (p0 + 1) (va_cpy (ar (p0 + 1)) (ar (p0 + 1)) (iN (((32 : Int32) + x1) + (1 : Int32))) (iN ((32 : Int32) + x1)) (iN ((2 : Int32) - x1)))) (p0 + 1)) ((va_up ar (p0 + 1) (va_cpy (ar (p0 + 1)) (ar (p0 + 1)) (iN (((32 : Int32) + x1) + (1 : Int32))) (iN ((32 : Int32) + x1)) (iN ((2 : Int32) - x1)))) (p0 + 1)) (iN (((47 : Int32) + x1) + (1 : Int32))) (iN ((47 : Int32) + x1)) (iN ((2 : Int32) - x1)))) (p0 + 1) 34 (0 : Int32)) (p0 + 1) 19 (((j_u2 (va_up (va_up ar (p0 + 1) (va_cpy (ar (p0 + 1)) (ar (p0 + 1)) (iN (((32 : Int32) + x1) + (1 : Int32))) (iN ((32 : Int32) + x1)) (iN ((2 : Int32) - x1)))) (p0 + 1) (va_cpy ((va_up ar (p0 + 1) (va_cpy (ar (p0 + 1)) (ar (p0 + 1)) (iN (((32 : Int32) + x1) + (1 : Int32))) (iN ((32 : Int32) + x1)) (iN ((2 : Int32) - x1)))) (p0 + 1)) ((va_up ar (p0 + 1) (va_cpy (ar (p0 + 1)) (ar (p0 + 1)) (iN (((32 : Int32) + x1) + (1 : Int32))) (iN ((32 : Int32) + x1)) (iN ((2 : Int32) - x1)))) (p0 + 1)) (iN (((47 : Int32) + x1) + (1 : Int32))) (iN ((47 : Int32) + x1)) (iN ((2 : Int32) - x1)))) (p0 + 1) 34 (0 : Int32)) (p0 + 1) 19) - (1 : Int32)))) (gX_LK b) y_242_76 (ys_pgc hp0) (by decide) rfl rfl ?_
      exact gl_return y_242_77 yt_242 (by cases h; exact hP)
    · have h := (if_neg c2).symm.trans h
      exact gl_return y_242_9 yt_242 (by cases h; exact hP)
/-- ClickOrders$Hand.happens(LClickOrders$Page;II)I -/
def xT_209 (b : Bool) (rf : jRf) (F : Nat → Int32 → Int32 → jSc → (Nat → Nat) → jSc → jAl → Option (Int32 × jSc × (Nat → Nat) × jSc × jAl)) (e : Nat) : Prop := ∀  (Post : jPo) (p1 : Nat) (x2 : Int32) (x3 : Int32) (hp1 : x_pg p1 = true) (sc : jSc) (mr : (Nat → Nat)) (ar : jSc) (al : jAl) (r9 : Int32) (sc9 : jSc) (mr9 : (Nat → Nat)) (ar9 : jSc) (al9 : jAl), F p1 x2 x3 sc mr ar al = some (r9, sc9, mr9, ar9, al9) → Post (some (.int r9)) sc9 (x_mk mr9 rf) ar9 al9 → gW (gX b) 209 e 0 (j_av [.ref 757, .ref p1, .int x2, .int x3]) [] sc (x_mk mr rf) ar al Post
def xF_209_95 (p1 : Nat) (x7 : Int32) (y0 : Int32) (sc : jSc) (mr : (Nat → Nat)) (ar : jSc) (al : jAl) : Option (Int32 × jSc × (Nat → Nat) × jSc × jAl) :=
  (o_b5 (xF_237 p1 x7 sc mr ar al) (fun ve1 sce1 mre1 are1 ale1 => (o_b5 (xF_238 p1 x7 sce1 mre1 are1 ale1) (fun ve2 sce2 mre2 are2 ale2 => (if y0 = 0 then (if x_pr (mre2 3) = true then (if iB ((13 : Int32) + x7) 17 then (o_b4 (xF_213 p1 (are2 ((mre2 3) + 3) (iN ((13 : Int32) + x7))) (j_u2 (j_u2 sce2 757 7 ve2) 757 4 ((1 : Int32) <<< (((20 : Int32) + x7) &&& 31))) mre2 are2 ale2) (fun sce6 mre6 are6 ale6 => some (ve1, sce6, mre6, are6, ale6))) else none) else none) else (o_b4 (xF_213 p1 (-1 : Int32) (j_u2 (j_u2 sce2 757 7 ve2) 757 4 ((1 : Int32) <<< (((20 : Int32) + x7) &&& 31))) mre2 are2 ale2) (fun sce7 mre7 are7 ale7 => some (ve1, sce7, mre7, are7, ale7))))))))
set_option maxHeartbeats 4000000 in
theorem xt_209_95 {b : Bool} {rf : jRf} {d : Nat} {Post : jPo} {r9 : Int32} {sc9 : jSc} {mr9 : (Nat → Nat)} {ar9 : jSc} {al9 : jAl} (hP : Post (some (.int r9)) sc9 (x_mk mr9 rf) ar9 al9) (p1 : Nat) (x7 : Int32) (y0 : Int32) (sc : jSc) (mr : (Nat → Nat)) (ar : jSc) (al : jAl) (hp1 : x_pg p1 = true) (h : xF_209_95 p1 x7 y0 sc mr ar al = some (r9, sc9, mr9, ar9, al9)) : gL (gX b) 209 (d + 4) 95 [some (.ref 757), some (.ref p1), none, none, none, none, none, some (.int x7), none] [.int y0] sc (x_mk mr rf) ar al Post := by
  unfold xF_209_95 at h
  refine gl_istore (vs2 := [some (.ref 757), some (.ref p1), none, none, none, none, none, some (.int x7), some (.int y0)]) (gX_LK b) y_209_95 rfl rfl rfl rfl ?_
  refine gl_aload_n (gX_LK b) y_209_97 rfl rfl ?_
  refine gl_iload (gX_LK b) y_209_98 rfl rfl ?_
  obtain ⟨ve1, sce1, mre1, are1, ale1, e1, h⟩ := o_k5 h
  refine gl_callV (gX_LK b) y_209_100 ym_209_91 rfl rfl rfl (ys_pg hp1) yx_237 rfl rfl ((xt_237 )  _ _ _ hp1 _ _ _ _ _ _ _ _ _ e1 ?_)
  refine gl_istore (vs2 := [some (.ref 757), some (.ref p1), none, none, some (.int ve1), none, none, some (.int x7), some (.int y0)]) (gX_LK b) y_209_103 rfl rfl rfl rfl ?_
  refine gl_aload_n (gX_LK b) y_209_105 rfl rfl ?_
  refine gl_aload_n (gX_LK b) y_209_106 rfl rfl ?_
  refine gl_iload (gX_LK b) y_209_107 rfl rfl ?_
  obtain ⟨ve2, sce2, mre2, are2, ale2, e2, h⟩ := o_k5 h
  refine gl_callV (gX_LK b) y_209_109 ym_209_94 rfl rfl rfl (ys_pg hp1) yx_238 rfl rfl ((xt_238 )  _ _ _ hp1 _ _ _ _ _ _ _ _ _ e2 ?_)
  refine gl_put (sc' := (j_u2 sce2 757 7 ve2)) (gX_LK b) y_209_112 yf_209_28 ys_757 rfl rfl rfl rfl rfl ?_
  refine gl_aload_n (gX_LK b) y_209_115 rfl rfl ?_
  refine gl_iconst (gX_LK b) y_209_116 ci_1 rfl ?_
  refine gl_bipush (gX_LK b) y_209_117 cb_20 rfl ?_
  refine gl_iload (gX_LK b) y_209_119 rfl rfl ?_
  refine gl_iadd (gX_LK b) y_209_121 rfl ?_
  refine gl_ishl (gX_LK b) y_209_122 rfl ?_
  refine gl_put (sc' := (j_u2 (j_u2 sce2 757 7 ve2) 757 4 ((1 : Int32) <<< (((20 : Int32) + x7) &&& 31)))) (gX_LK b) y_209_123 yf_209_19 ys_757 rfl rfl rfl rfl rfl ?_
  refine gl_iload (gX_LK b) y_209_126 rfl rfl ?_
  refine gl_if_eq (gX_LK b) y_209_128 rfl rfl (fun c3 => ?_) (fun c3 => ?_)
  · have h := (if_pos c3).symm.trans h
    refine gl_aload_n (gX_LK b) y_209_135 rfl rfl ?_
    obtain ⟨c4, h⟩ := o_ck h
    refine gl_getA (gX_LK b) y_209_136 yf_209_41 ys_757 rfl rfl rfl rfl ?_
    refine gl_getA (gX_LK b) y_209_139 yf_209_73 (ys_pr c4) rfl rfl (yr_pr3 c4) rfl ?_
    refine gl_bipush (gX_LK b) y_209_142 cb_13 rfl ?_
    refine gl_iload (gX_LK b) y_209_144 rfl rfl ?_
    refine gl_iadd (gX_LK b) y_209_146 rfl ?_
    obtain ⟨c5, h⟩ := o_ck h
    refine gl_iaload (gX_LK b) y_209_147 (ys_pr3 c4) c5 rfl rfl ?_
    refine gl_istore (vs2 := [some (.ref 757), some (.ref p1), none, none, some (.int ve1), some (.int (are2 ((mre2 3) + 3) (iN ((13 : Int32) + x7)))), none, some (.int x7), some (.int y0)]) (gX_LK b) y_209_148 rfl rfl rfl rfl ?_
    refine gl_goto (gX_LK b) y_209_150 rfl ?_
    refine gl_aload_n (gX_LK b) y_209_203 rfl rfl ?_
    refine gl_aload_n (gX_LK b) y_209_204 rfl rfl ?_
    refine gl_iload (gX_LK b) y_209_205 rfl rfl ?_
    obtain ⟨sce6, mre6, are6, ale6, e6, h⟩ := o_k4 h
    refine gl_callV (gX_LK b) y_209_207 ym_209_78 rfl rfl rfl ys_757 yx_213 rfl rfl ((xt_213 )  _ _ _ hp1 _ _ _ _ _ _ _ _ e6 ?_)
    refine gl_iload (gX_LK b) y_209_210 rfl rfl ?_
    exact gl_ireturn y_209_212 (Or.inl yt_209) (by cases h; exact hP)
  · have h := (if_neg c3).symm.trans h
    refine gl_iconst (gX_LK b) y_209_131 ci_m1 rfl ?_
    refine gl_goto (gX_LK b) y_209_132 rfl ?_
    refine gl_istore (vs2 := [some (.ref 757), some (.ref p1), none, none, some (.int ve1), some (.int (-1 : Int32)), none, some (.int x7), some (.int y0)]) (gX_LK b) y_209_148 rfl rfl rfl rfl ?_
    refine gl_goto (gX_LK b) y_209_150 rfl ?_
    refine gl_aload_n (gX_LK b) y_209_203 rfl rfl ?_
    refine gl_aload_n (gX_LK b) y_209_204 rfl rfl ?_
    refine gl_iload (gX_LK b) y_209_205 rfl rfl ?_
    obtain ⟨sce7, mre7, are7, ale7, e7, h⟩ := o_k4 h
    refine gl_callV (gX_LK b) y_209_207 ym_209_78 rfl rfl rfl ys_757 yx_213 rfl rfl ((xt_213 )  _ _ _ hp1 _ _ _ _ _ _ _ _ e7 ?_)
    refine gl_iload (gX_LK b) y_209_210 rfl rfl ?_
    exact gl_ireturn y_209_212 (Or.inl yt_209) (by cases h; exact hP)
def xF_209 (p1 : Nat) (x2 : Int32) (x3 : Int32) (sc : jSc) (mr : (Nat → Nat)) (ar : jSc) (al : jAl) : Option (Int32 × jSc × (Nat → Nat) × jSc × jAl) :=
  (o_b4 (xF_212 x3 sc mr ar al) (fun sce8 mre8 are8 ale8 => (o_b5 (xF_241 p1 sce8 mre8 are8 ale8) (fun ve9 sce9 mre9 are9 ale9 => (o_b4 (xF_240 p1 sce9 mre9 are9 ale9) (fun sce10 mre10 are10 ale10 => (if (8 : Int32) ≤ x2 then (if x2 ≤ (8 : Int32) then (if ve9 < 0 then (o_b4 (xF_213 p1 (-1 : Int32) sce10 mre10 are10 ale10) (fun sce14 mre14 are14 ale14 => some ((-1 : Int32), sce14, mre14, are14, ale14))) else (if iB ((47 : Int32) + ve9) 50 then (if x_pr (mre10 3) = true then (if iB ((32 : Int32) + ve9) 50 then (if iB ((9 : Int32) + ((are10 (p1 + 1) (iN ((32 : Int32) + ve9))) / (1000 : Int32))) 17 then (o_b4 (xF_242 p1 ve9 sce10 mre10 are10 ale10) (fun sce19 mre19 are19 ale19 => (o_b4 (xF_213 p1 (are10 ((mre10 3) + 3) (iN ((9 : Int32) + ((are10 (p1 + 1) (iN ((32 : Int32) + ve9))) / (1000 : Int32))))) sce19 mre19 are19 ale19) (fun sce20 mre20 are20 ale20 => some ((are10 (p1 + 1) (iN ((47 : Int32) + ve9))), sce20, mre20, are20, ale20))))) else none) else none) else none) else none)) else (o_b5 (xF_230 p1 (x2 - (9 : Int32)) sce10 mre10 are10 ale10) (fun ve21 sce21 mre21 are21 ale21 => (if ve21 ≤ (1 : Int32) then xF_209_95 p1 (x2 - (9 : Int32)) (0 : Int32) sce21 mre21 are21 ale21 else (if (((sce21 736 7) >>> ((x2 - (9 : Int32)) &&& 31)) &&& (1 : Int32)) = 0 then xF_209_95 p1 (x2 - (9 : Int32)) (0 : Int32) sce21 mre21 are21 ale21 else xF_209_95 p1 (x2 - (9 : Int32)) (1 : Int32) sce21 mre21 are21 ale21))))) else (if x_pr (mre10 3) = true then (if iB ((1 : Int32) + x2) 17 then (o_b4 (xF_213 p1 (are10 ((mre10 3) + 3) (iN ((1 : Int32) + x2))) (j_u2 sce10 757 3 ((1 : Int32) <<< (((8 : Int32) + x2) &&& 31))) mre10 are10 ale10) (fun sce26 mre26 are26 ale26 => some ((-1 : Int32), sce26, mre26, are26, ale26))) else none) else none))))))))
set_option maxHeartbeats 4000000 in
theorem xt_209 {b : Bool} {rf : jRf} {d : Nat} : xT_209 b rf xF_209 (d + 4) := by
  intro  Post p1 x2 x3 hp1 sc mr ar al r9 sc9 mr9 ar9 al9 h hP
  unfold xF_209 at h
  refine gl_entry (m := 5) rfl ?_
  show gL (gX b) 209 (d + 4) 0 [some (.ref 757), some (.ref p1), some (.int x2), some (.int x3), none, none, none, none, none] [] sc (x_mk mr rf) ar al Post
  refine gl_aload_n (gX_LK b) y_209_0 rfl rfl ?_
  refine gl_iload_n (gX_LK b) y_209_1 rfl rfl ?_
  obtain ⟨sce8, mre8, are8, ale8, e8, h⟩ := o_k4 h
  refine gl_callV (gX_LK b) y_209_2 ym_209_69 rfl rfl rfl ys_757 yx_212 rfl rfl ((xt_212 )  _ _ _ _ _ _ _ _ _ _ e8 ?_)
  refine gl_iconst (gX_LK b) y_209_5 ci_m1 rfl ?_
  refine gl_istore (vs2 := [some (.ref 757), some (.ref p1), some (.int x2), some (.int x3), some (.int (-1 : Int32)), none, none, none, none]) (gX_LK b) y_209_6 rfl rfl rfl rfl ?_
  refine gl_iconst (gX_LK b) y_209_8 ci_m1 rfl ?_
  refine gl_istore (vs2 := [some (.ref 757), some (.ref p1), some (.int x2), some (.int x3), some (.int (-1 : Int32)), some (.int (-1 : Int32)), none, none, none]) (gX_LK b) y_209_9 rfl rfl rfl rfl ?_
  refine gl_aload_n (gX_LK b) y_209_11 rfl rfl ?_
  obtain ⟨ve9, sce9, mre9, are9, ale9, e9, h⟩ := o_k5 h
  refine gl_callV (gX_LK b) y_209_12 ym_209_82 rfl rfl rfl (ys_pg hp1) yx_241 rfl rfl ((xt_241 )  _ _ hp1 _ _ _ _ _ _ _ _ _ e9 ?_)
  refine gl_istore (vs2 := [some (.ref 757), some (.ref p1), some (.int x2), some (.int x3), some (.int (-1 : Int32)), some (.int (-1 : Int32)), some (.int ve9), none, none]) (gX_LK b) y_209_15 rfl rfl rfl rfl ?_
  refine gl_aload_n (gX_LK b) y_209_17 rfl rfl ?_
  obtain ⟨sce10, mre10, are10, ale10, e10, h⟩ := o_k4 h
  refine gl_callV (gX_LK b) y_209_18 ym_209_85 rfl rfl rfl (ys_pg hp1) yx_240 rfl rfl ((xt_240 )  _ _ hp1 _ _ _ _ _ _ _ _ e10 ?_)
  refine gl_iload_n (gX_LK b) y_209_21 rfl rfl ?_
  refine gl_bipush (gX_LK b) y_209_22 cb_8 rfl ?_
  refine gl_ic_ge (gX_LK b) y_209_24 rfl rfl (fun c11 => ?_) (fun c11 => ?_)
  · have h := (if_pos c11).symm.trans h
    refine gl_iload_n (gX_LK b) y_209_53 rfl rfl ?_
    refine gl_bipush (gX_LK b) y_209_54 cb_8 rfl ?_
    refine gl_ic_le (gX_LK b) y_209_56 rfl rfl (fun c12 => ?_) (fun c12 => ?_)
    · have h := (if_pos c12).symm.trans h
      refine gl_iload (gX_LK b) y_209_153 rfl rfl ?_
      refine gl_if_lt (gX_LK b) y_209_155 rfl rfl (fun c13 => ?_) (fun c13 => ?_)
      · have h := (if_pos c13).symm.trans h
        refine gl_aload_n (gX_LK b) y_209_203 rfl rfl ?_
        refine gl_aload_n (gX_LK b) y_209_204 rfl rfl ?_
        refine gl_iload (gX_LK b) y_209_205 rfl rfl ?_
        obtain ⟨sce14, mre14, are14, ale14, e14, h⟩ := o_k4 h
        refine gl_callV (gX_LK b) y_209_207 ym_209_78 rfl rfl rfl ys_757 yx_213 rfl rfl ((xt_213 )  _ _ _ hp1 _ _ _ _ _ _ _ _ e14 ?_)
        refine gl_iload (gX_LK b) y_209_210 rfl rfl ?_
        exact gl_ireturn y_209_212 (Or.inl yt_209) (by cases h; exact hP)
      · have h := (if_neg c13).symm.trans h
        refine gl_aload_n (gX_LK b) y_209_158 rfl rfl ?_
        refine gl_getA (gX_LK b) y_209_159 yf_209_97 (ys_pg hp1) rfl rfl (yr_pg hp1) rfl ?_
        refine gl_bipush (gX_LK b) y_209_162 cb_47 rfl ?_
        refine gl_iload (gX_LK b) y_209_164 rfl rfl ?_
        refine gl_iadd (gX_LK b) y_209_166 rfl ?_
        obtain ⟨c15, h⟩ := o_ck h
        refine gl_iaload (gX_LK b) y_209_167 (ys_pgc hp1) c15 rfl rfl ?_
        refine gl_istore (vs2 := [some (.ref 757), some (.ref p1), some (.int x2), some (.int x3), some (.int (are10 (p1 + 1) (iN ((47 : Int32) + ve9)))), some (.int (-1 : Int32)), some (.int ve9), none, none]) (gX_LK b) y_209_168 rfl rfl rfl rfl ?_
        refine gl_aload_n (gX_LK b) y_209_170 rfl rfl ?_
        obtain ⟨c16, h⟩ := o_ck h
        refine gl_getA (gX_LK b) y_209_171 yf_209_41 ys_757 rfl rfl rfl rfl ?_
        refine gl_getA (gX_LK b) y_209_174 yf_209_73 (ys_pr c16) rfl rfl (yr_pr3 c16) rfl ?_
        refine gl_bipush (gX_LK b) y_209_177 cb_9 rfl ?_
        refine gl_aload_n (gX_LK b) y_209_179 rfl rfl ?_
        refine gl_getA (gX_LK b) y_209_180 yf_209_97 (ys_pg hp1) rfl rfl (yr_pg hp1) rfl ?_
        refine gl_bipush (gX_LK b) y_209_183 cb_32 rfl ?_
        refine gl_iload (gX_LK b) y_209_185 rfl rfl ?_
        refine gl_iadd (gX_LK b) y_209_187 rfl ?_
        obtain ⟨c17, h⟩ := o_ck h
        refine gl_iaload (gX_LK b) y_209_188 (ys_pgc hp1) c17 rfl rfl ?_
        refine gl_sipush (gX_LK b) y_209_189 cs_1000 rfl ?_
        refine gl_idiv (gX_LK b) y_209_192 (by decide) rfl ?_
        refine gl_iadd (gX_LK b) y_209_193 rfl ?_
        obtain ⟨c18, h⟩ := o_ck h
        refine gl_iaload (gX_LK b) y_209_194 (ys_pr3 c16) c18 rfl rfl ?_
        refine gl_istore (vs2 := [some (.ref 757), some (.ref p1), some (.int x2), some (.int x3), some (.int (are10 (p1 + 1) (iN ((47 : Int32) + ve9)))), some (.int (are10 ((mre10 3) + 3) (iN ((9 : Int32) + ((are10 (p1 + 1) (iN ((32 : Int32) + ve9))) / (1000 : Int32)))))), some (.int ve9), none, none]) (gX_LK b) y_209_195 rfl rfl rfl rfl ?_
        refine gl_aload_n (gX_LK b) y_209_197 rfl rfl ?_
        refine gl_iload (gX_LK b) y_209_198 rfl rfl ?_
        obtain ⟨sce19, mre19, are19, ale19, e19, h⟩ := o_k4 h
        refine gl_callV (gX_LK b) y_209_200 ym_209_100 rfl rfl rfl (ys_pg hp1) yx_242 rfl rfl ((xt_242 )  _ _ _ hp1 _ _ _ _ _ _ _ _ e19 ?_)
        refine gl_aload_n (gX_LK b) y_209_203 rfl rfl ?_
        refine gl_aload_n (gX_LK b) y_209_204 rfl rfl ?_
        refine gl_iload (gX_LK b) y_209_205 rfl rfl ?_
        obtain ⟨sce20, mre20, are20, ale20, e20, h⟩ := o_k4 h
        refine gl_callV (gX_LK b) y_209_207 ym_209_78 rfl rfl rfl ys_757 yx_213 rfl rfl ((xt_213 )  _ _ _ hp1 _ _ _ _ _ _ _ _ e20 ?_)
        refine gl_iload (gX_LK b) y_209_210 rfl rfl ?_
        exact gl_ireturn y_209_212 (Or.inl yt_209) (by cases h; exact hP)
    · have h := (if_neg c12).symm.trans h
      refine gl_iload_n (gX_LK b) y_209_59 rfl rfl ?_
      refine gl_bipush (gX_LK b) y_209_60 cb_9 rfl ?_
      refine gl_isub (gX_LK b) y_209_62 rfl ?_
      refine gl_istore (vs2 := [some (.ref 757), some (.ref p1), some (.int x2), some (.int x3), some (.int (-1 : Int32)), some (.int (-1 : Int32)), some (.int ve9), some (.int (x2 - (9 : Int32))), none]) (gX_LK b) y_209_63 rfl rfl rfl rfl ?_
      refine gl_aload_n (gX_LK b) y_209_65 rfl rfl ?_
      refine gl_iload (gX_LK b) y_209_66 rfl rfl ?_
      obtain ⟨ve21, sce21, mre21, are21, ale21, e21, h⟩ := o_k5 h
      refine gl_callV (gX_LK b) y_209_68 ym_209_62 rfl rfl rfl (ys_pg hp1) yx_230 rfl rfl ((xt_230 )  _ _ _ hp1 _ _ _ _ _ _ _ _ _ e21 ?_)
      refine gl_iconst (gX_LK b) y_209_71 ci_1 rfl ?_
      refine gl_ic_le (gX_LK b) y_209_72 rfl rfl (fun c22 => ?_) (fun c22 => ?_)
      · have h := (if_pos c22).symm.trans h
        refine gl_iconst (gX_LK b) y_209_94 ci_0 rfl ?_
        exact gl_weak (vs := [some (.ref 757), some (.ref p1), none, none, none, none, none, some (.int (x2 - (9 : Int32))), none]) ⟨rfl, rfl, rfl, trivial⟩ (xt_209_95  hP p1 (x2 - (9 : Int32)) (0 : Int32) sce21 mre21 are21 ale21 hp1 h)
      · have h := (if_neg c22).symm.trans h
        refine gl_aload_n (gX_LK b) y_209_75 rfl rfl ?_
        refine gl_getA (gX_LK b) y_209_76 yf_209_37 ys_757 rfl rfl rfl rfl ?_
        refine gl_get (gX_LK b) y_209_79 yf_209_88 ys_736 rfl rfl rfl rfl ?_
        refine gl_iload (gX_LK b) y_209_82 rfl rfl ?_
        refine gl_ishr (gX_LK b) y_209_84 rfl ?_
        refine gl_iconst (gX_LK b) y_209_85 ci_1 rfl ?_
        refine gl_iand (gX_LK b) y_209_86 rfl ?_
        refine gl_if_eq (gX_LK b) y_209_87 rfl rfl (fun c23 => ?_) (fun c23 => ?_)
        · have h := (if_pos c23).symm.trans h
          refine gl_iconst (gX_LK b) y_209_94 ci_0 rfl ?_
          exact gl_weak (vs := [some (.ref 757), some (.ref p1), none, none, none, none, none, some (.int (x2 - (9 : Int32))), none]) ⟨rfl, rfl, rfl, trivial⟩ (xt_209_95  hP p1 (x2 - (9 : Int32)) (0 : Int32) sce21 mre21 are21 ale21 hp1 h)
        · have h := (if_neg c23).symm.trans h
          refine gl_iconst (gX_LK b) y_209_90 ci_1 rfl ?_
          refine gl_goto (gX_LK b) y_209_91 rfl ?_
          exact gl_weak (vs := [some (.ref 757), some (.ref p1), none, none, none, none, none, some (.int (x2 - (9 : Int32))), none]) ⟨rfl, rfl, rfl, trivial⟩ (xt_209_95  hP p1 (x2 - (9 : Int32)) (1 : Int32) sce21 mre21 are21 ale21 hp1 h)
  · have h := (if_neg c11).symm.trans h
    refine gl_aload_n (gX_LK b) y_209_27 rfl rfl ?_
    refine gl_iconst (gX_LK b) y_209_28 ci_1 rfl ?_
    refine gl_bipush (gX_LK b) y_209_29 cb_8 rfl ?_
    refine gl_iload_n (gX_LK b) y_209_31 rfl rfl ?_
    refine gl_iadd (gX_LK b) y_209_32 rfl ?_
    refine gl_ishl (gX_LK b) y_209_33 rfl ?_
    refine gl_put (sc' := (j_u2 sce10 757 3 ((1 : Int32) <<< (((8 : Int32) + x2) &&& 31)))) (gX_LK b) y_209_34 yf_209_15 ys_757 rfl rfl rfl rfl rfl ?_
    refine gl_aload_n (gX_LK b) y_209_37 rfl rfl ?_
    obtain ⟨c24, h⟩ := o_ck h
    refine gl_getA (gX_LK b) y_209_38 yf_209_41 ys_757 rfl rfl rfl rfl ?_
    refine gl_getA (gX_LK b) y_209_41 yf_209_73 (ys_pr c24) rfl rfl (yr_pr3 c24) rfl ?_
    refine gl_iconst (gX_LK b) y_209_44 ci_1 rfl ?_
    refine gl_iload_n (gX_LK b) y_209_45 rfl rfl ?_
    refine gl_iadd (gX_LK b) y_209_46 rfl ?_
    obtain ⟨c25, h⟩ := o_ck h
    refine gl_iaload (gX_LK b) y_209_47 (ys_pr3 c24) c25 rfl rfl ?_
    refine gl_istore (vs2 := [some (.ref 757), some (.ref p1), some (.int x2), some (.int x3), some (.int (-1 : Int32)), some (.int (are10 ((mre10 3) + 3) (iN ((1 : Int32) + x2)))), some (.int ve9), none, none]) (gX_LK b) y_209_48 rfl rfl rfl rfl ?_
    refine gl_goto (gX_LK b) y_209_50 rfl ?_
    refine gl_aload_n (gX_LK b) y_209_203 rfl rfl ?_
    refine gl_aload_n (gX_LK b) y_209_204 rfl rfl ?_
    refine gl_iload (gX_LK b) y_209_205 rfl rfl ?_
    obtain ⟨sce26, mre26, are26, ale26, e26, h⟩ := o_k4 h
    refine gl_callV (gX_LK b) y_209_207 ym_209_78 rfl rfl rfl ys_757 yx_213 rfl rfl ((xt_213 )  _ _ _ hp1 _ _ _ _ _ _ _ _ e26 ?_)
    refine gl_iload (gX_LK b) y_209_210 rfl rfl ?_
    exact gl_ireturn y_209_212 (Or.inl yt_209) (by cases h; exact hP)
/-- ClickOrders$Page.isBroken()Z -/
def xT_228 (b : Bool) (rf : jRf) (F : Nat → jSc → (Nat → Nat) → jSc → jAl → Option (Int32 × jSc × (Nat → Nat) × jSc × jAl)) (e : Nat) : Prop := ∀  (Post : jPo) (p0 : Nat) (hp0 : x_pg p0 = true) (sc : jSc) (mr : (Nat → Nat)) (ar : jSc) (al : jAl) (r9 : Int32) (sc9 : jSc) (mr9 : (Nat → Nat)) (ar9 : jSc) (al9 : jAl), F p0 sc mr ar al = some (r9, sc9, mr9, ar9, al9) → Post (some (.int r9)) sc9 (x_mk mr9 rf) ar9 al9 → gW (gX b) 228 e 0 (j_av [.ref p0]) [] sc (x_mk mr rf) ar al Post
def xF_228 (p0 : Nat) (sc : jSc) (mr : (Nat → Nat)) (ar : jSc) (al : jAl) : Option (Int32 × jSc × (Nat → Nat) × jSc × jAl) :=
  (if (ar (p0 + 1) 14) = 0 then some ((0 : Int32), sc, mr, ar, al) else some ((1 : Int32), sc, mr, ar, al))
set_option maxHeartbeats 4000000 in
theorem xt_228 {b : Bool} {rf : jRf} {d : Nat} : xT_228 b rf xF_228 (d + 1) := by
  intro  Post p0 hp0 sc mr ar al r9 sc9 mr9 ar9 al9 h hP
  unfold xF_228 at h
  refine gl_entry (m := 0) rfl ?_
  show gL (gX b) 228 (d + 1) 0 [some (.ref p0)] [] sc (x_mk mr rf) ar al Post
  refine gl_aload_n (gX_LK b) y_228_0 rfl rfl ?_
  refine gl_getA (gX_LK b) y_228_1 yf_228_11 (ys_pg hp0) rfl rfl (yr_pg hp0) rfl ?_
  refine gl_bipush (gX_LK b) y_228_4 cb_14 rfl ?_
  refine gl_iaload (gX_LK b) y_228_6 (ys_pgc hp0) (by decide) rfl rfl ?_
  refine gl_if_eq (gX_LK b) y_228_7 rfl rfl (fun c1 => ?_) (fun c1 => ?_)
  · have h := (if_pos c1).symm.trans h
    refine gl_iconst (gX_LK b) y_228_14 ci_0 rfl ?_
    exact gl_ireturn y_228_15 (Or.inr ⟨yt_228, Or.inl rfl⟩) (by cases h; exact hP)
  · have h := (if_neg c1).symm.trans h
    refine gl_iconst (gX_LK b) y_228_10 ci_1 rfl ?_
    refine gl_goto (gX_LK b) y_228_11 rfl ?_
    exact gl_ireturn y_228_15 (Or.inr ⟨yt_228, Or.inr rfl⟩) (by cases h; exact hP)
/-- ClickOrders$Page.allWaiting()I -/
def xT_231 (b : Bool) (rf : jRf) (F : Nat → jSc → (Nat → Nat) → jSc → jAl → Option (Int32 × jSc × (Nat → Nat) × jSc × jAl)) (e : Nat) : Prop := ∀  (Post : jPo) (p0 : Nat) (hp0 : x_pg p0 = true) (sc : jSc) (mr : (Nat → Nat)) (ar : jSc) (al : jAl) (r9 : Int32) (sc9 : jSc) (mr9 : (Nat → Nat)) (ar9 : jSc) (al9 : jAl), F p0 sc mr ar al = some (r9, sc9, mr9, ar9, al9) → Post (some (.int r9)) sc9 (x_mk mr9 rf) ar9 al9 → gW (gX b) 231 e 0 (j_av [.ref p0]) [] sc (x_mk mr rf) ar al Post
def xF_231 (p0 : Nat) (sc : jSc) (mr : (Nat → Nat)) (ar : jSc) (al : jAl) : Option (Int32 × jSc × (Nat → Nat) × jSc × jAl) :=
  some (((((ar (p0 + 1) 15) + (ar (p0 + 1) 16)) + (ar (p0 + 1) 17)) + (ar (p0 + 1) 18)), sc, mr, ar, al)
set_option maxHeartbeats 4000000 in
theorem xt_231 {b : Bool} {rf : jRf} {d : Nat} : xT_231 b rf xF_231 (d + 1) := by
  intro  Post p0 hp0 sc mr ar al r9 sc9 mr9 ar9 al9 h hP
  unfold xF_231 at h
  refine gl_entry (m := 0) rfl ?_
  show gL (gX b) 231 (d + 1) 0 [some (.ref p0)] [] sc (x_mk mr rf) ar al Post
  refine gl_aload_n (gX_LK b) y_231_0 rfl rfl ?_
  refine gl_getA (gX_LK b) y_231_1 yf_231_11 (ys_pg hp0) rfl rfl (yr_pg hp0) rfl ?_
  refine gl_bipush (gX_LK b) y_231_4 cb_15 rfl ?_
  refine gl_iaload (gX_LK b) y_231_6 (ys_pgc hp0) (by decide) rfl rfl ?_
  refine gl_aload_n (gX_LK b) y_231_7 rfl rfl ?_
  refine gl_getA (gX_LK b) y_231_8 yf_231_11 (ys_pg hp0) rfl rfl (yr_pg hp0) rfl ?_
  refine gl_bipush (gX_LK b) y_231_11 cb_16 rfl ?_
  refine gl_iaload (gX_LK b) y_231_13 (ys_pgc hp0) (by decide) rfl rfl ?_
  refine gl_iadd (gX_LK b) y_231_14 rfl ?_
  refine gl_aload_n (gX_LK b) y_231_15 rfl rfl ?_
  refine gl_getA (gX_LK b) y_231_16 yf_231_11 (ys_pg hp0) rfl rfl (yr_pg hp0) rfl ?_
  refine gl_bipush (gX_LK b) y_231_19 cb_17 rfl ?_
  refine gl_iaload (gX_LK b) y_231_21 (ys_pgc hp0) (by decide) rfl rfl ?_
  refine gl_iadd (gX_LK b) y_231_22 rfl ?_
  refine gl_aload_n (gX_LK b) y_231_23 rfl rfl ?_
  refine gl_getA (gX_LK b) y_231_24 yf_231_11 (ys_pg hp0) rfl rfl (yr_pg hp0) rfl ?_
  refine gl_bipush (gX_LK b) y_231_27 cb_18 rfl ?_
  refine gl_iaload (gX_LK b) y_231_29 (ys_pgc hp0) (by decide) rfl rfl ?_
  refine gl_iadd (gX_LK b) y_231_30 rfl ?_
  exact gl_ireturn y_231_31 (Or.inl yt_231) (by cases h; exact hP)
/-- ClickOrders$Page.isQuiet()Z -/
def xT_234 (b : Bool) (rf : jRf) (F : Nat → jSc → (Nat → Nat) → jSc → jAl → Option (Int32 × jSc × (Nat → Nat) × jSc × jAl)) (e : Nat) : Prop := ∀  (Post : jPo) (p0 : Nat) (hp0 : x_pg p0 = true) (sc : jSc) (mr : (Nat → Nat)) (ar : jSc) (al : jAl) (r9 : Int32) (sc9 : jSc) (mr9 : (Nat → Nat)) (ar9 : jSc) (al9 : jAl), F p0 sc mr ar al = some (r9, sc9, mr9, ar9, al9) → Post (some (.int r9)) sc9 (x_mk mr9 rf) ar9 al9 → gW (gX b) 234 e 0 (j_av [.ref p0]) [] sc (x_mk mr rf) ar al Post
def xF_234 (p0 : Nat) (sc : jSc) (mr : (Nat → Nat)) (ar : jSc) (al : jAl) : Option (Int32 × jSc × (Nat → Nat) × jSc × jAl) :=
  (if (ar (p0 + 1) 19) = 0 then (o_b5 (xF_231 p0 sc mr ar al) (fun ve2 sce2 mre2 are2 ale2 => (if ve2 = 0 then some ((1 : Int32), sce2, mre2, are2, ale2) else some ((0 : Int32), sce2, mre2, are2, ale2)))) else some ((0 : Int32), sc, mr, ar, al))
set_option maxHeartbeats 4000000 in
theorem xt_234 {b : Bool} {rf : jRf} {d : Nat} : xT_234 b rf xF_234 (d + 2) := by
  intro  Post p0 hp0 sc mr ar al r9 sc9 mr9 ar9 al9 h hP
  unfold xF_234 at h
  refine gl_entry (m := 0) rfl ?_
  show gL (gX b) 234 (d + 2) 0 [some (.ref p0)] [] sc (x_mk mr rf) ar al Post
  refine gl_aload_n (gX_LK b) y_234_0 rfl rfl ?_
  refine gl_getA (gX_LK b) y_234_1 yf_234_11 (ys_pg hp0) rfl rfl (yr_pg hp0) rfl ?_
  refine gl_bipush (gX_LK b) y_234_4 cb_19 rfl ?_
  refine gl_iaload (gX_LK b) y_234_6 (ys_pgc hp0) (by decide) rfl rfl ?_
  refine gl_if_ne (gX_LK b) y_234_7 rfl rfl (fun c1 => ?_) (fun c1 => ?_)
  · have h := (if_pos c1).symm.trans h
    refine gl_aload_n (gX_LK b) y_234_10 rfl rfl ?_
    obtain ⟨ve2, sce2, mre2, are2, ale2, e2, h⟩ := o_k5 h
    refine gl_callV (gX_LK b) y_234_11 ym_234_27 rfl rfl rfl (ys_pg hp0) yx_231 rfl rfl ((xt_231 )  _ _ hp0 _ _ _ _ _ _ _ _ _ e2 ?_)
    refine gl_if_ne (gX_LK b) y_234_14 rfl rfl (fun c3 => ?_) (fun c3 => ?_)
    · have h := (if_pos c3).symm.trans h
      refine gl_iconst (gX_LK b) y_234_17 ci_1 rfl ?_
      refine gl_goto (gX_LK b) y_234_18 rfl ?_
      exact gl_ireturn y_234_22 (Or.inr ⟨yt_234, Or.inr rfl⟩) (by cases h; exact hP)
    · have h := (if_neg c3).symm.trans h
      refine gl_iconst (gX_LK b) y_234_21 ci_0 rfl ?_
      exact gl_ireturn y_234_22 (Or.inr ⟨yt_234, Or.inl rfl⟩) (by cases h; exact hP)
  · have h := (if_neg c1).symm.trans h
    refine gl_iconst (gX_LK b) y_234_21 ci_0 rfl ?_
    exact gl_ireturn y_234_22 (Or.inr ⟨yt_234, Or.inl rfl⟩) (by cases h; exact hP)
/-- ClickOrders$Hand.isBad(LClickOrders$Page;)Z -/
def xT_210 (b : Bool) (rf : jRf) (F : Nat → jSc → (Nat → Nat) → jSc → jAl → Option (Int32 × jSc × (Nat → Nat) × jSc × jAl)) (e : Nat) : Prop := ∀  (Post : jPo) (p1 : Nat) (hp1 : x_pg p1 = true) (sc : jSc) (mr : (Nat → Nat)) (ar : jSc) (al : jAl) (r9 : Int32) (sc9 : jSc) (mr9 : (Nat → Nat)) (ar9 : jSc) (al9 : jAl), F p1 sc mr ar al = some (r9, sc9, mr9, ar9, al9) → Post (some (.int r9)) sc9 (x_mk mr9 rf) ar9 al9 → gW (gX b) 210 e 0 (j_av [.ref 757, .ref p1]) [] sc (x_mk mr rf) ar al Post
def xF_210 (p1 : Nat) (sc : jSc) (mr : (Nat → Nat)) (ar : jSc) (al : jAl) : Option (Int32 × jSc × (Nat → Nat) × jSc × jAl) :=
  (o_b5 (xF_228 p1 sc mr ar al) (fun ve1 sce1 mre1 are1 ale1 => (if ve1 = 0 then (if x_pr (mre1 3) = true then (if (sce1 (mre1 3) 7) < 0 then (o_b5 (xF_228 p1 sce1 mre1 are1 ale1) (fun ve5 sce5 mre5 are5 ale5 => (if ve5 = 0 ∨ ve5 = 1 then some (ve5, sce5, mre5, are5, ale5) else none))) else (o_b5 (xF_234 p1 sce1 mre1 are1 ale1) (fun ve7 sce7 mre7 are7 ale7 => (if ve7 = 0 then (o_b5 (xF_228 p1 sce7 mre7 are7 ale7) (fun ve9 sce9 mre9 are9 ale9 => (if ve9 = 0 ∨ ve9 = 1 then some (ve9, sce9, mre9, are9, ale9) else none))) else (if x_pr (mre7 3) = true then (o_b4 (xF_213 p1 ((j_u2 sce7 757 7 (0 : Int32)) (mre7 3) 7) (j_u2 sce7 757 7 (0 : Int32)) mre7 are7 ale7) (fun sce12 mre12 are12 ale12 => (if (are12 758 0) = 0 then some ((0 : Int32), sce12, mre12, are12, ale12) else some ((1 : Int32), sce12, mre12, are12, ale12)))) else none))))) else none) else (o_b5 (xF_228 p1 sce1 mre1 are1 ale1) (fun ve14 sce14 mre14 are14 ale14 => (if ve14 = 0 ∨ ve14 = 1 then some (ve14, sce14, mre14, are14, ale14) else none))))))
set_option maxHeartbeats 4000000 in
theorem xt_210 {b : Bool} {rf : jRf} {d : Nat} : xT_210 b rf xF_210 (d + 4) := by
  intro  Post p1 hp1 sc mr ar al r9 sc9 mr9 ar9 al9 h hP
  unfold xF_210 at h
  refine gl_entry (m := 0) rfl ?_
  show gL (gX b) 210 (d + 4) 0 [some (.ref 757), some (.ref p1)] [] sc (x_mk mr rf) ar al Post
  refine gl_aload_n (gX_LK b) y_210_0 rfl rfl ?_
  obtain ⟨ve1, sce1, mre1, are1, ale1, e1, h⟩ := o_k5 h
  refine gl_callV (gX_LK b) y_210_1 ym_210_103 rfl rfl rfl (ys_pg hp1) yx_228 rfl rfl ((xt_228 )  _ _ hp1 _ _ _ _ _ _ _ _ _ e1 ?_)
  refine gl_if_ne (gX_LK b) y_210_4 rfl rfl (fun c2 => ?_) (fun c2 => ?_)
  · have h := (if_pos c2).symm.trans h
    refine gl_aload_n (gX_LK b) y_210_7 rfl rfl ?_
    obtain ⟨c3, h⟩ := o_ck h
    refine gl_getA (gX_LK b) y_210_8 yf_210_41 ys_757 rfl rfl rfl rfl ?_
    refine gl_get (gX_LK b) y_210_11 yf_210_107 (ys_pr c3) rfl rfl rfl rfl ?_
    refine gl_if_lt (gX_LK b) y_210_14 rfl rfl (fun c4 => ?_) (fun c4 => ?_)
    · have h := (if_pos c4).symm.trans h
      refine gl_aload_n (gX_LK b) y_210_24 rfl rfl ?_
      obtain ⟨ve5, sce5, mre5, are5, ale5, e5, h⟩ := o_k5 h
      refine gl_callV (gX_LK b) y_210_25 ym_210_103 rfl rfl rfl (ys_pg hp1) yx_228 rfl rfl ((xt_228 )  _ _ hp1 _ _ _ _ _ _ _ _ _ e5 ?_)
      obtain ⟨c6, h⟩ := o_ck h
      exact gl_ireturn y_210_28 (Or.inr ⟨yt_210, c6⟩) (by cases h; exact hP)
    · have h := (if_neg c4).symm.trans h
      refine gl_aload_n (gX_LK b) y_210_17 rfl rfl ?_
      obtain ⟨ve7, sce7, mre7, are7, ale7, e7, h⟩ := o_k5 h
      refine gl_callV (gX_LK b) y_210_18 ym_210_110 rfl rfl rfl (ys_pg hp1) yx_234 rfl rfl ((xt_234 )  _ _ hp1 _ _ _ _ _ _ _ _ _ e7 ?_)
      refine gl_if_ne (gX_LK b) y_210_21 rfl rfl (fun c8 => ?_) (fun c8 => ?_)
      · have h := (if_pos c8).symm.trans h
        refine gl_aload_n (gX_LK b) y_210_24 rfl rfl ?_
        obtain ⟨ve9, sce9, mre9, are9, ale9, e9, h⟩ := o_k5 h
        refine gl_callV (gX_LK b) y_210_25 ym_210_103 rfl rfl rfl (ys_pg hp1) yx_228 rfl rfl ((xt_228 )  _ _ hp1 _ _ _ _ _ _ _ _ _ e9 ?_)
        obtain ⟨c10, h⟩ := o_ck h
        exact gl_ireturn y_210_28 (Or.inr ⟨yt_210, c10⟩) (by cases h; exact hP)
      · have h := (if_neg c8).symm.trans h
        refine gl_aload_n (gX_LK b) y_210_29 rfl rfl ?_
        refine gl_iconst (gX_LK b) y_210_30 ci_0 rfl ?_
        refine gl_put (sc' := (j_u2 sce7 757 7 (0 : Int32))) (gX_LK b) y_210_31 yf_210_28 ys_757 rfl rfl rfl rfl rfl ?_
        refine gl_aload_n (gX_LK b) y_210_34 rfl rfl ?_
        refine gl_aload_n (gX_LK b) y_210_35 rfl rfl ?_
        refine gl_aload_n (gX_LK b) y_210_36 rfl rfl ?_
        obtain ⟨c11, h⟩ := o_ck h
        refine gl_getA (gX_LK b) y_210_37 yf_210_41 ys_757 rfl rfl rfl rfl ?_
        refine gl_get (gX_LK b) y_210_40 yf_210_107 (ys_pr c11) rfl rfl rfl rfl ?_
        obtain ⟨sce12, mre12, are12, ale12, e12, h⟩ := o_k4 h
        refine gl_callV (gX_LK b) y_210_43 ym_210_78 rfl rfl rfl ys_757 yx_213 rfl rfl ((xt_213 )  _ _ _ hp1 _ _ _ _ _ _ _ _ e12 ?_)
        refine gl_aload_n (gX_LK b) y_210_46 rfl rfl ?_
        refine gl_getA (gX_LK b) y_210_47 yf_210_11 ys_757 rfl rfl rfl rfl ?_
        refine gl_iconst (gX_LK b) y_210_50 ci_0 rfl ?_
        refine gl_iaload (gX_LK b) y_210_51 ys_758 (by decide) rfl rfl ?_
        refine gl_if_eq (gX_LK b) y_210_52 rfl rfl (fun c13 => ?_) (fun c13 => ?_)
        · have h := (if_pos c13).symm.trans h
          refine gl_iconst (gX_LK b) y_210_59 ci_0 rfl ?_
          exact gl_ireturn y_210_60 (Or.inr ⟨yt_210, Or.inl rfl⟩) (by cases h; exact hP)
        · have h := (if_neg c13).symm.trans h
          refine gl_iconst (gX_LK b) y_210_55 ci_1 rfl ?_
          refine gl_goto (gX_LK b) y_210_56 rfl ?_
          exact gl_ireturn y_210_60 (Or.inr ⟨yt_210, Or.inr rfl⟩) (by cases h; exact hP)
  · have h := (if_neg c2).symm.trans h
    refine gl_aload_n (gX_LK b) y_210_24 rfl rfl ?_
    obtain ⟨ve14, sce14, mre14, are14, ale14, e14, h⟩ := o_k5 h
    refine gl_callV (gX_LK b) y_210_25 ym_210_103 rfl rfl rfl (ys_pg hp1) yx_228 rfl rfl ((xt_228 )  _ _ hp1 _ _ _ _ _ _ _ _ _ e14 ?_)
    obtain ⟨c15, h⟩ := o_ck h
    exact gl_ireturn y_210_28 (Or.inr ⟨yt_210, c15⟩) (by cases h; exact hP)
/-- ClickOrders$Hand.isGood(LClickOrders$Page;)Z -/
def xT_211 (b : Bool) (rf : jRf) (F : Nat → jSc → (Nat → Nat) → jSc → jAl → Option (Int32 × jSc × (Nat → Nat) × jSc × jAl)) (e : Nat) : Prop := ∀  (Post : jPo) (p1 : Nat) (hp1 : x_pg p1 = true) (sc : jSc) (mr : (Nat → Nat)) (ar : jSc) (al : jAl) (r9 : Int32) (sc9 : jSc) (mr9 : (Nat → Nat)) (ar9 : jSc) (al9 : jAl), F p1 sc mr ar al = some (r9, sc9, mr9, ar9, al9) → Post (some (.int r9)) sc9 (x_mk mr9 rf) ar9 al9 → gW (gX b) 211 e 0 (j_av [.ref 757, .ref p1]) [] sc (x_mk mr rf) ar al Post
def xF_211 (p1 : Nat) (sc : jSc) (mr : (Nat → Nat)) (ar : jSc) (al : jAl) : Option (Int32 × jSc × (Nat → Nat) × jSc × jAl) :=
  (if x_pr (mr 3) = true then (if 0 ≤ (sc (mr 3) 8) then (if x_pr (mr 3) = true then (o_b4 (xF_213 p1 ((j_u2 sc 757 7 (0 : Int32)) (mr 3) 8) (j_u2 sc 757 7 (0 : Int32)) mr ar al) (fun sce4 mre4 are4 ale4 => (if (are4 758 0) = 0 then some ((0 : Int32), sce4, mre4, are4, ale4) else some ((1 : Int32), sce4, mre4, are4, ale4)))) else none) else some ((1 : Int32), sc, mr, ar, al)) else none)
set_option maxHeartbeats 4000000 in
theorem xt_211 {b : Bool} {rf : jRf} {d : Nat} : xT_211 b rf xF_211 (d + 4) := by
  intro  Post p1 hp1 sc mr ar al r9 sc9 mr9 ar9 al9 h hP
  unfold xF_211 at h
  refine gl_entry (m := 0) rfl ?_
  show gL (gX b) 211 (d + 4) 0 [some (.ref 757), some (.ref p1)] [] sc (x_mk mr rf) ar al Post
  refine gl_aload_n (gX_LK b) y_211_0 rfl rfl ?_
  obtain ⟨c1, h⟩ := o_ck h
  refine gl_getA (gX_LK b) y_211_1 yf_211_41 ys_757 rfl rfl rfl rfl ?_
  refine gl_get (gX_LK b) y_211_4 yf_211_113 (ys_pr c1) rfl rfl rfl rfl ?_
  refine gl_if_ge (gX_LK b) y_211_7 rfl rfl (fun c2 => ?_) (fun c2 => ?_)
  · have h := (if_pos c2).symm.trans h
    refine gl_aload_n (gX_LK b) y_211_12 rfl rfl ?_
    refine gl_iconst (gX_LK b) y_211_13 ci_0 rfl ?_
    refine gl_put (sc' := (j_u2 sc 757 7 (0 : Int32))) (gX_LK b) y_211_14 yf_211_28 ys_757 rfl rfl rfl rfl rfl ?_
    refine gl_aload_n (gX_LK b) y_211_17 rfl rfl ?_
    refine gl_aload_n (gX_LK b) y_211_18 rfl rfl ?_
    refine gl_aload_n (gX_LK b) y_211_19 rfl rfl ?_
    obtain ⟨c3, h⟩ := o_ck h
    refine gl_getA (gX_LK b) y_211_20 yf_211_41 ys_757 rfl rfl rfl rfl ?_
    refine gl_get (gX_LK b) y_211_23 yf_211_113 (ys_pr c3) rfl rfl rfl rfl ?_
    obtain ⟨sce4, mre4, are4, ale4, e4, h⟩ := o_k4 h
    refine gl_callV (gX_LK b) y_211_26 ym_211_78 rfl rfl rfl ys_757 yx_213 rfl rfl ((xt_213 )  _ _ _ hp1 _ _ _ _ _ _ _ _ e4 ?_)
    refine gl_aload_n (gX_LK b) y_211_29 rfl rfl ?_
    refine gl_getA (gX_LK b) y_211_30 yf_211_11 ys_757 rfl rfl rfl rfl ?_
    refine gl_iconst (gX_LK b) y_211_33 ci_0 rfl ?_
    refine gl_iaload (gX_LK b) y_211_34 ys_758 (by decide) rfl rfl ?_
    refine gl_if_eq (gX_LK b) y_211_35 rfl rfl (fun c5 => ?_) (fun c5 => ?_)
    · have h := (if_pos c5).symm.trans h
      refine gl_iconst (gX_LK b) y_211_42 ci_0 rfl ?_
      exact gl_ireturn y_211_43 (Or.inr ⟨yt_211, Or.inl rfl⟩) (by cases h; exact hP)
    · have h := (if_neg c5).symm.trans h
      refine gl_iconst (gX_LK b) y_211_38 ci_1 rfl ?_
      refine gl_goto (gX_LK b) y_211_39 rfl ?_
      exact gl_ireturn y_211_43 (Or.inr ⟨yt_211, Or.inr rfl⟩) (by cases h; exact hP)
  · have h := (if_neg c2).symm.trans h
    refine gl_iconst (gX_LK b) y_211_10 ci_1 rfl ?_
    exact gl_ireturn y_211_11 (Or.inr ⟨yt_211, Or.inr rfl⟩) (by cases h; exact hP)
/-- ClickOrders$Met.empties()V -/
def xT_219 (b : Bool) (rf : jRf) (F : jSc → (Nat → Nat) → jSc → jAl → Option (jSc × (Nat → Nat) × jSc × jAl)) (e : Nat) : Prop := ∀  (Post : jPo) (sc : jSc) (mr : (Nat → Nat)) (ar : jSc) (al : jAl) (sc9 : jSc) (mr9 : (Nat → Nat)) (ar9 : jSc) (al9 : jAl), F sc mr ar al = some (sc9, mr9, ar9, al9) → Post none sc9 (x_mk mr9 rf) ar9 al9 → gW (gX b) 219 e 0 (j_av [.ref 774]) [] sc (x_mk mr rf) ar al Post
def xF_219_2 : Nat → Int32 → jSc → (Nat → Nat) → jSc → jAl → Option (jSc × (Nat → Nat) × jSc × jAl)
  | 0, _, _, _, _, _ => none
  | nn + 1, x1, sc, mr, ar, al => (if (sc 774 0) ≤ x1 then some ((j_u2 sc 774 0 (0 : Int32)), mr, ar, al) else (if iB x1 2048 then (if iB (ar 777 (iN x1)) 8192 then xF_219_2 nn (x1 + (1 : Int32)) sc mr (j_u2 ar 776 (iN (ar 777 (iN x1))) (0 : Int32)) al else none) else none))
set_option maxHeartbeats 4000000 in
theorem xt_219_2 {b : Bool} {rf : jRf} {d : Nat} {Post : jPo} {sc9 : jSc} {mr9 : (Nat → Nat)} {ar9 : jSc} {al9 : jAl} (hP : Post none sc9 (x_mk mr9 rf) ar9 al9) : ∀ (nn : Nat) (x1 : Int32) (sc : jSc) (mr : (Nat → Nat)) (ar : jSc) (al : jAl), xF_219_2 nn x1 sc mr ar al = some (sc9, mr9, ar9, al9) → gL (gX b) 219 (d + 1) 2 [some (.ref 774), some (.int x1)] [] sc (x_mk mr rf) ar al Post := by
  intro nn
  induction nn with
  | zero =>
    intro x1 sc mr ar al h
    have h : (none : Option (jSc × (Nat → Nat) × jSc × jAl)) = some _ := h
    cases h
  | succ nn ih =>
    intro x1 sc mr ar al h
    unfold xF_219_2 at h
    refine gl_iload_n (gX_LK b) y_219_2 rfl rfl ?_
    refine gl_aload_n (gX_LK b) y_219_3 rfl rfl ?_
    refine gl_get (gX_LK b) y_219_4 yf_219_9 ys_774 rfl rfl rfl rfl ?_
    refine gl_ic_ge (gX_LK b) y_219_7 rfl rfl (fun c1 => ?_) (fun c1 => ?_)
    · have h := (if_pos c1).symm.trans h
      refine gl_aload_n (gX_LK b) y_219_28 rfl rfl ?_
      refine gl_iconst (gX_LK b) y_219_29 ci_0 rfl ?_
      refine gl_put (sc' := (j_u2 sc 774 0 (0 : Int32))) (gX_LK b) y_219_30 yf_219_9 ys_774 rfl rfl rfl rfl rfl ?_
      exact gl_return y_219_33 yt_219 (by cases h; exact hP)
    · have h := (if_neg c1).symm.trans h
      refine gl_aload_n (gX_LK b) y_219_10 rfl rfl ?_
      refine gl_getA (gX_LK b) y_219_11 yf_219_22 ys_774 rfl rfl rfl rfl ?_
      refine gl_aload_n (gX_LK b) y_219_14 rfl rfl ?_
      refine gl_getA (gX_LK b) y_219_15 yf_219_25 ys_774 rfl rfl rfl rfl ?_
      refine gl_iload_n (gX_LK b) y_219_18 rfl rfl ?_
      obtain ⟨c2, h⟩ := o_ck h
      refine gl_iaload (gX_LK b) y_219_19 ys_777 c2 rfl rfl ?_
      refine gl_iconst (gX_LK b) y_219_20 ci_0 rfl ?_
      obtain ⟨c3, h⟩ := o_ck h
      refine gl_iastore (ar2 := (j_u2 ar 776 (iN (ar 777 (iN x1))) (0 : Int32))) (gX_LK b) y_219_21 ys_776 c3 rfl rfl ?_
      refine gl_iinc (vs2 := [some (.ref 774), some (.int (x1 + (1 : Int32)))]) (gX_LK b) y_219_22 rfl rfl rfl ci_1 rfl rfl ?_
      refine gl_goto (gX_LK b) y_219_25 rfl ?_
      exact gl_weak (vs := [some (.ref 774), some (.int (x1 + (1 : Int32)))]) ⟨rfl, rfl, trivial⟩ (ih (x1 + (1 : Int32)) sc mr (j_u2 ar 776 (iN (ar 777 (iN x1))) (0 : Int32)) al h)
def xF_219 (sc : jSc) (mr : (Nat → Nat)) (ar : jSc) (al : jAl) : Option (jSc × (Nat → Nat) × jSc × jAl) :=
  xF_219_2 oF (0 : Int32) sc mr ar al
set_option maxHeartbeats 4000000 in
theorem xt_219 {b : Bool} {rf : jRf} {d : Nat} : xT_219 b rf xF_219 (d + 1) := by
  intro  Post  sc mr ar al sc9 mr9 ar9 al9 h hP
  unfold xF_219 at h
  refine gl_entry (m := 1) rfl ?_
  show gL (gX b) 219 (d + 1) 0 [some (.ref 774), none] [] sc (x_mk mr rf) ar al Post
  refine gl_iconst (gX_LK b) y_219_0 ci_0 rfl ?_
  refine gl_istore_n (vs2 := [some (.ref 774), some (.int (0 : Int32))]) (gX_LK b) y_219_1 rfl rfl rfl rfl ?_
  exact gl_weak (vs := [some (.ref 774), some (.int (0 : Int32))]) ⟨rfl, rfl, trivial⟩ (xt_219_2  hP oF (0 : Int32) sc mr ar al h)
/-- ClickOrders$Met.isAt(ILClickOrders$Page;)Z -/
def xT_223 (b : Bool) (rf : jRf) (F : Int32 → Nat → jSc → (Nat → Nat) → jSc → jAl → Option (Int32 × jSc × (Nat → Nat) × jSc × jAl)) (e : Nat) : Prop := ∀  (Post : jPo) (x1 : Int32) (p2 : Nat) (hp2 : x_pg p2 = true) (sc : jSc) (mr : (Nat → Nat)) (ar : jSc) (al : jAl) (r9 : Int32) (sc9 : jSc) (mr9 : (Nat → Nat)) (ar9 : jSc) (al9 : jAl), F x1 p2 sc mr ar al = some (r9, sc9, mr9, ar9, al9) → Post (some (.int r9)) sc9 (x_mk mr9 rf) ar9 al9 → gW (gX b) 223 e 0 (j_av [.ref 774, .int x1, .ref p2]) [] sc (x_mk mr rf) ar al Post
def xF_223_8 : Nat → Nat → Int32 → Int32 → jSc → (Nat → Nat) → jSc → jAl → Option (Int32 × jSc × (Nat → Nat) × jSc × jAl)
  | 0, _, _, _, _, _, _, _ => none
  | nn + 1, p2, x3, x4, sc, mr, ar, al => (if (sc 774 5) ≤ x4 then some ((1 : Int32), sc, mr, ar, al) else (if iB (x3 + x4) 71680 then (if iB x4 50 then (if (ar 775 (iN (x3 + x4))) = (ar (p2 + 1) (iN x4)) then xF_223_8 nn p2 x3 (x4 + (1 : Int32)) sc mr ar al else some ((0 : Int32), sc, mr, ar, al)) else none) else none))
set_option maxHeartbeats 4000000 in
theorem xt_223_8 {b : Bool} {rf : jRf} {d : Nat} {Post : jPo} {r9 : Int32} {sc9 : jSc} {mr9 : (Nat → Nat)} {ar9 : jSc} {al9 : jAl} (hP : Post (some (.int r9)) sc9 (x_mk mr9 rf) ar9 al9) : ∀ (nn : Nat) (p2 : Nat) (x3 : Int32) (x4 : Int32) (sc : jSc) (mr : (Nat → Nat)) (ar : jSc) (al : jAl), x_pg p2 = true → xF_223_8 nn p2 x3 x4 sc mr ar al = some (r9, sc9, mr9, ar9, al9) → gL (gX b) 223 (d + 1) 8 [some (.ref 774), none, some (.ref p2), some (.int x3), some (.int x4)] [] sc (x_mk mr rf) ar al Post := by
  intro nn
  induction nn with
  | zero =>
    intro p2 x3 x4 sc mr ar al hp2 h
    have h : (none : Option (Int32 × jSc × (Nat → Nat) × jSc × jAl)) = some _ := h
    cases h
  | succ nn ih =>
    intro p2 x3 x4 sc mr ar al hp2 h
    unfold xF_223_8 at h
    refine gl_iload (gX_LK b) y_223_8 rfl rfl ?_
    refine gl_aload_n (gX_LK b) y_223_10 rfl rfl ?_
    refine gl_get (gX_LK b) y_223_11 yf_223_31 ys_774 rfl rfl rfl rfl ?_
    refine gl_ic_ge (gX_LK b) y_223_14 rfl rfl (fun c1 => ?_) (fun c1 => ?_)
    · have h := (if_pos c1).symm.trans h
      refine gl_iconst (gX_LK b) y_223_44 ci_1 rfl ?_
      exact gl_ireturn y_223_45 (Or.inr ⟨yt_223, Or.inr rfl⟩) (by cases h; exact hP)
    · have h := (if_neg c1).symm.trans h
      refine gl_aload_n (gX_LK b) y_223_17 rfl rfl ?_
      refine gl_getA (gX_LK b) y_223_18 yf_223_18 ys_774 rfl rfl rfl rfl ?_
      refine gl_iload_n (gX_LK b) y_223_21 rfl rfl ?_
      refine gl_iload (gX_LK b) y_223_22 rfl rfl ?_
      refine gl_iadd (gX_LK b) y_223_24 rfl ?_
      obtain ⟨c2, h⟩ := o_ck h
      refine gl_iaload (gX_LK b) y_223_25 ys_775 c2 rfl rfl ?_
      refine gl_aload_n (gX_LK b) y_223_26 rfl rfl ?_
      refine gl_getA (gX_LK b) y_223_27 yf_223_46 (ys_pg hp2) rfl rfl (yr_pg hp2) rfl ?_
      refine gl_iload (gX_LK b) y_223_30 rfl rfl ?_
      obtain ⟨c3, h⟩ := o_ck h
      refine gl_iaload (gX_LK b) y_223_32 (ys_pgc hp2) c3 rfl rfl ?_
      refine gl_ic_eq (gX_LK b) y_223_33 rfl rfl (fun c4 => ?_) (fun c4 => ?_)
      · have h := (if_pos c4).symm.trans h
        refine gl_iinc (vs2 := [some (.ref 774), none, some (.ref p2), some (.int x3), some (.int (x4 + (1 : Int32)))]) (gX_LK b) y_223_38 rfl rfl rfl ci_1 rfl rfl ?_
        refine gl_goto (gX_LK b) y_223_41 rfl ?_
        exact gl_weak (vs := [some (.ref 774), none, some (.ref p2), some (.int x3), some (.int (x4 + (1 : Int32)))]) ⟨rfl, rfl, rfl, rfl, trivial⟩ (ih p2 x3 (x4 + (1 : Int32)) sc mr ar al hp2 h)
      · have h := (if_neg c4).symm.trans h
        refine gl_iconst (gX_LK b) y_223_36 ci_0 rfl ?_
        exact gl_ireturn y_223_37 (Or.inr ⟨yt_223, Or.inl rfl⟩) (by cases h; exact hP)
def xF_223 (x1 : Int32) (p2 : Nat) (sc : jSc) (mr : (Nat → Nat)) (ar : jSc) (al : jAl) : Option (Int32 × jSc × (Nat → Nat) × jSc × jAl) :=
  xF_223_8 oF p2 (x1 * (35 : Int32)) (0 : Int32) sc mr ar al
set_option maxHeartbeats 4000000 in
theorem xt_223 {b : Bool} {rf : jRf} {d : Nat} : xT_223 b rf xF_223 (d + 1) := by
  intro  Post x1 p2 hp2 sc mr ar al r9 sc9 mr9 ar9 al9 h hP
  unfold xF_223 at h
  refine gl_entry (m := 2) rfl ?_
  show gL (gX b) 223 (d + 1) 0 [some (.ref 774), some (.int x1), some (.ref p2), none, none] [] sc (x_mk mr rf) ar al Post
  refine gl_iload_n (gX_LK b) y_223_0 rfl rfl ?_
  refine gl_bipush (gX_LK b) y_223_1 cb_35 rfl ?_
  refine gl_imul (gX_LK b) y_223_3 rfl ?_
  refine gl_istore_n (vs2 := [some (.ref 774), some (.int x1), some (.ref p2), some (.int (x1 * (35 : Int32))), none]) (gX_LK b) y_223_4 rfl rfl rfl rfl ?_
  refine gl_iconst (gX_LK b) y_223_5 ci_0 rfl ?_
  refine gl_istore (vs2 := [some (.ref 774), some (.int x1), some (.ref p2), some (.int (x1 * (35 : Int32))), some (.int (0 : Int32))]) (gX_LK b) y_223_6 rfl rfl rfl rfl ?_
  exact gl_weak (vs := [some (.ref 774), none, some (.ref p2), some (.int (x1 * (35 : Int32))), some (.int (0 : Int32))]) ⟨rfl, rfl, rfl, rfl, trivial⟩ (xt_223_8  hP oF p2 (x1 * (35 : Int32)) (0 : Int32) sc mr ar al hp2 h)
