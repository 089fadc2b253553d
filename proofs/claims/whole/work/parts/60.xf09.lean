/-! ClickOrders: its methods as functions, and that the machine does what they say. -/
/-- ClickOrders$Row.spoilsWithout(I)Z -/
def xT_282 (b : Bool) (rf : jRf) (F : Int32 → jSc → (Nat → Nat) → jSc → jAl → Option (Int32 × jSc × (Nat → Nat) × jSc × jAl)) (e : Nat) : Prop := ∀  (Post : jPo) (x1 : Int32) (sc : jSc) (mr : (Nat → Nat)) (ar : jSc) (al : jAl) (r9 : Int32) (sc9 : jSc) (mr9 : (Nat → Nat)) (ar9 : jSc) (al9 : jAl), F x1 sc mr ar al = some (r9, sc9, mr9, ar9, al9) → Post (some (.int r9)) sc9 (x_mk mr9 rf) ar9 al9 → gW (gX b) 282 e 0 (j_av [.ref 819, .int x1]) [] sc (x_mk mr rf) ar al Post
def xF_282_13 : Nat → Int32 → Int32 → jSc → (Nat → Nat) → jSc → jAl → Option (Int32 × jSc × (Nat → Nat) × jSc × jAl)
  | 0, _, _, _, _, _, _ => none
  | nn + 1, x1, x2, sc, mr, ar, al => (if (sc 819 1) ≤ x2 then (o_b5 (xF_210 821 sc mr ar al) (fun ve2 sce2 mre2 are2 ale2 => (if ve2 = 0 ∨ ve2 = 1 then some (ve2, sce2, mre2, are2, ale2) else none))) else (if x2 = x1 then xF_282_13 nn x1 (x2 + (1 : Int32)) sc mr ar al else (if iB x2 40 then (o_b5 (xF_206 821 (ar 820 (iN x2)) sc mr ar al) (fun ve6 sce6 mre6 are6 ale6 => (if ve6 = 0 then xF_282_13 nn x1 (x2 + (1 : Int32)) sce6 mre6 are6 ale6 else (if iB x2 40 then (o_b5 (xF_209 821 (are6 820 (iN x2)) (-1 : Int32) sce6 mre6 are6 ale6) (fun ve9 sce9 mre9 are9 ale9 => xF_282_13 nn x1 (x2 + (1 : Int32)) sce9 mre9 are9 ale9)) else none)))) else none)))
set_option maxHeartbeats 4000000 in
theorem xt_282_13 {b : Bool} {rf : jRf} {d : Nat} {Post : jPo} {r9 : Int32} {sc9 : jSc} {mr9 : (Nat → Nat)} {ar9 : jSc} {al9 : jAl} (hP : Post (some (.int r9)) sc9 (x_mk mr9 rf) ar9 al9) : ∀ (nn : Nat) (x1 : Int32) (x2 : Int32) (sc : jSc) (mr : (Nat → Nat)) (ar : jSc) (al : jAl), xF_282_13 nn x1 x2 sc mr ar al = some (r9, sc9, mr9, ar9, al9) → gL (gX b) 282 (d + 5) 13 [some (.ref 819), some (.int x1), some (.int x2)] [] sc (x_mk mr rf) ar al Post := by
  intro nn
  induction nn with
  | zero =>
    intro x1 x2 sc mr ar al h
    have h : (none : Option (Int32 × jSc × (Nat → Nat) × jSc × jAl)) = some _ := h
    cases h
  | succ nn ih =>
    intro x1 x2 sc mr ar al h
    unfold xF_282_13 at h
    refine gl_iload_n (gX_LK b) y_282_13 rfl rfl ?_
    refine gl_aload_n (gX_LK b) y_282_14 rfl rfl ?_
    refine gl_get (gX_LK b) y_282_15 yf_282_15 ys_819 rfl rfl rfl rfl ?_
    refine gl_ic_ge (gX_LK b) y_282_18 rfl rfl (fun c1 => ?_) (fun c1 => ?_)
    · have h := (if_pos c1).symm.trans h
      refine gl_aload_n (gX_LK b) y_282_71 rfl rfl ?_
      refine gl_getA (gX_LK b) y_282_72 yf_282_26 ys_819 rfl rfl rfl rfl ?_
      refine gl_aload_n (gX_LK b) y_282_75 rfl rfl ?_
      refine gl_getA (gX_LK b) y_282_76 yf_282_22 ys_819 rfl rfl rfl rfl ?_
      obtain ⟨ve2, sce2, mre2, are2, ale2, e2, h⟩ := o_k5 h
      refine gl_callV (gX_LK b) y_282_79 ym_282_56 rfl rfl rfl ys_757 yx_210 rfl rfl ((xt_210 )  _ _ (show x_pg 821 = true from rfl) _ _ _ _ _ _ _ _ _ e2 ?_)
      obtain ⟨c3, h⟩ := o_ck h
      exact gl_ireturn y_282_82 (Or.inr ⟨yt_282, c3⟩) (by cases h; exact hP)
    · have h := (if_neg c1).symm.trans h
      refine gl_iload_n (gX_LK b) y_282_21 rfl rfl ?_
      refine gl_iload_n (gX_LK b) y_282_22 rfl rfl ?_
      refine gl_ic_eq (gX_LK b) y_282_23 rfl rfl (fun c4 => ?_) (fun c4 => ?_)
      · have h := (if_pos c4).symm.trans h
        refine gl_iinc (vs2 := [some (.ref 819), some (.int x1), some (.int (x2 + (1 : Int32)))]) (gX_LK b) y_282_65 rfl rfl rfl ci_1 rfl rfl ?_
        refine gl_goto (gX_LK b) y_282_68 rfl ?_
        exact gl_weak (vs := [some (.ref 819), some (.int x1), some (.int (x2 + (1 : Int32)))]) ⟨rfl, rfl, rfl, trivial⟩ (ih x1 (x2 + (1 : Int32)) sc mr ar al h)
      · have h := (if_neg c4).symm.trans h
        refine gl_aload_n (gX_LK b) y_282_26 rfl rfl ?_
        refine gl_getA (gX_LK b) y_282_27 yf_282_26 ys_819 rfl rfl rfl rfl ?_
        refine gl_aload_n (gX_LK b) y_282_30 rfl rfl ?_
        refine gl_getA (gX_LK b) y_282_31 yf_282_22 ys_819 rfl rfl rfl rfl ?_
        refine gl_aload_n (gX_LK b) y_282_34 rfl rfl ?_
        refine gl_getA (gX_LK b) y_282_35 yf_282_11 ys_819 rfl rfl rfl rfl ?_
        refine gl_iload_n (gX_LK b) y_282_38 rfl rfl ?_
        obtain ⟨c5, h⟩ := o_ck h
        refine gl_iaload (gX_LK b) y_282_39 ys_820 c5 rfl rfl ?_
        obtain ⟨ve6, sce6, mre6, are6, ale6, e6, h⟩ := o_k5 h
        refine gl_callV (gX_LK b) y_282_40 ym_282_36 rfl rfl rfl ys_757 yx_206 rfl rfl ((xt_206 )  _ _ _ (show x_pg 821 = true from rfl) _ _ _ _ _ _ _ _ _ e6 ?_)
        refine gl_if_eq (gX_LK b) y_282_43 rfl rfl (fun c7 => ?_) (fun c7 => ?_)
        · have h := (if_pos c7).symm.trans h
          refine gl_iinc (vs2 := [some (.ref 819), some (.int x1), some (.int (x2 + (1 : Int32)))]) (gX_LK b) y_282_65 rfl rfl rfl ci_1 rfl rfl ?_
          refine gl_goto (gX_LK b) y_282_68 rfl ?_
          exact gl_weak (vs := [some (.ref 819), some (.int x1), some (.int (x2 + (1 : Int32)))]) ⟨rfl, rfl, rfl, trivial⟩ (ih x1 (x2 + (1 : Int32)) sce6 mre6 are6 ale6 h)
        · have h := (if_neg c7).symm.trans h
          refine gl_aload_n (gX_LK b) y_282_46 rfl rfl ?_
          refine gl_getA (gX_LK b) y_282_47 yf_282_26 ys_819 rfl rfl rfl rfl ?_
          refine gl_aload_n (gX_LK b) y_282_50 rfl rfl ?_
          refine gl_getA (gX_LK b) y_282_51 yf_282_22 ys_819 rfl rfl rfl rfl ?_
          refine gl_aload_n (gX_LK b) y_282_54 rfl rfl ?_
          refine gl_getA (gX_LK b) y_282_55 yf_282_11 ys_819 rfl rfl rfl rfl ?_
          refine gl_iload_n (gX_LK b) y_282_58 rfl rfl ?_
          obtain ⟨c8, h⟩ := o_ck h
          refine gl_iaload (gX_LK b) y_282_59 ys_820 c8 rfl rfl ?_
          refine gl_iconst (gX_LK b) y_282_60 ci_m1 rfl ?_
          obtain ⟨ve9, sce9, mre9, are9, ale9, e9, h⟩ := o_k5 h
          refine gl_callV (gX_LK b) y_282_61 ym_282_40 rfl rfl rfl ys_757 yx_209 rfl rfl ((xt_209 )  _ _ _ _ (show x_pg 821 = true from rfl) _ _ _ _ _ _ _ _ _ e9 ?_)
          refine gl_pop (gX_LK b) y_282_64 rfl rfl ?_
          refine gl_iinc (vs2 := [some (.ref 819), some (.int x1), some (.int (x2 + (1 : Int32)))]) (gX_LK b) y_282_65 rfl rfl rfl ci_1 rfl rfl ?_
          refine gl_goto (gX_LK b) y_282_68 rfl ?_
          exact gl_weak (vs := [some (.ref 819), some (.int x1), some (.int (x2 + (1 : Int32)))]) ⟨rfl, rfl, rfl, trivial⟩ (ih x1 (x2 + (1 : Int32)) sce9 mre9 are9 ale9 h)
def xF_282 (x1 : Int32) (sc : jSc) (mr : (Nat → Nat)) (ar : jSc) (al : jAl) : Option (Int32 × jSc × (Nat → Nat) × jSc × jAl) :=
  (o_b4 (xF_207 821 sc mr ar al) (fun sce10 mre10 are10 ale10 => xF_282_13 oF x1 (0 : Int32) sce10 mre10 are10 ale10))
set_option maxHeartbeats 4000000 in
theorem xt_282 {b : Bool} {rf : jRf} {d : Nat} : xT_282 b rf xF_282 (d + 5) := by
  intro  Post x1 sc mr ar al r9 sc9 mr9 ar9 al9 h hP
  unfold xF_282 at h
  refine gl_entry (m := 1) rfl ?_
  show gL (gX b) 282 (d + 5) 0 [some (.ref 819), some (.int x1), none] [] sc (x_mk mr rf) ar al Post
  refine gl_aload_n (gX_LK b) y_282_0 rfl rfl ?_
  refine gl_getA (gX_LK b) y_282_1 yf_282_26 ys_819 rfl rfl rfl rfl ?_
  refine gl_aload_n (gX_LK b) y_282_4 rfl rfl ?_
  refine gl_getA (gX_LK b) y_282_5 yf_282_22 ys_819 rfl rfl rfl rfl ?_
  obtain ⟨sce10, mre10, are10, ale10, e10, h⟩ := o_k4 h
  refine gl_callV (gX_LK b) y_282_8 ym_282_30 rfl rfl rfl ys_757 yx_207 rfl rfl ((xt_207 )  _ _ (show x_pg 821 = true from rfl) _ _ _ _ _ _ _ _ e10 ?_)
  refine gl_iconst (gX_LK b) y_282_11 ci_0 rfl ?_
  refine gl_istore_n (vs2 := [some (.ref 819), some (.int x1), some (.int (0 : Int32))]) (gX_LK b) y_282_12 rfl rfl rfl rfl ?_
  exact gl_weak (vs := [some (.ref 819), some (.int x1), some (.int (0 : Int32))]) ⟨rfl, rfl, rfl, trivial⟩ (xt_282_13  hP oF x1 (0 : Int32) sce10 mre10 are10 ale10 h)
/-- ClickOrders$Row.cutsOnce()Z -/
def xT_280 (b : Bool) (rf : jRf) (F : jSc → (Nat → Nat) → jSc → jAl → Option (Int32 × jSc × (Nat → Nat) × jSc × jAl)) (e : Nat) : Prop := ∀  (Post : jPo) (sc : jSc) (mr : (Nat → Nat)) (ar : jSc) (al : jAl) (r9 : Int32) (sc9 : jSc) (mr9 : (Nat → Nat)) (ar9 : jSc) (al9 : jAl), F sc mr ar al = some (r9, sc9, mr9, ar9, al9) → Post (some (.int r9)) sc9 (x_mk mr9 rf) ar9 al9 → gW (gX b) 280 e 0 (j_av [.ref 819]) [] sc (x_mk mr rf) ar al Post
def xF_280_9 : Nat → Int32 → Int32 → Int32 → jSc → (Nat → Nat) → jSc → jAl → Option (Int32 × jSc × (Nat → Nat) × jSc × jAl)
  | 0, _, _, _, _, _, _, _ => none
  | nn + 1, x1, x2, x3, sc, mr, ar, al => (if x1 ≤ x3 then (if x1 ≤ (sc 819 1) then some ((0 : Int32), sc, mr, ar, al) else some ((1 : Int32), sc, mr, ar, al)) else (o_b5 (xF_282 x2 sc mr ar al) (fun ve3 sce3 mre3 are3 ale3 => (if ve3 = 0 then xF_280_9 nn x1 (x2 + (1 : Int32)) (x3 + (1 : Int32)) sce3 mre3 are3 ale3 else (o_b4 (xF_281 x2 sce3 mre3 are3 ale3) (fun sce5 mre5 are5 ale5 => xF_280_9 nn x1 x2 (x3 + (1 : Int32)) sce5 mre5 are5 ale5))))))
set_option maxHeartbeats 4000000 in
theorem xt_280_9 {b : Bool} {rf : jRf} {d : Nat} {Post : jPo} {r9 : Int32} {sc9 : jSc} {mr9 : (Nat → Nat)} {ar9 : jSc} {al9 : jAl} (hP : Post (some (.int r9)) sc9 (x_mk mr9 rf) ar9 al9) : ∀ (nn : Nat) (x1 : Int32) (x2 : Int32) (x3 : Int32) (sc : jSc) (mr : (Nat → Nat)) (ar : jSc) (al : jAl), xF_280_9 nn x1 x2 x3 sc mr ar al = some (r9, sc9, mr9, ar9, al9) → gL (gX b) 280 (d + 6) 9 [some (.ref 819), some (.int x1), some (.int x2), some (.int x3)] [] sc (x_mk mr rf) ar al Post := by
  intro nn
  induction nn with
  | zero =>
    intro x1 x2 x3 sc mr ar al h
    have h : (none : Option (Int32 × jSc × (Nat → Nat) × jSc × jAl)) = some _ := h
    cases h
  | succ nn ih =>
    intro x1 x2 x3 sc mr ar al h
    unfold xF_280_9 at h
    refine gl_iload_n (gX_LK b) y_280_9 rfl rfl ?_
    refine gl_iload_n (gX_LK b) y_280_10 rfl rfl ?_
    refine gl_ic_ge (gX_LK b) y_280_11 rfl rfl (fun c1 => ?_) (fun c1 => ?_)
    · have h := (if_pos c1).symm.trans h
      refine gl_aload_n (gX_LK b) y_280_39 rfl rfl ?_
      refine gl_get (gX_LK b) y_280_40 yf_280_15 ys_819 rfl rfl rfl rfl ?_
      refine gl_iload_n (gX_LK b) y_280_43 rfl rfl ?_
      refine gl_ic_ge (gX_LK b) y_280_44 rfl rfl (fun c2 => ?_) (fun c2 => ?_)
      · have h := (if_pos c2).symm.trans h
        refine gl_iconst (gX_LK b) y_280_51 ci_0 rfl ?_
        exact gl_ireturn y_280_52 (Or.inr ⟨yt_280, Or.inl rfl⟩) (by cases h; exact hP)
      · have h := (if_neg c2).symm.trans h
        refine gl_iconst (gX_LK b) y_280_47 ci_1 rfl ?_
        refine gl_goto (gX_LK b) y_280_48 rfl ?_
        exact gl_ireturn y_280_52 (Or.inr ⟨yt_280, Or.inr rfl⟩) (by cases h; exact hP)
    · have h := (if_neg c1).symm.trans h
      refine gl_aload_n (gX_LK b) y_280_14 rfl rfl ?_
      refine gl_iload_n (gX_LK b) y_280_15 rfl rfl ?_
      obtain ⟨ve3, sce3, mre3, are3, ale3, e3, h⟩ := o_k5 h
      refine gl_callV (gX_LK b) y_280_16 ym_280_44 rfl rfl rfl ys_819 yx_282 rfl rfl ((xt_282 )  _ _ _ _ _ _ _ _ _ _ _ e3 ?_)
      refine gl_if_eq (gX_LK b) y_280_19 rfl rfl (fun c4 => ?_) (fun c4 => ?_)
      · have h := (if_pos c4).symm.trans h
        refine gl_iinc (vs2 := [some (.ref 819), some (.int x1), some (.int (x2 + (1 : Int32))), some (.int x3)]) (gX_LK b) y_280_30 rfl rfl rfl ci_1 rfl rfl ?_
        refine gl_iinc (vs2 := [some (.ref 819), some (.int x1), some (.int (x2 + (1 : Int32))), some (.int (x3 + (1 : Int32)))]) (gX_LK b) y_280_33 rfl rfl rfl ci_1 rfl rfl ?_
        refine gl_goto (gX_LK b) y_280_36 rfl ?_
        exact gl_weak (vs := [some (.ref 819), some (.int x1), some (.int (x2 + (1 : Int32))), some (.int (x3 + (1 : Int32)))]) ⟨rfl, rfl, rfl, rfl, trivial⟩ (ih x1 (x2 + (1 : Int32)) (x3 + (1 : Int32)) sce3 mre3 are3 ale3 h)
      · have h := (if_neg c4).symm.trans h
        refine gl_aload_n (gX_LK b) y_280_22 rfl rfl ?_
        refine gl_iload_n (gX_LK b) y_280_23 rfl rfl ?_
        obtain ⟨sce5, mre5, are5, ale5, e5, h⟩ := o_k4 h
        refine gl_callV (gX_LK b) y_280_24 ym_280_52 rfl rfl rfl ys_819 yx_281 rfl rfl ((xt_281 )  _ _ _ _ _ _ _ _ _ _ e5 ?_)
        refine gl_goto (gX_LK b) y_280_27 rfl ?_
        refine gl_iinc (vs2 := [some (.ref 819), some (.int x1), some (.int x2), some (.int (x3 + (1 : Int32)))]) (gX_LK b) y_280_33 rfl rfl rfl ci_1 rfl rfl ?_
        refine gl_goto (gX_LK b) y_280_36 rfl ?_
        exact gl_weak (vs := [some (.ref 819), some (.int x1), some (.int x2), some (.int (x3 + (1 : Int32)))]) ⟨rfl, rfl, rfl, rfl, trivial⟩ (ih x1 x2 (x3 + (1 : Int32)) sce5 mre5 are5 ale5 h)
def xF_280 (sc : jSc) (mr : (Nat → Nat)) (ar : jSc) (al : jAl) : Option (Int32 × jSc × (Nat → Nat) × jSc × jAl) :=
  xF_280_9 oF (sc 819 1) (0 : Int32) (0 : Int32) sc mr ar al
set_option maxHeartbeats 4000000 in
theorem xt_280 {b : Bool} {rf : jRf} {d : Nat} : xT_280 b rf xF_280 (d + 6) := by
  intro  Post  sc mr ar al r9 sc9 mr9 ar9 al9 h hP
  unfold xF_280 at h
  refine gl_entry (m := 3) rfl ?_
  show gL (gX b) 280 (d + 6) 0 [some (.ref 819), none, none, none] [] sc (x_mk mr rf) ar al Post
  refine gl_aload_n (gX_LK b) y_280_0 rfl rfl ?_
  refine gl_get (gX_LK b) y_280_1 yf_280_15 ys_819 rfl rfl rfl rfl ?_
  refine gl_istore_n (vs2 := [some (.ref 819), some (.int (sc 819 1)), none, none]) (gX_LK b) y_280_4 rfl rfl rfl rfl ?_
  refine gl_iconst (gX_LK b) y_280_5 ci_0 rfl ?_
  refine gl_istore_n (vs2 := [some (.ref 819), some (.int (sc 819 1)), some (.int (0 : Int32)), none]) (gX_LK b) y_280_6 rfl rfl rfl rfl ?_
  refine gl_iconst (gX_LK b) y_280_7 ci_0 rfl ?_
  refine gl_istore_n (vs2 := [some (.ref 819), some (.int (sc 819 1)), some (.int (0 : Int32)), some (.int (0 : Int32))]) (gX_LK b) y_280_8 rfl rfl rfl rfl ?_
  exact gl_weak (vs := [some (.ref 819), some (.int (sc 819 1)), some (.int (0 : Int32)), some (.int (0 : Int32))]) ⟨rfl, rfl, rfl, rfl, trivial⟩ (xt_280_9  hP oF (sc 819 1) (0 : Int32) (0 : Int32) sc mr ar al h)
/-- ClickOrders$Row.shortens()I -/
def xT_279 (b : Bool) (rf : jRf) (F : jSc → (Nat → Nat) → jSc → jAl → Option (Int32 × jSc × (Nat → Nat) × jSc × jAl)) (e : Nat) : Prop := ∀  (Post : jPo) (sc : jSc) (mr : (Nat → Nat)) (ar : jSc) (al : jAl) (r9 : Int32) (sc9 : jSc) (mr9 : (Nat → Nat)) (ar9 : jSc) (al9 : jAl), F sc mr ar al = some (r9, sc9, mr9, ar9, al9) → Post (some (.int r9)) sc9 (x_mk mr9 rf) ar9 al9 → gW (gX b) 279 e 0 (j_av [.ref 819]) [] sc (x_mk mr rf) ar al Post
def xF_279_14 : Nat → Int32 → Int32 → jSc → (Nat → Nat) → jSc → jAl → Option (Int32 × jSc × (Nat → Nat) × jSc × jAl)
  | 0, _, _, _, _, _, _ => none
  | nn + 1, x1, x2, sc, mr, ar, al => (if (40 : Int32) < x2 then some ((sc 819 1), sc, mr, ar, al) else (if x1 = 0 then some ((sc 819 1), sc, mr, ar, al) else (o_b5 (xF_280 sc mr ar al) (fun ve3 sce3 mre3 are3 ale3 => xF_279_14 nn ve3 (x2 + (1 : Int32)) sce3 mre3 are3 ale3))))
set_option maxHeartbeats 4000000 in
theorem xt_279_14 {b : Bool} {rf : jRf} {d : Nat} {Post : jPo} {r9 : Int32} {sc9 : jSc} {mr9 : (Nat → Nat)} {ar9 : jSc} {al9 : jAl} (hP : Post (some (.int r9)) sc9 (x_mk mr9 rf) ar9 al9) : ∀ (nn : Nat) (x1 : Int32) (x2 : Int32) (sc : jSc) (mr : (Nat → Nat)) (ar : jSc) (al : jAl), xF_279_14 nn x1 x2 sc mr ar al = some (r9, sc9, mr9, ar9, al9) → gL (gX b) 279 (d + 7) 14 [some (.ref 819), some (.int x1), some (.int x2)] [] sc (x_mk mr rf) ar al Post := by
  intro nn
  induction nn with
  | zero =>
    intro x1 x2 sc mr ar al h
    have h : (none : Option (Int32 × jSc × (Nat → Nat) × jSc × jAl)) = some _ := h
    cases h
  | succ nn ih =>
    intro x1 x2 sc mr ar al h
    unfold xF_279_14 at h
    refine gl_iload_n (gX_LK b) y_279_14 rfl rfl ?_
    refine gl_bipush (gX_LK b) y_279_15 cb_40 rfl ?_
    refine gl_ic_gt (gX_LK b) y_279_17 rfl rfl (fun c1 => ?_) (fun c1 => ?_)
    · have h := (if_pos c1).symm.trans h
      refine gl_aload_n (gX_LK b) y_279_35 rfl rfl ?_
      refine gl_get (gX_LK b) y_279_36 yf_279_15 ys_819 rfl rfl rfl rfl ?_
      exact gl_ireturn y_279_39 (Or.inl yt_279) (by cases h; exact hP)
    · have h := (if_neg c1).symm.trans h
      refine gl_iload_n (gX_LK b) y_279_20 rfl rfl ?_
      refine gl_if_eq (gX_LK b) y_279_21 rfl rfl (fun c2 => ?_) (fun c2 => ?_)
      · have h := (if_pos c2).symm.trans h
        refine gl_aload_n (gX_LK b) y_279_35 rfl rfl ?_
        refine gl_get (gX_LK b) y_279_36 yf_279_15 ys_819 rfl rfl rfl rfl ?_
        exact gl_ireturn y_279_39 (Or.inl yt_279) (by cases h; exact hP)
      · have h := (if_neg c2).symm.trans h
        refine gl_aload_n (gX_LK b) y_279_24 rfl rfl ?_
        obtain ⟨ve3, sce3, mre3, are3, ale3, e3, h⟩ := o_k5 h
        refine gl_callV (gX_LK b) y_279_25 ym_279_48 rfl rfl rfl ys_819 yx_280 rfl rfl ((xt_280 )  _  _ _ _ _ _ _ _ _ _ e3 ?_)
        refine gl_istore_n (vs2 := [some (.ref 819), some (.int ve3), some (.int x2)]) (gX_LK b) y_279_28 rfl rfl rfl rfl ?_
        refine gl_iinc (vs2 := [some (.ref 819), some (.int ve3), some (.int (x2 + (1 : Int32)))]) (gX_LK b) y_279_29 rfl rfl rfl ci_1 rfl rfl ?_
        refine gl_goto (gX_LK b) y_279_32 rfl ?_
        exact gl_weak (vs := [some (.ref 819), some (.int ve3), some (.int (x2 + (1 : Int32)))]) ⟨rfl, rfl, rfl, trivial⟩ (ih ve3 (x2 + (1 : Int32)) sce3 mre3 are3 ale3 h)
def xF_279 (sc : jSc) (mr : (Nat → Nat)) (ar : jSc) (al : jAl) : Option (Int32 × jSc × (Nat → Nat) × jSc × jAl) :=
  (o_b5 (xF_282 (-1 : Int32) sc mr ar al) (fun ve4 sce4 mre4 are4 ale4 => (if ve4 = 0 then some ((-1 : Int32), sce4, mre4, are4, ale4) else xF_279_14 oF (1 : Int32) (0 : Int32) sce4 mre4 are4 ale4)))
set_option maxHeartbeats 4000000 in
theorem xt_279 {b : Bool} {rf : jRf} {d : Nat} : xT_279 b rf xF_279 (d + 7) := by
  intro  Post  sc mr ar al r9 sc9 mr9 ar9 al9 h hP
  unfold xF_279 at h
  refine gl_entry (m := 2) rfl ?_
  show gL (gX b) 279 (d + 7) 0 [some (.ref 819), none, none] [] sc (x_mk mr rf) ar al Post
  refine gl_aload_n (gX_LK b) y_279_0 rfl rfl ?_
  refine gl_iconst (gX_LK b) y_279_1 ci_m1 rfl ?_
  obtain ⟨ve4, sce4, mre4, are4, ale4, e4, h⟩ := o_k5 h
  refine gl_callV (gX_LK b) y_279_2 ym_279_44 rfl rfl rfl ys_819 yx_282 rfl rfl ((xt_282 )  _ _ _ _ _ _ _ _ _ _ _ e4 ?_)
  refine gl_if_ne (gX_LK b) y_279_5 rfl rfl (fun c5 => ?_) (fun c5 => ?_)
  · have h := (if_pos c5).symm.trans h
    refine gl_iconst (gX_LK b) y_279_8 ci_m1 rfl ?_
    exact gl_ireturn y_279_9 (Or.inl yt_279) (by cases h; exact hP)
  · have h := (if_neg c5).symm.trans h
    refine gl_iconst (gX_LK b) y_279_10 ci_1 rfl ?_
    refine gl_istore_n (vs2 := [some (.ref 819), some (.int (1 : Int32)), none]) (gX_LK b) y_279_11 rfl rfl rfl rfl ?_
    refine gl_iconst (gX_LK b) y_279_12 ci_0 rfl ?_
    refine gl_istore_n (vs2 := [some (.ref 819), some (.int (1 : Int32)), some (.int (0 : Int32))]) (gX_LK b) y_279_13 rfl rfl rfl rfl ?_
    exact gl_weak (vs := [some (.ref 819), some (.int (1 : Int32)), some (.int (0 : Int32))]) ⟨rfl, rfl, rfl, trivial⟩ (xt_279_14  hP oF (1 : Int32) (0 : Int32) sce4 mre4 are4 ale4 h)
/-- ClickOrders$Search.forgetsRows()V -/
def xT_283 (b : Bool) (rf : jRf) (F : jSc → (Nat → Nat) → jSc → jAl → Option (jSc × (Nat → Nat) × jSc × jAl)) (e : Nat) : Prop := ∀  (Post : jPo) (sc : jSc) (mr : (Nat → Nat)) (ar : jSc) (al : jAl) (sc9 : jSc) (mr9 : (Nat → Nat)) (ar9 : jSc) (al9 : jAl), F sc mr ar al = some (sc9, mr9, ar9, al9) → Post none sc9 (x_mk mr9 rf) ar9 al9 → gW (gX b) 283 e 0 (j_av [.ref 773]) [] sc (x_mk mr rf) ar al Post
def xF_283 (sc : jSc) (mr : (Nat → Nat)) (ar : jSc) (al : jAl) : Option (jSc × (Nat → Nat) × jSc × jAl) :=
  some ((j_u2 sc 773 16 (-1 : Int32)), mr, ar, al)
set_option maxHeartbeats 4000000 in
theorem xt_283 {b : Bool} {rf : jRf} {d : Nat} : xT_283 b rf xF_283 (d + 1) := by
  intro  Post  sc mr ar al sc9 mr9 ar9 al9 h hP
  unfold xF_283 at h
  refine gl_entry (m := 0) rfl ?_
  show gL (gX b) 283 (d + 1) 0 [some (.ref 773)] [] sc (x_mk mr rf) ar al Post
  refine gl_aload_n (gX_LK b) y_283_0 rfl rfl ?_
  refine gl_iconst (gX_LK b) y_283_1 ci_m1 rfl ?_
  refine gl_put (sc' := (j_u2 sc 773 16 (-1 : Int32))) (gX_LK b) y_283_2 yf_283_69 ys_773 rfl rfl rfl rfl rfl ?_
  exact gl_return y_283_5 yt_283 (by cases h; exact hP)
/-- ClickOrders$Search.forgetsBadRow()V -/
def xT_284 (b : Bool) (rf : jRf) (F : jSc → (Nat → Nat) → jSc → jAl → Option (jSc × (Nat → Nat) × jSc × jAl)) (e : Nat) : Prop := ∀  (Post : jPo) (sc : jSc) (mr : (Nat → Nat)) (ar : jSc) (al : jAl) (sc9 : jSc) (mr9 : (Nat → Nat)) (ar9 : jSc) (al9 : jAl), F sc mr ar al = some (sc9, mr9, ar9, al9) → Post none sc9 (x_mk mr9 rf) ar9 al9 → gW (gX b) 284 e 0 (j_av [.ref 773]) [] sc (x_mk mr rf) ar al Post
def xF_284 (sc : jSc) (mr : (Nat → Nat)) (ar : jSc) (al : jAl) : Option (jSc × (Nat → Nat) × jSc × jAl) :=
  some ((j_u2 sc 773 18 (-1 : Int32)), mr, ar, al)
set_option maxHeartbeats 4000000 in
theorem xt_284 {b : Bool} {rf : jRf} {d : Nat} : xT_284 b rf xF_284 (d + 1) := by
  intro  Post  sc mr ar al sc9 mr9 ar9 al9 h hP
  unfold xF_284 at h
  refine gl_entry (m := 0) rfl ?_
  show gL (gX b) 284 (d + 1) 0 [some (.ref 773)] [] sc (x_mk mr rf) ar al Post
  refine gl_aload_n (gX_LK b) y_284_0 rfl rfl ?_
  refine gl_iconst (gX_LK b) y_284_1 ci_m1 rfl ?_
  refine gl_put (sc' := (j_u2 sc 773 18 (-1 : Int32))) (gX_LK b) y_284_2 yf_284_75 ys_773 rfl rfl rfl rfl rfl ?_
  exact gl_return y_284_5 yt_284 (by cases h; exact hP)
/-- ClickOrders$Search.isOver()Z -/
def xT_291 (b : Bool) (rf : jRf) (F : jSc → (Nat → Nat) → jSc → jAl → Option (Int32 × jSc × (Nat → Nat) × jSc × jAl)) (e : Nat) : Prop := ∀  (Post : jPo) (sc : jSc) (mr : (Nat → Nat)) (ar : jSc) (al : jAl) (r9 : Int32) (sc9 : jSc) (mr9 : (Nat → Nat)) (ar9 : jSc) (al9 : jAl), F sc mr ar al = some (r9, sc9, mr9, ar9, al9) → Post (some (.int r9)) sc9 (x_mk mr9 rf) ar9 al9 → gW (gX b) 291 e 0 (j_av [.ref 773]) [] sc (x_mk mr rf) ar al Post
def xF_291 (sc : jSc) (mr : (Nat → Nat)) (ar : jSc) (al : jAl) : Option (Int32 × jSc × (Nat → Nat) × jSc × jAl) :=
  (if (sc 773 1) = 0 then (if (sc 773 13) < 0 then some ((0 : Int32), sc, mr, ar, al) else (if (sc 773 15) = 0 then some ((1 : Int32), sc, mr, ar, al) else some ((0 : Int32), sc, mr, ar, al))) else some ((1 : Int32), sc, mr, ar, al))
set_option maxHeartbeats 4000000 in
theorem xt_291 {b : Bool} {rf : jRf} {d : Nat} : xT_291 b rf xF_291 (d + 1) := by
  intro  Post  sc mr ar al r9 sc9 mr9 ar9 al9 h hP
  unfold xF_291 at h
  refine gl_entry (m := 0) rfl ?_
  show gL (gX b) 291 (d + 1) 0 [some (.ref 773)] [] sc (x_mk mr rf) ar al Post
  refine gl_aload_n (gX_LK b) y_291_0 rfl rfl ?_
  refine gl_get (gX_LK b) y_291_1 yf_291_15 ys_773 rfl rfl rfl rfl ?_
  refine gl_if_ne (gX_LK b) y_291_4 rfl rfl (fun c1 => ?_) (fun c1 => ?_)
  · have h := (if_pos c1).symm.trans h
    refine gl_aload_n (gX_LK b) y_291_7 rfl rfl ?_
    refine gl_get (gX_LK b) y_291_8 yf_291_60 ys_773 rfl rfl rfl rfl ?_
    refine gl_if_lt (gX_LK b) y_291_11 rfl rfl (fun c2 => ?_) (fun c2 => ?_)
    · have h := (if_pos c2).symm.trans h
      refine gl_iconst (gX_LK b) y_291_25 ci_0 rfl ?_
      exact gl_ireturn y_291_26 (Or.inr ⟨yt_291, Or.inl rfl⟩) (by cases h; exact hP)
    · have h := (if_neg c2).symm.trans h
      refine gl_aload_n (gX_LK b) y_291_14 rfl rfl ?_
      refine gl_get (gX_LK b) y_291_15 yf_291_66 ys_773 rfl rfl rfl rfl ?_
      refine gl_if_ne (gX_LK b) y_291_18 rfl rfl (fun c3 => ?_) (fun c3 => ?_)
      · have h := (if_pos c3).symm.trans h
        refine gl_iconst (gX_LK b) y_291_21 ci_1 rfl ?_
        refine gl_goto (gX_LK b) y_291_22 rfl ?_
        exact gl_ireturn y_291_26 (Or.inr ⟨yt_291, Or.inr rfl⟩) (by cases h; exact hP)
      · have h := (if_neg c3).symm.trans h
        refine gl_iconst (gX_LK b) y_291_25 ci_0 rfl ?_
        exact gl_ireturn y_291_26 (Or.inr ⟨yt_291, Or.inl rfl⟩) (by cases h; exact hP)
  · have h := (if_neg c1).symm.trans h
    refine gl_iconst (gX_LK b) y_291_21 ci_1 rfl ?_
    refine gl_goto (gX_LK b) y_291_22 rfl ?_
    exact gl_ireturn y_291_26 (Or.inr ⟨yt_291, Or.inr rfl⟩) (by cases h; exact hP)
/-- ClickOrders$Search.addsMet(II)I -/
def xT_294 (b : Bool) (rf : jRf) (F : Int32 → Int32 → jSc → (Nat → Nat) → jSc → jAl → Option (Int32 × jSc × (Nat → Nat) × jSc × jAl)) (e : Nat) : Prop := ∀  (Post : jPo) (x1 : Int32) (x2 : Int32) (sc : jSc) (mr : (Nat → Nat)) (ar : jSc) (al : jAl) (r9 : Int32) (sc9 : jSc) (mr9 : (Nat → Nat)) (ar9 : jSc) (al9 : jAl), F x1 x2 sc mr ar al = some (r9, sc9, mr9, ar9, al9) → Post (some (.int r9)) sc9 (x_mk mr9 rf) ar9 al9 → gW (gX b) 294 e 0 (j_av [.ref 773, .int x1, .int x2]) [] sc (x_mk mr rf) ar al Post
def xF_294 (x1 : Int32) (x2 : Int32) (sc : jSc) (mr : (Nat → Nat)) (ar : jSc) (al : jAl) : Option (Int32 × jSc × (Nat → Nat) × jSc × jAl) :=
  (if (sc 774 0) < (sc 773 14) then (o_b5 (xF_221 780 sc mr ar al) (fun ve2 sce2 mre2 are2 ale2 => (if ve2 < 0 then some (ve2, sce2, mre2, are2, ale2) else (if iB ve2 600 then (if iB ve2 600 then (if iB ve2 2048 then some (ve2, sce2, mre2, (j_u2 (j_u2 (j_u2 are2 789 (iN ve2) x1) 790 (iN ve2) x2) 792 (iN ve2) (0 : Int32)), ale2) else none) else none) else none)))) else some ((-1 : Int32), (j_u2 sc 773 1 (1 : Int32)), mr, ar, al))
set_option maxHeartbeats 4000000 in
theorem xt_294 {b : Bool} {rf : jRf} {d : Nat} : xT_294 b rf xF_294 (d + 2) := by
  intro  Post x1 x2 sc mr ar al r9 sc9 mr9 ar9 al9 h hP
  unfold xF_294 at h
  refine gl_entry (m := 1) rfl ?_
  show gL (gX b) 294 (d + 2) 0 [some (.ref 773), some (.int x1), some (.int x2), none] [] sc (x_mk mr rf) ar al Post
  refine gl_aload_n (gX_LK b) y_294_0 rfl rfl ?_
  refine gl_getA (gX_LK b) y_294_1 yf_294_22 ys_773 rfl rfl rfl rfl ?_
  refine gl_get (gX_LK b) y_294_4 yf_294_108 ys_774 rfl rfl rfl rfl ?_
  refine gl_aload_n (gX_LK b) y_294_7 rfl rfl ?_
  refine gl_get (gX_LK b) y_294_8 yf_294_63 ys_773 rfl rfl rfl rfl ?_
  refine gl_ic_lt (gX_LK b) y_294_11 rfl rfl (fun c1 => ?_) (fun c1 => ?_)
  · have h := (if_pos c1).symm.trans h
    refine gl_aload_n (gX_LK b) y_294_21 rfl rfl ?_
    refine gl_getA (gX_LK b) y_294_22 yf_294_22 ys_773 rfl rfl rfl rfl ?_
    refine gl_aload_n (gX_LK b) y_294_25 rfl rfl ?_
    refine gl_getA (gX_LK b) y_294_26 yf_294_33 ys_773 rfl rfl rfl rfl ?_
    obtain ⟨ve2, sce2, mre2, are2, ale2, e2, h⟩ := o_k5 h
    refine gl_callV (gX_LK b) y_294_29 ym_294_180 rfl rfl rfl ys_774 yx_221 rfl rfl ((xt_221 )  _ _ (show x_pg 780 = true from rfl) _ _ _ _ _ _ _ _ _ e2 ?_)
    refine gl_istore_n (vs2 := [some (.ref 773), some (.int x1), some (.int x2), some (.int ve2)]) (gX_LK b) y_294_32 rfl rfl rfl rfl ?_
    refine gl_iload_n (gX_LK b) y_294_33 rfl rfl ?_
    refine gl_if_lt (gX_LK b) y_294_34 rfl rfl (fun c3 => ?_) (fun c3 => ?_)
    · have h := (if_pos c3).symm.trans h
      refine gl_iload_n (gX_LK b) y_294_58 rfl rfl ?_
      exact gl_ireturn y_294_59 (Or.inl yt_294) (by cases h; exact hP)
    · have h := (if_neg c3).symm.trans h
      refine gl_aload_n (gX_LK b) y_294_37 rfl rfl ?_
      refine gl_getA (gX_LK b) y_294_38 yf_294_40 ys_773 rfl rfl rfl rfl ?_
      refine gl_iload_n (gX_LK b) y_294_41 rfl rfl ?_
      refine gl_iload_n (gX_LK b) y_294_42 rfl rfl ?_
      obtain ⟨c4, h⟩ := o_ck h
      refine gl_iastore (ar2 := (j_u2 are2 789 (iN ve2) x1)) (gX_LK b) y_294_43 ys_789 c4 rfl rfl ?_
      refine gl_aload_n (gX_LK b) y_294_44 rfl rfl ?_
      refine gl_getA (gX_LK b) y_294_45 yf_294_44 ys_773 rfl rfl rfl rfl ?_
      refine gl_iload_n (gX_LK b) y_294_48 rfl rfl ?_
      refine gl_iload_n (gX_LK b) y_294_49 rfl rfl ?_
      obtain ⟨c5, h⟩ := o_ck h
      refine gl_iastore (ar2 := (j_u2 (j_u2 are2 789 (iN ve2) x1) 790 (iN ve2) x2)) (gX_LK b) y_294_50 ys_790 c5 rfl rfl ?_
      refine gl_aload_n (gX_LK b) y_294_51 rfl rfl ?_
      refine gl_getA (gX_LK b) y_294_52 yf_294_50 ys_773 rfl rfl rfl rfl ?_
      refine gl_iload_n (gX_LK b) y_294_55 rfl rfl ?_
      refine gl_iconst (gX_LK b) y_294_56 ci_0 rfl ?_
      obtain ⟨c6, h⟩ := o_ck h
      refine gl_bastore (ar2 := (j_u2 (j_u2 (j_u2 are2 789 (iN ve2) x1) 790 (iN ve2) x2) 792 (iN ve2) (0 : Int32))) (gX_LK b) y_294_57 ys_792 c6 (Or.inl rfl) rfl rfl ?_
      refine gl_iload_n (gX_LK b) y_294_58 rfl rfl ?_
      exact gl_ireturn y_294_59 (Or.inl yt_294) (by cases h; exact hP)
  · have h := (if_neg c1).symm.trans h
    refine gl_aload_n (gX_LK b) y_294_14 rfl rfl ?_
    refine gl_iconst (gX_LK b) y_294_15 ci_1 rfl ?_
    refine gl_put (sc' := (j_u2 sc 773 1 (1 : Int32))) (gX_LK b) y_294_16 yf_294_15 ys_773 rfl rfl rfl rfl rfl ?_
    refine gl_iconst (gX_LK b) y_294_19 ci_m1 rfl ?_
    exact gl_ireturn y_294_20 (Or.inl yt_294) (by cases h; exact hP)
/-- ClickOrders$Search.addsBeyond()I -/
def xT_295 (b : Bool) (rf : jRf) (F : jSc → (Nat → Nat) → jSc → jAl → Option (Int32 × jSc × (Nat → Nat) × jSc × jAl)) (e : Nat) : Prop := ∀  (Post : jPo) (sc : jSc) (mr : (Nat → Nat)) (ar : jSc) (al : jAl) (r9 : Int32) (sc9 : jSc) (mr9 : (Nat → Nat)) (ar9 : jSc) (al9 : jAl), F sc mr ar al = some (r9, sc9, mr9, ar9, al9) → Post (some (.int r9)) sc9 (x_mk mr9 rf) ar9 al9 → gW (gX b) 295 e 0 (j_av [.ref 773]) [] sc (x_mk mr rf) ar al Post
def xF_295 (sc : jSc) (mr : (Nat → Nat)) (ar : jSc) (al : jAl) : Option (Int32 × jSc × (Nat → Nat) × jSc × jAl) :=
  (o_b5 (xF_221 780 sc mr ar al) (fun ve1 sce1 mre1 are1 ale1 => (if 0 ≤ ve1 then (if iB ve1 2048 then (if iB ve1 2048 then (if iB ve1 2048 then some (ve1, sce1, mre1, (j_u2 (j_u2 (j_u2 are1 792 (iN ve1) (0 : Int32)) 793 (iN ve1) (9 : Int32)) 794 (iN ve1) (-1 : Int32)), ale1) else none) else none) else none) else some ((-2 : Int32), sce1, mre1, are1, ale1))))
set_option maxHeartbeats 4000000 in
theorem xt_295 {b : Bool} {rf : jRf} {d : Nat} : xT_295 b rf xF_295 (d + 2) := by
  intro  Post  sc mr ar al r9 sc9 mr9 ar9 al9 h hP
  unfold xF_295 at h
  refine gl_entry (m := 1) rfl ?_
  show gL (gX b) 295 (d + 2) 0 [some (.ref 773), none] [] sc (x_mk mr rf) ar al Post
  refine gl_aload_n (gX_LK b) y_295_0 rfl rfl ?_
  refine gl_getA (gX_LK b) y_295_1 yf_295_22 ys_773 rfl rfl rfl rfl ?_
  refine gl_aload_n (gX_LK b) y_295_4 rfl rfl ?_
  refine gl_getA (gX_LK b) y_295_5 yf_295_33 ys_773 rfl rfl rfl rfl ?_
  obtain ⟨ve1, sce1, mre1, are1, ale1, e1, h⟩ := o_k5 h
  refine gl_callV (gX_LK b) y_295_8 ym_295_180 rfl rfl rfl ys_774 yx_221 rfl rfl ((xt_221 )  _ _ (show x_pg 780 = true from rfl) _ _ _ _ _ _ _ _ _ e1 ?_)
  refine gl_istore_n (vs2 := [some (.ref 773), some (.int ve1)]) (gX_LK b) y_295_11 rfl rfl rfl rfl ?_
  refine gl_iload_n (gX_LK b) y_295_12 rfl rfl ?_
  refine gl_if_ge (gX_LK b) y_295_13 rfl rfl (fun c2 => ?_) (fun c2 => ?_)
  · have h := (if_pos c2).symm.trans h
    refine gl_aload_n (gX_LK b) y_295_19 rfl rfl ?_
    refine gl_getA (gX_LK b) y_295_20 yf_295_50 ys_773 rfl rfl rfl rfl ?_
    refine gl_iload_n (gX_LK b) y_295_23 rfl rfl ?_
    refine gl_iconst (gX_LK b) y_295_24 ci_0 rfl ?_
    obtain ⟨c3, h⟩ := o_ck h
    refine gl_bastore (ar2 := (j_u2 are1 792 (iN ve1) (0 : Int32))) (gX_LK b) y_295_25 ys_792 c3 (Or.inl rfl) rfl rfl ?_
    refine gl_aload_n (gX_LK b) y_295_26 rfl rfl ?_
    refine gl_getA (gX_LK b) y_295_27 yf_295_54 ys_773 rfl rfl rfl rfl ?_
    refine gl_iload_n (gX_LK b) y_295_30 rfl rfl ?_
    refine gl_bipush (gX_LK b) y_295_31 cb_9 rfl ?_
    obtain ⟨c4, h⟩ := o_ck h
    refine gl_iastore (ar2 := (j_u2 (j_u2 are1 792 (iN ve1) (0 : Int32)) 793 (iN ve1) (9 : Int32))) (gX_LK b) y_295_33 ys_793 c4 rfl rfl ?_
    refine gl_aload_n (gX_LK b) y_295_34 rfl rfl ?_
    refine gl_getA (gX_LK b) y_295_35 yf_295_57 ys_773 rfl rfl rfl rfl ?_
    refine gl_iload_n (gX_LK b) y_295_38 rfl rfl ?_
    refine gl_iconst (gX_LK b) y_295_39 ci_m1 rfl ?_
    obtain ⟨c5, h⟩ := o_ck h
    refine gl_iastore (ar2 := (j_u2 (j_u2 (j_u2 are1 792 (iN ve1) (0 : Int32)) 793 (iN ve1) (9 : Int32)) 794 (iN ve1) (-1 : Int32))) (gX_LK b) y_295_40 ys_794 c5 rfl rfl ?_
    refine gl_iload_n (gX_LK b) y_295_41 rfl rfl ?_
    exact gl_ireturn y_295_42 (Or.inl yt_295) (by cases h; exact hP)
  · have h := (if_neg c2).symm.trans h
    refine gl_bipush (gX_LK b) y_295_16 cb_m2 rfl ?_
    exact gl_ireturn y_295_18 (Or.inl yt_295) (by cases h; exact hP)
/-- ClickOrders$Search.spreads(IZ)V -/
def xT_293 (b : Bool) (rf : jRf) (F : Int32 → Int32 → jSc → (Nat → Nat) → jSc → jAl → Option (jSc × (Nat → Nat) × jSc × jAl)) (e : Nat) : Prop := ∀  (Post : jPo) (x1 : Int32) (x2 : Int32) (sc : jSc) (mr : (Nat → Nat)) (ar : jSc) (al : jAl) (sc9 : jSc) (mr9 : (Nat → Nat)) (ar9 : jSc) (al9 : jAl), F x1 x2 sc mr ar al = some (sc9, mr9, ar9, al9) → Post none sc9 (x_mk mr9 rf) ar9 al9 → gW (gX b) 293 e 0 (j_av [.ref 773, .int x1, .int x2]) [] sc (x_mk mr rf) ar al Post
def xF_293_207 (k31 : Int32 → Int32 → Int32 → Int32 → jSc → (Nat → Nat) → jSc → jAl → Option (jSc × (Nat → Nat) × jSc × jAl)) (x1 : Int32) (x2 : Int32) (x3 : Int32) (x4 : Int32) (x6 : Int32) (sc : jSc) (mr : (Nat → Nat)) (ar : jSc) (al : jAl) : Option (jSc × (Nat → Nat) × jSc × jAl) :=
  (if iB ((x1 * (13 : Int32)) + x4) 26624 then (if x2 = 0 then (o_b5 (xF_291 sc mr (j_u2 ar 791 (iN ((x1 * (13 : Int32)) + x4)) x6) al) (fun ve3 sce3 mre3 are3 ale3 => (if ve3 = 0 then k31 x1 x2 x3 (x4 + (1 : Int32)) sce3 mre3 are3 ale3 else some (sce3, mre3, are3, ale3)))) else k31 x1 x2 x3 (x4 + (1 : Int32)) sc mr (j_u2 ar 791 (iN ((x1 * (13 : Int32)) + x4)) x6) al) else none)
set_option maxHeartbeats 4000000 in
theorem xt_293_207 {b : Bool} {rf : jRf} {d : Nat} {Post : jPo} {sc9 : jSc} {mr9 : (Nat → Nat)} {ar9 : jSc} {al9 : jAl} {k31 : Int32 → Int32 → Int32 → Int32 → jSc → (Nat → Nat) → jSc → jAl → Option (jSc × (Nat → Nat) × jSc × jAl)} (hk31 : ∀ (x1 : Int32) (x2 : Int32) (x3 : Int32) (x4 : Int32) (sc : jSc) (mr : (Nat → Nat)) (ar : jSc) (al : jAl), k31 x1 x2 x3 x4 sc mr ar al = some (sc9, mr9, ar9, al9) → gL (gX b) 293 (d + 5) 31 [some (.ref 773), some (.int x1), some (.int x2), some (.int x3), some (.int x4), none, none] [] sc (x_mk mr rf) ar al Post) (hP : Post none sc9 (x_mk mr9 rf) ar9 al9) (x1 : Int32) (x2 : Int32) (x3 : Int32) (x4 : Int32) (x6 : Int32) (sc : jSc) (mr : (Nat → Nat)) (ar : jSc) (al : jAl) (h : xF_293_207 k31 x1 x2 x3 x4 x6 sc mr ar al = some (sc9, mr9, ar9, al9)) : gL (gX b) 293 (d + 5) 207 [some (.ref 773), some (.int x1), some (.int x2), some (.int x3), some (.int x4), none, some (.int x6)] [] sc (x_mk mr rf) ar al Post := by
  unfold xF_293_207 at h
  refine gl_aload_n (gX_LK b) y_293_207 rfl rfl ?_
  refine gl_getA (gX_LK b) y_293_208 yf_293_47 ys_773 rfl rfl rfl rfl ?_
  refine gl_iload_n (gX_LK b) y_293_211 rfl rfl ?_
  refine gl_bipush (gX_LK b) y_293_212 cb_13 rfl ?_
  refine gl_imul (gX_LK b) y_293_214 rfl ?_
  refine gl_iload (gX_LK b) y_293_215 rfl rfl ?_
  refine gl_iadd (gX_LK b) y_293_217 rfl ?_
  refine gl_iload (gX_LK b) y_293_218 rfl rfl ?_
  obtain ⟨c1, h⟩ := o_ck h
  refine gl_iastore (ar2 := (j_u2 ar 791 (iN ((x1 * (13 : Int32)) + x4)) x6)) (gX_LK b) y_293_220 ys_791 c1 rfl rfl ?_
  refine gl_iload_n (gX_LK b) y_293_221 rfl rfl ?_
  refine gl_if_ne (gX_LK b) y_293_222 rfl rfl (fun c2 => ?_) (fun c2 => ?_)
  · have h := (if_pos c2).symm.trans h
    refine gl_aload_n (gX_LK b) y_293_225 rfl rfl ?_
    obtain ⟨ve3, sce3, mre3, are3, ale3, e3, h⟩ := o_k5 h
    refine gl_callV (gX_LK b) y_293_226 ym_293_111 rfl rfl rfl ys_773 yx_291 rfl rfl ((xt_291 )  _  _ _ _ _ _ _ _ _ _ e3 ?_)
    refine gl_if_eq (gX_LK b) y_293_229 rfl rfl (fun c4 => ?_) (fun c4 => ?_)
    · have h := (if_pos c4).symm.trans h
      refine gl_iinc (vs2 := [some (.ref 773), some (.int x1), some (.int x2), some (.int x3), some (.int (x4 + (1 : Int32))), none, some (.int x6)]) (gX_LK b) y_293_233 rfl rfl rfl ci_1 rfl rfl ?_
      refine gl_goto (gX_LK b) y_293_236 rfl ?_
      exact gl_weak (vs := [some (.ref 773), some (.int x1), some (.int x2), some (.int x3), some (.int (x4 + (1 : Int32))), none, none]) ⟨rfl, rfl, rfl, rfl, rfl, trivial⟩ (hk31 x1 x2 x3 (x4 + (1 : Int32)) sce3 mre3 are3 ale3 h)
    · have h := (if_neg c4).symm.trans h
      exact gl_return y_293_232 yt_293 (by cases h; exact hP)
  · have h := (if_neg c2).symm.trans h
    refine gl_iinc (vs2 := [some (.ref 773), some (.int x1), some (.int x2), some (.int x3), some (.int (x4 + (1 : Int32))), none, some (.int x6)]) (gX_LK b) y_293_233 rfl rfl rfl ci_1 rfl rfl ?_
    refine gl_goto (gX_LK b) y_293_236 rfl ?_
    exact gl_weak (vs := [some (.ref 773), some (.int x1), some (.int x2), some (.int x3), some (.int (x4 + (1 : Int32))), none, none]) ⟨rfl, rfl, rfl, rfl, rfl, trivial⟩ (hk31 x1 x2 x3 (x4 + (1 : Int32)) sc mr (j_u2 ar 791 (iN ((x1 * (13 : Int32)) + x4)) x6) al h)
def xF_293_187 (k31 : Int32 → Int32 → Int32 → Int32 → jSc → (Nat → Nat) → jSc → jAl → Option (jSc × (Nat → Nat) × jSc × jAl)) (x1 : Int32) (x2 : Int32) (x3 : Int32) (x4 : Int32) (x5 : Int32) (x6 : Int32) (y0 : Int32) (sc : jSc) (mr : (Nat → Nat)) (ar : jSc) (al : jAl) : Option (jSc × (Nat → Nat) × jSc × jAl) :=
  (if x5 = 0 then xF_293_207 k31 x1 x2 x3 x4 x6 (j_u2 sc 773 13 y0) mr ar al else (if x6 < 0 then xF_293_207 k31 x1 x2 x3 x4 x6 (j_u2 sc 773 13 y0) mr ar al else xF_293_207 k31 x1 x2 x6 x4 x6 (j_u2 sc 773 13 y0) mr ar al))
set_option maxHeartbeats 4000000 in
theorem xt_293_187 {b : Bool} {rf : jRf} {d : Nat} {Post : jPo} {sc9 : jSc} {mr9 : (Nat → Nat)} {ar9 : jSc} {al9 : jAl} {k31 : Int32 → Int32 → Int32 → Int32 → jSc → (Nat → Nat) → jSc → jAl → Option (jSc × (Nat → Nat) × jSc × jAl)} (hk31 : ∀ (x1 : Int32) (x2 : Int32) (x3 : Int32) (x4 : Int32) (sc : jSc) (mr : (Nat → Nat)) (ar : jSc) (al : jAl), k31 x1 x2 x3 x4 sc mr ar al = some (sc9, mr9, ar9, al9) → gL (gX b) 293 (d + 5) 31 [some (.ref 773), some (.int x1), some (.int x2), some (.int x3), some (.int x4), none, none] [] sc (x_mk mr rf) ar al Post) (hP : Post none sc9 (x_mk mr9 rf) ar9 al9) (x1 : Int32) (x2 : Int32) (x3 : Int32) (x4 : Int32) (x5 : Int32) (x6 : Int32) (y0 : Int32) (sc : jSc) (mr : (Nat → Nat)) (ar : jSc) (al : jAl) (h : xF_293_187 k31 x1 x2 x3 x4 x5 x6 y0 sc mr ar al = some (sc9, mr9, ar9, al9)) : gL (gX b) 293 (d + 5) 187 [some (.ref 773), some (.int x1), some (.int x2), some (.int x3), some (.int x4), some (.int x5), some (.int x6)] [.int y0, .ref 773] sc (x_mk mr rf) ar al Post := by
  unfold xF_293_187 at h
  refine gl_put (sc' := (j_u2 sc 773 13 y0)) (gX_LK b) y_293_187 yf_293_60 ys_773 rfl rfl rfl rfl rfl ?_
  refine gl_iload (gX_LK b) y_293_190 rfl rfl ?_
  refine gl_if_eq (gX_LK b) y_293_192 rfl rfl (fun c5 => ?_) (fun c5 => ?_)
  · have h := (if_pos c5).symm.trans h
    refine gl_iload_n (gX_LK b) y_293_205 rfl rfl ?_
    refine gl_istore_n (vs2 := [some (.ref 773), some (.int x1), some (.int x2), some (.int x3), some (.int x4), some (.int x5), some (.int x6)]) (gX_LK b) y_293_206 rfl rfl rfl rfl ?_
    exact gl_weak (vs := [some (.ref 773), some (.int x1), some (.int x2), some (.int x3), some (.int x4), none, some (.int x6)]) ⟨rfl, rfl, rfl, rfl, rfl, rfl, trivial⟩ (xt_293_207  hk31 hP x1 x2 x3 x4 x6 (j_u2 sc 773 13 y0) mr ar al h)
  · have h := (if_neg c5).symm.trans h
    refine gl_iload (gX_LK b) y_293_195 rfl rfl ?_
    refine gl_if_lt (gX_LK b) y_293_197 rfl rfl (fun c6 => ?_) (fun c6 => ?_)
    · have h := (if_pos c6).symm.trans h
      refine gl_iload_n (gX_LK b) y_293_205 rfl rfl ?_
      refine gl_istore_n (vs2 := [some (.ref 773), some (.int x1), some (.int x2), some (.int x3), some (.int x4), some (.int x5), some (.int x6)]) (gX_LK b) y_293_206 rfl rfl rfl rfl ?_
      exact gl_weak (vs := [some (.ref 773), some (.int x1), some (.int x2), some (.int x3), some (.int x4), none, some (.int x6)]) ⟨rfl, rfl, rfl, rfl, rfl, rfl, trivial⟩ (xt_293_207  hk31 hP x1 x2 x3 x4 x6 (j_u2 sc 773 13 y0) mr ar al h)
    · have h := (if_neg c6).symm.trans h
      refine gl_iload (gX_LK b) y_293_200 rfl rfl ?_
      refine gl_goto (gX_LK b) y_293_202 rfl ?_
      refine gl_istore_n (vs2 := [some (.ref 773), some (.int x1), some (.int x2), some (.int x6), some (.int x4), some (.int x5), some (.int x6)]) (gX_LK b) y_293_206 rfl rfl rfl rfl ?_
      exact gl_weak (vs := [some (.ref 773), some (.int x1), some (.int x2), some (.int x6), some (.int x4), none, some (.int x6)]) ⟨rfl, rfl, rfl, rfl, rfl, rfl, trivial⟩ (xt_293_207  hk31 hP x1 x2 x6 x4 x6 (j_u2 sc 773 13 y0) mr ar al h)
def xF_293_145 (k31 : Int32 → Int32 → Int32 → Int32 → jSc → (Nat → Nat) → jSc → jAl → Option (jSc × (Nat → Nat) × jSc × jAl)) (x1 : Int32) (x2 : Int32) (x3 : Int32) (x4 : Int32) (x5 : Int32) (y0 : Int32) (sc : jSc) (mr : (Nat → Nat)) (ar : jSc) (al : jAl) : Option (jSc × (Nat → Nat) × jSc × jAl) :=
  (if 0 ≤ (sc 773 13) then xF_293_187 k31 x1 x2 x3 x4 x5 y0 (sc 773 13) sc mr ar al else (if y0 < 0 then xF_293_187 k31 x1 x2 x3 x4 x5 y0 (sc 773 13) sc mr ar al else (if x2 = 0 then (o_b5 (xF_210 780 sc mr ar al) (fun ve10 sce10 mre10 are10 ale10 => (if ve10 = 0 then xF_293_187 k31 x1 x2 x3 x4 x5 y0 (sce10 773 13) sce10 mre10 are10 ale10 else xF_293_187 k31 x1 x2 x3 x4 x5 y0 y0 sce10 mre10 are10 ale10))) else xF_293_187 k31 x1 x2 x3 x4 x5 y0 (sc 773 13) sc mr ar al)))
set_option maxHeartbeats 4000000 in
theorem xt_293_145 {b : Bool} {rf : jRf} {d : Nat} {Post : jPo} {sc9 : jSc} {mr9 : (Nat → Nat)} {ar9 : jSc} {al9 : jAl} {k31 : Int32 → Int32 → Int32 → Int32 → jSc → (Nat → Nat) → jSc → jAl → Option (jSc × (Nat → Nat) × jSc × jAl)} (hk31 : ∀ (x1 : Int32) (x2 : Int32) (x3 : Int32) (x4 : Int32) (sc : jSc) (mr : (Nat → Nat)) (ar : jSc) (al : jAl), k31 x1 x2 x3 x4 sc mr ar al = some (sc9, mr9, ar9, al9) → gL (gX b) 293 (d + 5) 31 [some (.ref 773), some (.int x1), some (.int x2), some (.int x3), some (.int x4), none, none] [] sc (x_mk mr rf) ar al Post) (hP : Post none sc9 (x_mk mr9 rf) ar9 al9) (x1 : Int32) (x2 : Int32) (x3 : Int32) (x4 : Int32) (x5 : Int32) (y0 : Int32) (sc : jSc) (mr : (Nat → Nat)) (ar : jSc) (al : jAl) (h : xF_293_145 k31 x1 x2 x3 x4 x5 y0 sc mr ar al = some (sc9, mr9, ar9, al9)) : gL (gX b) 293 (d + 5) 145 [some (.ref 773), some (.int x1), some (.int x2), some (.int x3), some (.int x4), some (.int x5), none] [.int y0] sc (x_mk mr rf) ar al Post := by
  unfold xF_293_145 at h
  refine gl_istore (vs2 := [some (.ref 773), some (.int x1), some (.int x2), some (.int x3), some (.int x4), some (.int x5), some (.int y0)]) (gX_LK b) y_293_145 rfl rfl rfl rfl ?_
  refine gl_aload_n (gX_LK b) y_293_147 rfl rfl ?_
  refine gl_aload_n (gX_LK b) y_293_148 rfl rfl ?_
  refine gl_get (gX_LK b) y_293_149 yf_293_60 ys_773 rfl rfl rfl rfl ?_
  refine gl_if_ge (gX_LK b) y_293_152 rfl rfl (fun c7 => ?_) (fun c7 => ?_)
  · have h := (if_pos c7).symm.trans h
    refine gl_aload_n (gX_LK b) y_293_183 rfl rfl ?_
    refine gl_get (gX_LK b) y_293_184 yf_293_60 ys_773 rfl rfl rfl rfl ?_
    exact gl_weak (vs := [some (.ref 773), some (.int x1), some (.int x2), some (.int x3), some (.int x4), some (.int x5), some (.int y0)]) ⟨rfl, rfl, rfl, rfl, rfl, rfl, rfl, trivial⟩ (xt_293_187  hk31 hP x1 x2 x3 x4 x5 y0 (sc 773 13) sc mr ar al h)
  · have h := (if_neg c7).symm.trans h
    refine gl_iload (gX_LK b) y_293_155 rfl rfl ?_
    refine gl_if_lt (gX_LK b) y_293_157 rfl rfl (fun c8 => ?_) (fun c8 => ?_)
    · have h := (if_pos c8).symm.trans h
      refine gl_aload_n (gX_LK b) y_293_183 rfl rfl ?_
      refine gl_get (gX_LK b) y_293_184 yf_293_60 ys_773 rfl rfl rfl rfl ?_
      exact gl_weak (vs := [some (.ref 773), some (.int x1), some (.int x2), some (.int x3), some (.int x4), some (.int x5), some (.int y0)]) ⟨rfl, rfl, rfl, rfl, rfl, rfl, rfl, trivial⟩ (xt_293_187  hk31 hP x1 x2 x3 x4 x5 y0 (sc 773 13) sc mr ar al h)
    · have h := (if_neg c8).symm.trans h
      refine gl_iload_n (gX_LK b) y_293_160 rfl rfl ?_
      refine gl_if_ne (gX_LK b) y_293_161 rfl rfl (fun c9 => ?_) (fun c9 => ?_)
      · have h := (if_pos c9).symm.trans h
        refine gl_aload_n (gX_LK b) y_293_164 rfl rfl ?_
        refine gl_getA (gX_LK b) y_293_165 yf_293_78 ys_773 rfl rfl rfl rfl ?_
        refine gl_aload_n (gX_LK b) y_293_168 rfl rfl ?_
        refine gl_getA (gX_LK b) y_293_169 yf_293_33 ys_773 rfl rfl rfl rfl ?_
        obtain ⟨ve10, sce10, mre10, are10, ale10, e10, h⟩ := o_k5 h
        refine gl_callV (gX_LK b) y_293_172 ym_293_104 rfl rfl rfl ys_757 yx_210 rfl rfl ((xt_210 )  _ _ (show x_pg 780 = true from rfl) _ _ _ _ _ _ _ _ _ e10 ?_)
        refine gl_if_eq (gX_LK b) y_293_175 rfl rfl (fun c11 => ?_) (fun c11 => ?_)
        · have h := (if_pos c11).symm.trans h
          refine gl_aload_n (gX_LK b) y_293_183 rfl rfl ?_
          refine gl_get (gX_LK b) y_293_184 yf_293_60 ys_773 rfl rfl rfl rfl ?_
          exact gl_weak (vs := [some (.ref 773), some (.int x1), some (.int x2), some (.int x3), some (.int x4), some (.int x5), some (.int y0)]) ⟨rfl, rfl, rfl, rfl, rfl, rfl, rfl, trivial⟩ (xt_293_187  hk31 hP x1 x2 x3 x4 x5 y0 (sce10 773 13) sce10 mre10 are10 ale10 h)
        · have h := (if_neg c11).symm.trans h
          refine gl_iload (gX_LK b) y_293_178 rfl rfl ?_
          refine gl_goto (gX_LK b) y_293_180 rfl ?_
          exact gl_weak (vs := [some (.ref 773), some (.int x1), some (.int x2), some (.int x3), some (.int x4), some (.int x5), some (.int y0)]) ⟨rfl, rfl, rfl, rfl, rfl, rfl, rfl, trivial⟩ (xt_293_187  hk31 hP x1 x2 x3 x4 x5 y0 y0 sce10 mre10 are10 ale10 h)
      · have h := (if_neg c9).symm.trans h
        refine gl_aload_n (gX_LK b) y_293_183 rfl rfl ?_
        refine gl_get (gX_LK b) y_293_184 yf_293_60 ys_773 rfl rfl rfl rfl ?_
        exact gl_weak (vs := [some (.ref 773), some (.int x1), some (.int x2), some (.int x3), some (.int x4), some (.int x5), some (.int y0)]) ⟨rfl, rfl, rfl, rfl, rfl, rfl, rfl, trivial⟩ (xt_293_187  hk31 hP x1 x2 x3 x4 x5 y0 (sc 773 13) sc mr ar al h)
def xF_293_83 (k31 : Int32 → Int32 → Int32 → Int32 → jSc → (Nat → Nat) → jSc → jAl → Option (jSc × (Nat → Nat) × jSc × jAl)) (x1 : Int32) (x2 : Int32) (x3 : Int32) (x4 : Int32) (x5 : Int32) (sc : jSc) (mr : (Nat → Nat)) (ar : jSc) (al : jAl) : Option (jSc × (Nat → Nat) × jSc × jAl) :=
  (o_b4 (xF_226 780 778 sc mr ar al) (fun sce12 mre12 are12 ale12 => (o_b5 (xF_209 780 x4 (-1 : Int32) sce12 mre12 are12 ale12) (fun ve13 sce13 mre13 are13 ale13 => (o_b5 (xF_220 780 sce13 mre13 are13 ale13) (fun ve14 sce14 mre14 are14 ale14 => (if 0 ≤ ve14 then (if x5 = 0 then xF_293_207 k31 x1 x2 x3 x4 ve14 sce14 mre14 are14 ale14 else (if ve14 < 0 then xF_293_207 k31 x1 x2 x3 x4 ve14 sce14 mre14 are14 ale14 else xF_293_207 k31 x1 x2 ve14 x4 ve14 sce14 mre14 are14 ale14)) else (if x2 = 0 then (o_b5 (xF_294 x1 x4 sce14 mre14 are14 ale14) (fun ve19 sce19 mre19 are19 ale19 => xF_293_145 k31 x1 x2 x3 x4 x5 ve19 sce19 mre19 are19 ale19)) else (o_b5 (xF_295 sce14 mre14 are14 ale14) (fun ve20 sce20 mre20 are20 ale20 => xF_293_145 k31 x1 x2 x3 x4 x5 ve20 sce20 mre20 are20 ale20))))))))))
set_option maxHeartbeats 4000000 in
theorem xt_293_83 {b : Bool} {rf : jRf} {d : Nat} {Post : jPo} {sc9 : jSc} {mr9 : (Nat → Nat)} {ar9 : jSc} {al9 : jAl} {k31 : Int32 → Int32 → Int32 → Int32 → jSc → (Nat → Nat) → jSc → jAl → Option (jSc × (Nat → Nat) × jSc × jAl)} (hk31 : ∀ (x1 : Int32) (x2 : Int32) (x3 : Int32) (x4 : Int32) (sc : jSc) (mr : (Nat → Nat)) (ar : jSc) (al : jAl), k31 x1 x2 x3 x4 sc mr ar al = some (sc9, mr9, ar9, al9) → gL (gX b) 293 (d + 5) 31 [some (.ref 773), some (.int x1), some (.int x2), some (.int x3), some (.int x4), none, none] [] sc (x_mk mr rf) ar al Post) (hP : Post none sc9 (x_mk mr9 rf) ar9 al9) (x1 : Int32) (x2 : Int32) (x3 : Int32) (x4 : Int32) (x5 : Int32) (sc : jSc) (mr : (Nat → Nat)) (ar : jSc) (al : jAl) (h : xF_293_83 k31 x1 x2 x3 x4 x5 sc mr ar al = some (sc9, mr9, ar9, al9)) : gL (gX b) 293 (d + 5) 83 [some (.ref 773), some (.int x1), some (.int x2), some (.int x3), some (.int x4), some (.int x5), none] [] sc (x_mk mr rf) ar al Post := by
  unfold xF_293_83 at h
  refine gl_aload_n (gX_LK b) y_293_83 rfl rfl ?_
  refine gl_getA (gX_LK b) y_293_84 yf_293_33 ys_773 rfl rfl rfl rfl ?_
  refine gl_aload_n (gX_LK b) y_293_87 rfl rfl ?_
  refine gl_getA (gX_LK b) y_293_88 yf_293_29 ys_773 rfl rfl rfl rfl ?_
  obtain ⟨sce12, mre12, are12, ale12, e12, h⟩ := o_k4 h
  refine gl_callV (gX_LK b) y_293_91 ym_293_175 rfl rfl rfl ys_780 yx_226 rfl rfl ((xt_226 )  _ _ _ (show x_pg 780 = true from rfl) (show x_pg 778 = true from rfl) _ _ _ _ _ _ _ _ e12 ?_)
  refine gl_aload_n (gX_LK b) y_293_94 rfl rfl ?_
  refine gl_getA (gX_LK b) y_293_95 yf_293_78 ys_773 rfl rfl rfl rfl ?_
  refine gl_aload_n (gX_LK b) y_293_98 rfl rfl ?_
  refine gl_getA (gX_LK b) y_293_99 yf_293_33 ys_773 rfl rfl rfl rfl ?_
  refine gl_iload (gX_LK b) y_293_102 rfl rfl ?_
  refine gl_iconst (gX_LK b) y_293_104 ci_m1 rfl ?_
  obtain ⟨ve13, sce13, mre13, are13, ale13, e13, h⟩ := o_k5 h
  refine gl_callV (gX_LK b) y_293_105 ym_293_159 rfl rfl rfl ys_757 yx_209 rfl rfl ((xt_209 )  _ _ _ _ (show x_pg 780 = true from rfl) _ _ _ _ _ _ _ _ _ e13 ?_)
  refine gl_pop (gX_LK b) y_293_108 rfl rfl ?_
  refine gl_aload_n (gX_LK b) y_293_109 rfl rfl ?_
  refine gl_getA (gX_LK b) y_293_110 yf_293_22 ys_773 rfl rfl rfl rfl ?_
  refine gl_aload_n (gX_LK b) y_293_113 rfl rfl ?_
  refine gl_getA (gX_LK b) y_293_114 yf_293_33 ys_773 rfl rfl rfl rfl ?_
  obtain ⟨ve14, sce14, mre14, are14, ale14, e14, h⟩ := o_k5 h
  refine gl_callV (gX_LK b) y_293_117 ym_293_97 rfl rfl rfl ys_774 yx_220 rfl rfl ((xt_220 )  _ _ (show x_pg 780 = true from rfl) _ _ _ _ _ _ _ _ _ e14 ?_)
  refine gl_istore (vs2 := [some (.ref 773), some (.int x1), some (.int x2), some (.int x3), some (.int x4), some (.int x5), some (.int ve14)]) (gX_LK b) y_293_120 rfl rfl rfl rfl ?_
  refine gl_iload (gX_LK b) y_293_122 rfl rfl ?_
  refine gl_if_ge (gX_LK b) y_293_124 rfl rfl (fun c15 => ?_) (fun c15 => ?_)
  · have h := (if_pos c15).symm.trans h
    refine gl_iload (gX_LK b) y_293_190 rfl rfl ?_
    refine gl_if_eq (gX_LK b) y_293_192 rfl rfl (fun c16 => ?_) (fun c16 => ?_)
    · have h := (if_pos c16).symm.trans h
      refine gl_iload_n (gX_LK b) y_293_205 rfl rfl ?_
      refine gl_istore_n (vs2 := [some (.ref 773), some (.int x1), some (.int x2), some (.int x3), some (.int x4), some (.int x5), some (.int ve14)]) (gX_LK b) y_293_206 rfl rfl rfl rfl ?_
      exact gl_weak (vs := [some (.ref 773), some (.int x1), some (.int x2), some (.int x3), some (.int x4), none, some (.int ve14)]) ⟨rfl, rfl, rfl, rfl, rfl, rfl, trivial⟩ (xt_293_207  hk31 hP x1 x2 x3 x4 ve14 sce14 mre14 are14 ale14 h)
    · have h := (if_neg c16).symm.trans h
      refine gl_iload (gX_LK b) y_293_195 rfl rfl ?_
      refine gl_if_lt (gX_LK b) y_293_197 rfl rfl (fun c17 => ?_) (fun c17 => ?_)
      · have h := (if_pos c17).symm.trans h
        refine gl_iload_n (gX_LK b) y_293_205 rfl rfl ?_
        refine gl_istore_n (vs2 := [some (.ref 773), some (.int x1), some (.int x2), some (.int x3), some (.int x4), some (.int x5), some (.int ve14)]) (gX_LK b) y_293_206 rfl rfl rfl rfl ?_
        exact gl_weak (vs := [some (.ref 773), some (.int x1), some (.int x2), some (.int x3), some (.int x4), none, some (.int ve14)]) ⟨rfl, rfl, rfl, rfl, rfl, rfl, trivial⟩ (xt_293_207  hk31 hP x1 x2 x3 x4 ve14 sce14 mre14 are14 ale14 h)
      · have h := (if_neg c17).symm.trans h
        refine gl_iload (gX_LK b) y_293_200 rfl rfl ?_
        refine gl_goto (gX_LK b) y_293_202 rfl ?_
        refine gl_istore_n (vs2 := [some (.ref 773), some (.int x1), some (.int x2), some (.int ve14), some (.int x4), some (.int x5), some (.int ve14)]) (gX_LK b) y_293_206 rfl rfl rfl rfl ?_
        exact gl_weak (vs := [some (.ref 773), some (.int x1), some (.int x2), some (.int ve14), some (.int x4), none, some (.int ve14)]) ⟨rfl, rfl, rfl, rfl, rfl, rfl, trivial⟩ (xt_293_207  hk31 hP x1 x2 ve14 x4 ve14 sce14 mre14 are14 ale14 h)
  · have h := (if_neg c15).symm.trans h
    refine gl_iload_n (gX_LK b) y_293_127 rfl rfl ?_
    refine gl_if_eq (gX_LK b) y_293_128 rfl rfl (fun c18 => ?_) (fun c18 => ?_)
    · have h := (if_pos c18).symm.trans h
      refine gl_aload_n (gX_LK b) y_293_138 rfl rfl ?_
      refine gl_iload_n (gX_LK b) y_293_139 rfl rfl ?_
      refine gl_iload (gX_LK b) y_293_140 rfl rfl ?_
      obtain ⟨ve19, sce19, mre19, are19, ale19, e19, h⟩ := o_k5 h
      refine gl_callV (gX_LK b) y_293_142 ym_293_101 rfl rfl rfl ys_773 yx_294 rfl rfl ((xt_294 )  _ _ _ _ _ _ _ _ _ _ _ _ e19 ?_)
      exact gl_weak (vs := [some (.ref 773), some (.int x1), some (.int x2), some (.int x3), some (.int x4), some (.int x5), none]) ⟨rfl, rfl, rfl, rfl, rfl, rfl, trivial⟩ (xt_293_145  hk31 hP x1 x2 x3 x4 x5 ve19 sce19 mre19 are19 ale19 h)
    · have h := (if_neg c18).symm.trans h
      refine gl_aload_n (gX_LK b) y_293_131 rfl rfl ?_
      obtain ⟨ve20, sce20, mre20, are20, ale20, e20, h⟩ := o_k5 h
      refine gl_callV (gX_LK b) y_293_132 ym_293_177 rfl rfl rfl ys_773 yx_295 rfl rfl ((xt_295 )  _  _ _ _ _ _ _ _ _ _ e20 ?_)
      refine gl_goto (gX_LK b) y_293_135 rfl ?_
      exact gl_weak (vs := [some (.ref 773), some (.int x1), some (.int x2), some (.int x3), some (.int x4), some (.int x5), none]) ⟨rfl, rfl, rfl, rfl, rfl, rfl, trivial⟩ (xt_293_145  hk31 hP x1 x2 x3 x4 x5 ve20 sce20 mre20 are20 ale20 h)
def xF_293_31 : Nat → Int32 → Int32 → Int32 → Int32 → jSc → (Nat → Nat) → jSc → jAl → Option (jSc × (Nat → Nat) × jSc × jAl)
  | 0, _, _, _, _, _, _, _, _ => none
  | nn + 1, x1, x2, x3, x4, sc, mr, ar, al => (if (13 : Int32) ≤ x4 then (if iB x1 2048 then some (sc, mr, (j_u2 ar 792 (iN x1) (1 : Int32)), al) else none) else (if x_pr (mr 3) = true then (o_b5 (xF_254 (mr 3) x4 sc mr ar al) (fun ve24 sce24 mre24 are24 ale24 => (o_b5 (xF_206 778 x4 sce24 mre24 are24 ale24) (fun ve25 sce25 mre25 are25 ale25 => (if ve25 = 0 then xF_293_207 (fun x1_ x2_ x3_ x4_ sc_ mr_ ar_ al_ => xF_293_31 nn x1_ x2_ x3_ x4_ sc_ mr_ ar_ al_) x1 x2 x3 x4 (-1 : Int32) sce25 mre25 are25 ale25 else (if ve24 = 0 then xF_293_83 (fun x1_ x2_ x3_ x4_ sc_ mr_ ar_ al_ => xF_293_31 nn x1_ x2_ x3_ x4_ sc_ mr_ ar_ al_) x1 x2 x3 x4 ve24 sce25 mre25 are25 ale25 else (if 0 ≤ x3 then (if ve24 = 0 then xF_293_207 (fun x1_ x2_ x3_ x4_ sc_ mr_ ar_ al_ => xF_293_31 nn x1_ x2_ x3_ x4_ sc_ mr_ ar_ al_) x1 x2 x3 x4 x3 sce25 mre25 are25 ale25 else (if x3 < 0 then xF_293_207 (fun x1_ x2_ x3_ x4_ sc_ mr_ ar_ al_ => xF_293_31 nn x1_ x2_ x3_ x4_ sc_ mr_ ar_ al_) x1 x2 x3 x4 x3 sce25 mre25 are25 ale25 else xF_293_207 (fun x1_ x2_ x3_ x4_ sc_ mr_ ar_ al_ => xF_293_31 nn x1_ x2_ x3_ x4_ sc_ mr_ ar_ al_) x1 x2 x3 x4 x3 sce25 mre25 are25 ale25)) else xF_293_83 (fun x1_ x2_ x3_ x4_ sc_ mr_ ar_ al_ => xF_293_31 nn x1_ x2_ x3_ x4_ sc_ mr_ ar_ al_) x1 x2 x3 x4 ve24 sce25 mre25 are25 ale25))))))) else none))
set_option maxHeartbeats 4000000 in
theorem xt_293_31 {b : Bool} {rf : jRf} {d : Nat} {Post : jPo} {sc9 : jSc} {mr9 : (Nat → Nat)} {ar9 : jSc} {al9 : jAl} (hP : Post none sc9 (x_mk mr9 rf) ar9 al9) : ∀ (nn : Nat) (x1 : Int32) (x2 : Int32) (x3 : Int32) (x4 : Int32) (sc : jSc) (mr : (Nat → Nat)) (ar : jSc) (al : jAl), xF_293_31 nn x1 x2 x3 x4 sc mr ar al = some (sc9, mr9, ar9, al9) → gL (gX b) 293 (d + 5) 31 [some (.ref 773), some (.int x1), some (.int x2), some (.int x3), some (.int x4), none, none] [] sc (x_mk mr rf) ar al Post := by
  intro nn
  induction nn with
  | zero =>
    intro x1 x2 x3 x4 sc mr ar al h
    have h : (none : Option (jSc × (Nat → Nat) × jSc × jAl)) = some _ := h
    cases h
  | succ nn ih =>
    intro x1 x2 x3 x4 sc mr ar al h
    unfold xF_293_31 at h
    refine gl_iload (gX_LK b) y_293_31 rfl rfl ?_
    refine gl_bipush (gX_LK b) y_293_33 cb_13 rfl ?_
    refine gl_ic_ge (gX_LK b) y_293_35 rfl rfl (fun c21 => ?_) (fun c21 => ?_)
    · have h := (if_pos c21).symm.trans h
      refine gl_aload_n (gX_LK b) y_293_239 rfl rfl ?_
      refine gl_getA (gX_LK b) y_293_240 yf_293_50 ys_773 rfl rfl rfl rfl ?_
      refine gl_iload_n (gX_LK b) y_293_243 rfl rfl ?_
      refine gl_iconst (gX_LK b) y_293_244 ci_1 rfl ?_
      obtain ⟨c22, h⟩ := o_ck h
      refine gl_bastore (ar2 := (j_u2 ar 792 (iN x1) (1 : Int32))) (gX_LK b) y_293_245 ys_792 c22 (Or.inr rfl) rfl rfl ?_
      exact gl_return y_293_246 yt_293 (by cases h; exact hP)
    · have h := (if_neg c21).symm.trans h
      refine gl_aload_n (gX_LK b) y_293_38 rfl rfl ?_
      refine gl_getA (gX_LK b) y_293_39 yf_293_78 ys_773 rfl rfl rfl rfl ?_
      obtain ⟨c23, h⟩ := o_ck h
      refine gl_getA (gX_LK b) y_293_42 yf_293_123 ys_757 rfl rfl rfl rfl ?_
      refine gl_iload (gX_LK b) y_293_45 rfl rfl ?_
      obtain ⟨ve24, sce24, mre24, are24, ale24, e24, h⟩ := o_k5 h
      refine gl_callV (gX_LK b) y_293_47 ym_293_171 rfl rfl rfl (ys_pr c23) yx_254 rfl rfl ((xt_254 )  _ _ _ c23 _ _ _ _ _ _ _ _ _ e24 ?_)
      refine gl_istore (vs2 := [some (.ref 773), some (.int x1), some (.int x2), some (.int x3), some (.int x4), some (.int ve24), none]) (gX_LK b) y_293_50 rfl rfl rfl rfl ?_
      refine gl_iconst (gX_LK b) y_293_52 ci_m1 rfl ?_
      refine gl_istore (vs2 := [some (.ref 773), some (.int x1), some (.int x2), some (.int x3), some (.int x4), some (.int ve24), some (.int (-1 : Int32))]) (gX_LK b) y_293_53 rfl rfl rfl rfl ?_
      refine gl_aload_n (gX_LK b) y_293_55 rfl rfl ?_
      refine gl_getA (gX_LK b) y_293_56 yf_293_78 ys_773 rfl rfl rfl rfl ?_
      refine gl_aload_n (gX_LK b) y_293_59 rfl rfl ?_
      refine gl_getA (gX_LK b) y_293_60 yf_293_29 ys_773 rfl rfl rfl rfl ?_
      refine gl_iload (gX_LK b) y_293_63 rfl rfl ?_
      obtain ⟨ve25, sce25, mre25, are25, ale25, e25, h⟩ := o_k5 h
      refine gl_callV (gX_LK b) y_293_65 ym_293_155 rfl rfl rfl ys_757 yx_206 rfl rfl ((xt_206 )  _ _ _ (show x_pg 778 = true from rfl) _ _ _ _ _ _ _ _ _ e25 ?_)
      refine gl_if_eq (gX_LK b) y_293_68 rfl rfl (fun c26 => ?_) (fun c26 => ?_)
      · have h := (if_pos c26).symm.trans h
        exact gl_weak (vs := [some (.ref 773), some (.int x1), some (.int x2), some (.int x3), some (.int x4), none, some (.int (-1 : Int32))]) ⟨rfl, rfl, rfl, rfl, rfl, rfl, trivial⟩ (xt_293_207  ih hP x1 x2 x3 x4 (-1 : Int32) sce25 mre25 are25 ale25 h)
      · have h := (if_neg c26).symm.trans h
        refine gl_iload_n (gX_LK b) y_293_71 rfl rfl ?_
        refine gl_istore (vs2 := [some (.ref 773), some (.int x1), some (.int x2), some (.int x3), some (.int x4), some (.int ve24), some (.int x3)]) (gX_LK b) y_293_72 rfl rfl rfl rfl ?_
        refine gl_iload (gX_LK b) y_293_74 rfl rfl ?_
        refine gl_if_eq (gX_LK b) y_293_76 rfl rfl (fun c27 => ?_) (fun c27 => ?_)
        · have h := (if_pos c27).symm.trans h
          exact gl_weak (vs := [some (.ref 773), some (.int x1), some (.int x2), some (.int x3), some (.int x4), some (.int ve24), none]) ⟨rfl, rfl, rfl, rfl, rfl, rfl, trivial⟩ (xt_293_83  ih hP x1 x2 x3 x4 ve24 sce25 mre25 are25 ale25 h)
        · have h := (if_neg c27).symm.trans h
          refine gl_iload_n (gX_LK b) y_293_79 rfl rfl ?_
          refine gl_if_ge (gX_LK b) y_293_80 rfl rfl (fun c28 => ?_) (fun c28 => ?_)
          · have h := (if_pos c28).symm.trans h
            refine gl_iload (gX_LK b) y_293_190 rfl rfl ?_
            refine gl_if_eq (gX_LK b) y_293_192 rfl rfl (fun c29 => ?_) (fun c29 => ?_)
            · have h := (if_pos c29).symm.trans h
              refine gl_iload_n (gX_LK b) y_293_205 rfl rfl ?_
              refine gl_istore_n (vs2 := [some (.ref 773), some (.int x1), some (.int x2), some (.int x3), some (.int x4), some (.int ve24), some (.int x3)]) (gX_LK b) y_293_206 rfl rfl rfl rfl ?_
              exact gl_weak (vs := [some (.ref 773), some (.int x1), some (.int x2), some (.int x3), some (.int x4), none, some (.int x3)]) ⟨rfl, rfl, rfl, rfl, rfl, rfl, trivial⟩ (xt_293_207  ih hP x1 x2 x3 x4 x3 sce25 mre25 are25 ale25 h)
            · have h := (if_neg c29).symm.trans h
              refine gl_iload (gX_LK b) y_293_195 rfl rfl ?_
              refine gl_if_lt (gX_LK b) y_293_197 rfl rfl (fun c30 => ?_) (fun c30 => ?_)
              · have h := (if_pos c30).symm.trans h
                refine gl_iload_n (gX_LK b) y_293_205 rfl rfl ?_
                refine gl_istore_n (vs2 := [some (.ref 773), some (.int x1), some (.int x2), some (.int x3), some (.int x4), some (.int ve24), some (.int x3)]) (gX_LK b) y_293_206 rfl rfl rfl rfl ?_
                exact gl_weak (vs := [some (.ref 773), some (.int x1), some (.int x2), some (.int x3), some (.int x4), none, some (.int x3)]) ⟨rfl, rfl, rfl, rfl, rfl, rfl, trivial⟩ (xt_293_207  ih hP x1 x2 x3 x4 x3 sce25 mre25 are25 ale25 h)
              · have h := (if_neg c30).symm.trans h
                refine gl_iload (gX_LK b) y_293_200 rfl rfl ?_
                refine gl_goto (gX_LK b) y_293_202 rfl ?_
                refine gl_istore_n (vs2 := [some (.ref 773), some (.int x1), some (.int x2), some (.int x3), some (.int x4), some (.int ve24), some (.int x3)]) (gX_LK b) y_293_206 rfl rfl rfl rfl ?_
                exact gl_weak (vs := [some (.ref 773), some (.int x1), some (.int x2), some (.int x3), some (.int x4), none, some (.int x3)]) ⟨rfl, rfl, rfl, rfl, rfl, rfl, trivial⟩ (xt_293_207  ih hP x1 x2 x3 x4 x3 sce25 mre25 are25 ale25 h)
          · have h := (if_neg c28).symm.trans h
            exact gl_weak (vs := [some (.ref 773), some (.int x1), some (.int x2), some (.int x3), some (.int x4), some (.int ve24), none]) ⟨rfl, rfl, rfl, rfl, rfl, rfl, trivial⟩ (xt_293_83  ih hP x1 x2 x3 x4 ve24 sce25 mre25 are25 ale25 h)
def xF_293 (x1 : Int32) (x2 : Int32) (sc : jSc) (mr : (Nat → Nat)) (ar : jSc) (al : jAl) : Option (jSc × (Nat → Nat) × jSc × jAl) :=
  (o_b4 (xF_222 x1 778 sc mr ar al) (fun sce31 mre31 are31 ale31 => (o_b5 (xF_233 778 sce31 mre31 are31 ale31) (fun ve32 sce32 mre32 are32 ale32 => (if ve32 = 0 then xF_293_31 oF x1 x2 x1 (0 : Int32) sce32 mre32 are32 ale32 else xF_293_31 oF x1 x2 (-1 : Int32) (0 : Int32) sce32 mre32 are32 ale32)))))
set_option maxHeartbeats 4000000 in
theorem xt_293 {b : Bool} {rf : jRf} {d : Nat} : xT_293 b rf xF_293 (d + 5) := by
  intro  Post x1 x2 sc mr ar al sc9 mr9 ar9 al9 h hP
  unfold xF_293 at h
  refine gl_entry (m := 4) rfl ?_
  show gL (gX b) 293 (d + 5) 0 [some (.ref 773), some (.int x1), some (.int x2), none, none, none, none] [] sc (x_mk mr rf) ar al Post
  refine gl_aload_n (gX_LK b) y_293_0 rfl rfl ?_
  refine gl_getA (gX_LK b) y_293_1 yf_293_22 ys_773 rfl rfl rfl rfl ?_
  refine gl_iload_n (gX_LK b) y_293_4 rfl rfl ?_
  refine gl_aload_n (gX_LK b) y_293_5 rfl rfl ?_
  refine gl_getA (gX_LK b) y_293_6 yf_293_29 ys_773 rfl rfl rfl rfl ?_
  obtain ⟨sce31, mre31, are31, ale31, e31, h⟩ := o_k4 h
  refine gl_callV (gX_LK b) y_293_9 ym_293_163 rfl rfl rfl ys_774 yx_222 rfl rfl ((xt_222 )  _ _ _ (show x_pg 778 = true from rfl) _ _ _ _ _ _ _ _ e31 ?_)
  refine gl_aload_n (gX_LK b) y_293_12 rfl rfl ?_
  refine gl_getA (gX_LK b) y_293_13 yf_293_29 ys_773 rfl rfl rfl rfl ?_
  obtain ⟨ve32, sce32, mre32, are32, ale32, e32, h⟩ := o_k5 h
  refine gl_callV (gX_LK b) y_293_16 ym_293_167 rfl rfl rfl ys_778 yx_233 rfl rfl ((xt_233 )  _ _ (show x_pg 778 = true from rfl) _ _ _ _ _ _ _ _ _ e32 ?_)
  refine gl_if_ne (gX_LK b) y_293_19 rfl rfl (fun c33 => ?_) (fun c33 => ?_)
  · have h := (if_pos c33).symm.trans h
    refine gl_iload_n (gX_LK b) y_293_22 rfl rfl ?_
    refine gl_goto (gX_LK b) y_293_23 rfl ?_
    refine gl_istore_n (vs2 := [some (.ref 773), some (.int x1), some (.int x2), some (.int x1), none, none, none]) (gX_LK b) y_293_27 rfl rfl rfl rfl ?_
    refine gl_iconst (gX_LK b) y_293_28 ci_0 rfl ?_
    refine gl_istore (vs2 := [some (.ref 773), some (.int x1), some (.int x2), some (.int x1), some (.int (0 : Int32)), none, none]) (gX_LK b) y_293_29 rfl rfl rfl rfl ?_
    exact gl_weak (vs := [some (.ref 773), some (.int x1), some (.int x2), some (.int x1), some (.int (0 : Int32)), none, none]) ⟨rfl, rfl, rfl, rfl, rfl, trivial⟩ (xt_293_31  hP oF x1 x2 x1 (0 : Int32) sce32 mre32 are32 ale32 h)
  · have h := (if_neg c33).symm.trans h
    refine gl_iconst (gX_LK b) y_293_26 ci_m1 rfl ?_
    refine gl_istore_n (vs2 := [some (.ref 773), some (.int x1), some (.int x2), some (.int (-1 : Int32)), none, none, none]) (gX_LK b) y_293_27 rfl rfl rfl rfl ?_
    refine gl_iconst (gX_LK b) y_293_28 ci_0 rfl ?_
    refine gl_istore (vs2 := [some (.ref 773), some (.int x1), some (.int x2), some (.int (-1 : Int32)), some (.int (0 : Int32)), none, none]) (gX_LK b) y_293_29 rfl rfl rfl rfl ?_
    exact gl_weak (vs := [some (.ref 773), some (.int x1), some (.int x2), some (.int (-1 : Int32)), some (.int (0 : Int32)), none, none]) ⟨rfl, rfl, rfl, rfl, rfl, trivial⟩ (xt_293_31  hP oF x1 x2 (-1 : Int32) (0 : Int32) sce32 mre32 are32 ale32 h)
