/-! ClickOrders: its methods as functions, and that the machine does what they say. -/
/-- ClickOrders$Reader.faults(II)V -/
def xT_276 (b : Bool) (rf : jRf) (F : Int32 → Int32 → jSc → (Nat → Nat) → jSc → jAl → Option (jSc × (Nat → Nat) × jSc × jAl)) (e : Nat) : Prop := ∀  (Post : jPo) (x1 : Int32) (x2 : Int32) (sc : jSc) (mr : (Nat → Nat)) (ar : jSc) (al : jAl) (sc9 : jSc) (mr9 : (Nat → Nat)) (ar9 : jSc) (al9 : jAl), F x1 x2 sc mr ar al = some (sc9, mr9, ar9, al9) → Post none sc9 (x_mk mr9 rf) ar9 al9 → gW (gX b) 276 e 0 (j_av [.ref 756, .int x1, .int x2]) [] sc (x_mk mr rf) ar al Post
def xF_276 (x1 : Int32) (x2 : Int32) (sc : jSc) (mr : (Nat → Nat)) (ar : jSc) (al : jAl) : Option (jSc × (Nat → Nat) × jSc × jAl) :=
  (if (sc 756 4) = 0 then some ((j_u2 (j_u2 (j_u2 sc 756 4 x1) 756 6 x2) 756 2 (sc 756 1)), mr, ar, al) else some ((j_u2 sc 756 2 (sc 756 1)), mr, ar, al))
set_option maxHeartbeats 4000000 in
theorem xt_276 {b : Bool} {rf : jRf} {d : Nat} : xT_276 b rf xF_276 (d + 1) := by
  intro  Post x1 x2 sc mr ar al sc9 mr9 ar9 al9 h hP
  unfold xF_276 at h
  refine gl_entry (m := 0) rfl ?_
  show gL (gX b) 276 (d + 1) 0 [some (.ref 756), some (.int x1), some (.int x2)] [] sc (x_mk mr rf) ar al Post
  refine gl_aload_n (gX_LK b) y_276_0 rfl rfl ?_
  refine gl_get (gX_LK b) y_276_1 yf_276_21 ys_756 rfl rfl rfl rfl ?_
  refine gl_if_ne (gX_LK b) y_276_4 rfl rfl (fun c1 => ?_) (fun c1 => ?_)
  · have h := (if_pos c1).symm.trans h
    refine gl_aload_n (gX_LK b) y_276_7 rfl rfl ?_
    refine gl_iload_n (gX_LK b) y_276_8 rfl rfl ?_
    refine gl_put (sc' := (j_u2 sc 756 4 x1)) (gX_LK b) y_276_9 yf_276_21 ys_756 rfl rfl rfl rfl rfl ?_
    refine gl_aload_n (gX_LK b) y_276_12 rfl rfl ?_
    refine gl_iload_n (gX_LK b) y_276_13 rfl rfl ?_
    refine gl_put (sc' := (j_u2 (j_u2 sc 756 4 x1) 756 6 x2)) (gX_LK b) y_276_14 yf_276_24 ys_756 rfl rfl rfl rfl rfl ?_
    refine gl_aload_n (gX_LK b) y_276_17 rfl rfl ?_
    refine gl_aload_n (gX_LK b) y_276_18 rfl rfl ?_
    refine gl_get (gX_LK b) y_276_19 yf_276_9 ys_756 rfl rfl rfl rfl ?_
    refine gl_put (sc' := (j_u2 (j_u2 (j_u2 sc 756 4 x1) 756 6 x2) 756 2 (sc 756 1))) (gX_LK b) y_276_22 yf_276_15 ys_756 rfl rfl rfl rfl rfl ?_
    exact gl_return y_276_25 yt_276 (by cases h; exact hP)
  · have h := (if_neg c1).symm.trans h
    refine gl_aload_n (gX_LK b) y_276_17 rfl rfl ?_
    refine gl_aload_n (gX_LK b) y_276_18 rfl rfl ?_
    refine gl_get (gX_LK b) y_276_19 yf_276_9 ys_756 rfl rfl rfl rfl ?_
    refine gl_put (sc' := (j_u2 sc 756 2 (sc 756 1))) (gX_LK b) y_276_22 yf_276_15 ys_756 rfl rfl rfl rfl rfl ?_
    exact gl_return y_276_25 yt_276 (by cases h; exact hP)
/-- ClickOrders$Reader.needs(C)V -/
def xT_271 (b : Bool) (rf : jRf) (F : Int32 → jSc → (Nat → Nat) → jSc → jAl → Option (jSc × (Nat → Nat) × jSc × jAl)) (e : Nat) : Prop := ∀  (Post : jPo) (x1 : Int32) (sc : jSc) (mr : (Nat → Nat)) (ar : jSc) (al : jAl) (sc9 : jSc) (mr9 : (Nat → Nat)) (ar9 : jSc) (al9 : jAl), F x1 sc mr ar al = some (sc9, mr9, ar9, al9) → Post none sc9 (x_mk mr9 rf) ar9 al9 → gW (gX b) 271 e 0 (j_av [.ref 756, .int x1]) [] sc (x_mk mr rf) ar al Post
def xF_271 (x1 : Int32) (sc : jSc) (mr : (Nat → Nat)) (ar : jSc) (al : jAl) : Option (jSc × (Nat → Nat) × jSc × jAl) :=
  (o_b4 (xF_273 sc mr ar al) (fun sce1 mre1 are1 ale1 => (if (sce1 756 1) ≤ (sce1 756 2) then (o_b4 (xF_276 (1 : Int32) (sce1 756 2) sce1 mre1 are1 ale1) (fun sce3 mre3 are3 ale3 => some (sce3, mre3, are3, ale3))) else (if iB (sce1 756 2) 600 then (if (are1 735 (iN (sce1 756 2))) = x1 then some ((j_u2 sce1 756 2 ((sce1 756 2) + (1 : Int32))), mre1, are1, ale1) else (o_b4 (xF_276 (1 : Int32) (sce1 756 2) sce1 mre1 are1 ale1) (fun sce6 mre6 are6 ale6 => some (sce6, mre6, are6, ale6)))) else none))))
set_option maxHeartbeats 4000000 in
theorem xt_271 {b : Bool} {rf : jRf} {d : Nat} : xT_271 b rf xF_271 (d + 2) := by
  intro  Post x1 sc mr ar al sc9 mr9 ar9 al9 h hP
  unfold xF_271 at h
  refine gl_entry (m := 0) rfl ?_
  show gL (gX b) 271 (d + 2) 0 [some (.ref 756), some (.int x1)] [] sc (x_mk mr rf) ar al Post
  refine gl_aload_n (gX_LK b) y_271_0 rfl rfl ?_
  obtain ⟨sce1, mre1, are1, ale1, e1, h⟩ := o_k4 h
  refine gl_callV (gX_LK b) y_271_1 ym_271_113 rfl rfl rfl ys_756 yx_273 rfl rfl ((xt_273 )  _  _ _ _ _ _ _ _ _ e1 ?_)
  refine gl_aload_n (gX_LK b) y_271_4 rfl rfl ?_
  refine gl_get (gX_LK b) y_271_5 yf_271_15 ys_756 rfl rfl rfl rfl ?_
  refine gl_aload_n (gX_LK b) y_271_8 rfl rfl ?_
  refine gl_get (gX_LK b) y_271_9 yf_271_9 ys_756 rfl rfl rfl rfl ?_
  refine gl_ic_ge (gX_LK b) y_271_12 rfl rfl (fun c2 => ?_) (fun c2 => ?_)
  · have h := (if_pos c2).symm.trans h
    refine gl_aload_n (gX_LK b) y_271_41 rfl rfl ?_
    refine gl_iconst (gX_LK b) y_271_42 ci_1 rfl ?_
    refine gl_aload_n (gX_LK b) y_271_43 rfl rfl ?_
    refine gl_get (gX_LK b) y_271_44 yf_271_15 ys_756 rfl rfl rfl rfl ?_
    obtain ⟨sce3, mre3, are3, ale3, e3, h⟩ := o_k4 h
    refine gl_callV (gX_LK b) y_271_47 ym_271_70 rfl rfl rfl ys_756 yx_276 rfl rfl ((xt_276 )  _ _ _ _ _ _ _ _ _ _ _ e3 ?_)
    exact gl_return y_271_50 yt_271 (by cases h; exact hP)
  · have h := (if_neg c2).symm.trans h
    refine gl_aload_n (gX_LK b) y_271_15 rfl rfl ?_
    refine gl_getA (gX_LK b) y_271_16 yf_271_27 ys_756 rfl rfl rfl rfl ?_
    refine gl_aload_n (gX_LK b) y_271_19 rfl rfl ?_
    refine gl_get (gX_LK b) y_271_20 yf_271_15 ys_756 rfl rfl rfl rfl ?_
    obtain ⟨c4, h⟩ := o_ck h
    refine gl_iaload (gX_LK b) y_271_23 ys_735 c4 rfl rfl ?_
    refine gl_iload_n (gX_LK b) y_271_24 rfl rfl ?_
    refine gl_ic_ne (gX_LK b) y_271_25 rfl rfl (fun c5 => ?_) (fun c5 => ?_)
    · have h := (if_pos c5).symm.trans h
      refine gl_aload_n (gX_LK b) y_271_28 rfl rfl ?_
      refine gl_dup (gX_LK b) y_271_29 rfl rfl ?_
      refine gl_get (gX_LK b) y_271_30 yf_271_15 ys_756 rfl rfl rfl rfl ?_
      refine gl_iconst (gX_LK b) y_271_33 ci_1 rfl ?_
      refine gl_iadd (gX_LK b) y_271_34 rfl ?_
      refine gl_put (sc' := (j_u2 sce1 756 2 ((sce1 756 2) + (1 : Int32)))) (gX_LK b) y_271_35 yf_271_15 ys_756 rfl rfl rfl rfl rfl ?_
      refine gl_goto (gX_LK b) y_271_38 rfl ?_
      exact gl_return y_271_50 yt_271 (by cases h; exact hP)
    · have h := (if_neg c5).symm.trans h
      refine gl_aload_n (gX_LK b) y_271_41 rfl rfl ?_
      refine gl_iconst (gX_LK b) y_271_42 ci_1 rfl ?_
      refine gl_aload_n (gX_LK b) y_271_43 rfl rfl ?_
      refine gl_get (gX_LK b) y_271_44 yf_271_15 ys_756 rfl rfl rfl rfl ?_
      obtain ⟨sce6, mre6, are6, ale6, e6, h⟩ := o_k4 h
      refine gl_callV (gX_LK b) y_271_47 ym_271_70 rfl rfl rfl ys_756 yx_276 rfl rfl ((xt_276 )  _ _ _ _ _ _ _ _ _ _ _ e6 ?_)
      exact gl_return y_271_50 yt_271 (by cases h; exact hP)
/-- ClickOrders$Reader.relation()I -/
def xT_262 (b : Bool) (rf : jRf) (F : jSc → (Nat → Nat) → jSc → jAl → Option (Int32 × jSc × (Nat → Nat) × jSc × jAl)) (e : Nat) : Prop := ∀  (Post : jPo) (sc : jSc) (mr : (Nat → Nat)) (ar : jSc) (al : jAl) (r9 : Int32) (sc9 : jSc) (mr9 : (Nat → Nat)) (ar9 : jSc) (al9 : jAl), F sc mr ar al = some (r9, sc9, mr9, ar9, al9) → Post (some (.int r9)) sc9 (x_mk mr9 rf) ar9 al9 → gW (gX b) 262 e 0 (j_av [.ref 756]) [] sc (x_mk mr rf) ar al Post
def xF_262 (sc : jSc) (mr : (Nat → Nat)) (ar : jSc) (al : jAl) : Option (Int32 × jSc × (Nat → Nat) × jSc × jAl) :=
  (o_b5 (xF_270 (60 : Int32) sc mr ar al) (fun ve1 sce1 mre1 are1 ale1 => (if ve1 = 0 then (o_b5 (xF_270 (62 : Int32) sce1 mre1 are1 ale1) (fun ve3 sce3 mre3 are3 ale3 => (if ve3 = 0 then (o_b4 (xF_271 (61 : Int32) sce3 mre3 are3 ale3) (fun sce5 mre5 are5 ale5 => some ((13 : Int32), sce5, mre5, are5, ale5))) else some ((12 : Int32), sce3, mre3, are3, ale3)))) else some ((11 : Int32), sce1, mre1, are1, ale1))))
set_option maxHeartbeats 4000000 in
theorem xt_262 {b : Bool} {rf : jRf} {d : Nat} : xT_262 b rf xF_262 (d + 3) := by
  intro  Post  sc mr ar al r9 sc9 mr9 ar9 al9 h hP
  unfold xF_262 at h
  refine gl_entry (m := 0) rfl ?_
  show gL (gX b) 262 (d + 3) 0 [some (.ref 756)] [] sc (x_mk mr rf) ar al Post
  refine gl_aload_n (gX_LK b) y_262_0 rfl rfl ?_
  refine gl_bipush (gX_LK b) y_262_1 cb_60 rfl ?_
  obtain ⟨ve1, sce1, mre1, are1, ale1, e1, h⟩ := o_k5 h
  refine gl_callV (gX_LK b) y_262_3 ym_262_94 rfl rfl rfl ys_756 yx_270 rfl rfl ((xt_270 )  _ _ _ _ _ _ _ _ _ _ _ e1 ?_)
  refine gl_if_eq (gX_LK b) y_262_6 rfl rfl (fun c2 => ?_) (fun c2 => ?_)
  · have h := (if_pos c2).symm.trans h
    refine gl_aload_n (gX_LK b) y_262_12 rfl rfl ?_
    refine gl_bipush (gX_LK b) y_262_13 cb_62 rfl ?_
    obtain ⟨ve3, sce3, mre3, are3, ale3, e3, h⟩ := o_k5 h
    refine gl_callV (gX_LK b) y_262_15 ym_262_94 rfl rfl rfl ys_756 yx_270 rfl rfl ((xt_270 )  _ _ _ _ _ _ _ _ _ _ _ e3 ?_)
    refine gl_if_eq (gX_LK b) y_262_18 rfl rfl (fun c4 => ?_) (fun c4 => ?_)
    · have h := (if_pos c4).symm.trans h
      refine gl_aload_n (gX_LK b) y_262_24 rfl rfl ?_
      refine gl_bipush (gX_LK b) y_262_25 cb_61 rfl ?_
      obtain ⟨sce5, mre5, are5, ale5, e5, h⟩ := o_k4 h
      refine gl_callV (gX_LK b) y_262_27 ym_262_80 rfl rfl rfl ys_756 yx_271 rfl rfl ((xt_271 )  _ _ _ _ _ _ _ _ _ _ e5 ?_)
      refine gl_bipush (gX_LK b) y_262_30 cb_13 rfl ?_
      exact gl_ireturn y_262_32 (Or.inl yt_262) (by cases h; exact hP)
    · have h := (if_neg c4).symm.trans h
      refine gl_bipush (gX_LK b) y_262_21 cb_12 rfl ?_
      exact gl_ireturn y_262_23 (Or.inl yt_262) (by cases h; exact hP)
  · have h := (if_neg c2).symm.trans h
    refine gl_bipush (gX_LK b) y_262_9 cb_11 rfl ?_
    exact gl_ireturn y_262_11 (Or.inl yt_262) (by cases h; exact hP)
/-- ClickOrders$Reader.joiner(I)I -/
def xT_264 (b : Bool) (rf : jRf) (F : Int32 → jSc → (Nat → Nat) → jSc → jAl → Option (Int32 × jSc × (Nat → Nat) × jSc × jAl)) (e : Nat) : Prop := ∀  (Post : jPo) (x1 : Int32) (sc : jSc) (mr : (Nat → Nat)) (ar : jSc) (al : jAl) (r9 : Int32) (sc9 : jSc) (mr9 : (Nat → Nat)) (ar9 : jSc) (al9 : jAl), F x1 sc mr ar al = some (r9, sc9, mr9, ar9, al9) → Post (some (.int r9)) sc9 (x_mk mr9 rf) ar9 al9 → gW (gX b) 264 e 0 (j_av [.ref 756, .int x1]) [] sc (x_mk mr rf) ar al Post
def xF_264_29 (x1 : Int32) (y0 : Int32) (sc : jSc) (mr : (Nat → Nat)) (ar : jSc) (al : jAl) : Option (Int32 × jSc × (Nat → Nat) × jSc × jAl) :=
  (if x1 = (1 : Int32) then (if y0 = (42 : Int32) then (if (7 : Int32) < 0 then some ((7 : Int32), sc, mr, ar, al) else some ((7 : Int32), (j_u2 sc 756 2 ((sc 756 2) + (1 : Int32))), mr, ar, al)) else (if y0 = (47 : Int32) then (if (8 : Int32) < 0 then some ((8 : Int32), sc, mr, ar, al) else some ((8 : Int32), (j_u2 sc 756 2 ((sc 756 2) + (1 : Int32))), mr, ar, al)) else (if (-1 : Int32) < 0 then some ((-1 : Int32), sc, mr, ar, al) else some ((-1 : Int32), (j_u2 sc 756 2 ((sc 756 2) + (1 : Int32))), mr, ar, al)))) else (if y0 = (43 : Int32) then (if (5 : Int32) < 0 then some ((5 : Int32), sc, mr, ar, al) else some ((5 : Int32), (j_u2 sc 756 2 ((sc 756 2) + (1 : Int32))), mr, ar, al)) else (if y0 = (45 : Int32) then (if (6 : Int32) < 0 then some ((6 : Int32), sc, mr, ar, al) else some ((6 : Int32), (j_u2 sc 756 2 ((sc 756 2) + (1 : Int32))), mr, ar, al)) else (if (-1 : Int32) < 0 then some ((-1 : Int32), sc, mr, ar, al) else some ((-1 : Int32), (j_u2 sc 756 2 ((sc 756 2) + (1 : Int32))), mr, ar, al)))))
set_option maxHeartbeats 4000000 in
theorem xt_264_29 {b : Bool} {rf : jRf} {d : Nat} {Post : jPo} {r9 : Int32} {sc9 : jSc} {mr9 : (Nat → Nat)} {ar9 : jSc} {al9 : jAl} (hP : Post (some (.int r9)) sc9 (x_mk mr9 rf) ar9 al9) (x1 : Int32) (y0 : Int32) (sc : jSc) (mr : (Nat → Nat)) (ar : jSc) (al : jAl) (h : xF_264_29 x1 y0 sc mr ar al = some (r9, sc9, mr9, ar9, al9)) : gL (gX b) 264 (d + 2) 29 [some (.ref 756), some (.int x1), none, none] [.int y0] sc (x_mk mr rf) ar al Post := by
  unfold xF_264_29 at h
  refine gl_istore_n (vs2 := [some (.ref 756), some (.int x1), some (.int y0), none]) (gX_LK b) y_264_29 rfl rfl rfl rfl ?_
  refine gl_iconst (gX_LK b) y_264_30 ci_m1 rfl ?_
  refine gl_istore_n (vs2 := [some (.ref 756), some (.int x1), some (.int y0), some (.int (-1 : Int32))]) (gX_LK b) y_264_31 rfl rfl rfl rfl ?_
  refine gl_iload_n (gX_LK b) y_264_32 rfl rfl ?_
  refine gl_iconst (gX_LK b) y_264_33 ci_1 rfl ?_
  refine gl_ic_ne (gX_LK b) y_264_34 rfl rfl (fun c1 => ?_) (fun c1 => ?_)
  · have h := (if_pos c1).symm.trans h
    refine gl_iload_n (gX_LK b) y_264_37 rfl rfl ?_
    refine gl_bipush (gX_LK b) y_264_38 cb_42 rfl ?_
    refine gl_ic_ne (gX_LK b) y_264_40 rfl rfl (fun c2 => ?_) (fun c2 => ?_)
    · have h := (if_pos c2).symm.trans h
      refine gl_bipush (gX_LK b) y_264_43 cb_7 rfl ?_
      refine gl_goto (gX_LK b) y_264_45 rfl ?_
      refine gl_istore_n (vs2 := [some (.ref 756), some (.int x1), some (.int y0), some (.int (7 : Int32))]) (gX_LK b) y_264_60 rfl rfl rfl rfl ?_
      refine gl_goto (gX_LK b) y_264_61 rfl ?_
      refine gl_iload_n (gX_LK b) y_264_87 rfl rfl ?_
      refine gl_if_lt (gX_LK b) y_264_88 rfl rfl (fun c3 => ?_) (fun c3 => ?_)
      · have h := (if_pos c3).symm.trans h
        refine gl_iload_n (gX_LK b) y_264_101 rfl rfl ?_
        exact gl_ireturn y_264_102 (Or.inl yt_264) (by cases h; exact hP)
      · have h := (if_neg c3).symm.trans h
        refine gl_aload_n (gX_LK b) y_264_91 rfl rfl ?_
        refine gl_dup (gX_LK b) y_264_92 rfl rfl ?_
        refine gl_get (gX_LK b) y_264_93 yf_264_15 ys_756 rfl rfl rfl rfl ?_
        refine gl_iconst (gX_LK b) y_264_96 ci_1 rfl ?_
        refine gl_iadd (gX_LK b) y_264_97 rfl ?_
        refine gl_put (sc' := (j_u2 sc 756 2 ((sc 756 2) + (1 : Int32)))) (gX_LK b) y_264_98 yf_264_15 ys_756 rfl rfl rfl rfl rfl ?_
        refine gl_iload_n (gX_LK b) y_264_101 rfl rfl ?_
        exact gl_ireturn y_264_102 (Or.inl yt_264) (by cases h; exact hP)
    · have h := (if_neg c2).symm.trans h
      refine gl_iload_n (gX_LK b) y_264_48 rfl rfl ?_
      refine gl_bipush (gX_LK b) y_264_49 cb_47 rfl ?_
      refine gl_ic_ne (gX_LK b) y_264_51 rfl rfl (fun c4 => ?_) (fun c4 => ?_)
      · have h := (if_pos c4).symm.trans h
        refine gl_bipush (gX_LK b) y_264_54 cb_8 rfl ?_
        refine gl_goto (gX_LK b) y_264_56 rfl ?_
        refine gl_istore_n (vs2 := [some (.ref 756), some (.int x1), some (.int y0), some (.int (8 : Int32))]) (gX_LK b) y_264_60 rfl rfl rfl rfl ?_
        refine gl_goto (gX_LK b) y_264_61 rfl ?_
        refine gl_iload_n (gX_LK b) y_264_87 rfl rfl ?_
        refine gl_if_lt (gX_LK b) y_264_88 rfl rfl (fun c5 => ?_) (fun c5 => ?_)
        · have h := (if_pos c5).symm.trans h
          refine gl_iload_n (gX_LK b) y_264_101 rfl rfl ?_
          exact gl_ireturn y_264_102 (Or.inl yt_264) (by cases h; exact hP)
        · have h := (if_neg c5).symm.trans h
          refine gl_aload_n (gX_LK b) y_264_91 rfl rfl ?_
          refine gl_dup (gX_LK b) y_264_92 rfl rfl ?_
          refine gl_get (gX_LK b) y_264_93 yf_264_15 ys_756 rfl rfl rfl rfl ?_
          refine gl_iconst (gX_LK b) y_264_96 ci_1 rfl ?_
          refine gl_iadd (gX_LK b) y_264_97 rfl ?_
          refine gl_put (sc' := (j_u2 sc 756 2 ((sc 756 2) + (1 : Int32)))) (gX_LK b) y_264_98 yf_264_15 ys_756 rfl rfl rfl rfl rfl ?_
          refine gl_iload_n (gX_LK b) y_264_101 rfl rfl ?_
          exact gl_ireturn y_264_102 (Or.inl yt_264) (by cases h; exact hP)
      · have h := (if_neg c4).symm.trans h
        refine gl_iconst (gX_LK b) y_264_59 ci_m1 rfl ?_
        refine gl_istore_n (vs2 := [some (.ref 756), some (.int x1), some (.int y0), some (.int (-1 : Int32))]) (gX_LK b) y_264_60 rfl rfl rfl rfl ?_
        refine gl_goto (gX_LK b) y_264_61 rfl ?_
        refine gl_iload_n (gX_LK b) y_264_87 rfl rfl ?_
        refine gl_if_lt (gX_LK b) y_264_88 rfl rfl (fun c6 => ?_) (fun c6 => ?_)
        · have h := (if_pos c6).symm.trans h
          refine gl_iload_n (gX_LK b) y_264_101 rfl rfl ?_
          exact gl_ireturn y_264_102 (Or.inl yt_264) (by cases h; exact hP)
        · have h := (if_neg c6).symm.trans h
          refine gl_aload_n (gX_LK b) y_264_91 rfl rfl ?_
          refine gl_dup (gX_LK b) y_264_92 rfl rfl ?_
          refine gl_get (gX_LK b) y_264_93 yf_264_15 ys_756 rfl rfl rfl rfl ?_
          refine gl_iconst (gX_LK b) y_264_96 ci_1 rfl ?_
          refine gl_iadd (gX_LK b) y_264_97 rfl ?_
          refine gl_put (sc' := (j_u2 sc 756 2 ((sc 756 2) + (1 : Int32)))) (gX_LK b) y_264_98 yf_264_15 ys_756 rfl rfl rfl rfl rfl ?_
          refine gl_iload_n (gX_LK b) y_264_101 rfl rfl ?_
          exact gl_ireturn y_264_102 (Or.inl yt_264) (by cases h; exact hP)
  · have h := (if_neg c1).symm.trans h
    refine gl_iload_n (gX_LK b) y_264_64 rfl rfl ?_
    refine gl_bipush (gX_LK b) y_264_65 cb_43 rfl ?_
    refine gl_ic_ne (gX_LK b) y_264_67 rfl rfl (fun c7 => ?_) (fun c7 => ?_)
    · have h := (if_pos c7).symm.trans h
      refine gl_iconst (gX_LK b) y_264_70 ci_5 rfl ?_
      refine gl_goto (gX_LK b) y_264_71 rfl ?_
      refine gl_istore_n (vs2 := [some (.ref 756), some (.int x1), some (.int y0), some (.int (5 : Int32))]) (gX_LK b) y_264_86 rfl rfl rfl rfl ?_
      refine gl_iload_n (gX_LK b) y_264_87 rfl rfl ?_
      refine gl_if_lt (gX_LK b) y_264_88 rfl rfl (fun c8 => ?_) (fun c8 => ?_)
      · have h := (if_pos c8).symm.trans h
        refine gl_iload_n (gX_LK b) y_264_101 rfl rfl ?_
        exact gl_ireturn y_264_102 (Or.inl yt_264) (by cases h; exact hP)
      · have h := (if_neg c8).symm.trans h
        refine gl_aload_n (gX_LK b) y_264_91 rfl rfl ?_
        refine gl_dup (gX_LK b) y_264_92 rfl rfl ?_
        refine gl_get (gX_LK b) y_264_93 yf_264_15 ys_756 rfl rfl rfl rfl ?_
        refine gl_iconst (gX_LK b) y_264_96 ci_1 rfl ?_
        refine gl_iadd (gX_LK b) y_264_97 rfl ?_
        refine gl_put (sc' := (j_u2 sc 756 2 ((sc 756 2) + (1 : Int32)))) (gX_LK b) y_264_98 yf_264_15 ys_756 rfl rfl rfl rfl rfl ?_
        refine gl_iload_n (gX_LK b) y_264_101 rfl rfl ?_
        exact gl_ireturn y_264_102 (Or.inl yt_264) (by cases h; exact hP)
    · have h := (if_neg c7).symm.trans h
      refine gl_iload_n (gX_LK b) y_264_74 rfl rfl ?_
      refine gl_bipush (gX_LK b) y_264_75 cb_45 rfl ?_
      refine gl_ic_ne (gX_LK b) y_264_77 rfl rfl (fun c9 => ?_) (fun c9 => ?_)
      · have h := (if_pos c9).symm.trans h
        refine gl_bipush (gX_LK b) y_264_80 cb_6 rfl ?_
        refine gl_goto (gX_LK b) y_264_82 rfl ?_
        refine gl_istore_n (vs2 := [some (.ref 756), some (.int x1), some (.int y0), some (.int (6 : Int32))]) (gX_LK b) y_264_86 rfl rfl rfl rfl ?_
        refine gl_iload_n (gX_LK b) y_264_87 rfl rfl ?_
        refine gl_if_lt (gX_LK b) y_264_88 rfl rfl (fun c10 => ?_) (fun c10 => ?_)
        · have h := (if_pos c10).symm.trans h
          refine gl_iload_n (gX_LK b) y_264_101 rfl rfl ?_
          exact gl_ireturn y_264_102 (Or.inl yt_264) (by cases h; exact hP)
        · have h := (if_neg c10).symm.trans h
          refine gl_aload_n (gX_LK b) y_264_91 rfl rfl ?_
          refine gl_dup (gX_LK b) y_264_92 rfl rfl ?_
          refine gl_get (gX_LK b) y_264_93 yf_264_15 ys_756 rfl rfl rfl rfl ?_
          refine gl_iconst (gX_LK b) y_264_96 ci_1 rfl ?_
          refine gl_iadd (gX_LK b) y_264_97 rfl ?_
          refine gl_put (sc' := (j_u2 sc 756 2 ((sc 756 2) + (1 : Int32)))) (gX_LK b) y_264_98 yf_264_15 ys_756 rfl rfl rfl rfl rfl ?_
          refine gl_iload_n (gX_LK b) y_264_101 rfl rfl ?_
          exact gl_ireturn y_264_102 (Or.inl yt_264) (by cases h; exact hP)
      · have h := (if_neg c9).symm.trans h
        refine gl_iconst (gX_LK b) y_264_85 ci_m1 rfl ?_
        refine gl_istore_n (vs2 := [some (.ref 756), some (.int x1), some (.int y0), some (.int (-1 : Int32))]) (gX_LK b) y_264_86 rfl rfl rfl rfl ?_
        refine gl_iload_n (gX_LK b) y_264_87 rfl rfl ?_
        refine gl_if_lt (gX_LK b) y_264_88 rfl rfl (fun c11 => ?_) (fun c11 => ?_)
        · have h := (if_pos c11).symm.trans h
          refine gl_iload_n (gX_LK b) y_264_101 rfl rfl ?_
          exact gl_ireturn y_264_102 (Or.inl yt_264) (by cases h; exact hP)
        · have h := (if_neg c11).symm.trans h
          refine gl_aload_n (gX_LK b) y_264_91 rfl rfl ?_
          refine gl_dup (gX_LK b) y_264_92 rfl rfl ?_
          refine gl_get (gX_LK b) y_264_93 yf_264_15 ys_756 rfl rfl rfl rfl ?_
          refine gl_iconst (gX_LK b) y_264_96 ci_1 rfl ?_
          refine gl_iadd (gX_LK b) y_264_97 rfl ?_
          refine gl_put (sc' := (j_u2 sc 756 2 ((sc 756 2) + (1 : Int32)))) (gX_LK b) y_264_98 yf_264_15 ys_756 rfl rfl rfl rfl rfl ?_
          refine gl_iload_n (gX_LK b) y_264_101 rfl rfl ?_
          exact gl_ireturn y_264_102 (Or.inl yt_264) (by cases h; exact hP)
def xF_264 (x1 : Int32) (sc : jSc) (mr : (Nat → Nat)) (ar : jSc) (al : jAl) : Option (Int32 × jSc × (Nat → Nat) × jSc × jAl) :=
  (o_b4 (xF_273 sc mr ar al) (fun sce12 mre12 are12 ale12 => (if (sce12 756 1) ≤ (sce12 756 2) then xF_264_29 x1 (32 : Int32) sce12 mre12 are12 ale12 else (if iB (sce12 756 2) 600 then xF_264_29 x1 (are12 735 (iN (sce12 756 2))) sce12 mre12 are12 ale12 else none))))
set_option maxHeartbeats 4000000 in
theorem xt_264 {b : Bool} {rf : jRf} {d : Nat} : xT_264 b rf xF_264 (d + 2) := by
  intro  Post x1 sc mr ar al r9 sc9 mr9 ar9 al9 h hP
  unfold xF_264 at h
  refine gl_entry (m := 2) rfl ?_
  show gL (gX b) 264 (d + 2) 0 [some (.ref 756), some (.int x1), none, none] [] sc (x_mk mr rf) ar al Post
  refine gl_aload_n (gX_LK b) y_264_0 rfl rfl ?_
  obtain ⟨sce12, mre12, are12, ale12, e12, h⟩ := o_k4 h
  refine gl_callV (gX_LK b) y_264_1 ym_264_113 rfl rfl rfl ys_756 yx_273 rfl rfl ((xt_273 )  _  _ _ _ _ _ _ _ _ e12 ?_)
  refine gl_aload_n (gX_LK b) y_264_4 rfl rfl ?_
  refine gl_get (gX_LK b) y_264_5 yf_264_15 ys_756 rfl rfl rfl rfl ?_
  refine gl_aload_n (gX_LK b) y_264_8 rfl rfl ?_
  refine gl_get (gX_LK b) y_264_9 yf_264_9 ys_756 rfl rfl rfl rfl ?_
  refine gl_ic_ge (gX_LK b) y_264_12 rfl rfl (fun c13 => ?_) (fun c13 => ?_)
  · have h := (if_pos c13).symm.trans h
    refine gl_bipush (gX_LK b) y_264_27 cb_32 rfl ?_
    exact gl_weak (vs := [some (.ref 756), some (.int x1), none, none]) ⟨rfl, rfl, trivial⟩ (xt_264_29  hP x1 (32 : Int32) sce12 mre12 are12 ale12 h)
  · have h := (if_neg c13).symm.trans h
    refine gl_aload_n (gX_LK b) y_264_15 rfl rfl ?_
    refine gl_getA (gX_LK b) y_264_16 yf_264_27 ys_756 rfl rfl rfl rfl ?_
    refine gl_aload_n (gX_LK b) y_264_19 rfl rfl ?_
    refine gl_get (gX_LK b) y_264_20 yf_264_15 ys_756 rfl rfl rfl rfl ?_
    obtain ⟨c14, h⟩ := o_ck h
    refine gl_iaload (gX_LK b) y_264_23 ys_735 c14 rfl rfl ?_
    refine gl_goto (gX_LK b) y_264_24 rfl ?_
    exact gl_weak (vs := [some (.ref 756), some (.int x1), none, none]) ⟨rfl, rfl, trivial⟩ (xt_264_29  hP x1 (are12 735 (iN (sce12 756 2))) sce12 mre12 are12 ale12 h)
/-- ClickOrders$Reader.opens(I)Z -/
def xT_265 (b : Bool) (rf : jRf) (F : Int32 → jSc → (Nat → Nat) → jSc → jAl → Option (Int32 × jSc × (Nat → Nat) × jSc × jAl)) (e : Nat) : Prop := ∀  (Post : jPo) (x1 : Int32) (sc : jSc) (mr : (Nat → Nat)) (ar : jSc) (al : jAl) (r9 : Int32) (sc9 : jSc) (mr9 : (Nat → Nat)) (ar9 : jSc) (al9 : jAl), F x1 sc mr ar al = some (r9, sc9, mr9, ar9, al9) → Post (some (.int r9)) sc9 (x_mk mr9 rf) ar9 al9 → gW (gX b) 265 e 0 (j_av [.ref 756, .int x1]) [] sc (x_mk mr rf) ar al Post
def xF_265 (x1 : Int32) (sc : jSc) (mr : (Nat → Nat)) (ar : jSc) (al : jAl) : Option (Int32 × jSc × (Nat → Nat) × jSc × jAl) :=
  (if (sc 756 3) < (6 : Int32) then (if (sc 756 4) = 0 then some ((1 : Int32), (j_u2 sc 756 3 ((sc 756 3) + (1 : Int32))), mr, ar, al) else some ((0 : Int32), sc, mr, ar, al)) else (o_b4 (xF_276 (3 : Int32) x1 sc mr ar al) (fun sce3 mre3 are3 ale3 => (if (sce3 756 4) = 0 then some ((1 : Int32), (j_u2 sce3 756 3 ((sce3 756 3) + (1 : Int32))), mre3, are3, ale3) else some ((0 : Int32), sce3, mre3, are3, ale3)))))
set_option maxHeartbeats 4000000 in
theorem xt_265 {b : Bool} {rf : jRf} {d : Nat} : xT_265 b rf xF_265 (d + 2) := by
  intro  Post x1 sc mr ar al r9 sc9 mr9 ar9 al9 h hP
  unfold xF_265 at h
  refine gl_entry (m := 0) rfl ?_
  show gL (gX b) 265 (d + 2) 0 [some (.ref 756), some (.int x1)] [] sc (x_mk mr rf) ar al Post
  refine gl_aload_n (gX_LK b) y_265_0 rfl rfl ?_
  refine gl_get (gX_LK b) y_265_1 yf_265_18 ys_756 rfl rfl rfl rfl ?_
  refine gl_bipush (gX_LK b) y_265_4 cb_6 rfl ?_
  refine gl_ic_lt (gX_LK b) y_265_6 rfl rfl (fun c1 => ?_) (fun c1 => ?_)
  · have h := (if_pos c1).symm.trans h
    refine gl_aload_n (gX_LK b) y_265_15 rfl rfl ?_
    refine gl_get (gX_LK b) y_265_16 yf_265_21 ys_756 rfl rfl rfl rfl ?_
    refine gl_if_eq (gX_LK b) y_265_19 rfl rfl (fun c2 => ?_) (fun c2 => ?_)
    · have h := (if_pos c2).symm.trans h
      refine gl_aload_n (gX_LK b) y_265_24 rfl rfl ?_
      refine gl_dup (gX_LK b) y_265_25 rfl rfl ?_
      refine gl_get (gX_LK b) y_265_26 yf_265_18 ys_756 rfl rfl rfl rfl ?_
      refine gl_iconst (gX_LK b) y_265_29 ci_1 rfl ?_
      refine gl_iadd (gX_LK b) y_265_30 rfl ?_
      refine gl_put (sc' := (j_u2 sc 756 3 ((sc 756 3) + (1 : Int32)))) (gX_LK b) y_265_31 yf_265_18 ys_756 rfl rfl rfl rfl rfl ?_
      refine gl_iconst (gX_LK b) y_265_34 ci_1 rfl ?_
      exact gl_ireturn y_265_35 (Or.inr ⟨yt_265, Or.inr rfl⟩) (by cases h; exact hP)
    · have h := (if_neg c2).symm.trans h
      refine gl_iconst (gX_LK b) y_265_22 ci_0 rfl ?_
      exact gl_ireturn y_265_23 (Or.inr ⟨yt_265, Or.inl rfl⟩) (by cases h; exact hP)
  · have h := (if_neg c1).symm.trans h
    refine gl_aload_n (gX_LK b) y_265_9 rfl rfl ?_
    refine gl_iconst (gX_LK b) y_265_10 ci_3 rfl ?_
    refine gl_iload_n (gX_LK b) y_265_11 rfl rfl ?_
    obtain ⟨sce3, mre3, are3, ale3, e3, h⟩ := o_k4 h
    refine gl_callV (gX_LK b) y_265_12 ym_265_70 rfl rfl rfl ys_756 yx_276 rfl rfl ((xt_276 )  _ _ _ _ _ _ _ _ _ _ _ e3 ?_)
    refine gl_aload_n (gX_LK b) y_265_15 rfl rfl ?_
    refine gl_get (gX_LK b) y_265_16 yf_265_21 ys_756 rfl rfl rfl rfl ?_
    refine gl_if_eq (gX_LK b) y_265_19 rfl rfl (fun c4 => ?_) (fun c4 => ?_)
    · have h := (if_pos c4).symm.trans h
      refine gl_aload_n (gX_LK b) y_265_24 rfl rfl ?_
      refine gl_dup (gX_LK b) y_265_25 rfl rfl ?_
      refine gl_get (gX_LK b) y_265_26 yf_265_18 ys_756 rfl rfl rfl rfl ?_
      refine gl_iconst (gX_LK b) y_265_29 ci_1 rfl ?_
      refine gl_iadd (gX_LK b) y_265_30 rfl ?_
      refine gl_put (sc' := (j_u2 sce3 756 3 ((sce3 756 3) + (1 : Int32)))) (gX_LK b) y_265_31 yf_265_18 ys_756 rfl rfl rfl rfl rfl ?_
      refine gl_iconst (gX_LK b) y_265_34 ci_1 rfl ?_
      exact gl_ireturn y_265_35 (Or.inr ⟨yt_265, Or.inr rfl⟩) (by cases h; exact hP)
    · have h := (if_neg c4).symm.trans h
      refine gl_iconst (gX_LK b) y_265_22 ci_0 rfl ?_
      exact gl_ireturn y_265_23 (Or.inr ⟨yt_265, Or.inl rfl⟩) (by cases h; exact hP)
/-- ClickOrders$Reader.isDigit(I)Z -/
def xT_274 (b : Bool) (rf : jRf) (F : Int32 → jSc → (Nat → Nat) → jSc → jAl → Option (Int32 × jSc × (Nat → Nat) × jSc × jAl)) (e : Nat) : Prop := ∀  (Post : jPo) (x1 : Int32) (sc : jSc) (mr : (Nat → Nat)) (ar : jSc) (al : jAl) (r9 : Int32) (sc9 : jSc) (mr9 : (Nat → Nat)) (ar9 : jSc) (al9 : jAl), F x1 sc mr ar al = some (r9, sc9, mr9, ar9, al9) → Post (some (.int r9)) sc9 (x_mk mr9 rf) ar9 al9 → gW (gX b) 274 e 0 (j_av [.ref 756, .int x1]) [] sc (x_mk mr rf) ar al Post
def xF_274 (x1 : Int32) (sc : jSc) (mr : (Nat → Nat)) (ar : jSc) (al : jAl) : Option (Int32 × jSc × (Nat → Nat) × jSc × jAl) :=
  (if x1 < 0 then some ((0 : Int32), sc, mr, ar, al) else (if (sc 756 1) ≤ x1 then some ((0 : Int32), sc, mr, ar, al) else (if iB x1 600 then (if (ar 735 (iN x1)) < (48 : Int32) then some ((0 : Int32), sc, mr, ar, al) else (if iB x1 600 then (if (57 : Int32) < (ar 735 (iN x1)) then some ((0 : Int32), sc, mr, ar, al) else some ((1 : Int32), sc, mr, ar, al)) else none)) else none)))
set_option maxHeartbeats 4000000 in
theorem xt_274 {b : Bool} {rf : jRf} {d : Nat} : xT_274 b rf xF_274 (d + 1) := by
  intro  Post x1 sc mr ar al r9 sc9 mr9 ar9 al9 h hP
  unfold xF_274 at h
  refine gl_entry (m := 0) rfl ?_
  show gL (gX b) 274 (d + 1) 0 [some (.ref 756), some (.int x1)] [] sc (x_mk mr rf) ar al Post
  refine gl_iload_n (gX_LK b) y_274_0 rfl rfl ?_
  refine gl_if_lt (gX_LK b) y_274_1 rfl rfl (fun c1 => ?_) (fun c1 => ?_)
  · have h := (if_pos c1).symm.trans h
    refine gl_iconst (gX_LK b) y_274_38 ci_0 rfl ?_
    exact gl_ireturn y_274_39 (Or.inr ⟨yt_274, Or.inl rfl⟩) (by cases h; exact hP)
  · have h := (if_neg c1).symm.trans h
    refine gl_iload_n (gX_LK b) y_274_4 rfl rfl ?_
    refine gl_aload_n (gX_LK b) y_274_5 rfl rfl ?_
    refine gl_get (gX_LK b) y_274_6 yf_274_9 ys_756 rfl rfl rfl rfl ?_
    refine gl_ic_ge (gX_LK b) y_274_9 rfl rfl (fun c2 => ?_) (fun c2 => ?_)
    · have h := (if_pos c2).symm.trans h
      refine gl_iconst (gX_LK b) y_274_38 ci_0 rfl ?_
      exact gl_ireturn y_274_39 (Or.inr ⟨yt_274, Or.inl rfl⟩) (by cases h; exact hP)
    · have h := (if_neg c2).symm.trans h
      refine gl_aload_n (gX_LK b) y_274_12 rfl rfl ?_
      refine gl_getA (gX_LK b) y_274_13 yf_274_27 ys_756 rfl rfl rfl rfl ?_
      refine gl_iload_n (gX_LK b) y_274_16 rfl rfl ?_
      obtain ⟨c3, h⟩ := o_ck h
      refine gl_iaload (gX_LK b) y_274_17 ys_735 c3 rfl rfl ?_
      refine gl_bipush (gX_LK b) y_274_18 cb_48 rfl ?_
      refine gl_ic_lt (gX_LK b) y_274_20 rfl rfl (fun c4 => ?_) (fun c4 => ?_)
      · have h := (if_pos c4).symm.trans h
        refine gl_iconst (gX_LK b) y_274_38 ci_0 rfl ?_
        exact gl_ireturn y_274_39 (Or.inr ⟨yt_274, Or.inl rfl⟩) (by cases h; exact hP)
      · have h := (if_neg c4).symm.trans h
        refine gl_aload_n (gX_LK b) y_274_23 rfl rfl ?_
        refine gl_getA (gX_LK b) y_274_24 yf_274_27 ys_756 rfl rfl rfl rfl ?_
        refine gl_iload_n (gX_LK b) y_274_27 rfl rfl ?_
        obtain ⟨c5, h⟩ := o_ck h
        refine gl_iaload (gX_LK b) y_274_28 ys_735 c5 rfl rfl ?_
        refine gl_bipush (gX_LK b) y_274_29 cb_57 rfl ?_
        refine gl_ic_gt (gX_LK b) y_274_31 rfl rfl (fun c6 => ?_) (fun c6 => ?_)
        · have h := (if_pos c6).symm.trans h
          refine gl_iconst (gX_LK b) y_274_38 ci_0 rfl ?_
          exact gl_ireturn y_274_39 (Or.inr ⟨yt_274, Or.inl rfl⟩) (by cases h; exact hP)
        · have h := (if_neg c6).symm.trans h
          refine gl_iconst (gX_LK b) y_274_34 ci_1 rfl ?_
          refine gl_goto (gX_LK b) y_274_35 rfl ?_
          exact gl_ireturn y_274_39 (Or.inr ⟨yt_274, Or.inr rfl⟩) (by cases h; exact hP)
/-- ClickOrders$Reader.digit(I)I -/
def xT_266 (b : Bool) (rf : jRf) (F : Int32 → jSc → (Nat → Nat) → jSc → jAl → Option (Int32 × jSc × (Nat → Nat) × jSc × jAl)) (e : Nat) : Prop := ∀  (Post : jPo) (x1 : Int32) (sc : jSc) (mr : (Nat → Nat)) (ar : jSc) (al : jAl) (r9 : Int32) (sc9 : jSc) (mr9 : (Nat → Nat)) (ar9 : jSc) (al9 : jAl), F x1 sc mr ar al = some (r9, sc9, mr9, ar9, al9) → Post (some (.int r9)) sc9 (x_mk mr9 rf) ar9 al9 → gW (gX b) 266 e 0 (j_av [.ref 756, .int x1]) [] sc (x_mk mr rf) ar al Post
def xF_266 (x1 : Int32) (sc : jSc) (mr : (Nat → Nat)) (ar : jSc) (al : jAl) : Option (Int32 × jSc × (Nat → Nat) × jSc × jAl) :=
  (o_b4 (xF_273 sc mr ar al) (fun sce1 mre1 are1 ale1 => (o_b5 (xF_274 (sce1 756 2) sce1 mre1 are1 ale1) (fun ve2 sce2 mre2 are2 ale2 => (if ve2 = 0 then (o_b4 (xF_276 (1 : Int32) (sce1 756 2) sce2 mre2 are2 ale2) (fun sce4 mre4 are4 ale4 => some ((0 : Int32), sce4, mre4, are4, ale4))) else (if iB (sce1 756 2) 600 then (o_b5 (xF_274 ((sce1 756 2) + (1 : Int32)) sce2 mre2 are2 ale2) (fun ve6 sce6 mre6 are6 ale6 => (if ve6 = 0 then (if ((are2 735 (iN (sce1 756 2))) - (48 : Int32)) < x1 then some (((are2 735 (iN (sce1 756 2))) - (48 : Int32)), (j_u2 sce6 756 2 ((sce1 756 2) + (1 : Int32))), mre6, are6, ale6) else (o_b4 (xF_276 (2 : Int32) (sce1 756 2) sce6 mre6 are6 ale6) (fun sce9 mre9 are9 ale9 => some ((0 : Int32), sce9, mre9, are9, ale9)))) else (o_b4 (xF_276 (2 : Int32) (sce1 756 2) sce6 mre6 are6 ale6) (fun sce10 mre10 are10 ale10 => some ((0 : Int32), sce10, mre10, are10, ale10)))))) else none))))))
set_option maxHeartbeats 4000000 in
theorem xt_266 {b : Bool} {rf : jRf} {d : Nat} : xT_266 b rf xF_266 (d + 2) := by
  intro  Post x1 sc mr ar al r9 sc9 mr9 ar9 al9 h hP
  unfold xF_266 at h
  refine gl_entry (m := 2) rfl ?_
  show gL (gX b) 266 (d + 2) 0 [some (.ref 756), some (.int x1), none, none] [] sc (x_mk mr rf) ar al Post
  refine gl_aload_n (gX_LK b) y_266_0 rfl rfl ?_
  obtain ⟨sce1, mre1, are1, ale1, e1, h⟩ := o_k4 h
  refine gl_callV (gX_LK b) y_266_1 ym_266_113 rfl rfl rfl ys_756 yx_273 rfl rfl ((xt_273 )  _  _ _ _ _ _ _ _ _ e1 ?_)
  refine gl_aload_n (gX_LK b) y_266_4 rfl rfl ?_
  refine gl_get (gX_LK b) y_266_5 yf_266_15 ys_756 rfl rfl rfl rfl ?_
  refine gl_istore_n (vs2 := [some (.ref 756), some (.int x1), some (.int (sce1 756 2)), none]) (gX_LK b) y_266_8 rfl rfl rfl rfl ?_
  refine gl_aload_n (gX_LK b) y_266_9 rfl rfl ?_
  refine gl_iload_n (gX_LK b) y_266_10 rfl rfl ?_
  obtain ⟨ve2, sce2, mre2, are2, ale2, e2, h⟩ := o_k5 h
  refine gl_callV (gX_LK b) y_266_11 ym_266_170 rfl rfl rfl ys_756 yx_274 rfl rfl ((xt_274 )  _ _ _ _ _ _ _ _ _ _ _ e2 ?_)
  refine gl_if_ne (gX_LK b) y_266_14 rfl rfl (fun c3 => ?_) (fun c3 => ?_)
  · have h := (if_pos c3).symm.trans h
    refine gl_aload_n (gX_LK b) y_266_17 rfl rfl ?_
    refine gl_iconst (gX_LK b) y_266_18 ci_1 rfl ?_
    refine gl_iload_n (gX_LK b) y_266_19 rfl rfl ?_
    obtain ⟨sce4, mre4, are4, ale4, e4, h⟩ := o_k4 h
    refine gl_callV (gX_LK b) y_266_20 ym_266_70 rfl rfl rfl ys_756 yx_276 rfl rfl ((xt_276 )  _ _ _ _ _ _ _ _ _ _ _ e4 ?_)
    refine gl_iconst (gX_LK b) y_266_23 ci_0 rfl ?_
    exact gl_ireturn y_266_24 (Or.inl yt_266) (by cases h; exact hP)
  · have h := (if_neg c3).symm.trans h
    refine gl_aload_n (gX_LK b) y_266_25 rfl rfl ?_
    refine gl_getA (gX_LK b) y_266_26 yf_266_27 ys_756 rfl rfl rfl rfl ?_
    refine gl_iload_n (gX_LK b) y_266_29 rfl rfl ?_
    obtain ⟨c5, h⟩ := o_ck h
    refine gl_iaload (gX_LK b) y_266_30 ys_735 c5 rfl rfl ?_
    refine gl_bipush (gX_LK b) y_266_31 cb_48 rfl ?_
    refine gl_isub (gX_LK b) y_266_33 rfl ?_
    refine gl_istore_n (vs2 := [some (.ref 756), some (.int x1), some (.int (sce1 756 2)), some (.int ((are2 735 (iN (sce1 756 2))) - (48 : Int32)))]) (gX_LK b) y_266_34 rfl rfl rfl rfl ?_
    refine gl_aload_n (gX_LK b) y_266_35 rfl rfl ?_
    refine gl_iload_n (gX_LK b) y_266_36 rfl rfl ?_
    refine gl_iconst (gX_LK b) y_266_37 ci_1 rfl ?_
    refine gl_iadd (gX_LK b) y_266_38 rfl ?_
    obtain ⟨ve6, sce6, mre6, are6, ale6, e6, h⟩ := o_k5 h
    refine gl_callV (gX_LK b) y_266_39 ym_266_170 rfl rfl rfl ys_756 yx_274 rfl rfl ((xt_274 )  _ _ _ _ _ _ _ _ _ _ _ e6 ?_)
    refine gl_if_ne (gX_LK b) y_266_42 rfl rfl (fun c7 => ?_) (fun c7 => ?_)
    · have h := (if_pos c7).symm.trans h
      refine gl_iload_n (gX_LK b) y_266_45 rfl rfl ?_
      refine gl_iload_n (gX_LK b) y_266_46 rfl rfl ?_
      refine gl_ic_lt (gX_LK b) y_266_47 rfl rfl (fun c8 => ?_) (fun c8 => ?_)
      · have h := (if_pos c8).symm.trans h
        refine gl_aload_n (gX_LK b) y_266_58 rfl rfl ?_
        refine gl_iload_n (gX_LK b) y_266_59 rfl rfl ?_
        refine gl_iconst (gX_LK b) y_266_60 ci_1 rfl ?_
        refine gl_iadd (gX_LK b) y_266_61 rfl ?_
        refine gl_put (sc' := (j_u2 sce6 756 2 ((sce1 756 2) + (1 : Int32)))) (gX_LK b) y_266_62 yf_266_15 ys_756 rfl rfl rfl rfl rfl ?_
        refine gl_iload_n (gX_LK b) y_266_65 rfl rfl ?_
        exact gl_ireturn y_266_66 (Or.inl yt_266) (by cases h; exact hP)
      · have h := (if_neg c8).symm.trans h
        refine gl_aload_n (gX_LK b) y_266_50 rfl rfl ?_
        refine gl_iconst (gX_LK b) y_266_51 ci_2 rfl ?_
        refine gl_iload_n (gX_LK b) y_266_52 rfl rfl ?_
        obtain ⟨sce9, mre9, are9, ale9, e9, h⟩ := o_k4 h
        refine gl_callV (gX_LK b) y_266_53 ym_266_70 rfl rfl rfl ys_756 yx_276 rfl rfl ((xt_276 )  _ _ _ _ _ _ _ _ _ _ _ e9 ?_)
        refine gl_iconst (gX_LK b) y_266_56 ci_0 rfl ?_
        exact gl_ireturn y_266_57 (Or.inl yt_266) (by cases h; exact hP)
    · have h := (if_neg c7).symm.trans h
      refine gl_aload_n (gX_LK b) y_266_50 rfl rfl ?_
      refine gl_iconst (gX_LK b) y_266_51 ci_2 rfl ?_
      refine gl_iload_n (gX_LK b) y_266_52 rfl rfl ?_
      obtain ⟨sce10, mre10, are10, ale10, e10, h⟩ := o_k4 h
      refine gl_callV (gX_LK b) y_266_53 ym_266_70 rfl rfl rfl ys_756 yx_276 rfl rfl ((xt_276 )  _ _ _ _ _ _ _ _ _ _ _ e10 ?_)
      refine gl_iconst (gX_LK b) y_266_56 ci_0 rfl ?_
      exact gl_ireturn y_266_57 (Or.inl yt_266) (by cases h; exact hP)
/-- ClickOrders$Reader.number()I -/
def xT_267 (b : Bool) (rf : jRf) (F : jSc → (Nat → Nat) → jSc → jAl → Option (Int32 × jSc × (Nat → Nat) × jSc × jAl)) (e : Nat) : Prop := ∀  (Post : jPo) (sc : jSc) (mr : (Nat → Nat)) (ar : jSc) (al : jAl) (r9 : Int32) (sc9 : jSc) (mr9 : (Nat → Nat)) (ar9 : jSc) (al9 : jAl), F sc mr ar al = some (r9, sc9, mr9, ar9, al9) → Post (some (.int r9)) sc9 (x_mk mr9 rf) ar9 al9 → gW (gX b) 267 e 0 (j_av [.ref 756]) [] sc (x_mk mr rf) ar al Post
def xF_267_29 : Nat → Int32 → Int32 → Int32 → jSc → (Nat → Nat) → jSc → jAl → Option (Int32 × jSc × (Nat → Nat) × jSc × jAl)
  | 0, _, _, _, _, _, _, _ => none
  | nn + 1, x1, x2, x3, sc, mr, ar, al => (if (sc 756 1) ≤ x3 then (if x2 ≤ (999 : Int32) then some (x2, sc, mr, ar, al) else (o_b4 (xF_276 (2 : Int32) x1 sc mr ar al) (fun sce3 mre3 are3 ale3 => some ((0 : Int32), sce3, mre3, are3, ale3)))) else (o_b5 (xF_274 x3 sc mr ar al) (fun ve4 sce4 mre4 are4 ale4 => (if ve4 = 0 then (if x2 ≤ (999 : Int32) then some (x2, sce4, mre4, are4, ale4) else (o_b4 (xF_276 (2 : Int32) x1 sce4 mre4 are4 ale4) (fun sce7 mre7 are7 ale7 => some ((0 : Int32), sce7, mre7, are7, ale7)))) else (if iB x3 600 then xF_267_29 nn x1 (if (1000 : Int32) < (((x2 * (10 : Int32)) + (are4 735 (iN x3))) - (48 : Int32)) then (1000 : Int32) else (((x2 * (10 : Int32)) + (are4 735 (iN x3))) - (48 : Int32))) (x3 + (1 : Int32)) (j_u2 sce4 756 2 (x3 + (1 : Int32))) mre4 are4 ale4 else none)))))
set_option maxHeartbeats 4000000 in
theorem xt_267_29 {b : Bool} {rf : jRf} {d : Nat} {Post : jPo} {r9 : Int32} {sc9 : jSc} {mr9 : (Nat → Nat)} {ar9 : jSc} {al9 : jAl} (hP : Post (some (.int r9)) sc9 (x_mk mr9 rf) ar9 al9) : ∀ (nn : Nat) (x1 : Int32) (x2 : Int32) (x3 : Int32) (sc : jSc) (mr : (Nat → Nat)) (ar : jSc) (al : jAl), xF_267_29 nn x1 x2 x3 sc mr ar al = some (r9, sc9, mr9, ar9, al9) → gL (gX b) 267 (d + 2) 29 [some (.ref 756), some (.int x1), some (.int x2), some (.int x3)] [] sc (x_mk mr rf) ar al Post := by
  intro nn
  induction nn with
  | zero =>
    intro x1 x2 x3 sc mr ar al h
    have h : (none : Option (Int32 × jSc × (Nat → Nat) × jSc × jAl)) = some _ := h
    cases h
  | succ nn ih =>
    intro x1 x2 x3 sc mr ar al h
    unfold xF_267_29 at h
    refine gl_iload_n (gX_LK b) y_267_29 rfl rfl ?_
    refine gl_aload_n (gX_LK b) y_267_30 rfl rfl ?_
    refine gl_get (gX_LK b) y_267_31 yf_267_9 ys_756 rfl rfl rfl rfl ?_
    refine gl_ic_ge (gX_LK b) y_267_34 rfl rfl (fun c1 => ?_) (fun c1 => ?_)
    · have h := (if_pos c1).symm.trans h
      refine gl_iload_n (gX_LK b) y_267_79 rfl rfl ?_
      refine gl_sipush (gX_LK b) y_267_80 cs_999 rfl ?_
      refine gl_ic_le (gX_LK b) y_267_83 rfl rfl (fun c2 => ?_) (fun c2 => ?_)
      · have h := (if_pos c2).symm.trans h
        refine gl_iload_n (gX_LK b) y_267_94 rfl rfl ?_
        exact gl_ireturn y_267_95 (Or.inl yt_267) (by cases h; exact hP)
      · have h := (if_neg c2).symm.trans h
        refine gl_aload_n (gX_LK b) y_267_86 rfl rfl ?_
        refine gl_iconst (gX_LK b) y_267_87 ci_2 rfl ?_
        refine gl_iload_n (gX_LK b) y_267_88 rfl rfl ?_
        obtain ⟨sce3, mre3, are3, ale3, e3, h⟩ := o_k4 h
        refine gl_callV (gX_LK b) y_267_89 ym_267_70 rfl rfl rfl ys_756 yx_276 rfl rfl ((xt_276 )  _ _ _ _ _ _ _ _ _ _ _ e3 ?_)
        refine gl_iconst (gX_LK b) y_267_92 ci_0 rfl ?_
        exact gl_ireturn y_267_93 (Or.inl yt_267) (by cases h; exact hP)
    · have h := (if_neg c1).symm.trans h
      refine gl_aload_n (gX_LK b) y_267_37 rfl rfl ?_
      refine gl_iload_n (gX_LK b) y_267_38 rfl rfl ?_
      obtain ⟨ve4, sce4, mre4, are4, ale4, e4, h⟩ := o_k5 h
      refine gl_callV (gX_LK b) y_267_39 ym_267_170 rfl rfl rfl ys_756 yx_274 rfl rfl ((xt_274 )  _ _ _ _ _ _ _ _ _ _ _ e4 ?_)
      refine gl_if_eq (gX_LK b) y_267_42 rfl rfl (fun c5 => ?_) (fun c5 => ?_)
      · have h := (if_pos c5).symm.trans h
        refine gl_iload_n (gX_LK b) y_267_79 rfl rfl ?_
        refine gl_sipush (gX_LK b) y_267_80 cs_999 rfl ?_
        refine gl_ic_le (gX_LK b) y_267_83 rfl rfl (fun c6 => ?_) (fun c6 => ?_)
        · have h := (if_pos c6).symm.trans h
          refine gl_iload_n (gX_LK b) y_267_94 rfl rfl ?_
          exact gl_ireturn y_267_95 (Or.inl yt_267) (by cases h; exact hP)
        · have h := (if_neg c6).symm.trans h
          refine gl_aload_n (gX_LK b) y_267_86 rfl rfl ?_
          refine gl_iconst (gX_LK b) y_267_87 ci_2 rfl ?_
          refine gl_iload_n (gX_LK b) y_267_88 rfl rfl ?_
          obtain ⟨sce7, mre7, are7, ale7, e7, h⟩ := o_k4 h
          refine gl_callV (gX_LK b) y_267_89 ym_267_70 rfl rfl rfl ys_756 yx_276 rfl rfl ((xt_276 )  _ _ _ _ _ _ _ _ _ _ _ e7 ?_)
          refine gl_iconst (gX_LK b) y_267_92 ci_0 rfl ?_
          exact gl_ireturn y_267_93 (Or.inl yt_267) (by cases h; exact hP)
      · have h := (if_neg c5).symm.trans h
        refine gl_iload_n (gX_LK b) y_267_45 rfl rfl ?_
        refine gl_bipush (gX_LK b) y_267_46 cb_10 rfl ?_
        refine gl_imul (gX_LK b) y_267_48 rfl ?_
        refine gl_aload_n (gX_LK b) y_267_49 rfl rfl ?_
        refine gl_getA (gX_LK b) y_267_50 yf_267_27 ys_756 rfl rfl rfl rfl ?_
        refine gl_iload_n (gX_LK b) y_267_53 rfl rfl ?_
        obtain ⟨c8, h⟩ := o_ck h
        refine gl_iaload (gX_LK b) y_267_54 ys_735 c8 rfl rfl ?_
        refine gl_iadd (gX_LK b) y_267_55 rfl ?_
        refine gl_bipush (gX_LK b) y_267_56 cb_48 rfl ?_
        refine gl_isub (gX_LK b) y_267_58 rfl ?_
        refine gl_sipush (gX_LK b) y_267_59 cs_1000 rfl ?_
        refine gl_min (gX_LK b) y_267_62 yn_267_35 yz_267_35 rfl rfl ?_
        refine gl_istore_n (vs2 := [some (.ref 756), some (.int x1), some (.int (if (1000 : Int32) < (((x2 * (10 : Int32)) + (are4 735 (iN x3))) - (48 : Int32)) then (1000 : Int32) else (((x2 * (10 : Int32)) + (are4 735 (iN x3))) - (48 : Int32)))), some (.int x3)]) (gX_LK b) y_267_65 rfl rfl rfl rfl ?_
        refine gl_aload_n (gX_LK b) y_267_66 rfl rfl ?_
        refine gl_iload_n (gX_LK b) y_267_67 rfl rfl ?_
        refine gl_iconst (gX_LK b) y_267_68 ci_1 rfl ?_
        refine gl_iadd (gX_LK b) y_267_69 rfl ?_
        refine gl_put (sc' := (j_u2 sce4 756 2 (x3 + (1 : Int32)))) (gX_LK b) y_267_70 yf_267_15 ys_756 rfl rfl rfl rfl rfl ?_
        refine gl_iinc (vs2 := [some (.ref 756), some (.int x1), some (.int (if (1000 : Int32) < (((x2 * (10 : Int32)) + (are4 735 (iN x3))) - (48 : Int32)) then (1000 : Int32) else (((x2 * (10 : Int32)) + (are4 735 (iN x3))) - (48 : Int32)))), some (.int (x3 + (1 : Int32)))]) (gX_LK b) y_267_73 rfl rfl rfl ci_1 rfl rfl ?_
        refine gl_goto (gX_LK b) y_267_76 rfl ?_
        exact gl_weak (vs := [some (.ref 756), some (.int x1), some (.int (if (1000 : Int32) < (((x2 * (10 : Int32)) + (are4 735 (iN x3))) - (48 : Int32)) then (1000 : Int32) else (((x2 * (10 : Int32)) + (are4 735 (iN x3))) - (48 : Int32)))), some (.int (x3 + (1 : Int32)))]) ⟨rfl, rfl, rfl, rfl, trivial⟩ (ih x1 (if (1000 : Int32) < (((x2 * (10 : Int32)) + (are4 735 (iN x3))) - (48 : Int32)) then (1000 : Int32) else (((x2 * (10 : Int32)) + (are4 735 (iN x3))) - (48 : Int32))) (x3 + (1 : Int32)) (j_u2 sce4 756 2 (x3 + (1 : Int32))) mre4 are4 ale4 h)
def xF_267 (sc : jSc) (mr : (Nat → Nat)) (ar : jSc) (al : jAl) : Option (Int32 × jSc × (Nat → Nat) × jSc × jAl) :=
  (o_b4 (xF_273 sc mr ar al) (fun sce9 mre9 are9 ale9 => (o_b5 (xF_274 (sce9 756 2) sce9 mre9 are9 ale9) (fun ve10 sce10 mre10 are10 ale10 => (if ve10 = 0 then (o_b4 (xF_276 (1 : Int32) (sce9 756 2) sce10 mre10 are10 ale10) (fun sce12 mre12 are12 ale12 => some ((0 : Int32), sce12, mre12, are12, ale12))) else xF_267_29 oF (sce9 756 2) (0 : Int32) (sce9 756 2) sce10 mre10 are10 ale10)))))
set_option maxHeartbeats 4000000 in
theorem xt_267 {b : Bool} {rf : jRf} {d : Nat} : xT_267 b rf xF_267 (d + 2) := by
  intro  Post  sc mr ar al r9 sc9 mr9 ar9 al9 h hP
  unfold xF_267 at h
  refine gl_entry (m := 3) rfl ?_
  show gL (gX b) 267 (d + 2) 0 [some (.ref 756), none, none, none] [] sc (x_mk mr rf) ar al Post
  refine gl_aload_n (gX_LK b) y_267_0 rfl rfl ?_
  obtain ⟨sce9, mre9, are9, ale9, e9, h⟩ := o_k4 h
  refine gl_callV (gX_LK b) y_267_1 ym_267_113 rfl rfl rfl ys_756 yx_273 rfl rfl ((xt_273 )  _  _ _ _ _ _ _ _ _ e9 ?_)
  refine gl_aload_n (gX_LK b) y_267_4 rfl rfl ?_
  refine gl_get (gX_LK b) y_267_5 yf_267_15 ys_756 rfl rfl rfl rfl ?_
  refine gl_istore_n (vs2 := [some (.ref 756), some (.int (sce9 756 2)), none, none]) (gX_LK b) y_267_8 rfl rfl rfl rfl ?_
  refine gl_aload_n (gX_LK b) y_267_9 rfl rfl ?_
  refine gl_iload_n (gX_LK b) y_267_10 rfl rfl ?_
  obtain ⟨ve10, sce10, mre10, are10, ale10, e10, h⟩ := o_k5 h
  refine gl_callV (gX_LK b) y_267_11 ym_267_170 rfl rfl rfl ys_756 yx_274 rfl rfl ((xt_274 )  _ _ _ _ _ _ _ _ _ _ _ e10 ?_)
  refine gl_if_ne (gX_LK b) y_267_14 rfl rfl (fun c11 => ?_) (fun c11 => ?_)
  · have h := (if_pos c11).symm.trans h
    refine gl_aload_n (gX_LK b) y_267_17 rfl rfl ?_
    refine gl_iconst (gX_LK b) y_267_18 ci_1 rfl ?_
    refine gl_iload_n (gX_LK b) y_267_19 rfl rfl ?_
    obtain ⟨sce12, mre12, are12, ale12, e12, h⟩ := o_k4 h
    refine gl_callV (gX_LK b) y_267_20 ym_267_70 rfl rfl rfl ys_756 yx_276 rfl rfl ((xt_276 )  _ _ _ _ _ _ _ _ _ _ _ e12 ?_)
    refine gl_iconst (gX_LK b) y_267_23 ci_0 rfl ?_
    exact gl_ireturn y_267_24 (Or.inl yt_267) (by cases h; exact hP)
  · have h := (if_neg c11).symm.trans h
    refine gl_iconst (gX_LK b) y_267_25 ci_0 rfl ?_
    refine gl_istore_n (vs2 := [some (.ref 756), some (.int (sce9 756 2)), some (.int (0 : Int32)), none]) (gX_LK b) y_267_26 rfl rfl rfl rfl ?_
    refine gl_iload_n (gX_LK b) y_267_27 rfl rfl ?_
    refine gl_istore_n (vs2 := [some (.ref 756), some (.int (sce9 756 2)), some (.int (0 : Int32)), some (.int (sce9 756 2))]) (gX_LK b) y_267_28 rfl rfl rfl rfl ?_
    exact gl_weak (vs := [some (.ref 756), some (.int (sce9 756 2)), some (.int (0 : Int32)), some (.int (sce9 756 2))]) ⟨rfl, rfl, rfl, rfl, trivial⟩ (xt_267_29  hP oF (sce9 756 2) (0 : Int32) (sce9 756 2) sce10 mre10 are10 ale10 h)
/-- ClickOrders$Reader.isSmall(I)Z -/
def xT_275 (b : Bool) (rf : jRf) (F : Int32 → jSc → (Nat → Nat) → jSc → jAl → Option (Int32 × jSc × (Nat → Nat) × jSc × jAl)) (e : Nat) : Prop := ∀  (Post : jPo) (x1 : Int32) (sc : jSc) (mr : (Nat → Nat)) (ar : jSc) (al : jAl) (r9 : Int32) (sc9 : jSc) (mr9 : (Nat → Nat)) (ar9 : jSc) (al9 : jAl), F x1 sc mr ar al = some (r9, sc9, mr9, ar9, al9) → Post (some (.int r9)) sc9 (x_mk mr9 rf) ar9 al9 → gW (gX b) 275 e 0 (j_av [.ref 756, .int x1]) [] sc (x_mk mr rf) ar al Post
def xF_275 (x1 : Int32) (sc : jSc) (mr : (Nat → Nat)) (ar : jSc) (al : jAl) : Option (Int32 × jSc × (Nat → Nat) × jSc × jAl) :=
  (if x1 < 0 then some ((0 : Int32), sc, mr, ar, al) else (if (sc 756 1) ≤ x1 then some ((0 : Int32), sc, mr, ar, al) else (if iB x1 600 then (if (ar 735 (iN x1)) < (97 : Int32) then some ((0 : Int32), sc, mr, ar, al) else (if iB x1 600 then (if (122 : Int32) < (ar 735 (iN x1)) then some ((0 : Int32), sc, mr, ar, al) else some ((1 : Int32), sc, mr, ar, al)) else none)) else none)))
set_option maxHeartbeats 4000000 in
theorem xt_275 {b : Bool} {rf : jRf} {d : Nat} : xT_275 b rf xF_275 (d + 1) := by
  intro  Post x1 sc mr ar al r9 sc9 mr9 ar9 al9 h hP
  unfold xF_275 at h
  refine gl_entry (m := 0) rfl ?_
  show gL (gX b) 275 (d + 1) 0 [some (.ref 756), some (.int x1)] [] sc (x_mk mr rf) ar al Post
  refine gl_iload_n (gX_LK b) y_275_0 rfl rfl ?_
  refine gl_if_lt (gX_LK b) y_275_1 rfl rfl (fun c1 => ?_) (fun c1 => ?_)
  · have h := (if_pos c1).symm.trans h
    refine gl_iconst (gX_LK b) y_275_38 ci_0 rfl ?_
    exact gl_ireturn y_275_39 (Or.inr ⟨yt_275, Or.inl rfl⟩) (by cases h; exact hP)
  · have h := (if_neg c1).symm.trans h
    refine gl_iload_n (gX_LK b) y_275_4 rfl rfl ?_
    refine gl_aload_n (gX_LK b) y_275_5 rfl rfl ?_
    refine gl_get (gX_LK b) y_275_6 yf_275_9 ys_756 rfl rfl rfl rfl ?_
    refine gl_ic_ge (gX_LK b) y_275_9 rfl rfl (fun c2 => ?_) (fun c2 => ?_)
    · have h := (if_pos c2).symm.trans h
      refine gl_iconst (gX_LK b) y_275_38 ci_0 rfl ?_
      exact gl_ireturn y_275_39 (Or.inr ⟨yt_275, Or.inl rfl⟩) (by cases h; exact hP)
    · have h := (if_neg c2).symm.trans h
      refine gl_aload_n (gX_LK b) y_275_12 rfl rfl ?_
      refine gl_getA (gX_LK b) y_275_13 yf_275_27 ys_756 rfl rfl rfl rfl ?_
      refine gl_iload_n (gX_LK b) y_275_16 rfl rfl ?_
      obtain ⟨c3, h⟩ := o_ck h
      refine gl_iaload (gX_LK b) y_275_17 ys_735 c3 rfl rfl ?_
      refine gl_bipush (gX_LK b) y_275_18 cb_97 rfl ?_
      refine gl_ic_lt (gX_LK b) y_275_20 rfl rfl (fun c4 => ?_) (fun c4 => ?_)
      · have h := (if_pos c4).symm.trans h
        refine gl_iconst (gX_LK b) y_275_38 ci_0 rfl ?_
        exact gl_ireturn y_275_39 (Or.inr ⟨yt_275, Or.inl rfl⟩) (by cases h; exact hP)
      · have h := (if_neg c4).symm.trans h
        refine gl_aload_n (gX_LK b) y_275_23 rfl rfl ?_
        refine gl_getA (gX_LK b) y_275_24 yf_275_27 ys_756 rfl rfl rfl rfl ?_
        refine gl_iload_n (gX_LK b) y_275_27 rfl rfl ?_
        obtain ⟨c5, h⟩ := o_ck h
        refine gl_iaload (gX_LK b) y_275_28 ys_735 c5 rfl rfl ?_
        refine gl_bipush (gX_LK b) y_275_29 cb_122 rfl ?_
        refine gl_ic_gt (gX_LK b) y_275_31 rfl rfl (fun c6 => ?_) (fun c6 => ?_)
        · have h := (if_pos c6).symm.trans h
          refine gl_iconst (gX_LK b) y_275_38 ci_0 rfl ?_
          exact gl_ireturn y_275_39 (Or.inr ⟨yt_275, Or.inl rfl⟩) (by cases h; exact hP)
        · have h := (if_neg c6).symm.trans h
          refine gl_iconst (gX_LK b) y_275_34 ci_1 rfl ?_
          refine gl_goto (gX_LK b) y_275_35 rfl ?_
          exact gl_ireturn y_275_39 (Or.inr ⟨yt_275, Or.inr rfl⟩) (by cases h; exact hP)
/-- ClickOrders$Reader.letter()I -/
def xT_268 (b : Bool) (rf : jRf) (F : jSc → (Nat → Nat) → jSc → jAl → Option (Int32 × jSc × (Nat → Nat) × jSc × jAl)) (e : Nat) : Prop := ∀  (Post : jPo) (sc : jSc) (mr : (Nat → Nat)) (ar : jSc) (al : jAl) (r9 : Int32) (sc9 : jSc) (mr9 : (Nat → Nat)) (ar9 : jSc) (al9 : jAl), F sc mr ar al = some (r9, sc9, mr9, ar9, al9) → Post (some (.int r9)) sc9 (x_mk mr9 rf) ar9 al9 → gW (gX b) 268 e 0 (j_av [.ref 756]) [] sc (x_mk mr rf) ar al Post
def xF_268 (sc : jSc) (mr : (Nat → Nat)) (ar : jSc) (al : jAl) : Option (Int32 × jSc × (Nat → Nat) × jSc × jAl) :=
  (o_b4 (xF_273 sc mr ar al) (fun sce1 mre1 are1 ale1 => (o_b5 (xF_275 (sce1 756 2) sce1 mre1 are1 ale1) (fun ve2 sce2 mre2 are2 ale2 => (if ve2 = 0 then some ((-1 : Int32), sce2, mre2, are2, ale2) else (o_b5 (xF_275 ((sce2 756 2) + (1 : Int32)) sce2 mre2 are2 ale2) (fun ve4 sce4 mre4 are4 ale4 => (if ve4 = 0 then (if iB (sce4 756 2) 600 then (if (are4 735 (iN (sce4 756 2))) ≤ (104 : Int32) then (if iB (sce4 756 2) 600 then some (((are4 735 (iN (sce4 756 2))) - (97 : Int32)), (j_u2 sce4 756 2 ((sce4 756 2) + (1 : Int32))), mre4, are4, ale4) else none) else some ((-1 : Int32), sce4, mre4, are4, ale4)) else none) else some ((-1 : Int32), sce4, mre4, are4, ale4)))))))))
set_option maxHeartbeats 4000000 in
theorem xt_268 {b : Bool} {rf : jRf} {d : Nat} : xT_268 b rf xF_268 (d + 2) := by
  intro  Post  sc mr ar al r9 sc9 mr9 ar9 al9 h hP
  unfold xF_268 at h
  refine gl_entry (m := 1) rfl ?_
  show gL (gX b) 268 (d + 2) 0 [some (.ref 756), none] [] sc (x_mk mr rf) ar al Post
  refine gl_aload_n (gX_LK b) y_268_0 rfl rfl ?_
  obtain ⟨sce1, mre1, are1, ale1, e1, h⟩ := o_k4 h
  refine gl_callV (gX_LK b) y_268_1 ym_268_113 rfl rfl rfl ys_756 yx_273 rfl rfl ((xt_273 )  _  _ _ _ _ _ _ _ _ e1 ?_)
  refine gl_aload_n (gX_LK b) y_268_4 rfl rfl ?_
  refine gl_aload_n (gX_LK b) y_268_5 rfl rfl ?_
  refine gl_get (gX_LK b) y_268_6 yf_268_15 ys_756 rfl rfl rfl rfl ?_
  obtain ⟨ve2, sce2, mre2, are2, ale2, e2, h⟩ := o_k5 h
  refine gl_callV (gX_LK b) y_268_9 ym_268_181 rfl rfl rfl ys_756 yx_275 rfl rfl ((xt_275 )  _ _ _ _ _ _ _ _ _ _ _ e2 ?_)
  refine gl_if_eq (gX_LK b) y_268_12 rfl rfl (fun c3 => ?_) (fun c3 => ?_)
  · have h := (if_pos c3).symm.trans h
    refine gl_iconst (gX_LK b) y_268_42 ci_m1 rfl ?_
    exact gl_ireturn y_268_43 (Or.inl yt_268) (by cases h; exact hP)
  · have h := (if_neg c3).symm.trans h
    refine gl_aload_n (gX_LK b) y_268_15 rfl rfl ?_
    refine gl_aload_n (gX_LK b) y_268_16 rfl rfl ?_
    refine gl_get (gX_LK b) y_268_17 yf_268_15 ys_756 rfl rfl rfl rfl ?_
    refine gl_iconst (gX_LK b) y_268_20 ci_1 rfl ?_
    refine gl_iadd (gX_LK b) y_268_21 rfl ?_
    obtain ⟨ve4, sce4, mre4, are4, ale4, e4, h⟩ := o_k5 h
    refine gl_callV (gX_LK b) y_268_22 ym_268_181 rfl rfl rfl ys_756 yx_275 rfl rfl ((xt_275 )  _ _ _ _ _ _ _ _ _ _ _ e4 ?_)
    refine gl_if_ne (gX_LK b) y_268_25 rfl rfl (fun c5 => ?_) (fun c5 => ?_)
    · have h := (if_pos c5).symm.trans h
      refine gl_aload_n (gX_LK b) y_268_28 rfl rfl ?_
      refine gl_getA (gX_LK b) y_268_29 yf_268_27 ys_756 rfl rfl rfl rfl ?_
      refine gl_aload_n (gX_LK b) y_268_32 rfl rfl ?_
      refine gl_get (gX_LK b) y_268_33 yf_268_15 ys_756 rfl rfl rfl rfl ?_
      obtain ⟨c6, h⟩ := o_ck h
      refine gl_iaload (gX_LK b) y_268_36 ys_735 c6 rfl rfl ?_
      refine gl_bipush (gX_LK b) y_268_37 cb_104 rfl ?_
      refine gl_ic_le (gX_LK b) y_268_39 rfl rfl (fun c7 => ?_) (fun c7 => ?_)
      · have h := (if_pos c7).symm.trans h
        refine gl_aload_n (gX_LK b) y_268_44 rfl rfl ?_
        refine gl_getA (gX_LK b) y_268_45 yf_268_27 ys_756 rfl rfl rfl rfl ?_
        refine gl_aload_n (gX_LK b) y_268_48 rfl rfl ?_
        refine gl_get (gX_LK b) y_268_49 yf_268_15 ys_756 rfl rfl rfl rfl ?_
        obtain ⟨c8, h⟩ := o_ck h
        refine gl_iaload (gX_LK b) y_268_52 ys_735 c8 rfl rfl ?_
        refine gl_bipush (gX_LK b) y_268_53 cb_97 rfl ?_
        refine gl_isub (gX_LK b) y_268_55 rfl ?_
        refine gl_istore_n (vs2 := [some (.ref 756), some (.int ((are4 735 (iN (sce4 756 2))) - (97 : Int32)))]) (gX_LK b) y_268_56 rfl rfl rfl rfl ?_
        refine gl_aload_n (gX_LK b) y_268_57 rfl rfl ?_
        refine gl_dup (gX_LK b) y_268_58 rfl rfl ?_
        refine gl_get (gX_LK b) y_268_59 yf_268_15 ys_756 rfl rfl rfl rfl ?_
        refine gl_iconst (gX_LK b) y_268_62 ci_1 rfl ?_
        refine gl_iadd (gX_LK b) y_268_63 rfl ?_
        refine gl_put (sc' := (j_u2 sce4 756 2 ((sce4 756 2) + (1 : Int32)))) (gX_LK b) y_268_64 yf_268_15 ys_756 rfl rfl rfl rfl rfl ?_
        refine gl_iload_n (gX_LK b) y_268_67 rfl rfl ?_
        exact gl_ireturn y_268_68 (Or.inl yt_268) (by cases h; exact hP)
      · have h := (if_neg c7).symm.trans h
        refine gl_iconst (gX_LK b) y_268_42 ci_m1 rfl ?_
        exact gl_ireturn y_268_43 (Or.inl yt_268) (by cases h; exact hP)
    · have h := (if_neg c5).symm.trans h
      refine gl_iconst (gX_LK b) y_268_42 ci_m1 rfl ?_
      exact gl_ireturn y_268_43 (Or.inl yt_268) (by cases h; exact hP)
/-- ClickOrders$Reader.takesWord(Ljava/lang/String;)Z -/
def xT_269 (b : Bool) (rf : jRf) (F : Nat → jSc → (Nat → Nat) → jSc → jAl → Option (Int32 × jSc × (Nat → Nat) × jSc × jAl)) (e : Nat) : Prop := ∀  (Post : jPo) (p1 : Nat) (hp1 : p1 < 23) (sc : jSc) (mr : (Nat → Nat)) (ar : jSc) (al : jAl) (r9 : Int32) (sc9 : jSc) (mr9 : (Nat → Nat)) (ar9 : jSc) (al9 : jAl), F p1 sc mr ar al = some (r9, sc9, mr9, ar9, al9) → Post (some (.int r9)) sc9 (x_mk mr9 rf) ar9 al9 → gW (gX b) 269 e 0 (j_av [.ref 756, .ref (900 + p1)]) [] sc (x_mk mr rf) ar al Post
def xF_269_11 : Nat → Nat → Int32 → Int32 → jSc → (Nat → Nat) → jSc → jAl → Option (Int32 × jSc × (Nat → Nat) × jSc × jAl)
  | 0, _, _, _, _, _, _, _ => none
  | nn + 1, p1, x2, x3, sc, mr, ar, al => (if x2 ≤ x3 then (o_b5 (xF_275 ((sc 756 2) + x2) sc mr ar al) (fun ve2 sce2 mre2 are2 ale2 => (if ve2 = 0 then some ((1 : Int32), (j_u2 sce2 756 2 ((sce2 756 2) + x2)), mre2, are2, ale2) else some ((0 : Int32), sce2, mre2, are2, ale2)))) else (if (sc 756 1) ≤ ((sc 756 2) + x3) then some ((0 : Int32), sc, mr, ar, al) else (if iB ((sc 756 2) + x3) 600 then (if iB x3 (x_sn p1) then (if (ar 735 (iN ((sc 756 2) + x3))) = (x_sc p1 (iN x3)) then xF_269_11 nn p1 x2 (x3 + (1 : Int32)) sc mr ar al else some ((0 : Int32), sc, mr, ar, al)) else none) else none)))
set_option maxHeartbeats 4000000 in
theorem xt_269_11 {b : Bool} {rf : jRf} {d : Nat} {Post : jPo} {r9 : Int32} {sc9 : jSc} {mr9 : (Nat → Nat)} {ar9 : jSc} {al9 : jAl} (hP : Post (some (.int r9)) sc9 (x_mk mr9 rf) ar9 al9) : ∀ (nn : Nat) (p1 : Nat) (x2 : Int32) (x3 : Int32) (sc : jSc) (mr : (Nat → Nat)) (ar : jSc) (al : jAl), p1 < 23 → xF_269_11 nn p1 x2 x3 sc mr ar al = some (r9, sc9, mr9, ar9, al9) → gL (gX b) 269 (d + 2) 11 [some (.ref 756), some (.ref (900 + p1)), some (.int x2), some (.int x3)] [] sc (x_mk mr rf) ar al Post := by
  intro nn
  induction nn with
  | zero =>
    intro p1 x2 x3 sc mr ar al hp1 h
    have h : (none : Option (Int32 × jSc × (Nat → Nat) × jSc × jAl)) = some _ := h
    cases h
  | succ nn ih =>
    intro p1 x2 x3 sc mr ar al hp1 h
    unfold xF_269_11 at h
    refine gl_iload_n (gX_LK b) y_269_11 rfl rfl ?_
    refine gl_iload_n (gX_LK b) y_269_12 rfl rfl ?_
    refine gl_ic_ge (gX_LK b) y_269_13 rfl rfl (fun c1 => ?_) (fun c1 => ?_)
    · have h := (if_pos c1).symm.trans h
      refine gl_aload_n (gX_LK b) y_269_56 rfl rfl ?_
      refine gl_aload_n (gX_LK b) y_269_57 rfl rfl ?_
      refine gl_get (gX_LK b) y_269_58 yf_269_15 ys_756 rfl rfl rfl rfl ?_
      refine gl_iload_n (gX_LK b) y_269_61 rfl rfl ?_
      refine gl_iadd (gX_LK b) y_269_62 rfl ?_
      obtain ⟨ve2, sce2, mre2, are2, ale2, e2, h⟩ := o_k5 h
      refine gl_callV (gX_LK b) y_269_63 ym_269_181 rfl rfl rfl ys_756 yx_275 rfl rfl ((xt_275 )  _ _ _ _ _ _ _ _ _ _ _ e2 ?_)
      refine gl_if_eq (gX_LK b) y_269_66 rfl rfl (fun c3 => ?_) (fun c3 => ?_)
      · have h := (if_pos c3).symm.trans h
        refine gl_aload_n (gX_LK b) y_269_71 rfl rfl ?_
        refine gl_dup (gX_LK b) y_269_72 rfl rfl ?_
        refine gl_get (gX_LK b) y_269_73 yf_269_15 ys_756 rfl rfl rfl rfl ?_
        refine gl_iload_n (gX_LK b) y_269_76 rfl rfl ?_
        refine gl_iadd (gX_LK b) y_269_77 rfl ?_
        refine gl_put (sc' := (j_u2 sce2 756 2 ((sce2 756 2) + x2))) (gX_LK b) y_269_78 yf_269_15 ys_756 rfl rfl rfl rfl rfl ?_
        refine gl_iconst (gX_LK b) y_269_81 ci_1 rfl ?_
        exact gl_ireturn y_269_82 (Or.inr ⟨yt_269, Or.inr rfl⟩) (by cases h; exact hP)
      · have h := (if_neg c3).symm.trans h
        refine gl_iconst (gX_LK b) y_269_69 ci_0 rfl ?_
        exact gl_ireturn y_269_70 (Or.inr ⟨yt_269, Or.inl rfl⟩) (by cases h; exact hP)
    · have h := (if_neg c1).symm.trans h
      refine gl_aload_n (gX_LK b) y_269_16 rfl rfl ?_
      refine gl_get (gX_LK b) y_269_17 yf_269_15 ys_756 rfl rfl rfl rfl ?_
      refine gl_iload_n (gX_LK b) y_269_20 rfl rfl ?_
      refine gl_iadd (gX_LK b) y_269_21 rfl ?_
      refine gl_aload_n (gX_LK b) y_269_22 rfl rfl ?_
      refine gl_get (gX_LK b) y_269_23 yf_269_9 ys_756 rfl rfl rfl rfl ?_
      refine gl_ic_ge (gX_LK b) y_269_26 rfl rfl (fun c4 => ?_) (fun c4 => ?_)
      · have h := (if_pos c4).symm.trans h
        refine gl_iconst (gX_LK b) y_269_48 ci_0 rfl ?_
        exact gl_ireturn y_269_49 (Or.inr ⟨yt_269, Or.inl rfl⟩) (by cases h; exact hP)
      · have h := (if_neg c4).symm.trans h
        refine gl_aload_n (gX_LK b) y_269_29 rfl rfl ?_
        refine gl_getA (gX_LK b) y_269_30 yf_269_27 ys_756 rfl rfl rfl rfl ?_
        refine gl_aload_n (gX_LK b) y_269_33 rfl rfl ?_
        refine gl_get (gX_LK b) y_269_34 yf_269_15 ys_756 rfl rfl rfl rfl ?_
        refine gl_iload_n (gX_LK b) y_269_37 rfl rfl ?_
        refine gl_iadd (gX_LK b) y_269_38 rfl ?_
        obtain ⟨c5, h⟩ := o_ck h
        refine gl_iaload (gX_LK b) y_269_39 ys_735 c5 rfl rfl ?_
        refine gl_aload_n (gX_LK b) y_269_40 rfl rfl ?_
        refine gl_iload_n (gX_LK b) y_269_41 rfl rfl ?_
        obtain ⟨c6, h⟩ := o_ck h
        refine gl_schar (gX_LK b) y_269_42 yn_269_188 yz_269_188 hp1 c6 rfl rfl ?_
        refine gl_ic_eq (gX_LK b) y_269_45 rfl rfl (fun c7 => ?_) (fun c7 => ?_)
        · have h := (if_pos c7).symm.trans h
          refine gl_iinc (vs2 := [some (.ref 756), some (.ref (900 + p1)), some (.int x2), some (.int (x3 + (1 : Int32)))]) (gX_LK b) y_269_50 rfl rfl rfl ci_1 rfl rfl ?_
          refine gl_goto (gX_LK b) y_269_53 rfl ?_
          exact gl_weak (vs := [some (.ref 756), some (.ref (900 + p1)), some (.int x2), some (.int (x3 + (1 : Int32)))]) ⟨rfl, rfl, rfl, rfl, trivial⟩ (ih p1 x2 (x3 + (1 : Int32)) sc mr ar al hp1 h)
        · have h := (if_neg c7).symm.trans h
          refine gl_iconst (gX_LK b) y_269_48 ci_0 rfl ?_
          exact gl_ireturn y_269_49 (Or.inr ⟨yt_269, Or.inl rfl⟩) (by cases h; exact hP)
def xF_269 (p1 : Nat) (sc : jSc) (mr : (Nat → Nat)) (ar : jSc) (al : jAl) : Option (Int32 × jSc × (Nat → Nat) × jSc × jAl) :=
  (o_b4 (xF_273 sc mr ar al) (fun sce8 mre8 are8 ale8 => xF_269_11 oF p1 (x_sl p1) (0 : Int32) sce8 mre8 are8 ale8))
set_option maxHeartbeats 4000000 in
theorem xt_269 {b : Bool} {rf : jRf} {d : Nat} : xT_269 b rf xF_269 (d + 2) := by
  intro  Post p1 hp1 sc mr ar al r9 sc9 mr9 ar9 al9 h hP
  unfold xF_269 at h
  refine gl_entry (m := 2) rfl ?_
  show gL (gX b) 269 (d + 2) 0 [some (.ref 756), some (.ref (900 + p1)), none, none] [] sc (x_mk mr rf) ar al Post
  refine gl_aload_n (gX_LK b) y_269_0 rfl rfl ?_
  obtain ⟨sce8, mre8, are8, ale8, e8, h⟩ := o_k4 h
  refine gl_callV (gX_LK b) y_269_1 ym_269_113 rfl rfl rfl ys_756 yx_273 rfl rfl ((xt_273 )  _  _ _ _ _ _ _ _ _ e8 ?_)
  refine gl_aload_n (gX_LK b) y_269_4 rfl rfl ?_
  refine gl_slen (gX_LK b) y_269_5 yn_269_184 yz_269_184 hp1 rfl rfl ?_
  refine gl_istore_n (vs2 := [some (.ref 756), some (.ref (900 + p1)), some (.int (x_sl p1)), none]) (gX_LK b) y_269_8 rfl rfl rfl rfl ?_
  refine gl_iconst (gX_LK b) y_269_9 ci_0 rfl ?_
  refine gl_istore_n (vs2 := [some (.ref 756), some (.ref (900 + p1)), some (.int (x_sl p1)), some (.int (0 : Int32))]) (gX_LK b) y_269_10 rfl rfl rfl rfl ?_
  exact gl_weak (vs := [some (.ref 756), some (.ref (900 + p1)), some (.int (x_sl p1)), some (.int (0 : Int32))]) ⟨rfl, rfl, rfl, rfl, trivial⟩ (xt_269_11  hP oF p1 (x_sl p1) (0 : Int32) sce8 mre8 are8 ale8 hp1 h)
