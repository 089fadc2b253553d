/-! ClickOrders: its methods as functions, and that the machine does what they say. -/
/-- ClickOrders$Pair.forgetsFewest()V -/
def xT_246 (b : Bool) (rf : jRf) (F : jSc → (Nat → Nat) → jSc → jAl → Option (jSc × (Nat → Nat) × jSc × jAl)) (e : Nat) : Prop := ∀  (Post : jPo) (sc : jSc) (mr : (Nat → Nat)) (ar : jSc) (al : jAl) (sc9 : jSc) (mr9 : (Nat → Nat)) (ar9 : jSc) (al9 : jAl), F sc mr ar al = some (sc9, mr9, ar9, al9) → Post none sc9 (x_mk mr9 rf) ar9 al9 → gW (gX b) 246 e 0 (j_av [.ref 796]) [] sc (x_mk mr rf) ar al Post
def xF_246 (sc : jSc) (mr : (Nat → Nat)) (ar : jSc) (al : jAl) : Option (jSc × (Nat → Nat) × jSc × jAl) :=
  some ((j_u2 (j_u2 sc 796 4 (-1 : Int32)) 796 5 (-1 : Int32)), mr, ar, al)
set_option maxHeartbeats 4000000 in
theorem xt_246 {b : Bool} {rf : jRf} {d : Nat} : xT_246 b rf xF_246 (d + 1) := by
  intro  Post  sc mr ar al sc9 mr9 ar9 al9 h hP
  unfold xF_246 at h
  refine gl_entry (m := 0) rfl ?_
  show gL (gX b) 246 (d + 1) 0 [some (.ref 796)] [] sc (x_mk mr rf) ar al Post
  refine gl_aload_n (gX_LK b) y_246_0 rfl rfl ?_
  refine gl_iconst (gX_LK b) y_246_1 ci_m1 rfl ?_
  refine gl_put (sc' := (j_u2 sc 796 4 (-1 : Int32))) (gX_LK b) y_246_2 yf_246_25 ys_796 rfl rfl rfl rfl rfl ?_
  refine gl_aload_n (gX_LK b) y_246_5 rfl rfl ?_
  refine gl_iconst (gX_LK b) y_246_6 ci_m1 rfl ?_
  refine gl_put (sc' := (j_u2 (j_u2 sc 796 4 (-1 : Int32)) 796 5 (-1 : Int32))) (gX_LK b) y_246_7 yf_246_28 ys_796 rfl rfl rfl rfl rfl ?_
  exact gl_return y_246_10 yt_246 (by cases h; exact hP)
/-- ClickOrders$Program.isIdle(I)Z -/
def xT_254 (b : Bool) (rf : jRf) (F : Nat → Int32 → jSc → (Nat → Nat) → jSc → jAl → Option (Int32 × jSc × (Nat → Nat) × jSc × jAl)) (e : Nat) : Prop := ∀  (Post : jPo) (p0 : Nat) (x1 : Int32) (hp0 : x_pr p0 = true) (sc : jSc) (mr : (Nat → Nat)) (ar : jSc) (al : jAl) (r9 : Int32) (sc9 : jSc) (mr9 : (Nat → Nat)) (ar9 : jSc) (al9 : jAl), F p0 x1 sc mr ar al = some (r9, sc9, mr9, ar9, al9) → Post (some (.int r9)) sc9 (x_mk mr9 rf) ar9 al9 → gW (gX b) 254 e 0 (j_av [.ref p0, .int x1]) [] sc (x_mk mr rf) ar al Post
def xF_254 (p0 : Nat) (x1 : Int32) (sc : jSc) (mr : (Nat → Nat)) (ar : jSc) (al : jAl) : Option (Int32 × jSc × (Nat → Nat) × jSc × jAl) :=
  (if (8 : Int32) ≤ x1 then some ((0 : Int32), sc, mr, ar, al) else (if iB ((1 : Int32) + x1) 17 then (if 0 ≤ (ar (p0 + 3) (iN ((1 : Int32) + x1))) then some ((0 : Int32), sc, mr, ar, al) else some ((1 : Int32), sc, mr, ar, al)) else none))
set_option maxHeartbeats 4000000 in
theorem xt_254 {b : Bool} {rf : jRf} {d : Nat} : xT_254 b rf xF_254 (d + 1) := by
  intro  Post p0 x1 hp0 sc mr ar al r9 sc9 mr9 ar9 al9 h hP
  unfold xF_254 at h
  refine gl_entry (m := 0) rfl ?_
  show gL (gX b) 254 (d + 1) 0 [some (.ref p0), some (.int x1)] [] sc (x_mk mr rf) ar al Post
  refine gl_iload_n (gX_LK b) y_254_0 rfl rfl ?_
  refine gl_bipush (gX_LK b) y_254_1 cb_8 rfl ?_
  refine gl_ic_ge (gX_LK b) y_254_3 rfl rfl (fun c1 => ?_) (fun c1 => ?_)
  · have h := (if_pos c1).symm.trans h
    refine gl_iconst (gX_LK b) y_254_21 ci_0 rfl ?_
    exact gl_ireturn y_254_22 (Or.inr ⟨yt_254, Or.inl rfl⟩) (by cases h; exact hP)
  · have h := (if_neg c1).symm.trans h
    refine gl_aload_n (gX_LK b) y_254_6 rfl rfl ?_
    refine gl_getA (gX_LK b) y_254_7 yf_254_18 (ys_pr hp0) rfl rfl (yr_pr3 hp0) rfl ?_
    refine gl_iconst (gX_LK b) y_254_10 ci_1 rfl ?_
    refine gl_iload_n (gX_LK b) y_254_11 rfl rfl ?_
    refine gl_iadd (gX_LK b) y_254_12 rfl ?_
    obtain ⟨c2, h⟩ := o_ck h
    refine gl_iaload (gX_LK b) y_254_13 (ys_pr3 hp0) c2 rfl rfl ?_
    refine gl_if_ge (gX_LK b) y_254_14 rfl rfl (fun c3 => ?_) (fun c3 => ?_)
    · have h := (if_pos c3).symm.trans h
      refine gl_iconst (gX_LK b) y_254_21 ci_0 rfl ?_
      exact gl_ireturn y_254_22 (Or.inr ⟨yt_254, Or.inl rfl⟩) (by cases h; exact hP)
    · have h := (if_neg c3).symm.trans h
      refine gl_iconst (gX_LK b) y_254_17 ci_1 rfl ?_
      refine gl_goto (gX_LK b) y_254_18 rfl ?_
      exact gl_ireturn y_254_22 (Or.inr ⟨yt_254, Or.inr rfl⟩) (by cases h; exact hP)
/-- ClickOrders$Pair.loses(II)Z -/
def xT_250 (b : Bool) (rf : jRf) (F : Int32 → Int32 → jSc → (Nat → Nat) → jSc → jAl → Option (Int32 × jSc × (Nat → Nat) × jSc × jAl)) (e : Nat) : Prop := ∀  (Post : jPo) (x1 : Int32) (x2 : Int32) (sc : jSc) (mr : (Nat → Nat)) (ar : jSc) (al : jAl) (r9 : Int32) (sc9 : jSc) (mr9 : (Nat → Nat)) (ar9 : jSc) (al9 : jAl), F x1 x2 sc mr ar al = some (r9, sc9, mr9, ar9, al9) → Post (some (.int r9)) sc9 (x_mk mr9 rf) ar9 al9 → gW (gX b) 250 e 0 (j_av [.ref 796, .int x1, .int x2]) [] sc (x_mk mr rf) ar al Post
def xF_250_119 (g250 : Int32 → Int32 → jSc → (Nat → Nat) → jSc → jAl → Option (Int32 × jSc × (Nat → Nat) × jSc × jAl)) (k56 : Int32 → Int32 → Int32 → Int32 → Nat → Int32 → Int32 → jSc → (Nat → Nat) → jSc → jAl → Option (Int32 × jSc × (Nat → Nat) × jSc × jAl)) (x1 : Int32) (x2 : Int32) (x3 : Int32) (x4 : Int32) (p5 : Nat) (x7 : Int32) (y0 : Int32) (sc : jSc) (mr : (Nat → Nat)) (ar : jSc) (al : jAl) : Option (Int32 × jSc × (Nat → Nat) × jSc × jAl) :=
  (if iB x3 10 then (if iB x1 10 then (o_b4 (xF_226 (799 + 2 * iN x3) (799 + 2 * iN x1) sc mr ar al) (fun sce3 mre3 are3 ale3 => (if iB (x3 + (1 : Int32)) 10 then (if iB (x1 + (1 : Int32)) 10 then (o_b4 (xF_226 (799 + 2 * iN (x3 + (1 : Int32))) (799 + 2 * iN (x1 + (1 : Int32))) sce3 mre3 are3 ale3) (fun sce6 mre6 are6 ale6 => (if iB x1 10 then (if iB x3 10 then (if iB (x1 + (1 : Int32)) 10 then (if iB (x3 + (1 : Int32)) 10 then (o_b5 (xF_249 x3 x4 x7 sce6 mre6 (j_u2 (j_u2 are6 798 (iN x3) (are6 798 (iN x1))) 798 (iN (x3 + (1 : Int32))) ((j_u2 are6 798 (iN x3) (are6 798 (iN x1))) 798 (iN (x1 + (1 : Int32))))) ale6) (fun ve11 sce11 mre11 are11 ale11 => (if 0 < ve11 then some ((1 : Int32), sce11, mre11, are11, ale11) else (o_b5 (g250 x3 (x2 - (1 : Int32)) sce11 mre11 are11 ale11) (fun ve13 sce13 mre13 are13 ale13 => (if ve13 = 0 then k56 x1 x2 x3 x4 p5 y0 (x7 + (1 : Int32)) sce13 mre13 are13 ale13 else some ((1 : Int32), sce13, mre13, are13, ale13))))))) else none) else none) else none) else none))) else none) else none))) else none) else none)
set_option maxHeartbeats 4000000 in
theorem xt_250_119 {b : Bool} {rf : jRf} {d : Nat} {g250 : Int32 → Int32 → jSc → (Nat → Nat) → jSc → jAl → Option (Int32 × jSc × (Nat → Nat) × jSc × jAl)} (hg250 : xT_250 b rf g250 (d + 5)) {Post : jPo} {r9 : Int32} {sc9 : jSc} {mr9 : (Nat → Nat)} {ar9 : jSc} {al9 : jAl} {k56 : Int32 → Int32 → Int32 → Int32 → Nat → Int32 → Int32 → jSc → (Nat → Nat) → jSc → jAl → Option (Int32 × jSc × (Nat → Nat) × jSc × jAl)} (hk56 : ∀ (x1 : Int32) (x2 : Int32) (x3 : Int32) (x4 : Int32) (p5 : Nat) (x6 : Int32) (x7 : Int32) (sc : jSc) (mr : (Nat → Nat)) (ar : jSc) (al : jAl), x_pg p5 = true → k56 x1 x2 x3 x4 p5 x6 x7 sc mr ar al = some (r9, sc9, mr9, ar9, al9) → gL (gX b) 250 (d + 6) 56 [some (.ref 796), some (.int x1), some (.int x2), some (.int x3), some (.int x4), some (.ref p5), some (.int x6), some (.int x7), none] [] sc (x_mk mr rf) ar al Post) (hP : Post (some (.int r9)) sc9 (x_mk mr9 rf) ar9 al9) (x1 : Int32) (x2 : Int32) (x3 : Int32) (x4 : Int32) (p5 : Nat) (x7 : Int32) (y0 : Int32) (sc : jSc) (mr : (Nat → Nat)) (ar : jSc) (al : jAl) (hp5 : x_pg p5 = true) (h : xF_250_119 g250 k56 x1 x2 x3 x4 p5 x7 y0 sc mr ar al = some (r9, sc9, mr9, ar9, al9)) : gL (gX b) 250 (d + 6) 119 [some (.ref 796), some (.int x1), some (.int x2), some (.int x3), some (.int x4), some (.ref p5), none, some (.int x7), none] [.int y0] sc (x_mk mr rf) ar al Post := by
  unfold xF_250_119 at h
  refine gl_istore (vs2 := [some (.ref 796), some (.int x1), some (.int x2), some (.int x3), some (.int x4), some (.ref p5), some (.int y0), some (.int x7), none]) (gX_LK b) y_250_119 rfl rfl rfl rfl ?_
  refine gl_aload_n (gX_LK b) y_250_121 rfl rfl ?_
  refine gl_getA (gX_LK b) y_250_122 yf_250_13 ys_796 rfl rfl rfl rfl ?_
  refine gl_iload_n (gX_LK b) y_250_125 rfl rfl ?_
  obtain ⟨c1, h⟩ := o_ck h
  refine gl_aaload (gX_LK b) y_250_126 ys_797 c1 (Or.inl rfl) (yo_797 (iB_lt c1)) rfl ?_
  refine gl_aload_n (gX_LK b) y_250_127 rfl rfl ?_
  refine gl_getA (gX_LK b) y_250_128 yf_250_13 ys_796 rfl rfl rfl rfl ?_
  refine gl_iload_n (gX_LK b) y_250_131 rfl rfl ?_
  obtain ⟨c2, h⟩ := o_ck h
  refine gl_aaload (gX_LK b) y_250_132 ys_797 c2 (Or.inl rfl) (yo_797 (iB_lt c2)) rfl ?_
  obtain ⟨sce3, mre3, are3, ale3, e3, h⟩ := o_k4 h
  refine gl_callV (gX_LK b) y_250_133 ym_250_93 rfl rfl rfl (ys_pg (pg_797 (iB_lt c1))) yx_226 rfl rfl ((xt_226 )  _ _ _ (pg_797 (iB_lt c1)) (pg_797 (iB_lt c2)) _ _ _ _ _ _ _ _ e3 ?_)
  refine gl_aload_n (gX_LK b) y_250_136 rfl rfl ?_
  refine gl_getA (gX_LK b) y_250_137 yf_250_13 ys_796 rfl rfl rfl rfl ?_
  refine gl_iload_n (gX_LK b) y_250_140 rfl rfl ?_
  refine gl_iconst (gX_LK b) y_250_141 ci_1 rfl ?_
  refine gl_iadd (gX_LK b) y_250_142 rfl ?_
  obtain ⟨c4, h⟩ := o_ck h
  refine gl_aaload (gX_LK b) y_250_143 ys_797 c4 (Or.inl rfl) (yo_797 (iB_lt c4)) rfl ?_
  refine gl_aload_n (gX_LK b) y_250_144 rfl rfl ?_
  refine gl_getA (gX_LK b) y_250_145 yf_250_13 ys_796 rfl rfl rfl rfl ?_
  refine gl_iload_n (gX_LK b) y_250_148 rfl rfl ?_
  refine gl_iconst (gX_LK b) y_250_149 ci_1 rfl ?_
  refine gl_iadd (gX_LK b) y_250_150 rfl ?_
  obtain ⟨c5, h⟩ := o_ck h
  refine gl_aaload (gX_LK b) y_250_151 ys_797 c5 (Or.inl rfl) (yo_797 (iB_lt c5)) rfl ?_
  obtain ⟨sce6, mre6, are6, ale6, e6, h⟩ := o_k4 h
  refine gl_callV (gX_LK b) y_250_152 ym_250_93 rfl rfl rfl (ys_pg (pg_797 (iB_lt c4))) yx_226 rfl rfl ((xt_226 )  _ _ _ (pg_797 (iB_lt c4)) (pg_797 (iB_lt c5)) _ _ _ _ _ _ _ _ e6 ?_)
  refine gl_aload_n (gX_LK b) y_250_155 rfl rfl ?_
  refine gl_getA (gX_LK b) y_250_156 yf_250_21 ys_796 rfl rfl rfl rfl ?_
  refine gl_iload_n (gX_LK b) y_250_159 rfl rfl ?_
  refine gl_aload_n (gX_LK b) y_250_160 rfl rfl ?_
  refine gl_getA (gX_LK b) y_250_161 yf_250_21 ys_796 rfl rfl rfl rfl ?_
  refine gl_iload_n (gX_LK b) y_250_164 rfl rfl ?_
  obtain ⟨c7, h⟩ := o_ck h
  refine gl_iaload (gX_LK b) y_250_165 ys_798 c7 rfl rfl ?_
  obtain ⟨c8, h⟩ := o_ck h
  refine gl_iastore (ar2 := (j_u2 are6 798 (iN x3) (are6 798 (iN x1)))) (gX_LK b) y_250_166 ys_798 c8 rfl rfl ?_
  refine gl_aload_n (gX_LK b) y_250_167 rfl rfl ?_
  refine gl_getA (gX_LK b) y_250_168 yf_250_21 ys_796 rfl rfl rfl rfl ?_
  refine gl_iload_n (gX_LK b) y_250_171 rfl rfl ?_
  refine gl_iconst (gX_LK b) y_250_172 ci_1 rfl ?_
  refine gl_iadd (gX_LK b) y_250_173 rfl ?_
  refine gl_aload_n (gX_LK b) y_250_174 rfl rfl ?_
  refine gl_getA (gX_LK b) y_250_175 yf_250_21 ys_796 rfl rfl rfl rfl ?_
  refine gl_iload_n (gX_LK b) y_250_178 rfl rfl ?_
  refine gl_iconst (gX_LK b) y_250_179 ci_1 rfl ?_
  refine gl_iadd (gX_LK b) y_250_180 rfl ?_
  obtain ⟨c9, h⟩ := o_ck h
  refine gl_iaload (gX_LK b) y_250_181 ys_798 c9 rfl rfl ?_
  obtain ⟨c10, h⟩ := o_ck h
  refine gl_iastore (ar2 := (j_u2 (j_u2 are6 798 (iN x3) (are6 798 (iN x1))) 798 (iN (x3 + (1 : Int32))) ((j_u2 are6 798 (iN x3) (are6 798 (iN x1))) 798 (iN (x1 + (1 : Int32)))))) (gX_LK b) y_250_182 ys_798 c10 rfl rfl ?_
  refine gl_aload_n (gX_LK b) y_250_183 rfl rfl ?_
  refine gl_iload_n (gX_LK b) y_250_184 rfl rfl ?_
  refine gl_iload (gX_LK b) y_250_185 rfl rfl ?_
  refine gl_iload (gX_LK b) y_250_187 rfl rfl ?_
  obtain ⟨ve11, sce11, mre11, are11, ale11, e11, h⟩ := o_k5 h
  refine gl_callV (gX_LK b) y_250_189 ym_250_46 rfl rfl rfl ys_796 yx_249 rfl rfl ((xt_249 )  _ _ _ _ _ _ _ _ _ _ _ _ _ e11 ?_)
  refine gl_if_gt (gX_LK b) y_250_192 rfl rfl (fun c12 => ?_) (fun c12 => ?_)
  · have h := (if_pos c12).symm.trans h
    refine gl_iconst (gX_LK b) y_250_206 ci_1 rfl ?_
    exact gl_ireturn y_250_207 (Or.inr ⟨yt_250, Or.inr rfl⟩) (by cases h; exact hP)
  · have h := (if_neg c12).symm.trans h
    refine gl_aload_n (gX_LK b) y_250_195 rfl rfl ?_
    refine gl_iload_n (gX_LK b) y_250_196 rfl rfl ?_
    refine gl_iload_n (gX_LK b) y_250_197 rfl rfl ?_
    refine gl_iconst (gX_LK b) y_250_198 ci_1 rfl ?_
    refine gl_isub (gX_LK b) y_250_199 rfl ?_
    obtain ⟨ve13, sce13, mre13, are13, ale13, e13, h⟩ := o_k5 h
    refine gl_callV (gX_LK b) y_250_200 ym_250_50 rfl rfl rfl ys_796 yx_250 rfl rfl (hg250  _ _ _ _ _ _ _ _ _ _ _ _ e13 ?_)
    refine gl_if_eq (gX_LK b) y_250_203 rfl rfl (fun c14 => ?_) (fun c14 => ?_)
    · have h := (if_pos c14).symm.trans h
      refine gl_iinc (vs2 := [some (.ref 796), some (.int x1), some (.int x2), some (.int x3), some (.int x4), some (.ref p5), some (.int y0), some (.int (x7 + (1 : Int32))), none]) (gX_LK b) y_250_208 rfl rfl rfl ci_1 rfl rfl ?_
      refine gl_goto (gX_LK b) y_250_211 rfl ?_
      exact gl_weak (vs := [some (.ref 796), some (.int x1), some (.int x2), some (.int x3), some (.int x4), some (.ref p5), some (.int y0), some (.int (x7 + (1 : Int32))), none]) ⟨rfl, rfl, rfl, rfl, rfl, rfl, rfl, rfl, trivial⟩ (hk56 x1 x2 x3 x4 p5 y0 (x7 + (1 : Int32)) sce13 mre13 are13 ale13 hp5 h)
    · have h := (if_neg c14).symm.trans h
      refine gl_iconst (gX_LK b) y_250_206 ci_1 rfl ?_
      exact gl_ireturn y_250_207 (Or.inr ⟨yt_250, Or.inr rfl⟩) (by cases h; exact hP)
def xF_250_87 (g250 : Int32 → Int32 → jSc → (Nat → Nat) → jSc → jAl → Option (Int32 × jSc × (Nat → Nat) × jSc × jAl)) (k56 : Int32 → Int32 → Int32 → Int32 → Nat → Int32 → Int32 → jSc → (Nat → Nat) → jSc → jAl → Option (Int32 × jSc × (Nat → Nat) × jSc × jAl)) (x1 : Int32) (x2 : Int32) (x3 : Int32) (x4 : Int32) (p5 : Nat) (x6 : Int32) (x7 : Int32) (x8 : Int32) (sc : jSc) (mr : (Nat → Nat)) (ar : jSc) (al : jAl) : Option (Int32 × jSc × (Nat → Nat) × jSc × jAl) :=
  (o_b5 (xF_206 p5 x7 sc mr ar al) (fun ve15 sce15 mre15 are15 ale15 => (if ve15 = 0 then k56 x1 x2 x3 x4 p5 x6 (x7 + (1 : Int32)) sce15 mre15 are15 ale15 else (if x6 = 0 then (if x8 = 0 then xF_250_119 g250 k56 x1 x2 x3 x4 p5 x7 (0 : Int32) sce15 mre15 are15 ale15 else xF_250_119 g250 k56 x1 x2 x3 x4 p5 x7 (1 : Int32) sce15 mre15 are15 ale15) else xF_250_119 g250 k56 x1 x2 x3 x4 p5 x7 (1 : Int32) sce15 mre15 are15 ale15))))
set_option maxHeartbeats 4000000 in
theorem xt_250_87 {b : Bool} {rf : jRf} {d : Nat} {g250 : Int32 → Int32 → jSc → (Nat → Nat) → jSc → jAl → Option (Int32 × jSc × (Nat → Nat) × jSc × jAl)} (hg250 : xT_250 b rf g250 (d + 5)) {Post : jPo} {r9 : Int32} {sc9 : jSc} {mr9 : (Nat → Nat)} {ar9 : jSc} {al9 : jAl} {k56 : Int32 → Int32 → Int32 → Int32 → Nat → Int32 → Int32 → jSc → (Nat → Nat) → jSc → jAl → Option (Int32 × jSc × (Nat → Nat) × jSc × jAl)} (hk56 : ∀ (x1 : Int32) (x2 : Int32) (x3 : Int32) (x4 : Int32) (p5 : Nat) (x6 : Int32) (x7 : Int32) (sc : jSc) (mr : (Nat → Nat)) (ar : jSc) (al : jAl), x_pg p5 = true → k56 x1 x2 x3 x4 p5 x6 x7 sc mr ar al = some (r9, sc9, mr9, ar9, al9) → gL (gX b) 250 (d + 6) 56 [some (.ref 796), some (.int x1), some (.int x2), some (.int x3), some (.int x4), some (.ref p5), some (.int x6), some (.int x7), none] [] sc (x_mk mr rf) ar al Post) (hP : Post (some (.int r9)) sc9 (x_mk mr9 rf) ar9 al9) (x1 : Int32) (x2 : Int32) (x3 : Int32) (x4 : Int32) (p5 : Nat) (x6 : Int32) (x7 : Int32) (x8 : Int32) (sc : jSc) (mr : (Nat → Nat)) (ar : jSc) (al : jAl) (hp5 : x_pg p5 = true) (h : xF_250_87 g250 k56 x1 x2 x3 x4 p5 x6 x7 x8 sc mr ar al = some (r9, sc9, mr9, ar9, al9)) : gL (gX b) 250 (d + 6) 87 [some (.ref 796), some (.int x1), some (.int x2), some (.int x3), some (.int x4), some (.ref p5), some (.int x6), some (.int x7), some (.int x8)] [] sc (x_mk mr rf) ar al Post := by
  unfold xF_250_87 at h
  refine gl_aload_n (gX_LK b) y_250_87 rfl rfl ?_
  refine gl_getA (gX_LK b) y_250_88 yf_250_31 ys_796 rfl rfl rfl rfl ?_
  refine gl_aload (gX_LK b) y_250_91 rfl rfl ?_
  refine gl_iload (gX_LK b) y_250_93 rfl rfl ?_
  obtain ⟨ve15, sce15, mre15, are15, ale15, e15, h⟩ := o_k5 h
  refine gl_callV (gX_LK b) y_250_95 ym_250_40 rfl rfl rfl ys_757 yx_206 rfl rfl ((xt_206 )  _ _ _ hp5 _ _ _ _ _ _ _ _ _ e15 ?_)
  refine gl_if_ne (gX_LK b) y_250_98 rfl rfl (fun c16 => ?_) (fun c16 => ?_)
  · have h := (if_pos c16).symm.trans h
    refine gl_goto (gX_LK b) y_250_101 rfl ?_
    refine gl_iinc (vs2 := [some (.ref 796), some (.int x1), some (.int x2), some (.int x3), some (.int x4), some (.ref p5), some (.int x6), some (.int (x7 + (1 : Int32))), some (.int x8)]) (gX_LK b) y_250_208 rfl rfl rfl ci_1 rfl rfl ?_
    refine gl_goto (gX_LK b) y_250_211 rfl ?_
    exact gl_weak (vs := [some (.ref 796), some (.int x1), some (.int x2), some (.int x3), some (.int x4), some (.ref p5), some (.int x6), some (.int (x7 + (1 : Int32))), none]) ⟨rfl, rfl, rfl, rfl, rfl, rfl, rfl, rfl, trivial⟩ (hk56 x1 x2 x3 x4 p5 x6 (x7 + (1 : Int32)) sce15 mre15 are15 ale15 hp5 h)
  · have h := (if_neg c16).symm.trans h
    refine gl_iload (gX_LK b) y_250_104 rfl rfl ?_
    refine gl_if_ne (gX_LK b) y_250_106 rfl rfl (fun c17 => ?_) (fun c17 => ?_)
    · have h := (if_pos c17).symm.trans h
      refine gl_iload (gX_LK b) y_250_109 rfl rfl ?_
      refine gl_if_eq (gX_LK b) y_250_111 rfl rfl (fun c18 => ?_) (fun c18 => ?_)
      · have h := (if_pos c18).symm.trans h
        refine gl_iconst (gX_LK b) y_250_118 ci_0 rfl ?_
        exact gl_weak (vs := [some (.ref 796), some (.int x1), some (.int x2), some (.int x3), some (.int x4), some (.ref p5), none, some (.int x7), none]) ⟨rfl, rfl, rfl, rfl, rfl, rfl, rfl, trivial⟩ (xt_250_119  hg250 hk56 hP x1 x2 x3 x4 p5 x7 (0 : Int32) sce15 mre15 are15 ale15 hp5 h)
      · have h := (if_neg c18).symm.trans h
        refine gl_iconst (gX_LK b) y_250_114 ci_1 rfl ?_
        refine gl_goto (gX_LK b) y_250_115 rfl ?_
        exact gl_weak (vs := [some (.ref 796), some (.int x1), some (.int x2), some (.int x3), some (.int x4), some (.ref p5), none, some (.int x7), none]) ⟨rfl, rfl, rfl, rfl, rfl, rfl, rfl, trivial⟩ (xt_250_119  hg250 hk56 hP x1 x2 x3 x4 p5 x7 (1 : Int32) sce15 mre15 are15 ale15 hp5 h)
    · have h := (if_neg c17).symm.trans h
      refine gl_iconst (gX_LK b) y_250_114 ci_1 rfl ?_
      refine gl_goto (gX_LK b) y_250_115 rfl ?_
      exact gl_weak (vs := [some (.ref 796), some (.int x1), some (.int x2), some (.int x3), some (.int x4), some (.ref p5), none, some (.int x7), none]) ⟨rfl, rfl, rfl, rfl, rfl, rfl, rfl, trivial⟩ (xt_250_119  hg250 hk56 hP x1 x2 x3 x4 p5 x7 (1 : Int32) sce15 mre15 are15 ale15 hp5 h)
def xF_250_56 (g250 : Int32 → Int32 → jSc → (Nat → Nat) → jSc → jAl → Option (Int32 × jSc × (Nat → Nat) × jSc × jAl)) (k21 : Int32 → Int32 → Int32 → Int32 → jSc → (Nat → Nat) → jSc → jAl → Option (Int32 × jSc × (Nat → Nat) × jSc × jAl)) : Nat → Int32 → Int32 → Int32 → Int32 → Nat → Int32 → Int32 → jSc → (Nat → Nat) → jSc → jAl → Option (Int32 × jSc × (Nat → Nat) × jSc × jAl)
  | 0, _, _, _, _, _, _, _, _, _, _, _ => none
  | nn + 1, x1, x2, x3, x4, p5, x6, x7, sc, mr, ar, al => (if (13 : Int32) ≤ x7 then k21 x1 x2 x3 (x4 + (1 : Int32)) sc mr ar al else (if x_pr (mr 3) = true then (o_b5 (xF_254 (mr 3) x7 sc mr ar al) (fun ve21 sce21 mre21 are21 ale21 => (if ve21 = 0 then xF_250_87 g250 (fun x1_ x2_ x3_ x4_ p5_ x6_ x7_ sc_ mr_ ar_ al_ => xF_250_56 g250 k21 nn x1_ x2_ x3_ x4_ p5_ x6_ x7_ sc_ mr_ ar_ al_) x1 x2 x3 x4 p5 x6 x7 ve21 sce21 mre21 are21 ale21 else (if x6 = 0 then xF_250_87 g250 (fun x1_ x2_ x3_ x4_ p5_ x6_ x7_ sc_ mr_ ar_ al_ => xF_250_56 g250 k21 nn x1_ x2_ x3_ x4_ p5_ x6_ x7_ sc_ mr_ ar_ al_) x1 x2 x3 x4 p5 x6 x7 ve21 sce21 mre21 are21 ale21 else xF_250_56 g250 k21 nn x1 x2 x3 x4 p5 x6 (x7 + (1 : Int32)) sce21 mre21 are21 ale21)))) else none))
set_option maxHeartbeats 4000000 in
theorem xt_250_56 {b : Bool} {rf : jRf} {d : Nat} {g250 : Int32 → Int32 → jSc → (Nat → Nat) → jSc → jAl → Option (Int32 × jSc × (Nat → Nat) × jSc × jAl)} (hg250 : xT_250 b rf g250 (d + 5)) {Post : jPo} {r9 : Int32} {sc9 : jSc} {mr9 : (Nat → Nat)} {ar9 : jSc} {al9 : jAl} {k21 : Int32 → Int32 → Int32 → Int32 → jSc → (Nat → Nat) → jSc → jAl → Option (Int32 × jSc × (Nat → Nat) × jSc × jAl)} (hk21 : ∀ (x1 : Int32) (x2 : Int32) (x3 : Int32) (x4 : Int32) (sc : jSc) (mr : (Nat → Nat)) (ar : jSc) (al : jAl), k21 x1 x2 x3 x4 sc mr ar al = some (r9, sc9, mr9, ar9, al9) → gL (gX b) 250 (d + 6) 21 [some (.ref 796), some (.int x1), some (.int x2), some (.int x3), some (.int x4), none, none, none, none] [] sc (x_mk mr rf) ar al Post) (hP : Post (some (.int r9)) sc9 (x_mk mr9 rf) ar9 al9) : ∀ (nn : Nat) (x1 : Int32) (x2 : Int32) (x3 : Int32) (x4 : Int32) (p5 : Nat) (x6 : Int32) (x7 : Int32) (sc : jSc) (mr : (Nat → Nat)) (ar : jSc) (al : jAl), x_pg p5 = true → xF_250_56 g250 k21 nn x1 x2 x3 x4 p5 x6 x7 sc mr ar al = some (r9, sc9, mr9, ar9, al9) → gL (gX b) 250 (d + 6) 56 [some (.ref 796), some (.int x1), some (.int x2), some (.int x3), some (.int x4), some (.ref p5), some (.int x6), some (.int x7), none] [] sc (x_mk mr rf) ar al Post := by
  intro nn
  induction nn with
  | zero =>
    intro x1 x2 x3 x4 p5 x6 x7 sc mr ar al hp5 h
    have h : (none : Option (Int32 × jSc × (Nat → Nat) × jSc × jAl)) = some _ := h
    cases h
  | succ nn ih =>
    intro x1 x2 x3 x4 p5 x6 x7 sc mr ar al hp5 h
    unfold xF_250_56 at h
    refine gl_iload (gX_LK b) y_250_56 rfl rfl ?_
    refine gl_bipush (gX_LK b) y_250_58 cb_13 rfl ?_
    refine gl_ic_ge (gX_LK b) y_250_60 rfl rfl (fun c19 => ?_) (fun c19 => ?_)
    · have h := (if_pos c19).symm.trans h
      refine gl_iinc (vs2 := [some (.ref 796), some (.int x1), some (.int x2), some (.int x3), some (.int (x4 + (1 : Int32))), some (.ref p5), some (.int x6), some (.int x7), none]) (gX_LK b) y_250_214 rfl rfl rfl ci_1 rfl rfl ?_
      refine gl_goto (gX_LK b) y_250_217 rfl ?_
      exact gl_weak (vs := [some (.ref 796), some (.int x1), some (.int x2), some (.int x3), some (.int (x4 + (1 : Int32))), none, none, none, none]) ⟨rfl, rfl, rfl, rfl, rfl, trivial⟩ (hk21 x1 x2 x3 (x4 + (1 : Int32)) sc mr ar al h)
    · have h := (if_neg c19).symm.trans h
      refine gl_aload_n (gX_LK b) y_250_63 rfl rfl ?_
      refine gl_getA (gX_LK b) y_250_64 yf_250_31 ys_796 rfl rfl rfl rfl ?_
      obtain ⟨c20, h⟩ := o_ck h
      refine gl_getA (gX_LK b) y_250_67 yf_250_83 ys_757 rfl rfl rfl rfl ?_
      refine gl_iload (gX_LK b) y_250_70 rfl rfl ?_
      obtain ⟨ve21, sce21, mre21, are21, ale21, e21, h⟩ := o_k5 h
      refine gl_callV (gX_LK b) y_250_72 ym_250_87 rfl rfl rfl (ys_pr c20) yx_254 rfl rfl ((xt_254 )  _ _ _ c20 _ _ _ _ _ _ _ _ _ e21 ?_)
      refine gl_istore (vs2 := [some (.ref 796), some (.int x1), some (.int x2), some (.int x3), some (.int x4), some (.ref p5), some (.int x6), some (.int x7), some (.int ve21)]) (gX_LK b) y_250_75 rfl rfl rfl rfl ?_
      refine gl_iload (gX_LK b) y_250_77 rfl rfl ?_
      refine gl_if_eq (gX_LK b) y_250_79 rfl rfl (fun c22 => ?_) (fun c22 => ?_)
      · have h := (if_pos c22).symm.trans h
        exact gl_weak (vs := [some (.ref 796), some (.int x1), some (.int x2), some (.int x3), some (.int x4), some (.ref p5), some (.int x6), some (.int x7), some (.int ve21)]) ⟨rfl, rfl, rfl, rfl, rfl, rfl, rfl, rfl, rfl, trivial⟩ (xt_250_87  hg250 ih hP x1 x2 x3 x4 p5 x6 x7 ve21 sce21 mre21 are21 ale21 hp5 h)
      · have h := (if_neg c22).symm.trans h
        refine gl_iload (gX_LK b) y_250_82 rfl rfl ?_
        refine gl_if_ne (gX_LK b) y_250_84 rfl rfl (fun c23 => ?_) (fun c23 => ?_)
        · have h := (if_pos c23).symm.trans h
          exact gl_weak (vs := [some (.ref 796), some (.int x1), some (.int x2), some (.int x3), some (.int x4), some (.ref p5), some (.int x6), some (.int x7), some (.int ve21)]) ⟨rfl, rfl, rfl, rfl, rfl, rfl, rfl, rfl, rfl, trivial⟩ (xt_250_87  hg250 ih hP x1 x2 x3 x4 p5 x6 x7 ve21 sce21 mre21 are21 ale21 hp5 h)
        · have h := (if_neg c23).symm.trans h
          refine gl_iinc (vs2 := [some (.ref 796), some (.int x1), some (.int x2), some (.int x3), some (.int x4), some (.ref p5), some (.int x6), some (.int (x7 + (1 : Int32))), some (.int ve21)]) (gX_LK b) y_250_208 rfl rfl rfl ci_1 rfl rfl ?_
          refine gl_goto (gX_LK b) y_250_211 rfl ?_
          exact gl_weak (vs := [some (.ref 796), some (.int x1), some (.int x2), some (.int x3), some (.int x4), some (.ref p5), some (.int x6), some (.int (x7 + (1 : Int32))), none]) ⟨rfl, rfl, rfl, rfl, rfl, rfl, rfl, rfl, trivial⟩ (ih x1 x2 x3 x4 p5 x6 (x7 + (1 : Int32)) sce21 mre21 are21 ale21 hp5 h)
def xF_250_21 (g250 : Int32 → Int32 → jSc → (Nat → Nat) → jSc → jAl → Option (Int32 × jSc × (Nat → Nat) × jSc × jAl)) : Nat → Int32 → Int32 → Int32 → Int32 → jSc → (Nat → Nat) → jSc → jAl → Option (Int32 × jSc × (Nat → Nat) × jSc × jAl)
  | 0, _, _, _, _, _, _, _, _ => none
  | nn + 1, x1, x2, x3, x4, sc, mr, ar, al => (if (2 : Int32) ≤ x4 then some ((0 : Int32), sc, mr, ar, al) else (if iB (x1 + x4) 10 then (o_b5 (xF_233 (799 + 2 * iN (x1 + x4)) sc mr ar al) (fun ve26 sce26 mre26 are26 ale26 => (if ve26 = 0 then xF_250_56 g250 (fun x1_ x2_ x3_ x4_ sc_ mr_ ar_ al_ => xF_250_21 g250 nn x1_ x2_ x3_ x4_ sc_ mr_ ar_ al_) oF x1 x2 x3 x4 (799 + 2 * iN (x1 + x4)) (1 : Int32) (0 : Int32) sce26 mre26 are26 ale26 else xF_250_56 g250 (fun x1_ x2_ x3_ x4_ sc_ mr_ ar_ al_ => xF_250_21 g250 nn x1_ x2_ x3_ x4_ sc_ mr_ ar_ al_) oF x1 x2 x3 x4 (799 + 2 * iN (x1 + x4)) (0 : Int32) (0 : Int32) sce26 mre26 are26 ale26))) else none))
set_option maxHeartbeats 4000000 in
theorem xt_250_21 {b : Bool} {rf : jRf} {d : Nat} {g250 : Int32 → Int32 → jSc → (Nat → Nat) → jSc → jAl → Option (Int32 × jSc × (Nat → Nat) × jSc × jAl)} (hg250 : xT_250 b rf g250 (d + 5)) {Post : jPo} {r9 : Int32} {sc9 : jSc} {mr9 : (Nat → Nat)} {ar9 : jSc} {al9 : jAl} (hP : Post (some (.int r9)) sc9 (x_mk mr9 rf) ar9 al9) : ∀ (nn : Nat) (x1 : Int32) (x2 : Int32) (x3 : Int32) (x4 : Int32) (sc : jSc) (mr : (Nat → Nat)) (ar : jSc) (al : jAl), xF_250_21 g250 nn x1 x2 x3 x4 sc mr ar al = some (r9, sc9, mr9, ar9, al9) → gL (gX b) 250 (d + 6) 21 [some (.ref 796), some (.int x1), some (.int x2), some (.int x3), some (.int x4), none, none, none, none] [] sc (x_mk mr rf) ar al Post := by
  intro nn
  induction nn with
  | zero =>
    intro x1 x2 x3 x4 sc mr ar al h
    have h : (none : Option (Int32 × jSc × (Nat → Nat) × jSc × jAl)) = some _ := h
    cases h
  | succ nn ih =>
    intro x1 x2 x3 x4 sc mr ar al h
    unfold xF_250_21 at h
    refine gl_iload (gX_LK b) y_250_21 rfl rfl ?_
    refine gl_iconst (gX_LK b) y_250_23 ci_2 rfl ?_
    refine gl_ic_ge (gX_LK b) y_250_24 rfl rfl (fun c24 => ?_) (fun c24 => ?_)
    · have h := (if_pos c24).symm.trans h
      refine gl_iconst (gX_LK b) y_250_220 ci_0 rfl ?_
      exact gl_ireturn y_250_221 (Or.inr ⟨yt_250, Or.inl rfl⟩) (by cases h; exact hP)
    · have h := (if_neg c24).symm.trans h
      refine gl_aload_n (gX_LK b) y_250_27 rfl rfl ?_
      refine gl_getA (gX_LK b) y_250_28 yf_250_13 ys_796 rfl rfl rfl rfl ?_
      refine gl_iload_n (gX_LK b) y_250_31 rfl rfl ?_
      refine gl_iload (gX_LK b) y_250_32 rfl rfl ?_
      refine gl_iadd (gX_LK b) y_250_34 rfl ?_
      obtain ⟨c25, h⟩ := o_ck h
      refine gl_aaload (gX_LK b) y_250_35 ys_797 c25 (Or.inl rfl) (yo_797 (iB_lt c25)) rfl ?_
      refine gl_astore (vs2 := [some (.ref 796), some (.int x1), some (.int x2), some (.int x3), some (.int x4), some (.ref (799 + 2 * iN (x1 + x4))), none, none, none]) (gX_LK b) y_250_36 rfl rfl rfl rfl ?_
      refine gl_aload (gX_LK b) y_250_38 rfl rfl ?_
      obtain ⟨ve26, sce26, mre26, are26, ale26, e26, h⟩ := o_k5 h
      refine gl_callV (gX_LK b) y_250_40 ym_250_79 rfl rfl rfl (ys_pg (pg_797 (iB_lt c25))) yx_233 rfl rfl ((xt_233 )  _ _ (pg_797 (iB_lt c25)) _ _ _ _ _ _ _ _ _ e26 ?_)
      refine gl_if_ne (gX_LK b) y_250_43 rfl rfl (fun c27 => ?_) (fun c27 => ?_)
      · have h := (if_pos c27).symm.trans h
        refine gl_iconst (gX_LK b) y_250_46 ci_1 rfl ?_
        refine gl_goto (gX_LK b) y_250_47 rfl ?_
        refine gl_istore (vs2 := [some (.ref 796), some (.int x1), some (.int x2), some (.int x3), some (.int x4), some (.ref (799 + 2 * iN (x1 + x4))), some (.int (1 : Int32)), none, none]) (gX_LK b) y_250_51 rfl rfl rfl rfl ?_
        refine gl_iconst (gX_LK b) y_250_53 ci_0 rfl ?_
        refine gl_istore (vs2 := [some (.ref 796), some (.int x1), some (.int x2), some (.int x3), some (.int x4), some (.ref (799 + 2 * iN (x1 + x4))), some (.int (1 : Int32)), some (.int (0 : Int32)), none]) (gX_LK b) y_250_54 rfl rfl rfl rfl ?_
        exact gl_weak (vs := [some (.ref 796), some (.int x1), some (.int x2), some (.int x3), some (.int x4), some (.ref (799 + 2 * iN (x1 + x4))), some (.int (1 : Int32)), some (.int (0 : Int32)), none]) ⟨rfl, rfl, rfl, rfl, rfl, rfl, rfl, rfl, trivial⟩ (xt_250_56  hg250 ih hP oF x1 x2 x3 x4 (799 + 2 * iN (x1 + x4)) (1 : Int32) (0 : Int32) sce26 mre26 are26 ale26 (pg_797 (iB_lt c25)) h)
      · have h := (if_neg c27).symm.trans h
        refine gl_iconst (gX_LK b) y_250_50 ci_0 rfl ?_
        refine gl_istore (vs2 := [some (.ref 796), some (.int x1), some (.int x2), some (.int x3), some (.int x4), some (.ref (799 + 2 * iN (x1 + x4))), some (.int (0 : Int32)), none, none]) (gX_LK b) y_250_51 rfl rfl rfl rfl ?_
        refine gl_iconst (gX_LK b) y_250_53 ci_0 rfl ?_
        refine gl_istore (vs2 := [some (.ref 796), some (.int x1), some (.int x2), some (.int x3), some (.int x4), some (.ref (799 + 2 * iN (x1 + x4))), some (.int (0 : Int32)), some (.int (0 : Int32)), none]) (gX_LK b) y_250_54 rfl rfl rfl rfl ?_
        exact gl_weak (vs := [some (.ref 796), some (.int x1), some (.int x2), some (.int x3), some (.int x4), some (.ref (799 + 2 * iN (x1 + x4))), some (.int (0 : Int32)), some (.int (0 : Int32)), none]) ⟨rfl, rfl, rfl, rfl, rfl, rfl, rfl, rfl, trivial⟩ (xt_250_56  hg250 ih hP oF x1 x2 x3 x4 (799 + 2 * iN (x1 + x4)) (0 : Int32) (0 : Int32) sce26 mre26 are26 ale26 (pg_797 (iB_lt c25)) h)
def xF_250 (g250 : Int32 → Int32 → jSc → (Nat → Nat) → jSc → jAl → Option (Int32 × jSc × (Nat → Nat) × jSc × jAl)) (x1 : Int32) (x2 : Int32) (sc : jSc) (mr : (Nat → Nat)) (ar : jSc) (al : jAl) : Option (Int32 × jSc × (Nat → Nat) × jSc × jAl) :=
  (if x2 ≤ 0 then some ((0 : Int32), sc, mr, ar, al) else (if ((x1 + (2 : Int32)) + (1 : Int32)) < (10 : Int32) then xF_250_21 g250 oF x1 x2 (x1 + (2 : Int32)) (0 : Int32) sc mr ar al else some ((0 : Int32), sc, mr, ar, al)))
set_option maxHeartbeats 4000000 in
theorem xt_250 {b : Bool} {rf : jRf} {d : Nat} {g250 : Int32 → Int32 → jSc → (Nat → Nat) → jSc → jAl → Option (Int32 × jSc × (Nat → Nat) × jSc × jAl)} (hg250 : xT_250 b rf g250 (d + 5)) : xT_250 b rf (xF_250 g250) (d + 6) := by
  intro  Post x1 x2 sc mr ar al r9 sc9 mr9 ar9 al9 h hP
  unfold xF_250 at h
  refine gl_entry (m := 6) rfl ?_
  show gL (gX b) 250 (d + 6) 0 [some (.ref 796), some (.int x1), some (.int x2), none, none, none, none, none, none] [] sc (x_mk mr rf) ar al Post
  refine gl_iload_n (gX_LK b) y_250_0 rfl rfl ?_
  refine gl_iconst (gX_LK b) y_250_1 ci_2 rfl ?_
  refine gl_iadd (gX_LK b) y_250_2 rfl ?_
  refine gl_istore_n (vs2 := [some (.ref 796), some (.int x1), some (.int x2), some (.int (x1 + (2 : Int32))), none, none, none, none, none]) (gX_LK b) y_250_3 rfl rfl rfl rfl ?_
  refine gl_iload_n (gX_LK b) y_250_4 rfl rfl ?_
  refine gl_if_le (gX_LK b) y_250_5 rfl rfl (fun c28 => ?_) (fun c28 => ?_)
  · have h := (if_pos c28).symm.trans h
    refine gl_iconst (gX_LK b) y_250_16 ci_0 rfl ?_
    exact gl_ireturn y_250_17 (Or.inr ⟨yt_250, Or.inl rfl⟩) (by cases h; exact hP)
  · have h := (if_neg c28).symm.trans h
    refine gl_iload_n (gX_LK b) y_250_8 rfl rfl ?_
    refine gl_iconst (gX_LK b) y_250_9 ci_1 rfl ?_
    refine gl_iadd (gX_LK b) y_250_10 rfl ?_
    refine gl_bipush (gX_LK b) y_250_11 cb_10 rfl ?_
    refine gl_ic_lt (gX_LK b) y_250_13 rfl rfl (fun c29 => ?_) (fun c29 => ?_)
    · have h := (if_pos c29).symm.trans h
      refine gl_iconst (gX_LK b) y_250_18 ci_0 rfl ?_
      refine gl_istore (vs2 := [some (.ref 796), some (.int x1), some (.int x2), some (.int (x1 + (2 : Int32))), some (.int (0 : Int32)), none, none, none, none]) (gX_LK b) y_250_19 rfl rfl rfl rfl ?_
      exact gl_weak (vs := [some (.ref 796), some (.int x1), some (.int x2), some (.int (x1 + (2 : Int32))), some (.int (0 : Int32)), none, none, none, none]) ⟨rfl, rfl, rfl, rfl, rfl, trivial⟩ (xt_250_21  hg250 hP oF x1 x2 (x1 + (2 : Int32)) (0 : Int32) sc mr ar al h)
    · have h := (if_neg c29).symm.trans h
      refine gl_iconst (gX_LK b) y_250_16 ci_0 rfl ?_
      exact gl_ireturn y_250_17 (Or.inr ⟨yt_250, Or.inl rfl⟩) (by cases h; exact hP)
def xG_250 : Nat → (Int32 → Int32 → jSc → (Nat → Nat) → jSc → jAl → Option (Int32 × jSc × (Nat → Nat) × jSc × jAl))
  | 0 => (fun _ _ _ _ _ _ => none)
  | n + 1 => (xF_250 (xG_250 n))
theorem xtG_250 {b : Bool} {rf : jRf} {d : Nat} : ∀ n : Nat, xT_250 b rf (xG_250 n) (d + n + 5) := by
  intro n
  induction n with
  | zero =>
    · intro  Post x1 x2 sc mr ar al r9 sc9 mr9 ar9 al9 h hP
      cases (show (none : Option (Int32 × jSc × (Nat → Nat) × jSc × jAl)) = some _ from h)
  | succ n ih =>
    have e : d + n + 5 + 1 = d + (n + 1) + 5 := by omega
    rw [← e]
    exact xt_250  (d := d + n) ih
/-- ClickOrders$Pair.fewest(I)I -/
def xT_247 (b : Bool) (rf : jRf) (F : Int32 → jSc → (Nat → Nat) → jSc → jAl → Option (Int32 × jSc × (Nat → Nat) × jSc × jAl)) (e : Nat) : Prop := ∀  (Post : jPo) (x1 : Int32) (sc : jSc) (mr : (Nat → Nat)) (ar : jSc) (al : jAl) (r9 : Int32) (sc9 : jSc) (mr9 : (Nat → Nat)) (ar9 : jSc) (al9 : jAl), F x1 sc mr ar al = some (r9, sc9, mr9, ar9, al9) → Post (some (.int r9)) sc9 (x_mk mr9 rf) ar9 al9 → gW (gX b) 247 e 0 (j_av [.ref 796, .int x1]) [] sc (x_mk mr rf) ar al Post
def xF_247_41 (k7 : Int32 → Int32 → jSc → (Nat → Nat) → jSc → jAl → Option (Int32 × jSc × (Nat → Nat) × jSc × jAl)) (x1 : Int32) (x2 : Int32) (y0 : Int32) (sc : jSc) (mr : (Nat → Nat)) (ar : jSc) (al : jAl) : Option (Int32 × jSc × (Nat → Nat) × jSc × jAl) :=
  (if y0 = 0 then k7 x1 (x2 + (1 : Int32)) (j_u2 sc 796 5 x2) mr ar al else k7 x1 (x2 + (1 : Int32)) (j_u2 (j_u2 sc 796 4 x2) 796 5 x2) mr ar al)
set_option maxHeartbeats 4000000 in
theorem xt_247_41 {b : Bool} {rf : jRf} {d : Nat} {Post : jPo} {r9 : Int32} {sc9 : jSc} {mr9 : (Nat → Nat)} {ar9 : jSc} {al9 : jAl} {k7 : Int32 → Int32 → jSc → (Nat → Nat) → jSc → jAl → Option (Int32 × jSc × (Nat → Nat) × jSc × jAl)} (hk7 : ∀ (x1 : Int32) (x2 : Int32) (sc : jSc) (mr : (Nat → Nat)) (ar : jSc) (al : jAl), k7 x1 x2 sc mr ar al = some (r9, sc9, mr9, ar9, al9) → gL (gX b) 247 (d + 46) 7 [some (.ref 796), some (.int x1), some (.int x2), none] [] sc (x_mk mr rf) ar al Post) (hP : Post (some (.int r9)) sc9 (x_mk mr9 rf) ar9 al9) (x1 : Int32) (x2 : Int32) (y0 : Int32) (sc : jSc) (mr : (Nat → Nat)) (ar : jSc) (al : jAl) (h : xF_247_41 k7 x1 x2 y0 sc mr ar al = some (r9, sc9, mr9, ar9, al9)) : gL (gX b) 247 (d + 46) 41 [some (.ref 796), some (.int x1), some (.int x2), none] [.int y0] sc (x_mk mr rf) ar al Post := by
  unfold xF_247_41 at h
  refine gl_istore_n (vs2 := [some (.ref 796), some (.int x1), some (.int x2), some (.int y0)]) (gX_LK b) y_247_41 rfl rfl rfl rfl ?_
  refine gl_iload_n (gX_LK b) y_247_42 rfl rfl ?_
  refine gl_if_eq (gX_LK b) y_247_43 rfl rfl (fun c1 => ?_) (fun c1 => ?_)
  · have h := (if_pos c1).symm.trans h
    refine gl_aload_n (gX_LK b) y_247_51 rfl rfl ?_
    refine gl_iload_n (gX_LK b) y_247_52 rfl rfl ?_
    refine gl_put (sc' := (j_u2 sc 796 5 x2)) (gX_LK b) y_247_53 yf_247_28 ys_796 rfl rfl rfl rfl rfl ?_
    refine gl_iinc (vs2 := [some (.ref 796), some (.int x1), some (.int (x2 + (1 : Int32))), some (.int y0)]) (gX_LK b) y_247_56 rfl rfl rfl ci_1 rfl rfl ?_
    refine gl_goto (gX_LK b) y_247_59 rfl ?_
    exact gl_weak (vs := [some (.ref 796), some (.int x1), some (.int (x2 + (1 : Int32))), none]) ⟨rfl, rfl, rfl, trivial⟩ (hk7 x1 (x2 + (1 : Int32)) (j_u2 sc 796 5 x2) mr ar al h)
  · have h := (if_neg c1).symm.trans h
    refine gl_aload_n (gX_LK b) y_247_46 rfl rfl ?_
    refine gl_iload_n (gX_LK b) y_247_47 rfl rfl ?_
    refine gl_put (sc' := (j_u2 sc 796 4 x2)) (gX_LK b) y_247_48 yf_247_25 ys_796 rfl rfl rfl rfl rfl ?_
    refine gl_aload_n (gX_LK b) y_247_51 rfl rfl ?_
    refine gl_iload_n (gX_LK b) y_247_52 rfl rfl ?_
    refine gl_put (sc' := (j_u2 (j_u2 sc 796 4 x2) 796 5 x2)) (gX_LK b) y_247_53 yf_247_28 ys_796 rfl rfl rfl rfl rfl ?_
    refine gl_iinc (vs2 := [some (.ref 796), some (.int x1), some (.int (x2 + (1 : Int32))), some (.int y0)]) (gX_LK b) y_247_56 rfl rfl rfl ci_1 rfl rfl ?_
    refine gl_goto (gX_LK b) y_247_59 rfl ?_
    exact gl_weak (vs := [some (.ref 796), some (.int x1), some (.int (x2 + (1 : Int32))), none]) ⟨rfl, rfl, rfl, trivial⟩ (hk7 x1 (x2 + (1 : Int32)) (j_u2 (j_u2 sc 796 4 x2) 796 5 x2) mr ar al h)
def xF_247_62 (x1 : Int32) (sc : jSc) (mr : (Nat → Nat)) (ar : jSc) (al : jAl) : Option (Int32 × jSc × (Nat → Nat) × jSc × jAl) :=
  (if (sc 796 4) < 0 then some ((-1 : Int32), sc, mr, ar, al) else (if x1 < (sc 796 4) then some ((-1 : Int32), sc, mr, ar, al) else some ((sc 796 4), sc, mr, ar, al)))
set_option maxHeartbeats 4000000 in
theorem xt_247_62 {b : Bool} {rf : jRf} {d : Nat} {Post : jPo} {r9 : Int32} {sc9 : jSc} {mr9 : (Nat → Nat)} {ar9 : jSc} {al9 : jAl} (hP : Post (some (.int r9)) sc9 (x_mk mr9 rf) ar9 al9) (x1 : Int32) (sc : jSc) (mr : (Nat → Nat)) (ar : jSc) (al : jAl) (h : xF_247_62 x1 sc mr ar al = some (r9, sc9, mr9, ar9, al9)) : gL (gX b) 247 (d + 46) 62 [some (.ref 796), some (.int x1), none, none] [] sc (x_mk mr rf) ar al Post := by
  unfold xF_247_62 at h
  refine gl_aload_n (gX_LK b) y_247_62 rfl rfl ?_
  refine gl_get (gX_LK b) y_247_63 yf_247_25 ys_796 rfl rfl rfl rfl ?_
  refine gl_if_lt (gX_LK b) y_247_66 rfl rfl (fun c2 => ?_) (fun c2 => ?_)
  · have h := (if_pos c2).symm.trans h
    refine gl_iconst (gX_LK b) y_247_84 ci_m1 rfl ?_
    exact gl_ireturn y_247_85 (Or.inl yt_247) (by cases h; exact hP)
  · have h := (if_neg c2).symm.trans h
    refine gl_aload_n (gX_LK b) y_247_69 rfl rfl ?_
    refine gl_get (gX_LK b) y_247_70 yf_247_25 ys_796 rfl rfl rfl rfl ?_
    refine gl_iload_n (gX_LK b) y_247_73 rfl rfl ?_
    refine gl_ic_gt (gX_LK b) y_247_74 rfl rfl (fun c3 => ?_) (fun c3 => ?_)
    · have h := (if_pos c3).symm.trans h
      refine gl_iconst (gX_LK b) y_247_84 ci_m1 rfl ?_
      exact gl_ireturn y_247_85 (Or.inl yt_247) (by cases h; exact hP)
    · have h := (if_neg c3).symm.trans h
      refine gl_aload_n (gX_LK b) y_247_77 rfl rfl ?_
      refine gl_get (gX_LK b) y_247_78 yf_247_25 ys_796 rfl rfl rfl rfl ?_
      refine gl_goto (gX_LK b) y_247_81 rfl ?_
      exact gl_ireturn y_247_85 (Or.inl yt_247) (by cases h; exact hP)
def xF_247_7 : Nat → Int32 → Int32 → jSc → (Nat → Nat) → jSc → jAl → Option (Int32 × jSc × (Nat → Nat) × jSc × jAl)
  | 0, _, _, _, _, _, _ => none
  | nn + 1, x1, x2, sc, mr, ar, al => (if x1 < x2 then xF_247_62 x1 sc mr ar al else (if 0 ≤ (sc 796 4) then xF_247_62 x1 sc mr ar al else (o_b5 (xF_248 (2 : Int32) sc mr ar al) (fun ve6 sce6 mre6 are6 ale6 => (if 0 < ve6 then xF_247_41 (fun x1_ x2_ sc_ mr_ ar_ al_ => xF_247_7 nn x1_ x2_ sc_ mr_ ar_ al_) x1 x2 (1 : Int32) sce6 mre6 are6 ale6 else (o_b5 ((xG_250 40) (2 : Int32) x2 sce6 mre6 are6 ale6) (fun ve8 sce8 mre8 are8 ale8 => (if ve8 = 0 then xF_247_41 (fun x1_ x2_ sc_ mr_ ar_ al_ => xF_247_7 nn x1_ x2_ sc_ mr_ ar_ al_) x1 x2 (0 : Int32) sce8 mre8 are8 ale8 else xF_247_41 (fun x1_ x2_ sc_ mr_ ar_ al_ => xF_247_7 nn x1_ x2_ sc_ mr_ ar_ al_) x1 x2 (1 : Int32) sce8 mre8 are8 ale8))))))))
set_option maxHeartbeats 4000000 in
theorem xt_247_7 {b : Bool} {rf : jRf} {d : Nat} {Post : jPo} {r9 : Int32} {sc9 : jSc} {mr9 : (Nat → Nat)} {ar9 : jSc} {al9 : jAl} (hP : Post (some (.int r9)) sc9 (x_mk mr9 rf) ar9 al9) : ∀ (nn : Nat) (x1 : Int32) (x2 : Int32) (sc : jSc) (mr : (Nat → Nat)) (ar : jSc) (al : jAl), xF_247_7 nn x1 x2 sc mr ar al = some (r9, sc9, mr9, ar9, al9) → gL (gX b) 247 (d + 46) 7 [some (.ref 796), some (.int x1), some (.int x2), none] [] sc (x_mk mr rf) ar al Post := by
  intro nn
  induction nn with
  | zero =>
    intro x1 x2 sc mr ar al h
    have h : (none : Option (Int32 × jSc × (Nat → Nat) × jSc × jAl)) = some _ := h
    cases h
  | succ nn ih =>
    intro x1 x2 sc mr ar al h
    unfold xF_247_7 at h
    refine gl_iload_n (gX_LK b) y_247_7 rfl rfl ?_
    refine gl_iload_n (gX_LK b) y_247_8 rfl rfl ?_
    refine gl_ic_gt (gX_LK b) y_247_9 rfl rfl (fun c4 => ?_) (fun c4 => ?_)
    · have h := (if_pos c4).symm.trans h
      exact gl_weak (vs := [some (.ref 796), some (.int x1), none, none]) ⟨rfl, rfl, trivial⟩ (xt_247_62  hP x1 sc mr ar al h)
    · have h := (if_neg c4).symm.trans h
      refine gl_aload_n (gX_LK b) y_247_12 rfl rfl ?_
      refine gl_get (gX_LK b) y_247_13 yf_247_25 ys_796 rfl rfl rfl rfl ?_
      refine gl_if_ge (gX_LK b) y_247_16 rfl rfl (fun c5 => ?_) (fun c5 => ?_)
      · have h := (if_pos c5).symm.trans h
        exact gl_weak (vs := [some (.ref 796), some (.int x1), none, none]) ⟨rfl, rfl, trivial⟩ (xt_247_62  hP x1 sc mr ar al h)
      · have h := (if_neg c5).symm.trans h
        refine gl_aload_n (gX_LK b) y_247_19 rfl rfl ?_
        refine gl_iconst (gX_LK b) y_247_20 ci_2 rfl ?_
        obtain ⟨ve6, sce6, mre6, are6, ale6, e6, h⟩ := o_k5 h
        refine gl_callV (gX_LK b) y_247_21 ym_247_36 rfl rfl rfl ys_796 yx_248 rfl rfl ((xt_248 )  _ _ _ _ _ _ _ _ _ _ _ e6 ?_)
        refine gl_if_gt (gX_LK b) y_247_24 rfl rfl (fun c7 => ?_) (fun c7 => ?_)
        · have h := (if_pos c7).symm.trans h
          refine gl_iconst (gX_LK b) y_247_36 ci_1 rfl ?_
          refine gl_goto (gX_LK b) y_247_37 rfl ?_
          exact gl_weak (vs := [some (.ref 796), some (.int x1), some (.int x2), none]) ⟨rfl, rfl, rfl, trivial⟩ (xt_247_41  ih hP x1 x2 (1 : Int32) sce6 mre6 are6 ale6 h)
        · have h := (if_neg c7).symm.trans h
          refine gl_aload_n (gX_LK b) y_247_27 rfl rfl ?_
          refine gl_iconst (gX_LK b) y_247_28 ci_2 rfl ?_
          refine gl_iload_n (gX_LK b) y_247_29 rfl rfl ?_
          obtain ⟨ve8, sce8, mre8, are8, ale8, e8, h⟩ := o_k5 h
          refine gl_callV (gX_LK b) y_247_30 ym_247_50 rfl rfl rfl ys_796 yx_250 rfl rfl (((xtG_250  40))  _ _ _ _ _ _ _ _ _ _ _ _ e8 ?_)
          refine gl_if_eq (gX_LK b) y_247_33 rfl rfl (fun c9 => ?_) (fun c9 => ?_)
          · have h := (if_pos c9).symm.trans h
            refine gl_iconst (gX_LK b) y_247_40 ci_0 rfl ?_
            exact gl_weak (vs := [some (.ref 796), some (.int x1), some (.int x2), none]) ⟨rfl, rfl, rfl, trivial⟩ (xt_247_41  ih hP x1 x2 (0 : Int32) sce8 mre8 are8 ale8 h)
          · have h := (if_neg c9).symm.trans h
            refine gl_iconst (gX_LK b) y_247_36 ci_1 rfl ?_
            refine gl_goto (gX_LK b) y_247_37 rfl ?_
            exact gl_weak (vs := [some (.ref 796), some (.int x1), some (.int x2), none]) ⟨rfl, rfl, rfl, trivial⟩ (xt_247_41  ih hP x1 x2 (1 : Int32) sce8 mre8 are8 ale8 h)
def xF_247 (x1 : Int32) (sc : jSc) (mr : (Nat → Nat)) (ar : jSc) (al : jAl) : Option (Int32 × jSc × (Nat → Nat) × jSc × jAl) :=
  xF_247_7 oF x1 ((sc 796 5) + (1 : Int32)) sc mr ar al
set_option maxHeartbeats 4000000 in
theorem xt_247 {b : Bool} {rf : jRf} {d : Nat} : xT_247 b rf xF_247 (d + 46) := by
  intro  Post x1 sc mr ar al r9 sc9 mr9 ar9 al9 h hP
  unfold xF_247 at h
  refine gl_entry (m := 2) rfl ?_
  show gL (gX b) 247 (d + 46) 0 [some (.ref 796), some (.int x1), none, none] [] sc (x_mk mr rf) ar al Post
  refine gl_aload_n (gX_LK b) y_247_0 rfl rfl ?_
  refine gl_get (gX_LK b) y_247_1 yf_247_28 ys_796 rfl rfl rfl rfl ?_
  refine gl_iconst (gX_LK b) y_247_4 ci_1 rfl ?_
  refine gl_iadd (gX_LK b) y_247_5 rfl ?_
  refine gl_istore_n (vs2 := [some (.ref 796), some (.int x1), some (.int ((sc 796 5) + (1 : Int32))), none]) (gX_LK b) y_247_6 rfl rfl rfl rfl ?_
  exact gl_weak (vs := [some (.ref 796), some (.int x1), some (.int ((sc 796 5) + (1 : Int32))), none]) ⟨rfl, rfl, rfl, trivial⟩ (xt_247_7  hP oF x1 ((sc 796 5) + (1 : Int32)) sc mr ar al h)
/-- ClickOrders$Program.empties()V -/
def xT_251 (b : Bool) (rf : jRf) (F : Nat → jSc → (Nat → Nat) → jSc → jAl → Option (jSc × (Nat → Nat) × jSc × jAl)) (e : Nat) : Prop := ∀  (Post : jPo) (p0 : Nat) (hp0 : x_pr p0 = true) (sc : jSc) (mr : (Nat → Nat)) (ar : jSc) (al : jAl) (sc9 : jSc) (mr9 : (Nat → Nat)) (ar9 : jSc) (al9 : jAl), F p0 sc mr ar al = some (sc9, mr9, ar9, al9) → Post none sc9 (x_mk mr9 rf) ar9 al9 → gW (gX b) 251 e 0 (j_av [.ref p0]) [] sc (x_mk mr rf) ar al Post
def xF_251 (p0 : Nat) (sc : jSc) (mr : (Nat → Nat)) (ar : jSc) (al : jAl) : Option (jSc × (Nat → Nat) × jSc × jAl) :=
  (o_b4 (xF_503 (p0 + 3) 17 (-1 : Int32) sc mr ar al) (fun sce1 mre1 are1 ale1 => some ((j_u2 (j_u2 (j_u2 (j_u2 (j_u2 (j_u2 sce1 p0 3 (0 : Int32)) p0 4 (0 : Int32)) p0 5 (0 : Int32)) p0 6 (0 : Int32)) p0 7 (-1 : Int32)) p0 8 (-1 : Int32)), mre1, are1, ale1)))
set_option maxHeartbeats 4000000 in
theorem xt_251 {b : Bool} {rf : jRf} {d : Nat} : xT_251 b rf xF_251 (d + 2) := by
  intro  Post p0 hp0 sc mr ar al sc9 mr9 ar9 al9 h hP
  unfold xF_251 at h
  refine gl_entry (m := 0) rfl ?_
  show gL (gX b) 251 (d + 2) 0 [some (.ref p0)] [] sc (x_mk mr rf) ar al Post
  refine gl_aload_n (gX_LK b) y_251_0 rfl rfl ?_
  refine gl_getA (gX_LK b) y_251_1 yf_251_18 (ys_pr hp0) rfl rfl (yr_pr3 hp0) rfl ?_
  refine gl_iconst (gX_LK b) y_251_4 ci_m1 rfl ?_
  obtain ⟨sce1, mre1, are1, ale1, e1, h⟩ := o_k4 h
  refine gl_callS y_251_5 ym_251_40 rfl rfl rfl yx_503 rfl rfl ((xt_503 )  _ _ _ _ (ys_pr3 hp0) _ _ _ _ _ _ _ _ e1 ?_)
  refine gl_aload_n (gX_LK b) y_251_8 rfl rfl ?_
  refine gl_iconst (gX_LK b) y_251_9 ci_0 rfl ?_
  refine gl_put (sc' := (j_u2 sce1 p0 3 (0 : Int32))) (gX_LK b) y_251_10 yf_251_21 (ys_pr hp0) rfl rfl rfl rfl rfl ?_
  refine gl_aload_n (gX_LK b) y_251_13 rfl rfl ?_
  refine gl_iconst (gX_LK b) y_251_14 ci_0 rfl ?_
  refine gl_put (sc' := (j_u2 (j_u2 sce1 p0 3 (0 : Int32)) p0 4 (0 : Int32))) (gX_LK b) y_251_15 yf_251_25 (ys_pr hp0) rfl rfl rfl rfl rfl ?_
  refine gl_aload_n (gX_LK b) y_251_18 rfl rfl ?_
  refine gl_iconst (gX_LK b) y_251_19 ci_0 rfl ?_
  refine gl_put (sc' := (j_u2 (j_u2 (j_u2 sce1 p0 3 (0 : Int32)) p0 4 (0 : Int32)) p0 5 (0 : Int32))) (gX_LK b) y_251_20 yf_251_28 (ys_pr hp0) rfl rfl rfl rfl rfl ?_
  refine gl_aload_n (gX_LK b) y_251_23 rfl rfl ?_
  refine gl_iconst (gX_LK b) y_251_24 ci_0 rfl ?_
  refine gl_put (sc' := (j_u2 (j_u2 (j_u2 (j_u2 sce1 p0 3 (0 : Int32)) p0 4 (0 : Int32)) p0 5 (0 : Int32)) p0 6 (0 : Int32))) (gX_LK b) y_251_25 yf_251_31 (ys_pr hp0) rfl rfl rfl rfl rfl ?_
  refine gl_aload_n (gX_LK b) y_251_28 rfl rfl ?_
  refine gl_iconst (gX_LK b) y_251_29 ci_m1 rfl ?_
  refine gl_put (sc' := (j_u2 (j_u2 (j_u2 (j_u2 (j_u2 sce1 p0 3 (0 : Int32)) p0 4 (0 : Int32)) p0 5 (0 : Int32)) p0 6 (0 : Int32)) p0 7 (-1 : Int32))) (gX_LK b) y_251_30 yf_251_34 (ys_pr hp0) rfl rfl rfl rfl rfl ?_
  refine gl_aload_n (gX_LK b) y_251_33 rfl rfl ?_
  refine gl_iconst (gX_LK b) y_251_34 ci_m1 rfl ?_
  refine gl_put (sc' := (j_u2 (j_u2 (j_u2 (j_u2 (j_u2 (j_u2 sce1 p0 3 (0 : Int32)) p0 4 (0 : Int32)) p0 5 (0 : Int32)) p0 6 (0 : Int32)) p0 7 (-1 : Int32)) p0 8 (-1 : Int32))) (gX_LK b) y_251_35 yf_251_37 (ys_pr hp0) rfl rfl rfl rfl rfl ?_
  exact gl_return y_251_38 yt_251 (by cases h; exact hP)
/-- ClickOrders$Program.adds(II)I -/
def xT_252 (b : Bool) (rf : jRf) (F : Nat → Int32 → Int32 → jSc → (Nat → Nat) → jSc → jAl → Option (Int32 × jSc × (Nat → Nat) × jSc × jAl)) (e : Nat) : Prop := ∀  (Post : jPo) (p0 : Nat) (x1 : Int32) (x2 : Int32) (hp0 : x_pr p0 = true) (sc : jSc) (mr : (Nat → Nat)) (ar : jSc) (al : jAl) (r9 : Int32) (sc9 : jSc) (mr9 : (Nat → Nat)) (ar9 : jSc) (al9 : jAl), F p0 x1 x2 sc mr ar al = some (r9, sc9, mr9, ar9, al9) → Post (some (.int r9)) sc9 (x_mk mr9 rf) ar9 al9 → gW (gX b) 252 e 0 (j_av [.ref p0, .int x1, .int x2]) [] sc (x_mk mr rf) ar al Post
def xF_252 (p0 : Nat) (x1 : Int32) (x2 : Int32) (sc : jSc) (mr : (Nat → Nat)) (ar : jSc) (al : jAl) : Option (Int32 × jSc × (Nat → Nat) × jSc × jAl) :=
  (if (sc p0 3) < (700 : Int32) then (if iB (sc p0 3) 700 then (if iB (sc p0 3) 700 then (if x1 = (24 : Int32) then some ((((j_u2 (j_u2 sc p0 6 ((sc p0 6) ||| ((1 : Int32) <<< (x2 &&& 31)))) p0 3 (((j_u2 sc p0 6 ((sc p0 6) ||| ((1 : Int32) <<< (x2 &&& 31)))) p0 3) + (1 : Int32))) p0 3) - (1 : Int32)), (j_u2 (j_u2 sc p0 6 ((sc p0 6) ||| ((1 : Int32) <<< (x2 &&& 31)))) p0 3 (((j_u2 sc p0 6 ((sc p0 6) ||| ((1 : Int32) <<< (x2 &&& 31)))) p0 3) + (1 : Int32))), mr, (j_u2 (j_u2 ar (p0 + 1) (iN (sc p0 3)) x1) (p0 + 2) (iN (sc p0 3)) x2), al) else some ((((j_u2 (j_u2 sc p0 6 ((sc p0 6) ||| (0 : Int32))) p0 3 (((j_u2 sc p0 6 ((sc p0 6) ||| (0 : Int32))) p0 3) + (1 : Int32))) p0 3) - (1 : Int32)), (j_u2 (j_u2 sc p0 6 ((sc p0 6) ||| (0 : Int32))) p0 3 (((j_u2 sc p0 6 ((sc p0 6) ||| (0 : Int32))) p0 3) + (1 : Int32))), mr, (j_u2 (j_u2 ar (p0 + 1) (iN (sc p0 3)) x1) (p0 + 2) (iN (sc p0 3)) x2), al)) else none) else none) else some ((-1 : Int32), sc, mr, ar, al))
set_option maxHeartbeats 4000000 in
theorem xt_252 {b : Bool} {rf : jRf} {d : Nat} : xT_252 b rf xF_252 (d + 1) := by
  intro  Post p0 x1 x2 hp0 sc mr ar al r9 sc9 mr9 ar9 al9 h hP
  unfold xF_252 at h
  refine gl_entry (m := 0) rfl ?_
  show gL (gX b) 252 (d + 1) 0 [some (.ref p0), some (.int x1), some (.int x2)] [] sc (x_mk mr rf) ar al Post
  refine gl_aload_n (gX_LK b) y_252_0 rfl rfl ?_
  refine gl_get (gX_LK b) y_252_1 yf_252_21 (ys_pr hp0) rfl rfl rfl rfl ?_
  refine gl_sipush (gX_LK b) y_252_4 cs_700 rfl ?_
  refine gl_ic_lt (gX_LK b) y_252_7 rfl rfl (fun c1 => ?_) (fun c1 => ?_)
  · have h := (if_pos c1).symm.trans h
    refine gl_aload_n (gX_LK b) y_252_12 rfl rfl ?_
    refine gl_getA (gX_LK b) y_252_13 yf_252_11 (ys_pr hp0) rfl rfl (yr_pr1 hp0) rfl ?_
    refine gl_aload_n (gX_LK b) y_252_16 rfl rfl ?_
    refine gl_get (gX_LK b) y_252_17 yf_252_21 (ys_pr hp0) rfl rfl rfl rfl ?_
    refine gl_iload_n (gX_LK b) y_252_20 rfl rfl ?_
    obtain ⟨c2, h⟩ := o_ck h
    refine gl_iastore (ar2 := (j_u2 ar (p0 + 1) (iN (sc p0 3)) x1)) (gX_LK b) y_252_21 (ys_pr1 hp0) c2 rfl rfl ?_
    refine gl_aload_n (gX_LK b) y_252_22 rfl rfl ?_
    refine gl_getA (gX_LK b) y_252_23 yf_252_15 (ys_pr hp0) rfl rfl (yr_pr2 hp0) rfl ?_
    refine gl_aload_n (gX_LK b) y_252_26 rfl rfl ?_
    refine gl_get (gX_LK b) y_252_27 yf_252_21 (ys_pr hp0) rfl rfl rfl rfl ?_
    refine gl_iload_n (gX_LK b) y_252_30 rfl rfl ?_
    obtain ⟨c3, h⟩ := o_ck h
    refine gl_iastore (ar2 := (j_u2 (j_u2 ar (p0 + 1) (iN (sc p0 3)) x1) (p0 + 2) (iN (sc p0 3)) x2)) (gX_LK b) y_252_31 (ys_pr2 hp0) c3 rfl rfl ?_
    refine gl_aload_n (gX_LK b) y_252_32 rfl rfl ?_
    refine gl_dup (gX_LK b) y_252_33 rfl rfl ?_
    refine gl_get (gX_LK b) y_252_34 yf_252_31 (ys_pr hp0) rfl rfl rfl rfl ?_
    refine gl_iload_n (gX_LK b) y_252_37 rfl rfl ?_
    refine gl_bipush (gX_LK b) y_252_38 cb_24 rfl ?_
    refine gl_ic_ne (gX_LK b) y_252_40 rfl rfl (fun c4 => ?_) (fun c4 => ?_)
    · have h := (if_pos c4).symm.trans h
      refine gl_iconst (gX_LK b) y_252_43 ci_1 rfl ?_
      refine gl_iload_n (gX_LK b) y_252_44 rfl rfl ?_
      refine gl_ishl (gX_LK b) y_252_45 rfl ?_
      refine gl_goto (gX_LK b) y_252_46 rfl ?_
      refine gl_ior (gX_LK b) y_252_50 rfl ?_
      refine gl_put (sc' := (j_u2 sc p0 6 ((sc p0 6) ||| ((1 : Int32) <<< (x2 &&& 31))))) (gX_LK b) y_252_51 yf_252_31 (ys_pr hp0) rfl rfl rfl rfl rfl ?_
      refine gl_aload_n (gX_LK b) y_252_54 rfl rfl ?_
      refine gl_dup (gX_LK b) y_252_55 rfl rfl ?_
      refine gl_get (gX_LK b) y_252_56 yf_252_21 (ys_pr hp0) rfl rfl rfl rfl ?_
      refine gl_iconst (gX_LK b) y_252_59 ci_1 rfl ?_
      refine gl_iadd (gX_LK b) y_252_60 rfl ?_
      refine gl_put (sc' := (j_u2 (j_u2 sc p0 6 ((sc p0 6) ||| ((1 : Int32) <<< (x2 &&& 31)))) p0 3 (((j_u2 sc p0 6 ((sc p0 6) ||| ((1 : Int32) <<< (x2 &&& 31)))) p0 3) + (1 : Int32)))) (gX_LK b) y_252_61 yf_252_21 (ys_pr hp0) rfl rfl rfl rfl rfl ?_
      refine gl_aload_n (gX_LK b) y_252_64 rfl rfl ?_
      refine gl_get (gX_LK b) y_252_65 yf_252_21 (ys_pr hp0) rfl rfl rfl rfl ?_
      refine gl_iconst (gX_LK b) y_252_68 ci_1 rfl ?_
      refine gl_isub (gX_LK b) y_252_69 rfl ?_
      exact gl_ireturn y_252_70 (Or.inl yt_252) (by cases h; exact hP)
    · have h := (if_neg c4).symm.trans h
      refine gl_iconst (gX_LK b) y_252_49 ci_0 rfl ?_
      refine gl_ior (gX_LK b) y_252_50 rfl ?_
      refine gl_put (sc' := (j_u2 sc p0 6 ((sc p0 6) ||| (0 : Int32)))) (gX_LK b) y_252_51 yf_252_31 (ys_pr hp0) rfl rfl rfl rfl rfl ?_
      refine gl_aload_n (gX_LK b) y_252_54 rfl rfl ?_
      refine gl_dup (gX_LK b) y_252_55 rfl rfl ?_
      refine gl_get (gX_LK b) y_252_56 yf_252_21 (ys_pr hp0) rfl rfl rfl rfl ?_
      refine gl_iconst (gX_LK b) y_252_59 ci_1 rfl ?_
      refine gl_iadd (gX_LK b) y_252_60 rfl ?_
      refine gl_put (sc' := (j_u2 (j_u2 sc p0 6 ((sc p0 6) ||| (0 : Int32))) p0 3 (((j_u2 sc p0 6 ((sc p0 6) ||| (0 : Int32))) p0 3) + (1 : Int32)))) (gX_LK b) y_252_61 yf_252_21 (ys_pr hp0) rfl rfl rfl rfl rfl ?_
      refine gl_aload_n (gX_LK b) y_252_64 rfl rfl ?_
      refine gl_get (gX_LK b) y_252_65 yf_252_21 (ys_pr hp0) rfl rfl rfl rfl ?_
      refine gl_iconst (gX_LK b) y_252_68 ci_1 rfl ?_
      refine gl_isub (gX_LK b) y_252_69 rfl ?_
      exact gl_ireturn y_252_70 (Or.inl yt_252) (by cases h; exact hP)
  · have h := (if_neg c1).symm.trans h
    refine gl_iconst (gX_LK b) y_252_10 ci_m1 rfl ?_
    exact gl_ireturn y_252_11 (Or.inl yt_252) (by cases h; exact hP)
/-- ClickOrders$Program.lands(I)V -/
def xT_253 (b : Bool) (rf : jRf) (F : Nat → Int32 → jSc → (Nat → Nat) → jSc → jAl → Option (jSc × (Nat → Nat) × jSc × jAl)) (e : Nat) : Prop := ∀  (Post : jPo) (p0 : Nat) (x1 : Int32) (hp0 : x_pr p0 = true) (sc : jSc) (mr : (Nat → Nat)) (ar : jSc) (al : jAl) (sc9 : jSc) (mr9 : (Nat → Nat)) (ar9 : jSc) (al9 : jAl), F p0 x1 sc mr ar al = some (sc9, mr9, ar9, al9) → Post none sc9 (x_mk mr9 rf) ar9 al9 → gW (gX b) 253 e 0 (j_av [.ref p0, .int x1]) [] sc (x_mk mr rf) ar al Post
def xF_253 (p0 : Nat) (x1 : Int32) (sc : jSc) (mr : (Nat → Nat)) (ar : jSc) (al : jAl) : Option (jSc × (Nat → Nat) × jSc × jAl) :=
  (if x1 < 0 then some (sc, mr, ar, al) else (if (sc p0 3) ≤ x1 then some (sc, mr, ar, al) else (if iB x1 700 then some (sc, mr, (j_u2 ar (p0 + 2) (iN x1) (sc p0 3)), al) else none)))
set_option maxHeartbeats 4000000 in
theorem xt_253 {b : Bool} {rf : jRf} {d : Nat} : xT_253 b rf xF_253 (d + 1) := by
  intro  Post p0 x1 hp0 sc mr ar al sc9 mr9 ar9 al9 h hP
  unfold xF_253 at h
  refine gl_entry (m := 0) rfl ?_
  show gL (gX b) 253 (d + 1) 0 [some (.ref p0), some (.int x1)] [] sc (x_mk mr rf) ar al Post
  refine gl_iload_n (gX_LK b) y_253_0 rfl rfl ?_
  refine gl_if_lt (gX_LK b) y_253_1 rfl rfl (fun c1 => ?_) (fun c1 => ?_)
  · have h := (if_pos c1).symm.trans h
    exact gl_return y_253_22 yt_253 (by cases h; exact hP)
  · have h := (if_neg c1).symm.trans h
    refine gl_iload_n (gX_LK b) y_253_4 rfl rfl ?_
    refine gl_aload_n (gX_LK b) y_253_5 rfl rfl ?_
    refine gl_get (gX_LK b) y_253_6 yf_253_21 (ys_pr hp0) rfl rfl rfl rfl ?_
    refine gl_ic_ge (gX_LK b) y_253_9 rfl rfl (fun c2 => ?_) (fun c2 => ?_)
    · have h := (if_pos c2).symm.trans h
      exact gl_return y_253_22 yt_253 (by cases h; exact hP)
    · have h := (if_neg c2).symm.trans h
      refine gl_aload_n (gX_LK b) y_253_12 rfl rfl ?_
      refine gl_getA (gX_LK b) y_253_13 yf_253_15 (ys_pr hp0) rfl rfl (yr_pr2 hp0) rfl ?_
      refine gl_iload_n (gX_LK b) y_253_16 rfl rfl ?_
      refine gl_aload_n (gX_LK b) y_253_17 rfl rfl ?_
      refine gl_get (gX_LK b) y_253_18 yf_253_21 (ys_pr hp0) rfl rfl rfl rfl ?_
      obtain ⟨c3, h⟩ := o_ck h
      refine gl_iastore (ar2 := (j_u2 ar (p0 + 2) (iN x1) (sc p0 3))) (gX_LK b) y_253_21 (ys_pr2 hp0) c3 rfl rfl ?_
      exact gl_return y_253_22 yt_253 (by cases h; exact hP)
/-- ClickOrders$Reader.skips()V -/
def xT_273 (b : Bool) (rf : jRf) (F : jSc → (Nat → Nat) → jSc → jAl → Option (jSc × (Nat → Nat) × jSc × jAl)) (e : Nat) : Prop := ∀  (Post : jPo) (sc : jSc) (mr : (Nat → Nat)) (ar : jSc) (al : jAl) (sc9 : jSc) (mr9 : (Nat → Nat)) (ar9 : jSc) (al9 : jAl), F sc mr ar al = some (sc9, mr9, ar9, al9) → Post none sc9 (x_mk mr9 rf) ar9 al9 → gW (gX b) 273 e 0 (j_av [.ref 756]) [] sc (x_mk mr rf) ar al Post
def xF_273_5 : Nat → Int32 → jSc → (Nat → Nat) → jSc → jAl → Option (jSc × (Nat → Nat) × jSc × jAl)
  | 0, _, _, _, _, _ => none
  | nn + 1, x1, sc, mr, ar, al => (if (sc 756 1) ≤ x1 then some (sc, mr, ar, al) else (if iB x1 600 then (if (ar 735 (iN x1)) = (32 : Int32) then xF_273_5 nn (x1 + (1 : Int32)) (j_u2 sc 756 2 (x1 + (1 : Int32))) mr ar al else some (sc, mr, ar, al)) else none))
set_option maxHeartbeats 4000000 in
theorem xt_273_5 {b : Bool} {rf : jRf} {d : Nat} {Post : jPo} {sc9 : jSc} {mr9 : (Nat → Nat)} {ar9 : jSc} {al9 : jAl} (hP : Post none sc9 (x_mk mr9 rf) ar9 al9) : ∀ (nn : Nat) (x1 : Int32) (sc : jSc) (mr : (Nat → Nat)) (ar : jSc) (al : jAl), xF_273_5 nn x1 sc mr ar al = some (sc9, mr9, ar9, al9) → gL (gX b) 273 (d + 1) 5 [some (.ref 756), some (.int x1)] [] sc (x_mk mr rf) ar al Post := by
  intro nn
  induction nn with
  | zero =>
    intro x1 sc mr ar al h
    have h : (none : Option (jSc × (Nat → Nat) × jSc × jAl)) = some _ := h
    cases h
  | succ nn ih =>
    intro x1 sc mr ar al h
    unfold xF_273_5 at h
    refine gl_iload_n (gX_LK b) y_273_5 rfl rfl ?_
    refine gl_aload_n (gX_LK b) y_273_6 rfl rfl ?_
    refine gl_get (gX_LK b) y_273_7 yf_273_9 ys_756 rfl rfl rfl rfl ?_
    refine gl_ic_ge (gX_LK b) y_273_10 rfl rfl (fun c1 => ?_) (fun c1 => ?_)
    · have h := (if_pos c1).symm.trans h
      exact gl_return y_273_37 yt_273 (by cases h; exact hP)
    · have h := (if_neg c1).symm.trans h
      refine gl_aload_n (gX_LK b) y_273_13 rfl rfl ?_
      refine gl_getA (gX_LK b) y_273_14 yf_273_27 ys_756 rfl rfl rfl rfl ?_
      refine gl_iload_n (gX_LK b) y_273_17 rfl rfl ?_
      obtain ⟨c2, h⟩ := o_ck h
      refine gl_iaload (gX_LK b) y_273_18 ys_735 c2 rfl rfl ?_
      refine gl_bipush (gX_LK b) y_273_19 cb_32 rfl ?_
      refine gl_ic_ne (gX_LK b) y_273_21 rfl rfl (fun c3 => ?_) (fun c3 => ?_)
      · have h := (if_pos c3).symm.trans h
        refine gl_aload_n (gX_LK b) y_273_24 rfl rfl ?_
        refine gl_iload_n (gX_LK b) y_273_25 rfl rfl ?_
        refine gl_iconst (gX_LK b) y_273_26 ci_1 rfl ?_
        refine gl_iadd (gX_LK b) y_273_27 rfl ?_
        refine gl_put (sc' := (j_u2 sc 756 2 (x1 + (1 : Int32)))) (gX_LK b) y_273_28 yf_273_15 ys_756 rfl rfl rfl rfl rfl ?_
        refine gl_iinc (vs2 := [some (.ref 756), some (.int (x1 + (1 : Int32)))]) (gX_LK b) y_273_31 rfl rfl rfl ci_1 rfl rfl ?_
        refine gl_goto (gX_LK b) y_273_34 rfl ?_
        exact gl_weak (vs := [some (.ref 756), some (.int (x1 + (1 : Int32)))]) ⟨rfl, rfl, trivial⟩ (ih (x1 + (1 : Int32)) (j_u2 sc 756 2 (x1 + (1 : Int32))) mr ar al h)
      · have h := (if_neg c3).symm.trans h
        exact gl_return y_273_37 yt_273 (by cases h; exact hP)
def xF_273 (sc : jSc) (mr : (Nat → Nat)) (ar : jSc) (al : jAl) : Option (jSc × (Nat → Nat) × jSc × jAl) :=
  xF_273_5 oF (sc 756 2) sc mr ar al
set_option maxHeartbeats 4000000 in
theorem xt_273 {b : Bool} {rf : jRf} {d : Nat} : xT_273 b rf xF_273 (d + 1) := by
  intro  Post  sc mr ar al sc9 mr9 ar9 al9 h hP
  unfold xF_273 at h
  refine gl_entry (m := 1) rfl ?_
  show gL (gX b) 273 (d + 1) 0 [some (.ref 756), none] [] sc (x_mk mr rf) ar al Post
  refine gl_aload_n (gX_LK b) y_273_0 rfl rfl ?_
  refine gl_get (gX_LK b) y_273_1 yf_273_15 ys_756 rfl rfl rfl rfl ?_
  refine gl_istore_n (vs2 := [some (.ref 756), some (.int (sc 756 2))]) (gX_LK b) y_273_4 rfl rfl rfl rfl ?_
  exact gl_weak (vs := [some (.ref 756), some (.int (sc 756 2))]) ⟨rfl, rfl, trivial⟩ (xt_273_5  hP oF (sc 756 2) sc mr ar al h)
/-- ClickOrders$Reader.takesSign(C)Z -/
def xT_270 (b : Bool) (rf : jRf) (F : Int32 → jSc → (Nat → Nat) → jSc → jAl → Option (Int32 × jSc × (Nat → Nat) × jSc × jAl)) (e : Nat) : Prop := ∀  (Post : jPo) (x1 : Int32) (sc : jSc) (mr : (Nat → Nat)) (ar : jSc) (al : jAl) (r9 : Int32) (sc9 : jSc) (mr9 : (Nat → Nat)) (ar9 : jSc) (al9 : jAl), F x1 sc mr ar al = some (r9, sc9, mr9, ar9, al9) → Post (some (.int r9)) sc9 (x_mk mr9 rf) ar9 al9 → gW (gX b) 270 e 0 (j_av [.ref 756, .int x1]) [] sc (x_mk mr rf) ar al Post
def xF_270 (x1 : Int32) (sc : jSc) (mr : (Nat → Nat)) (ar : jSc) (al : jAl) : Option (Int32 × jSc × (Nat → Nat) × jSc × jAl) :=
  (o_b4 (xF_273 sc mr ar al) (fun sce1 mre1 are1 ale1 => (if (sce1 756 1) ≤ (sce1 756 2) then some ((0 : Int32), sce1, mre1, are1, ale1) else (if iB (sce1 756 2) 600 then (if (are1 735 (iN (sce1 756 2))) = x1 then some ((1 : Int32), (j_u2 sce1 756 2 ((sce1 756 2) + (1 : Int32))), mre1, are1, ale1) else some ((0 : Int32), sce1, mre1, are1, ale1)) else none))))
set_option maxHeartbeats 4000000 in
theorem xt_270 {b : Bool} {rf : jRf} {d : Nat} : xT_270 b rf xF_270 (d + 2) := by
  intro  Post x1 sc mr ar al r9 sc9 mr9 ar9 al9 h hP
  unfold xF_270 at h
  refine gl_entry (m := 0) rfl ?_
  show gL (gX b) 270 (d + 2) 0 [some (.ref 756), some (.int x1)] [] sc (x_mk mr rf) ar al Post
  refine gl_aload_n (gX_LK b) y_270_0 rfl rfl ?_
  obtain ⟨sce1, mre1, are1, ale1, e1, h⟩ := o_k4 h
  refine gl_callV (gX_LK b) y_270_1 ym_270_113 rfl rfl rfl ys_756 yx_273 rfl rfl ((xt_273 )  _  _ _ _ _ _ _ _ _ e1 ?_)
  refine gl_aload_n (gX_LK b) y_270_4 rfl rfl ?_
  refine gl_get (gX_LK b) y_270_5 yf_270_15 ys_756 rfl rfl rfl rfl ?_
  refine gl_aload_n (gX_LK b) y_270_8 rfl rfl ?_
  refine gl_get (gX_LK b) y_270_9 yf_270_9 ys_756 rfl rfl rfl rfl ?_
  refine gl_ic_ge (gX_LK b) y_270_12 rfl rfl (fun c2 => ?_) (fun c2 => ?_)
  · have h := (if_pos c2).symm.trans h
    refine gl_iconst (gX_LK b) y_270_28 ci_0 rfl ?_
    exact gl_ireturn y_270_29 (Or.inr ⟨yt_270, Or.inl rfl⟩) (by cases h; exact hP)
  · have h := (if_neg c2).symm.trans h
    refine gl_aload_n (gX_LK b) y_270_15 rfl rfl ?_
    refine gl_getA (gX_LK b) y_270_16 yf_270_27 ys_756 rfl rfl rfl rfl ?_
    refine gl_aload_n (gX_LK b) y_270_19 rfl rfl ?_
    refine gl_get (gX_LK b) y_270_20 yf_270_15 ys_756 rfl rfl rfl rfl ?_
    obtain ⟨c3, h⟩ := o_ck h
    refine gl_iaload (gX_LK b) y_270_23 ys_735 c3 rfl rfl ?_
    refine gl_iload_n (gX_LK b) y_270_24 rfl rfl ?_
    refine gl_ic_eq (gX_LK b) y_270_25 rfl rfl (fun c4 => ?_) (fun c4 => ?_)
    · have h := (if_pos c4).symm.trans h
      refine gl_aload_n (gX_LK b) y_270_30 rfl rfl ?_
      refine gl_dup (gX_LK b) y_270_31 rfl rfl ?_
      refine gl_get (gX_LK b) y_270_32 yf_270_15 ys_756 rfl rfl rfl rfl ?_
      refine gl_iconst (gX_LK b) y_270_35 ci_1 rfl ?_
      refine gl_iadd (gX_LK b) y_270_36 rfl ?_
      refine gl_put (sc' := (j_u2 sce1 756 2 ((sce1 756 2) + (1 : Int32)))) (gX_LK b) y_270_37 yf_270_15 ys_756 rfl rfl rfl rfl rfl ?_
      refine gl_iconst (gX_LK b) y_270_40 ci_1 rfl ?_
      exact gl_ireturn y_270_41 (Or.inr ⟨yt_270, Or.inr rfl⟩) (by cases h; exact hP)
    · have h := (if_neg c4).symm.trans h
      refine gl_iconst (gX_LK b) y_270_28 ci_0 rfl ?_
      exact gl_ireturn y_270_29 (Or.inr ⟨yt_270, Or.inl rfl⟩) (by cases h; exact hP)
