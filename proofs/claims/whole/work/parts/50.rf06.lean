/-! THE REFERENCE: its methods as functions, and that the machine does what they say. -/
/-- ClickOrdersModel.happens(II)I -/
def rT_52 (X : jX) (rf : jRf) (F : Int32 → Int32 → (Nat → Int32) → jSc → Option (Int32 × (Nat → Int32) × jSc)) (e : Nat) : Prop := ∀ (sc : jSc) (al : jAl) (Post : jPo) (x1 : Int32) (x2 : Int32) (S : (Nat → Int32)) (ar : jSc) (r9 : Int32) (S9 : (Nat → Int32)) (ar9 : jSc), F x1 x2 S ar = some (r9, S9, ar9) → Post (some (.int r9)) (va_up sc 0 S9) rf ar9 al → gW X 52 e 0 (j_av [.ref 0, .int x1, .int x2]) [] (va_up sc 0 S) rf ar al Post
def rF_52_228 (x4 : Int32) (x5 : Int32) (x7 : Int32) (y0 : Int32) (S : (Nat → Int32)) (ar : jSc) : Option (Int32 × (Nat → Int32) × jSc) :=
  (o_b2 (rF_54 x7 S ar) (fun Se1 are1 => (if y0 = 0 then some (x4, (upd Se1 28 ((Se1 28) ||| ((1 : Int32) <<< (((20 : Int32) + x7) &&& 31)))), are1) else (o_b2 (rF_46 x5 (upd Se1 28 ((Se1 28) ||| ((1 : Int32) <<< (((20 : Int32) + x7) &&& 31)))) are1) (fun Se3 are3 => some (x4, Se3, are3))))))
set_option maxHeartbeats 4000000 in
theorem rt_52_228 {X : jX} (hX : j_LK (g_n X) (g_L X)) (hr : g_rs X = r_sh) {rf : jRf} (hrf : rf 0 = r_rf) {d : Nat} {sc : jSc} {al : jAl} {Post : jPo} {r9 : Int32} {S9 : (Nat → Int32)} {ar9 : jSc} (hP : Post (some (.int r9)) (va_up sc 0 S9) rf ar9 al) (x4 : Int32) (x5 : Int32) (x7 : Int32) (y0 : Int32) (S : (Nat → Int32)) (ar : jSc) (h : rF_52_228 x4 x5 x7 y0 S ar = some (r9, S9, ar9)) : gL X 52 (d + 126) 228 [some (.ref 0), none, none, none, some (.int x4), some (.int x5), none, some (.int x7)] [.int y0] (va_up sc 0 S) rf ar al Post := by
  unfold rF_52_228 at h
  refine gl_istore (vs2 := [some (.ref 0), none, none, none, some (.int x4), some (.int x5), some (.int y0), some (.int x7)]) hX q_52_228 rfl rfl rfl rfl ?_
  refine gl_aload_n hX q_52_230 rfl rfl ?_
  refine gl_iload hX q_52_231 rfl rfl ?_
  obtain ⟨Se1, are1, e1, h⟩ := o_k2 h
  refine gl_callV hX q_52_233 (qm_334 (by decide)) rfl rfl rfl (qs_0 hr) qx_54 rfl rfl ((rt_54 hX hr hrf) _ _ _ _ _ _ _ _ e1 ?_)
  refine gl_aload_n hX q_52_236 rfl rfl ?_
  refine gl_dup hX q_52_237 rfl rfl ?_
  refine gl_get hX q_52_238 (qf_275 (by decide)) (qs_0 hr) rfl qk_28 rfl rfl ?_
  refine gl_iconst hX q_52_241 ci_1 rfl ?_
  refine gl_bipush hX q_52_242 cb_20 rfl ?_
  refine gl_iload hX q_52_244 rfl rfl ?_
  refine gl_iadd hX q_52_246 rfl ?_
  refine gl_ishl hX q_52_247 rfl ?_
  refine gl_ior hX q_52_248 rfl ?_
  refine gl_put hX q_52_249 (qf_275 (by decide)) (qs_0 hr) rfl qk_28 rfl ru rfl ?_
  refine gl_iload hX q_52_252 rfl rfl ?_
  refine gl_if_eq hX q_52_254 rfl rfl (fun c2 => ?_) (fun c2 => ?_)
  · have h := (if_pos c2).symm.trans h
    refine gl_iload hX q_52_263 rfl rfl ?_
    exact gl_ireturn q_52_265 (Or.inl qr_52) (by cases h; exact hP)
  · have h := (if_neg c2).symm.trans h
    refine gl_aload_n hX q_52_257 rfl rfl ?_
    refine gl_iload hX q_52_258 rfl rfl ?_
    obtain ⟨Se3, are3, e3, h⟩ := o_k2 h
    refine gl_callV hX q_52_260 (qm_322 (by decide)) rfl rfl rfl (qs_0 hr) qx_46 rfl rfl ((rt_46 hX hr hrf) _ _ _ _ _ _ _ _ e3 ?_)
    refine gl_iload hX q_52_263 rfl rfl ?_
    exact gl_ireturn q_52_265 (Or.inl qr_52) (by cases h; exact hP)
def rF_52_100 (x1 : Int32) (x3 : Int32) (x4 : Int32) (x5 : Int32) (y0 : Int32) (S : (Nat → Int32)) (ar : jSc) : Option (Int32 × (Nat → Int32) × jSc) :=
  (if x1 = (8 : Int32) then (if iB ((27 : Int32) + x3) 53 then (if iB ((50 : Int32) + x3) 53 then (o_b2 (rF_53 x3 (upd (upd S 27 y0) 28 (0 : Int32)) ar) (fun Se7 are7 => (if (1 : Int32) = 0 then some ((ar 13 (iN ((50 : Int32) + x3))), Se7, are7) else (o_b2 (rF_46 ((9 : Int32) + (ar 13 (iN ((27 : Int32) + x3)))) Se7 are7) (fun Se9 are9 => some ((ar 13 (iN ((50 : Int32) + x3))), Se9, are9)))))) else none) else none) else (if x1 ≤ (8 : Int32) then (if (1 : Int32) = 0 then some (x4, (upd (upd S 27 y0) 28 (0 : Int32)), ar) else (o_b2 (rF_46 x5 (upd (upd S 27 y0) 28 (0 : Int32)) ar) (fun Se12 are12 => some (x4, Se12, are12)))) else (if iB ((38 : Int32) + ((3 : Int32) * (x1 - (9 : Int32)))) 53 then (if iB ((14 : Int32) + ((3 : Int32) * (x1 - (9 : Int32)))) 53 then (if iB ((10 : Int32) + (x1 - (9 : Int32))) 53 then (if (ar 13 (iN ((10 : Int32) + (x1 - (9 : Int32))))) = (1 : Int32) then rF_52_228 (ar 13 (iN ((38 : Int32) + ((3 : Int32) * (x1 - (9 : Int32)))))) ((13 : Int32) + (x1 - (9 : Int32))) (x1 - (9 : Int32)) (1 : Int32) (upd (upd (upd S 27 y0) 28 (0 : Int32)) 25 (ar 13 (iN ((14 : Int32) + ((3 : Int32) * (x1 - (9 : Int32))))))) ar else (o_b3 (rF_35 (1 : Int32) (x1 - (9 : Int32)) (upd (upd (upd S 27 y0) 28 (0 : Int32)) 25 (ar 13 (iN ((14 : Int32) + ((3 : Int32) * (x1 - (9 : Int32))))))) ar) (fun ve17 Se17 are17 => (if ve17 = 0 then rF_52_228 (ar 13 (iN ((38 : Int32) + ((3 : Int32) * (x1 - (9 : Int32)))))) ((13 : Int32) + (x1 - (9 : Int32))) (x1 - (9 : Int32)) (1 : Int32) Se17 are17 else rF_52_228 (ar 13 (iN ((38 : Int32) + ((3 : Int32) * (x1 - (9 : Int32)))))) ((13 : Int32) + (x1 - (9 : Int32))) (x1 - (9 : Int32)) (0 : Int32) Se17 are17)))) else none) else none) else none)))
set_option maxHeartbeats 4000000 in
theorem rt_52_100 {X : jX} (hX : j_LK (g_n X) (g_L X)) (hr : g_rs X = r_sh) {rf : jRf} (hrf : rf 0 = r_rf) {d : Nat} {sc : jSc} {al : jAl} {Post : jPo} {r9 : Int32} {S9 : (Nat → Int32)} {ar9 : jSc} (hP : Post (some (.int r9)) (va_up sc 0 S9) rf ar9 al) (x1 : Int32) (x3 : Int32) (x4 : Int32) (x5 : Int32) (y0 : Int32) (S : (Nat → Int32)) (ar : jSc) (h : rF_52_100 x1 x3 x4 x5 y0 S ar = some (r9, S9, ar9)) : gL X 52 (d + 126) 100 [some (.ref 0), some (.int x1), none, some (.int x3), some (.int x4), some (.int x5), none, none] [.int y0, .ref 0] (va_up sc 0 S) rf ar al Post := by
  unfold rF_52_100 at h
  refine gl_put hX q_52_100 (qf_187 (by decide)) (qs_0 hr) rfl qk_27 rfl ru rfl ?_
  refine gl_aload_n hX q_52_103 rfl rfl ?_
  refine gl_iconst hX q_52_104 ci_0 rfl ?_
  refine gl_put hX q_52_105 (qf_275 (by decide)) (qs_0 hr) rfl qk_28 rfl ru rfl ?_
  refine gl_iconst hX q_52_108 ci_1 rfl ?_
  refine gl_istore (vs2 := [some (.ref 0), some (.int x1), none, some (.int x3), some (.int x4), some (.int x5), some (.int (1 : Int32)), none]) hX q_52_109 rfl rfl rfl rfl ?_
  refine gl_iload_n hX q_52_111 rfl rfl ?_
  refine gl_bipush hX q_52_112 cb_8 rfl ?_
  refine gl_ic_ne hX q_52_114 rfl rfl (fun c4 => ?_) (fun c4 => ?_)
  · have h := (if_pos c4).symm.trans h
    refine gl_bipush hX q_52_117 cb_9 rfl ?_
    refine gl_aload_n hX q_52_119 rfl rfl ?_
    refine gl_getA hX q_52_120 (qf_42 (by decide)) (qs_0 hr) rfl qk_21 ((congrFun hrf 21).trans qa_21) rfl ?_
    refine gl_bipush hX q_52_123 cb_27 rfl ?_
    refine gl_iload_n hX q_52_125 rfl rfl ?_
    refine gl_iadd hX q_52_126 rfl ?_
    obtain ⟨c5, h⟩ := o_ck h
    refine gl_iaload hX q_52_127 (qs_13 hr) c5 rfl rfl ?_
    refine gl_iadd hX q_52_128 rfl ?_
    refine gl_istore (vs2 := [some (.ref 0), some (.int x1), none, some (.int x3), some (.int x4), some (.int ((9 : Int32) + (ar 13 (iN ((27 : Int32) + x3))))), some (.int (1 : Int32)), none]) hX q_52_129 rfl rfl rfl rfl ?_
    refine gl_aload_n hX q_52_131 rfl rfl ?_
    refine gl_getA hX q_52_132 (qf_42 (by decide)) (qs_0 hr) rfl qk_21 ((congrFun hrf 21).trans qa_21) rfl ?_
    refine gl_bipush hX q_52_135 cb_50 rfl ?_
    refine gl_iload_n hX q_52_137 rfl rfl ?_
    refine gl_iadd hX q_52_138 rfl ?_
    obtain ⟨c6, h⟩ := o_ck h
    refine gl_iaload hX q_52_139 (qs_13 hr) c6 rfl rfl ?_
    refine gl_istore (vs2 := [some (.ref 0), some (.int x1), none, some (.int x3), some (.int (ar 13 (iN ((50 : Int32) + x3)))), some (.int ((9 : Int32) + (ar 13 (iN ((27 : Int32) + x3))))), some (.int (1 : Int32)), none]) hX q_52_140 rfl rfl rfl rfl ?_
    refine gl_aload_n hX q_52_142 rfl rfl ?_
    refine gl_iload_n hX q_52_143 rfl rfl ?_
    obtain ⟨Se7, are7, e7, h⟩ := o_k2 h
    refine gl_callV hX q_52_144 (qm_331 (by decide)) rfl rfl rfl (qs_0 hr) qx_53 rfl rfl ((rt_53 hX hr hrf) _ _ _ _ _ _ _ _ e7 ?_)
    refine gl_goto hX q_52_147 rfl ?_
    refine gl_iload hX q_52_252 rfl rfl ?_
    refine gl_if_eq hX q_52_254 rfl rfl (fun c8 => ?_) (fun c8 => ?_)
    · have h := (if_pos c8).symm.trans h
      refine gl_iload hX q_52_263 rfl rfl ?_
      exact gl_ireturn q_52_265 (Or.inl qr_52) (by cases h; exact hP)
    · have h := (if_neg c8).symm.trans h
      refine gl_aload_n hX q_52_257 rfl rfl ?_
      refine gl_iload hX q_52_258 rfl rfl ?_
      obtain ⟨Se9, are9, e9, h⟩ := o_k2 h
      refine gl_callV hX q_52_260 (qm_322 (by decide)) rfl rfl rfl (qs_0 hr) qx_46 rfl rfl ((rt_46 hX hr hrf) _ _ _ _ _ _ _ _ e9 ?_)
      refine gl_iload hX q_52_263 rfl rfl ?_
      exact gl_ireturn q_52_265 (Or.inl qr_52) (by cases h; exact hP)
  · have h := (if_neg c4).symm.trans h
    refine gl_iload_n hX q_52_150 rfl rfl ?_
    refine gl_bipush hX q_52_151 cb_8 rfl ?_
    refine gl_ic_le hX q_52_153 rfl rfl (fun c10 => ?_) (fun c10 => ?_)
    · have h := (if_pos c10).symm.trans h
      refine gl_iload hX q_52_252 rfl rfl ?_
      refine gl_if_eq hX q_52_254 rfl rfl (fun c11 => ?_) (fun c11 => ?_)
      · have h := (if_pos c11).symm.trans h
        refine gl_iload hX q_52_263 rfl rfl ?_
        exact gl_ireturn q_52_265 (Or.inl qr_52) (by cases h; exact hP)
      · have h := (if_neg c11).symm.trans h
        refine gl_aload_n hX q_52_257 rfl rfl ?_
        refine gl_iload hX q_52_258 rfl rfl ?_
        obtain ⟨Se12, are12, e12, h⟩ := o_k2 h
        refine gl_callV hX q_52_260 (qm_322 (by decide)) rfl rfl rfl (qs_0 hr) qx_46 rfl rfl ((rt_46 hX hr hrf) _ _ _ _ _ _ _ _ e12 ?_)
        refine gl_iload hX q_52_263 rfl rfl ?_
        exact gl_ireturn q_52_265 (Or.inl qr_52) (by cases h; exact hP)
    · have h := (if_neg c10).symm.trans h
      refine gl_iload_n hX q_52_156 rfl rfl ?_
      refine gl_bipush hX q_52_157 cb_9 rfl ?_
      refine gl_isub hX q_52_159 rfl ?_
      refine gl_istore (vs2 := [some (.ref 0), some (.int x1), none, some (.int x3), some (.int x4), some (.int x5), some (.int (1 : Int32)), some (.int (x1 - (9 : Int32)))]) hX q_52_160 rfl rfl rfl rfl ?_
      refine gl_bipush hX q_52_162 cb_13 rfl ?_
      refine gl_iload hX q_52_164 rfl rfl ?_
      refine gl_iadd hX q_52_166 rfl ?_
      refine gl_istore (vs2 := [some (.ref 0), some (.int x1), none, some (.int x3), some (.int x4), some (.int ((13 : Int32) + (x1 - (9 : Int32)))), some (.int (1 : Int32)), some (.int (x1 - (9 : Int32)))]) hX q_52_167 rfl rfl rfl rfl ?_
      refine gl_aload_n hX q_52_169 rfl rfl ?_
      refine gl_getA hX q_52_170 (qf_42 (by decide)) (qs_0 hr) rfl qk_21 ((congrFun hrf 21).trans qa_21) rfl ?_
      refine gl_bipush hX q_52_173 cb_38 rfl ?_
      refine gl_iconst hX q_52_175 ci_3 rfl ?_
      refine gl_iload hX q_52_176 rfl rfl ?_
      refine gl_imul hX q_52_178 rfl ?_
      refine gl_iadd hX q_52_179 rfl ?_
      obtain ⟨c13, h⟩ := o_ck h
      refine gl_iaload hX q_52_180 (qs_13 hr) c13 rfl rfl ?_
      refine gl_istore (vs2 := [some (.ref 0), some (.int x1), none, some (.int x3), some (.int (ar 13 (iN ((38 : Int32) + ((3 : Int32) * (x1 - (9 : Int32))))))), some (.int ((13 : Int32) + (x1 - (9 : Int32)))), some (.int (1 : Int32)), some (.int (x1 - (9 : Int32)))]) hX q_52_181 rfl rfl rfl rfl ?_
      refine gl_aload_n hX q_52_183 rfl rfl ?_
      refine gl_aload_n hX q_52_184 rfl rfl ?_
      refine gl_getA hX q_52_185 (qf_42 (by decide)) (qs_0 hr) rfl qk_21 ((congrFun hrf 21).trans qa_21) rfl ?_
      refine gl_bipush hX q_52_188 cb_14 rfl ?_
      refine gl_iconst hX q_52_190 ci_3 rfl ?_
      refine gl_iload hX q_52_191 rfl rfl ?_
      refine gl_imul hX q_52_193 rfl ?_
      refine gl_iadd hX q_52_194 rfl ?_
      obtain ⟨c14, h⟩ := o_ck h
      refine gl_iaload hX q_52_195 (qs_13 hr) c14 rfl rfl ?_
      refine gl_put hX q_52_196 (qf_203 (by decide)) (qs_0 hr) rfl qk_25 rfl ru rfl ?_
      refine gl_aload_n hX q_52_199 rfl rfl ?_
      refine gl_getA hX q_52_200 (qf_42 (by decide)) (qs_0 hr) rfl qk_21 ((congrFun hrf 21).trans qa_21) rfl ?_
      refine gl_bipush hX q_52_203 cb_10 rfl ?_
      refine gl_iload hX q_52_205 rfl rfl ?_
      refine gl_iadd hX q_52_207 rfl ?_
      obtain ⟨c15, h⟩ := o_ck h
      refine gl_iaload hX q_52_208 (qs_13 hr) c15 rfl rfl ?_
      refine gl_iconst hX q_52_209 ci_1 rfl ?_
      refine gl_ic_eq hX q_52_210 rfl rfl (fun c16 => ?_) (fun c16 => ?_)
      · have h := (if_pos c16).symm.trans h
        refine gl_iconst hX q_52_223 ci_1 rfl ?_
        refine gl_goto hX q_52_224 rfl ?_
        exact gl_weak (vs := [some (.ref 0), none, none, none, some (.int (ar 13 (iN ((38 : Int32) + ((3 : Int32) * (x1 - (9 : Int32))))))), some (.int ((13 : Int32) + (x1 - (9 : Int32)))), none, some (.int (x1 - (9 : Int32)))]) ⟨rfl, rfl, rfl, rfl, trivial⟩ (rt_52_228 hX hr hrf hP (ar 13 (iN ((38 : Int32) + ((3 : Int32) * (x1 - (9 : Int32)))))) ((13 : Int32) + (x1 - (9 : Int32))) (x1 - (9 : Int32)) (1 : Int32) (upd (upd (upd S 27 y0) 28 (0 : Int32)) 25 (ar 13 (iN ((14 : Int32) + ((3 : Int32) * (x1 - (9 : Int32))))))) ar h)
      · have h := (if_neg c16).symm.trans h
        refine gl_aload_n hX q_52_213 rfl rfl ?_
        refine gl_iconst hX q_52_214 ci_1 rfl ?_
        refine gl_iload hX q_52_215 rfl rfl ?_
        obtain ⟨ve17, Se17, are17, e17, h⟩ := o_k3 h
        refine gl_callV hX q_52_217 (qm_287 (by decide)) rfl rfl rfl (qs_0 hr) qx_35 rfl rfl ((rt_35 hX hr hrf) _ _ _ _ _ _ _ _ _ _ e17 ?_)
        refine gl_if_ne hX q_52_220 rfl rfl (fun c18 => ?_) (fun c18 => ?_)
        · have h := (if_pos c18).symm.trans h
          refine gl_iconst hX q_52_223 ci_1 rfl ?_
          refine gl_goto hX q_52_224 rfl ?_
          exact gl_weak (vs := [some (.ref 0), none, none, none, some (.int (ar 13 (iN ((38 : Int32) + ((3 : Int32) * (x1 - (9 : Int32))))))), some (.int ((13 : Int32) + (x1 - (9 : Int32)))), none, some (.int (x1 - (9 : Int32)))]) ⟨rfl, rfl, rfl, rfl, trivial⟩ (rt_52_228 hX hr hrf hP (ar 13 (iN ((38 : Int32) + ((3 : Int32) * (x1 - (9 : Int32)))))) ((13 : Int32) + (x1 - (9 : Int32))) (x1 - (9 : Int32)) (1 : Int32) Se17 are17 h)
        · have h := (if_neg c18).symm.trans h
          refine gl_iconst hX q_52_227 ci_0 rfl ?_
          exact gl_weak (vs := [some (.ref 0), none, none, none, some (.int (ar 13 (iN ((38 : Int32) + ((3 : Int32) * (x1 - (9 : Int32))))))), some (.int ((13 : Int32) + (x1 - (9 : Int32)))), none, some (.int (x1 - (9 : Int32)))]) ⟨rfl, rfl, rfl, rfl, trivial⟩ (rt_52_228 hX hr hrf hP (ar 13 (iN ((38 : Int32) + ((3 : Int32) * (x1 - (9 : Int32)))))) ((13 : Int32) + (x1 - (9 : Int32))) (x1 - (9 : Int32)) (0 : Int32) Se17 are17 h)
def rF_52_16 : Nat → Int32 → Int32 → Int32 → Int32 → Int32 → Int32 → (Nat → Int32) → jSc → Option (Int32 × (Nat → Int32) × jSc)
  | 0, _, _, _, _, _, _, _, _ => none
  | nn + 1, x1, x2, x3, x4, x5, x6, S, ar => (if (ar 13 26) ≤ x6 then (if (8 : Int32) ≤ x1 then rF_52_100 x1 x3 x4 x5 (0 : Int32) (upd (upd S 26 x2) 25 (0 : Int32)) ar else rF_52_100 x1 x3 x4 x5 ((1 : Int32) <<< (((8 : Int32) + x1) &&& 31)) (upd (upd S 26 x2) 25 (0 : Int32)) ar) else (if iB ((30 : Int32) + x6) 53 then (if (ar 13 (iN ((30 : Int32) + x6))) ≤ 0 then (if iB ((30 : Int32) + x6) 53 then rF_52_16 nn x1 x2 x3 x4 x5 (x6 + (1 : Int32)) S (j_u2 ar 13 (iN ((30 : Int32) + x6)) (0 : Int32)) else none) else (if iB ((30 : Int32) + x6) 53 then (if iB ((30 : Int32) + x6) 53 then rF_52_16 nn x1 x2 x3 x4 x5 (x6 + (1 : Int32)) S (j_u2 ar 13 (iN ((30 : Int32) + x6)) ((ar 13 (iN ((30 : Int32) + x6))) - (1 : Int32))) else none) else none)) else none))
set_option maxHeartbeats 4000000 in
theorem rt_52_16 {X : jX} (hX : j_LK (g_n X) (g_L X)) (hr : g_rs X = r_sh) {rf : jRf} (hrf : rf 0 = r_rf) {d : Nat} {sc : jSc} {al : jAl} {Post : jPo} {r9 : Int32} {S9 : (Nat → Int32)} {ar9 : jSc} (hP : Post (some (.int r9)) (va_up sc 0 S9) rf ar9 al) : ∀ (nn : Nat) (x1 : Int32) (x2 : Int32) (x3 : Int32) (x4 : Int32) (x5 : Int32) (x6 : Int32) (S : (Nat → Int32)) (ar : jSc), rF_52_16 nn x1 x2 x3 x4 x5 x6 S ar = some (r9, S9, ar9) → gL X 52 (d + 126) 16 [some (.ref 0), some (.int x1), some (.int x2), some (.int x3), some (.int x4), some (.int x5), some (.int x6), none] [] (va_up sc 0 S) rf ar al Post := by
  intro nn
  induction nn with
  | zero =>
    intro x1 x2 x3 x4 x5 x6 S ar h
    have h : (none : Option (Int32 × (Nat → Int32) × jSc)) = some _ := h
    cases h
  | succ nn ih =>
    intro x1 x2 x3 x4 x5 x6 S ar h
    unfold rF_52_16 at h
    refine gl_iload hX q_52_16 rfl rfl ?_
    refine gl_aload_n hX q_52_18 rfl rfl ?_
    refine gl_getA hX q_52_19 (qf_42 (by decide)) (qs_0 hr) rfl qk_21 ((congrFun hrf 21).trans qa_21) rfl ?_
    refine gl_bipush hX q_52_22 cb_26 rfl ?_
    refine gl_iaload hX q_52_24 (qs_13 hr) (by decide) rfl rfl ?_
    refine gl_ic_ge hX q_52_25 rfl rfl (fun c19 => ?_) (fun c19 => ?_)
    · have h := (if_pos c19).symm.trans h
      refine gl_aload_n hX q_52_73 rfl rfl ?_
      refine gl_iload_n hX q_52_74 rfl rfl ?_
      refine gl_put hX q_52_75 (qf_281 (by decide)) (qs_0 hr) rfl qk_26 rfl ru rfl ?_
      refine gl_aload_n hX q_52_78 rfl rfl ?_
      refine gl_iconst hX q_52_79 ci_0 rfl ?_
      refine gl_put hX q_52_80 (qf_203 (by decide)) (qs_0 hr) rfl qk_25 rfl ru rfl ?_
      refine gl_aload_n hX q_52_83 rfl rfl ?_
      refine gl_iload_n hX q_52_84 rfl rfl ?_
      refine gl_bipush hX q_52_85 cb_8 rfl ?_
      refine gl_ic_ge hX q_52_87 rfl rfl (fun c20 => ?_) (fun c20 => ?_)
      · have h := (if_pos c20).symm.trans h
        refine gl_iconst hX q_52_99 ci_0 rfl ?_
        exact gl_weak (vs := [some (.ref 0), some (.int x1), none, some (.int x3), some (.int x4), some (.int x5), none, none]) ⟨rfl, rfl, rfl, rfl, rfl, trivial⟩ (rt_52_100 hX hr hrf hP x1 x3 x4 x5 (0 : Int32) (upd (upd S 26 x2) 25 (0 : Int32)) ar h)
      · have h := (if_neg c20).symm.trans h
        refine gl_iconst hX q_52_90 ci_1 rfl ?_
        refine gl_bipush hX q_52_91 cb_8 rfl ?_
        refine gl_iload_n hX q_52_93 rfl rfl ?_
        refine gl_iadd hX q_52_94 rfl ?_
        refine gl_ishl hX q_52_95 rfl ?_
        refine gl_goto hX q_52_96 rfl ?_
        exact gl_weak (vs := [some (.ref 0), some (.int x1), none, some (.int x3), some (.int x4), some (.int x5), none, none]) ⟨rfl, rfl, rfl, rfl, rfl, trivial⟩ (rt_52_100 hX hr hrf hP x1 x3 x4 x5 ((1 : Int32) <<< (((8 : Int32) + x1) &&& 31)) (upd (upd S 26 x2) 25 (0 : Int32)) ar h)
    · have h := (if_neg c19).symm.trans h
      refine gl_aload_n hX q_52_28 rfl rfl ?_
      refine gl_getA hX q_52_29 (qf_42 (by decide)) (qs_0 hr) rfl qk_21 ((congrFun hrf 21).trans qa_21) rfl ?_
      refine gl_bipush hX q_52_32 cb_30 rfl ?_
      refine gl_iload hX q_52_34 rfl rfl ?_
      refine gl_iadd hX q_52_36 rfl ?_
      refine gl_aload_n hX q_52_37 rfl rfl ?_
      refine gl_getA hX q_52_38 (qf_42 (by decide)) (qs_0 hr) rfl qk_21 ((congrFun hrf 21).trans qa_21) rfl ?_
      refine gl_bipush hX q_52_41 cb_30 rfl ?_
      refine gl_iload hX q_52_43 rfl rfl ?_
      refine gl_iadd hX q_52_45 rfl ?_
      obtain ⟨c21, h⟩ := o_ck h
      refine gl_iaload hX q_52_46 (qs_13 hr) c21 rfl rfl ?_
      refine gl_if_le hX q_52_47 rfl rfl (fun c22 => ?_) (fun c22 => ?_)
      · have h := (if_pos c22).symm.trans h
        refine gl_iconst hX q_52_65 ci_0 rfl ?_
        obtain ⟨c23, h⟩ := o_ck h
        refine gl_iastore (ar2 := (j_u2 ar 13 (iN ((30 : Int32) + x6)) (0 : Int32))) hX q_52_66 (qs_13 hr) c23 rfl rfl ?_
        refine gl_iinc (vs2 := [some (.ref 0), some (.int x1), some (.int x2), some (.int x3), some (.int x4), some (.int x5), some (.int (x6 + (1 : Int32))), none]) hX q_52_67 rfl rfl rfl ci_1 rfl rfl ?_
        refine gl_goto hX q_52_70 rfl ?_
        exact gl_weak (vs := [some (.ref 0), some (.int x1), some (.int x2), some (.int x3), some (.int x4), some (.int x5), some (.int (x6 + (1 : Int32))), none]) ⟨rfl, rfl, rfl, rfl, rfl, rfl, rfl, trivial⟩ (ih x1 x2 x3 x4 x5 (x6 + (1 : Int32)) S (j_u2 ar 13 (iN ((30 : Int32) + x6)) (0 : Int32)) h)
      · have h := (if_neg c22).symm.trans h
        refine gl_aload_n hX q_52_50 rfl rfl ?_
        refine gl_getA hX q_52_51 (qf_42 (by decide)) (qs_0 hr) rfl qk_21 ((congrFun hrf 21).trans qa_21) rfl ?_
        refine gl_bipush hX q_52_54 cb_30 rfl ?_
        refine gl_iload hX q_52_56 rfl rfl ?_
        refine gl_iadd hX q_52_58 rfl ?_
        obtain ⟨c24, h⟩ := o_ck h
        refine gl_iaload hX q_52_59 (qs_13 hr) c24 rfl rfl ?_
        refine gl_iconst hX q_52_60 ci_1 rfl ?_
        refine gl_isub hX q_52_61 rfl ?_
        refine gl_goto hX q_52_62 rfl ?_
        obtain ⟨c25, h⟩ := o_ck h
        refine gl_iastore (ar2 := (j_u2 ar 13 (iN ((30 : Int32) + x6)) ((ar 13 (iN ((30 : Int32) + x6))) - (1 : Int32)))) hX q_52_66 (qs_13 hr) c25 rfl rfl ?_
        refine gl_iinc (vs2 := [some (.ref 0), some (.int x1), some (.int x2), some (.int x3), some (.int x4), some (.int x5), some (.int (x6 + (1 : Int32))), none]) hX q_52_67 rfl rfl rfl ci_1 rfl rfl ?_
        refine gl_goto hX q_52_70 rfl ?_
        exact gl_weak (vs := [some (.ref 0), some (.int x1), some (.int x2), some (.int x3), some (.int x4), some (.int x5), some (.int (x6 + (1 : Int32))), none]) ⟨rfl, rfl, rfl, rfl, rfl, rfl, rfl, trivial⟩ (ih x1 x2 x3 x4 x5 (x6 + (1 : Int32)) S (j_u2 ar 13 (iN ((30 : Int32) + x6)) ((ar 13 (iN ((30 : Int32) + x6))) - (1 : Int32))) h)
def rF_52 (x1 : Int32) (x2 : Int32) (S : (Nat → Int32)) (ar : jSc) : Option (Int32 × (Nat → Int32) × jSc) :=
  (o_b3 (rF_51 S ar) (fun ve26 Se26 are26 => rF_52_16 oF x1 x2 ve26 (-1 : Int32) ((1 : Int32) + x1) (0 : Int32) Se26 are26))
set_option maxHeartbeats 4000000 in
theorem rt_52 {X : jX} (hX : j_LK (g_n X) (g_L X)) (hr : g_rs X = r_sh) {rf : jRf} (hrf : rf 0 = r_rf) {d : Nat} : rT_52 X rf rF_52 (d + 126) := by
  intro sc al Post x1 x2 S ar r9 S9 ar9 h hP
  unfold rF_52 at h
  refine gl_entry (m := 5) rfl ?_
  show gL X 52 (d + 126) 0 [some (.ref 0), some (.int x1), some (.int x2), none, none, none, none, none] [] (va_up sc 0 S) rf ar al Post
  refine gl_aload_n hX q_52_0 rfl rfl ?_
  obtain ⟨ve26, Se26, are26, e26, h⟩ := o_k3 h
  refine gl_callV hX q_52_1 (qm_328 (by decide)) rfl rfl rfl (qs_0 hr) qx_51 rfl rfl ((rt_51 hX hr hrf) _ _ _  _ _ _ _ _ e26 ?_)
  refine gl_istore_n (vs2 := [some (.ref 0), some (.int x1), some (.int x2), some (.int ve26), none, none, none, none]) hX q_52_4 rfl rfl rfl rfl ?_
  refine gl_iconst hX q_52_5 ci_m1 rfl ?_
  refine gl_istore (vs2 := [some (.ref 0), some (.int x1), some (.int x2), some (.int ve26), some (.int (-1 : Int32)), none, none, none]) hX q_52_6 rfl rfl rfl rfl ?_
  refine gl_iconst hX q_52_8 ci_1 rfl ?_
  refine gl_iload_n hX q_52_9 rfl rfl ?_
  refine gl_iadd hX q_52_10 rfl ?_
  refine gl_istore (vs2 := [some (.ref 0), some (.int x1), some (.int x2), some (.int ve26), some (.int (-1 : Int32)), some (.int ((1 : Int32) + x1)), none, none]) hX q_52_11 rfl rfl rfl rfl ?_
  refine gl_iconst hX q_52_13 ci_0 rfl ?_
  refine gl_istore (vs2 := [some (.ref 0), some (.int x1), some (.int x2), some (.int ve26), some (.int (-1 : Int32)), some (.int ((1 : Int32) + x1)), some (.int (0 : Int32)), none]) hX q_52_14 rfl rfl rfl rfl ?_
  exact gl_weak (vs := [some (.ref 0), some (.int x1), some (.int x2), some (.int ve26), some (.int (-1 : Int32)), some (.int ((1 : Int32) + x1)), some (.int (0 : Int32)), none]) ⟨rfl, rfl, rfl, rfl, rfl, rfl, rfl, trivial⟩ (rt_52_16 hX hr hrf hP oF x1 x2 ve26 (-1 : Int32) ((1 : Int32) + x1) (0 : Int32) Se26 are26 h)
/-- ClickOrdersModel.loads([I)V -/
def rT_55 (X : jX) (rf : jRf) (F : Nat → Nat → (Nat → Int32) → jSc → Option ((Nat → Int32) × jSc)) (e : Nat) : Prop := ∀ (sc : jSc) (al : jAl) (Post : jPo) (p1 : Nat) (n1 : Nat) (hp1 : (g_L X).1 p1 = .inr (0, n1)) (S : (Nat → Int32)) (ar : jSc) (S9 : (Nat → Int32)) (ar9 : jSc), F p1 n1 S ar = some (S9, ar9) → Post none (va_up sc 0 S9) rf ar9 al → gW X 55 e 0 (j_av [.ref 0, .ref p1]) [] (va_up sc 0 S) rf ar al Post
def rF_55_2 : Nat → Nat → Nat → Int32 → (Nat → Int32) → jSc → Option ((Nat → Int32) × jSc)
  | 0, _, _, _, _, _ => none
  | nn + 1, p1, n1, x2, S, ar => (if (Int32.ofNat n1) ≤ x2 then some (S, ar) else (if iB x2 n1 then (if iB x2 53 then rF_55_2 nn p1 n1 (x2 + (1 : Int32)) S (j_u2 ar 13 (iN x2) (ar p1 (iN x2))) else none) else none))
set_option maxHeartbeats 4000000 in
theorem rt_55_2 {X : jX} (hX : j_LK (g_n X) (g_L X)) (hr : g_rs X = r_sh) {rf : jRf} (hrf : rf 0 = r_rf) {d : Nat} {sc : jSc} {al : jAl} {Post : jPo} {S9 : (Nat → Int32)} {ar9 : jSc} (hP : Post none (va_up sc 0 S9) rf ar9 al) : ∀ (nn : Nat) (p1 : Nat) (n1 : Nat) (x2 : Int32) (S : (Nat → Int32)) (ar : jSc), (g_L X).1 p1 = .inr (0, n1) → rF_55_2 nn p1 n1 x2 S ar = some (S9, ar9) → gL X 55 (d + 1) 2 [some (.ref 0), some (.ref p1), some (.int x2)] [] (va_up sc 0 S) rf ar al Post := by
  intro nn
  induction nn with
  | zero =>
    intro p1 n1 x2 S ar hp1 h
    have h : (none : Option ((Nat → Int32) × jSc)) = some _ := h
    cases h
  | succ nn ih =>
    intro p1 n1 x2 S ar hp1 h
    unfold rF_55_2 at h
    refine gl_iload_n hX q_55_2 rfl rfl ?_
    refine gl_aload_n hX q_55_3 rfl rfl ?_
    refine gl_arraylength hX q_55_4 hp1 (Or.inl (by decide)) rfl ?_
    refine gl_ic_ge hX q_55_5 rfl rfl (fun c1 => ?_) (fun c1 => ?_)
    · have h := (if_pos c1).symm.trans h
      exact gl_return q_55_23 qr_55 (by cases h; exact hP)
    · have h := (if_neg c1).symm.trans h
      refine gl_aload_n hX q_55_8 rfl rfl ?_
      refine gl_getA hX q_55_9 (qf_42 (by decide)) (qs_0 hr) rfl qk_21 ((congrFun hrf 21).trans qa_21) rfl ?_
      refine gl_iload_n hX q_55_12 rfl rfl ?_
      refine gl_aload_n hX q_55_13 rfl rfl ?_
      refine gl_iload_n hX q_55_14 rfl rfl ?_
      obtain ⟨c2, h⟩ := o_ck h
      refine gl_iaload hX q_55_15 hp1 c2 rfl rfl ?_
      obtain ⟨c3, h⟩ := o_ck h
      refine gl_iastore (ar2 := (j_u2 ar 13 (iN x2) (ar p1 (iN x2)))) hX q_55_16 (qs_13 hr) c3 rfl rfl ?_
      refine gl_iinc (vs2 := [some (.ref 0), some (.ref p1), some (.int (x2 + (1 : Int32)))]) hX q_55_17 rfl rfl rfl ci_1 rfl rfl ?_
      refine gl_goto hX q_55_20 rfl ?_
      exact gl_weak (vs := [some (.ref 0), some (.ref p1), some (.int (x2 + (1 : Int32)))]) ⟨rfl, rfl, rfl, trivial⟩ (ih p1 n1 (x2 + (1 : Int32)) S (j_u2 ar 13 (iN x2) (ar p1 (iN x2))) hp1 h)
def rF_55 (p1 : Nat) (n1 : Nat) (S : (Nat → Int32)) (ar : jSc) : Option ((Nat → Int32) × jSc) :=
  rF_55_2 oF p1 n1 (0 : Int32) S ar
set_option maxHeartbeats 4000000 in
theorem rt_55 {X : jX} (hX : j_LK (g_n X) (g_L X)) (hr : g_rs X = r_sh) {rf : jRf} (hrf : rf 0 = r_rf) {d : Nat} : rT_55 X rf rF_55 (d + 1) := by
  intro sc al Post p1 n1 hp1 S ar S9 ar9 h hP
  unfold rF_55 at h
  refine gl_entry (m := 1) rfl ?_
  show gL X 55 (d + 1) 0 [some (.ref 0), some (.ref p1), none] [] (va_up sc 0 S) rf ar al Post
  refine gl_iconst hX q_55_0 ci_0 rfl ?_
  refine gl_istore_n (vs2 := [some (.ref 0), some (.ref p1), some (.int (0 : Int32))]) hX q_55_1 rfl rfl rfl rfl ?_
  exact gl_weak (vs := [some (.ref 0), some (.ref p1), some (.int (0 : Int32))]) ⟨rfl, rfl, rfl, trivial⟩ (rt_55_2 hX hr hrf hP oF p1 n1 (0 : Int32) S ar hp1 h)
/-- ClickOrdersModel.isSpoiltPage()Z -/
def rT_57 (X : jX) (rf : jRf) (F : (Nat → Int32) → jSc → Option (Int32 × (Nat → Int32) × jSc)) (e : Nat) : Prop := ∀ (sc : jSc) (al : jAl) (Post : jPo) (S : (Nat → Int32)) (ar : jSc) (r9 : Int32) (S9 : (Nat → Int32)) (ar9 : jSc), F S ar = some (r9, S9, ar9) → Post (some (.int r9)) (va_up sc 0 S9) rf ar9 al → gW X 57 e 0 (j_av [.ref 0]) [] (va_up sc 0 S) rf ar al Post
def rF_57_15 : Nat → Int32 → (Nat → Int32) → jSc → Option (Int32 × (Nat → Int32) × jSc)
  | 0, _, _, _ => none
  | nn + 1, x1, S, ar => (if (4 : Int32) ≤ x1 then (if (ar 13 26) = 0 then (if iB (S 16) 2 then (o_b3 (rF_47 (ar 10 (iN (S 16))) (0 : Int32) S ar) (fun ve4 Se4 are4 => (if ve4 = 0 then some ((0 : Int32), Se4, are4) else some ((1 : Int32), Se4, are4)))) else none) else some ((0 : Int32), S, ar)) else (if iB ((10 : Int32) + x1) 53 then (if (ar 13 (iN ((10 : Int32) + x1))) ≤ 0 then rF_57_15 nn (x1 + (1 : Int32)) S ar else some ((0 : Int32), S, ar)) else none))
set_option maxHeartbeats 4000000 in
theorem rt_57_15 {X : jX} (hX : j_LK (g_n X) (g_L X)) (hr : g_rs X = r_sh) {rf : jRf} (hrf : rf 0 = r_rf) {d : Nat} {sc : jSc} {al : jAl} {Post : jPo} {r9 : Int32} {S9 : (Nat → Int32)} {ar9 : jSc} (hP : Post (some (.int r9)) (va_up sc 0 S9) rf ar9 al) : ∀ (nn : Nat) (x1 : Int32) (S : (Nat → Int32)) (ar : jSc), rF_57_15 nn x1 S ar = some (r9, S9, ar9) → gL X 57 (d + 86) 15 [some (.ref 0), some (.int x1)] [] (va_up sc 0 S) rf ar al Post := by
  intro nn
  induction nn with
  | zero =>
    intro x1 S ar h
    have h : (none : Option (Int32 × (Nat → Int32) × jSc)) = some _ := h
    cases h
  | succ nn ih =>
    intro x1 S ar h
    unfold rF_57_15 at h
    refine gl_iload_n hX q_57_15 rfl rfl ?_
    refine gl_iconst hX q_57_16 ci_4 rfl ?_
    refine gl_ic_ge hX q_57_17 rfl rfl (fun c1 => ?_) (fun c1 => ?_)
    · have h := (if_pos c1).symm.trans h
      refine gl_aload_n hX q_57_40 rfl rfl ?_
      refine gl_getA hX q_57_41 (qf_42 (by decide)) (qs_0 hr) rfl qk_21 ((congrFun hrf 21).trans qa_21) rfl ?_
      refine gl_bipush hX q_57_44 cb_26 rfl ?_
      refine gl_iaload hX q_57_46 (qs_13 hr) (by decide) rfl rfl ?_
      refine gl_if_ne hX q_57_47 rfl rfl (fun c2 => ?_) (fun c2 => ?_)
      · have h := (if_pos c2).symm.trans h
        refine gl_aload_n hX q_57_50 rfl rfl ?_
        refine gl_aload_n hX q_57_51 rfl rfl ?_
        refine gl_getA hX q_57_52 (qf_33 (by decide)) (qs_0 hr) rfl qk_14 ((congrFun hrf 14).trans qa_14) rfl ?_
        refine gl_aload_n hX q_57_55 rfl rfl ?_
        refine gl_get hX q_57_56 (qf_316 (by decide)) (qs_0 hr) rfl qk_16 rfl rfl ?_
        obtain ⟨c3, h⟩ := o_ck h
        refine gl_iaload hX q_57_59 (qs_10 hr) c3 rfl rfl ?_
        refine gl_iconst hX q_57_60 ci_0 rfl ?_
        obtain ⟨ve4, Se4, are4, e4, h⟩ := o_k3 h
        refine gl_callV hX q_57_61 (qm_337 (by decide)) rfl rfl rfl (qs_0 hr) qx_47 rfl rfl ((rt_47 hX hr hrf) _ _ _ _ _ _ _ _ _ _ e4 ?_)
        refine gl_if_eq hX q_57_64 rfl rfl (fun c5 => ?_) (fun c5 => ?_)
        · have h := (if_pos c5).symm.trans h
          refine gl_iconst hX q_57_71 ci_0 rfl ?_
          exact gl_ireturn q_57_72 (Or.inr ⟨qr_57, Or.inl rfl⟩) (by cases h; exact hP)
        · have h := (if_neg c5).symm.trans h
          refine gl_iconst hX q_57_67 ci_1 rfl ?_
          refine gl_goto hX q_57_68 rfl ?_
          exact gl_ireturn q_57_72 (Or.inr ⟨qr_57, Or.inr rfl⟩) (by cases h; exact hP)
      · have h := (if_neg c2).symm.trans h
        refine gl_iconst hX q_57_71 ci_0 rfl ?_
        exact gl_ireturn q_57_72 (Or.inr ⟨qr_57, Or.inl rfl⟩) (by cases h; exact hP)
    · have h := (if_neg c1).symm.trans h
      refine gl_aload_n hX q_57_20 rfl rfl ?_
      refine gl_getA hX q_57_21 (qf_42 (by decide)) (qs_0 hr) rfl qk_21 ((congrFun hrf 21).trans qa_21) rfl ?_
      refine gl_bipush hX q_57_24 cb_10 rfl ?_
      refine gl_iload_n hX q_57_26 rfl rfl ?_
      refine gl_iadd hX q_57_27 rfl ?_
      obtain ⟨c6, h⟩ := o_ck h
      refine gl_iaload hX q_57_28 (qs_13 hr) c6 rfl rfl ?_
      refine gl_if_le hX q_57_29 rfl rfl (fun c7 => ?_) (fun c7 => ?_)
      · have h := (if_pos c7).symm.trans h
        refine gl_iinc (vs2 := [some (.ref 0), some (.int (x1 + (1 : Int32)))]) hX q_57_34 rfl rfl rfl ci_1 rfl rfl ?_
        refine gl_goto hX q_57_37 rfl ?_
        exact gl_weak (vs := [some (.ref 0), some (.int (x1 + (1 : Int32)))]) ⟨rfl, rfl, trivial⟩ (ih (x1 + (1 : Int32)) S ar h)
      · have h := (if_neg c7).symm.trans h
        refine gl_iconst hX q_57_32 ci_0 rfl ?_
        exact gl_ireturn q_57_33 (Or.inr ⟨qr_57, Or.inl rfl⟩) (by cases h; exact hP)
def rF_57 (S : (Nat → Int32)) (ar : jSc) : Option (Int32 × (Nat → Int32) × jSc) :=
  (if (ar 13 37) = (1 : Int32) then some ((1 : Int32), S, ar) else rF_57_15 oF (0 : Int32) S ar)
set_option maxHeartbeats 4000000 in
theorem rt_57 {X : jX} (hX : j_LK (g_n X) (g_L X)) (hr : g_rs X = r_sh) {rf : jRf} (hrf : rf 0 = r_rf) {d : Nat} : rT_57 X rf rF_57 (d + 86) := by
  intro sc al Post  S ar r9 S9 ar9 h hP
  unfold rF_57 at h
  refine gl_entry (m := 1) rfl ?_
  show gL X 57 (d + 86) 0 [some (.ref 0), none] [] (va_up sc 0 S) rf ar al Post
  refine gl_aload_n hX q_57_0 rfl rfl ?_
  refine gl_getA hX q_57_1 (qf_42 (by decide)) (qs_0 hr) rfl qk_21 ((congrFun hrf 21).trans qa_21) rfl ?_
  refine gl_bipush hX q_57_4 cb_37 rfl ?_
  refine gl_iaload hX q_57_6 (qs_13 hr) (by decide) rfl rfl ?_
  refine gl_iconst hX q_57_7 ci_1 rfl ?_
  refine gl_ic_ne hX q_57_8 rfl rfl (fun c8 => ?_) (fun c8 => ?_)
  · have h := (if_pos c8).symm.trans h
    refine gl_iconst hX q_57_11 ci_1 rfl ?_
    exact gl_ireturn q_57_12 (Or.inr ⟨qr_57, Or.inr rfl⟩) (by cases h; exact hP)
  · have h := (if_neg c8).symm.trans h
    refine gl_iconst hX q_57_13 ci_0 rfl ?_
    refine gl_istore_n (vs2 := [some (.ref 0), some (.int (0 : Int32))]) hX q_57_14 rfl rfl rfl rfl ?_
    exact gl_weak (vs := [some (.ref 0), some (.int (0 : Int32))]) ⟨rfl, rfl, trivial⟩ (rt_57_15 hX hr hrf hP oF (0 : Int32) S ar h)
/-- ClickOrdersModel.begin()I -/
def rT_59 (X : jX) (rf : jRf) (F : (Nat → Int32) → jSc → Option (Int32 × (Nat → Int32) × jSc)) (e : Nat) : Prop := ∀ (sc : jSc) (al : jAl) (Post : jPo) (S : (Nat → Int32)) (ar : jSc) (r9 : Int32) (S9 : (Nat → Int32)) (ar9 : jSc), F S ar = some (r9, S9, ar9) → Post (some (.int r9)) (va_up sc 0 S9) rf ar9 al → gW X 59 e 0 (j_av [.ref 0]) [] (va_up sc 0 S) rf ar al Post
def rF_59 (S : (Nat → Int32)) (ar : jSc) : Option (Int32 × (Nat → Int32) × jSc) :=
  (o_b2 (rF_58 (upd S 0 (0 : Int32)) ar) (fun Se1 are1 => some ((S 31), Se1, are1)))
set_option maxHeartbeats 4000000 in
theorem rt_59 {X : jX} (hX : j_LK (g_n X) (g_L X)) (hr : g_rs X = r_sh) {rf : jRf} (hrf : rf 0 = r_rf) {d : Nat} : rT_59 X rf rF_59 (d + 129) := by
  intro sc al Post  S ar r9 S9 ar9 h hP
  unfold rF_59 at h
  refine gl_entry (m := 1) rfl ?_
  show gL X 59 (d + 129) 0 [some (.ref 0), none] [] (va_up sc 0 S) rf ar al Post
  refine gl_aload_n hX q_59_0 rfl rfl ?_
  refine gl_iconst hX q_59_1 ci_0 rfl ?_
  refine gl_put hX q_59_2 (qf_126 (by decide)) (qs_0 hr) rfl qk_0 rfl ru rfl ?_
  refine gl_aload_n hX q_59_5 rfl rfl ?_
  refine gl_get hX q_59_6 (qf_341 (by decide)) (qs_0 hr) rfl qk_31 rfl rfl ?_
  refine gl_istore_n (vs2 := [some (.ref 0), some (.int (S 31))]) hX q_59_9 rfl rfl rfl rfl ?_
  refine gl_aload_n hX q_59_10 rfl rfl ?_
  obtain ⟨Se1, are1, e1, h⟩ := o_k2 h
  refine gl_callV hX q_59_11 (qm_120 (by decide)) rfl rfl rfl (qs_0 hr) qx_58 rfl rfl ((rt_58 hX hr hrf) _ _ _  _ _ _ _ e1 ?_)
  refine gl_iload_n hX q_59_14 rfl rfl ?_
  exact gl_ireturn q_59_15 (Or.inl qr_59) (by cases h; exact hP)
/-- ClickOrdersModel.can(I)Z -/
def rT_60 (X : jX) (rf : jRf) (F : Int32 → (Nat → Int32) → jSc → Option (Int32 × (Nat → Int32) × jSc)) (e : Nat) : Prop := ∀ (sc : jSc) (al : jAl) (Post : jPo) (x1 : Int32) (S : (Nat → Int32)) (ar : jSc) (r9 : Int32) (S9 : (Nat → Int32)) (ar9 : jSc), F x1 S ar = some (r9, S9, ar9) → Post (some (.int r9)) (va_up sc 0 S9) rf ar9 al → gW X 60 e 0 (j_av [.ref 0, .int x1]) [] (va_up sc 0 S) rf ar al Post
def rF_60 (x1 : Int32) (S : (Nat → Int32)) (ar : jSc) : Option (Int32 × (Nat → Int32) × jSc) :=
  (o_b3 (rF_4 x1 (0 : Int32) (12 : Int32) (upd S 0 (0 : Int32)) ar) (fun ve1 Se1 are1 => (if ve1 = 0 then (o_b3 (rF_3 (1 : Int32) (1 : Int32) Se1 are1) (fun ve3 Se3 are3 => (if ve3 = 0 then (o_b2 (rF_55 14 53 Se3 are3) (fun Se5 are5 => (o_b3 (rF_50 x1 Se5 are5) (fun ve6 Se6 are6 => (if ve6 = 0 ∨ ve6 = 1 then some (ve6, Se6, are6) else none))))) else some ((0 : Int32), Se3, are3)))) else (o_b3 (rF_3 (0 : Int32) (1 : Int32) Se1 are1) (fun ve8 Se8 are8 => (if ve8 = 0 then (o_b2 (rF_55 14 53 Se8 are8) (fun Se10 are10 => (o_b3 (rF_50 x1 Se10 are10) (fun ve11 Se11 are11 => (if ve11 = 0 ∨ ve11 = 1 then some (ve11, Se11, are11) else none))))) else some ((0 : Int32), Se8, are8)))))))
set_option maxHeartbeats 4000000 in
theorem rt_60 {X : jX} (hX : j_LK (g_n X) (g_L X)) (hr : g_rs X = r_sh) {rf : jRf} (hrf : rf 0 = r_rf) {d : Nat} : rT_60 X rf rF_60 (d + 2) := by
  intro sc al Post x1 S ar r9 S9 ar9 h hP
  unfold rF_60 at h
  refine gl_entry (m := 0) rfl ?_
  show gL X 60 (d + 2) 0 [some (.ref 0), some (.int x1)] [] (va_up sc 0 S) rf ar al Post
  refine gl_aload_n hX q_60_0 rfl rfl ?_
  refine gl_iconst hX q_60_1 ci_0 rfl ?_
  refine gl_put hX q_60_2 (qf_126 (by decide)) (qs_0 hr) rfl qk_0 rfl ru rfl ?_
  refine gl_aload_n hX q_60_5 rfl rfl ?_
  refine gl_iload_n hX q_60_6 rfl rfl ?_
  refine gl_iconst hX q_60_7 ci_0 rfl ?_
  refine gl_bipush hX q_60_8 cb_12 rfl ?_
  obtain ⟨ve1, Se1, are1, e1, h⟩ := o_k3 h
  refine gl_callS q_60_10 (qm_247 (by decide)) rfl rfl rfl qx_4 rfl rfl ((rt_4 hX hr hrf) _ _ _ _ _ _ _ _ _ _ _ e1 ?_)
  refine gl_if_ne hX q_60_13 rfl rfl (fun c2 => ?_) (fun c2 => ?_)
  · have h := (if_pos c2).symm.trans h
    refine gl_iconst hX q_60_16 ci_1 rfl ?_
    refine gl_goto hX q_60_17 rfl ?_
    refine gl_iconst hX q_60_21 ci_1 rfl ?_
    obtain ⟨ve3, Se3, are3, e3, h⟩ := o_k3 h
    refine gl_callV hX q_60_22 (qm_306 (by decide)) rfl rfl rfl (qs_0 hr) qx_3 rfl rfl ((rt_3 hX hr hrf) _ _ _ _ _ _ _ _ _ _ e3 ?_)
    refine gl_if_eq hX q_60_25 rfl rfl (fun c4 => ?_) (fun c4 => ?_)
    · have h := (if_pos c4).symm.trans h
      refine gl_aload_n hX q_60_30 rfl rfl ?_
      refine gl_aload_n hX q_60_31 rfl rfl ?_
      refine gl_getA hX q_60_32 (qf_48 (by decide)) (qs_0 hr) rfl qk_30 ((congrFun hrf 30).trans qa_30) rfl ?_
      obtain ⟨Se5, are5, e5, h⟩ := o_k2 h
      refine gl_callV hX q_60_35 (qm_351 (by decide)) rfl rfl rfl (qs_0 hr) qx_55 rfl rfl ((rt_55 hX hr hrf) _ _ _ _ _ (qs_14 hr) _ _ _ _ e5 ?_)
      refine gl_aload_n hX q_60_38 rfl rfl ?_
      refine gl_iload_n hX q_60_39 rfl rfl ?_
      obtain ⟨ve6, Se6, are6, e6, h⟩ := o_k3 h
      refine gl_callV hX q_60_40 (qm_354 (by decide)) rfl rfl rfl (qs_0 hr) qx_50 rfl rfl ((rt_50 hX hr hrf) _ _ _ _ _ _ _ _ _ e6 ?_)
      obtain ⟨c7, h⟩ := o_ck h
      exact gl_ireturn q_60_43 (Or.inr ⟨qr_60, c7⟩) (by cases h; exact hP)
    · have h := (if_neg c4).symm.trans h
      refine gl_iconst hX q_60_28 ci_0 rfl ?_
      exact gl_ireturn q_60_29 (Or.inr ⟨qr_60, Or.inl rfl⟩) (by cases h; exact hP)
  · have h := (if_neg c2).symm.trans h
    refine gl_iconst hX q_60_20 ci_0 rfl ?_
    refine gl_iconst hX q_60_21 ci_1 rfl ?_
    obtain ⟨ve8, Se8, are8, e8, h⟩ := o_k3 h
    refine gl_callV hX q_60_22 (qm_306 (by decide)) rfl rfl rfl (qs_0 hr) qx_3 rfl rfl ((rt_3 hX hr hrf) _ _ _ _ _ _ _ _ _ _ e8 ?_)
    refine gl_if_eq hX q_60_25 rfl rfl (fun c9 => ?_) (fun c9 => ?_)
    · have h := (if_pos c9).symm.trans h
      refine gl_aload_n hX q_60_30 rfl rfl ?_
      refine gl_aload_n hX q_60_31 rfl rfl ?_
      refine gl_getA hX q_60_32 (qf_48 (by decide)) (qs_0 hr) rfl qk_30 ((congrFun hrf 30).trans qa_30) rfl ?_
      obtain ⟨Se10, are10, e10, h⟩ := o_k2 h
      refine gl_callV hX q_60_35 (qm_351 (by decide)) rfl rfl rfl (qs_0 hr) qx_55 rfl rfl ((rt_55 hX hr hrf) _ _ _ _ _ (qs_14 hr) _ _ _ _ e10 ?_)
      refine gl_aload_n hX q_60_38 rfl rfl ?_
      refine gl_iload_n hX q_60_39 rfl rfl ?_
      obtain ⟨ve11, Se11, are11, e11, h⟩ := o_k3 h
      refine gl_callV hX q_60_40 (qm_354 (by decide)) rfl rfl rfl (qs_0 hr) qx_50 rfl rfl ((rt_50 hX hr hrf) _ _ _ _ _ _ _ _ _ e11 ?_)
      obtain ⟨c12, h⟩ := o_ck h
      exact gl_ireturn q_60_43 (Or.inr ⟨qr_60, c12⟩) (by cases h; exact hP)
    · have h := (if_neg c9).symm.trans h
      refine gl_iconst hX q_60_28 ci_0 rfl ?_
      exact gl_ireturn q_60_29 (Or.inr ⟨qr_60, Or.inl rfl⟩) (by cases h; exact hP)
/-- ClickOrdersModel.come(I)I -/
def rT_61 (X : jX) (rf : jRf) (F : Int32 → (Nat → Int32) → jSc → Option (Int32 × (Nat → Int32) × jSc)) (e : Nat) : Prop := ∀ (sc : jSc) (al : jAl) (Post : jPo) (x1 : Int32) (S : (Nat → Int32)) (ar : jSc) (r9 : Int32) (S9 : (Nat → Int32)) (ar9 : jSc), F x1 S ar = some (r9, S9, ar9) → Post (some (.int r9)) (va_up sc 0 S9) rf ar9 al → gW X 61 e 0 (j_av [.ref 0, .int x1]) [] (va_up sc 0 S) rf ar al Post
def rF_61_144 : Nat → Int32 → (Nat → Int32) → jSc → Option (Int32 × (Nat → Int32) × jSc)
  | 0, _, _, _ => none
  | nn + 1, x2, S, ar => (if (10 : Int32) ≤ x2 then some (((S 31) - (1 : Int32)), S, ar) else (if iB (S 31) 41 then (if iB x2 53 then (if iB x2 10 then rF_61_144 nn (x2 + (1 : Int32)) S (j_u2 ar (20 + iN (S 31)) (iN x2) (ar 14 (iN x2))) else none) else none) else none))
set_option maxHeartbeats 4000000 in
theorem rt_61_144 {X : jX} (hX : j_LK (g_n X) (g_L X)) (hr : g_rs X = r_sh) {rf : jRf} (hrf : rf 0 = r_rf) {d : Nat} {sc : jSc} {al : jAl} {Post : jPo} {r9 : Int32} {S9 : (Nat → Int32)} {ar9 : jSc} (hP : Post (some (.int r9)) (va_up sc 0 S9) rf ar9 al) : ∀ (nn : Nat) (x2 : Int32) (S : (Nat → Int32)) (ar : jSc), rF_61_144 nn x2 S ar = some (r9, S9, ar9) → gL X 61 (d + 127) 144 [some (.ref 0), none, some (.int x2)] [] (va_up sc 0 S) rf ar al Post := by
  intro nn
  induction nn with
  | zero =>
    intro x2 S ar h
    have h : (none : Option (Int32 × (Nat → Int32) × jSc)) = some _ := h
    cases h
  | succ nn ih =>
    intro x2 S ar h
    unfold rF_61_144 at h
    refine gl_iload_n hX q_61_144 rfl rfl ?_
    refine gl_bipush hX q_61_145 cb_10 rfl ?_
    refine gl_ic_ge hX q_61_147 rfl rfl (fun c1 => ?_) (fun c1 => ?_)
    · have h := (if_pos c1).symm.trans h
      refine gl_aload_n hX q_61_173 rfl rfl ?_
      refine gl_get hX q_61_174 (qf_341 (by decide)) (qs_0 hr) rfl qk_31 rfl rfl ?_
      refine gl_iconst hX q_61_177 ci_1 rfl ?_
      refine gl_isub hX q_61_178 rfl ?_
      exact gl_ireturn q_61_179 (Or.inl qr_61) (by cases h; exact hP)
    · have h := (if_neg c1).symm.trans h
      refine gl_aload_n hX q_61_150 rfl rfl ?_
      refine gl_getA hX q_61_151 (qf_63 (by decide)) (qs_0 hr) rfl qk_36 ((congrFun hrf 36).trans qa_36) rfl ?_
      refine gl_aload_n hX q_61_154 rfl rfl ?_
      refine gl_get hX q_61_155 (qf_341 (by decide)) (qs_0 hr) rfl qk_31 rfl rfl ?_
      obtain ⟨c2, h⟩ := o_ck h
      refine gl_aaload hX q_61_158 (qs_19 hr) c2 (Or.inr ⟨Or.inl rfl, qs_0 hr⟩) (qo_19 (iB_lt c2)) rfl ?_
      refine gl_iload_n hX q_61_159 rfl rfl ?_
      refine gl_aload_n hX q_61_160 rfl rfl ?_
      refine gl_getA hX q_61_161 (qf_48 (by decide)) (qs_0 hr) rfl qk_30 ((congrFun hrf 30).trans qa_30) rfl ?_
      refine gl_iload_n hX q_61_164 rfl rfl ?_
      obtain ⟨c3, h⟩ := o_ck h
      refine gl_iaload hX q_61_165 (qs_14 hr) c3 rfl rfl ?_
      obtain ⟨c4, h⟩ := o_ck h
      refine gl_iastore (ar2 := (j_u2 ar (20 + iN (S 31)) (iN x2) (ar 14 (iN x2)))) hX q_61_166 (qs_states hr (iB_lt c2)) c4 rfl rfl ?_
      refine gl_iinc (vs2 := [some (.ref 0), none, some (.int (x2 + (1 : Int32)))]) hX q_61_167 rfl rfl rfl ci_1 rfl rfl ?_
      refine gl_goto hX q_61_170 rfl ?_
      exact gl_weak (vs := [some (.ref 0), none, some (.int (x2 + (1 : Int32)))]) ⟨rfl, rfl, trivial⟩ (ih (x2 + (1 : Int32)) S (j_u2 ar (20 + iN (S 31)) (iN x2) (ar 14 (iN x2))) h)
def rF_61_21 (x1 : Int32) (y0 : Int32) (S : (Nat → Int32)) (ar : jSc) : Option (Int32 × (Nat → Int32) × jSc) :=
  (o_b3 (rF_3 y0 (1 : Int32) S ar) (fun ve5 Se5 are5 => (if ve5 = 0 then (o_b2 (rF_55 14 53 Se5 are5) (fun Se7 are7 => (o_b3 (rF_50 x1 Se7 are7) (fun ve8 Se8 are8 => (if ve8 = 0 then some ((-1 : Int32), Se8, are8) else (if (Se8 31) = (40 : Int32) then some ((-2 : Int32), Se8, are8) else (o_b3 (rF_52 x1 (Se8 31) (upd (upd Se8 16 (0 : Int32)) 29 (-1 : Int32)) are8) (fun ve11 Se11 are11 => (if iB (Se8 31) 40 then (if iB (Se11 31) 40 then (if iB (Se11 31) 40 then (if iB (Se11 31) 40 then (o_b2 (rF_56 14 53 Se11 (j_u2 (j_u2 (j_u2 (j_u2 are11 16 (iN (Se8 31)) ve11) 15 (iN (Se11 31)) x1) 17 (iN (Se11 31)) (Se11 27)) 18 (iN (Se11 31)) (Se11 28))) (fun Se16 are16 => rF_61_144 oF (0 : Int32) (upd Se16 31 ((Se16 31) + (1 : Int32))) are16)) else none) else none) else none) else none))))))))) else some ((0 : Int32), Se5, are5))))
set_option maxHeartbeats 4000000 in
theorem rt_61_21 {X : jX} (hX : j_LK (g_n X) (g_L X)) (hr : g_rs X = r_sh) {rf : jRf} (hrf : rf 0 = r_rf) {d : Nat} {sc : jSc} {al : jAl} {Post : jPo} {r9 : Int32} {S9 : (Nat → Int32)} {ar9 : jSc} (hP : Post (some (.int r9)) (va_up sc 0 S9) rf ar9 al) (x1 : Int32) (y0 : Int32) (S : (Nat → Int32)) (ar : jSc) (h : rF_61_21 x1 y0 S ar = some (r9, S9, ar9)) : gL X 61 (d + 127) 21 [some (.ref 0), some (.int x1), none] [.int y0, .ref 0] (va_up sc 0 S) rf ar al Post := by
  unfold rF_61_21 at h
  refine gl_iconst hX q_61_21 ci_1 rfl ?_
  obtain ⟨ve5, Se5, are5, e5, h⟩ := o_k3 h
  refine gl_callV hX q_61_22 (qm_306 (by decide)) rfl rfl rfl (qs_0 hr) qx_3 rfl rfl ((rt_3 hX hr hrf) _ _ _ _ _ _ _ _ _ _ e5 ?_)
  refine gl_if_eq hX q_61_25 rfl rfl (fun c6 => ?_) (fun c6 => ?_)
  · have h := (if_pos c6).symm.trans h
    refine gl_aload_n hX q_61_30 rfl rfl ?_
    refine gl_aload_n hX q_61_31 rfl rfl ?_
    refine gl_getA hX q_61_32 (qf_48 (by decide)) (qs_0 hr) rfl qk_30 ((congrFun hrf 30).trans qa_30) rfl ?_
    obtain ⟨Se7, are7, e7, h⟩ := o_k2 h
    refine gl_callV hX q_61_35 (qm_351 (by decide)) rfl rfl rfl (qs_0 hr) qx_55 rfl rfl ((rt_55 hX hr hrf) _ _ _ _ _ (qs_14 hr) _ _ _ _ e7 ?_)
    refine gl_aload_n hX q_61_38 rfl rfl ?_
    refine gl_iload_n hX q_61_39 rfl rfl ?_
    obtain ⟨ve8, Se8, are8, e8, h⟩ := o_k3 h
    refine gl_callV hX q_61_40 (qm_354 (by decide)) rfl rfl rfl (qs_0 hr) qx_50 rfl rfl ((rt_50 hX hr hrf) _ _ _ _ _ _ _ _ _ e8 ?_)
    refine gl_if_ne hX q_61_43 rfl rfl (fun c9 => ?_) (fun c9 => ?_)
    · have h := (if_pos c9).symm.trans h
      refine gl_iconst hX q_61_46 ci_m1 rfl ?_
      exact gl_ireturn q_61_47 (Or.inl qr_61) (by cases h; exact hP)
    · have h := (if_neg c9).symm.trans h
      refine gl_aload_n hX q_61_48 rfl rfl ?_
      refine gl_get hX q_61_49 (qf_341 (by decide)) (qs_0 hr) rfl qk_31 rfl rfl ?_
      refine gl_bipush hX q_61_52 cb_40 rfl ?_
      refine gl_ic_ne hX q_61_54 rfl rfl (fun c10 => ?_) (fun c10 => ?_)
      · have h := (if_pos c10).symm.trans h
        refine gl_bipush hX q_61_57 cb_m2 rfl ?_
        exact gl_ireturn q_61_59 (Or.inl qr_61) (by cases h; exact hP)
      · have h := (if_neg c10).symm.trans h
        refine gl_aload_n hX q_61_60 rfl rfl ?_
        refine gl_iconst hX q_61_61 ci_0 rfl ?_
        refine gl_put hX q_61_62 (qf_316 (by decide)) (qs_0 hr) rfl qk_16 rfl ru rfl ?_
        refine gl_aload_n hX q_61_65 rfl rfl ?_
        refine gl_iconst hX q_61_66 ci_m1 rfl ?_
        refine gl_put hX q_61_67 (qf_45 (by decide)) (qs_0 hr) rfl qk_29 rfl ru rfl ?_
        refine gl_aload_n hX q_61_70 rfl rfl ?_
        refine gl_getA hX q_61_71 (qf_54 (by decide)) (qs_0 hr) rfl qk_33 ((congrFun hrf 33).trans qa_33) rfl ?_
        refine gl_aload_n hX q_61_74 rfl rfl ?_
        refine gl_get hX q_61_75 (qf_341 (by decide)) (qs_0 hr) rfl qk_31 rfl rfl ?_
        refine gl_aload_n hX q_61_78 rfl rfl ?_
        refine gl_iload_n hX q_61_79 rfl rfl ?_
        refine gl_aload_n hX q_61_80 rfl rfl ?_
        refine gl_get hX q_61_81 (qf_341 (by decide)) (qs_0 hr) rfl qk_31 rfl rfl ?_
        obtain ⟨ve11, Se11, are11, e11, h⟩ := o_k3 h
        refine gl_callV hX q_61_84 (qm_357 (by decide)) rfl rfl rfl (qs_0 hr) qx_52 rfl rfl ((rt_52 hX hr hrf) _ _ _ _ _ _ _ _ _ _ e11 ?_)
        obtain ⟨c12, h⟩ := o_ck h
        refine gl_iastore (ar2 := (j_u2 are11 16 (iN (Se8 31)) ve11)) hX q_61_87 (qs_16 hr) c12 rfl rfl ?_
        refine gl_aload_n hX q_61_88 rfl rfl ?_
        refine gl_getA hX q_61_89 (qf_51 (by decide)) (qs_0 hr) rfl qk_32 ((congrFun hrf 32).trans qa_32) rfl ?_
        refine gl_aload_n hX q_61_92 rfl rfl ?_
        refine gl_get hX q_61_93 (qf_341 (by decide)) (qs_0 hr) rfl qk_31 rfl rfl ?_
        refine gl_iload_n hX q_61_96 rfl rfl ?_
        obtain ⟨c13, h⟩ := o_ck h
        refine gl_iastore (ar2 := (j_u2 (j_u2 are11 16 (iN (Se8 31)) ve11) 15 (iN (Se11 31)) x1)) hX q_61_97 (qs_15 hr) c13 rfl rfl ?_
        refine gl_aload_n hX q_61_98 rfl rfl ?_
        refine gl_getA hX q_61_99 (qf_57 (by decide)) (qs_0 hr) rfl qk_34 ((congrFun hrf 34).trans qa_34) rfl ?_
        refine gl_aload_n hX q_61_102 rfl rfl ?_
        refine gl_get hX q_61_103 (qf_341 (by decide)) (qs_0 hr) rfl qk_31 rfl rfl ?_
        refine gl_aload_n hX q_61_106 rfl rfl ?_
        refine gl_get hX q_61_107 (qf_187 (by decide)) (qs_0 hr) rfl qk_27 rfl rfl ?_
        obtain ⟨c14, h⟩ := o_ck h
        refine gl_iastore (ar2 := (j_u2 (j_u2 (j_u2 are11 16 (iN (Se8 31)) ve11) 15 (iN (Se11 31)) x1) 17 (iN (Se11 31)) (Se11 27))) hX q_61_110 (qs_17 hr) c14 rfl rfl ?_
        refine gl_aload_n hX q_61_111 rfl rfl ?_
        refine gl_getA hX q_61_112 (qf_60 (by decide)) (qs_0 hr) rfl qk_35 ((congrFun hrf 35).trans qa_35) rfl ?_
        refine gl_aload_n hX q_61_115 rfl rfl ?_
        refine gl_get hX q_61_116 (qf_341 (by decide)) (qs_0 hr) rfl qk_31 rfl rfl ?_
        refine gl_aload_n hX q_61_119 rfl rfl ?_
        refine gl_get hX q_61_120 (qf_275 (by decide)) (qs_0 hr) rfl qk_28 rfl rfl ?_
        obtain ⟨c15, h⟩ := o_ck h
        refine gl_iastore (ar2 := (j_u2 (j_u2 (j_u2 (j_u2 are11 16 (iN (Se8 31)) ve11) 15 (iN (Se11 31)) x1) 17 (iN (Se11 31)) (Se11 27)) 18 (iN (Se11 31)) (Se11 28))) hX q_61_123 (qs_18 hr) c15 rfl rfl ?_
        refine gl_aload_n hX q_61_124 rfl rfl ?_
        refine gl_aload_n hX q_61_125 rfl rfl ?_
        refine gl_getA hX q_61_126 (qf_48 (by decide)) (qs_0 hr) rfl qk_30 ((congrFun hrf 30).trans qa_30) rfl ?_
        obtain ⟨Se16, are16, e16, h⟩ := o_k2 h
        refine gl_callV hX q_61_129 (qm_347 (by decide)) rfl rfl rfl (qs_0 hr) qx_56 rfl rfl ((rt_56 hX hr hrf) _ _ _ _ _ (qs_14 hr) _ _ _ _ e16 ?_)
        refine gl_aload_n hX q_61_132 rfl rfl ?_
        refine gl_dup hX q_61_133 rfl rfl ?_
        refine gl_get hX q_61_134 (qf_341 (by decide)) (qs_0 hr) rfl qk_31 rfl rfl ?_
        refine gl_iconst hX q_61_137 ci_1 rfl ?_
        refine gl_iadd hX q_61_138 rfl ?_
        refine gl_put hX q_61_139 (qf_341 (by decide)) (qs_0 hr) rfl qk_31 rfl ru rfl ?_
        refine gl_iconst hX q_61_142 ci_0 rfl ?_
        refine gl_istore_n (vs2 := [some (.ref 0), some (.int x1), some (.int (0 : Int32))]) hX q_61_143 rfl rfl rfl rfl ?_
        exact gl_weak (vs := [some (.ref 0), none, some (.int (0 : Int32))]) ⟨rfl, rfl, trivial⟩ (rt_61_144 hX hr hrf hP oF (0 : Int32) (upd Se16 31 ((Se16 31) + (1 : Int32))) are16 h)
  · have h := (if_neg c6).symm.trans h
    refine gl_iconst hX q_61_28 ci_0 rfl ?_
    exact gl_ireturn q_61_29 (Or.inl qr_61) (by cases h; exact hP)
def rF_61 (x1 : Int32) (S : (Nat → Int32)) (ar : jSc) : Option (Int32 × (Nat → Int32) × jSc) :=
  (o_b3 (rF_4 x1 (0 : Int32) (12 : Int32) (upd S 0 (0 : Int32)) ar) (fun ve17 Se17 are17 => (if ve17 = 0 then rF_61_21 x1 (1 : Int32) Se17 are17 else rF_61_21 x1 (0 : Int32) Se17 are17)))
set_option maxHeartbeats 4000000 in
theorem rt_61 {X : jX} (hX : j_LK (g_n X) (g_L X)) (hr : g_rs X = r_sh) {rf : jRf} (hrf : rf 0 = r_rf) {d : Nat} : rT_61 X rf rF_61 (d + 127) := by
  intro sc al Post x1 S ar r9 S9 ar9 h hP
  unfold rF_61 at h
  refine gl_entry (m := 1) rfl ?_
  show gL X 61 (d + 127) 0 [some (.ref 0), some (.int x1), none] [] (va_up sc 0 S) rf ar al Post
  refine gl_aload_n hX q_61_0 rfl rfl ?_
  refine gl_iconst hX q_61_1 ci_0 rfl ?_
  refine gl_put hX q_61_2 (qf_126 (by decide)) (qs_0 hr) rfl qk_0 rfl ru rfl ?_
  refine gl_aload_n hX q_61_5 rfl rfl ?_
  refine gl_iload_n hX q_61_6 rfl rfl ?_
  refine gl_iconst hX q_61_7 ci_0 rfl ?_
  refine gl_bipush hX q_61_8 cb_12 rfl ?_
  obtain ⟨ve17, Se17, are17, e17, h⟩ := o_k3 h
  refine gl_callS q_61_10 (qm_247 (by decide)) rfl rfl rfl qx_4 rfl rfl ((rt_4 hX hr hrf) _ _ _ _ _ _ _ _ _ _ _ e17 ?_)
  refine gl_if_ne hX q_61_13 rfl rfl (fun c18 => ?_) (fun c18 => ?_)
  · have h := (if_pos c18).symm.trans h
    refine gl_iconst hX q_61_16 ci_1 rfl ?_
    refine gl_goto hX q_61_17 rfl ?_
    exact gl_weak (vs := [some (.ref 0), some (.int x1), none]) ⟨rfl, rfl, trivial⟩ (rt_61_21 hX hr hrf hP x1 (1 : Int32) Se17 are17 h)
  · have h := (if_neg c18).symm.trans h
    refine gl_iconst hX q_61_20 ci_0 rfl ?_
    exact gl_weak (vs := [some (.ref 0), some (.int x1), none]) ⟨rfl, rfl, trivial⟩ (rt_61_21 hX hr hrf hP x1 (0 : Int32) Se17 are17 h)
/-- ClickOrdersModel.name(I)I -/
def rT_62 (X : jX) (rf : jRf) (F : Int32 → (Nat → Int32) → jSc → Option (Int32 × (Nat → Int32) × jSc)) (e : Nat) : Prop := ∀ (sc : jSc) (al : jAl) (Post : jPo) (x1 : Int32) (S : (Nat → Int32)) (ar : jSc) (r9 : Int32) (S9 : (Nat → Int32)) (ar9 : jSc), F x1 S ar = some (r9, S9, ar9) → Post (some (.int r9)) (va_up sc 0 S9) rf ar9 al → gW X 62 e 0 (j_av [.ref 0, .int x1]) [] (va_up sc 0 S) rf ar al Post
def rF_62 (x1 : Int32) (S : (Nat → Int32)) (ar : jSc) : Option (Int32 × (Nat → Int32) × jSc) :=
  (o_b3 (rF_4 x1 (0 : Int32) (7 : Int32) (upd S 0 (0 : Int32)) ar) (fun ve1 Se1 are1 => (if ve1 = 0 then (o_b3 (rF_3 (1 : Int32) (1 : Int32) Se1 are1) (fun ve3 Se3 are3 => (if ve3 = 0 then (if iB x1 53 then some ((are3 14 (iN x1)), Se3, are3) else none) else some ((0 : Int32), Se3, are3)))) else (o_b3 (rF_3 (0 : Int32) (1 : Int32) Se1 are1) (fun ve6 Se6 are6 => (if ve6 = 0 then (if iB x1 53 then some ((are6 14 (iN x1)), Se6, are6) else none) else some ((0 : Int32), Se6, are6)))))))
set_option maxHeartbeats 4000000 in
theorem rt_62 {X : jX} (hX : j_LK (g_n X) (g_L X)) (hr : g_rs X = r_sh) {rf : jRf} (hrf : rf 0 = r_rf) {d : Nat} : rT_62 X rf rF_62 (d + 2) := by
  intro sc al Post x1 S ar r9 S9 ar9 h hP
  unfold rF_62 at h
  refine gl_entry (m := 0) rfl ?_
  show gL X 62 (d + 2) 0 [some (.ref 0), some (.int x1)] [] (va_up sc 0 S) rf ar al Post
  refine gl_aload_n hX q_62_0 rfl rfl ?_
  refine gl_iconst hX q_62_1 ci_0 rfl ?_
  refine gl_put hX q_62_2 (qf_126 (by decide)) (qs_0 hr) rfl qk_0 rfl ru rfl ?_
  refine gl_aload_n hX q_62_5 rfl rfl ?_
  refine gl_iload_n hX q_62_6 rfl rfl ?_
  refine gl_iconst hX q_62_7 ci_0 rfl ?_
  refine gl_bipush hX q_62_8 cb_7 rfl ?_
  obtain ⟨ve1, Se1, are1, e1, h⟩ := o_k3 h
  refine gl_callS q_62_10 (qm_247 (by decide)) rfl rfl rfl qx_4 rfl rfl ((rt_4 hX hr hrf) _ _ _ _ _ _ _ _ _ _ _ e1 ?_)
  refine gl_if_ne hX q_62_13 rfl rfl (fun c2 => ?_) (fun c2 => ?_)
  · have h := (if_pos c2).symm.trans h
    refine gl_iconst hX q_62_16 ci_1 rfl ?_
    refine gl_goto hX q_62_17 rfl ?_
    refine gl_iconst hX q_62_21 ci_1 rfl ?_
    obtain ⟨ve3, Se3, are3, e3, h⟩ := o_k3 h
    refine gl_callV hX q_62_22 (qm_306 (by decide)) rfl rfl rfl (qs_0 hr) qx_3 rfl rfl ((rt_3 hX hr hrf) _ _ _ _ _ _ _ _ _ _ e3 ?_)
    refine gl_if_eq hX q_62_25 rfl rfl (fun c4 => ?_) (fun c4 => ?_)
    · have h := (if_pos c4).symm.trans h
      refine gl_aload_n hX q_62_30 rfl rfl ?_
      refine gl_getA hX q_62_31 (qf_48 (by decide)) (qs_0 hr) rfl qk_30 ((congrFun hrf 30).trans qa_30) rfl ?_
      refine gl_iload_n hX q_62_34 rfl rfl ?_
      obtain ⟨c5, h⟩ := o_ck h
      refine gl_iaload hX q_62_35 (qs_14 hr) c5 rfl rfl ?_
      exact gl_ireturn q_62_36 (Or.inl qr_62) (by cases h; exact hP)
    · have h := (if_neg c4).symm.trans h
      refine gl_iconst hX q_62_28 ci_0 rfl ?_
      exact gl_ireturn q_62_29 (Or.inl qr_62) (by cases h; exact hP)
  · have h := (if_neg c2).symm.trans h
    refine gl_iconst hX q_62_20 ci_0 rfl ?_
    refine gl_iconst hX q_62_21 ci_1 rfl ?_
    obtain ⟨ve6, Se6, are6, e6, h⟩ := o_k3 h
    refine gl_callV hX q_62_22 (qm_306 (by decide)) rfl rfl rfl (qs_0 hr) qx_3 rfl rfl ((rt_3 hX hr hrf) _ _ _ _ _ _ _ _ _ _ e6 ?_)
    refine gl_if_eq hX q_62_25 rfl rfl (fun c7 => ?_) (fun c7 => ?_)
    · have h := (if_pos c7).symm.trans h
      refine gl_aload_n hX q_62_30 rfl rfl ?_
      refine gl_getA hX q_62_31 (qf_48 (by decide)) (qs_0 hr) rfl qk_30 ((congrFun hrf 30).trans qa_30) rfl ?_
      refine gl_iload_n hX q_62_34 rfl rfl ?_
      obtain ⟨c8, h⟩ := o_ck h
      refine gl_iaload hX q_62_35 (qs_14 hr) c8 rfl rfl ?_
      exact gl_ireturn q_62_36 (Or.inl qr_62) (by cases h; exact hP)
    · have h := (if_neg c7).symm.trans h
      refine gl_iconst hX q_62_28 ci_0 rfl ?_
      exact gl_ireturn q_62_29 (Or.inl qr_62) (by cases h; exact hP)
/-- ClickOrdersModel.thing(I)I -/
def rT_63 (X : jX) (rf : jRf) (F : Int32 → (Nat → Int32) → jSc → Option (Int32 × (Nat → Int32) × jSc)) (e : Nat) : Prop := ∀ (sc : jSc) (al : jAl) (Post : jPo) (x1 : Int32) (S : (Nat → Int32)) (ar : jSc) (r9 : Int32) (S9 : (Nat → Int32)) (ar9 : jSc), F x1 S ar = some (r9, S9, ar9) → Post (some (.int r9)) (va_up sc 0 S9) rf ar9 al → gW X 63 e 0 (j_av [.ref 0, .int x1]) [] (va_up sc 0 S) rf ar al Post
def rF_63_21 (x1 : Int32) (y0 : Int32) (S : (Nat → Int32)) (ar : jSc) : Option (Int32 × (Nat → Int32) × jSc) :=
  (o_b3 (rF_3 y0 (1 : Int32) S ar) (fun ve1 Se1 are1 => (if ve1 = 0 then some (((((are1 14 8) >>> (x1 &&& 31)) &&& (1 : Int32)) + ((2 : Int32) * (((are1 14 9) >>> (x1 &&& 31)) &&& (1 : Int32)))), Se1, are1) else some ((0 : Int32), Se1, are1))))
set_option maxHeartbeats 4000000 in
theorem rt_63_21 {X : jX} (hX : j_LK (g_n X) (g_L X)) (hr : g_rs X = r_sh) {rf : jRf} (hrf : rf 0 = r_rf) {d : Nat} {sc : jSc} {al : jAl} {Post : jPo} {r9 : Int32} {S9 : (Nat → Int32)} {ar9 : jSc} (hP : Post (some (.int r9)) (va_up sc 0 S9) rf ar9 al) (x1 : Int32) (y0 : Int32) (S : (Nat → Int32)) (ar : jSc) (h : rF_63_21 x1 y0 S ar = some (r9, S9, ar9)) : gL X 63 (d + 2) 21 [some (.ref 0), some (.int x1)] [.int y0, .ref 0] (va_up sc 0 S) rf ar al Post := by
  unfold rF_63_21 at h
  refine gl_iconst hX q_63_21 ci_1 rfl ?_
  obtain ⟨ve1, Se1, are1, e1, h⟩ := o_k3 h
  refine gl_callV hX q_63_22 (qm_306 (by decide)) rfl rfl rfl (qs_0 hr) qx_3 rfl rfl ((rt_3 hX hr hrf) _ _ _ _ _ _ _ _ _ _ e1 ?_)
  refine gl_if_eq hX q_63_25 rfl rfl (fun c2 => ?_) (fun c2 => ?_)
  · have h := (if_pos c2).symm.trans h
    refine gl_aload_n hX q_63_30 rfl rfl ?_
    refine gl_getA hX q_63_31 (qf_48 (by decide)) (qs_0 hr) rfl qk_30 ((congrFun hrf 30).trans qa_30) rfl ?_
    refine gl_bipush hX q_63_34 cb_8 rfl ?_
    refine gl_iaload hX q_63_36 (qs_14 hr) (by decide) rfl rfl ?_
    refine gl_iload_n hX q_63_37 rfl rfl ?_
    refine gl_ishr hX q_63_38 rfl ?_
    refine gl_iconst hX q_63_39 ci_1 rfl ?_
    refine gl_iand hX q_63_40 rfl ?_
    refine gl_iconst hX q_63_41 ci_2 rfl ?_
    refine gl_aload_n hX q_63_42 rfl rfl ?_
    refine gl_getA hX q_63_43 (qf_48 (by decide)) (qs_0 hr) rfl qk_30 ((congrFun hrf 30).trans qa_30) rfl ?_
    refine gl_bipush hX q_63_46 cb_9 rfl ?_
    refine gl_iaload hX q_63_48 (qs_14 hr) (by decide) rfl rfl ?_
    refine gl_iload_n hX q_63_49 rfl rfl ?_
    refine gl_ishr hX q_63_50 rfl ?_
    refine gl_iconst hX q_63_51 ci_1 rfl ?_
    refine gl_iand hX q_63_52 rfl ?_
    refine gl_imul hX q_63_53 rfl ?_
    refine gl_iadd hX q_63_54 rfl ?_
    exact gl_ireturn q_63_55 (Or.inl qr_63) (by cases h; exact hP)
  · have h := (if_neg c2).symm.trans h
    refine gl_iconst hX q_63_28 ci_0 rfl ?_
    exact gl_ireturn q_63_29 (Or.inl qr_63) (by cases h; exact hP)
def rF_63 (x1 : Int32) (S : (Nat → Int32)) (ar : jSc) : Option (Int32 × (Nat → Int32) × jSc) :=
  (o_b3 (rF_4 x1 (0 : Int32) (7 : Int32) (upd S 0 (0 : Int32)) ar) (fun ve3 Se3 are3 => (if ve3 = 0 then rF_63_21 x1 (1 : Int32) Se3 are3 else rF_63_21 x1 (0 : Int32) Se3 are3)))
set_option maxHeartbeats 4000000 in
theorem rt_63 {X : jX} (hX : j_LK (g_n X) (g_L X)) (hr : g_rs X = r_sh) {rf : jRf} (hrf : rf 0 = r_rf) {d : Nat} : rT_63 X rf rF_63 (d + 2) := by
  intro sc al Post x1 S ar r9 S9 ar9 h hP
  unfold rF_63 at h
  refine gl_entry (m := 0) rfl ?_
  show gL X 63 (d + 2) 0 [some (.ref 0), some (.int x1)] [] (va_up sc 0 S) rf ar al Post
  refine gl_aload_n hX q_63_0 rfl rfl ?_
  refine gl_iconst hX q_63_1 ci_0 rfl ?_
  refine gl_put hX q_63_2 (qf_126 (by decide)) (qs_0 hr) rfl qk_0 rfl ru rfl ?_
  refine gl_aload_n hX q_63_5 rfl rfl ?_
  refine gl_iload_n hX q_63_6 rfl rfl ?_
  refine gl_iconst hX q_63_7 ci_0 rfl ?_
  refine gl_bipush hX q_63_8 cb_7 rfl ?_
  obtain ⟨ve3, Se3, are3, e3, h⟩ := o_k3 h
  refine gl_callS q_63_10 (qm_247 (by decide)) rfl rfl rfl qx_4 rfl rfl ((rt_4 hX hr hrf) _ _ _ _ _ _ _ _ _ _ _ e3 ?_)
  refine gl_if_ne hX q_63_13 rfl rfl (fun c4 => ?_) (fun c4 => ?_)
  · have h := (if_pos c4).symm.trans h
    refine gl_iconst hX q_63_16 ci_1 rfl ?_
    refine gl_goto hX q_63_17 rfl ?_
    exact gl_weak (vs := [some (.ref 0), some (.int x1)]) ⟨rfl, rfl, trivial⟩ (rt_63_21 hX hr hrf hP x1 (1 : Int32) Se3 are3 h)
  · have h := (if_neg c4).symm.trans h
    refine gl_iconst hX q_63_20 ci_0 rfl ?_
    exact gl_weak (vs := [some (.ref 0), some (.int x1)]) ⟨rfl, rfl, trivial⟩ (rt_63_21 hX hr hrf hP x1 (0 : Int32) Se3 are3 h)
