/-! THE REFERENCE: its methods as functions, and that the machine does what they say. -/
/-- ClickOrdersModel.thrown()I -/
def rT_2 (X : jX) (rf : jRf) (F : (Nat → Int32) → jSc → Option (Int32 × (Nat → Int32) × jSc)) (e : Nat) : Prop := ∀ (sc : jSc) (al : jAl) (Post : jPo) (S : (Nat → Int32)) (ar : jSc) (r9 : Int32) (S9 : (Nat → Int32)) (ar9 : jSc), F S ar = some (r9, S9, ar9) → Post (some (.int r9)) (va_up sc 0 S9) rf ar9 al → gW X 2 e 0 (j_av [.ref 0]) [] (va_up sc 0 S) rf ar al Post
def rF_2 (S : (Nat → Int32)) (ar : jSc) : Option (Int32 × (Nat → Int32) × jSc) :=
  some ((S 0), S, ar)
set_option maxHeartbeats 4000000 in
theorem rt_2 {X : jX} (hX : j_LK (g_n X) (g_L X)) (hr : g_rs X = r_sh) {rf : jRf} (hrf : rf 0 = r_rf) {d : Nat} : rT_2 X rf rF_2 (d + 1) := by
  intro sc al Post  S ar r9 S9 ar9 h hP
  unfold rF_2 at h
  refine gl_entry (m := 0) rfl ?_
  show gL X 2 (d + 1) 0 [some (.ref 0)] [] (va_up sc 0 S) rf ar al Post
  refine gl_aload_n hX q_2_0 rfl rfl ?_
  refine gl_get hX q_2_1 (qf_126 (by decide)) (qs_0 hr) rfl qk_0 rfl rfl ?_
  exact gl_ireturn q_2_4 (Or.inl qr_2) (by cases h; exact hP)
/-- ClickOrdersModel.bad(ZI)Z -/
def rT_3 (X : jX) (rf : jRf) (F : Int32 → Int32 → (Nat → Int32) → jSc → Option (Int32 × (Nat → Int32) × jSc)) (e : Nat) : Prop := ∀ (sc : jSc) (al : jAl) (Post : jPo) (x1 : Int32) (x2 : Int32) (S : (Nat → Int32)) (ar : jSc) (r9 : Int32) (S9 : (Nat → Int32)) (ar9 : jSc), F x1 x2 S ar = some (r9, S9, ar9) → Post (some (.int r9)) (va_up sc 0 S9) rf ar9 al → gW X 3 e 0 (j_av [.ref 0, .int x1, .int x2]) [] (va_up sc 0 S) rf ar al Post
def rF_3 (x1 : Int32) (x2 : Int32) (S : (Nat → Int32)) (ar : jSc) : Option (Int32 × (Nat → Int32) × jSc) :=
  (if x1 = 0 then (if (S 0) = 0 then some ((0 : Int32), S, ar) else some ((1 : Int32), S, ar)) else (if (S 0) = 0 then (if x2 = 0 then some ((0 : Int32), (upd S 0 x2), ar) else some ((1 : Int32), (upd S 0 x2), ar)) else (if (S 0) = 0 then some ((0 : Int32), S, ar) else some ((1 : Int32), S, ar))))
set_option maxHeartbeats 4000000 in
theorem rt_3 {X : jX} (hX : j_LK (g_n X) (g_L X)) (hr : g_rs X = r_sh) {rf : jRf} (hrf : rf 0 = r_rf) {d : Nat} : rT_3 X rf rF_3 (d + 1) := by
  intro sc al Post x1 x2 S ar r9 S9 ar9 h hP
  unfold rF_3 at h
  refine gl_entry (m := 0) rfl ?_
  show gL X 3 (d + 1) 0 [some (.ref 0), some (.int x1), some (.int x2)] [] (va_up sc 0 S) rf ar al Post
  refine gl_iload_n hX q_3_0 rfl rfl ?_
  refine gl_if_eq hX q_3_1 rfl rfl (fun c1 => ?_) (fun c1 => ?_)
  · have h := (if_pos c1).symm.trans h
    refine gl_aload_n hX q_3_16 rfl rfl ?_
    refine gl_get hX q_3_17 (qf_126 (by decide)) (qs_0 hr) rfl qk_0 rfl rfl ?_
    refine gl_if_eq hX q_3_20 rfl rfl (fun c2 => ?_) (fun c2 => ?_)
    · have h := (if_pos c2).symm.trans h
      refine gl_iconst hX q_3_27 ci_0 rfl ?_
      exact gl_ireturn q_3_28 (Or.inr ⟨qr_3, Or.inl rfl⟩) (by cases h; exact hP)
    · have h := (if_neg c2).symm.trans h
      refine gl_iconst hX q_3_23 ci_1 rfl ?_
      refine gl_goto hX q_3_24 rfl ?_
      exact gl_ireturn q_3_28 (Or.inr ⟨qr_3, Or.inr rfl⟩) (by cases h; exact hP)
  · have h := (if_neg c1).symm.trans h
    refine gl_aload_n hX q_3_4 rfl rfl ?_
    refine gl_get hX q_3_5 (qf_126 (by decide)) (qs_0 hr) rfl qk_0 rfl rfl ?_
    refine gl_if_ne hX q_3_8 rfl rfl (fun c3 => ?_) (fun c3 => ?_)
    · have h := (if_pos c3).symm.trans h
      refine gl_aload_n hX q_3_11 rfl rfl ?_
      refine gl_iload_n hX q_3_12 rfl rfl ?_
      refine gl_put hX q_3_13 (qf_126 (by decide)) (qs_0 hr) rfl qk_0 rfl ru rfl ?_
      refine gl_aload_n hX q_3_16 rfl rfl ?_
      refine gl_get hX q_3_17 (qf_126 (by decide)) (qs_0 hr) rfl qk_0 rfl rfl ?_
      refine gl_if_eq hX q_3_20 rfl rfl (fun c4 => ?_) (fun c4 => ?_)
      · have h := (if_pos c4).symm.trans h
        refine gl_iconst hX q_3_27 ci_0 rfl ?_
        exact gl_ireturn q_3_28 (Or.inr ⟨qr_3, Or.inl rfl⟩) (by cases h; exact hP)
      · have h := (if_neg c4).symm.trans h
        refine gl_iconst hX q_3_23 ci_1 rfl ?_
        refine gl_goto hX q_3_24 rfl ?_
        exact gl_ireturn q_3_28 (Or.inr ⟨qr_3, Or.inr rfl⟩) (by cases h; exact hP)
    · have h := (if_neg c3).symm.trans h
      refine gl_aload_n hX q_3_16 rfl rfl ?_
      refine gl_get hX q_3_17 (qf_126 (by decide)) (qs_0 hr) rfl qk_0 rfl rfl ?_
      refine gl_if_eq hX q_3_20 rfl rfl (fun c5 => ?_) (fun c5 => ?_)
      · have h := (if_pos c5).symm.trans h
        refine gl_iconst hX q_3_27 ci_0 rfl ?_
        exact gl_ireturn q_3_28 (Or.inr ⟨qr_3, Or.inl rfl⟩) (by cases h; exact hP)
      · have h := (if_neg c5).symm.trans h
        refine gl_iconst hX q_3_23 ci_1 rfl ?_
        refine gl_goto hX q_3_24 rfl ?_
        exact gl_ireturn q_3_28 (Or.inr ⟨qr_3, Or.inr rfl⟩) (by cases h; exact hP)
/-- ClickOrdersModel.in(III)Z -/
def rT_4 (X : jX) (rf : jRf) (F : Int32 → Int32 → Int32 → (Nat → Int32) → jSc → Option (Int32 × (Nat → Int32) × jSc)) (e : Nat) : Prop := ∀ (sc : jSc) (al : jAl) (Post : jPo) (x1 : Int32) (x2 : Int32) (x3 : Int32) (S : (Nat → Int32)) (ar : jSc) (r9 : Int32) (S9 : (Nat → Int32)) (ar9 : jSc), F x1 x2 x3 S ar = some (r9, S9, ar9) → Post (some (.int r9)) (va_up sc 0 S9) rf ar9 al → gW X 4 e 0 (j_av [.int x1, .int x2, .int x3]) [] (va_up sc 0 S) rf ar al Post
def rF_4 (x1 : Int32) (x2 : Int32) (x3 : Int32) (S : (Nat → Int32)) (ar : jSc) : Option (Int32 × (Nat → Int32) × jSc) :=
  (if x1 < x2 then some ((0 : Int32), S, ar) else (if x3 < x1 then some ((0 : Int32), S, ar) else some ((1 : Int32), S, ar)))
set_option maxHeartbeats 4000000 in
theorem rt_4 {X : jX} (hX : j_LK (g_n X) (g_L X)) (hr : g_rs X = r_sh) {rf : jRf} (hrf : rf 0 = r_rf) {d : Nat} : rT_4 X rf rF_4 (d + 1) := by
  intro sc al Post x1 x2 x3 S ar r9 S9 ar9 h hP
  unfold rF_4 at h
  refine gl_entry (m := 0) rfl ?_
  show gL X 4 (d + 1) 0 [some (.int x1), some (.int x2), some (.int x3)] [] (va_up sc 0 S) rf ar al Post
  refine gl_iload_n hX q_4_0 rfl rfl ?_
  refine gl_iload_n hX q_4_1 rfl rfl ?_
  refine gl_ic_lt hX q_4_2 rfl rfl (fun c1 => ?_) (fun c1 => ?_)
  · have h := (if_pos c1).symm.trans h
    refine gl_iconst hX q_4_14 ci_0 rfl ?_
    exact gl_ireturn q_4_15 (Or.inr ⟨qr_4, Or.inl rfl⟩) (by cases h; exact hP)
  · have h := (if_neg c1).symm.trans h
    refine gl_iload_n hX q_4_5 rfl rfl ?_
    refine gl_iload_n hX q_4_6 rfl rfl ?_
    refine gl_ic_gt hX q_4_7 rfl rfl (fun c2 => ?_) (fun c2 => ?_)
    · have h := (if_pos c2).symm.trans h
      refine gl_iconst hX q_4_14 ci_0 rfl ?_
      exact gl_ireturn q_4_15 (Or.inr ⟨qr_4, Or.inl rfl⟩) (by cases h; exact hP)
    · have h := (if_neg c2).symm.trans h
      refine gl_iconst hX q_4_10 ci_1 rfl ?_
      refine gl_goto hX q_4_11 rfl ?_
      exact gl_ireturn q_4_15 (Or.inr ⟨qr_4, Or.inr rfl⟩) (by cases h; exact hP)
/-- ClickOrdersModel.feed(IIIII)I -/
def rT_5 (X : jX) (rf : jRf) (F : Int32 → Int32 → Int32 → Int32 → Int32 → (Nat → Int32) → jSc → Option (Int32 × (Nat → Int32) × jSc)) (e : Nat) : Prop := ∀ (sc : jSc) (al : jAl) (Post : jPo) (x1 : Int32) (x2 : Int32) (x3 : Int32) (x4 : Int32) (x5 : Int32) (S : (Nat → Int32)) (ar : jSc) (r9 : Int32) (S9 : (Nat → Int32)) (ar9 : jSc), F x1 x2 x3 x4 x5 S ar = some (r9, S9, ar9) → Post (some (.int r9)) (va_up sc 0 S9) rf ar9 al → gW X 5 e 0 (j_av [.ref 0, .int x1, .int x2, .int x3, .int x4, .int x5]) [] (va_up sc 0 S) rf ar al Post
def rF_5_76 (k23 : Int32 → Int32 → Int32 → Int32 → Int32 → Int32 → (Nat → Int32) → jSc → Option (Int32 × (Nat → Int32) × jSc)) (x1 : Int32) (x2 : Int32) (x3 : Int32) (x4 : Int32) (x5 : Int32) (x6 : Int32) (y0 : Int32) (S : (Nat → Int32)) (ar : jSc) : Option (Int32 × (Nat → Int32) × jSc) :=
  (if iB (S 1) 600 then k23 x1 x2 x3 x4 x5 (x6 + (1 : Int32)) (upd S 1 ((S 1) + (1 : Int32))) (j_u2 ar 1 (iN (S 1)) ((y0 >>> (((24 : Int32) - ((8 : Int32) * (x6 - x6 / (4 : Int32) * (4 : Int32)))) &&& 31)) &&& (255 : Int32))) else none)
set_option maxHeartbeats 4000000 in
theorem rt_5_76 {X : jX} (hX : j_LK (g_n X) (g_L X)) (hr : g_rs X = r_sh) {rf : jRf} (hrf : rf 0 = r_rf) {d : Nat} {sc : jSc} {al : jAl} {Post : jPo} {r9 : Int32} {S9 : (Nat → Int32)} {ar9 : jSc} {k23 : Int32 → Int32 → Int32 → Int32 → Int32 → Int32 → (Nat → Int32) → jSc → Option (Int32 × (Nat → Int32) × jSc)} (hk23 : ∀ (x1 : Int32) (x2 : Int32) (x3 : Int32) (x4 : Int32) (x5 : Int32) (x6 : Int32) (S : (Nat → Int32)) (ar : jSc), k23 x1 x2 x3 x4 x5 x6 S ar = some (r9, S9, ar9) → gL X 5 (d + 1) 23 [some (.ref 0), some (.int x1), some (.int x2), some (.int x3), some (.int x4), some (.int x5), some (.int x6), none] [] (va_up sc 0 S) rf ar al Post) (hP : Post (some (.int r9)) (va_up sc 0 S9) rf ar9 al) (x1 : Int32) (x2 : Int32) (x3 : Int32) (x4 : Int32) (x5 : Int32) (x6 : Int32) (y0 : Int32) (S : (Nat → Int32)) (ar : jSc) (h : rF_5_76 k23 x1 x2 x3 x4 x5 x6 y0 S ar = some (r9, S9, ar9)) : gL X 5 (d + 1) 76 [some (.ref 0), some (.int x1), some (.int x2), some (.int x3), some (.int x4), some (.int x5), some (.int x6), none] [.int y0] (va_up sc 0 S) rf ar al Post := by
  unfold rF_5_76 at h
  refine gl_istore (vs2 := [some (.ref 0), some (.int x1), some (.int x2), some (.int x3), some (.int x4), some (.int x5), some (.int x6), some (.int y0)]) hX q_5_76 rfl rfl rfl rfl ?_
  refine gl_aload_n hX q_5_78 rfl rfl ?_
  refine gl_getA hX q_5_79 (qf_15 (by decide)) (qs_0 hr) rfl qk_9 ((congrFun hrf 9).trans qa_9) rfl ?_
  refine gl_aload_n hX q_5_82 rfl rfl ?_
  refine gl_get hX q_5_83 (qf_129 (by decide)) (qs_0 hr) rfl qk_1 rfl rfl ?_
  refine gl_iload hX q_5_86 rfl rfl ?_
  refine gl_bipush hX q_5_88 cb_24 rfl ?_
  refine gl_bipush hX q_5_90 cb_8 rfl ?_
  refine gl_iload hX q_5_92 rfl rfl ?_
  refine gl_iconst hX q_5_94 ci_4 rfl ?_
  refine gl_irem hX q_5_95 (by decide) rfl ?_
  refine gl_imul hX q_5_96 rfl ?_
  refine gl_isub hX q_5_97 rfl ?_
  refine gl_ishr hX q_5_98 rfl ?_
  refine gl_sipush hX q_5_99 cs_255 rfl ?_
  refine gl_iand hX q_5_102 rfl ?_
  obtain ⟨c1, h⟩ := o_ck h
  refine gl_iastore (ar2 := (j_u2 ar 1 (iN (S 1)) ((y0 >>> (((24 : Int32) - ((8 : Int32) * (x6 - x6 / (4 : Int32) * (4 : Int32)))) &&& 31)) &&& (255 : Int32)))) hX q_5_103 (qs_1 hr) c1 rfl rfl ?_
  refine gl_aload_n hX q_5_104 rfl rfl ?_
  refine gl_dup hX q_5_105 rfl rfl ?_
  refine gl_get hX q_5_106 (qf_129 (by decide)) (qs_0 hr) rfl qk_1 rfl rfl ?_
  refine gl_iconst hX q_5_109 ci_1 rfl ?_
  refine gl_iadd hX q_5_110 rfl ?_
  refine gl_put hX q_5_111 (qf_129 (by decide)) (qs_0 hr) rfl qk_1 rfl ru rfl ?_
  refine gl_iinc (vs2 := [some (.ref 0), some (.int x1), some (.int x2), some (.int x3), some (.int x4), some (.int x5), some (.int (x6 + (1 : Int32))), some (.int y0)]) hX q_5_114 rfl rfl rfl ci_1 rfl rfl ?_
  refine gl_goto hX q_5_117 rfl ?_
  exact gl_weak (vs := [some (.ref 0), some (.int x1), some (.int x2), some (.int x3), some (.int x4), some (.int x5), some (.int (x6 + (1 : Int32))), none]) ⟨rfl, rfl, rfl, rfl, rfl, rfl, rfl, trivial⟩ (hk23 x1 x2 x3 x4 x5 (x6 + (1 : Int32)) (upd S 1 ((S 1) + (1 : Int32))) (j_u2 ar 1 (iN (S 1)) ((y0 >>> (((24 : Int32) - ((8 : Int32) * (x6 - x6 / (4 : Int32) * (4 : Int32)))) &&& 31)) &&& (255 : Int32))) h)
def rF_5_23 : Nat → Int32 → Int32 → Int32 → Int32 → Int32 → Int32 → (Nat → Int32) → jSc → Option (Int32 × (Nat → Int32) × jSc)
  | 0, _, _, _, _, _, _, _, _ => none
  | nn + 1, x1, x2, x3, x4, x5, x6, S, ar => (if (20 : Int32) ≤ x6 then some ((S 1), S, ar) else (if (4 : Int32) ≤ x6 then (if (8 : Int32) ≤ x6 then (if (12 : Int32) ≤ x6 then (if (16 : Int32) ≤ x6 then rF_5_76 (fun x1_ x2_ x3_ x4_ x5_ x6_ S_ ar_ => rF_5_23 nn x1_ x2_ x3_ x4_ x5_ x6_ S_ ar_) x1 x2 x3 x4 x5 x6 x5 S ar else rF_5_76 (fun x1_ x2_ x3_ x4_ x5_ x6_ S_ ar_ => rF_5_23 nn x1_ x2_ x3_ x4_ x5_ x6_ S_ ar_) x1 x2 x3 x4 x5 x6 x4 S ar) else rF_5_76 (fun x1_ x2_ x3_ x4_ x5_ x6_ S_ ar_ => rF_5_23 nn x1_ x2_ x3_ x4_ x5_ x6_ S_ ar_) x1 x2 x3 x4 x5 x6 x3 S ar) else rF_5_76 (fun x1_ x2_ x3_ x4_ x5_ x6_ S_ ar_ => rF_5_23 nn x1_ x2_ x3_ x4_ x5_ x6_ S_ ar_) x1 x2 x3 x4 x5 x6 x2 S ar) else rF_5_76 (fun x1_ x2_ x3_ x4_ x5_ x6_ S_ ar_ => rF_5_23 nn x1_ x2_ x3_ x4_ x5_ x6_ S_ ar_) x1 x2 x3 x4 x5 x6 x1 S ar))
set_option maxHeartbeats 4000000 in
theorem rt_5_23 {X : jX} (hX : j_LK (g_n X) (g_L X)) (hr : g_rs X = r_sh) {rf : jRf} (hrf : rf 0 = r_rf) {d : Nat} {sc : jSc} {al : jAl} {Post : jPo} {r9 : Int32} {S9 : (Nat → Int32)} {ar9 : jSc} (hP : Post (some (.int r9)) (va_up sc 0 S9) rf ar9 al) : ∀ (nn : Nat) (x1 : Int32) (x2 : Int32) (x3 : Int32) (x4 : Int32) (x5 : Int32) (x6 : Int32) (S : (Nat → Int32)) (ar : jSc), rF_5_23 nn x1 x2 x3 x4 x5 x6 S ar = some (r9, S9, ar9) → gL X 5 (d + 1) 23 [some (.ref 0), some (.int x1), some (.int x2), some (.int x3), some (.int x4), some (.int x5), some (.int x6), none] [] (va_up sc 0 S) rf ar al Post := by
  intro nn
  induction nn with
  | zero =>
    intro x1 x2 x3 x4 x5 x6 S ar h
    have h : (none : Option (Int32 × (Nat → Int32) × jSc)) = some _ := h
    cases h
  | succ nn ih =>
    intro x1 x2 x3 x4 x5 x6 S ar h
    unfold rF_5_23 at h
    refine gl_iload hX q_5_23 rfl rfl ?_
    refine gl_bipush hX q_5_25 cb_20 rfl ?_
    refine gl_ic_ge hX q_5_27 rfl rfl (fun c2 => ?_) (fun c2 => ?_)
    · have h := (if_pos c2).symm.trans h
      refine gl_aload_n hX q_5_120 rfl rfl ?_
      refine gl_get hX q_5_121 (qf_129 (by decide)) (qs_0 hr) rfl qk_1 rfl rfl ?_
      exact gl_ireturn q_5_124 (Or.inl qr_5) (by cases h; exact hP)
    · have h := (if_neg c2).symm.trans h
      refine gl_iload hX q_5_30 rfl rfl ?_
      refine gl_iconst hX q_5_32 ci_4 rfl ?_
      refine gl_ic_ge hX q_5_33 rfl rfl (fun c3 => ?_) (fun c3 => ?_)
      · have h := (if_pos c3).symm.trans h
        refine gl_iload hX q_5_40 rfl rfl ?_
        refine gl_bipush hX q_5_42 cb_8 rfl ?_
        refine gl_ic_ge hX q_5_44 rfl rfl (fun c4 => ?_) (fun c4 => ?_)
        · have h := (if_pos c4).symm.trans h
          refine gl_iload hX q_5_51 rfl rfl ?_
          refine gl_bipush hX q_5_53 cb_12 rfl ?_
          refine gl_ic_ge hX q_5_55 rfl rfl (fun c5 => ?_) (fun c5 => ?_)
          · have h := (if_pos c5).symm.trans h
            refine gl_iload hX q_5_62 rfl rfl ?_
            refine gl_bipush hX q_5_64 cb_16 rfl ?_
            refine gl_ic_ge hX q_5_66 rfl rfl (fun c6 => ?_) (fun c6 => ?_)
            · have h := (if_pos c6).symm.trans h
              refine gl_iload hX q_5_74 rfl rfl ?_
              exact gl_weak (vs := [some (.ref 0), some (.int x1), some (.int x2), some (.int x3), some (.int x4), some (.int x5), some (.int x6), none]) ⟨rfl, rfl, rfl, rfl, rfl, rfl, rfl, trivial⟩ (rt_5_76 hX hr hrf ih hP x1 x2 x3 x4 x5 x6 x5 S ar h)
            · have h := (if_neg c6).symm.trans h
              refine gl_iload hX q_5_69 rfl rfl ?_
              refine gl_goto hX q_5_71 rfl ?_
              exact gl_weak (vs := [some (.ref 0), some (.int x1), some (.int x2), some (.int x3), some (.int x4), some (.int x5), some (.int x6), none]) ⟨rfl, rfl, rfl, rfl, rfl, rfl, rfl, trivial⟩ (rt_5_76 hX hr hrf ih hP x1 x2 x3 x4 x5 x6 x4 S ar h)
          · have h := (if_neg c5).symm.trans h
            refine gl_iload_n hX q_5_58 rfl rfl ?_
            refine gl_goto hX q_5_59 rfl ?_
            exact gl_weak (vs := [some (.ref 0), some (.int x1), some (.int x2), some (.int x3), some (.int x4), some (.int x5), some (.int x6), none]) ⟨rfl, rfl, rfl, rfl, rfl, rfl, rfl, trivial⟩ (rt_5_76 hX hr hrf ih hP x1 x2 x3 x4 x5 x6 x3 S ar h)
        · have h := (if_neg c4).symm.trans h
          refine gl_iload_n hX q_5_47 rfl rfl ?_
          refine gl_goto hX q_5_48 rfl ?_
          exact gl_weak (vs := [some (.ref 0), some (.int x1), some (.int x2), some (.int x3), some (.int x4), some (.int x5), some (.int x6), none]) ⟨rfl, rfl, rfl, rfl, rfl, rfl, rfl, trivial⟩ (rt_5_76 hX hr hrf ih hP x1 x2 x3 x4 x5 x6 x2 S ar h)
      · have h := (if_neg c3).symm.trans h
        refine gl_iload_n hX q_5_36 rfl rfl ?_
        refine gl_goto hX q_5_37 rfl ?_
        exact gl_weak (vs := [some (.ref 0), some (.int x1), some (.int x2), some (.int x3), some (.int x4), some (.int x5), some (.int x6), none]) ⟨rfl, rfl, rfl, rfl, rfl, rfl, rfl, trivial⟩ (rt_5_76 hX hr hrf ih hP x1 x2 x3 x4 x5 x6 x1 S ar h)
def rF_5 (x1 : Int32) (x2 : Int32) (x3 : Int32) (x4 : Int32) (x5 : Int32) (S : (Nat → Int32)) (ar : jSc) : Option (Int32 × (Nat → Int32) × jSc) :=
  (if ((S 1) + (20 : Int32)) ≤ (600 : Int32) then rF_5_23 oF x1 x2 x3 x4 x5 (0 : Int32) (upd S 0 (0 : Int32)) ar else some ((-1 : Int32), (upd S 0 (0 : Int32)), ar))
set_option maxHeartbeats 4000000 in
theorem rt_5 {X : jX} (hX : j_LK (g_n X) (g_L X)) (hr : g_rs X = r_sh) {rf : jRf} (hrf : rf 0 = r_rf) {d : Nat} : rT_5 X rf rF_5 (d + 1) := by
  intro sc al Post x1 x2 x3 x4 x5 S ar r9 S9 ar9 h hP
  unfold rF_5 at h
  refine gl_entry (m := 2) rfl ?_
  show gL X 5 (d + 1) 0 [some (.ref 0), some (.int x1), some (.int x2), some (.int x3), some (.int x4), some (.int x5), none, none] [] (va_up sc 0 S) rf ar al Post
  refine gl_aload_n hX q_5_0 rfl rfl ?_
  refine gl_iconst hX q_5_1 ci_0 rfl ?_
  refine gl_put hX q_5_2 (qf_126 (by decide)) (qs_0 hr) rfl qk_0 rfl ru rfl ?_
  refine gl_aload_n hX q_5_5 rfl rfl ?_
  refine gl_get hX q_5_6 (qf_129 (by decide)) (qs_0 hr) rfl qk_1 rfl rfl ?_
  refine gl_bipush hX q_5_9 cb_20 rfl ?_
  refine gl_iadd hX q_5_11 rfl ?_
  refine gl_sipush hX q_5_12 cs_600 rfl ?_
  refine gl_ic_le hX q_5_15 rfl rfl (fun c7 => ?_) (fun c7 => ?_)
  · have h := (if_pos c7).symm.trans h
    refine gl_iconst hX q_5_20 ci_0 rfl ?_
    refine gl_istore (vs2 := [some (.ref 0), some (.int x1), some (.int x2), some (.int x3), some (.int x4), some (.int x5), some (.int (0 : Int32)), none]) hX q_5_21 rfl rfl rfl rfl ?_
    exact gl_weak (vs := [some (.ref 0), some (.int x1), some (.int x2), some (.int x3), some (.int x4), some (.int x5), some (.int (0 : Int32)), none]) ⟨rfl, rfl, rfl, rfl, rfl, rfl, rfl, trivial⟩ (rt_5_23 hX hr hrf hP oF x1 x2 x3 x4 x5 (0 : Int32) (upd S 0 (0 : Int32)) ar h)
  · have h := (if_neg c7).symm.trans h
    refine gl_iconst hX q_5_18 ci_m1 rfl ?_
    exact gl_ireturn q_5_19 (Or.inl qr_5) (by cases h; exact hP)
/-- ClickOrdersModel.byteAt(I)I -/
def rT_6 (X : jX) (rf : jRf) (F : Int32 → (Nat → Int32) → jSc → Option (Int32 × (Nat → Int32) × jSc)) (e : Nat) : Prop := ∀ (sc : jSc) (al : jAl) (Post : jPo) (x1 : Int32) (S : (Nat → Int32)) (ar : jSc) (r9 : Int32) (S9 : (Nat → Int32)) (ar9 : jSc), F x1 S ar = some (r9, S9, ar9) → Post (some (.int r9)) (va_up sc 0 S9) rf ar9 al → gW X 6 e 0 (j_av [.ref 0, .int x1]) [] (va_up sc 0 S) rf ar al Post
def rF_6 (x1 : Int32) (S : (Nat → Int32)) (ar : jSc) : Option (Int32 × (Nat → Int32) × jSc) :=
  (if x1 < (S 3) then (if (S 4) = (-1 : Int32) then (if iB x1 600 then some ((ar 1 (iN x1)), S, ar) else none) else (if iB (S 4) 2 then (if iB x1 600 then some ((ar (3 + iN (S 4)) (iN x1)), S, ar) else none) else none)) else some ((-1 : Int32), S, ar))
set_option maxHeartbeats 4000000 in
theorem rt_6 {X : jX} (hX : j_LK (g_n X) (g_L X)) (hr : g_rs X = r_sh) {rf : jRf} (hrf : rf 0 = r_rf) {d : Nat} : rT_6 X rf rF_6 (d + 1) := by
  intro sc al Post x1 S ar r9 S9 ar9 h hP
  unfold rF_6 at h
  refine gl_entry (m := 0) rfl ?_
  show gL X 6 (d + 1) 0 [some (.ref 0), some (.int x1)] [] (va_up sc 0 S) rf ar al Post
  refine gl_iload_n hX q_6_0 rfl rfl ?_
  refine gl_aload_n hX q_6_1 rfl rfl ?_
  refine gl_get hX q_6_2 (qf_132 (by decide)) (qs_0 hr) rfl qk_3 rfl rfl ?_
  refine gl_ic_lt hX q_6_5 rfl rfl (fun c1 => ?_) (fun c1 => ?_)
  · have h := (if_pos c1).symm.trans h
    refine gl_aload_n hX q_6_12 rfl rfl ?_
    refine gl_get hX q_6_13 (qf_135 (by decide)) (qs_0 hr) rfl qk_4 rfl rfl ?_
    refine gl_iconst hX q_6_16 ci_m1 rfl ?_
    refine gl_ic_ne hX q_6_17 rfl rfl (fun c2 => ?_) (fun c2 => ?_)
    · have h := (if_pos c2).symm.trans h
      refine gl_aload_n hX q_6_20 rfl rfl ?_
      refine gl_getA hX q_6_21 (qf_15 (by decide)) (qs_0 hr) rfl qk_9 ((congrFun hrf 9).trans qa_9) rfl ?_
      refine gl_iload_n hX q_6_24 rfl rfl ?_
      obtain ⟨c3, h⟩ := o_ck h
      refine gl_iaload hX q_6_25 (qs_1 hr) c3 rfl rfl ?_
      refine gl_goto hX q_6_26 rfl ?_
      exact gl_ireturn q_6_40 (Or.inl qr_6) (by cases h; exact hP)
    · have h := (if_neg c2).symm.trans h
      refine gl_aload_n hX q_6_29 rfl rfl ?_
      refine gl_getA hX q_6_30 (qf_21 (by decide)) (qs_0 hr) rfl qk_10 ((congrFun hrf 10).trans qa_10) rfl ?_
      refine gl_aload_n hX q_6_33 rfl rfl ?_
      refine gl_get hX q_6_34 (qf_135 (by decide)) (qs_0 hr) rfl qk_4 rfl rfl ?_
      obtain ⟨c4, h⟩ := o_ck h
      refine gl_aaload hX q_6_37 (qs_2 hr) c4 (Or.inr ⟨Or.inl rfl, qs_0 hr⟩) (qo_2 (iB_lt c4)) rfl ?_
      refine gl_iload_n hX q_6_38 rfl rfl ?_
      obtain ⟨c5, h⟩ := o_ck h
      refine gl_iaload hX q_6_39 (qs_text hr (iB_lt c4)) c5 rfl rfl ?_
      exact gl_ireturn q_6_40 (Or.inl qr_6) (by cases h; exact hP)
  · have h := (if_neg c1).symm.trans h
    refine gl_iconst hX q_6_8 ci_m1 rfl ?_
    refine gl_goto hX q_6_9 rfl ?_
    exact gl_ireturn q_6_40 (Or.inl qr_6) (by cases h; exact hP)
/-- ClickOrdersModel.blanks()V -/
def rT_7 (X : jX) (rf : jRf) (F : (Nat → Int32) → jSc → Option ((Nat → Int32) × jSc)) (e : Nat) : Prop := ∀ (sc : jSc) (al : jAl) (Post : jPo) (S : (Nat → Int32)) (ar : jSc) (S9 : (Nat → Int32)) (ar9 : jSc), F S ar = some (S9, ar9) → Post none (va_up sc 0 S9) rf ar9 al → gW X 7 e 0 (j_av [.ref 0]) [] (va_up sc 0 S) rf ar al Post
def rF_7_0 : Nat → (Nat → Int32) → jSc → Option ((Nat → Int32) × jSc)
  | 0, _, _ => none
  | nn + 1, S, ar => (o_b3 (rF_6 (S 5) S ar) (fun ve1 Se1 are1 => (if ve1 = (32 : Int32) then rF_7_0 nn (upd Se1 5 ((Se1 5) + (1 : Int32))) are1 else some (Se1, are1))))
set_option maxHeartbeats 4000000 in
theorem rt_7_0 {X : jX} (hX : j_LK (g_n X) (g_L X)) (hr : g_rs X = r_sh) {rf : jRf} (hrf : rf 0 = r_rf) {d : Nat} {sc : jSc} {al : jAl} {Post : jPo} {S9 : (Nat → Int32)} {ar9 : jSc} (hP : Post none (va_up sc 0 S9) rf ar9 al) : ∀ (nn : Nat) (S : (Nat → Int32)) (ar : jSc), rF_7_0 nn S ar = some (S9, ar9) → gL X 7 (d + 2) 0 [some (.ref 0)] [] (va_up sc 0 S) rf ar al Post := by
  intro nn
  induction nn with
  | zero =>
    intro S ar h
    have h : (none : Option ((Nat → Int32) × jSc)) = some _ := h
    cases h
  | succ nn ih =>
    intro S ar h
    unfold rF_7_0 at h
    refine gl_aload_n hX q_7_0 rfl rfl ?_
    refine gl_aload_n hX q_7_1 rfl rfl ?_
    refine gl_get hX q_7_2 (qf_138 (by decide)) (qs_0 hr) rfl qk_5 rfl rfl ?_
    obtain ⟨ve1, Se1, are1, e1, h⟩ := o_k3 h
    refine gl_callV hX q_7_5 (qm_141 (by decide)) rfl rfl rfl (qs_0 hr) qx_6 rfl rfl ((rt_6 hX hr hrf) _ _ _ _ _ _ _ _ _ e1 ?_)
    refine gl_bipush hX q_7_8 cb_32 rfl ?_
    refine gl_ic_ne hX q_7_10 rfl rfl (fun c2 => ?_) (fun c2 => ?_)
    · have h := (if_pos c2).symm.trans h
      refine gl_aload_n hX q_7_13 rfl rfl ?_
      refine gl_dup hX q_7_14 rfl rfl ?_
      refine gl_get hX q_7_15 (qf_138 (by decide)) (qs_0 hr) rfl qk_5 rfl rfl ?_
      refine gl_iconst hX q_7_18 ci_1 rfl ?_
      refine gl_iadd hX q_7_19 rfl ?_
      refine gl_put hX q_7_20 (qf_138 (by decide)) (qs_0 hr) rfl qk_5 rfl ru rfl ?_
      refine gl_goto hX q_7_23 rfl ?_
      exact gl_weak (vs := [some (.ref 0)]) ⟨rfl, trivial⟩ (ih (upd Se1 5 ((Se1 5) + (1 : Int32))) are1 h)
    · have h := (if_neg c2).symm.trans h
      exact gl_return q_7_26 qr_7 (by cases h; exact hP)
def rF_7 (S : (Nat → Int32)) (ar : jSc) : Option ((Nat → Int32) × jSc) :=
  rF_7_0 oF S ar
set_option maxHeartbeats 4000000 in
theorem rt_7 {X : jX} (hX : j_LK (g_n X) (g_L X)) (hr : g_rs X = r_sh) {rf : jRf} (hrf : rf 0 = r_rf) {d : Nat} : rT_7 X rf rF_7 (d + 2) := by
  intro sc al Post  S ar S9 ar9 h hP
  unfold rF_7 at h
  refine gl_entry (m := 0) rfl ?_
  show gL X 7 (d + 2) 0 [some (.ref 0)] [] (va_up sc 0 S) rf ar al Post
  exact gl_weak (vs := [some (.ref 0)]) ⟨rfl, trivial⟩ (rt_7_0 hX hr hrf hP oF S ar h)
/-- ClickOrdersModel.wrong(II)V -/
def rT_8 (X : jX) (rf : jRf) (F : Int32 → Int32 → (Nat → Int32) → jSc → Option ((Nat → Int32) × jSc)) (e : Nat) : Prop := ∀ (sc : jSc) (al : jAl) (Post : jPo) (x1 : Int32) (x2 : Int32) (S : (Nat → Int32)) (ar : jSc) (S9 : (Nat → Int32)) (ar9 : jSc), F x1 x2 S ar = some (S9, ar9) → Post none (va_up sc 0 S9) rf ar9 al → gW X 8 e 0 (j_av [.ref 0, .int x1, .int x2]) [] (va_up sc 0 S) rf ar al Post
def rF_8 (x1 : Int32) (x2 : Int32) (S : (Nat → Int32)) (ar : jSc) : Option ((Nat → Int32) × jSc) :=
  (if (S 7) = 0 then some ((upd (upd S 7 x1) 8 x2), ar) else some (S, ar))
set_option maxHeartbeats 4000000 in
theorem rt_8 {X : jX} (hX : j_LK (g_n X) (g_L X)) (hr : g_rs X = r_sh) {rf : jRf} (hrf : rf 0 = r_rf) {d : Nat} : rT_8 X rf rF_8 (d + 1) := by
  intro sc al Post x1 x2 S ar S9 ar9 h hP
  unfold rF_8 at h
  refine gl_entry (m := 0) rfl ?_
  show gL X 8 (d + 1) 0 [some (.ref 0), some (.int x1), some (.int x2)] [] (va_up sc 0 S) rf ar al Post
  refine gl_aload_n hX q_8_0 rfl rfl ?_
  refine gl_get hX q_8_1 (qf_145 (by decide)) (qs_0 hr) rfl qk_7 rfl rfl ?_
  refine gl_if_ne hX q_8_4 rfl rfl (fun c1 => ?_) (fun c1 => ?_)
  · have h := (if_pos c1).symm.trans h
    refine gl_aload_n hX q_8_7 rfl rfl ?_
    refine gl_iload_n hX q_8_8 rfl rfl ?_
    refine gl_put hX q_8_9 (qf_145 (by decide)) (qs_0 hr) rfl qk_7 rfl ru rfl ?_
    refine gl_aload_n hX q_8_12 rfl rfl ?_
    refine gl_iload_n hX q_8_13 rfl rfl ?_
    refine gl_put hX q_8_14 (qf_148 (by decide)) (qs_0 hr) rfl qk_8 rfl ru rfl ?_
    exact gl_return q_8_17 qr_8 (by cases h; exact hP)
  · have h := (if_neg c1).symm.trans h
    exact gl_return q_8_17 qr_8 (by cases h; exact hP)
/-- ClickOrdersModel.isDigit(I)Z -/
def rT_9 (X : jX) (rf : jRf) (F : Int32 → (Nat → Int32) → jSc → Option (Int32 × (Nat → Int32) × jSc)) (e : Nat) : Prop := ∀ (sc : jSc) (al : jAl) (Post : jPo) (x1 : Int32) (S : (Nat → Int32)) (ar : jSc) (r9 : Int32) (S9 : (Nat → Int32)) (ar9 : jSc), F x1 S ar = some (r9, S9, ar9) → Post (some (.int r9)) (va_up sc 0 S9) rf ar9 al → gW X 9 e 0 (j_av [.int x1]) [] (va_up sc 0 S) rf ar al Post
def rF_9 (x1 : Int32) (S : (Nat → Int32)) (ar : jSc) : Option (Int32 × (Nat → Int32) × jSc) :=
  (if x1 < (48 : Int32) then some ((0 : Int32), S, ar) else (if (57 : Int32) < x1 then some ((0 : Int32), S, ar) else some ((1 : Int32), S, ar)))
set_option maxHeartbeats 4000000 in
theorem rt_9 {X : jX} (hX : j_LK (g_n X) (g_L X)) (hr : g_rs X = r_sh) {rf : jRf} (hrf : rf 0 = r_rf) {d : Nat} : rT_9 X rf rF_9 (d + 1) := by
  intro sc al Post x1 S ar r9 S9 ar9 h hP
  unfold rF_9 at h
  refine gl_entry (m := 0) rfl ?_
  show gL X 9 (d + 1) 0 [some (.int x1)] [] (va_up sc 0 S) rf ar al Post
  refine gl_iload_n hX q_9_0 rfl rfl ?_
  refine gl_bipush hX q_9_1 cb_48 rfl ?_
  refine gl_ic_lt hX q_9_3 rfl rfl (fun c1 => ?_) (fun c1 => ?_)
  · have h := (if_pos c1).symm.trans h
    refine gl_iconst hX q_9_16 ci_0 rfl ?_
    exact gl_ireturn q_9_17 (Or.inr ⟨qr_9, Or.inl rfl⟩) (by cases h; exact hP)
  · have h := (if_neg c1).symm.trans h
    refine gl_iload_n hX q_9_6 rfl rfl ?_
    refine gl_bipush hX q_9_7 cb_57 rfl ?_
    refine gl_ic_gt hX q_9_9 rfl rfl (fun c2 => ?_) (fun c2 => ?_)
    · have h := (if_pos c2).symm.trans h
      refine gl_iconst hX q_9_16 ci_0 rfl ?_
      exact gl_ireturn q_9_17 (Or.inr ⟨qr_9, Or.inl rfl⟩) (by cases h; exact hP)
    · have h := (if_neg c2).symm.trans h
      refine gl_iconst hX q_9_12 ci_1 rfl ?_
      refine gl_goto hX q_9_13 rfl ?_
      exact gl_ireturn q_9_17 (Or.inr ⟨qr_9, Or.inr rfl⟩) (by cases h; exact hP)
/-- ClickOrdersModel.isSmall(I)Z -/
def rT_10 (X : jX) (rf : jRf) (F : Int32 → (Nat → Int32) → jSc → Option (Int32 × (Nat → Int32) × jSc)) (e : Nat) : Prop := ∀ (sc : jSc) (al : jAl) (Post : jPo) (x1 : Int32) (S : (Nat → Int32)) (ar : jSc) (r9 : Int32) (S9 : (Nat → Int32)) (ar9 : jSc), F x1 S ar = some (r9, S9, ar9) → Post (some (.int r9)) (va_up sc 0 S9) rf ar9 al → gW X 10 e 0 (j_av [.int x1]) [] (va_up sc 0 S) rf ar al Post
def rF_10 (x1 : Int32) (S : (Nat → Int32)) (ar : jSc) : Option (Int32 × (Nat → Int32) × jSc) :=
  (if x1 < (97 : Int32) then some ((0 : Int32), S, ar) else (if (122 : Int32) < x1 then some ((0 : Int32), S, ar) else some ((1 : Int32), S, ar)))
set_option maxHeartbeats 4000000 in
theorem rt_10 {X : jX} (hX : j_LK (g_n X) (g_L X)) (hr : g_rs X = r_sh) {rf : jRf} (hrf : rf 0 = r_rf) {d : Nat} : rT_10 X rf rF_10 (d + 1) := by
  intro sc al Post x1 S ar r9 S9 ar9 h hP
  unfold rF_10 at h
  refine gl_entry (m := 0) rfl ?_
  show gL X 10 (d + 1) 0 [some (.int x1)] [] (va_up sc 0 S) rf ar al Post
  refine gl_iload_n hX q_10_0 rfl rfl ?_
  refine gl_bipush hX q_10_1 cb_97 rfl ?_
  refine gl_ic_lt hX q_10_3 rfl rfl (fun c1 => ?_) (fun c1 => ?_)
  · have h := (if_pos c1).symm.trans h
    refine gl_iconst hX q_10_16 ci_0 rfl ?_
    exact gl_ireturn q_10_17 (Or.inr ⟨qr_10, Or.inl rfl⟩) (by cases h; exact hP)
  · have h := (if_neg c1).symm.trans h
    refine gl_iload_n hX q_10_6 rfl rfl ?_
    refine gl_bipush hX q_10_7 cb_122 rfl ?_
    refine gl_ic_gt hX q_10_9 rfl rfl (fun c2 => ?_) (fun c2 => ?_)
    · have h := (if_pos c2).symm.trans h
      refine gl_iconst hX q_10_16 ci_0 rfl ?_
      exact gl_ireturn q_10_17 (Or.inr ⟨qr_10, Or.inl rfl⟩) (by cases h; exact hP)
    · have h := (if_neg c2).symm.trans h
      refine gl_iconst hX q_10_12 ci_1 rfl ?_
      refine gl_goto hX q_10_13 rfl ?_
      exact gl_ireturn q_10_17 (Or.inr ⟨qr_10, Or.inr rfl⟩) (by cases h; exact hP)
/-- ClickOrdersModel.wordHere()I -/
def rT_11 (X : jX) (rf : jRf) (F : (Nat → Int32) → jSc → Option (Int32 × (Nat → Int32) × jSc)) (e : Nat) : Prop := ∀ (sc : jSc) (al : jAl) (Post : jPo) (S : (Nat → Int32)) (ar : jSc) (r9 : Int32) (S9 : (Nat → Int32)) (ar9 : jSc), F S ar = some (r9, S9, ar9) → Post (some (.int r9)) (va_up sc 0 S9) rf ar9 al → gW X 11 e 0 (j_av [.ref 0]) [] (va_up sc 0 S) rf ar al Post
def rF_11_8 : Nat → Int32 → Int32 → (Nat → Int32) → jSc → Option (Int32 × (Nat → Int32) × jSc)
  | 0, _, _, _, _ => none
  | nn + 1, x1, x2, S, ar => (o_b3 (rF_6 ((S 5) + x2) S ar) (fun ve1 Se1 are1 => (o_b3 (rF_10 ve1 Se1 are1) (fun ve2 Se2 are2 => (if ve2 = 0 then (if x2 ≤ (6 : Int32) then some (x1, Se2, are2) else some ((-1 : Int32), Se2, are2)) else (if (6 : Int32) ≤ x2 then rF_11_8 nn x1 (x2 + (1 : Int32)) Se2 are2 else (o_b3 (rF_6 ((Se2 5) + x2) Se2 are2) (fun ve6 Se6 are6 => rF_11_8 nn (((((27 : Int32) * x1) + ve6) - (97 : Int32)) + (1 : Int32)) (x2 + (1 : Int32)) Se6 are6))))))))
set_option maxHeartbeats 4000000 in
theorem rt_11_8 {X : jX} (hX : j_LK (g_n X) (g_L X)) (hr : g_rs X = r_sh) {rf : jRf} (hrf : rf 0 = r_rf) {d : Nat} {sc : jSc} {al : jAl} {Post : jPo} {r9 : Int32} {S9 : (Nat → Int32)} {ar9 : jSc} (hP : Post (some (.int r9)) (va_up sc 0 S9) rf ar9 al) : ∀ (nn : Nat) (x1 : Int32) (x2 : Int32) (S : (Nat → Int32)) (ar : jSc), rF_11_8 nn x1 x2 S ar = some (r9, S9, ar9) → gL X 11 (d + 3) 8 [some (.ref 0), some (.int x1), some (.int x2)] [] (va_up sc 0 S) rf ar al Post := by
  intro nn
  induction nn with
  | zero =>
    intro x1 x2 S ar h
    have h : (none : Option (Int32 × (Nat → Int32) × jSc)) = some _ := h
    cases h
  | succ nn ih =>
    intro x1 x2 S ar h
    unfold rF_11_8 at h
    refine gl_aload_n hX q_11_8 rfl rfl ?_
    refine gl_aload_n hX q_11_9 rfl rfl ?_
    refine gl_get hX q_11_10 (qf_138 (by decide)) (qs_0 hr) rfl qk_5 rfl rfl ?_
    refine gl_iload_n hX q_11_13 rfl rfl ?_
    refine gl_iadd hX q_11_14 rfl ?_
    obtain ⟨ve1, Se1, are1, e1, h⟩ := o_k3 h
    refine gl_callV hX q_11_15 (qm_141 (by decide)) rfl rfl rfl (qs_0 hr) qx_6 rfl rfl ((rt_6 hX hr hrf) _ _ _ _ _ _ _ _ _ e1 ?_)
    obtain ⟨ve2, Se2, are2, e2, h⟩ := o_k3 h
    refine gl_callS q_11_18 (qm_154 (by decide)) rfl rfl rfl qx_10 rfl rfl ((rt_10 hX hr hrf) _ _ _ _ _ _ _ _ _ e2 ?_)
    refine gl_if_eq hX q_11_21 rfl rfl (fun c3 => ?_) (fun c3 => ?_)
    · have h := (if_pos c3).symm.trans h
      refine gl_iload_n hX q_11_61 rfl rfl ?_
      refine gl_bipush hX q_11_62 cb_6 rfl ?_
      refine gl_ic_le hX q_11_64 rfl rfl (fun c4 => ?_) (fun c4 => ?_)
      · have h := (if_pos c4).symm.trans h
        refine gl_iload_n hX q_11_71 rfl rfl ?_
        exact gl_ireturn q_11_72 (Or.inl qr_11) (by cases h; exact hP)
      · have h := (if_neg c4).symm.trans h
        refine gl_iconst hX q_11_67 ci_m1 rfl ?_
        refine gl_goto hX q_11_68 rfl ?_
        exact gl_ireturn q_11_72 (Or.inl qr_11) (by cases h; exact hP)
    · have h := (if_neg c3).symm.trans h
      refine gl_iload_n hX q_11_24 rfl rfl ?_
      refine gl_bipush hX q_11_25 cb_6 rfl ?_
      refine gl_ic_ge hX q_11_27 rfl rfl (fun c5 => ?_) (fun c5 => ?_)
      · have h := (if_pos c5).symm.trans h
        refine gl_iload_n hX q_11_53 rfl rfl ?_
        refine gl_istore_n (vs2 := [some (.ref 0), some (.int x1), some (.int x2)]) hX q_11_54 rfl rfl rfl rfl ?_
        refine gl_iinc (vs2 := [some (.ref 0), some (.int x1), some (.int (x2 + (1 : Int32)))]) hX q_11_55 rfl rfl rfl ci_1 rfl rfl ?_
        refine gl_goto hX q_11_58 rfl ?_
        exact gl_weak (vs := [some (.ref 0), some (.int x1), some (.int (x2 + (1 : Int32)))]) ⟨rfl, rfl, rfl, trivial⟩ (ih x1 (x2 + (1 : Int32)) Se2 are2 h)
      · have h := (if_neg c5).symm.trans h
        refine gl_bipush hX q_11_30 cb_27 rfl ?_
        refine gl_iload_n hX q_11_32 rfl rfl ?_
        refine gl_imul hX q_11_33 rfl ?_
        refine gl_aload_n hX q_11_34 rfl rfl ?_
        refine gl_aload_n hX q_11_35 rfl rfl ?_
        refine gl_get hX q_11_36 (qf_138 (by decide)) (qs_0 hr) rfl qk_5 rfl rfl ?_
        refine gl_iload_n hX q_11_39 rfl rfl ?_
        refine gl_iadd hX q_11_40 rfl ?_
        obtain ⟨ve6, Se6, are6, e6, h⟩ := o_k3 h
        refine gl_callV hX q_11_41 (qm_141 (by decide)) rfl rfl rfl (qs_0 hr) qx_6 rfl rfl ((rt_6 hX hr hrf) _ _ _ _ _ _ _ _ _ e6 ?_)
        refine gl_iadd hX q_11_44 rfl ?_
        refine gl_bipush hX q_11_45 cb_97 rfl ?_
        refine gl_isub hX q_11_47 rfl ?_
        refine gl_iconst hX q_11_48 ci_1 rfl ?_
        refine gl_iadd hX q_11_49 rfl ?_
        refine gl_goto hX q_11_50 rfl ?_
        refine gl_istore_n (vs2 := [some (.ref 0), some (.int (((((27 : Int32) * x1) + ve6) - (97 : Int32)) + (1 : Int32))), some (.int x2)]) hX q_11_54 rfl rfl rfl rfl ?_
        refine gl_iinc (vs2 := [some (.ref 0), some (.int (((((27 : Int32) * x1) + ve6) - (97 : Int32)) + (1 : Int32))), some (.int (x2 + (1 : Int32)))]) hX q_11_55 rfl rfl rfl ci_1 rfl rfl ?_
        refine gl_goto hX q_11_58 rfl ?_
        exact gl_weak (vs := [some (.ref 0), some (.int (((((27 : Int32) * x1) + ve6) - (97 : Int32)) + (1 : Int32))), some (.int (x2 + (1 : Int32)))]) ⟨rfl, rfl, rfl, trivial⟩ (ih (((((27 : Int32) * x1) + ve6) - (97 : Int32)) + (1 : Int32)) (x2 + (1 : Int32)) Se6 are6 h)
def rF_11 (S : (Nat → Int32)) (ar : jSc) : Option (Int32 × (Nat → Int32) × jSc) :=
  (o_b2 (rF_7 S ar) (fun Se7 are7 => rF_11_8 oF (0 : Int32) (0 : Int32) Se7 are7))
set_option maxHeartbeats 4000000 in
theorem rt_11 {X : jX} (hX : j_LK (g_n X) (g_L X)) (hr : g_rs X = r_sh) {rf : jRf} (hrf : rf 0 = r_rf) {d : Nat} : rT_11 X rf rF_11 (d + 3) := by
  intro sc al Post  S ar r9 S9 ar9 h hP
  unfold rF_11 at h
  refine gl_entry (m := 2) rfl ?_
  show gL X 11 (d + 3) 0 [some (.ref 0), none, none] [] (va_up sc 0 S) rf ar al Post
  refine gl_aload_n hX q_11_0 rfl rfl ?_
  obtain ⟨Se7, are7, e7, h⟩ := o_k2 h
  refine gl_callV hX q_11_1 (qm_151 (by decide)) rfl rfl rfl (qs_0 hr) qx_7 rfl rfl ((rt_7 hX hr hrf) _ _ _  _ _ _ _ e7 ?_)
  refine gl_iconst hX q_11_4 ci_0 rfl ?_
  refine gl_istore_n (vs2 := [some (.ref 0), some (.int (0 : Int32)), none]) hX q_11_5 rfl rfl rfl rfl ?_
  refine gl_iconst hX q_11_6 ci_0 rfl ?_
  refine gl_istore_n (vs2 := [some (.ref 0), some (.int (0 : Int32)), some (.int (0 : Int32))]) hX q_11_7 rfl rfl rfl rfl ?_
  exact gl_weak (vs := [some (.ref 0), some (.int (0 : Int32)), some (.int (0 : Int32))]) ⟨rfl, rfl, rfl, trivial⟩ (rt_11_8 hX hr hrf hP oF (0 : Int32) (0 : Int32) Se7 are7 h)
/-- ClickOrdersModel.word(IIIIII)I -/
def rT_12 (X : jX) (rf : jRf) (F : Int32 → Int32 → Int32 → Int32 → Int32 → Int32 → (Nat → Int32) → jSc → Option (Int32 × (Nat → Int32) × jSc)) (e : Nat) : Prop := ∀ (sc : jSc) (al : jAl) (Post : jPo) (x1 : Int32) (x2 : Int32) (x3 : Int32) (x4 : Int32) (x5 : Int32) (x6 : Int32) (S : (Nat → Int32)) (ar : jSc) (r9 : Int32) (S9 : (Nat → Int32)) (ar9 : jSc), F x1 x2 x3 x4 x5 x6 S ar = some (r9, S9, ar9) → Post (some (.int r9)) (va_up sc 0 S9) rf ar9 al → gW X 12 e 0 (j_av [.int x1, .int x2, .int x3, .int x4, .int x5, .int x6]) [] (va_up sc 0 S) rf ar al Post
def rF_12_42 (x4 : Int32) (x5 : Int32) (y0 : Int32) (S : (Nat → Int32)) (ar : jSc) : Option (Int32 × (Nat → Int32) × jSc) :=
  (if x4 = 0 then (if x5 = 0 then some (y0, S, ar) else some ((((27 : Int32) * y0) + x5), S, ar)) else (if x5 = 0 then some ((((27 : Int32) * y0) + x4), S, ar) else some ((((27 : Int32) * (((27 : Int32) * y0) + x4)) + x5), S, ar)))
set_option maxHeartbeats 4000000 in
theorem rt_12_42 {X : jX} (hX : j_LK (g_n X) (g_L X)) (hr : g_rs X = r_sh) {rf : jRf} (hrf : rf 0 = r_rf) {d : Nat} {sc : jSc} {al : jAl} {Post : jPo} {r9 : Int32} {S9 : (Nat → Int32)} {ar9 : jSc} (hP : Post (some (.int r9)) (va_up sc 0 S9) rf ar9 al) (x4 : Int32) (x5 : Int32) (y0 : Int32) (S : (Nat → Int32)) (ar : jSc) (h : rF_12_42 x4 x5 y0 S ar = some (r9, S9, ar9)) : gL X 12 (d + 1) 42 [none, none, none, none, some (.int x4), some (.int x5), none] [.int y0] (va_up sc 0 S) rf ar al Post := by
  unfold rF_12_42 at h
  refine gl_istore (vs2 := [none, none, none, none, some (.int x4), some (.int x5), some (.int y0)]) hX q_12_42 rfl rfl rfl rfl ?_
  refine gl_iload hX q_12_44 rfl rfl ?_
  refine gl_if_ne hX q_12_46 rfl rfl (fun c1 => ?_) (fun c1 => ?_)
  · have h := (if_pos c1).symm.trans h
    refine gl_iload hX q_12_49 rfl rfl ?_
    refine gl_goto hX q_12_51 rfl ?_
    refine gl_istore (vs2 := [none, none, none, none, some (.int x4), some (.int x5), some (.int y0)]) hX q_12_62 rfl rfl rfl rfl ?_
    refine gl_iload hX q_12_64 rfl rfl ?_
    refine gl_if_ne hX q_12_66 rfl rfl (fun c2 => ?_) (fun c2 => ?_)
    · have h := (if_pos c2).symm.trans h
      refine gl_iload hX q_12_69 rfl rfl ?_
      refine gl_goto hX q_12_71 rfl ?_
      exact gl_ireturn q_12_82 (Or.inl qr_12) (by cases h; exact hP)
    · have h := (if_neg c2).symm.trans h
      refine gl_bipush hX q_12_74 cb_27 rfl ?_
      refine gl_iload hX q_12_76 rfl rfl ?_
      refine gl_imul hX q_12_78 rfl ?_
      refine gl_iload hX q_12_79 rfl rfl ?_
      refine gl_iadd hX q_12_81 rfl ?_
      exact gl_ireturn q_12_82 (Or.inl qr_12) (by cases h; exact hP)
  · have h := (if_neg c1).symm.trans h
    refine gl_bipush hX q_12_54 cb_27 rfl ?_
    refine gl_iload hX q_12_56 rfl rfl ?_
    refine gl_imul hX q_12_58 rfl ?_
    refine gl_iload hX q_12_59 rfl rfl ?_
    refine gl_iadd hX q_12_61 rfl ?_
    refine gl_istore (vs2 := [none, none, none, none, some (.int x4), some (.int x5), some (.int (((27 : Int32) * y0) + x4))]) hX q_12_62 rfl rfl rfl rfl ?_
    refine gl_iload hX q_12_64 rfl rfl ?_
    refine gl_if_ne hX q_12_66 rfl rfl (fun c3 => ?_) (fun c3 => ?_)
    · have h := (if_pos c3).symm.trans h
      refine gl_iload hX q_12_69 rfl rfl ?_
      refine gl_goto hX q_12_71 rfl ?_
      exact gl_ireturn q_12_82 (Or.inl qr_12) (by cases h; exact hP)
    · have h := (if_neg c3).symm.trans h
      refine gl_bipush hX q_12_74 cb_27 rfl ?_
      refine gl_iload hX q_12_76 rfl rfl ?_
      refine gl_imul hX q_12_78 rfl ?_
      refine gl_iload hX q_12_79 rfl rfl ?_
      refine gl_iadd hX q_12_81 rfl ?_
      exact gl_ireturn q_12_82 (Or.inl qr_12) (by cases h; exact hP)
def rF_12 (x1 : Int32) (x2 : Int32) (x3 : Int32) (x4 : Int32) (x5 : Int32) (x6 : Int32) (S : (Nat → Int32)) (ar : jSc) : Option (Int32 × (Nat → Int32) × jSc) :=
  (if x3 = 0 then (if x4 = 0 then rF_12_42 x5 x6 (((27 : Int32) * x1) + x2) S ar else rF_12_42 x5 x6 (((27 : Int32) * (((27 : Int32) * x1) + x2)) + x4) S ar) else (if x4 = 0 then rF_12_42 x5 x6 (((27 : Int32) * (((27 : Int32) * x1) + x2)) + x3) S ar else rF_12_42 x5 x6 (((27 : Int32) * (((27 : Int32) * (((27 : Int32) * x1) + x2)) + x3)) + x4) S ar))
set_option maxHeartbeats 4000000 in
theorem rt_12 {X : jX} (hX : j_LK (g_n X) (g_L X)) (hr : g_rs X = r_sh) {rf : jRf} (hrf : rf 0 = r_rf) {d : Nat} : rT_12 X rf rF_12 (d + 1) := by
  intro sc al Post x1 x2 x3 x4 x5 x6 S ar r9 S9 ar9 h hP
  unfold rF_12 at h
  refine gl_entry (m := 1) rfl ?_
  show gL X 12 (d + 1) 0 [some (.int x1), some (.int x2), some (.int x3), some (.int x4), some (.int x5), some (.int x6), none] [] (va_up sc 0 S) rf ar al Post
  refine gl_bipush hX q_12_0 cb_27 rfl ?_
  refine gl_iload_n hX q_12_2 rfl rfl ?_
  refine gl_imul hX q_12_3 rfl ?_
  refine gl_iload_n hX q_12_4 rfl rfl ?_
  refine gl_iadd hX q_12_5 rfl ?_
  refine gl_istore (vs2 := [some (.int x1), some (.int x2), some (.int x3), some (.int x4), some (.int x5), some (.int x6), some (.int (((27 : Int32) * x1) + x2))]) hX q_12_6 rfl rfl rfl rfl ?_
  refine gl_iload_n hX q_12_8 rfl rfl ?_
  refine gl_if_ne hX q_12_9 rfl rfl (fun c4 => ?_) (fun c4 => ?_)
  · have h := (if_pos c4).symm.trans h
    refine gl_iload hX q_12_12 rfl rfl ?_
    refine gl_goto hX q_12_14 rfl ?_
    refine gl_istore (vs2 := [some (.int x1), some (.int x2), some (.int x3), some (.int x4), some (.int x5), some (.int x6), some (.int (((27 : Int32) * x1) + x2))]) hX q_12_24 rfl rfl rfl rfl ?_
    refine gl_iload_n hX q_12_26 rfl rfl ?_
    refine gl_if_ne hX q_12_27 rfl rfl (fun c5 => ?_) (fun c5 => ?_)
    · have h := (if_pos c5).symm.trans h
      refine gl_iload hX q_12_30 rfl rfl ?_
      refine gl_goto hX q_12_32 rfl ?_
      exact gl_weak (vs := [none, none, none, none, some (.int x5), some (.int x6), none]) ⟨rfl, rfl, trivial⟩ (rt_12_42 hX hr hrf hP x5 x6 (((27 : Int32) * x1) + x2) S ar h)
    · have h := (if_neg c5).symm.trans h
      refine gl_bipush hX q_12_35 cb_27 rfl ?_
      refine gl_iload hX q_12_37 rfl rfl ?_
      refine gl_imul hX q_12_39 rfl ?_
      refine gl_iload_n hX q_12_40 rfl rfl ?_
      refine gl_iadd hX q_12_41 rfl ?_
      exact gl_weak (vs := [none, none, none, none, some (.int x5), some (.int x6), none]) ⟨rfl, rfl, trivial⟩ (rt_12_42 hX hr hrf hP x5 x6 (((27 : Int32) * (((27 : Int32) * x1) + x2)) + x4) S ar h)
  · have h := (if_neg c4).symm.trans h
    refine gl_bipush hX q_12_17 cb_27 rfl ?_
    refine gl_iload hX q_12_19 rfl rfl ?_
    refine gl_imul hX q_12_21 rfl ?_
    refine gl_iload_n hX q_12_22 rfl rfl ?_
    refine gl_iadd hX q_12_23 rfl ?_
    refine gl_istore (vs2 := [some (.int x1), some (.int x2), some (.int x3), some (.int x4), some (.int x5), some (.int x6), some (.int (((27 : Int32) * (((27 : Int32) * x1) + x2)) + x3))]) hX q_12_24 rfl rfl rfl rfl ?_
    refine gl_iload_n hX q_12_26 rfl rfl ?_
    refine gl_if_ne hX q_12_27 rfl rfl (fun c6 => ?_) (fun c6 => ?_)
    · have h := (if_pos c6).symm.trans h
      refine gl_iload hX q_12_30 rfl rfl ?_
      refine gl_goto hX q_12_32 rfl ?_
      exact gl_weak (vs := [none, none, none, none, some (.int x5), some (.int x6), none]) ⟨rfl, rfl, trivial⟩ (rt_12_42 hX hr hrf hP x5 x6 (((27 : Int32) * (((27 : Int32) * x1) + x2)) + x3) S ar h)
    · have h := (if_neg c6).symm.trans h
      refine gl_bipush hX q_12_35 cb_27 rfl ?_
      refine gl_iload hX q_12_37 rfl rfl ?_
      refine gl_imul hX q_12_39 rfl ?_
      refine gl_iload_n hX q_12_40 rfl rfl ?_
      refine gl_iadd hX q_12_41 rfl ?_
      exact gl_weak (vs := [none, none, none, none, some (.int x5), some (.int x6), none]) ⟨rfl, rfl, trivial⟩ (rt_12_42 hX hr hrf hP x5 x6 (((27 : Int32) * (((27 : Int32) * (((27 : Int32) * x1) + x2)) + x3)) + x4) S ar h)
/-- ClickOrdersModel.isWord(IIIIII)Z -/
def rT_13 (X : jX) (rf : jRf) (F : Int32 → Int32 → Int32 → Int32 → Int32 → Int32 → (Nat → Int32) → jSc → Option (Int32 × (Nat → Int32) × jSc)) (e : Nat) : Prop := ∀ (sc : jSc) (al : jAl) (Post : jPo) (x1 : Int32) (x2 : Int32) (x3 : Int32) (x4 : Int32) (x5 : Int32) (x6 : Int32) (S : (Nat → Int32)) (ar : jSc) (r9 : Int32) (S9 : (Nat → Int32)) (ar9 : jSc), F x1 x2 x3 x4 x5 x6 S ar = some (r9, S9, ar9) → Post (some (.int r9)) (va_up sc 0 S9) rf ar9 al → gW X 13 e 0 (j_av [.ref 0, .int x1, .int x2, .int x3, .int x4, .int x5, .int x6]) [] (va_up sc 0 S) rf ar al Post
def rF_13 (x1 : Int32) (x2 : Int32) (x3 : Int32) (x4 : Int32) (x5 : Int32) (x6 : Int32) (S : (Nat → Int32)) (ar : jSc) : Option (Int32 × (Nat → Int32) × jSc) :=
  (o_b3 (rF_11 S ar) (fun ve1 Se1 are1 => (o_b3 (rF_12 x1 x2 x3 x4 x5 x6 Se1 are1) (fun ve2 Se2 are2 => (if ve1 = ve2 then some ((1 : Int32), Se2, are2) else some ((0 : Int32), Se2, are2))))))
set_option maxHeartbeats 4000000 in
theorem rt_13 {X : jX} (hX : j_LK (g_n X) (g_L X)) (hr : g_rs X = r_sh) {rf : jRf} (hrf : rf 0 = r_rf) {d : Nat} : rT_13 X rf rF_13 (d + 4) := by
  intro sc al Post x1 x2 x3 x4 x5 x6 S ar r9 S9 ar9 h hP
  unfold rF_13 at h
  refine gl_entry (m := 0) rfl ?_
  show gL X 13 (d + 4) 0 [some (.ref 0), some (.int x1), some (.int x2), some (.int x3), some (.int x4), some (.int x5), some (.int x6)] [] (va_up sc 0 S) rf ar al Post
  refine gl_aload_n hX q_13_0 rfl rfl ?_
  obtain ⟨ve1, Se1, are1, e1, h⟩ := o_k3 h
  refine gl_callV hX q_13_1 (qm_158 (by decide)) rfl rfl rfl (qs_0 hr) qx_11 rfl rfl ((rt_11 hX hr hrf) _ _ _  _ _ _ _ _ e1 ?_)
  refine gl_iload_n hX q_13_4 rfl rfl ?_
  refine gl_iload_n hX q_13_5 rfl rfl ?_
  refine gl_iload_n hX q_13_6 rfl rfl ?_
  refine gl_iload hX q_13_7 rfl rfl ?_
  refine gl_iload hX q_13_9 rfl rfl ?_
  refine gl_iload hX q_13_11 rfl rfl ?_
  obtain ⟨ve2, Se2, are2, e2, h⟩ := o_k3 h
  refine gl_callS q_13_13 (qm_162 (by decide)) rfl rfl rfl qx_12 rfl rfl ((rt_12 hX hr hrf) _ _ _ _ _ _ _ _ _ _ _ _ _ _ e2 ?_)
  refine gl_ic_ne hX q_13_16 rfl rfl (fun c3 => ?_) (fun c3 => ?_)
  · have h := (if_pos c3).symm.trans h
    refine gl_iconst hX q_13_19 ci_1 rfl ?_
    refine gl_goto hX q_13_20 rfl ?_
    exact gl_ireturn q_13_24 (Or.inr ⟨qr_13, Or.inr rfl⟩) (by cases h; exact hP)
  · have h := (if_neg c3).symm.trans h
    refine gl_iconst hX q_13_23 ci_0 rfl ?_
    exact gl_ireturn q_13_24 (Or.inr ⟨qr_13, Or.inl rfl⟩) (by cases h; exact hP)
/-- ClickOrdersModel.skipWord()V -/
def rT_14 (X : jX) (rf : jRf) (F : (Nat → Int32) → jSc → Option ((Nat → Int32) × jSc)) (e : Nat) : Prop := ∀ (sc : jSc) (al : jAl) (Post : jPo) (S : (Nat → Int32)) (ar : jSc) (S9 : (Nat → Int32)) (ar9 : jSc), F S ar = some (S9, ar9) → Post none (va_up sc 0 S9) rf ar9 al → gW X 14 e 0 (j_av [.ref 0]) [] (va_up sc 0 S) rf ar al Post
def rF_14_0 : Nat → (Nat → Int32) → jSc → Option ((Nat → Int32) × jSc)
  | 0, _, _ => none
  | nn + 1, S, ar => (o_b3 (rF_6 (S 5) S ar) (fun ve1 Se1 are1 => (o_b3 (rF_10 ve1 Se1 are1) (fun ve2 Se2 are2 => (if ve2 = 0 then some (Se2, are2) else rF_14_0 nn (upd Se2 5 ((Se2 5) + (1 : Int32))) are2)))))
set_option maxHeartbeats 4000000 in
theorem rt_14_0 {X : jX} (hX : j_LK (g_n X) (g_L X)) (hr : g_rs X = r_sh) {rf : jRf} (hrf : rf 0 = r_rf) {d : Nat} {sc : jSc} {al : jAl} {Post : jPo} {S9 : (Nat → Int32)} {ar9 : jSc} (hP : Post none (va_up sc 0 S9) rf ar9 al) : ∀ (nn : Nat) (S : (Nat → Int32)) (ar : jSc), rF_14_0 nn S ar = some (S9, ar9) → gL X 14 (d + 2) 0 [some (.ref 0)] [] (va_up sc 0 S) rf ar al Post := by
  intro nn
  induction nn with
  | zero =>
    intro S ar h
    have h : (none : Option ((Nat → Int32) × jSc)) = some _ := h
    cases h
  | succ nn ih =>
    intro S ar h
    unfold rF_14_0 at h
    refine gl_aload_n hX q_14_0 rfl rfl ?_
    refine gl_aload_n hX q_14_1 rfl rfl ?_
    refine gl_get hX q_14_2 (qf_138 (by decide)) (qs_0 hr) rfl qk_5 rfl rfl ?_
    obtain ⟨ve1, Se1, are1, e1, h⟩ := o_k3 h
    refine gl_callV hX q_14_5 (qm_141 (by decide)) rfl rfl rfl (qs_0 hr) qx_6 rfl rfl ((rt_6 hX hr hrf) _ _ _ _ _ _ _ _ _ e1 ?_)
    obtain ⟨ve2, Se2, are2, e2, h⟩ := o_k3 h
    refine gl_callS q_14_8 (qm_154 (by decide)) rfl rfl rfl qx_10 rfl rfl ((rt_10 hX hr hrf) _ _ _ _ _ _ _ _ _ e2 ?_)
    refine gl_if_eq hX q_14_11 rfl rfl (fun c3 => ?_) (fun c3 => ?_)
    · have h := (if_pos c3).symm.trans h
      exact gl_return q_14_27 qr_14 (by cases h; exact hP)
    · have h := (if_neg c3).symm.trans h
      refine gl_aload_n hX q_14_14 rfl rfl ?_
      refine gl_dup hX q_14_15 rfl rfl ?_
      refine gl_get hX q_14_16 (qf_138 (by decide)) (qs_0 hr) rfl qk_5 rfl rfl ?_
      refine gl_iconst hX q_14_19 ci_1 rfl ?_
      refine gl_iadd hX q_14_20 rfl ?_
      refine gl_put hX q_14_21 (qf_138 (by decide)) (qs_0 hr) rfl qk_5 rfl ru rfl ?_
      refine gl_goto hX q_14_24 rfl ?_
      exact gl_weak (vs := [some (.ref 0)]) ⟨rfl, trivial⟩ (ih (upd Se2 5 ((Se2 5) + (1 : Int32))) are2 h)
def rF_14 (S : (Nat → Int32)) (ar : jSc) : Option ((Nat → Int32) × jSc) :=
  rF_14_0 oF S ar
set_option maxHeartbeats 4000000 in
theorem rt_14 {X : jX} (hX : j_LK (g_n X) (g_L X)) (hr : g_rs X = r_sh) {rf : jRf} (hrf : rf 0 = r_rf) {d : Nat} : rT_14 X rf rF_14 (d + 2) := by
  intro sc al Post  S ar S9 ar9 h hP
  unfold rF_14 at h
  refine gl_entry (m := 0) rfl ?_
  show gL X 14 (d + 2) 0 [some (.ref 0)] [] (va_up sc 0 S) rf ar al Post
  exact gl_weak (vs := [some (.ref 0)]) ⟨rfl, trivial⟩ (rt_14_0 hX hr hrf hP oF S ar h)
/-- ClickOrdersModel.sign(I)V -/
def rT_15 (X : jX) (rf : jRf) (F : Int32 → (Nat → Int32) → jSc → Option ((Nat → Int32) × jSc)) (e : Nat) : Prop := ∀ (sc : jSc) (al : jAl) (Post : jPo) (x1 : Int32) (S : (Nat → Int32)) (ar : jSc) (S9 : (Nat → Int32)) (ar9 : jSc), F x1 S ar = some (S9, ar9) → Post none (va_up sc 0 S9) rf ar9 al → gW X 15 e 0 (j_av [.ref 0, .int x1]) [] (va_up sc 0 S) rf ar al Post
def rF_15 (x1 : Int32) (S : (Nat → Int32)) (ar : jSc) : Option ((Nat → Int32) × jSc) :=
  (o_b2 (rF_7 S ar) (fun Se1 are1 => (o_b3 (rF_6 (Se1 5) Se1 are1) (fun ve2 Se2 are2 => (if ve2 = x1 then some ((upd Se2 5 ((Se2 5) + (1 : Int32))), are2) else (o_b2 (rF_8 (1 : Int32) (Se2 5) Se2 are2) (fun Se4 are4 => some (Se4, are4))))))))
set_option maxHeartbeats 4000000 in
theorem rt_15 {X : jX} (hX : j_LK (g_n X) (g_L X)) (hr : g_rs X = r_sh) {rf : jRf} (hrf : rf 0 = r_rf) {d : Nat} : rT_15 X rf rF_15 (d + 3) := by
  intro sc al Post x1 S ar S9 ar9 h hP
  unfold rF_15 at h
  refine gl_entry (m := 0) rfl ?_
  show gL X 15 (d + 3) 0 [some (.ref 0), some (.int x1)] [] (va_up sc 0 S) rf ar al Post
  refine gl_aload_n hX q_15_0 rfl rfl ?_
  obtain ⟨Se1, are1, e1, h⟩ := o_k2 h
  refine gl_callV hX q_15_1 (qm_151 (by decide)) rfl rfl rfl (qs_0 hr) qx_7 rfl rfl ((rt_7 hX hr hrf) _ _ _  _ _ _ _ e1 ?_)
  refine gl_aload_n hX q_15_4 rfl rfl ?_
  refine gl_aload_n hX q_15_5 rfl rfl ?_
  refine gl_get hX q_15_6 (qf_138 (by decide)) (qs_0 hr) rfl qk_5 rfl rfl ?_
  obtain ⟨ve2, Se2, are2, e2, h⟩ := o_k3 h
  refine gl_callV hX q_15_9 (qm_141 (by decide)) rfl rfl rfl (qs_0 hr) qx_6 rfl rfl ((rt_6 hX hr hrf) _ _ _ _ _ _ _ _ _ e2 ?_)
  refine gl_iload_n hX q_15_12 rfl rfl ?_
  refine gl_ic_ne hX q_15_13 rfl rfl (fun c3 => ?_) (fun c3 => ?_)
  · have h := (if_pos c3).symm.trans h
    refine gl_aload_n hX q_15_16 rfl rfl ?_
    refine gl_dup hX q_15_17 rfl rfl ?_
    refine gl_get hX q_15_18 (qf_138 (by decide)) (qs_0 hr) rfl qk_5 rfl rfl ?_
    refine gl_iconst hX q_15_21 ci_1 rfl ?_
    refine gl_iadd hX q_15_22 rfl ?_
    refine gl_put hX q_15_23 (qf_138 (by decide)) (qs_0 hr) rfl qk_5 rfl ru rfl ?_
    refine gl_goto hX q_15_26 rfl ?_
    exact gl_return q_15_38 qr_15 (by cases h; exact hP)
  · have h := (if_neg c3).symm.trans h
    refine gl_aload_n hX q_15_29 rfl rfl ?_
    refine gl_iconst hX q_15_30 ci_1 rfl ?_
    refine gl_aload_n hX q_15_31 rfl rfl ?_
    refine gl_get hX q_15_32 (qf_138 (by decide)) (qs_0 hr) rfl qk_5 rfl rfl ?_
    obtain ⟨Se4, are4, e4, h⟩ := o_k2 h
    refine gl_callV hX q_15_35 (qm_166 (by decide)) rfl rfl rfl (qs_0 hr) qx_8 rfl rfl ((rt_8 hX hr hrf) _ _ _ _ _ _ _ _ _ e4 ?_)
    exact gl_return q_15_38 qr_15 (by cases h; exact hP)
/-- ClickOrdersModel.digits(I)I -/
def rT_16 (X : jX) (rf : jRf) (F : Int32 → (Nat → Int32) → jSc → Option (Int32 × (Nat → Int32) × jSc)) (e : Nat) : Prop := ∀ (sc : jSc) (al : jAl) (Post : jPo) (x1 : Int32) (S : (Nat → Int32)) (ar : jSc) (r9 : Int32) (S9 : (Nat → Int32)) (ar9 : jSc), F x1 S ar = some (r9, S9, ar9) → Post (some (.int r9)) (va_up sc 0 S9) rf ar9 al → gW X 16 e 0 (j_av [.ref 0, .int x1]) [] (va_up sc 0 S) rf ar al Post
def rF_16_34 : Nat → Int32 → Int32 → Int32 → (Nat → Int32) → jSc → Option (Int32 × (Nat → Int32) × jSc)
  | 0, _, _, _, _, _ => none
  | nn + 1, x1, x2, x3, S, ar => (o_b3 (rF_6 (S 5) S ar) (fun ve1 Se1 are1 => (o_b3 (rF_9 ve1 Se1 are1) (fun ve2 Se2 are2 => (if ve2 = 0 then (if x3 ≤ x1 then some (x3, Se2, are2) else (o_b2 (rF_8 (2 : Int32) x2 Se2 are2) (fun Se5 are5 => some (x3, Se5, are5)))) else (o_b3 (rF_6 (Se2 5) Se2 are2) (fun ve6 Se6 are6 => (if ((((10 : Int32) * x3) + ve6) - (48 : Int32)) ≤ (100000 : Int32) then rF_16_34 nn x1 x2 ((((10 : Int32) * x3) + ve6) - (48 : Int32)) (upd Se6 5 ((Se6 5) + (1 : Int32))) are6 else rF_16_34 nn x1 x2 (100000 : Int32) (upd Se6 5 ((Se6 5) + (1 : Int32))) are6))))))))
set_option maxHeartbeats 4000000 in
theorem rt_16_34 {X : jX} (hX : j_LK (g_n X) (g_L X)) (hr : g_rs X = r_sh) {rf : jRf} (hrf : rf 0 = r_rf) {d : Nat} {sc : jSc} {al : jAl} {Post : jPo} {r9 : Int32} {S9 : (Nat → Int32)} {ar9 : jSc} (hP : Post (some (.int r9)) (va_up sc 0 S9) rf ar9 al) : ∀ (nn : Nat) (x1 : Int32) (x2 : Int32) (x3 : Int32) (S : (Nat → Int32)) (ar : jSc), rF_16_34 nn x1 x2 x3 S ar = some (r9, S9, ar9) → gL X 16 (d + 3) 34 [some (.ref 0), some (.int x1), some (.int x2), some (.int x3)] [] (va_up sc 0 S) rf ar al Post := by
  intro nn
  induction nn with
  | zero =>
    intro x1 x2 x3 S ar h
    have h : (none : Option (Int32 × (Nat → Int32) × jSc)) = some _ := h
    cases h
  | succ nn ih =>
    intro x1 x2 x3 S ar h
    unfold rF_16_34 at h
    refine gl_aload_n hX q_16_34 rfl rfl ?_
    refine gl_aload_n hX q_16_35 rfl rfl ?_
    refine gl_get hX q_16_36 (qf_138 (by decide)) (qs_0 hr) rfl qk_5 rfl rfl ?_
    obtain ⟨ve1, Se1, are1, e1, h⟩ := o_k3 h
    refine gl_callV hX q_16_39 (qm_141 (by decide)) rfl rfl rfl (qs_0 hr) qx_6 rfl rfl ((rt_6 hX hr hrf) _ _ _ _ _ _ _ _ _ e1 ?_)
    obtain ⟨ve2, Se2, are2, e2, h⟩ := o_k3 h
    refine gl_callS q_16_42 (qm_170 (by decide)) rfl rfl rfl qx_9 rfl rfl ((rt_9 hX hr hrf) _ _ _ _ _ _ _ _ _ e2 ?_)
    refine gl_if_eq hX q_16_45 rfl rfl (fun c3 => ?_) (fun c3 => ?_)
    · have h := (if_pos c3).symm.trans h
      refine gl_iload_n hX q_16_91 rfl rfl ?_
      refine gl_iload_n hX q_16_92 rfl rfl ?_
      refine gl_ic_le hX q_16_93 rfl rfl (fun c4 => ?_) (fun c4 => ?_)
      · have h := (if_pos c4).symm.trans h
        refine gl_iload_n hX q_16_102 rfl rfl ?_
        exact gl_ireturn q_16_103 (Or.inl qr_16) (by cases h; exact hP)
      · have h := (if_neg c4).symm.trans h
        refine gl_aload_n hX q_16_96 rfl rfl ?_
        refine gl_iconst hX q_16_97 ci_2 rfl ?_
        refine gl_iload_n hX q_16_98 rfl rfl ?_
        obtain ⟨Se5, are5, e5, h⟩ := o_k2 h
        refine gl_callV hX q_16_99 (qm_166 (by decide)) rfl rfl rfl (qs_0 hr) qx_8 rfl rfl ((rt_8 hX hr hrf) _ _ _ _ _ _ _ _ _ e5 ?_)
        refine gl_iload_n hX q_16_102 rfl rfl ?_
        exact gl_ireturn q_16_103 (Or.inl qr_16) (by cases h; exact hP)
    · have h := (if_neg c3).symm.trans h
      refine gl_bipush hX q_16_48 cb_10 rfl ?_
      refine gl_iload_n hX q_16_50 rfl rfl ?_
      refine gl_imul hX q_16_51 rfl ?_
      refine gl_aload_n hX q_16_52 rfl rfl ?_
      refine gl_aload_n hX q_16_53 rfl rfl ?_
      refine gl_get hX q_16_54 (qf_138 (by decide)) (qs_0 hr) rfl qk_5 rfl rfl ?_
      obtain ⟨ve6, Se6, are6, e6, h⟩ := o_k3 h
      refine gl_callV hX q_16_57 (qm_141 (by decide)) rfl rfl rfl (qs_0 hr) qx_6 rfl rfl ((rt_6 hX hr hrf) _ _ _ _ _ _ _ _ _ e6 ?_)
      refine gl_iadd hX q_16_60 rfl ?_
      refine gl_bipush hX q_16_61 cb_48 rfl ?_
      refine gl_isub hX q_16_63 rfl ?_
      refine gl_istore_n (vs2 := [some (.ref 0), some (.int x1), some (.int x2), some (.int ((((10 : Int32) * x3) + ve6) - (48 : Int32)))]) hX q_16_64 rfl rfl rfl rfl ?_
      refine gl_iload_n hX q_16_65 rfl rfl ?_
      refine gl_ldc hX q_16_66 (qc_173 (by decide)) rfl ?_
      refine gl_ic_le hX q_16_68 rfl rfl (fun c7 => ?_) (fun c7 => ?_)
      · have h := (if_pos c7).symm.trans h
        refine gl_iload_n hX q_16_76 rfl rfl ?_
        refine gl_istore_n (vs2 := [some (.ref 0), some (.int x1), some (.int x2), some (.int ((((10 : Int32) * x3) + ve6) - (48 : Int32)))]) hX q_16_77 rfl rfl rfl rfl ?_
        refine gl_aload_n hX q_16_78 rfl rfl ?_
        refine gl_dup hX q_16_79 rfl rfl ?_
        refine gl_get hX q_16_80 (qf_138 (by decide)) (qs_0 hr) rfl qk_5 rfl rfl ?_
        refine gl_iconst hX q_16_83 ci_1 rfl ?_
        refine gl_iadd hX q_16_84 rfl ?_
        refine gl_put hX q_16_85 (qf_138 (by decide)) (qs_0 hr) rfl qk_5 rfl ru rfl ?_
        refine gl_goto hX q_16_88 rfl ?_
        exact gl_weak (vs := [some (.ref 0), some (.int x1), some (.int x2), some (.int ((((10 : Int32) * x3) + ve6) - (48 : Int32)))]) ⟨rfl, rfl, rfl, rfl, trivial⟩ (ih x1 x2 ((((10 : Int32) * x3) + ve6) - (48 : Int32)) (upd Se6 5 ((Se6 5) + (1 : Int32))) are6 h)
      · have h := (if_neg c7).symm.trans h
        refine gl_ldc hX q_16_71 (qc_173 (by decide)) rfl ?_
        refine gl_goto hX q_16_73 rfl ?_
        refine gl_istore_n (vs2 := [some (.ref 0), some (.int x1), some (.int x2), some (.int (100000 : Int32))]) hX q_16_77 rfl rfl rfl rfl ?_
        refine gl_aload_n hX q_16_78 rfl rfl ?_
        refine gl_dup hX q_16_79 rfl rfl ?_
        refine gl_get hX q_16_80 (qf_138 (by decide)) (qs_0 hr) rfl qk_5 rfl rfl ?_
        refine gl_iconst hX q_16_83 ci_1 rfl ?_
        refine gl_iadd hX q_16_84 rfl ?_
        refine gl_put hX q_16_85 (qf_138 (by decide)) (qs_0 hr) rfl qk_5 rfl ru rfl ?_
        refine gl_goto hX q_16_88 rfl ?_
        exact gl_weak (vs := [some (.ref 0), some (.int x1), some (.int x2), some (.int (100000 : Int32))]) ⟨rfl, rfl, rfl, rfl, trivial⟩ (ih x1 x2 (100000 : Int32) (upd Se6 5 ((Se6 5) + (1 : Int32))) are6 h)
def rF_16 (x1 : Int32) (S : (Nat → Int32)) (ar : jSc) : Option (Int32 × (Nat → Int32) × jSc) :=
  (o_b2 (rF_7 S ar) (fun Se8 are8 => (o_b3 (rF_6 (Se8 5) Se8 are8) (fun ve9 Se9 are9 => (o_b3 (rF_9 ve9 Se9 are9) (fun ve10 Se10 are10 => (if ve10 = 0 then (o_b2 (rF_8 (1 : Int32) (Se10 5) Se10 are10) (fun Se12 are12 => rF_16_34 oF x1 (Se8 5) (0 : Int32) Se12 are12)) else rF_16_34 oF x1 (Se8 5) (0 : Int32) Se10 are10)))))))
set_option maxHeartbeats 4000000 in
theorem rt_16 {X : jX} (hX : j_LK (g_n X) (g_L X)) (hr : g_rs X = r_sh) {rf : jRf} (hrf : rf 0 = r_rf) {d : Nat} : rT_16 X rf rF_16 (d + 3) := by
  intro sc al Post x1 S ar r9 S9 ar9 h hP
  unfold rF_16 at h
  refine gl_entry (m := 2) rfl ?_
  show gL X 16 (d + 3) 0 [some (.ref 0), some (.int x1), none, none] [] (va_up sc 0 S) rf ar al Post
  refine gl_aload_n hX q_16_0 rfl rfl ?_
  obtain ⟨Se8, are8, e8, h⟩ := o_k2 h
  refine gl_callV hX q_16_1 (qm_151 (by decide)) rfl rfl rfl (qs_0 hr) qx_7 rfl rfl ((rt_7 hX hr hrf) _ _ _  _ _ _ _ e8 ?_)
  refine gl_aload_n hX q_16_4 rfl rfl ?_
  refine gl_get hX q_16_5 (qf_138 (by decide)) (qs_0 hr) rfl qk_5 rfl rfl ?_
  refine gl_istore_n (vs2 := [some (.ref 0), some (.int x1), some (.int (Se8 5)), none]) hX q_16_8 rfl rfl rfl rfl ?_
  refine gl_iconst hX q_16_9 ci_0 rfl ?_
  refine gl_istore_n (vs2 := [some (.ref 0), some (.int x1), some (.int (Se8 5)), some (.int (0 : Int32))]) hX q_16_10 rfl rfl rfl rfl ?_
  refine gl_aload_n hX q_16_11 rfl rfl ?_
  refine gl_aload_n hX q_16_12 rfl rfl ?_
  refine gl_get hX q_16_13 (qf_138 (by decide)) (qs_0 hr) rfl qk_5 rfl rfl ?_
  obtain ⟨ve9, Se9, are9, e9, h⟩ := o_k3 h
  refine gl_callV hX q_16_16 (qm_141 (by decide)) rfl rfl rfl (qs_0 hr) qx_6 rfl rfl ((rt_6 hX hr hrf) _ _ _ _ _ _ _ _ _ e9 ?_)
  obtain ⟨ve10, Se10, are10, e10, h⟩ := o_k3 h
  refine gl_callS q_16_19 (qm_170 (by decide)) rfl rfl rfl qx_9 rfl rfl ((rt_9 hX hr hrf) _ _ _ _ _ _ _ _ _ e10 ?_)
  refine gl_if_ne hX q_16_22 rfl rfl (fun c11 => ?_) (fun c11 => ?_)
  · have h := (if_pos c11).symm.trans h
    refine gl_aload_n hX q_16_25 rfl rfl ?_
    refine gl_iconst hX q_16_26 ci_1 rfl ?_
    refine gl_aload_n hX q_16_27 rfl rfl ?_
    refine gl_get hX q_16_28 (qf_138 (by decide)) (qs_0 hr) rfl qk_5 rfl rfl ?_
    obtain ⟨Se12, are12, e12, h⟩ := o_k2 h
    refine gl_callV hX q_16_31 (qm_166 (by decide)) rfl rfl rfl (qs_0 hr) qx_8 rfl rfl ((rt_8 hX hr hrf) _ _ _ _ _ _ _ _ _ e12 ?_)
    exact gl_weak (vs := [some (.ref 0), some (.int x1), some (.int (Se8 5)), some (.int (0 : Int32))]) ⟨rfl, rfl, rfl, rfl, trivial⟩ (rt_16_34 hX hr hrf hP oF x1 (Se8 5) (0 : Int32) Se12 are12 h)
  · have h := (if_neg c11).symm.trans h
    exact gl_weak (vs := [some (.ref 0), some (.int x1), some (.int (Se8 5)), some (.int (0 : Int32))]) ⟨rfl, rfl, rfl, rfl, trivial⟩ (rt_16_34 hX hr hrf hP oF x1 (Se8 5) (0 : Int32) Se10 are10 h)
