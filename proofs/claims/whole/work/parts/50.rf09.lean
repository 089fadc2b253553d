/-! THE REFERENCE: its methods as functions, and that the machine does what they say. -/
/-- ClickOrdersModel.turn(II)I -/
def rT_83 (X : jX) (rf : jRf) (F : Int32 → Int32 → (Nat → Int32) → jSc → Option (Int32 × (Nat → Int32) × jSc)) (e : Nat) : Prop := ∀ (sc : jSc) (al : jAl) (Post : jPo) (x1 : Int32) (x2 : Int32) (S : (Nat → Int32)) (ar : jSc) (r9 : Int32) (S9 : (Nat → Int32)) (ar9 : jSc), F x1 x2 S ar = some (r9, S9, ar9) → Post (some (.int r9)) (va_up sc 0 S9) rf ar9 al → gW X 83 e 0 (j_av [.ref 0, .int x1, .int x2]) [] (va_up sc 0 S) rf ar al Post
def rF_83_27 (x1 : Int32) (x2 : Int32) (y0 : Int32) (S : (Nat → Int32)) (ar : jSc) : Option (Int32 × (Nat → Int32) × jSc) :=
  (o_b3 (rF_3 y0 (1 : Int32) S ar) (fun ve1 Se1 are1 => (if ve1 = 0 then (o_b2 (rF_72 Se1 are1) (fun Se3 are3 => (o_b3 (rF_74 x1 x2 Se3 are3) (fun ve4 Se4 are4 => (if ve4 = 0 then some ((-1 : Int32), Se4, are4) else (if x2 ≤ x1 then (o_b3 (rF_81 x2 x1 Se4 are4) (fun ve7 Se7 are7 => some (ve7, Se7, are7))) else (o_b3 (rF_81 x1 x2 Se4 are4) (fun ve8 Se8 are8 => some (ve8, Se8, are8))))))))) else some ((0 : Int32), Se1, are1))))
set_option maxHeartbeats 4000000 in
theorem rt_83_27 {X : jX} (hX : j_LK (g_n X) (g_L X)) (hr : g_rs X = r_sh) {rf : jRf} (hrf : rf 0 = r_rf) {d : Nat} {sc : jSc} {al : jAl} {Post : jPo} {r9 : Int32} {S9 : (Nat → Int32)} {ar9 : jSc} (hP : Post (some (.int r9)) (va_up sc 0 S9) rf ar9 al) (x1 : Int32) (x2 : Int32) (y0 : Int32) (S : (Nat → Int32)) (ar : jSc) (h : rF_83_27 x1 x2 y0 S ar = some (r9, S9, ar9)) : gL X 83 (d + 129) 27 [some (.ref 0), some (.int x1), some (.int x2)] [.int y0, .ref 0] (va_up sc 0 S) rf ar al Post := by
  unfold rF_83_27 at h
  refine gl_iconst hX q_83_27 ci_1 rfl ?_
  obtain ⟨ve1, Se1, are1, e1, h⟩ := o_k3 h
  refine gl_callV hX q_83_28 (qm_306 (by decide)) rfl rfl rfl (qs_0 hr) qx_3 rfl rfl ((rt_3 hX hr hrf) _ _ _ _ _ _ _ _ _ _ e1 ?_)
  refine gl_if_eq hX q_83_31 rfl rfl (fun c2 => ?_) (fun c2 => ?_)
  · have h := (if_pos c2).symm.trans h
    refine gl_aload_n hX q_83_36 rfl rfl ?_
    obtain ⟨Se3, are3, e3, h⟩ := o_k2 h
    refine gl_callV hX q_83_37 (qm_371 (by decide)) rfl rfl rfl (qs_0 hr) qx_72 rfl rfl ((rt_72 hX hr hrf) _ _ _  _ _ _ _ e3 ?_)
    refine gl_aload_n hX q_83_40 rfl rfl ?_
    refine gl_iload_n hX q_83_41 rfl rfl ?_
    refine gl_iload_n hX q_83_42 rfl rfl ?_
    obtain ⟨ve4, Se4, are4, e4, h⟩ := o_k3 h
    refine gl_callV hX q_83_43 (qm_374 (by decide)) rfl rfl rfl (qs_0 hr) qx_74 rfl rfl ((rt_74 hX hr hrf) _ _ _ _ _ _ _ _ _ _ e4 ?_)
    refine gl_if_ne hX q_83_46 rfl rfl (fun c5 => ?_) (fun c5 => ?_)
    · have h := (if_pos c5).symm.trans h
      refine gl_iconst hX q_83_49 ci_m1 rfl ?_
      exact gl_ireturn q_83_50 (Or.inl qr_83) (by cases h; exact hP)
    · have h := (if_neg c5).symm.trans h
      refine gl_iload_n hX q_83_51 rfl rfl ?_
      refine gl_iload_n hX q_83_52 rfl rfl ?_
      refine gl_ic_ge hX q_83_53 rfl rfl (fun c6 => ?_) (fun c6 => ?_)
      · have h := (if_pos c6).symm.trans h
        refine gl_aload_n hX q_83_65 rfl rfl ?_
        refine gl_iload_n hX q_83_66 rfl rfl ?_
        refine gl_iload_n hX q_83_67 rfl rfl ?_
        obtain ⟨ve7, Se7, are7, e7, h⟩ := o_k3 h
        refine gl_callV hX q_83_68 (qm_390 (by decide)) rfl rfl rfl (qs_0 hr) qx_81 rfl rfl ((rt_81 hX hr hrf) _ _ _ _ _ _ _ _ _ _ e7 ?_)
        exact gl_ireturn q_83_71 (Or.inl qr_83) (by cases h; exact hP)
      · have h := (if_neg c6).symm.trans h
        refine gl_aload_n hX q_83_56 rfl rfl ?_
        refine gl_iload_n hX q_83_57 rfl rfl ?_
        refine gl_iload_n hX q_83_58 rfl rfl ?_
        obtain ⟨ve8, Se8, are8, e8, h⟩ := o_k3 h
        refine gl_callV hX q_83_59 (qm_390 (by decide)) rfl rfl rfl (qs_0 hr) qx_81 rfl rfl ((rt_81 hX hr hrf) _ _ _ _ _ _ _ _ _ _ e8 ?_)
        refine gl_goto hX q_83_62 rfl ?_
        exact gl_ireturn q_83_71 (Or.inl qr_83) (by cases h; exact hP)
  · have h := (if_neg c2).symm.trans h
    refine gl_iconst hX q_83_34 ci_0 rfl ?_
    exact gl_ireturn q_83_35 (Or.inl qr_83) (by cases h; exact hP)
def rF_83 (x1 : Int32) (x2 : Int32) (S : (Nat → Int32)) (ar : jSc) : Option (Int32 × (Nat → Int32) × jSc) :=
  (o_b3 (rF_69 x1 (upd S 0 (0 : Int32)) ar) (fun ve9 Se9 are9 => (if ve9 = 0 then rF_83_27 x1 x2 (1 : Int32) Se9 are9 else (o_b3 (rF_69 x2 Se9 are9) (fun ve11 Se11 are11 => (if ve11 = 0 then rF_83_27 x1 x2 (1 : Int32) Se11 are11 else rF_83_27 x1 x2 (0 : Int32) Se11 are11))))))
set_option maxHeartbeats 4000000 in
theorem rt_83 {X : jX} (hX : j_LK (g_n X) (g_L X)) (hr : g_rs X = r_sh) {rf : jRf} (hrf : rf 0 = r_rf) {d : Nat} : rT_83 X rf rF_83 (d + 129) := by
  intro sc al Post x1 x2 S ar r9 S9 ar9 h hP
  unfold rF_83 at h
  refine gl_entry (m := 0) rfl ?_
  show gL X 83 (d + 129) 0 [some (.ref 0), some (.int x1), some (.int x2)] [] (va_up sc 0 S) rf ar al Post
  refine gl_aload_n hX q_83_0 rfl rfl ?_
  refine gl_iconst hX q_83_1 ci_0 rfl ?_
  refine gl_put hX q_83_2 (qf_126 (by decide)) (qs_0 hr) rfl qk_0 rfl ru rfl ?_
  refine gl_aload_n hX q_83_5 rfl rfl ?_
  refine gl_aload_n hX q_83_6 rfl rfl ?_
  refine gl_iload_n hX q_83_7 rfl rfl ?_
  obtain ⟨ve9, Se9, are9, e9, h⟩ := o_k3 h
  refine gl_callV hX q_83_8 (qm_365 (by decide)) rfl rfl rfl (qs_0 hr) qx_69 rfl rfl ((rt_69 hX hr hrf) _ _ _ _ _ _ _ _ _ e9 ?_)
  refine gl_if_eq hX q_83_11 rfl rfl (fun c10 => ?_) (fun c10 => ?_)
  · have h := (if_pos c10).symm.trans h
    refine gl_iconst hX q_83_22 ci_1 rfl ?_
    refine gl_goto hX q_83_23 rfl ?_
    exact gl_weak (vs := [some (.ref 0), some (.int x1), some (.int x2)]) ⟨rfl, rfl, rfl, trivial⟩ (rt_83_27 hX hr hrf hP x1 x2 (1 : Int32) Se9 are9 h)
  · have h := (if_neg c10).symm.trans h
    refine gl_aload_n hX q_83_14 rfl rfl ?_
    refine gl_iload_n hX q_83_15 rfl rfl ?_
    obtain ⟨ve11, Se11, are11, e11, h⟩ := o_k3 h
    refine gl_callV hX q_83_16 (qm_365 (by decide)) rfl rfl rfl (qs_0 hr) qx_69 rfl rfl ((rt_69 hX hr hrf) _ _ _ _ _ _ _ _ _ e11 ?_)
    refine gl_if_ne hX q_83_19 rfl rfl (fun c12 => ?_) (fun c12 => ?_)
    · have h := (if_pos c12).symm.trans h
      refine gl_iconst hX q_83_22 ci_1 rfl ?_
      refine gl_goto hX q_83_23 rfl ?_
      exact gl_weak (vs := [some (.ref 0), some (.int x1), some (.int x2)]) ⟨rfl, rfl, rfl, trivial⟩ (rt_83_27 hX hr hrf hP x1 x2 (1 : Int32) Se11 are11 h)
    · have h := (if_neg c12).symm.trans h
      refine gl_iconst hX q_83_26 ci_0 rfl ?_
      exact gl_weak (vs := [some (.ref 0), some (.int x1), some (.int x2)]) ⟨rfl, rfl, rfl, trivial⟩ (rt_83_27 hX hr hrf hP x1 x2 (0 : Int32) Se11 are11 h)
/-- ClickOrdersModel.sorts(I)I -/
def rT_84 (X : jX) (rf : jRf) (F : Int32 → (Nat → Int32) → jSc → Option (Int32 × (Nat → Int32) × jSc)) (e : Nat) : Prop := ∀ (sc : jSc) (al : jAl) (Post : jPo) (x1 : Int32) (S : (Nat → Int32)) (ar : jSc) (r9 : Int32) (S9 : (Nat → Int32)) (ar9 : jSc), F x1 S ar = some (r9, S9, ar9) → Post (some (.int r9)) (va_up sc 0 S9) rf ar9 al → gW X 84 e 0 (j_av [.ref 0, .int x1]) [] (va_up sc 0 S) rf ar al Post
def rF_84_50 (k37 : Int32 → Int32 → Int32 → (Nat → Int32) → jSc → Option (Int32 × (Nat → Int32) × jSc)) : Nat → Int32 → Int32 → Int32 → Int32 → (Nat → Int32) → jSc → Option (Int32 × (Nat → Int32) × jSc)
  | 0, _, _, _, _, _, _ => none
  | nn + 1, x1, x2, x3, x4, S, ar => (if (S 31) ≤ x4 then k37 x1 x2 (x3 + (1 : Int32)) S ar else (o_b3 (rF_74 x3 x4 S ar) (fun ve2 Se2 are2 => (if ve2 = 0 then rF_84_50 k37 nn x1 x2 x3 (x4 + (1 : Int32)) Se2 are2 else (o_b3 (rF_81 x3 x4 Se2 are2) (fun ve4 Se4 are4 => (if ve4 = x1 then rF_84_50 k37 nn x1 (x2 + (1 : Int32)) x3 (x4 + (1 : Int32)) Se4 are4 else rF_84_50 k37 nn x1 x2 x3 (x4 + (1 : Int32)) Se4 are4)))))))
set_option maxHeartbeats 4000000 in
theorem rt_84_50 {X : jX} (hX : j_LK (g_n X) (g_L X)) (hr : g_rs X = r_sh) {rf : jRf} (hrf : rf 0 = r_rf) {d : Nat} {sc : jSc} {al : jAl} {Post : jPo} {r9 : Int32} {S9 : (Nat → Int32)} {ar9 : jSc} {k37 : Int32 → Int32 → Int32 → (Nat → Int32) → jSc → Option (Int32 × (Nat → Int32) × jSc)} (hk37 : ∀ (x1 : Int32) (x2 : Int32) (x3 : Int32) (S : (Nat → Int32)) (ar : jSc), k37 x1 x2 x3 S ar = some (r9, S9, ar9) → gL X 84 (d + 129) 37 [some (.ref 0), some (.int x1), some (.int x2), some (.int x3), none] [] (va_up sc 0 S) rf ar al Post) (hP : Post (some (.int r9)) (va_up sc 0 S9) rf ar9 al) : ∀ (nn : Nat) (x1 : Int32) (x2 : Int32) (x3 : Int32) (x4 : Int32) (S : (Nat → Int32)) (ar : jSc), rF_84_50 k37 nn x1 x2 x3 x4 S ar = some (r9, S9, ar9) → gL X 84 (d + 129) 50 [some (.ref 0), some (.int x1), some (.int x2), some (.int x3), some (.int x4)] [] (va_up sc 0 S) rf ar al Post := by
  intro nn
  induction nn with
  | zero =>
    intro x1 x2 x3 x4 S ar h
    have h : (none : Option (Int32 × (Nat → Int32) × jSc)) = some _ := h
    cases h
  | succ nn ih =>
    intro x1 x2 x3 x4 S ar h
    unfold rF_84_50 at h
    refine gl_iload hX q_84_50 rfl rfl ?_
    refine gl_aload_n hX q_84_52 rfl rfl ?_
    refine gl_get hX q_84_53 (qf_341 (by decide)) (qs_0 hr) rfl qk_31 rfl rfl ?_
    refine gl_ic_ge hX q_84_56 rfl rfl (fun c1 => ?_) (fun c1 => ?_)
    · have h := (if_pos c1).symm.trans h
      refine gl_iinc (vs2 := [some (.ref 0), some (.int x1), some (.int x2), some (.int (x3 + (1 : Int32))), some (.int x4)]) hX q_84_89 rfl rfl rfl ci_1 rfl rfl ?_
      refine gl_goto hX q_84_92 rfl ?_
      exact gl_weak (vs := [some (.ref 0), some (.int x1), some (.int x2), some (.int (x3 + (1 : Int32))), none]) ⟨rfl, rfl, rfl, rfl, trivial⟩ (hk37 x1 x2 (x3 + (1 : Int32)) S ar h)
    · have h := (if_neg c1).symm.trans h
      refine gl_aload_n hX q_84_59 rfl rfl ?_
      refine gl_iload_n hX q_84_60 rfl rfl ?_
      refine gl_iload hX q_84_61 rfl rfl ?_
      obtain ⟨ve2, Se2, are2, e2, h⟩ := o_k3 h
      refine gl_callV hX q_84_63 (qm_374 (by decide)) rfl rfl rfl (qs_0 hr) qx_74 rfl rfl ((rt_74 hX hr hrf) _ _ _ _ _ _ _ _ _ _ e2 ?_)
      refine gl_if_eq hX q_84_66 rfl rfl (fun c3 => ?_) (fun c3 => ?_)
      · have h := (if_pos c3).symm.trans h
        refine gl_iinc (vs2 := [some (.ref 0), some (.int x1), some (.int x2), some (.int x3), some (.int (x4 + (1 : Int32)))]) hX q_84_83 rfl rfl rfl ci_1 rfl rfl ?_
        refine gl_goto hX q_84_86 rfl ?_
        exact gl_weak (vs := [some (.ref 0), some (.int x1), some (.int x2), some (.int x3), some (.int (x4 + (1 : Int32)))]) ⟨rfl, rfl, rfl, rfl, rfl, trivial⟩ (ih x1 x2 x3 (x4 + (1 : Int32)) Se2 are2 h)
      · have h := (if_neg c3).symm.trans h
        refine gl_aload_n hX q_84_69 rfl rfl ?_
        refine gl_iload_n hX q_84_70 rfl rfl ?_
        refine gl_iload hX q_84_71 rfl rfl ?_
        obtain ⟨ve4, Se4, are4, e4, h⟩ := o_k3 h
        refine gl_callV hX q_84_73 (qm_390 (by decide)) rfl rfl rfl (qs_0 hr) qx_81 rfl rfl ((rt_81 hX hr hrf) _ _ _ _ _ _ _ _ _ _ e4 ?_)
        refine gl_iload_n hX q_84_76 rfl rfl ?_
        refine gl_ic_ne hX q_84_77 rfl rfl (fun c5 => ?_) (fun c5 => ?_)
        · have h := (if_pos c5).symm.trans h
          refine gl_iinc (vs2 := [some (.ref 0), some (.int x1), some (.int (x2 + (1 : Int32))), some (.int x3), some (.int x4)]) hX q_84_80 rfl rfl rfl ci_1 rfl rfl ?_
          refine gl_iinc (vs2 := [some (.ref 0), some (.int x1), some (.int (x2 + (1 : Int32))), some (.int x3), some (.int (x4 + (1 : Int32)))]) hX q_84_83 rfl rfl rfl ci_1 rfl rfl ?_
          refine gl_goto hX q_84_86 rfl ?_
          exact gl_weak (vs := [some (.ref 0), some (.int x1), some (.int (x2 + (1 : Int32))), some (.int x3), some (.int (x4 + (1 : Int32)))]) ⟨rfl, rfl, rfl, rfl, rfl, trivial⟩ (ih x1 (x2 + (1 : Int32)) x3 (x4 + (1 : Int32)) Se4 are4 h)
        · have h := (if_neg c5).symm.trans h
          refine gl_iinc (vs2 := [some (.ref 0), some (.int x1), some (.int x2), some (.int x3), some (.int (x4 + (1 : Int32)))]) hX q_84_83 rfl rfl rfl ci_1 rfl rfl ?_
          refine gl_goto hX q_84_86 rfl ?_
          exact gl_weak (vs := [some (.ref 0), some (.int x1), some (.int x2), some (.int x3), some (.int (x4 + (1 : Int32)))]) ⟨rfl, rfl, rfl, rfl, rfl, trivial⟩ (ih x1 x2 x3 (x4 + (1 : Int32)) Se4 are4 h)
def rF_84_37 : Nat → Int32 → Int32 → Int32 → (Nat → Int32) → jSc → Option (Int32 × (Nat → Int32) × jSc)
  | 0, _, _, _, _, _ => none
  | nn + 1, x1, x2, x3, S, ar => (if (S 31) ≤ x3 then some (x2, S, ar) else rF_84_50 (fun x1_ x2_ x3_ S_ ar_ => rF_84_37 nn x1_ x2_ x3_ S_ ar_) oF x1 x2 x3 (x3 + (1 : Int32)) S ar)
set_option maxHeartbeats 4000000 in
theorem rt_84_37 {X : jX} (hX : j_LK (g_n X) (g_L X)) (hr : g_rs X = r_sh) {rf : jRf} (hrf : rf 0 = r_rf) {d : Nat} {sc : jSc} {al : jAl} {Post : jPo} {r9 : Int32} {S9 : (Nat → Int32)} {ar9 : jSc} (hP : Post (some (.int r9)) (va_up sc 0 S9) rf ar9 al) : ∀ (nn : Nat) (x1 : Int32) (x2 : Int32) (x3 : Int32) (S : (Nat → Int32)) (ar : jSc), rF_84_37 nn x1 x2 x3 S ar = some (r9, S9, ar9) → gL X 84 (d + 129) 37 [some (.ref 0), some (.int x1), some (.int x2), some (.int x3), none] [] (va_up sc 0 S) rf ar al Post := by
  intro nn
  induction nn with
  | zero =>
    intro x1 x2 x3 S ar h
    have h : (none : Option (Int32 × (Nat → Int32) × jSc)) = some _ := h
    cases h
  | succ nn ih =>
    intro x1 x2 x3 S ar h
    unfold rF_84_37 at h
    refine gl_iload_n hX q_84_37 rfl rfl ?_
    refine gl_aload_n hX q_84_38 rfl rfl ?_
    refine gl_get hX q_84_39 (qf_341 (by decide)) (qs_0 hr) rfl qk_31 rfl rfl ?_
    refine gl_ic_ge hX q_84_42 rfl rfl (fun c6 => ?_) (fun c6 => ?_)
    · have h := (if_pos c6).symm.trans h
      refine gl_iload_n hX q_84_95 rfl rfl ?_
      exact gl_ireturn q_84_96 (Or.inl qr_84) (by cases h; exact hP)
    · have h := (if_neg c6).symm.trans h
      refine gl_iload_n hX q_84_45 rfl rfl ?_
      refine gl_iconst hX q_84_46 ci_1 rfl ?_
      refine gl_iadd hX q_84_47 rfl ?_
      refine gl_istore (vs2 := [some (.ref 0), some (.int x1), some (.int x2), some (.int x3), some (.int (x3 + (1 : Int32)))]) hX q_84_48 rfl rfl rfl rfl ?_
      exact gl_weak (vs := [some (.ref 0), some (.int x1), some (.int x2), some (.int x3), some (.int (x3 + (1 : Int32)))]) ⟨rfl, rfl, rfl, rfl, rfl, trivial⟩ (rt_84_50 hX hr hrf ih hP oF x1 x2 x3 (x3 + (1 : Int32)) S ar h)
def rF_84 (x1 : Int32) (S : (Nat → Int32)) (ar : jSc) : Option (Int32 × (Nat → Int32) × jSc) :=
  (o_b3 (rF_4 x1 (0 : Int32) (4 : Int32) (upd S 0 (0 : Int32)) ar) (fun ve7 Se7 are7 => (if ve7 = 0 then (o_b3 (rF_3 (1 : Int32) (1 : Int32) Se7 are7) (fun ve9 Se9 are9 => (if ve9 = 0 then (o_b2 (rF_72 Se9 are9) (fun Se11 are11 => rF_84_37 oF x1 (0 : Int32) (0 : Int32) Se11 are11)) else some ((0 : Int32), Se9, are9)))) else (o_b3 (rF_3 (0 : Int32) (1 : Int32) Se7 are7) (fun ve12 Se12 are12 => (if ve12 = 0 then (o_b2 (rF_72 Se12 are12) (fun Se14 are14 => rF_84_37 oF x1 (0 : Int32) (0 : Int32) Se14 are14)) else some ((0 : Int32), Se12, are12)))))))
set_option maxHeartbeats 4000000 in
theorem rt_84 {X : jX} (hX : j_LK (g_n X) (g_L X)) (hr : g_rs X = r_sh) {rf : jRf} (hrf : rf 0 = r_rf) {d : Nat} : rT_84 X rf rF_84 (d + 129) := by
  intro sc al Post x1 S ar r9 S9 ar9 h hP
  unfold rF_84 at h
  refine gl_entry (m := 3) rfl ?_
  show gL X 84 (d + 129) 0 [some (.ref 0), some (.int x1), none, none, none] [] (va_up sc 0 S) rf ar al Post
  refine gl_aload_n hX q_84_0 rfl rfl ?_
  refine gl_iconst hX q_84_1 ci_0 rfl ?_
  refine gl_put hX q_84_2 (qf_126 (by decide)) (qs_0 hr) rfl qk_0 rfl ru rfl ?_
  refine gl_aload_n hX q_84_5 rfl rfl ?_
  refine gl_iload_n hX q_84_6 rfl rfl ?_
  refine gl_iconst hX q_84_7 ci_0 rfl ?_
  refine gl_iconst hX q_84_8 ci_4 rfl ?_
  obtain ⟨ve7, Se7, are7, e7, h⟩ := o_k3 h
  refine gl_callS q_84_9 (qm_247 (by decide)) rfl rfl rfl qx_4 rfl rfl ((rt_4 hX hr hrf) _ _ _ _ _ _ _ _ _ _ _ e7 ?_)
  refine gl_if_ne hX q_84_12 rfl rfl (fun c8 => ?_) (fun c8 => ?_)
  · have h := (if_pos c8).symm.trans h
    refine gl_iconst hX q_84_15 ci_1 rfl ?_
    refine gl_goto hX q_84_16 rfl ?_
    refine gl_iconst hX q_84_20 ci_1 rfl ?_
    obtain ⟨ve9, Se9, are9, e9, h⟩ := o_k3 h
    refine gl_callV hX q_84_21 (qm_306 (by decide)) rfl rfl rfl (qs_0 hr) qx_3 rfl rfl ((rt_3 hX hr hrf) _ _ _ _ _ _ _ _ _ _ e9 ?_)
    refine gl_if_eq hX q_84_24 rfl rfl (fun c10 => ?_) (fun c10 => ?_)
    · have h := (if_pos c10).symm.trans h
      refine gl_aload_n hX q_84_29 rfl rfl ?_
      obtain ⟨Se11, are11, e11, h⟩ := o_k2 h
      refine gl_callV hX q_84_30 (qm_371 (by decide)) rfl rfl rfl (qs_0 hr) qx_72 rfl rfl ((rt_72 hX hr hrf) _ _ _  _ _ _ _ e11 ?_)
      refine gl_iconst hX q_84_33 ci_0 rfl ?_
      refine gl_istore_n (vs2 := [some (.ref 0), some (.int x1), some (.int (0 : Int32)), none, none]) hX q_84_34 rfl rfl rfl rfl ?_
      refine gl_iconst hX q_84_35 ci_0 rfl ?_
      refine gl_istore_n (vs2 := [some (.ref 0), some (.int x1), some (.int (0 : Int32)), some (.int (0 : Int32)), none]) hX q_84_36 rfl rfl rfl rfl ?_
      exact gl_weak (vs := [some (.ref 0), some (.int x1), some (.int (0 : Int32)), some (.int (0 : Int32)), none]) ⟨rfl, rfl, rfl, rfl, trivial⟩ (rt_84_37 hX hr hrf hP oF x1 (0 : Int32) (0 : Int32) Se11 are11 h)
    · have h := (if_neg c10).symm.trans h
      refine gl_iconst hX q_84_27 ci_0 rfl ?_
      exact gl_ireturn q_84_28 (Or.inl qr_84) (by cases h; exact hP)
  · have h := (if_neg c8).symm.trans h
    refine gl_iconst hX q_84_19 ci_0 rfl ?_
    refine gl_iconst hX q_84_20 ci_1 rfl ?_
    obtain ⟨ve12, Se12, are12, e12, h⟩ := o_k3 h
    refine gl_callV hX q_84_21 (qm_306 (by decide)) rfl rfl rfl (qs_0 hr) qx_3 rfl rfl ((rt_3 hX hr hrf) _ _ _ _ _ _ _ _ _ _ e12 ?_)
    refine gl_if_eq hX q_84_24 rfl rfl (fun c13 => ?_) (fun c13 => ?_)
    · have h := (if_pos c13).symm.trans h
      refine gl_aload_n hX q_84_29 rfl rfl ?_
      obtain ⟨Se14, are14, e14, h⟩ := o_k2 h
      refine gl_callV hX q_84_30 (qm_371 (by decide)) rfl rfl rfl (qs_0 hr) qx_72 rfl rfl ((rt_72 hX hr hrf) _ _ _  _ _ _ _ e14 ?_)
      refine gl_iconst hX q_84_33 ci_0 rfl ?_
      refine gl_istore_n (vs2 := [some (.ref 0), some (.int x1), some (.int (0 : Int32)), none, none]) hX q_84_34 rfl rfl rfl rfl ?_
      refine gl_iconst hX q_84_35 ci_0 rfl ?_
      refine gl_istore_n (vs2 := [some (.ref 0), some (.int x1), some (.int (0 : Int32)), some (.int (0 : Int32)), none]) hX q_84_36 rfl rfl rfl rfl ?_
      exact gl_weak (vs := [some (.ref 0), some (.int x1), some (.int (0 : Int32)), some (.int (0 : Int32)), none]) ⟨rfl, rfl, rfl, rfl, trivial⟩ (rt_84_37 hX hr hrf hP oF x1 (0 : Int32) (0 : Int32) Se14 are14 h)
    · have h := (if_neg c13).symm.trans h
      refine gl_iconst hX q_84_27 ci_0 rfl ?_
      exact gl_ireturn q_84_28 (Or.inl qr_84) (by cases h; exact hP)
/-- ClickOrdersModel.metBefore()I -/
def rT_85 (X : jX) (rf : jRf) (F : (Nat → Int32) → jSc → Option (Int32 × (Nat → Int32) × jSc)) (e : Nat) : Prop := ∀ (sc : jSc) (al : jAl) (Post : jPo) (S : (Nat → Int32)) (ar : jSc) (r9 : Int32) (S9 : (Nat → Int32)) (ar9 : jSc), F S ar = some (r9, S9, ar9) → Post (some (.int r9)) (va_up sc 0 S9) rf ar9 al → gW X 85 e 0 (j_av [.ref 0]) [] (va_up sc 0 S) rf ar al Post
def rF_85_14 (k2 : Int32 → (Nat → Int32) → jSc → Option (Int32 × (Nat → Int32) × jSc)) : Nat → Int32 → Int32 → Int32 → (Nat → Int32) → jSc → Option (Int32 × (Nat → Int32) × jSc)
  | 0, _, _, _, _, _ => none
  | nn + 1, x1, x2, x3, S, ar => (if (38 : Int32) ≤ x3 then (if x2 = 0 then k2 (x1 + (1 : Int32)) S ar else some (x1, S, ar)) else (if x2 = 0 then (if x2 = 0 then k2 (x1 + (1 : Int32)) S ar else some (x1, S, ar)) else (if iB x1 600 then (if iB x3 38 then (if iB x3 53 then (if (ar (108 + iN x1) (iN x3)) = (ar 13 (iN x3)) then rF_85_14 k2 nn x1 (1 : Int32) (x3 + (1 : Int32)) S ar else rF_85_14 k2 nn x1 (0 : Int32) (x3 + (1 : Int32)) S ar) else none) else none) else none)))
set_option maxHeartbeats 4000000 in
theorem rt_85_14 {X : jX} (hX : j_LK (g_n X) (g_L X)) (hr : g_rs X = r_sh) {rf : jRf} (hrf : rf 0 = r_rf) {d : Nat} {sc : jSc} {al : jAl} {Post : jPo} {r9 : Int32} {S9 : (Nat → Int32)} {ar9 : jSc} {k2 : Int32 → (Nat → Int32) → jSc → Option (Int32 × (Nat → Int32) × jSc)} (hk2 : ∀ (x1 : Int32) (S : (Nat → Int32)) (ar : jSc), k2 x1 S ar = some (r9, S9, ar9) → gL X 85 (d + 1) 2 [some (.ref 0), some (.int x1), none, none] [] (va_up sc 0 S) rf ar al Post) (hP : Post (some (.int r9)) (va_up sc 0 S9) rf ar9 al) : ∀ (nn : Nat) (x1 : Int32) (x2 : Int32) (x3 : Int32) (S : (Nat → Int32)) (ar : jSc), rF_85_14 k2 nn x1 x2 x3 S ar = some (r9, S9, ar9) → gL X 85 (d + 1) 14 [some (.ref 0), some (.int x1), some (.int x2), some (.int x3)] [] (va_up sc 0 S) rf ar al Post := by
  intro nn
  induction nn with
  | zero =>
    intro x1 x2 x3 S ar h
    have h : (none : Option (Int32 × (Nat → Int32) × jSc)) = some _ := h
    cases h
  | succ nn ih =>
    intro x1 x2 x3 S ar h
    unfold rF_85_14 at h
    refine gl_iload_n hX q_85_14 rfl rfl ?_
    refine gl_bipush hX q_85_15 cb_38 rfl ?_
    refine gl_ic_ge hX q_85_17 rfl rfl (fun c1 => ?_) (fun c1 => ?_)
    · have h := (if_pos c1).symm.trans h
      refine gl_iload_n hX q_85_53 rfl rfl ?_
      refine gl_if_eq hX q_85_54 rfl rfl (fun c2 => ?_) (fun c2 => ?_)
      · have h := (if_pos c2).symm.trans h
        refine gl_iinc (vs2 := [some (.ref 0), some (.int (x1 + (1 : Int32))), some (.int x2), some (.int x3)]) hX q_85_59 rfl rfl rfl ci_1 rfl rfl ?_
        refine gl_goto hX q_85_62 rfl ?_
        exact gl_weak (vs := [some (.ref 0), some (.int (x1 + (1 : Int32))), none, none]) ⟨rfl, rfl, trivial⟩ (hk2 (x1 + (1 : Int32)) S ar h)
      · have h := (if_neg c2).symm.trans h
        refine gl_iload_n hX q_85_57 rfl rfl ?_
        exact gl_ireturn q_85_58 (Or.inl qr_85) (by cases h; exact hP)
    · have h := (if_neg c1).symm.trans h
      refine gl_iload_n hX q_85_20 rfl rfl ?_
      refine gl_if_eq hX q_85_21 rfl rfl (fun c3 => ?_) (fun c3 => ?_)
      · have h := (if_pos c3).symm.trans h
        refine gl_iload_n hX q_85_53 rfl rfl ?_
        refine gl_if_eq hX q_85_54 rfl rfl (fun c4 => ?_) (fun c4 => ?_)
        · have h := (if_pos c4).symm.trans h
          refine gl_iinc (vs2 := [some (.ref 0), some (.int (x1 + (1 : Int32))), some (.int x2), some (.int x3)]) hX q_85_59 rfl rfl rfl ci_1 rfl rfl ?_
          refine gl_goto hX q_85_62 rfl ?_
          exact gl_weak (vs := [some (.ref 0), some (.int (x1 + (1 : Int32))), none, none]) ⟨rfl, rfl, trivial⟩ (hk2 (x1 + (1 : Int32)) S ar h)
        · have h := (if_neg c4).symm.trans h
          refine gl_iload_n hX q_85_57 rfl rfl ?_
          exact gl_ireturn q_85_58 (Or.inl qr_85) (by cases h; exact hP)
      · have h := (if_neg c3).symm.trans h
        refine gl_aload_n hX q_85_24 rfl rfl ?_
        refine gl_getA hX q_85_25 (qf_87 (by decide)) (qs_0 hr) rfl qk_44 ((congrFun hrf 44).trans qa_44) rfl ?_
        refine gl_iload_n hX q_85_28 rfl rfl ?_
        obtain ⟨c5, h⟩ := o_ck h
        refine gl_aaload hX q_85_29 (qs_107 hr) c5 (Or.inr ⟨Or.inl rfl, qs_0 hr⟩) (qo_107 (iB_lt c5)) rfl ?_
        refine gl_iload_n hX q_85_30 rfl rfl ?_
        obtain ⟨c6, h⟩ := o_ck h
        refine gl_iaload hX q_85_31 (qs_met hr (iB_lt c5)) c6 rfl rfl ?_
        refine gl_aload_n hX q_85_32 rfl rfl ?_
        refine gl_getA hX q_85_33 (qf_42 (by decide)) (qs_0 hr) rfl qk_21 ((congrFun hrf 21).trans qa_21) rfl ?_
        refine gl_iload_n hX q_85_36 rfl rfl ?_
        obtain ⟨c7, h⟩ := o_ck h
        refine gl_iaload hX q_85_37 (qs_13 hr) c7 rfl rfl ?_
        refine gl_ic_ne hX q_85_38 rfl rfl (fun c8 => ?_) (fun c8 => ?_)
        · have h := (if_pos c8).symm.trans h
          refine gl_iconst hX q_85_41 ci_1 rfl ?_
          refine gl_goto hX q_85_42 rfl ?_
          refine gl_istore_n (vs2 := [some (.ref 0), some (.int x1), some (.int (1 : Int32)), some (.int x3)]) hX q_85_46 rfl rfl rfl rfl ?_
          refine gl_iinc (vs2 := [some (.ref 0), some (.int x1), some (.int (1 : Int32)), some (.int (x3 + (1 : Int32)))]) hX q_85_47 rfl rfl rfl ci_1 rfl rfl ?_
          refine gl_goto hX q_85_50 rfl ?_
          exact gl_weak (vs := [some (.ref 0), some (.int x1), some (.int (1 : Int32)), some (.int (x3 + (1 : Int32)))]) ⟨rfl, rfl, rfl, rfl, trivial⟩ (ih x1 (1 : Int32) (x3 + (1 : Int32)) S ar h)
        · have h := (if_neg c8).symm.trans h
          refine gl_iconst hX q_85_45 ci_0 rfl ?_
          refine gl_istore_n (vs2 := [some (.ref 0), some (.int x1), some (.int (0 : Int32)), some (.int x3)]) hX q_85_46 rfl rfl rfl rfl ?_
          refine gl_iinc (vs2 := [some (.ref 0), some (.int x1), some (.int (0 : Int32)), some (.int (x3 + (1 : Int32)))]) hX q_85_47 rfl rfl rfl ci_1 rfl rfl ?_
          refine gl_goto hX q_85_50 rfl ?_
          exact gl_weak (vs := [some (.ref 0), some (.int x1), some (.int (0 : Int32)), some (.int (x3 + (1 : Int32)))]) ⟨rfl, rfl, rfl, rfl, trivial⟩ (ih x1 (0 : Int32) (x3 + (1 : Int32)) S ar h)
def rF_85_2 : Nat → Int32 → (Nat → Int32) → jSc → Option (Int32 × (Nat → Int32) × jSc)
  | 0, _, _, _ => none
  | nn + 1, x1, S, ar => (if (S 48) ≤ x1 then some ((-1 : Int32), S, ar) else rF_85_14 (fun x1_ S_ ar_ => rF_85_2 nn x1_ S_ ar_) oF x1 (1 : Int32) (0 : Int32) S ar)
set_option maxHeartbeats 4000000 in
theorem rt_85_2 {X : jX} (hX : j_LK (g_n X) (g_L X)) (hr : g_rs X = r_sh) {rf : jRf} (hrf : rf 0 = r_rf) {d : Nat} {sc : jSc} {al : jAl} {Post : jPo} {r9 : Int32} {S9 : (Nat → Int32)} {ar9 : jSc} (hP : Post (some (.int r9)) (va_up sc 0 S9) rf ar9 al) : ∀ (nn : Nat) (x1 : Int32) (S : (Nat → Int32)) (ar : jSc), rF_85_2 nn x1 S ar = some (r9, S9, ar9) → gL X 85 (d + 1) 2 [some (.ref 0), some (.int x1), none, none] [] (va_up sc 0 S) rf ar al Post := by
  intro nn
  induction nn with
  | zero =>
    intro x1 S ar h
    have h : (none : Option (Int32 × (Nat → Int32) × jSc)) = some _ := h
    cases h
  | succ nn ih =>
    intro x1 S ar h
    unfold rF_85_2 at h
    refine gl_iload_n hX q_85_2 rfl rfl ?_
    refine gl_aload_n hX q_85_3 rfl rfl ?_
    refine gl_get hX q_85_4 (qf_393 (by decide)) (qs_0 hr) rfl qk_48 rfl rfl ?_
    refine gl_ic_ge hX q_85_7 rfl rfl (fun c9 => ?_) (fun c9 => ?_)
    · have h := (if_pos c9).symm.trans h
      refine gl_iconst hX q_85_65 ci_m1 rfl ?_
      exact gl_ireturn q_85_66 (Or.inl qr_85) (by cases h; exact hP)
    · have h := (if_neg c9).symm.trans h
      refine gl_iconst hX q_85_10 ci_1 rfl ?_
      refine gl_istore_n (vs2 := [some (.ref 0), some (.int x1), some (.int (1 : Int32)), none]) hX q_85_11 rfl rfl rfl rfl ?_
      refine gl_iconst hX q_85_12 ci_0 rfl ?_
      refine gl_istore_n (vs2 := [some (.ref 0), some (.int x1), some (.int (1 : Int32)), some (.int (0 : Int32))]) hX q_85_13 rfl rfl rfl rfl ?_
      exact gl_weak (vs := [some (.ref 0), some (.int x1), some (.int (1 : Int32)), some (.int (0 : Int32))]) ⟨rfl, rfl, rfl, rfl, trivial⟩ (rt_85_14 hX hr hrf ih hP oF x1 (1 : Int32) (0 : Int32) S ar h)
def rF_85 (S : (Nat → Int32)) (ar : jSc) : Option (Int32 × (Nat → Int32) × jSc) :=
  rF_85_2 oF (0 : Int32) S ar
set_option maxHeartbeats 4000000 in
theorem rt_85 {X : jX} (hX : j_LK (g_n X) (g_L X)) (hr : g_rs X = r_sh) {rf : jRf} (hrf : rf 0 = r_rf) {d : Nat} : rT_85 X rf rF_85 (d + 1) := by
  intro sc al Post  S ar r9 S9 ar9 h hP
  unfold rF_85 at h
  refine gl_entry (m := 3) rfl ?_
  show gL X 85 (d + 1) 0 [some (.ref 0), none, none, none] [] (va_up sc 0 S) rf ar al Post
  refine gl_iconst hX q_85_0 ci_0 rfl ?_
  refine gl_istore_n (vs2 := [some (.ref 0), some (.int (0 : Int32)), none, none]) hX q_85_1 rfl rfl rfl rfl ?_
  exact gl_weak (vs := [some (.ref 0), some (.int (0 : Int32)), none, none]) ⟨rfl, rfl, trivial⟩ (rt_85_2 hX hr hrf hP oF (0 : Int32) S ar h)
/-- ClickOrdersModel.meets(II)V -/
def rT_86 (X : jX) (rf : jRf) (F : Int32 → Int32 → (Nat → Int32) → jSc → Option ((Nat → Int32) × jSc)) (e : Nat) : Prop := ∀ (sc : jSc) (al : jAl) (Post : jPo) (x1 : Int32) (x2 : Int32) (S : (Nat → Int32)) (ar : jSc) (S9 : (Nat → Int32)) (ar9 : jSc), F x1 x2 S ar = some (S9, ar9) → Post none (va_up sc 0 S9) rf ar9 al → gW X 86 e 0 (j_av [.ref 0, .int x1, .int x2]) [] (va_up sc 0 S) rf ar al Post
def rF_86 (x1 : Int32) (x2 : Int32) (S : (Nat → Int32)) (ar : jSc) : Option ((Nat → Int32) × jSc) :=
  (if iB (S 48) 600 then (o_b2 (rF_56 (108 + iN (S 48)) 38 S ar) (fun Se2 are2 => (if iB (Se2 48) 600 then (if iB (Se2 48) 600 then (if x1 = (-1 : Int32) then (if iB (Se2 48) 600 then some ((upd Se2 48 ((Se2 48) + (1 : Int32))), (j_u2 (j_u2 (j_u2 are2 708 (iN (Se2 48)) x1) 709 (iN (Se2 48)) x2) 710 (iN (Se2 48)) (0 : Int32))) else none) else (if iB x1 600 then (if iB (Se2 48) 600 then some ((upd Se2 48 ((Se2 48) + (1 : Int32))), (j_u2 (j_u2 (j_u2 are2 708 (iN (Se2 48)) x1) 709 (iN (Se2 48)) x2) 710 (iN (Se2 48)) ((are2 710 (iN x1)) + (1 : Int32)))) else none) else none)) else none) else none))) else none)
set_option maxHeartbeats 4000000 in
theorem rt_86 {X : jX} (hX : j_LK (g_n X) (g_L X)) (hr : g_rs X = r_sh) {rf : jRf} (hrf : rf 0 = r_rf) {d : Nat} : rT_86 X rf rF_86 (d + 2) := by
  intro sc al Post x1 x2 S ar S9 ar9 h hP
  unfold rF_86 at h
  refine gl_entry (m := 0) rfl ?_
  show gL X 86 (d + 2) 0 [some (.ref 0), some (.int x1), some (.int x2)] [] (va_up sc 0 S) rf ar al Post
  refine gl_aload_n hX q_86_0 rfl rfl ?_
  refine gl_aload_n hX q_86_1 rfl rfl ?_
  refine gl_getA hX q_86_2 (qf_87 (by decide)) (qs_0 hr) rfl qk_44 ((congrFun hrf 44).trans qa_44) rfl ?_
  refine gl_aload_n hX q_86_5 rfl rfl ?_
  refine gl_get hX q_86_6 (qf_393 (by decide)) (qs_0 hr) rfl qk_48 rfl rfl ?_
  obtain ⟨c1, h⟩ := o_ck h
  refine gl_aaload hX q_86_9 (qs_107 hr) c1 (Or.inr ⟨Or.inl rfl, qs_0 hr⟩) (qo_107 (iB_lt c1)) rfl ?_
  obtain ⟨Se2, are2, e2, h⟩ := o_k2 h
  refine gl_callV hX q_86_10 (qm_347 (by decide)) rfl rfl rfl (qs_0 hr) qx_56 rfl rfl ((rt_56 hX hr hrf) _ _ _ _ _ (qs_met hr (iB_lt c1)) _ _ _ _ e2 ?_)
  refine gl_aload_n hX q_86_13 rfl rfl ?_
  refine gl_getA hX q_86_14 (qf_90 (by decide)) (qs_0 hr) rfl qk_45 ((congrFun hrf 45).trans qa_45) rfl ?_
  refine gl_aload_n hX q_86_17 rfl rfl ?_
  refine gl_get hX q_86_18 (qf_393 (by decide)) (qs_0 hr) rfl qk_48 rfl rfl ?_
  refine gl_iload_n hX q_86_21 rfl rfl ?_
  obtain ⟨c3, h⟩ := o_ck h
  refine gl_iastore (ar2 := (j_u2 are2 708 (iN (Se2 48)) x1)) hX q_86_22 (qs_708 hr) c3 rfl rfl ?_
  refine gl_aload_n hX q_86_23 rfl rfl ?_
  refine gl_getA hX q_86_24 (qf_93 (by decide)) (qs_0 hr) rfl qk_46 ((congrFun hrf 46).trans qa_46) rfl ?_
  refine gl_aload_n hX q_86_27 rfl rfl ?_
  refine gl_get hX q_86_28 (qf_393 (by decide)) (qs_0 hr) rfl qk_48 rfl rfl ?_
  refine gl_iload_n hX q_86_31 rfl rfl ?_
  obtain ⟨c4, h⟩ := o_ck h
  refine gl_iastore (ar2 := (j_u2 (j_u2 are2 708 (iN (Se2 48)) x1) 709 (iN (Se2 48)) x2)) hX q_86_32 (qs_709 hr) c4 rfl rfl ?_
  refine gl_aload_n hX q_86_33 rfl rfl ?_
  refine gl_getA hX q_86_34 (qf_96 (by decide)) (qs_0 hr) rfl qk_47 ((congrFun hrf 47).trans qa_47) rfl ?_
  refine gl_aload_n hX q_86_37 rfl rfl ?_
  refine gl_get hX q_86_38 (qf_393 (by decide)) (qs_0 hr) rfl qk_48 rfl rfl ?_
  refine gl_iload_n hX q_86_41 rfl rfl ?_
  refine gl_iconst hX q_86_42 ci_m1 rfl ?_
  refine gl_ic_ne hX q_86_43 rfl rfl (fun c5 => ?_) (fun c5 => ?_)
  · have h := (if_pos c5).symm.trans h
    refine gl_iconst hX q_86_46 ci_0 rfl ?_
    refine gl_goto hX q_86_47 rfl ?_
    obtain ⟨c6, h⟩ := o_ck h
    refine gl_iastore (ar2 := (j_u2 (j_u2 (j_u2 are2 708 (iN (Se2 48)) x1) 709 (iN (Se2 48)) x2) 710 (iN (Se2 48)) (0 : Int32))) hX q_86_58 (qs_710 hr) c6 rfl rfl ?_
    refine gl_aload_n hX q_86_59 rfl rfl ?_
    refine gl_dup hX q_86_60 rfl rfl ?_
    refine gl_get hX q_86_61 (qf_393 (by decide)) (qs_0 hr) rfl qk_48 rfl rfl ?_
    refine gl_iconst hX q_86_64 ci_1 rfl ?_
    refine gl_iadd hX q_86_65 rfl ?_
    refine gl_put hX q_86_66 (qf_393 (by decide)) (qs_0 hr) rfl qk_48 rfl ru rfl ?_
    exact gl_return q_86_69 qr_86 (by cases h; exact hP)
  · have h := (if_neg c5).symm.trans h
    refine gl_aload_n hX q_86_50 rfl rfl ?_
    refine gl_getA hX q_86_51 (qf_96 (by decide)) (qs_0 hr) rfl qk_47 ((congrFun hrf 47).trans qa_47) rfl ?_
    refine gl_iload_n hX q_86_54 rfl rfl ?_
    obtain ⟨c7, h⟩ := o_ck h
    refine gl_iaload hX q_86_55 (qs_710 hr) c7 rfl rfl ?_
    refine gl_iconst hX q_86_56 ci_1 rfl ?_
    refine gl_iadd hX q_86_57 rfl ?_
    obtain ⟨c8, h⟩ := o_ck h
    refine gl_iastore (ar2 := (j_u2 (j_u2 (j_u2 are2 708 (iN (Se2 48)) x1) 709 (iN (Se2 48)) x2) 710 (iN (Se2 48)) ((are2 710 (iN x1)) + (1 : Int32)))) hX q_86_58 (qs_710 hr) c8 rfl rfl ?_
    refine gl_aload_n hX q_86_59 rfl rfl ?_
    refine gl_dup hX q_86_60 rfl rfl ?_
    refine gl_get hX q_86_61 (qf_393 (by decide)) (qs_0 hr) rfl qk_48 rfl rfl ?_
    refine gl_iconst hX q_86_64 ci_1 rfl ?_
    refine gl_iadd hX q_86_65 rfl ?_
    refine gl_put hX q_86_66 (qf_393 (by decide)) (qs_0 hr) rfl qk_48 rfl ru rfl ?_
    exact gl_return q_86_69 qr_86 (by cases h; exact hP)
/-- ClickOrdersModel.explore(IIZ)V -/
def rT_87 (X : jX) (rf : jRf) (F : Int32 → Int32 → Int32 → (Nat → Int32) → jSc → Option ((Nat → Int32) × jSc)) (e : Nat) : Prop := ∀ (sc : jSc) (al : jAl) (Post : jPo) (x1 : Int32) (x2 : Int32) (x3 : Int32) (S : (Nat → Int32)) (ar : jSc) (S9 : (Nat → Int32)) (ar9 : jSc), F x1 x2 x3 S ar = some (S9, ar9) → Post none (va_up sc 0 S9) rf ar9 al → gW X 87 e 0 (j_av [.ref 0, .int x1, .int x2, .int x3]) [] (va_up sc 0 S) rf ar al Post
def rF_87_64 (k44 : Int32 → Int32 → Int32 → Int32 → (Nat → Int32) → jSc → Option ((Nat → Int32) × jSc)) : Nat → Int32 → Int32 → Int32 → Int32 → Int32 → (Nat → Int32) → jSc → Option ((Nat → Int32) × jSc)
  | 0, _, _, _, _, _, _, _ => none
  | nn + 1, x1, x2, x3, x4, x5, S, ar => (if (13 : Int32) ≤ x5 then k44 x1 x2 x3 (x4 + (1 : Int32)) S ar else (if iB x4 600 then (if x1 ≤ (ar 710 (iN x4)) then k44 x1 x2 x3 (x4 + (1 : Int32)) S ar else (if iB x4 600 then (o_b2 (rF_55 (108 + iN x4) 38 S ar) (fun Se5 are5 => (o_b3 (rF_50 x5 Se5 are5) (fun ve6 Se6 are6 => (if ve6 = 0 then rF_87_64 k44 nn x1 x2 x3 x4 (x5 + (1 : Int32)) Se6 are6 else (o_b3 (rF_52 x5 (-1 : Int32) Se6 are6) (fun ve8 Se8 are8 => (o_b3 (rF_85 Se8 are8) (fun ve9 Se9 are9 => (if ve9 = (-1 : Int32) then (if (Se9 48) = x2 then some ((upd Se9 50 (1 : Int32)), are9) else (o_b2 (rF_86 x4 x5 Se9 are9) (fun Se12 are12 => (if x3 = 0 then rF_87_64 k44 nn x1 x2 x3 x4 (x5 + (1 : Int32)) Se12 are12 else (o_b3 (rF_57 Se12 are12) (fun ve14 Se14 are14 => (if ve14 = 0 then rF_87_64 k44 nn x1 x2 x3 x4 (x5 + (1 : Int32)) Se14 are14 else some ((upd Se14 49 ((Se14 48) - (1 : Int32))), are14)))))))) else rF_87_64 k44 nn x1 x2 x3 x4 (x5 + (1 : Int32)) Se9 are9)))))))))) else none)) else none))
set_option maxHeartbeats 4000000 in
theorem rt_87_64 {X : jX} (hX : j_LK (g_n X) (g_L X)) (hr : g_rs X = r_sh) {rf : jRf} (hrf : rf 0 = r_rf) {d : Nat} {sc : jSc} {al : jAl} {Post : jPo} {S9 : (Nat → Int32)} {ar9 : jSc} {k44 : Int32 → Int32 → Int32 → Int32 → (Nat → Int32) → jSc → Option ((Nat → Int32) × jSc)} (hk44 : ∀ (x1 : Int32) (x2 : Int32) (x3 : Int32) (x4 : Int32) (S : (Nat → Int32)) (ar : jSc), k44 x1 x2 x3 x4 S ar = some (S9, ar9) → gL X 87 (d + 128) 44 [some (.ref 0), some (.int x1), some (.int x2), some (.int x3), some (.int x4), none] [] (va_up sc 0 S) rf ar al Post) (hP : Post none (va_up sc 0 S9) rf ar9 al) : ∀ (nn : Nat) (x1 : Int32) (x2 : Int32) (x3 : Int32) (x4 : Int32) (x5 : Int32) (S : (Nat → Int32)) (ar : jSc), rF_87_64 k44 nn x1 x2 x3 x4 x5 S ar = some (S9, ar9) → gL X 87 (d + 128) 64 [some (.ref 0), some (.int x1), some (.int x2), some (.int x3), some (.int x4), some (.int x5)] [] (va_up sc 0 S) rf ar al Post := by
  intro nn
  induction nn with
  | zero =>
    intro x1 x2 x3 x4 x5 S ar h
    have h : (none : Option ((Nat → Int32) × jSc)) = some _ := h
    cases h
  | succ nn ih =>
    intro x1 x2 x3 x4 x5 S ar h
    unfold rF_87_64 at h
    refine gl_iload hX q_87_64 rfl rfl ?_
    refine gl_bipush hX q_87_66 cb_13 rfl ?_
    refine gl_ic_ge hX q_87_68 rfl rfl (fun c1 => ?_) (fun c1 => ?_)
    · have h := (if_pos c1).symm.trans h
      refine gl_iinc (vs2 := [some (.ref 0), some (.int x1), some (.int x2), some (.int x3), some (.int (x4 + (1 : Int32))), some (.int x5)]) hX q_87_174 rfl rfl rfl ci_1 rfl rfl ?_
      refine gl_goto hX q_87_177 rfl ?_
      exact gl_weak (vs := [some (.ref 0), some (.int x1), some (.int x2), some (.int x3), some (.int (x4 + (1 : Int32))), none]) ⟨rfl, rfl, rfl, rfl, rfl, trivial⟩ (hk44 x1 x2 x3 (x4 + (1 : Int32)) S ar h)
    · have h := (if_neg c1).symm.trans h
      refine gl_aload_n hX q_87_71 rfl rfl ?_
      refine gl_getA hX q_87_72 (qf_96 (by decide)) (qs_0 hr) rfl qk_47 ((congrFun hrf 47).trans qa_47) rfl ?_
      refine gl_iload hX q_87_75 rfl rfl ?_
      obtain ⟨c2, h⟩ := o_ck h
      refine gl_iaload hX q_87_77 (qs_710 hr) c2 rfl rfl ?_
      refine gl_iload_n hX q_87_78 rfl rfl ?_
      refine gl_ic_ge hX q_87_79 rfl rfl (fun c3 => ?_) (fun c3 => ?_)
      · have h := (if_pos c3).symm.trans h
        refine gl_iinc (vs2 := [some (.ref 0), some (.int x1), some (.int x2), some (.int x3), some (.int (x4 + (1 : Int32))), some (.int x5)]) hX q_87_174 rfl rfl rfl ci_1 rfl rfl ?_
        refine gl_goto hX q_87_177 rfl ?_
        exact gl_weak (vs := [some (.ref 0), some (.int x1), some (.int x2), some (.int x3), some (.int (x4 + (1 : Int32))), none]) ⟨rfl, rfl, rfl, rfl, rfl, trivial⟩ (hk44 x1 x2 x3 (x4 + (1 : Int32)) S ar h)
      · have h := (if_neg c3).symm.trans h
        refine gl_aload_n hX q_87_82 rfl rfl ?_
        refine gl_aload_n hX q_87_83 rfl rfl ?_
        refine gl_getA hX q_87_84 (qf_87 (by decide)) (qs_0 hr) rfl qk_44 ((congrFun hrf 44).trans qa_44) rfl ?_
        refine gl_iload hX q_87_87 rfl rfl ?_
        obtain ⟨c4, h⟩ := o_ck h
        refine gl_aaload hX q_87_89 (qs_107 hr) c4 (Or.inr ⟨Or.inl rfl, qs_0 hr⟩) (qo_107 (iB_lt c4)) rfl ?_
        obtain ⟨Se5, are5, e5, h⟩ := o_k2 h
        refine gl_callV hX q_87_90 (qm_351 (by decide)) rfl rfl rfl (qs_0 hr) qx_55 rfl rfl ((rt_55 hX hr hrf) _ _ _ _ _ (qs_met hr (iB_lt c4)) _ _ _ _ e5 ?_)
        refine gl_aload_n hX q_87_93 rfl rfl ?_
        refine gl_iload hX q_87_94 rfl rfl ?_
        obtain ⟨ve6, Se6, are6, e6, h⟩ := o_k3 h
        refine gl_callV hX q_87_96 (qm_354 (by decide)) rfl rfl rfl (qs_0 hr) qx_50 rfl rfl ((rt_50 hX hr hrf) _ _ _ _ _ _ _ _ _ e6 ?_)
        refine gl_if_ne hX q_87_99 rfl rfl (fun c7 => ?_) (fun c7 => ?_)
        · have h := (if_pos c7).symm.trans h
          refine gl_goto hX q_87_102 rfl ?_
          refine gl_iinc (vs2 := [some (.ref 0), some (.int x1), some (.int x2), some (.int x3), some (.int x4), some (.int (x5 + (1 : Int32)))]) hX q_87_168 rfl rfl rfl ci_1 rfl rfl ?_
          refine gl_goto hX q_87_171 rfl ?_
          exact gl_weak (vs := [some (.ref 0), some (.int x1), some (.int x2), some (.int x3), some (.int x4), some (.int (x5 + (1 : Int32)))]) ⟨rfl, rfl, rfl, rfl, rfl, rfl, trivial⟩ (ih x1 x2 x3 x4 (x5 + (1 : Int32)) Se6 are6 h)
        · have h := (if_neg c7).symm.trans h
          refine gl_aload_n hX q_87_105 rfl rfl ?_
          refine gl_iload hX q_87_106 rfl rfl ?_
          refine gl_iconst hX q_87_108 ci_m1 rfl ?_
          obtain ⟨ve8, Se8, are8, e8, h⟩ := o_k3 h
          refine gl_callV hX q_87_109 (qm_357 (by decide)) rfl rfl rfl (qs_0 hr) qx_52 rfl rfl ((rt_52 hX hr hrf) _ _ _ _ _ _ _ _ _ _ e8 ?_)
          refine gl_pop hX q_87_112 rfl rfl ?_
          refine gl_aload_n hX q_87_113 rfl rfl ?_
          obtain ⟨ve9, Se9, are9, e9, h⟩ := o_k3 h
          refine gl_callV hX q_87_114 (qm_405 (by decide)) rfl rfl rfl (qs_0 hr) qx_85 rfl rfl ((rt_85 hX hr hrf) _ _ _  _ _ _ _ _ e9 ?_)
          refine gl_iconst hX q_87_117 ci_m1 rfl ?_
          refine gl_ic_eq hX q_87_118 rfl rfl (fun c10 => ?_) (fun c10 => ?_)
          · have h := (if_pos c10).symm.trans h
            refine gl_aload_n hX q_87_124 rfl rfl ?_
            refine gl_get hX q_87_125 (qf_393 (by decide)) (qs_0 hr) rfl qk_48 rfl rfl ?_
            refine gl_iload_n hX q_87_128 rfl rfl ?_
            refine gl_ic_ne hX q_87_129 rfl rfl (fun c11 => ?_) (fun c11 => ?_)
            · have h := (if_pos c11).symm.trans h
              refine gl_aload_n hX q_87_132 rfl rfl ?_
              refine gl_iconst hX q_87_133 ci_1 rfl ?_
              refine gl_put hX q_87_134 (qf_399 (by decide)) (qs_0 hr) rfl qk_50 rfl ru rfl ?_
              exact gl_return q_87_137 qr_87 (by cases h; exact hP)
            · have h := (if_neg c11).symm.trans h
              refine gl_aload_n hX q_87_138 rfl rfl ?_
              refine gl_iload hX q_87_139 rfl rfl ?_
              refine gl_iload hX q_87_141 rfl rfl ?_
              obtain ⟨Se12, are12, e12, h⟩ := o_k2 h
              refine gl_callV hX q_87_143 (qm_402 (by decide)) rfl rfl rfl (qs_0 hr) qx_86 rfl rfl ((rt_86 hX hr hrf) _ _ _ _ _ _ _ _ _ e12 ?_)
              refine gl_iload_n hX q_87_146 rfl rfl ?_
              refine gl_if_eq hX q_87_147 rfl rfl (fun c13 => ?_) (fun c13 => ?_)
              · have h := (if_pos c13).symm.trans h
                refine gl_iinc (vs2 := [some (.ref 0), some (.int x1), some (.int x2), some (.int x3), some (.int x4), some (.int (x5 + (1 : Int32)))]) hX q_87_168 rfl rfl rfl ci_1 rfl rfl ?_
                refine gl_goto hX q_87_171 rfl ?_
                exact gl_weak (vs := [some (.ref 0), some (.int x1), some (.int x2), some (.int x3), some (.int x4), some (.int (x5 + (1 : Int32)))]) ⟨rfl, rfl, rfl, rfl, rfl, rfl, trivial⟩ (ih x1 x2 x3 x4 (x5 + (1 : Int32)) Se12 are12 h)
              · have h := (if_neg c13).symm.trans h
                refine gl_aload_n hX q_87_150 rfl rfl ?_
                obtain ⟨ve14, Se14, are14, e14, h⟩ := o_k3 h
                refine gl_callV hX q_87_151 (qm_362 (by decide)) rfl rfl rfl (qs_0 hr) qx_57 rfl rfl ((rt_57 hX hr hrf) _ _ _  _ _ _ _ _ e14 ?_)
                refine gl_if_eq hX q_87_154 rfl rfl (fun c15 => ?_) (fun c15 => ?_)
                · have h := (if_pos c15).symm.trans h
                  refine gl_iinc (vs2 := [some (.ref 0), some (.int x1), some (.int x2), some (.int x3), some (.int x4), some (.int (x5 + (1 : Int32)))]) hX q_87_168 rfl rfl rfl ci_1 rfl rfl ?_
                  refine gl_goto hX q_87_171 rfl ?_
                  exact gl_weak (vs := [some (.ref 0), some (.int x1), some (.int x2), some (.int x3), some (.int x4), some (.int (x5 + (1 : Int32)))]) ⟨rfl, rfl, rfl, rfl, rfl, rfl, trivial⟩ (ih x1 x2 x3 x4 (x5 + (1 : Int32)) Se14 are14 h)
                · have h := (if_neg c15).symm.trans h
                  refine gl_aload_n hX q_87_157 rfl rfl ?_
                  refine gl_aload_n hX q_87_158 rfl rfl ?_
                  refine gl_get hX q_87_159 (qf_393 (by decide)) (qs_0 hr) rfl qk_48 rfl rfl ?_
                  refine gl_iconst hX q_87_162 ci_1 rfl ?_
                  refine gl_isub hX q_87_163 rfl ?_
                  refine gl_put hX q_87_164 (qf_396 (by decide)) (qs_0 hr) rfl qk_49 rfl ru rfl ?_
                  exact gl_return q_87_167 qr_87 (by cases h; exact hP)
          · have h := (if_neg c10).symm.trans h
            refine gl_goto hX q_87_121 rfl ?_
            refine gl_iinc (vs2 := [some (.ref 0), some (.int x1), some (.int x2), some (.int x3), some (.int x4), some (.int (x5 + (1 : Int32)))]) hX q_87_168 rfl rfl rfl ci_1 rfl rfl ?_
            refine gl_goto hX q_87_171 rfl ?_
            exact gl_weak (vs := [some (.ref 0), some (.int x1), some (.int x2), some (.int x3), some (.int x4), some (.int (x5 + (1 : Int32)))]) ⟨rfl, rfl, rfl, rfl, rfl, rfl, trivial⟩ (ih x1 x2 x3 x4 (x5 + (1 : Int32)) Se9 are9 h)
def rF_87_44 : Nat → Int32 → Int32 → Int32 → Int32 → (Nat → Int32) → jSc → Option ((Nat → Int32) × jSc)
  | 0, _, _, _, _, _, _ => none
  | nn + 1, x1, x2, x3, x4, S, ar => (if (S 48) ≤ x4 then some (S, ar) else (if (S 49) = (-1 : Int32) then rF_87_64 (fun x1_ x2_ x3_ x4_ S_ ar_ => rF_87_44 nn x1_ x2_ x3_ x4_ S_ ar_) oF x1 x2 x3 x4 (0 : Int32) S ar else some (S, ar)))
set_option maxHeartbeats 4000000 in
theorem rt_87_44 {X : jX} (hX : j_LK (g_n X) (g_L X)) (hr : g_rs X = r_sh) {rf : jRf} (hrf : rf 0 = r_rf) {d : Nat} {sc : jSc} {al : jAl} {Post : jPo} {S9 : (Nat → Int32)} {ar9 : jSc} (hP : Post none (va_up sc 0 S9) rf ar9 al) : ∀ (nn : Nat) (x1 : Int32) (x2 : Int32) (x3 : Int32) (x4 : Int32) (S : (Nat → Int32)) (ar : jSc), rF_87_44 nn x1 x2 x3 x4 S ar = some (S9, ar9) → gL X 87 (d + 128) 44 [some (.ref 0), some (.int x1), some (.int x2), some (.int x3), some (.int x4), none] [] (va_up sc 0 S) rf ar al Post := by
  intro nn
  induction nn with
  | zero =>
    intro x1 x2 x3 x4 S ar h
    have h : (none : Option ((Nat → Int32) × jSc)) = some _ := h
    cases h
  | succ nn ih =>
    intro x1 x2 x3 x4 S ar h
    unfold rF_87_44 at h
    refine gl_iload hX q_87_44 rfl rfl ?_
    refine gl_aload_n hX q_87_46 rfl rfl ?_
    refine gl_get hX q_87_47 (qf_393 (by decide)) (qs_0 hr) rfl qk_48 rfl rfl ?_
    refine gl_ic_ge hX q_87_50 rfl rfl (fun c16 => ?_) (fun c16 => ?_)
    · have h := (if_pos c16).symm.trans h
      exact gl_return q_87_180 qr_87 (by cases h; exact hP)
    · have h := (if_neg c16).symm.trans h
      refine gl_aload_n hX q_87_53 rfl rfl ?_
      refine gl_get hX q_87_54 (qf_396 (by decide)) (qs_0 hr) rfl qk_49 rfl rfl ?_
      refine gl_iconst hX q_87_57 ci_m1 rfl ?_
      refine gl_ic_ne hX q_87_58 rfl rfl (fun c17 => ?_) (fun c17 => ?_)
      · have h := (if_pos c17).symm.trans h
        refine gl_iconst hX q_87_61 ci_0 rfl ?_
        refine gl_istore (vs2 := [some (.ref 0), some (.int x1), some (.int x2), some (.int x3), some (.int x4), some (.int (0 : Int32))]) hX q_87_62 rfl rfl rfl rfl ?_
        exact gl_weak (vs := [some (.ref 0), some (.int x1), some (.int x2), some (.int x3), some (.int x4), some (.int (0 : Int32))]) ⟨rfl, rfl, rfl, rfl, rfl, rfl, trivial⟩ (rt_87_64 hX hr hrf ih hP oF x1 x2 x3 x4 (0 : Int32) S ar h)
      · have h := (if_neg c17).symm.trans h
        exact gl_return q_87_180 qr_87 (by cases h; exact hP)
def rF_87 (x1 : Int32) (x2 : Int32) (x3 : Int32) (S : (Nat → Int32)) (ar : jSc) : Option ((Nat → Int32) × jSc) :=
  (o_b2 (rF_49 (upd (upd (upd S 48 (0 : Int32)) 49 (-1 : Int32)) 50 (0 : Int32)) ar) (fun Se18 are18 => (o_b2 (rF_86 (-1 : Int32) (-1 : Int32) Se18 are18) (fun Se19 are19 => (if x3 = 0 then rF_87_44 oF x1 x2 x3 (0 : Int32) Se19 are19 else (o_b3 (rF_57 Se19 are19) (fun ve21 Se21 are21 => (if ve21 = 0 then rF_87_44 oF x1 x2 x3 (0 : Int32) Se21 are21 else rF_87_44 oF x1 x2 x3 (0 : Int32) (upd Se21 49 (0 : Int32)) are21))))))))
set_option maxHeartbeats 4000000 in
theorem rt_87 {X : jX} (hX : j_LK (g_n X) (g_L X)) (hr : g_rs X = r_sh) {rf : jRf} (hrf : rf 0 = r_rf) {d : Nat} : rT_87 X rf rF_87 (d + 128) := by
  intro sc al Post x1 x2 x3 S ar S9 ar9 h hP
  unfold rF_87 at h
  refine gl_entry (m := 2) rfl ?_
  show gL X 87 (d + 128) 0 [some (.ref 0), some (.int x1), some (.int x2), some (.int x3), none, none] [] (va_up sc 0 S) rf ar al Post
  refine gl_aload_n hX q_87_0 rfl rfl ?_
  refine gl_iconst hX q_87_1 ci_0 rfl ?_
  refine gl_put hX q_87_2 (qf_393 (by decide)) (qs_0 hr) rfl qk_48 rfl ru rfl ?_
  refine gl_aload_n hX q_87_5 rfl rfl ?_
  refine gl_iconst hX q_87_6 ci_m1 rfl ?_
  refine gl_put hX q_87_7 (qf_396 (by decide)) (qs_0 hr) rfl qk_49 rfl ru rfl ?_
  refine gl_aload_n hX q_87_10 rfl rfl ?_
  refine gl_iconst hX q_87_11 ci_0 rfl ?_
  refine gl_put hX q_87_12 (qf_399 (by decide)) (qs_0 hr) rfl qk_50 rfl ru rfl ?_
  refine gl_aload_n hX q_87_15 rfl rfl ?_
  obtain ⟨Se18, are18, e18, h⟩ := o_k2 h
  refine gl_callV hX q_87_16 (qm_344 (by decide)) rfl rfl rfl (qs_0 hr) qx_49 rfl rfl ((rt_49 hX hr hrf) _ _ _  _ _ _ _ e18 ?_)
  refine gl_aload_n hX q_87_19 rfl rfl ?_
  refine gl_iconst hX q_87_20 ci_m1 rfl ?_
  refine gl_iconst hX q_87_21 ci_m1 rfl ?_
  obtain ⟨Se19, are19, e19, h⟩ := o_k2 h
  refine gl_callV hX q_87_22 (qm_402 (by decide)) rfl rfl rfl (qs_0 hr) qx_86 rfl rfl ((rt_86 hX hr hrf) _ _ _ _ _ _ _ _ _ e19 ?_)
  refine gl_iload_n hX q_87_25 rfl rfl ?_
  refine gl_if_eq hX q_87_26 rfl rfl (fun c20 => ?_) (fun c20 => ?_)
  · have h := (if_pos c20).symm.trans h
    refine gl_iconst hX q_87_41 ci_0 rfl ?_
    refine gl_istore (vs2 := [some (.ref 0), some (.int x1), some (.int x2), some (.int x3), some (.int (0 : Int32)), none]) hX q_87_42 rfl rfl rfl rfl ?_
    exact gl_weak (vs := [some (.ref 0), some (.int x1), some (.int x2), some (.int x3), some (.int (0 : Int32)), none]) ⟨rfl, rfl, rfl, rfl, rfl, trivial⟩ (rt_87_44 hX hr hrf hP oF x1 x2 x3 (0 : Int32) Se19 are19 h)
  · have h := (if_neg c20).symm.trans h
    refine gl_aload_n hX q_87_29 rfl rfl ?_
    obtain ⟨ve21, Se21, are21, e21, h⟩ := o_k3 h
    refine gl_callV hX q_87_30 (qm_362 (by decide)) rfl rfl rfl (qs_0 hr) qx_57 rfl rfl ((rt_57 hX hr hrf) _ _ _  _ _ _ _ _ e21 ?_)
    refine gl_if_eq hX q_87_33 rfl rfl (fun c22 => ?_) (fun c22 => ?_)
    · have h := (if_pos c22).symm.trans h
      refine gl_iconst hX q_87_41 ci_0 rfl ?_
      refine gl_istore (vs2 := [some (.ref 0), some (.int x1), some (.int x2), some (.int x3), some (.int (0 : Int32)), none]) hX q_87_42 rfl rfl rfl rfl ?_
      exact gl_weak (vs := [some (.ref 0), some (.int x1), some (.int x2), some (.int x3), some (.int (0 : Int32)), none]) ⟨rfl, rfl, rfl, rfl, rfl, trivial⟩ (rt_87_44 hX hr hrf hP oF x1 x2 x3 (0 : Int32) Se21 are21 h)
    · have h := (if_neg c22).symm.trans h
      refine gl_aload_n hX q_87_36 rfl rfl ?_
      refine gl_iconst hX q_87_37 ci_0 rfl ?_
      refine gl_put hX q_87_38 (qf_396 (by decide)) (qs_0 hr) rfl qk_49 rfl ru rfl ?_
      refine gl_iconst hX q_87_41 ci_0 rfl ?_
      refine gl_istore (vs2 := [some (.ref 0), some (.int x1), some (.int x2), some (.int x3), some (.int (0 : Int32)), none]) hX q_87_42 rfl rfl rfl rfl ?_
      exact gl_weak (vs := [some (.ref 0), some (.int x1), some (.int x2), some (.int x3), some (.int (0 : Int32)), none]) ⟨rfl, rfl, rfl, rfl, rfl, trivial⟩ (rt_87_44 hX hr hrf hP oF x1 x2 x3 (0 : Int32) (upd Se21 49 (0 : Int32)) are21 h)
/-- ClickOrdersModel.isSearch(II)Z -/
def rT_88 (X : jX) (rf : jRf) (F : Int32 → Int32 → (Nat → Int32) → jSc → Option (Int32 × (Nat → Int32) × jSc)) (e : Nat) : Prop := ∀ (sc : jSc) (al : jAl) (Post : jPo) (x1 : Int32) (x2 : Int32) (S : (Nat → Int32)) (ar : jSc) (r9 : Int32) (S9 : (Nat → Int32)) (ar9 : jSc), F x1 x2 S ar = some (r9, S9, ar9) → Post (some (.int r9)) (va_up sc 0 S9) rf ar9 al → gW X 88 e 0 (j_av [.ref 0, .int x1, .int x2]) [] (va_up sc 0 S) rf ar al Post
def rF_88 (x1 : Int32) (x2 : Int32) (S : (Nat → Int32)) (ar : jSc) : Option (Int32 × (Nat → Int32) × jSc) :=
  (o_b3 (rF_4 x1 (0 : Int32) (8 : Int32) S ar) (fun ve1 Se1 are1 => (if ve1 = 0 then some ((0 : Int32), Se1, are1) else (o_b3 (rF_4 x2 (1 : Int32) (600 : Int32) Se1 are1) (fun ve3 Se3 are3 => (if ve3 = 0 then some ((0 : Int32), Se3, are3) else some ((1 : Int32), Se3, are3)))))))
set_option maxHeartbeats 4000000 in
theorem rt_88 {X : jX} (hX : j_LK (g_n X) (g_L X)) (hr : g_rs X = r_sh) {rf : jRf} (hrf : rf 0 = r_rf) {d : Nat} : rT_88 X rf rF_88 (d + 2) := by
  intro sc al Post x1 x2 S ar r9 S9 ar9 h hP
  unfold rF_88 at h
  refine gl_entry (m := 0) rfl ?_
  show gL X 88 (d + 2) 0 [some (.ref 0), some (.int x1), some (.int x2)] [] (va_up sc 0 S) rf ar al Post
  refine gl_iload_n hX q_88_0 rfl rfl ?_
  refine gl_iconst hX q_88_1 ci_0 rfl ?_
  refine gl_bipush hX q_88_2 cb_8 rfl ?_
  obtain ⟨ve1, Se1, are1, e1, h⟩ := o_k3 h
  refine gl_callS q_88_4 (qm_247 (by decide)) rfl rfl rfl qx_4 rfl rfl ((rt_4 hX hr hrf) _ _ _ _ _ _ _ _ _ _ _ e1 ?_)
  refine gl_if_eq hX q_88_7 rfl rfl (fun c2 => ?_) (fun c2 => ?_)
  · have h := (if_pos c2).symm.trans h
    refine gl_iconst hX q_88_25 ci_0 rfl ?_
    exact gl_ireturn q_88_26 (Or.inr ⟨qr_88, Or.inl rfl⟩) (by cases h; exact hP)
  · have h := (if_neg c2).symm.trans h
    refine gl_iload_n hX q_88_10 rfl rfl ?_
    refine gl_iconst hX q_88_11 ci_1 rfl ?_
    refine gl_sipush hX q_88_12 cs_600 rfl ?_
    obtain ⟨ve3, Se3, are3, e3, h⟩ := o_k3 h
    refine gl_callS q_88_15 (qm_247 (by decide)) rfl rfl rfl qx_4 rfl rfl ((rt_4 hX hr hrf) _ _ _ _ _ _ _ _ _ _ _ e3 ?_)
    refine gl_if_eq hX q_88_18 rfl rfl (fun c4 => ?_) (fun c4 => ?_)
    · have h := (if_pos c4).symm.trans h
      refine gl_iconst hX q_88_25 ci_0 rfl ?_
      exact gl_ireturn q_88_26 (Or.inr ⟨qr_88, Or.inl rfl⟩) (by cases h; exact hP)
    · have h := (if_neg c4).symm.trans h
      refine gl_iconst hX q_88_21 ci_1 rfl ?_
      refine gl_goto hX q_88_22 rfl ?_
      exact gl_ireturn q_88_26 (Or.inr ⟨qr_88, Or.inr rfl⟩) (by cases h; exact hP)
/-- ClickOrdersModel.worst(II)I -/
def rT_89 (X : jX) (rf : jRf) (F : Int32 → Int32 → (Nat → Int32) → jSc → Option (Int32 × (Nat → Int32) × jSc)) (e : Nat) : Prop := ∀ (sc : jSc) (al : jAl) (Post : jPo) (x1 : Int32) (x2 : Int32) (S : (Nat → Int32)) (ar : jSc) (r9 : Int32) (S9 : (Nat → Int32)) (ar9 : jSc), F x1 x2 S ar = some (r9, S9, ar9) → Post (some (.int r9)) (va_up sc 0 S9) rf ar9 al → gW X 89 e 0 (j_av [.ref 0, .int x1, .int x2]) [] (va_up sc 0 S) rf ar al Post
def rF_89_20 (x1 : Int32) (x2 : Int32) (y0 : Int32) (S : (Nat → Int32)) (ar : jSc) : Option (Int32 × (Nat → Int32) × jSc) :=
  (o_b3 (rF_3 y0 (1 : Int32) S ar) (fun ve1 Se1 are1 => (if ve1 = 0 then (o_b2 (rF_87 x1 x2 (1 : Int32) (upd Se1 16 (0 : Int32)) are1) (fun Se3 are3 => (if (Se3 49) = (-1 : Int32) then (if (Se3 50) = 0 then some ((-1 : Int32), Se3, are3) else some ((-2 : Int32), Se3, are3)) else (if iB (Se3 49) 600 then some ((are3 710 (iN (Se3 49))), Se3, are3) else none)))) else some ((0 : Int32), Se1, are1))))
set_option maxHeartbeats 4000000 in
theorem rt_89_20 {X : jX} (hX : j_LK (g_n X) (g_L X)) (hr : g_rs X = r_sh) {rf : jRf} (hrf : rf 0 = r_rf) {d : Nat} {sc : jSc} {al : jAl} {Post : jPo} {r9 : Int32} {S9 : (Nat → Int32)} {ar9 : jSc} (hP : Post (some (.int r9)) (va_up sc 0 S9) rf ar9 al) (x1 : Int32) (x2 : Int32) (y0 : Int32) (S : (Nat → Int32)) (ar : jSc) (h : rF_89_20 x1 x2 y0 S ar = some (r9, S9, ar9)) : gL X 89 (d + 129) 20 [some (.ref 0), some (.int x1), some (.int x2)] [.int y0, .ref 0] (va_up sc 0 S) rf ar al Post := by
  unfold rF_89_20 at h
  refine gl_iconst hX q_89_20 ci_1 rfl ?_
  obtain ⟨ve1, Se1, are1, e1, h⟩ := o_k3 h
  refine gl_callV hX q_89_21 (qm_306 (by decide)) rfl rfl rfl (qs_0 hr) qx_3 rfl rfl ((rt_3 hX hr hrf) _ _ _ _ _ _ _ _ _ _ e1 ?_)
  refine gl_if_eq hX q_89_24 rfl rfl (fun c2 => ?_) (fun c2 => ?_)
  · have h := (if_pos c2).symm.trans h
    refine gl_aload_n hX q_89_29 rfl rfl ?_
    refine gl_iconst hX q_89_30 ci_0 rfl ?_
    refine gl_put hX q_89_31 (qf_316 (by decide)) (qs_0 hr) rfl qk_16 rfl ru rfl ?_
    refine gl_aload_n hX q_89_34 rfl rfl ?_
    refine gl_iload_n hX q_89_35 rfl rfl ?_
    refine gl_iload_n hX q_89_36 rfl rfl ?_
    refine gl_iconst hX q_89_37 ci_1 rfl ?_
    obtain ⟨Se3, are3, e3, h⟩ := o_k2 h
    refine gl_callV hX q_89_38 (qm_411 (by decide)) rfl rfl rfl (qs_0 hr) qx_87 rfl rfl ((rt_87 hX hr hrf) _ _ _ _ _ _ _ _ _ _ e3 ?_)
    refine gl_aload_n hX q_89_41 rfl rfl ?_
    refine gl_get hX q_89_42 (qf_396 (by decide)) (qs_0 hr) rfl qk_49 rfl rfl ?_
    refine gl_iconst hX q_89_45 ci_m1 rfl ?_
    refine gl_ic_eq hX q_89_46 rfl rfl (fun c4 => ?_) (fun c4 => ?_)
    · have h := (if_pos c4).symm.trans h
      refine gl_aload_n hX q_89_61 rfl rfl ?_
      refine gl_get hX q_89_62 (qf_399 (by decide)) (qs_0 hr) rfl qk_50 rfl rfl ?_
      refine gl_if_eq hX q_89_65 rfl rfl (fun c5 => ?_) (fun c5 => ?_)
      · have h := (if_pos c5).symm.trans h
        refine gl_iconst hX q_89_73 ci_m1 rfl ?_
        exact gl_ireturn q_89_74 (Or.inl qr_89) (by cases h; exact hP)
      · have h := (if_neg c5).symm.trans h
        refine gl_bipush hX q_89_68 cb_m2 rfl ?_
        refine gl_goto hX q_89_70 rfl ?_
        exact gl_ireturn q_89_74 (Or.inl qr_89) (by cases h; exact hP)
    · have h := (if_neg c4).symm.trans h
      refine gl_aload_n hX q_89_49 rfl rfl ?_
      refine gl_getA hX q_89_50 (qf_96 (by decide)) (qs_0 hr) rfl qk_47 ((congrFun hrf 47).trans qa_47) rfl ?_
      refine gl_aload_n hX q_89_53 rfl rfl ?_
      refine gl_get hX q_89_54 (qf_396 (by decide)) (qs_0 hr) rfl qk_49 rfl rfl ?_
      obtain ⟨c6, h⟩ := o_ck h
      refine gl_iaload hX q_89_57 (qs_710 hr) c6 rfl rfl ?_
      refine gl_goto hX q_89_58 rfl ?_
      exact gl_ireturn q_89_74 (Or.inl qr_89) (by cases h; exact hP)
  · have h := (if_neg c2).symm.trans h
    refine gl_iconst hX q_89_27 ci_0 rfl ?_
    exact gl_ireturn q_89_28 (Or.inl qr_89) (by cases h; exact hP)
def rF_89 (x1 : Int32) (x2 : Int32) (S : (Nat → Int32)) (ar : jSc) : Option (Int32 × (Nat → Int32) × jSc) :=
  (o_b3 (rF_88 x1 x2 (upd S 0 (0 : Int32)) ar) (fun ve7 Se7 are7 => (if ve7 = 0 then rF_89_20 x1 x2 (1 : Int32) Se7 are7 else rF_89_20 x1 x2 (0 : Int32) Se7 are7)))
set_option maxHeartbeats 4000000 in
theorem rt_89 {X : jX} (hX : j_LK (g_n X) (g_L X)) (hr : g_rs X = r_sh) {rf : jRf} (hrf : rf 0 = r_rf) {d : Nat} : rT_89 X rf rF_89 (d + 129) := by
  intro sc al Post x1 x2 S ar r9 S9 ar9 h hP
  unfold rF_89 at h
  refine gl_entry (m := 0) rfl ?_
  show gL X 89 (d + 129) 0 [some (.ref 0), some (.int x1), some (.int x2)] [] (va_up sc 0 S) rf ar al Post
  refine gl_aload_n hX q_89_0 rfl rfl ?_
  refine gl_iconst hX q_89_1 ci_0 rfl ?_
  refine gl_put hX q_89_2 (qf_126 (by decide)) (qs_0 hr) rfl qk_0 rfl ru rfl ?_
  refine gl_aload_n hX q_89_5 rfl rfl ?_
  refine gl_aload_n hX q_89_6 rfl rfl ?_
  refine gl_iload_n hX q_89_7 rfl rfl ?_
  refine gl_iload_n hX q_89_8 rfl rfl ?_
  obtain ⟨ve7, Se7, are7, e7, h⟩ := o_k3 h
  refine gl_callV hX q_89_9 (qm_408 (by decide)) rfl rfl rfl (qs_0 hr) qx_88 rfl rfl ((rt_88 hX hr hrf) _ _ _ _ _ _ _ _ _ _ e7 ?_)
  refine gl_if_ne hX q_89_12 rfl rfl (fun c8 => ?_) (fun c8 => ?_)
  · have h := (if_pos c8).symm.trans h
    refine gl_iconst hX q_89_15 ci_1 rfl ?_
    refine gl_goto hX q_89_16 rfl ?_
    exact gl_weak (vs := [some (.ref 0), some (.int x1), some (.int x2)]) ⟨rfl, rfl, rfl, trivial⟩ (rt_89_20 hX hr hrf hP x1 x2 (1 : Int32) Se7 are7 h)
  · have h := (if_neg c8).symm.trans h
    refine gl_iconst hX q_89_19 ci_0 rfl ?_
    exact gl_weak (vs := [some (.ref 0), some (.int x1), some (.int x2)]) ⟨rfl, rfl, rfl, trivial⟩ (rt_89_20 hX hr hrf hP x1 x2 (0 : Int32) Se7 are7 h)
/-- ClickOrdersModel.step(III)I -/
def rT_90 (X : jX) (rf : jRf) (F : Int32 → Int32 → Int32 → (Nat → Int32) → jSc → Option (Int32 × (Nat → Int32) × jSc)) (e : Nat) : Prop := ∀ (sc : jSc) (al : jAl) (Post : jPo) (x1 : Int32) (x2 : Int32) (x3 : Int32) (S : (Nat → Int32)) (ar : jSc) (r9 : Int32) (S9 : (Nat → Int32)) (ar9 : jSc), F x1 x2 x3 S ar = some (r9, S9, ar9) → Post (some (.int r9)) (va_up sc 0 S9) rf ar9 al → gW X 90 e 0 (j_av [.ref 0, .int x1, .int x2, .int x3]) [] (va_up sc 0 S) rf ar al Post
def rF_90_76 : Nat → Int32 → Int32 → (Nat → Int32) → jSc → Option (Int32 × (Nat → Int32) × jSc)
  | 0, _, _, _, _ => none
  | nn + 1, x3, x4, S, ar => (if iB x4 600 then (if (ar 710 (iN x4)) ≤ (x3 + (1 : Int32)) then (if iB x4 600 then some ((ar 709 (iN x4)), S, ar) else none) else (if iB x4 600 then rF_90_76 nn x3 (ar 708 (iN x4)) S ar else none)) else none)
set_option maxHeartbeats 4000000 in
theorem rt_90_76 {X : jX} (hX : j_LK (g_n X) (g_L X)) (hr : g_rs X = r_sh) {rf : jRf} (hrf : rf 0 = r_rf) {d : Nat} {sc : jSc} {al : jAl} {Post : jPo} {r9 : Int32} {S9 : (Nat → Int32)} {ar9 : jSc} (hP : Post (some (.int r9)) (va_up sc 0 S9) rf ar9 al) : ∀ (nn : Nat) (x3 : Int32) (x4 : Int32) (S : (Nat → Int32)) (ar : jSc), rF_90_76 nn x3 x4 S ar = some (r9, S9, ar9) → gL X 90 (d + 129) 76 [some (.ref 0), none, none, some (.int x3), some (.int x4)] [] (va_up sc 0 S) rf ar al Post := by
  intro nn
  induction nn with
  | zero =>
    intro x3 x4 S ar h
    have h : (none : Option (Int32 × (Nat → Int32) × jSc)) = some _ := h
    cases h
  | succ nn ih =>
    intro x3 x4 S ar h
    unfold rF_90_76 at h
    refine gl_aload_n hX q_90_76 rfl rfl ?_
    refine gl_getA hX q_90_77 (qf_96 (by decide)) (qs_0 hr) rfl qk_47 ((congrFun hrf 47).trans qa_47) rfl ?_
    refine gl_iload hX q_90_80 rfl rfl ?_
    obtain ⟨c1, h⟩ := o_ck h
    refine gl_iaload hX q_90_82 (qs_710 hr) c1 rfl rfl ?_
    refine gl_iload_n hX q_90_83 rfl rfl ?_
    refine gl_iconst hX q_90_84 ci_1 rfl ?_
    refine gl_iadd hX q_90_85 rfl ?_
    refine gl_ic_le hX q_90_86 rfl rfl (fun c2 => ?_) (fun c2 => ?_)
    · have h := (if_pos c2).symm.trans h
      refine gl_aload_n hX q_90_101 rfl rfl ?_
      refine gl_getA hX q_90_102 (qf_93 (by decide)) (qs_0 hr) rfl qk_46 ((congrFun hrf 46).trans qa_46) rfl ?_
      refine gl_iload hX q_90_105 rfl rfl ?_
      obtain ⟨c3, h⟩ := o_ck h
      refine gl_iaload hX q_90_107 (qs_709 hr) c3 rfl rfl ?_
      exact gl_ireturn q_90_108 (Or.inl qr_90) (by cases h; exact hP)
    · have h := (if_neg c2).symm.trans h
      refine gl_aload_n hX q_90_89 rfl rfl ?_
      refine gl_getA hX q_90_90 (qf_90 (by decide)) (qs_0 hr) rfl qk_45 ((congrFun hrf 45).trans qa_45) rfl ?_
      refine gl_iload hX q_90_93 rfl rfl ?_
      obtain ⟨c4, h⟩ := o_ck h
      refine gl_iaload hX q_90_95 (qs_708 hr) c4 rfl rfl ?_
      refine gl_istore (vs2 := [some (.ref 0), none, none, some (.int x3), some (.int (ar 708 (iN x4)))]) hX q_90_96 rfl rfl rfl rfl ?_
      refine gl_goto hX q_90_98 rfl ?_
      exact gl_weak (vs := [some (.ref 0), none, none, some (.int x3), some (.int (ar 708 (iN x4)))]) ⟨rfl, rfl, rfl, trivial⟩ (ih x3 (ar 708 (iN x4)) S ar h)
def rF_90_20 (x1 : Int32) (x2 : Int32) (x3 : Int32) (y0 : Int32) (S : (Nat → Int32)) (ar : jSc) : Option (Int32 × (Nat → Int32) × jSc) :=
  (o_b3 (rF_3 y0 (1 : Int32) S ar) (fun ve5 Se5 are5 => (if ve5 = 0 then (o_b2 (rF_87 x1 x2 (1 : Int32) (upd Se5 16 (0 : Int32)) are5) (fun Se7 are7 => (if (Se7 49) = (-1 : Int32) then some ((-1 : Int32), Se7, are7) else (if iB (Se7 49) 600 then (o_b3 (rF_4 x3 (0 : Int32) ((are7 710 (iN (Se7 49))) - (1 : Int32)) Se7 are7) (fun ve10 Se10 are10 => (if ve10 = 0 then some ((-1 : Int32), Se10, are10) else rF_90_76 oF x3 (Se10 49) Se10 are10))) else none)))) else some ((0 : Int32), Se5, are5))))
set_option maxHeartbeats 4000000 in
theorem rt_90_20 {X : jX} (hX : j_LK (g_n X) (g_L X)) (hr : g_rs X = r_sh) {rf : jRf} (hrf : rf 0 = r_rf) {d : Nat} {sc : jSc} {al : jAl} {Post : jPo} {r9 : Int32} {S9 : (Nat → Int32)} {ar9 : jSc} (hP : Post (some (.int r9)) (va_up sc 0 S9) rf ar9 al) (x1 : Int32) (x2 : Int32) (x3 : Int32) (y0 : Int32) (S : (Nat → Int32)) (ar : jSc) (h : rF_90_20 x1 x2 x3 y0 S ar = some (r9, S9, ar9)) : gL X 90 (d + 129) 20 [some (.ref 0), some (.int x1), some (.int x2), some (.int x3), none] [.int y0, .ref 0] (va_up sc 0 S) rf ar al Post := by
  unfold rF_90_20 at h
  refine gl_iconst hX q_90_20 ci_1 rfl ?_
  obtain ⟨ve5, Se5, are5, e5, h⟩ := o_k3 h
  refine gl_callV hX q_90_21 (qm_306 (by decide)) rfl rfl rfl (qs_0 hr) qx_3 rfl rfl ((rt_3 hX hr hrf) _ _ _ _ _ _ _ _ _ _ e5 ?_)
  refine gl_if_eq hX q_90_24 rfl rfl (fun c6 => ?_) (fun c6 => ?_)
  · have h := (if_pos c6).symm.trans h
    refine gl_aload_n hX q_90_29 rfl rfl ?_
    refine gl_iconst hX q_90_30 ci_0 rfl ?_
    refine gl_put hX q_90_31 (qf_316 (by decide)) (qs_0 hr) rfl qk_16 rfl ru rfl ?_
    refine gl_aload_n hX q_90_34 rfl rfl ?_
    refine gl_iload_n hX q_90_35 rfl rfl ?_
    refine gl_iload_n hX q_90_36 rfl rfl ?_
    refine gl_iconst hX q_90_37 ci_1 rfl ?_
    obtain ⟨Se7, are7, e7, h⟩ := o_k2 h
    refine gl_callV hX q_90_38 (qm_411 (by decide)) rfl rfl rfl (qs_0 hr) qx_87 rfl rfl ((rt_87 hX hr hrf) _ _ _ _ _ _ _ _ _ _ e7 ?_)
    refine gl_aload_n hX q_90_41 rfl rfl ?_
    refine gl_get hX q_90_42 (qf_396 (by decide)) (qs_0 hr) rfl qk_49 rfl rfl ?_
    refine gl_iconst hX q_90_45 ci_m1 rfl ?_
    refine gl_ic_eq hX q_90_46 rfl rfl (fun c8 => ?_) (fun c8 => ?_)
    · have h := (if_pos c8).symm.trans h
      refine gl_iconst hX q_90_68 ci_m1 rfl ?_
      exact gl_ireturn q_90_69 (Or.inl qr_90) (by cases h; exact hP)
    · have h := (if_neg c8).symm.trans h
      refine gl_iload_n hX q_90_49 rfl rfl ?_
      refine gl_iconst hX q_90_50 ci_0 rfl ?_
      refine gl_aload_n hX q_90_51 rfl rfl ?_
      refine gl_getA hX q_90_52 (qf_96 (by decide)) (qs_0 hr) rfl qk_47 ((congrFun hrf 47).trans qa_47) rfl ?_
      refine gl_aload_n hX q_90_55 rfl rfl ?_
      refine gl_get hX q_90_56 (qf_396 (by decide)) (qs_0 hr) rfl qk_49 rfl rfl ?_
      obtain ⟨c9, h⟩ := o_ck h
      refine gl_iaload hX q_90_59 (qs_710 hr) c9 rfl rfl ?_
      refine gl_iconst hX q_90_60 ci_1 rfl ?_
      refine gl_isub hX q_90_61 rfl ?_
      obtain ⟨ve10, Se10, are10, e10, h⟩ := o_k3 h
      refine gl_callS q_90_62 (qm_247 (by decide)) rfl rfl rfl qx_4 rfl rfl ((rt_4 hX hr hrf) _ _ _ _ _ _ _ _ _ _ _ e10 ?_)
      refine gl_if_ne hX q_90_65 rfl rfl (fun c11 => ?_) (fun c11 => ?_)
      · have h := (if_pos c11).symm.trans h
        refine gl_iconst hX q_90_68 ci_m1 rfl ?_
        exact gl_ireturn q_90_69 (Or.inl qr_90) (by cases h; exact hP)
      · have h := (if_neg c11).symm.trans h
        refine gl_aload_n hX q_90_70 rfl rfl ?_
        refine gl_get hX q_90_71 (qf_396 (by decide)) (qs_0 hr) rfl qk_49 rfl rfl ?_
        refine gl_istore (vs2 := [some (.ref 0), some (.int x1), some (.int x2), some (.int x3), some (.int (Se10 49))]) hX q_90_74 rfl rfl rfl rfl ?_
        exact gl_weak (vs := [some (.ref 0), none, none, some (.int x3), some (.int (Se10 49))]) ⟨rfl, rfl, rfl, trivial⟩ (rt_90_76 hX hr hrf hP oF x3 (Se10 49) Se10 are10 h)
  · have h := (if_neg c6).symm.trans h
    refine gl_iconst hX q_90_27 ci_0 rfl ?_
    exact gl_ireturn q_90_28 (Or.inl qr_90) (by cases h; exact hP)
def rF_90 (x1 : Int32) (x2 : Int32) (x3 : Int32) (S : (Nat → Int32)) (ar : jSc) : Option (Int32 × (Nat → Int32) × jSc) :=
  (o_b3 (rF_88 x1 x2 (upd S 0 (0 : Int32)) ar) (fun ve12 Se12 are12 => (if ve12 = 0 then rF_90_20 x1 x2 x3 (1 : Int32) Se12 are12 else rF_90_20 x1 x2 x3 (0 : Int32) Se12 are12)))
set_option maxHeartbeats 4000000 in
theorem rt_90 {X : jX} (hX : j_LK (g_n X) (g_L X)) (hr : g_rs X = r_sh) {rf : jRf} (hrf : rf 0 = r_rf) {d : Nat} : rT_90 X rf rF_90 (d + 129) := by
  intro sc al Post x1 x2 x3 S ar r9 S9 ar9 h hP
  unfold rF_90 at h
  refine gl_entry (m := 1) rfl ?_
  show gL X 90 (d + 129) 0 [some (.ref 0), some (.int x1), some (.int x2), some (.int x3), none] [] (va_up sc 0 S) rf ar al Post
  refine gl_aload_n hX q_90_0 rfl rfl ?_
  refine gl_iconst hX q_90_1 ci_0 rfl ?_
  refine gl_put hX q_90_2 (qf_126 (by decide)) (qs_0 hr) rfl qk_0 rfl ru rfl ?_
  refine gl_aload_n hX q_90_5 rfl rfl ?_
  refine gl_aload_n hX q_90_6 rfl rfl ?_
  refine gl_iload_n hX q_90_7 rfl rfl ?_
  refine gl_iload_n hX q_90_8 rfl rfl ?_
  obtain ⟨ve12, Se12, are12, e12, h⟩ := o_k3 h
  refine gl_callV hX q_90_9 (qm_408 (by decide)) rfl rfl rfl (qs_0 hr) qx_88 rfl rfl ((rt_88 hX hr hrf) _ _ _ _ _ _ _ _ _ _ e12 ?_)
  refine gl_if_ne hX q_90_12 rfl rfl (fun c13 => ?_) (fun c13 => ?_)
  · have h := (if_pos c13).symm.trans h
    refine gl_iconst hX q_90_15 ci_1 rfl ?_
    refine gl_goto hX q_90_16 rfl ?_
    exact gl_weak (vs := [some (.ref 0), some (.int x1), some (.int x2), some (.int x3), none]) ⟨rfl, rfl, rfl, rfl, trivial⟩ (rt_90_20 hX hr hrf hP x1 x2 x3 (1 : Int32) Se12 are12 h)
  · have h := (if_neg c13).symm.trans h
    refine gl_iconst hX q_90_19 ci_0 rfl ?_
    exact gl_weak (vs := [some (.ref 0), some (.int x1), some (.int x2), some (.int x3), none]) ⟨rfl, rfl, rfl, rfl, trivial⟩ (rt_90_20 hX hr hrf hP x1 x2 x3 (0 : Int32) Se12 are12 h)
