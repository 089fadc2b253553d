/-! THE REFERENCE: its methods as functions, and that the machine does what they say. -/
/-- ClickOrdersModel.lost(I)I -/
def rT_117 (X : jX) (rf : jRf) (F : Int32 → (Nat → Int32) → jSc → Option (Int32 × (Nat → Int32) × jSc)) (e : Nat) : Prop := ∀ (sc : jSc) (al : jAl) (Post : jPo) (x1 : Int32) (S : (Nat → Int32)) (ar : jSc) (r9 : Int32) (S9 : (Nat → Int32)) (ar9 : jSc), F x1 S ar = some (r9, S9, ar9) → Post (some (.int r9)) (va_up sc 0 S9) rf ar9 al → gW X 117 e 0 (j_av [.ref 0, .int x1]) [] (va_up sc 0 S) rf ar al Post
def rF_117_59 : Nat → Int32 → Int32 → Int32 → (Nat → Int32) → jSc → Option (Int32 × (Nat → Int32) × jSc)
  | 0, _, _, _, _, _ => none
  | nn + 1, x1, x2, x3, S, ar => (if x1 < x3 then (o_b2 (rF_115 (7 : Int32) S ar) (fun Se2 are2 => some (x2, Se2, are2))) else (if x2 = (-1 : Int32) then (o_b3 ((rG_116 40) (0 : Int32) x3 S ar) (fun ve4 Se4 are4 => (if ve4 = 0 then rF_117_59 nn x1 (-1 : Int32) (x3 + (1 : Int32)) Se4 are4 else rF_117_59 nn x1 x3 (x3 + (1 : Int32)) Se4 are4))) else (o_b2 (rF_115 (7 : Int32) S ar) (fun Se6 are6 => some (x2, Se6, are6)))))
set_option maxHeartbeats 4000000 in
theorem rt_117_59 {X : jX} (hX : j_LK (g_n X) (g_L X)) (hr : g_rs X = r_sh) {rf : jRf} (hrf : rf 0 = r_rf) {d : Nat} {sc : jSc} {al : jAl} {Post : jPo} {r9 : Int32} {S9 : (Nat → Int32)} {ar9 : jSc} (hP : Post (some (.int r9)) (va_up sc 0 S9) rf ar9 al) : ∀ (nn : Nat) (x1 : Int32) (x2 : Int32) (x3 : Int32) (S : (Nat → Int32)) (ar : jSc), rF_117_59 nn x1 x2 x3 S ar = some (r9, S9, ar9) → gL X 117 (d + 168) 59 [some (.ref 0), some (.int x1), some (.int x2), some (.int x3)] [] (va_up sc 0 S) rf ar al Post := by
  intro nn
  induction nn with
  | zero =>
    intro x1 x2 x3 S ar h
    have h : (none : Option (Int32 × (Nat → Int32) × jSc)) = some _ := h
    cases h
  | succ nn ih =>
    intro x1 x2 x3 S ar h
    unfold rF_117_59 at h
    refine gl_iload_n hX q_117_59 rfl rfl ?_
    refine gl_iload_n hX q_117_60 rfl rfl ?_
    refine gl_ic_gt hX q_117_61 rfl rfl (fun c1 => ?_) (fun c1 => ?_)
    · have h := (if_pos c1).symm.trans h
      refine gl_aload_n hX q_117_90 rfl rfl ?_
      refine gl_bipush hX q_117_91 cb_7 rfl ?_
      obtain ⟨Se2, are2, e2, h⟩ := o_k2 h
      refine gl_callV hX q_117_93 (qm_445 (by decide)) rfl rfl rfl (qs_0 hr) qx_115 rfl rfl ((rt_115 hX hr hrf) _ _ _ _ _ _ _ _ e2 ?_)
      refine gl_iload_n hX q_117_96 rfl rfl ?_
      exact gl_ireturn q_117_97 (Or.inl qr_117) (by cases h; exact hP)
    · have h := (if_neg c1).symm.trans h
      refine gl_iload_n hX q_117_64 rfl rfl ?_
      refine gl_iconst hX q_117_65 ci_m1 rfl ?_
      refine gl_ic_ne hX q_117_66 rfl rfl (fun c3 => ?_) (fun c3 => ?_)
      · have h := (if_pos c3).symm.trans h
        refine gl_aload_n hX q_117_69 rfl rfl ?_
        refine gl_iconst hX q_117_70 ci_0 rfl ?_
        refine gl_iload_n hX q_117_71 rfl rfl ?_
        obtain ⟨ve4, Se4, are4, e4, h⟩ := o_k3 h
        refine gl_callV hX q_117_72 (qm_451 (by decide)) rfl rfl rfl (qs_0 hr) qx_116 rfl rfl (((rtG_116 hX hr hrf 40)) _ _ _ _ _ _ _ _ _ _ e4 ?_)
        refine gl_if_eq hX q_117_75 rfl rfl (fun c5 => ?_) (fun c5 => ?_)
        · have h := (if_pos c5).symm.trans h
          refine gl_iconst hX q_117_82 ci_m1 rfl ?_
          refine gl_istore_n (vs2 := [some (.ref 0), some (.int x1), some (.int (-1 : Int32)), some (.int x3)]) hX q_117_83 rfl rfl rfl rfl ?_
          refine gl_iinc (vs2 := [some (.ref 0), some (.int x1), some (.int (-1 : Int32)), some (.int (x3 + (1 : Int32)))]) hX q_117_84 rfl rfl rfl ci_1 rfl rfl ?_
          refine gl_goto hX q_117_87 rfl ?_
          exact gl_weak (vs := [some (.ref 0), some (.int x1), some (.int (-1 : Int32)), some (.int (x3 + (1 : Int32)))]) ⟨rfl, rfl, rfl, rfl, trivial⟩ (ih x1 (-1 : Int32) (x3 + (1 : Int32)) Se4 are4 h)
        · have h := (if_neg c5).symm.trans h
          refine gl_iload_n hX q_117_78 rfl rfl ?_
          refine gl_goto hX q_117_79 rfl ?_
          refine gl_istore_n (vs2 := [some (.ref 0), some (.int x1), some (.int x3), some (.int x3)]) hX q_117_83 rfl rfl rfl rfl ?_
          refine gl_iinc (vs2 := [some (.ref 0), some (.int x1), some (.int x3), some (.int (x3 + (1 : Int32)))]) hX q_117_84 rfl rfl rfl ci_1 rfl rfl ?_
          refine gl_goto hX q_117_87 rfl ?_
          exact gl_weak (vs := [some (.ref 0), some (.int x1), some (.int x3), some (.int (x3 + (1 : Int32)))]) ⟨rfl, rfl, rfl, rfl, trivial⟩ (ih x1 x3 (x3 + (1 : Int32)) Se4 are4 h)
      · have h := (if_neg c3).symm.trans h
        refine gl_aload_n hX q_117_90 rfl rfl ?_
        refine gl_bipush hX q_117_91 cb_7 rfl ?_
        obtain ⟨Se6, are6, e6, h⟩ := o_k2 h
        refine gl_callV hX q_117_93 (qm_445 (by decide)) rfl rfl rfl (qs_0 hr) qx_115 rfl rfl ((rt_115 hX hr hrf) _ _ _ _ _ _ _ _ e6 ?_)
        refine gl_iload_n hX q_117_96 rfl rfl ?_
        exact gl_ireturn q_117_97 (Or.inl qr_117) (by cases h; exact hP)
def rF_117_20 (x1 : Int32) (y0 : Int32) (S : (Nat → Int32)) (ar : jSc) : Option (Int32 × (Nat → Int32) × jSc) :=
  (o_b3 (rF_3 y0 (1 : Int32) S ar) (fun ve7 Se7 are7 => (if ve7 = 0 then (o_b2 (rF_114 (7 : Int32) Se7 are7) (fun Se9 are9 => (o_b2 (rF_109 Se9 are9) (fun Se10 are10 => (if (Se10 57) ≤ 0 then (o_b2 (rF_114 (0 : Int32) Se10 are10) (fun Se12 are12 => rF_117_59 oF x1 (-1 : Int32) (1 : Int32) Se12 are12)) else (o_b2 (rF_114 (0 : Int32) Se10 are10) (fun Se13 are13 => rF_117_59 oF x1 (0 : Int32) (1 : Int32) Se13 are13))))))) else some ((0 : Int32), Se7, are7))))
set_option maxHeartbeats 4000000 in
theorem rt_117_20 {X : jX} (hX : j_LK (g_n X) (g_L X)) (hr : g_rs X = r_sh) {rf : jRf} (hrf : rf 0 = r_rf) {d : Nat} {sc : jSc} {al : jAl} {Post : jPo} {r9 : Int32} {S9 : (Nat → Int32)} {ar9 : jSc} (hP : Post (some (.int r9)) (va_up sc 0 S9) rf ar9 al) (x1 : Int32) (y0 : Int32) (S : (Nat → Int32)) (ar : jSc) (h : rF_117_20 x1 y0 S ar = some (r9, S9, ar9)) : gL X 117 (d + 168) 20 [some (.ref 0), some (.int x1), none, none] [.int y0, .ref 0] (va_up sc 0 S) rf ar al Post := by
  unfold rF_117_20 at h
  refine gl_iconst hX q_117_20 ci_1 rfl ?_
  obtain ⟨ve7, Se7, are7, e7, h⟩ := o_k3 h
  refine gl_callV hX q_117_21 (qm_306 (by decide)) rfl rfl rfl (qs_0 hr) qx_3 rfl rfl ((rt_3 hX hr hrf) _ _ _ _ _ _ _ _ _ _ e7 ?_)
  refine gl_if_eq hX q_117_24 rfl rfl (fun c8 => ?_) (fun c8 => ?_)
  · have h := (if_pos c8).symm.trans h
    refine gl_aload_n hX q_117_29 rfl rfl ?_
    refine gl_bipush hX q_117_30 cb_7 rfl ?_
    obtain ⟨Se9, are9, e9, h⟩ := o_k2 h
    refine gl_callV hX q_117_32 (qm_448 (by decide)) rfl rfl rfl (qs_0 hr) qx_114 rfl rfl ((rt_114 hX hr hrf) _ _ _ _ _ _ _ _ e9 ?_)
    refine gl_aload_n hX q_117_35 rfl rfl ?_
    obtain ⟨Se10, are10, e10, h⟩ := o_k2 h
    refine gl_callV hX q_117_36 (qm_123 (by decide)) rfl rfl rfl (qs_0 hr) qx_109 rfl rfl ((rt_109 hX hr hrf) _ _ _  _ _ _ _ e10 ?_)
    refine gl_aload_n hX q_117_39 rfl rfl ?_
    refine gl_get hX q_117_40 (qf_294 (by decide)) (qs_0 hr) rfl qk_57 rfl rfl ?_
    refine gl_if_le hX q_117_43 rfl rfl (fun c11 => ?_) (fun c11 => ?_)
    · have h := (if_pos c11).symm.trans h
      refine gl_iconst hX q_117_50 ci_m1 rfl ?_
      refine gl_istore_n (vs2 := [some (.ref 0), some (.int x1), some (.int (-1 : Int32)), none]) hX q_117_51 rfl rfl rfl rfl ?_
      refine gl_aload_n hX q_117_52 rfl rfl ?_
      refine gl_iconst hX q_117_53 ci_0 rfl ?_
      obtain ⟨Se12, are12, e12, h⟩ := o_k2 h
      refine gl_callV hX q_117_54 (qm_448 (by decide)) rfl rfl rfl (qs_0 hr) qx_114 rfl rfl ((rt_114 hX hr hrf) _ _ _ _ _ _ _ _ e12 ?_)
      refine gl_iconst hX q_117_57 ci_1 rfl ?_
      refine gl_istore_n (vs2 := [some (.ref 0), some (.int x1), some (.int (-1 : Int32)), some (.int (1 : Int32))]) hX q_117_58 rfl rfl rfl rfl ?_
      exact gl_weak (vs := [some (.ref 0), some (.int x1), some (.int (-1 : Int32)), some (.int (1 : Int32))]) ⟨rfl, rfl, rfl, rfl, trivial⟩ (rt_117_59 hX hr hrf hP oF x1 (-1 : Int32) (1 : Int32) Se12 are12 h)
    · have h := (if_neg c11).symm.trans h
      refine gl_iconst hX q_117_46 ci_0 rfl ?_
      refine gl_goto hX q_117_47 rfl ?_
      refine gl_istore_n (vs2 := [some (.ref 0), some (.int x1), some (.int (0 : Int32)), none]) hX q_117_51 rfl rfl rfl rfl ?_
      refine gl_aload_n hX q_117_52 rfl rfl ?_
      refine gl_iconst hX q_117_53 ci_0 rfl ?_
      obtain ⟨Se13, are13, e13, h⟩ := o_k2 h
      refine gl_callV hX q_117_54 (qm_448 (by decide)) rfl rfl rfl (qs_0 hr) qx_114 rfl rfl ((rt_114 hX hr hrf) _ _ _ _ _ _ _ _ e13 ?_)
      refine gl_iconst hX q_117_57 ci_1 rfl ?_
      refine gl_istore_n (vs2 := [some (.ref 0), some (.int x1), some (.int (0 : Int32)), some (.int (1 : Int32))]) hX q_117_58 rfl rfl rfl rfl ?_
      exact gl_weak (vs := [some (.ref 0), some (.int x1), some (.int (0 : Int32)), some (.int (1 : Int32))]) ⟨rfl, rfl, rfl, rfl, trivial⟩ (rt_117_59 hX hr hrf hP oF x1 (0 : Int32) (1 : Int32) Se13 are13 h)
  · have h := (if_neg c8).symm.trans h
    refine gl_iconst hX q_117_27 ci_0 rfl ?_
    exact gl_ireturn q_117_28 (Or.inl qr_117) (by cases h; exact hP)
def rF_117 (x1 : Int32) (S : (Nat → Int32)) (ar : jSc) : Option (Int32 × (Nat → Int32) × jSc) :=
  (o_b3 (rF_4 x1 (0 : Int32) (3 : Int32) (upd S 0 (0 : Int32)) ar) (fun ve14 Se14 are14 => (if ve14 = 0 then rF_117_20 x1 (1 : Int32) Se14 are14 else rF_117_20 x1 (0 : Int32) Se14 are14)))
set_option maxHeartbeats 4000000 in
theorem rt_117 {X : jX} (hX : j_LK (g_n X) (g_L X)) (hr : g_rs X = r_sh) {rf : jRf} (hrf : rf 0 = r_rf) {d : Nat} : rT_117 X rf rF_117 (d + 168) := by
  intro sc al Post x1 S ar r9 S9 ar9 h hP
  unfold rF_117 at h
  refine gl_entry (m := 2) rfl ?_
  show gL X 117 (d + 168) 0 [some (.ref 0), some (.int x1), none, none] [] (va_up sc 0 S) rf ar al Post
  refine gl_aload_n hX q_117_0 rfl rfl ?_
  refine gl_iconst hX q_117_1 ci_0 rfl ?_
  refine gl_put hX q_117_2 (qf_126 (by decide)) (qs_0 hr) rfl qk_0 rfl ru rfl ?_
  refine gl_aload_n hX q_117_5 rfl rfl ?_
  refine gl_iload_n hX q_117_6 rfl rfl ?_
  refine gl_iconst hX q_117_7 ci_0 rfl ?_
  refine gl_iconst hX q_117_8 ci_3 rfl ?_
  obtain ⟨ve14, Se14, are14, e14, h⟩ := o_k3 h
  refine gl_callS q_117_9 (qm_247 (by decide)) rfl rfl rfl qx_4 rfl rfl ((rt_4 hX hr hrf) _ _ _ _ _ _ _ _ _ _ _ e14 ?_)
  refine gl_if_ne hX q_117_12 rfl rfl (fun c15 => ?_) (fun c15 => ?_)
  · have h := (if_pos c15).symm.trans h
    refine gl_iconst hX q_117_15 ci_1 rfl ?_
    refine gl_goto hX q_117_16 rfl ?_
    exact gl_weak (vs := [some (.ref 0), some (.int x1), none, none]) ⟨rfl, rfl, trivial⟩ (rt_117_20 hX hr hrf hP x1 (1 : Int32) Se14 are14 h)
  · have h := (if_neg c15).symm.trans h
    refine gl_iconst hX q_117_19 ci_0 rfl ?_
    exact gl_weak (vs := [some (.ref 0), some (.int x1), none, none]) ⟨rfl, rfl, trivial⟩ (rt_117_20 hX hr hrf hP x1 (0 : Int32) Se14 are14 h)
/-- ClickOrdersModel.newer(II)I -/
def rT_118 (X : jX) (rf : jRf) (F : Int32 → Int32 → (Nat → Int32) → jSc → Option (Int32 × (Nat → Int32) × jSc)) (e : Nat) : Prop := ∀ (sc : jSc) (al : jAl) (Post : jPo) (x1 : Int32) (x2 : Int32) (S : (Nat → Int32)) (ar : jSc) (r9 : Int32) (S9 : (Nat → Int32)) (ar9 : jSc), F x1 x2 S ar = some (r9, S9, ar9) → Post (some (.int r9)) (va_up sc 0 S9) rf ar9 al → gW X 118 e 0 (j_av [.ref 0, .int x1, .int x2]) [] (va_up sc 0 S) rf ar al Post
def rF_118_62 (x1 : Int32) (x2 : Int32) (y0 : Int32) (S : (Nat → Int32)) (ar : jSc) : Option (Int32 × (Nat → Int32) × jSc) :=
  (if y0 = (-1 : Int32) then some ((-1 : Int32), S, ar) else (o_b2 (rF_87 x1 x2 (1 : Int32) (upd S 16 (1 : Int32)) ar) (fun Se2 are2 => (if (Se2 49) = (-1 : Int32) then some (y0, (upd Se2 16 (0 : Int32)), are2) else some ((-1 : Int32), (upd Se2 16 (0 : Int32)), are2)))))
set_option maxHeartbeats 4000000 in
theorem rt_118_62 {X : jX} (hX : j_LK (g_n X) (g_L X)) (hr : g_rs X = r_sh) {rf : jRf} (hrf : rf 0 = r_rf) {d : Nat} {sc : jSc} {al : jAl} {Post : jPo} {r9 : Int32} {S9 : (Nat → Int32)} {ar9 : jSc} (hP : Post (some (.int r9)) (va_up sc 0 S9) rf ar9 al) (x1 : Int32) (x2 : Int32) (y0 : Int32) (S : (Nat → Int32)) (ar : jSc) (h : rF_118_62 x1 x2 y0 S ar = some (r9, S9, ar9)) : gL X 118 (d + 129) 62 [some (.ref 0), some (.int x1), some (.int x2), none] [.int y0] (va_up sc 0 S) rf ar al Post := by
  unfold rF_118_62 at h
  refine gl_istore_n (vs2 := [some (.ref 0), some (.int x1), some (.int x2), some (.int y0)]) hX q_118_62 rfl rfl rfl rfl ?_
  refine gl_iload_n hX q_118_63 rfl rfl ?_
  refine gl_iconst hX q_118_64 ci_m1 rfl ?_
  refine gl_ic_ne hX q_118_65 rfl rfl (fun c1 => ?_) (fun c1 => ?_)
  · have h := (if_pos c1).symm.trans h
    refine gl_iconst hX q_118_68 ci_m1 rfl ?_
    exact gl_ireturn q_118_69 (Or.inl qr_118) (by cases h; exact hP)
  · have h := (if_neg c1).symm.trans h
    refine gl_aload_n hX q_118_70 rfl rfl ?_
    refine gl_iconst hX q_118_71 ci_1 rfl ?_
    refine gl_put hX q_118_72 (qf_316 (by decide)) (qs_0 hr) rfl qk_16 rfl ru rfl ?_
    refine gl_aload_n hX q_118_75 rfl rfl ?_
    refine gl_iload_n hX q_118_76 rfl rfl ?_
    refine gl_iload_n hX q_118_77 rfl rfl ?_
    refine gl_iconst hX q_118_78 ci_1 rfl ?_
    obtain ⟨Se2, are2, e2, h⟩ := o_k2 h
    refine gl_callV hX q_118_79 (qm_411 (by decide)) rfl rfl rfl (qs_0 hr) qx_87 rfl rfl ((rt_87 hX hr hrf) _ _ _ _ _ _ _ _ _ _ e2 ?_)
    refine gl_aload_n hX q_118_82 rfl rfl ?_
    refine gl_iconst hX q_118_83 ci_0 rfl ?_
    refine gl_put hX q_118_84 (qf_316 (by decide)) (qs_0 hr) rfl qk_16 rfl ru rfl ?_
    refine gl_aload_n hX q_118_87 rfl rfl ?_
    refine gl_get hX q_118_88 (qf_396 (by decide)) (qs_0 hr) rfl qk_49 rfl rfl ?_
    refine gl_iconst hX q_118_91 ci_m1 rfl ?_
    refine gl_ic_ne hX q_118_92 rfl rfl (fun c3 => ?_) (fun c3 => ?_)
    · have h := (if_pos c3).symm.trans h
      refine gl_iload_n hX q_118_95 rfl rfl ?_
      refine gl_goto hX q_118_96 rfl ?_
      exact gl_ireturn q_118_100 (Or.inl qr_118) (by cases h; exact hP)
    · have h := (if_neg c3).symm.trans h
      refine gl_iconst hX q_118_99 ci_m1 rfl ?_
      exact gl_ireturn q_118_100 (Or.inl qr_118) (by cases h; exact hP)
def rF_118_20 (x1 : Int32) (x2 : Int32) (y0 : Int32) (S : (Nat → Int32)) (ar : jSc) : Option (Int32 × (Nat → Int32) × jSc) :=
  (o_b3 (rF_3 y0 (1 : Int32) S ar) (fun ve4 Se4 are4 => (if ve4 = 0 then (o_b2 (rF_87 x1 x2 (1 : Int32) (upd Se4 16 (0 : Int32)) are4) (fun Se6 are6 => (if (Se6 49) = (-1 : Int32) then rF_118_62 x1 x2 (-1 : Int32) Se6 are6 else (if iB (Se6 49) 600 then rF_118_62 x1 x2 (are6 710 (iN (Se6 49))) Se6 are6 else none)))) else some ((0 : Int32), Se4, are4))))
set_option maxHeartbeats 4000000 in
theorem rt_118_20 {X : jX} (hX : j_LK (g_n X) (g_L X)) (hr : g_rs X = r_sh) {rf : jRf} (hrf : rf 0 = r_rf) {d : Nat} {sc : jSc} {al : jAl} {Post : jPo} {r9 : Int32} {S9 : (Nat → Int32)} {ar9 : jSc} (hP : Post (some (.int r9)) (va_up sc 0 S9) rf ar9 al) (x1 : Int32) (x2 : Int32) (y0 : Int32) (S : (Nat → Int32)) (ar : jSc) (h : rF_118_20 x1 x2 y0 S ar = some (r9, S9, ar9)) : gL X 118 (d + 129) 20 [some (.ref 0), some (.int x1), some (.int x2), none] [.int y0, .ref 0] (va_up sc 0 S) rf ar al Post := by
  unfold rF_118_20 at h
  refine gl_iconst hX q_118_20 ci_1 rfl ?_
  obtain ⟨ve4, Se4, are4, e4, h⟩ := o_k3 h
  refine gl_callV hX q_118_21 (qm_306 (by decide)) rfl rfl rfl (qs_0 hr) qx_3 rfl rfl ((rt_3 hX hr hrf) _ _ _ _ _ _ _ _ _ _ e4 ?_)
  refine gl_if_eq hX q_118_24 rfl rfl (fun c5 => ?_) (fun c5 => ?_)
  · have h := (if_pos c5).symm.trans h
    refine gl_aload_n hX q_118_29 rfl rfl ?_
    refine gl_iconst hX q_118_30 ci_0 rfl ?_
    refine gl_put hX q_118_31 (qf_316 (by decide)) (qs_0 hr) rfl qk_16 rfl ru rfl ?_
    refine gl_aload_n hX q_118_34 rfl rfl ?_
    refine gl_iload_n hX q_118_35 rfl rfl ?_
    refine gl_iload_n hX q_118_36 rfl rfl ?_
    refine gl_iconst hX q_118_37 ci_1 rfl ?_
    obtain ⟨Se6, are6, e6, h⟩ := o_k2 h
    refine gl_callV hX q_118_38 (qm_411 (by decide)) rfl rfl rfl (qs_0 hr) qx_87 rfl rfl ((rt_87 hX hr hrf) _ _ _ _ _ _ _ _ _ _ e6 ?_)
    refine gl_aload_n hX q_118_41 rfl rfl ?_
    refine gl_get hX q_118_42 (qf_396 (by decide)) (qs_0 hr) rfl qk_49 rfl rfl ?_
    refine gl_iconst hX q_118_45 ci_m1 rfl ?_
    refine gl_ic_ne hX q_118_46 rfl rfl (fun c7 => ?_) (fun c7 => ?_)
    · have h := (if_pos c7).symm.trans h
      refine gl_iconst hX q_118_49 ci_m1 rfl ?_
      refine gl_goto hX q_118_50 rfl ?_
      exact gl_weak (vs := [some (.ref 0), some (.int x1), some (.int x2), none]) ⟨rfl, rfl, rfl, trivial⟩ (rt_118_62 hX hr hrf hP x1 x2 (-1 : Int32) Se6 are6 h)
    · have h := (if_neg c7).symm.trans h
      refine gl_aload_n hX q_118_53 rfl rfl ?_
      refine gl_getA hX q_118_54 (qf_96 (by decide)) (qs_0 hr) rfl qk_47 ((congrFun hrf 47).trans qa_47) rfl ?_
      refine gl_aload_n hX q_118_57 rfl rfl ?_
      refine gl_get hX q_118_58 (qf_396 (by decide)) (qs_0 hr) rfl qk_49 rfl rfl ?_
      obtain ⟨c8, h⟩ := o_ck h
      refine gl_iaload hX q_118_61 (qs_710 hr) c8 rfl rfl ?_
      exact gl_weak (vs := [some (.ref 0), some (.int x1), some (.int x2), none]) ⟨rfl, rfl, rfl, trivial⟩ (rt_118_62 hX hr hrf hP x1 x2 (are6 710 (iN (Se6 49))) Se6 are6 h)
  · have h := (if_neg c5).symm.trans h
    refine gl_iconst hX q_118_27 ci_0 rfl ?_
    exact gl_ireturn q_118_28 (Or.inl qr_118) (by cases h; exact hP)
def rF_118 (x1 : Int32) (x2 : Int32) (S : (Nat → Int32)) (ar : jSc) : Option (Int32 × (Nat → Int32) × jSc) :=
  (o_b3 (rF_88 x1 x2 (upd S 0 (0 : Int32)) ar) (fun ve9 Se9 are9 => (if ve9 = 0 then rF_118_20 x1 x2 (1 : Int32) Se9 are9 else rF_118_20 x1 x2 (0 : Int32) Se9 are9)))
set_option maxHeartbeats 4000000 in
theorem rt_118 {X : jX} (hX : j_LK (g_n X) (g_L X)) (hr : g_rs X = r_sh) {rf : jRf} (hrf : rf 0 = r_rf) {d : Nat} : rT_118 X rf rF_118 (d + 129) := by
  intro sc al Post x1 x2 S ar r9 S9 ar9 h hP
  unfold rF_118 at h
  refine gl_entry (m := 1) rfl ?_
  show gL X 118 (d + 129) 0 [some (.ref 0), some (.int x1), some (.int x2), none] [] (va_up sc 0 S) rf ar al Post
  refine gl_aload_n hX q_118_0 rfl rfl ?_
  refine gl_iconst hX q_118_1 ci_0 rfl ?_
  refine gl_put hX q_118_2 (qf_126 (by decide)) (qs_0 hr) rfl qk_0 rfl ru rfl ?_
  refine gl_aload_n hX q_118_5 rfl rfl ?_
  refine gl_aload_n hX q_118_6 rfl rfl ?_
  refine gl_iload_n hX q_118_7 rfl rfl ?_
  refine gl_iload_n hX q_118_8 rfl rfl ?_
  obtain ⟨ve9, Se9, are9, e9, h⟩ := o_k3 h
  refine gl_callV hX q_118_9 (qm_408 (by decide)) rfl rfl rfl (qs_0 hr) qx_88 rfl rfl ((rt_88 hX hr hrf) _ _ _ _ _ _ _ _ _ _ e9 ?_)
  refine gl_if_ne hX q_118_12 rfl rfl (fun c10 => ?_) (fun c10 => ?_)
  · have h := (if_pos c10).symm.trans h
    refine gl_iconst hX q_118_15 ci_1 rfl ?_
    refine gl_goto hX q_118_16 rfl ?_
    exact gl_weak (vs := [some (.ref 0), some (.int x1), some (.int x2), none]) ⟨rfl, rfl, rfl, trivial⟩ (rt_118_20 hX hr hrf hP x1 x2 (1 : Int32) Se9 are9 h)
  · have h := (if_neg c10).symm.trans h
    refine gl_iconst hX q_118_19 ci_0 rfl ?_
    exact gl_weak (vs := [some (.ref 0), some (.int x1), some (.int x2), none]) ⟨rfl, rfl, rfl, trivial⟩ (rt_118_20 hX hr hrf hP x1 x2 (0 : Int32) Se9 are9 h)
/-- ClickOrdersModel.count(I)I -/
def rT_119 (X : jX) (rf : jRf) (F : Int32 → (Nat → Int32) → jSc → Option (Int32 × (Nat → Int32) × jSc)) (e : Nat) : Prop := ∀ (sc : jSc) (al : jAl) (Post : jPo) (x1 : Int32) (S : (Nat → Int32)) (ar : jSc) (r9 : Int32) (S9 : (Nat → Int32)) (ar9 : jSc), F x1 S ar = some (r9, S9, ar9) → Post (some (.int r9)) (va_up sc 0 S9) rf ar9 al → gW X 119 e 0 (j_av [.ref 0, .int x1]) [] (va_up sc 0 S) rf ar al Post
def rF_119_49 : Nat → Int32 → Int32 → Int32 → Int32 → (Nat → Int32) → jSc → Option (Int32 × (Nat → Int32) × jSc)
  | 0, _, _, _, _, _, _ => none
  | nn + 1, x1, x2, x3, x4, S, ar => (if (4 : Int32) ≤ x4 then (if x1 = (0 : Int32) then some ((ar 9 0), S, ar) else (if x1 = (1 : Int32) then some (x2, S, ar) else (if x1 = (2 : Int32) then some ((S 31), S, ar) else (if x1 = (3 : Int32) then some (x3, S, ar) else (if x1 = (4 : Int32) then some ((ar 14 26), S, ar) else (if x1 = (5 : Int32) then some ((S 38), S, ar) else (if x1 = (6 : Int32) then some ((S 51), S, ar) else (if x1 = (7 : Int32) then some ((S 1), S, ar) else some ((-1 : Int32), S, ar))))))))) else (if iB ((10 : Int32) + x4) 53 then rF_119_49 nn x1 x2 (x3 + (ar 14 (iN ((10 : Int32) + x4)))) (x4 + (1 : Int32)) S ar else none))
set_option maxHeartbeats 4000000 in
theorem rt_119_49 {X : jX} (hX : j_LK (g_n X) (g_L X)) (hr : g_rs X = r_sh) {rf : jRf} (hrf : rf 0 = r_rf) {d : Nat} {sc : jSc} {al : jAl} {Post : jPo} {r9 : Int32} {S9 : (Nat → Int32)} {ar9 : jSc} (hP : Post (some (.int r9)) (va_up sc 0 S9) rf ar9 al) : ∀ (nn : Nat) (x1 : Int32) (x2 : Int32) (x3 : Int32) (x4 : Int32) (S : (Nat → Int32)) (ar : jSc), rF_119_49 nn x1 x2 x3 x4 S ar = some (r9, S9, ar9) → gL X 119 (d + 1) 49 [some (.ref 0), some (.int x1), some (.int x2), some (.int x3), some (.int x4)] [] (va_up sc 0 S) rf ar al Post := by
  intro nn
  induction nn with
  | zero =>
    intro x1 x2 x3 x4 S ar h
    have h : (none : Option (Int32 × (Nat → Int32) × jSc)) = some _ := h
    cases h
  | succ nn ih =>
    intro x1 x2 x3 x4 S ar h
    unfold rF_119_49 at h
    refine gl_iload hX q_119_49 rfl rfl ?_
    refine gl_iconst hX q_119_51 ci_4 rfl ?_
    refine gl_ic_ge hX q_119_52 rfl rfl (fun c1 => ?_) (fun c1 => ?_)
    · have h := (if_pos c1).symm.trans h
      refine gl_iload_n hX q_119_74 rfl rfl ?_
      refine gl_tsw hX q_119_75 rfl rfl (fun c => ?_) (fun j o ho hj => ?_)
      · have h := (if_neg (fun z => c 0 (by decide) (by rw [z]; decide))).symm.trans h
        have h := (if_neg (fun z => c 1 (by decide) (by rw [z]; decide))).symm.trans h
        have h := (if_neg (fun z => c 2 (by decide) (by rw [z]; decide))).symm.trans h
        have h := (if_neg (fun z => c 3 (by decide) (by rw [z]; decide))).symm.trans h
        have h := (if_neg (fun z => c 4 (by decide) (by rw [z]; decide))).symm.trans h
        have h := (if_neg (fun z => c 5 (by decide) (by rw [z]; decide))).symm.trans h
        have h := (if_neg (fun z => c 6 (by decide) (by rw [z]; decide))).symm.trans h
        have h := (if_neg (fun z => c 7 (by decide) (by rw [z]; decide))).symm.trans h
        refine gl_iconst hX q_119_159 ci_m1 rfl ?_
        exact gl_ireturn q_119_160 (Or.inl qr_119) (by cases h; exact hP)
      · rcases (show j = 0 ∨ j = 1 ∨ j = 2 ∨ j = 3 ∨ j = 4 ∨ j = 5 ∨ j = 6 ∨ j = 7 by have := (Array.getElem?_eq_some_iff.mp ho).1; simp only [List.size_toArray, List.length_cons, List.length_nil] at this; omega) with rfl | rfl | rfl | rfl | rfl | rfl | rfl | rfl
        · have hj : x1 = (0 : Int32) := Int32.toInt_inj.mp (hj.trans (by decide))
          cases (show some _ = some _ from ho)
          have h := (if_pos hj).symm.trans h
          refine ⟨120, rfl, ?_⟩
          refine gl_aload_n hX q_119_120 rfl rfl ?_
          refine gl_getA hX q_119_121 (qf_30 (by decide)) (qs_0 hr) rfl qk_13 ((congrFun hrf 13).trans qa_13) rfl ?_
          refine gl_iconst hX q_119_124 ci_0 rfl ?_
          refine gl_iaload hX q_119_125 (qs_9 hr) (by decide) rfl rfl ?_
          exact gl_ireturn q_119_126 (Or.inl qr_119) (by cases h; exact hP)
        · have hj : x1 = (1 : Int32) := Int32.toInt_inj.mp (hj.trans (by decide))
          cases (show some _ = some _ from ho)
          have h := (if_neg (fun z => absurd (hj.symm.trans z) (by decide))).symm.trans h
          have h := (if_pos hj).symm.trans h
          refine ⟨127, rfl, ?_⟩
          refine gl_iload_n hX q_119_127 rfl rfl ?_
          exact gl_ireturn q_119_128 (Or.inl qr_119) (by cases h; exact hP)
        · have hj : x1 = (2 : Int32) := Int32.toInt_inj.mp (hj.trans (by decide))
          cases (show some _ = some _ from ho)
          have h := (if_neg (fun z => absurd (hj.symm.trans z) (by decide))).symm.trans h
          have h := (if_neg (fun z => absurd (hj.symm.trans z) (by decide))).symm.trans h
          have h := (if_pos hj).symm.trans h
          refine ⟨129, rfl, ?_⟩
          refine gl_aload_n hX q_119_129 rfl rfl ?_
          refine gl_get hX q_119_130 (qf_341 (by decide)) (qs_0 hr) rfl qk_31 rfl rfl ?_
          exact gl_ireturn q_119_133 (Or.inl qr_119) (by cases h; exact hP)
        · have hj : x1 = (3 : Int32) := Int32.toInt_inj.mp (hj.trans (by decide))
          cases (show some _ = some _ from ho)
          have h := (if_neg (fun z => absurd (hj.symm.trans z) (by decide))).symm.trans h
          have h := (if_neg (fun z => absurd (hj.symm.trans z) (by decide))).symm.trans h
          have h := (if_neg (fun z => absurd (hj.symm.trans z) (by decide))).symm.trans h
          have h := (if_pos hj).symm.trans h
          refine ⟨134, rfl, ?_⟩
          refine gl_iload_n hX q_119_134 rfl rfl ?_
          exact gl_ireturn q_119_135 (Or.inl qr_119) (by cases h; exact hP)
        · have hj : x1 = (4 : Int32) := Int32.toInt_inj.mp (hj.trans (by decide))
          cases (show some _ = some _ from ho)
          have h := (if_neg (fun z => absurd (hj.symm.trans z) (by decide))).symm.trans h
          have h := (if_neg (fun z => absurd (hj.symm.trans z) (by decide))).symm.trans h
          have h := (if_neg (fun z => absurd (hj.symm.trans z) (by decide))).symm.trans h
          have h := (if_neg (fun z => absurd (hj.symm.trans z) (by decide))).symm.trans h
          have h := (if_pos hj).symm.trans h
          refine ⟨136, rfl, ?_⟩
          refine gl_aload_n hX q_119_136 rfl rfl ?_
          refine gl_getA hX q_119_137 (qf_48 (by decide)) (qs_0 hr) rfl qk_30 ((congrFun hrf 30).trans qa_30) rfl ?_
          refine gl_bipush hX q_119_140 cb_26 rfl ?_
          refine gl_iaload hX q_119_142 (qs_14 hr) (by decide) rfl rfl ?_
          exact gl_ireturn q_119_143 (Or.inl qr_119) (by cases h; exact hP)
        · have hj : x1 = (5 : Int32) := Int32.toInt_inj.mp (hj.trans (by decide))
          cases (show some _ = some _ from ho)
          have h := (if_neg (fun z => absurd (hj.symm.trans z) (by decide))).symm.trans h
          have h := (if_neg (fun z => absurd (hj.symm.trans z) (by decide))).symm.trans h
          have h := (if_neg (fun z => absurd (hj.symm.trans z) (by decide))).symm.trans h
          have h := (if_neg (fun z => absurd (hj.symm.trans z) (by decide))).symm.trans h
          have h := (if_neg (fun z => absurd (hj.symm.trans z) (by decide))).symm.trans h
          have h := (if_pos hj).symm.trans h
          refine ⟨144, rfl, ?_⟩
          refine gl_aload_n hX q_119_144 rfl rfl ?_
          refine gl_get hX q_119_145 (qf_284 (by decide)) (qs_0 hr) rfl qk_38 rfl rfl ?_
          exact gl_ireturn q_119_148 (Or.inl qr_119) (by cases h; exact hP)
        · have hj : x1 = (6 : Int32) := Int32.toInt_inj.mp (hj.trans (by decide))
          cases (show some _ = some _ from ho)
          have h := (if_neg (fun z => absurd (hj.symm.trans z) (by decide))).symm.trans h
          have h := (if_neg (fun z => absurd (hj.symm.trans z) (by decide))).symm.trans h
          have h := (if_neg (fun z => absurd (hj.symm.trans z) (by decide))).symm.trans h
          have h := (if_neg (fun z => absurd (hj.symm.trans z) (by decide))).symm.trans h
          have h := (if_neg (fun z => absurd (hj.symm.trans z) (by decide))).symm.trans h
          have h := (if_neg (fun z => absurd (hj.symm.trans z) (by decide))).symm.trans h
          have h := (if_pos hj).symm.trans h
          refine ⟨149, rfl, ?_⟩
          refine gl_aload_n hX q_119_149 rfl rfl ?_
          refine gl_get hX q_119_150 (qf_421 (by decide)) (qs_0 hr) rfl qk_51 rfl rfl ?_
          exact gl_ireturn q_119_153 (Or.inl qr_119) (by cases h; exact hP)
        · have hj : x1 = (7 : Int32) := Int32.toInt_inj.mp (hj.trans (by decide))
          cases (show some _ = some _ from ho)
          have h := (if_neg (fun z => absurd (hj.symm.trans z) (by decide))).symm.trans h
          have h := (if_neg (fun z => absurd (hj.symm.trans z) (by decide))).symm.trans h
          have h := (if_neg (fun z => absurd (hj.symm.trans z) (by decide))).symm.trans h
          have h := (if_neg (fun z => absurd (hj.symm.trans z) (by decide))).symm.trans h
          have h := (if_neg (fun z => absurd (hj.symm.trans z) (by decide))).symm.trans h
          have h := (if_neg (fun z => absurd (hj.symm.trans z) (by decide))).symm.trans h
          have h := (if_neg (fun z => absurd (hj.symm.trans z) (by decide))).symm.trans h
          have h := (if_pos hj).symm.trans h
          refine ⟨154, rfl, ?_⟩
          refine gl_aload_n hX q_119_154 rfl rfl ?_
          refine gl_get hX q_119_155 (qf_129 (by decide)) (qs_0 hr) rfl qk_1 rfl rfl ?_
          exact gl_ireturn q_119_158 (Or.inl qr_119) (by cases h; exact hP)
    · have h := (if_neg c1).symm.trans h
      refine gl_iload_n hX q_119_55 rfl rfl ?_
      refine gl_aload_n hX q_119_56 rfl rfl ?_
      refine gl_getA hX q_119_57 (qf_48 (by decide)) (qs_0 hr) rfl qk_30 ((congrFun hrf 30).trans qa_30) rfl ?_
      refine gl_bipush hX q_119_60 cb_10 rfl ?_
      refine gl_iload hX q_119_62 rfl rfl ?_
      refine gl_iadd hX q_119_64 rfl ?_
      obtain ⟨c2, h⟩ := o_ck h
      refine gl_iaload hX q_119_65 (qs_14 hr) c2 rfl rfl ?_
      refine gl_iadd hX q_119_66 rfl ?_
      refine gl_istore_n (vs2 := [some (.ref 0), some (.int x1), some (.int x2), some (.int (x3 + (ar 14 (iN ((10 : Int32) + x4))))), some (.int x4)]) hX q_119_67 rfl rfl rfl rfl ?_
      refine gl_iinc (vs2 := [some (.ref 0), some (.int x1), some (.int x2), some (.int (x3 + (ar 14 (iN ((10 : Int32) + x4))))), some (.int (x4 + (1 : Int32)))]) hX q_119_68 rfl rfl rfl ci_1 rfl rfl ?_
      refine gl_goto hX q_119_71 rfl ?_
      exact gl_weak (vs := [some (.ref 0), some (.int x1), some (.int x2), some (.int (x3 + (ar 14 (iN ((10 : Int32) + x4))))), some (.int (x4 + (1 : Int32)))]) ⟨rfl, rfl, rfl, rfl, rfl, trivial⟩ (ih x1 x2 (x3 + (ar 14 (iN ((10 : Int32) + x4)))) (x4 + (1 : Int32)) S ar h)
def rF_119_12 : Nat → Int32 → Int32 → Int32 → Int32 → (Nat → Int32) → jSc → Option (Int32 × (Nat → Int32) × jSc)
  | 0, _, _, _, _, _, _ => none
  | nn + 1, x1, x2, x3, x4, S, ar => (if (17 : Int32) ≤ x4 then rF_119_49 oF x1 x2 x3 (0 : Int32) S ar else (if iB x4 17 then (if (ar 6 (iN x4)) = (-1 : Int32) then rF_119_12 nn x1 (x2 + (0 : Int32)) x3 (x4 + (1 : Int32)) S ar else rF_119_12 nn x1 (x2 + (1 : Int32)) x3 (x4 + (1 : Int32)) S ar) else none))
set_option maxHeartbeats 4000000 in
theorem rt_119_12 {X : jX} (hX : j_LK (g_n X) (g_L X)) (hr : g_rs X = r_sh) {rf : jRf} (hrf : rf 0 = r_rf) {d : Nat} {sc : jSc} {al : jAl} {Post : jPo} {r9 : Int32} {S9 : (Nat → Int32)} {ar9 : jSc} (hP : Post (some (.int r9)) (va_up sc 0 S9) rf ar9 al) : ∀ (nn : Nat) (x1 : Int32) (x2 : Int32) (x3 : Int32) (x4 : Int32) (S : (Nat → Int32)) (ar : jSc), rF_119_12 nn x1 x2 x3 x4 S ar = some (r9, S9, ar9) → gL X 119 (d + 1) 12 [some (.ref 0), some (.int x1), some (.int x2), some (.int x3), some (.int x4)] [] (va_up sc 0 S) rf ar al Post := by
  intro nn
  induction nn with
  | zero =>
    intro x1 x2 x3 x4 S ar h
    have h : (none : Option (Int32 × (Nat → Int32) × jSc)) = some _ := h
    cases h
  | succ nn ih =>
    intro x1 x2 x3 x4 S ar h
    unfold rF_119_12 at h
    refine gl_iload hX q_119_12 rfl rfl ?_
    refine gl_bipush hX q_119_14 cb_17 rfl ?_
    refine gl_ic_ge hX q_119_16 rfl rfl (fun c3 => ?_) (fun c3 => ?_)
    · have h := (if_pos c3).symm.trans h
      refine gl_iconst hX q_119_46 ci_0 rfl ?_
      refine gl_istore (vs2 := [some (.ref 0), some (.int x1), some (.int x2), some (.int x3), some (.int (0 : Int32))]) hX q_119_47 rfl rfl rfl rfl ?_
      exact gl_weak (vs := [some (.ref 0), some (.int x1), some (.int x2), some (.int x3), some (.int (0 : Int32))]) ⟨rfl, rfl, rfl, rfl, rfl, trivial⟩ (rt_119_49 hX hr hrf hP oF x1 x2 x3 (0 : Int32) S ar h)
    · have h := (if_neg c3).symm.trans h
      refine gl_iload_n hX q_119_19 rfl rfl ?_
      refine gl_aload_n hX q_119_20 rfl rfl ?_
      refine gl_getA hX q_119_21 (qf_24 (by decide)) (qs_0 hr) rfl qk_11 ((congrFun hrf 11).trans qa_11) rfl ?_
      refine gl_iconst hX q_119_24 ci_0 rfl ?_
      refine gl_aaload hX q_119_25 (qs_5 hr) (show iB (0 : Int32) 2 by decide) (Or.inr ⟨Or.inl rfl, qs_0 hr⟩) (qo_5 (iB_lt (show iB (0 : Int32) 2 by decide))) rfl ?_
      refine gl_iload hX q_119_26 rfl rfl ?_
      obtain ⟨c4, h⟩ := o_ck h
      refine gl_iaload hX q_119_28 (qs_handler hr (i := 0) (by decide)) c4 rfl rfl ?_
      refine gl_iconst hX q_119_29 ci_m1 rfl ?_
      refine gl_ic_ne hX q_119_30 rfl rfl (fun c5 => ?_) (fun c5 => ?_)
      · have h := (if_pos c5).symm.trans h
        refine gl_iconst hX q_119_33 ci_0 rfl ?_
        refine gl_goto hX q_119_34 rfl ?_
        refine gl_iadd hX q_119_38 rfl ?_
        refine gl_istore_n (vs2 := [some (.ref 0), some (.int x1), some (.int (x2 + (0 : Int32))), some (.int x3), some (.int x4)]) hX q_119_39 rfl rfl rfl rfl ?_
        refine gl_iinc (vs2 := [some (.ref 0), some (.int x1), some (.int (x2 + (0 : Int32))), some (.int x3), some (.int (x4 + (1 : Int32)))]) hX q_119_40 rfl rfl rfl ci_1 rfl rfl ?_
        refine gl_goto hX q_119_43 rfl ?_
        exact gl_weak (vs := [some (.ref 0), some (.int x1), some (.int (x2 + (0 : Int32))), some (.int x3), some (.int (x4 + (1 : Int32)))]) ⟨rfl, rfl, rfl, rfl, rfl, trivial⟩ (ih x1 (x2 + (0 : Int32)) x3 (x4 + (1 : Int32)) S ar h)
      · have h := (if_neg c5).symm.trans h
        refine gl_iconst hX q_119_37 ci_1 rfl ?_
        refine gl_iadd hX q_119_38 rfl ?_
        refine gl_istore_n (vs2 := [some (.ref 0), some (.int x1), some (.int (x2 + (1 : Int32))), some (.int x3), some (.int x4)]) hX q_119_39 rfl rfl rfl rfl ?_
        refine gl_iinc (vs2 := [some (.ref 0), some (.int x1), some (.int (x2 + (1 : Int32))), some (.int x3), some (.int (x4 + (1 : Int32)))]) hX q_119_40 rfl rfl rfl ci_1 rfl rfl ?_
        refine gl_goto hX q_119_43 rfl ?_
        exact gl_weak (vs := [some (.ref 0), some (.int x1), some (.int (x2 + (1 : Int32))), some (.int x3), some (.int (x4 + (1 : Int32)))]) ⟨rfl, rfl, rfl, rfl, rfl, trivial⟩ (ih x1 (x2 + (1 : Int32)) x3 (x4 + (1 : Int32)) S ar h)
def rF_119 (x1 : Int32) (S : (Nat → Int32)) (ar : jSc) : Option (Int32 × (Nat → Int32) × jSc) :=
  rF_119_12 oF x1 (0 : Int32) (0 : Int32) (0 : Int32) (upd S 0 (0 : Int32)) ar
set_option maxHeartbeats 4000000 in
theorem rt_119 {X : jX} (hX : j_LK (g_n X) (g_L X)) (hr : g_rs X = r_sh) {rf : jRf} (hrf : rf 0 = r_rf) {d : Nat} : rT_119 X rf rF_119 (d + 1) := by
  intro sc al Post x1 S ar r9 S9 ar9 h hP
  unfold rF_119 at h
  refine gl_entry (m := 3) rfl ?_
  show gL X 119 (d + 1) 0 [some (.ref 0), some (.int x1), none, none, none] [] (va_up sc 0 S) rf ar al Post
  refine gl_aload_n hX q_119_0 rfl rfl ?_
  refine gl_iconst hX q_119_1 ci_0 rfl ?_
  refine gl_put hX q_119_2 (qf_126 (by decide)) (qs_0 hr) rfl qk_0 rfl ru rfl ?_
  refine gl_iconst hX q_119_5 ci_0 rfl ?_
  refine gl_istore_n (vs2 := [some (.ref 0), some (.int x1), some (.int (0 : Int32)), none, none]) hX q_119_6 rfl rfl rfl rfl ?_
  refine gl_iconst hX q_119_7 ci_0 rfl ?_
  refine gl_istore_n (vs2 := [some (.ref 0), some (.int x1), some (.int (0 : Int32)), some (.int (0 : Int32)), none]) hX q_119_8 rfl rfl rfl rfl ?_
  refine gl_iconst hX q_119_9 ci_0 rfl ?_
  refine gl_istore (vs2 := [some (.ref 0), some (.int x1), some (.int (0 : Int32)), some (.int (0 : Int32)), some (.int (0 : Int32))]) hX q_119_10 rfl rfl rfl rfl ?_
  exact gl_weak (vs := [some (.ref 0), some (.int x1), some (.int (0 : Int32)), some (.int (0 : Int32)), some (.int (0 : Int32))]) ⟨rfl, rfl, rfl, rfl, rfl, trivial⟩ (rt_119_12 hX hr hrf hP oF x1 (0 : Int32) (0 : Int32) (0 : Int32) (upd S 0 (0 : Int32)) ar h)
