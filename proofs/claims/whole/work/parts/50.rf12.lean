/-! THE REFERENCE: its methods as functions, and that the machine does what they say. -/
/-- ClickOrdersModel.windows()I -/
def rT_111 (X : jX) (rf : jRf) (F : (Nat → Int32) → jSc → Option (Int32 × (Nat → Int32) × jSc)) (e : Nat) : Prop := ∀ (sc : jSc) (al : jAl) (Post : jPo) (S : (Nat → Int32)) (ar : jSc) (r9 : Int32) (S9 : (Nat → Int32)) (ar9 : jSc), F S ar = some (r9, S9, ar9) → Post (some (.int r9)) (va_up sc 0 S9) rf ar9 al → gW X 111 e 0 (j_av [.ref 0]) [] (va_up sc 0 S) rf ar al Post
def rF_111 (S : (Nat → Int32)) (ar : jSc) : Option (Int32 × (Nat → Int32) × jSc) :=
  (o_b2 (rF_109 (upd S 0 (0 : Int32)) ar) (fun Se1 are1 => some ((S 57), Se1, are1)))
set_option maxHeartbeats 4000000 in
theorem rt_111 {X : jX} (hX : j_LK (g_n X) (g_L X)) (hr : g_rs X = r_sh) {rf : jRf} (hrf : rf 0 = r_rf) {d : Nat} : rT_111 X rf rF_111 (d + 128) := by
  intro sc al Post  S ar r9 S9 ar9 h hP
  unfold rF_111 at h
  refine gl_entry (m := 1) rfl ?_
  show gL X 111 (d + 128) 0 [some (.ref 0), none] [] (va_up sc 0 S) rf ar al Post
  refine gl_aload_n hX q_111_0 rfl rfl ?_
  refine gl_iconst hX q_111_1 ci_0 rfl ?_
  refine gl_put hX q_111_2 (qf_126 (by decide)) (qs_0 hr) rfl qk_0 rfl ru rfl ?_
  refine gl_aload_n hX q_111_5 rfl rfl ?_
  refine gl_get hX q_111_6 (qf_294 (by decide)) (qs_0 hr) rfl qk_57 rfl rfl ?_
  refine gl_istore_n (vs2 := [some (.ref 0), some (.int (S 57))]) hX q_111_9 rfl rfl rfl rfl ?_
  refine gl_aload_n hX q_111_10 rfl rfl ?_
  obtain ⟨Se1, are1, e1, h⟩ := o_k2 h
  refine gl_callV hX q_111_11 (qm_123 (by decide)) rfl rfl rfl (qs_0 hr) qx_109 rfl rfl ((rt_109 hX hr hrf) _ _ _  _ _ _ _ e1 ?_)
  refine gl_iload_n hX q_111_14 rfl rfl ?_
  exact gl_ireturn q_111_15 (Or.inl qr_111) (by cases h; exact hP)
/-- ClickOrdersModel.comes(II)I -/
def rT_112 (X : jX) (rf : jRf) (F : Int32 → Int32 → (Nat → Int32) → jSc → Option (Int32 × (Nat → Int32) × jSc)) (e : Nat) : Prop := ∀ (sc : jSc) (al : jAl) (Post : jPo) (x1 : Int32) (x2 : Int32) (S : (Nat → Int32)) (ar : jSc) (r9 : Int32) (S9 : (Nat → Int32)) (ar9 : jSc), F x1 x2 S ar = some (r9, S9, ar9) → Post (some (.int r9)) (va_up sc 0 S9) rf ar9 al → gW X 112 e 0 (j_av [.ref 0, .int x1, .int x2]) [] (va_up sc 0 S) rf ar al Post
def rF_112_30 (x1 : Int32) (x2 : Int32) (y0 : Int32) (S : (Nat → Int32)) (ar : jSc) : Option (Int32 × (Nat → Int32) × jSc) :=
  (o_b3 (rF_3 y0 (1 : Int32) S ar) (fun ve1 Se1 are1 => (if ve1 = 0 then (o_b3 (rF_110 x1 x2 Se1 are1) (fun ve3 Se3 are3 => (if ve3 = 0 then some ((-1 : Int32), Se3, are3) else some ((Se3 57), Se3, are3)))) else some ((0 : Int32), Se1, are1))))
set_option maxHeartbeats 4000000 in
theorem rt_112_30 {X : jX} (hX : j_LK (g_n X) (g_L X)) (hr : g_rs X = r_sh) {rf : jRf} (hrf : rf 0 = r_rf) {d : Nat} {sc : jSc} {al : jAl} {Post : jPo} {r9 : Int32} {S9 : (Nat → Int32)} {ar9 : jSc} (hP : Post (some (.int r9)) (va_up sc 0 S9) rf ar9 al) (x1 : Int32) (x2 : Int32) (y0 : Int32) (S : (Nat → Int32)) (ar : jSc) (h : rF_112_30 x1 x2 y0 S ar = some (r9, S9, ar9)) : gL X 112 (d + 128) 30 [some (.ref 0), some (.int x1), some (.int x2)] [.int y0, .ref 0] (va_up sc 0 S) rf ar al Post := by
  unfold rF_112_30 at h
  refine gl_iconst hX q_112_30 ci_1 rfl ?_
  obtain ⟨ve1, Se1, are1, e1, h⟩ := o_k3 h
  refine gl_callV hX q_112_31 (qm_306 (by decide)) rfl rfl rfl (qs_0 hr) qx_3 rfl rfl ((rt_3 hX hr hrf) _ _ _ _ _ _ _ _ _ _ e1 ?_)
  refine gl_if_eq hX q_112_34 rfl rfl (fun c2 => ?_) (fun c2 => ?_)
  · have h := (if_pos c2).symm.trans h
    refine gl_aload_n hX q_112_39 rfl rfl ?_
    refine gl_iload_n hX q_112_40 rfl rfl ?_
    refine gl_iload_n hX q_112_41 rfl rfl ?_
    obtain ⟨ve3, Se3, are3, e3, h⟩ := o_k3 h
    refine gl_callV hX q_112_42 (qm_442 (by decide)) rfl rfl rfl (qs_0 hr) qx_110 rfl rfl ((rt_110 hX hr hrf) _ _ _ _ _ _ _ _ _ _ e3 ?_)
    refine gl_if_eq hX q_112_45 rfl rfl (fun c4 => ?_) (fun c4 => ?_)
    · have h := (if_pos c4).symm.trans h
      refine gl_iconst hX q_112_55 ci_m1 rfl ?_
      exact gl_ireturn q_112_56 (Or.inl qr_112) (by cases h; exact hP)
    · have h := (if_neg c4).symm.trans h
      refine gl_aload_n hX q_112_48 rfl rfl ?_
      refine gl_get hX q_112_49 (qf_294 (by decide)) (qs_0 hr) rfl qk_57 rfl rfl ?_
      refine gl_goto hX q_112_52 rfl ?_
      exact gl_ireturn q_112_56 (Or.inl qr_112) (by cases h; exact hP)
  · have h := (if_neg c2).symm.trans h
    refine gl_iconst hX q_112_37 ci_0 rfl ?_
    exact gl_ireturn q_112_38 (Or.inl qr_112) (by cases h; exact hP)
def rF_112 (x1 : Int32) (x2 : Int32) (S : (Nat → Int32)) (ar : jSc) : Option (Int32 × (Nat → Int32) × jSc) :=
  (o_b3 (rF_4 x1 (0 : Int32) (1 : Int32) (upd S 0 (0 : Int32)) ar) (fun ve5 Se5 are5 => (if ve5 = 0 then rF_112_30 x1 x2 (1 : Int32) Se5 are5 else (o_b3 (rF_4 x2 (0 : Int32) (12 : Int32) Se5 are5) (fun ve7 Se7 are7 => (if ve7 = 0 then rF_112_30 x1 x2 (1 : Int32) Se7 are7 else rF_112_30 x1 x2 (0 : Int32) Se7 are7))))))
set_option maxHeartbeats 4000000 in
theorem rt_112 {X : jX} (hX : j_LK (g_n X) (g_L X)) (hr : g_rs X = r_sh) {rf : jRf} (hrf : rf 0 = r_rf) {d : Nat} : rT_112 X rf rF_112 (d + 128) := by
  intro sc al Post x1 x2 S ar r9 S9 ar9 h hP
  unfold rF_112 at h
  refine gl_entry (m := 0) rfl ?_
  show gL X 112 (d + 128) 0 [some (.ref 0), some (.int x1), some (.int x2)] [] (va_up sc 0 S) rf ar al Post
  refine gl_aload_n hX q_112_0 rfl rfl ?_
  refine gl_iconst hX q_112_1 ci_0 rfl ?_
  refine gl_put hX q_112_2 (qf_126 (by decide)) (qs_0 hr) rfl qk_0 rfl ru rfl ?_
  refine gl_aload_n hX q_112_5 rfl rfl ?_
  refine gl_iload_n hX q_112_6 rfl rfl ?_
  refine gl_iconst hX q_112_7 ci_0 rfl ?_
  refine gl_iconst hX q_112_8 ci_1 rfl ?_
  obtain ⟨ve5, Se5, are5, e5, h⟩ := o_k3 h
  refine gl_callS q_112_9 (qm_247 (by decide)) rfl rfl rfl qx_4 rfl rfl ((rt_4 hX hr hrf) _ _ _ _ _ _ _ _ _ _ _ e5 ?_)
  refine gl_if_eq hX q_112_12 rfl rfl (fun c6 => ?_) (fun c6 => ?_)
  · have h := (if_pos c6).symm.trans h
    refine gl_iconst hX q_112_25 ci_1 rfl ?_
    refine gl_goto hX q_112_26 rfl ?_
    exact gl_weak (vs := [some (.ref 0), some (.int x1), some (.int x2)]) ⟨rfl, rfl, rfl, trivial⟩ (rt_112_30 hX hr hrf hP x1 x2 (1 : Int32) Se5 are5 h)
  · have h := (if_neg c6).symm.trans h
    refine gl_iload_n hX q_112_15 rfl rfl ?_
    refine gl_iconst hX q_112_16 ci_0 rfl ?_
    refine gl_bipush hX q_112_17 cb_12 rfl ?_
    obtain ⟨ve7, Se7, are7, e7, h⟩ := o_k3 h
    refine gl_callS q_112_19 (qm_247 (by decide)) rfl rfl rfl qx_4 rfl rfl ((rt_4 hX hr hrf) _ _ _ _ _ _ _ _ _ _ _ e7 ?_)
    refine gl_if_ne hX q_112_22 rfl rfl (fun c8 => ?_) (fun c8 => ?_)
    · have h := (if_pos c8).symm.trans h
      refine gl_iconst hX q_112_25 ci_1 rfl ?_
      refine gl_goto hX q_112_26 rfl ?_
      exact gl_weak (vs := [some (.ref 0), some (.int x1), some (.int x2)]) ⟨rfl, rfl, rfl, trivial⟩ (rt_112_30 hX hr hrf hP x1 x2 (1 : Int32) Se7 are7 h)
    · have h := (if_neg c8).symm.trans h
      refine gl_iconst hX q_112_29 ci_0 rfl ?_
      exact gl_weak (vs := [some (.ref 0), some (.int x1), some (.int x2)]) ⟨rfl, rfl, rfl, trivial⟩ (rt_112_30 hX hr hrf hP x1 x2 (0 : Int32) Se7 are7 h)
/-- ClickOrdersModel.shows(II)I -/
def rT_113 (X : jX) (rf : jRf) (F : Int32 → Int32 → (Nat → Int32) → jSc → Option (Int32 × (Nat → Int32) × jSc)) (e : Nat) : Prop := ∀ (sc : jSc) (al : jAl) (Post : jPo) (x1 : Int32) (x2 : Int32) (S : (Nat → Int32)) (ar : jSc) (r9 : Int32) (S9 : (Nat → Int32)) (ar9 : jSc), F x1 x2 S ar = some (r9, S9, ar9) → Post (some (.int r9)) (va_up sc 0 S9) rf ar9 al → gW X 113 e 0 (j_av [.ref 0, .int x1, .int x2]) [] (va_up sc 0 S) rf ar al Post
def rF_113_21 (x1 : Int32) (x2 : Int32) (y0 : Int32) (S : (Nat → Int32)) (ar : jSc) : Option (Int32 × (Nat → Int32) × jSc) :=
  (o_b3 (rF_3 y0 (1 : Int32) S ar) (fun ve1 Se1 are1 => (if ve1 = 0 then (o_b3 (rF_4 x1 (0 : Int32) (1 : Int32) Se1 are1) (fun ve3 Se3 are3 => (if ve3 = 0 then (o_b3 (rF_3 (1 : Int32) (2 : Int32) Se3 are3) (fun ve5 Se5 are5 => (if ve5 = 0 then (if iB x1 2 then (if iB x2 53 then some ((are5 (714 + iN x1) (iN x2)), Se5, are5) else none) else none) else some ((0 : Int32), Se5, are5)))) else (o_b3 (rF_3 (0 : Int32) (2 : Int32) Se3 are3) (fun ve9 Se9 are9 => (if ve9 = 0 then (if iB x1 2 then (if iB x2 53 then some ((are9 (714 + iN x1) (iN x2)), Se9, are9) else none) else none) else some ((0 : Int32), Se9, are9))))))) else some ((0 : Int32), Se1, are1))))
set_option maxHeartbeats 4000000 in
theorem rt_113_21 {X : jX} (hX : j_LK (g_n X) (g_L X)) (hr : g_rs X = r_sh) {rf : jRf} (hrf : rf 0 = r_rf) {d : Nat} {sc : jSc} {al : jAl} {Post : jPo} {r9 : Int32} {S9 : (Nat → Int32)} {ar9 : jSc} (hP : Post (some (.int r9)) (va_up sc 0 S9) rf ar9 al) (x1 : Int32) (x2 : Int32) (y0 : Int32) (S : (Nat → Int32)) (ar : jSc) (h : rF_113_21 x1 x2 y0 S ar = some (r9, S9, ar9)) : gL X 113 (d + 2) 21 [some (.ref 0), some (.int x1), some (.int x2)] [.int y0, .ref 0] (va_up sc 0 S) rf ar al Post := by
  unfold rF_113_21 at h
  refine gl_iconst hX q_113_21 ci_1 rfl ?_
  obtain ⟨ve1, Se1, are1, e1, h⟩ := o_k3 h
  refine gl_callV hX q_113_22 (qm_306 (by decide)) rfl rfl rfl (qs_0 hr) qx_3 rfl rfl ((rt_3 hX hr hrf) _ _ _ _ _ _ _ _ _ _ e1 ?_)
  refine gl_if_ne hX q_113_25 rfl rfl (fun c2 => ?_) (fun c2 => ?_)
  · have h := (if_pos c2).symm.trans h
    refine gl_aload_n hX q_113_28 rfl rfl ?_
    refine gl_iload_n hX q_113_29 rfl rfl ?_
    refine gl_iconst hX q_113_30 ci_0 rfl ?_
    refine gl_iconst hX q_113_31 ci_1 rfl ?_
    obtain ⟨ve3, Se3, are3, e3, h⟩ := o_k3 h
    refine gl_callS q_113_32 (qm_247 (by decide)) rfl rfl rfl qx_4 rfl rfl ((rt_4 hX hr hrf) _ _ _ _ _ _ _ _ _ _ _ e3 ?_)
    refine gl_if_ne hX q_113_35 rfl rfl (fun c4 => ?_) (fun c4 => ?_)
    · have h := (if_pos c4).symm.trans h
      refine gl_iconst hX q_113_38 ci_1 rfl ?_
      refine gl_goto hX q_113_39 rfl ?_
      refine gl_iconst hX q_113_43 ci_2 rfl ?_
      obtain ⟨ve5, Se5, are5, e5, h⟩ := o_k3 h
      refine gl_callV hX q_113_44 (qm_306 (by decide)) rfl rfl rfl (qs_0 hr) qx_3 rfl rfl ((rt_3 hX hr hrf) _ _ _ _ _ _ _ _ _ _ e5 ?_)
      refine gl_if_eq hX q_113_47 rfl rfl (fun c6 => ?_) (fun c6 => ?_)
      · have h := (if_pos c6).symm.trans h
        refine gl_aload_n hX q_113_52 rfl rfl ?_
        refine gl_getA hX q_113_53 (qf_105 (by decide)) (qs_0 hr) rfl qk_54 ((congrFun hrf 54).trans qa_54) rfl ?_
        refine gl_iload_n hX q_113_56 rfl rfl ?_
        obtain ⟨c7, h⟩ := o_ck h
        refine gl_aaload hX q_113_57 (qs_713 hr) c7 (Or.inr ⟨Or.inl rfl, qs_0 hr⟩) (qo_713 (iB_lt c7)) rfl ?_
        refine gl_iload_n hX q_113_58 rfl rfl ?_
        obtain ⟨c8, h⟩ := o_ck h
        refine gl_iaload hX q_113_59 (qs_windowPage hr (iB_lt c7)) c8 rfl rfl ?_
        exact gl_ireturn q_113_60 (Or.inl qr_113) (by cases h; exact hP)
      · have h := (if_neg c6).symm.trans h
        refine gl_iconst hX q_113_50 ci_0 rfl ?_
        exact gl_ireturn q_113_51 (Or.inl qr_113) (by cases h; exact hP)
    · have h := (if_neg c4).symm.trans h
      refine gl_iconst hX q_113_42 ci_0 rfl ?_
      refine gl_iconst hX q_113_43 ci_2 rfl ?_
      obtain ⟨ve9, Se9, are9, e9, h⟩ := o_k3 h
      refine gl_callV hX q_113_44 (qm_306 (by decide)) rfl rfl rfl (qs_0 hr) qx_3 rfl rfl ((rt_3 hX hr hrf) _ _ _ _ _ _ _ _ _ _ e9 ?_)
      refine gl_if_eq hX q_113_47 rfl rfl (fun c10 => ?_) (fun c10 => ?_)
      · have h := (if_pos c10).symm.trans h
        refine gl_aload_n hX q_113_52 rfl rfl ?_
        refine gl_getA hX q_113_53 (qf_105 (by decide)) (qs_0 hr) rfl qk_54 ((congrFun hrf 54).trans qa_54) rfl ?_
        refine gl_iload_n hX q_113_56 rfl rfl ?_
        obtain ⟨c11, h⟩ := o_ck h
        refine gl_aaload hX q_113_57 (qs_713 hr) c11 (Or.inr ⟨Or.inl rfl, qs_0 hr⟩) (qo_713 (iB_lt c11)) rfl ?_
        refine gl_iload_n hX q_113_58 rfl rfl ?_
        obtain ⟨c12, h⟩ := o_ck h
        refine gl_iaload hX q_113_59 (qs_windowPage hr (iB_lt c11)) c12 rfl rfl ?_
        exact gl_ireturn q_113_60 (Or.inl qr_113) (by cases h; exact hP)
      · have h := (if_neg c10).symm.trans h
        refine gl_iconst hX q_113_50 ci_0 rfl ?_
        exact gl_ireturn q_113_51 (Or.inl qr_113) (by cases h; exact hP)
  · have h := (if_neg c2).symm.trans h
    refine gl_iconst hX q_113_50 ci_0 rfl ?_
    exact gl_ireturn q_113_51 (Or.inl qr_113) (by cases h; exact hP)
def rF_113 (x1 : Int32) (x2 : Int32) (S : (Nat → Int32)) (ar : jSc) : Option (Int32 × (Nat → Int32) × jSc) :=
  (o_b3 (rF_4 x2 (0 : Int32) (7 : Int32) (upd S 0 (0 : Int32)) ar) (fun ve13 Se13 are13 => (if ve13 = 0 then rF_113_21 x1 x2 (1 : Int32) Se13 are13 else rF_113_21 x1 x2 (0 : Int32) Se13 are13)))
set_option maxHeartbeats 4000000 in
theorem rt_113 {X : jX} (hX : j_LK (g_n X) (g_L X)) (hr : g_rs X = r_sh) {rf : jRf} (hrf : rf 0 = r_rf) {d : Nat} : rT_113 X rf rF_113 (d + 2) := by
  intro sc al Post x1 x2 S ar r9 S9 ar9 h hP
  unfold rF_113 at h
  refine gl_entry (m := 0) rfl ?_
  show gL X 113 (d + 2) 0 [some (.ref 0), some (.int x1), some (.int x2)] [] (va_up sc 0 S) rf ar al Post
  refine gl_aload_n hX q_113_0 rfl rfl ?_
  refine gl_iconst hX q_113_1 ci_0 rfl ?_
  refine gl_put hX q_113_2 (qf_126 (by decide)) (qs_0 hr) rfl qk_0 rfl ru rfl ?_
  refine gl_aload_n hX q_113_5 rfl rfl ?_
  refine gl_iload_n hX q_113_6 rfl rfl ?_
  refine gl_iconst hX q_113_7 ci_0 rfl ?_
  refine gl_bipush hX q_113_8 cb_7 rfl ?_
  obtain ⟨ve13, Se13, are13, e13, h⟩ := o_k3 h
  refine gl_callS q_113_10 (qm_247 (by decide)) rfl rfl rfl qx_4 rfl rfl ((rt_4 hX hr hrf) _ _ _ _ _ _ _ _ _ _ _ e13 ?_)
  refine gl_if_ne hX q_113_13 rfl rfl (fun c14 => ?_) (fun c14 => ?_)
  · have h := (if_pos c14).symm.trans h
    refine gl_iconst hX q_113_16 ci_1 rfl ?_
    refine gl_goto hX q_113_17 rfl ?_
    exact gl_weak (vs := [some (.ref 0), some (.int x1), some (.int x2)]) ⟨rfl, rfl, rfl, trivial⟩ (rt_113_21 hX hr hrf hP x1 x2 (1 : Int32) Se13 are13 h)
  · have h := (if_neg c14).symm.trans h
    refine gl_iconst hX q_113_20 ci_0 rfl ?_
    exact gl_weak (vs := [some (.ref 0), some (.int x1), some (.int x2)]) ⟨rfl, rfl, rfl, trivial⟩ (rt_113_21 hX hr hrf hP x1 x2 (0 : Int32) Se13 are13 h)
/-- ClickOrdersModel.keepsWindows(I)V -/
def rT_114 (X : jX) (rf : jRf) (F : Int32 → (Nat → Int32) → jSc → Option ((Nat → Int32) × jSc)) (e : Nat) : Prop := ∀ (sc : jSc) (al : jAl) (Post : jPo) (x1 : Int32) (S : (Nat → Int32)) (ar : jSc) (S9 : (Nat → Int32)) (ar9 : jSc), F x1 S ar = some (S9, ar9) → Post none (va_up sc 0 S9) rf ar9 al → gW X 114 e 0 (j_av [.ref 0, .int x1]) [] (va_up sc 0 S) rf ar al Post
def rF_114_99 (k51 : Int32 → Int32 → (Nat → Int32) → jSc → Option ((Nat → Int32) × jSc)) (x1 : Int32) (x2 : Int32) (y0 : Int32) (y1 : Int32) (ps2 : Nat) (S : (Nat → Int32)) (ar : jSc) : Option ((Nat → Int32) × jSc) :=
  (if iB y1 89 then (if iB x1 8 then (if iB x2 4 then (if ((j_u2 ar ps2 (iN y1) y0) 719 (iN x2)) = 0 then (if iB ((84 : Int32) + x2) 89 then k51 x1 (x2 + (1 : Int32)) S (j_u2 (j_u2 ar ps2 (iN y1) y0) (721 + iN x1) (iN ((84 : Int32) + x2)) (0 : Int32)) else none) else (if iB ((84 : Int32) + x2) 89 then k51 x1 (x2 + (1 : Int32)) S (j_u2 (j_u2 ar ps2 (iN y1) y0) (721 + iN x1) (iN ((84 : Int32) + x2)) (1 : Int32)) else none)) else none) else none) else none)
set_option maxHeartbeats 4000000 in
theorem rt_114_99 {X : jX} (hX : j_LK (g_n X) (g_L X)) (hr : g_rs X = r_sh) {rf : jRf} (hrf : rf 0 = r_rf) {d : Nat} {sc : jSc} {al : jAl} {Post : jPo} {S9 : (Nat → Int32)} {ar9 : jSc} {k51 : Int32 → Int32 → (Nat → Int32) → jSc → Option ((Nat → Int32) × jSc)} (hk51 : ∀ (x1 : Int32) (x2 : Int32) (S : (Nat → Int32)) (ar : jSc), k51 x1 x2 S ar = some (S9, ar9) → gL X 114 (d + 1) 51 [some (.ref 0), some (.int x1), some (.int x2)] [] (va_up sc 0 S) rf ar al Post) (hP : Post none (va_up sc 0 S9) rf ar9 al) (x1 : Int32) (x2 : Int32) (y0 : Int32) (y1 : Int32) (ps2 : Nat) (S : (Nat → Int32)) (ar : jSc) (hps2 : (g_L X).1 ps2 = .inr (0, 89)) (h : rF_114_99 k51 x1 x2 y0 y1 ps2 S ar = some (S9, ar9)) : gL X 114 (d + 1) 99 [some (.ref 0), some (.int x1), some (.int x2)] [.int y0, .int y1, .ref ps2] (va_up sc 0 S) rf ar al Post := by
  unfold rF_114_99 at h
  obtain ⟨c1, h⟩ := o_ck h
  refine gl_iastore (ar2 := (j_u2 ar ps2 (iN y1) y0)) hX q_114_99 hps2 c1 rfl rfl ?_
  refine gl_aload_n hX q_114_100 rfl rfl ?_
  refine gl_getA hX q_114_101 (qf_114 (by decide)) (qs_0 hr) rfl qk_58 ((congrFun hrf 58).trans qa_58) rfl ?_
  refine gl_iload_n hX q_114_104 rfl rfl ?_
  obtain ⟨c2, h⟩ := o_ck h
  refine gl_aaload hX q_114_105 (qs_720 hr) c2 (Or.inr ⟨Or.inl rfl, qs_0 hr⟩) (qo_720 (iB_lt c2)) rfl ?_
  refine gl_bipush hX q_114_106 cb_84 rfl ?_
  refine gl_iload_n hX q_114_108 rfl rfl ?_
  refine gl_iadd hX q_114_109 rfl ?_
  refine gl_aload_n hX q_114_110 rfl rfl ?_
  refine gl_getA hX q_114_111 (qf_111 (by decide)) (qs_0 hr) rfl qk_56 ((congrFun hrf 56).trans qa_56) rfl ?_
  refine gl_iconst hX q_114_114 ci_1 rfl ?_
  refine gl_aaload hX q_114_115 (qs_717 hr) (show iB (1 : Int32) 2 by decide) (Or.inr ⟨Or.inr rfl, qs_0 hr⟩) (qo_717 (iB_lt (show iB (1 : Int32) 2 by decide))) rfl ?_
  refine gl_iload_n hX q_114_116 rfl rfl ?_
  obtain ⟨c3, h⟩ := o_ck h
  refine gl_baload hX q_114_117 (qs_isAsked hr (i := 1) (by decide)) c3 rfl rfl ?_
  refine gl_if_eq hX q_114_118 rfl rfl (fun c4 => ?_) (fun c4 => ?_)
  · have h := (if_pos c4).symm.trans h
    refine gl_iconst hX q_114_125 ci_0 rfl ?_
    obtain ⟨c5, h⟩ := o_ck h
    refine gl_iastore (ar2 := (j_u2 (j_u2 ar ps2 (iN y1) y0) (721 + iN x1) (iN ((84 : Int32) + x2)) (0 : Int32))) hX q_114_126 (qs_keptWindows hr (iB_lt c2)) c5 rfl rfl ?_
    refine gl_iinc (vs2 := [some (.ref 0), some (.int x1), some (.int (x2 + (1 : Int32)))]) hX q_114_127 rfl rfl rfl ci_1 rfl rfl ?_
    refine gl_goto hX q_114_130 rfl ?_
    exact gl_weak (vs := [some (.ref 0), some (.int x1), some (.int (x2 + (1 : Int32)))]) ⟨rfl, rfl, rfl, trivial⟩ (hk51 x1 (x2 + (1 : Int32)) S (j_u2 (j_u2 ar ps2 (iN y1) y0) (721 + iN x1) (iN ((84 : Int32) + x2)) (0 : Int32)) h)
  · have h := (if_neg c4).symm.trans h
    refine gl_iconst hX q_114_121 ci_1 rfl ?_
    refine gl_goto hX q_114_122 rfl ?_
    obtain ⟨c6, h⟩ := o_ck h
    refine gl_iastore (ar2 := (j_u2 (j_u2 ar ps2 (iN y1) y0) (721 + iN x1) (iN ((84 : Int32) + x2)) (1 : Int32))) hX q_114_126 (qs_keptWindows hr (iB_lt c2)) c6 rfl rfl ?_
    refine gl_iinc (vs2 := [some (.ref 0), some (.int x1), some (.int (x2 + (1 : Int32)))]) hX q_114_127 rfl rfl rfl ci_1 rfl rfl ?_
    refine gl_goto hX q_114_130 rfl ?_
    exact gl_weak (vs := [some (.ref 0), some (.int x1), some (.int (x2 + (1 : Int32)))]) ⟨rfl, rfl, rfl, trivial⟩ (hk51 x1 (x2 + (1 : Int32)) S (j_u2 (j_u2 ar ps2 (iN y1) y0) (721 + iN x1) (iN ((84 : Int32) + x2)) (1 : Int32)) h)
def rF_114_51 : Nat → Int32 → Int32 → (Nat → Int32) → jSc → Option ((Nat → Int32) × jSc)
  | 0, _, _, _, _ => none
  | nn + 1, x1, x2, S, ar => (if (4 : Int32) ≤ x2 then (if iB x1 8 then some (S, (j_u2 ar (721 + iN x1) 88 (S 57))) else none) else (if iB x1 8 then (if iB x2 4 then (if iB ((76 : Int32) + x2) 89 then (if iB x1 8 then (if iB x2 4 then (if ((j_u2 ar (721 + iN x1) (iN ((76 : Int32) + x2)) (ar 716 (iN x2))) 718 (iN x2)) = 0 then rF_114_99 (fun x1_ x2_ S_ ar_ => rF_114_51 nn x1_ x2_ S_ ar_) x1 x2 (0 : Int32) ((80 : Int32) + x2) (721 + iN x1) S (j_u2 ar (721 + iN x1) (iN ((76 : Int32) + x2)) (ar 716 (iN x2))) else rF_114_99 (fun x1_ x2_ S_ ar_ => rF_114_51 nn x1_ x2_ S_ ar_) x1 x2 (1 : Int32) ((80 : Int32) + x2) (721 + iN x1) S (j_u2 ar (721 + iN x1) (iN ((76 : Int32) + x2)) (ar 716 (iN x2)))) else none) else none) else none) else none) else none))
set_option maxHeartbeats 4000000 in
theorem rt_114_51 {X : jX} (hX : j_LK (g_n X) (g_L X)) (hr : g_rs X = r_sh) {rf : jRf} (hrf : rf 0 = r_rf) {d : Nat} {sc : jSc} {al : jAl} {Post : jPo} {S9 : (Nat → Int32)} {ar9 : jSc} (hP : Post none (va_up sc 0 S9) rf ar9 al) : ∀ (nn : Nat) (x1 : Int32) (x2 : Int32) (S : (Nat → Int32)) (ar : jSc), rF_114_51 nn x1 x2 S ar = some (S9, ar9) → gL X 114 (d + 1) 51 [some (.ref 0), some (.int x1), some (.int x2)] [] (va_up sc 0 S) rf ar al Post := by
  intro nn
  induction nn with
  | zero =>
    intro x1 x2 S ar h
    have h : (none : Option ((Nat → Int32) × jSc)) = some _ := h
    cases h
  | succ nn ih =>
    intro x1 x2 S ar h
    unfold rF_114_51 at h
    refine gl_iload_n hX q_114_51 rfl rfl ?_
    refine gl_iconst hX q_114_52 ci_4 rfl ?_
    refine gl_ic_ge hX q_114_53 rfl rfl (fun c7 => ?_) (fun c7 => ?_)
    · have h := (if_pos c7).symm.trans h
      refine gl_aload_n hX q_114_133 rfl rfl ?_
      refine gl_getA hX q_114_134 (qf_114 (by decide)) (qs_0 hr) rfl qk_58 ((congrFun hrf 58).trans qa_58) rfl ?_
      refine gl_iload_n hX q_114_137 rfl rfl ?_
      obtain ⟨c8, h⟩ := o_ck h
      refine gl_aaload hX q_114_138 (qs_720 hr) c8 (Or.inr ⟨Or.inl rfl, qs_0 hr⟩) (qo_720 (iB_lt c8)) rfl ?_
      refine gl_bipush hX q_114_139 cb_88 rfl ?_
      refine gl_aload_n hX q_114_141 rfl rfl ?_
      refine gl_get hX q_114_142 (qf_294 (by decide)) (qs_0 hr) rfl qk_57 rfl rfl ?_
      refine gl_iastore (ar2 := (j_u2 ar (721 + iN x1) 88 (S 57))) hX q_114_145 (qs_keptWindows hr (iB_lt c8)) (by decide) rfl rfl ?_
      exact gl_return q_114_146 qr_114 (by cases h; exact hP)
    · have h := (if_neg c7).symm.trans h
      refine gl_aload_n hX q_114_56 rfl rfl ?_
      refine gl_getA hX q_114_57 (qf_114 (by decide)) (qs_0 hr) rfl qk_58 ((congrFun hrf 58).trans qa_58) rfl ?_
      refine gl_iload_n hX q_114_60 rfl rfl ?_
      obtain ⟨c9, h⟩ := o_ck h
      refine gl_aaload hX q_114_61 (qs_720 hr) c9 (Or.inr ⟨Or.inl rfl, qs_0 hr⟩) (qo_720 (iB_lt c9)) rfl ?_
      refine gl_bipush hX q_114_62 cb_76 rfl ?_
      refine gl_iload_n hX q_114_64 rfl rfl ?_
      refine gl_iadd hX q_114_65 rfl ?_
      refine gl_aload_n hX q_114_66 rfl rfl ?_
      refine gl_getA hX q_114_67 (qf_108 (by decide)) (qs_0 hr) rfl qk_55 ((congrFun hrf 55).trans qa_55) rfl ?_
      refine gl_iload_n hX q_114_70 rfl rfl ?_
      obtain ⟨c10, h⟩ := o_ck h
      refine gl_iaload hX q_114_71 (qs_716 hr) c10 rfl rfl ?_
      obtain ⟨c11, h⟩ := o_ck h
      refine gl_iastore (ar2 := (j_u2 ar (721 + iN x1) (iN ((76 : Int32) + x2)) (ar 716 (iN x2)))) hX q_114_72 (qs_keptWindows hr (iB_lt c9)) c11 rfl rfl ?_
      refine gl_aload_n hX q_114_73 rfl rfl ?_
      refine gl_getA hX q_114_74 (qf_114 (by decide)) (qs_0 hr) rfl qk_58 ((congrFun hrf 58).trans qa_58) rfl ?_
      refine gl_iload_n hX q_114_77 rfl rfl ?_
      obtain ⟨c12, h⟩ := o_ck h
      refine gl_aaload hX q_114_78 (qs_720 hr) c12 (Or.inr ⟨Or.inl rfl, qs_0 hr⟩) (qo_720 (iB_lt c12)) rfl ?_
      refine gl_bipush hX q_114_79 cb_80 rfl ?_
      refine gl_iload_n hX q_114_81 rfl rfl ?_
      refine gl_iadd hX q_114_82 rfl ?_
      refine gl_aload_n hX q_114_83 rfl rfl ?_
      refine gl_getA hX q_114_84 (qf_111 (by decide)) (qs_0 hr) rfl qk_56 ((congrFun hrf 56).trans qa_56) rfl ?_
      refine gl_iconst hX q_114_87 ci_0 rfl ?_
      refine gl_aaload hX q_114_88 (qs_717 hr) (show iB (0 : Int32) 2 by decide) (Or.inr ⟨Or.inr rfl, qs_0 hr⟩) (qo_717 (iB_lt (show iB (0 : Int32) 2 by decide))) rfl ?_
      refine gl_iload_n hX q_114_89 rfl rfl ?_
      obtain ⟨c13, h⟩ := o_ck h
      refine gl_baload hX q_114_90 (qs_isAsked hr (i := 0) (by decide)) c13 rfl rfl ?_
      refine gl_if_eq hX q_114_91 rfl rfl (fun c14 => ?_) (fun c14 => ?_)
      · have h := (if_pos c14).symm.trans h
        refine gl_iconst hX q_114_98 ci_0 rfl ?_
        exact gl_weak (vs := [some (.ref 0), some (.int x1), some (.int x2)]) ⟨rfl, rfl, rfl, trivial⟩ (rt_114_99 hX hr hrf ih hP x1 x2 (0 : Int32) ((80 : Int32) + x2) (721 + iN x1) S (j_u2 ar (721 + iN x1) (iN ((76 : Int32) + x2)) (ar 716 (iN x2))) (qs_keptWindows hr (iB_lt c12)) h)
      · have h := (if_neg c14).symm.trans h
        refine gl_iconst hX q_114_94 ci_1 rfl ?_
        refine gl_goto hX q_114_95 rfl ?_
        exact gl_weak (vs := [some (.ref 0), some (.int x1), some (.int x2)]) ⟨rfl, rfl, rfl, trivial⟩ (rt_114_99 hX hr hrf ih hP x1 x2 (1 : Int32) ((80 : Int32) + x2) (721 + iN x1) S (j_u2 ar (721 + iN x1) (iN ((76 : Int32) + x2)) (ar 716 (iN x2))) (qs_keptWindows hr (iB_lt c12)) h)
def rF_114_2 : Nat → Int32 → Int32 → (Nat → Int32) → jSc → Option ((Nat → Int32) × jSc)
  | 0, _, _, _, _ => none
  | nn + 1, x1, x2, S, ar => (if (38 : Int32) ≤ x2 then rF_114_51 oF x1 (0 : Int32) S ar else (if iB x1 8 then (if iB x2 53 then (if iB x2 89 then (if iB x1 8 then (if iB x2 53 then (if iB ((38 : Int32) + x2) 89 then rF_114_2 nn x1 (x2 + (1 : Int32)) S (j_u2 (j_u2 ar (721 + iN x1) (iN x2) (ar 714 (iN x2))) (721 + iN x1) (iN ((38 : Int32) + x2)) ((j_u2 ar (721 + iN x1) (iN x2) (ar 714 (iN x2))) 715 (iN x2))) else none) else none) else none) else none) else none) else none))
set_option maxHeartbeats 4000000 in
theorem rt_114_2 {X : jX} (hX : j_LK (g_n X) (g_L X)) (hr : g_rs X = r_sh) {rf : jRf} (hrf : rf 0 = r_rf) {d : Nat} {sc : jSc} {al : jAl} {Post : jPo} {S9 : (Nat → Int32)} {ar9 : jSc} (hP : Post none (va_up sc 0 S9) rf ar9 al) : ∀ (nn : Nat) (x1 : Int32) (x2 : Int32) (S : (Nat → Int32)) (ar : jSc), rF_114_2 nn x1 x2 S ar = some (S9, ar9) → gL X 114 (d + 1) 2 [some (.ref 0), some (.int x1), some (.int x2)] [] (va_up sc 0 S) rf ar al Post := by
  intro nn
  induction nn with
  | zero =>
    intro x1 x2 S ar h
    have h : (none : Option ((Nat → Int32) × jSc)) = some _ := h
    cases h
  | succ nn ih =>
    intro x1 x2 S ar h
    unfold rF_114_2 at h
    refine gl_iload_n hX q_114_2 rfl rfl ?_
    refine gl_bipush hX q_114_3 cb_38 rfl ?_
    refine gl_ic_ge hX q_114_5 rfl rfl (fun c15 => ?_) (fun c15 => ?_)
    · have h := (if_pos c15).symm.trans h
      refine gl_iconst hX q_114_49 ci_0 rfl ?_
      refine gl_istore_n (vs2 := [some (.ref 0), some (.int x1), some (.int (0 : Int32))]) hX q_114_50 rfl rfl rfl rfl ?_
      exact gl_weak (vs := [some (.ref 0), some (.int x1), some (.int (0 : Int32))]) ⟨rfl, rfl, rfl, trivial⟩ (rt_114_51 hX hr hrf hP oF x1 (0 : Int32) S ar h)
    · have h := (if_neg c15).symm.trans h
      refine gl_aload_n hX q_114_8 rfl rfl ?_
      refine gl_getA hX q_114_9 (qf_114 (by decide)) (qs_0 hr) rfl qk_58 ((congrFun hrf 58).trans qa_58) rfl ?_
      refine gl_iload_n hX q_114_12 rfl rfl ?_
      obtain ⟨c16, h⟩ := o_ck h
      refine gl_aaload hX q_114_13 (qs_720 hr) c16 (Or.inr ⟨Or.inl rfl, qs_0 hr⟩) (qo_720 (iB_lt c16)) rfl ?_
      refine gl_iload_n hX q_114_14 rfl rfl ?_
      refine gl_aload_n hX q_114_15 rfl rfl ?_
      refine gl_getA hX q_114_16 (qf_105 (by decide)) (qs_0 hr) rfl qk_54 ((congrFun hrf 54).trans qa_54) rfl ?_
      refine gl_iconst hX q_114_19 ci_0 rfl ?_
      refine gl_aaload hX q_114_20 (qs_713 hr) (show iB (0 : Int32) 2 by decide) (Or.inr ⟨Or.inl rfl, qs_0 hr⟩) (qo_713 (iB_lt (show iB (0 : Int32) 2 by decide))) rfl ?_
      refine gl_iload_n hX q_114_21 rfl rfl ?_
      obtain ⟨c17, h⟩ := o_ck h
      refine gl_iaload hX q_114_22 (qs_windowPage hr (i := 0) (by decide)) c17 rfl rfl ?_
      obtain ⟨c18, h⟩ := o_ck h
      refine gl_iastore (ar2 := (j_u2 ar (721 + iN x1) (iN x2) (ar 714 (iN x2)))) hX q_114_23 (qs_keptWindows hr (iB_lt c16)) c18 rfl rfl ?_
      refine gl_aload_n hX q_114_24 rfl rfl ?_
      refine gl_getA hX q_114_25 (qf_114 (by decide)) (qs_0 hr) rfl qk_58 ((congrFun hrf 58).trans qa_58) rfl ?_
      refine gl_iload_n hX q_114_28 rfl rfl ?_
      obtain ⟨c19, h⟩ := o_ck h
      refine gl_aaload hX q_114_29 (qs_720 hr) c19 (Or.inr ⟨Or.inl rfl, qs_0 hr⟩) (qo_720 (iB_lt c19)) rfl ?_
      refine gl_bipush hX q_114_30 cb_38 rfl ?_
      refine gl_iload_n hX q_114_32 rfl rfl ?_
      refine gl_iadd hX q_114_33 rfl ?_
      refine gl_aload_n hX q_114_34 rfl rfl ?_
      refine gl_getA hX q_114_35 (qf_105 (by decide)) (qs_0 hr) rfl qk_54 ((congrFun hrf 54).trans qa_54) rfl ?_
      refine gl_iconst hX q_114_38 ci_1 rfl ?_
      refine gl_aaload hX q_114_39 (qs_713 hr) (show iB (1 : Int32) 2 by decide) (Or.inr ⟨Or.inl rfl, qs_0 hr⟩) (qo_713 (iB_lt (show iB (1 : Int32) 2 by decide))) rfl ?_
      refine gl_iload_n hX q_114_40 rfl rfl ?_
      obtain ⟨c20, h⟩ := o_ck h
      refine gl_iaload hX q_114_41 (qs_windowPage hr (i := 1) (by decide)) c20 rfl rfl ?_
      obtain ⟨c21, h⟩ := o_ck h
      refine gl_iastore (ar2 := (j_u2 (j_u2 ar (721 + iN x1) (iN x2) (ar 714 (iN x2))) (721 + iN x1) (iN ((38 : Int32) + x2)) ((j_u2 ar (721 + iN x1) (iN x2) (ar 714 (iN x2))) 715 (iN x2)))) hX q_114_42 (qs_keptWindows hr (iB_lt c19)) c21 rfl rfl ?_
      refine gl_iinc (vs2 := [some (.ref 0), some (.int x1), some (.int (x2 + (1 : Int32)))]) hX q_114_43 rfl rfl rfl ci_1 rfl rfl ?_
      refine gl_goto hX q_114_46 rfl ?_
      exact gl_weak (vs := [some (.ref 0), some (.int x1), some (.int (x2 + (1 : Int32)))]) ⟨rfl, rfl, rfl, trivial⟩ (ih x1 (x2 + (1 : Int32)) S (j_u2 (j_u2 ar (721 + iN x1) (iN x2) (ar 714 (iN x2))) (721 + iN x1) (iN ((38 : Int32) + x2)) ((j_u2 ar (721 + iN x1) (iN x2) (ar 714 (iN x2))) 715 (iN x2))) h)
def rF_114 (x1 : Int32) (S : (Nat → Int32)) (ar : jSc) : Option ((Nat → Int32) × jSc) :=
  rF_114_2 oF x1 (0 : Int32) S ar
set_option maxHeartbeats 4000000 in
theorem rt_114 {X : jX} (hX : j_LK (g_n X) (g_L X)) (hr : g_rs X = r_sh) {rf : jRf} (hrf : rf 0 = r_rf) {d : Nat} : rT_114 X rf rF_114 (d + 1) := by
  intro sc al Post x1 S ar S9 ar9 h hP
  unfold rF_114 at h
  refine gl_entry (m := 1) rfl ?_
  show gL X 114 (d + 1) 0 [some (.ref 0), some (.int x1), none] [] (va_up sc 0 S) rf ar al Post
  refine gl_iconst hX q_114_0 ci_0 rfl ?_
  refine gl_istore_n (vs2 := [some (.ref 0), some (.int x1), some (.int (0 : Int32))]) hX q_114_1 rfl rfl rfl rfl ?_
  exact gl_weak (vs := [some (.ref 0), some (.int x1), some (.int (0 : Int32))]) ⟨rfl, rfl, rfl, trivial⟩ (rt_114_2 hX hr hrf hP oF x1 (0 : Int32) S ar h)
/-- ClickOrdersModel.loadsWindows(I)V -/
def rT_115 (X : jX) (rf : jRf) (F : Int32 → (Nat → Int32) → jSc → Option ((Nat → Int32) × jSc)) (e : Nat) : Prop := ∀ (sc : jSc) (al : jAl) (Post : jPo) (x1 : Int32) (S : (Nat → Int32)) (ar : jSc) (S9 : (Nat → Int32)) (ar9 : jSc), F x1 S ar = some (S9, ar9) → Post none (va_up sc 0 S9) rf ar9 al → gW X 115 e 0 (j_av [.ref 0, .int x1]) [] (va_up sc 0 S) rf ar al Post
def rF_115_100 (k51 : Int32 → Int32 → (Nat → Int32) → jSc → Option ((Nat → Int32) × jSc)) (x1 : Int32) (x2 : Int32) (y0 : Int32) (y1 : Int32) (ps2 : Nat) (S : (Nat → Int32)) (ar : jSc) : Option ((Nat → Int32) × jSc) :=
  (if iB y1 4 then (if y0 = 0 ∨ y0 = 1 then (if iB x1 8 then (if iB ((84 : Int32) + x2) 89 then (if ((j_u2 ar ps2 (iN y1) y0) (721 + iN x1) (iN ((84 : Int32) + x2))) = (1 : Int32) then (if iB x2 4 then k51 x1 (x2 + (1 : Int32)) S (j_u2 (j_u2 ar ps2 (iN y1) y0) 719 (iN x2) (1 : Int32)) else none) else (if iB x2 4 then k51 x1 (x2 + (1 : Int32)) S (j_u2 (j_u2 ar ps2 (iN y1) y0) 719 (iN x2) (0 : Int32)) else none)) else none) else none) else none) else none)
set_option maxHeartbeats 4000000 in
theorem rt_115_100 {X : jX} (hX : j_LK (g_n X) (g_L X)) (hr : g_rs X = r_sh) {rf : jRf} (hrf : rf 0 = r_rf) {d : Nat} {sc : jSc} {al : jAl} {Post : jPo} {S9 : (Nat → Int32)} {ar9 : jSc} {k51 : Int32 → Int32 → (Nat → Int32) → jSc → Option ((Nat → Int32) × jSc)} (hk51 : ∀ (x1 : Int32) (x2 : Int32) (S : (Nat → Int32)) (ar : jSc), k51 x1 x2 S ar = some (S9, ar9) → gL X 115 (d + 1) 51 [some (.ref 0), some (.int x1), some (.int x2)] [] (va_up sc 0 S) rf ar al Post) (hP : Post none (va_up sc 0 S9) rf ar9 al) (x1 : Int32) (x2 : Int32) (y0 : Int32) (y1 : Int32) (ps2 : Nat) (S : (Nat → Int32)) (ar : jSc) (hps2 : (g_L X).1 ps2 = .inr (2, 4)) (h : rF_115_100 k51 x1 x2 y0 y1 ps2 S ar = some (S9, ar9)) : gL X 115 (d + 1) 100 [some (.ref 0), some (.int x1), some (.int x2)] [.int y0, .int y1, .ref ps2] (va_up sc 0 S) rf ar al Post := by
  unfold rF_115_100 at h
  obtain ⟨c1, h⟩ := o_ck h
  obtain ⟨c2, h⟩ := o_ck h
  refine gl_bastore (ar2 := (j_u2 ar ps2 (iN y1) y0)) hX q_115_100 hps2 c1 c2 rfl rfl ?_
  refine gl_aload_n hX q_115_101 rfl rfl ?_
  refine gl_getA hX q_115_102 (qf_111 (by decide)) (qs_0 hr) rfl qk_56 ((congrFun hrf 56).trans qa_56) rfl ?_
  refine gl_iconst hX q_115_105 ci_1 rfl ?_
  refine gl_aaload hX q_115_106 (qs_717 hr) (show iB (1 : Int32) 2 by decide) (Or.inr ⟨Or.inr rfl, qs_0 hr⟩) (qo_717 (iB_lt (show iB (1 : Int32) 2 by decide))) rfl ?_
  refine gl_iload_n hX q_115_107 rfl rfl ?_
  refine gl_aload_n hX q_115_108 rfl rfl ?_
  refine gl_getA hX q_115_109 (qf_114 (by decide)) (qs_0 hr) rfl qk_58 ((congrFun hrf 58).trans qa_58) rfl ?_
  refine gl_iload_n hX q_115_112 rfl rfl ?_
  obtain ⟨c3, h⟩ := o_ck h
  refine gl_aaload hX q_115_113 (qs_720 hr) c3 (Or.inr ⟨Or.inl rfl, qs_0 hr⟩) (qo_720 (iB_lt c3)) rfl ?_
  refine gl_bipush hX q_115_114 cb_84 rfl ?_
  refine gl_iload_n hX q_115_116 rfl rfl ?_
  refine gl_iadd hX q_115_117 rfl ?_
  obtain ⟨c4, h⟩ := o_ck h
  refine gl_iaload hX q_115_118 (qs_keptWindows hr (iB_lt c3)) c4 rfl rfl ?_
  refine gl_iconst hX q_115_119 ci_1 rfl ?_
  refine gl_ic_ne hX q_115_120 rfl rfl (fun c5 => ?_) (fun c5 => ?_)
  · have h := (if_pos c5).symm.trans h
    refine gl_iconst hX q_115_123 ci_1 rfl ?_
    refine gl_goto hX q_115_124 rfl ?_
    obtain ⟨c6, h⟩ := o_ck h
    refine gl_bastore (ar2 := (j_u2 (j_u2 ar ps2 (iN y1) y0) 719 (iN x2) (1 : Int32))) hX q_115_128 (qs_isAsked hr (i := 1) (by decide)) c6 (Or.inr rfl) rfl rfl ?_
    refine gl_iinc (vs2 := [some (.ref 0), some (.int x1), some (.int (x2 + (1 : Int32)))]) hX q_115_129 rfl rfl rfl ci_1 rfl rfl ?_
    refine gl_goto hX q_115_132 rfl ?_
    exact gl_weak (vs := [some (.ref 0), some (.int x1), some (.int (x2 + (1 : Int32)))]) ⟨rfl, rfl, rfl, trivial⟩ (hk51 x1 (x2 + (1 : Int32)) S (j_u2 (j_u2 ar ps2 (iN y1) y0) 719 (iN x2) (1 : Int32)) h)
  · have h := (if_neg c5).symm.trans h
    refine gl_iconst hX q_115_127 ci_0 rfl ?_
    obtain ⟨c7, h⟩ := o_ck h
    refine gl_bastore (ar2 := (j_u2 (j_u2 ar ps2 (iN y1) y0) 719 (iN x2) (0 : Int32))) hX q_115_128 (qs_isAsked hr (i := 1) (by decide)) c7 (Or.inl rfl) rfl rfl ?_
    refine gl_iinc (vs2 := [some (.ref 0), some (.int x1), some (.int (x2 + (1 : Int32)))]) hX q_115_129 rfl rfl rfl ci_1 rfl rfl ?_
    refine gl_goto hX q_115_132 rfl ?_
    exact gl_weak (vs := [some (.ref 0), some (.int x1), some (.int (x2 + (1 : Int32)))]) ⟨rfl, rfl, rfl, trivial⟩ (hk51 x1 (x2 + (1 : Int32)) S (j_u2 (j_u2 ar ps2 (iN y1) y0) 719 (iN x2) (0 : Int32)) h)
def rF_115_51 : Nat → Int32 → Int32 → (Nat → Int32) → jSc → Option ((Nat → Int32) × jSc)
  | 0, _, _, _, _ => none
  | nn + 1, x1, x2, S, ar => (if (4 : Int32) ≤ x2 then (if iB x1 8 then some ((upd S 57 (ar (721 + iN x1) 88)), ar) else none) else (if iB x1 8 then (if iB ((76 : Int32) + x2) 89 then (if iB x2 4 then (if iB x1 8 then (if iB ((80 : Int32) + x2) 89 then (if ((j_u2 ar 716 (iN x2) (ar (721 + iN x1) (iN ((76 : Int32) + x2)))) (721 + iN x1) (iN ((80 : Int32) + x2))) = (1 : Int32) then rF_115_100 (fun x1_ x2_ S_ ar_ => rF_115_51 nn x1_ x2_ S_ ar_) x1 x2 (1 : Int32) x2 718 S (j_u2 ar 716 (iN x2) (ar (721 + iN x1) (iN ((76 : Int32) + x2)))) else rF_115_100 (fun x1_ x2_ S_ ar_ => rF_115_51 nn x1_ x2_ S_ ar_) x1 x2 (0 : Int32) x2 718 S (j_u2 ar 716 (iN x2) (ar (721 + iN x1) (iN ((76 : Int32) + x2))))) else none) else none) else none) else none) else none))
set_option maxHeartbeats 4000000 in
theorem rt_115_51 {X : jX} (hX : j_LK (g_n X) (g_L X)) (hr : g_rs X = r_sh) {rf : jRf} (hrf : rf 0 = r_rf) {d : Nat} {sc : jSc} {al : jAl} {Post : jPo} {S9 : (Nat → Int32)} {ar9 : jSc} (hP : Post none (va_up sc 0 S9) rf ar9 al) : ∀ (nn : Nat) (x1 : Int32) (x2 : Int32) (S : (Nat → Int32)) (ar : jSc), rF_115_51 nn x1 x2 S ar = some (S9, ar9) → gL X 115 (d + 1) 51 [some (.ref 0), some (.int x1), some (.int x2)] [] (va_up sc 0 S) rf ar al Post := by
  intro nn
  induction nn with
  | zero =>
    intro x1 x2 S ar h
    have h : (none : Option ((Nat → Int32) × jSc)) = some _ := h
    cases h
  | succ nn ih =>
    intro x1 x2 S ar h
    unfold rF_115_51 at h
    refine gl_iload_n hX q_115_51 rfl rfl ?_
    refine gl_iconst hX q_115_52 ci_4 rfl ?_
    refine gl_ic_ge hX q_115_53 rfl rfl (fun c8 => ?_) (fun c8 => ?_)
    · have h := (if_pos c8).symm.trans h
      refine gl_aload_n hX q_115_135 rfl rfl ?_
      refine gl_aload_n hX q_115_136 rfl rfl ?_
      refine gl_getA hX q_115_137 (qf_114 (by decide)) (qs_0 hr) rfl qk_58 ((congrFun hrf 58).trans qa_58) rfl ?_
      refine gl_iload_n hX q_115_140 rfl rfl ?_
      obtain ⟨c9, h⟩ := o_ck h
      refine gl_aaload hX q_115_141 (qs_720 hr) c9 (Or.inr ⟨Or.inl rfl, qs_0 hr⟩) (qo_720 (iB_lt c9)) rfl ?_
      refine gl_bipush hX q_115_142 cb_88 rfl ?_
      refine gl_iaload hX q_115_144 (qs_keptWindows hr (iB_lt c9)) (by decide) rfl rfl ?_
      refine gl_put hX q_115_145 (qf_294 (by decide)) (qs_0 hr) rfl qk_57 rfl ru rfl ?_
      exact gl_return q_115_148 qr_115 (by cases h; exact hP)
    · have h := (if_neg c8).symm.trans h
      refine gl_aload_n hX q_115_56 rfl rfl ?_
      refine gl_getA hX q_115_57 (qf_108 (by decide)) (qs_0 hr) rfl qk_55 ((congrFun hrf 55).trans qa_55) rfl ?_
      refine gl_iload_n hX q_115_60 rfl rfl ?_
      refine gl_aload_n hX q_115_61 rfl rfl ?_
      refine gl_getA hX q_115_62 (qf_114 (by decide)) (qs_0 hr) rfl qk_58 ((congrFun hrf 58).trans qa_58) rfl ?_
      refine gl_iload_n hX q_115_65 rfl rfl ?_
      obtain ⟨c10, h⟩ := o_ck h
      refine gl_aaload hX q_115_66 (qs_720 hr) c10 (Or.inr ⟨Or.inl rfl, qs_0 hr⟩) (qo_720 (iB_lt c10)) rfl ?_
      refine gl_bipush hX q_115_67 cb_76 rfl ?_
      refine gl_iload_n hX q_115_69 rfl rfl ?_
      refine gl_iadd hX q_115_70 rfl ?_
      obtain ⟨c11, h⟩ := o_ck h
      refine gl_iaload hX q_115_71 (qs_keptWindows hr (iB_lt c10)) c11 rfl rfl ?_
      obtain ⟨c12, h⟩ := o_ck h
      refine gl_iastore (ar2 := (j_u2 ar 716 (iN x2) (ar (721 + iN x1) (iN ((76 : Int32) + x2))))) hX q_115_72 (qs_716 hr) c12 rfl rfl ?_
      refine gl_aload_n hX q_115_73 rfl rfl ?_
      refine gl_getA hX q_115_74 (qf_111 (by decide)) (qs_0 hr) rfl qk_56 ((congrFun hrf 56).trans qa_56) rfl ?_
      refine gl_iconst hX q_115_77 ci_0 rfl ?_
      refine gl_aaload hX q_115_78 (qs_717 hr) (show iB (0 : Int32) 2 by decide) (Or.inr ⟨Or.inr rfl, qs_0 hr⟩) (qo_717 (iB_lt (show iB (0 : Int32) 2 by decide))) rfl ?_
      refine gl_iload_n hX q_115_79 rfl rfl ?_
      refine gl_aload_n hX q_115_80 rfl rfl ?_
      refine gl_getA hX q_115_81 (qf_114 (by decide)) (qs_0 hr) rfl qk_58 ((congrFun hrf 58).trans qa_58) rfl ?_
      refine gl_iload_n hX q_115_84 rfl rfl ?_
      obtain ⟨c13, h⟩ := o_ck h
      refine gl_aaload hX q_115_85 (qs_720 hr) c13 (Or.inr ⟨Or.inl rfl, qs_0 hr⟩) (qo_720 (iB_lt c13)) rfl ?_
      refine gl_bipush hX q_115_86 cb_80 rfl ?_
      refine gl_iload_n hX q_115_88 rfl rfl ?_
      refine gl_iadd hX q_115_89 rfl ?_
      obtain ⟨c14, h⟩ := o_ck h
      refine gl_iaload hX q_115_90 (qs_keptWindows hr (iB_lt c13)) c14 rfl rfl ?_
      refine gl_iconst hX q_115_91 ci_1 rfl ?_
      refine gl_ic_ne hX q_115_92 rfl rfl (fun c15 => ?_) (fun c15 => ?_)
      · have h := (if_pos c15).symm.trans h
        refine gl_iconst hX q_115_95 ci_1 rfl ?_
        refine gl_goto hX q_115_96 rfl ?_
        exact gl_weak (vs := [some (.ref 0), some (.int x1), some (.int x2)]) ⟨rfl, rfl, rfl, trivial⟩ (rt_115_100 hX hr hrf ih hP x1 x2 (1 : Int32) x2 718 S (j_u2 ar 716 (iN x2) (ar (721 + iN x1) (iN ((76 : Int32) + x2)))) (qs_isAsked hr (i := 0) (by decide)) h)
      · have h := (if_neg c15).symm.trans h
        refine gl_iconst hX q_115_99 ci_0 rfl ?_
        exact gl_weak (vs := [some (.ref 0), some (.int x1), some (.int x2)]) ⟨rfl, rfl, rfl, trivial⟩ (rt_115_100 hX hr hrf ih hP x1 x2 (0 : Int32) x2 718 S (j_u2 ar 716 (iN x2) (ar (721 + iN x1) (iN ((76 : Int32) + x2)))) (qs_isAsked hr (i := 0) (by decide)) h)
def rF_115_2 : Nat → Int32 → Int32 → (Nat → Int32) → jSc → Option ((Nat → Int32) × jSc)
  | 0, _, _, _, _ => none
  | nn + 1, x1, x2, S, ar => (if (38 : Int32) ≤ x2 then rF_115_51 oF x1 (0 : Int32) S ar else (if iB x1 8 then (if iB x2 89 then (if iB x2 53 then (if iB x1 8 then (if iB ((38 : Int32) + x2) 89 then (if iB x2 53 then rF_115_2 nn x1 (x2 + (1 : Int32)) S (j_u2 (j_u2 ar 714 (iN x2) (ar (721 + iN x1) (iN x2))) 715 (iN x2) ((j_u2 ar 714 (iN x2) (ar (721 + iN x1) (iN x2))) (721 + iN x1) (iN ((38 : Int32) + x2)))) else none) else none) else none) else none) else none) else none))
set_option maxHeartbeats 4000000 in
theorem rt_115_2 {X : jX} (hX : j_LK (g_n X) (g_L X)) (hr : g_rs X = r_sh) {rf : jRf} (hrf : rf 0 = r_rf) {d : Nat} {sc : jSc} {al : jAl} {Post : jPo} {S9 : (Nat → Int32)} {ar9 : jSc} (hP : Post none (va_up sc 0 S9) rf ar9 al) : ∀ (nn : Nat) (x1 : Int32) (x2 : Int32) (S : (Nat → Int32)) (ar : jSc), rF_115_2 nn x1 x2 S ar = some (S9, ar9) → gL X 115 (d + 1) 2 [some (.ref 0), some (.int x1), some (.int x2)] [] (va_up sc 0 S) rf ar al Post := by
  intro nn
  induction nn with
  | zero =>
    intro x1 x2 S ar h
    have h : (none : Option ((Nat → Int32) × jSc)) = some _ := h
    cases h
  | succ nn ih =>
    intro x1 x2 S ar h
    unfold rF_115_2 at h
    refine gl_iload_n hX q_115_2 rfl rfl ?_
    refine gl_bipush hX q_115_3 cb_38 rfl ?_
    refine gl_ic_ge hX q_115_5 rfl rfl (fun c16 => ?_) (fun c16 => ?_)
    · have h := (if_pos c16).symm.trans h
      refine gl_iconst hX q_115_49 ci_0 rfl ?_
      refine gl_istore_n (vs2 := [some (.ref 0), some (.int x1), some (.int (0 : Int32))]) hX q_115_50 rfl rfl rfl rfl ?_
      exact gl_weak (vs := [some (.ref 0), some (.int x1), some (.int (0 : Int32))]) ⟨rfl, rfl, rfl, trivial⟩ (rt_115_51 hX hr hrf hP oF x1 (0 : Int32) S ar h)
    · have h := (if_neg c16).symm.trans h
      refine gl_aload_n hX q_115_8 rfl rfl ?_
      refine gl_getA hX q_115_9 (qf_105 (by decide)) (qs_0 hr) rfl qk_54 ((congrFun hrf 54).trans qa_54) rfl ?_
      refine gl_iconst hX q_115_12 ci_0 rfl ?_
      refine gl_aaload hX q_115_13 (qs_713 hr) (show iB (0 : Int32) 2 by decide) (Or.inr ⟨Or.inl rfl, qs_0 hr⟩) (qo_713 (iB_lt (show iB (0 : Int32) 2 by decide))) rfl ?_
      refine gl_iload_n hX q_115_14 rfl rfl ?_
      refine gl_aload_n hX q_115_15 rfl rfl ?_
      refine gl_getA hX q_115_16 (qf_114 (by decide)) (qs_0 hr) rfl qk_58 ((congrFun hrf 58).trans qa_58) rfl ?_
      refine gl_iload_n hX q_115_19 rfl rfl ?_
      obtain ⟨c17, h⟩ := o_ck h
      refine gl_aaload hX q_115_20 (qs_720 hr) c17 (Or.inr ⟨Or.inl rfl, qs_0 hr⟩) (qo_720 (iB_lt c17)) rfl ?_
      refine gl_iload_n hX q_115_21 rfl rfl ?_
      obtain ⟨c18, h⟩ := o_ck h
      refine gl_iaload hX q_115_22 (qs_keptWindows hr (iB_lt c17)) c18 rfl rfl ?_
      obtain ⟨c19, h⟩ := o_ck h
      refine gl_iastore (ar2 := (j_u2 ar 714 (iN x2) (ar (721 + iN x1) (iN x2)))) hX q_115_23 (qs_windowPage hr (i := 0) (by decide)) c19 rfl rfl ?_
      refine gl_aload_n hX q_115_24 rfl rfl ?_
      refine gl_getA hX q_115_25 (qf_105 (by decide)) (qs_0 hr) rfl qk_54 ((congrFun hrf 54).trans qa_54) rfl ?_
      refine gl_iconst hX q_115_28 ci_1 rfl ?_
      refine gl_aaload hX q_115_29 (qs_713 hr) (show iB (1 : Int32) 2 by decide) (Or.inr ⟨Or.inl rfl, qs_0 hr⟩) (qo_713 (iB_lt (show iB (1 : Int32) 2 by decide))) rfl ?_
      refine gl_iload_n hX q_115_30 rfl rfl ?_
      refine gl_aload_n hX q_115_31 rfl rfl ?_
      refine gl_getA hX q_115_32 (qf_114 (by decide)) (qs_0 hr) rfl qk_58 ((congrFun hrf 58).trans qa_58) rfl ?_
      refine gl_iload_n hX q_115_35 rfl rfl ?_
      obtain ⟨c20, h⟩ := o_ck h
      refine gl_aaload hX q_115_36 (qs_720 hr) c20 (Or.inr ⟨Or.inl rfl, qs_0 hr⟩) (qo_720 (iB_lt c20)) rfl ?_
      refine gl_bipush hX q_115_37 cb_38 rfl ?_
      refine gl_iload_n hX q_115_39 rfl rfl ?_
      refine gl_iadd hX q_115_40 rfl ?_
      obtain ⟨c21, h⟩ := o_ck h
      refine gl_iaload hX q_115_41 (qs_keptWindows hr (iB_lt c20)) c21 rfl rfl ?_
      obtain ⟨c22, h⟩ := o_ck h
      refine gl_iastore (ar2 := (j_u2 (j_u2 ar 714 (iN x2) (ar (721 + iN x1) (iN x2))) 715 (iN x2) ((j_u2 ar 714 (iN x2) (ar (721 + iN x1) (iN x2))) (721 + iN x1) (iN ((38 : Int32) + x2))))) hX q_115_42 (qs_windowPage hr (i := 1) (by decide)) c22 rfl rfl ?_
      refine gl_iinc (vs2 := [some (.ref 0), some (.int x1), some (.int (x2 + (1 : Int32)))]) hX q_115_43 rfl rfl rfl ci_1 rfl rfl ?_
      refine gl_goto hX q_115_46 rfl ?_
      exact gl_weak (vs := [some (.ref 0), some (.int x1), some (.int (x2 + (1 : Int32)))]) ⟨rfl, rfl, rfl, trivial⟩ (ih x1 (x2 + (1 : Int32)) S (j_u2 (j_u2 ar 714 (iN x2) (ar (721 + iN x1) (iN x2))) 715 (iN x2) ((j_u2 ar 714 (iN x2) (ar (721 + iN x1) (iN x2))) (721 + iN x1) (iN ((38 : Int32) + x2)))) h)
def rF_115 (x1 : Int32) (S : (Nat → Int32)) (ar : jSc) : Option ((Nat → Int32) × jSc) :=
  rF_115_2 oF x1 (0 : Int32) S ar
set_option maxHeartbeats 4000000 in
theorem rt_115 {X : jX} (hX : j_LK (g_n X) (g_L X)) (hr : g_rs X = r_sh) {rf : jRf} (hrf : rf 0 = r_rf) {d : Nat} : rT_115 X rf rF_115 (d + 1) := by
  intro sc al Post x1 S ar S9 ar9 h hP
  unfold rF_115 at h
  refine gl_entry (m := 1) rfl ?_
  show gL X 115 (d + 1) 0 [some (.ref 0), some (.int x1), none] [] (va_up sc 0 S) rf ar al Post
  refine gl_iconst hX q_115_0 ci_0 rfl ?_
  refine gl_istore_n (vs2 := [some (.ref 0), some (.int x1), some (.int (0 : Int32))]) hX q_115_1 rfl rfl rfl rfl ?_
  exact gl_weak (vs := [some (.ref 0), some (.int x1), some (.int (0 : Int32))]) ⟨rfl, rfl, rfl, trivial⟩ (rt_115_2 hX hr hrf hP oF x1 (0 : Int32) S ar h)
/-- ClickOrdersModel.loses(II)Z -/
def rT_116 (X : jX) (rf : jRf) (F : Int32 → Int32 → (Nat → Int32) → jSc → Option (Int32 × (Nat → Int32) × jSc)) (e : Nat) : Prop := ∀ (sc : jSc) (al : jAl) (Post : jPo) (x1 : Int32) (x2 : Int32) (S : (Nat → Int32)) (ar : jSc) (r9 : Int32) (S9 : (Nat → Int32)) (ar9 : jSc), F x1 x2 S ar = some (r9, S9, ar9) → Post (some (.int r9)) (va_up sc 0 S9) rf ar9 al → gW X 116 e 0 (j_av [.ref 0, .int x1, .int x2]) [] (va_up sc 0 S) rf ar al Post
def rF_116_109 (g116 : Int32 → Int32 → (Nat → Int32) → jSc → Option (Int32 × (Nat → Int32) × jSc)) (k2 : Int32 → Int32 → Int32 → (Nat → Int32) → jSc → Option (Int32 × (Nat → Int32) × jSc)) (x1 : Int32) (x2 : Int32) (x3 : Int32) (x4 : Int32) (S : (Nat → Int32)) (ar : jSc) : Option (Int32 × (Nat → Int32) × jSc) :=
  (if x4 = 0 then (o_b3 (g116 (x1 + (1 : Int32)) (x2 - (1 : Int32)) S ar) (fun ve2 Se2 are2 => (if ve2 = 0 then k2 x1 x2 (x3 + (1 : Int32)) Se2 are2 else some ((1 : Int32), Se2, are2)))) else k2 x1 x2 (x3 + (1 : Int32)) S ar)
set_option maxHeartbeats 4000000 in
theorem rt_116_109 {X : jX} (hX : j_LK (g_n X) (g_L X)) (hr : g_rs X = r_sh) {rf : jRf} (hrf : rf 0 = r_rf) {d : Nat} {g116 : Int32 → Int32 → (Nat → Int32) → jSc → Option (Int32 × (Nat → Int32) × jSc)} (hg116 : rT_116 X rf g116 (d + 127)) {sc : jSc} {al : jAl} {Post : jPo} {r9 : Int32} {S9 : (Nat → Int32)} {ar9 : jSc} {k2 : Int32 → Int32 → Int32 → (Nat → Int32) → jSc → Option (Int32 × (Nat → Int32) × jSc)} (hk2 : ∀ (x1 : Int32) (x2 : Int32) (x3 : Int32) (S : (Nat → Int32)) (ar : jSc), k2 x1 x2 x3 S ar = some (r9, S9, ar9) → gL X 116 (d + 128) 2 [some (.ref 0), some (.int x1), some (.int x2), some (.int x3), none, none] [] (va_up sc 0 S) rf ar al Post) (hP : Post (some (.int r9)) (va_up sc 0 S9) rf ar9 al) (x1 : Int32) (x2 : Int32) (x3 : Int32) (x4 : Int32) (S : (Nat → Int32)) (ar : jSc) (h : rF_116_109 g116 k2 x1 x2 x3 x4 S ar = some (r9, S9, ar9)) : gL X 116 (d + 128) 109 [some (.ref 0), some (.int x1), some (.int x2), some (.int x3), some (.int x4), none] [] (va_up sc 0 S) rf ar al Post := by
  unfold rF_116_109 at h
  refine gl_iload hX q_116_109 rfl rfl ?_
  refine gl_if_ne hX q_116_111 rfl rfl (fun c1 => ?_) (fun c1 => ?_)
  · have h := (if_pos c1).symm.trans h
    refine gl_aload_n hX q_116_114 rfl rfl ?_
    refine gl_iload_n hX q_116_115 rfl rfl ?_
    refine gl_iconst hX q_116_116 ci_1 rfl ?_
    refine gl_iadd hX q_116_117 rfl ?_
    refine gl_iload_n hX q_116_118 rfl rfl ?_
    refine gl_iconst hX q_116_119 ci_1 rfl ?_
    refine gl_isub hX q_116_120 rfl ?_
    obtain ⟨ve2, Se2, are2, e2, h⟩ := o_k3 h
    refine gl_callV hX q_116_121 (qm_451 (by decide)) rfl rfl rfl (qs_0 hr) qx_116 rfl rfl (hg116 _ _ _ _ _ _ _ _ _ _ e2 ?_)
    refine gl_if_eq hX q_116_124 rfl rfl (fun c3 => ?_) (fun c3 => ?_)
    · have h := (if_pos c3).symm.trans h
      refine gl_iinc (vs2 := [some (.ref 0), some (.int x1), some (.int x2), some (.int (x3 + (1 : Int32))), some (.int x4), none]) hX q_116_129 rfl rfl rfl ci_1 rfl rfl ?_
      refine gl_goto hX q_116_132 rfl ?_
      exact gl_weak (vs := [some (.ref 0), some (.int x1), some (.int x2), some (.int (x3 + (1 : Int32))), none, none]) ⟨rfl, rfl, rfl, rfl, trivial⟩ (hk2 x1 x2 (x3 + (1 : Int32)) Se2 are2 h)
    · have h := (if_neg c3).symm.trans h
      refine gl_iconst hX q_116_127 ci_1 rfl ?_
      exact gl_ireturn q_116_128 (Or.inr ⟨qr_116, Or.inr rfl⟩) (by cases h; exact hP)
  · have h := (if_neg c1).symm.trans h
    refine gl_iinc (vs2 := [some (.ref 0), some (.int x1), some (.int x2), some (.int (x3 + (1 : Int32))), some (.int x4), none]) hX q_116_129 rfl rfl rfl ci_1 rfl rfl ?_
    refine gl_goto hX q_116_132 rfl ?_
    exact gl_weak (vs := [some (.ref 0), some (.int x1), some (.int x2), some (.int (x3 + (1 : Int32))), none, none]) ⟨rfl, rfl, rfl, rfl, trivial⟩ (hk2 x1 x2 (x3 + (1 : Int32)) S ar h)
def rF_116_61 (g116 : Int32 → Int32 → (Nat → Int32) → jSc → Option (Int32 × (Nat → Int32) × jSc)) (k2 : Int32 → Int32 → Int32 → (Nat → Int32) → jSc → Option (Int32 × (Nat → Int32) × jSc)) : Nat → Int32 → Int32 → Int32 → Int32 → Int32 → (Nat → Int32) → jSc → Option (Int32 × (Nat → Int32) × jSc)
  | 0, _, _, _, _, _, _, _ => none
  | nn + 1, x1, x2, x3, x4, x5, S, ar => (if (89 : Int32) ≤ x5 then rF_116_109 g116 k2 x1 x2 x3 x4 S ar else (if x4 = 0 then rF_116_109 g116 k2 x1 x2 x3 x4 S ar else (if iB x1 8 then (if iB x5 89 then (if iB (x1 + (1 : Int32)) 8 then (if iB x5 89 then (if (ar (721 + iN x1) (iN x5)) = (ar (721 + iN (x1 + (1 : Int32))) (iN x5)) then rF_116_61 g116 k2 nn x1 x2 x3 (1 : Int32) (x5 + (1 : Int32)) S ar else rF_116_61 g116 k2 nn x1 x2 x3 (0 : Int32) (x5 + (1 : Int32)) S ar) else none) else none) else none) else none)))
set_option maxHeartbeats 4000000 in
theorem rt_116_61 {X : jX} (hX : j_LK (g_n X) (g_L X)) (hr : g_rs X = r_sh) {rf : jRf} (hrf : rf 0 = r_rf) {d : Nat} {g116 : Int32 → Int32 → (Nat → Int32) → jSc → Option (Int32 × (Nat → Int32) × jSc)} (hg116 : rT_116 X rf g116 (d + 127)) {sc : jSc} {al : jAl} {Post : jPo} {r9 : Int32} {S9 : (Nat → Int32)} {ar9 : jSc} {k2 : Int32 → Int32 → Int32 → (Nat → Int32) → jSc → Option (Int32 × (Nat → Int32) × jSc)} (hk2 : ∀ (x1 : Int32) (x2 : Int32) (x3 : Int32) (S : (Nat → Int32)) (ar : jSc), k2 x1 x2 x3 S ar = some (r9, S9, ar9) → gL X 116 (d + 128) 2 [some (.ref 0), some (.int x1), some (.int x2), some (.int x3), none, none] [] (va_up sc 0 S) rf ar al Post) (hP : Post (some (.int r9)) (va_up sc 0 S9) rf ar9 al) : ∀ (nn : Nat) (x1 : Int32) (x2 : Int32) (x3 : Int32) (x4 : Int32) (x5 : Int32) (S : (Nat → Int32)) (ar : jSc), rF_116_61 g116 k2 nn x1 x2 x3 x4 x5 S ar = some (r9, S9, ar9) → gL X 116 (d + 128) 61 [some (.ref 0), some (.int x1), some (.int x2), some (.int x3), some (.int x4), some (.int x5)] [] (va_up sc 0 S) rf ar al Post := by
  intro nn
  induction nn with
  | zero =>
    intro x1 x2 x3 x4 x5 S ar h
    have h : (none : Option (Int32 × (Nat → Int32) × jSc)) = some _ := h
    cases h
  | succ nn ih =>
    intro x1 x2 x3 x4 x5 S ar h
    unfold rF_116_61 at h
    refine gl_iload hX q_116_61 rfl rfl ?_
    refine gl_bipush hX q_116_63 cb_89 rfl ?_
    refine gl_ic_ge hX q_116_65 rfl rfl (fun c4 => ?_) (fun c4 => ?_)
    · have h := (if_pos c4).symm.trans h
      exact gl_weak (vs := [some (.ref 0), some (.int x1), some (.int x2), some (.int x3), some (.int x4), none]) ⟨rfl, rfl, rfl, rfl, rfl, trivial⟩ (rt_116_109 hX hr hrf hg116 hk2 hP x1 x2 x3 x4 S ar h)
    · have h := (if_neg c4).symm.trans h
      refine gl_iload hX q_116_68 rfl rfl ?_
      refine gl_if_eq hX q_116_70 rfl rfl (fun c5 => ?_) (fun c5 => ?_)
      · have h := (if_pos c5).symm.trans h
        exact gl_weak (vs := [some (.ref 0), some (.int x1), some (.int x2), some (.int x3), some (.int x4), none]) ⟨rfl, rfl, rfl, rfl, rfl, trivial⟩ (rt_116_109 hX hr hrf hg116 hk2 hP x1 x2 x3 x4 S ar h)
      · have h := (if_neg c5).symm.trans h
        refine gl_aload_n hX q_116_73 rfl rfl ?_
        refine gl_getA hX q_116_74 (qf_114 (by decide)) (qs_0 hr) rfl qk_58 ((congrFun hrf 58).trans qa_58) rfl ?_
        refine gl_iload_n hX q_116_77 rfl rfl ?_
        obtain ⟨c6, h⟩ := o_ck h
        refine gl_aaload hX q_116_78 (qs_720 hr) c6 (Or.inr ⟨Or.inl rfl, qs_0 hr⟩) (qo_720 (iB_lt c6)) rfl ?_
        refine gl_iload hX q_116_79 rfl rfl ?_
        obtain ⟨c7, h⟩ := o_ck h
        refine gl_iaload hX q_116_81 (qs_keptWindows hr (iB_lt c6)) c7 rfl rfl ?_
        refine gl_aload_n hX q_116_82 rfl rfl ?_
        refine gl_getA hX q_116_83 (qf_114 (by decide)) (qs_0 hr) rfl qk_58 ((congrFun hrf 58).trans qa_58) rfl ?_
        refine gl_iload_n hX q_116_86 rfl rfl ?_
        refine gl_iconst hX q_116_87 ci_1 rfl ?_
        refine gl_iadd hX q_116_88 rfl ?_
        obtain ⟨c8, h⟩ := o_ck h
        refine gl_aaload hX q_116_89 (qs_720 hr) c8 (Or.inr ⟨Or.inl rfl, qs_0 hr⟩) (qo_720 (iB_lt c8)) rfl ?_
        refine gl_iload hX q_116_90 rfl rfl ?_
        obtain ⟨c9, h⟩ := o_ck h
        refine gl_iaload hX q_116_92 (qs_keptWindows hr (iB_lt c8)) c9 rfl rfl ?_
        refine gl_ic_ne hX q_116_93 rfl rfl (fun c10 => ?_) (fun c10 => ?_)
        · have h := (if_pos c10).symm.trans h
          refine gl_iconst hX q_116_96 ci_1 rfl ?_
          refine gl_goto hX q_116_97 rfl ?_
          refine gl_istore (vs2 := [some (.ref 0), some (.int x1), some (.int x2), some (.int x3), some (.int (1 : Int32)), some (.int x5)]) hX q_116_101 rfl rfl rfl rfl ?_
          refine gl_iinc (vs2 := [some (.ref 0), some (.int x1), some (.int x2), some (.int x3), some (.int (1 : Int32)), some (.int (x5 + (1 : Int32)))]) hX q_116_103 rfl rfl rfl ci_1 rfl rfl ?_
          refine gl_goto hX q_116_106 rfl ?_
          exact gl_weak (vs := [some (.ref 0), some (.int x1), some (.int x2), some (.int x3), some (.int (1 : Int32)), some (.int (x5 + (1 : Int32)))]) ⟨rfl, rfl, rfl, rfl, rfl, rfl, trivial⟩ (ih x1 x2 x3 (1 : Int32) (x5 + (1 : Int32)) S ar h)
        · have h := (if_neg c10).symm.trans h
          refine gl_iconst hX q_116_100 ci_0 rfl ?_
          refine gl_istore (vs2 := [some (.ref 0), some (.int x1), some (.int x2), some (.int x3), some (.int (0 : Int32)), some (.int x5)]) hX q_116_101 rfl rfl rfl rfl ?_
          refine gl_iinc (vs2 := [some (.ref 0), some (.int x1), some (.int x2), some (.int x3), some (.int (0 : Int32)), some (.int (x5 + (1 : Int32)))]) hX q_116_103 rfl rfl rfl ci_1 rfl rfl ?_
          refine gl_goto hX q_116_106 rfl ?_
          exact gl_weak (vs := [some (.ref 0), some (.int x1), some (.int x2), some (.int x3), some (.int (0 : Int32)), some (.int (x5 + (1 : Int32)))]) ⟨rfl, rfl, rfl, rfl, rfl, rfl, trivial⟩ (ih x1 x2 x3 (0 : Int32) (x5 + (1 : Int32)) S ar h)
def rF_116_2 (g116 : Int32 → Int32 → (Nat → Int32) → jSc → Option (Int32 × (Nat → Int32) × jSc)) : Nat → Int32 → Int32 → Int32 → (Nat → Int32) → jSc → Option (Int32 × (Nat → Int32) × jSc)
  | 0, _, _, _, _, _ => none
  | nn + 1, x1, x2, x3, S, ar => (if (26 : Int32) ≤ x3 then some ((0 : Int32), S, ar) else (o_b2 (rF_115 x1 S ar) (fun Se12 are12 => (o_b3 (rF_110 (x3 / (13 : Int32)) (x3 - x3 / (13 : Int32) * (13 : Int32)) Se12 are12) (fun ve13 Se13 are13 => (if ve13 = 0 then rF_116_2 g116 nn x1 x2 (x3 + (1 : Int32)) Se13 are13 else (if (Se13 57) ≤ 0 then (if x2 = (1 : Int32) then rF_116_2 g116 nn x1 x2 (x3 + (1 : Int32)) Se13 are13 else (o_b2 (rF_114 (x1 + (1 : Int32)) Se13 are13) (fun Se17 are17 => rF_116_61 g116 (fun x1_ x2_ x3_ S_ ar_ => rF_116_2 g116 nn x1_ x2_ x3_ S_ ar_) oF x1 x2 x3 (1 : Int32) (0 : Int32) Se17 are17))) else some ((1 : Int32), Se13, are13))))))))
set_option maxHeartbeats 4000000 in
theorem rt_116_2 {X : jX} (hX : j_LK (g_n X) (g_L X)) (hr : g_rs X = r_sh) {rf : jRf} (hrf : rf 0 = r_rf) {d : Nat} {g116 : Int32 → Int32 → (Nat → Int32) → jSc → Option (Int32 × (Nat → Int32) × jSc)} (hg116 : rT_116 X rf g116 (d + 127)) {sc : jSc} {al : jAl} {Post : jPo} {r9 : Int32} {S9 : (Nat → Int32)} {ar9 : jSc} (hP : Post (some (.int r9)) (va_up sc 0 S9) rf ar9 al) : ∀ (nn : Nat) (x1 : Int32) (x2 : Int32) (x3 : Int32) (S : (Nat → Int32)) (ar : jSc), rF_116_2 g116 nn x1 x2 x3 S ar = some (r9, S9, ar9) → gL X 116 (d + 128) 2 [some (.ref 0), some (.int x1), some (.int x2), some (.int x3), none, none] [] (va_up sc 0 S) rf ar al Post := by
  intro nn
  induction nn with
  | zero =>
    intro x1 x2 x3 S ar h
    have h : (none : Option (Int32 × (Nat → Int32) × jSc)) = some _ := h
    cases h
  | succ nn ih =>
    intro x1 x2 x3 S ar h
    unfold rF_116_2 at h
    refine gl_iload_n hX q_116_2 rfl rfl ?_
    refine gl_bipush hX q_116_3 cb_26 rfl ?_
    refine gl_ic_ge hX q_116_5 rfl rfl (fun c11 => ?_) (fun c11 => ?_)
    · have h := (if_pos c11).symm.trans h
      refine gl_iconst hX q_116_135 ci_0 rfl ?_
      exact gl_ireturn q_116_136 (Or.inr ⟨qr_116, Or.inl rfl⟩) (by cases h; exact hP)
    · have h := (if_neg c11).symm.trans h
      refine gl_aload_n hX q_116_8 rfl rfl ?_
      refine gl_iload_n hX q_116_9 rfl rfl ?_
      obtain ⟨Se12, are12, e12, h⟩ := o_k2 h
      refine gl_callV hX q_116_10 (qm_445 (by decide)) rfl rfl rfl (qs_0 hr) qx_115 rfl rfl ((rt_115 hX hr hrf) _ _ _ _ _ _ _ _ e12 ?_)
      refine gl_aload_n hX q_116_13 rfl rfl ?_
      refine gl_iload_n hX q_116_14 rfl rfl ?_
      refine gl_bipush hX q_116_15 cb_13 rfl ?_
      refine gl_idiv hX q_116_17 (by decide) rfl ?_
      refine gl_iload_n hX q_116_18 rfl rfl ?_
      refine gl_bipush hX q_116_19 cb_13 rfl ?_
      refine gl_irem hX q_116_21 (by decide) rfl ?_
      obtain ⟨ve13, Se13, are13, e13, h⟩ := o_k3 h
      refine gl_callV hX q_116_22 (qm_442 (by decide)) rfl rfl rfl (qs_0 hr) qx_110 rfl rfl ((rt_110 hX hr hrf) _ _ _ _ _ _ _ _ _ _ e13 ?_)
      refine gl_if_ne hX q_116_25 rfl rfl (fun c14 => ?_) (fun c14 => ?_)
      · have h := (if_pos c14).symm.trans h
        refine gl_goto hX q_116_28 rfl ?_
        refine gl_iinc (vs2 := [some (.ref 0), some (.int x1), some (.int x2), some (.int (x3 + (1 : Int32))), none, none]) hX q_116_129 rfl rfl rfl ci_1 rfl rfl ?_
        refine gl_goto hX q_116_132 rfl ?_
        exact gl_weak (vs := [some (.ref 0), some (.int x1), some (.int x2), some (.int (x3 + (1 : Int32))), none, none]) ⟨rfl, rfl, rfl, rfl, trivial⟩ (ih x1 x2 (x3 + (1 : Int32)) Se13 are13 h)
      · have h := (if_neg c14).symm.trans h
        refine gl_aload_n hX q_116_31 rfl rfl ?_
        refine gl_get hX q_116_32 (qf_294 (by decide)) (qs_0 hr) rfl qk_57 rfl rfl ?_
        refine gl_if_le hX q_116_35 rfl rfl (fun c15 => ?_) (fun c15 => ?_)
        · have h := (if_pos c15).symm.trans h
          refine gl_iload_n hX q_116_40 rfl rfl ?_
          refine gl_iconst hX q_116_41 ci_1 rfl ?_
          refine gl_ic_ne hX q_116_42 rfl rfl (fun c16 => ?_) (fun c16 => ?_)
          · have h := (if_pos c16).symm.trans h
            refine gl_goto hX q_116_45 rfl ?_
            refine gl_iinc (vs2 := [some (.ref 0), some (.int x1), some (.int x2), some (.int (x3 + (1 : Int32))), none, none]) hX q_116_129 rfl rfl rfl ci_1 rfl rfl ?_
            refine gl_goto hX q_116_132 rfl ?_
            exact gl_weak (vs := [some (.ref 0), some (.int x1), some (.int x2), some (.int (x3 + (1 : Int32))), none, none]) ⟨rfl, rfl, rfl, rfl, trivial⟩ (ih x1 x2 (x3 + (1 : Int32)) Se13 are13 h)
          · have h := (if_neg c16).symm.trans h
            refine gl_aload_n hX q_116_48 rfl rfl ?_
            refine gl_iload_n hX q_116_49 rfl rfl ?_
            refine gl_iconst hX q_116_50 ci_1 rfl ?_
            refine gl_iadd hX q_116_51 rfl ?_
            obtain ⟨Se17, are17, e17, h⟩ := o_k2 h
            refine gl_callV hX q_116_52 (qm_448 (by decide)) rfl rfl rfl (qs_0 hr) qx_114 rfl rfl ((rt_114 hX hr hrf) _ _ _ _ _ _ _ _ e17 ?_)
            refine gl_iconst hX q_116_55 ci_1 rfl ?_
            refine gl_istore (vs2 := [some (.ref 0), some (.int x1), some (.int x2), some (.int x3), some (.int (1 : Int32)), none]) hX q_116_56 rfl rfl rfl rfl ?_
            refine gl_iconst hX q_116_58 ci_0 rfl ?_
            refine gl_istore (vs2 := [some (.ref 0), some (.int x1), some (.int x2), some (.int x3), some (.int (1 : Int32)), some (.int (0 : Int32))]) hX q_116_59 rfl rfl rfl rfl ?_
            exact gl_weak (vs := [some (.ref 0), some (.int x1), some (.int x2), some (.int x3), some (.int (1 : Int32)), some (.int (0 : Int32))]) ⟨rfl, rfl, rfl, rfl, rfl, rfl, trivial⟩ (rt_116_61 hX hr hrf hg116 ih hP oF x1 x2 x3 (1 : Int32) (0 : Int32) Se17 are17 h)
        · have h := (if_neg c15).symm.trans h
          refine gl_iconst hX q_116_38 ci_1 rfl ?_
          exact gl_ireturn q_116_39 (Or.inr ⟨qr_116, Or.inr rfl⟩) (by cases h; exact hP)
def rF_116 (g116 : Int32 → Int32 → (Nat → Int32) → jSc → Option (Int32 × (Nat → Int32) × jSc)) (x1 : Int32) (x2 : Int32) (S : (Nat → Int32)) (ar : jSc) : Option (Int32 × (Nat → Int32) × jSc) :=
  rF_116_2 g116 oF x1 x2 (0 : Int32) S ar
set_option maxHeartbeats 4000000 in
theorem rt_116 {X : jX} (hX : j_LK (g_n X) (g_L X)) (hr : g_rs X = r_sh) {rf : jRf} (hrf : rf 0 = r_rf) {d : Nat} {g116 : Int32 → Int32 → (Nat → Int32) → jSc → Option (Int32 × (Nat → Int32) × jSc)} (hg116 : rT_116 X rf g116 (d + 127)) : rT_116 X rf (rF_116 g116) (d + 128) := by
  intro sc al Post x1 x2 S ar r9 S9 ar9 h hP
  unfold rF_116 at h
  refine gl_entry (m := 3) rfl ?_
  show gL X 116 (d + 128) 0 [some (.ref 0), some (.int x1), some (.int x2), none, none, none] [] (va_up sc 0 S) rf ar al Post
  refine gl_iconst hX q_116_0 ci_0 rfl ?_
  refine gl_istore_n (vs2 := [some (.ref 0), some (.int x1), some (.int x2), some (.int (0 : Int32)), none, none]) hX q_116_1 rfl rfl rfl rfl ?_
  exact gl_weak (vs := [some (.ref 0), some (.int x1), some (.int x2), some (.int (0 : Int32)), none, none]) ⟨rfl, rfl, rfl, rfl, trivial⟩ (rt_116_2 hX hr hrf hg116 hP oF x1 x2 (0 : Int32) S ar h)
def rG_116 : Nat → (Int32 → Int32 → (Nat → Int32) → jSc → Option (Int32 × (Nat → Int32) × jSc))
  | 0 => (fun _ _ _ _ => none)
  | n + 1 => (rF_116 (rG_116 n))
theorem rtG_116 {X : jX} (hX : j_LK (g_n X) (g_L X)) (hr : g_rs X = r_sh) {rf : jRf} (hrf : rf 0 = r_rf) {d : Nat} : ∀ n : Nat, rT_116 X rf (rG_116 n) (d + n + 127) := by
  intro n
  induction n with
  | zero =>
    · intro sc al Post x1 x2 S ar r9 S9 ar9 h hP
      cases (show (none : Option (Int32 × (Nat → Int32) × jSc)) = some _ from h)
  | succ n ih =>
    have e : d + n + 127 + 1 = d + (n + 1) + 127 := by omega
    rw [← e]
    exact rt_116 hX hr hrf (d := d + n) ih
