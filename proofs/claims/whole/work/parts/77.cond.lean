/-! THE REFERENCE: conditions. e_t: test (0), ands (1), ors (2), the loops of ands (3) and ors (4) with the truth so far. -/
def e_t (tx P : Nat → Int32) (wn : Nat) : Nat → Nat → Int32 → (Nat → Int32) → jSc → Option (Int32 × (Nat → Int32) × jSc)
  | 0, _, _, _, _ => none
  | n + 1, tag, v, S, ar =>
    match e_q S with
    | none => none
    | some q =>
      match tag with
      | 0 =>
        if ¬ S f_fault = 0 then some (0, S, ar) else
        if x_wh tx q = m_word 14 15 20 0 0 0 then (match e_t tx P wn n 0 0 (s_open 3 (upd S f_at (nI (x_nb tx q)))) ar with
          | some (b, S1, ar1) => some (if b = 0 then 1 else 0, upd S1 f_open (S1 f_open - 1), ar1)
          | none => none) else
        if tx (x_nb tx q) = 91 then (match e_t tx P wn n 2 0 (s_open 1 (upd S f_at (nI (x_nb tx q)))) ar with
          | some (b, S1, ar1) => (match e_q S1 with
            | some q1 => some (b, upd (s_sign tx q1 93 S1) f_open (s_sign tx q1 93 S1 f_open - 1), ar1)
            | none => none)
          | none => none) else
        (match e_x tx P wn n 2 0 (upd S f_at (nI (x_nb tx q))) ar with
        | some (a, S1, ar1) => (match e_q S1 with
          | some q1 => (match e_x tx P wn n 2 0 (upd (if tx (x_nb tx q1) = 60 ∨ tx (x_nb tx q1) = 62 ∨ tx (x_nb tx q1) = 61 then upd S1 f_at (nI (x_nb tx q1)) else s_wrong 1 (nI (x_nb tx q1)) (upd S1 f_at (nI (x_nb tx q1)))) f_at (nI (x_nb tx q1 + 1))) ar1 with
            | some (b, S3, ar3) => some (if tx (x_nb tx q1) = 60 then (if a < b then 1 else 0) else if tx (x_nb tx q1) = 62 then (if b < a then 1 else 0) else if a = b then 1 else 0, S3, ar3)
            | none => none)
          | none => none)
        | none => none)
      | 1 => (match e_t tx P wn n 0 0 S ar with
        | some (b, S1, ar1) => e_t tx P wn n 3 b S1 ar1
        | none => none)
      | 2 => (match e_t tx P wn n 1 0 S ar with
        | some (b, S1, ar1) => e_t tx P wn n 4 b S1 ar1
        | none => none)
      | 3 => if ¬ S f_fault = 0 then some (v, S, ar) else if ¬ x_wh tx q = m_word 1 14 4 0 0 0 then some (v, upd S f_at (nI (x_nb tx q)), ar) else
        (match e_t tx P wn n 0 0 (upd S f_at (nI (x_we tx (x_nb tx q)))) ar with
        | some (b, S1, ar1) => e_t tx P wn n 3 (if v = 0 then 0 else if b = 0 then 0 else 1) S1 ar1
        | none => none)
      | 4 => if ¬ S f_fault = 0 then some (v, S, ar) else if ¬ x_wh tx q = m_word 15 18 0 0 0 0 then some (v, upd S f_at (nI (x_nb tx q)), ar) else
        (match e_t tx P wn n 1 0 (upd S f_at (nI (x_we tx (x_nb tx q)))) ar with
        | some (b, S1, ar1) => e_t tx P wn n 4 (if v = 0 then (if b = 0 then 0 else 1) else 1) S1 ar1
        | none => none)
      | _ => none
theorem e_t_0 (tx P : Nat → Int32) (wn n : Nat) (v : Int32) (S : Nat → Int32) (ar : jSc) (q : Nat) (hq : e_q S = some q) : e_t tx P wn (n + 1) 0 v S ar = ((if ¬ S f_fault = 0 then some (0, S, ar) else
        if x_wh tx q = m_word 14 15 20 0 0 0 then (match e_t tx P wn n 0 0 (s_open 3 (upd S f_at (nI (x_nb tx q)))) ar with
          | some (b, S1, ar1) => some (if b = 0 then 1 else 0, upd S1 f_open (S1 f_open - 1), ar1)
          | none => none) else
        if tx (x_nb tx q) = 91 then (match e_t tx P wn n 2 0 (s_open 1 (upd S f_at (nI (x_nb tx q)))) ar with
          | some (b, S1, ar1) => (match e_q S1 with
            | some q1 => some (b, upd (s_sign tx q1 93 S1) f_open (s_sign tx q1 93 S1 f_open - 1), ar1)
            | none => none)
          | none => none) else
        (match e_x tx P wn n 2 0 (upd S f_at (nI (x_nb tx q))) ar with
        | some (a, S1, ar1) => (match e_q S1 with
          | some q1 => (match e_x tx P wn n 2 0 (upd (if tx (x_nb tx q1) = 60 ∨ tx (x_nb tx q1) = 62 ∨ tx (x_nb tx q1) = 61 then upd S1 f_at (nI (x_nb tx q1)) else s_wrong 1 (nI (x_nb tx q1)) (upd S1 f_at (nI (x_nb tx q1)))) f_at (nI (x_nb tx q1 + 1))) ar1 with
            | some (b, S3, ar3) => some (if tx (x_nb tx q1) = 60 then (if a < b then 1 else 0) else if tx (x_nb tx q1) = 62 then (if b < a then 1 else 0) else if a = b then 1 else 0, S3, ar3)
            | none => none)
          | none => none)
        | none => none)) : Option (Int32 × (Nat → Int32) × jSc)) := by
  conv => lhs; unfold e_t
  rw [hq]
  try rfl
theorem e_t_1 (tx P : Nat → Int32) (wn n : Nat) (v : Int32) (S : Nat → Int32) (ar : jSc) (q : Nat) (hq : e_q S = some q) : e_t tx P wn (n + 1) 1 v S ar = (((match e_t tx P wn n 0 0 S ar with
        | some (b, S1, ar1) => e_t tx P wn n 3 b S1 ar1
        | none => none)) : Option (Int32 × (Nat → Int32) × jSc)) := by
  conv => lhs; unfold e_t
  rw [hq]
  try rfl
theorem e_t_2 (tx P : Nat → Int32) (wn n : Nat) (v : Int32) (S : Nat → Int32) (ar : jSc) (q : Nat) (hq : e_q S = some q) : e_t tx P wn (n + 1) 2 v S ar = (((match e_t tx P wn n 1 0 S ar with
        | some (b, S1, ar1) => e_t tx P wn n 4 b S1 ar1
        | none => none)) : Option (Int32 × (Nat → Int32) × jSc)) := by
  conv => lhs; unfold e_t
  rw [hq]
  try rfl
theorem e_t_3 (tx P : Nat → Int32) (wn n : Nat) (v : Int32) (S : Nat → Int32) (ar : jSc) (q : Nat) (hq : e_q S = some q) : e_t tx P wn (n + 1) 3 v S ar = ((if ¬ S f_fault = 0 then some (v, S, ar) else if ¬ x_wh tx q = m_word 1 14 4 0 0 0 then some (v, upd S f_at (nI (x_nb tx q)), ar) else
        (match e_t tx P wn n 0 0 (upd S f_at (nI (x_we tx (x_nb tx q)))) ar with
        | some (b, S1, ar1) => e_t tx P wn n 3 (if v = 0 then 0 else if b = 0 then 0 else 1) S1 ar1
        | none => none)) : Option (Int32 × (Nat → Int32) × jSc)) := by
  conv => lhs; unfold e_t
  rw [hq]
  try rfl
theorem e_t_4 (tx P : Nat → Int32) (wn n : Nat) (v : Int32) (S : Nat → Int32) (ar : jSc) (q : Nat) (hq : e_q S = some q) : e_t tx P wn (n + 1) 4 v S ar = ((if ¬ S f_fault = 0 then some (v, S, ar) else if ¬ x_wh tx q = m_word 15 18 0 0 0 0 then some (v, upd S f_at (nI (x_nb tx q)), ar) else
        (match e_t tx P wn n 1 0 (upd S f_at (nI (x_we tx (x_nb tx q)))) ar with
        | some (b, S1, ar1) => e_t tx P wn n 4 (if v = 0 then (if b = 0 then 0 else 1) else 1) S1 ar1
        | none => none)) : Option (Int32 × (Nat → Int32) × jSc)) := by
  conv => lhs; unfold e_t
  rw [hq]
  try rfl
theorem e_t_no (tx P : Nat → Int32) (wn n tag : Nat) (v : Int32) (S : Nat → Int32) (ar : jSc) (hq : e_q S = none) : e_t tx P wn (n + 1) tag v S ar = none := by
  conv => lhs; unfold e_t
  rw [hq]
  try rfl
def t_mid (tag : Nat) : Nat := if tag = 0 then 25 else if tag = 1 ∨ tag = 3 then 26 else 27
def t_pc (tag : Nat) : Nat := if tag < 3 then 0 else 5
/-- what a result of e_t says of the machine's method -/
def e_H (X : jX) (tx P : Nat → Int32) (wn nn n tag : Nat) (v : Int32) (S : Nat → Int32) (ar : jSc) (v2 : Int32) (S2 : Nat → Int32) (ar2 : jSc) : Prop := (2 < tag → (v = 0 ∨ v = 1)) → (v2 = 0 ∨ v2 = 1) ∧ ∀ (d : Nat) (sc : jSc) (rf : jRf) (al : jAl) (Post : jPo) (lv : jV), rf 0 = r_rf → e_K tx P wn nn S ar → lv 0 = some (.ref 0) → (2 < tag → lv 1 = some (.int v)) → Post (some (.int v2)) (va_up sc 0 S2) rf ar2 al → gW X (t_mid tag) (d + 4 * n + 8) (t_pc tag) lv [] (va_up sc 0 S) rf ar al Post
abbrev e_IH (X : jX) (tx P : Nat → Int32) (wn nn n : Nat) : Prop := ∀ tag v S ar v2 S2 ar2, e_t tx P wn n tag v S ar = some (v2, S2, ar2) → (e_same S S2 ∧ e_asame ar ar2) ∧ e_H X tx P wn nn n tag v S ar v2 S2 ar2
set_option maxHeartbeats 8000000 in
set_option maxRecDepth 100000 in
theorem t_step3 {X : jX} (hX : j_LK (g_n X) (g_L X)) (hr : g_rs X = r_sh) {tx P : Nat → Int32} {wn nn n : Nat} (ih : e_IH X tx P wn nn n) {v v2 : Int32} {S S2 : Nat → Int32} {ar ar2 : jSc} (h : e_t tx P wn (n + 1) 3 v S ar = some (v2, S2, ar2)) : (e_same S S2 ∧ e_asame ar ar2) ∧ e_H X tx P wn nn (n + 1) 3 v S ar v2 S2 ar2 := by
  rcases hq : e_q S with _ | q
  · rw [e_t_no _ _ _ _ _ _ _ _ hq] at h; cases h
  · rw [e_t_3 _ _ _ _ _ _ _ q hq] at h
    obtain ⟨hat, hq2⟩ := e_q_ok hq
    by_cases hf : S f_fault = 0
    · rw [if_neg (fun z => z hf)] at h
      by_cases hw : x_wh tx q = m_word 1 14 4 0 0 0
      · rw [if_neg (fun z => z hw)] at h
        split at h
        · rename_i b S1 ar1 h1
          obtain ⟨⟨i1, i2⟩, i3⟩ := ih _ _ _ _ _ _ _ h1
          obtain ⟨⟨j1, j2⟩, j3⟩ := ih _ _ _ _ _ _ _ h
          obtain ⟨hb, i4⟩ := i3 (fun z => absurd z (by decide))
          refine ⟨⟨e_same_tr (e_same_tr (e_same_at (e_same_rf S)) i1) j1, fun b y z => (j2 b y z).trans (i2 b y z)⟩, ?_⟩
          intro hv
          have hv := hv (by decide)
          obtain ⟨hv2, j4⟩ := j3 (fun _ => by split <;> (try split) <;> simp)
          refine ⟨hv2, ?_⟩
          intro d sc rf al Post lv hrf hK hlx0 hlx1 hP
          have hlx1 := hlx1 (by decide)
          have hT := e_K_TX (sc := sc) hK
          have hn := hT.1
          obtain ⟨a1, a2, a3, a4⟩ := x_nb_ok (p := q) hT
          have hK0 : e_K tx P wn nn (upd S f_at (nI (x_nb tx q))) ar := e_K_up hK (e_same_at (e_same_rf S)) (fun _ _ _ => rfl)
          have hT0 := e_K_TX (sc := sc) hK0
          have hK1 : e_K tx P wn nn (upd S f_at (nI (x_we tx (x_nb tx q)))) ar := e_K_up hK (e_same_at (e_same_rf S)) (fun _ _ _ => rfl)
          have hK2 := e_K_up hK1 i1 i2
          have ed : d + 4 * n + 11 = d + 3 + 4 * n + 8 := by omega
          have ed2 : d + 4 * n + 11 + 1 = d + 4 + 4 * n + 8 := by omega
          have cont : ∀ lv : jV, lv 0 = some (.ref 0) → lv 1 = some (.int (if v = 0 then 0 else if b = 0 then 0 else 1)) → gW X 26 (d + 4 * n + 11 + 1) 5 lv [] (va_up sc 0 S1) rf ar1 al Post := by
            intro lv a0 a1
            rw [ed2]
            exact j4 (d + 4) sc rf al Post lv hrf hK2 a0 (fun _ => a1) hP
          show gW X 26 (d + 4 * n + 11 + 1) 5 lv [] (va_up sc 0 S) rf ar al Post
          refine gW_cut hX (fun pc => pc == 5) 60 ?_
          simp (decide := true) only [wx_s, cb_14, ci_0, ci_1, ci_4, qf_145, qk_7, qm_196, qm_200, qm_228, qn_11, qs_0, qx_13, qx_14, qx_25, wc_i, wc_r, wk_0, wk_i, wk_r, wx_aload_n, wx_bipush, wx_callV, wx_getfield, wx_goto, wx_iconst, wx_if_eq, wx_if_ne, wx_iload_n, wx_ireturn, wx_istore_n, qx_26, qr_26, ws_0, ws_1, ws_2, wd_i, wd_r, wd_d, wf_0, wf_1, wf_2, wf_3, q_26_0, q_26_1, q_26_4, q_26_5, q_26_6, q_26_9, qb_9_43, q_26_12, q_26_13, q_26_14, q_26_16, q_26_17, q_26_18, q_26_19, q_26_20, q_26_23, qb_23_29, q_26_26, q_26_27, q_26_30, q_26_31, q_26_34, q_26_35, q_26_36, qb_36_11, q_26_39, q_26_40, qb_40_7, q_26_43, q_26_44, qb_44_4, q_26_47, q_26_48, q_26_49, qb_49_m44, q_26_52, q_26_53, Bool.false_and, Bool.true_and, Bool.and_false, Bool.false_eq_true, if_false, if_true, ↓reduceIte, Nat.reduceAdd, Nat.reduceLT, Nat.reduceLeDiff, Nat.reduceBEq, Nat.reduceEqDiff, Fin.isValue, Nat.reduceMod, Nat.zero_mod, Fin.val_zero, Fin.val_one, true_and, and_true, Option.toList, List.nil_append, List.cons_append, List.getElem?_cons_zero, List.getElem?_cons_succ, List.take_succ_cons, List.take_zero, List.drop_succ_cons, List.drop_zero, List.reverse_cons, List.reverse_nil, List.map_cons, List.map_nil, List.sum_cons, List.sum_nil, List.length_cons, List.length_nil, true_or, or_true, false_or, or_false, Nat.zero_add, Nat.add_zero, reduceCtorEq, Nat.succ_eq_add_one, Nat.zero_le, Nat.le_refl, Nat.le_add_left, Nat.lt_add_one, beq_self_eq_true, Nat.zero_lt_succ, ne_eq, not_false_eq_true, not_true_eq_false, false_implies, forall_const, implies_true, true_implies, hr, hlx0, hlx1, hrf, ur, nI_1, hv, vu_0, vu_1, vu_2, up_0, up_1, up_2]
          refine ⟨fun _ => ?_, fun z => absurd hf z⟩
          refine t_isWord hX hr hrf (q := q) hT (by rw [vu_0]; exact hat) hq2 (m_word 1 14 4 0 0 0) rfl ?_ rfl rfl rfl rfl rfl rfl rfl
          rw [if_pos hw]
          simp (decide := true) only [wx_s, cb_14, ci_0, ci_1, ci_4, qf_145, qk_7, qm_196, qm_200, qm_228, qn_11, qs_0, qx_13, qx_14, qx_25, wc_i, wc_r, wk_0, wk_i, wk_r, wx_aload_n, wx_bipush, wx_callV, wx_getfield, wx_goto, wx_iconst, wx_if_eq, wx_if_ne, wx_iload_n, wx_ireturn, wx_istore_n, qx_26, qr_26, ws_0, ws_1, ws_2, wd_i, wd_r, wd_d, wf_0, wf_1, wf_2, wf_3, q_26_0, q_26_1, q_26_4, q_26_5, q_26_6, q_26_9, qb_9_43, q_26_12, q_26_13, q_26_14, q_26_16, q_26_17, q_26_18, q_26_19, q_26_20, q_26_23, qb_23_29, q_26_26, q_26_27, q_26_30, q_26_31, q_26_34, q_26_35, q_26_36, qb_36_11, q_26_39, q_26_40, qb_40_7, q_26_43, q_26_44, qb_44_4, q_26_47, q_26_48, q_26_49, qb_49_m44, q_26_52, q_26_53, Bool.false_and, Bool.true_and, Bool.and_false, Bool.false_eq_true, if_false, if_true, ↓reduceIte, Nat.reduceAdd, Nat.reduceLT, Nat.reduceLeDiff, Nat.reduceBEq, Nat.reduceEqDiff, Fin.isValue, Nat.reduceMod, Nat.zero_mod, Fin.val_zero, Fin.val_one, true_and, and_true, Option.toList, List.nil_append, List.cons_append, List.getElem?_cons_zero, List.getElem?_cons_succ, List.take_succ_cons, List.take_zero, List.drop_succ_cons, List.drop_zero, List.reverse_cons, List.reverse_nil, List.map_cons, List.map_nil, List.sum_cons, List.sum_nil, List.length_cons, List.length_nil, true_or, or_true, false_or, or_false, Nat.zero_add, Nat.add_zero, reduceCtorEq, Nat.succ_eq_add_one, Nat.zero_le, Nat.le_refl, Nat.le_add_left, Nat.lt_add_one, beq_self_eq_true, Nat.zero_lt_succ, ne_eq, not_false_eq_true, not_true_eq_false, false_implies, forall_const, implies_true, true_implies, hr, hlx0, hlx1, hrf, ur, nI_1, hv, vu_0, vu_1, vu_2, up_0, up_1, up_2]
          refine t_skipWord2 hX hr hrf (q := x_nb tx q) hT0 (by show va_up sc 0 _ 0 f_at = _; rw [vu_0, up_0]) (by omega) ?_ rfl
          simp (decide := true) only [wx_s, cb_14, ci_0, ci_1, ci_4, qf_145, qk_7, qm_196, qm_200, qm_228, qn_11, qs_0, qx_13, qx_14, qx_25, wc_i, wc_r, wk_0, wk_i, wk_r, wx_aload_n, wx_bipush, wx_callV, wx_getfield, wx_goto, wx_iconst, wx_if_eq, wx_if_ne, wx_iload_n, wx_ireturn, wx_istore_n, qx_26, qr_26, ws_0, ws_1, ws_2, wd_i, wd_r, wd_d, wf_0, wf_1, wf_2, wf_3, q_26_0, q_26_1, q_26_4, q_26_5, q_26_6, q_26_9, qb_9_43, q_26_12, q_26_13, q_26_14, q_26_16, q_26_17, q_26_18, q_26_19, q_26_20, q_26_23, qb_23_29, q_26_26, q_26_27, q_26_30, q_26_31, q_26_34, q_26_35, q_26_36, qb_36_11, q_26_39, q_26_40, qb_40_7, q_26_43, q_26_44, qb_44_4, q_26_47, q_26_48, q_26_49, qb_49_m44, q_26_52, q_26_53, Bool.false_and, Bool.true_and, Bool.and_false, Bool.false_eq_true, if_false, if_true, ↓reduceIte, Nat.reduceAdd, Nat.reduceLT, Nat.reduceLeDiff, Nat.reduceBEq, Nat.reduceEqDiff, Fin.isValue, Nat.reduceMod, Nat.zero_mod, Fin.val_zero, Fin.val_one, true_and, and_true, Option.toList, List.nil_append, List.cons_append, List.getElem?_cons_zero, List.getElem?_cons_succ, List.take_succ_cons, List.take_zero, List.drop_succ_cons, List.drop_zero, List.reverse_cons, List.reverse_nil, List.map_cons, List.map_nil, List.sum_cons, List.sum_nil, List.length_cons, List.length_nil, true_or, or_true, false_or, or_false, Nat.zero_add, Nat.add_zero, reduceCtorEq, Nat.succ_eq_add_one, Nat.zero_le, Nat.le_refl, Nat.le_add_left, Nat.lt_add_one, beq_self_eq_true, Nat.zero_lt_succ, ne_eq, not_false_eq_true, not_true_eq_false, false_implies, forall_const, implies_true, true_implies, hr, hlx0, hlx1, hrf, ur, nI_1, hv, vu_0, vu_1, vu_2, up_0, up_1, up_2]
          rw [ed]
          refine i4 (d + 3) sc rf al _ _ hrf hK1 rfl (fun z => absurd z (by decide)) ?_
          rw [← ed]
          simp (decide := true) only [wx_s, cb_14, ci_0, ci_1, ci_4, qf_145, qk_7, qm_196, qm_200, qm_228, qn_11, qs_0, qx_13, qx_14, qx_25, wc_i, wc_r, wk_0, wk_i, wk_r, wx_aload_n, wx_bipush, wx_callV, wx_getfield, wx_goto, wx_iconst, wx_if_eq, wx_if_ne, wx_iload_n, wx_ireturn, wx_istore_n, qx_26, qr_26, ws_0, ws_1, ws_2, wd_i, wd_r, wd_d, wf_0, wf_1, wf_2, wf_3, q_26_0, q_26_1, q_26_4, q_26_5, q_26_6, q_26_9, qb_9_43, q_26_12, q_26_13, q_26_14, q_26_16, q_26_17, q_26_18, q_26_19, q_26_20, q_26_23, qb_23_29, q_26_26, q_26_27, q_26_30, q_26_31, q_26_34, q_26_35, q_26_36, qb_36_11, q_26_39, q_26_40, qb_40_7, q_26_43, q_26_44, qb_44_4, q_26_47, q_26_48, q_26_49, qb_49_m44, q_26_52, q_26_53, Bool.false_and, Bool.true_and, Bool.and_false, Bool.false_eq_true, if_false, if_true, ↓reduceIte, Nat.reduceAdd, Nat.reduceLT, Nat.reduceLeDiff, Nat.reduceBEq, Nat.reduceEqDiff, Fin.isValue, Nat.reduceMod, Nat.zero_mod, Fin.val_zero, Fin.val_one, true_and, and_true, Option.toList, List.nil_append, List.cons_append, List.getElem?_cons_zero, List.getElem?_cons_succ, List.take_succ_cons, List.take_zero, List.drop_succ_cons, List.drop_zero, List.reverse_cons, List.reverse_nil, List.map_cons, List.map_nil, List.sum_cons, List.sum_nil, List.length_cons, List.length_nil, true_or, or_true, false_or, or_false, Nat.zero_add, Nat.add_zero, reduceCtorEq, Nat.succ_eq_add_one, Nat.zero_le, Nat.le_refl, Nat.le_add_left, Nat.lt_add_one, beq_self_eq_true, Nat.zero_lt_succ, ne_eq, not_false_eq_true, not_true_eq_false, false_implies, forall_const, implies_true, true_implies, hr, hlx0, hlx1, hrf, ur, nI_1, hv, vu_0, vu_1, vu_2, up_0, up_1, up_2]
          refine ⟨fun z => ?_, fun z => ⟨fun y => ?_, fun y => ?_⟩⟩
          · exact cont _ (by simp [j_st, j_dl, hlx0, Value.category]) (by rw [if_pos z]; simp [j_st, j_dl, Value.category])
          · exact cont _ (by simp [j_st, j_dl, hlx0, Value.category]) (by rw [if_neg z, if_pos y]; simp [j_st, j_dl, Value.category])
          · exact cont _ (by simp [j_st, j_dl, hlx0, Value.category]) (by rw [if_neg z, if_neg y]; simp [j_st, j_dl, Value.category])
        · cases h
      · rw [if_pos hw] at h
        cases h
        refine ⟨⟨e_same_at (e_same_rf S), fun _ _ _ => rfl⟩, ?_⟩
        intro hv
        have hv := hv (by decide)
        refine ⟨hv, ?_⟩
        intro d sc rf al Post lv hrf hK hlx0 hlx1 hP
        have hlx1 := hlx1 (by decide)
        have hT := e_K_TX (sc := sc) hK
        show gW X 26 (d + 4 * n + 11 + 1) 5 lv [] (va_up sc 0 S) rf ar al Post
        refine gW_cut hX (fun pc => pc == 5) 60 ?_
        simp (decide := true) only [wx_s, cb_14, ci_0, ci_1, ci_4, qf_145, qk_7, qm_196, qm_200, qm_228, qn_11, qs_0, qx_13, qx_14, qx_25, wc_i, wc_r, wk_0, wk_i, wk_r, wx_aload_n, wx_bipush, wx_callV, wx_getfield, wx_goto, wx_iconst, wx_if_eq, wx_if_ne, wx_iload_n, wx_ireturn, wx_istore_n, qx_26, qr_26, ws_0, ws_1, ws_2, wd_i, wd_r, wd_d, wf_0, wf_1, wf_2, wf_3, q_26_0, q_26_1, q_26_4, q_26_5, q_26_6, q_26_9, qb_9_43, q_26_12, q_26_13, q_26_14, q_26_16, q_26_17, q_26_18, q_26_19, q_26_20, q_26_23, qb_23_29, q_26_26, q_26_27, q_26_30, q_26_31, q_26_34, q_26_35, q_26_36, qb_36_11, q_26_39, q_26_40, qb_40_7, q_26_43, q_26_44, qb_44_4, q_26_47, q_26_48, q_26_49, qb_49_m44, q_26_52, q_26_53, Bool.false_and, Bool.true_and, Bool.and_false, Bool.false_eq_true, if_false, if_true, ↓reduceIte, Nat.reduceAdd, Nat.reduceLT, Nat.reduceLeDiff, Nat.reduceBEq, Nat.reduceEqDiff, Fin.isValue, Nat.reduceMod, Nat.zero_mod, Fin.val_zero, Fin.val_one, true_and, and_true, Option.toList, List.nil_append, List.cons_append, List.getElem?_cons_zero, List.getElem?_cons_succ, List.take_succ_cons, List.take_zero, List.drop_succ_cons, List.drop_zero, List.reverse_cons, List.reverse_nil, List.map_cons, List.map_nil, List.sum_cons, List.sum_nil, List.length_cons, List.length_nil, true_or, or_true, false_or, or_false, Nat.zero_add, Nat.add_zero, reduceCtorEq, Nat.succ_eq_add_one, Nat.zero_le, Nat.le_refl, Nat.le_add_left, Nat.lt_add_one, beq_self_eq_true, Nat.zero_lt_succ, ne_eq, not_false_eq_true, not_true_eq_false, false_implies, forall_const, implies_true, true_implies, hr, hlx0, hlx1, hrf, ur, nI_1, hv, vu_0, vu_1, vu_2, up_0, up_1, up_2]
        refine ⟨fun _ => ?_, fun z => absurd hf z⟩
        refine t_isWord hX hr hrf (q := q) hT (by rw [vu_0]; exact hat) hq2 (m_word 1 14 4 0 0 0) rfl ?_ rfl rfl rfl rfl rfl rfl rfl
        rw [if_neg hw]
        simp (decide := true) only [wx_s, cb_14, ci_0, ci_1, ci_4, qf_145, qk_7, qm_196, qm_200, qm_228, qn_11, qs_0, qx_13, qx_14, qx_25, wc_i, wc_r, wk_0, wk_i, wk_r, wx_aload_n, wx_bipush, wx_callV, wx_getfield, wx_goto, wx_iconst, wx_if_eq, wx_if_ne, wx_iload_n, wx_ireturn, wx_istore_n, qx_26, qr_26, ws_0, ws_1, ws_2, wd_i, wd_r, wd_d, wf_0, wf_1, wf_2, wf_3, q_26_0, q_26_1, q_26_4, q_26_5, q_26_6, q_26_9, qb_9_43, q_26_12, q_26_13, q_26_14, q_26_16, q_26_17, q_26_18, q_26_19, q_26_20, q_26_23, qb_23_29, q_26_26, q_26_27, q_26_30, q_26_31, q_26_34, q_26_35, q_26_36, qb_36_11, q_26_39, q_26_40, qb_40_7, q_26_43, q_26_44, qb_44_4, q_26_47, q_26_48, q_26_49, qb_49_m44, q_26_52, q_26_53, Bool.false_and, Bool.true_and, Bool.and_false, Bool.false_eq_true, if_false, if_true, ↓reduceIte, Nat.reduceAdd, Nat.reduceLT, Nat.reduceLeDiff, Nat.reduceBEq, Nat.reduceEqDiff, Fin.isValue, Nat.reduceMod, Nat.zero_mod, Fin.val_zero, Fin.val_one, true_and, and_true, Option.toList, List.nil_append, List.cons_append, List.getElem?_cons_zero, List.getElem?_cons_succ, List.take_succ_cons, List.take_zero, List.drop_succ_cons, List.drop_zero, List.reverse_cons, List.reverse_nil, List.map_cons, List.map_nil, List.sum_cons, List.sum_nil, List.length_cons, List.length_nil, true_or, or_true, false_or, or_false, Nat.zero_add, Nat.add_zero, reduceCtorEq, Nat.succ_eq_add_one, Nat.zero_le, Nat.le_refl, Nat.le_add_left, Nat.lt_add_one, beq_self_eq_true, Nat.zero_lt_succ, ne_eq, not_false_eq_true, not_true_eq_false, false_implies, forall_const, implies_true, true_implies, hr, hlx0, hlx1, hrf, ur, nI_1, hv, vu_0, vu_1, vu_2, up_0, up_1, up_2]
        exact hP
    · rw [if_pos hf] at h
      cases h
      refine ⟨⟨e_same_rf S, fun _ _ _ => rfl⟩, ?_⟩
      intro hv
      have hv := hv (by decide)
      refine ⟨hv, ?_⟩
      intro d sc rf al Post lv hrf hK hlx0 hlx1 hP
      have hlx1 := hlx1 (by decide)
      show gW X 26 (d + 4 * n + 11 + 1) 5 lv [] (va_up sc 0 S) rf ar al Post
      refine gW_cut hX (fun pc => pc == 5) 60 ?_
      simp (decide := true) only [wx_s, cb_14, ci_0, ci_1, ci_4, qf_145, qk_7, qm_196, qm_200, qm_228, qn_11, qs_0, qx_13, qx_14, qx_25, wc_i, wc_r, wk_0, wk_i, wk_r, wx_aload_n, wx_bipush, wx_callV, wx_getfield, wx_goto, wx_iconst, wx_if_eq, wx_if_ne, wx_iload_n, wx_ireturn, wx_istore_n, qx_26, qr_26, ws_0, ws_1, ws_2, wd_i, wd_r, wd_d, wf_0, wf_1, wf_2, wf_3, q_26_0, q_26_1, q_26_4, q_26_5, q_26_6, q_26_9, qb_9_43, q_26_12, q_26_13, q_26_14, q_26_16, q_26_17, q_26_18, q_26_19, q_26_20, q_26_23, qb_23_29, q_26_26, q_26_27, q_26_30, q_26_31, q_26_34, q_26_35, q_26_36, qb_36_11, q_26_39, q_26_40, qb_40_7, q_26_43, q_26_44, qb_44_4, q_26_47, q_26_48, q_26_49, qb_49_m44, q_26_52, q_26_53, Bool.false_and, Bool.true_and, Bool.and_false, Bool.false_eq_true, if_false, if_true, ↓reduceIte, Nat.reduceAdd, Nat.reduceLT, Nat.reduceLeDiff, Nat.reduceBEq, Nat.reduceEqDiff, Fin.isValue, Nat.reduceMod, Nat.zero_mod, Fin.val_zero, Fin.val_one, true_and, and_true, Option.toList, List.nil_append, List.cons_append, List.getElem?_cons_zero, List.getElem?_cons_succ, List.take_succ_cons, List.take_zero, List.drop_succ_cons, List.drop_zero, List.reverse_cons, List.reverse_nil, List.map_cons, List.map_nil, List.sum_cons, List.sum_nil, List.length_cons, List.length_nil, true_or, or_true, false_or, or_false, Nat.zero_add, Nat.add_zero, reduceCtorEq, Nat.succ_eq_add_one, Nat.zero_le, Nat.le_refl, Nat.le_add_left, Nat.lt_add_one, beq_self_eq_true, Nat.zero_lt_succ, ne_eq, not_false_eq_true, not_true_eq_false, false_implies, forall_const, implies_true, true_implies, hr, hlx0, hlx1, hrf, ur, nI_1, hv, vu_0, vu_1, vu_2, up_0, up_1, up_2]
      exact ⟨fun z => absurd z hf, fun _ => hP⟩
set_option maxHeartbeats 8000000 in
set_option maxRecDepth 100000 in
theorem t_step4 {X : jX} (hX : j_LK (g_n X) (g_L X)) (hr : g_rs X = r_sh) {tx P : Nat → Int32} {wn nn n : Nat} (ih : e_IH X tx P wn nn n) {v v2 : Int32} {S S2 : Nat → Int32} {ar ar2 : jSc} (h : e_t tx P wn (n + 1) 4 v S ar = some (v2, S2, ar2)) : (e_same S S2 ∧ e_asame ar ar2) ∧ e_H X tx P wn nn (n + 1) 4 v S ar v2 S2 ar2 := by
  rcases hq : e_q S with _ | q
  · rw [e_t_no _ _ _ _ _ _ _ _ hq] at h; cases h
  · rw [e_t_4 _ _ _ _ _ _ _ q hq] at h
    obtain ⟨hat, hq2⟩ := e_q_ok hq
    by_cases hf : S f_fault = 0
    · rw [if_neg (fun z => z hf)] at h
      by_cases hw : x_wh tx q = m_word 15 18 0 0 0 0
      · rw [if_neg (fun z => z hw)] at h
        split at h
        · rename_i b S1 ar1 h1
          obtain ⟨⟨i1, i2⟩, i3⟩ := ih _ _ _ _ _ _ _ h1
          obtain ⟨⟨j1, j2⟩, j3⟩ := ih _ _ _ _ _ _ _ h
          obtain ⟨hb, i4⟩ := i3 (fun z => absurd z (by decide))
          refine ⟨⟨e_same_tr (e_same_tr (e_same_at (e_same_rf S)) i1) j1, fun b y z => (j2 b y z).trans (i2 b y z)⟩, ?_⟩
          intro hv
          have hv := hv (by decide)
          obtain ⟨hv2, j4⟩ := j3 (fun _ => by split <;> (try split) <;> simp)
          refine ⟨hv2, ?_⟩
          intro d sc rf al Post lv hrf hK hlx0 hlx1 hP
          have hlx1 := hlx1 (by decide)
          have hT := e_K_TX (sc := sc) hK
          have hn := hT.1
          obtain ⟨a1, a2, a3, a4⟩ := x_nb_ok (p := q) hT
          have hK0 : e_K tx P wn nn (upd S f_at (nI (x_nb tx q))) ar := e_K_up hK (e_same_at (e_same_rf S)) (fun _ _ _ => rfl)
          have hT0 := e_K_TX (sc := sc) hK0
          have hK1 : e_K tx P wn nn (upd S f_at (nI (x_we tx (x_nb tx q)))) ar := e_K_up hK (e_same_at (e_same_rf S)) (fun _ _ _ => rfl)
          have hK2 := e_K_up hK1 i1 i2
          have ed : d + 4 * n + 11 = d + 3 + 4 * n + 8 := by omega
          have ed2 : d + 4 * n + 11 + 1 = d + 4 + 4 * n + 8 := by omega
          have cont : ∀ lv : jV, lv 0 = some (.ref 0) → lv 1 = some (.int (if v = 0 then (if b = 0 then 0 else 1) else 1)) → gW X 27 (d + 4 * n + 11 + 1) 5 lv [] (va_up sc 0 S1) rf ar1 al Post := by
            intro lv a0 a1
            rw [ed2]
            exact j4 (d + 4) sc rf al Post lv hrf hK2 a0 (fun _ => a1) hP
          show gW X 27 (d + 4 * n + 11 + 1) 5 lv [] (va_up sc 0 S) rf ar al Post
          refine gW_cut hX (fun pc => pc == 5) 60 ?_
          simp (decide := true) only [wx_s, cb_15, cb_18, ci_0, ci_1, qf_145, qk_7, qm_196, qm_200, qm_235, qn_11, qs_0, qx_13, qx_14, qx_26, wc_i, wc_r, wk_0, wk_i, wk_r, wx_aload_n, wx_bipush, wx_callV, wx_getfield, wx_goto, wx_iconst, wx_if_eq, wx_if_ne, wx_iload_n, wx_ireturn, wx_istore_n, qx_27, qr_27, ws_0, ws_1, ws_2, wd_i, wd_r, wd_d, wf_0, wf_1, wf_2, wf_3, q_27_0, q_27_1, q_27_4, q_27_5, q_27_6, q_27_9, qb_9_44, q_27_12, q_27_13, q_27_15, q_27_17, q_27_18, q_27_19, q_27_20, q_27_21, q_27_24, qb_24_29, q_27_27, q_27_28, q_27_31, q_27_32, q_27_35, q_27_36, q_27_37, qb_37_7, q_27_40, q_27_41, qb_41_7, q_27_44, q_27_45, qb_45_4, q_27_48, q_27_49, q_27_50, qb_50_m45, q_27_53, q_27_54, Bool.false_and, Bool.true_and, Bool.and_false, Bool.false_eq_true, if_false, if_true, ↓reduceIte, Nat.reduceAdd, Nat.reduceLT, Nat.reduceLeDiff, Nat.reduceBEq, Nat.reduceEqDiff, Fin.isValue, Nat.reduceMod, Nat.zero_mod, Fin.val_zero, Fin.val_one, true_and, and_true, Option.toList, List.nil_append, List.cons_append, List.getElem?_cons_zero, List.getElem?_cons_succ, List.take_succ_cons, List.take_zero, List.drop_succ_cons, List.drop_zero, List.reverse_cons, List.reverse_nil, List.map_cons, List.map_nil, List.sum_cons, List.sum_nil, List.length_cons, List.length_nil, true_or, or_true, false_or, or_false, Nat.zero_add, Nat.add_zero, reduceCtorEq, Nat.succ_eq_add_one, Nat.zero_le, Nat.le_refl, Nat.le_add_left, Nat.lt_add_one, beq_self_eq_true, Nat.zero_lt_succ, ne_eq, not_false_eq_true, not_true_eq_false, false_implies, forall_const, implies_true, true_implies, hr, hlx0, hlx1, hrf, ur, nI_1, hv, vu_0, vu_1, vu_2, up_0, up_1, up_2]
          refine ⟨fun _ => ?_, fun z => absurd hf z⟩
          refine t_isWord hX hr hrf (q := q) hT (by rw [vu_0]; exact hat) hq2 (m_word 15 18 0 0 0 0) rfl ?_ rfl rfl rfl rfl rfl rfl rfl
          rw [if_pos hw]
          simp (decide := true) only [wx_s, cb_15, cb_18, ci_0, ci_1, qf_145, qk_7, qm_196, qm_200, qm_235, qn_11, qs_0, qx_13, qx_14, qx_26, wc_i, wc_r, wk_0, wk_i, wk_r, wx_aload_n, wx_bipush, wx_callV, wx_getfield, wx_goto, wx_iconst, wx_if_eq, wx_if_ne, wx_iload_n, wx_ireturn, wx_istore_n, qx_27, qr_27, ws_0, ws_1, ws_2, wd_i, wd_r, wd_d, wf_0, wf_1, wf_2, wf_3, q_27_0, q_27_1, q_27_4, q_27_5, q_27_6, q_27_9, qb_9_44, q_27_12, q_27_13, q_27_15, q_27_17, q_27_18, q_27_19, q_27_20, q_27_21, q_27_24, qb_24_29, q_27_27, q_27_28, q_27_31, q_27_32, q_27_35, q_27_36, q_27_37, qb_37_7, q_27_40, q_27_41, qb_41_7, q_27_44, q_27_45, qb_45_4, q_27_48, q_27_49, q_27_50, qb_50_m45, q_27_53, q_27_54, Bool.false_and, Bool.true_and, Bool.and_false, Bool.false_eq_true, if_false, if_true, ↓reduceIte, Nat.reduceAdd, Nat.reduceLT, Nat.reduceLeDiff, Nat.reduceBEq, Nat.reduceEqDiff, Fin.isValue, Nat.reduceMod, Nat.zero_mod, Fin.val_zero, Fin.val_one, true_and, and_true, Option.toList, List.nil_append, List.cons_append, List.getElem?_cons_zero, List.getElem?_cons_succ, List.take_succ_cons, List.take_zero, List.drop_succ_cons, List.drop_zero, List.reverse_cons, List.reverse_nil, List.map_cons, List.map_nil, List.sum_cons, List.sum_nil, List.length_cons, List.length_nil, true_or, or_true, false_or, or_false, Nat.zero_add, Nat.add_zero, reduceCtorEq, Nat.succ_eq_add_one, Nat.zero_le, Nat.le_refl, Nat.le_add_left, Nat.lt_add_one, beq_self_eq_true, Nat.zero_lt_succ, ne_eq, not_false_eq_true, not_true_eq_false, false_implies, forall_const, implies_true, true_implies, hr, hlx0, hlx1, hrf, ur, nI_1, hv, vu_0, vu_1, vu_2, up_0, up_1, up_2]
          refine t_skipWord2 hX hr hrf (q := x_nb tx q) hT0 (by show va_up sc 0 _ 0 f_at = _; rw [vu_0, up_0]) (by omega) ?_ rfl
          simp (decide := true) only [wx_s, cb_15, cb_18, ci_0, ci_1, qf_145, qk_7, qm_196, qm_200, qm_235, qn_11, qs_0, qx_13, qx_14, qx_26, wc_i, wc_r, wk_0, wk_i, wk_r, wx_aload_n, wx_bipush, wx_callV, wx_getfield, wx_goto, wx_iconst, wx_if_eq, wx_if_ne, wx_iload_n, wx_ireturn, wx_istore_n, qx_27, qr_27, ws_0, ws_1, ws_2, wd_i, wd_r, wd_d, wf_0, wf_1, wf_2, wf_3, q_27_0, q_27_1, q_27_4, q_27_5, q_27_6, q_27_9, qb_9_44, q_27_12, q_27_13, q_27_15, q_27_17, q_27_18, q_27_19, q_27_20, q_27_21, q_27_24, qb_24_29, q_27_27, q_27_28, q_27_31, q_27_32, q_27_35, q_27_36, q_27_37, qb_37_7, q_27_40, q_27_41, qb_41_7, q_27_44, q_27_45, qb_45_4, q_27_48, q_27_49, q_27_50, qb_50_m45, q_27_53, q_27_54, Bool.false_and, Bool.true_and, Bool.and_false, Bool.false_eq_true, if_false, if_true, ↓reduceIte, Nat.reduceAdd, Nat.reduceLT, Nat.reduceLeDiff, Nat.reduceBEq, Nat.reduceEqDiff, Fin.isValue, Nat.reduceMod, Nat.zero_mod, Fin.val_zero, Fin.val_one, true_and, and_true, Option.toList, List.nil_append, List.cons_append, List.getElem?_cons_zero, List.getElem?_cons_succ, List.take_succ_cons, List.take_zero, List.drop_succ_cons, List.drop_zero, List.reverse_cons, List.reverse_nil, List.map_cons, List.map_nil, List.sum_cons, List.sum_nil, List.length_cons, List.length_nil, true_or, or_true, false_or, or_false, Nat.zero_add, Nat.add_zero, reduceCtorEq, Nat.succ_eq_add_one, Nat.zero_le, Nat.le_refl, Nat.le_add_left, Nat.lt_add_one, beq_self_eq_true, Nat.zero_lt_succ, ne_eq, not_false_eq_true, not_true_eq_false, false_implies, forall_const, implies_true, true_implies, hr, hlx0, hlx1, hrf, ur, nI_1, hv, vu_0, vu_1, vu_2, up_0, up_1, up_2]
          rw [ed]
          refine i4 (d + 3) sc rf al _ _ hrf hK1 rfl (fun z => absurd z (by decide)) ?_
          rw [← ed]
          simp (decide := true) only [wx_s, cb_15, cb_18, ci_0, ci_1, qf_145, qk_7, qm_196, qm_200, qm_235, qn_11, qs_0, qx_13, qx_14, qx_26, wc_i, wc_r, wk_0, wk_i, wk_r, wx_aload_n, wx_bipush, wx_callV, wx_getfield, wx_goto, wx_iconst, wx_if_eq, wx_if_ne, wx_iload_n, wx_ireturn, wx_istore_n, qx_27, qr_27, ws_0, ws_1, ws_2, wd_i, wd_r, wd_d, wf_0, wf_1, wf_2, wf_3, q_27_0, q_27_1, q_27_4, q_27_5, q_27_6, q_27_9, qb_9_44, q_27_12, q_27_13, q_27_15, q_27_17, q_27_18, q_27_19, q_27_20, q_27_21, q_27_24, qb_24_29, q_27_27, q_27_28, q_27_31, q_27_32, q_27_35, q_27_36, q_27_37, qb_37_7, q_27_40, q_27_41, qb_41_7, q_27_44, q_27_45, qb_45_4, q_27_48, q_27_49, q_27_50, qb_50_m45, q_27_53, q_27_54, Bool.false_and, Bool.true_and, Bool.and_false, Bool.false_eq_true, if_false, if_true, ↓reduceIte, Nat.reduceAdd, Nat.reduceLT, Nat.reduceLeDiff, Nat.reduceBEq, Nat.reduceEqDiff, Fin.isValue, Nat.reduceMod, Nat.zero_mod, Fin.val_zero, Fin.val_one, true_and, and_true, Option.toList, List.nil_append, List.cons_append, List.getElem?_cons_zero, List.getElem?_cons_succ, List.take_succ_cons, List.take_zero, List.drop_succ_cons, List.drop_zero, List.reverse_cons, List.reverse_nil, List.map_cons, List.map_nil, List.sum_cons, List.sum_nil, List.length_cons, List.length_nil, true_or, or_true, false_or, or_false, Nat.zero_add, Nat.add_zero, reduceCtorEq, Nat.succ_eq_add_one, Nat.zero_le, Nat.le_refl, Nat.le_add_left, Nat.lt_add_one, beq_self_eq_true, Nat.zero_lt_succ, ne_eq, not_false_eq_true, not_true_eq_false, false_implies, forall_const, implies_true, true_implies, hr, hlx0, hlx1, hrf, ur, nI_1, hv, vu_0, vu_1, vu_2, up_0, up_1, up_2]
          refine ⟨fun z => ⟨fun y => ?_, fun y => ?_⟩, fun z => ?_⟩
          · exact cont _ (by simp [j_st, j_dl, hlx0, Value.category]) (by rw [if_pos z, if_pos y]; simp [j_st, j_dl, Value.category])
          · exact cont _ (by simp [j_st, j_dl, hlx0, Value.category]) (by rw [if_pos z, if_neg y]; simp [j_st, j_dl, Value.category])
          · exact cont _ (by simp [j_st, j_dl, hlx0, Value.category]) (by rw [if_neg z]; simp [j_st, j_dl, Value.category])
        · cases h
      · rw [if_pos hw] at h
        cases h
        refine ⟨⟨e_same_at (e_same_rf S), fun _ _ _ => rfl⟩, ?_⟩
        intro hv
        have hv := hv (by decide)
        refine ⟨hv, ?_⟩
        intro d sc rf al Post lv hrf hK hlx0 hlx1 hP
        have hlx1 := hlx1 (by decide)
        have hT := e_K_TX (sc := sc) hK
        show gW X 27 (d + 4 * n + 11 + 1) 5 lv [] (va_up sc 0 S) rf ar al Post
        refine gW_cut hX (fun pc => pc == 5) 60 ?_
        simp (decide := true) only [wx_s, cb_15, cb_18, ci_0, ci_1, qf_145, qk_7, qm_196, qm_200, qm_235, qn_11, qs_0, qx_13, qx_14, qx_26, wc_i, wc_r, wk_0, wk_i, wk_r, wx_aload_n, wx_bipush, wx_callV, wx_getfield, wx_goto, wx_iconst, wx_if_eq, wx_if_ne, wx_iload_n, wx_ireturn, wx_istore_n, qx_27, qr_27, ws_0, ws_1, ws_2, wd_i, wd_r, wd_d, wf_0, wf_1, wf_2, wf_3, q_27_0, q_27_1, q_27_4, q_27_5, q_27_6, q_27_9, qb_9_44, q_27_12, q_27_13, q_27_15, q_27_17, q_27_18, q_27_19, q_27_20, q_27_21, q_27_24, qb_24_29, q_27_27, q_27_28, q_27_31, q_27_32, q_27_35, q_27_36, q_27_37, qb_37_7, q_27_40, q_27_41, qb_41_7, q_27_44, q_27_45, qb_45_4, q_27_48, q_27_49, q_27_50, qb_50_m45, q_27_53, q_27_54, Bool.false_and, Bool.true_and, Bool.and_false, Bool.false_eq_true, if_false, if_true, ↓reduceIte, Nat.reduceAdd, Nat.reduceLT, Nat.reduceLeDiff, Nat.reduceBEq, Nat.reduceEqDiff, Fin.isValue, Nat.reduceMod, Nat.zero_mod, Fin.val_zero, Fin.val_one, true_and, and_true, Option.toList, List.nil_append, List.cons_append, List.getElem?_cons_zero, List.getElem?_cons_succ, List.take_succ_cons, List.take_zero, List.drop_succ_cons, List.drop_zero, List.reverse_cons, List.reverse_nil, List.map_cons, List.map_nil, List.sum_cons, List.sum_nil, List.length_cons, List.length_nil, true_or, or_true, false_or, or_false, Nat.zero_add, Nat.add_zero, reduceCtorEq, Nat.succ_eq_add_one, Nat.zero_le, Nat.le_refl, Nat.le_add_left, Nat.lt_add_one, beq_self_eq_true, Nat.zero_lt_succ, ne_eq, not_false_eq_true, not_true_eq_false, false_implies, forall_const, implies_true, true_implies, hr, hlx0, hlx1, hrf, ur, nI_1, hv, vu_0, vu_1, vu_2, up_0, up_1, up_2]
        refine ⟨fun _ => ?_, fun z => absurd hf z⟩
        refine t_isWord hX hr hrf (q := q) hT (by rw [vu_0]; exact hat) hq2 (m_word 15 18 0 0 0 0) rfl ?_ rfl rfl rfl rfl rfl rfl rfl
        rw [if_neg hw]
        simp (decide := true) only [wx_s, cb_15, cb_18, ci_0, ci_1, qf_145, qk_7, qm_196, qm_200, qm_235, qn_11, qs_0, qx_13, qx_14, qx_26, wc_i, wc_r, wk_0, wk_i, wk_r, wx_aload_n, wx_bipush, wx_callV, wx_getfield, wx_goto, wx_iconst, wx_if_eq, wx_if_ne, wx_iload_n, wx_ireturn, wx_istore_n, qx_27, qr_27, ws_0, ws_1, ws_2, wd_i, wd_r, wd_d, wf_0, wf_1, wf_2, wf_3, q_27_0, q_27_1, q_27_4, q_27_5, q_27_6, q_27_9, qb_9_44, q_27_12, q_27_13, q_27_15, q_27_17, q_27_18, q_27_19, q_27_20, q_27_21, q_27_24, qb_24_29, q_27_27, q_27_28, q_27_31, q_27_32, q_27_35, q_27_36, q_27_37, qb_37_7, q_27_40, q_27_41, qb_41_7, q_27_44, q_27_45, qb_45_4, q_27_48, q_27_49, q_27_50, qb_50_m45, q_27_53, q_27_54, Bool.false_and, Bool.true_and, Bool.and_false, Bool.false_eq_true, if_false, if_true, ↓reduceIte, Nat.reduceAdd, Nat.reduceLT, Nat.reduceLeDiff, Nat.reduceBEq, Nat.reduceEqDiff, Fin.isValue, Nat.reduceMod, Nat.zero_mod, Fin.val_zero, Fin.val_one, true_and, and_true, Option.toList, List.nil_append, List.cons_append, List.getElem?_cons_zero, List.getElem?_cons_succ, List.take_succ_cons, List.take_zero, List.drop_succ_cons, List.drop_zero, List.reverse_cons, List.reverse_nil, List.map_cons, List.map_nil, List.sum_cons, List.sum_nil, List.length_cons, List.length_nil, true_or, or_true, false_or, or_false, Nat.zero_add, Nat.add_zero, reduceCtorEq, Nat.succ_eq_add_one, Nat.zero_le, Nat.le_refl, Nat.le_add_left, Nat.lt_add_one, beq_self_eq_true, Nat.zero_lt_succ, ne_eq, not_false_eq_true, not_true_eq_false, false_implies, forall_const, implies_true, true_implies, hr, hlx0, hlx1, hrf, ur, nI_1, hv, vu_0, vu_1, vu_2, up_0, up_1, up_2]
        exact hP
    · rw [if_pos hf] at h
      cases h
      refine ⟨⟨e_same_rf S, fun _ _ _ => rfl⟩, ?_⟩
      intro hv
      have hv := hv (by decide)
      refine ⟨hv, ?_⟩
      intro d sc rf al Post lv hrf hK hlx0 hlx1 hP
      have hlx1 := hlx1 (by decide)
      show gW X 27 (d + 4 * n + 11 + 1) 5 lv [] (va_up sc 0 S) rf ar al Post
      refine gW_cut hX (fun pc => pc == 5) 60 ?_
      simp (decide := true) only [wx_s, cb_15, cb_18, ci_0, ci_1, qf_145, qk_7, qm_196, qm_200, qm_235, qn_11, qs_0, qx_13, qx_14, qx_26, wc_i, wc_r, wk_0, wk_i, wk_r, wx_aload_n, wx_bipush, wx_callV, wx_getfield, wx_goto, wx_iconst, wx_if_eq, wx_if_ne, wx_iload_n, wx_ireturn, wx_istore_n, qx_27, qr_27, ws_0, ws_1, ws_2, wd_i, wd_r, wd_d, wf_0, wf_1, wf_2, wf_3, q_27_0, q_27_1, q_27_4, q_27_5, q_27_6, q_27_9, qb_9_44, q_27_12, q_27_13, q_27_15, q_27_17, q_27_18, q_27_19, q_27_20, q_27_21, q_27_24, qb_24_29, q_27_27, q_27_28, q_27_31, q_27_32, q_27_35, q_27_36, q_27_37, qb_37_7, q_27_40, q_27_41, qb_41_7, q_27_44, q_27_45, qb_45_4, q_27_48, q_27_49, q_27_50, qb_50_m45, q_27_53, q_27_54, Bool.false_and, Bool.true_and, Bool.and_false, Bool.false_eq_true, if_false, if_true, ↓reduceIte, Nat.reduceAdd, Nat.reduceLT, Nat.reduceLeDiff, Nat.reduceBEq, Nat.reduceEqDiff, Fin.isValue, Nat.reduceMod, Nat.zero_mod, Fin.val_zero, Fin.val_one, true_and, and_true, Option.toList, List.nil_append, List.cons_append, List.getElem?_cons_zero, List.getElem?_cons_succ, List.take_succ_cons, List.take_zero, List.drop_succ_cons, List.drop_zero, List.reverse_cons, List.reverse_nil, List.map_cons, List.map_nil, List.sum_cons, List.sum_nil, List.length_cons, List.length_nil, true_or, or_true, false_or, or_false, Nat.zero_add, Nat.add_zero, reduceCtorEq, Nat.succ_eq_add_one, Nat.zero_le, Nat.le_refl, Nat.le_add_left, Nat.lt_add_one, beq_self_eq_true, Nat.zero_lt_succ, ne_eq, not_false_eq_true, not_true_eq_false, false_implies, forall_const, implies_true, true_implies, hr, hlx0, hlx1, hrf, ur, nI_1, hv, vu_0, vu_1, vu_2, up_0, up_1, up_2]
      exact ⟨fun z => absurd z hf, fun _ => hP⟩
