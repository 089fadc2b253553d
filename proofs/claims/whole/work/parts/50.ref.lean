/-! THE REFERENCE: contracts of its small methods. -/
theorem u2_same {α : Type} {f : Nat → Nat → α} {a k : Nat} {v : α} : j_u2 f a k v a k = v := by simp [j_u2]
theorem u2_ne {α : Type} {f : Nat → Nat → α} {a k b j : Nat} {v : α} (h : ¬ (b = a ∧ j = k)) : j_u2 f a k v b j = f b j := if_neg h
theorem u2_fld {α : Type} {f : Nat → Nat → α} {k j : Nat} {v : α} (h : (j == k) = false) : j_u2 f 0 k v 0 j = f 0 j := if_neg (fun z => by simp [z.2] at h)
theorem u2_idem {α : Type} (f : Nat → Nat → α) (a k : Nat) : j_u2 f a k (f a k) = f := by
  funext b j
  by_cases h : b = a ∧ j = k
  · obtain ⟨rfl, rfl⟩ := h
    simp [j_u2]
  · simp [j_u2, h]
theorem u2_u2 {α : Type} (f : Nat → Nat → α) (a k : Nat) (v x : α) : j_u2 (j_u2 f a k v) a k x = j_u2 f a k x := by
  funext b j
  by_cases h : b = a ∧ j = k
  · simp [j_u2, h]
  · simp [j_u2, h]
set_option maxHeartbeats 2000000 in
theorem t_in {X : jX} (hX : j_LK (g_n X) (g_L X)) (hr : g_rs X = r_sh) {d : Nat} {sc : jSc} {rf : jRf} {ar : jSc} {al : jAl} {Post : jPo} {lv : jV} {v a b : Int32} (h : Post (some (.int (if a ≤ v ∧ v ≤ b then 1 else 0))) sc rf ar al) (hl0 : lv 0 = some (.int v)) (hl1 : lv 1 = some (.int a)) (hl2 : lv 2 = some (.int b)) : gW X 4 (d + 1) 0 lv [] sc rf ar al Post := by
  refine gW_all hX 20 ?_
  simp only [wx_s, ci_0, ci_1, wx_goto, wx_ic_gt, wx_ic_lt, wx_iconst, wx_iload_n, wx_ireturn, qx_4, qr_4, ws_0, ws_1, ws_2, wd_i, wd_r, wd_d, wf_0, wf_1, wf_2, wf_3, q_4_0, q_4_1, q_4_2, qb_2_12, q_4_5, q_4_6, q_4_7, qb_7_7, q_4_10, q_4_11, qb_11_4, q_4_14, q_4_15, Bool.false_and, Bool.true_and, Bool.and_false, Bool.false_eq_true, if_false, if_true, ↓reduceIte, Nat.reduceAdd, Nat.reduceLT, Nat.reduceLeDiff, Nat.reduceBEq, Nat.reduceEqDiff, Fin.isValue, Nat.reduceMod, Nat.zero_mod, Fin.val_zero, Fin.val_one, true_and, and_true, Option.toList, List.nil_append, List.cons_append, List.getElem?_cons_zero, List.getElem?_cons_succ, List.take_succ_cons, List.take_zero, List.drop_succ_cons, List.drop_zero, List.reverse_cons, List.reverse_nil, List.map_cons, List.map_nil, List.sum_cons, List.sum_nil, List.length_cons, List.length_nil, true_or, or_true, false_or, or_false, Nat.zero_add, Nat.add_zero, reduceCtorEq, Nat.succ_eq_add_one, Nat.zero_le, Nat.le_refl, Nat.le_add_left, Nat.lt_add_one, beq_self_eq_true, Nat.zero_lt_succ, ne_eq, not_false_eq_true, not_true_eq_false, false_implies, forall_const, implies_true, true_implies, hr, hl0, hl1, hl2]
  refine ⟨fun h1 => ?_, fun h1 => ⟨fun h2 => ?_, fun h2 => ?_⟩⟩
  · rw [if_neg (fun z => Int32.not_lt.mpr z.1 h1)] at h; exact h
  · rw [if_neg (fun z => Int32.not_lt.mpr z.2 h2)] at h; exact h
  · rw [if_pos ⟨Int32.not_lt.mp h1, Int32.not_lt.mp h2⟩] at h; exact h
set_option maxHeartbeats 2000000 in
theorem t_isDigit {X : jX} (hX : j_LK (g_n X) (g_L X)) (hr : g_rs X = r_sh) {d : Nat} {sc : jSc} {rf : jRf} {ar : jSc} {al : jAl} {Post : jPo} {lv : jV} {v : Int32} (h : Post (some (.int (if 48 ≤ v ∧ v ≤ 57 then 1 else 0))) sc rf ar al) (hl0 : lv 0 = some (.int v)) : gW X 9 (d + 1) 0 lv [] sc rf ar al Post := by
  refine gW_all hX 20 ?_
  simp only [wx_s, cb_48, cb_57, ci_0, ci_1, wx_bipush, wx_goto, wx_ic_gt, wx_ic_lt, wx_iconst, wx_iload_n, wx_ireturn, qx_9, qr_9, ws_0, ws_1, ws_2, wd_i, wd_r, wd_d, wf_0, wf_1, wf_2, wf_3, q_9_0, q_9_1, q_9_3, qb_3_13, q_9_6, q_9_7, q_9_9, qb_9_7, q_9_12, q_9_13, qb_13_4, q_9_16, q_9_17, Bool.false_and, Bool.true_and, Bool.and_false, Bool.false_eq_true, if_false, if_true, ↓reduceIte, Nat.reduceAdd, Nat.reduceLT, Nat.reduceLeDiff, Nat.reduceBEq, Nat.reduceEqDiff, Fin.isValue, Nat.reduceMod, Nat.zero_mod, Fin.val_zero, Fin.val_one, true_and, and_true, Option.toList, List.nil_append, List.cons_append, List.getElem?_cons_zero, List.getElem?_cons_succ, List.take_succ_cons, List.take_zero, List.drop_succ_cons, List.drop_zero, List.reverse_cons, List.reverse_nil, List.map_cons, List.map_nil, List.sum_cons, List.sum_nil, List.length_cons, List.length_nil, true_or, or_true, false_or, or_false, Nat.zero_add, Nat.add_zero, reduceCtorEq, Nat.succ_eq_add_one, Nat.zero_le, Nat.le_refl, Nat.le_add_left, Nat.lt_add_one, beq_self_eq_true, Nat.zero_lt_succ, ne_eq, not_false_eq_true, not_true_eq_false, false_implies, forall_const, implies_true, true_implies, hr, hl0]
  refine ⟨fun h1 => ?_, fun h1 => ⟨fun h2 => ?_, fun h2 => ?_⟩⟩
  · rw [if_neg (fun z => Int32.not_lt.mpr z.1 h1)] at h; exact h
  · rw [if_neg (fun z => Int32.not_lt.mpr z.2 h2)] at h; exact h
  · rw [if_pos ⟨Int32.not_lt.mp h1, Int32.not_lt.mp h2⟩] at h; exact h
set_option maxHeartbeats 2000000 in
theorem t_isSmall {X : jX} (hX : j_LK (g_n X) (g_L X)) (hr : g_rs X = r_sh) {d : Nat} {sc : jSc} {rf : jRf} {ar : jSc} {al : jAl} {Post : jPo} {lv : jV} {v : Int32} (h : Post (some (.int (if 97 ≤ v ∧ v ≤ 122 then 1 else 0))) sc rf ar al) (hl0 : lv 0 = some (.int v)) : gW X 10 (d + 1) 0 lv [] sc rf ar al Post := by
  refine gW_all hX 20 ?_
  simp only [wx_s, cb_122, cb_97, ci_0, ci_1, wx_bipush, wx_goto, wx_ic_gt, wx_ic_lt, wx_iconst, wx_iload_n, wx_ireturn, qx_10, qr_10, ws_0, ws_1, ws_2, wd_i, wd_r, wd_d, wf_0, wf_1, wf_2, wf_3, q_10_0, q_10_1, q_10_3, qb_3_13, q_10_6, q_10_7, q_10_9, qb_9_7, q_10_12, q_10_13, qb_13_4, q_10_16, q_10_17, Bool.false_and, Bool.true_and, Bool.and_false, Bool.false_eq_true, if_false, if_true, ↓reduceIte, Nat.reduceAdd, Nat.reduceLT, Nat.reduceLeDiff, Nat.reduceBEq, Nat.reduceEqDiff, Fin.isValue, Nat.reduceMod, Nat.zero_mod, Fin.val_zero, Fin.val_one, true_and, and_true, Option.toList, List.nil_append, List.cons_append, List.getElem?_cons_zero, List.getElem?_cons_succ, List.take_succ_cons, List.take_zero, List.drop_succ_cons, List.drop_zero, List.reverse_cons, List.reverse_nil, List.map_cons, List.map_nil, List.sum_cons, List.sum_nil, List.length_cons, List.length_nil, true_or, or_true, false_or, or_false, Nat.zero_add, Nat.add_zero, reduceCtorEq, Nat.succ_eq_add_one, Nat.zero_le, Nat.le_refl, Nat.le_add_left, Nat.lt_add_one, beq_self_eq_true, Nat.zero_lt_succ, ne_eq, not_false_eq_true, not_true_eq_false, false_implies, forall_const, implies_true, true_implies, hr, hl0]
  refine ⟨fun h1 => ?_, fun h1 => ⟨fun h2 => ?_, fun h2 => ?_⟩⟩
  · rw [if_neg (fun z => Int32.not_lt.mpr z.1 h1)] at h; exact h
  · rw [if_neg (fun z => Int32.not_lt.mpr z.2 h2)] at h; exact h
  · rw [if_pos ⟨Int32.not_lt.mp h1, Int32.not_lt.mp h2⟩] at h; exact h
set_option maxHeartbeats 2000000 in
theorem t_thrown {X : jX} (hX : j_LK (g_n X) (g_L X)) (hr : g_rs X = r_sh) {d : Nat} {sc : jSc} {rf : jRf} {ar : jSc} {al : jAl} {Post : jPo} {lv : jV} (h : Post (some (.int (sc 0 f_thrown))) sc rf ar al) (hl0 : lv 0 = some (.ref 0)) : gW X 2 (d + 1) 0 lv [] sc rf ar al Post := by
  refine gW_all hX 20 ?_
  simp only [wx_s, qf_126, qk_0, qn_11, qs_0, wx_aload_n, wx_getfield, wx_ireturn, qx_2, qr_2, ws_0, ws_1, ws_2, wd_i, wd_r, wd_d, wf_0, wf_1, wf_2, wf_3, q_2_0, q_2_1, q_2_4, Bool.false_and, Bool.true_and, Bool.and_false, Bool.false_eq_true, if_false, if_true, ↓reduceIte, Nat.reduceAdd, Nat.reduceLT, Nat.reduceLeDiff, Nat.reduceBEq, Nat.reduceEqDiff, Fin.isValue, Nat.reduceMod, Nat.zero_mod, Fin.val_zero, Fin.val_one, true_and, and_true, Option.toList, List.nil_append, List.cons_append, List.getElem?_cons_zero, List.getElem?_cons_succ, List.take_succ_cons, List.take_zero, List.drop_succ_cons, List.drop_zero, List.reverse_cons, List.reverse_nil, List.map_cons, List.map_nil, List.sum_cons, List.sum_nil, List.length_cons, List.length_nil, true_or, or_true, false_or, or_false, Nat.zero_add, Nat.add_zero, reduceCtorEq, Nat.succ_eq_add_one, Nat.zero_le, Nat.le_refl, Nat.le_add_left, Nat.lt_add_one, beq_self_eq_true, Nat.zero_lt_succ, ne_eq, not_false_eq_true, not_true_eq_false, false_implies, forall_const, implies_true, true_implies, hr, hl0]
  exact h
set_option maxHeartbeats 2000000 in
theorem t_bad {X : jX} (hX : j_LK (g_n X) (g_L X)) (hr : g_rs X = r_sh) {d : Nat} {sc : jSc} {rf : jRf} {ar : jSc} {al : jAl} {Post : jPo} {lv : jV} {b x : Int32} (h : ∀ y, y = (if b = 0 ∨ ¬ sc 0 f_thrown = 0 then sc 0 f_thrown else x) → Post (some (.int (if y = 0 then 0 else 1))) (j_u2 sc 0 f_thrown y) rf ar al) (hl0 : lv 0 = some (.ref 0)) (hl1 : lv 1 = some (.int b)) (hl2 : lv 2 = some (.int x)) : gW X 3 (d + 1) 0 lv [] sc rf ar al Post := by
  refine gW_all hX 40 ?_
  simp only [wx_s, ci_0, ci_1, qf_126, qk_0, qn_11, qs_0, wp_0, wp_1, wx_aload_n, wx_getfield, wx_goto, wx_iconst, wx_if_eq, wx_if_ne, wx_iload_n, wx_ireturn, wx_putI, qx_3, qr_3, ws_0, ws_1, ws_2, wd_i, wd_r, wd_d, wf_0, wf_1, wf_2, wf_3, q_3_0, q_3_1, qb_1_15, q_3_4, q_3_5, q_3_8, qb_8_8, q_3_11, q_3_12, q_3_13, q_3_16, q_3_17, q_3_20, qb_20_7, q_3_23, q_3_24, qb_24_4, q_3_27, q_3_28, Bool.false_and, Bool.true_and, Bool.and_false, Bool.false_eq_true, if_false, if_true, ↓reduceIte, Nat.reduceAdd, Nat.reduceLT, Nat.reduceLeDiff, Nat.reduceBEq, Nat.reduceEqDiff, Fin.isValue, Nat.reduceMod, Nat.zero_mod, Fin.val_zero, Fin.val_one, true_and, and_true, Option.toList, List.nil_append, List.cons_append, List.getElem?_cons_zero, List.getElem?_cons_succ, List.take_succ_cons, List.take_zero, List.drop_succ_cons, List.drop_zero, List.reverse_cons, List.reverse_nil, List.map_cons, List.map_nil, List.sum_cons, List.sum_nil, List.length_cons, List.length_nil, true_or, or_true, false_or, or_false, Nat.zero_add, Nat.add_zero, reduceCtorEq, Nat.succ_eq_add_one, Nat.zero_le, Nat.le_refl, Nat.le_add_left, Nat.lt_add_one, beq_self_eq_true, Nat.zero_lt_succ, ne_eq, not_false_eq_true, not_true_eq_false, false_implies, forall_const, implies_true, true_implies, hr, hl0, hl1, hl2, u2_same]
  refine ⟨fun h1 => ⟨fun h2 => ?_, fun h2 => ?_⟩, fun h1 => ⟨fun h2 => ⟨fun h3 => ?_, fun h3 => ?_⟩, fun h2 => ⟨fun h3 => ?_, fun h3 => ?_⟩⟩⟩
  · have h := h _ (if_pos (Or.inl h1)).symm; rw [if_pos h2, u2_idem] at h; exact h
  · have h := h _ (if_pos (Or.inl h1)).symm; rw [if_neg h2, u2_idem] at h; exact h
  · have h := h _ (if_neg (fun z => z.elim h1 (fun q => q h2))).symm; rw [if_pos h3] at h; exact h
  · have h := h _ (if_neg (fun z => z.elim h1 (fun q => q h2))).symm; rw [if_neg h3] at h; exact h
  · exact absurd h3 h2
  · have h := h _ (if_pos (Or.inr h2)).symm; rw [if_neg h3, u2_idem] at h; exact h
set_option maxHeartbeats 2000000 in
theorem t_wrong {X : jX} (hX : j_LK (g_n X) (g_L X)) (hr : g_rs X = r_sh) {d : Nat} {sc : jSc} {rf : jRf} {ar : jSc} {al : jAl} {Post : jPo} {lv : jV} {x y : Int32} (h : Post none (if sc 0 f_fault = 0 then j_u2 (j_u2 sc 0 f_fault x) 0 f_faultAt y else sc) rf ar al) (hl0 : lv 0 = some (.ref 0)) (hl1 : lv 1 = some (.int x)) (hl2 : lv 2 = some (.int y)) : gW X 8 (d + 1) 0 lv [] sc rf ar al Post := by
  refine gW_all hX 40 ?_
  simp only [wx_s, qf_145, qf_148, qk_7, qk_8, qn_11, qs_0, wp_0, wp_1, wx_aload_n, wx_getfield, wx_if_ne, wx_iload_n, wx_putI, wx_return, qx_8, qr_8, ws_0, ws_1, ws_2, wd_i, wd_r, wd_d, wf_0, wf_1, wf_2, wf_3, q_8_0, q_8_1, q_8_4, qb_4_13, q_8_7, q_8_8, q_8_9, q_8_12, q_8_13, q_8_14, q_8_17, Bool.false_and, Bool.true_and, Bool.and_false, Bool.false_eq_true, if_false, if_true, ↓reduceIte, Nat.reduceAdd, Nat.reduceLT, Nat.reduceLeDiff, Nat.reduceBEq, Nat.reduceEqDiff, Fin.isValue, Nat.reduceMod, Nat.zero_mod, Fin.val_zero, Fin.val_one, true_and, and_true, Option.toList, List.nil_append, List.cons_append, List.getElem?_cons_zero, List.getElem?_cons_succ, List.take_succ_cons, List.take_zero, List.drop_succ_cons, List.drop_zero, List.reverse_cons, List.reverse_nil, List.map_cons, List.map_nil, List.sum_cons, List.sum_nil, List.length_cons, List.length_nil, true_or, or_true, false_or, or_false, Nat.zero_add, Nat.add_zero, reduceCtorEq, Nat.succ_eq_add_one, Nat.zero_le, Nat.le_refl, Nat.le_add_left, Nat.lt_add_one, beq_self_eq_true, Nat.zero_lt_succ, ne_eq, not_false_eq_true, not_true_eq_false, false_implies, forall_const, implies_true, true_implies, hr, hl0, hl1, hl2]
  refine ⟨fun h1 => ?_, fun h1 => ?_⟩
  · rw [if_pos h1] at h; exact h
  · rw [if_neg h1] at h; exact h
set_option maxHeartbeats 2000000 in
theorem t_fault {X : jX} (hX : j_LK (g_n X) (g_L X)) (hr : g_rs X = r_sh) {d : Nat} {sc : jSc} {rf : jRf} {ar : jSc} {al : jAl} {Post : jPo} {lv : jV} (h : Post (some (.int (sc 0 f_place))) (j_u2 sc 0 f_thrown 0) rf ar al) (hl0 : lv 0 = some (.ref 0)) : gW X 44 (d + 1) 0 lv [] sc rf ar al Post := by
  refine gW_all hX 40 ?_
  simp only [wx_s, ci_0, qf_11, qf_126, qk_0, qk_2, qn_11, qs_0, wp_0, wp_1, wx_aload_n, wx_getfield, wx_iconst, wx_ireturn, wx_putI, qx_44, qr_44, ws_0, ws_1, ws_2, wd_i, wd_r, wd_d, wf_0, wf_1, wf_2, wf_3, q_44_0, q_44_1, q_44_2, q_44_5, q_44_6, q_44_9, Bool.false_and, Bool.true_and, Bool.and_false, Bool.false_eq_true, if_false, if_true, ↓reduceIte, Nat.reduceAdd, Nat.reduceLT, Nat.reduceLeDiff, Nat.reduceBEq, Nat.reduceEqDiff, Fin.isValue, Nat.reduceMod, Nat.zero_mod, Fin.val_zero, Fin.val_one, true_and, and_true, Option.toList, List.nil_append, List.cons_append, List.getElem?_cons_zero, List.getElem?_cons_succ, List.take_succ_cons, List.take_zero, List.drop_succ_cons, List.drop_zero, List.reverse_cons, List.reverse_nil, List.map_cons, List.map_nil, List.sum_cons, List.sum_nil, List.length_cons, List.length_nil, true_or, or_true, false_or, or_false, Nat.zero_add, Nat.add_zero, reduceCtorEq, Nat.succ_eq_add_one, Nat.zero_le, Nat.le_refl, Nat.le_add_left, Nat.lt_add_one, beq_self_eq_true, Nat.zero_lt_succ, ne_eq, not_false_eq_true, not_true_eq_false, false_implies, forall_const, implies_true, true_implies, hr, hl0, u2_fld]
  exact h
set_option maxHeartbeats 2000000 in
theorem t_fails {X : jX} (hX : j_LK (g_n X) (g_L X)) (hr : g_rs X = r_sh) {d : Nat} {sc : jSc} {rf : jRf} {ar : jSc} {al : jAl} {Post : jPo} {lv : jV} (hrf : rf 0 = r_rf) (h : Post none (j_u2 sc 0 f_isEnded 1) rf (j_u2 ar a_page 37 1) al) (hl0 : lv 0 = some (.ref 0)) : gW X 33 (d + 1) 0 lv [] sc rf ar al Post := by
  refine gW_all hX 40 ?_
  simp only [wx_s, cb_37, ci_1, qa_21, qf_278, qf_42, qk_21, qk_24, qn_11, qs_0, qs_13, wp_0, wp_1, wx_aload_n, wx_bipush, wx_getfield, wx_iastore, wx_iconst, wx_putI, wx_return, qx_33, qr_33, ws_0, ws_1, ws_2, wd_i, wd_r, wd_d, wf_0, wf_1, wf_2, wf_3, q_33_0, q_33_1, q_33_4, q_33_6, q_33_7, q_33_8, q_33_9, q_33_10, q_33_13, Bool.false_and, Bool.true_and, Bool.and_false, Bool.false_eq_true, if_false, if_true, ↓reduceIte, Nat.reduceAdd, Nat.reduceLT, Nat.reduceLeDiff, Nat.reduceBEq, Nat.reduceEqDiff, Fin.isValue, Nat.reduceMod, Nat.zero_mod, Fin.val_zero, Fin.val_one, true_and, and_true, Option.toList, List.nil_append, List.cons_append, List.getElem?_cons_zero, List.getElem?_cons_succ, List.take_succ_cons, List.take_zero, List.drop_succ_cons, List.drop_zero, List.reverse_cons, List.reverse_nil, List.map_cons, List.map_nil, List.sum_cons, List.sum_nil, List.length_cons, List.length_nil, true_or, or_true, false_or, or_false, Nat.zero_add, Nat.add_zero, reduceCtorEq, Nat.succ_eq_add_one, Nat.zero_le, Nat.le_refl, Nat.le_add_left, Nat.lt_add_one, beq_self_eq_true, Nat.zero_lt_succ, ne_eq, not_false_eq_true, not_true_eq_false, false_implies, forall_const, implies_true, true_implies, hr, hl0, hrf]
  exact ⟨by decide, h⟩
set_option maxHeartbeats 2000000 in
theorem t_names {X : jX} (hX : j_LK (g_n X) (g_L X)) (hr : g_rs X = r_sh) {d : Nat} {sc : jSc} {rf : jRf} {ar : jSc} {al : jAl} {Post : jPo} {lv : jV} (hrf : rf 0 = r_rf) {l : Nat} {v : Int32} (hlt : l < 8) (h : Post none (j_u2 sc 0 f_writeBits (sc 0 f_writeBits ||| 1 <<< (nI l &&& 31))) rf (j_u2 ar a_page l v) al) (hl0 : lv 0 = some (.ref 0)) (hl1 : lv 1 = some (.int (nI l))) (hl2 : lv 2 = some (.int v)) : gW X 31 (d + 1) 0 lv [] sc rf ar al Post := by
  have e1 : (nI l).toNatClampNeg = l := nI_clamp (by omega)
  have e2 : ¬ (nI l < 0 ∨ 53 ≤ l) := fun z => nI_in (c := l) (N := 53) (by omega) (by decide) (by rw [e1]; exact z)
  refine gW_all hX 40 ?_
  simp only [wx_s, ci_1, qa_21, qf_275, qf_42, qk_21, qk_28, qn_11, qs_0, qs_13, wp_0, wp_1, wx_aload_n, wx_dup_int, wx_dup_ref, wx_getfield, wx_iastore, wx_iconst, wx_iload_n, wx_ior, wx_ishl, wx_putI, wx_return, qx_31, qr_31, ws_0, ws_1, ws_2, wd_i, wd_r, wd_d, wf_0, wf_1, wf_2, wf_3, q_31_0, q_31_1, q_31_4, q_31_5, q_31_6, q_31_7, q_31_8, q_31_9, q_31_12, q_31_13, q_31_14, q_31_15, q_31_16, q_31_19, Bool.false_and, Bool.true_and, Bool.and_false, Bool.false_eq_true, if_false, if_true, ↓reduceIte, Nat.reduceAdd, Nat.reduceLT, Nat.reduceLeDiff, Nat.reduceBEq, Nat.reduceEqDiff, Fin.isValue, Nat.reduceMod, Nat.zero_mod, Fin.val_zero, Fin.val_one, true_and, and_true, Option.toList, List.nil_append, List.cons_append, List.getElem?_cons_zero, List.getElem?_cons_succ, List.take_succ_cons, List.take_zero, List.drop_succ_cons, List.drop_zero, List.reverse_cons, List.reverse_nil, List.map_cons, List.map_nil, List.sum_cons, List.sum_nil, List.length_cons, List.length_nil, true_or, or_true, false_or, or_false, Nat.zero_add, Nat.add_zero, reduceCtorEq, Nat.succ_eq_add_one, Nat.zero_le, Nat.le_refl, Nat.le_add_left, Nat.lt_add_one, beq_self_eq_true, Nat.zero_lt_succ, ne_eq, not_false_eq_true, not_true_eq_false, false_implies, forall_const, implies_true, true_implies, hr, hl0, hl1, hl2, hrf, e1]
  exact ⟨e2, h⟩
set_option maxHeartbeats 2000000 in
theorem t_goesTo {X : jX} (hX : j_LK (g_n X) (g_L X)) (hr : g_rs X = r_sh) {d : Nat} {sc : jSc} {rf : jRf} {ar : jSc} {al : jAl} {Post : jPo} {lv : jV} (hrf : rf 0 = r_rf) {q : Nat} {w : Int32} (hq : sc 0 f_program = nI q) (hq2 : q < 2) (h : Post none (j_u2 (j_u2 (j_u2 (j_u2 (j_u2 (j_u2 sc 0 f_which (nI q)) 0 f_size (ar a_textSize q)) 0 f_at w) 0 f_open 0) 0 f_fault 0) 0 f_foundSteps 0) rf ar al) (hl0 : lv 0 = some (.ref 0)) (hl1 : lv 1 = some (.int w)) : gW X 45 (d + 1) 0 lv [] sc rf ar al Post := by
  have e1 : (nI q).toNatClampNeg = q := nI_clamp (by omega)
  have e2 : ¬ (nI q < 0 ∨ 2 ≤ q) := fun z => nI_in (c := q) (N := 2) (by omega) (by decide) (by rw [e1]; exact z)
  refine gW_all hX 60 ?_
  simp only [wx_s, ci_0, qa_12, qf_132, qf_135, qf_138, qf_145, qf_177, qf_241, qf_27, qf_316, qk_12, qk_16, qk_17, qk_3, qk_4, qk_5, qk_6, qk_7, qn_11, qs_0, qs_8, wp_0, wp_1, wx_aload_n, wx_getfield, wx_iaload, wx_iconst, wx_iload_n, wx_putI, wx_return, qx_45, qr_45, ws_0, ws_1, ws_2, wd_i, wd_r, wd_d, wf_0, wf_1, wf_2, wf_3, q_45_0, q_45_1, q_45_2, q_45_5, q_45_8, q_45_9, q_45_10, q_45_13, q_45_14, q_45_17, q_45_18, q_45_21, q_45_22, q_45_23, q_45_26, q_45_27, q_45_28, q_45_31, q_45_32, q_45_33, q_45_36, q_45_37, q_45_38, q_45_41, Bool.false_and, Bool.true_and, Bool.and_false, Bool.false_eq_true, if_false, if_true, ↓reduceIte, Nat.reduceAdd, Nat.reduceLT, Nat.reduceLeDiff, Nat.reduceBEq, Nat.reduceEqDiff, Fin.isValue, Nat.reduceMod, Nat.zero_mod, Fin.val_zero, Fin.val_one, true_and, and_true, Option.toList, List.nil_append, List.cons_append, List.getElem?_cons_zero, List.getElem?_cons_succ, List.take_succ_cons, List.take_zero, List.drop_succ_cons, List.drop_zero, List.reverse_cons, List.reverse_nil, List.map_cons, List.map_nil, List.sum_cons, List.sum_nil, List.length_cons, List.length_nil, true_or, or_true, false_or, or_false, Nat.zero_add, Nat.add_zero, reduceCtorEq, Nat.succ_eq_add_one, Nat.zero_le, Nat.le_refl, Nat.le_add_left, Nat.lt_add_one, beq_self_eq_true, Nat.zero_lt_succ, ne_eq, not_false_eq_true, not_true_eq_false, false_implies, forall_const, implies_true, true_implies, hr, hl0, hl1, hrf, e1, u2_fld, hq]
  exact ⟨e2, h⟩
theorem nl_i {n : Nat} : (Int32.ofNat n) = nI n := rfl
/-- the text that is read: size n, its bytes tx, -1 behind it -/
def m_TX (sc ar : jSc) (n : Nat) (tx : Nat → Int32) : Prop := n ≤ 600 ∧ sc 0 f_size = nI n ∧ (∀ p, n ≤ p → tx p = -1) ∧ ((sc 0 f_which = -1 ∧ ∀ p, p < n → tx p = ar a_fed p) ∨ ∃ q, q < 2 ∧ sc 0 f_which = nI q ∧ ∀ p, p < n → tx p = ar (b_text + q) p)
set_option maxHeartbeats 2000000 in
theorem t_byteAt {X : jX} (hX : j_LK (g_n X) (g_L X)) (hr : g_rs X = r_sh) {d : Nat} {sc : jSc} {rf : jRf} {ar : jSc} {al : jAl} {Post : jPo} {lv : jV} (hrf : rf 0 = r_rf) {k n : Nat} {tx : Nat → Int32} (hk : k < 2 ^ 30) (hT : m_TX sc ar n tx) (h : Post (some (.int (tx k))) sc rf ar al) (hl0 : lv 0 = some (.ref 0)) (hl1 : lv 1 = some (.int (nI k))) : gW X 6 (d + 1) 0 lv [] sc rf ar al Post := by
  obtain ⟨hn, hs, ho, hw⟩ := hT
  have e1 : (nI k).toNatClampNeg = k := nI_clamp (by omega)
  refine gW_all hX 60 ?_
  simp only [wx_s, ci_m1, qa_10, qa_9, qf_132, qf_135, qf_15, qf_21, qk_10, qk_3, qk_4, qk_9, qn_11, qo_2, qs_0, qs_1, qs_2, wx_aaload, wx_aload_n, wx_getfield, wx_goto, wx_iaload, wx_ic_lt, wx_ic_ne, wx_iconst, wx_iload_n, wx_ireturn, qx_6, qr_6, ws_0, ws_1, ws_2, wd_i, wd_r, wd_d, wf_0, wf_1, wf_2, wf_3, q_6_0, q_6_1, q_6_2, q_6_5, qb_5_7, q_6_8, q_6_9, qb_9_31, q_6_12, q_6_13, q_6_16, q_6_17, qb_17_12, q_6_20, q_6_21, q_6_24, q_6_25, q_6_26, qb_26_14, q_6_29, q_6_30, q_6_33, q_6_34, q_6_37, q_6_38, q_6_39, q_6_40, Bool.false_and, Bool.true_and, Bool.and_false, Bool.false_eq_true, if_false, if_true, ↓reduceIte, Nat.reduceAdd, Nat.reduceLT, Nat.reduceLeDiff, Nat.reduceBEq, Nat.reduceEqDiff, Fin.isValue, Nat.reduceMod, Nat.zero_mod, Fin.val_zero, Fin.val_one, true_and, and_true, Option.toList, List.nil_append, List.cons_append, List.getElem?_cons_zero, List.getElem?_cons_succ, List.take_succ_cons, List.take_zero, List.drop_succ_cons, List.drop_zero, List.reverse_cons, List.reverse_nil, List.map_cons, List.map_nil, List.sum_cons, List.sum_nil, List.length_cons, List.length_nil, true_or, or_true, false_or, or_false, Nat.zero_add, Nat.add_zero, reduceCtorEq, Nat.succ_eq_add_one, Nat.zero_le, Nat.le_refl, Nat.le_add_left, Nat.lt_add_one, beq_self_eq_true, Nat.zero_lt_succ, ne_eq, not_false_eq_true, not_true_eq_false, false_implies, forall_const, implies_true, true_implies, hr, hl0, hl1, hrf, e1, hs]
  refine ⟨fun h1 => ⟨fun h2 => ?_, fun h2 => ?_⟩, fun h1 => ?_⟩
  · have h3 : k < n := (nI_ltI (by omega) (by omega)).mp h1
    rcases hw with ⟨w1, w2⟩ | ⟨q, q1, q2, q3⟩
    · rw [w2 k h3] at h
      exact ⟨fun z => nI_in (c := k) (N := 600) (by omega) (by decide) (by rw [e1]; exact z), h⟩
    · exact absurd (q2.symm.trans h2) (by rcases (show q = 0 ∨ q = 1 by omega) with rfl | rfl <;> decide)
  · have h3 : k < n := (nI_ltI (by omega) (by omega)).mp h1
    rcases hw with ⟨w1, w2⟩ | ⟨q, q1, q2, q3⟩
    · exact absurd w1 h2
    · have e2 : (nI q).toNatClampNeg = q := nI_clamp (by omega)
      rw [q3 k h3] at h
      rw [q2, e2]
      refine ⟨fun z => nI_in (c := q) (N := 2) (by omega) (by decide) (by rw [e2]; exact z), ?_⟩
      simp only [wx_s, ci_m1, qa_10, qa_9, qf_132, qf_135, qf_15, qf_21, qk_10, qk_3, qk_4, qk_9, qn_11, qo_2, qs_0, qs_1, qs_2, wx_aaload, wx_aload_n, wx_getfield, wx_goto, wx_iaload, wx_ic_lt, wx_ic_ne, wx_iconst, wx_iload_n, wx_ireturn, qx_6, qr_6, ws_0, ws_1, ws_2, wd_i, wd_r, wd_d, wf_0, wf_1, wf_2, wf_3, q_6_0, q_6_1, q_6_2, q_6_5, qb_5_7, q_6_8, q_6_9, qb_9_31, q_6_12, q_6_13, q_6_16, q_6_17, qb_17_12, q_6_20, q_6_21, q_6_24, q_6_25, q_6_26, qb_26_14, q_6_29, q_6_30, q_6_33, q_6_34, q_6_37, q_6_38, q_6_39, q_6_40, Bool.false_and, Bool.true_and, Bool.and_false, Bool.false_eq_true, if_false, if_true, ↓reduceIte, Nat.reduceAdd, Nat.reduceLT, Nat.reduceLeDiff, Nat.reduceBEq, Nat.reduceEqDiff, Fin.isValue, Nat.reduceMod, Nat.zero_mod, Fin.val_zero, Fin.val_one, true_and, and_true, Option.toList, List.nil_append, List.cons_append, List.getElem?_cons_zero, List.getElem?_cons_succ, List.take_succ_cons, List.take_zero, List.drop_succ_cons, List.drop_zero, List.reverse_cons, List.reverse_nil, List.map_cons, List.map_nil, List.sum_cons, List.sum_nil, List.length_cons, List.length_nil, true_or, or_true, false_or, or_false, Nat.zero_add, Nat.add_zero, reduceCtorEq, Nat.succ_eq_add_one, Nat.zero_le, Nat.le_refl, Nat.le_add_left, Nat.lt_add_one, beq_self_eq_true, Nat.zero_lt_succ, ne_eq, not_false_eq_true, not_true_eq_false, false_implies, forall_const, implies_true, true_implies, hr, hl0, hl1, hrf, e1, hs, qo_2 q1, qs_text hr q1]
      exact ⟨fun z => nI_in (c := k) (N := 600) (by omega) (by decide) (by rw [e1]; exact z), h⟩
  · have h3 : n ≤ k := Nat.not_lt.mp fun z => h1 (nI_lt z (by omega))
    rw [ho k h3] at h; exact h
/-- row a of ar becomes g -/
theorem va_row {ar ar2 : jSc} {a : Nat} {g : Nat → Int32} (h : ∀ b j, ar2 b j = if b = a then g j else ar b j) : ar2 = va_up ar a g := by
  funext b j
  rw [h b j]
  by_cases e : b = a
  · rw [if_pos e, e, va_up_self]
  · rw [if_neg e, va_up_ne _ _ e]
set_option maxHeartbeats 2000000 in
theorem t_loads {X : jX} (hX : j_LK (g_n X) (g_L X)) (hr : g_rs X = r_sh) {d : Nat} {sc : jSc} {rf : jRf} {ar : jSc} {al : jAl} {Post : jPo} {lv : jV} (hrf : rf 0 = r_rf) {a n : Nat} (hn : n ≤ 53) (hsh : (g_L X).1 a = .inr (0, n)) (h : Post none sc rf (va_up ar a_page (fun j => if j < n then ar a j else ar a_page j)) al) (hl0 : lv 0 = some (.ref 0)) (hl1 : lv 1 = some (.ref a)) : gW X 55 (d + 1) 0 lv [] sc rf ar al Post := by
  have key : ∀ (k i : Nat) (lv : jV) (ar2 : jSc), i + k = n → lv 0 = some (.ref 0) → lv 1 = some (.ref a) → lv 2 = some (.int (nI i)) → (∀ b j, ar2 b j = if b = a_page then (if j < i then ar a j else ar a_page j) else ar b j) → gW X 55 (d + 1) 2 lv [] sc rf ar2 al Post := by
    intro k
    induction k with
    | zero =>
      intro i lv ar2 hi hlx0 hlx1 hlx2 har
      have e1 : (nI i).toNatClampNeg = i := nI_clamp (by omega)
      refine gW_cut hX (fun pc => pc == 2) 40 ?_
      simp only [wx_s, ci_0, ci_1, qa_21, qf_42, qk_21, qn_11, qs_0, qs_13, wx_aload_n, wx_arraylength, wx_getfield, wx_goto, wx_iaload, wx_iastore, wx_ic_ge, wx_iconst, wx_iinc, wx_iload_n, wx_istore_n, wx_return, qx_55, qr_55, ws_0, ws_1, ws_2, wd_i, wd_r, wd_d, wf_0, wf_1, wf_2, wf_3, q_55_0, q_55_1, q_55_2, q_55_3, q_55_4, q_55_5, qb_5_18, q_55_8, q_55_9, q_55_12, q_55_13, q_55_14, q_55_15, q_55_16, q_55_17, q_55_20, qb_20_m18, q_55_23, Bool.false_and, Bool.true_and, Bool.and_false, Bool.false_eq_true, if_false, if_true, ↓reduceIte, Nat.reduceAdd, Nat.reduceLT, Nat.reduceLeDiff, Nat.reduceBEq, Nat.reduceEqDiff, Fin.isValue, Nat.reduceMod, Nat.zero_mod, Fin.val_zero, Fin.val_one, true_and, and_true, Option.toList, List.nil_append, List.cons_append, List.getElem?_cons_zero, List.getElem?_cons_succ, List.take_succ_cons, List.take_zero, List.drop_succ_cons, List.drop_zero, List.reverse_cons, List.reverse_nil, List.map_cons, List.map_nil, List.sum_cons, List.sum_nil, List.length_cons, List.length_nil, true_or, or_true, false_or, or_false, Nat.zero_add, Nat.add_zero, reduceCtorEq, Nat.succ_eq_add_one, Nat.zero_le, Nat.le_refl, Nat.le_add_left, Nat.lt_add_one, beq_self_eq_true, Nat.zero_lt_succ, ne_eq, not_false_eq_true, not_true_eq_false, false_implies, forall_const, implies_true, true_implies, hr, hlx0, hlx1, hlx2, hrf, hsh, e1]
      refine ⟨fun _ => ?_, fun z => absurd (show Int32.ofNat n ≤ nI i from nI_le (by omega) (by omega)) z⟩
      rw [va_row har, show i = n by omega]; exact h
    | succ k ih =>
      intro i lv ar2 hi hlx0 hlx1 hlx2 har
      have e1 : (nI i).toNatClampNeg = i := nI_clamp (by omega)
      refine gW_cut hX (fun pc => pc == 2) 40 ?_
      simp only [wx_s, ci_0, ci_1, qa_21, qf_42, qk_21, qn_11, qs_0, qs_13, wx_aload_n, wx_arraylength, wx_getfield, wx_goto, wx_iaload, wx_iastore, wx_ic_ge, wx_iconst, wx_iinc, wx_iload_n, wx_istore_n, wx_return, qx_55, qr_55, ws_0, ws_1, ws_2, wd_i, wd_r, wd_d, wf_0, wf_1, wf_2, wf_3, q_55_0, q_55_1, q_55_2, q_55_3, q_55_4, q_55_5, qb_5_18, q_55_8, q_55_9, q_55_12, q_55_13, q_55_14, q_55_15, q_55_16, q_55_17, q_55_20, qb_20_m18, q_55_23, Bool.false_and, Bool.true_and, Bool.and_false, Bool.false_eq_true, if_false, if_true, ↓reduceIte, Nat.reduceAdd, Nat.reduceLT, Nat.reduceLeDiff, Nat.reduceBEq, Nat.reduceEqDiff, Fin.isValue, Nat.reduceMod, Nat.zero_mod, Fin.val_zero, Fin.val_one, true_and, and_true, Option.toList, List.nil_append, List.cons_append, List.getElem?_cons_zero, List.getElem?_cons_succ, List.take_succ_cons, List.take_zero, List.drop_succ_cons, List.drop_zero, List.reverse_cons, List.reverse_nil, List.map_cons, List.map_nil, List.sum_cons, List.sum_nil, List.length_cons, List.length_nil, true_or, or_true, false_or, or_false, Nat.zero_add, Nat.add_zero, reduceCtorEq, Nat.succ_eq_add_one, Nat.zero_le, Nat.le_refl, Nat.le_add_left, Nat.lt_add_one, beq_self_eq_true, Nat.zero_lt_succ, ne_eq, not_false_eq_true, not_true_eq_false, false_implies, forall_const, implies_true, true_implies, hr, hlx0, hlx1, hlx2, hrf, hsh, e1]
      refine ⟨fun z => absurd z (nI_ge (by omega) (by omega)), fun _ => ⟨fun z => nI_in (c := i) (N := n) (by omega) (by omega) (by rw [e1]; exact z), fun z => nI_in (c := i) (N := 53) (by omega) (by decide) (by rw [e1]; exact z), ?_⟩⟩
      refine ih (i + 1) _ _ (by omega) ?_ ?_ ?_ ?_
      · simp [j_st, hlx0]
      · simp [j_st, j_dl, hlx1, Value.category]
      · simp [j_st, nI_1]
      · intro b j
        by_cases e : b = a_page ∧ j = i
        · obtain ⟨rfl, rfl⟩ := e
          have e6 : j_u2 ar2 a_page j (ar2 a j) a_page j = ar2 a j := u2_same
          rw [e6, har a j, if_pos (rfl : a_page = a_page), if_pos (show j < j + 1 by omega)]
          by_cases e3 : a = a_page
          · rw [if_pos e3, if_neg (by omega), e3]
          · rw [if_neg e3]
        · have e2 : j_u2 ar2 a_page i (ar2 a i) b j = ar2 b j := if_neg e
          rw [e2, har]
          by_cases e3 : b = a_page
          · have e4 : ¬ j = i := fun z => e ⟨e3, z⟩
            simp only [e3, if_true]
            by_cases e5 : j < i
            · rw [if_pos e5, if_pos (by omega)]
            · rw [if_neg e5, if_neg (by omega)]
          · simp [e3]
  refine gW_cut hX (fun pc => pc == 2) 40 ?_
  simp only [wx_s, ci_0, ci_1, qa_21, qf_42, qk_21, qn_11, qs_0, qs_13, wx_aload_n, wx_arraylength, wx_getfield, wx_goto, wx_iaload, wx_iastore, wx_ic_ge, wx_iconst, wx_iinc, wx_iload_n, wx_istore_n, wx_return, qx_55, qr_55, ws_0, ws_1, ws_2, wd_i, wd_r, wd_d, wf_0, wf_1, wf_2, wf_3, q_55_0, q_55_1, q_55_2, q_55_3, q_55_4, q_55_5, qb_5_18, q_55_8, q_55_9, q_55_12, q_55_13, q_55_14, q_55_15, q_55_16, q_55_17, q_55_20, qb_20_m18, q_55_23, Bool.false_and, Bool.true_and, Bool.and_false, Bool.false_eq_true, if_false, if_true, ↓reduceIte, Nat.reduceAdd, Nat.reduceLT, Nat.reduceLeDiff, Nat.reduceBEq, Nat.reduceEqDiff, Fin.isValue, Nat.reduceMod, Nat.zero_mod, Fin.val_zero, Fin.val_one, true_and, and_true, Option.toList, List.nil_append, List.cons_append, List.getElem?_cons_zero, List.getElem?_cons_succ, List.take_succ_cons, List.take_zero, List.drop_succ_cons, List.drop_zero, List.reverse_cons, List.reverse_nil, List.map_cons, List.map_nil, List.sum_cons, List.sum_nil, List.length_cons, List.length_nil, true_or, or_true, false_or, or_false, Nat.zero_add, Nat.add_zero, reduceCtorEq, Nat.succ_eq_add_one, Nat.zero_le, Nat.le_refl, Nat.le_add_left, Nat.lt_add_one, beq_self_eq_true, Nat.zero_lt_succ, ne_eq, not_false_eq_true, not_true_eq_false, false_implies, forall_const, implies_true, true_implies, hr, hl0, hl1, hrf]
  exact key n 0 _ ar (by omega) (by simp [j_st, hl0]) (by simp [j_st, j_dl, hl1, Value.category]) (by simp [j_st]; rfl) (fun b j => by by_cases e : b = a_page <;> simp [e])
