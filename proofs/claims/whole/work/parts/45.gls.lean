/-! RULES for the literals: ldc of a literal, String.length, String.charAt. -/
section GLT
variable {X : jX} {mid d pc pc' : Nat} {vs : List (Option Value)} {r : List Value} {sc : jSc} {rf : jRf} {ar : jSc} {al : jAl} {Post : jPo}
theorem gW_sj {lv lv' : jV} {st st' : List Value} {i : Instr} (hi : g_co X mid pc = some i) (h1 : j_ret (g_rt X mid) i st = none) (h2 : j_inv i = none) (hs : j_step (g_n X) (g_mx X mid) (g_fl X mid) (g_cn X mid) (g_nt X mid) i pc lv st (j_lay (g_L X) sc rf ar al) = some (pc', lv', st', j_lay (g_L X) sc rf ar al)) (h : gW X mid d pc' lv' st' sc rf ar al Post) : gW X mid d pc lv st sc rf ar al Post := by
  obtain ⟨N, v, sc1, rf1, ar1, al1, h3, h4⟩ := h
  refine ⟨N + 1, v, sc1, rf1, ar1, al1, ?_, h4⟩
  rw [j_run]
  simp only [hi, h1, h2, hs]
  exact h3
theorem gW_sk {lv lv' : jV} {st st' : List Value} {i : Instr} {x kd : Nat} (hi : g_co X mid pc = some i) (h1 : j_ret (g_rt X mid) i st = none) (h2 : j_inv i = some (kd, x)) (hm : g_ml X mid x = none) (hs : j_step (g_n X) (g_mx X mid) (g_fl X mid) (g_cn X mid) (g_nt X mid) i pc lv st (j_lay (g_L X) sc rf ar al) = some (pc', lv', st', j_lay (g_L X) sc rf ar al)) (h : gW X mid (d + 1) pc' lv' st' sc rf ar al Post) : gW X mid (d + 1) pc lv st sc rf ar al Post := by
  obtain ⟨N, v, sc1, rf1, ar1, al1, h3, h4⟩ := h
  refine ⟨N + 1, v, sc1, rf1, ar1, al1, ?_, h4⟩
  rw [j_run]
  simp only [hi, h1, h2, hm, hs]
  rw [if_pos (by omega)]
  exact h3
theorem gl_ldcS {x i : Nat} (_ : j_LK (g_n X) (g_L X)) (hi : g_co X mid pc = some (.ldc x)) (hc : g_cn X mid x = none) (hn : g_nt X mid x = 10 + i) (hl : i < 23) (hp : pc + 2 = pc') (h : gL X mid d pc' vs (.ref (900 + i) :: r) sc rf ar al Post) : gL X mid d pc vs r sc rf ar al Post := by
  subst hp
  intro lv hv
  refine gW_sj hi rfl rfl ?_ (h lv hv)
  simp only [j_step, hc, hn]
  rw [if_pos ⟨by omega, by omega⟩, show 890 + (10 + i) = 900 + i by omega]
theorem gl_slen {x i : Nat} (_ : j_LK (g_n X) (g_L X)) (hi : g_co X mid pc = some (.invokevirtual x)) (hm : g_ml X mid x = none) (hn : g_nt X mid x = 4) (hl : i < 23) (hz : Nat.ble (r.map fun v => v.category).sum 8 = true) (hp : pc + 3 = pc') (h : gL X mid (d + 1) pc' vs (.int (x_sl i) :: r) sc rf ar al Post) : gL X mid (d + 1) pc vs (.ref (900 + i) :: r) sc rf ar al Post := by
  subst hp
  intro lv hv
  refine gW_sk hi rfl rfl hm ?_ (h lv hv)
  simp only [j_step, hn]
  rw [if_pos trivial, if_pos ⟨⟨Nat.le_add_right 900 i, Nat.add_lt_add_left hl 900⟩, Nat.le_of_ble_eq_true hz⟩]
  exact congrArg (fun q => some (pc + 3, lv, Value.int (x_sl q) :: r, j_lay (g_L X) sc rf ar al)) (Nat.add_sub_cancel_left (n := 900) (m := i))
theorem gl_schar {x i : Nat} {k : Int32} (_ : j_LK (g_n X) (g_L X)) (hi : g_co X mid pc = some (.invokevirtual x)) (hm : g_ml X mid x = none) (hn : g_nt X mid x = 5) (hl : i < 23) (hk : iB k (x_sn i)) (hz : Nat.ble (r.map fun v => v.category).sum 8 = true) (hp : pc + 3 = pc') (h : gL X mid (d + 1) pc' vs (.int (x_sc i (iN k)) :: r) sc rf ar al Post) : gL X mid (d + 1) pc vs (.int k :: .ref (900 + i) :: r) sc rf ar al Post := by
  subst hp
  intro lv hv
  refine gW_sk hi rfl rfl hm ?_ (h lv hv)
  have e : 900 + i - 900 = i := Nat.add_sub_cancel_left (n := 900) (m := i)
  simp only [j_step, hn, e]
  rw [if_neg (by decide), if_pos trivial, if_pos ⟨⟨Nat.le_add_right 900 i, Nat.add_lt_add_left hl 900⟩, hk, Nat.le_of_ble_eq_true hz⟩]
end GLT
