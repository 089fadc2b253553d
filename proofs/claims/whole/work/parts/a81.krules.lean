/-! RULES for the law's cases. -/
def kJ (rf0 : jRf) (sc : jSc) (rf : jRf) (ar : jSc) (al : jAl) : Prop := ∃ (S : Nat → Int32) (arv scv carv : jSc) (mr : Nat → Nat), GR S arv scv carv mr al ∧ sc = kSc S scv ∧ rf = x_mk mr rf0 ∧ ar = kAr arv carv
theorem GR_al {S : Nat → Int32} {ar sc car : jSc} {mr : Nat → Nat} {al al2 : jAl} (h : GR S ar sc car mr al) (e : al2 768 = al 768) : GR S ar sc car mr al2 := by
  obtain ⟨S0, ar0, n, tx, g, p, m, s, nr, cs, hx⟩ := h
  exact GX_R (GX_f hx fR9_rf ⟨⟨fun _ _ _ _ _ _ => rfl, fun _ _ _ _ _ _ _ _ => rfl, fun _ _ => rfl, GX_5 hx, e⟩, rfl, rfl, fun _ _ => rfl⟩)
theorem k_o1 {al : jAl} {w : Int64} : j_u2 al 823 (iN 0) w 823 (iN 0) = w := by
  unfold j_u2
  simp
theorem k_o2 {al : jAl} {w : Int64} : j_u2 al 823 (iN 0) w 768 = al 768 := by
  funext k
  unfold j_u2
  simp
theorem kL_0 : kL.1 0 = .inl 11 := (kL_r (by decide)).trans rfl
def kLt (G : kG) : Prop := match G with
  | (p, l, e, R, s, m, args, below, meth, c, Q, D, pg, ad, cy, A) => l.stackTraces = false
def kPr (G : kG) (L : Nat) (xs : Nat → Int32) : Prop := kC G kc_law "ClickOrdersLaw" code 7 ∧ kS G L xs ∧ kM G ∧ kLt G
section KRU
variable {G : kG} {co : Nat → Option Instr} {own : String} {cc : ByteArray} {mx k n pc pc' : Nat} {vs ws : List (Option Value)} {r : List Value} {sc : jSc} {rf : jRf} {ar : jSc} {al : jAl}
theorem kMl_of {y : MethodName} {cb : ByteArray} {mxL : Nat} {hh : List (Nat × Nat × Nat × Nat)} {d : Nat} {as : List Value} {f : jM} {v : Int32} {f' : jM} (hl : kLt G) (h : ∀ l : Launch, l.stackTraces = false → kHm l y cb mxL hh d as f v f') : kMl G y cb mxL hh d as f v f' := by
  obtain ⟨p, l, e, R, s, m, args, below, meth, c, Q, D, pg, ad, cy, A⟩ := G
  exact h l hl
theorem kRm_le {d d' k' n' : Nat} (h : kRm G d k n) (h1 : d' ≤ d) (h2 : k' ≤ k) (h3 : n' ≤ n) : kRm G d' k' n' := by
  obtain ⟨p, l, e, R, s, m, args, below, meth, c, Q, D, pg, ad, cy, A⟩ := G
  obtain ⟨a, b, e1, e2⟩ := h
  exact ⟨by omega, by omega, by omega, by omega⟩
theorem kW_weak (hl : l_le vs ws) (h : kW G k n pc vs r sc rf ar al) : kW G k n pc ws r sc rf ar al := fun lv hv => h lv (fun k v hk => hv k v (l_le_ok vs ws hl k v hk))
theorem kl_arg {L : Nat} {xs : Nat → Int32} {i : Nat} (j : Nat) {nn : Int} (hC : kC G co own cc mx) (hS9 : kS G L xs) (h1 : co pc = some (.aload_n 0)) (h2 : co (pc + 1) = some (.iload 4)) (h3 : co (pc + 3) = some (.iconst nn)) (h4 : co (pc + 4) = some .iadd) (h5 : co (pc + 5) = some .iaload) (hv : Int32.ofInt nn = nI j) (l0 : l_at vs 0 = some (.ref 999)) (l4 : l_at vs 4 = some (.int (nI i))) (hj : Nat.ble j 5 = true) (hi : i + 6 ≤ L) (hL : L ≤ 3072) (hp : pc + 6 = pc') (h : kW G k n pc' vs (.int (xs (i + j)) :: r) sc rf ar al) : kW G k n pc vs r sc rf ar al := by
  subst hp
  have hj := Nat.le_of_ble_eq_true hj
  refine kl_aload_n hC h1 l0 rfl ?_
  refine kl_iload hC h2 l4 rfl ?_
  refine kl_iconst hC h3 hv rfl ?_
  refine kl_iadd hC h4 rfl ?_
  have e : nI i + nI j = nI (i + j) := (Int32.ofNat_add i j).symm
  rw [e]
  have e2 : iN (nI (i + j)) = i + j := iN_nI (by omega)
  refine kl_sld hC hS9 h5 ?_ rfl ?_
  · intro z
    rcases z with z | z
    · exact absurd z (nI_pos (by omega))
    · have z2 : L ≤ iN (nI (i + j)) := z
      rw [e2] at z2
      omega
  · rw [e2]
    exact h
/-- x != 0 as a boolean -/
theorem kl_nz {x : Int32} (hC : kC G co own cc mx) (h1 : co pc = some (.ifCond .eq 7)) (b1 : j_br pc 7 = some (pc + 7)) (h2 : co (pc + 3) = some (.iconst 1)) (h3 : co (pc + 4) = some (.goto 4)) (b3 : j_br (pc + 4) 4 = some (pc + 8)) (h4 : co (pc + 7) = some (.iconst 0)) (hp : pc + 8 = pc') (h : kW G k n pc' vs (.int (if x = 0 then 0 else 1) :: r) sc rf ar al) : kW G k n pc vs (.int x :: r) sc rf ar al := by
  subst hp
  refine kl_if_eq hC h1 b1 rfl (fun c => ?_) (fun c => ?_)
  · rw [if_pos c] at h
    exact kl_iconst hC h4 ci_0 rfl h
  · rw [if_neg c] at h
    refine kl_iconst hC h2 ci_1 rfl ?_
    exact kl_goto hC h3 b3 h
end KRU
