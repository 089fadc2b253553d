/-! THE REFERENCE: signs, numbers, letters. -/
/-- a fault, if there was none -/
def sW (S : Nat → Int32) (w p : Nat) : Nat → Int32 := if S 7 = 0 then upd (upd S 7 (nI w)) 8 (nI p) else S
theorem r_wrong {S : Nat → Int32} {ar : jSc} {w p : Nat} : rF_8 (nI w) (nI p) S ar = some (sW S w p, ar) := by
  unfold rF_8 sW
  split <;> rfl
theorem sW_0 {S : Nat → Int32} {w p : Nat} (h : S 7 = 0) : sW S w p = upd (upd S 7 (nI w)) 8 (nI p) := if_pos h
theorem sW_1 {S : Nat → Int32} {w p : Nat} (h : ¬ S 7 = 0) : sW S w p = S := if_neg h
theorem sW_k {S : Nat → Int32} {w p k : Nat} (h7 : (k == 7) = false) (h8 : (k == 8) = false) : sW S w p k = S k := by
  unfold sW
  split
  · rw [up_1 h8, up_1 h7]
  · rfl
theorem r_sign {ar : jSc} {n q : Nat} {tx : Nat → Int32} {S : Nat → Int32} (hT : r_TX S ar n tx) (hq : q < 2 ^ 27) (c : Int32) : rF_15 c (sA S q) ar = some (if tx (x_nb tx q) = c then sA S (x_nb tx q + 1) else sW (sA S (x_nb tx q)) 1 (x_nb tx q), ar) := by
  obtain ⟨b1, b2, -, -⟩ := x_nb_ok hT.1 q
  have hn := hT.1.1
  unfold rF_15
  rw [r_blanks hT (by omega), ob2, sA_5, r_byteAt (r_TX_A hT) (by omega), ob3]
  by_cases h : tx (x_nb tx q) = c
  · rw [if_pos h, if_pos h, sA_5, sA_1]
  · rw [if_neg h, if_neg h, sA_5, show (1 : Int32) = nI 1 from rfl, r_wrong, ob2]
/-- the number of the first m digits at q -/
def x_dN (tx : Nat → Int32) (q : Nat) : Nat → Nat
  | 0 => 0
  | m + 1 => 10 * x_dN tx q m + (iN (tx (q + m)) - 48)
/-- the number at q -/
def x_nu (tx : Nat → Int32) (q : Nat) : Nat := x_dN tx q (x_de tx q - q)
theorem r_num_go {ar : jSc} {n q r most : Nat} {b : Int32} {tx : Nat → Int32} {S : Nat → Int32} (hT : r_TX S ar n tx) (hm : most ≤ 100000) (hr : q + r < 2 ^ 29) (h3 : ¬ x_dg (tx (q + r))) (h4 : ∀ j, q ≤ j → j < q + r → x_dg (tx j)) : ∀ (m k nn : Nat), k + m = r → m < nn → rF_16_34 nn (nI most) b (nI (min 100000 (x_dN tx q k))) (sA S (q + k)) ar = (if min 100000 (x_dN tx q r) ≤ most then some (nI (min 100000 (x_dN tx q r)), sA S (q + r), ar) else (o_b2 (rF_8 2 b (sA S (q + r)) ar) (fun Se5 are5 => some (nI (min 100000 (x_dN tx q r)), Se5, are5)))) := by
  intro m
  induction m with
  | zero =>
    intro k nn h1 h2
    obtain ⟨j, rfl⟩ : ∃ j, nn = j + 1 := ⟨nn - 1, by omega⟩
    have e : k = r := by omega
    subst e
    unfold rF_16_34
    rw [sA_5, r_byteAt (r_TX_A hT) (by omega), ob3, r_isDigit, ob3, if_neg h3, if_pos rfl]
    have e6 : nI (min 100000 (x_dN tx q k)) ≤ nI most ↔ min 100000 (x_dN tx q k) ≤ most := nI_leI (by omega) (by omega)
    by_cases h6 : min 100000 (x_dN tx q k) ≤ most
    · rw [if_pos (e6.mpr h6), if_pos h6]
    · rw [if_neg (fun z => h6 (e6.mp z)), if_neg h6]
  | succ m ih =>
    intro k nn h1 h2
    obtain ⟨j, rfl⟩ : ∃ j, nn = j + 1 := ⟨nn - 1, by omega⟩
    unfold rF_16_34
    rw [sA_5, r_byteAt (r_TX_A hT) (by omega), ob3, r_isDigit, ob3, if_pos (h4 (q + k) (by omega) (by omega)), if_neg (by decide), sA_5, r_byteAt (r_TX_A hT) (by omega), ob3]
    obtain ⟨v, v1, v2, v3⟩ := of_dg (h4 (q + k) (by omega) (by omega))
    have e : (10 : Int32) * nI (min 100000 (x_dN tx q k)) + tx (q + k) - 48 = nI (10 * min 100000 (x_dN tx q k) + (v - 48)) := by
      rw [v3, show (10 : Int32) = nI 10 from rfl, show (48 : Int32) = nI 48 from rfl, nI_mul, nI_add, nI_sub (by omega)]
      congr 1
      omega
    have e2 : x_dN tx q (k + 1) = 10 * x_dN tx q k + (v - 48) := by
      show 10 * x_dN tx q k + (iN (tx (q + k)) - 48) = _
      rw [v3, iN_nI (by omega)]
    have := ih (k + 1) j (by omega) (by omega)
    rw [e2] at this
    rw [e, sA_5, sA_1]
    have e6 : nI (10 * min 100000 (x_dN tx q k) + (v - 48)) ≤ (100000 : Int32) ↔ 10 * min 100000 (x_dN tx q k) + (v - 48) ≤ 100000 := nI_leI (by omega) (by decide)
    by_cases h6 : 10 * min 100000 (x_dN tx q k) + (v - 48) ≤ 100000
    · rw [if_pos (e6.mpr h6), show 10 * min 100000 (x_dN tx q k) + (v - 48) = min 100000 (10 * x_dN tx q k + (v - 48)) by omega]
      exact this
    · rw [if_neg (fun z => h6 (e6.mp z)), show (100000 : Int32) = nI (min 100000 (10 * x_dN tx q k + (v - 48))) by rw [show min 100000 (10 * x_dN tx q k + (v - 48)) = 100000 by omega]; rfl]
      exact this
theorem r_digits {ar : jSc} {n q most : Nat} {tx : Nat → Int32} {S : Nat → Int32} (hT : r_TX S ar n tx) (hq : q < 2 ^ 27) (hm : most ≤ 100000) : rF_16 (nI most) (sA S q) ar = some (if x_dg (tx (x_nb tx q)) then nI (min 100000 (x_nu tx (x_nb tx q))) else 0, if x_dg (tx (x_nb tx q)) then (if min 100000 (x_nu tx (x_nb tx q)) ≤ most then sA S (x_de tx (x_nb tx q)) else sW (sA S (x_de tx (x_nb tx q))) 2 (x_nb tx q)) else sW (sA S (x_nb tx q)) 1 (x_nb tx q), ar) := by
  obtain ⟨b1, b2, -, -⟩ := x_nb_ok hT.1 q
  obtain ⟨a1, a2, a3, a4⟩ := x_de_ok hT.1 (x_nb tx q)
  have hn := hT.1.1
  unfold rF_16
  rw [r_blanks hT (by omega), ob2, sA_5, r_byteAt (r_TX_A hT) (by omega), ob3, r_isDigit, ob3]
  have ed : x_nb tx q + (x_de tx (x_nb tx q) - x_nb tx q) = x_de tx (x_nb tx q) := by omega
  by_cases hd : x_dg (tx (x_nb tx q))
  · rw [if_pos hd, if_pos hd, if_pos hd, if_neg (by decide)]
    have go := r_num_go hT (q := x_nb tx q) (r := x_de tx (x_nb tx q) - x_nb tx q) (b := nI (x_nb tx q)) hm (by omega) (by rw [ed]; exact a4) (fun j a b => a3 j a (by omega)) (x_de tx (x_nb tx q) - x_nb tx q) 0 oF (by omega) (by rw [oF_s]; omega)
    rw [ed] at go
    refine go.trans ?_
    show (if min 100000 (x_nu tx (x_nb tx q)) ≤ most then _ else _) = _
    by_cases h6 : min 100000 (x_nu tx (x_nb tx q)) ≤ most
    · rw [if_pos h6, if_pos h6]; rfl
    · rw [if_neg h6, if_neg h6, show (2 : Int32) = nI 2 from rfl, r_wrong, ob2]; rfl
  · rw [if_neg hd, if_neg hd, if_neg hd, if_pos rfl, sA_5, show (1 : Int32) = nI 1 from rfl, r_wrong, ob2]
    have e7 : ∀ p, sW (sA S p) 1 (x_nb tx q) = sA (sW (sA S p) 1 (x_nb tx q)) p := fun p => (sA_i (by rw [sW_k rfl rfl]; exact sA_5)).symm
    have hT2 : r_TX (sW (sA S (x_nb tx q)) 1 (x_nb tx q)) ar n tx := r_TX_S hT (by rw [sW_k rfl rfl]; rfl) (by rw [sW_k rfl rfl]; rfl)
    have go := r_num_go hT2 (q := x_nb tx q) (r := 0) (b := nI (x_nb tx q)) (most := most) hm (by omega) (by exact hd) (fun j a b => absurd a (by omega)) 0 0 oF (by omega) (by rw [oF_s]; omega)
    have e0 : x_nb tx q + 0 = x_nb tx q := rfl
    rw [e0, ← e7] at go
    refine go.trans ?_
    rw [if_pos (show min 100000 (x_dN tx (x_nb tx q) 0) ≤ most from by show min 100000 0 ≤ most; omega)]
    rfl
theorem x_de_1 {n q : Nat} {tx : Nat → Int32} (hT : x_tx n tx) (h : x_dg (tx q)) : (x_de tx q = q + 1 ↔ ¬ x_dg (tx (q + 1))) ∧ q + 1 ≤ x_de tx q := by
  obtain ⟨a1, a2, a3, a4⟩ := x_de_ok hT q
  have h1 : q + 1 ≤ x_de tx q := Nat.not_lt.mp fun z => a4 (by rw [show x_de tx q = q by omega]; exact h)
  refine ⟨⟨fun e => e ▸ a4, fun z => ?_⟩, h1⟩
  refine Nat.le_antisymm (Nat.not_lt.mp fun y => z (a3 (q + 1) (by omega) y)) h1
/-- one digit d at q and no more -/
def x_d1 (tx : Nat → Int32) (q d : Nat) : Prop := x_dg (tx q) ∧ ¬ x_dg (tx (q + 1)) ∧ tx q = nI (48 + d)
theorem r_digit_no {ar : jSc} {n q most : Nat} {tx : Nat → Int32} {S : Nat → Int32} (hT : r_TX S ar n tx) (hq : q < 2 ^ 26) (h0 : S 7 = 0) (hd : ¬ x_dg (tx (x_nb tx q))) : rF_17 (nI most) (sA S q) ar = some (0, sW (sA S (x_nb tx q)) 1 (x_nb tx q), ar) := by
  obtain ⟨b1, b2, -, -⟩ := x_nb_ok hT.1 q
  have hn := hT.1.1
  unfold rF_17
  rw [r_blanks hT (by omega), ob2, show (100000 : Int32) = nI 100000 from rfl, r_digits hT (by omega) (by omega), x_nb_idem hT.1, if_neg hd, if_neg hd, ob3]
  have e5 : sW (sA S (x_nb tx q)) 1 (x_nb tx q) 5 = nI (x_nb tx q) := by rw [sW_k rfl rfl]; exact sA_5
  have e7 : ¬ sW (sA S (x_nb tx q)) 1 (x_nb tx q) 7 = 0 := by
    rw [sW_0 (show sA S (x_nb tx q) 7 = 0 from h0)]
    show ¬ nI 1 = 0
    decide
  rw [e5, sA_5, if_neg (by rw [nI_1]; exact nI_nlt (by omega) (by omega))]
  by_cases hz : (0 : Int32) ≤ nI most
  · rw [if_pos hz, if_neg e7]
  · rw [if_neg hz, show (2 : Int32) = nI 2 from rfl, r_wrong, ob2, sW_1 e7, if_neg e7]
theorem r_digit_ok {ar : jSc} {n q most d : Nat} {tx : Nat → Int32} {S : Nat → Int32} (hT : r_TX S ar n tx) (hq : q < 2 ^ 26) (h0 : S 7 = 0) (hd : x_d1 tx (x_nb tx q) d) (hm : d ≤ most) (hm2 : most ≤ 9) : rF_17 (nI most) (sA S q) ar = some (nI d, sA S (x_nb tx q + 1), ar) := by
  obtain ⟨b1, b2, -, -⟩ := x_nb_ok hT.1 q
  obtain ⟨d1, d2, d3⟩ := hd
  have hn := hT.1.1
  have e1 := (x_de_1 hT.1 d1).1.mpr d2
  have ev : x_nu tx (x_nb tx q) = d := by
    unfold x_nu
    rw [e1, show x_nb tx q + 1 - x_nb tx q = 1 by omega]
    show 10 * 0 + (iN (tx (x_nb tx q + 0)) - 48) = d
    rw [Nat.add_zero, d3, iN_nI (by omega)]
    omega
  unfold rF_17
  rw [r_blanks hT (by omega), ob2, show (100000 : Int32) = nI 100000 from rfl, r_digits hT (by omega) (by omega), x_nb_idem hT.1, if_pos d1, if_pos d1, ev, if_pos (by omega), e1, ob3, sA_5, sA_5, if_neg (by rw [nI_1]; exact nI_nlt (by omega) (by omega)), show min 100000 d = d by omega, if_pos (nI_le hm (by omega)), if_pos (show sA S (x_nb tx q + 1) 7 = 0 from h0)]
theorem r_digit_big {ar : jSc} {n q most : Nat} {tx : Nat → Int32} {S : Nat → Int32} (hT : r_TX S ar n tx) (hq : q < 2 ^ 26) (h0 : S 7 = 0) (hd : x_dg (tx (x_nb tx q))) (hb : ∀ d, x_d1 tx (x_nb tx q) d → ¬ d ≤ most) (hm2 : most ≤ 9) : rF_17 (nI most) (sA S q) ar = some (0, sW (sA S (x_de tx (x_nb tx q))) 2 (x_nb tx q), ar) := by
  obtain ⟨b1, b2, -, -⟩ := x_nb_ok hT.1 q
  obtain ⟨a1, a2, a3, a4⟩ := x_de_ok hT.1 (x_nb tx q)
  have hn := hT.1.1
  have e7 : ¬ sW (sA S (x_de tx (x_nb tx q))) 2 (x_nb tx q) 7 = 0 := by
    rw [sW_0 (show sA S (x_de tx (x_nb tx q)) 7 = 0 from h0)]
    show ¬ nI 2 = 0
    decide
  unfold rF_17
  rw [r_blanks hT (by omega), ob2, show (100000 : Int32) = nI 100000 from rfl, r_digits hT (by omega) (by omega), x_nb_idem hT.1, if_pos hd, if_pos hd, if_pos (show min 100000 (x_nu tx (x_nb tx q)) ≤ 100000 by omega), ob3, sA_5, sA_5]
  by_cases h1 : nI (x_nb tx q) + 1 < nI (x_de tx (x_nb tx q))
  · rw [if_pos h1, show (2 : Int32) = nI 2 from rfl, r_wrong, ob2, if_neg e7]
  · have h2 : ¬ x_nb tx q + 1 < x_de tx (x_nb tx q) := fun z => h1 (by rw [nI_1]; exact nI_lt z (by omega))
    obtain ⟨c1, c2⟩ := x_de_1 hT.1 hd
    have d2 := c1.mp (by omega)
    obtain ⟨v, v1, v2, v3⟩ := of_dg hd
    have hx := hb (v - 48) ⟨hd, d2, by rw [v3]; congr 1; omega⟩
    have ev : x_nu tx (x_nb tx q) = v - 48 := by
      unfold x_nu
      rw [show x_de tx (x_nb tx q) - x_nb tx q = 1 by omega]
      show 10 * 0 + (iN (tx (x_nb tx q + 0)) - 48) = v - 48
      rw [Nat.add_zero, v3, iN_nI (by omega)]
      omega
    rw [if_neg h1, ev, if_neg (fun z => hx ((nI_leI (by omega) (by omega)).mp (by rw [show min 100000 (v - 48) = v - 48 by omega] at z; exact z))), show (2 : Int32) = nI 2 from rfl, r_wrong, ob2, if_neg e7]
/-- the letter of a name at q -/
def x_le (tx : Nat → Int32) (q : Nat) : Option Nat := if (97 ≤ tx q ∧ tx q ≤ 104) ∧ ¬ x_sm (tx (q + 1)) then some (iN (tx q) - 97) else none
theorem x_le_ok {tx : Nat → Int32} {q l : Nat} (h : x_le tx q = some l) : l < 8 ∧ tx q = nI (97 + l) ∧ ¬ x_sm (tx (q + 1)) := by
  unfold x_le at h
  split at h
  · rename_i hc
    obtain ⟨k, h1, h2, h3⟩ := of_sm (v := tx q) ⟨hc.1.1, Int32.le_trans hc.1.2 (by decide)⟩
    cases h
    have h4 : k ≤ 104 := (nI_leI (by omega) (by decide)).mp (show nI k ≤ nI 104 from h3 ▸ hc.1.2)
    rw [h3, iN_nI (by omega)]
    exact ⟨by omega, by congr 1; omega, hc.2⟩
  · cases h
theorem r_letter {ar : jSc} {n q : Nat} {tx : Nat → Int32} {S : Nat → Int32} (hT : r_TX S ar n tx) (hq : q < 2 ^ 27) : rF_19 (sA S q) ar = some ((match x_le tx (x_nb tx q) with | some l => nI l | none => -1), sA S (x_nb tx q), ar) := by
  obtain ⟨b1, b2, -, -⟩ := x_nb_ok hT.1 q
  have hn := hT.1.1
  unfold rF_19
  rw [r_blanks hT (by omega), ob2, sA_5, r_byteAt (r_TX_A hT) (by omega), ob3]
  by_cases h1 : tx (x_nb tx q) < 97
  · rw [if_pos h1, show x_le tx (x_nb tx q) = none from if_neg (fun z => Int32.not_lt.mpr z.1.1 h1)]
  · by_cases h2 : 104 < tx (x_nb tx q)
    · rw [if_neg h1, if_pos h2, show x_le tx (x_nb tx q) = none from if_neg (fun z => Int32.not_lt.mpr z.1.2 h2)]
    · rw [if_neg h1, if_neg h2, sA_5, nI_1, r_byteAt (r_TX_A hT) (by omega), ob3, r_isSmall, ob3]
      by_cases h3 : x_sm (tx (x_nb tx q + 1))
      · rw [if_pos h3, if_neg (by decide), show x_le tx (x_nb tx q) = none from if_neg (fun z => z.2 h3)]
      · rw [if_neg h3, if_pos rfl]
        have hl : x_le tx (x_nb tx q) = some (iN (tx (x_nb tx q)) - 97) := if_pos ⟨⟨Int32.not_lt.mp h1, Int32.not_lt.mp h2⟩, h3⟩
        rw [hl]
        obtain ⟨l1, l2, l3⟩ := x_le_ok hl
        show some (tx (x_nb tx q) - 97, _, _) = some (nI (iN (tx (x_nb tx q)) - 97), _, _)
        rw [l2, show (97 : Int32) = nI 97 from rfl, nI_sub (by omega), iN_nI (by omega), show 97 + (iN (tx (x_nb tx q)) - 97) - 97 = iN (tx (x_nb tx q)) - 97 by omega]
