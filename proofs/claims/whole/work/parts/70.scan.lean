/-! TEXT: scanning, and what the reference's scanning methods do. -/
def x_sk (b : Nat → Bool) : Nat → Nat → Nat
  | 0, p => p
  | k + 1, p => if b p = true then x_sk b k (p + 1) else p
theorem x_sk_ge (b : Nat → Bool) : ∀ (k p : Nat), p ≤ x_sk b k p
  | 0, p => Nat.le_refl p
  | k + 1, p => by
    unfold x_sk
    split
    · exact Nat.le_trans (Nat.le_succ p) (x_sk_ge b k (p + 1))
    · exact Nat.le_refl p
theorem x_sk_all (b : Nat → Bool) : ∀ (k p j : Nat), p ≤ j → j < x_sk b k p → b j = true
  | 0, p, j, h1, h2 => absurd h2 (by unfold x_sk; omega)
  | k + 1, p, j, h1, h2 => by
    unfold x_sk at h2
    split at h2
    · rename_i hb
      by_cases e : j = p
      · subst e; exact hb
      · exact x_sk_all b k (p + 1) j (by omega) h2
    · omega
theorem x_sk_stop (b : Nat → Bool) : ∀ (k p j : Nat), p ≤ j → j < p + k → b j = false → b (x_sk b k p) = false ∧ x_sk b k p ≤ j
  | 0, p, j, h1, h2, _ => absurd h2 (by omega)
  | k + 1, p, j, h1, h2, h3 => by
    unfold x_sk
    split
    · rename_i hb
      have hne : j ≠ p := fun z => by subst z; rw [h3] at hb; cases hb
      exact x_sk_stop b k (p + 1) j (by omega) (by omega) h3
    · rename_i hb
      exact ⟨by simpa using hb, h1⟩
theorem x_sk_eq (b : Nat → Bool) {p r : Nat} : ∀ k, p ≤ r → r < p + k → (∀ j, p ≤ j → j < r → b j = true) → b r = false → x_sk b k p = r := by
  intro k h1 h2 h3 h4
  obtain ⟨h5, h6⟩ := x_sk_stop b k p r h1 h2 h4
  have h7 := x_sk_ge b k p
  refine Nat.le_antisymm h6 (Nat.not_lt.mp fun z => ?_)
  rw [h3 _ h7 z] at h5
  cases h5
abbrev x_sm (v : Int32) : Prop := 97 ≤ v ∧ v ≤ 122
abbrev x_dg (v : Int32) : Prop := 48 ≤ v ∧ v ≤ 57
/-- behind the blanks; the end of the word; the end of the number -/
def x_nb (tx : Nat → Int32) (p : Nat) : Nat := x_sk (fun j => decide (tx j = 32)) 1500 p
def x_we (tx : Nat → Int32) (p : Nat) : Nat := x_sk (fun j => decide (x_sm (tx j))) 1500 p
def x_de (tx : Nat → Int32) (p : Nat) : Nat := x_sk (fun j => decide (x_dg (tx j))) 1500 p
/-- a text of n bytes -/
def x_tx (n : Nat) (tx : Nat → Int32) : Prop := n ≤ 600 ∧ (∀ p, n ≤ p → tx p = -1) ∧ ∀ p, p < n → 0 ≤ tx p ∧ tx p ≤ 255
theorem x_sk_n {n p : Nat} {b : Nat → Bool} (hn : n ≤ 600) (hb : ∀ j, n ≤ j → b j = false) : b (x_sk b 1500 p) = false ∧ x_sk b 1500 p ≤ max p n := by
  by_cases h : n ≤ p
  · have := x_sk_stop b 1500 p p (Nat.le_refl p) (by omega) (hb p h)
    exact ⟨this.1, by omega⟩
  · have := x_sk_stop b 1500 p n (by omega) (by omega) (hb n (Nat.le_refl n))
    exact ⟨this.1, by omega⟩
theorem x_nb_ok {n : Nat} {tx : Nat → Int32} (hT : x_tx n tx) (p : Nat) : p ≤ x_nb tx p ∧ x_nb tx p ≤ max p n ∧ (∀ j, p ≤ j → j < x_nb tx p → tx j = 32) ∧ ¬ tx (x_nb tx p) = 32 := by
  have h := x_sk_n (p := p) (b := fun j => decide (tx j = 32)) hT.1 (fun j hj => by simp [hT.2.1 j hj])
  exact ⟨x_sk_ge _ _ _, h.2, fun j h1 h2 => of_decide_eq_true (x_sk_all _ _ _ j h1 h2), of_decide_eq_false h.1⟩
theorem x_we_ok {n : Nat} {tx : Nat → Int32} (hT : x_tx n tx) (p : Nat) : p ≤ x_we tx p ∧ x_we tx p ≤ max p n ∧ (∀ j, p ≤ j → j < x_we tx p → x_sm (tx j)) ∧ ¬ x_sm (tx (x_we tx p)) := by
  have h := x_sk_n (p := p) (b := fun j => decide (x_sm (tx j))) hT.1 (fun j hj => by rw [hT.2.1 j hj]; decide)
  exact ⟨x_sk_ge _ _ _, h.2, fun j h1 h2 => of_decide_eq_true (x_sk_all _ _ _ j h1 h2), of_decide_eq_false h.1⟩
theorem x_de_ok {n : Nat} {tx : Nat → Int32} (hT : x_tx n tx) (p : Nat) : p ≤ x_de tx p ∧ x_de tx p ≤ max p n ∧ (∀ j, p ≤ j → j < x_de tx p → x_dg (tx j)) ∧ ¬ x_dg (tx (x_de tx p)) := by
  have h := x_sk_n (p := p) (b := fun j => decide (x_dg (tx j))) hT.1 (fun j hj => by rw [hT.2.1 j hj]; decide)
  exact ⟨x_sk_ge _ _ _, h.2, fun j h1 h2 => of_decide_eq_true (x_sk_all _ _ _ j h1 h2), of_decide_eq_false h.1⟩
theorem x_nb_idem {n : Nat} {tx : Nat → Int32} (hT : x_tx n tx) (p : Nat) : x_nb tx (x_nb tx p) = x_nb tx p := by
  obtain ⟨h1, h2, h3, h4⟩ := x_nb_ok hT p
  exact x_sk_eq _ 1500 (Nat.le_refl _) (by omega) (fun j a b => absurd a (by omega)) (by simpa using h4)
/-- the reference reads the text tx of n bytes -/
def r_TX (S : Nat → Int32) (ar : jSc) (n : Nat) (tx : Nat → Int32) : Prop := x_tx n tx ∧ S 3 = nI n ∧ ((S 4 = -1 ∧ ∀ p, p < n → tx p = ar 1 p) ∨ ∃ q, q < 2 ∧ S 4 = nI q ∧ ∀ p, p < n → tx p = ar (3 + q) p)
theorem r_TX_S {S S' : Nat → Int32} {ar : jSc} {n : Nat} {tx : Nat → Int32} (h : r_TX S ar n tx) (h3 : S' 3 = S 3) (h4 : S' 4 = S 4) : r_TX S' ar n tx := by
  unfold r_TX at h ⊢
  rw [h3, h4]
  exact h
theorem iB_nI {k N : Nat} (h : k < N) (hN : N < 2 ^ 31) : iB (nI k) N := nI_in h hN
theorem iN_nI {k : Nat} (h : k < 2 ^ 31) : iN (nI k) = k := nI_clamp h
theorem r_byteAt {S : Nat → Int32} {ar : jSc} {n k : Nat} {tx : Nat → Int32} (hT : r_TX S ar n tx) (hk : k < 2 ^ 30) : rF_6 (nI k) S ar = some (tx k, S, ar) := by
  obtain ⟨⟨h1, h2, -⟩, h3, h4⟩ := hT
  unfold rF_6
  by_cases hlt : k < n
  · rw [h3, if_pos (nI_lt hlt (by omega))]
    have e1 := iB_nI (k := k) (N := 600) (by omega) (by decide)
    have e2 : iN (nI k) = k := iN_nI (by omega)
    rcases h4 with ⟨h5, h6⟩ | ⟨q, h5, h6, h7⟩
    · rw [if_pos h5, if_pos e1, e2, h6 k hlt]
    · have e3 : ¬ nI q = -1 := by rcases (show q = 0 ∨ q = 1 by omega) with rfl | rfl <;> decide
      rw [h6, if_neg e3, if_pos (iB_nI h5 (by decide)), if_pos e1, e2, iN_nI (by omega), h7 k hlt]
  · rw [h3, if_neg (nI_nlt (by omega) (by omega)), h2 k (by omega)]
theorem r_isDigit {S : Nat → Int32} {ar : jSc} {v : Int32} : rF_9 v S ar = some (if x_dg v then 1 else 0, S, ar) := by
  unfold rF_9
  by_cases h1 : v < 48
  · rw [if_pos h1, if_neg (fun z => Int32.not_lt.mpr z.1 h1)]
  · by_cases h2 : 57 < v
    · rw [if_neg h1, if_pos h2, if_neg (fun z => Int32.not_lt.mpr z.2 h2)]
    · rw [if_neg h1, if_neg h2, if_pos ⟨Int32.not_lt.mp h1, Int32.not_lt.mp h2⟩]
theorem r_isSmall {S : Nat → Int32} {ar : jSc} {v : Int32} : rF_10 v S ar = some (if x_sm v then 1 else 0, S, ar) := by
  unfold rF_10
  by_cases h1 : v < 97
  · rw [if_pos h1, if_neg (fun z => Int32.not_lt.mpr z.1 h1)]
  · by_cases h2 : 122 < v
    · rw [if_neg h1, if_pos h2, if_neg (fun z => Int32.not_lt.mpr z.2 h2)]
    · rw [if_neg h1, if_neg h2, if_pos ⟨Int32.not_lt.mp h1, Int32.not_lt.mp h2⟩]
/-- at becomes q -/
abbrev sA (S : Nat → Int32) (q : Nat) : Nat → Int32 := upd S 5 (nI q)
theorem sA_A {S : Nat → Int32} {p q : Nat} : sA (sA S p) q = sA S q := up_2
theorem sA_5 {S : Nat → Int32} {q : Nat} : sA S q 5 = nI q := up_0
theorem sA_i {S : Nat → Int32} {q : Nat} (h : S 5 = nI q) : sA S q = S := by unfold sA; rw [← h]; exact up_3
theorem sA_1 {S : Nat → Int32} {q : Nat} : upd (sA S q) 5 (nI q + 1) = sA S (q + 1) := by rw [nI_1]; exact sA_A
theorem r_TX_A {S : Nat → Int32} {ar : jSc} {n q : Nat} {tx : Nat → Int32} (h : r_TX S ar n tx) : r_TX (sA S q) ar n tx := r_TX_S h rfl rfl
theorem oF_s : oF = 9999 + 1 := rfl
theorem r_blanks_go {ar : jSc} {n r : Nat} {tx : Nat → Int32} {S : Nat → Int32} (hT : r_TX S ar n tx) (hr : r < 2 ^ 29) (h3 : ¬ tx r = 32) : ∀ (m q nn : Nat), q + m = r → m < nn → (∀ j, q ≤ j → j < r → tx j = 32) → rF_7_0 nn (sA S q) ar = some (sA S r, ar) := by
  intro m
  induction m with
  | zero =>
    intro q nn h1 h2 _
    obtain ⟨k, rfl⟩ : ∃ k, nn = k + 1 := ⟨nn - 1, by omega⟩
    have e : q = r := by omega
    subst e
    unfold rF_7_0
    rw [sA_5, r_byteAt (r_TX_A hT) (by omega), ob3, if_neg h3]
  | succ m ih =>
    intro q nn h1 h2 h4
    obtain ⟨k, rfl⟩ : ∃ k, nn = k + 1 := ⟨nn - 1, by omega⟩
    unfold rF_7_0
    rw [sA_5, r_byteAt (r_TX_A hT) (by omega), ob3, if_pos (h4 q (Nat.le_refl q) (by omega)), sA_5, sA_1]
    exact ih (q + 1) k (by omega) (by omega) (fun j a b => h4 j (by omega) b)
theorem r_blanks {ar : jSc} {n q : Nat} {tx : Nat → Int32} {S : Nat → Int32} (hT : r_TX S ar n tx) (hq : q < 2 ^ 28) : rF_7 (sA S q) ar = some (sA S (x_nb tx q), ar) := by
  obtain ⟨h1, h2, h3, h4⟩ := x_nb_ok hT.1 q
  have hn := hT.1.1
  unfold rF_7
  by_cases h : x_nb tx q = q
  · exact r_blanks_go hT (by omega) h4 (x_nb tx q - q) q oF (by omega) (by rw [oF_s]; omega) h3
  · exact r_blanks_go hT (by omega) h4 (x_nb tx q - q) q oF (by omega) (by rw [oF_s]; omega) h3
theorem r_skip_go {ar : jSc} {n r : Nat} {tx : Nat → Int32} {S : Nat → Int32} (hT : r_TX S ar n tx) (hr : r < 2 ^ 29) (h3 : ¬ x_sm (tx r)) : ∀ (m q nn : Nat), q + m = r → m < nn → (∀ j, q ≤ j → j < r → x_sm (tx j)) → rF_14_0 nn (sA S q) ar = some (sA S r, ar) := by
  intro m
  induction m with
  | zero =>
    intro q nn h1 h2 _
    obtain ⟨k, rfl⟩ : ∃ k, nn = k + 1 := ⟨nn - 1, by omega⟩
    have e : q = r := by omega
    subst e
    unfold rF_14_0
    rw [sA_5, r_byteAt (r_TX_A hT) (by omega), ob3, r_isSmall, ob3, if_neg h3, if_pos rfl]
  | succ m ih =>
    intro q nn h1 h2 h4
    obtain ⟨k, rfl⟩ : ∃ k, nn = k + 1 := ⟨nn - 1, by omega⟩
    unfold rF_14_0
    rw [sA_5, r_byteAt (r_TX_A hT) (by omega), ob3, r_isSmall, ob3, if_pos (h4 q (Nat.le_refl q) (by omega)), if_neg (by decide), sA_5, sA_1]
    exact ih (q + 1) k (by omega) (by omega) (fun j a b => h4 j (by omega) b)
theorem r_skipWord {ar : jSc} {n q : Nat} {tx : Nat → Int32} {S : Nat → Int32} (hT : r_TX S ar n tx) (hq : q < 2 ^ 28) : rF_14 (sA S q) ar = some (sA S (x_we tx q), ar) := by
  obtain ⟨h1, h2, h3, h4⟩ := x_we_ok hT.1 q
  have hn := hT.1.1
  have h5 : x_we tx q ≤ q + 600 := by omega
  exact r_skip_go hT (by omega) h4 (x_we tx q - q) q oF (by omega) (by rw [oF_s]; omega) h3
