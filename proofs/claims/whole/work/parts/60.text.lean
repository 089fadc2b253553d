/-! TEXT: scanning as functions. -/
def x_sk (b : Nat → Bool) : Nat → Nat → Nat
  | 0, p => p
  | k + 1, p => if b p = true then x_sk b k (p + 1) else p
theorem x_sk_ge (b : Nat → Bool) : ∀ (k p : Nat), p ≤ x_sk b k p
  | 0, p => Nat.le_refl p
  | k + 1, p => by
    unfold x_sk
    split
    · exact Nat.le_trans (Nat.le_succ p) (x_sk_ge b k (p + 1))
    · exact Nat.le_refl p
theorem x_sk_all (b : Nat → Bool) : ∀ (k p j : Nat), p ≤ j → j < x_sk b k p → b j = true
  | 0, p, j, h1, h2 => absurd h2 (by unfold x_sk; omega)
  | k + 1, p, j, h1, h2 => by
    unfold x_sk at h2
    split at h2
    · rename_i hb
      by_cases e : j = p
      · subst e; exact hb
      · exact x_sk_all b k (p + 1) j (by omega) h2
    · omega
theorem x_sk_stop (b : Nat → Bool) : ∀ (k p j : Nat), p ≤ j → j < p + k → b j = false → b (x_sk b k p) = false ∧ x_sk b k p ≤ j
  | 0, p, j, h1, h2, _ => absurd h2 (by omega)
  | k + 1, p, j, h1, h2, h3 => by
    unfold x_sk
    split
    · rename_i hb
      have hne : j ≠ p := fun z => by subst z; rw [h3] at hb; cases hb
      exact x_sk_stop b k (p + 1) j (by omega) (by omega) h3
    · rename_i hb
      exact ⟨by simpa using hb, h1⟩
/-- behind the blanks -/
def x_nb (tx : Nat → Int32) (p : Nat) : Nat := x_sk (fun j => decide (tx j = 32)) 1500 p
def x_sm (v : Int32) : Prop := 97 ≤ v ∧ v ≤ 122
theorem x_sm_dec (v : Int32) : x_sm v ∨ ¬ x_sm v := Classical.em _
/-- the end of the word at p -/
def x_we (tx : Nat → Int32) (p : Nat) : Nat := x_sk (fun j => decide (97 ≤ tx j ∧ tx j ≤ 122)) 1500 p
/-- the end of the number at p -/
def x_de (tx : Nat → Int32) (p : Nat) : Nat := x_sk (fun j => decide (48 ≤ tx j ∧ tx j ≤ 57)) 1500 p
theorem x_sk_n {tx : Nat → Int32} {n p : Nat} {b : Nat → Bool} (hn : n ≤ 600) (hb : ∀ j, n ≤ j → b j = false) : b (x_sk b 1500 p) = false ∧ x_sk b 1500 p ≤ max p n := by
  by_cases h : n ≤ p
  · have := x_sk_stop b 1500 p p (Nat.le_refl p) (by omega) (hb p h)
    exact ⟨this.1, by omega⟩
  · have := x_sk_stop b 1500 p n (by omega) (by omega) (hb n (Nat.le_refl n))
    exact ⟨this.1, by omega⟩
theorem x_nb_ok {sc ar : jSc} {n p : Nat} {tx : Nat → Int32} (hT : m_TX sc ar n tx) : p ≤ x_nb tx p ∧ x_nb tx p ≤ max p n ∧ (∀ j, p ≤ j → j < x_nb tx p → tx j = 32) ∧ ¬ tx (x_nb tx p) = 32 := by
  have h := x_sk_n (tx := tx) (p := p) (b := fun j => decide (tx j = 32)) hT.1 (fun j hj => by simp [hT.2.2.1 j hj])
  refine ⟨x_sk_ge _ _ _, h.2, fun j h1 h2 => of_decide_eq_true (x_sk_all _ _ _ j h1 h2), of_decide_eq_false h.1⟩
theorem x_we_ok {sc ar : jSc} {n p : Nat} {tx : Nat → Int32} (hT : m_TX sc ar n tx) : p ≤ x_we tx p ∧ x_we tx p ≤ max p n ∧ (∀ j, p ≤ j → j < x_we tx p → (97 ≤ tx j ∧ tx j ≤ 122)) ∧ ¬ (97 ≤ tx (x_we tx p) ∧ tx (x_we tx p) ≤ 122) := by
  have h := x_sk_n (tx := tx) (p := p) (b := fun j => decide (97 ≤ tx j ∧ tx j ≤ 122)) hT.1 (fun j hj => by rw [hT.2.2.1 j hj]; decide)
  refine ⟨x_sk_ge _ _ _, h.2, fun j h1 h2 => of_decide_eq_true (x_sk_all _ _ _ j h1 h2), of_decide_eq_false h.1⟩
theorem x_de_ok {sc ar : jSc} {n p : Nat} {tx : Nat → Int32} (hT : m_TX sc ar n tx) : p ≤ x_de tx p ∧ x_de tx p ≤ max p n ∧ (∀ j, p ≤ j → j < x_de tx p → (48 ≤ tx j ∧ tx j ≤ 57)) ∧ ¬ (48 ≤ tx (x_de tx p) ∧ tx (x_de tx p) ≤ 57) := by
  have h := x_sk_n (tx := tx) (p := p) (b := fun j => decide (48 ≤ tx j ∧ tx j ≤ 57)) hT.1 (fun j hj => by rw [hT.2.2.1 j hj]; decide)
  refine ⟨x_sk_ge _ _ _, h.2, fun j h1 h2 => of_decide_eq_true (x_sk_all _ _ _ j h1 h2), of_decide_eq_false h.1⟩
/-- the first m letters of the word at q, as a number -/
def x_wv (tx : Nat → Int32) (q : Nat) : Nat → Int32
  | 0 => 0
  | m + 1 => 27 * x_wv tx q m + tx (q + m) - 97 + 1
/-- the word behind the blanks at p, as a number; -1: too long -/
def x_wh (tx : Nat → Int32) (p : Nat) : Int32 := if 6 < x_we tx (x_nb tx p) - x_nb tx p then -1 else x_wv tx (x_nb tx p) (x_we tx (x_nb tx p) - x_nb tx p)
/-- at becomes r -/
abbrev s_at (sc : jSc) (r : Nat) : jSc := va_up sc 0 (upd (sc 0) f_at (nI r))
theorem m_TX_row {sc ar : jSc} {n k : Nat} {tx : Nat → Int32} {v : Int32} (h : m_TX sc ar n tx) (h1 : (f_size == k) = false) (h2 : (f_which == k) = false) : m_TX (va_up sc 0 (upd (sc 0) k v)) ar n tx := by
  rw [← ur]
  exact m_TX_up h h1 h2
