/-! PAGES: an answer taken, on both sides; what may come. -/
def tP (P : Nat → Int32) (n l : Nat) : Nat → Int32 := fun i => if 14 + 3 * l ≤ i ∧ i < 17 + 3 * l then sft P 0 n (14 + 3 * l) i else if 38 + 3 * l ≤ i ∧ i < 41 + 3 * l then sft P 0 n (38 + 3 * l) i else if i = 10 + l then nI (n - 1) else P i
def tC (C : Nat → Int32) (n l : Nat) : Nat → Int32 := fun i => if 20 + 3 * l ≤ i ∧ i < 23 + 3 * l then (if i < 22 + 3 * l then C (i + 1) else 0) else if 35 + 3 * l ≤ i ∧ i < 37 + 3 * l then C (i + 1) else if i = 15 + l then nI (n - 1) else C i
theorem nI_p1 {n : Nat} (h : 0 < n) : nI n - 1 = nI (n - 1) := by
  have := nI_pred (n - 1)
  rw [show n - 1 + 1 = n by omega] at this
  exact this
theorem r_take {S : Nat → Int32} {ar : jSc} {n l : Nat} (hn : n ≤ 3) (h0 : 0 < n) (hl : l < 4) (h10 : ar 13 (10 + l) = nI n) : rF_54 (nI l) S ar = some (S, va_up ar 13 (tP (ar 13) n l)) := by
  have e10 : (10 : Int32) + nI l = nI (10 + l) := nI_add 10 l
  have ex : ∀ a k : Nat, nI a + nI 3 * nI l + nI k = nI (a + 3 * l + k) := fun a k => by rw [nx, nI_add]
  have go : ∀ c j nn (ar1 : jSc), j + c + 1 = n → c < nn → (∀ a, a ≠ 13 → ar1 a = ar a) → (∀ i, ar1 13 i = if (14 + 3 * l ≤ i ∧ i < 14 + 3 * l + j) ∨ (38 + 3 * l ≤ i ∧ i < 38 + 3 * l + j) then ar 13 (i + 1) else ar 13 i) → rF_54_14 nn (nI l) (nI (n - 1)) (nI j) S ar1 = some (S, va_up ar 13 (tP (ar 13) n l)) := by
    intro c
    induction c with
    | zero =>
      intro j nn ar1 h1 h3 h4 h5
      obtain ⟨nn, rfl⟩ : ∃ i, nn = i + 1 := ⟨nn - 1, by omega⟩
      have e14 : (14 : Int32) + 3 * nI l + nI (n - 1) = nI (14 + 3 * l + (n - 1)) := ex 14 (n - 1)
      have e38 : (38 : Int32) + 3 * nI l + nI (n - 1) = nI (38 + 3 * l + (n - 1)) := ex 38 (n - 1)
      unfold rF_54_14
      rw [if_pos (nI_le (by omega) (by omega)), e14, e38, e10, if_pos (iB_nI (by omega) (by decide)), if_pos (iB_nI (by omega) (by decide)), if_pos (iB_nI (by omega) (by decide)), iN_nI (by omega), iN_nI (by omega), iN_nI (by omega)]
      congr 2
      funext a
      by_cases ca : a = 13
      · subst ca
        rw [va_up_self, u2_up, u2_up, u2_up]
        funext i
        unfold tP sft
        by_cases q1 : i = 10 + l
        · subst q1; rw [up_0, if_neg (by omega), if_neg (by omega), if_pos rfl]
        by_cases q2 : i = 38 + 3 * l + (n - 1)
        · subst q2; rw [up_n (by omega), up_0, if_neg (by omega), if_pos (by omega), if_neg (by omega), if_neg (by omega), if_pos (by omega)]
        by_cases q3 : i = 14 + 3 * l + (n - 1)
        · subst q3; rw [up_n (by omega), up_n (by omega), up_0, if_pos (by omega), if_neg (by omega), if_neg (by omega), if_pos (by omega)]
        rw [up_n q1, up_n q2, up_n q3, h5]
        repeat' split
        all_goals first | rfl | omega
      · rw [va_up_ne _ _ ca, j_u2_row _ _ _ _ ca, j_u2_row _ _ _ _ ca, j_u2_row _ _ _ _ ca]
        exact h4 a ca
    | succ c ih =>
      intro j nn ar1 h1 h3 h4 h5
      obtain ⟨nn, rfl⟩ : ∃ i, nn = i + 1 := ⟨nn - 1, by omega⟩
      have e14 : (14 : Int32) + 3 * nI l + nI j = nI (14 + 3 * l + j) := ex 14 j
      have e15 : (15 : Int32) + 3 * nI l + nI j = nI (15 + 3 * l + j) := ex 15 j
      have e38 : (38 : Int32) + 3 * nI l + nI j = nI (38 + 3 * l + j) := ex 38 j
      have e39 : (39 : Int32) + 3 * nI l + nI j = nI (39 + 3 * l + j) := ex 39 j
      unfold rF_54_14
      rw [if_neg (nI_ge (by omega) (by omega)), e14, e15, e38, e39, if_pos (iB_nI (by omega) (by decide)), if_pos (iB_nI (by omega) (by decide)), if_pos (iB_nI (by omega) (by decide)), if_pos (iB_nI (by omega) (by decide)), iN_nI (by omega), iN_nI (by omega), iN_nI (by omega), iN_nI (by omega), nI_1]
      refine ih (j + 1) nn _ (by omega) (by omega) (fun a ca => ?_) (fun i => ?_)
      · rw [j_u2_row _ _ _ _ ca, j_u2_row _ _ _ _ ca]
        exact h4 a ca
      · rw [u2_nk (show 39 + 3 * l + j ≠ 14 + 3 * l + j by omega)]
        by_cases q2 : i = 38 + 3 * l + j
        · subst q2; rw [u2_eq, h5, if_neg (by omega), if_pos (by omega)]; congr 1; omega
        by_cases q3 : i = 14 + 3 * l + j
        · subst q3; rw [u2_nk (by omega), u2_eq, h5, if_neg (by omega), if_pos (by omega)]; congr 1; omega
        rw [u2_nk q2, u2_nk q3, h5]
        repeat' split
        all_goals first | rfl | omega
  unfold rF_54
  rw [e10, if_pos (iB_nI (by omega) (by decide)), iN_nI (by omega), h10, nI_p1 h0]
  exact go (n - 1) 0 oF ar (by omega) (by unfold oF; omega) (fun _ _ => rfl) (fun i => by rw [if_neg (by omega)])
theorem c_give {pp n l : Nat} {sc car : jSc} {mr : Nat → Nat} {al : jAl} (hn : n ≤ 3) (h0 : 0 < n) (hl : l < 4) (h15 : car (pp + 1) (15 + l) = nI n) : xF_238 pp (nI l) sc mr car al = some (car (pp + 1) (20 + 3 * l), sc, mr, va_up car (pp + 1) (tC (car (pp + 1)) n l), al) := by
  have e15 : (15 : Int32) + nI l = nI (15 + l) := nI_add 15 l
  have e20 : (20 : Int32) + nI l * 3 = nI (20 + 3 * l) := by rw [show (20 : Int32) = nI 20 from rfl, show (3 : Int32) = nI 3 from rfl, nI_mul, nI_add, Nat.mul_comm l 3]
  have e35 : (35 : Int32) + nI l * 3 = nI (35 + 3 * l) := by rw [show (35 : Int32) = nI 35 from rfl, show (3 : Int32) = nI 3 from rfl, nI_mul, nI_add, Nat.mul_comm l 3]
  have e23 : nI (20 + 3 * l) + (3 : Int32) - 1 = nI (22 + 3 * l) := by rw [show (3 : Int32) = nI 3 from rfl, nI_add, nI_p1 (by omega), show 20 + 3 * l + 3 - 1 = 22 + 3 * l by omega]
  have p0 : (0 : Int32) < nI n := (nI_ltI (a := 0) (b := n) (by decide) (by omega)).mpr h0
  unfold xF_238
  rw [e15, if_pos (iB_nI (by omega) (by decide)), iN_nI (by omega), h15, if_pos p0, e20, e35, e23, if_pos (iB_nI (by omega) (by decide)), nI_1, nI_1, show (2 : Int32) = nI 2 from rfl, if_pos (xcp_n (by omega) (by omega) (by decide) (by decide)), if_pos (xcp_n (by omega) (by omega) (by decide) (by decide)), if_pos (iB_nI (by omega) (by decide)), iN_nI (by omega), iN_nI (by omega), iN_nI (by omega), iN_nI (by omega), iN_nI (by omega), iN_nI (by omega), nI_p1 h0]
  rw [if_pos (iB_nI (by omega) (by decide)), va_up_self, va_2]
  refine congrArg (fun z : jSc => some (car (pp + 1) (20 + 3 * l), sc, mr, z, al)) ?_
  funext a
  by_cases ca : a = pp + 1
  · subst ca
    rw [va_up_self, u2_up, u2_up, va_up_self]
    funext i
    by_cases q1 : i = 15 + l
    · subst q1; rw [up_0]; unfold tC; rw [if_neg (by omega), if_neg (by omega), if_pos rfl]
    by_cases q2 : i = 22 + 3 * l
    · subst q2; rw [up_n (by omega), up_0]; unfold tC; rw [if_pos (by omega), if_neg (by omega)]
    rw [up_n q1, up_n q2]
    unfold va_cpy tC
    by_cases r1 : 35 + 3 * l ≤ i ∧ i < 35 + 3 * l + 2
    · rw [if_pos r1, if_neg (by omega), if_neg (by omega), if_pos (by omega)]
      congr 1
      omega
    · rw [if_neg r1]
      by_cases r2 : 20 + 3 * l ≤ i ∧ i < 20 + 3 * l + 2
      · rw [if_pos r2, if_pos (by omega), if_pos (by omega)]
        congr 1
        omega
      · rw [if_neg r2, if_neg (by omega), if_neg (by omega), if_neg q1]
  · rw [va_up_ne _ _ ca, j_u2_row _ _ _ _ ca, j_u2_row _ _ _ _ ca, va_up_ne _ _ ca]
theorem pgR_tk {P C : Nat → Int32} {n l : Nat} (h : pgR P C) (hl : l < 4) (hn : P (10 + l) = nI n) (h3 : n ≤ 3) (h0 : 0 < n) : pgR (tP P n l) (tC C n l) := by
  obtain ⟨h1, h2, ⟨k1, k2⟩, h4, h5, h5b⟩ := h
  have o : ∀ i, i ≠ 10 + l → (i < 14 + 3 * l ∨ 17 + 3 * l ≤ i) → i < 38 → tP P n l i = P i := fun i a b c => by
    unfold tP
    rw [if_neg (by omega), if_neg (by omega), if_neg a]
  have p14 : ∀ k, k < 3 → tP P n l (14 + 3 * l + k) = if k + 1 < n then P (14 + 3 * l + (k + 1)) else 0 := fun k hk => by
    unfold tP sft
    rw [if_pos (by omega), if_neg (by omega)]
    by_cases c2 : k + 1 < n
    · rw [if_pos (by omega), if_pos c2]; rfl
    · rw [if_neg (by omega), if_neg c2]
      split
      · rfl
      · exact h5 l k hl hk (by rw [hn, iN_nI (by omega)]; omega)
  have c20 : ∀ k, k < 3 → C (20 + 3 * l + k) = P (14 + 3 * l + k) := fun k hk => by
    have a := ix_c (20 + 3 * l + k) (by omega)
    rw [h1 _ (by omega)]
    congr 1
    omega
  refine ⟨fun k hk => ?_, fun k hk => ?_, ⟨fun j hj => ?_, ?_⟩, ?_, fun j k hj hk => ?_, fun k hk => ?_⟩
  · have a := ix_c k hk
    by_cases c : k = 15 + l
    · subst c
      rw [show ix (15 + l) = 10 + l by omega]
      unfold tC tP
      rw [if_neg (by omega), if_neg (by omega), if_pos rfl, if_neg (by omega), if_neg (by omega), if_pos rfl]
    · by_cases c2 : 20 + 3 * l ≤ k ∧ k < 23 + 3 * l
      · obtain ⟨j, rfl⟩ : ∃ j, k = 20 + 3 * l + j := ⟨k - (20 + 3 * l), by omega⟩
        rw [show ix (20 + 3 * l + j) = 14 + 3 * l + j by omega, p14 j (by omega)]
        unfold tC
        rw [if_pos c2]
        by_cases c3 : j + 1 < n
        · rw [if_pos (by omega), if_pos c3]; exact c20 (j + 1) (by omega)
        · rw [if_neg c3]
          split
          · exact (c20 (j + 1) (by omega)).trans (h5 l (j + 1) hl (by omega) (by rw [hn, iN_nI (by omega)]; omega))
          · rfl
      · rw [o _ (by omega) (by omega) (by omega)]
        unfold tC
        rw [if_neg c2, if_neg (by omega), if_neg c]
        exact h1 k hk
  · rw [o _ (by omega) (by omega) (by omega), o _ (by omega) (by omega) (by omega)]
    unfold tC
    rw [if_neg (by omega), if_neg (by omega), if_neg (by omega)]
    exact h2 k hk
  · by_cases c : j = l
    · subst c
      refine ⟨n - 1, by omega, ?_⟩
      unfold tP
      rw [if_neg (by omega), if_neg (by omega), if_pos rfl]
    · rw [o _ (by omega) (by omega) (by omega)]; exact k1 j hj
  · rw [o _ (by omega) (by omega) (by omega)]; exact k2
  · rw [o _ (by omega) (by omega) (by omega)]; exact h4
  · by_cases c : j = l
    · subst c
      have e : tP P n j (10 + j) = nI (n - 1) := by
        unfold tP
        rw [if_neg (by omega), if_neg (by omega), if_pos rfl]
      rw [e, iN_nI (by omega), p14 k hk]
      intro hq
      rw [if_neg (by omega)]
    · rw [o _ (by omega) (by omega) (by omega), o _ (by omega) (by omega) (by omega)]; exact h5 j k hj hk
  · rw [o _ (by omega) (by omega) (by omega), o _ (by omega) (by omega) (by omega), o _ (by omega) (by omega) (by omega)]; exact h5b k hk
theorem pgA_tk {P C : Nat → Int32} {n l : Nat} (h : pgA P C) (hl : l < 4) (hn : P (10 + l) = nI n) (h3 : n ≤ 3) (h0 : 0 < n) : pgA (tP P n l) (tC C n l) := by
  obtain ⟨h1, h2⟩ := h
  have o : ∀ i, i ≠ 10 + l → (i < 14 + 3 * l ∨ 17 + 3 * l ≤ i) → (i < 38 + 3 * l ∨ 41 + 3 * l ≤ i) → tP P n l i = P i := fun i a b c => by
    unfold tP
    rw [if_neg (by omega), if_neg (by omega), if_neg a]
  have oc : ∀ i, 35 ≤ i → (i < 35 + 3 * l ∨ 37 + 3 * l ≤ i) → tC C n l i = C i := fun i a b => by
    unfold tC
    rw [if_neg (by omega), if_neg (by omega), if_neg (by omega)]
  refine ⟨fun j k hj hk => ?_, fun k hk => ?_⟩
  · by_cases c : j = l
    · subst c
      have e : tP P n j (10 + j) = nI (n - 1) := by
        unfold tP
        rw [if_neg (by omega), if_neg (by omega), if_pos rfl]
      rw [e, iN_nI (by omega)]
      intro hq
      have r := h1 j (k + 1) hj (by omega) (by rw [hn, iN_nI (by omega)]; omega)
      unfold tP tC sft
      rw [if_neg (by omega), if_pos (by omega), if_neg (by omega), if_pos (by omega), if_neg (by omega), if_pos (by omega)]
      exact r
    · rw [o _ (by omega) (by omega) (by omega), o _ (by omega) (by omega) (by omega), oc _ (by omega) (by omega)]; exact h1 j k hj hk
  · rw [o _ (by omega) (by omega) (by omega), o _ (by omega) (by omega) (by omega), oc _ (by omega) (by omega)]; exact h2 k hk
/-- does a form, one of the c from i on, bar the press of t? -/
def m_ba (ar : jSc) (t : Int32) (P : Nat → Int32) : Nat → Nat → Bool
  | _, 0 => false
  | i, c + 1 => decide (¬ ar 106 i = 0 ∧ ar 102 i = 0 ∧ ar 103 i = t ∧ ¬ P (10 + iN (ar 104 i)) ≤ 0) || m_ba ar t P (i + 1) c
theorem m_ba_s {ar : jSc} {t : Int32} {P : Nat → Int32} {i c : Nat} : m_ba ar t P i (c + 1) = (decide (¬ ar 106 i = 0 ∧ ar 102 i = 0 ∧ ar 103 i = t ∧ ¬ P (10 + iN (ar 104 i)) ≤ 0) || m_ba ar t P (i + 1) c) := rfl
/-- can the happening c come? m forms -/
def aCan (ar : jSc) (m : Nat) (P : Nat → Int32) (c : Nat) : Bool := if c = 8 then !decide (P 26 = 0) else if 8 < c then !decide (P (10 + (c - 9)) = 0) else bt (P 8) c && !bt (P 9) c && !m_ba ar (nI c) P 0 m
/-- the forms are sound -/
def fG (ar : jSc) (m : Nat) : Prop := m ≤ 6 ∧ ∀ i, i < m → ∃ l, l < 4 ∧ ar 104 i = nI l
theorem le0_nI {k : Nat} (h : k < 2 ^ 31) : nI k ≤ (0 : Int32) ↔ nI k = 0 := by
  have e1 : nI k ≤ (0 : Int32) ↔ k ≤ 0 := nI_leI h (by decide)
  have e2 : nI k = (0 : Int32) ↔ k = 0 := nI_eq h (by decide)
  rw [e1, e2]
  omega
theorem r_can {S : Nat → Int32} {ar : jSc} {m c : Nat} (hm : S 38 = nI m) (hf : fG ar m) (hc : c < 13) (hP : pgC (ar 13)) : rF_50 (nI c) S ar = some (if aCan ar m (ar 13) c = true then 1 else 0, S, ar) := by
  have go : ∀ k i nn, i + k = m → k < nn → rF_50_82 nn (nI c) (nI i) S ar = some (if m_ba ar (nI c) (ar 13) i k = true then 0 else 1, S, ar) := by
    intro k
    induction k with
    | zero =>
      intro i nn h1 h2
      obtain ⟨nn, rfl⟩ : ∃ j, nn = j + 1 := ⟨nn - 1, by omega⟩
      unfold rF_50_82
      rw [hm, if_pos (nI_le (by omega) (by have := hf.1; omega))]
      rfl
    | succ k ih =>
      intro i nn h1 h2
      obtain ⟨nn, rfl⟩ : ∃ j, nn = j + 1 := ⟨nn - 1, by omega⟩
      have h6 := hf.1
      obtain ⟨l, hl, el⟩ := hf.2 i (by omega)
      have i6 : iB (nI i) 6 := iB_nI (by omega) (by decide)
      have r := ih (i + 1) nn (by omega) (by omega)
      have e10 : (10 : Int32) + nI l = nI (10 + l) := nI_add 10 l
      unfold rF_50_82
      rw [hm, if_neg (nI_ge (by omega) (by omega)), if_pos i6, if_pos i6, if_pos i6, if_pos i6, iN_nI (by omega), nI_1, r, el, e10, if_pos (iB_nI (by omega) (by decide)), iN_nI (by omega), m_ba_s, el, iN_nI (show l < 2 ^ 31 by omega)]
      by_cases a : ar 106 i = 0
      · rw [if_pos a]; simp [a]
      · rw [if_neg a]
        by_cases b : ar 102 i = 0
        · rw [if_pos b]
          by_cases d : ar 103 i = nI c
          · rw [if_pos d]
            by_cases e : ar 13 (10 + l) ≤ 0
            · rw [if_pos e]; simp [e]
            · rw [if_neg e]; simp [a, b, d, e]
          · rw [if_neg d]; simp [d]
        · rw [if_neg b]; simp [b]
  have h6 := hf.1
  have e8 : nI c = (8 : Int32) ↔ c = 8 := nI_eq (by omega) (by decide)
  have l8 : nI c ≤ (8 : Int32) ↔ c ≤ 8 := nI_leI (by omega) (by decide)
  unfold rF_50 aCan
  by_cases c8 : c = 8
  · rw [if_pos (e8.mpr c8), if_pos c8]
    obtain ⟨k, hk, ek⟩ := hP.2
    rw [ek]
    by_cases z : nI k = 0
    · rw [if_pos ((le0_nI (by omega)).mpr z)]; simp [z]
    · rw [if_neg (fun y => z ((le0_nI (by omega)).mp y))]; simp [z]
  · rw [if_neg (fun z => c8 (e8.mp z)), if_neg c8]
    by_cases g8 : 8 < c
    · obtain ⟨k, hk, ek⟩ := hP.1 (c - 9) (by omega)
      have e1 : (10 : Int32) + nI c - 9 = nI (10 + (c - 9)) := by
        rw [show (10 : Int32) = nI 10 from rfl, show (9 : Int32) = nI 9 from rfl, nI_add, nI_sub (by omega), show 10 + c - 9 = 10 + (c - 9) by omega]
      rw [if_neg (fun z => absurd (l8.mp z) (by omega)), if_pos g8, e1, if_pos (iB_nI (by omega) (by decide)), iN_nI (by omega), ek]
      by_cases z : nI k = 0
      · rw [if_pos ((le0_nI (by omega)).mpr z)]; simp [z]
      · rw [if_neg (fun y => z ((le0_nI (by omega)).mp y))]; simp [z]
    · rw [if_pos (l8.mpr (by omega)), if_neg g8]
      have r := go m 0 oF (by omega) (by unfold oF; omega)
      have r : rF_50_82 oF (nI c) 0 S ar = _ := r
      rw [r]
      by_cases a : bt (ar 13 8) c = true
      · rw [if_neg (fun z => by rw [bt_s0 (by omega), a] at z; cases z)]
        by_cases b : bt (ar 13 9) c = true
        · rw [if_pos ((bt_s1 (by omega)).mpr b)]; simp [b]
        · rw [if_neg (fun z => b ((bt_s1 (by omega)).mp z))]
          by_cases d : m_ba ar (nI c) (ar 13) 0 m = true
          · rw [if_pos d]; simp [d]
          · rw [if_neg d]; simp [a, b, d]
      · rw [if_pos ((bt_s0 (by omega)).mpr (by simpa using a))]; simp [a]
