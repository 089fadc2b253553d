/-! FORMS on both sides: a set of them is turned on. -/
theorem m_fa_i {ar : jSc} {k l : Int32} : ∀ {c i : Nat}, m_fa ar k l i c = true ↔ ∃ j, i ≤ j ∧ j < i + c ∧ ¬ ar 106 j = 0 ∧ ar 102 j = k ∧ ar 104 j = l
  | 0, i => ⟨fun h => (by cases h), fun ⟨j, a, b, _⟩ => by omega⟩
  | c + 1, i => by
    show (decide _ || m_fa ar k l (i + 1) c) = true ↔ _
    rw [Bool.or_eq_true, decide_eq_true_eq, m_fa_i]
    constructor
    · rintro (h | ⟨j, a, b, h⟩)
      · exact ⟨i, Nat.le_refl _, by omega, h⟩
      · exact ⟨j, by omega, by omega, h⟩
    · rintro ⟨j, a, b, h⟩
      by_cases z : j = i
      · subst z; exact Or.inl h
      · exact Or.inr ⟨j, by omega, by omega, h⟩
theorem m_b1_i {ar : jSc} {t l : Int32} : ∀ {c i : Nat}, m_b1 ar t l i c = true ↔ ∃ j, i ≤ j ∧ j < i + c ∧ ¬ ar 106 j = 0 ∧ ar 102 j = 0 ∧ ar 103 j = t ∧ ar 104 j = l
  | 0, i => ⟨fun h => (by cases h), fun ⟨j, a, b, _⟩ => by omega⟩
  | c + 1, i => by
    rw [m_b1_s, Bool.or_eq_true, decide_eq_true_eq, m_b1_i]
    constructor
    · rintro (h | ⟨j, a, b, h⟩)
      · exact ⟨i, Nat.le_refl _, by omega, h⟩
      · exact ⟨j, by omega, by omega, h⟩
    · rintro ⟨j, a, b, h⟩
      by_cases z : j = i
      · subst z; exact Or.inl h
      · exact Or.inr ⟨j, by omega, by omega, h⟩
/-- the reference's forms with the set s on -/
def arT (ar : jSc) (m s : Nat) : jSc := va_up ar 106 (fun i => if i < m then (if bt (nI s) i = true then 1 else 0) else ar 106 i)
theorem arT_o {ar : jSc} {m s b : Nat} (h : b ≠ 106) : arT ar m s b = ar b := va_up_ne _ _ h
theorem arT_i {ar : jSc} {m s i : Nat} (h : i < m) : arT ar m s 106 i = if bt (nI s) i = true then 1 else 0 := by
  unfold arT
  rw [va_up_self, if_pos h]
/-- the forms as they were made, alike on both sides -/
def fM (m : Nat) (ar sc car : jSc) : Prop := m ≤ 6 ∧ sc 736 5 = nI m ∧ ∀ i, i < m → (∃ k, k < 3 ∧ ar 102 i = nI k ∧ car 737 i = nI k) ∧ (ar 102 i = 0 → ∃ t, t < 8 ∧ ar 103 i = nI t ∧ car 738 i = nI t) ∧ (∃ l, l < 4 ∧ ar 104 i = nI l ∧ car 739 i = nI l) ∧ ∃ q, q ≤ 100 ∧ ar 105 i = nI q ∧ car 740 i = nI q
/-- the set s is on, on both sides -/
def fO (m s : Nat) (ar sc : jSc) : Prop := s < 2 ^ m ∧ sc 736 6 = nI s ∧ ∀ i, i < m → ar 106 i = if bt (nI s) i = true then 1 else 0
section FT
variable {S : Nat → Int32} {ar : jSc} {sc car : jSc} {mr : Nat → Nat} {al : jAl} {m s : Nat}
theorem r_turns (hm : m ≤ 6) (h38 : S 38 = nI m) : rF_103 (nI s) S ar = some (S, arT ar m s) := by
  have go : ∀ r k nn a, k + r = m → r < nn → (∀ i, i < k → a 106 i = if bt (nI s) i = true then 1 else 0) → (∀ i, k ≤ i → a 106 i = ar 106 i) → (∀ b, b ≠ 106 → a b = ar b) → rF_103_2 nn (nI s) (nI k) S a = some (S, arT ar m s) := by
    intro r
    induction r with
    | zero =>
      intro k nn a h1 h2 h3 h4 h5
      obtain ⟨nn, rfl⟩ : ∃ j, nn = j + 1 := ⟨nn - 1, by omega⟩
      have e : a = arT ar m s := by
        funext b i
        by_cases z : b = 106
        · subst z
          unfold arT
          rw [va_up_self]
          by_cases y : i < m
          · rw [if_pos y, h3 i (by omega)]
          · rw [if_neg y, h4 i (by omega)]
        · rw [arT_o z, h5 b z]
      unfold rF_103_2
      rw [h38, if_pos (nI_le (by omega) (by omega)), e]
    | succ r ih =>
      intro k nn a h1 h2 h3 h4 h5
      obtain ⟨nn, rfl⟩ : ∃ j, nn = j + 1 := ⟨nn - 1, by omega⟩
      have e1 := bt_s1 (x := nI s) (k := k) (by omega)
      have b6 : iB (nI k) 6 := iB_nI (by omega) (by decide)
      have st : ∀ x : Int32, x = (if bt (nI s) k = true then 1 else 0) → rF_103_2 nn (nI s) (nI (k + 1)) S (j_u2 a 106 k x) = some (S, arT ar m s) := by
        intro x hx
        refine ih (k + 1) nn _ (by omega) (by omega) (fun i hi => ?_) (fun i hi => ?_) (fun b hb => (j_u2_row _ _ _ _ hb).trans (h5 b hb))
        · by_cases z : i = k
          · subst z; rw [u2_eq]; exact hx
          · rw [u2_nk z]; exact h3 i (by omega)
        · rw [u2_nk (by omega)]; exact h4 i (by omega)
      unfold rF_103_2
      rw [h38, if_neg (nI_ge (by omega) (by omega)), if_pos b6, if_pos b6, iN_nI (by omega), nI_1]
      by_cases z : bt (nI s) k = true
      · rw [if_pos (e1.mpr z)]; exact st 1 (by rw [if_pos z])
      · rw [if_neg (fun y => z (e1.mp y))]; exact st 0 (by rw [if_neg z])
  exact go m 0 oF ar (by omega) (by unfold oF; omega) (fun i hi => absurd hi (by omega)) (fun _ _ => rfl) (fun _ _ => rfl)
theorem bt_o1 {x : Int32} {k i : Nat} (hk : k < 32) (hi : i < 32) : bt (x ||| (1 <<< (nI k &&& 31))) i = true ↔ bt x i = true ∨ i = k := by
  rw [bt_or hk hi, Bool.or_eq_true, decide_eq_true_eq]
/-- turns -/
theorem c_turns (hM : fM m ar sc car) (hs : s < 2 ^ m) : ∃ sc2 car2, xF_201 (nI s) sc mr car al = some (sc2, mr, car2, al) ∧ fR m (arT ar m s) sc2 car2 ∧ sc2 736 6 = nI s ∧ (∀ a k, ¬ (a = 736 ∧ 6 ≤ k ∧ k ≤ 8) → sc2 a k = sc a k) ∧ ∀ b, b ≠ 741 → car2 b = car b := by
  obtain ⟨hm, h5, hf⟩ := hM
  obtain ⟨car1, a1, a2, a3, a4⟩ := c_filq (a := 741) (n0 := 8) (v := 0) (sc := j_u2 (j_u2 (j_u2 sc 736 6 (nI s)) 736 7 (0 : Int32)) 736 8 (0 : Int32)) (mr := mr) (al := al) (by decide) car
  have go : ∀ (r k nn : Nat) (sc1 c1 : jSc), k + r = m → r < nn → sc1 736 6 = nI s → (∀ a q, ¬ (a = 736 ∧ 6 ≤ q ∧ q ≤ 8) → sc1 a q = sc a q) → (∀ b, b ≠ 741 → c1 b = car b) → (∀ l, l < 4 → (bt (sc1 736 7) l = true ↔ ∃ i, i < k ∧ bt (nI s) i = true ∧ ar 102 i = 1 ∧ ar 104 i = nI l)) → (∀ l, l < 4 → (bt (sc1 736 8) l = true ↔ ∃ i, i < k ∧ bt (nI s) i = true ∧ ar 102 i = 2 ∧ ar 104 i = nI l)) → (∀ t l, t < 8 → l < 4 → (bt (c1 741 t) l = true ↔ ∃ i, i < k ∧ bt (nI s) i = true ∧ ar 102 i = 0 ∧ ar 103 i = nI t ∧ ar 104 i = nI l)) → ∃ sc2 car2, xF_201_25 nn (nI s) (nI k) sc1 mr c1 al = some (sc2, mr, car2, al) ∧ fR m (arT ar m s) sc2 car2 ∧ sc2 736 6 = nI s ∧ (∀ a k, ¬ (a = 736 ∧ 6 ≤ k ∧ k ≤ 8) → sc2 a k = sc a k) ∧ ∀ b, b ≠ 741 → car2 b = car b := by
    intro r
    induction r with
    | zero =>
      intro k nn sc1 c1 h1 h2 h6 h7 h8 f1 f2 f3
      obtain ⟨nn, rfl⟩ : ∃ j, nn = j + 1 := ⟨nn - 1, by omega⟩
      have km : k = m := by omega
      subst km
      unfold xF_201_25
      rw [h7 736 5 (by omega), h5, if_pos (nI_le (by omega) (by omega))]
      have on : ∀ i, i < k → (¬ arT ar k s 106 i = 0 ↔ bt (nI s) i = true) := fun i hi => by
        rw [arT_i hi]
        by_cases z : bt (nI s) i = true
        · rw [if_pos z]; exact ⟨fun _ => z, fun _ => by decide⟩
        · rw [if_neg z]; exact ⟨fun y => absurd rfl y, fun y => absurd y z⟩
      refine ⟨sc1, c1, rfl, ⟨⟨hm, fun i hi => ?_⟩, fun l hl => ?_, fun l hl => ?_, fun t l ht hl => ?_⟩, h6, h7, h8⟩
      · obtain ⟨-, -, ⟨l, a, b, -⟩, -⟩ := hf i hi
        exact ⟨l, a, by rw [arT_o (by decide)]; exact b⟩
      · rw [Bool.eq_iff_iff, f2 l hl]
        unfold m_fr
        rw [m_fa_i]
        constructor
        · rintro ⟨i, a, b, c, d⟩
          exact ⟨i, Nat.zero_le _, by omega, (on i a).mpr b, by rw [arT_o (by decide)]; exact c, by rw [arT_o (by decide)]; exact d⟩
        · rintro ⟨i, -, a, b, c, d⟩
          exact ⟨i, by omega, (on i (by omega)).mp b, by rw [arT_o (by decide)] at c; exact c, by rw [arT_o (by decide)] at d; exact d⟩
      · rw [Bool.eq_iff_iff, f1 l hl]
        unfold m_fr
        rw [m_fa_i]
        constructor
        · rintro ⟨i, a, b, c, d⟩
          exact ⟨i, Nat.zero_le _, by omega, (on i a).mpr b, by rw [arT_o (by decide)]; exact c, by rw [arT_o (by decide)]; exact d⟩
        · rintro ⟨i, -, a, b, c, d⟩
          exact ⟨i, by omega, (on i (by omega)).mp b, by rw [arT_o (by decide)] at c; exact c, by rw [arT_o (by decide)] at d; exact d⟩
      · rw [Bool.eq_iff_iff, f3 t l ht hl, m_b1_i]
        constructor
        · rintro ⟨i, a, b, c, d, e⟩
          exact ⟨i, Nat.zero_le _, by omega, (on i a).mpr b, by rw [arT_o (by decide)]; exact c, by rw [arT_o (by decide)]; exact d, by rw [arT_o (by decide)]; exact e⟩
        · rintro ⟨i, -, a, b, c, d, e⟩
          exact ⟨i, by omega, (on i (by omega)).mp b, by rw [arT_o (by decide)] at c; exact c, by rw [arT_o (by decide)] at d; exact d, by rw [arT_o (by decide)] at e; exact e⟩
    | succ r ih =>
      intro k nn sc1 c1 h1 h2 h6 h7 h8 f1 f2 f3
      obtain ⟨nn, rfl⟩ : ∃ j, nn = j + 1 := ⟨nn - 1, by omega⟩
      have e0 := bt_s0 (x := nI s) (k := k) (by omega)
      have b6 : iB (nI k) 6 := iB_nI (by omega) (by decide)
      have ik : iN (nI k) = k := iN_nI (by omega)
      obtain ⟨⟨kd, k3, q1, q2⟩, q3, ⟨l0, l4, q4, q5⟩, -⟩ := hf k (by omega)
      have nle : ¬ nI m ≤ nI k := nI_ge (by omega) (by omega)
      unfold xF_201_25
      rw [h7 736 5 (by omega), h5, if_neg nle, nI_1]
      by_cases z : bt (nI s) k = false
      · rw [if_pos (e0.mpr z)]
        have nx : ∀ (Q : Nat → Prop), ((∃ i, i < k ∧ bt (nI s) i = true ∧ Q i) ↔ ∃ i, i < k + 1 ∧ bt (nI s) i = true ∧ Q i) := fun Q => ⟨fun ⟨i, a, b⟩ => ⟨i, by omega, b⟩, fun ⟨i, a, b, c⟩ => ⟨i, by
          by_cases y : i = k
          · subst y; rw [z] at b; cases b
          · omega, b, c⟩⟩
        exact ih (k + 1) nn sc1 c1 (by omega) (by omega) h6 h7 h8 (fun l hl => (f1 l hl).trans (nx _)) (fun l hl => (f2 l hl).trans (nx _)) (fun t l ht hl => (f3 t l ht hl).trans (nx _))
      · have zt : bt (nI s) k = true := by simpa using z
        rw [if_neg (fun y => z (e0.mp y))]
        simp only [if_pos b6, ik]
        rw [h8 737 (by decide), h8 738 (by decide), h8 739 (by decide), q2, q5]
        -- what one more adds
        have nx : ∀ (Q : Nat → Prop), ((∃ i, i < k + 1 ∧ bt (nI s) i = true ∧ Q i) ↔ (∃ i, i < k ∧ bt (nI s) i = true ∧ Q i) ∨ Q k) := fun Q => by
          constructor
          · rintro ⟨i, a, b, c⟩
            by_cases y : i = k
            · subst y; exact Or.inr c
            · exact Or.inl ⟨i, by omega, b, c⟩
          · rintro (⟨i, a, b, c⟩ | c)
            · exact ⟨i, by omega, b, c⟩
            · exact ⟨k, by omega, zt, c⟩
        have le : ∀ l, l < 4 → (ar 104 k = nI l ↔ l = l0) := fun l hl => by
          rw [q4]
          exact (nI_eq (by omega) (by omega)).trans eq_comm
        rcases (show kd = 0 ∨ kd = 1 ∨ kd = 2 by omega) with rfl | rfl | rfl
        · obtain ⟨t0, t8, q6, q7⟩ := q3 q1
          have bt8 : iB (nI t0) 8 := iB_nI t8 (by decide)
          rw [if_pos (show nI 0 = (0 : Int32) from rfl), q7, if_pos bt8, if_pos bt8, iN_nI (by omega)]
          refine ih (k + 1) nn sc1 _ (by omega) (by omega) h6 h7 (fun b hb => (j_u2_row _ _ _ _ hb).trans (h8 b hb)) (fun l hl => ?_) (fun l hl => ?_) (fun t l ht hl => ?_)
          · rw [nx, f1 l hl]
            exact ⟨Or.inl, fun y => y.elim id (fun c => by rw [q1] at c; exact absurd c.1 (by decide))⟩
          · rw [nx, f2 l hl]
            exact ⟨Or.inl, fun y => y.elim id (fun c => by rw [q1] at c; exact absurd c.1 (by decide))⟩
          · rw [nx, ← f3 t l ht hl]
            by_cases y : t = t0
            · subst y
              rw [u2_eq, bt_o1 (by omega) (by omega)]
              refine or_congr Iff.rfl ⟨fun e => ⟨q1, q6, (le l hl).mpr e⟩, fun c => (le l hl).mp c.2.2⟩
            · rw [u2_nk y]
              exact ⟨Or.inl, fun x => x.elim id (fun c => absurd ((nI_eq (by omega) (by omega)).mp (q6.symm.trans c.2.1)).symm y)⟩
        · rw [if_neg (show ¬ nI 1 = (0 : Int32) by decide), if_pos (show nI 1 = (1 : Int32) from rfl)]
          refine ih (k + 1) nn _ c1 (by omega) (by omega) (by rw [u2_nk (by decide)]; exact h6) (fun a q h => ?_) h8 (fun l hl => ?_) (fun l hl => ?_) (fun t l ht hl => ?_)
          · rw [show j_u2 sc1 736 7 _ a q = sc1 a q from if_neg (fun w => h ⟨w.1, by omega⟩)]
            exact h7 a q h
          · rw [nx, ← f1 l hl, u2_eq, bt_o1 (by omega) (by omega)]
            exact or_congr Iff.rfl ⟨fun e => ⟨q1, (le l hl).mpr e⟩, fun c => (le l hl).mp c.2⟩
          · rw [nx, ← f2 l hl, u2_nk (by decide)]
            exact ⟨Or.inl, fun y => y.elim id (fun c => by rw [q1] at c; exact absurd c.1 (by decide))⟩
          · rw [nx, ← f3 t l ht hl]
            exact ⟨Or.inl, fun y => y.elim id (fun c => by rw [q1] at c; exact absurd c.1 (by decide))⟩
        · rw [if_neg (show ¬ nI 2 = (0 : Int32) by decide), if_neg (show ¬ nI 2 = (1 : Int32) by decide)]
          refine ih (k + 1) nn _ c1 (by omega) (by omega) (by rw [u2_nk (by decide)]; exact h6) (fun a q h => ?_) h8 (fun l hl => ?_) (fun l hl => ?_) (fun t l ht hl => ?_)
          · rw [show j_u2 sc1 736 8 _ a q = sc1 a q from if_neg (fun w => h ⟨w.1, by omega⟩)]
            exact h7 a q h
          · rw [nx, ← f1 l hl, u2_nk (by decide)]
            exact ⟨Or.inl, fun y => y.elim id (fun c => by rw [q1] at c; exact absurd c.1 (by decide))⟩
          · rw [nx, ← f2 l hl, u2_eq, bt_o1 (by omega) (by omega)]
            exact or_congr Iff.rfl ⟨fun e => ⟨q1, (le l hl).mpr e⟩, fun c => (le l hl).mp c.2⟩
          · rw [nx, ← f3 t l ht hl]
            exact ⟨Or.inl, fun y => y.elim id (fun c => by rw [q1] at c; exact absurd c.1 (by decide))⟩
  unfold xF_201
  rw [a1, ob4]
  have no : ∀ (Q : Nat → Prop), ¬ ∃ i, i < 0 ∧ Q i := fun Q ⟨i, h, _⟩ => by omega
  have := go m 0 oF (j_u2 (j_u2 (j_u2 sc 736 6 (nI s)) 736 7 (0 : Int32)) 736 8 (0 : Int32)) car1 (by omega) (by unfold oF; omega) (by rw [u2_nk (by decide), u2_nk (by decide), u2_eq]) (fun a q h => by
    rw [show j_u2 (j_u2 (j_u2 sc 736 6 (nI s)) 736 7 (0 : Int32)) 736 8 (0 : Int32) a q = sc a q from (if_neg (fun w => h ⟨w.1, by omega⟩)).trans ((if_neg (fun w => h ⟨w.1, by omega⟩)).trans (if_neg (fun w => h ⟨w.1, by omega⟩)))]) a4 (fun l hl => ?_) (fun l hl => ?_) (fun t l ht hl => ?_)
  · exact this
  · rw [u2_nk (by decide), u2_eq, b_0]
    exact ⟨fun h => (by cases h), fun h => absurd h (no _)⟩
  · rw [u2_eq, b_0]
    exact ⟨fun h => (by cases h), fun h => absurd h (no _)⟩
  · rw [a2 t ht, b_0]
    exact ⟨fun h => (by cases h), fun h => absurd h (no _)⟩
/-- priceOf, both sides -/
def aPc (ar : jSc) (s : Nat) : Nat → Nat → Nat
  | _, 0 => 0
  | i, c + 1 => (if bt (nI s) i = true then iN (ar 105 i) else 0) + aPc ar s (i + 1) c
theorem aPc_le {ar : jSc} (hp : ∀ i, i < m → ∃ q, q ≤ 100 ∧ ar 105 i = nI q) : ∀ {c i : Nat}, i + c = m → aPc ar s i c ≤ 100 * c
  | 0, _, _ => Nat.le_refl _
  | c + 1, i, h => by
    have := aPc_le hp (c := c) (i := i + 1) (by omega)
    obtain ⟨q, a, b⟩ := hp i (by omega)
    unfold aPc
    rw [b, iN_nI (by omega)]
    split <;> omega
theorem r_price (hm : m ≤ 6) (h38 : S 38 = nI m) (hp : ∀ i, i < m → ∃ q, q ≤ 100 ∧ ar 105 i = nI q) : rF_105 (nI s) S ar = some (nI (aPc ar s 0 m), S, ar) := by
  have go : ∀ r k nn t, k + r = m → r < nn → rF_105_4 nn (nI s) (nI t) (nI k) S ar = some (nI (t + aPc ar s k r), S, ar) := by
    intro r
    induction r with
    | zero =>
      intro k nn t h1 h2
      obtain ⟨nn, rfl⟩ : ∃ j, nn = j + 1 := ⟨nn - 1, by omega⟩
      unfold rF_105_4
      rw [h38, if_pos (nI_le (by omega) (by omega))]; rfl
    | succ r ih =>
      intro k nn t h1 h2
      obtain ⟨nn, rfl⟩ : ∃ j, nn = j + 1 := ⟨nn - 1, by omega⟩
      have e1 := bt_s1 (x := nI s) (k := k) (by omega)
      obtain ⟨q, a, b⟩ := hp k (by omega)
      have eu : aPc ar s k (r + 1) = (if bt (nI s) k = true then iN (ar 105 k) else 0) + aPc ar s (k + 1) r := rfl
      unfold rF_105_4
      rw [h38, if_neg (nI_ge (by omega) (by omega)), if_pos (iB_nI (show k < 6 by omega) (by decide)), iN_nI (by omega), nI_1, b, nI_add, Int32.add_zero, ih (k + 1) nn (t + q) (by omega) (by omega), ih (k + 1) nn t (by omega) (by omega), eu, b, iN_nI (by omega)]
      by_cases z : bt (nI s) k = true
      · rw [if_pos (e1.mpr z), if_pos z, Nat.add_assoc]
      · rw [if_neg (fun y => z (e1.mp y)), if_neg z, Nat.zero_add]
  have := go m 0 oF 0 (by omega) (by unfold oF; omega)
  rw [Nat.zero_add] at this
  exact this
theorem c_price (hM : fM m ar sc car) : xF_202 (nI s) sc mr car al = some (nI (aPc ar s 0 m), sc, mr, car, al) := by
  obtain ⟨hm, h5, hf⟩ := hM
  have go : ∀ r k nn t, k + r = m → r < nn → xF_202_4 nn (nI s) (nI t) (nI k) sc mr car al = some (nI (t + aPc ar s k r), sc, mr, car, al) := by
    intro r
    induction r with
    | zero =>
      intro k nn t h1 h2
      obtain ⟨nn, rfl⟩ : ∃ j, nn = j + 1 := ⟨nn - 1, by omega⟩
      unfold xF_202_4
      rw [h5, if_pos (nI_le (by omega) (by omega))]; rfl
    | succ r ih =>
      intro k nn t h1 h2
      obtain ⟨nn, rfl⟩ : ∃ j, nn = j + 1 := ⟨nn - 1, by omega⟩
      have e0 := bt_s0 (x := nI s) (k := k) (by omega)
      obtain ⟨-, -, -, q, a, b, b2⟩ := hf k (by omega)
      have eu : aPc ar s k (r + 1) = (if bt (nI s) k = true then iN (ar 105 k) else 0) + aPc ar s (k + 1) r := rfl
      unfold xF_202_4
      rw [h5, if_neg (nI_ge (by omega) (by omega)), if_pos (iB_nI (show k < 6 by omega) (by decide)), iN_nI (by omega), nI_1, b2, nI_add, ih (k + 1) nn (t + q) (by omega) (by omega), ih (k + 1) nn t (by omega) (by omega), eu, b, iN_nI (by omega)]
      by_cases z : bt (nI s) k = true
      · rw [if_neg (fun y => by rw [e0.mp y] at z; cases z), if_pos z, Nat.add_assoc]
      · rw [if_pos (e0.mpr (by simpa using z)), if_neg z, Nat.zero_add]
  have := go m 0 oF 0 (by omega) (by unfold oF; omega)
  rw [Nat.zero_add] at this
  exact this
end FT
