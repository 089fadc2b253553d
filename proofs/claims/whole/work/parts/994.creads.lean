/-! ClickOrders: the reader reads all of a text. -/
section CQ
variable {tx : Nat → Int32} {n p : Nat} {mr : Nat → Nat} {al : jAl}
theorem c_end {sc ar : jSc} {q : Nat} (h : c_TX sc ar n tx) (hq : q ≤ n) : xF_272 (cA sc q) mr ar al = some (if x_nb tx q < n then 0 else 1, cA sc (x_nb tx q), mr, ar, al) := by
  have hn := h.1.1
  have b1 := x_nb_le h.1 hq
  unfold xF_272
  rw [c_skips h hq, ob4, cA_2, cA_k (by decide), h.2.1]
  have e : nI (x_nb tx q) < nI n ↔ x_nb tx q < n := nI_ltI (by omega) (by omega)
  by_cases c : x_nb tx q < n
  · rw [if_pos (e.mpr c), if_pos c]
  · rw [if_neg (fun z => c (e.mp z)), if_neg c]
theorem c_plF {sc ar : jSc} {N kd : Nat} {x3 : Int32} (h : cZ n tx sc ar) (hk : sc 756 4 = nI kd) : xF_255_47 (N + 1) x3 sc mr ar al = some (nI kd, sc, mr, ar, al) := by
  obtain ⟨e1, e2⟩ := cZ_nb h
  have e := c_end (mr := mr) (al := al) h.1 (Nat.le_refl n)
  rw [e1, e2, if_neg (Nat.lt_irrefl n)] at e
  rw [c_47, hk, e, ob5, if_neg (show ¬ (1 : Int32) = 0 by decide), hk]
  split <;> rfl
theorem cFr_X {sc ar sc2 ar2 : jSc} (hp : x_pr p = true) (h : c_TX sc ar n tx) (f : cFr p sc ar sc2 ar2) : c_TX sc2 ar2 n tx := by
  have := x_pr_ne hp
  exact c_TX_S h (f.1 756 1 (by omega) (by omega)) (f.2 735 (by omega) (by omega) (by omega))
theorem c_pl (hp : x_pr p = true) (hmr : mr 4 = p) (hn : n ≤ 600) : ∀ (M N j q : Nat) (g : pG) (sc ar : jSc), n < M + q → n + 1 < N + q → j ≤ q → cG n tx p sc ar q g →
    (∀ g2, p_pl tx n M q g = .inr g2 → ∃ sc2 ar2 q2, xF_255_47 N (nI j) sc mr ar al = some (0, sc2, mr, ar2, al) ∧ cG n tx p sc2 ar2 q2 g2 ∧ cFr p sc ar sc2 ar2) ∧
    (∀ kd pl, p_pl tx n M q g = .inl (kd, pl) → ∃ sc2 ar2, xF_255_47 N (nI j) sc mr ar al = some (nI kd, sc2, mr, ar2, al) ∧ cFB n kd pl sc2 ∧ cFr p sc ar sc2 ar2) := by
  intro M
  induction M with
  | zero => intro N j q g sc ar h1 h2 h3 hG; have := hG.1.2.2.2.2.2.1; omega
  | succ M ih =>
    intro N j q g sc ar h1 h2 h3 hG
    have hK := hG.1
    have hT := hK.1
    have hq := hK.2.2.2.2.2.1
    obtain ⟨N, rfl⟩ : ∃ N', N = N' + 1 := ⟨N - 1, by omega⟩
    have b0 := (x_nb_ok hT.1 q).1
    have b1 := x_nb_le hT.1 hq
    have e0 := x_nb_idem hT.1 q
    have e := c_end (mr := mr) (al := al) hT hq
    rw [cA_i hK.2.1] at e
    have hl : ¬ sc 756 1 < nI j := by
      rw [hT.2.1]
      exact fun z => absurd ((nI_ltI (by omega) (by omega)).mp z) (by omega)
    have ew : xF_255_47 (N + 1) (nI j) sc mr ar al = xF_255_47 (N + 1) (nI j) sc mr ar al := rfl
    conv at ew => rhs; rw [c_47]
    rw [if_neg hl, e, ob5, cA_2] at ew
    have G1 := cG_A hp hG b0 b1
    have pe : p_pl tx n (M + 1) q g = if n ≤ x_nb tx q then .inr g else (match p_pt tx (x_nb tx q) g with | .inl e => .inl e | .inr (g2, q2) => p_pl tx n M q2 g2) := rfl
    rw [pe]
    by_cases c : x_nb tx q < n
    · rw [if_pos c, if_pos rfl] at ew
      rw [if_neg (by omega)]
      obtain ⟨v1, v2⟩ := c_pt (al := al) hp hmr hn G1 e0
      rcases pp : p_pt tx (x_nb tx q) g with ⟨kd1, pl1⟩ | ⟨g2, q2⟩
      · refine ⟨fun g2 hpp => (by cases hpp), fun kd pl hpp => ?_⟩
        cases hpp
        obtain ⟨sc2, ar2, r1, r2, r3⟩ := v2 _ _ pp
        obtain ⟨N, rfl⟩ : ∃ N', N = N' + 1 := ⟨N - 1, by omega⟩
        have r4 := cFr_tr (cFr_c (p := p) (sc := sc) (ar := ar) (w := x_nb tx q)) r3
        have hz : cZ n tx sc2 ar2 := ⟨cFr_X hp hT r4, r2.2.2.2, by rw [r2.2.1]; exact nI_ne0 (by have := r2.1; omega) (by have := r2.1; omega)⟩
        exact ⟨sc2, ar2, by rw [ew, r1, ob4]; exact c_plF hz r2.2.1, r2, r4⟩
      · obtain ⟨r0, r1, sc2, ar2, r2, r3, r4⟩ := v1 _ _ pp
        have r5 := cFr_tr (cFr_c (p := p) (sc := sc) (ar := ar) (w := x_nb tx q)) r4
        obtain ⟨u1, u2⟩ := ih N (j + 1) q2 g2 sc2 ar2 (by omega) (by omega) (by omega) r3
        rw [ew, r2, ob4, nI_1]
        refine ⟨fun g3 hpp => ?_, fun kd pl hpp => ?_⟩
        · obtain ⟨sc3, ar3, q3, s1, s2, s3⟩ := u1 g3 hpp
          exact ⟨sc3, ar3, q3, s1, s2, cFr_tr r5 s3⟩
        · obtain ⟨sc3, ar3, s1, s2, s3⟩ := u2 kd pl hpp
          exact ⟨sc3, ar3, s1, s2, cFr_tr r5 s3⟩
    · rw [if_neg c, if_neg (by decide)] at ew
      rw [if_pos (by omega)]
      refine ⟨fun g2 hpp => ?_, fun kd pl hpp => (by cases hpp)⟩
      cases hpp
      have h4 : cA sc (x_nb tx q) 756 4 = 0 := G1.1.2.2.2.1
      exact ⟨_, _, _, by rw [ew, h4], G1, cFr_c⟩
theorem c_fill {P m : Nat} {x : Int32} {sc ar : jSc} (hm : m < 9000) : ∃ ar2, xF_503 P m x sc mr ar al = some (sc, mr, ar2, al) ∧ (∀ j, j < m → ar2 P j = x) ∧ ∀ b, b ≠ P → ar2 b = ar b := by
  have go : ∀ (k j nn : Nat) (ar : jSc), j + k = m → k < nn → ∃ ar2, xF_503_5 nn P m x (nI j) (nI m) sc mr ar al = some (sc, mr, ar2, al) ∧ (∀ i, j ≤ i → i < m → ar2 P i = x) ∧ (∀ i, i < j → ar2 P i = ar P i) ∧ ∀ b, b ≠ P → ar2 b = ar b := by
    intro k
    induction k with
    | zero =>
      intro j nn ar h1 h2
      obtain ⟨nn, rfl⟩ : ∃ i, nn = i + 1 := ⟨nn - 1, by omega⟩
      refine ⟨ar, ?_, fun i a b => absurd a (by omega), fun _ _ => rfl, fun _ _ => rfl⟩
      unfold xF_503_5
      rw [if_pos ((nI_leI (a := m) (b := j) (by omega) (by omega)).mpr (by omega))]
    | succ k ih =>
      intro j nn ar h1 h2
      obtain ⟨nn, rfl⟩ : ∃ i, nn = i + 1 := ⟨nn - 1, by omega⟩
      obtain ⟨ar2, a1, a2, a3, a4⟩ := ih (j + 1) nn (j_u2 ar P j x) (by omega) (by omega)
      refine ⟨ar2, ?_, fun i hi1 hi2 => ?_, fun i hi => ?_, fun b hb => (a4 b hb).trans (j_u2_row _ _ _ _ hb)⟩
      · unfold xF_503_5
        rw [if_neg (fun z => absurd ((nI_leI (a := m) (b := j) (by omega) (by omega)).mp z) (by omega)), if_pos (iB_nI (by omega) (by omega)), iN_nI (by omega), nI_1]
        exact a1
      · by_cases c : i = j
        · rw [c, a3 j (by omega), u2_eq]
        · exact a2 i (by omega) hi2
      · rw [a3 i (by omega), u2_nk (by omega)]
  obtain ⟨ar2, a1, a2, a3, a4⟩ := go m 0 oF ar (by omega) (by unfold oF; omega)
  exact ⟨ar2, a1, fun j hj => a2 j (by omega) hj, a4⟩
theorem c_cnt0 : ∀ k, hN (fun _ => none) k = 0
  | 0 => rfl
  | k + 1 => by simp [hN, c_cnt0 k]
/-- the reader reads the text into the program p -/
theorem c_reads {sc ar : jSc} (hp : x_pr p = true) (hx : x_tx n tx) (hn : n ≤ 600) (h7 : ∀ j, j < n → ar 735 j = tx j) :
    (∀ g, p_pl tx n 700 0 g0 = .inr g → ∃ sc2 ar2 q2, xF_255 (nI n) p sc mr ar al = some (0, sc2, va_up mr 4 p, ar2, al) ∧ cG n tx p sc2 ar2 q2 g ∧ (∀ a k, ¬ a = 756 → ¬ (a = p ∧ 3 ≤ k ∧ k ≤ 8) → sc2 a k = sc a k) ∧ ∀ b, b ≠ p + 1 → b ≠ p + 2 → b ≠ p + 3 → ar2 b = ar b) ∧
    (∀ kd pl, p_pl tx n 700 0 g0 = .inl (kd, pl) → ∃ sc2 ar2, xF_255 (nI n) p sc mr ar al = some (nI kd, sc2, va_up mr 4 p, ar2, al) ∧ cFB n kd pl sc2 ∧ (∀ a k, ¬ a = 756 → ¬ (a = p ∧ 3 ≤ k ∧ k ≤ 8) → sc2 a k = sc a k) ∧ ∀ b, b ≠ p + 1 → b ≠ p + 2 → b ≠ p + 3 → ar2 b = ar b) := by
  have hne := x_pr_ne hp
  have e6 : (if (Int32.ofNat 600) < nI n then (Int32.ofNat 600) else nI n) = nI n := if_neg (fun z => absurd ((nI_ltI (a := 600) (b := n) (by decide) (by omega)).mp z) (by omega))
  have ew : xF_255 (nI n) p sc mr ar al = xF_255 (nI n) p sc mr ar al := rfl
  conv at ew => rhs; unfold xF_255 xF_251
  rw [e6, if_pos hp] at ew
  generalize hS : j_u2 (j_u2 (j_u2 (j_u2 (j_u2 sc 756 1 (nI n)) 756 2 0) 756 3 0) 756 4 0) 756 6 (-1) = S at ew
  obtain ⟨A, a1, a2, a3⟩ := c_fill (P := p + 3) (m := 17) (x := -1) (sc := S) (ar := ar) (mr := va_up mr 4 p) (al := al) (by decide)
  rw [a1, ob4, ob4] at ew
  generalize hR : j_u2 (j_u2 (j_u2 (j_u2 (j_u2 (j_u2 S p 3 0) p 4 0) p 5 0) p 6 0) p 7 (-1)) p 8 (-1) = R at ew
  have fS : ∀ a k, ¬ a = 756 → S a k = sc a k := fun a k h => by
    rw [← hS, u2_na h, u2_na h, u2_na h, u2_na h, u2_na h]
  have fR : ∀ a k, ¬ a = p → R a k = S a k := fun a k h => by
    rw [← hR, u2_na h, u2_na h, u2_na h, u2_na h, u2_na h, u2_na h]
  have gR' : ∀ a k, ¬ a = 756 → ¬ (a = p ∧ 3 ≤ k ∧ k ≤ 8) → R a k = sc a k := fun a k h h2 => by
    by_cases c : a = p
    · subst c
      rw [← hR, u2_nk (by omega), u2_nk (by omega), u2_nk (by omega), u2_nk (by omega), u2_nk (by omega), u2_nk (by omega)]
      exact fS _ _ h
    · rw [fR a k c]
      exact fS _ _ h
  have S1 : S 756 1 = nI n := by rw [← hS, u2_nk (by decide), u2_nk (by decide), u2_nk (by decide), u2_nk (by decide), u2_eq]
  have S2 : S 756 2 = nI 0 := by rw [← hS, u2_nk (by decide), u2_nk (by decide), u2_nk (by decide), u2_eq]; rfl
  have S3 : S 756 3 = nI 0 := by rw [← hS, u2_nk (by decide), u2_nk (by decide), u2_eq]; rfl
  have S4 : S 756 4 = 0 := by rw [← hS, u2_nk (by decide), u2_eq]
  have S6 : S 756 6 = -1 := by rw [← hS, u2_eq]
  have G : cG n tx p R A 0 g0 := by
    refine ⟨⟨⟨hx, (fR 756 1 (by omega)).trans S1, fun j hj => ?_⟩, (fR 756 2 (by omega)).trans S2, (fR 756 3 (by omega)).trans S3, (fR 756 4 (by omega)).trans S4, ?_, Nat.zero_le _, Nat.le_refl _⟩, trivial, ?_, ⟨?_, Nat.zero_le _⟩, fun e he => a2 e he, ?_, ?_, ?_, fun e x h => (by cases h), (fR 756 6 (by omega)).trans S6⟩
    · rw [a3 735 (by omega)]
      exact h7 j hj
    · rw [← hR, u2_nk (by decide), u2_nk (by decide), u2_nk (by decide), u2_nk (by decide), u2_nk (by decide), u2_eq]; rfl
    · rw [← hR, u2_nk (by decide), u2_nk (by decide), u2_eq]; rfl
    · rw [← hR, u2_nk (by decide), u2_nk (by decide), u2_nk (by decide), u2_nk (by decide), u2_eq]; rfl
    · rw [← hR, u2_nk (by decide), u2_nk (by decide), u2_nk (by decide), u2_eq]
      show (0 : Int32) = nI (hN (fun _ => none) 17)
      rw [c_cnt0]
      rfl
    · rw [← hR, u2_nk (by decide), u2_eq]; rfl
    · rw [← hR, u2_eq]; rfl
  obtain ⟨v1, v2⟩ := c_pl (tx := tx) (al := al) (mr := va_up mr 4 p) hp (va_up_self _ _ _) hn 700 oF 0 0 g0 R A (by omega) (by unfold oF; omega) (Nat.le_refl 0) G
  refine ⟨fun g hg => ?_, fun kd pl hg => ?_⟩
  · obtain ⟨sc2, ar2, q2, r1, r2, r3⟩ := v1 g hg
    exact ⟨sc2, ar2, q2, ew.trans r1, r2, fun a k h h2 => (r3.1 a k (fun z => h z.1) h2).trans (gR' a k h h2), fun b x y z => (r3.2 b x y z).trans (a3 b z)⟩
  · obtain ⟨sc2, ar2, r1, r2, r3⟩ := v2 kd pl hg
    exact ⟨sc2, ar2, ew.trans r1, r2, fun a k h h2 => (r3.1 a k (fun z => h z.1) h2).trans (gR' a k h h2), fun b x y z => (r3.2 b x y z).trans (a3 b z)⟩
end CQ
