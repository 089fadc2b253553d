/-! THE CHEAPEST SET, in ClickOrders: all of it. -/
theorem bSet_u {ar : jSc} {m : Nat} {sf : Nat → Bool} {v w : Int32} (hm : m ≤ 6) (h : bSet ar m sf (2 ^ m) v) (h2 : bSet ar m sf (2 ^ m) w) : v = w := by
  have p64 := p2_64 hm
  rcases h with ⟨a, b⟩ | ⟨t, t1, t2, t3, t4⟩
  · rcases h2 with ⟨c, d⟩ | ⟨q, q1, q2, q3, q4⟩
    · rw [a, c]
    · rw [b q q1] at q3; cases q3
  · rcases h2 with ⟨c, d⟩ | ⟨q, q1, q2, q3, q4⟩
    · rw [d t t1] at t3; cases t3
    · have := t4 q q1 q3
      have := q4 t t1 t3
      have e : t = q := rk_inj (ar := ar) (m := m) (by omega) (by omega) (by omega)
      rw [t2, q2, e]
/-- the set that is kept -/
def cSt (S0 : Nat → Int32) (ar0 : jSc) (m : Nat) (g : pG) (sc : jSc) : Prop := sc 734 13 = -1 ∨ ∃ n0 k most, n0 ≤ 8 ∧ k ≤ 3 ∧ 1 ≤ most ∧ most ≤ 600 ∧ sc 734 13 = nI ((n0 * 4 + k) * 1024 + most) ∧ bSet ar0 m (fun t => aSafe S0 (arT ar0 m t) m g most n0 k) (2 ^ m) (sc 734 14)
section CH
variable {S0 : Nat → Int32} {ar0 : jSc} {mr : Nat → Nat} {pr n p m : Nat} {tx : Nat → Int32} {g : pG} {most n0 k s : Nat}
theorem c_loop (hm : m ≤ 6) (hp : ∀ i, i < m → ∃ q, q ≤ 100 ∧ ar0 105 i = nI q) (h0 : mr 0 = p) (hk : k ≤ 3) (h1 : 1 ≤ most) (h6 : most ≤ 600) (hn : n0 ≤ 8) {x4 : Int32} : ∀ (r c nn F : Nat) (x7 : Int32) (sc car : jSc) (al : jAl), c + r = 64 → r + 1 < nn → lV pr n tx g p m S0 ar0 mr n0 sc car → sc 734 14 = -1 → lWk g m ar0 (fun t => aSafe S0 (arT ar0 m t) m g most n0 k) sc al → (∀ q, q < 2 ^ m → rk ar0 m q < F → aSafe S0 (arT ar0 m q) m g most n0 k = false) → c ≤ cN (fun q => decide (rk ar0 m q < F)) (2 ^ m) → ((x7 = -1 ∧ ∀ q, q < 2 ^ m → rk ar0 m q < F) ∨ ∃ t, t < 2 ^ m ∧ x7 = nI t ∧ F ≤ rk ar0 m t ∧ ∀ q, q < 2 ^ m → F ≤ rk ar0 m q → rk ar0 m t ≤ rk ar0 m q) →
    ∃ sc9 car9 al9, xF_344_99 nn (nI n0) (nI k) (nI most) x4 (nI s) x7 (nI c) sc mr car al = o_b4 (xF_201 (nI s) sc9 mr car9 al9) (fun sce5 mre5 are5 ale5 => (o_b4 (xF_283 sce5 mre5 are5 ale5) (fun sce6 mre6 are6 ale6 => xF_344_207 x4 sce6 mre6 are6 ale6))) ∧ lV pr n tx g p m S0 ar0 mr n0 sc9 car9 ∧ cF9 sc car al sc9 car9 al9 ∧ bSet ar0 m (fun t => aSafe S0 (arT ar0 m t) m g most n0 k) (2 ^ m) (sc9 734 14) := by
  have p64 := p2_64 hm
  intro r
  induction r with
  | zero =>
    intro c nn F x7 sc car al a1 a2 a3 a4 a5 a6 a7 a8
    obtain ⟨nn, rfl⟩ : ∃ j, nn = j + 1 := ⟨nn - 1, by omega⟩
    rw [xF_344_99]
    rw [if_pos (show (64 : Int32) ≤ nI c from nI_le (a := 64) (by omega) (by omega))]
    have a3' := a3
    obtain ⟨⟨A, hr, hE⟩, -⟩ := a3'
    refine ⟨sc, car, al, rfl, a3, ⟨fun _ _ _ _ _ _ _ => rfl, fun _ _ _ _ => rfl, hE.2.2, fun _ _ => rfl⟩, Or.inl ⟨a4, fun q hq => ?_⟩⟩
    have := cN_all (f := fun q => decide (rk ar0 m q < F)) (N := 2 ^ m) (by omega) q hq
    exact a6 q hq (of_decide_eq_true this)
  | succ r ih =>
    intro c nn F x7 sc car al a1 a2 a3 a4 a5 a6 a7 a8
    obtain ⟨nn, rfl⟩ : ∃ j, nn = j + 1 := ⟨nn - 1, by omega⟩
    have a3' := a3
    obtain ⟨⟨A, hr, hE⟩, hMf, hR, -⟩ := a3'
    rw [xF_344_99]
    rw [if_neg (show ¬ (64 : Int32) ≤ nI c from nI_ge (b := 64) (by omega) (by decide))]
    rcases a8 with ⟨b1, b2⟩ | ⟨t, t1, t2, t3, t4⟩
    · rw [b1, if_pos (show (-1 : Int32) < 0 by decide)]
      exact ⟨sc, car, al, rfl, a3, ⟨fun _ _ _ _ _ _ _ => rfl, fun _ _ _ _ => rfl, hE.2.2, fun _ _ => rfl⟩, Or.inl ⟨a4, fun q hq => a6 q hq (b2 q hq)⟩⟩
    · rw [t2, if_neg (nI_pos (by omega)), if_neg (show ¬ (0 : Int32) ≤ sc 734 14 by rw [a4]; decide), nI_1]
      obtain ⟨sc9, car9, al9, e1, e2, e3, e4⟩ := c_try (k := k) (most := most) (nn := nn) (x4 := x4) (x6 := nI s) (x8 := nI (c + 1)) t1 a3 a5 h0 a4 hk h1 h6 hn
      rw [e1]
      obtain ⟨v, f1, f2⟩ := c_nx (mr := mr) (al := al9) e2.2.1 e2.2.2.1 t1
      rw [f1, ob5]
      rcases e4 with ⟨g1, g2⟩ | ⟨g1, g2, g3⟩
      · -- found
        obtain ⟨nn, rfl⟩ : ∃ j, nn = j + 1 := ⟨nn - 1, by omega⟩
        refine ⟨sc9, car9, al9, ?_, e2, e3, Or.inr ⟨t, t1, g1, g2, fun q hq hs => ?_⟩⟩
        · rw [xF_344_99]
          by_cases z : (64 : Int32) ≤ nI (c + 1)
          · rw [if_pos z]
          · rw [if_neg z]
            by_cases y : v < 0
            · rw [if_pos y]
            · rw [if_neg y, if_pos (show (0 : Int32) ≤ sc9 734 14 by rw [g1]; exact nI_le (a := 0) (by omega) (by omega))]
        · by_cases z : rk ar0 m q < F
          · have hs' : aSafe S0 (arT ar0 m q) m g most n0 k = true := hs
            rw [a6 q hq z] at hs'; cases hs'
          · exact t4 q hq (by omega)
      · -- not found
        have un : ∀ q, q < 2 ^ m → rk ar0 m q < rk ar0 m t + 1 → aSafe S0 (arT ar0 m q) m g most n0 k = false := by
          intro q hq hl
          by_cases z : rk ar0 m q < F
          · exact a6 q hq z
          · have := t4 q hq (by omega)
            have e : q = t := rk_inj (ar := ar0) (m := m) (by omega) (by omega) (by omega)
            rw [e]; exact g2
        obtain ⟨sc8, car8, al8, k1, k2, k3, k4⟩ := ih (c + 1) nn (rk ar0 m t + 1) v sc9 car9 al9 (by omega) (by omega) e2 g1 g3 un (by
          have := cN_lt (f := fun q => decide (rk ar0 m q < F)) (f2 := fun q => decide (rk ar0 m q < rk ar0 m t + 1)) (t := t) (fun q h => decide_eq_true (by have := of_decide_eq_true h; omega)) (decide_eq_false (by omega)) (decide_eq_true (by omega)) (N := 2 ^ m) t1
          omega) f2
        exact ⟨sc8, car8, al8, k1, k2, cF9_tr e3 k3, k4⟩
/-- the frame of the whole call -/
def cFA (sc car : jSc) (al : jAl) (sc2 car2 : jSc) (al2 : jAl) : Prop := (∀ a k, ¬ (a = 757 ∧ 3 ≤ k ∧ k ≤ 9) → a ≠ 773 → ¬ (a = 774 ∧ (k = 0 ∨ k = 4 ∨ k = 5)) → ¬ (a = 736 ∧ 7 ≤ k ∧ k ≤ 11) → ¬ (a = 734 ∧ (k = 13 ∨ k = 14)) → sc2 a k = sc a k) ∧ (∀ b, b ≠ 758 → b ≠ 741 → b ≠ 742 → ¬ (775 ≤ b ∧ b ≤ 795) → car2 b = car b) ∧ sc2 757 5 = 0 ∧ ∀ b, b ≠ 743 → al2 b = al b
theorem arT_id {sc : jSc} (hO : fO m s ar0 sc) : arT ar0 m s = ar0 := by
  funext b i
  by_cases z : b = 106
  · subst z
    unfold arT
    rw [va_up_self]
    by_cases y : i < m
    · rw [if_pos y, hO.2.2 i y]
    · rw [if_neg y]
  · rw [arT_o z]
/-- what is answered -/
theorem c_ans7 {sc car : jSc} {al : jAl} {v : Int32} {wt : Nat} {sf : Nat → Bool} (hM : fM m ar0 sc car) (hv : sc 734 14 = v) (hB : bSet ar0 m sf (2 ^ m) v) (hwt : wt < 2) : xF_344_207 (nI wt) sc mr car al = some (aAns ar0 m v (nI wt), sc, mr, car, al) := by
  have p64 := p2_64 hM.1
  unfold xF_344_207 aAns
  rw [hv]
  rcases hB with ⟨a, -⟩ | ⟨b, b1, b2, -⟩
  · rw [a, if_pos (show (-1 : Int32) < 0 by decide), if_pos rfl]
  · rw [b2, if_neg (nI_pos (by omega)), if_neg (nI_nm (by omega)), c_price hM, ob5, iN_nI (by omega)]
    rcases (show wt = 0 ∨ wt = 1 by omega) with rfl | rfl
    · rw [if_pos (show nI 0 = (0 : Int32) from rfl), if_pos (show nI 0 = (0 : Int32) from rfl)]
    · rw [if_neg (show ¬ nI 1 = (0 : Int32) by decide), if_neg (show ¬ nI 1 = (0 : Int32) by decide)]
/-- cheapest -/
theorem c_cheap {sc car : jSc} {al : jAl} (hE : cE pr n tx g p m S0 ar0 sc car mr) (hKy : cKy S0 ar0 m g sc car) (hMf : fM m ar0 sc car) (hO : fO m s ar0 sc) (h0 : mr 0 = p) (h6p : sc p 6 = o_ak g.1 0) (hC : cSt S0 ar0 m g sc) (hk : k ≤ 3) (h1 : 1 ≤ most) (h6 : most ≤ 600) (hn : n0 ≤ 8) {wt : Nat} (hwt : wt < 2) : ∃ v sc2 car2 al2, xF_344 (nI n0) (nI k) (nI most) (nI wt) sc mr car al = some (aAns ar0 m v (nI wt), sc2, mr, car2, al2) ∧ bSet ar0 m (fun t => aSafe S0 (arT ar0 m t) m g most n0 k) (2 ^ m) v ∧ cSt S0 ar0 m g sc2 ∧ cE pr n tx g p m S0 ar0 sc2 car2 mr ∧ cKy S0 ar0 m g sc2 car2 ∧ cFA sc car al sc2 car2 al2 := by
  have hm := hMf.1
  have p64 := p2_64 hm
  have xp := hE.1.2.1.1
  have hpn := x_pr_ne xp
  have hp : ∀ i, i < m → ∃ q, q ≤ 100 ∧ ar0 105 i = nI q := fun i hi => by
    obtain ⟨-, -, -, q, a, b, -⟩ := hMf.2.2 i hi
    exact ⟨q, a, b⟩
  have r3 : xF_358 (nI k) sc mr car al = some (sc, mr, car, al) := by
    unfold xF_358
    rw [if_neg (nI_pos (by omega)), if_pos (show nI k ≤ (3 : Int32) from nI_le (b := 3) (by omega) (by decide))]
  have ek : ((nI n0 * (4 : Int32)) + nI k) * (1024 : Int32) + nI most = nI ((n0 * 4 + k) * 1024 + most) := by
    rw [show nI n0 * (4 : Int32) = nI (n0 * 4) from nI_mul _ 4, nI_add, show nI (n0 * 4 + k) * (1024 : Int32) = nI ((n0 * 4 + k) * 1024) from nI_mul _ 1024, nI_add]
  unfold xF_344
  rw [c_rows h1 h6 hn, ob4, r3, ob4, if_neg (nI_pos (by omega)), if_pos (show nI wt ≤ (1 : Int32) from nI_le (b := 1) (by omega) (by decide)), ek]
  by_cases z : nI ((n0 * 4 + k) * 1024 + most) = sc 734 13
  · rw [if_pos z]
    rcases hC with c | ⟨n1, k1, m1, q1, q2, q3, q4, q5, q6⟩
    · rw [c] at z; exact absurd z (nI_nm (by omega))
    · rw [q5] at z
      have e := (nI_eq (by omega) (by omega)).mp z
      have e1 : n0 = n1 := by omega
      have e2 : k = k1 := by omega
      have e3 : most = m1 := by omega
      subst e1; subst e2; subst e3
      rw [c_ans7 (mr := mr) (al := al) hMf rfl q6 hwt]
      exact ⟨_, sc, car, al, rfl, q6, Or.inr ⟨n0, k, most, q1, q2, q3, q4, q5, q6⟩, hE, hKy, ⟨fun _ _ _ _ _ _ _ => rfl, fun _ _ _ _ _ => rfl, hE.2.2, fun _ _ => rfl⟩⟩
  · rw [if_neg z]
    generalize hs1 : j_u2 (j_u2 sc 734 13 (nI ((n0 * 4 + k) * 1024 + most))) 734 14 (-1 : Int32) = sc1
    have s1 : ∀ a q, ¬ (a = 734 ∧ (q = 13 ∨ q = 14)) → sc1 a q = sc a q := fun a q h => by rw [← hs1]; exact (if_neg (fun w => h ⟨w.1, Or.inr w.2⟩)).trans (if_neg (fun w => h ⟨w.1, Or.inl w.2⟩))
    have s14 : sc1 734 14 = -1 := by rw [← hs1]; exact u2_eq
    have s13 : sc1 734 13 = nI ((n0 * 4 + k) * 1024 + most) := by rw [← hs1, u2_nk (by decide)]; exact u2_eq
    have hM1 : fM m ar0 sc1 car := ⟨hMf.1, (s1 736 5 (by omega)).trans hMf.2.1, hMf.2.2⟩
    obtain ⟨car2, e1, e2, e3⟩ := c_ranks (mr := mr) (al := al) hM1
    rw [e1, ob4]
    unfold xF_284
    rw [ob4]
    generalize hs2 : j_u2 (j_u2 sc1 736 11 0) 773 18 (-1 : Int32) = sc2
    have s2 : ∀ a q, ¬ (a = 736 ∧ q = 11) → ¬ (a = 773 ∧ q = 18) → sc2 a q = sc1 a q := fun a q h h' => by rw [← hs2]; exact (if_neg h').trans (if_neg h)
    have t11 : sc2 736 11 = 0 := by rw [← hs2, u2_na (by decide)]; exact u2_eq
    have t18 : sc2 773 18 = -1 := by rw [← hs2]; exact u2_eq
    have hE2 : cE pr n tx g p m S0 ar0 sc2 car2 mr := by
      obtain ⟨⟨h1', ⟨c1, ⟨c2, c2b⟩, c3, c4, c5⟩, h3, h4, h5, h6', h7⟩, h29, h5'⟩ := hE
      exact ⟨⟨h1', ⟨c1, ⟨by rw [s2 p 3 (by omega) (by omega), s1 p 3 (by omega)]; exact c2, fun i hi => by rw [e3 (p + 1) (by omega), e3 (p + 2) (by omega)]; exact c2b i hi⟩, fun e he => by rw [e3 (p + 3) (by omega)]; exact c3 e he, by rw [s2 p 7 (by omega) (by omega), s1 p 7 (by omega)]; exact c4, by rw [s2 p 8 (by omega) (by omega), s1 p 8 (by omega)]; exact c5⟩, h3, h4, h5, h6', h7.1, fun l hl => by rw [s2 736 8 (by omega) (by omega), s1 736 8 (by omega)]; exact h7.2.1 l hl, fun l hl => by rw [s2 736 7 (by omega) (by omega), s1 736 7 (by omega)]; exact h7.2.2.1 l hl, fun t l ht hl => by rw [e3 741 (by decide)]; exact h7.2.2.2 t l ht hl⟩, h29, by rw [s2 757 5 (by omega) (by omega), s1 757 5 (by omega)]; exact h5'⟩
    have hM2 : fM m ar0 sc2 car2 := ⟨hMf.1, by rw [s2 736 5 (by omega) (by omega)]; exact hM1.2.1, fun i hi => by rw [e3 737 (by decide), e3 738 (by decide), e3 739 (by decide), e3 740 (by decide)]; exact hMf.2.2 i hi⟩
    have L2 : ∃ L, hM L sc2 car2 := by
      obtain ⟨⟨L, hL⟩, -⟩ := hKy
      exact ⟨L, hM_c hL (by rw [s2 774 0 (by omega) (by omega), s1 774 0 (by omega)]) (fun b _ _ => e3 b (by omega))⟩
    have nx : ∃ v, xF_204 (-1) sc2 mr car2 al = some (v, sc2, mr, car2, al) ∧ ((v = -1 ∧ ∀ t, t < 2 ^ m → rk ar0 m t < 0) ∨ ∃ t, t < 2 ^ m ∧ v = nI t ∧ 0 ≤ rk ar0 m t ∧ ∀ q, q < 2 ^ m → 0 ≤ rk ar0 m q → rk ar0 m t ≤ rk ar0 m q) := by
      unfold xF_204
      rw [if_pos (show (-1 : Int32) < 0 by decide)]
      refine c_next hM2 e2 (fun t _ => ⟨fun w => ?_, fun w => absurd w (by omega)⟩)
      have l := rk_lt (s := t) hm hp
      have g0 : (0 : Int32) ≤ nI (rk ar0 m t) := nI_le (a := 0) (by omega) (by omega)
      exact absurd (Int32.le_trans g0 w) (by decide)
    obtain ⟨v0, n1, n2⟩ := nx
    rw [n1, ob5, hO.2.1]
    obtain ⟨sc9, car9, al9, f1, f2, f3, f4⟩ := c_loop (s := s) (k := k) (most := most) (n0 := n0) hm hp h0 hk h1 h6 hn (x4 := nI wt) 64 0 oF 0 v0 sc2 car2 al (by omega) (by unfold oF; omega) ⟨⟨ar0, fun _ _ => rfl, hE2⟩, hM2, e2, by rw [s2 p 6 (by omega) (by omega), s1 p 6 (by omega)]; exact h6p, L2, Or.inl t18⟩ (by rw [s2 734 14 (by omega) (by omega)]; exact s14) ⟨0, t11, by omega, fun j hj => absurd hj (by omega)⟩ (fun q _ hq => absurd hq (by omega)) (Nat.zero_le _) n2
    rw [show nI 0 = (0 : Int32) from rfl] at f1
    rw [f1]
    obtain ⟨⟨A, hr, hE9⟩, hM9, -, -, hL9, -⟩ := f2
    obtain ⟨sc10, car10, g1, g2, g3, g4, g5⟩ := c_turns (mr := mr) (al := al9) hM9 hO.1
    rw [g1, ob4]
    unfold xF_283
    rw [ob4]
    have hE10 := cE_turn hr hE9 g2 g4 g5
    rw [arT_id hO] at hE10
    generalize hs11 : j_u2 sc10 773 16 (-1 : Int32) = sc11
    have s11 : ∀ a q, ¬ (a = 773 ∧ q = 16) → sc11 a q = sc10 a q := fun a q h => by rw [← hs11]; exact if_neg h
    have hE11 : cE pr n tx g p m S0 ar0 sc11 car10 mr := cE_lo hE10 (fun a ha => funext fun j => s11 a j (by omega)) (fun _ _ => rfl) (s11 757 5 (by omega))
    have d14 : sc11 734 14 = sc9 734 14 := by rw [s11 734 14 (by omega), g4 734 14 (by omega)]
    have d13 : sc11 734 13 = nI ((n0 * 4 + k) * 1024 + most) := by rw [s11 734 13 (by omega), g4 734 13 (by omega), f3.1 734 13 (by omega) (by omega) (by omega) (by omega) (by omega), s2 734 13 (by omega) (by omega)]; exact s13
    have hM11 : fM m ar0 sc11 car10 := ⟨hm, by rw [s11 736 5 (by omega), g4 736 5 (by omega)]; exact hM9.2.1, fun i hi => by rw [g5 737 (by decide), g5 738 (by decide), g5 739 (by decide), g5 740 (by decide)]; exact hM9.2.2 i hi⟩
    rw [c_ans7 (mr := mr) (al := al9) hM11 d14 f4 hwt]
    refine ⟨_, sc11, car10, al9, rfl, f4, Or.inr ⟨n0, k, most, hn, hk, h1, h6, d13, by rw [d14]; exact f4⟩, hE11, ⟨?_, Or.inl (by rw [← hs11]; exact u2_eq)⟩, ⟨fun a q u1 u2 u3 u4 u5 => ?_, fun b u1 u2 u3 u4 => ?_, by rw [s11 757 5 (by omega), g4 757 5 (by omega)]; exact f3.2.2.1, f3.2.2.2⟩⟩
    · obtain ⟨L, hL⟩ := hL9
      exact ⟨L, hM_c hL (by rw [s11 774 0 (by omega), g4 774 0 (by omega)]) (fun b _ _ => g5 b (by omega))⟩
    · rw [s11 a q (by omega)]
      by_cases y : a = 736 ∧ q = 6
      · obtain ⟨rfl, rfl⟩ := y
        rw [g3, hO.2.1]
      · rw [g4 a q (by omega), f3.1 a q u1 u2 u3 (by omega) (by omega), s2 a q (by omega) (by omega), s1 a q (by omega)]
    · rw [g5 b u2, f3.2.1 b u1 u2 u4, e3 b u3]
end CH
