/-! THE CHEAPEST SET, in ClickOrders. -/
def cF9 (sc car : jSc) (al : jAl) (sc2 car2 : jSc) (al2 : jAl) : Prop := (∀ a k, ¬ (a = 757 ∧ 3 ≤ k ∧ k ≤ 9) → a ≠ 773 → ¬ (a = 774 ∧ (k = 0 ∨ k = 4 ∨ k = 5)) → ¬ (a = 736 ∧ 6 ≤ k ∧ k ≤ 11) → ¬ (a = 734 ∧ k = 14) → sc2 a k = sc a k) ∧ (∀ b, b ≠ 758 → b ≠ 741 → ¬ (775 ≤ b ∧ b ≤ 795) → car2 b = car b) ∧ sc2 757 5 = 0 ∧ ∀ b, b ≠ 743 → al2 b = al b
theorem cF9_tr {a b a2 b2 a3 b3 : jSc} {c c2 c3 : jAl} (h : cF9 a b c a2 b2 c2) (h2 : cF9 a2 b2 c2 a3 b3 c3) : cF9 a b c a3 b3 c3 := ⟨fun x k u v w y z => (h2.1 x k u v w y z).trans (h.1 x k u v w y z), fun x u v w => (h2.2.1 x u v w).trans (h.2.1 x u v w), h2.2.2.1, fun x u => (h2.2.2.2 x u).trans (h.2.2.2 x u)⟩
theorem cF9_Q {a b a2 b2 : jSc} {c : jAl} (h : uQz a b a2 b2) : cF9 a b c a2 b2 c := ⟨fun x k u v w _ _ => h.1 x k u v w, fun x u _ w => h.2.1 x u w, h.2.2, fun _ _ => rfl⟩
def cN (f : Nat → Bool) : Nat → Nat
  | 0 => 0
  | k + 1 => cN f k + (if f k = true then 1 else 0)
theorem cN_le {f f2 : Nat → Bool} (h : ∀ q, f q = true → f2 q = true) : ∀ {N : Nat}, cN f N ≤ cN f2 N
  | 0 => Nat.le_refl _
  | N + 1 => by
    have := cN_le h (N := N)
    unfold cN
    cases a : f N
    · cases b : f2 N <;> simp <;> omega
    · rw [h N a]; simp; omega
theorem cN_lt {f f2 : Nat → Bool} (h : ∀ q, f q = true → f2 q = true) {t : Nat} (ht : f t = false) (ht2 : f2 t = true) : ∀ {N : Nat}, t < N → cN f N + 1 ≤ cN f2 N
  | 0, z => by omega
  | N + 1, z => by
    unfold cN
    by_cases y : t = N
    · subst y
      have := cN_le h (N := t)
      rw [ht, ht2]; simp; omega
    · have := cN_lt h ht ht2 (N := N) (by omega)
      cases a : f N
      · cases b : f2 N <;> simp <;> omega
      · rw [h N a]; simp; omega
theorem cN_N {f : Nat → Bool} : ∀ {N : Nat}, cN f N ≤ N
  | 0 => Nat.le_refl _
  | N + 1 => by
    have := cN_N (f := f) (N := N)
    unfold cN
    split <;> omega
theorem cN_all {f : Nat → Bool} : ∀ {N : Nat}, N ≤ cN f N → ∀ q, q < N → f q = true
  | 0, _, q, hq => by omega
  | N + 1, h, q, hq => by
    have a := cN_N (f := f) (N := N)
    unfold cN at h
    cases b : f N
    · rw [b] at h; simp at h; omega
    · rw [b] at h
      simp at h
      by_cases z : q = N
      · subst z; exact b
      · exact cN_all (by omega) q (by omega)
section CH
variable {S0 : Nat → Int32} {ar0 : jSc} {mr : Nat → Nat} {pr n p m : Nat} {tx : Nat → Int32} {g : pG} {most n0 k s : Nat}
/-- what the loop keeps -/
def lV (pr n : Nat) (tx : Nat → Int32) (g : pG) (p m : Nat) (S0 : Nat → Int32) (ar0 : jSc) (mr : Nat → Nat) (n0 : Nat) (sc car : jSc) : Prop := (∃ A, rA ar0 A ∧ cE pr n tx g p m S0 A sc car mr) ∧ fM m ar0 sc car ∧ (∀ t, t < 2 ^ m → car 742 t = nI (rk ar0 m t)) ∧ sc p 6 = o_ak g.1 0 ∧ (∃ L, hM L sc car) ∧ bRw n0 sc car
def lWk (g : pG) (m : Nat) (ar0 : jSc) (sf : Nat → Bool) (sc : jSc) (al : jAl) : Prop := ∃ w, sc 736 11 = nI w ∧ w ≤ 64 ∧ ∀ j, j < w → ∃ q, q < 2 ^ m ∧ sf q = false ∧ wB g m (arT ar0 m q) (al 743 j)
theorem fM_F {sc car sc2 car2 : jSc} {al al2 : jAl} (h : fM m ar0 sc car) (k : cF9 sc car al sc2 car2 al2) : fM m ar0 sc2 car2 := ⟨h.1, (k.1 736 5 (by omega) (by omega) (by omega) (by omega) (by omega)).trans h.2.1, fun i hi => by rw [k.2.1 737 (by decide) (by decide) (by omega), k.2.1 738 (by decide) (by decide) (by omega), k.2.1 739 (by decide) (by decide) (by omega), k.2.1 740 (by decide) (by decide) (by omega)]; exact h.2.2 i hi⟩
/-- a set is turned on -/
theorem cE_turn {A : jSc} {sc car sc2 car2 : jSc} {t : Nat} (hr : rA ar0 A) (hE : cE pr n tx g p m S0 A sc car mr) (e2 : fR m (arT ar0 m t) sc2 car2) (e4 : ∀ a k, ¬ (a = 736 ∧ 6 ≤ k ∧ k ≤ 8) → sc2 a k = sc a k) (e5 : ∀ b, b ≠ 741 → car2 b = car b) : cE pr n tx g p m S0 (arT ar0 m t) sc2 car2 mr := by
  obtain ⟨⟨h1, ⟨c1, ⟨c2, c2b⟩, c3, c4, c5⟩, h3, h4, h5, h6, h7⟩, h29, h5'⟩ := hE
  have hp := x_pr_ne c1
  have ra : ∀ b, b ≠ 106 → arT ar0 m t b = A b := fun b hb => by rw [arT_o hb, hr b hb]
  exact ⟨⟨⟨h1.1, h1.2.1, by rw [ra 8 (by decide)]; exact h1.2.2.1, fun q hq => by rw [ra _ (by have := h1.1; omega)]; exact h1.2.2.2.1 q hq, h1.2.2.2.2.1, h1.2.2.2.2.2.1, fun e he => by rw [ra _ (by have := h1.1; omega)]; exact h1.2.2.2.2.2.2.1 e he, by rw [ra 10 (by decide)]; exact h1.2.2.2.2.2.2.2.1, by rw [ra 11 (by decide)]; exact h1.2.2.2.2.2.2.2.2⟩, ⟨c1, ⟨by rw [e4 p 3 (by omega)]; exact c2, fun i hi => by rw [e5 (p + 1) (by omega), e5 (p + 2) (by omega)]; exact c2b i hi⟩, fun e he => by rw [e5 (p + 3) (by omega)]; exact c3 e he, by rw [e4 p 7 (by omega)]; exact c4, by rw [e4 p 8 (by omega)]; exact c5⟩, h3, h4, h5, h6, e2⟩, h29, by rw [e4 757 5 (by omega)]; exact h5'⟩
theorem rA_T {t : Nat} : rA ar0 (arT ar0 m t) := fun b hb => arT_o hb
theorem rA_TT {t q : Nat} : rA (arT ar0 m t) (arT ar0 m q) := fun b hb => by rw [arT_o hb, arT_o hb]
/-- nextSet behind t -/
theorem c_nx {sc car : jSc} {al : jAl} {t : Nat} (hM : fM m ar0 sc car) (hr : ∀ t, t < 2 ^ m → car 742 t = nI (rk ar0 m t)) (ht : t < 2 ^ m) : ∃ v, xF_204 (nI t) sc mr car al = some (v, sc, mr, car, al) ∧ ((v = -1 ∧ ∀ q, q < 2 ^ m → rk ar0 m q < rk ar0 m t + 1) ∨ ∃ q, q < 2 ^ m ∧ v = nI q ∧ rk ar0 m t + 1 ≤ rk ar0 m q ∧ ∀ z, z < 2 ^ m → rk ar0 m t + 1 ≤ rk ar0 m z → rk ar0 m q ≤ rk ar0 m z) := by
  have hm := hM.1
  have p64 := p2_64 hm
  have hp : ∀ i, i < m → ∃ q, q ≤ 100 ∧ ar0 105 i = nI q := fun i hi => by
    obtain ⟨-, -, -, q, a, b, -⟩ := hM.2.2 i hi
    exact ⟨q, a, b⟩
  have l1 := rk_lt (s := t) hm hp
  unfold xF_204
  rw [if_neg (nI_pos (by omega)), if_pos (show nI t < (64 : Int32) from nI_lt (b := 64) (by omega) (by decide)), if_pos (iB_nI (show t < 64 by omega) (by decide)), iN_nI (by omega), hr t ht]
  exact c_next hM hr (fun q _ => by
    have l2 := rk_lt (s := q) hm hp
    exact (nI_leI (by omega) (by omega)).trans (by omega))
/-- one set is tried -/
theorem c_try {sc car : jSc} {al : jAl} {t : Nat} (ht : t < 2 ^ m) (hV : lV pr n tx g p m S0 ar0 mr n0 sc car) (hK : lWk g m ar0 (fun t => aSafe S0 (arT ar0 m t) m g most n0 k) sc al) (h0 : mr 0 = p) (h14 : sc 734 14 = -1) (hk : k ≤ 3) (h1 : 1 ≤ most) (h6 : most ≤ 600) (hn : n0 ≤ 8) {nn : Nat} {x4 x6 x8 : Int32} :
    ∃ sc9 car9 al9, o_b4 (xF_201 (nI t) sc mr car al) (fun sce13 mre13 are13 ale13 => (if x_pr (mre13 0) = true then (o_b5 (xF_205 (sce13 (mre13 0) 6) sce13 mre13 are13 ale13) (fun ve15 sce15 mre15 are15 ale15 => (if ve15 = 0 then (o_b5 (xF_204 (nI t) sce15 mre15 are15 ale15) (fun ve17 sce17 mre17 are17 ale17 => xF_344_99 nn (nI n0) (nI k) (nI most) x4 x6 ve17 x8 sce17 mre17 are17 ale17)) else (o_b5 (xF_289 (nI n0) (nI most) sce15 mre15 are15 ale15) (fun ve18 sce18 mre18 are18 ale18 => (if ve18 = 0 then (o_b5 (xF_204 (nI t) sce18 mre18 are18 ale18) (fun ve20 sce20 mre20 are20 ale20 => xF_344_99 nn (nI n0) (nI k) (nI most) x4 x6 ve20 x8 sce20 mre20 are20 ale20)) else (o_b5 (xF_288 (nI k) (1 : Int32) sce18 mre18 are18 ale18) (fun ve21 sce21 mre21 are21 ale21 => (if ve21 = 0 then (o_b5 (xF_204 (nI t) (j_u2 sce21 734 14 (nI t)) mre21 are21 ale21) (fun ve23 sce23 mre23 are23 ale23 => xF_344_99 nn (nI n0) (nI k) (nI most) x4 x6 ve23 x8 sce23 mre23 are23 ale23)) else (o_b5 (xF_204 (nI t) sce21 mre21 are21 ale21) (fun ve24 sce24 mre24 are24 ale24 => xF_344_99 nn (nI n0) (nI k) (nI most) x4 x6 ve24 x8 sce24 mre24 are24 ale24))))))))))) else none)) = o_b5 (xF_204 (nI t) sc9 mr car9 al9) (fun ve sce mre are ale => xF_344_99 nn (nI n0) (nI k) (nI most) x4 x6 ve x8 sce mre are ale) ∧ lV pr n tx g p m S0 ar0 mr n0 sc9 car9 ∧ cF9 sc car al sc9 car9 al9 ∧ ((sc9 734 14 = nI t ∧ aSafe S0 (arT ar0 m t) m g most n0 k = true) ∨ (sc9 734 14 = -1 ∧ aSafe S0 (arT ar0 m t) m g most n0 k = false ∧ lWk g m ar0 (fun t => aSafe S0 (arT ar0 m t) m g most n0 k) sc9 al9)) := by
  have hV' := hV
  obtain ⟨⟨A, hr, hE⟩, hMf, hR, h6p, hL, hW⟩ := hV
  obtain ⟨w, w1, w2, w3⟩ := hK
  obtain ⟨sc1, car1, e1, e2, e3, e4, e5⟩ := c_turns (mr := mr) (al := al) hMf ht
  have hE1 := cE_turn hr hE e2 e4 e5
  have xp := hE.1.2.1.1
  have hp := x_pr_ne xp
  have hwf := hE.1.2.2.1
  have F1 : cF9 sc car al sc1 car1 al := ⟨fun a q _ _ _ u _ => e4 a q (fun z => u ⟨z.1, by omega⟩), fun b _ u _ => e5 b u, by rw [e4 757 5 (by omega)]; exact hE.2.2, fun _ _ => rfl⟩
  have a6 : sc1 p 6 = o_ak g.1 0 := by rw [e4 p 6 (by omega)]; exact h6p
  have w11 : sc1 736 11 = nI w := by rw [e4 736 11 (by omega)]; exact w1
  rw [e1, ob4, h0, if_pos xp, a6]
  obtain ⟨x, x1, x2⟩ := c_new (mr := mr) (al := al) hwf e2 w11 w2
  -- the invariants of a state whose frame is known
  have keep : ∀ (sc2 car2 : jSc) (al2 : jAl), cF9 sc car al sc2 car2 al2 → cE pr n tx g p m S0 (arT ar0 m t) sc2 car2 mr → (∃ L, hM L sc2 car2) → bRw n0 sc2 car2 → lV pr n tx g p m S0 ar0 mr n0 sc2 car2 := fun sc2 car2 al2 F E L W => ⟨⟨_, rA_T, E⟩, fM_F hMf F, fun q hq => by rw [F.2.1 742 (by decide) (by decide) (by omega)]; exact hR q hq, by rw [F.1 p 6 (by omega) (by omega) (by omega) (by omega) (by omega)]; exact h6p, L, W⟩
  have L1 : ∃ L, hM L sc1 car1 := by
    obtain ⟨L, hL⟩ := hL
    exact ⟨L, hM_c hL (e4 774 0 (by omega)) (fun b _ _ => e5 b (by omega))⟩
  have W1 : bRw n0 sc1 car1 := by
    unfold bRw
    rw [e4 773 18 (by omega), e5 795 (by decide)]; exact hW
  have d1 : sc1 734 14 = -1 := by rw [e4 734 14 (by omega)]; exact h14
  rcases x2 with ⟨y1, j, j1, j2⟩ | ⟨sc2, al2, v, y1, y2, y3, y4, y5, y6⟩
  · rw [y1, ob5, if_pos rfl]
    obtain ⟨q, q1, q2, q3⟩ := w3 j j1
    rw [j2] at q3
    have un : aSafe S0 (arT ar0 m t) m g most n0 k = false := by
      rw [safe_al hE1 (wB_al x1 q3 rA_TT)]; exact q2
    exact ⟨sc1, car1, al, rfl, keep sc1 car1 al F1 hE1 L1 W1, F1, Or.inr ⟨d1, un, w, w11, w2, w3⟩⟩
  · rw [y1, ob5, if_neg (show ¬ (1 : Int32) = 0 by decide)]
    have hE2 : cE pr n tx g p m S0 (arT ar0 m t) sc2 car1 mr := by
      obtain ⟨⟨h1', ⟨c1, ⟨c2, c2b⟩, c3, c4, c5⟩, h3, h4, h5, h6', h7⟩, h29, h5'⟩ := hE1
      exact ⟨⟨h1', ⟨c1, ⟨by rw [y4 p 3 (by omega)]; exact c2, c2b⟩, c3, by rw [y4 p 7 (by omega)]; exact c4, by rw [y4 p 8 (by omega)]; exact c5⟩, h3, h4, h5, h6', h7.1, fun l hl => by rw [y4 736 8 (by omega)]; exact h7.2.1 l hl, fun l hl => by rw [y4 736 7 (by omega)]; exact h7.2.2.1 l hl, h7.2.2.2⟩, h29, by rw [y4 757 5 (by omega)]; exact h5'⟩
    have F2 : cF9 sc car al sc2 car1 al2 := cF9_tr F1 ⟨fun a q _ _ _ u _ => y4 a q (fun z => u ⟨z.1, by omega⟩), fun _ _ _ _ => rfl, by rw [y4 757 5 (by omega)]; exact F1.2.2.1, fun b hb => y5 b hb⟩
    have L2 : ∃ L, hM L sc2 car1 := by
      obtain ⟨L, hL⟩ := L1
      exact ⟨L, hM_c hL (y4 774 0 (by omega)) (fun _ _ _ => rfl)⟩
    have W2 : bRw n0 sc2 car1 := by
      unfold bRw
      rw [y4 773 18 (by omega)]; exact W1
    -- the works, if the set is no good
    have wk : ∀ sc5 : jSc, sc5 736 11 = sc2 736 11 → aSafe S0 (arT ar0 m t) m g most n0 k = false → lWk g m ar0 (fun t => aSafe S0 (arT ar0 m t) m g most n0 k) sc5 al2 := fun sc5 e un => ⟨v, e.trans y2, y3, fun j hj => by
      rcases y6 j hj with z | ⟨z1, z2⟩
      · exact ⟨t, ht, un, by rw [z]; exact x1⟩
      · obtain ⟨q, q1, q2, q3⟩ := w3 j z1
        exact ⟨q, q1, q2, by rw [z2]; exact q3⟩⟩
    obtain ⟨b, sc3, car3, z1, z2, z3, z4, z5⟩ := c_clean (al := al2) (k := k) hE2 L2 W2 h1 h6 hn
    have hE3 := cE_uQz hE2 z3
    have F3 := cF9_tr F2 (cF9_Q z3)
    have d3 : sc3 734 14 = -1 := by rw [z3.1 734 14 (by omega) (by omega) (by omega), y4 734 14 (by omega)]; exact d1
    have w3' : sc3 736 11 = sc2 736 11 := z3.1 736 11 (by omega) (by omega) (by omega)
    rw [z1, ob5]
    rcases z5 with ⟨b0, un⟩ | ⟨b1, s1, s2, B, wh, s3⟩
    · rw [b0, if_pos rfl]
      exact ⟨sc3, car3, al2, rfl, keep sc3 car3 al2 F3 hE3 z4 z2, F3, Or.inr ⟨d3, un, wk sc3 w3' un⟩⟩
    · rw [b1, if_neg (show ¬ (1 : Int32) = 0 by decide)]
      obtain ⟨B2, sc4, car4, t1, t2, t3, t4⟩ := c_stkc (al := al2) (en := 1) hk (by decide) hE3 s3
      have t1 : xF_288 (nI k) (1 : Int32) sc3 mr car3 al2 = _ := t1
      have F4 := cF9_tr F3 (cF9_Q (c := al2) (uQz_Y t3))
      have hE4 := cE_uQz hE3 (uQz_Y t3)
      have d4 : sc4 734 14 = -1 := by rw [t3.1 734 14 (by omega) (by omega) (by omega)]; exact d3
      have W4 : bRw n0 sc4 car4 := by
        unfold bRw
        rw [t4, t3.2.1 795 (by decide) (by omega)]; exact z2
      have L4 : ∃ L, hM L sc4 car4 := ⟨_, t2.1⟩
      have w4' : sc4 736 11 = sc2 736 11 := (t3.1 736 11 (by omega) (by omega) (by omega)).trans w3'
      rw [t1, ob5]
      have eS : aSafe S0 (arT ar0 m t) m g most n0 k = decide (aStk (aCan (arT ar0 m t) m) (aSt S0 (arT ar0 m t)) (aGd g) k (aRs S0 (arT ar0 m t) m g true most n0).1 = 0) := by
        unfold aSafe
        rw [s1, s2, Bool.not_false, Option.isNone_none, Bool.true_and, Bool.true_and]
      by_cases u : aStk (aCan (arT ar0 m t) m) (aSt S0 (arT ar0 m t)) (aGd g) k (aRs S0 (arT ar0 m t) m g true most n0).1 = 0
      · rw [u, if_pos (show nI (min 1 0) = (0 : Int32) from rfl)]
        have F5 : cF9 sc car al (j_u2 sc4 734 14 (nI t)) car4 al2 := ⟨fun a q u1 u2 u3 u4 u5 => (if_neg u5).trans (F4.1 a q u1 u2 u3 u4 u5), F4.2.1, (u2_na (by decide)).trans F4.2.2.1, F4.2.2.2⟩
        have hE5 : cE pr n tx g p m S0 (arT ar0 m t) (j_u2 sc4 734 14 (nI t)) car4 mr := by
          obtain ⟨⟨h1', ⟨c1, ⟨c2, c2b⟩, c3, c4, c5⟩, h3, h4, h5, h6', h7⟩, h29, h5'⟩ := hE4
          exact ⟨⟨h1', ⟨c1, ⟨by rw [u2_na (by omega)]; exact c2, c2b⟩, c3, by rw [u2_na (by omega)]; exact c4, by rw [u2_na (by omega)]; exact c5⟩, h3, h4, h5, h6', h7.1, fun l hl => by rw [u2_na (by decide)]; exact h7.2.1 l hl, fun l hl => by rw [u2_na (by decide)]; exact h7.2.2.1 l hl, h7.2.2.2⟩, h29, by rw [u2_na (by decide)]; exact h5'⟩
        refine ⟨_, car4, al2, rfl, keep _ car4 al2 F5 hE5 ?_ ?_, F5, Or.inl ⟨u2_eq, by rw [eS, decide_eq_true u]⟩⟩
        · obtain ⟨L, hL⟩ := L4
          exact ⟨L, hM_c hL (u2_na (by decide)) (fun _ _ _ => rfl)⟩
        · unfold bRw
          rw [u2_na (by decide)]; exact W4
      · have mn : nI (min 1 (aStk (aCan (arT ar0 m t) m) (aSt S0 (arT ar0 m t)) (aGd g) k (aRs S0 (arT ar0 m t) m g true most n0).1)) = (1 : Int32) := by
          rw [Nat.min_eq_left (by omega)]; rfl
        rw [mn, if_neg (show ¬ (1 : Int32) = 0 by decide)]
        have un : aSafe S0 (arT ar0 m t) m g most n0 k = false := by rw [eS, decide_eq_false u]
        exact ⟨sc4, car4, al2, rfl, keep sc4 car4 al2 F4 hE4 L4 W4, F4, Or.inr ⟨d4, un, wk sc4 w4' un⟩⟩
end CH
