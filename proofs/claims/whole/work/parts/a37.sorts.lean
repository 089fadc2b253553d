/-! sorts, on both sides. -/
def cntK (f : Nat × Nat → Nat) (k : Nat) (L : List (Nat × Nat)) : Nat := (L.filter (fun p => f p == k)).length
theorem cntK_app {f : Nat × Nat → Nat} {k : Nat} {a b : List (Nat × Nat)} : cntK f k (a ++ b) = cntK f k a + cntK f k b := by
  unfold cntK
  rw [List.filter_append, List.length_append]
theorem cntK_cons {f : Nat × Nat → Nat} {k : Nat} {q : Nat × Nat} {b : List (Nat × Nat)} : cntK f k (q :: b) = (if f q = k then 1 else 0) + cntK f k b := by
  unfold cntK
  by_cases z : f q = k
  · rw [List.filter_cons_of_pos (by simpa using z), if_pos z, List.length_cons]; omega
  · rw [List.filter_cons_of_neg (by simpa using z), if_neg z]; omega
theorem aTu_lt {S0 : Nat → Int32} {ar0 : jSc} {m : Nat} {ar : jSc} {W : Nat → Nat → Bool} {n i j : Nat} : aTu S0 ar0 m ar W n i j < 5 := by
  unfold aTu aTn
  split
  · split
    · decide
    · split
      · split <;> decide
      · decide
  · decide
section SO
variable {S0 : Nat → Int32} {ar0 : jSc} {S : Nat → Int32} {ar : jSc} {sc car : jSc} {mr : Nat → Nat} {al : jAl} {pr nn0 p m n : Nat} {tx : Nat → Int32} {g : pG} {W : Nat → Nat → Bool}
/-- all that the reference's loops keep -/
def sQv (S0 : Nat → Int32) (ar0 : jSc) (n : Nat) (W : Nat → Nat → Bool) (S : Nat → Int32) (ar : jSc) (S1 : Nat → Int32) (a1 : jSc) : Prop := stS S0 S1 ∧ stA ar0 a1 ∧ S1 31 = nI n ∧ oF9 n a1 W ∧ rF8 S S1 ∧ ∀ b, b ≠ 13 → b ≠ 712 → a1 b = ar b
theorem r_srt (hE : cE pr nn0 tx g p m S0 ar0 sc car mr) (h16 : S0 16 = 0) (hn : n ≤ 40) (hco : ∀ i, i < n → ∃ c, c < 13 ∧ ar 15 i = nI c) {kd : Nat} (hk : kd < 5) : ∀ (r i t nn : Nat) (S1 : Nat → Int32) (a1 : jSc), i + r = n → r < nn → sQv S0 ar0 n W S ar S1 a1 → ∃ S9 ar9, rF_84_37 nn (nI kd) (nI t) (nI i) S1 a1 = some (nI (t + cntK (fun q => aTu S0 ar0 m ar W n q.1 q.2) kd (crO (aX ar W) n i r)), S9, ar9) ∧ sQv S0 ar0 n W S ar S9 ar9 := by
  have inner : ∀ (k37 : Int32 → Int32 → Int32 → (Nat → Int32) → jSc → Option (Int32 × (Nat → Int32) × jSc)) (i : Nat), i < n → ∀ (r j t nn : Nat) (S1 : Nat → Int32) (a1 : jSc), j + r = n → i < j → r < nn → sQv S0 ar0 n W S ar S1 a1 → ∃ S9 ar9, rF_84_50 k37 nn (nI kd) (nI t) (nI i) (nI j) S1 a1 = k37 (nI kd) (nI (t + cntK (fun q => aTu S0 ar0 m ar W n q.1 q.2) kd (crI (aX ar W) i j r))) (nI (i + 1)) S9 ar9 ∧ sQv S0 ar0 n W S ar S9 ar9 := by
    intro k37 i hi r
    induction r with
    | zero =>
      intro j t nn S1 a1 h1 h2 h3 h4
      obtain ⟨nn, rfl⟩ : ∃ j, nn = j + 1 := ⟨nn - 1, by omega⟩
      rw [rF_84_50]
      rw [h4.2.2.1, if_pos (nI_le (by omega) (by omega)), nI_1]
      exact ⟨S1, a1, rfl, h4⟩
    | succ r ih =>
      intro j t nn S1 a1 h1 h2 h3 h4
      obtain ⟨nn, rfl⟩ : ∃ j, nn = j + 1 := ⟨nn - 1, by omega⟩
      have h4' := h4
      obtain ⟨q1, q2, q3, q4, q5, q6⟩ := h4
      have eX : aX a1 W i j = aX ar W i j := aX_c (q6 17 (by decide) (by decide)) (q6 18 (by decide) (by decide))
      rw [rF_84_50]
      rw [q3, if_neg (nI_ge (by omega) (by omega)), r_items q4 hn hi (by omega), ob3, Nat.min_eq_left (by omega), Nat.max_eq_right (by omega), nI_1, nI_1, eX]
      have eL : crI (aX ar W) i j (r + 1) = if aX ar W i j = 0 then crI (aX ar W) i (j + 1) r else (i, j) :: crI (aX ar W) i (j + 1) r := rfl
      by_cases z : aX ar W i j = 0
      · rw [if_pos z, eL, if_pos z]
        exact ih (j + 1) t nn S1 a1 (by omega) (by omega) (by omega) h4'
      · rw [if_neg z, eL, if_neg z, cntK_cons]
        obtain ⟨S2, a2, f1, f2, f3⟩ := r_turned (i := i) (j := j) hE q1 q2 h16 hn q3 h2 (by omega) q4 (fun i hi => by rw [q6 15 (by decide) (by decide)]; exact hco i hi)
        rw [aTu_c (ar := ar) (fun b u v _ => q6 b u v) hn] at f1
        rw [f1, ob3]
        have s2 : sQv S0 ar0 n W S ar S2 a2 := ⟨stS_tr q1 (stS_7 f2.1), stA_tr q2 (fun b hb => f3 b (by omega) (by omega)), (f2.1 31 (by decide)).trans q3, oF9_c q4 (fun b u v => f3 b (by omega) (by omega)), rF8_tr q5 f2, fun b u v => (f3 b u v).trans (q6 b u v)⟩
        have lt := aTu_lt (S0 := S0) (ar0 := ar0) (m := m) (ar := ar) (W := W) (n := n) (i := i) (j := j)
        have ek : nI (aTu S0 ar0 m ar W n i j) = nI kd ↔ aTu S0 ar0 m ar W n i j = kd := nI_eq (by omega) (by omega)
        by_cases y : aTu S0 ar0 m ar W n i j = kd
        · rw [if_pos (ek.mpr y), if_pos y]
          obtain ⟨S9, ar9, g1, g2⟩ := ih (j + 1) (t + 1) nn S2 a2 (by omega) (by omega) (by omega) s2
          exact ⟨S9, ar9, by rw [g1, Nat.add_assoc], g2⟩
        · rw [if_neg (fun x => y (ek.mp x)), if_neg y, Nat.zero_add]
          exact ih (j + 1) t nn S2 a2 (by omega) (by omega) (by omega) s2
  intro r
  induction r with
  | zero =>
    intro i t nn S1 a1 h1 h2 h4
    obtain ⟨nn, rfl⟩ : ∃ j, nn = j + 1 := ⟨nn - 1, by omega⟩
    rw [rF_84_37]
    rw [h4.2.2.1, if_pos (nI_le (by omega) (by omega))]
    exact ⟨S1, a1, rfl, h4⟩
  | succ r ih =>
    intro i t nn S1 a1 h1 h2 h4
    obtain ⟨nn, rfl⟩ : ∃ j, nn = j + 1 := ⟨nn - 1, by omega⟩
    rw [rF_84_37]
    rw [h4.2.2.1, if_neg (nI_ge (by omega) (by omega)), nI_1]
    obtain ⟨S2, a2, e1, e2⟩ := inner (fun x1_ x2_ x3_ S_ ar_ => rF_84_37 nn x1_ x2_ x3_ S_ ar_) i (by omega) (n - (i + 1)) (i + 1) t oF S1 a1 (by omega) (by omega) (by unfold oF; omega) h4
    rw [e1]
    obtain ⟨S9, ar9, g1, g2⟩ := ih (i + 1) _ nn S2 a2 (by omega) (by omega) e2
    refine ⟨S9, ar9, ?_, g2⟩
    rw [g1]
    show _ = some (nI (t + cntK _ kd (crI (aX ar W) i (i + 1) (n - (i + 1)) ++ crO (aX ar W) n (i + 1) r)), S9, ar9)
    rw [cntK_app, Nat.add_assoc]
/-- sorts(kind) -/
theorem r_sorts (hE : cE pr nn0 tx g p m S0 ar0 sc car mr) (hS : stS S0 S) (hA : stA ar0 ar) (h16 : S0 16 = 0) (hT : tK n (upd S 0 0) ar sc car al) {kd : Nat} (hk : kd < 5) : ∃ S9 ar9, rF_84 (nI kd) S ar = some (nI (cntK (fun q => aTu S0 ar0 m ar (tW al) n q.1 q.2) kd (crO (aX ar (tW al)) n 0 n)), S9, ar9) ∧ vQ (upd S 0 0) ar S9 ar9 := by
  obtain ⟨ar1, e1, e2, e3⟩ := r_ord hT
  have hn := hT.1
  have h4 : rF_4 (nI kd) 0 4 (upd S 0 0) ar = some (1, upd S 0 0, ar) := by
    unfold rF_4
    rw [if_neg (nI_pos (by omega)), if_neg (show ¬ (4 : Int32) < nI kd from nI_nlt (a := 4) (by omega) (by decide))]
  unfold rF_84
  rw [h4, ob3, if_neg (show ¬ (1 : Int32) = 0 by decide), r_ok, ob3, if_pos rfl, e1, ob2]
  have hA1 : stA ar0 ar1 := stA_tr hA (fun b hb => e2 b (by omega))
  obtain ⟨S9, ar9, f1, f2⟩ := r_srt (S := upd S 0 0) (ar := ar1) (W := tW al) hE h16 hn (fun i hi => by rw [e2 15 (by omega)]; exact co_K hT i hi) hk n 0 0 oF (upd S 0 0) ar1 (by omega) (by unfold oF; omega) ⟨stS_0 hS, hA1, hT.2.1, e3, rF8_rf _, fun _ _ _ => rfl⟩
  rw [show nI 0 = (0 : Int32) from rfl, Nat.zero_add] at f1
  have ec : crO (aX ar1 (tW al)) n 0 n = crO (aX ar (tW al)) n 0 n := crO_c (by omega) (fun p q _ _ => aX_c (e2 17 (by omega)) (e2 18 (by omega)))
  have ef : (fun q : Nat × Nat => aTu S0 ar0 m ar1 (tW al) n q.1 q.2) = fun q => aTu S0 ar0 m ar (tW al) n q.1 q.2 := by
    funext q
    exact aTu_c (fun b _ _ h => e2 b h) hn
  rw [ec, ef] at f1
  exact ⟨S9, ar9, f1, f2.2.2.2.2.1, fun b u v w => (f2.2.2.2.2.2 b u v).trans (e2 b w)⟩
/-- what the tally leaves -/
def zY (sc car sc2 car2 : jSc) : Prop := (∀ a k, ¬ (a = 757 ∧ 3 ≤ k ∧ k ≤ 9) → ¬ (a = 759 ∧ (k = 12 ∨ k = 14)) → sc2 a k = sc a k) ∧ (∀ b, b ≠ 758 → b ≠ 767 → b ≠ 771 → b ≠ 772 → car2 b = car b) ∧ sc2 757 5 = 0
theorem zY_tr {a b c a2 b2 c2 : jSc} (h : zY a a2 b b2) (h2 : zY b b2 c c2) : zY a a2 c c2 := ⟨fun x k u v => (h2.1 x k u v).trans (h.1 x k u v), fun x u v w y => (h2.2.1 x u v w y).trans (h.2.1 x u v w y), h2.2.2⟩
theorem zY_T {a b a2 b2 : jSc} (h : zT a b a2 b2) : zY a b a2 b2 := ⟨fun x k u v => h.1 x k u (fun z => v ⟨z.1, Or.inl z.2⟩), fun x u v w _ => h.2.1 x u v w, h.2.2⟩
theorem cE_zY {sc2 car2 : jSc} (h : cE pr nn0 tx g p m S0 ar0 sc car mr) (k : zY sc car sc2 car2) : cE pr nn0 tx g p m S0 ar0 sc2 car2 mr := by
  refine cE_lo h (fun a ha => ?_) (fun b hb => k.2.1 b (by omega) (by omega) (by omega) (by omega)) (k.2.2.trans h.2.2.symm)
  funext j
  exact k.1 a j (by omega) (by omega)
theorem tK_Y {sc2 car2 : jSc} (h : tK n S ar sc car al) (k : zY sc car sc2 car2) : tK n S ar sc2 car2 al := by
  obtain ⟨h1, h2, h3, h4, h5, h6, h7, h8⟩ := h
  have r : ∀ b, b ≠ 758 → b ≠ 767 → b ≠ 771 → b ≠ 772 → car2 b = car b := k.2.1
  refine ⟨h1, h2, (k.1 759 5 (by omega) (by omega)).trans h3, by rw [r 761 (by decide) (by decide) (by decide) (by decide)]; exact h4, by rw [r 761 (by decide) (by decide) (by decide) (by decide)]; exact h5, fun i hi => ?_, fun s hs => ?_, h8⟩
  · rw [r 762 (by decide) (by decide) (by decide) (by decide), r 763 (by decide) (by decide) (by decide) (by decide), r 764 (by decide) (by decide) (by decide) (by decide), r 765 (by decide) (by decide) (by decide) (by decide)]
    exact h6 i hi
  · rw [r 769 (by decide) (by decide) (by decide) (by decide), r 770 (by decide) (by decide) (by decide) (by decide)]
    exact h7 s hs
/-- the tally holds the counts of L -/
def tLy (f : Nat × Nat → Nat) (L : List (Nat × Nat)) (car : jSc) : Prop := ∀ s, s < 5 → car 772 s = nI (cntK f s L)
theorem c_srt (hE : cE pr nn0 tx g p m S0 ar0 sc car mr) (hT : tK n S ar sc car al) {kd : Nat} (hk : kd < 5) : ∀ (r i nn : Nat) (L : List (Nat × Nat)) (sc1 car1 : jSc), i + r = n → r < nn → zY sc car sc1 car1 → tLy (fun q => aTu S0 ar0 m ar (tW al) n q.1 q.2) L car1 → ∃ sc2 car2, xF_304_17 nn (nI kd) (nI i) sc1 mr car1 al = some (nI (cntK (fun q => aTu S0 ar0 m ar (tW al) n q.1 q.2) kd (L ++ crO (aX ar (tW al)) n i r)), j_u2 sc2 759 14 1, mr, car2, al) ∧ zY sc car sc2 car2 ∧ tLy (fun q => aTu S0 ar0 m ar (tW al) n q.1 q.2) (L ++ crO (aX ar (tW al)) n i r) car2 := by
  have hn := hT.1
  have inner : ∀ (k17 : Int32 → Int32 → jSc → (Nat → Nat) → jSc → jAl → Option (Int32 × jSc × (Nat → Nat) × jSc × jAl)) (i : Nat), i < n → ∀ (r j nn : Nat) (L : List (Nat × Nat)) (sc1 car1 : jSc), j + r = n → i < j → r < nn → zY sc car sc1 car1 → tLy (fun q => aTu S0 ar0 m ar (tW al) n q.1 q.2) L car1 → ∃ sc2 car2, xF_304_29 k17 nn (nI kd) (nI i) (nI j) sc1 mr car1 al = k17 (nI kd) (nI (i + 1)) sc2 mr car2 al ∧ zY sc car sc2 car2 ∧ tLy (fun q => aTu S0 ar0 m ar (tW al) n q.1 q.2) (L ++ crI (aX ar (tW al)) i j r) car2 := by
    intro k17 i hi r
    induction r with
    | zero =>
      intro j nn L sc1 car1 h1 h2 h3 h4 h5
      obtain ⟨nn, rfl⟩ : ∃ j, nn = j + 1 := ⟨nn - 1, by omega⟩
      rw [xF_304_29]
      rw [(tK_Y hT h4).2.2.1, if_pos (nI_le (by omega) (by omega)), nI_1]
      exact ⟨sc1, car1, rfl, h4, by rw [show L ++ crI (aX ar (tW al)) i j 0 = L from List.append_nil L]; exact h5⟩
    | succ r ih =>
      intro j nn L sc1 car1 h1 h2 h3 h4 h5
      obtain ⟨nn, rfl⟩ : ∃ j, nn = j + 1 := ⟨nn - 1, by omega⟩
      have hT1 := tK_Y hT h4
      rw [xF_304_29]
      rw [hT1.2.2.1, if_neg (nI_ge (by omega) (by omega)), c_crossed hT1 (by omega) (by omega), ob5, nI_1]
      have eL : crI (aX ar (tW al)) i j (r + 1) = if aX ar (tW al) i j = 0 then crI (aX ar (tW al)) i (j + 1) r else (i, j) :: crI (aX ar (tW al)) i (j + 1) r := rfl
      by_cases z : aX ar (tW al) i j = 0
      · rw [if_pos z, eL, if_pos z]
        exact ih (j + 1) nn L sc1 car1 (by omega) (by omega) (by omega) h4 h5
      · rw [if_neg z, eL, if_neg z]
        obtain ⟨sc2, car2, f1, f2⟩ := c_turned (al := al) (i := i) (j := j) (cE_zY hE h4) hT1 h2 (by omega)
        have lt := aTu_lt (S0 := S0) (ar0 := ar0) (m := m) (ar := ar) (W := tW al) (n := n) (i := i) (j := j)
        have b5 : iB (nI (aTu S0 ar0 m ar (tW al) n i j)) 5 := iB_nI lt (by decide)
        have q772 : car2 772 = car1 772 := f2.2.1 772 (by decide) (by decide) (by decide)
        rw [f1, ob5, if_pos b5, if_pos b5, iN_nI (by omega), q772, h5 _ lt, nI_1]
        have y2 : zY sc car sc2 (j_u2 car2 772 (aTu S0 ar0 m ar (tW al) n i j) (nI (cntK (fun q => aTu S0 ar0 m ar (tW al) n q.1 q.2) (aTu S0 ar0 m ar (tW al) n i j) L + 1))) := by
          have := zY_tr h4 (zY_T f2)
          exact ⟨this.1, fun b u v w x => (j_u2_row _ _ _ _ x).trans (this.2.1 b u v w x), this.2.2⟩
        obtain ⟨sc9, car9, g1, g2, g3⟩ := ih (j + 1) nn (L ++ [(i, j)]) _ _ (by omega) (by omega) (by omega) y2 (fun s hs => by
          rw [cntK_app, cntK_cons]
          by_cases y : s = aTu S0 ar0 m ar (tW al) n i j
          · subst y
            rw [u2_eq, if_pos rfl]; rfl
          · rw [u2_nk y, q772, h5 s hs, if_neg (fun x => y x.symm)]; rfl)
        refine ⟨sc9, car9, g1, g2, ?_⟩
        rw [List.append_assoc] at g3
        exact g3
  intro r
  induction r with
  | zero =>
    intro i nn L sc1 car1 h1 h2 h4 h5
    obtain ⟨nn, rfl⟩ : ∃ j, nn = j + 1 := ⟨nn - 1, by omega⟩
    rw [xF_304_17]
    rw [(tK_Y hT h4).2.2.1, if_pos (nI_le (by omega) (by omega)), if_pos (iB_nI hk (by decide)), iN_nI (by omega), h5 kd hk, show L ++ crO (aX ar (tW al)) n i 0 = L from List.append_nil L]
    exact ⟨sc1, car1, rfl, h4, h5⟩
  | succ r ih =>
    intro i nn L sc1 car1 h1 h2 h4 h5
    obtain ⟨nn, rfl⟩ : ∃ j, nn = j + 1 := ⟨nn - 1, by omega⟩
    rw [xF_304_17]
    rw [(tK_Y hT h4).2.2.1, if_neg (nI_ge (by omega) (by omega)), nI_1]
    obtain ⟨sc2, car2, e1, e2, e3⟩ := inner (fun x1_ x2_ sc_ mr_ ar_ al_ => xF_304_17 nn x1_ x2_ sc_ mr_ ar_ al_) i (by omega) (n - (i + 1)) (i + 1) oF L sc1 car1 (by omega) (by omega) (by unfold oF; omega) h4 h5
    rw [e1]
    obtain ⟨sc9, car9, g1, g2, g3⟩ := ih (i + 1) nn _ sc2 car2 (by omega) (by omega) e2 e3
    rw [List.append_assoc] at g1 g3
    exact ⟨sc9, car9, g1, g2, g3⟩
/-- the tally is forgotten, or holds -/
def tY (S0 : Nat → Int32) (ar0 : jSc) (m n : Nat) (ar sc car : jSc) (al : jAl) : Prop := sc 759 14 = 0 ∨ (sc 759 14 = 1 ∧ tLy (fun q => aTu S0 ar0 m ar (tW al) n q.1 q.2) (crO (aX ar (tW al)) n 0 n) car)
theorem c_filq {a n0 : Nat} {v : Int32} (h : n0 < 9999) (car : jSc) : ∃ car2, xF_503 a n0 v sc mr car al = some (sc, mr, car2, al) ∧ (∀ k, k < n0 → car2 a k = v) ∧ (∀ k, n0 ≤ k → car2 a k = car a k) ∧ ∀ b, b ≠ a → car2 b = car b := by
  have go : ∀ r k nn c, k + r = n0 → r < nn → (∀ q, q < k → c a q = v) → (∀ q, k ≤ q → c a q = car a q) → (∀ b, b ≠ a → c b = car b) → ∃ car2, xF_503_5 nn a n0 v (nI k) (nI n0) sc mr c al = some (sc, mr, car2, al) ∧ (∀ k, k < n0 → car2 a k = v) ∧ (∀ k, n0 ≤ k → car2 a k = car a k) ∧ ∀ b, b ≠ a → car2 b = car b := by
    intro r
    induction r with
    | zero =>
      intro k nn c h1 h2 h3 h4 h5
      obtain ⟨nn, rfl⟩ : ∃ j, nn = j + 1 := ⟨nn - 1, by omega⟩
      unfold xF_503_5
      rw [if_pos (nI_le (by omega) (by omega))]
      exact ⟨c, rfl, fun q hq => h3 q (by omega), fun q hq => h4 q (by omega), h5⟩
    | succ r ih =>
      intro k nn c h1 h2 h3 h4 h5
      obtain ⟨nn, rfl⟩ : ∃ j, nn = j + 1 := ⟨nn - 1, by omega⟩
      unfold xF_503_5
      rw [if_neg (nI_ge (by omega) (by omega)), if_pos (iB_nI (by omega) (by omega)), iN_nI (by omega), nI_1]
      refine ih (k + 1) nn _ (by omega) (by omega) (fun q hq => ?_) (fun q hq => ?_) (fun b hb => (j_u2_row _ _ _ _ hb).trans (h5 b hb))
      · by_cases z : q = k
        · subst z; exact u2_eq
        · rw [u2_nk z]; exact h3 q (by omega)
      · rw [u2_nk (by omega)]; exact h4 q (by omega)
  exact go n0 0 oF car (by omega) (by unfold oF; omega) (fun q hq => absurd hq (by omega)) (fun _ _ => rfl) (fun _ _ => rfl)
theorem c_sorts (hE : cE pr nn0 tx g p m S0 ar0 sc car mr) (hT : tK n S ar sc car al) (hY : tY S0 ar0 m n ar sc car al) {kd : Nat} (hk : kd < 5) : ∃ sc2 car2, xF_332 (nI kd) sc mr car al = some (nI (cntK (fun q => aTu S0 ar0 m ar (tW al) n q.1 q.2) kd (crO (aX ar (tW al)) n 0 n)), sc2, mr, car2, al) ∧ zY sc car sc2 car2 ∧ tY S0 ar0 m n ar sc2 car2 al := by
  have hn := hT.1
  unfold xF_332
  rw [if_neg (nI_pos (by omega)), if_pos (show nI kd < (5 : Int32) from nI_lt (b := 5) hk (by decide))]
  unfold xF_304
  rcases hY with h0 | ⟨h1, h2⟩
  · rw [if_pos h0]
    obtain ⟨car1, e1, e2, e3, e4⟩ := c_filq (a := 772) (n0 := 5) (v := 0) (sc := sc) (mr := mr) (al := al) (by decide) car
    rw [e1, ob4]
    obtain ⟨sc2, car2, f1, f2, f3⟩ := c_srt (sc := sc) (car := car) hE hT hk n 0 oF [] sc car1 (by omega) (by unfold oF; omega) ⟨fun _ _ _ _ => rfl, fun b _ _ _ h => e4 b h, hE.2.2⟩ (fun s hs => e2 s hs)
    rw [show nI 0 = (0 : Int32) from rfl, List.nil_append] at f1
    rw [List.nil_append] at f3
    rw [f1, ob5]
    refine ⟨_, car2, rfl, ⟨fun a k u v => ?_, f2.2.1, ?_⟩, Or.inr ⟨u2_eq, f3⟩⟩
    · rw [show j_u2 sc2 759 14 1 a k = sc2 a k from if_neg (fun z => v ⟨z.1, Or.inr z.2⟩)]
      exact f2.1 a k u v
    · rw [u2_na (by decide)]; exact f2.2.2
  · rw [if_neg (by rw [h1]; decide), if_pos (iB_nI hk (by decide)), iN_nI (by omega), ob5, h2 kd hk]
    exact ⟨sc, car, rfl, ⟨fun _ _ _ _ => rfl, fun _ _ _ _ _ => rfl, hE.2.2⟩, Or.inr ⟨h1, h2⟩⟩
end SO
