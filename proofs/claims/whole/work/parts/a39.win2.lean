/-! TWO WINDOWS on both sides: they begin. -/
section WB
variable {S : Nat → Int32} {ar : jSc} {sc car : jSc} {mr : Nat → Nat} {al : jAl} {pr n p m b : Nat} {tx : Nat → Int32} {g : pG}
theorem c_blank {pp : Nat} (car : jSc) : ∃ car2, xF_225 pp sc mr car al = some (sc, mr, car2, al) ∧ (∀ i, i < 50 → car2 (pp + 1) i = blC (fun _ => 0) i) ∧ ∀ q, q ≠ pp + 1 → car2 q = car q := by
  obtain ⟨A, a1, a2, a3⟩ := c_fill (P := pp + 1) (m := 50) (x := 0) (sc := sc) (ar := car) (mr := mr) (al := al) (by decide)
  unfold xF_225
  rw [a1, ob4]
  refine ⟨_, rfl, fun i hi => ?_, fun q hq => (j_u2_row _ _ _ _ hq).trans (a3 q hq)⟩
  unfold blC
  by_cases c : i = 8
  · subst c; rw [u2_eq, if_pos rfl]
  · rw [u2_nk c, a2 i hi, if_neg c]
    split <;> rfl
/-- nothing is saved, nothing asked, the far rows are 0 -/
theorem r_w12 {S : Nat → Int32} : ∃ a9, rF_109_12 oF 0 S ar = o_b2 (rF_48 (upd S 29 (0 : Int32)) a9) (fun Se5 are5 => (o_b2 (rF_56 714 53 Se5 are5) (fun Se6 are6 => (o_b2 (rF_48 (upd Se6 29 (1 : Int32)) are6) (fun Se7 are7 => (o_b2 (rF_56 715 53 Se7 are7) (fun Se8 are8 => rF_109_99 oF (33 : Int32) Se8 are8))))))) ∧ (∀ k, k < 4 → a9 716 k = -1 ∧ a9 718 k = 0 ∧ a9 719 k = 0 ∧ a9 13 (33 + k) = 0) ∧ ∀ q, q ≠ 13 → q ≠ 716 → q ≠ 718 → q ≠ 719 → a9 q = ar q := by
  have go : ∀ r k nn a, k + r = 4 → r < nn → (∀ q, q < k → a 716 q = -1 ∧ a 718 q = 0 ∧ a 719 q = 0 ∧ a 13 (33 + q) = 0) → (∀ q, q ≠ 13 → q ≠ 716 → q ≠ 718 → q ≠ 719 → a q = ar q) → ∃ a9, rF_109_12 nn (nI k) S a = o_b2 (rF_48 (upd S 29 (0 : Int32)) a9) (fun Se5 are5 => (o_b2 (rF_56 714 53 Se5 are5) (fun Se6 are6 => (o_b2 (rF_48 (upd Se6 29 (1 : Int32)) are6) (fun Se7 are7 => (o_b2 (rF_56 715 53 Se7 are7) (fun Se8 are8 => rF_109_99 oF (33 : Int32) Se8 are8))))))) ∧ (∀ k, k < 4 → a9 716 k = -1 ∧ a9 718 k = 0 ∧ a9 719 k = 0 ∧ a9 13 (33 + k) = 0) ∧ ∀ q, q ≠ 13 → q ≠ 716 → q ≠ 718 → q ≠ 719 → a9 q = ar q := by
    intro r
    induction r with
    | zero =>
      intro k nn a h1 h2 h3 h4
      obtain ⟨nn, rfl⟩ : ∃ j, nn = j + 1 := ⟨nn - 1, by omega⟩
      rw [rF_109_12]
      rw [if_pos (show (4 : Int32) ≤ nI k from nI_le (a := 4) (by omega) (by omega))]
      exact ⟨a, rfl, fun q hq => h3 q (by omega), h4⟩
    | succ r ih =>
      intro k nn a h1 h2 h3 h4
      obtain ⟨nn, rfl⟩ : ∃ j, nn = j + 1 := ⟨nn - 1, by omega⟩
      have bk : iB (nI k) 4 := iB_nI (by omega) (by decide)
      rw [rF_109_12]
      rw [if_neg (show ¬ (4 : Int32) ≤ nI k from nI_ge (b := 4) (by omega) (by decide)), if_pos bk, if_pos bk, if_pos bk, show (33 : Int32) + nI k = nI (33 + k) from nI_add 33 k, if_pos (iB_nI (by omega) (by decide)), iN_nI (by omega), iN_nI (by omega), nI_1]
      refine ih (k + 1) nn _ (by omega) (by omega) (fun q hq => ?_) (fun q u1 u2 u3 u4 => ?_)
      · rw [u2_na (show 716 ≠ 13 by decide), u2_na (show 716 ≠ 719 by decide), u2_na (show 716 ≠ 718 by decide), u2_na (show 718 ≠ 13 by decide), u2_na (show 718 ≠ 719 by decide), u2_na (show 719 ≠ 13 by decide)]
        by_cases z : q = k
        · subst z
          rw [u2_eq, u2_eq, u2_eq, u2_eq]
          exact ⟨rfl, rfl, rfl, rfl⟩
        · rw [u2_nk z, u2_nk z, u2_nk z, u2_nk (by omega), u2_nk z, u2_nk (by omega), u2_nk (by omega), u2_nk (by omega)]
          exact h3 q (by omega)
      · rw [j_u2_row _ _ _ _ u1, j_u2_row _ _ _ _ u4, j_u2_row _ _ _ _ u3, j_u2_row _ _ _ _ u2]
        exact h4 q u1 u2 u3 u4
  exact go 4 0 oF ar (by omega) (by unfold oF; omega) (fun q hq => absurd hq (by omega)) (fun _ _ _ _ _ => rfl)
theorem r_w99 {S : Nat → Int32} : ∃ ar9, rF_109_99 oF 33 S ar = some (upd S 29 (-1), ar9) ∧ ar9 714 = faP (ar 714) (ar 13) 4 ∧ ∀ b, b ≠ 714 → ar9 b = ar b := by
  have go : ∀ r n nn a, n + r = 4 → r < nn → a 714 = faP (ar 714) (ar 13) n → (∀ b, b ≠ 714 → a b = ar b) → ∃ ar9, rF_109_99 nn (nI (33 + n)) S a = some (upd S 29 (-1), ar9) ∧ ar9 714 = faP (ar 714) (ar 13) 4 ∧ ∀ b, b ≠ 714 → ar9 b = ar b := by
    intro r
    induction r with
    | zero =>
      intro n nn a h1 h2 h3 h4
      obtain ⟨nn, rfl⟩ : ∃ j, nn = j + 1 := ⟨nn - 1, by omega⟩
      have n4 : n = 4 := by omega
      subst n4
      unfold rF_109_99
      rw [if_pos (show (37 : Int32) ≤ nI (33 + 4) by decide)]
      exact ⟨a, rfl, h3, h4⟩
    | succ r ih =>
      intro n nn a h1 h2 h3 h4
      obtain ⟨nn, rfl⟩ : ∃ j, nn = j + 1 := ⟨nn - 1, by omega⟩
      have bk : iB (nI (33 + n)) 53 := iB_nI (by omega) (by decide)
      unfold rF_109_99
      rw [if_neg (show ¬ (37 : Int32) ≤ nI (33 + n) from nI_ge (b := 37) (by omega) (by decide)), if_pos bk, if_pos bk, iN_nI (by omega), nI_1, h4 13 (by omega)]
      refine ih (n + 1) nn _ (by omega) (by omega) ?_ (fun b hb => (j_u2_row _ _ _ _ hb).trans (h4 b hb))
      funext i
      unfold faP
      by_cases z : i = 33 + n
      · subst z
        rw [u2_eq, if_pos (by omega)]
      · rw [u2_nk z, h3]
        unfold faP
        by_cases y : 33 ≤ i ∧ i < 33 + n
        · rw [if_pos y, if_pos (by omega)]
        · rw [if_neg y, if_neg (by omega)]
  have := go 4 0 oF ar (by omega) (by unfold oF; omega) (by funext i; unfold faP; rw [if_neg (by omega)]) (fun _ _ => rfl)
  rw [show nI (33 + 0) = (33 : Int32) from rfl] at this
  exact this
theorem wBt_0 {x : Int32} {w : Nat} {a : jSc} (hw : w < 2) (h : ∀ k, k < 4 → a 716 k = -1) (hx : x = 0) : wBt w a x := fun k hk => by
  rw [hx, b_0, h k hk, decide_eq_false]
  intro z
  exact nI_nm (k := 1 - w) (by omega) z.1.symm
/-- both windows begin -/
theorem h_win (hs : sR pr n tx g p m S ar sc car mr) (h16 : S 16 = 0) (h29 : S 29 = -1) (hb : b ≤ 8) :
    ∃ v S9 ar9 sc2 car2, rF_109 S ar = some (S9, ar9) ∧ xF_248 (nI b) sc mr car al = some (v, sc2, mr, car2, al) ∧ S9 57 = v ∧ wRel b ar9 car2 ∧ wFr S ar S9 ar9 ∧ wCf b sc car sc2 car2 ∧ ∃ j, j ≤ 1200 ∧ v = nI j := by
  have bb : iB (nI b) 10 := iB_nI (by omega) (by decide)
  have bb1 : iB (nI (b + 1)) 10 := iB_nI (by omega) (by decide)
  -- ClickOrders' pages
  obtain ⟨car1, a1, a2, a3⟩ := c_blank (sc := sc) (mr := mr) (al := al) (pp := 799 + 2 * b) car
  obtain ⟨car2, c1, c2, c3⟩ := c_blank (sc := sc) (mr := mr) (al := al) (pp := 799 + 2 * (b + 1)) car1
  generalize hC3 : j_u2 (j_u2 car2 798 b (0 : Int32)) 798 (b + 1) (0 : Int32) = car3
  have r3 : ∀ q, q ≠ 798 → car3 q = car2 q := fun q hq => by rw [← hC3, j_u2_row _ _ _ _ hq, j_u2_row _ _ _ _ hq]
  have z3 : car3 798 b = 0 := by rw [← hC3, u2_nk (by omega), u2_eq]
  have z3' : car3 798 (b + 1) = 0 := by rw [← hC3, u2_eq]
  have o3 : ∀ k, k ≠ b → k ≠ b + 1 → car3 798 k = car 798 k := fun k h1 h2 => by rw [← hC3, u2_nk h2, u2_nk h1, c3 798 (by omega), a3 798 (by omega)]
  have pg0 : ∀ i, i < 50 → car3 (799 + 2 * b + 1) i = blC (fun _ => 0) i := fun i hi => by rw [r3 _ (by omega), c3 _ (by omega)]; exact a2 i hi
  have pg1 : ∀ i, i < 50 → car3 (799 + 2 * (b + 1) + 1) i = blC (fun _ => 0) i := fun i hi => by rw [r3 _ (by omega)]; exact c2 i hi
  have q3 : ∀ q, q ≠ 798 → q ≠ 800 + 2 * b → q ≠ 800 + 2 * (b + 1) → car3 q = car q := fun q h1 h2 h3 => by rw [r3 q h1, c3 q (by omega), a3 q (by omega)]
  -- the reference
  obtain ⟨ar1, d1, d2, d3⟩ := r_w12 (ar := ar) (S := upd (upd S 16 0) 57 0)
  rw [up_16 h16] at d1
  have sA : sR pr n tx g p m S ar1 sc car3 mr := by
    refine sR_lo (sR_st hs (stS_rf S) (fun q hq => d3 q (by omega) (by omega) (by omega) (by omega))) (fun _ _ => rfl) (fun q hq => q3 q (by omega) (by omega) (by omega))
  -- the first
  generalize hX : j_u2 (j_u2 sc 757 5 (car3 798 b)) 757 6 (0 : Int32) = X
  have X5 : X 757 5 = 0 := by rw [← hX, u2_nk (by decide), u2_eq]; exact z3
  have X6 : X 757 6 = 0 := by rw [← hX, u2_eq]
  have FX : hF7 sc X := by rw [← hX]; exact hF7_u (by decide) (hF7_u (by decide) (fun _ _ _ => rfl))
  have sX : sR pr n tx g p m (upd (upd S 57 0) 29 0) ar1 X car3 mr := sR_cl (pp := 799 + 2 * b) (by omega) (by
    obtain ⟨h1, h2, h3, h4, h5, h6, h7⟩ := sA
    exact ⟨h1, h2, h3, h4, by rw [up_n (by decide), up_n (by decide)]; exact h5, by rw [up_n (by decide), up_n (by decide)]; exact h6, h7⟩) FX (hFa_rf _ _)
  have nsv : ∀ k, k < 4 → ar1 716 k = -1 := fun k hk => (d2 k hk).1
  have w0 : hWn (fun _ => false) 0 (upd (upd S 57 0) 29 0) ar1 (j_u2 X 757 4 0) := by
    refine Or.inr ⟨0, by decide, up_0, ?_, fun k hk => ?_, fun k hk => ?_⟩
    · rw [up_n (by decide), up_0, u2_nk (by decide), X6]; rfl
    · rw [u2_nk (by decide)]
      exact wBt_0 (w := 0) (by decide) nsv X5 k hk
    · rw [u2_eq, b_0, nsv k hk, decide_eq_false]
      · rfl
      · intro z; exact nI_nm (k := 0) (by decide) z.1.symm
  have hC0 : ∀ i, i < 50 → car3 (799 + 2 * b + 1) i = blC (fun k => ar1 13 (33 + k)) i := fun i hi => by
    rw [pg0 i hi]
    unfold blC
    by_cases z : i = 8
    · rw [if_pos z, if_pos z]
    · rw [if_neg z, if_neg z]
      by_cases y : 10 ≤ i ∧ i < 14
      · rw [if_pos y, if_pos y]; exact (d2 (i - 10) (by omega)).2.2.2.symm
      · rw [if_neg y, if_neg y]
  obtain ⟨S2, ar2, sc2, car4, e1, e2, e3, -, e5, e6, e7, e8, e9⟩ := h_start (al := al) (pp := 799 + 2 * b) sX (by omega) hC0 w0
  have s29 : S2 29 = 0 := (e8 29 (by decide)).trans up_0
  have n2 : ∀ q, q ≠ 13 → q ≠ 716 → q ≠ 718 → q ≠ 719 → ar2 q = ar1 q := fun q u1 u2 u3 u4 => e9.1 q (by simpa using u1) (by simpa using u2) (by simpa using u3) (by simpa using u4)
  rcases e5 with ⟨z, -⟩ | ⟨w', w1, w2, w3, w4, w5⟩
  · rw [s29] at z; exact absurd z (by decide)
  rw [s29] at w2
  have ww : w' = 0 := ((nI_eq (a := 0) (by omega) (by omega)).mp w2).symm
  subst ww
  obtain ⟨car5, f1, f2, f3, f4, f5, f6⟩ := c_74 (sc := sc2) (car := car4) (mr := mr) (al := al) (w := 0) (by decide) hb
  -- kept
  generalize hA3 : va_up ar2 714 (fun k => if k < 53 then ar2 13 k else ar2 714 k) = ar3
  have n3 : ∀ q, q ≠ 714 → ar3 q = ar2 q := fun q hq => by rw [← hA3, va_up_ne _ _ hq]
  -- the second
  have F2 : hF7 sc sc2 := hF7_tr FX e6
  generalize hY : j_u2 (j_u2 (j_u2 sc2 757 5 0) 757 5 (car5 798 (b + 1))) 757 6 (0 : Int32) = Y
  have Y5 : Y 757 5 = car5 798 (b + 1) := by rw [← hY, u2_nk (by decide), u2_eq]
  have Y6 : Y 757 6 = 0 := by rw [← hY, u2_eq]
  have FY : hF7 sc2 Y := by rw [← hY]; exact hF7_u (by decide) (hF7_u (by decide) (hF7_u (by decide) (fun _ _ _ => rfl)))
  have q5 : ∀ q, q < 757 → car5 q = car3 q := fun q hq => by rw [f6 q (by omega) (by omega), e7 q (by omega) (by omega)]
  have sY : sR pr n tx g p m (upd S2 29 1) ar3 Y car5 mr := by
    refine sR_lo (sc := sc) (car := car3) ?_ (fun a ha => ?_) q5
    · obtain ⟨h1, h2, h3, h4, h5, h6, h7⟩ := sA
      have rA : stA ar1 ar3 := fun q hq => by rw [n3 q (by omega), n2 q (by omega) (by omega) (by omega) (by omega)]
      exact ⟨gRf_st h1 rA, h2, h3, h4, by rw [up_n (by decide), e8 16 (by decide), up_n (by decide), up_n (by decide)]; exact h5, by rw [up_n (by decide), e8 38 (by decide), up_n (by decide), up_n (by decide)]; exact h6, fR_st h7 rA⟩
    · funext j
      rw [FY a j (by omega), F2 a j (by omega)]
  have c716 : ∀ q, q ≠ 714 → ar3 q = ar2 q := n3
  have w0' : hWn (fun k => bt (car5 798 b) k) (sc2 757 6) (upd S2 29 1) ar3 (j_u2 Y 757 4 0) := by
    refine Or.inr ⟨1, by decide, up_0, ?_, fun k hk => ?_, fun k hk => ?_⟩
    · rw [up_n (by decide), u2_nk (by decide), Y6, w3, Int32.add_zero, Int32.zero_add]
    · rw [u2_nk (by decide), Y5, show b + 1 = b + (1 - 0) from rfl, f3, b_or, bt_15 hk, e7 798 (by omega) (by omega), show b + (1 - 0) = b + 1 from rfl, z3', b_0, n3 716 (by decide), n3 719 (by decide)]
      have := w5 k hk
      exact this.symm
    · show _ = (bt (car5 798 b) k || _)
      rw [u2_eq, b_0, Bool.or_false, n3 716 (by decide), n3 718 (by decide), show car5 798 b = sc2 757 5 from f2]
      exact (w4 k hk).symm
  have hC1 : ∀ i, i < 50 → car5 (799 + 2 * (b + 1) + 1) i = blC (fun k => ar3 13 (33 + k)) i := fun i hi => by
    have := f4 i hi
    rw [show 799 + 2 * (b + 1) + 1 = 800 + 2 * (b + (1 - 0)) by omega, this]
    unfold blC
    have o4 : car4 (800 + 2 * (b + (1 - 0))) i = blC (fun _ => 0) i := by
      rw [e7 _ (by omega) (by omega), show 800 + 2 * (b + (1 - 0)) = 799 + 2 * (b + 1) + 1 by omega]; exact pg1 i hi
    by_cases y : 10 ≤ i ∧ i < 14
    · rw [if_pos y, if_neg (show ¬ i = 8 by omega), if_pos y, n3 13 (by decide)]
      have a := ix_c i (by omega)
      have := e3.1 i (by omega)
      rw [show 800 + 2 * (b + 0) = 799 + 2 * b + 1 by omega, this, show ix i = 33 + (i - 10) by omega]
    · rw [if_neg y, o4]
      unfold blC
      by_cases z : i = 8
      · rw [if_pos z, if_pos z]
      · rw [if_neg z, if_neg z, if_neg y, if_neg y]
  obtain ⟨S4, ar4, sc4, car6, g1, g2, g3, -, g5, g6, g7, g8, g9⟩ := h_start (al := al) (pp := 799 + 2 * (b + 1)) sY (by omega) hC1 w0'
  have s29' : S4 29 = nI 1 := (g8 29 (by decide)).trans up_0
  have n4 : ∀ q, q ≠ 13 → q ≠ 716 → q ≠ 718 → q ≠ 719 → ar4 q = ar3 q := fun q u1 u2 u3 u4 => g9.1 q (by simpa using u1) (by simpa using u2) (by simpa using u3) (by simpa using u4)
  rcases g5 with ⟨z, -⟩ | ⟨w', v1, v2, v3, v4, v5⟩
  · rw [s29'] at z; exact absurd z (by decide)
  rw [s29'] at v2
  have ww : w' = 1 := ((nI_eq (a := 1) (by omega) (by omega)).mp v2).symm
  subst ww
  obtain ⟨car7, k1, k2, k3, k4, k5, k6⟩ := c_74 (sc := sc4) (car := car6) (mr := mr) (al := al) (w := 1) (by decide) hb
  generalize hA5 : va_up ar4 715 (fun k => if k < 53 then ar4 13 k else ar4 715 k) = ar5
  have n5 : ∀ q, q ≠ 715 → ar5 q = ar4 q := fun q hq => by rw [← hA5, va_up_ne _ _ hq]
  obtain ⟨ar6, m1, m2, m3⟩ := r_w99 (ar := ar5) (S := S4)
  -- how many
  have hm6 : ∃ k, k ≤ 6 ∧ S 38 = nI k := ⟨m, hs.2.2.2.2.2.2.1.1, hs.2.2.2.2.2.1⟩
  have cnt : ∃ j, j ≤ 1200 ∧ sc2 757 6 + sc4 757 6 = nI j := by
    obtain ⟨Sa, aa, u1, j1, u2, u3⟩ := r_start57 sX.1 sX.2.2.1 sX.2.2.2.2.1 ⟨m, sX.2.2.2.2.2.2.1.1, sX.2.2.2.2.2.1⟩ (Or.inr (Or.inl up_0))
    rw [e1] at u1
    cases u1
    obtain ⟨Sb, ab, x1, j2, x2, x3⟩ := r_start57 sY.1 sY.2.2.1 sY.2.2.2.2.1 ⟨m, sY.2.2.2.2.2.2.1.1, sY.2.2.2.2.2.1⟩ (Or.inr (Or.inr up_0))
    rw [g1] at x1
    cases x1
    rw [up_n (by decide), up_0, Int32.zero_add] at u3
    rw [up_n (by decide), u3, nI_add] at x3
    exact ⟨j1 + j2, by omega, v3.symm.trans x3⟩
  -- the steps put together
  refine ⟨sc2 757 6 + sc4 757 6, upd S4 29 (-1), ar6, j_u2 sc4 757 5 0, car7, ?_, ?_, ?_, ⟨?_, ?_, fun k hk => ?_, fun k hk => ?_, fun k hk => ?_⟩, ⟨fun k hk h57 => ?_, fun q h1 h2 => ?_⟩, ⟨fun a k h => ?_, fun q h1 h2 h3 h4 => ?_, fun k h1 h2 => ?_, u2_eq⟩, cnt⟩
  · show rF_109_12 oF 0 (upd (upd S 16 0) 57 0) ar = _
    rw [up_16 h16, d1, e1, ob2, r_keep (by decide) (by decide), ob2, hA3, g1, ob2, r_keep (by decide) (by decide), ob2, hA5, m1]
  · unfold xF_248
    rw [if_pos bb, iN_nI (by omega), a1, ob4, nI_1, if_pos bb1, iN_nI (by omega), c1, ob4, if_pos bb, if_pos bb1, hC3]
    have x1 : xF_249 (nI b) 0 (-1) sc mr car3 al = some (sc2 757 6, j_u2 sc2 757 5 0, mr, car5, al) := by
      have t0 : nI b + (0 : Int32) = nI b := Int32.add_zero _
      have t1 : nI b + (1 : Int32) - (0 : Int32) = nI (b + 1) := by rw [nI_1]; exact Int32.sub_zero _
      unfold xF_249
      rw [t0, t1, if_pos bb, if_pos bb1, if_pos bb, if_pos rfl, iN_nI (by omega), iN_nI (by omega), hX, e2, ob4]
      exact f1
    have x2 : xF_249 (nI b) 1 (-1) (j_u2 sc2 757 5 0) mr car5 al = some (sc4 757 6, j_u2 sc4 757 5 0, mr, car7, al) := by
      have t0 : nI b + (1 : Int32) = nI (b + 1) := nI_1 b
      have t1 : nI (b + 1) - (1 : Int32) = nI b := nI_pred b
      unfold xF_249
      rw [t0, t1, if_pos bb1, if_pos bb, if_pos bb1, if_pos rfl, iN_nI (by omega), iN_nI (by omega), hY, g2, ob4]
      exact k1
    rw [x1, ob5, x2, ob5]
  · rw [up_n (by decide)]; exact v3
  · rw [m2]
    have h4 : ar5 714 = ar3 714 := by rw [n5 714 (by decide), n4 714 (by decide) (by decide) (by decide) (by decide)]
    have h13 : ar5 13 = ar4 13 := n5 13 (by decide)
    rw [h4, h13]
    have p3 : pgR (ar3 714) (car6 (800 + 2 * b)) := by
      rw [← hA3, va_up_self, g7 _ (by omega) (by omega), f6 _ (by omega) (by omega), show 800 + 2 * b = 799 + 2 * b + 1 by omega]
      exact pgR_P e3 (fun k hk => if_pos (by omega))
    refine pgR_far p3 (fun k hk => ?_)
    have := k4 k (by omega)
    rw [show 800 + 2 * b = 800 + 2 * (b + (1 - 1)) by omega, this]
    by_cases z : 10 ≤ k ∧ k < 14
    · rw [if_pos z, if_pos z, show 800 + 2 * (b + 1) = 799 + 2 * (b + 1) + 1 by omega, g3.1 k (by omega)]
      have a := ix_c k (by omega)
      rw [show ix k = k + 23 by omega]
    · rw [if_neg z, if_neg z]
  · rw [m3 715 (by decide), ← hA5, va_up_self, k6 _ (by omega) (by omega), show 800 + 2 * (b + 1) = 799 + 2 * (b + 1) + 1 by omega]
    exact pgR_P g3 (fun k hk => if_pos (by omega))
  · rw [m3 716 (by decide), m3 718 (by decide), n5 716 (by decide), n5 718 (by decide), show car7 798 b = _ from k3, b_or, bt_15 hk, show b + (1 - 1) = b from rfl, g7 798 (by omega) (by omega)]
    have := v5 k hk
    exact this.symm
  · rw [m3 716 (by decide), m3 719 (by decide), n5 716 (by decide), n5 719 (by decide), show car7 798 (b + 1) = _ from k2]
    exact v4 k hk
  · rw [m2, m3 715 (by decide), ← hA5, va_up_self, if_pos (by omega)]
    unfold faP
    rw [if_pos (by omega), va_up_ne _ _ (by decide)]
  · by_cases z : k = 29
    · subst z; rw [up_0]; exact h29.symm
    · rw [up_n z, g8 k (by omega), up_n z, e8 k (by omega), up_n z, up_n h57]
  · rw [m3 q (by omega), n5 q (by omega), n4 q h1 (by omega) (by omega) (by omega), n3 q (by omega), n2 q h1 (by omega) (by omega) (by omega), d3 q h1 (by omega) (by omega) (by omega)]
  · rw [show j_u2 sc4 757 5 0 a k = sc4 a k from if_neg (fun z => h ⟨z.1, by omega⟩), g6 a k h, FY a k h, F2 a k h]
  · rw [k6 q h2 (by omega), g7 q h1 (by omega), f6 q h2 (by omega), e7 q h1 (by omega), q3 q h2 h3 h4]
  · rw [k5 k h1 h2, g7 798 (by omega) (by omega), f5 k h1 h2, e7 798 (by omega) (by omega), o3 k h1 h2]
end WB
