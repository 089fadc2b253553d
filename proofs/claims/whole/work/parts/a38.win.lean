/-! TWO WINDOWS on both sides: a happening comes to one of them. -/
/-- the far rows of a page are replaced -/
def faP (P F : Nat → Int32) (n : Nat) : Nat → Int32 := fun i => if 33 ≤ i ∧ i < 33 + n then F i else P i
theorem pgR_far {P C F : Nat → Int32} (h : pgR P C) {D : Nat → Int32} (hD : ∀ k, k < 35 → D k = if 10 ≤ k ∧ k < 14 then F (k + 23) else C k) : pgR (faP P F 4) D := by
  obtain ⟨h1, h2, h3, h4, h5⟩ := h
  have e : ∀ i, i < 33 ∨ i = 37 → faP P F 4 i = P i := fun i hi => if_neg (by omega)
  refine ⟨fun k hk => ?_, fun k hk => ?_, ⟨fun l hl => by rw [e (10 + l) (by omega)]; exact h3.1 l hl, by rw [e 26 (by omega)]; exact h3.2⟩, by rw [e 37 (by omega)]; exact h4, fun l k hl hk hw => ?_, fun k hk hw => ?_⟩
  · have a := ix_c k hk
    rw [hD k (by omega)]
    by_cases z : 10 ≤ k ∧ k < 14
    · rw [if_pos z, show ix k = k + 23 by omega]
      exact (if_pos (show 33 ≤ k + 23 ∧ k + 23 < 33 + 4 by omega)).symm
    · rw [if_neg z, e (ix k) (by omega)]
      exact h1 k hk
  · rw [hD (32 + k) (by omega), if_neg (by omega), e (27 + k) (by omega), e (30 + k) (by omega)]
    exact h2 k hk
  · rw [e (10 + l) (by omega)] at hw
    rw [e _ (by omega)]
    exact h5.1 l k hl hk hw
  · rw [e 26 (by omega)] at hw
    rw [e _ (by omega), e _ (by omega)]
    exact h5.2 k hk hw
/-- the stale bits of ClickOrders' window w (of the two from b on) -/
def wBt (w : Nat) (ar : jSc) (x : Int32) : Prop := ∀ k, k < 4 → bt x k = decide (ar 716 k = nI (1 - w) ∧ ar (718 + w) k = 0)
/-- the far rows are the same in both -/
def wFe (ar : jSc) : Prop := ∀ k, k < 4 → ar 714 (33 + k) = ar 715 (33 + k)
def wRel (b : Nat) (ar car : jSc) : Prop := pgR (ar 714) (car (800 + 2 * b)) ∧ pgR (ar 715) (car (800 + 2 * (b + 1))) ∧ wBt 0 ar (car 798 b) ∧ wBt 1 ar (car 798 (b + 1)) ∧ wFe ar
/-- what a happening in a window leaves -/
def wFr (S : Nat → Int32) (ar : jSc) (S9 : Nat → Int32) (ar9 : jSc) : Prop := (∀ k, (k < 3 ∨ (8 ≤ k ∧ k ≤ 16) ∨ (18 ≤ k ∧ k ≤ 21) ∨ 29 ≤ k) → k ≠ 57 → S9 k = S k) ∧ ∀ b, b ≠ 13 → ¬ (714 ≤ b ∧ b ≤ 719) → ar9 b = ar b
def wCf (b : Nat) (sc car sc2 car2 : jSc) : Prop := (∀ a k, ¬ (a = 757 ∧ 3 ≤ k ∧ k ≤ 9) → sc2 a k = sc a k) ∧ (∀ q, q ≠ 758 → q ≠ 798 → q ≠ 800 + 2 * b → q ≠ 800 + 2 * (b + 1) → car2 q = car q) ∧ (∀ k, k ≠ b → k ≠ b + 1 → car2 798 k = car 798 k) ∧ sc2 757 5 = 0
theorem r_far {w : Nat} (hw : w < 2) {S : Nat → Int32} {ar : jSc} : ∃ ar9, rF_110_55 oF (nI w) 33 S ar = some (1, S, ar9) ∧ ar9 (714 + (1 - w)) = faP (ar (714 + (1 - w))) (ar 13) 4 ∧ ∀ b, b ≠ 714 + (1 - w) → ar9 b = ar b := by
  have e1 : (1 : Int32) - nI w = nI (1 - w) := by rw [show (1 : Int32) = nI 1 from rfl, nI_sub (by omega)]
  have go : ∀ r n nn a, n + r = 4 → r < nn → a (714 + (1 - w)) = faP (ar (714 + (1 - w))) (ar 13) n → (∀ b, b ≠ 714 + (1 - w) → a b = ar b) → ∃ ar9, rF_110_55 nn (nI w) (nI (33 + n)) S a = some (1, S, ar9) ∧ ar9 (714 + (1 - w)) = faP (ar (714 + (1 - w))) (ar 13) 4 ∧ ∀ b, b ≠ 714 + (1 - w) → ar9 b = ar b := by
    intro r
    induction r with
    | zero =>
      intro n nn a h1 h2 h3 h4
      obtain ⟨nn, rfl⟩ : ∃ j, nn = j + 1 := ⟨nn - 1, by omega⟩
      have n4 : n = 4 := by omega
      subst n4
      unfold rF_110_55
      rw [if_pos (show (37 : Int32) ≤ nI (33 + 4) by decide)]
      exact ⟨a, rfl, h3, h4⟩
    | succ r ih =>
      intro n nn a h1 h2 h3 h4
      obtain ⟨nn, rfl⟩ : ∃ j, nn = j + 1 := ⟨nn - 1, by omega⟩
      unfold rF_110_55
      rw [if_neg (show ¬ (37 : Int32) ≤ nI (33 + n) from nI_ge (b := 37) (by omega) (by decide)), e1, if_pos (iB_nI (by omega) (by decide)), if_pos (iB_nI (by omega) (by decide)), if_pos (iB_nI (by omega) (by decide)), iN_nI (by omega), iN_nI (by omega), nI_1, h4 13 (by omega)]
      refine ih (n + 1) nn _ (by omega) (by omega) ?_ (fun b hb => (j_u2_row _ _ _ _ hb).trans (h4 b hb))
      funext i
      unfold faP
      by_cases z : i = 33 + n
      · subst z
        rw [u2_eq, if_pos (by omega)]
      · rw [u2_nk z, h3]
        unfold faP
        by_cases y : 33 ≤ i ∧ i < 33 + n
        · rw [if_pos y, if_pos (by omega)]
        · rw [if_neg y, if_neg (by omega)]
  have := go 4 0 oF ar (by omega) (by unfold oF; omega) (by funext i; unfold faP; rw [if_neg (by omega)]) (fun _ _ => rfl)
  rw [show nI (33 + 0) = (33 : Int32) from rfl] at this
  exact this
section WN
variable {S : Nat → Int32} {ar : jSc} {sc car : jSc} {mr : Nat → Nat} {al : jAl} {pr n p m b : Nat} {tx : Nat → Int32} {g : pG}
theorem bt_15 {x : Int32} {k : Nat} (hk : k < 4) : bt ((x >>> ((16 : Int32) &&& 31)) &&& (15 : Int32)) k = bt x (16 + k) := by
  have h15 : ∀ k, k < 4 → bt 15 k = true := by decide +kernel
  show bt ((x >>> (nI 16 &&& 31)) &&& (15 : Int32)) k = bt x (16 + k)
  rw [b_and, b_sshr 16 (by decide) x (by omega), if_pos (by omega), h15 k hk, Bool.and_true]
/-- what ClickOrders does behind the happening -/
theorem c_74 {w : Nat} (hw : w < 2) (hb : b ≤ 8) : ∃ car2, xF_249_74 (nI b) (nI w) (799 + 2 * (b + w)) (799 + 2 * (b + (1 - w))) sc mr car al = some (sc 757 6, j_u2 sc 757 5 0, mr, car2, al) ∧ car2 798 (b + w) = sc 757 5 ∧ car2 798 (b + (1 - w)) = (car 798 (b + (1 - w)) ||| ((sc 757 4 >>> ((16 : Int32) &&& 31)) &&& 15)) ∧ (∀ k, k < 50 → car2 (800 + 2 * (b + (1 - w))) k = if 10 ≤ k ∧ k < 14 then car (800 + 2 * (b + w)) k else car (800 + 2 * (b + (1 - w))) k) ∧ (∀ k, k ≠ b → k ≠ b + 1 → car2 798 k = car 798 k) ∧ ∀ q, q ≠ 798 → q ≠ 800 + 2 * (b + (1 - w)) → car2 q = car q := by
  have e1 : nI b + nI w = nI (b + w) := nI_add b w
  have e2 : nI b + (1 : Int32) - nI w = nI (b + (1 - w)) := by rw [nI_1, nI_sub (by omega), show b + 1 - w = b + (1 - w) by omega]
  have b1 : iB (nI (b + w)) 10 := iB_nI (by omega) (by decide)
  have b2 : iB (nI (b + (1 - w))) 10 := iB_nI (by omega) (by decide)
  have d : b + (1 - w) ≠ b + w := by omega
  unfold xF_249_74
  rw [e1, e2, if_pos b1, if_pos b2, if_pos b2, iN_nI (by omega), iN_nI (by omega), show iN (10 : Int32) = 10 from rfl, show iN (4 : Int32) = 4 from rfl]
  refine ⟨_, rfl, ?_, ?_, fun k hk => ?_, fun k h1 h2 => ?_, fun q h1 h2 => ?_⟩
  · rw [va_up_ne _ _ (by omega), u2_nk (by omega), u2_eq]
  · rw [va_up_ne _ _ (by omega), u2_eq, u2_nk d]
  · rw [show 800 + 2 * (b + (1 - w)) = 799 + 2 * (b + (1 - w)) + 1 by omega, show 800 + 2 * (b + w) = 799 + 2 * (b + w) + 1 by omega, va_up_self, j_u2_row _ _ _ _ (by omega), j_u2_row _ _ _ _ (by omega), j_u2_row _ _ _ _ (by omega), j_u2_row _ _ _ _ (by omega)]
    by_cases z : 10 ≤ k ∧ k < 14
    · rw [if_pos z, cpy_in (by omega) (by omega), show 10 + (k - 10) = k by omega]
    · rw [if_neg z, cpy_out (by omega)]
  · rw [va_up_ne _ _ (by omega), u2_nk (by omega), u2_nk (by omega)]
  · rw [va_up_ne _ _ (by omega), j_u2_row _ _ _ _ h1, j_u2_row _ _ _ _ h1]
/-- the window's bits, put together -/
theorem wBt_of {w : Nat} (hw : w < 2) {ar : jSc} {x y : Int32} (hx : wBt w ar x) (hy : wBt (1 - w) ar y) {u v : Int32} (hu : u = if w = 0 then x else y) (hv : v = if w = 0 then y else x) : wBt 0 ar u ∧ wBt 1 ar v := by
  rcases (show w = 0 ∨ w = 1 by omega) with rfl | rfl
  · rw [if_pos rfl] at hu hv; subst hu; subst hv; exact ⟨hx, hy⟩
  · rw [if_neg (by decide)] at hu hv; subst hu; subst hv; exact ⟨hy, hx⟩
/-- behind the happening: far rows, bits, on both sides -/
theorem h_after {w : Nat} (hw : w < 2) (hb : b ≤ 8) {S9 : Nat → Int32} {ar9 : jSc} {sc2 car2 : jSc} {o0 : Nat → Bool} {d57 : Int32} (h29 : S9 29 = nI w) (hR : pgR (ar9 13) (car2 (800 + 2 * (b + w)))) (hO : pgR (ar9 (714 + (1 - w))) (car2 (800 + 2 * (b + (1 - w))))) (hW : hWn o0 d57 S9 ar9 sc2) (ho : ∀ k, k < 4 → o0 k = bt (car2 798 (b + (1 - w))) k) :
    ∃ ar8 car8, o_b2 (rF_56 (714 + w) 53 (upd S9 29 (-1)) ar9) (fun Se are => rF_110_55 oF (nI w) 33 Se are) = some (1, upd S9 29 (-1), ar8) ∧ xF_249_74 (nI b) (nI w) (799 + 2 * (b + w)) (799 + 2 * (b + (1 - w))) sc2 mr car2 al = some (sc2 757 6, j_u2 sc2 757 5 0, mr, car8, al) ∧ wRel b ar8 car8 ∧ S9 57 = d57 + sc2 757 6 ∧ (∀ q, ¬ (714 ≤ q ∧ q ≤ 715) → ar8 q = ar9 q) ∧ (∀ k, k ≠ b → k ≠ b + 1 → car8 798 k = car2 798 k) ∧ ∀ q, q ≠ 798 → q ≠ 800 + 2 * (b + (1 - w)) → car8 q = car2 q := by
  rcases hW with ⟨z, -, -⟩ | ⟨w', w1, w2, w3, w4, w5⟩
  · rw [h29] at z; exact absurd z (nI_nm (by omega))
  rw [h29] at w2
  have ww : w' = w := ((nI_eq (by omega) (by omega)).mp w2).symm
  subst ww
  obtain ⟨car8, c1, c2, c3, c4, c5, c6⟩ := c_74 (sc := sc2) (car := car2) (mr := mr) (al := al) hw hb
  rw [r_keep (by decide) (by omega), ob2]
  obtain ⟨ar8, r1, r2, r3⟩ := r_far hw (S := upd S9 29 (-1)) (ar := va_up ar9 (714 + w') (fun k => if k < 53 then ar9 13 k else ar9 (714 + w') k))
  refine ⟨ar8, car8, r1, c1, ?_, w3, fun q hq => ?_, c5, c6⟩
  · have q0 : ∀ q, ¬ (714 ≤ q ∧ q ≤ 715) → ar8 q = ar9 q := fun q hq => by rw [r3 q (by omega), va_up_ne _ _ (by omega)]
    have pS : pgR (ar8 (714 + w')) (car8 (800 + 2 * (b + w'))) := by
      rw [r3 _ (by omega), va_up_self, c6 _ (by omega) (by omega)]
      exact pgR_P hR (fun k hk => if_pos (by omega))
    have pO : pgR (ar8 (714 + (1 - w'))) (car8 (800 + 2 * (b + (1 - w')))) := by
      rw [r2, va_up_ne _ _ (by omega), va_up_ne _ _ (by omega)]
      refine pgR_far hO (fun k hk => ?_)
      rw [c4 k (by omega)]
      by_cases z : 10 ≤ k ∧ k < 14
      · rw [if_pos z, if_pos z, hR.1 k (by omega)]
        have a := ix_c k (by omega)
        rw [show ix k = k + 23 by omega]
      · rw [if_neg z, if_neg z]
    have fS : ∀ k, k < 4 → ar8 (714 + w') (33 + k) = ar9 13 (33 + k) := fun k hk => by rw [r3 _ (by omega), va_up_self, if_pos (by omega)]
    have fO : ∀ k, k < 4 → ar8 (714 + (1 - w')) (33 + k) = ar9 13 (33 + k) := fun k hk => by
      rw [r2]
      unfold faP
      rw [if_pos (by omega), va_up_ne _ _ (by omega)]
    have bS : wBt w' ar8 (sc2 757 5) := fun k hk => by
      rw [q0 716 (by omega), q0 (718 + w') (by omega)]
      exact w4 k hk
    have bO : wBt (1 - w') ar8 (car8 798 (b + (1 - w'))) := fun k hk => by
      rw [q0 716 (by omega), q0 (718 + (1 - w')) (by omega), c3, b_or, bt_15 hk, ← ho k hk, ← w5 k hk, show 1 - (1 - w') = w' by omega, show 718 + (1 - w') = 719 - w' by omega]
    rcases (show w' = 0 ∨ w' = 1 by omega) with rfl | rfl
    · exact ⟨pS, pO, by rw [show b = b + 0 from rfl, c2]; exact bS, bO, fun k hk => (fS k hk).trans (fO k hk).symm⟩
    · exact ⟨pO, pS, bO, by rw [c2]; exact bS, fun k hk => (fO k hk).trans (fS k hk).symm⟩
  · rw [r3 q (by omega), va_up_ne _ _ (by omega)]
/-- a happening comes to the window w -/
theorem h_move {w c : Nat} (hs : sR pr n tx g p m S ar sc car mr) (h16 : S 16 = 0) (h29 : S 29 = -1) (hw : w < 2) (hb : b ≤ 8) (hc : c < 13) (hR : wRel b ar car) (hcan : aCan ar m (ar (714 + w)) c = true) :
    ∃ v S9 ar9 sc2 car2, rF_110 (nI w) (nI c) S ar = some (1, S9, ar9) ∧ xF_249 (nI b) (nI w) (nI c) sc mr car al = some (v, sc2, mr, car2, al) ∧ S9 57 = S 57 + v ∧ wRel b ar9 car2 ∧ wFr S ar S9 ar9 ∧ wCf b sc car sc2 car2 := by
  have e1 : nI b + nI w = nI (b + w) := nI_add b w
  have e2 : nI b + (1 : Int32) - nI w = nI (b + (1 - w)) := by rw [nI_1, nI_sub (by omega), show b + 1 - w = b + (1 - w) by omega]
  have b1 : iB (nI (b + w)) 10 := iB_nI (by omega) (by decide)
  have b2 : iB (nI (b + (1 - w))) 10 := iB_nI (by omega) (by decide)
  have pS : pgR (ar (714 + w)) (car (800 + 2 * (b + w))) := by
    rcases (show w = 0 ∨ w = 1 by omega) with rfl | rfl
    · exact hR.1
    · exact hR.2.1
  have pO : pgR (ar (714 + (1 - w))) (car (800 + 2 * (b + (1 - w)))) := by
    rcases (show w = 0 ∨ w = 1 by omega) with rfl | rfl
    · exact hR.2.1
    · exact hR.1
  have bS : wBt w ar (car 798 (b + w)) := by
    rcases (show w = 0 ∨ w = 1 by omega) with rfl | rfl
    · exact hR.2.2.1
    · exact hR.2.2.2.1
  have bO : wBt (1 - w) ar (car 798 (b + (1 - w))) := by
    rcases (show w = 0 ∨ w = 1 by omega) with rfl | rfl
    · exact hR.2.2.2.1
    · exact hR.2.2.1
  -- the reference
  generalize hA1 : va_up ar 13 (fun k => if k < 53 then ar (714 + w) k else ar 13 k) = ar1
  have n1 : ∀ q, q ≠ 13 → ar1 q = ar q := fun q hq => by rw [← hA1, va_up_ne _ _ hq]
  have p1 : ∀ k, k < 53 → ar1 13 k = ar (714 + w) k := fun k hk => by rw [← hA1, va_up_self, if_pos hk]
  have R1 : pgR (ar1 13) (car (800 + 2 * (b + w))) := pgR_P pS (fun k hk => p1 k (by omega))
  have s1 : sR pr n tx g p m S ar1 sc car mr := sR_st hs (stS_rf S) (stA_13 n1)
  have can1 : aCan ar1 m (ar1 13) c = true := by
    rw [aCan_c (ar := ar) (P := ar (714 + w)) (stA_13 n1) hs.2.2.2.2.2.2.1 (fun k hk => p1 k (by omega)) hc]; exact hcan
  obtain ⟨q1, q2⟩ := aCan_89 can1
  -- ClickOrders
  generalize hX : j_u2 (j_u2 sc 757 5 (car 798 (b + w))) 757 6 (0 : Int32) = X
  have X5 : X 757 5 = car 798 (b + w) := by rw [← hX, u2_nk (by decide), u2_eq]
  have X6 : X 757 6 = 0 := by rw [← hX, u2_eq]
  have FX : hF7 sc X := by rw [← hX]; exact hF7_u (by decide) (hF7_u (by decide) (fun _ _ _ => rfl))
  have sX : sR pr n tx g p m (upd S 29 (nI w)) ar1 X car mr := sR_cl (pp := 799 + 2 * (b + w)) (by omega) (by
    obtain ⟨h1, h2, h3, h4, h5, h6, h7⟩ := s1
    exact ⟨h1, h2, h3, h4, by rw [up_n (by decide)]; exact h5, by rw [up_n (by decide)]; exact h6, h7⟩) FX (hFa_rf _ _)
  have hw0 : hWn (fun k => bt (car 798 (b + (1 - w))) k) (S 57) (upd S 29 (nI w)) ar1 (j_u2 X 757 4 0) := by
    refine Or.inr ⟨w, hw, up_0, ?_, fun k hk => ?_, fun k hk => ?_⟩
    · rw [up_n (by decide), u2_nk (by decide), X6, Int32.add_zero]
    · rw [u2_nk (by decide), X5, n1 716 (by decide), n1 (718 + w) (by omega)]
      exact bS k hk
    · show _ = (bt (car 798 (b + (1 - w))) k || _)
      rw [u2_eq, b_0, Bool.or_false, n1 716 (by decide), n1 (719 - w) (by omega), bO k hk, show 1 - (1 - w) = w by omega, show 718 + (1 - w) = 719 - w by omega]
  obtain ⟨v, v2, S2, ar2, sc2, car2, f1, f2, -, f4, f5, f6, f7, f8, f9⟩ := h_hap (cb := false) (x := -1) (al := al) sX (pp := 799 + 2 * (b + w)) (by omega) hc (by rw [show 799 + 2 * (b + w) + 1 = 800 + 2 * (b + w) by omega]; exact R1) (fun h => by cases h) hw0 q1 q2
  have h29' : S2 29 = nI w := (f8 29 (by decide)).trans up_0
  have rw9 : ∀ q, q ≠ 13 → q ≠ 716 → q ≠ 718 → q ≠ 719 → ar2 q = ar q := fun q u1 u2 u3 u4 => (f9.1 q (by simpa using u1) (by simpa using u2) (by simpa using u3) (by simpa using u4)).trans (n1 q u1)
  obtain ⟨ar8, car8, k1, k2, k3, k4, k5, k6, k7⟩ := h_after (mr := mr) (al := al) hw hb h29' (by rw [show 800 + 2 * (b + w) = 799 + 2 * (b + w) + 1 by omega]; exact f4.1) (by rw [rw9 _ (by omega) (by omega) (by omega) (by omega), f7 _ (by omega) (by omega)]; exact pO) f5 (fun k _ => by rw [f7 798 (by omega) (by omega)])
  have bw : iB (nI w) 2 := iB_nI hw (by decide)
  refine ⟨sc2 757 6, upd S2 29 (-1), ar8, j_u2 sc2 757 5 0, car8, ?_, ?_, ?_, k3, ⟨fun k hk h57 => ?_, fun q h1 h2 => ?_⟩, ⟨fun a k h => ?_, fun q h1 h2 h3 h4 => ?_, fun k h1 h2 => ?_, u2_eq⟩⟩
  · unfold rF_110
    rw [if_pos bw, up_16 h16, iN_nI (by omega), r_load (by decide) (by omega), ob2, hA1, r_can (m := m) s1.2.2.2.2.2.1 s1.2.2.2.2.2.2.1 hc R1.2.2.1, ob3, if_pos can1, if_neg (by decide), f1, ob3, if_pos bw]
    exact k1
  · unfold xF_249
    rw [e1, e2, if_pos b1, if_pos b2, if_pos b1, if_neg (show ¬ nI c = (-1 : Int32) from nI_nm (by omega)), iN_nI (by omega), iN_nI (by omega), hX, f2, ob5]
    exact k2
  · rw [up_n (by decide)]; exact k4
  · by_cases z : k = 29
    · subst z; rw [up_0]; exact h29.symm
    · rw [up_n z, f8 k (by omega), up_n z]
  · rw [k5 q (by omega)]
    exact rw9 q h1 (by omega) (by omega) (by omega)
  · rw [show j_u2 sc2 757 5 0 a k = sc2 a k from if_neg (fun z => h ⟨z.1, by omega⟩), f6 a k h, FX a k h]
  · rcases (show w = 0 ∨ w = 1 by omega) with rfl | rfl
    · rw [k7 q h2 (by omega), f7 q h1 (by omega)]
    · rw [k7 q h2 (by omega), f7 q h1 (by omega)]
  · rw [k6 k h1 h2, f7 798 (by omega) (by omega)]
end WN
