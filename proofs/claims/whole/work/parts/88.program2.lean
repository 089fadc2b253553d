/-! THE REFERENCE: a whole program read. -/
/-- handlers and conditions of g stand among its orders -/
def gI (n : Nat) (tx : Nat → Int32) (g : pG) : Prop :=
  (∀ e x, g.2.1 e = some x → ∃ m cnt seg q2 c2 pre post, p_hb tx m x.1 x.2 cnt = .inr (seg, q2, c2) ∧ cnt ≤ 60 ∧ x.1 ≤ n ∧ g.1 = pre ++ seg ++ post ∧ pre.length = x.2) ∧
  (∀ x, g.2.2.1 = some x → ∃ os q2 pre post, p_or (p_tk tx 6) tx x.1 = .inr (os, q2) ∧ x.1 ≤ n ∧ g.1 = pre ++ (os ++ [(16, 0)]) ++ post ∧ pre.length = x.2) ∧
  (∀ x, g.2.2.2.1 = some x → ∃ os q2 pre post, p_or (p_tk tx 6) tx x.1 = .inr (os, q2) ∧ x.1 ≤ n ∧ g.1 = pre ++ (os ++ [(16, 0)]) ++ post ∧ pre.length = x.2)
theorem gI_app {n : Nat} {tx : Nat → Int32} {g : pG} (h : gI n tx g) (o : oL) : gI n tx (g.1 ++ o, g.2) := by
  obtain ⟨h1, h2, h3⟩ := h
  refine ⟨fun e x hx => ?_, fun x hx => ?_, fun x hx => ?_⟩
  · obtain ⟨m, cnt, seg, q2, c2, pre, post, a, b, c, d, f⟩ := h1 e x hx
    exact ⟨m, cnt, seg, q2, c2, pre, post ++ o, a, b, c, by show g.1 ++ o = _; rw [d]; simp [List.append_assoc], f⟩
  · obtain ⟨os, q2, pre, post, a, b, c, d⟩ := h2 x hx
    exact ⟨os, q2, pre, post ++ o, a, b, by show g.1 ++ o = _; rw [c]; simp [List.append_assoc], d⟩
  · obtain ⟨os, q2, pre, post, a, b, c, d⟩ := h3 x hx
    exact ⟨os, q2, pre, post ++ o, a, b, by show g.1 ++ o = _; rw [c]; simp [List.append_assoc], d⟩
theorem gI_pt {n : Nat} {tx : Nat → Int32} {g g2 : pG} {q q2 : Nat} (hT : x_tx n tx) (hq : q ≤ n) (hc : g.2.2.2.2 ≤ 60) (h : gI n tx g) (hp : p_pt tx q g = .inr (g2, q2)) : gI n tx g2 := by
  unfold p_pt at hp
  split at hp
  · split at hp
    · cases hp
    · rename_i e q3 hev
      split at hp
      · cases hp
      · split at hp
        · rename_i k1
          split at hp
          · cases hp
          · rename_i seg q4 c4 hb
            cases hp
            obtain ⟨h1, h2, h3⟩ := gI_app h seg
            refine ⟨fun e' x hx => ?_, h2, h3⟩
            have hx : (if e' = e then some (x_nb tx q3 + 1, g.1.length) else g.2.1 e') = some x := hx
            split at hx
            · cases hx
              exact ⟨700, _, seg, q2, c4, g.1, [], hb, hc, lt_n hT (by rw [k1]; decide), by simp, rfl⟩
            · exact h1 e' x hx
        · cases hp
  · split at hp
    · split at hp
      · cases hp
      · rename_i o1 q3 ho
        split at hp
        · cases hp
          obtain ⟨h1, h2, h3⟩ := gI_app h (o1 ++ [(16, 0)])
          refine ⟨h1, fun x hx => ?_, h3⟩
          cases hx
          exact ⟨o1, q3, g.1, [], ho, x_we_lt hT hq, by simp, rfl⟩
        · cases hp
    · split at hp
      · split at hp
        · cases hp
        · rename_i o1 q3 ho
          split at hp
          · cases hp
            obtain ⟨h1, h2, h3⟩ := gI_app h (o1 ++ [(16, 0)])
            refine ⟨h1, h2, fun x hx => ?_⟩
            cases hx
            exact ⟨o1, q3, g.1, [], ho, x_we_lt hT hq, by simp, rfl⟩
          · cases hp
      · cases hp
/-- the orders of a row, by their places -/
def oO (os : oL) (i : Nat) : Nat × Int32 := os.getD i (16, 0)
theorem oO_sg : ∀ (seg pre post : oL), w_sg (oO (pre ++ seg ++ post)) pre.length seg
  | [], _, _ => trivial
  | o :: r, pre, post => by
    refine ⟨?_, ?_⟩
    · unfold oO
      simp [List.getD_eq_getElem?_getD]
    · have := oO_sg r (pre ++ [o]) post
      simp only [List.length_append, List.length_cons, List.length_nil] at this
      rw [show pre ++ [o] ++ r ++ post = pre ++ o :: r ++ post by simp [List.append_assoc]] at this
      exact this
theorem HB_of {n : Nat} {tx : Nat → Int32} {g : pG} (h : gI n tx g) (hl : g.1.length ≤ 600) {e : Nat} {x : Nat × Nat} (hx : g.2.1 e = some x) : HB n tx (oO g.1) g.1.length x.1 x.2 := by
  obtain ⟨m, cnt, seg, q2, c2, pre, post, a, b, c, d, f⟩ := h.1 e x hx
  have hlen : g.1.length = pre.length + seg.length + post.length := by rw [d]; simp only [List.length_append]
  refine ⟨m, cnt, seg, q2, c2, a, b, by omega, ?_, by omega, c⟩
  rw [← f]
  conv => arg 1; rw [d]
  exact oO_sg seg pre post
theorem HC_of {n : Nat} {tx : Nat → Int32} {g : pG} {x : Nat × Nat} (h : ∃ os q2 pre post, p_or (p_tk tx 6) tx x.1 = .inr (os, q2) ∧ x.1 ≤ n ∧ g.1 = pre ++ (os ++ [(16, 0)]) ++ post ∧ pre.length = x.2) : HC n tx (oO g.1) g.1.length x.1 x.2 := by
  obtain ⟨os, q2, pre, post, a, b, c, d⟩ := h
  have hlen : g.1.length = pre.length + (os.length + 1) + post.length := by rw [c]; simp only [List.length_append, List.length_cons, List.length_nil]
  refine ⟨os, q2, a, ?_, by omega, b⟩
  rw [← d]
  conv => arg 1; rw [c]
  exact oO_sg _ pre post
section PC
variable {tx : Nat → Int32} {n : Nat}
theorem r_parts : ∀ (m nn : Nat) (S : Nat → Int32) (ar : jSc) (q : Nat) (rd x1 : Int32) (g : pG), rE tx n S ar → q ≤ n → S 22 = 0 → S 4 = -1 → S 27 = rd → gR n S ar g → g.1.length ≤ q → gI n tx g → n < q + m → n + 1 < q + nn →
    (∀ g2, p_pl tx n m q g = .inr g2 → gI n tx g2 ∧ g2.1.length ≤ n ∧ ∃ S2 ar2 q2, q2 ≤ n ∧ rF_42_107 nn x1 (sQ S (x_nb tx q) 0 rd) ar = rF_42_136 x1 (sQ S2 q2 0 rd) ar2 ∧ gR n S2 ar2 g2 ∧ f179 S S2 ∧ r12 ar ar2) ∧
    (∀ kd pl, p_pl tx n m q g = .inl (kd, pl) → ∃ S9 ar9, rF_42_107 nn x1 (sQ S (x_nb tx q) 0 rd) ar = rF_42_136 x1 S9 ar9 ∧ rFB S n kd pl S9 ∧ r12 ar ar9) := by
  intro m
  induction m with
  | zero => intro nn S ar q rd x1 g hE hq h22 h4 hrd hg hgl hgi hm; omega
  | succ m ih =>
    intro nn S ar q rd x1 g hE hq h22 h4 hrd hg hgl hgi hm hnn
    obtain ⟨nn, rfl⟩ : ∃ j, nn = j + 1 := ⟨nn - 1, by omega⟩
    have hn := hE.1.1.1
    have b0 := (x_nb_ok hE.1.1 q).1
    have b1 := x_nb_le hE.1.1 hq
    have e0 := x_nb_idem hE.1.1 q
    have e3 : sQ S (x_nb tx q) 0 rd 3 = nI n := hE.1.2.1
    have e5 : nI n ≤ nI (x_nb tx q) ↔ n ≤ x_nb tx q := nI_leI (by omega) (by omega)
    unfold p_pl rF_42_107
    rw [if_pos (show sQ S (x_nb tx q) 0 rd 7 = 0 from hE.2.1), e3, sQ_5]
    by_cases c : n ≤ x_nb tx q
    · rw [if_pos c, if_pos (e5.mpr c)]
      refine ⟨fun g2 hp => ?_, fun kd pl hp => (by cases hp)⟩
      cases hp
      exact ⟨hgi, by omega, S, ar, x_nb tx q, b1, rfl, hg, fun _ _ _ _ => rfl, fun _ _ => rfl⟩
    · rw [if_neg c, if_neg (fun z => c (e5.mp z))]
      obtain ⟨p1, p2⟩ := r_part hE (by omega) e0 h22 h4 hrd hg (by omega)
      rcases hp0 : p_pt tx (x_nb tx q) g with ⟨kd, pl⟩ | ⟨g3, q3⟩
      · refine ⟨fun g2 hp => (by cases hp), fun kd2 pl2 hp => ?_⟩
        cases hp
        obtain ⟨S9, ar9, y1, y2, y3⟩ := p2 kd pl hp0
        obtain ⟨q9, z1, z2⟩ := y2.2.2.2.1
        have fr : ∀ k, (k == 5) = false → (k == 6) = false → (k == 7) = false → (k == 8) = false → (k == 17) = false → (k == 18) = false → (k == 19) = false → S9 k = S k := y2.2.2.2.2
        have hT9 : r_TX S9 ar9 n tx := by
          refine ⟨hE.1.1, (fr 3 rfl rfl rfl rfl rfl rfl rfl).trans hE.1.2.1, Or.inl ⟨(fr 4 rfl rfl rfl rfl rfl rfl rfl).trans h4, fun p hp => ?_⟩⟩
          rcases hE.1.2.2 with ⟨-, y⟩ | ⟨z, y1, y2, -⟩
          · rw [y3 1 rfl]; exact y p hp
          · rw [h4] at y2; rcases (show z = 0 ∨ z = 1 by omega) with rfl | rfl <;> exact absurd y2 (by decide)
        have eb := r_blanks hT9 (q := q9) (by omega)
        rw [sA_i z2] at eb
        have bn := (x_nb_ok hE.1.1 q9).2.1
        rw [y1, ob2, eb, ob2]
        obtain ⟨nn, rfl⟩ : ∃ j, nn = j + 1 := ⟨nn - 1, by omega⟩
        refine ⟨sA S9 (x_nb tx q9), ar9, ?_, rFB_A y2 (by omega), y3⟩
        unfold rF_42_107
        rw [if_neg (show ¬ sA S9 (x_nb tx q9) 7 = 0 from (show ¬ S9 7 = 0 from rFB_ne y2))]
      · obtain ⟨a1, a2, a3, S2, ar2, y1, y2, y3, y4⟩ := p1 g3 q3 hp0
        have hE2 : rE tx n S2 ar2 := by
          refine ⟨⟨hE.1.1, (y3 3 rfl rfl rfl).trans hE.1.2.1, Or.inl ⟨(y3 4 rfl rfl rfl).trans h4, fun p hp => ?_⟩⟩, (y3 7 rfl rfl rfl).trans hE.2.1, by rw [y3 29 rfl rfl rfl]; exact hE.2.2⟩
          rcases hE.1.2.2 with ⟨-, y⟩ | ⟨z, y1, y2, -⟩
          · rw [y4 1 rfl]; exact y p hp
          · rw [h4] at y2; rcases (show z = 0 ∨ z = 1 by omega) with rfl | rfl <;> exact absurd y2 (by decide)
        have hTB : r_TX (upd (upd S2 27 rd) 6 (nI 0)) ar2 n tx := r_TX_S hE2.1 rfl rfl
        rw [y1, ob2, r_blanks hTB (by omega), ob2]
        obtain ⟨i1, i2⟩ := ih nn S2 ar2 q3 rd x1 g3 hE2 a2 ((y3 22 rfl rfl rfl).trans h22) ((y3 4 rfl rfl rfl).trans h4) ((y3 27 rfl rfl rfl).trans hrd) y2 a3 (gI_pt hE.1.1 b1 hg.1.2 hgi hp0) (by omega) (by omega)
        refine ⟨fun g2 hp => ?_, fun kd pl hp => ?_⟩
        · obtain ⟨j1, j2, S3, ar3, q4, j3, j4, j5, j6, j7⟩ := i1 g2 hp
          exact ⟨j1, j2, S3, ar3, q4, j3, j4, j5, fun k a b c => (j6 k a b c).trans (y3 k a b c), fun b h => (j7 b h).trans (y4 b h)⟩
        · obtain ⟨S9, ar9, j1, j2, j3⟩ := i2 kd pl hp
          exact ⟨S9, ar9, j1, rFB_fr j2 y3, fun b h => (j3 b h).trans (y4 b h)⟩
/-- nothing found yet -/
def g0 : pG := ([], fun _ => none, none, none, 0)
/-- the text of n bytes on the tape -/
def t_fed (ar : jSc) (n : Nat) (p : Nat) : Int32 := if p < n then ar 1 p else -1
theorem r_clr {S : Nat → Int32} {x1 : Int32} : ∀ (m i nn : Nat) (ar : jSc), i + m = 17 → m < nn → (∀ j, j < i → ar 12 j = -1) → ∃ ar2, r12 ar ar2 ∧ (∀ j, j < 17 → ar2 12 j = -1) ∧ rF_42_84 nn x1 (nI i) S ar = o_b2 (rF_7 S ar2) (fun S1 ar1 => rF_42_107 oF x1 S1 ar1) := by
  intro m
  induction m with
  | zero =>
    intro i nn ar h1 h2 h3
    obtain ⟨nn, rfl⟩ : ∃ j, nn = j + 1 := ⟨nn - 1, by omega⟩
    have e : i = 17 := by omega
    subst e
    refine ⟨ar, fun _ _ => rfl, h3, ?_⟩
    unfold rF_42_84
    rw [if_pos (by decide)]
  | succ m ih =>
    intro i nn ar h1 h2 h3
    obtain ⟨nn, rfl⟩ : ∃ j, nn = j + 1 := ⟨nn - 1, by omega⟩
    have c : (17 : Int32) ≤ nI i ↔ 17 ≤ i := nI_leI (by decide) (by omega)
    obtain ⟨ar2, a1, a2, a3⟩ := ih (i + 1) nn (j_u2 ar 12 i (-1)) (by omega) (by omega) (fun j hj => by
      by_cases e : j = i
      · subst e; exact u2_eq
      · rw [u2_nk e]; exact h3 j (by omega))
    refine ⟨ar2, fun b h => (a1 b h).trans (r12_u b h), a2, ?_⟩
    unfold rF_42_84
    rw [if_neg (fun z => absurd (c.mp z) (by omega)), if_pos (iB_nI (by omega) (by decide)), iN_nI (by omega), nI_1]
    exact a3
/-- program(n) up to where the fault is looked at -/
theorem r_program {S : Nat → Int32} {ar : jSc} {n t : Nat} (ht : S 1 = nI t) (ht6 : t ≤ 600) (hnt : n ≤ t) (hb : ∀ p, p < 600 → 0 ≤ ar 1 p ∧ ar 1 p ≤ 255) (hw : S 29 = -1 ∨ S 29 = 0 ∨ S 29 = 1) :
    (∀ g, p_pl (t_fed ar n) n 700 0 g0 = .inr g → gI n (t_fed ar n) g ∧ g.1.length ≤ n ∧ ∃ S2 ar2, rF_42 (nI n) S ar = rF_42_136 (nI n) S2 ar2 ∧ S2 7 = 0 ∧ S2 8 = -1 ∧ S2 0 = 0 ∧ gR n S2 ar2 g ∧ r12 ar ar2 ∧ (∀ k, 20 ≤ k → (k == 22) = false → S2 k = S k) ∧ (∀ k, 9 ≤ k → k ≤ 16 → S2 k = S k) ∧ S2 1 = S 1 ∧ S2 2 = S 2) ∧
    (∀ kd pl, p_pl (t_fed ar n) n 700 0 g0 = .inl (kd, pl) → (1 ≤ kd ∧ kd ≤ 4) ∧ pl ≤ n ∧ ∃ S9 ar9, rF_42 (nI n) S ar = rF_42_136 (nI n) S9 ar9 ∧ S9 7 = nI kd ∧ S9 8 = nI pl ∧ S9 0 = 0 ∧ r12 ar ar9 ∧ (∀ k, 20 ≤ k → (k == 22) = false → S9 k = S k) ∧ (∀ k, 9 ≤ k → k ≤ 16 → S9 k = S k) ∧ S9 1 = S 1 ∧ S9 2 = S 2) := by
  have hin : rF_4 (nI n) 0 (S 1) (upd S 0 0) ar = some (1, upd S 0 0, ar) := by
    unfold rF_4
    rw [if_neg (nI_pos (by omega)), ht, if_neg (nI_nlt hnt (by omega))]
  have hbad : rF_3 0 1 (upd S 0 0) ar = some (0, upd S 0 0, ar) := by
    unfold rF_3
    rw [if_pos rfl, if_pos (show upd S 0 0 0 = 0 from rfl)]
  have htx : x_tx n (t_fed ar n) := by
    refine ⟨by omega, fun p hp => if_neg (by omega), fun p hp => ?_⟩
    have : t_fed ar n p = ar 1 p := if_pos hp
    rw [this]
    exact hb p (by omega)
  obtain ⟨ar2, a1, a2, a3⟩ := r_clr (S := upd (upd (upd (upd (upd (upd (upd (upd (upd (upd (upd S 0 0) 4 (-1)) 3 (nI n)) 5 0) 6 0) 7 0) 8 (-1)) 17 0) 18 (-1)) 19 (-1)) 22 0) (x1 := nI n) 17 0 oF ar (by omega) (by rw [oF_s]; omega) (fun j hj => by omega)
  have base : ∃ Sb, (upd (upd (upd (upd (upd (upd (upd (upd (upd (upd (upd S 0 0) 4 (-1)) 3 (nI n)) 5 0) 6 0) 7 0) 8 (-1)) 17 0) 18 (-1)) 19 (-1)) 22 0) = sQ Sb 0 0 (S 27) ∧ Sb = upd (upd (upd (upd (upd (upd (upd (upd (upd S 0 0) 4 (-1)) 3 (nI n)) 7 0) 8 (-1)) 17 0) 18 (-1)) 19 (-1)) 22 0 := by
    refine ⟨_, ?_, rfl⟩
    funext k
    by_cases e5 : k = 5
    · subst e5; rfl
    by_cases e6 : k = 6
    · subst e6; rfl
    by_cases e27 : k = 27
    · subst e27; rfl
    simp [upd, e5, e6, e27]
  obtain ⟨Sb, eb, hSb⟩ := base
  have sf : ∀ k, (k == 0) = false → (k == 3) = false → (k == 4) = false → (k == 7) = false → (k == 8) = false → (k == 17) = false → (k == 18) = false → (k == 19) = false → (k == 22) = false → Sb k = S k := by
    intro k h0 h3 h4 h7 h8 h17 h18 h19 h22
    rw [hSb, up_1 h22, up_1 h19, up_1 h18, up_1 h17, up_1 h8, up_1 h7, up_1 h3, up_1 h4, up_1 h0]
  have s3 : Sb 3 = nI n := by rw [hSb]; rfl
  have s4 : Sb 4 = -1 := by rw [hSb]; rfl
  have s7 : Sb 7 = 0 := by rw [hSb]; rfl
  have s8 : Sb 8 = -1 := by rw [hSb]; rfl
  have s0 : Sb 0 = 0 := by rw [hSb]; rfl
  have s17 : Sb 17 = 0 := by rw [hSb]; rfl
  have s18 : Sb 18 = -1 := by rw [hSb]; rfl
  have s19 : Sb 19 = -1 := by rw [hSb]; rfl
  have s22 : Sb 22 = 0 := by rw [hSb]; rfl
  have hE : rE (t_fed ar n) n Sb ar2 := ⟨⟨htx, s3, Or.inl ⟨s4, fun p hp => by rw [a1 1 rfl]; exact if_pos hp⟩⟩, s7, by rw [sf 29 rfl rfl rfl rfl rfl rfl rfl rfl rfl]; exact hw⟩
  have hTB : r_TX (upd (upd Sb 27 (S 27)) 6 (nI 0)) ar2 n (t_fed ar n) := r_TX_S hE.1 rfl rfl
  have h27 : Sb 27 = S 27 := sf 27 rfl rfl rfl rfl rfl rfl rfl rfl rfl
  have ew : rF_42 (nI n) S ar = rF_42_107 oF (nI n) (sQ Sb (x_nb (t_fed ar n) 0) 0 (S 27)) ar2 := by
    unfold rF_42
    rw [hin, ob3, if_neg (by decide)]
    unfold rF_42_23
    rw [hbad, ob3, if_pos rfl]
    refine a3.trans ?_
    rw [eb, r_blanks hTB (by omega), ob2]
  have hg : gR n Sb ar2 g0 := ⟨⟨s17, by decide⟩, fun e he => a2 e he, s18, s19, fun e x h => (by cases h)⟩
  have hgi : gI n (t_fed ar n) g0 := ⟨fun e x h => (by cases h), fun x h => (by cases h), fun x h => (by cases h)⟩
  obtain ⟨i1, i2⟩ := r_parts (tx := t_fed ar n) (n := n) 700 oF Sb ar2 0 (S 27) (nI n) g0 hE (by omega) s22 s4 h27 hg (by decide) hgi (by omega) (by rw [oF_s]; omega)
  have big : ∀ k, 20 ≤ k → (k == 22) = false → Sb k = S k := fun k h1 h2 => sf k (by simp; omega) (by simp; omega) (by simp; omega) (by simp; omega) (by simp; omega) (by simp; omega) (by simp; omega) (by simp; omega) h2
  have mid : ∀ k, 9 ≤ k → k ≤ 16 → Sb k = S k := fun k h1 h2 => sf k (by simp; omega) (by simp; omega) (by simp; omega) (by simp; omega) (by simp; omega) (by simp; omega) (by simp; omega) (by simp; omega) (by simp; omega)
  refine ⟨fun g hp => ?_, fun kd pl hp => ?_⟩
  · obtain ⟨j1, j2, S2, ar3, q2, j3, j4, j5, j6, j7⟩ := i1 g hp
    have j6' : ∀ k, (k == 5) = false → (k == 6) = false → (k == 17) = false → (k == 18) = false → (k == 19) = false → sQ S2 q2 0 (S 27) k = Sb k := by
      intro k h5 h6 h17 h18 h19
      rw [sQ_k h5 h6]
      by_cases e27 : k = 27
      · subst e27; exact h27.symm
      · rw [up_1 (by simpa using e27)]
        exact j6 k h17 h18 h19
    refine ⟨j1, j2, sQ S2 q2 0 (S 27), ar3, ew.trans j4, (j6' 7 rfl rfl rfl rfl rfl).trans s7, (j6' 8 rfl rfl rfl rfl rfl).trans s8, (j6' 0 rfl rfl rfl rfl rfl).trans s0, j5, fun b h => (j7 b h).trans (a1 b h), fun k h1 h2 => (j6' k (by simp; omega) (by simp; omega) (by simp; omega) (by simp; omega) (by simp; omega)).trans (big k h1 h2), fun k h1 h2 => (j6' k (by simp; omega) (by simp; omega) (by simp; omega) (by simp; omega) (by simp; omega)).trans (mid k h1 h2), (j6' 1 rfl rfl rfl rfl rfl).trans (sf 1 rfl rfl rfl rfl rfl rfl rfl rfl rfl), (j6' 2 rfl rfl rfl rfl rfl).trans (sf 2 rfl rfl rfl rfl rfl rfl rfl rfl rfl)⟩
  · obtain ⟨S9, ar9, j1, ⟨⟨k1, k2⟩, k3, k4, k5, k6⟩, j3⟩ := i2 kd pl hp
    refine ⟨k1, k2, S9, ar9, ew.trans j1, k3, k4, (k6 0 rfl rfl rfl rfl rfl rfl rfl).trans s0, fun b h => (j3 b h).trans (a1 b h), fun k h1 h2 => (k6 k (by simp; omega) (by simp; omega) (by simp; omega) (by simp; omega) (by simp; omega) (by simp; omega) (by simp; omega)).trans (big k h1 h2), fun k h1 h2 => (k6 k (by simp; omega) (by simp; omega) (by simp; omega) (by simp; omega) (by simp; omega) (by simp; omega) (by simp; omega)).trans (mid k h1 h2), (k6 1 rfl rfl rfl rfl rfl rfl rfl).trans (sf 1 rfl rfl rfl rfl rfl rfl rfl rfl rfl), (k6 2 rfl rfl rfl rfl rfl rfl rfl).trans (sf 2 rfl rfl rfl rfl rfl rfl rfl rfl rfl)⟩
end PC
