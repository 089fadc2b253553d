/-! THE REFERENCE: products and sums do what the parser says. -/
section PS
variable {tx : Nat → Int32} {n : Nat} {g22 g23 g24 : rFn}
theorem blF {s0 S9 : Nat → Int32} {ar : jSc} {kd pl B : Nat} (hT : r_TX s0 ar n tx) (h : rFl s0 n kd pl B S9) (hB : B < 2 ^ 20) (hn : n ≤ B) : ∃ S8, rF_7 S9 ar = some (S8, ar) ∧ rFl s0 n kd pl B S8 := by
  obtain ⟨q, h1, h2⟩ := rFl_at h
  have e := r_blanks (rFl_TX h hT) (q := q) (by omega)
  rw [h2] at e
  have b := (x_nb_ok hT.1 q).2.1
  exact ⟨_, e, rFl_A h _ (by omega)⟩
theorem sg_mul_c {c : Int32} : (c = 42 ∧ sg_mul c = some 7) ∨ (¬ c = 42 ∧ c = 47 ∧ sg_mul c = some 8) ∨ (¬ c = 42 ∧ ¬ c = 47 ∧ sg_mul c = none) := by
  unfold sg_mul
  by_cases h : c = 42
  · exact Or.inl ⟨h, if_pos h⟩
  · by_cases h2 : c = 47
    · exact Or.inr (Or.inl ⟨h, h2, by rw [if_neg h, if_pos h2]⟩)
    · exact Or.inr (Or.inr ⟨h, h2, by rw [if_neg h, if_neg h2]⟩)
theorem sg_add_c {c : Int32} : (c = 43 ∧ sg_add c = some 5) ∨ (¬ c = 43 ∧ c = 45 ∧ sg_add c = some 6) ∨ (¬ c = 43 ∧ ¬ c = 45 ∧ sg_add c = none) := by
  unfold sg_add
  by_cases h : c = 43
  · exact Or.inl ⟨h, if_pos h⟩
  · by_cases h2 : c = 45
    · exact Or.inr (Or.inl ⟨h, h2, by rw [if_neg h, if_pos h2]⟩)
    · exact Or.inr (Or.inr ⟨h, h2, by rw [if_neg h, if_neg h2]⟩)
theorem lpF23 {S9 : Nat → Int32} {ar : jSc} {nn : Nat} {v : Int32} (h : ¬ S9 7 = 0) : rF_23_9 g22 g23 g24 (nn + 1) v S9 ar = some (v, S9, ar) := by
  unfold rF_23_9
  rw [if_neg h]
theorem st23 {S : Nat → Int32} {ar ar2 : jSc} {q o q2 : Nat} {rd rd2 v u : Int32} {k9 : Int32 → rFn} (hE : rE tx n S ar) (hE2 : rE tx n S ar2) (hq : x_nb tx q < n) (hq2 : q2 ≤ n) (hg : g22 (sQ S (x_nb tx q + 1) o rd) ar = some (u, sQ S q2 o rd2, ar2)) : rF_23_42 g22 g23 g24 k9 v (sQ S (x_nb tx q) o rd) ar = k9 (o_jo (if tx (x_nb tx q) = 42 then 7 else 8) v u) (sQ S (x_nb tx q2) o rd2) ar2 := by
  have hn := hE.1.1.1
  have hT2 : r_TX (upd (upd S 27 rd2) 6 (nI o)) ar2 n tx := r_TX_S hE2.1 rfl rfl
  unfold rF_23_42
  rw [sQ_5, r_byteAt (rE_TX hE) (by omega), ob3, sQ_5, sQ_1, hg, ob3]
  by_cases k1 : tx (x_nb tx q) = 42
  · rw [if_pos k1, if_pos k1, r_blanks hT2 (by omega), ob2]
    rfl
  · rw [if_neg k1, if_neg k1]
    by_cases k0 : u = 0
    · rw [if_pos k0, r_blanks hT2 (by omega), ob2]
      show _ = k9 (if u = 0 then 0 else v / u) _ _
      rw [if_pos k0]
    · rw [if_neg k0, if_pos k0, r_blanks hT2 (by omega), ob2]
      show _ = k9 (if u = 0 then 0 else v / u) _ _
      rw [if_neg k0]
theorem stF23 {S S9 : Nat → Int32} {ar : jSc} {q o kd pl B : Nat} {rd v u : Int32} {k9 : Int32 → rFn} {s0 : Nat → Int32} (hE : rE tx n S ar) (hT0 : r_TX s0 ar n tx) (hq : x_nb tx q < n) (hg : g22 (sQ S (x_nb tx q + 1) o rd) ar = some (u, S9, ar)) (h9 : rFl s0 n kd pl B S9) (hB : B < 2 ^ 20) (hnB : n ≤ B) : ∃ v2 S8, rF_23_42 g22 g23 g24 k9 v (sQ S (x_nb tx q) o rd) ar = k9 v2 S8 ar ∧ rFl s0 n kd pl B S8 := by
  have hn := hE.1.1.1
  obtain ⟨S8, e8, h8⟩ := blF hT0 h9 hB hnB
  unfold rF_23_42
  rw [sQ_5, r_byteAt (rE_TX hE) (by omega), ob3, sQ_5, sQ_1, hg, ob3, e8]
  by_cases k1 : tx (x_nb tx q) = 42
  · rw [if_pos k1]; exact ⟨_, S8, rfl, h8⟩
  · rw [if_neg k1]
    by_cases k0 : u = 0
    · rw [if_pos k0]; exact ⟨_, S8, rfl, h8⟩
    · rw [if_neg k0, if_pos k0]; exact ⟨_, S8, rfl, h8⟩
set_option maxHeartbeats 2000000 in
theorem lp23 {S : Nat → Int32} {o B : Nat} {u : Nat → oR} (hU : rPV tx n o B g22 u) (hB : n ≤ B) (hB1 : B < 2 ^ 19) : ∀ (m nn : Nat) (os : oL) (q : Nat) (v rd : Int32) (ar : jSc), rE tx n S ar → q ≤ n → n < q + m → n + 1 < q + nn →
    (∀ os2 q2, p_lp u sg_mul tx m os q = .inr (os2, q2) → q ≤ q2 ∧ q2 ≤ n ∧ ∃ od v2, os2 = os ++ od ∧ (∀ st, o_ev (ar 13) (S 25) od (v :: st) = v2 :: st) ∧ rF_23_9 g22 g23 g24 nn v (sQ S (x_nb tx q) o rd) ar = some (v2, sQ S q2 o (rdo S od rd), aro S od ar)) ∧
    (∀ kd pl, p_lp u sg_mul tx m os q = .inl (kd, pl) → S 22 = 0 → ∃ v2 S9, rF_23_9 g22 g23 g24 nn v (sQ S (x_nb tx q) o rd) ar = some (v2, S9, ar) ∧ rFl (sQ S q o rd) n kd pl B S9) := by
  intro m
  induction m with
  | zero => intro nn os q v rd ar hE hq hm; omega
  | succ m ih =>
    intro nn os q v rd ar hE hq hm hnn
    obtain ⟨nn, rfl⟩ : ∃ j, nn = j + 1 := ⟨nn - 1, by omega⟩
    have hn := hE.1.1.1
    have h7 := hE.2.1
    have b0 := (x_nb_ok hE.1.1 q).1
    have b1 := x_nb_le hE.1.1 hq
    have hu : ∀ k9, rF_23_9 g22 g23 g24 (nn + 1) v (sQ S (x_nb tx q) o rd) ar = k9 → k9 = k9 := fun _ _ => rfl
    have step : ∀ od, sg_mul (tx (x_nb tx q)) = some od → od = (if tx (x_nb tx q) = 42 then 7 else 8) ∧ ¬ tx (x_nb tx q) = -1 ∧ rF_23_9 g22 g23 g24 (nn + 1) v (sQ S (x_nb tx q) o rd) ar = rF_23_42 g22 g23 g24 (fun x S ar => rF_23_9 g22 g23 g24 nn x S ar) v (sQ S (x_nb tx q) o rd) ar := by
      intro od hod
      rcases sg_mul_c (c := tx (x_nb tx q)) with ⟨k1, k2⟩ | ⟨k0, k1, k2⟩ | ⟨k0, k1, k2⟩
      · rw [k2] at hod
        cases hod
        refine ⟨(if_pos k1).symm, by rw [k1]; decide, ?_⟩
        conv => lhs; unfold rF_23_9
        rw [if_pos (show sQ S (x_nb tx q) o rd 7 = 0 from h7), sQ_5, r_byteAt (rE_TX hE) (by omega), ob3, if_pos k1]
      · rw [k2] at hod
        cases hod
        refine ⟨(if_neg k0).symm, by rw [k1]; decide, ?_⟩
        conv => lhs; unfold rF_23_9
        rw [if_pos (show sQ S (x_nb tx q) o rd 7 = 0 from h7), sQ_5, r_byteAt (rE_TX hE) (by omega), ob3, if_neg k0, sQ_5, r_byteAt (rE_TX hE) (by omega), ob3, if_pos k1]
      · rw [k2] at hod
        cases hod
    rcases hs : sg_mul (tx (x_nb tx q)) with _ | od
    · have k01 : ¬ tx (x_nb tx q) = 42 ∧ ¬ tx (x_nb tx q) = 47 := by
        rcases sg_mul_c (c := tx (x_nb tx q)) with ⟨k1, k2⟩ | ⟨k0, k1, k2⟩ | ⟨k0, k1, k2⟩
        · rw [k2] at hs; cases hs
        · rw [k2] at hs; cases hs
        · exact ⟨k0, k1⟩
      have pl : p_lp u sg_mul tx (m + 1) os q = .inr (os, x_nb tx q) := by unfold p_lp; rw [hs]
      rw [pl]
      refine ⟨fun os2 q2 hp => ?_, fun kd pl hp => (by cases hp)⟩
      cases hp
      refine ⟨b0, b1, [], v, (List.append_nil _).symm, fun st => rfl, ?_⟩
      unfold rF_23_9
      rw [if_pos (show sQ S (x_nb tx q) o rd 7 = 0 from h7), sQ_5, r_byteAt (rE_TX hE) (by omega), ob3, if_neg k01.1, sQ_5, r_byteAt (rE_TX hE) (by omega), ob3, if_neg k01.2, rdo_id (show o_rd [] rd = rd from rfl), aro_id (show o_as _ [] ar = ar from rfl)]
    · obtain ⟨eo, e1, e2⟩ := step od hs
      have k2 := lt_n hE.1.1 e1
      have pl : p_lp u sg_mul tx (m + 1) os q = p_bd (u (x_nb tx q + 1)) (fun os2 q2 => p_lp u sg_mul tx m (os ++ os2 ++ [(od, 0)]) q2) := by
        conv => lhs; unfold p_lp
        rw [hs]
      rw [pl, e2]
      obtain ⟨u1, u2⟩ := hU S ar (x_nb tx q + 1) rd hE (by omega)
      refine ⟨fun os2 q2 hp => ?_, fun kd pl hp h22 => ?_⟩
      · obtain ⟨os1, q3, p1, hp⟩ := p_bd_r hp
        obtain ⟨w1, w2, t, w3, w4⟩ := u1 os1 q3 p1
        have hE2 := rE_aro (os := os1) hE
        rw [st23 hE hE2 k2 w2 w4, ← eo]
        obtain ⟨i1, i2, od2, v2, i3, i4, i5⟩ := (ih nn (os ++ os1 ++ [(od, 0)]) q3 (o_jo od v t) (rdo S os1 rd) (aro S os1 ar) hE2 w2 (by omega) (by omega)).1 os2 q2 hp
        have pg : aro S os1 ar 13 = ar 13 := aro_row hE.2.2 (by omega) os1 ar
        rw [pg] at i4
        have eo1 : (od == 1) = false := by rw [eo]; split <;> rfl
        have eo3 : (od == 3) = false := by rw [eo]; split <;> rfl
        refine ⟨by omega, i2, os1 ++ [(od, 0)] ++ od2, v2, by rw [i3]; simp [List.append_assoc], fun st => ?_, ?_⟩
        · rw [o_ev_app, o_ev_app, w3]
          have : o_ev (ar 13) (S 25) [(od, 0)] (t :: v :: st) = o_jo od v t :: st := by
            rw [eo]
            split <;> rfl
          rw [this, i4]
        · rw [i5, rdo_app, rdo_1 eo1 eo3, aro_app, aro_1 eo3]
      · rcases p_bd_l hp with p1 | ⟨os1, q3, p1, hp⟩
        · obtain ⟨t, S9, y1, y2⟩ := u2 kd pl p1 h22
          obtain ⟨v2, S8, z1, z2⟩ := stF23 (v := v) (k9 := fun x S ar => rF_23_9 g22 g23 g24 nn x S ar) hE (rE_TX hE) k2 y1 y2 (by omega) hB
          obtain ⟨nn, rfl⟩ : ∃ j, nn = j + 1 := ⟨nn - 1, by omega⟩
          refine ⟨v2, S8, z1.trans (lpF23 (rFl_ne z2)), rFl_fr z2 sQ_fr⟩
        · obtain ⟨w1, w2, t, w3, w4⟩ := u1 os1 q3 p1
          rw [rdo_no h22, aro_no h22] at w4
          rw [st23 hE hE k2 w2 w4]
          obtain ⟨v2, S9, i1, i2⟩ := (ih nn (os ++ os1 ++ [(od, 0)]) q3 _ rd ar hE w2 (by omega) (by omega)).2 kd pl hp h22
          exact ⟨v2, S9, i1, rFl_fr i2 sQ_fr⟩
theorem rP_23 {o B : Nat} {V : Option (Nat → oR)} (hU : rPV tx n o B g22 (p_un V tx)) (hB : n ≤ B) (hB1 : B < 2 ^ 19) : rPV tx n o B (rF_23 g22 g23 g24) (p_pr V tx) := by
  intro S ar q rd hE hq
  obtain ⟨u1, u2⟩ := hU S ar q rd hE hq
  have hn := hE.1.1.1
  unfold p_pr rF_23
  refine ⟨fun os q2 hp => ?_, fun kd pl hp h22 => ?_⟩
  · obtain ⟨os1, q3, p1, hp⟩ := p_bd_r hp
    obtain ⟨w1, w2, t, w3, w4⟩ := u1 os1 q3 p1
    have hE2 := rE_aro (os := os1) hE
    have hT2 : r_TX (upd (upd S 27 (rdo S os1 rd)) 6 (nI o)) (aro S os1 ar) n tx := r_TX_S hE2.1 rfl rfl
    obtain ⟨i1, i2, od, v2, i3, i4, i5⟩ := (lp23 (g22 := g22) (g23 := g23) (g24 := g24) hU hB hB1 700 oF os1 q3 t (rdo S os1 rd) (aro S os1 ar) hE2 w2 (by omega) (by rw [oF_s]; omega)).1 os q2 hp
    have pg : aro S os1 ar 13 = ar 13 := aro_row hE.2.2 (by omega) os1 ar
    rw [pg] at i4
    refine ⟨by omega, i2, v2, fun st => by rw [i3, o_ev_app, w3, i4], ?_⟩
    rw [w4, ob3, r_blanks hT2 (by omega), ob2, i5, i3, rdo_app, aro_app]
  · rcases p_bd_l hp with p1 | ⟨os1, q3, p1, hp⟩
    · obtain ⟨t, S9, y1, y2⟩ := u2 kd pl p1 h22
      obtain ⟨S8, z1, z2⟩ := blF (rE_TX hE) y2 (by omega) hB
      rw [y1, ob3, z1, ob2, oF_s]
      exact ⟨t, S8, lpF23 (rFl_ne z2), z2⟩
    · obtain ⟨w1, w2, t, w3, w4⟩ := u1 os1 q3 p1
      rw [rdo_no h22, aro_no h22] at w4
      have hT2 : r_TX (upd (upd S 27 rd) 6 (nI o)) ar n tx := r_TX_S hE.1 rfl rfl
      obtain ⟨v2, S9, i1, i2⟩ := (lp23 (g22 := g22) (g23 := g23) (g24 := g24) hU hB hB1 700 oF os1 q3 t rd ar hE w2 (by omega) (by rw [oF_s]; omega)).2 kd pl hp h22
      rw [w4, ob3, r_blanks hT2 (by omega), ob2]
      exact ⟨v2, S9, i1, rFl_fr i2 sQ_fr⟩
theorem rPF_23 (h : rPF tx n g22) : rPF tx n (rF_23 g22 g23 g24) := by
  intro S ar q hT h7 hq
  obtain ⟨v, q2, e1, e2⟩ := h S ar q hT h7 hq
  have hn := hT.1.1
  have b := (x_nb_ok hT.1 q2).2.1
  unfold rF_23
  rw [e2, ob3, r_blanks hT (by omega), ob2, oF_s]
  exact ⟨v, x_nb tx q2, by omega, lpF23 (show ¬ sA S (x_nb tx q2) 7 = 0 from h7)⟩
theorem lpF24 {S9 : Nat → Int32} {ar : jSc} {nn : Nat} {v : Int32} (h : ¬ S9 7 = 0) : rF_24_9 g22 g23 g24 (nn + 1) v S9 ar = some (v, S9, ar) := by
  unfold rF_24_9
  rw [if_neg h]
theorem st24 {S : Nat → Int32} {ar ar2 : jSc} {q o q2 : Nat} {rd rd2 v u : Int32} {k9 : Int32 → rFn} (hE : rE tx n S ar) (hE2 : rE tx n S ar2) (hq : x_nb tx q < n) (hq2 : q2 ≤ n) (hg : g23 (sQ S (x_nb tx q + 1) o rd) ar = some (u, sQ S q2 o rd2, ar2)) : rF_24_42 g22 g23 g24 k9 v (sQ S (x_nb tx q) o rd) ar = k9 (o_jo (if tx (x_nb tx q) = 43 then 5 else 6) v u) (sQ S (x_nb tx q2) o rd2) ar2 := by
  have hn := hE.1.1.1
  have hT2 : r_TX (upd (upd S 27 rd2) 6 (nI o)) ar2 n tx := r_TX_S hE2.1 rfl rfl
  unfold rF_24_42
  rw [sQ_5, r_byteAt (rE_TX hE) (by omega), ob3, sQ_5, sQ_1, hg, ob3]
  by_cases k1 : tx (x_nb tx q) = 43
  · rw [if_pos k1, if_pos k1, r_blanks hT2 (by omega), ob2]
    rfl
  · rw [if_neg k1, if_neg k1, r_blanks hT2 (by omega), ob2]
    rfl
theorem stF24 {S S9 : Nat → Int32} {ar : jSc} {q o kd pl B : Nat} {rd v u : Int32} {k9 : Int32 → rFn} {s0 : Nat → Int32} (hE : rE tx n S ar) (hT0 : r_TX s0 ar n tx) (hq : x_nb tx q < n) (hg : g23 (sQ S (x_nb tx q + 1) o rd) ar = some (u, S9, ar)) (h9 : rFl s0 n kd pl B S9) (hB : B < 2 ^ 20) (hnB : n ≤ B) : ∃ v2 S8, rF_24_42 g22 g23 g24 k9 v (sQ S (x_nb tx q) o rd) ar = k9 v2 S8 ar ∧ rFl s0 n kd pl B S8 := by
  have hn := hE.1.1.1
  obtain ⟨S8, e8, h8⟩ := blF hT0 h9 hB hnB
  unfold rF_24_42
  rw [sQ_5, r_byteAt (rE_TX hE) (by omega), ob3, sQ_5, sQ_1, hg, ob3, e8]
  by_cases k1 : tx (x_nb tx q) = 43
  · rw [if_pos k1]; exact ⟨_, S8, rfl, h8⟩
  · rw [if_neg k1]; exact ⟨_, S8, rfl, h8⟩
set_option maxHeartbeats 2000000 in
theorem lp24 {S : Nat → Int32} {o B : Nat} {u : Nat → oR} (hU : rPV tx n o B g23 u) (hB : n ≤ B) (hB1 : B < 2 ^ 19) : ∀ (m nn : Nat) (os : oL) (q : Nat) (v rd : Int32) (ar : jSc), rE tx n S ar → q ≤ n → n < q + m → n + 1 < q + nn →
    (∀ os2 q2, p_lp u sg_add tx m os q = .inr (os2, q2) → q ≤ q2 ∧ q2 ≤ n ∧ ∃ od v2, os2 = os ++ od ∧ (∀ st, o_ev (ar 13) (S 25) od (v :: st) = v2 :: st) ∧ rF_24_9 g22 g23 g24 nn v (sQ S (x_nb tx q) o rd) ar = some (v2, sQ S q2 o (rdo S od rd), aro S od ar)) ∧
    (∀ kd pl, p_lp u sg_add tx m os q = .inl (kd, pl) → S 22 = 0 → ∃ v2 S9, rF_24_9 g22 g23 g24 nn v (sQ S (x_nb tx q) o rd) ar = some (v2, S9, ar) ∧ rFl (sQ S q o rd) n kd pl B S9) := by
  intro m
  induction m with
  | zero => intro nn os q v rd ar hE hq hm; omega
  | succ m ih =>
    intro nn os q v rd ar hE hq hm hnn
    obtain ⟨nn, rfl⟩ : ∃ j, nn = j + 1 := ⟨nn - 1, by omega⟩
    have hn := hE.1.1.1
    have h7 := hE.2.1
    have b0 := (x_nb_ok hE.1.1 q).1
    have b1 := x_nb_le hE.1.1 hq
    have hu : ∀ k9, rF_24_9 g22 g23 g24 (nn + 1) v (sQ S (x_nb tx q) o rd) ar = k9 → k9 = k9 := fun _ _ => rfl
    have step : ∀ od, sg_add (tx (x_nb tx q)) = some od → od = (if tx (x_nb tx q) = 43 then 5 else 6) ∧ ¬ tx (x_nb tx q) = -1 ∧ rF_24_9 g22 g23 g24 (nn + 1) v (sQ S (x_nb tx q) o rd) ar = rF_24_42 g22 g23 g24 (fun x S ar => rF_24_9 g22 g23 g24 nn x S ar) v (sQ S (x_nb tx q) o rd) ar := by
      intro od hod
      rcases sg_add_c (c := tx (x_nb tx q)) with ⟨k1, k2⟩ | ⟨k0, k1, k2⟩ | ⟨k0, k1, k2⟩
      · rw [k2] at hod
        cases hod
        refine ⟨(if_pos k1).symm, by rw [k1]; decide, ?_⟩
        conv => lhs; unfold rF_24_9
        rw [if_pos (show sQ S (x_nb tx q) o rd 7 = 0 from h7), sQ_5, r_byteAt (rE_TX hE) (by omega), ob3, if_pos k1]
      · rw [k2] at hod
        cases hod
        refine ⟨(if_neg k0).symm, by rw [k1]; decide, ?_⟩
        conv => lhs; unfold rF_24_9
        rw [if_pos (show sQ S (x_nb tx q) o rd 7 = 0 from h7), sQ_5, r_byteAt (rE_TX hE) (by omega), ob3, if_neg k0, sQ_5, r_byteAt (rE_TX hE) (by omega), ob3, if_pos k1]
      · rw [k2] at hod
        cases hod
    rcases hs : sg_add (tx (x_nb tx q)) with _ | od
    · have k01 : ¬ tx (x_nb tx q) = 43 ∧ ¬ tx (x_nb tx q) = 45 := by
        rcases sg_add_c (c := tx (x_nb tx q)) with ⟨k1, k2⟩ | ⟨k0, k1, k2⟩ | ⟨k0, k1, k2⟩
        · rw [k2] at hs; cases hs
        · rw [k2] at hs; cases hs
        · exact ⟨k0, k1⟩
      have pl : p_lp u sg_add tx (m + 1) os q = .inr (os, x_nb tx q) := by unfold p_lp; rw [hs]
      rw [pl]
      refine ⟨fun os2 q2 hp => ?_, fun kd pl hp => (by cases hp)⟩
      cases hp
      refine ⟨b0, b1, [], v, (List.append_nil _).symm, fun st => rfl, ?_⟩
      unfold rF_24_9
      rw [if_pos (show sQ S (x_nb tx q) o rd 7 = 0 from h7), sQ_5, r_byteAt (rE_TX hE) (by omega), ob3, if_neg k01.1, sQ_5, r_byteAt (rE_TX hE) (by omega), ob3, if_neg k01.2, rdo_id (show o_rd [] rd = rd from rfl), aro_id (show o_as _ [] ar = ar from rfl)]
    · obtain ⟨eo, e1, e2⟩ := step od hs
      have k2 := lt_n hE.1.1 e1
      have pl : p_lp u sg_add tx (m + 1) os q = p_bd (u (x_nb tx q + 1)) (fun os2 q2 => p_lp u sg_add tx m (os ++ os2 ++ [(od, 0)]) q2) := by
        conv => lhs; unfold p_lp
        rw [hs]
      rw [pl, e2]
      obtain ⟨u1, u2⟩ := hU S ar (x_nb tx q + 1) rd hE (by omega)
      refine ⟨fun os2 q2 hp => ?_, fun kd pl hp h22 => ?_⟩
      · obtain ⟨os1, q3, p1, hp⟩ := p_bd_r hp
        obtain ⟨w1, w2, t, w3, w4⟩ := u1 os1 q3 p1
        have hE2 := rE_aro (os := os1) hE
        rw [st24 hE hE2 k2 w2 w4, ← eo]
        obtain ⟨i1, i2, od2, v2, i3, i4, i5⟩ := (ih nn (os ++ os1 ++ [(od, 0)]) q3 (o_jo od v t) (rdo S os1 rd) (aro S os1 ar) hE2 w2 (by omega) (by omega)).1 os2 q2 hp
        have pg : aro S os1 ar 13 = ar 13 := aro_row hE.2.2 (by omega) os1 ar
        rw [pg] at i4
        have eo1 : (od == 1) = false := by rw [eo]; split <;> rfl
        have eo3 : (od == 3) = false := by rw [eo]; split <;> rfl
        refine ⟨by omega, i2, os1 ++ [(od, 0)] ++ od2, v2, by rw [i3]; simp [List.append_assoc], fun st => ?_, ?_⟩
        · rw [o_ev_app, o_ev_app, w3]
          have : o_ev (ar 13) (S 25) [(od, 0)] (t :: v :: st) = o_jo od v t :: st := by
            rw [eo]
            split <;> rfl
          rw [this, i4]
        · rw [i5, rdo_app, rdo_1 eo1 eo3, aro_app, aro_1 eo3]
      · rcases p_bd_l hp with p1 | ⟨os1, q3, p1, hp⟩
        · obtain ⟨t, S9, y1, y2⟩ := u2 kd pl p1 h22
          obtain ⟨v2, S8, z1, z2⟩ := stF24 (v := v) (k9 := fun x S ar => rF_24_9 g22 g23 g24 nn x S ar) hE (rE_TX hE) k2 y1 y2 (by omega) hB
          obtain ⟨nn, rfl⟩ : ∃ j, nn = j + 1 := ⟨nn - 1, by omega⟩
          refine ⟨v2, S8, z1.trans (lpF24 (rFl_ne z2)), rFl_fr z2 sQ_fr⟩
        · obtain ⟨w1, w2, t, w3, w4⟩ := u1 os1 q3 p1
          rw [rdo_no h22, aro_no h22] at w4
          rw [st24 hE hE k2 w2 w4]
          obtain ⟨v2, S9, i1, i2⟩ := (ih nn (os ++ os1 ++ [(od, 0)]) q3 _ rd ar hE w2 (by omega) (by omega)).2 kd pl hp h22
          exact ⟨v2, S9, i1, rFl_fr i2 sQ_fr⟩
theorem rP_24 {o B : Nat} {V : Option (Nat → oR)} (hU : rPV tx n o B g23 (p_pr V tx)) (hB : n ≤ B) (hB1 : B < 2 ^ 19) : rPV tx n o B (rF_24 g22 g23 g24) (p_s0 V tx) := by
  intro S ar q rd hE hq
  obtain ⟨u1, u2⟩ := hU S ar q rd hE hq
  have hn := hE.1.1.1
  unfold p_s0 rF_24
  refine ⟨fun os q2 hp => ?_, fun kd pl hp h22 => ?_⟩
  · obtain ⟨os1, q3, p1, hp⟩ := p_bd_r hp
    obtain ⟨w1, w2, t, w3, w4⟩ := u1 os1 q3 p1
    have hE2 := rE_aro (os := os1) hE
    have hT2 : r_TX (upd (upd S 27 (rdo S os1 rd)) 6 (nI o)) (aro S os1 ar) n tx := r_TX_S hE2.1 rfl rfl
    obtain ⟨i1, i2, od, v2, i3, i4, i5⟩ := (lp24 (g22 := g22) (g23 := g23) (g24 := g24) hU hB hB1 700 oF os1 q3 t (rdo S os1 rd) (aro S os1 ar) hE2 w2 (by omega) (by rw [oF_s]; omega)).1 os q2 hp
    have pg : aro S os1 ar 13 = ar 13 := aro_row hE.2.2 (by omega) os1 ar
    rw [pg] at i4
    refine ⟨by omega, i2, v2, fun st => by rw [i3, o_ev_app, w3, i4], ?_⟩
    rw [w4, ob3, r_blanks hT2 (by omega), ob2, i5, i3, rdo_app, aro_app]
  · rcases p_bd_l hp with p1 | ⟨os1, q3, p1, hp⟩
    · obtain ⟨t, S9, y1, y2⟩ := u2 kd pl p1 h22
      obtain ⟨S8, z1, z2⟩ := blF (rE_TX hE) y2 (by omega) hB
      rw [y1, ob3, z1, ob2, oF_s]
      exact ⟨t, S8, lpF24 (rFl_ne z2), z2⟩
    · obtain ⟨w1, w2, t, w3, w4⟩ := u1 os1 q3 p1
      rw [rdo_no h22, aro_no h22] at w4
      have hT2 : r_TX (upd (upd S 27 rd) 6 (nI o)) ar n tx := r_TX_S hE.1 rfl rfl
      obtain ⟨v2, S9, i1, i2⟩ := (lp24 (g22 := g22) (g23 := g23) (g24 := g24) hU hB hB1 700 oF os1 q3 t rd ar hE w2 (by omega) (by rw [oF_s]; omega)).2 kd pl hp h22
      rw [w4, ob3, r_blanks hT2 (by omega), ob2]
      exact ⟨v2, S9, i1, rFl_fr i2 sQ_fr⟩
theorem rPF_24 (h : rPF tx n g23) : rPF tx n (rF_24 g22 g23 g24) := by
  intro S ar q hT h7 hq
  obtain ⟨v, q2, e1, e2⟩ := h S ar q hT h7 hq
  have hn := hT.1.1
  have b := (x_nb_ok hT.1 q2).2.1
  unfold rF_24
  rw [e2, ob3, r_blanks hT (by omega), ob2, oF_s]
  exact ⟨v, x_nb tx q2, by omega, lpF24 (show ¬ sA S (x_nb tx q2) 7 = 0 from h7)⟩
theorem rPF_22 : rPF tx n (rF_22 g22 g23 g24) := by
  intro S ar q hT h7 hq
  unfold rF_22
  rw [if_neg (show ¬ sA S q 7 = 0 from h7)]
  exact ⟨0, q, by omega, rfl⟩
/-- the group at fuel m -/
theorem rPF_su : ∀ m : Nat, rPF tx n (rG_22 (m + 3)).2.2 := fun m => rPF_24 (rPF_23 rPF_22)
/-- values of the reference: k more brackets may be opened -/
theorem rP_su (hn : n ≤ 600) : ∀ (k m : Nat), k ≤ 6 → rPV tx n (6 - k) (n + 6 * (k + 1)) (rG_22 (m + 3 * (k + 2))).2.2 (p_su tx k) := by
  intro k
  induction k with
  | zero =>
    intro m _
    refine rP_24 (V := none) (rP_23 (rP_unit (B2 := n) (rPF_su m) (by omega) (by omega) (by omega) (fun _ => rfl) (fun p hp => by cases hp) (by omega)) (by omega) (by omega)) (by omega) (by omega)
  | succ k ih =>
    intro m hk
    have h1 := ih m (by omega)
    refine rP_24 (V := some (p_su tx k)) (rP_23 (rP_unit (B2 := n + 6 * (k + 1)) (rPF_su (m + 3 * (k + 1))) (by omega) (by omega) (by omega) (fun h => by cases h) (fun p hp => ?_) (by omega)) (by omega) (by omega)) (by omega) (by omega)
    cases hp
    refine ⟨by omega, ?_⟩
    rw [show 6 - (k + 1) + 1 = 6 - k by omega]
    exact h1
end PS
