/-! THE REFERENCE: a unit does what the parser says. -/
section UM
variable {tx : Nat → Int32} {n : Nat} {g22 g23 g24 : rFn}
theorem x_de_lt {q : Nat} (hT : x_tx n tx) (hd : x_dg (tx q)) : q < x_de tx q ∧ x_de tx q ≤ n := by
  have h1 := lt_n hT (q := q) (by rintro z; rw [z] at hd; exact absurd hd (by decide))
  have h2 := (x_de_ok hT q).2.1
  have h3 := (x_de_1 hT hd).2
  omega
theorem x_is_lt {q : Nat} {w : List Nat} (hT : x_tx n tx) (hq : q ≤ n) (h : x_is tx q w) (hl : 0 < w.length) : q < x_we tx q ∧ x_we tx q ≤ n := ⟨by have := h.1; omega, x_we_lt hT hq⟩
theorem nb_lt {q : Nat} (hT : x_tx n tx) (hq : q ≤ n) (c : Int32) (hc : ¬ c = -1) (h : tx (x_nb tx q) = c) : q ≤ x_nb tx q ∧ x_nb tx q < n := ⟨(x_nb_ok hT q).1, lt_n hT (by rw [h]; exact hc)⟩
theorem un_v0 {K : Prop} [Decidable K] {v1 v2 : Int32} (c : v1 ≤ v2) : (if (if K then (1 : Int32) else 0) = 0 then v2 else v1) = (if K then (if v2 < v1 then v2 else v1) else (if v1 < v2 then v2 else v1)) := by
  by_cases k : K
  · rw [if_pos k, if_pos k, if_neg (by decide), if_neg (Int32.not_lt.mpr c)]
  · rw [if_neg k, if_neg k, if_pos rfl]
    by_cases c5 : v1 < v2
    · rw [if_pos c5]
    · rw [if_neg c5, Int32.le_antisymm c (Int32.not_lt.mp c5)]
theorem un_v1 {K : Prop} [Decidable K] {v1 v2 : Int32} (c : ¬ v1 ≤ v2) : (if (if K then (1 : Int32) else 0) = 1 then v2 else v1) = (if K then (if v2 < v1 then v2 else v1) else (if v1 < v2 then v2 else v1)) := by
  have c' : v2 < v1 := Int32.not_le.mp c
  by_cases k : K
  · rw [if_pos k, if_pos k, if_pos rfl, if_pos c']
  · rw [if_neg k, if_neg k, if_neg (by decide), if_neg (fun z => Int32.lt_irrefl (Int32.lt_trans z c'))]
set_option maxHeartbeats 4000000 in
theorem rP_unit {o B B2 : Nat} {V : Option (Nat → oR)} (hF : rPF tx n g24) (hB : n + 6 ≤ B) (hB1 : B < 2 ^ 19) (hB2 : B2 + 6 ≤ B) (ho : V = none → o = 6) (hV : ∀ p, V = some p → o < 6 ∧ rPV tx n (o + 1) B2 g24 p) (ho6 : o ≤ 6) : rPV tx n o B (rF_22 g22 g23 g24) (p_un V tx) := by
  intro S ar q rd hE hq
  have hT := hE.1
  have h7 := hE.2.1
  have hn := hT.1.1
  have hTB : r_TX (upd (upd S 27 rd) 6 (nI o)) ar n tx := r_TX_S hT rfl rfl
  have h7B : upd (upd S 27 rd) 6 (nI o) 7 = 0 := h7
  have b0 := (x_nb_ok hT.1 q).1
  have b1 := x_nb_le hT.1 hq
  by_cases hd : x_dg (tx (x_nb tx q))
  · obtain ⟨d1, d2⟩ := x_de_lt hT.1 hd
    have e := un_digit (g22 := g22) (g23 := g23) (g24 := g24) hTB h7B hq hd
    refine ⟨fun os q2 hp => ?_, fun kd pl hp _ => ?_⟩
    · unfold p_un at hp
      rw [if_pos hd] at hp
      split at hp
      · rename_i h9
        cases hp
        refine ⟨by omega, d2, nI (x_nu tx (x_nb tx q)), fun st => rfl, ?_⟩
        rw [show min 100000 (x_nu tx (x_nb tx q)) = x_nu tx (x_nb tx q) by omega, if_pos h9] at e
        rw [rdo_id (show o_rd [(0, nI (x_nu tx (x_nb tx q)))] rd = rd from rfl), aro_id (show o_as _ [(0, nI (x_nu tx (x_nb tx q)))] ar = ar from rfl)]
        exact e
      · cases hp
    · unfold p_un at hp
      rw [if_pos hd] at hp
      split at hp
      · cases hp
      · rename_i h9
        cases hp
        rw [if_neg (by omega)] at e
        exact ⟨_, _, e, rFl_sW h7 (by omega) (by omega) (by omega)⟩
  · rcases hl : x_le tx (x_nb tx q) with _ | l
    · have ew := un_words (g22 := g22) (g23 := g23) (g24 := g24) hTB h7B hq hd hl
      have pu : p_un V tx q = p_uw V tx q := by
        unfold p_un
        rw [if_neg hd, hl]
      rw [pu]
      unfold p_uw
      have b6 : ∀ x : Nat, upd (upd S 27 rd) 6 (nI o) 25 = S 25 := fun _ => rfl
      by_cases c1 : x_is tx (x_nb tx q) w_got
      · obtain ⟨g1, g2⟩ := x_is_lt hT.1 b1 c1 (by decide)
        rw [if_pos c1] at ew ⊢
        refine ⟨fun os q2 hp => ?_, fun kd pl hp => (by cases hp)⟩
        cases hp
        refine ⟨by omega, g2, S 25, fun st => rfl, ?_⟩
        rw [rdo_id (show o_rd [(2, 0)] rd = rd from rfl), aro_id (show o_as _ [(2, 0)] ar = ar from rfl)]
        exact ew
      · rw [if_neg c1] at ew ⊢
        by_cases c2 : x_is tx (x_nb tx q) w_far
        · obtain ⟨g1, g2⟩ := x_is_lt hT.1 b1 c2 (by decide)
          rw [if_pos c2] at ew ⊢
          have b2 := x_nb_le hT.1 g2
          have b3 := (x_nb_ok hT.1 (x_we tx (x_nb tx q))).1
          unfold p_dg
          by_cases k1 : x_dg (tx (x_nb tx (x_we tx (x_nb tx q))))
          · rw [if_neg (fun z => z k1)]
            obtain ⟨v, v1, v2, v3⟩ := of_dg k1
            have iv : iN (tx (x_nb tx (x_we tx (x_nb tx q)))) = v := by rw [v3]; exact iN_nI (by omega)
            have d3 := x_de_lt hT.1 k1
            by_cases k2 : x_dg (tx (x_nb tx (x_we tx (x_nb tx q)) + 1)) ∨ 3 < iN (tx (x_nb tx (x_we tx (x_nb tx q)))) - 48
            · rw [if_pos k2]
              refine ⟨fun os q2 hp => (by cases hp), fun kd pl hp _ => ?_⟩
              cases hp
              rw [show (3 : Int32) = nI 3 from rfl, r_digit_big hTB (by omega) h7B k1 (fun d hd1 hd2 => by
                rcases k2 with k2 | k2
                · exact hd1.2.1 k2
                · have h5 := hd1.2.2
                  rw [v3] at h5
                  have := (nI_eq (by omega) (by omega)).mp h5
                  omega) (by decide), ob3] at ew
              have f := rFl_sW (S := S) (n := n) (q := q) (o := o) (rd := rd) (B := B) (p := x_de tx (x_nb tx (x_we tx (x_nb tx q)))) (kd := 2) (pl := x_nb tx (x_we tx (x_nb tx q))) h7 (by omega) b2 (by omega)
              rw [if_neg (rFl_ne f)] at ew
              exact ⟨_, _, ew, f⟩
            · rw [if_neg k2]
              refine ⟨fun os q2 hp => ?_, fun kd pl hp => (by cases hp)⟩
              cases hp
              have hv : iN (tx (x_nb tx (x_we tx (x_nb tx q)))) - 48 ≤ 3 := Nat.not_lt.mp fun z => k2 (Or.inr z)
              have h1 : x_d1 tx (x_nb tx (x_we tx (x_nb tx q))) (iN (tx (x_nb tx (x_we tx (x_nb tx q)))) - 48) := ⟨k1, fun z => k2 (Or.inl z), by rw [iv, v3]; congr 1; omega⟩
              rw [show (3 : Int32) = nI 3 from rfl, r_digit_ok hTB (by omega) h7B h1 hv (by decide), ob3, if_pos (show sA (upd (upd S 27 rd) 6 (nI o)) (x_nb tx (x_we tx (x_nb tx q)) + 1) 7 = 0 from h7), un_farOf hE (by omega), ob3] at ew
              refine ⟨by omega, by omega, _, fun st => ?_, ew⟩
              show [ar 13 (33 + iN (nI _))] ++ st = _
              rw [iN_nI (by omega)]
              rfl
          · rw [if_pos k1]
            refine ⟨fun os q2 hp => (by cases hp), fun kd pl hp _ => ?_⟩
            cases hp
            rw [show (3 : Int32) = nI 3 from rfl, r_digit_no hTB (by omega) h7B k1, ob3] at ew
            have f := rFl_sW (S := S) (n := n) (q := q) (o := o) (rd := rd) (B := B) (p := x_nb tx (x_we tx (x_nb tx q))) (kd := 1) (pl := x_nb tx (x_we tx (x_nb tx q))) h7 (by omega) b2 (by omega)
            rw [if_neg (rFl_ne f)] at ew
            exact ⟨_, _, ew, f⟩
        · rw [if_neg c2] at ew ⊢
          by_cases c3 : x_is tx (x_nb tx q) w_least ∨ x_is tx (x_nb tx q) w_most
          · have g12 : x_nb tx q < x_we tx (x_nb tx q) ∧ x_we tx (x_nb tx q) ≤ n := by
              rcases c3 with c | c
              · exact x_is_lt hT.1 b1 c (by decide)
              · exact x_is_lt hT.1 b1 c (by decide)
            obtain ⟨g1, g2⟩ := g12
            rw [if_pos c3] at ew ⊢
            have b2 := x_nb_le hT.1 g2
            have b3 := (x_nb_ok hT.1 (x_we tx (x_nb tx q))).1
            unfold rF_22_169 at ew
            rw [r_blanks hTB (by omega), ob2, sA_5, r_byteAt (r_TX_A hTB) (by omega), ob3] at ew
            by_cases k1 : tx (x_nb tx (x_we tx (x_nb tx q))) = 40
            · rw [if_pos k1] at ew ⊢
              have k2 := lt_n hT.1 (q := x_nb tx (x_we tx (x_nb tx q))) (by rw [k1]; decide)
              obtain ⟨u1, u2⟩ := un_open (rd := rd) hE k2 hF hB hB1 hB2 ho hV
              have x23 : ∀ (z y : Option (Int32 × (Nat → Int32) × jSc)), (if (if x_is tx (x_nb tx q) w_least then (1 : Int32) else 0) = 0 then (if (if x_is tx (x_nb tx q) w_most then (1 : Int32) else 0) = 0 then z else y) else y) = y := by
                intro z y
                rcases c3 with c | c
                · rw [if_pos c, if_neg (by decide)]
                · rw [if_pos c, if_neg (show ¬ (1 : Int32) = 0 by decide)]
                  split <;> rfl
              have ew2 : rF_22 g22 g23 g24 (sQ S q o rd) ar = o_b3 (o_b2 (rF_18 1 (sQ S (x_nb tx (x_we tx (x_nb tx q))) o rd) ar) (fun S1 ar1 => g24 S1 ar1)) (fun ve11 Se11 are11 => rF_22_216 g22 g23 g24 (if x_is tx (x_nb tx q) w_least then 1 else 0) ve11 Se11 are11) := by
                rw [ew]
                rcases rF_18 1 (sQ S (x_nb tx (x_we tx (x_nb tx q))) o rd) ar with _ | ⟨S1, ar1⟩
                · rfl
                · show o_b3 (g24 S1 ar1) _ = o_b3 (g24 S1 ar1) _
                  congr 1
                  funext a b c
                  exact x23 _ _
              rw [ew2]
              rcases V with _ | V
              · refine ⟨fun os q2 hp => (by cases hp), fun kd pl hp h22 => ?_⟩
                have hp : Sum.inl (3, x_nb tx (x_we tx (x_nb tx q))) = Sum.inl (kd, pl) := hp
                cases hp
                obtain ⟨v, S9, e1, e2⟩ := u2 3 _ (Or.inl ⟨rfl, rfl⟩) h22
                rw [e1, ob3]
                obtain ⟨v2, S8, e3, e4⟩ := un_216F (g22 := g22) (g23 := g23) hF (rE_TX hE) e2 (by omega) (by omega) (if x_is tx (x_nb tx q) w_least then 1 else 0) v
                exact ⟨v2, S8, e3, rFl_mono (rFl_fr e4 sQ_fr) (by omega)⟩
              · obtain ⟨o6, hP⟩ := hV V rfl
                refine ⟨fun os q2 hp => ?_, fun kd pl hp h22 => ?_⟩
                · obtain ⟨os1, q3, p1, hp⟩ := p_bd_r hp
                  obtain ⟨w1, w2, v1, w3, w4⟩ := u1 V os1 q3 rfl p1
                  rw [w4, ob3]
                  unfold p_sg at hp
                  have hE1 := rE_aro (os := os1) hE
                  obtain ⟨s1, s2⟩ := un_sg (o := o + 1) (rd := rdo S os1 rd) hE1 w2 44 (by decide)
                  split at hp
                  · rename_i k44
                    obtain ⟨s3, s4⟩ := s1 k44
                    obtain ⟨os2, q5, p2, hp⟩ := p_bd_r hp
                    obtain ⟨y1, y2, v2, y3, y4⟩ := (hP S (aro S os1 ar) _ (rdo S os1 rd) hE1 s4).1 os2 q5 p2
                    have hE2 := rE_aro (os := os2) hE1
                    obtain ⟨t1, t2⟩ := un_sg (o := o + 1) (rd := rdo S os2 (rdo S os1 rd)) hE2 y2 41 (by decide)
                    split at hp
                    · rename_i k41
                      obtain ⟨t3, t4⟩ := t1 k41
                      cases hp
                      have pg : aro S os1 ar 13 = ar 13 := aro_row hE.2.2 (by omega) os1 ar
                      rw [pg] at y3
                      have z1 := (x_nb_ok hT.1 q3).1
                      have z2 := (x_nb_ok hT.1 q5).1
                      refine ⟨by omega, t4, (if x_is tx (x_nb tx q) w_least then (if v2 < v1 then v2 else v1) else (if v1 < v2 then v2 else v1)), fun st => ?_, ?_⟩
                      · rw [List.append_assoc, o_ev_app, w3, o_ev_app, y3]
                        split
                        · rfl
                        · rfl
                      · unfold rF_22_216
                        rw [s3, ob2, y4, ob3]
                        have fin : ∀ z : Int32, (upd (sQ S (x_nb tx q5 + 1) (o + 1) (rdo S os2 (rdo S os1 rd))) 6 (nI (o + 1) - 1)) = sQ S (x_nb tx q5 + 1) o (rdo S (os1 ++ os2 ++ [(if x_is tx (x_nb tx q) w_least then 9 else 10, 0)]) rd) := by
                          intro _
                          rw [nI_pred, sQ_6, rdo_1 (by split <;> rfl) (by split <;> rfl), rdo_app]
                        have fia : aro S os2 (aro S os1 ar) = aro S (os1 ++ os2 ++ [(if x_is tx (x_nb tx q) w_least then 9 else 10, 0)]) ar := by
                          rw [aro_1 (by split <;> rfl), aro_app]
                        have fr : ∀ y0 : Int32, rF_22_241 g22 g23 g24 v1 v2 y0 (if x_is tx (x_nb tx q) w_least then 1 else 0) (sQ S q5 (o + 1) (rdo S os2 (rdo S os1 rd))) (aro S os2 (aro S os1 ar)) = some (if (if x_is tx (x_nb tx q) w_least then (1 : Int32) else 0) = y0 then v2 else v1, sQ S (x_nb tx q5 + 1) o (rdo S (os1 ++ os2 ++ [(if x_is tx (x_nb tx q) w_least then 9 else 10, 0)]) rd), aro S (os1 ++ os2 ++ [(if x_is tx (x_nb tx q) w_least then 9 else 10, 0)]) ar) := by
                          intro y0
                          unfold rF_22_241
                          rw [t3, ob2, ob2, show sQ S (x_nb tx q5 + 1) (o + 1) (rdo S os2 (rdo S os1 rd)) 6 = nI (o + 1) from rfl, fin 0, fia]
                          by_cases hc : (if x_is tx (x_nb tx q) w_least then (1 : Int32) else 0) = y0
                          · rw [if_pos hc, if_pos hc]
                          · rw [if_neg hc, if_neg hc]
                        by_cases c : v1 ≤ v2
                        · rw [if_pos c, fr, un_v0 c]
                        · rw [if_neg c, fr, un_v1 c]
                    · cases hp
                  · cases hp
                · rcases p_bd_l hp with p1 | ⟨os1, q3, p1, hp⟩
                  · obtain ⟨v, S9, e1, e2⟩ := u2 kd pl (Or.inr ⟨V, rfl, p1⟩) h22
                    rw [e1, ob3]
                    obtain ⟨v2, S8, e3, e4⟩ := un_216F (g22 := g22) (g23 := g23) hF (rE_TX hE) e2 (by omega) (by omega) (if x_is tx (x_nb tx q) w_least then 1 else 0) v
                    exact ⟨v2, S8, e3, rFl_mono (rFl_fr e4 sQ_fr) (by omega)⟩
                  · obtain ⟨w1, w2, v1, w3, w4⟩ := u1 V os1 q3 rfl p1
                    rw [w4, ob3, rdo_no h22, aro_no h22]
                    unfold p_sg at hp
                    obtain ⟨s1, s2⟩ := un_sg (o := o + 1) (rd := rd) hE w2 44 (by decide)
                    have m1 := x_nb_le hT.1 w2
                    unfold rF_22_216
                    split at hp
                    · rename_i k44
                      obtain ⟨s3, s4⟩ := s1 k44
                      rw [s3, ob2]
                      rcases p_bd_l hp with p2 | ⟨os2, q5, p2, hp⟩
                      · obtain ⟨v, S9, e1, e2⟩ := (hP S ar _ rd hE s4).2 kd pl p2 h22
                        rw [e1, ob3]
                        have e2 := rFl_mono e2 (show B2 ≤ B - 4 by omega)
                        by_cases c : v1 ≤ v
                        · rw [if_pos c]
                          obtain ⟨v2, S8, e3, e4⟩ := un_241F (g22 := g22) (g23 := g23) (g24 := g24) (rE_TX hE) e2 (by omega) (by omega) v1 v 0 (if x_is tx (x_nb tx q) w_least then 1 else 0)
                          exact ⟨v2, S8, e3, rFl_mono (rFl_fr e4 sQ_fr) (by omega)⟩
                        · rw [if_neg c]
                          obtain ⟨v2, S8, e3, e4⟩ := un_241F (g22 := g22) (g23 := g23) (g24 := g24) (rE_TX hE) e2 (by omega) (by omega) v1 v 1 (if x_is tx (x_nb tx q) w_least then 1 else 0)
                          exact ⟨v2, S8, e3, rFl_mono (rFl_fr e4 sQ_fr) (by omega)⟩
                      · obtain ⟨y1, y2, v2, y3, y4⟩ := (hP S ar _ rd hE s4).1 os2 q5 p2
                        rw [y4, ob3, rdo_no h22, aro_no h22]
                        obtain ⟨t1, t2⟩ := un_sg (o := o + 1) (rd := rd) hE y2 41 (by decide)
                        have m2 := x_nb_le hT.1 y2
                        split at hp
                        · cases hp
                        · rename_i k41
                          cases hp
                          have f := rFl_o (x := sW (sQ S (x_nb tx q5) (o + 1) rd) 1 (x_nb tx q5) 6 - 1) (rFl_sW (S := S) (n := n) (q := q) (o := o + 1) (rd := rd) (B := B) (p := x_nb tx q5) (kd := 1) (pl := x_nb tx q5) h7 (by omega) m2 (by omega))
                          have fr : ∀ y0 : Int32, ∃ v, rF_22_241 g22 g23 g24 v1 v2 y0 (if x_is tx (x_nb tx q) w_least then 1 else 0) (sQ S q5 (o + 1) rd) ar = some (v, upd (sW (sQ S (x_nb tx q5) (o + 1) rd) 1 (x_nb tx q5)) 6 (sW (sQ S (x_nb tx q5) (o + 1) rd) 1 (x_nb tx q5) 6 - 1), ar) := by
                            intro y0
                            unfold rF_22_241
                            rw [t2 k41, ob2, ob2]
                            by_cases hc : (if x_is tx (x_nb tx q) w_least then (1 : Int32) else 0) = y0
                            · rw [if_pos hc]; exact ⟨_, rfl⟩
                            · rw [if_neg hc]; exact ⟨_, rfl⟩
                          by_cases c : v1 ≤ v2
                          · rw [if_pos c]
                            obtain ⟨v, e⟩ := fr 0
                            exact ⟨v, _, e, rFl_fr f sQ_fr⟩
                          · rw [if_neg c]
                            obtain ⟨v, e⟩ := fr 1
                            exact ⟨v, _, e, rFl_fr f sQ_fr⟩
                    · rename_i k44
                      cases hp
                      rw [s2 k44, ob2]
                      have f := rFl_sW (S := S) (n := n) (q := q) (o := o + 1) (rd := rd) (B := B - 4) (p := x_nb tx q3) (kd := 1) (pl := x_nb tx q3) h7 (by omega) m1 (by omega)
                      obtain ⟨v, S8, e3, e4⟩ := un_g24F hF (rE_TX hE) f (by omega) (by omega)
                      rw [e3, ob3]
                      by_cases c : v1 ≤ v
                      · rw [if_pos c]
                        obtain ⟨v2, S7, e5, e6⟩ := un_241F (g22 := g22) (g23 := g23) (g24 := g24) (rE_TX hE) e4 (by omega) (by omega) v1 v 0 (if x_is tx (x_nb tx q) w_least then 1 else 0)
                        exact ⟨v2, S7, e5, rFl_mono (rFl_fr e6 sQ_fr) (by omega)⟩
                      · rw [if_neg c]
                        obtain ⟨v2, S7, e5, e6⟩ := un_241F (g22 := g22) (g23 := g23) (g24 := g24) (rE_TX hE) e4 (by omega) (by omega) v1 v 1 (if x_is tx (x_nb tx q) w_least then 1 else 0)
                        exact ⟨v2, S7, e5, rFl_mono (rFl_fr e6 sQ_fr) (by omega)⟩
            · rw [if_neg k1] at ew ⊢
              refine ⟨fun os q2 hp => (by cases hp), fun kd pl hp _ => ?_⟩
              cases hp
              rw [sA_5, show (1 : Int32) = nI 1 from rfl, r_wrong, ob2] at ew
              exact ⟨_, _, ew, rFl_sW h7 (by omega) b2 (by omega)⟩
          · have c4 : ¬ x_is tx (x_nb tx q) w_least := fun z => c3 (Or.inl z)
            have c5 : ¬ x_is tx (x_nb tx q) w_most := fun z => c3 (Or.inr z)
            rw [if_neg c3, if_neg c4, if_neg c5] at ew
            rw [if_neg c3]
            unfold rF_22_169 at ew
            rw [r_blanks hTB (by omega), ob2, x_nb_idem hT.1, sA_5, r_byteAt (r_TX_A hTB) (by omega), ob3] at ew
            by_cases k1 : tx (x_nb tx q) = 40
            · rw [if_pos k1] at ew ⊢
              have k2 := lt_n hT.1 (q := x_nb tx q) (by rw [k1]; decide)
              obtain ⟨u1, u2⟩ := un_open (rd := rd) hE k2 hF hB hB1 hB2 ho hV
              have ew2 : rF_22 g22 g23 g24 (sQ S q o rd) ar = o_b3 (o_b2 (rF_18 1 (sQ S (x_nb tx q) o rd) ar) (fun S1 ar1 => g24 S1 ar1)) (fun ve11 Se11 are11 => o_b2 (rF_15 41 Se11 are11) (fun Se14 are14 => some (ve11, upd Se14 6 (Se14 6 - 1), are14))) := by
                rw [ew]
                rcases rF_18 1 (sQ S (x_nb tx q) o rd) ar with _ | ⟨S1, ar1⟩
                · rfl
                · rfl
              rw [ew2]
              rcases V with _ | V
              · refine ⟨fun os q2 hp => (by cases hp), fun kd pl hp h22 => ?_⟩
                have hp : Sum.inl (3, x_nb tx q) = Sum.inl (kd, pl) := hp
                cases hp
                obtain ⟨v, S9, e1, e2⟩ := u2 3 _ (Or.inl ⟨rfl, rfl⟩) h22
                obtain ⟨S8, e3, e4⟩ := un_sgF (rE_TX hE) e2 (by omega) (by omega) 41
                rw [e1, ob3, e3, ob2]
                exact ⟨v, _, rfl, rFl_o (rFl_mono (rFl_fr e4 sQ_fr) (by omega))⟩
              · refine ⟨fun os q2 hp => ?_, fun kd pl hp h22 => ?_⟩
                · obtain ⟨os1, q3, p1, hp⟩ := p_bd_r hp
                  obtain ⟨w1, w2, v1, w3, w4⟩ := u1 V os1 q3 rfl p1
                  rw [w4, ob3]
                  unfold p_sg at hp
                  obtain ⟨s1, s2⟩ := un_sg (o := o + 1) (rd := rdo S os1 rd) (rE_aro (os := os1) hE) w2 41 (by decide)
                  have z1 := (x_nb_ok hT.1 q3).1
                  split at hp
                  · rename_i k41
                    obtain ⟨s3, s4⟩ := s1 k41
                    cases hp
                    refine ⟨by omega, s4, v1, w3, ?_⟩
                    rw [s3, ob2, show sQ S (x_nb tx q3 + 1) (o + 1) (rdo S os rd) 6 = nI (o + 1) from rfl, nI_pred, sQ_6]
                  · cases hp
                · rcases p_bd_l hp with p1 | ⟨os1, q3, p1, hp⟩
                  · obtain ⟨v, S9, e1, e2⟩ := u2 kd pl (Or.inr ⟨V, rfl, p1⟩) h22
                    obtain ⟨S8, e3, e4⟩ := un_sgF (rE_TX hE) e2 (by omega) (by omega) 41
                    rw [e1, ob3, e3, ob2]
                    exact ⟨v, _, rfl, rFl_o (rFl_mono (rFl_fr e4 sQ_fr) (by omega))⟩
                  · obtain ⟨w1, w2, v1, w3, w4⟩ := u1 V os1 q3 rfl p1
                    rw [w4, ob3, rdo_no h22, aro_no h22]
                    unfold p_sg at hp
                    obtain ⟨s1, s2⟩ := un_sg (o := o + 1) (rd := rd) hE w2 41 (by decide)
                    have m1 := x_nb_le hT.1 w2
                    split at hp
                    · cases hp
                    · rename_i k41
                      cases hp
                      rw [s2 k41, ob2]
                      exact ⟨_, _, rfl, rFl_o (rFl_fr (rFl_sW (q := q) h7 (by omega) m1 (by omega)) sQ_fr)⟩
            · rw [if_neg k1] at ew ⊢
              refine ⟨fun os q2 hp => (by cases hp), fun kd pl hp _ => ?_⟩
              cases hp
              rw [sA_5, show (1 : Int32) = nI 1 from rfl, r_wrong, ob2] at ew
              exact ⟨_, _, ew, rFl_sW h7 (by omega) b1 (by omega)⟩
    · have e := un_letter (g22 := g22) (g23 := g23) (g24 := g24) hTB h7B hq hd hl
      obtain ⟨l1, l2, l3⟩ := x_le_ok hl
      have k2 := lt_n hT.1 (q := x_nb tx q) (by rw [l2]; rcases (show l = 0 ∨ l = 1 ∨ l = 2 ∨ l = 3 ∨ l = 4 ∨ l = 5 ∨ l = 6 ∨ l = 7 by omega) with rfl | rfl | rfl | rfl | rfl | rfl | rfl | rfl <;> decide)
      have pu : p_un V tx q = .inr ([(1, nI l)], x_nb tx q + 1) := by
        unfold p_un
        rw [if_neg hd, hl]
      rw [pu]
      refine ⟨fun os q2 hp => ?_, fun kd pl hp => (by cases hp)⟩
      cases hp
      refine ⟨by omega, by omega, ar 13 l, fun st => ?_, ?_⟩
      · show ar 13 (iN (nI l)) :: st = _
        rw [iN_nI (by omega)]
      · rw [aro_id (show o_as _ [(1, nI l)] ar = ar from rfl)]
        refine e.trans ?_
        congr 2
        unfold rdo
        by_cases c : S 22 = 0 ∨ S 23 = 0
        · rw [if_pos (show upd (upd S 27 rd) 6 (nI o) 22 = 0 ∨ upd (upd S 27 rd) 6 (nI o) 23 = 0 from c), if_pos c]
        · rw [if_neg (show ¬ (upd (upd S 27 rd) 6 (nI o) 22 = 0 ∨ upd (upd S 27 rd) 6 (nI o) 23 = 0) from c), if_neg c]
          exact congrArg (fun z => (z, ar)) sQ_27
end UM
