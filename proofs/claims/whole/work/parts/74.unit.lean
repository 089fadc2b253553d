/-! THE REFERENCE: a unit. -/
theorem sQ_27 {S : Nat → Int32} {q o : Nat} {rd x : Int32} : upd (sQ S q o rd) 27 x = sQ S q o x := by
  funext k
  by_cases h5 : k = 5
  · subst h5; rfl
  · by_cases h6 : k = 6
    · subst h6; rfl
    · by_cases h7 : k = 27
      · subst h7; rfl
      · have a5 : (k == 5) = false := by simpa using h5
        have a6 : (k == 6) = false := by simpa using h6
        have a7 : (k == 27) = false := by simpa using h7
        rw [up_1 a7, sQ_k a5 a6, sQ_k a5 a6, up_1 a7, up_1 a7]
theorem sQ_6 {S : Nat → Int32} {q o o2 : Nat} {rd : Int32} : upd (sQ S q o rd) 6 (nI o2) = sQ S q o2 rd := by
  funext k
  by_cases h5 : k = 5
  · subst h5; rfl
  · by_cases h6 : k = 6
    · subst h6; rfl
    · have a5 : (k == 5) = false := by simpa using h5
      have a6 : (k == 6) = false := by simpa using h6
      rw [up_1 a6, sQ_k a5 a6, sQ_k a5 a6]
section UN
variable {tx : Nat → Int32} {n : Nat} {ar : jSc} {g22 g23 g24 : rFn}
theorem un_digit {B : Nat → Int32} {q : Nat} (hT : r_TX B ar n tx) (h7 : B 7 = 0) (hq : q ≤ n) (hd : x_dg (tx (x_nb tx q))) : rF_22 g22 g23 g24 (sA B q) ar = some (nI (min 100000 (x_nu tx (x_nb tx q))), if min 100000 (x_nu tx (x_nb tx q)) ≤ 999 then sA B (x_de tx (x_nb tx q)) else sW (sA B (x_de tx (x_nb tx q))) 2 (x_nb tx q), ar) := by
  have hn := hT.1.1
  have h1 := x_nb_le hT.1 hq
  unfold rF_22
  rw [if_pos (show sA B q 7 = 0 from h7), r_blanks hT (by omega), ob2, sA_5, r_byteAt (r_TX_A hT) (by omega), ob3, r_isDigit, ob3, if_pos hd, if_neg (by decide), show (999 : Int32) = nI 999 from rfl, r_digits hT (by omega) (by decide), x_nb_idem hT.1, if_pos hd, if_pos hd, ob3]
theorem un_letter {B : Nat → Int32} {q l : Nat} (hT : r_TX B ar n tx) (h7 : B 7 = 0) (hq : q ≤ n) (hd : ¬ x_dg (tx (x_nb tx q))) (hl : x_le tx (x_nb tx q) = some l) : rF_22 g22 g23 g24 (sA B q) ar = some (ar 13 l, if B 22 = 0 ∨ B 23 = 0 then sA B (x_nb tx q + 1) else upd (sA B (x_nb tx q + 1)) 27 (B 27 ||| (1 <<< (nI l &&& 31))), ar) := by
  have hn := hT.1.1
  have h1 := x_nb_le hT.1 hq
  obtain ⟨l1, -, -⟩ := x_le_ok hl
  have e1 : ¬ nI l = -1 := by
    rcases (show l = 0 ∨ l = 1 ∨ l = 2 ∨ l = 3 ∨ l = 4 ∨ l = 5 ∨ l = 6 ∨ l = 7 by omega) with rfl | rfl | rfl | rfl | rfl | rfl | rfl | rfl <;> decide
  unfold rF_22
  rw [if_pos (show sA B q 7 = 0 from h7), r_blanks hT (by omega), ob2, sA_5, r_byteAt (r_TX_A hT) (by omega), ob3, r_isDigit, ob3, if_neg hd, if_pos rfl, r_letter hT (by omega), x_nb_idem hT.1, hl, ob3]
  show (if nI l = -1 then _ else _) = _
  rw [if_neg e1, sA_5, sA_1]
  unfold rF_20
  have b1 := iB_nI (k := l) (N := 53) (by omega) (by decide)
  have b2 : iN (nI l) = l := iN_nI (by omega)
  by_cases c1 : B 22 = 0
  · rw [if_pos (show sA B (x_nb tx q + 1) 22 = 0 from c1), if_pos b1, b2, ob3, if_pos (Or.inl c1)]
  · by_cases c2 : B 23 = 0
    · rw [if_neg (show ¬ sA B (x_nb tx q + 1) 22 = 0 from c1), if_pos (show sA B (x_nb tx q + 1) 23 = 0 from c2), if_pos b1, b2, ob3, if_pos (Or.inr c2)]
    · rw [if_neg (show ¬ sA B (x_nb tx q + 1) 22 = 0 from c1), if_neg (show ¬ sA B (x_nb tx q + 1) 23 = 0 from c2), if_pos b1, b2, ob3, if_neg (fun z => z.elim c1 c2)]
      rfl
/-- the words ahead of a bracket -/
theorem un_words {B : Nat → Int32} {q : Nat} (hT : r_TX B ar n tx) (h7 : B 7 = 0) (hq : q ≤ n) (hd : ¬ x_dg (tx (x_nb tx q))) (hl : x_le tx (x_nb tx q) = none) : rF_22 g22 g23 g24 (sA B q) ar =
    (if x_is tx (x_nb tx q) w_got then some (B 25, sA B (x_we tx (x_nb tx q)), ar) else
    if x_is tx (x_nb tx q) w_far then (o_b3 (rF_17 3 (sA B (x_we tx (x_nb tx q))) ar) (fun v S1 ar1 => if S1 7 = 0 then o_b3 (rF_21 v S1 ar1) (fun v2 S2 ar2 => some (v2, S2, ar2)) else some (0, S1, ar1))) else
    rF_22_169 g22 g23 g24 (if x_is tx (x_nb tx q) w_least then 1 else 0) (if x_is tx (x_nb tx q) w_most then 1 else 0) (sA B (if x_is tx (x_nb tx q) w_least ∨ x_is tx (x_nb tx q) w_most then x_we tx (x_nb tx q) else x_nb tx q)) ar) := by
  have hn := hT.1.1
  have h1 := x_nb_le hT.1 hq
  have e0 := x_nb_idem hT.1 q
  unfold rF_22
  rw [if_pos (show sA B q 7 = 0 from h7), r_blanks hT (by omega), ob2, sA_5, r_byteAt (r_TX_A hT) (by omega), ob3, r_isDigit, ob3, if_neg hd, if_pos rfl, r_letter hT (by omega), e0, hl, ob3]
  show (if (-1 : Int32) = -1 then _ else _) = _
  rw [if_pos rfl, r_w_got hT (by omega), e0, ob3]
  by_cases c1 : x_is tx (x_nb tx q) w_got
  · rw [if_pos c1, if_neg (by decide), r_skipWord hT (by omega), ob2, if_pos c1]
    rfl
  · rw [if_neg c1, if_pos rfl, if_neg c1, r_w_far hT (by omega), e0, ob3]
    by_cases c2 : x_is tx (x_nb tx q) w_far
    · rw [if_pos c2, if_neg (by decide), r_skipWord hT (by omega), ob2, if_pos c2]
    · rw [if_neg c2, if_pos rfl, if_neg c2, r_w_least hT (by omega), e0, ob3, r_w_most hT (by omega), e0, ob3]
      by_cases c3 : x_is tx (x_nb tx q) w_least
      · rw [if_pos c3, if_neg (by decide), r_skipWord hT (by omega), ob2, if_pos (Or.inl c3)]
      · rw [if_neg c3, if_pos rfl]
        by_cases c4 : x_is tx (x_nb tx q) w_most
        · rw [if_pos c4, if_neg (by decide), r_skipWord hT (by omega), ob2, if_pos (Or.inr c4)]
        · rw [if_neg c4, if_pos rfl, if_neg (fun z => z.elim c3 c4)]
theorem un_farOf {S : Nat → Int32} {q o d : Nat} {rd : Int32} (hE : rE tx n S ar) (hd : d < 4) : rF_21 (nI d) (sQ S q o rd) ar = some (ar 13 (33 + d), sQ S q o (rdo S [(3, nI d)] rd), aro S [(3, nI d)] ar) := by
  obtain ⟨-, -, hw⟩ := hE
  have b1 : iB ((33 : Int32) + nI d) 53 := by rw [show (33 : Int32) = nI 33 from rfl, nI_add]; exact iB_nI (by omega) (by decide)
  have b2 : iN ((33 : Int32) + nI d) = 33 + d := by rw [show (33 : Int32) = nI 33 from rfl, nI_add]; exact iN_nI (by omega)
  have b3 : iN (nI d) = d := iN_nI (by omega)
  unfold rF_21 rF_21_29 rdo aro
  by_cases c1 : S 22 = 0
  · simp only [show sQ S q o rd 22 = S 22 from rfl, c1, if_pos, b2, true_or]
    rw [if_pos b1]
  · by_cases c2 : S 23 = 0
    · simp only [show sQ S q o rd 22 = S 22 from rfl, show sQ S q o rd 23 = S 23 from rfl, c1, c2, if_pos, if_false, b2, or_true, true_or]
      rw [if_pos b1]
    · rw [if_neg (show ¬ sQ S q o rd 22 = 0 from c1), if_neg (show ¬ sQ S q o rd 23 = 0 from c2)]
      rw [show sQ S q o rd 27 = rd from rfl, sQ_27, if_neg (show ¬ sQ S q o (rd ||| 1 <<< ((16 + nI d) &&& 31)) 22 = 0 from c1), if_neg (show ¬ sQ S q o (rd ||| 1 <<< ((16 + nI d) &&& 31)) 23 = 0 from c2), if_neg (show ¬ (S 22 = 0 ∨ S 23 = 0) from fun z => z.elim c1 c2)]
      by_cases c3 : S 29 = -1
      · rw [if_pos (show sQ S q o (rd ||| 1 <<< ((16 + nI d) &&& 31)) 29 = -1 from c3), if_pos b1, b2, if_pos (Or.inr (Or.inr c3))]
        rfl
      · rw [if_neg (show ¬ sQ S q o (rd ||| 1 <<< ((16 + nI d) &&& 31)) 29 = -1 from c3), if_neg (show ¬ (S 22 = 0 ∨ S 23 = 0 ∨ S 29 = -1) from fun z => z.elim c1 (fun y => y.elim c2 c3))]
        have e29 : sQ S q o (rd ||| 1 <<< ((16 + nI d) &&& 31)) 29 = S 29 := rfl
        have hw2 : S 29 = 0 ∨ S 29 = 1 := hw.elim (fun z => absurd z c3) id
        have b4 : iB (S 29) 2 := by rcases hw2 with e | e <;> rw [e] <;> decide
        have b5 : iN (S 29) < 2 := iB_lt b4
        rw [e29, if_pos b4, if_pos (iB_nI hd (by decide)), if_pos b1, b2, j_u2_row _ _ _ _ (show 13 ≠ 718 + iN (S 29) by omega)]
        rfl
/-- a bracket, with values inside: what comes of it -/
theorem un_sg {S : Nat → Int32} {q o : Nat} {rd : Int32} (hE : rE tx n S ar) (hq : q ≤ n) (c : Int32) (hc : ¬ c = -1) : (tx (x_nb tx q) = c → rF_15 c (sQ S q o rd) ar = some (sQ S (x_nb tx q + 1) o rd, ar) ∧ x_nb tx q + 1 ≤ n) ∧ (¬ tx (x_nb tx q) = c → rF_15 c (sQ S q o rd) ar = some (sW (sQ S (x_nb tx q) o rd) 1 (x_nb tx q), ar)) := by
  obtain ⟨hT, h7, hw⟩ := hE
  have hn := hT.1.1
  have hT2 : r_TX (upd (upd S 27 rd) 6 (nI o)) ar n tx := r_TX_S hT rfl rfl
  have e := r_sign hT2 (q := q) (by omega) c
  refine ⟨fun h => ⟨?_, lt_n hT.1 (by rw [h]; exact hc)⟩, fun h => ?_⟩
  · rw [if_pos h] at e; exact e
  · rw [if_neg h] at e; exact e
/-- a sign behind a fault -/
theorem un_sgF {s0 S9 : Nat → Int32} {kd pl B : Nat} (hT : r_TX s0 ar n tx) (h : rFl s0 n kd pl B S9) (hB : B < 2 ^ 20) (hn : n ≤ B) (c : Int32) : ∃ S8, rF_15 c S9 ar = some (S8, ar) ∧ rFl s0 n kd pl (B + 1) S8 := by
  obtain ⟨q, h1, h2⟩ := rFl_at h
  have hT9 := rFl_TX h hT
  have e := r_sign hT9 (q := q) (by omega) c
  rw [h2] at e
  have b := (x_nb_ok hT.1 q).2.1
  refine ⟨_, e, ?_⟩
  split
  · exact rFl_A h _ (by omega)
  · rw [sW_1 (show ¬ sA S9 (x_nb tx q) 7 = 0 from (show ¬ S9 7 = 0 from rFl_ne h))]
    exact rFl_A h _ (by omega)
theorem rE_TX {S : Nat → Int32} {q o : Nat} {rd : Int32} (hE : rE tx n S ar) : r_TX (sQ S q o rd) ar n tx := r_TX_S hE.1 rfl rfl
/-- brackets behind a fault -/
theorem un_241F {s0 S9 : Nat → Int32} {kd pl B : Nat} (hT : r_TX s0 ar n tx) (h : rFl s0 n kd pl B S9) (hB : B < 2 ^ 20) (hn : n ≤ B) (x4 x5 y0 y1 : Int32) : ∃ v S8, rF_22_241 g22 g23 g24 x4 x5 y0 y1 S9 ar = some (v, S8, ar) ∧ rFl s0 n kd pl (B + 1) S8 := by
  obtain ⟨S8, e, h8⟩ := un_sgF hT h hB hn 41
  unfold rF_22_241
  rw [e, ob2, ob2]
  by_cases c : y1 = y0
  · rw [if_pos c]; exact ⟨_, _, rfl, rFl_o h8⟩
  · rw [if_neg c]; exact ⟨_, _, rfl, rFl_o h8⟩
theorem un_g24F {s0 S9 : Nat → Int32} {kd pl B : Nat} (hF : rPF tx n g24) (hT : r_TX s0 ar n tx) (h : rFl s0 n kd pl B S9) (hB : B < 2 ^ 20) (hn : n ≤ B) : ∃ v S8, g24 S9 ar = some (v, S8, ar) ∧ rFl s0 n kd pl B S8 := by
  obtain ⟨q, h1, h2⟩ := rFl_at h
  obtain ⟨v, q2, e1, e2⟩ := hF S9 ar q (rFl_TX h hT) (rFl_ne h) (by omega)
  rw [h2] at e2
  exact ⟨v, _, e2, rFl_A h _ (by omega)⟩
theorem un_216F {s0 S9 : Nat → Int32} {kd pl B : Nat} (hF : rPF tx n g24) (hT : r_TX s0 ar n tx) (h : rFl s0 n kd pl B S9) (hB : B + 1 < 2 ^ 20) (hn : n ≤ B) (x2 x4 : Int32) : ∃ v S8, rF_22_216 g22 g23 g24 x2 x4 S9 ar = some (v, S8, ar) ∧ rFl s0 n kd pl (B + 2) S8 := by
  obtain ⟨S8, e, h8⟩ := un_sgF hT h (by omega) hn 44
  obtain ⟨u, S7, e7, h7⟩ := un_g24F hF hT h8 (by omega) (by omega)
  unfold rF_22_216
  rw [e, ob2, e7, ob3]
  by_cases c : x4 ≤ u
  · rw [if_pos c]; exact un_241F hT h7 (by omega) (by omega) _ _ _ _
  · rw [if_neg c]; exact un_241F hT h7 (by omega) (by omega) _ _ _ _
theorem rdo_no {S : Nat → Int32} {os : oL} {rd : Int32} (h : S 22 = 0) : rdo S os rd = rd := if_pos (Or.inl h)
theorem aro_no {S : Nat → Int32} {os : oL} {ar : jSc} (h : S 22 = 0) : aro S os ar = ar := if_pos (Or.inl h)
theorem rdo_id {S : Nat → Int32} {os : oL} {rd : Int32} (h : o_rd os rd = rd) : rdo S os rd = rd := by unfold rdo; split; rfl; exact h
theorem aro_id {S : Nat → Int32} {os : oL} {ar : jSc} (h : o_as (iN (S 29)) os ar = ar) : aro S os ar = ar := by unfold aro; split; rfl; exact h
theorem rdo_1 {S : Nat → Int32} {os : oL} {rd : Int32} {o : Nat} (h1 : (o == 1) = false) (h3 : (o == 3) = false) : rdo S (os ++ [(o, 0)]) rd = rdo S os rd := by
  rw [rdo_app]
  refine rdo_id ?_
  show o_r1 _ (o, 0) = _
  unfold o_r1
  rw [if_neg (by simpa using h1), if_neg (by simpa using h3)]
theorem aro_1 {S : Nat → Int32} {os : oL} {ar : jSc} {o : Nat} (h3 : (o == 3) = false) : aro S (os ++ [(o, 0)]) ar = aro S os ar := by
  rw [aro_app]
  refine aro_id ?_
  show o_a1 _ _ (o, 0) = _
  unfold o_a1
  rw [if_neg (by simpa using h3)]
/-- an open bracket at q2, then a value, then go on -/
theorem un_open {S : Nat → Int32} {q2 o : Nat} {rd : Int32} {B B2 : Nat} {V : Option (Nat → oR)} (hE : rE tx n S ar) (hq2 : q2 < n) (hF : rPF tx n g24) (hB : n + 6 ≤ B) (hB1 : B < 2 ^ 19) (hB2 : B2 + 6 ≤ B) (ho : V = none → o = 6) (hV : ∀ p, V = some p → o < 6 ∧ rPV tx n (o + 1) B2 g24 p) :
    (∀ p os q3, V = some p → p (q2 + 1) = .inr (os, q3) → q2 + 1 < q3 ∧ q3 ≤ n ∧ ∃ v, (∀ st, o_ev (ar 13) (S 25) os st = v :: st) ∧ o_b2 (rF_18 1 (sQ S q2 o rd) ar) (fun S1 ar1 => g24 S1 ar1) = some (v, sQ S q3 (o + 1) (rdo S os rd), aro S os ar)) ∧
    (∀ kd pl, (V = none ∧ (kd, pl) = (3, q2)) ∨ (∃ p, V = some p ∧ p (q2 + 1) = .inl (kd, pl)) → S 22 = 0 → ∃ v S9, o_b2 (rF_18 1 (sQ S q2 o rd) ar) (fun S1 ar1 => g24 S1 ar1) = some (v, S9, ar) ∧ rFl (sQ S q2 o rd) n kd pl (B - 4) S9) := by
  refine ⟨fun p os q3 hp h => ?_, fun kd pl h h22 => ?_⟩
  · obtain ⟨o6, hP⟩ := hV p hp
    rw [show (1 : Int32) = nI 1 from rfl, r_opens o6, ob2]
    exact (hP S ar (q2 + 1) rd hE (by omega)).1 os q3 h
  · rcases h with ⟨hn, h⟩ | ⟨p, hp, h⟩
    · have o6 := ho hn
      subst o6
      cases h
      obtain ⟨S9, e1, e2⟩ := r_opens6 (ar := ar) (n := n) (q := q2) (b := 1) (rd := rd) hE.2.1 (by omega)
      rw [show (1 : Int32) = nI 1 from rfl, e1, ob2]
      obtain ⟨v, S8, e3, e4⟩ := un_g24F hF (rE_TX hE) (rFl_mono e2 (show q2 + 1 ≤ B - 4 by omega)) (by omega) (by omega)
      exact ⟨v, S8, e3, e4⟩
    · obtain ⟨o6, hP⟩ := hV p hp
      rw [show (1 : Int32) = nI 1 from rfl, r_opens o6, ob2]
      obtain ⟨v, S9, e1, e2⟩ := (hP S ar (q2 + 1) rd hE (by omega)).2 kd pl h h22
      exact ⟨v, S9, e1, rFl_mono (rFl_fr e2 sQ_fr) (by omega)⟩
end UN
