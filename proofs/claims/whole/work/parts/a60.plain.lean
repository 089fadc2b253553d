/-! PLAIN CALLS: what a page shows, the told row. -/
section PL
variable {S S2 : Nat → Int32} {ar ar2 : jSc} {sc car sc2 car2 : jSc} {mr : Nat → Nat} {al al2 : jAl} {S0 : Nat → Int32} {ar0 : jSc} {n p m s nr : Nat} {tx : Nat → Int32} {g : pG} {cs : List Nat}
theorem q_gt1 {q : Nat} {x : Int32} (hq : q < 2 ^ 31) (h : x < 0 ∨ ¬ x < nI q) : x < 0 ∨ nI q - 1 < x := by
  rcases q with _ | q
  · rcases h with h | h
    · exact Or.inl h
    · refine Or.inr ?_
      rw [Int32.lt_iff_toInt_lt] at h ⊢
      have e1 : (nI 0).toInt = 0 := rfl
      have e2 : (nI 0 - 1).toInt = -1 := rfl
      rw [e1] at h
      rw [e2]
      omega
  · rw [show nI (q + 1) - 1 = nI q from nI_pred q]
    exact q_gt (by omega) h
theorem q_ck0 {k : Int32} : rF_3 0 k (upd S 0 0) ar = some (0, upd S 0 0, ar) := r_ok S ar
/-- an index in range, an index out of range -/
theorem q_4y {i N : Nat} (h : i ≤ N) (hN : N < 2 ^ 31) : rF_4 (nI i) 0 (nI N) S ar = some (1, S, ar) := q_inn h hN
theorem ix_l {l : Nat} (h : l < 4) : ix (15 + l) = 10 + l := by
  unfold ix
  rw [if_neg (by omega), if_neg (by omega), if_neg (by omega), if_pos (by omega)]
  omega
theorem ix_a {j : Nat} (h : j < 12) : ix (20 + j) = 14 + j := by
  unfold ix
  rw [if_neg (by omega), if_neg (by omega), if_neg (by omega), if_neg (by omega), if_neg (by omega)]
  omega
theorem ix_f {l : Nat} (h : l < 4) : ix (10 + l) = 33 + l := by
  unfold ix
  rw [if_neg (by omega), if_pos (by omega)]
  omega
theorem q_thing {i : Nat} (h : GR S ar sc car mr al) (hi : i < 8) : qA (rF_63 (nI i) S ar) (xF_320 (nI i) sc mr car al) := by
  obtain ⟨S0, ar0, n, tx, g, p, m, s, nr, cs, h⟩ := h
  have e8 : car 761 8 = ar 14 8 := (GX_pg h).1 8 (by omega)
  have e9 : car 761 9 = ar 14 9 := (GX_pg h).1 9 (by omega)
  refine ⟨((((ar 14 8) >>> (nI i &&& 31)) &&& (1 : Int32)) + ((2 : Int32) * (((ar 14 9) >>> (nI i &&& 31)) &&& (1 : Int32)))), upd S 0 0, ar, sc, mr, car, al, ?_, q_b0, ?_, GX_R (GX_0 h 0)⟩
  · unfold rF_63
    rw [show (7 : Int32) = nI 7 from rfl, q_inn (by omega) (by decide), ob3, if_neg (by decide)]
    unfold rF_63_21
    rw [q_ck0, ob3, if_pos rfl]
  · unfold xF_320
    rw [show (8 : Int32) = nI 8 from rfl, c_355 hi (by decide), ob4, e8, e9]
theorem q_thing_t {x : Int32} (h : GR S ar sc car mr al) (hx : x < 0 ∨ ¬ x < nI 8) : qT 1 sc car mr al (rF_63 x S ar) := by
  refine ⟨0, upd (upd S 0 0) 0 1, ar, ?_, q_b0, GR_0 (GR_0 h 0) 1⟩
  unfold rF_63
  rw [q_out (hi := 7) (q_gt (N := 7) (by decide) hx), ob3, if_pos rfl]
  unfold rF_63_21
  rw [q_bad (by decide), ob3, if_neg (by decide)]
theorem q_far {i : Nat} (h : GR S ar sc car mr al) (hi : i < 4) : qA (rF_64 (nI i) S ar) (xF_321 (nI i) sc mr car al) := by
  obtain ⟨S0, ar0, n, tx, g, p, m, s, nr, cs, h⟩ := h
  have e : car 761 (10 + i) = ar 14 (33 + i) := by
    have := (GX_pg h).1 (10 + i) (by omega)
    rw [ix_f hi] at this
    exact this
  refine ⟨ar 14 (33 + i), upd S 0 0, ar, sc, mr, car, al, ?_, q_b0, ?_, GX_R (GX_0 h 0)⟩
  · unfold rF_64
    rw [show (3 : Int32) = nI 3 from rfl, q_inn (by omega) (by decide), ob3, if_neg (by decide), q_ck0, ob3, if_pos rfl, show (33 : Int32) + nI i = nI (33 + i) from nI_add 33 i, if_pos (iB_nI (by omega) (by decide)), iN_nI (by omega)]
  · unfold xF_321
    rw [show (4 : Int32) = nI 4 from rfl, c_355 hi (by decide), ob4, show (10 : Int32) + nI i = nI (10 + i) from nI_add 10 i, if_pos (iB_nI (by omega) (by decide)), iN_nI (by omega), e]
theorem q_far_t {x : Int32} (h : GR S ar sc car mr al) (hx : x < 0 ∨ ¬ x < nI 4) : qT 1 sc car mr al (rF_64 x S ar) := by
  refine ⟨0, upd (upd S 0 0) 0 1, ar, ?_, q_b0, GR_0 (GR_0 h 0) 1⟩
  unfold rF_64
  rw [q_out (hi := 3) (q_gt (N := 3) (by decide) hx), ob3, if_pos rfl, q_bad (by decide), ob3, if_neg (by decide)]
theorem q_line {l : Nat} {x : Int32} (h : GR S ar sc car mr al) (hl : l < 4) : qA (rF_65 (nI l) x S ar) (xF_322 (nI l) x sc mr car al) := by
  obtain ⟨S0, ar0, n, tx, g, p, m, s, nr, cs, h⟩ := h
  have hp := GX_pg h
  obtain ⟨q, hq, eq⟩ := hp.2.2.1.1 l hl
  have c15 : car (760 + 1) (15 + l) = nI q := by
    have := hp.1 (15 + l) (by omega)
    rw [ix_l hl] at this
    exact this.trans eq
  have R : rF_65 (nI l) x S ar = (if x = (-1 : Int32) then some (nI q, upd S 0 0, ar) else o_b3 (rF_4 x 0 (nI q - 1) (upd S 0 0) ar) (fun ve6 Se6 are6 => (if ve6 = 0 then some ((-2147483648 : Int32), Se6, are6) else (if iB (((14 : Int32) + ((3 : Int32) * nI l)) + x) 53 then some ((are6 14 (iN (((14 : Int32) + ((3 : Int32) * nI l)) + x))), Se6, are6) else none)))) := by
    unfold rF_65
    rw [show rF_4 (nI l) 0 3 (upd S 0 0) ar = some (1, upd S 0 0, ar) from q_inn (N := 3) (by omega) (by decide), ob3, if_neg (by decide)]
    unfold rF_65_20
    rw [q_ck0, ob3, if_pos rfl, show (10 : Int32) + nI l = nI (10 + l) from nI_add 10 l, if_pos (iB_nI (by omega) (by decide)), iN_nI (by omega), if_pos (iB_nI (by omega) (by decide)), eq]
  have C : xF_322 (nI l) x sc mr car al = (if x = (-1 : Int32) then some (nI q, sc, mr, car, al) else (if x < 0 then some ((-2147483648 : Int32), sc, mr, car, al) else (if x < nI q then (if iB (((20 : Int32) + (nI l * (3 : Int32))) + x) 50 then some ((car 761 (iN (((20 : Int32) + (nI l * (3 : Int32))) + x))), sc, mr, car, al) else none) else some ((-2147483648 : Int32), sc, mr, car, al)))) := by
    unfold xF_322
    rw [show (4 : Int32) = nI 4 from rfl, c_355 hl (by decide), ob4]
    unfold xF_230
    rw [show (15 : Int32) + nI l = nI (15 + l) from nI_add 15 l, if_pos (iB_nI (by omega) (by decide)), iN_nI (by omega), c15, ob5]
  by_cases hx : x = -1
  · exact ⟨nI q, upd S 0 0, ar, sc, mr, car, al, by rw [R, if_pos hx], q_b0, by rw [C, if_pos hx], GX_R (GX_0 h 0)⟩
  · rw [if_neg hx] at R C
    rcases q_dec q (by omega) x with ⟨k, hk, rfl⟩ | hx2
    · have e : car 761 (20 + l * 3 + k) = ar 14 (14 + 3 * l + k) := by
        have := hp.1 (20 + (l * 3 + k)) (by omega)
        rw [ix_a (by omega)] at this
        rw [show 20 + l * 3 + k = 20 + (l * 3 + k) by omega, show 14 + 3 * l + k = 14 + (l * 3 + k) by omega]
        exact this
      refine ⟨ar 14 (14 + 3 * l + k), upd S 0 0, ar, sc, mr, car, al, ?_, q_b0, ?_, GX_R (GX_0 h 0)⟩
      · obtain ⟨q, rfl⟩ : ∃ j, q = j + 1 := ⟨q - 1, by omega⟩
        rw [R, nI_pred, q_inn (by omega) (by omega), ob3, if_neg (by decide), show ((14 : Int32) + ((3 : Int32) * nI l)) + nI k = nI (14 + 3 * l + k) by rw [show (3 : Int32) * nI l = nI (3 * l) from pk_mul 3 l, show (14 : Int32) + nI (3 * l) = nI (14 + 3 * l) from nI_add 14 _, nI_add], if_pos (iB_nI (by omega) (by decide)), iN_nI (by omega)]
      · rw [C, if_neg (nI_pos (by omega)), if_pos (nI_lt hk (by omega)), show ((20 : Int32) + (nI l * (3 : Int32))) + nI k = nI (20 + l * 3 + k) by rw [show nI l * (3 : Int32) = nI (l * 3) from pk_mul l 3, show (20 : Int32) + nI (l * 3) = nI (20 + l * 3) from nI_add 20 _, nI_add], if_pos (iB_nI (by omega) (by decide)), iN_nI (by omega), e]
    · refine ⟨-2147483648, upd S 0 0, ar, sc, mr, car, al, ?_, q_b0, ?_, GX_R (GX_0 h 0)⟩
      · rw [R, q_out (q_gt1 (by omega) hx2), ob3, if_pos rfl]
      · rw [C]
        by_cases h1 : x < 0
        · rw [if_pos h1]
        · rw [if_neg h1, if_neg (hx2.resolve_left h1)]
theorem q_line_t {x y : Int32} (h : GR S ar sc car mr al) (hx : x < 0 ∨ ¬ x < nI 4) : qT 1 sc car mr al (rF_65 x y S ar) := by
  refine ⟨0, upd (upd S 0 0) 0 1, ar, ?_, q_b0, GR_0 (GR_0 h 0) 1⟩
  unfold rF_65
  rw [q_out (hi := 3) (q_gt (N := 3) (by decide) hx), ob3, if_pos rfl]
  unfold rF_65_20
  rw [q_bad (by decide), ob3, if_neg (by decide)]
theorem q_failed (h : GR S ar sc car mr al) : qA (rF_67 S ar) (xF_324 sc mr car al) := by
  obtain ⟨S0, ar0, n, tx, g, p, m, s, nr, cs, h⟩ := h
  refine ⟨if ar 14 37 = 1 then 1 else 0, upd S 0 0, ar, sc, mr, car, al, ?_, q_b0, ?_, GX_R (GX_0 h 0)⟩
  · unfold rF_67
    by_cases z : ar 14 37 = 1
    · rw [if_pos z, if_pos z]
    · rw [if_neg z, if_neg z]
  · unfold xF_324
    rw [c_broken (pp := 760) (GX_pg h), ob5]
    by_cases z : ar 14 37 = 1
    · rw [if_pos z, if_pos (Or.inr rfl)]
    · rw [if_neg z, if_pos (Or.inl rfl)]
theorem iv_b {b : Bool} : (if b = true then (1 : Int32) else 0) = 0 ∨ (if b = true then (1 : Int32) else 0) = 1 := by
  cases b
  · exact Or.inl rfl
  · exact Or.inr rfl
/-- what is told stays where the search is kept, if all that was touched is the hand and pages that are made anew -/
theorem fC9_H {pp : Nat} (hpp : pp + 1 = 822 ∨ pp + 1 = 767) (k : cH pp sc car sc2 car2) : fC9 sc car al sc2 car2 al := by
  obtain ⟨k1, k2, k3⟩ := k
  refine ⟨⟨fun a j h1 h2 h3 h4 => k1 a j h1, fun b h1 h2 h3 h4 h5 h6 h7 => k2 b h1 (by omega), fun j hj => by rw [k2 798 (by omega) (by omega)], k3, rfl⟩, ?_, ?_, fun b hb => k2 b (by omega) (by omega)⟩
  · funext j; exact k1 773 j (by omega)
  · funext j; exact k1 774 j (by omega)
theorem fC9_758 (h1 : hF7 sc sc2) (h2 : ∀ b, b ≠ 758 → car2 b = car b) (h3 : sc2 757 5 = 0) : fC9 sc car al sc2 car2 al := by
  refine ⟨⟨fun a j q1 _ _ _ => h1 a j q1, fun b q1 _ _ _ _ _ _ => h2 b q1, fun j hj => by rw [h2 798 (by omega)], h3, rfl⟩, ?_, ?_, fun b hb => h2 b (by omega)⟩
  · funext j; exact h1 773 j (by omega)
  · funext j; exact h1 774 j (by omega)
theorem fR9_H (r : rH S ar S2 ar2) : fR9 S ar S2 ar2 := by
  obtain ⟨⟨r1, r57⟩, r2⟩ := r
  refine ⟨fun k hk => ?_, fun b h1 _ _ _ _ => r2 b h1⟩
  by_cases h57 : k = 57
  · subst h57; exact r57
  · exact r1 k (by omega)
theorem fR9_13 (h : ∀ b, b ≠ 13 → ar2 b = ar b) : fR9 S ar S ar2 := ⟨fun _ _ => rfl, fun b h1 _ _ _ _ => h b h1⟩
theorem GX_E (h : GX S0 ar0 n tx g p m s nr cs S ar sc car mr al) : cE 0 n tx g p m S0 ar0 sc car mr := h.1.1
theorem GX_16 (h : GX S0 ar0 n tx g p m s nr cs S ar sc car mr al) : S0 16 = 0 := h.1.2.1
theorem GX_S (h : GX S0 ar0 n tx g p m s nr cs S ar sc car mr al) : stS S0 S := h.1.2.2.1
theorem GX_A (h : GX S0 ar0 n tx g p m s nr cs S ar sc car mr al) : stA ar0 ar := h.1.2.2.2.1
theorem up0_16 (h : GX S0 ar0 n tx g p m s nr cs S ar sc car mr al) : upd (upd S 0 0) 16 0 = upd S 0 0 := up_16 ((up_n (by decide)).trans ((GX_S h).1.trans (GX_16 h)))
theorem q_spoilt (h : GR S ar sc car mr al) : qA (rF_68 S ar) (xF_325 sc mr car al) := by
  obtain ⟨S0, ar0, n, tx, g, p, m, s, nr, cs, h⟩ := h
  have h' := GX_0 h 0
  have hp := GX_pg h
  have r1 : rN ar (va_up ar 13 (fun k => if k < 53 then ar 14 k else ar 13 k)) := fun b hb => va_up_ne _ _ hb
  obtain ⟨S9, e1, w1, w2⟩ := rW_bad (S := upd S 0 0) (ar := va_up ar 13 (fun k => if k < 53 then ar 14 k else ar 13 k)) (P := c38 (ar 14)) (GX_E h) ⟨GX_S h', stA_tr (GX_A h) (stA_13 r1), by rw [va_up_self]; exact c38_e (fun k hk => by rw [if_pos (by omega)]), ⟨_, pgR_38 hp⟩⟩
  obtain ⟨sc2, car2, e2, k1, k2⟩ := cE_bad (al := al) (pp := 760) (P := c38 (ar 14)) (GX_E h) (by decide) (pgR_38 hp)
  refine ⟨if aBad g (c38 (ar 14)) = true then 1 else 0, S9, _, sc2, mr, car2, al, ?_, ?_, ?_, GX_R (GX_f h' (fR9_tr (fR9_13 (fun b hb => va_up_ne _ _ hb)) (fR9_H w2)) (fC9_758 k2.1 k1 k2.2.2))⟩
  · unfold rF_68
    rw [up0_16 h, r_load (by decide) (by decide), ob2, e1, ob3, if_pos iv_b]
  · rw [show S9 0 = upd S 0 0 0 from w2.1.1 0 (by omega)]; exact q_b0
  · unfold xF_325
    rw [e2, ob5, if_pos iv_b]
theorem q_can {c : Nat} (h : GR S ar sc car mr al) (hc : c < 13) : qA (rF_60 (nI c) S ar) (xF_317 (nI c) sc mr car al) := by
  obtain ⟨S0, ar0, n, tx, g, p, m, s, nr, cs, h⟩ := h
  have h' := GX_0 h 0
  have hp := GX_pg h
  have r1 : rN ar (va_up ar 13 (fun k => if k < 53 then ar 14 k else ar 13 k)) := fun b hb => va_up_ne _ _ hb
  have w : rW S0 ar0 (upd S 0 0) (va_up ar 13 (fun k => if k < 53 then ar 14 k else ar 13 k)) (c38 (ar 14)) := ⟨GX_S h', stA_tr (GX_A h) (stA_13 r1), by rw [va_up_self]; exact c38_e (fun k hk => by rw [if_pos (by omega)]), ⟨_, pgR_38 hp⟩⟩
  refine ⟨if aCan ar0 m (c38 (ar 14)) c = true then 1 else 0, upd S 0 0, _, sc, mr, car, al, ?_, q_b0, ?_, GX_R (GX_r h' (fR9_13 (fun b hb => va_up_ne _ (fun k => if k < 53 then ar 14 k else ar 13 k) hb)))⟩
  · unfold rF_60
    rw [show (12 : Int32) = nI 12 from rfl, q_inn (by omega) (by decide), ob3, if_neg (by decide), q_ck0, ob3, if_pos rfl, r_load (by decide) (by decide), ob2, rW_can (GX_E h) w hc, ob3, if_pos iv_b]
  · unfold xF_317
    rw [c_354 hc, ob4, cE_may (GX_E h) (pgR_38 hp) hc, ob5, if_pos iv_b]
theorem q_code_o {x : Int32} (hx : x < 0 ∨ ¬ x < nI 13) : rF_4 x 0 12 (upd S 0 0) ar = some (0, upd S 0 0, ar) := q_out (hi := 12) (q_gt (N := 12) (by decide) hx)
theorem q_can_t {x : Int32} (h : GR S ar sc car mr al) (hx : x < 0 ∨ ¬ x < nI 13) : qT 1 sc car mr al (rF_60 x S ar) := by
  refine ⟨0, upd (upd S 0 0) 0 1, ar, ?_, q_b0, GR_0 (GR_0 h 0) 1⟩
  unfold rF_60
  rw [q_code_o hx, ob3, if_pos rfl, q_bad (by decide), ob3, if_neg (by decide)]
theorem GX_K (h : GX S0 ar0 n tx g p m s nr cs S ar sc car mr al) : tK nr S ar sc car al := h.2.1.1
theorem q_69 {x : Int32} {N : Nat} (hN : N ≤ 40) (h31 : S 31 = nI N) (hx : x < 0 ∨ ¬ x < nI N) : rF_69 x S ar = some (0, S, ar) := by
  unfold rF_69
  rw [h31, q_out (q_gt1 (by omega) hx), ob3, if_pos (Or.inl rfl)]
theorem q_happening {i w : Nat} (h : GX S0 ar0 n tx g p m s nr cs S ar sc car mr al) (hi : i < nr) (hw : w < 4) : qA (rF_70 (nI i) (nI w) S ar) (xF_326 (nI i) (nI w) sc mr car al) := by
  have h' := GX_0 h 0
  have hT := GX_K h
  have hn := hT.1
  obtain ⟨-, a1, a2, a3, a4⟩ := hT.2.2.2.2.2.1 i hi
  have R : rF_70 (nI i) (nI w) S ar = (if nI w = 0 then some (ar 15 i, upd S 0 0, ar) else (if nI w = (1 : Int32) then some (ar 16 i, upd S 0 0, ar) else (if nI w = (2 : Int32) then some (ar 17 i, upd S 0 0, ar) else some (ar 18 i, upd S 0 0, ar)))) := by
    unfold rF_70
    rw [r_69 hn (GX_K h').2.1 hi, ob3, if_neg (by decide)]
    unfold rF_70_19
    rw [q_ck0, ob3, if_pos rfl, show rF_4 (nI w) 0 3 (upd S 0 0) ar = some (1, upd S 0 0, ar) from q_inn (N := 3) (by omega) (by decide), ob3, if_neg (by decide)]
    unfold rF_70_41
    rw [q_ck0, ob3, if_pos rfl, if_pos (iB_nI (by omega) (by decide)), if_pos (iB_nI (by omega) (by decide)), if_pos (iB_nI (by omega) (by decide)), if_pos (iB_nI (by omega) (by decide)), iN_nI (by omega)]
  have C : xF_326 (nI i) (nI w) sc mr car al = (if nI w = (0 : Int32) then some (ar 15 i, sc, mr, car, al) else (if nI w = (1 : Int32) then some (ar 16 i, sc, mr, car, al) else (if nI w = (2 : Int32) then some (ar 17 i, sc, mr, car, al) else (if nI w = (3 : Int32) then some (ar 18 i, sc, mr, car, al) else none)))) := by
    unfold xF_326
    rw [c_356 hn hT.2.2.1 hi, ob4, if_pos (iB_nI (by omega) (by decide)), if_pos (iB_nI (by omega) (by decide)), if_pos (iB_nI (by omega) (by decide)), if_pos (iB_nI (by omega) (by decide)), iN_nI (by omega), a1, a2, a3, a4]
  have hw4 : w = 0 ∨ w = 1 ∨ w = 2 ∨ w = 3 := by omega
  rcases hw4 with rfl | rfl | rfl | rfl
  · exact ⟨ar 15 i, upd S 0 0, ar, sc, mr, car, al, by rw [R, if_pos (by decide)], q_b0, by rw [C, if_pos (by decide)], GX_R h'⟩
  · exact ⟨ar 16 i, upd S 0 0, ar, sc, mr, car, al, by rw [R, if_neg (by decide), if_pos (by decide)], q_b0, by rw [C, if_neg (by decide), if_pos (by decide)], GX_R h'⟩
  · exact ⟨ar 17 i, upd S 0 0, ar, sc, mr, car, al, by rw [R, if_neg (by decide), if_neg (by decide), if_pos (by decide)], q_b0, by rw [C, if_neg (by decide), if_neg (by decide), if_pos (by decide)], GX_R h'⟩
  · exact ⟨ar 18 i, upd S 0 0, ar, sc, mr, car, al, by rw [R, if_neg (by decide), if_neg (by decide), if_neg (by decide)], q_b0, by rw [C, if_neg (by decide), if_neg (by decide), if_neg (by decide), if_pos (by decide)], GX_R h'⟩
theorem q_happening_t1 {x y : Int32} (h : GX S0 ar0 n tx g p m s nr cs S ar sc car mr al) (hx : x < 0 ∨ ¬ x < nI nr) : qT 1 sc car mr al (rF_70 x y S ar) := by
  have h' := GX_0 h 0
  refine ⟨0, upd (upd S 0 0) 0 1, ar, ?_, q_b0, GX_R (GX_0 h' 1)⟩
  unfold rF_70
  rw [q_69 (GX_K h).1 (GX_K h').2.1 hx, ob3, if_pos rfl]
  unfold rF_70_19
  rw [q_bad (by decide), ob3, if_neg (by decide)]
theorem q_happening_t2 {i : Nat} {y : Int32} (h : GX S0 ar0 n tx g p m s nr cs S ar sc car mr al) (hi : i < nr) (hy : y < 0 ∨ ¬ y < nI 4) : qT 2 sc car mr al (rF_70 (nI i) y S ar) := by
  have h' := GX_0 h 0
  refine ⟨0, upd (upd S 0 0) 0 2, ar, ?_, q_b0, GX_R (GX_0 h' 2)⟩
  unfold rF_70
  rw [r_69 (GX_K h).1 (GX_K h').2.1 hi, ob3, if_neg (by decide)]
  unfold rF_70_19
  rw [q_ck0, ob3, if_pos rfl, q_out (hi := 3) (q_gt (N := 3) (by decide) hy), ob3, if_pos rfl]
  unfold rF_70_41
  rw [q_bad (by decide), ob3, if_neg (by decide)]
theorem q_ordered {i j : Nat} (h : GX S0 ar0 n tx g p m s nr cs S ar sc car mr al) (hi : i < nr) (hj : j < nr) : qA (rF_73 (nI i) (nI j) S ar) (xF_327 (nI i) (nI j) sc mr car al) := by
  have h' := GX_0 h 0
  have hT := GX_K h
  have hT' := GX_K h'
  have hn := hT.1
  obtain ⟨ar9, e1, e2, e3⟩ := r_ord hT'
  refine ⟨if i < j ∧ tW al j i = true then 1 else 0, upd S 0 0, ar9, sc, mr, car, al, ?_, q_b0, ?_, GX_R (GX_r h' ⟨fun _ _ => rfl, fun b h1 h2 h3 h4 h5 => e2 b (by omega)⟩)⟩
  · unfold rF_73
    rw [r_69 hn hT'.2.1 hi, ob3, if_neg (by decide), r_69 hn hT'.2.1 hj, ob3, if_neg (by decide)]
    unfold rF_73_27
    rw [q_ck0, ob3, if_pos rfl, e1, ob2]
    exact r_ord_a e3 hn hi hj (fun z => oW_lt (oW_K hT) j hj i (by omega) z)
  · unfold xF_327
    rw [c_356 hn hT.2.2.1 hi, ob4, c_356 hn hT.2.2.1 hj, ob4, c_isah (by omega) (by omega), ob5]
    by_cases z : i < j ∧ tW al j i = true
    · rw [if_pos z, if_pos (Or.inr rfl)]
    · rw [if_neg z, if_pos (Or.inl rfl)]
theorem q_ordered_t {x y : Int32} (h : GX S0 ar0 n tx g p m s nr cs S ar sc car mr al) (hx : (x < 0 ∨ ¬ x < nI nr) ∨ (∃ i, i < nr ∧ x = nI i) ∧ (y < 0 ∨ ¬ y < nI nr)) : qT 1 sc car mr al (rF_73 x y S ar) := by
  have h' := GX_0 h 0
  have hn := (GX_K h).1
  refine ⟨0, upd (upd S 0 0) 0 1, ar, ?_, q_b0, GX_R (GX_0 h' 1)⟩
  have f : rF_73_27 x y 1 (upd S 0 0) ar = some (0, upd (upd S 0 0) 0 1, ar) := by
    unfold rF_73_27
    rw [q_bad (by decide), ob3, if_neg (by decide)]
  unfold rF_73
  rcases hx with hx | ⟨⟨i, hi, rfl⟩, hy⟩
  · rw [q_69 hn (GX_K h').2.1 hx, ob3, if_pos rfl]; exact f
  · rw [r_69 hn (GX_K h').2.1 hi, ob3, if_neg (by decide), q_69 hn (GX_K h').2.1 hy, ob3, if_pos rfl]; exact f
/-! the told row -/
theorem GX_told {cs2 : List Nat} (h : GX S0 ar0 n tx g p m s nr cs S ar sc car mr al) (k : gTold cs2 S2 ar2 sc2 car2) (r1 : ∀ k, (k = 1 ∨ k = 2 ∨ k = 16 ∨ k = 29 ∨ k = 31 ∨ k = 38 ∨ k = 57) → S2 k = S k) (r2 : ∀ b, b ≠ 13 → ¬ (61 ≤ b ∧ b < 102) → ¬ (107 ≤ b ∧ b ≤ 710) → b ≠ 711 → b ≠ 712 → b < 720 → ar2 b = ar b) (c1 : ∀ a k, ¬ (a = 757 ∧ 3 ≤ k ∧ k ≤ 9) → ¬ (a = 759 ∧ k = 12) → ¬ (a = 819 ∧ k = 1) → sc2 a k = sc a k) (c2 : ∀ b, b ≠ 758 → b ≠ 767 → b ≠ 771 → b ≠ 820 → b ≠ 822 → car2 b = car b) (c3 : sc2 757 5 = 0) : GX S0 ar0 n tx g p m s nr cs2 S2 ar2 sc2 car2 mr al := by
  obtain ⟨h1, h2, h3, h4, h5, h6, h7, h8, h9⟩ := h
  have cc : ∀ b, b ≤ 757 ∨ (759 ≤ b ∧ b ≤ 766) ∨ (768 ≤ b ∧ b ≤ 770) ∨ (772 ≤ b ∧ b ≤ 819) → car2 b = car b := fun b hb => c2 b (by omega) (by omega) (by omega) (by omega) (by omega)
  have kp : kPc sc car sc2 car2 := kPc_lo (fun a k _ _ => c1 a k (by omega) (by omega) (by omega)) (fun b _ _ => cc b (by omega)) c3
  have rr : ∀ b, b < 13 ∨ (14 ≤ b ∧ b ≤ 60) ∨ (102 ≤ b ∧ b ≤ 106) ∨ (713 ≤ b ∧ b < 720) → ar2 b = ar b := fun b hb => r2 b (by omega) (by omega) (by omega) (by omega) (by omega) (by omega)
  have ks : kSr S ar S2 ar2 := ⟨⟨r1 16 (by omega), r1 38 (by omega), r1 29 (by omega)⟩, fun b hb => rr b (by omega)⟩
  have e773 : sc2 773 = sc 773 := funext fun j => c1 773 j (by omega) (by omega) (by omega)
  have e774 : sc2 774 = sc 774 := funext fun j => c1 774 j (by omega) (by omega) (by omega)
  exact ⟨gSt_k h1 kp ks, gRun_k h2 ⟨r1 31 (by omega), fun b hb => rr b (by omega), c1 759 5 (by omega) (by omega) (by omega), c1 759 14 (by omega) (by omega) (by omega), fun b hb => cc b (by omega), rfl⟩, k, cKy_k h4 ⟨e773, e774, fun b hb => cc b (by omega)⟩, gWi_k h5 ⟨r1 57 (by omega), fun b _ _ => rr b (by omega), c1 796 1 (by omega) (by omega) (by omega), c1 796 4 (by omega) (by omega) (by omega), c1 796 5 (by omega) (by omega) (by omega), by rw [cc 798 (by omega)], by rw [cc 798 (by omega)], cc 800 (by omega), cc 802 (by omega)⟩, cSt_k h6 (c1 734 13 (by omega) (by omega) (by omega)) (c1 734 14 (by omega) (by omega) (by omega)), gPr_k h7 h1.1.1.2.1.1 kp ks, gOld_k h8 kp ks, gTp_k h9 ⟨r1 1 (by omega), r1 2 (by omega), rr 1 (by omega), c1 734 11 (by omega) (by omega) (by omega), c1 734 12 (by omega) (by omega) (by omega), cc 735 (by omega)⟩⟩
theorem rl_snoc {row : Nat → Int32} {cs : List Nat} {c : Nat} (h : rl row 0 cs) : rl (upd row cs.length (nI c)) 0 (cs ++ [c]) := by
  rw [rl_app]
  refine ⟨rl_c h (fun i _ h2 => up_n (by omega)), ?_⟩
  show (upd row cs.length (nI c)) (0 + cs.length) = nI c ∧ True
  exact ⟨by rw [Nat.zero_add]; exact up_0, trivial⟩
theorem u2_upd {f : jSc} {a k : Nat} {v : Int32} : j_u2 f a k v a = upd (f a) k v := (j_upd_u2 f a k v).symm
theorem q_tell {c : Nat} (h : GX S0 ar0 n tx g p m s nr cs S ar sc car mr al) (hc : c < 13) : qA (rF_95 (nI c) S ar) (xF_337 (nI c) sc mr car al) := by
  have h' := GX_0 h 0
  obtain ⟨⟨t1, t2, t3, t4⟩, t5, t6, -, -⟩ := h'.2.2.1
  have R : rF_95 (nI c) S ar = (if (upd S 0 0 51) = (40 : Int32) then some ((-1 : Int32), upd S 0 0, ar) else (if iB (upd S 0 0 51) 40 then some (((upd S 0 0 51) + (1 : Int32)), (upd (upd S 0 0) 51 ((upd S 0 0 51) + (1 : Int32))), (j_u2 ar 711 (iN (upd S 0 0 51)) (nI c))) else none)) := by
    unfold rF_95
    rw [show (12 : Int32) = nI 12 from rfl, q_inn (by omega) (by decide), ob3, if_neg (by decide)]
    unfold rF_95_21
    rw [q_ck0, ob3, if_pos rfl]
  have C : xF_337 (nI c) sc mr car al = (if (sc 819 1) < (40 : Int32) then (if iB (sc 819 1) 40 then some (((sc 819 1) + (1 : Int32)), (j_u2 sc 819 1 ((sc 819 1) + (1 : Int32))), mr, (j_u2 car 820 (iN (sc 819 1)) (nI c)), al) else none) else some ((-1 : Int32), sc, mr, car, al)) := by
    unfold xF_337
    rw [c_354 hc, ob4]
    unfold xF_277
    by_cases z : sc 819 1 < 40
    · rw [if_pos z]
      by_cases z2 : iB (sc 819 1) 40
      · rw [if_pos z2, ob5]
      · rw [if_neg z2]; rfl
    · rw [if_neg z, ob5]
  rw [t1] at R
  rw [t5] at C
  by_cases hl : cs.length = 40
  · rw [hl] at R C
    exact ⟨-1, upd S 0 0, ar, sc, mr, car, al, by rw [R, if_pos (by decide)], q_b0, by rw [C, if_neg (by decide)], GX_R h'⟩
  · have hl' : cs.length < 40 := by omega
    refine ⟨nI cs.length + 1, upd (upd S 0 0) 51 (nI cs.length + 1), j_u2 ar 711 cs.length (nI c), j_u2 sc 819 1 (nI cs.length + 1), mr, j_u2 car 820 cs.length (nI c), al, ?_, (up_n (by decide)).trans q_b0, ?_, GX_R (GX_told (cs2 := cs ++ [c]) h' ?_ (fun k hk => up_n (by omega)) (fun b _ _ _ h4 _ _ => j_u2_row _ _ _ _ h4) (fun a j _ _ h3 => if_neg h3) (fun b _ _ _ h4 _ => j_u2_row _ _ _ _ h4) ((if_neg (by omega)).trans (GX_5 h)))⟩
    · rw [R, if_neg (show ¬ nI cs.length = (40 : Int32) from fun z => hl ((nI_eq (b := 40) (by omega) (by decide)).mp z)), if_pos (iB_nI hl' (by decide)), iN_nI (by omega)]
    · rw [C, if_pos (show nI cs.length < (40 : Int32) from nI_lt (b := 40) hl' (by decide)), if_pos (iB_nI hl' (by decide)), iN_nI (by omega)]
    · have hm : ∀ x ∈ cs ++ [c], x < 13 := fun x hx => by
        rcases List.mem_append.mp hx with h | h
        · exact t4 x h
        · rw [List.mem_singleton.mp h]; exact hc
      have hll : (cs ++ [c]).length ≤ 40 := by rw [List.length_append]; show cs.length + 1 ≤ 40; omega
      have hnn : nI (cs ++ [c]).length = nI cs.length + 1 := by rw [List.length_append]; exact (nI_1 cs.length).symm
      exact ⟨⟨by rw [hnn]; exact up_0, by rw [u2_upd]; exact rl_snoc t2, hll, hm⟩, ⟨by rw [hnn]; exact u2_eq, by rw [u2_upd]; exact rl_snoc t6, hll, hm⟩⟩
theorem q_tell_t {x : Int32} (h : GR S ar sc car mr al) (hx : x < 0 ∨ ¬ x < nI 13) : qT 1 sc car mr al (rF_95 x S ar) := by
  refine ⟨0, upd (upd S 0 0) 0 1, ar, ?_, q_b0, GR_0 (GR_0 h 0) 1⟩
  unfold rF_95
  rw [q_code_o hx, ob3, if_pos rfl]
  unfold rF_95_21
  rw [q_bad (by decide), ob3, if_neg (by decide)]
theorem q_clear (h : GX S0 ar0 n tx g p m s nr cs S ar sc car mr al) : qA (rF_96 S ar) (xF_338 sc mr car al) := by
  have h' := GX_0 h 0
  obtain ⟨⟨t1, t2, t3, t4⟩, t5, t6, -, -⟩ := h.2.2.1
  refine ⟨nI cs.length, upd (upd S 0 0) 51 0, ar, j_u2 sc 819 1 0, mr, car, al, ?_, (up_n (by decide)).trans q_b0, ?_, GX_R (GX_told (cs2 := []) h' ⟨⟨up_0, trivial, by decide, fun c hc => by cases hc⟩, ⟨u2_eq, trivial, by decide, fun c hc => by cases hc⟩⟩ (fun k hk => up_n (by omega)) (fun b _ _ _ _ _ _ => rfl) (fun a j _ _ h3 => if_neg h3) (fun b _ _ _ _ _ => rfl) ((if_neg (by omega)).trans (GX_5 h)))⟩
  · unfold rF_96
    rw [t1]
  · unfold xF_338
    rw [t5]
theorem q_told {x : Int32} (h : GX S0 ar0 n tx g p m s nr cs S ar sc car mr al) : qA (rF_100 x S ar) (xF_341 x sc mr car al) := by
  have h' := GX_0 h 0
  obtain ⟨⟨t1, t2, t3, t4⟩, t5, t6, -, -⟩ := h.2.2.1
  have R : rF_100 x S ar = (o_b3 (rF_4 x 0 (nI cs.length - 1) (upd S 0 0) ar) (fun ve1 Se1 are1 => (if ve1 = 0 then some ((-1 : Int32), Se1, are1) else (if iB x 40 then some ((are1 711 (iN x)), Se1, are1) else none)))) := by
    unfold rF_100
    rw [t1]
  have C : xF_341 x sc mr car al = (if x < 0 then some ((-1 : Int32), sc, mr, car, al) else (if x < nI cs.length then (if iB x 40 then some ((car 820 (iN x)), sc, mr, car, al) else none) else some ((-1 : Int32), sc, mr, car, al))) := by
    unfold xF_341
    rw [t5]
  rcases q_dec cs.length (by omega) x with ⟨k, hk, rfl⟩ | hx2
  · have hg : cs[k]? = some (cs[k]) := List.getElem?_eq_getElem hk
    have e1 : ar 711 k = nI cs[k] := by
      have := rl_get t2 hg
      rwa [Nat.zero_add] at this
    have e2 : car 820 k = nI cs[k] := by
      have := rl_get t6 hg
      rwa [Nat.zero_add] at this
    refine ⟨nI cs[k], upd S 0 0, ar, sc, mr, car, al, ?_, q_b0, ?_, GX_R h'⟩
    · obtain ⟨q, hq⟩ : ∃ j, cs.length = j + 1 := ⟨cs.length - 1, by omega⟩
      rw [R, hq, nI_pred, q_inn (by omega) (by omega), ob3, if_neg (by decide), if_pos (iB_nI (by omega) (by decide)), iN_nI (by omega), e1]
    · rw [C, if_neg (nI_pos (by omega)), if_pos (nI_lt hk (by omega)), if_pos (iB_nI (by omega) (by decide)), iN_nI (by omega), e2]
  · refine ⟨-1, upd S 0 0, ar, sc, mr, car, al, ?_, q_b0, ?_, GX_R h'⟩
    · rw [R, q_out (q_gt1 (by omega) hx2), ob3, if_pos rfl]
    · rw [C]
      by_cases h1 : x < 0
      · rw [if_pos h1]
      · rw [if_neg h1, if_neg (hx2.resolve_left h1)]
end PL
