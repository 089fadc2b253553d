/-! EACH CALL answers alike, or throws alike. -/
theorem nH {x : Int32} {N : Nat} (h : x < 0 ∨ ¬ x < nI N) : ¬ (0 ≤ x ∧ x < nI N) := fun z => h.elim (fun y => absurd z.1 (Int32.not_le.mpr y)) (fun y => y z.2)
theorem nH1 {x : Int32} {N : Nat} (hN : N + 1 < 2 ^ 31) (h : x < 0 ∨ ¬ x < nI (N + 1)) : ¬ (0 ≤ x ∧ x ≤ nI N) := fun z => nH h ⟨z.1, by
  have z2 := z.2
  rw [Int32.le_iff_toInt_le, nI_toInt (by omega)] at z2
  rw [Int32.lt_iff_toInt_lt, nI_toInt hN]
  omega⟩
theorem nHr {x y : Int32} (h : nRw x y) : ¬ (0 ≤ x ∧ x ≤ 8 ∧ 1 ≤ y ∧ y ≤ 600) := by
  intro ⟨a, b, c, d⟩
  rcases h with h | ⟨-, h | h⟩
  · exact nH1 (N := 8) (by decide) h ⟨a, b⟩
  · exact absurd c (Int32.not_le.mpr h)
  · exact absurd d (Int32.not_le.mpr h)
def dT (k : Int32) (E q : Nat) (vs : List Value) (rf0 : jRf) (S : Nat → Int32) (arv scv carv : jSc) (mr : Nat → Nat) (al : jAl) (r : Option (Int32 × (Nat → Int32) × jSc)) : Prop := qT k scv carv mr al r ∧ xE true rf0 q 170 vs (kSc S scv) mr (kAr arv carv) al E
section DEC
variable {S : Nat → Int32} {arv scv carv : jSc} {mr : Nat → Nat} {al : jAl} {rf0 : jRf} {x y z w : Int32}
theorem d_nr (h : GR S arv scv carv mr al) : ∃ nr, nr ≤ 40 ∧ (∃ S0 ar0 n tx g p m s cs, GX S0 ar0 n tx g p m s nr cs S arv scv carv mr al) ∧ (kSc S scv) 759 5 = nI nr := by
  obtain ⟨S0, ar0, n, tx, g, p, m, s, nr, cs, hx⟩ := h
  exact ⟨nr, hx.2.1.1.1, ⟨S0, ar0, n, tx, g, p, m, s, cs, hx⟩, hx.2.1.1.2.2.1⟩
theorem d_m (h : GR S arv scv carv mr al) : ∃ m, m ≤ 6 ∧ (∃ S0 ar0 n tx g p s nr cs, GX S0 ar0 n tx g p m s nr cs S arv scv carv mr al) ∧ (kSc S scv) 736 5 = nI m := by
  obtain ⟨S0, ar0, n, tx, g, p, m, s, nr, cs, hx⟩ := h
  exact ⟨m, hx.1.2.2.2.2.1.1, ⟨S0, ar0, n, tx, g, p, s, nr, cs, hx⟩, hx.1.2.2.2.2.1.2.1⟩
theorem d_program (h : GR S arv scv carv mr al) : qA (rF_42 x S arv) (xF_314 x scv mr carv al) ∨ dT 1 0 314 [.ref 734, .int x] rf0 S arv scv carv mr al (rF_42 x S arv) := by
  have h0 := h
  obtain ⟨S0, ar0, n, tx, g, p, m, s, nr, cs, hx⟩ := h
  obtain ⟨tp, t1, t2, t3, t4, t5, t6⟩ := hx.2.2.2.2.2.2.2.2
  rcases q_dec (tp + 1) (by omega) x with ⟨k, hk, rfl⟩ | hb
  · exact Or.inl (q_program hx t1 t2 t3 t4 t5 (by omega))
  · refine Or.inr ⟨q_program_t h0 t1 t2 hb, xe_314 (d := 169) (fun q => nH1 (by omega) hb ⟨q.1, ?_⟩)⟩
    have q2 := q.2
    rw [show (kSc S scv) 734 11 = nI tp from t3] at q2
    exact q2
theorem d_can (h : GR S arv scv carv mr al) : qA (rF_60 x S arv) (xF_317 x scv mr carv al) ∨ dT 1 0 317 [.ref 734, .int x] rf0 S arv scv carv mr al (rF_60 x S arv) := by
  rcases q_dec 13 (by decide) x with ⟨k, hk, rfl⟩ | hb
  · exact Or.inl (q_can h hk)
  · exact Or.inr ⟨q_can_t h hb, xe_317 (d := 168) (nH hb)⟩
theorem d_come (h : GR S arv scv carv mr al) : qA (rF_61 x S arv) (xF_318 x scv mr carv al) ∨ dT 1 0 318 [.ref 734, .int x] rf0 S arv scv carv mr al (rF_61 x S arv) := by
  rcases q_dec 13 (by decide) x with ⟨k, hk, rfl⟩ | hb
  · obtain ⟨S0, ar0, n, tx, g, p, m, s, nr, cs, hx⟩ := h
    exact Or.inl (q_come hx hk)
  · exact Or.inr ⟨q_come_t h hb, xe_318 (d := 168) (nH hb)⟩
theorem d_name (h : GR S arv scv carv mr al) : qA (rF_62 x S arv) (xF_319 x scv mr carv al) ∨ dT 1 1 319 [.ref 734, .int x] rf0 S arv scv carv mr al (rF_62 x S arv) := by
  rcases q_dec 8 (by decide) x with ⟨k, hk, rfl⟩ | hb
  · exact Or.inl (q_name h hk)
  · exact Or.inr ⟨q_name_t h hb, xe_319 (d := 168) (nH hb)⟩
theorem d_thing (h : GR S arv scv carv mr al) : qA (rF_63 x S arv) (xF_320 x scv mr carv al) ∨ dT 1 1 320 [.ref 734, .int x] rf0 S arv scv carv mr al (rF_63 x S arv) := by
  rcases q_dec 8 (by decide) x with ⟨k, hk, rfl⟩ | hb
  · exact Or.inl (q_thing h hk)
  · exact Or.inr ⟨q_thing_t h hb, xe_320 (d := 168) (nH hb)⟩
theorem d_far (h : GR S arv scv carv mr al) : qA (rF_64 x S arv) (xF_321 x scv mr carv al) ∨ dT 1 1 321 [.ref 734, .int x] rf0 S arv scv carv mr al (rF_64 x S arv) := by
  rcases q_dec 4 (by decide) x with ⟨k, hk, rfl⟩ | hb
  · exact Or.inl (q_far h hk)
  · exact Or.inr ⟨q_far_t h hb, xe_321 (d := 168) (nH hb)⟩
theorem d_line (h : GR S arv scv carv mr al) : qA (rF_65 x y S arv) (xF_322 x y scv mr carv al) ∨ dT 1 1 322 [.ref 734, .int x, .int y] rf0 S arv scv carv mr al (rF_65 x y S arv) := by
  rcases q_dec 4 (by decide) x with ⟨k, hk, rfl⟩ | hb
  · exact Or.inl (q_line h hk)
  · exact Or.inr ⟨q_line_t h hb, xe_322 (d := 168) (nH hb)⟩
theorem d_tell (h : GR S arv scv carv mr al) : qA (rF_95 x S arv) (xF_337 x scv mr carv al) ∨ dT 1 0 337 [.ref 734, .int x] rf0 S arv scv carv mr al (rF_95 x S arv) := by
  rcases q_dec 13 (by decide) x with ⟨k, hk, rfl⟩ | hb
  · obtain ⟨S0, ar0, n, tx, g, p, m, s, nr, cs, hx⟩ := h
    exact Or.inl (q_tell hx hk)
  · exact Or.inr ⟨q_tell_t h hb, xe_337 (d := 168) (nH hb)⟩
theorem d_sorts (h : GR S arv scv carv mr al) : qA (rF_84 x S arv) (xF_332 x scv mr carv al) ∨ dT 1 0 332 [.ref 734, .int x] rf0 S arv scv carv mr al (rF_84 x S arv) := by
  rcases q_dec 5 (by decide) x with ⟨k, hk, rfl⟩ | hb
  · obtain ⟨S0, ar0, n, tx, g, p, m, s, nr, cs, hx⟩ := h
    exact Or.inl (q_sorts hx hk)
  · exact Or.inr ⟨q_sorts_t h hb, xe_332 (d := 169) (nH hb)⟩
theorem d_lost (h : GR S arv scv carv mr al) : qA (rF_117 x S arv) (xF_348 x scv mr carv al) ∨ dT 1 0 348 [.ref 734, .int x] rf0 S arv scv carv mr al (rF_117 x S arv) := by
  rcases q_dec 4 (by decide) x with ⟨k, hk, rfl⟩ | hb
  · obtain ⟨S0, ar0, n, tx, g, p, m, s, nr, cs, hx⟩ := h
    exact Or.inl (q_lost hx (by omega))
  · exact Or.inr ⟨q_lost_t h hb, xe_348 (d := 168) (nH1 (N := 3) (by decide) hb)⟩
theorem d_happening (h : GR S arv scv carv mr al) : qA (rF_70 x y S arv) (xF_326 x y scv mr carv al) ∨ dT 1 2 326 [.ref 734, .int x, .int y] rf0 S arv scv carv mr al (rF_70 x y S arv) ∨ dT 2 0 326 [.ref 734, .int x, .int y] rf0 S arv scv carv mr al (rF_70 x y S arv) := by
  obtain ⟨nr, hn, ⟨S0, ar0, n, tx, g, p, m, s, cs, hx⟩, e5⟩ := d_nr h
  rcases q_dec nr (by omega) x with ⟨k, hk, rfl⟩ | hb
  · rcases q_dec 4 (by decide) y with ⟨j, hj, rfl⟩ | hb
    · exact Or.inl (q_happening hx hk hj)
    · refine Or.inr (Or.inr ⟨q_happening_t2 hx hk hb, xe_326b (d := 168) (c_356 hn e5 hk) (fun q => nH hb ⟨?_, ?_⟩)⟩)
      · rw [Int32.le_iff_toInt_le]
        exact q.1
      · rw [Int32.lt_iff_toInt_lt]
        exact q.2
  · refine Or.inr (Or.inl ⟨q_happening_t1 hx hb, xe_326 (d := 168) ?_⟩)
    rw [e5]
    exact nH hb
theorem d_ordered (h : GR S arv scv carv mr al) : qA (rF_73 x y S arv) (xF_327 x y scv mr carv al) ∨ dT 1 2 327 [.ref 734, .int x, .int y] rf0 S arv scv carv mr al (rF_73 x y S arv) := by
  obtain ⟨nr, hn, ⟨S0, ar0, n, tx, g, p, m, s, cs, hx⟩, e5⟩ := d_nr h
  rcases q_dec nr (by omega) x with ⟨k, hk, rfl⟩ | hb
  · rcases q_dec nr (by omega) y with ⟨j, hj, rfl⟩ | hb
    · exact Or.inl (q_ordered hx hk hj)
    · refine Or.inr ⟨q_ordered_t hx (Or.inr ⟨⟨k, hk, rfl⟩, hb⟩), xe_327b (d := 168) (c_356 hn e5 hk) ?_⟩
      rw [e5]
      exact nH hb
  · refine Or.inr ⟨q_ordered_t hx (Or.inl hb), xe_327 (d := 168) ?_⟩
    rw [e5]
    exact nH hb
theorem d_why (h : GR S arv scv carv mr al) : qA (rF_78 x y S arv) (xF_330 x y scv mr carv al) ∨ dT 1 2 330 [.ref 734, .int x, .int y] rf0 S arv scv carv mr al (rF_78 x y S arv) := by
  obtain ⟨nr, hn, ⟨S0, ar0, n, tx, g, p, m, s, cs, hx⟩, e5⟩ := d_nr h
  rcases q_dec nr (by omega) x with ⟨k, hk, rfl⟩ | hb
  · rcases q_dec nr (by omega) y with ⟨j, hj, rfl⟩ | hb
    · exact Or.inl (q_why hx hk hj)
    · refine Or.inr ⟨q_why_t hx (Or.inr ⟨⟨k, hk, rfl⟩, hb⟩), xe_330b (d := 168) (c_356 hn e5 hk) ?_⟩
      rw [e5]
      exact nH hb
  · refine Or.inr ⟨q_why_t hx (Or.inl hb), xe_330 (d := 168) ?_⟩
    rw [e5]
    exact nH hb
theorem d_turn (h : GR S arv scv carv mr al) : qA (rF_83 x y S arv) (xF_331 x y scv mr carv al) ∨ dT 1 2 331 [.ref 734, .int x, .int y] rf0 S arv scv carv mr al (rF_83 x y S arv) := by
  obtain ⟨nr, hn, ⟨S0, ar0, n, tx, g, p, m, s, cs, hx⟩, e5⟩ := d_nr h
  rcases q_dec nr (by omega) x with ⟨k, hk, rfl⟩ | hb
  · rcases q_dec nr (by omega) y with ⟨j, hj, rfl⟩ | hb
    · exact Or.inl (q_turn hx hk hj)
    · refine Or.inr ⟨q_turn_t hx (Or.inr ⟨⟨k, hk, rfl⟩, hb⟩), xe_331b (d := 168) (c_356 hn e5 hk) ?_⟩
      rw [e5]
      exact nH hb
  · refine Or.inr ⟨q_turn_t hx (Or.inl hb), xe_331 (d := 168) ?_⟩
    rw [e5]
    exact nH hb
theorem d_worst (h : GR S arv scv carv mr al) : qA (rF_89 x y S arv) (xF_333 x y scv mr carv al) ∨ dT 1 0 333 [.ref 734, .int x, .int y] rf0 S arv scv carv mr al (rF_89 x y S arv) := by
  rcases q_rows x y with ⟨i, j, h1, h2, h3, rfl, rfl⟩ | hb
  · obtain ⟨S0, ar0, n, tx, g, p, m, s, nr, cs, hx⟩ := h
    exact Or.inl (q_worst hx h1 h2 h3)
  · exact Or.inr ⟨q_worst_t h hb, xe_333 (d := 168) (nHr hb)⟩
theorem d_pages (h : GR S arv scv carv mr al) : qA (rF_91 x y S arv) (xF_335 x y scv mr carv al) ∨ dT 1 0 335 [.ref 734, .int x, .int y] rf0 S arv scv carv mr al (rF_91 x y S arv) := by
  rcases q_rows x y with ⟨i, j, h1, h2, h3, rfl, rfl⟩ | hb
  · obtain ⟨S0, ar0, n, tx, g, p, m, s, nr, cs, hx⟩ := h
    exact Or.inl (q_pages hx h1 h2 h3)
  · exact Or.inr ⟨q_pages_t h hb, xe_335 (d := 168) (nHr hb)⟩
theorem d_newer (h : GR S arv scv carv mr al) : qA (rF_118 x y S arv) (xF_349 x y scv mr carv al) ∨ dT 1 0 349 [.ref 734, .int x, .int y] rf0 S arv scv carv mr al (rF_118 x y S arv) := by
  rcases q_rows x y with ⟨i, j, h1, h2, h3, rfl, rfl⟩ | hb
  · obtain ⟨S0, ar0, n, tx, g, p, m, s, nr, cs, hx⟩ := h
    exact Or.inl (q_newer hx h1 h2 h3)
  · exact Or.inr ⟨q_newer_t h hb, xe_349 (d := 168) (nHr hb)⟩
theorem d_step (h : GR S arv scv carv mr al) : qA (rF_90 x y z S arv) (xF_334 x y z scv mr carv al) ∨ dT 1 0 334 [.ref 734, .int x, .int y, .int z] rf0 S arv scv carv mr al (rF_90 x y z S arv) := by
  rcases q_rows x y with ⟨i, j, h1, h2, h3, rfl, rfl⟩ | hb
  · obtain ⟨S0, ar0, n, tx, g, p, m, s, nr, cs, hx⟩ := h
    exact Or.inl (q_step hx h1 h2 h3)
  · exact Or.inr ⟨q_step_t h hb, xe_334 (d := 168) (nHr hb)⟩
theorem d_357 {i j : Nat} (h1 : i ≤ 8) (h2 : 1 ≤ j) (h3 : j ≤ 600) {sc : jSc} {car : jSc} : xF_357 (nI i) (nI j) sc mr car al = some (sc, mr, car, al) := by
  exact c_rows h2 h3 h1
theorem d_358 {i : Nat} (h1 : i ≤ 3) {sc : jSc} {car : jSc} : xF_358 (nI i) sc mr car al = some (sc, mr, car, al) := by
  unfold xF_358
  rw [if_neg (show ¬ nI i < 0 from fun z => absurd (nI_le (a := 0) (b := i) (by omega) (by omega)) (Int32.not_le.mpr z)), if_pos (show nI i ≤ (3 : Int32) from nI_le (b := 3) h1 (by decide))]
theorem d_stuck (h : GR S arv scv carv mr al) : qA (rF_94 x y z S arv) (xF_336 x y z scv mr carv al) ∨ dT 1 0 336 [.ref 734, .int x, .int y, .int z] rf0 S arv scv carv mr al (rF_94 x y z S arv) := by
  rcases q_rows x z with ⟨i, j, h1, h2, h3, rfl, rfl⟩ | hb
  · rcases q_dec 4 (by decide) y with ⟨k, hk, rfl⟩ | hb
    · obtain ⟨S0, ar0, n, tx, g, p, m, s, nr, cs, hx⟩ := h
      exact Or.inl (q_stuck hx h1 (by omega) h2 h3)
    · exact Or.inr ⟨q_stuck_t h (Or.inr ⟨⟨i, j, h1, h2, h3, rfl, rfl⟩, hb⟩), xe_336b (d := 168) (d_357 h1 h2 h3) (nH1 (N := 3) (by decide) hb)⟩
  · exact Or.inr ⟨q_stuck_t h (Or.inl hb), xe_336 (d := 168) (nHr hb)⟩
theorem d_cheapest (h : GR S arv scv carv mr al) : qA (rF_108 x y z w S arv) (xF_344 x y z w scv mr carv al) ∨ dT 1 0 344 [.ref 734, .int x, .int y, .int z, .int w] rf0 S arv scv carv mr al (rF_108 x y z w S arv) := by
  rcases q_rows x z with ⟨i, j, h1, h2, h3, rfl, rfl⟩ | hb
  · rcases q_dec 4 (by decide) y with ⟨k, hk, rfl⟩ | hb
    · rcases q_dec 2 (by decide) w with ⟨wt, hw, rfl⟩ | hb
      · obtain ⟨S0, ar0, n, tx, g, p, m, s, nr, cs, hx⟩ := h
        exact Or.inl (q_cheapest hx h1 (by omega) h2 h3 hw)
      · exact Or.inr ⟨q_cheapest_t h (Or.inr ⟨⟨i, j, h1, h2, h3, rfl, rfl⟩, Or.inr ⟨⟨k, by omega, rfl⟩, hb⟩⟩), xe_344c (d := 168) (d_357 h1 h2 h3) (d_358 (by omega)) (nH1 (N := 1) (by decide) hb)⟩
    · exact Or.inr ⟨q_cheapest_t h (Or.inr ⟨⟨i, j, h1, h2, h3, rfl, rfl⟩, Or.inl hb⟩), xe_344b (d := 168) (d_357 h1 h2 h3) (nH1 (N := 3) (by decide) hb)⟩
  · exact Or.inr ⟨q_cheapest_t h (Or.inl hb), xe_344 (d := 168) (nHr hb)⟩
theorem d_form (h : GR S arv scv carv mr al) : qA (rF_101 x y z w S arv) (xF_342 x y z w scv mr carv al) ∨ dT 1 0 342 [.ref 734, .int x, .int y, .int z, .int w] rf0 S arv scv carv mr al (rF_101 x y z w S arv) := by
  rcases q_form_d x y z w with ⟨kd, l, q, h1, h2, h3, h4, rfl, rfl, rfl⟩ | hb
  · obtain ⟨S0, ar0, n, tx, g, p, m, s, nr, cs, hx⟩ := h
    exact Or.inl (q_form hx h1 h2 h3 h4)
  · refine Or.inr ⟨q_form_t h hb, xe_342 (d := 169) ?_⟩
    intro ⟨a1, a2, a3, a4, a5, a6, a7⟩
    rcases hb with hb | ⟨-, ⟨e0, hb⟩ | ⟨-, hb | ⟨-, hb⟩⟩⟩
    · exact nH hb ⟨a1, a2⟩
    · exact nH hb (a3 e0)
    · exact nH hb ⟨a4, a5⟩
    · exact nH1 (N := 100) (by decide) hb ⟨a6, a7⟩
theorem d_use (hy : y = 0 ∨ y = 1) (h : GR S arv scv carv mr al) : qA (rF_102 x y S arv) (xF_343 x y scv mr carv al) ∨ dT 1 1 343 [.ref 734, .int x, .int y] rf0 S arv scv carv mr al (rF_102 x y S arv) := by
  obtain ⟨m, hm, ⟨S0, ar0, n, tx, g, p, s, nr, cs, hx⟩, e5⟩ := d_m h
  rcases q_dec m (by omega) x with ⟨k, hk, rfl⟩ | hb
  · exact Or.inl (q_use hx hk hy)
  · refine Or.inr ⟨q_use_t hx hb, xe_343 (d := 168) ?_⟩
    rw [e5]
    exact nH hb
theorem d_comes (h : GR S arv scv carv mr al) : qA (rF_112 x y S arv) (xF_346 x y scv mr carv al) ∨ dT 1 0 346 [.ref 734, .int x, .int y] rf0 S arv scv carv mr al (rF_112 x y S arv) := by
  rcases q_dec 13 (by decide) y with ⟨k, hk, rfl⟩ | hb
  · rcases q_dec 2 (by decide) x with ⟨j, hj, rfl⟩ | hb
    · obtain ⟨S0, ar0, n, tx, g, p, m, s, nr, cs, hx⟩ := h
      exact Or.inl (q_comes hx hj hk)
    · exact Or.inr ⟨q_comes_t h (Or.inl hb), xe_346b (d := 168) (c_354 hk) (nH1 (N := 1) (by decide) hb)⟩
  · exact Or.inr ⟨q_comes_t h (Or.inr hb), xe_346 (d := 168) (nH hb)⟩
theorem d_shows (h : GR S arv scv carv mr al) : qA (rF_113 x y S arv) (xF_347 x y scv mr carv al) ∨ dT 1 1 347 [.ref 734, .int x, .int y] rf0 S arv scv carv mr al (rF_113 x y S arv) ∨ dT 2 0 347 [.ref 734, .int x, .int y] rf0 S arv scv carv mr al (rF_113 x y S arv) := by
  rcases q_dec 8 (by decide) y with ⟨k, hk, rfl⟩ | hb
  · rcases q_dec 2 (by decide) x with ⟨j, hj, rfl⟩ | hb
    · exact Or.inl (q_shows h hj hk)
    · exact Or.inr (Or.inr ⟨q_shows_t2 h hk hb, xe_347b (d := 168) (c_355 (N := 8) hk (by decide)) (nH1 (N := 1) (by decide) hb)⟩)
  · exact Or.inr (Or.inl ⟨q_shows_t1 h hb, xe_347 (d := 168) (nH hb)⟩)
end DEC
