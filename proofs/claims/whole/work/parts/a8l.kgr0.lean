/-! THE RELATION of both sides when the constructors are through. -/
def kz_tx : Nat → Int32 := fun _ => -1
theorem kz_x : x_tx 0 kz_tx := ⟨by omega, fun _ _ => rfl, fun p h => absurd h (by omega)⟩
theorem kz_n {α : Type} {x : α} {P : Prop} (h : (none : Option α) = some x) : P := by cases h
theorem kz_gI : gI 0 kz_tx g0 := ⟨fun e x h => kz_n (show none = some x from h), fun x h => kz_n (show none = some x from h), fun x h => kz_n (show none = some x from h)⟩
theorem kz_m1 {e : Nat} (h : e < 17) : fM1 17 e = -1 := if_pos h
theorem kz_R0 : gRf 0 0 kz_tx g0 kz_ra := ⟨by decide, kz_x, rfl, fun p h => absurd h (by omega), kz_gI, Nat.zero_le _, fun e he => kz_m1 he, rfl, rfl⟩
theorem kz_R1 : gRf 1 0 kz_tx g0 kz_ra := ⟨by decide, kz_x, rfl, fun p h => absurd h (by omega), kz_gI, Nat.zero_le _, fun e he => kz_m1 he, rfl, rfl⟩
theorem kz_C0 : gCl 744 g0 kz_sc kz_ar := ⟨rfl, ⟨rfl, fun i h => absurd (show i < 0 from h) (by omega)⟩, fun e he => kz_m1 he, rfl, rfl⟩
theorem kz_C1 : gCl 748 g0 kz_sc kz_ar := ⟨rfl, ⟨rfl, fun i h => absurd (show i < 0 from h) (by omega)⟩, fun e he => kz_m1 he, rfl, rfl⟩
theorem kz_bt : ∀ l, l < 4 → bt (0 : Int32) l = false := by decide
theorem kz_fR : fR 0 kz_ra kz_sc kz_ar := ⟨⟨by decide, fun i h => absurd h (by omega)⟩, fun l hl => kz_bt l hl, fun l hl => kz_bt l hl, fun t l ht hl => kz_bt l hl⟩
theorem kz_hs : sR 0 0 kz_tx g0 744 0 kz_S kz_ra kz_sc kz_ar kz_mr := ⟨kz_R0, kz_C0, wfG_0, rfl, rfl, rfl, kz_fR⟩
set_option maxHeartbeats 2000000 in
theorem k_GR0 : ∃ (sc1 ar1 sc2 ar2 : jSc) (S1 : Nat → Int32) (ra1 : jSc) (S2 : Nat → Int32) (ra2 : jSc), xF_298 kz_sc kz_mr kz_ar kz_al = some (sc1, kz_mr, ar1, kz_al) ∧ xF_244 sc1 kz_mr ar1 kz_al = some (sc2, kz_mr, ar2, kz_al) ∧ rF_58 kz_S kz_ra = some (S1, ra1) ∧ rF_109 S1 ra1 = some (S2, ra2) ∧ GR S2 ra2 sc2 ar2 kz_mr kz_al := by
  have HS := kz_hs
  obtain ⟨S4, ar4, sc7, car7, a1, a2, a3, ⟨v1, v2⟩, u1, u2, u3, u4, u5⟩ := h_run0 (al := kz_al) HS rfl rfl rfl
  have HS2 : sR 0 0 kz_tx g0 744 0 S4 ar4 sc7 car7 kz_mr := sR_lo (sR_st HS ⟨v1 16 (by omega) (by omega), v1 38 (by omega) (by omega), v1 29 (by omega) (by omega)⟩ (fun b hb => v2 b (by omega))) (fun a ha => funext fun j => u1 a j (by omega) (by omega)) (fun b hb => u2 b (by omega) (by omega) (by omega) (by omega))
  obtain ⟨vv, S5, ar5, sc8, car8, b1, b2, b3, b4, ⟨y1, y2⟩, ⟨y3, y4, y5, y6⟩, -⟩ := h_win (al := kz_al) (b := 0) HS2 (v1 16 (by omega) (by omega)) (v1 29 (by omega) (by omega)) (by decide)
  have b2 : xF_248 (0 : Int32) sc7 kz_mr car7 kz_al = some (vv, sc8, kz_mr, car8, kz_al) := b2
  have x44 : xF_244 sc7 kz_mr car7 kz_al = some (j_u2 sc8 796 1 vv, kz_mr, car8, kz_al) := by
    unfold xF_244
    rw [b2, ob5]
  have k5 : ∀ j, (1 ≤ j ∧ j < 3) ∨ (9 ≤ j ∧ j ≤ 16) ∨ (18 ≤ j ∧ j ≤ 21) ∨ (29 ≤ j ∧ j ≠ 31 ∧ j ≠ 57) → S5 j = kz_S j := fun j hj => (y1 j (by omega) (by omega)).trans (v1 j (by omega) (by omega))
  have k9 : ∀ b, b < 13 ∨ (61 ≤ b ∧ b < 714) ∨ 720 ≤ b → ar5 b = kz_ra b := fun b hb => (y2 b (by omega) (by omega)).trans (v2 b (by omega))
  have d9 : ∀ a q, ¬ (a = 757 ∧ 3 ≤ q ∧ q ≤ 9) → ¬ (a = 759 ∧ (q = 5 ∨ q = 14)) → ¬ (a = 796 ∧ q = 1) → (j_u2 sc8 796 1 vv) a q = kz_sc a q := fun a q q1 q2 q3 => (if_neg q3).trans ((y3 a q q1).trans (u1 a q q1 q2))
  have d7 : ∀ b, b ≠ 758 → ¬ (761 ≤ b ∧ b ≤ 765) → b ≠ 769 → b ≠ 770 → b ≠ 798 → b ≠ 800 → b ≠ 802 → car8 b = kz_ar b := fun b q1 q2 q3 q4 q5 q6 q7 => (y4 b q1 q5 (by omega) (by omega)).trans (u2 b q1 q2 q3 q4)
  have E9 : cE 0 0 kz_tx g0 744 0 kz_S kz_ra (j_u2 sc8 796 1 vv) car8 kz_mr := ⟨sR_lo HS (fun a ha => funext fun j => d9 a j (by omega) (by omega) (by omega)) (fun b hb => d7 b (by omega) (by omega) (by omega) (by omega) (by omega) (by omega) (by omega)), rfl, (if_neg (by omega)).trans y6⟩
  have t0 : tK 0 S5 ar5 (j_u2 sc8 796 1 vv) car8 kz_al := tK_k a3 ⟨y1 31 (by omega) (by omega), fun b hb => y2 b (by omega) (by omega), (if_neg (by omega)).trans (y3 759 5 (by omega)), (if_neg (by omega)).trans (y3 759 14 (by omega)), fun b hb => y4 b (by omega) (by omega) (by omega) (by omega), rfl⟩
  have hL2 : hM [] (j_u2 sc8 796 1 vv) car8 := by
    have q776 : car8 776 = kz_ar 776 := d7 776 (by omega) (by omega) (by omega) (by omega) (by omega) (by omega) (by omega)
    refine ⟨d9 774 0 (by omega) (by omega) (by omega), Nat.zero_le _, fun P h => absurd h List.not_mem_nil, fun i P h => ?_, fun i j P h => ?_, fun _ => 0, fun i hi => absurd (show i < 0 from hi) (by omega), fun s hs => Or.inl ?_, fun i P C h => ?_⟩
    · simp at h
    · simp at h
    · rw [q776]
      rfl
    · simp at h
  have steps : (j_u2 sc8 796 1 vv) 744 4 = ar5 9 0 := by
    rw [d9 744 4 (by omega) (by omega) (by omega), k9 9 (by omega)]
    rfl
  have GP1 : gCl 748 g0 (j_u2 sc8 796 1 vv) car8 := gCl_at kz_C1 (fun q => d9 748 q (by omega) (by omega) (by omega)) (fun b z1 z2 => d7 b (by omega) (by omega) (by omega) (by omega) (by omega) (by omega) (by omega))
  refine ⟨sc7, car7, _, _, S4, ar4, S5, ar5, a2, x44, a1, b1, GX_R (S0 := kz_S) (ar0 := kz_ra) (n := 0) (tx := kz_tx) (g := g0) (p := 744) (m := 0) (s := 0) (nr := 0) (cs := []) ⟨⟨E9, rfl, ⟨k5 16 (by omega), k5 38 (by omega), k5 29 (by omega)⟩, fun b hb => k9 b (by omega), ⟨by decide, d9 736 5 (by omega) (by omega) (by omega), fun i hi => absurd hi (by omega)⟩, ⟨by decide, d9 736 6 (by omega) (by omega) (by omega), fun i hi => absurd hi (by omega)⟩⟩, ⟨t0, fun i hi => absurd hi (by omega), Or.inl ((if_neg (by omega)).trans ((y3 759 14 (by omega)).trans u4))⟩, ⟨⟨k5 51 (by omega), trivial, by decide, fun c h => absurd h List.not_mem_nil⟩, ⟨d9 819 1 (by omega) (by omega) (by omega), trivial, by decide, fun c h => absurd h List.not_mem_nil⟩⟩, ⟨⟨[], hL2⟩, Or.inl (d9 773 16 (by omega) (by omega) (by omega))⟩, ⟨b4, b3.trans u2_eq.symm, 0, by omega, by rw [d9 796 5 (by omega) (by omega) (by omega)]; decide, Or.inl ⟨d9 796 4 (by omega) (by omega) (by omega), fun d hd => absurd hd (by omega)⟩⟩, Or.inl (d9 734 13 (by omega) (by omega) (by omega)), ⟨d9 744 6 (by omega) (by omega) (by omega), steps, ?_⟩, ⟨rfl, rfl, rfl, by decide, by decide, by decide, rfl, 0, kz_tx, g0, gRf_st kz_R1 (fun b hb => k9 b (by omega)), GP1, wfG_0⟩, ⟨0, by omega, k5 1 (by omega), d9 734 11 (by omega) (by omega) (by omega), fun q hq => absurd hq (by omega), fun q hq => ⟨0, by decide, ?_⟩, ?_⟩⟩⟩
  · rw [d9 744 5 (by omega) (by omega) (by omega), k9 6 (by omega), hN_Cn (h := g0.2.1) (row := kz_ra 6) (fun e he => kz_m1 he) (fun e x hx => kz_n (show none = some x from hx)) 17 (Nat.le_refl _)]
    rfl
  · rw [k9 1 (by omega)]
    rfl
  · rw [d9 734 12 (by omega) (by omega) (by omega), k5 2 (by omega)]
    rfl
