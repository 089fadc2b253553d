/-! CALLS: two windows, begin, come, cheapest, newer. -/
section CW
variable {S S2 : Nat → Int32} {ar ar2 : jSc} {sc car sc2 car2 : jSc} {mr : Nat → Nat} {al al2 : jAl} {S0 : Nat → Int32} {ar0 : jSc} {n p m s nr : Nat} {tx : Nat → Int32} {g : pG} {cs : List Nat}
/-- the windows (and who is lost within how many) are new, all else is kept -/
theorem GX_win (h : GX S0 ar0 n tx g p m s nr cs S ar sc car mr al) (k : gWi S0 ar0 m S2 ar2 sc2 car2) (r1 : ∀ k, (k = 1 ∨ k = 2 ∨ k = 16 ∨ k = 29 ∨ k = 31 ∨ k = 38 ∨ k = 51) → S2 k = S k) (r2 : ∀ b, b ≠ 13 → ¬ (714 ≤ b) → ar2 b = ar b) (c1 : ∀ a k, ¬ (a = 757 ∧ 3 ≤ k ∧ k ≤ 9) → a ≠ 796 → sc2 a k = sc a k) (c2 : ∀ b, b ≠ 758 → ¬ (798 ≤ b ∧ b ≤ 818) → car2 b = car b) (c3 : sc2 757 5 = 0) : GX S0 ar0 n tx g p m s nr cs S2 ar2 sc2 car2 mr al := by
  obtain ⟨h1, h2, h3, h4, h5, h6, h7, h8, h9⟩ := h
  have kp : kPc sc car sc2 car2 := kPc_lo (fun a k _ _ => c1 a k (by omega) (by omega)) (fun b _ _ => c2 b (by omega) (by omega)) c3
  have ks : kSr S ar S2 ar2 := ⟨⟨r1 16 (by omega), r1 38 (by omega), r1 29 (by omega)⟩, fun b hb => r2 b (by omega) (by omega)⟩
  have e773 : sc2 773 = sc 773 := funext fun j => c1 773 j (by omega) (by omega)
  have e774 : sc2 774 = sc 774 := funext fun j => c1 774 j (by omega) (by omega)
  exact ⟨gSt_k h1 kp ks, gRun_k h2 ⟨r1 31 (by omega), fun b hb => r2 b (by omega) (by omega), c1 759 5 (by omega) (by omega), c1 759 14 (by omega) (by omega), fun b hb => c2 b (by omega) (by omega), rfl⟩, gTold_k h3 ⟨r1 51 (by omega), r2 711 (by omega) (by omega), c1 819 1 (by omega) (by omega), c2 820 (by omega) (by omega)⟩, cKy_k h4 ⟨e773, e774, fun b hb => c2 b (by omega) (by omega)⟩, k, cSt_k h6 (c1 734 13 (by omega) (by omega)) (c1 734 14 (by omega) (by omega)), gPr_k h7 h1.1.1.2.1.1 kp ks, gOld_k h8 kp ks, gTp_k h9 ⟨r1 1 (by omega), r1 2 (by omega), r2 1 (by omega) (by omega), c1 734 11 (by omega) (by omega), c1 734 12 (by omega) (by omega), c2 735 (by omega) (by omega)⟩⟩
/-- the program as it stands in the memory of now -/
theorem GX_sR (h : GX S0 ar0 n tx g p m s nr cs S ar sc car mr al) : sR 0 n tx g p m S ar sc car mr := sR_st (GX_E h).1 (GX_S h) (GX_A h)
theorem GX_S16 (h : GX S0 ar0 n tx g p m s nr cs S ar sc car mr al) : S 16 = 0 := (GX_S h).1.trans (GX_16 h)
theorem GX_S29 (h : GX S0 ar0 n tx g p m s nr cs S ar sc car mr al) : S 29 = -1 := (GX_S h).2.2.trans (GX_E h).2.1
theorem cFw_kp {m : Nat} (h : cFw S0 ar0 m sc) (e4 : sc2 796 4 = sc 796 4) (e5 : sc2 796 5 = sc 796 5) : cFw S0 ar0 m sc2 := by
  unfold cFw
  rw [e4, e5]; exact h
theorem q_windows (h : GX S0 ar0 n tx g p m s nr cs S ar sc car mr al) : qA (rF_111 S ar) (xF_345 sc mr car al) := by
  have h' := GX_0 h 0
  obtain ⟨v, S9, ar9, sc2, car2, e1, e2, e3, e4, e5, e6, -⟩ := h_win (al := al) (b := 0) (GX_sR h') (GX_S16 h') (GX_S29 h') (by decide)
  have e2 : xF_248 (0 : Int32) sc mr car al = some (v, sc2, mr, car2, al) := e2
  obtain ⟨f1, f2⟩ := e5
  obtain ⟨g1, g2, g3, g4⟩ := e6
  have k57 : S 57 = sc 796 1 := h.2.2.2.2.1.2.1
  refine ⟨S 57, S9, ar9, j_u2 sc2 796 1 v, mr, car2, al, ?_, (f1 0 (by omega) (by omega)).trans q_b0, ?_, GX_R (GX_win h' ⟨e4, e3.trans u2_eq.symm, cFw_kp h.2.2.2.2.1.2.2 ((u2_nk (by decide)).trans (g1 796 4 (by omega))) ((u2_nk (by decide)).trans (g1 796 5 (by omega)))⟩ (fun k hk => f1 k (by omega) (by omega)) (fun b h1 h2 => f2 b h1 (by omega)) (fun a k h1 h2 => (if_neg (by omega)).trans (g1 a k h1)) (fun b h1 h2 => g2 b h1 (by omega) (by omega) (by omega)) ((if_neg (by omega)).trans g4))⟩
  · unfold rF_111
    rw [e1, ob2]
  · unfold xF_345 xF_244
    rw [e2, ob5, ob4, k57]
theorem q_comes {w c : Nat} (h : GX S0 ar0 n tx g p m s nr cs S ar sc car mr al) (hw : w < 2) (hc : c < 13) : qA (rF_112 (nI w) (nI c) S ar) (xF_346 (nI w) (nI c) sc mr car al) := by
  have h' := GX_0 h 0
  have hR : wRel 0 ar car := h.2.2.2.2.1.1
  have pg : pgR (ar (714 + w)) (car (799 + 2 * w + 1)) := by
    have hw2 : w = 0 ∨ w = 1 := by omega
    rcases hw2 with rfl | rfl
    · exact hR.1
    · exact hR.2.1
  have fr : fR m ar sc car := (GX_sR h').2.2.2.2.2.2
  have C0 : xF_206 (799 + 2 * w) (nI c) sc mr car al = some (if aCan ar m (ar (714 + w)) c = true then 1 else 0, sc, mr, car, al) := c_may fr hc pg
  have R : rF_112 (nI w) (nI c) S ar = (o_b3 (rF_110 (nI w) (nI c) (upd S 0 0) ar) (fun ve3 Se3 are3 => (if ve3 = 0 then some ((-1 : Int32), Se3, are3) else some ((Se3 57), Se3, are3)))) := by
    unfold rF_112
    rw [show rF_4 (nI w) 0 1 (upd S 0 0) ar = some (1, upd S 0 0, ar) from q_inn (N := 1) (by omega) (by decide), ob3, if_neg (by decide), show rF_4 (nI c) 0 12 (upd S 0 0) ar = some (1, upd S 0 0, ar) from q_inn (N := 12) (by omega) (by decide), ob3, if_neg (by decide)]
    unfold rF_112_30
    rw [q_ck0, ob3, if_pos rfl]
  have C : xF_346 (nI w) (nI c) sc mr car al = o_b5 (xF_245 (nI w) (nI c) sc mr car al) (fun ve4 sce4 mre4 are4 ale4 => some (ve4, sce4, mre4, are4, ale4)) := by
    unfold xF_346
    rw [c_354 hc, ob4, if_neg (nI_pos (by omega)), if_pos (show nI w ≤ (1 : Int32) from nI_le (b := 1) (by omega) (by decide))]
  have k57 : (upd S 0 0) 57 = sc 796 1 := h'.2.2.2.2.1.2.1
  by_cases hcan : aCan ar m (ar (714 + w)) c = true
  · obtain ⟨v, S9, ar9, sc2, car2, e1, e2, e3, e4, e5, e6⟩ := h_move (al := al) (b := 0) (GX_sR h') (GX_S16 h') (GX_S29 h') hw (by decide) hc hR hcan
    have e2 : xF_249 (0 : Int32) (nI w) (nI c) sc mr car al = some (v, sc2, mr, car2, al) := e2
    obtain ⟨f1, f2⟩ := e5
    obtain ⟨g1, g2, g3, g4⟩ := e6
    refine ⟨S9 57, S9, ar9, j_u2 sc2 796 1 (sc 796 1 + v), mr, car2, al, ?_, (f1 0 (by omega) (by omega)).trans q_b0, ?_, GX_R (GX_win h' ⟨e4, (e3.trans (by rw [k57])).trans u2_eq.symm, cFw_kp h.2.2.2.2.1.2.2 ((u2_nk (by decide)).trans (g1 796 4 (by omega))) ((u2_nk (by decide)).trans (g1 796 5 (by omega)))⟩ (fun k hk => f1 k (by omega) (by omega)) (fun b h1 h2 => f2 b h1 (by omega)) (fun a k h1 h2 => (if_neg (by omega)).trans (g1 a k h1)) (fun b h1 h2 => g2 b h1 (by omega) (by omega) (by omega)) ((if_neg (by omega)).trans g4))⟩
    · rw [R, e1, ob3, if_neg (by decide)]
    · rw [C]
      unfold xF_245
      rw [if_pos (iB_nI (by omega) (by decide)), iN_nI (by omega), C0, ob5, if_pos hcan, if_neg (by decide), e2, ob5, ob5, e3, k57]
  · have fg := fr.1
    have hs := GX_sR h'
    have hE : cE 0 n tx g p m (upd S 0 0) ar sc car mr := ⟨hs, GX_S29 h', GX_5 h⟩
    have w0 : rWs (wS ar) ar := ⟨rfl, ⟨_, hR.1⟩, ⟨_, hR.2.1⟩, hR.2.2.2.2⟩
    have nc : ¬ aCan ar m (wPg (wS ar) w) c = true := by
      rw [← wPg_c hw fg (fun b hb => rfl) rfl hc]
      exact hcan
    obtain ⟨ar9, e1, e2⟩ := r_mv0 hE (GX_S16 h') ⟨rfl, rfl, rfl⟩ (fun b hb => rfl) w0 hw hc nc
    refine ⟨-1, upd S 0 0, ar9, sc, mr, car, al, ?_, q_b0, ?_, GX_R (GX_r h' (fR9_13 e2))⟩
    · rw [R, e1, ob3, if_pos rfl]
    · rw [C]
      unfold xF_245
      rw [if_pos (iB_nI (by omega) (by decide)), iN_nI (by omega), C0, ob5, if_neg hcan, if_pos rfl, ob5]
/-- the class throws: the code first, then the window -/
theorem q_comes_t {x y : Int32} (h : GR S ar sc car mr al) (hx : (x < 0 ∨ ¬ x < nI 2) ∨ (y < 0 ∨ ¬ y < nI 13)) : qT 1 sc car mr al (rF_112 x y S ar) := by
  refine ⟨0, upd (upd S 0 0) 0 1, ar, ?_, q_b0, GR_0 (GR_0 h 0) 1⟩
  have f : rF_112_30 x y 1 (upd S 0 0) ar = some (0, upd (upd S 0 0) 0 1, ar) := by
    unfold rF_112_30
    rw [q_bad (by decide), ob3, if_neg (by decide)]
  unfold rF_112
  rcases q_dec 2 (by decide) x with ⟨i, hi, rfl⟩ | hx2
  · have hy : y < 0 ∨ ¬ y < nI 13 := by
      rcases hx with (hx | hx) | hx
      · exact absurd hx (nI_pos (by omega))
      · exact absurd (nI_lt hi (by decide)) hx
      · exact hx
    rw [show rF_4 (nI i) 0 1 (upd S 0 0) ar = some (1, upd S 0 0, ar) from q_inn (N := 1) (by omega) (by decide), ob3, if_neg (by decide), q_code_o hy, ob3, if_pos rfl]; exact f
  · rw [q_out (hi := 1) (q_gt (N := 1) (by decide) hx2), ob3, if_pos rfl]; exact f
theorem q_shows {w k : Nat} (h : GR S ar sc car mr al) (hw : w < 2) (hk : k < 8) : qA (rF_113 (nI w) (nI k) S ar) (xF_347 (nI w) (nI k) sc mr car al) := by
  obtain ⟨S0, ar0, n, tx, g, p, m, s, nr, cs, h⟩ := h
  have h' := GX_0 h 0
  have hR : wRel 0 ar car := h.2.2.2.2.1.1
  have e : car (799 + 2 * w + 1) k = ar (714 + w) k := by
    have hw2 : w = 0 ∨ w = 1 := by omega
    have hi : ix k = k := by unfold ix; rw [if_pos (by omega)]
    rcases hw2 with rfl | rfl
    · have := hR.1.1 k (by omega)
      rw [hi] at this; exact this
    · have := hR.2.1.1 k (by omega)
      rw [hi] at this; exact this
  refine ⟨ar (714 + w) k, upd S 0 0, ar, sc, mr, car, al, ?_, q_b0, ?_, GX_R h'⟩
  · unfold rF_113
    rw [show rF_4 (nI k) 0 7 (upd S 0 0) ar = some (1, upd S 0 0, ar) from q_inn (N := 7) (by omega) (by decide), ob3, if_neg (by decide)]
    unfold rF_113_21
    rw [q_ck0, ob3, if_pos rfl, show rF_4 (nI w) 0 1 (upd S 0 0) ar = some (1, upd S 0 0, ar) from q_inn (N := 1) (by omega) (by decide), ob3, if_neg (by decide), q_ck0, ob3, if_pos rfl, if_pos (iB_nI (by omega) (by decide)), if_pos (iB_nI (by omega) (by decide)), iN_nI (by omega), iN_nI (by omega)]
  · unfold xF_347
    rw [show (8 : Int32) = nI 8 from rfl, c_355 hk (by decide), ob4, if_neg (nI_pos (by omega)), if_pos (show nI w ≤ (1 : Int32) from nI_le (b := 1) (by omega) (by decide)), if_pos (iB_nI (by omega) (by decide)), if_pos (iB_nI (by omega) (by decide)), iN_nI (by omega), iN_nI (by omega), e]
theorem q_shows_t1 {x y : Int32} (h : GR S ar sc car mr al) (hy : y < 0 ∨ ¬ y < nI 8) : qT 1 sc car mr al (rF_113 x y S ar) := by
  refine ⟨0, upd (upd S 0 0) 0 1, ar, ?_, q_b0, GR_0 (GR_0 h 0) 1⟩
  unfold rF_113
  rw [q_out (hi := 7) (q_gt (N := 7) (by decide) hy), ob3, if_pos rfl]
  unfold rF_113_21
  rw [q_bad (by decide), ob3, if_neg (by decide)]
theorem q_shows_t2 {x : Int32} {k : Nat} (h : GR S ar sc car mr al) (hk : k < 8) (hx : x < 0 ∨ ¬ x < nI 2) : qT 2 sc car mr al (rF_113 x (nI k) S ar) := by
  refine ⟨0, upd (upd S 0 0) 0 2, ar, ?_, q_b0, GR_0 (GR_0 h 0) 2⟩
  unfold rF_113
  rw [show rF_4 (nI k) 0 7 (upd S 0 0) ar = some (1, upd S 0 0, ar) from q_inn (N := 7) (by omega) (by decide), ob3, if_neg (by decide)]
  unfold rF_113_21
  rw [q_ck0, ob3, if_pos rfl, q_out (hi := 1) (q_gt (N := 1) (by decide) hx), ob3, if_pos rfl, q_bad (by decide), ob3, if_neg (by decide)]
theorem q_lost {k : Nat} (h : GX S0 ar0 n tx g p m s nr cs S ar sc car mr al) (hk : k ≤ 3) : qA (rF_117 (nI k) S ar) (xF_348 (nI k) sc mr car al) := by
  have h' := GX_0 h 0
  have hR : wRel 0 ar car := h.2.2.2.2.1.1
  have w0 : rWs (wS ar) ar := ⟨rfl, ⟨_, hR.1⟩, ⟨_, hR.2.1⟩, hR.2.2.2.2⟩
  obtain ⟨S9, ar9, e1, e2, e3, e4⟩ := r_lost (GX_E h) (GX_16 h) (GX_S h) (GX_A h) w0 hk
  obtain ⟨sc2, car2, e5, e6, e7⟩ := c_lost (al := al) (GX_E h) (GX_16 h) h.2.2.2.2.1.2.2 hk
  obtain ⟨g1, g2, g3, g4⟩ := e7
  have k57 : (upd S 0 0) 57 = sc 796 1 := h'.2.2.2.2.1.2.1
  have hw9 : wRel 0 ar9 car2 := by
    obtain ⟨d1, d2, d3, d4⟩ := e2
    have d1 : wS ar9 = wS ar := d1
    have p1 : c38 (ar9 714) = c38 (ar 714) := congrArg (fun q : wSt => q.1) d1
    have p2 : c38 (ar9 715) = c38 (ar 715) := congrArg (fun q : wSt => q.2.1) d1
    have p3 : (fun k => decide (k < 4) && decide (ar9 716 k = 1 ∧ ar9 718 k = 0)) = (fun k => decide (k < 4) && decide (ar 716 k = 1 ∧ ar 718 k = 0)) := congrArg (fun q : wSt => q.2.2.1) d1
    have p4 : (fun k => decide (k < 4) && decide (ar9 716 k = 0 ∧ ar9 719 k = 0)) = (fun k => decide (k < 4) && decide (ar 716 k = 0 ∧ ar 719 k = 0)) := congrArg (fun q : wSt => q.2.2.2) d1
    obtain ⟨r1, r2, r3, r4, r5⟩ := hR
    have q3 : ∀ k, k < 4 → (decide (ar9 716 k = 1 ∧ ar9 718 k = 0)) = decide (ar 716 k = 1 ∧ ar 718 k = 0) := fun k hk => by
      have := congrFun p3 k
      simpa only [hk, decide_true, Bool.true_and] using this
    have q4 : ∀ k, k < 4 → (decide (ar9 716 k = 0 ∧ ar9 719 k = 0)) = decide (ar 716 k = 0 ∧ ar 719 k = 0) := fun k hk => by
      have := congrFun p4 k
      simpa only [hk, decide_true, Bool.true_and] using this
    have c0 : car2 798 0 = car 798 0 := g3 0 (by omega)
    have c1 : car2 798 1 = car 798 1 := g3 1 (by omega)
    have b1 : car2 800 = car 800 := g2 800 (by omega) (by omega) (by omega)
    have b2 : car2 802 = car 802 := g2 802 (by omega) (by omega) (by omega)
    refine ⟨?_, ?_, fun k hk => ?_, fun k hk => ?_, d4⟩
    · show pgR (ar9 714) (car2 800)
      rw [b1]
      exact pgR_38' (by rw [p1]; exact pgR_38 r1)
    · show pgR (ar9 715) (car2 802)
      rw [b2]
      exact pgR_38' (by rw [p2]; exact pgR_38 r2)
    · show bt (car2 798 0) k = decide (ar9 716 k = nI 1 ∧ ar9 718 k = 0)
      rw [c0, show (nI 1 : Int32) = 1 from rfl, q3 k hk]
      exact r3 k hk
    · show bt (car2 798 1) k = decide (ar9 716 k = nI 0 ∧ ar9 719 k = 0)
      rw [c1, show (nI 0 : Int32) = 0 from rfl, q4 k hk]
      exact r4 k hk
  refine ⟨_, S9, ar9, sc2, mr, car2, al, e1, (e3 0 (by omega)).trans q_b0, e5, GX_R (GX_win h' ⟨hw9, ((e3 57 (by omega)).trans k57).trans (g1 796 1 (by omega) (by omega)).symm, e6⟩ (fun k hk => e3 k (by omega)) (fun b h1 h2 => e4 b h1 (by omega) (by omega)) (fun a k h1 h2 => g1 a k h1 (by omega)) (fun b h1 h2 => g2 b h1 (by omega) (by omega)) g4)⟩
theorem q_lost_t {x : Int32} (h : GR S ar sc car mr al) (hx : x < 0 ∨ ¬ x < nI 4) : qT 1 sc car mr al (rF_117 x S ar) := by
  refine ⟨0, upd (upd S 0 0) 0 1, ar, ?_, q_b0, GR_0 (GR_0 h 0) 1⟩
  unfold rF_117
  rw [q_out (hi := 3) (q_gt (N := 3) (by decide) hx), ob3, if_pos rfl]
  unfold rF_117_20
  rw [q_bad (by decide), ob3, if_neg (by decide)]
/-! begin, come -/
/-- the run is new, all else is kept -/
theorem GX_run {nr2 : Nat} (h : GX S0 ar0 n tx g p m s nr cs S ar sc car mr al) (k : gRun S0 ar0 m nr2 S2 ar2 sc2 car2 al2) (r : vR S ar S2 ar2) (c : uR sc car sc2 car2 al al2) : GX S0 ar0 n tx g p m s nr2 cs S2 ar2 sc2 car2 mr al2 := by
  obtain ⟨h1, h2, h3, h4, h5, h6, h7, h8, h9⟩ := h
  obtain ⟨r1, r2⟩ := r
  obtain ⟨c1, c2, c3, c4, c5⟩ := c
  have kp : kPc sc car sc2 car2 := kPc_lo (fun a k _ _ => c1 a k (by omega) (by omega)) (fun b _ _ => c2 b (by omega) (by omega) (by omega) (by omega)) c3
  have ks : kSr S ar S2 ar2 := ⟨⟨r1 16 (by omega) (by omega), r1 38 (by omega) (by omega), r1 29 (by omega) (by omega)⟩, fun b hb => r2 b (by omega)⟩
  have e773 : sc2 773 = sc 773 := funext fun j => c1 773 j (by omega) (by omega)
  have e774 : sc2 774 = sc 774 := funext fun j => c1 774 j (by omega) (by omega)
  have cc : ∀ b, b ≤ 757 ∨ 771 ≤ b → car2 b = car b := fun b hb => c2 b (by omega) (by omega) (by omega) (by omega)
  exact ⟨gSt_k h1 kp ks, k, gTold_k h3 ⟨r1 51 (by omega) (by omega), r2 711 (by omega), c1 819 1 (by omega) (by omega), cc 820 (by omega)⟩, cKy_k h4 ⟨e773, e774, fun b hb => cc b (by omega)⟩, gWi_k h5 ⟨r1 57 (by omega) (by omega), fun b _ _ => r2 b (by omega), c1 796 1 (by omega) (by omega), c1 796 4 (by omega) (by omega), c1 796 5 (by omega) (by omega), by rw [cc 798 (by omega)], by rw [cc 798 (by omega)], cc 800 (by omega), cc 802 (by omega)⟩, cSt_k h6 (c1 734 13 (by omega) (by omega)) (c1 734 14 (by omega) (by omega)), gPr_k h7 h1.1.1.2.1.1 kp ks, gOld_k h8 kp ks, gTp_k h9 ⟨r1 1 (by omega) (by omega), r1 2 (by omega) (by omega), r2 1 (by omega), c1 734 11 (by omega) (by omega), c1 734 12 (by omega) (by omega), cc 735 (by omega)⟩⟩
theorem q_begin (h : GX S0 ar0 n tx g p m s nr cs S ar sc car mr al) : qA (rF_59 S ar) (xF_316 sc mr car al) := by
  have h' := GX_0 h 0
  obtain ⟨S9, ar9, sc9, car9, e1, e2, e3, e4, e5⟩ := h_run0 (al := al) (GX_sR h') (GX_S16 h') (GX_S29 h') (GX_5 h)
  refine ⟨nI nr, S9, ar9, sc9, mr, car9, al, ?_, (e4.1 0 (by omega) (by omega)).trans q_b0, ?_, GX_R (GX_run h' ⟨e3, fun i hi => absurd hi (by omega), Or.inl e5.2.2.2.1⟩ e4 e5)⟩
  · unfold rF_59
    rw [e1, ob2, (GX_K h).2.1]
  · unfold xF_316
    rw [e2, ob4, (GX_K h).2.2.1]
theorem q_come {c : Nat} (h : GX S0 ar0 n tx g p m s nr cs S ar sc car mr al) (hc : c < 13) : qA (rF_61 (nI c) S ar) (xF_318 (nI c) sc mr car al) := by
  have h' := GX_0 h 0
  have hp := GX_pg h
  have hT' := GX_K h'
  have hT := GX_K h
  have C0 : xF_206 760 (nI c) sc mr car al = some (if aCan ar0 m (c38 (ar 14)) c = true then 1 else 0, sc, mr, car, al) := cE_may (GX_E h) (pgR_38 hp) hc
  have r1 : rN ar (va_up ar 13 (fun k => if k < 53 then ar 14 k else ar 13 k)) := fun b hb => va_up_ne _ _ hb
  have w : rW S0 ar0 (upd S 0 0) (va_up ar 13 (fun k => if k < 53 then ar 14 k else ar 13 k)) (c38 (ar 14)) := ⟨GX_S h', stA_tr (GX_A h) (stA_13 r1), by rw [va_up_self]; exact c38_e (fun k hk => by rw [if_pos (by omega)]), ⟨_, pgR_38 hp⟩⟩
  have R : rF_61 (nI c) S ar = rF_61_21 (nI c) 0 (upd S 0 0) ar := by
    unfold rF_61
    rw [show rF_4 (nI c) 0 12 (upd S 0 0) ar = some (1, upd S 0 0, ar) from q_inn (N := 12) (by omega) (by decide), ob3, if_neg (by decide)]
  have C : xF_318 (nI c) sc mr car al = (if (if aCan ar0 m (c38 (ar 14)) c = true then (1 : Int32) else 0) = 0 then some ((-1 : Int32), sc, mr, car, al) else (if nI nr < (40 : Int32) then (o_b5 (xF_299 (nI c) sc mr car al) (fun ve5 sce5 mre5 are5 ale5 => some (ve5, sce5, mre5, are5, ale5))) else some ((-2 : Int32), sc, mr, car, al))) := by
    unfold xF_318
    rw [c_354 hc, ob4, C0, ob5, hT.2.2.1]
  by_cases hcan : aCan ar0 m (c38 (ar 14)) c = true
  · by_cases hn : nr = 40
    · refine ⟨-2, upd S 0 0, _, sc, mr, car, al, ?_, q_b0, ?_, GX_R (GX_r h' (fR9_13 (fun b hb => va_up_ne _ (fun k => if k < 53 then ar 14 k else ar 13 k) hb)))⟩
      · rw [R]
        unfold rF_61_21
        rw [q_ck0, ob3, if_pos rfl, r_load (by decide) (by decide), ob2, rW_can (GX_E h) w hc, ob3, if_pos hcan, if_neg (by decide), hT'.2.1, if_pos (by rw [hn]; rfl)]
      · rw [C, if_pos hcan, if_neg (by decide), if_neg (by rw [hn]; decide)]
    · obtain ⟨S9, ar9, sc9, car9, al9, e1, e2, e3, e4, e5, e6⟩ := h_come (GX_E h) (GX_S h') (GX_A h) (GX_16 h) q_b0 hT' (by have := hT.1; omega) hc hcan
      refine ⟨nI nr, S9, ar9, sc9, mr, car9, al9, R.trans e1, (e5.1 0 (by omega) (by omega)).trans q_b0, ?_, GX_R (GX_run h' ⟨e3, e4 h.2.1.2.1, Or.inl e6.2.2.2.1⟩ e5 e6)⟩
      rw [C, if_pos hcan, if_neg (by decide), if_pos (show nI nr < (40 : Int32) from nI_lt (b := 40) (by have := hT.1; omega) (by decide)), e2, ob5]
  · refine ⟨-1, upd S 0 0, _, sc, mr, car, al, ?_, q_b0, ?_, GX_R (GX_r h' (fR9_13 (fun b hb => va_up_ne _ (fun k => if k < 53 then ar 14 k else ar 13 k) hb)))⟩
    · rw [R]
      unfold rF_61_21
      rw [q_ck0, ob3, if_pos rfl, r_load (by decide) (by decide), ob2, rW_can (GX_E h) w hc, ob3, if_neg hcan, if_pos rfl]
    · rw [C, if_neg hcan, if_pos rfl]
theorem q_come_t {x : Int32} (h : GR S ar sc car mr al) (hx : x < 0 ∨ ¬ x < nI 13) : qT 1 sc car mr al (rF_61 x S ar) := by
  refine ⟨0, upd (upd S 0 0) 0 1, ar, ?_, q_b0, GR_0 (GR_0 h 0) 1⟩
  unfold rF_61
  rw [q_code_o hx, ob3, if_pos rfl]
  unfold rF_61_21
  rw [q_bad (by decide), ob3, if_neg (by decide)]
/-! cheapest -/
theorem q_cheapest {n0 k most wt : Nat} (h : GX S0 ar0 n tx g p m s nr cs S ar sc car mr al) (hn : n0 ≤ 8) (hk : k ≤ 3) (h1 : 1 ≤ most) (h6 : most ≤ 600) (hwt : wt < 2) : qA (rF_108 (nI n0) (nI k) (nI most) (nI wt) S ar) (xF_344 (nI n0) (nI k) (nI most) (nI wt) sc mr car al) := by
  have h' := GX_0 h 0
  have hM := h.1.2.2.2.2.1
  have hO := h.1.2.2.2.2.2
  have e0 : mr 0 = p := h.2.2.2.2.2.2.2.1.2.2.2.2.2.2.1.symm.trans h.1.1.1.2.2.2.1
  obtain ⟨v, S9, ar9, e1, e2, e3⟩ := r_cheap (GX_E h) (GX_16 h) hM hO hk h1 h6 hn (GX_S h) (GX_A h) hwt
  obtain ⟨v2, sc2, car2, al2, f1, f2, f3, f4, f5, f6⟩ := c_cheap (al := al) (GX_E h) h.2.2.2.1 hM hO e0 h.2.2.2.2.2.2.1.1 h.2.2.2.2.2.1 hk h1 h6 hn hwt
  obtain rfl := bSet_u hM.1 e2 f2
  obtain ⟨c1, c2, c3, c4⟩ := f6
  have h9 := GX_r h' (fR9_X e3)
  refine ⟨_, S9, ar9, sc2, mr, car2, al2, e1, (vZ_0 e3).trans q_b0, f1, ?_⟩
  obtain ⟨h1, h2, h3, h4, h5, h6, h7, h8, h9⟩ := h9
  have a1 : ∀ a k, (a < 734 ∨ (737 ≤ a ∧ a ≤ 756) ∨ (758 ≤ a ∧ a ≤ 772) ∨ 775 ≤ a) → sc2 a k = sc a k := fun a k ha => c1 a k (by omega) (by omega) (by omega) (by omega) (by omega)
  have a2 : ∀ b, (b ≤ 740 ∨ (743 ≤ b ∧ b ≤ 757) ∨ (759 ≤ b ∧ b ≤ 774) ∨ 796 ≤ b) → car2 b = car b := fun b hb => c2 b (by omega) (by omega) (by omega) (by omega)
  have kr : kRn S9 ar9 sc car al S9 ar9 sc2 car2 al2 := ⟨rfl, fun _ _ => rfl, a1 759 5 (by omega), a1 759 14 (by omega), fun b hb => a2 b (by omega), c4 768 (by omega)⟩
  have hpr : x_pr p = true := h1.1.1.2.1.1
  have kc : ∀ q gg, gCl q gg sc car → gCl q gg sc2 car2 := fun q gg hg => by
    obtain ⟨x1, ⟨x2, x2b⟩, x3, x4, x5⟩ := hg
    have hb := x_pr_in x1
    have es : sc2 q = sc q := funext fun k => a1 q k (by omega)
    exact ⟨x1, ⟨by rw [es]; exact x2, fun i hi => by rw [a2 (q + 1) (by omega), a2 (q + 2) (by omega)]; exact x2b i hi⟩, fun e he => by rw [a2 (q + 3) (by omega)]; exact x3 e he, by rw [es]; exact x4, by rw [es]; exact x5⟩
  have hM2 : fM m ar0 sc2 car2 := ⟨hM.1, (c1 736 5 (by omega) (by omega) (by omega) (by omega) (by omega)).trans hM.2.1, fun i hi => by rw [a2 737 (by omega), a2 738 (by omega), a2 739 (by omega), a2 740 (by omega)]; exact hM.2.2 i hi⟩
  have hO2 : fO m s ar0 sc2 := ⟨hO.1, (c1 736 6 (by omega) (by omega) (by omega) (by omega) (by omega)).trans hO.2.1, hO.2.2⟩
  have hpb := x_pr_in hpr
  obtain ⟨o1, o2, o3, o4, o5, o6, o7, n1, tx1, g1, o8, o9, o10⟩ := h8
  exact GX_R ⟨⟨f4, h1.2.1, h1.2.2.1, h1.2.2.2.1, hM2, hO2⟩, gRun_k h2 kr, gTold_k h3 ⟨rfl, rfl, a1 819 1 (by omega), a2 820 (by omega)⟩, f5, gWi_k h5 ⟨rfl, fun _ _ _ => rfl, a1 796 1 (by omega), a1 796 4 (by omega), a1 796 5 (by omega), by rw [a2 798 (by omega)], by rw [a2 798 (by omega)], a2 800 (by omega), a2 802 (by omega)⟩, f3, ⟨(a1 p 6 (by omega)).trans h7.1, (a1 p 4 (by omega)).trans h7.2.1, (a1 p 5 (by omega)).trans h7.2.2⟩, ⟨o1, o2, o3, o4, o5, o6, o7, n1, tx1, g1, o8, kc _ _ o9, o10⟩, gTp_k h9 ⟨rfl, rfl, rfl, c1 734 11 (by omega) (by omega) (by omega) (by omega) (by omega), c1 734 12 (by omega) (by omega) (by omega) (by omega) (by omega), a2 735 (by omega)⟩⟩
/-- what cheapest refuses -/
def nCh (x y z w : Int32) : Prop := nRw x z ∨ (∃ i j, i ≤ 8 ∧ 1 ≤ j ∧ j ≤ 600 ∧ x = nI i ∧ z = nI j) ∧ ((y < 0 ∨ ¬ y < nI 4) ∨ (∃ k, k ≤ 3 ∧ y = nI k) ∧ (w < 0 ∨ ¬ w < nI 2))
theorem q_cheapest_t {x y z w : Int32} (h : GR S ar sc car mr al) (hx : nCh x y z w) : qT 1 sc car mr al (rF_108 x y z w S ar) := by
  refine ⟨0, upd (upd S 0 0) 0 1, ar, ?_, q_b0, GR_0 (GR_0 h 0) 1⟩
  unfold rF_108
  rcases hx with hx | ⟨⟨i, j, h1, h2, h3, rfl, rfl⟩, hy | ⟨⟨k, hk, rfl⟩, hw⟩⟩
  · rw [q_88 hx, ob3, if_pos rfl, q_bad (by decide), ob3, if_neg (by decide)]
  · rw [r_88 h2 h3 h1, ob3, if_neg (by decide), q_out (hi := 3) (q_gt (N := 3) (by decide) hy), ob3, if_pos rfl, q_bad (by decide), ob3, if_neg (by decide)]
  · rw [r_88 h2 h3 h1, ob3, if_neg (by decide), show rF_4 (nI k) 0 3 (upd S 0 0) ar = some (1, upd S 0 0, ar) from q_inn (N := 3) (by omega) (by decide), ob3, if_neg (by decide), q_out (hi := 1) (q_gt (N := 1) (by decide) hw), ob3, if_pos rfl, q_bad (by decide), ob3, if_neg (by decide)]
end CW
