/-! THE CALLS: what is kept, by frames; answers alike (qA), answers of a call that throws (qT). -/
def qA (r : Option (Int32 × (Nat → Int32) × jSc)) (x : Option (Int32 × jSc × (Nat → Nat) × jSc × jAl)) : Prop := ∃ v S2 ar2 sc2 mr2 car2 al2, r = some (v, S2, ar2) ∧ S2 0 = 0 ∧ x = some (v, sc2, mr2, car2, al2) ∧ GR S2 ar2 sc2 car2 mr2 al2
def qT (k : Int32) (sc car : jSc) (mr : Nat → Nat) (al : jAl) (r : Option (Int32 × (Nat → Int32) × jSc)) : Prop := ∃ v S2 ar2, r = some (v, S2, ar2) ∧ S2 0 = k ∧ GR S2 ar2 sc car mr al
/-- nothing that counts is touched in the reference -/
def fR9 (S : Nat → Int32) (ar : jSc) (S2 : Nat → Int32) (ar2 : jSc) : Prop := (∀ k, (k = 1 ∨ k = 2 ∨ k = 16 ∨ k = 29 ∨ k = 31 ∨ k = 38 ∨ k = 51 ∨ k = 57) → S2 k = S k) ∧ ∀ b, b ≠ 13 → ¬ (61 ≤ b ∧ b < 102) → ¬ (107 ≤ b ∧ b ≤ 710) → b ≠ 712 → b < 720 → ar2 b = ar b
/-- nothing that counts is touched in ClickOrders, but (perhaps) the search -/
def fC0 (sc car : jSc) (al : jAl) (sc2 car2 : jSc) (al2 : jAl) : Prop := (∀ a k, ¬ (a = 757 ∧ 3 ≤ k ∧ k ≤ 9) → ¬ (a = 759 ∧ k = 12) → a ≠ 773 → a ≠ 774 → sc2 a k = sc a k) ∧ (∀ b, b ≠ 758 → b ≠ 767 → b ≠ 771 → ¬ (775 ≤ b ∧ b ≤ 795) → ¬ (804 ≤ b ∧ b ≤ 818) → b ≠ 822 → b ≠ 798 → car2 b = car b) ∧ (∀ k, k < 2 → car2 798 k = car 798 k) ∧ sc2 757 5 = 0 ∧ al2 768 = al 768
def fC9 (sc car : jSc) (al : jAl) (sc2 car2 : jSc) (al2 : jAl) : Prop := fC0 sc car al sc2 car2 al2 ∧ sc2 773 = sc 773 ∧ sc2 774 = sc 774 ∧ ∀ b, (775 ≤ b ∧ b ≤ 777) ∨ (789 ≤ b ∧ b ≤ 792) → car2 b = car b
section CL
variable {S S2 : Nat → Int32} {ar ar2 : jSc} {sc car sc2 car2 : jSc} {mr : Nat → Nat} {al al2 : jAl} {S0 : Nat → Int32} {ar0 : jSc} {n p m s nr : Nat} {tx : Nat → Int32} {g : pG} {cs : List Nat}
theorem x_pr_in {a : Nat} (h : x_pr a = true) : 744 ≤ a ∧ a ≤ 752 := by
  simp only [x_pr, Bool.or_eq_true, beq_iff_eq] at h
  omega
theorem kPc_lo (e1 : ∀ a k, 736 ≤ a → a < 757 → sc2 a k = sc a k) (e2 : ∀ b, 737 ≤ b → b < 757 → car2 b = car b) (h5 : sc2 757 5 = 0) : kPc sc car sc2 car2 := by
  refine ⟨fun a ha => ?_, fun k _ _ => e1 736 k (by omega) (by omega), fun b h1 h2 => e2 b (by omega) (by omega), h5⟩
  obtain ⟨h1, h2⟩ := x_pr_in ha
  exact ⟨funext fun k => e1 a k (by omega) (by omega), e2 _ (by omega) (by omega), e2 _ (by omega) (by omega), e2 _ (by omega) (by omega)⟩
theorem fR9_rf : fR9 S ar S ar := ⟨fun _ _ => rfl, fun _ _ _ _ _ _ => rfl⟩
theorem fR9_tr {S3 : Nat → Int32} {ar3 : jSc} (h : fR9 S ar S2 ar2) (k : fR9 S2 ar2 S3 ar3) : fR9 S ar S3 ar3 := ⟨fun j hj => (k.1 j hj).trans (h.1 j hj), fun b h1 h2 h3 h4 h5 => (k.2 b h1 h2 h3 h4 h5).trans (h.2 b h1 h2 h3 h4 h5)⟩
theorem fR9_0 (v : Int32) : fR9 S ar (upd S 0 v) ar := ⟨fun j hj => up_n (by omega), fun _ _ _ _ _ _ => rfl⟩
theorem fC9_rf (h5 : sc 757 5 = 0) : fC9 sc car al sc car al := ⟨⟨fun _ _ _ _ _ _ => rfl, fun _ _ _ _ _ _ _ _ => rfl, fun _ _ => rfl, h5, rfl⟩, rfl, rfl, fun _ _ => rfl⟩
theorem fR9_Sr (r : fR9 S ar S2 ar2) : kSr S ar S2 ar2 := ⟨⟨r.1 16 (by omega), r.1 38 (by omega), r.1 29 (by omega)⟩, fun b hb => r.2 b (by omega) (by omega) (by omega) (by omega) (by omega)⟩
theorem fC0_Pc (c : fC0 sc car al sc2 car2 al2) : kPc sc car sc2 car2 := kPc_lo (fun a k h1 h2 => c.1 a k (by omega) (by omega) (by omega) (by omega)) (fun b h1 h2 => c.2.1 b (by omega) (by omega) (by omega) (by omega) (by omega) (by omega) (by omega)) c.2.2.2.1
theorem f_Rn (r : fR9 S ar S2 ar2) (c : fC0 sc car al sc2 car2 al2) : kRn S ar sc car al S2 ar2 sc2 car2 al2 := ⟨r.1 31 (by omega), fun b hb => r.2 b (by omega) (by omega) (by omega) (by omega) (by omega), c.1 759 5 (by omega) (by omega) (by omega) (by omega), c.1 759 14 (by omega) (by omega) (by omega) (by omega), fun b hb => c.2.1 b (by omega) (by omega) (by omega) (by omega) (by omega) (by omega) (by omega), c.2.2.2.2⟩
theorem f_Td (r : fR9 S ar S2 ar2) (c : fC0 sc car al sc2 car2 al2) : kTd S ar sc car S2 ar2 sc2 car2 := ⟨r.1 51 (by omega), r.2 711 (by omega) (by omega) (by omega) (by omega) (by omega), c.1 819 1 (by omega) (by omega) (by omega) (by omega), c.2.1 820 (by omega) (by omega) (by omega) (by omega) (by omega) (by omega) (by omega)⟩
theorem f_Wi (r : fR9 S ar S2 ar2) (c : fC0 sc car al sc2 car2 al2) : kWi S ar sc car S2 ar2 sc2 car2 := ⟨r.1 57 (by omega), fun b h1 h2 => r.2 b (by omega) (by omega) (by omega) (by omega) (by omega), c.1 796 1 (by omega) (by omega) (by omega) (by omega), c.1 796 4 (by omega) (by omega) (by omega) (by omega), c.1 796 5 (by omega) (by omega) (by omega) (by omega), c.2.2.1 0 (by omega), c.2.2.1 1 (by omega), c.2.1 800 (by omega) (by omega) (by omega) (by omega) (by omega) (by omega) (by omega), c.2.1 802 (by omega) (by omega) (by omega) (by omega) (by omega) (by omega) (by omega)⟩
theorem f_Tp (r : fR9 S ar S2 ar2) (c : fC0 sc car al sc2 car2 al2) : kTp S ar sc car S2 ar2 sc2 car2 := ⟨r.1 1 (by omega), r.1 2 (by omega), r.2 1 (by omega) (by omega) (by omega) (by omega) (by omega), c.1 734 11 (by omega) (by omega) (by omega) (by omega), c.1 734 12 (by omega) (by omega) (by omega) (by omega), c.2.1 735 (by omega) (by omega) (by omega) (by omega) (by omega) (by omega) (by omega)⟩
def GX (S0 : Nat → Int32) (ar0 : jSc) (n : Nat) (tx : Nat → Int32) (g : pG) (p m s nr : Nat) (cs : List Nat) (S : Nat → Int32) (ar sc car : jSc) (mr : Nat → Nat) (al : jAl) : Prop := gSt S0 ar0 n tx g p m s S ar sc car mr ∧ gRun S0 ar0 m nr S ar sc car al ∧ gTold cs S ar sc car ∧ cKy S0 ar0 m g sc car ∧ gWi S0 ar0 m S ar sc car ∧ cSt S0 ar0 m g sc ∧ gPr g p ar sc ∧ gOld ar sc car mr ∧ gTp S ar sc car
theorem GX_R (h : GX S0 ar0 n tx g p m s nr cs S ar sc car mr al) : GR S ar sc car mr al := ⟨S0, ar0, n, tx, g, p, m, s, nr, cs, h⟩
theorem GX_ky (h : GX S0 ar0 n tx g p m s nr cs S ar sc car mr al) (r : fR9 S ar S2 ar2) (c : fC0 sc car al sc2 car2 al2) (k : cKy S0 ar0 m g sc2 car2) : GX S0 ar0 n tx g p m s nr cs S2 ar2 sc2 car2 mr al2 := by
  obtain ⟨h1, h2, h3, h4, h5, h6, h7, h8, h9⟩ := h
  exact ⟨gSt_k h1 (fC0_Pc c) (fR9_Sr r), gRun_k h2 (f_Rn r c), gTold_k h3 (f_Td r c), k, gWi_k h5 (f_Wi r c), cSt_k h6 (c.1 734 13 (by omega) (by omega) (by omega) (by omega)) (c.1 734 14 (by omega) (by omega) (by omega) (by omega)), gPr_k h7 h1.1.1.2.1.1 (fC0_Pc c) (fR9_Sr r), gOld_k h8 (fC0_Pc c) (fR9_Sr r), gTp_k h9 (f_Tp r c)⟩
theorem GX_f (h : GX S0 ar0 n tx g p m s nr cs S ar sc car mr al) (r : fR9 S ar S2 ar2) (c : fC9 sc car al sc2 car2 al2) : GX S0 ar0 n tx g p m s nr cs S2 ar2 sc2 car2 mr al2 := GX_ky h r c.1 (cKy_k h.2.2.2.1 ⟨c.2.1, c.2.2.1, c.2.2.2⟩)
theorem GX_5 (h : GX S0 ar0 n tx g p m s nr cs S ar sc car mr al) : sc 757 5 = 0 := h.1.1.2.2
theorem GX_r (h : GX S0 ar0 n tx g p m s nr cs S ar sc car mr al) (r : fR9 S ar S2 ar2) : GX S0 ar0 n tx g p m s nr cs S2 ar2 sc car mr al := GX_f h r (fC9_rf (GX_5 h))
theorem GX_0 (h : GX S0 ar0 n tx g p m s nr cs S ar sc car mr al) (v : Int32) : GX S0 ar0 n tx g p m s nr cs (upd S 0 v) ar sc car mr al := GX_r h (fR9_0 v)
theorem GR_0 (h : GR S ar sc car mr al) (v : Int32) : GR (upd S 0 v) ar sc car mr al := by
  obtain ⟨S0, ar0, n, tx, g, p, m, s, nr, cs, h⟩ := h
  exact GX_R (GX_0 h v)
/-! numbers -/
theorem q_in {x lo hi : Int32} (h : ¬ x < lo) (h2 : ¬ hi < x) : rF_4 x lo hi S ar = some (1, S, ar) := by
  unfold rF_4
  rw [if_neg h, if_neg h2]
theorem q_inn {i N : Nat} (h : i ≤ N) (hN : N < 2 ^ 31) : rF_4 (nI i) 0 (nI N) S ar = some (1, S, ar) := q_in (nI_pos (by omega)) (nI_nlt h hN)
theorem q_out {x lo hi : Int32} (h : x < lo ∨ hi < x) : rF_4 x lo hi S ar = some (0, S, ar) := by
  unfold rF_4
  by_cases h1 : x < lo
  · rw [if_pos h1]
  · rw [if_neg h1, if_pos (h.resolve_left h1)]
theorem q_bad {k : Int32} (hk : ¬ k = 0) : rF_3 1 k (upd S 0 0) ar = some (1, upd (upd S 0 0) 0 k, ar) := by
  unfold rF_3
  rw [if_neg (by decide), if_pos (show upd S 0 0 0 = 0 from if_pos rfl), if_neg hk]
theorem q_b0 {S : Nat → Int32} {k : Int32} : upd S 0 k 0 = k := if_pos rfl
/-- a number is one of the first N, or it is none -/
theorem q_dec (N : Nat) (hN : N < 2 ^ 31) (x : Int32) : (∃ i, i < N ∧ x = nI i) ∨ (x < 0 ∨ ¬ x < nI N) := by
  by_cases h : x < 0
  · exact Or.inr (Or.inl h)
  · by_cases h2 : x < nI N
    · exact Or.inl (nA_of2 h hN h2)
    · exact Or.inr (Or.inr h2)
theorem q_gt {N : Nat} {x : Int32} (hN : N + 1 < 2 ^ 31) (h : x < 0 ∨ ¬ x < nI (N + 1)) : x < 0 ∨ nI N < x := by
  rcases h with h | h
  · exact Or.inl h
  · refine Or.inr ?_
    rw [Int32.lt_iff_toInt_lt] at h ⊢
    rw [nI_toInt (by omega)] at h ⊢
    omega
/-! the plain calls -/
theorem q_fault (h : GR S ar sc car mr al) : qA (rF_44 S ar) (xF_315 sc mr car al) := by
  obtain ⟨S0, ar0, n, tx, g, p, m, s, nr, cs, h⟩ := h
  obtain ⟨tp, -, -, -, -, -, e⟩ := h.2.2.2.2.2.2.2.2
  exact ⟨S 2, _, _, _, _, _, _, rfl, q_b0, by unfold xF_315; rw [e], GX_R (GX_0 h 0)⟩
theorem c_355 {i N : Nat} (h : i < N) (hN : N < 2 ^ 31) : xF_355 (nI i) (nI N) sc mr car al = some (sc, mr, car, al) := by
  unfold xF_355
  rw [if_neg (nI_pos (by omega)), if_pos (nI_lt h hN)]
theorem c_354 {i : Nat} (h : i < 13) : xF_354 (nI i) sc mr car al = some (sc, mr, car, al) := by
  unfold xF_354
  rw [if_neg (nI_pos (by omega)), if_pos (show nI i < (13 : Int32) from nI_lt (b := 13) h (by decide))]
theorem GX_pg (h : GX S0 ar0 n tx g p m s nr cs S ar sc car mr al) : pgR (ar 14) (car 761) := h.2.1.1.2.2.2.1
theorem q_name {i : Nat} (h : GR S ar sc car mr al) (hi : i < 8) : qA (rF_62 (nI i) S ar) (xF_319 (nI i) sc mr car al) := by
  obtain ⟨S0, ar0, n, tx, g, p, m, s, nr, cs, h⟩ := h
  have e : car 761 i = ar 14 i := by
    have := (GX_pg h).1 i (by omega)
    rw [show ix i = i by unfold ix; rw [if_pos (by omega)]] at this
    exact this
  refine ⟨ar 14 i, upd S 0 0, ar, sc, mr, car, al, ?_, q_b0, ?_, GX_R (GX_0 h 0)⟩
  · unfold rF_62
    rw [show (7 : Int32) = nI 7 from rfl, q_inn (by omega) (by decide), ob3, if_neg (by decide), r_ok, ob3, if_pos rfl, if_pos (iB_nI (by omega) (by decide)), iN_nI (by omega)]
  · unfold xF_319
    rw [show (8 : Int32) = nI 8 from rfl, c_355 hi (by decide), ob4, if_pos (iB_nI (by omega) (by decide)), iN_nI (by omega), e]
theorem q_name_t {x : Int32} (h : GR S ar sc car mr al) (hx : x < 0 ∨ ¬ x < nI 8) : qT 1 sc car mr al (rF_62 x S ar) := by
  refine ⟨0, upd (upd S 0 0) 0 1, ar, ?_, q_b0, GR_0 (GR_0 h 0) 1⟩
  unfold rF_62
  rw [q_out (hi := 7) (q_gt (N := 7) (by decide) hx), ob3, if_pos rfl, q_bad (by decide), ob3, if_neg (by decide)]
end CL
