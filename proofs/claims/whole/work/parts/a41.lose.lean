/-! WORDS LOST within so many happenings: as a search over abstract states; presses without a handler. -/
theorem o5_in {A B C D E : Type} {a a2 : A} {b b2 : B} {c c2 : C} {d d2 : D} {e e2 : E} (h : some (a, b, c, d, e) = some (a2, b2, c2, d2, e2)) : a = a2 ∧ b = b2 ∧ d = d2 := by
  cases h
  exact ⟨rfl, rfl, rfl⟩
section WL
variable {S0 : Nat → Int32} {ar0 : jSc} {S : Nat → Int32} {ar : jSc} {sc car : jSc} {mr : Nat → Nat} {al : jAl} {pr n p m b : Nat} {tx : Nat → Int32} {g : pG} {st : wSt}
theorem cWs_cg {car2 : jSc} (h : cWs b st car) (h1 : ∀ k, k < 35 → car2 (800 + 2 * b) k = car (800 + 2 * b) k) (h2 : ∀ k, k < 35 → car2 (800 + 2 * (b + 1)) k = car (800 + 2 * (b + 1)) k) (h3 : car2 798 b = car 798 b) (h4 : car2 798 (b + 1) = car 798 (b + 1)) : cWs b st car2 := by
  obtain ⟨ar, hst, r1, r2, r3, r4, r5⟩ := h
  exact ⟨ar, hst, pgR_C r1 h1, pgR_C r2 h2, by rw [h3]; exact r3, by rw [h4]; exact r4, r5⟩
theorem cWs_det {st2 : wSt} (h : cWs b st car) (h2 : cWs b st2 car) : st2 = st := by
  obtain ⟨a, e, r⟩ := h
  obtain ⟨a2, e2, r2⟩ := h2
  rw [← e, ← e2]
  exact wRel_det r r2
/-- rows by window -/
theorem cWs_w {car2 : jSc} {w : Nat} (hw : w < 2) (h : cWs b st car) (h1 : ∀ k, k < 35 → car2 (800 + 2 * (b + w)) k = car (800 + 2 * (b + w)) k) (h2 : ∀ k, k < 35 → car2 (800 + 2 * (b + (1 - w))) k = car (800 + 2 * (b + (1 - w))) k) (h3 : car2 798 (b + w) = car 798 (b + w)) (h4 : car2 798 (b + (1 - w)) = car 798 (b + (1 - w))) : cWs b st car2 := by
  rcases (show w = 0 ∨ w = 1 by omega) with rfl | rfl
  · exact cWs_cg h h1 h2 h3 h4
  · exact cWs_cg h h2 h1 h4 h3
theorem cWs_q {w : Nat} (h : cWs b st car) (hw : w < 2) : ∃ q, q ≤ 3 ∧ wPg st w 26 = nI q := (cWs_pg h hw).2.2.1.2
theorem wI_0 {w c : Nat} (hE : cE pr n tx g p m S0 ar0 sc car mr) (h16 : S0 16 = 0) (h : cWs b st car) (hw : w < 2) (hb : b ≤ 8) (hi : aIdl g c = true) (hcan : aCan ar0 m (wPg st w) c = true) : (wNx S0 ar0 st w c).2 = 0 := by
  obtain ⟨q, hq, h26⟩ := cWs_q h hw
  obtain ⟨car2, sc2, e1, -⟩ := c_idm hE hi h hw hb hq h26
  obtain ⟨sc3, car3, f1, -⟩ := c_mv (al := fun _ _ => 0) hE h16 h hw hb (show c < 13 by have := (aIdl_i hi).1; omega) hcan
  rw [e1] at f1
  exact (o5_in f1).1.symm
theorem wI_eq {w c c2 : Nat} (hE : cE pr n tx g p m S0 ar0 sc car mr) (h16 : S0 16 = 0) (h : cWs b st car) (hw : w < 2) (hb : b ≤ 8) (hi : aIdl g c = true) (hcan : aCan ar0 m (wPg st w) c = true) (hi2 : aIdl g c2 = true) (hcan2 : aCan ar0 m (wPg st w) c2 = true) : (wNx S0 ar0 st w c).1 = (wNx S0 ar0 st w c2).1 := by
  obtain ⟨q, hq, h26⟩ := cWs_q h hw
  obtain ⟨car2, sc2, e1, e2, e3, e4, e5⟩ := c_idm hE hi h hw hb hq h26
  obtain ⟨sc3, car3, f1, f2, -⟩ := c_mv (al := fun _ _ => 0) hE h16 h hw hb (show c < 13 by have := (aIdl_i hi).1; omega) hcan
  obtain ⟨car4, sc4, k1, k2, k3, k4, k5⟩ := c_idm hE hi2 h hw hb hq h26
  obtain ⟨sc5, car5, g1, g2, -⟩ := c_mv (al := fun _ _ => 0) hE h16 h hw hb (show c2 < 13 by have := (aIdl_i hi2).1; omega) hcan2
  rw [e1] at f1
  obtain ⟨-, -, rfl⟩ := o5_in f1
  rw [k1] at g1
  obtain ⟨-, -, rfl⟩ := o5_in g1
  refine cWs_det g2 (cWs_w hw f2 (fun k _ => by rw [k2, e2]) (fun k hk => by rw [k3 k (by omega), e3 k (by omega)]) (k4.trans e4.symm) (k5.trans e5.symm))
theorem wI_still {w c : Nat} (hE : cE pr n tx g p m S0 ar0 sc car mr) (h16 : S0 16 = 0) (h : cWs b st car) (hw : w < 2) (hb : b ≤ 8) (hi : aIdl g c = true) (hcan : aCan ar0 m (wPg st w) c = true) (h26 : wPg st w 26 = 0) : (wNx S0 ar0 st w c).1 = st := by
  obtain ⟨car2, sc2, e1, e2, e3, e4, e5⟩ := c_idm (q := 0) hE hi h hw hb (by omega) h26
  obtain ⟨sc3, car3, f1, f2, -⟩ := c_mv (al := fun _ _ => 0) hE h16 h hw hb (show c < 13 by have := (aIdl_i hi).1; omega) hcan
  rw [e1] at f1
  obtain ⟨-, -, rfl⟩ := o5_in f1
  have fe : ∀ k, 10 ≤ k → k < 14 → car (800 + 2 * (b + w)) k = car (800 + 2 * (b + (1 - w))) k := by
    intro k h1 h2
    obtain ⟨ar, hst, r1, r2, r3, r4, r5⟩ := h
    have a := ix_c k (by omega)
    have p1 := r1.1 k (by omega)
    have p2 := r2.1 k (by omega)
    rw [show ix k = 33 + (k - 10) by omega] at p1 p2
    have := r5 (k - 10) (by omega)
    rcases (show w = 0 ∨ w = 1 by omega) with rfl | rfl
    · show car (800 + 2 * b) k = car (800 + 2 * (b + 1)) k
      rw [p1, p2, this]
    · show car (800 + 2 * (b + 1)) k = car (800 + 2 * b) k
      rw [p1, p2, this]
  refine cWs_det h (cWs_w hw f2 (fun k _ => by rw [e2, ageC_o (by omega)]) (fun k hk => ?_) e4.symm e5.symm)
  rw [e3 k (by omega)]
  by_cases z : 10 ≤ k ∧ k < 14
  · rw [if_pos z, fe k z.1 z.2]
  · rw [if_neg z]
end WL
/-- is a word lost within d happenings? -/
def wLs (S0 : Nat → Int32) (ar0 : jSc) (m : Nat) : Nat → wSt → Bool
  | 0, _ => false
  | d + 1, st => (List.range 26).any (fun v => aCan ar0 m (wPg st (v / 13)) (v % 13) && (decide (0 < (wNx S0 ar0 st (v / 13) (v % 13)).2) || wLs S0 ar0 m d (wNx S0 ar0 st (v / 13) (v % 13)).1))
theorem wLs_i {S0 : Nat → Int32} {ar0 : jSc} {m d : Nat} {st : wSt} : wLs S0 ar0 m (d + 1) st = true ↔ ∃ v, v < 26 ∧ aCan ar0 m (wPg st (v / 13)) (v % 13) = true ∧ (0 < (wNx S0 ar0 st (v / 13) (v % 13)).2 ∨ wLs S0 ar0 m d (wNx S0 ar0 st (v / 13) (v % 13)).1 = true) := by
  show (List.range 26).any _ = true ↔ _
  rw [List.any_eq_true]
  constructor
  · rintro ⟨v, hv, h⟩
    rw [Bool.and_eq_true, Bool.or_eq_true, decide_eq_true_eq] at h
    exact ⟨v, List.mem_range.mp hv, h⟩
  · rintro ⟨v, hv, h⟩
    refine ⟨v, List.mem_range.mpr hv, ?_⟩
    rw [Bool.and_eq_true, Bool.or_eq_true, decide_eq_true_eq]
    exact h
theorem wLs_mono {S0 : Nat → Int32} {ar0 : jSc} {m : Nat} : ∀ {d : Nat} {st : wSt}, wLs S0 ar0 m d st = true → wLs S0 ar0 m (d + 1) st = true
  | 0, _, h => by cases h
  | d + 1, st, h => by
    obtain ⟨v, hv, hc, h⟩ := wLs_i.mp h
    refine wLs_i.mpr ⟨v, hv, hc, ?_⟩
    rcases h with h | h
    · exact Or.inl h
    · exact Or.inr (wLs_mono h)
theorem wLs_le {S0 : Nat → Int32} {ar0 : jSc} {m : Nat} {st : wSt} : ∀ {e d : Nat}, d ≤ e → wLs S0 ar0 m d st = true → wLs S0 ar0 m e st = true
  | 0, d, h, k => by have : d = 0 := by omega
                     subst this; exact k
  | e + 1, d, h, k => by
    by_cases z : d = e + 1
    · subst z; exact k
    · exact wLs_mono (wLs_le (by omega) k)
/-- a happening that leads back to the state itself may be left out -/
theorem wLs_skip {S0 : Nat → Int32} {ar0 : jSc} {m d : Nat} {st : wSt} (h : ∀ v, v < 26 → aCan ar0 m (wPg st (v / 13)) (v % 13) = true → ¬ 0 < (wNx S0 ar0 st (v / 13) (v % 13)).2 ∧ ((wNx S0 ar0 st (v / 13) (v % 13)).1 = st ∨ wLs S0 ar0 m d (wNx S0 ar0 st (v / 13) (v % 13)).1 = false)) : ∀ e, e ≤ d + 1 → wLs S0 ar0 m e st = false
  | 0, _ => rfl
  | e + 1, he => by
    rw [Bool.eq_false_iff]
    intro k
    obtain ⟨v, hv, hc, k⟩ := wLs_i.mp k
    obtain ⟨h1, h2⟩ := h v hv hc
    rcases k with k | k
    · exact h1 k
    · rcases h2 with h2 | h2
      · rw [h2] at k
        have := wLs_skip h e (by omega)
        rw [this] at k; cases k
      · have := wLs_le (e := d) (by omega) k
        rw [h2] at this; cases this
