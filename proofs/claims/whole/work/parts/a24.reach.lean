/-! REACHING A PLACE by loose pages. -/
section RC
variable {cn : (Nat → Int32) → Nat → Bool} {st : (Nat → Int32) → Nat → Nat → Int32} {gd : (Nat → Int32) → Bool} {P : Nat → Int32} {k : Nat}
theorem rch_s : aRch cn st gd (k + 1) P = true ↔ gd P = true ∨ ∃ c, c < 13 ∧ cn P c = true ∧ aRch cn st gd k (st P c) = true := by
  show (gd P || (List.range 13).any (fun c => cn P c && aRch cn st gd k (st P c))) = true ↔ _
  rw [Bool.or_eq_true, List.any_eq_true]
  constructor
  · rintro (h | ⟨c, h1, h2⟩)
    · exact Or.inl h
    · rw [Bool.and_eq_true] at h2
      exact Or.inr ⟨c, List.mem_range.mp h1, h2.1, h2.2⟩
  · rintro (h | ⟨c, h1, h2, h3⟩)
    · exact Or.inl h
    · exact Or.inr ⟨c, List.mem_range.mpr h1, by rw [h2, h3]; rfl⟩
theorem rch_g (h : gd P = true) : aRch cn st gd k P = true := by
  cases k with
  | zero => exact h
  | succ k => exact rch_s.mpr (Or.inl h)
theorem rch_1 : ∀ {k : Nat} {P : Nat → Int32}, aRch cn st gd k P = true → aRch cn st gd (k + 1) P = true
  | 0, _, h => rch_s.mpr (Or.inl h)
  | k + 1, P, h => by
    rcases rch_s.mp h with h | ⟨c, h1, h2, h3⟩
    · exact rch_g h
    · exact rch_s.mpr (Or.inr ⟨c, h1, h2, rch_1 h3⟩)
theorem rch_m {j : Nat} (h : aRch cn st gd k P = true) (hj : k ≤ j) : aRch cn st gd j P = true := by
  induction j with
  | zero => have : k = 0 := by omega
            subst this; exact h
  | succ j ih =>
    by_cases z : k = j + 1
    · subst z; exact h
    · exact rch_1 (ih (by omega))
/-- codes that lead nowhere else help nothing -/
theorem rch_self (hg : ¬ gd P = true) : ∀ {k : Nat}, (∀ c, c < 13 → cn P c = true → st P c = P ∨ ¬ aRch cn st gd k (st P c) = true) → ¬ aRch cn st gd (k + 1) P = true
  | 0, h => fun w => by
    rcases rch_s.mp w with w | ⟨c, h1, h2, h3⟩
    · exact hg w
    · rcases h c h1 h2 with z | z
      · rw [z] at h3; exact hg h3
      · exact z h3
  | k + 1, h => fun w => by
    rcases rch_s.mp w with w | ⟨c, h1, h2, h3⟩
    · exact hg w
    · rcases h c h1 h2 with z | z
      · rw [z] at h3
        exact rch_self hg (k := k) (fun c' h1' h2' => (h c' h1' h2').imp id (fun y x => y (rch_1 x))) h3
      · exact z h3
end RC
section RG
variable {S0 : Nat → Int32} {ar0 : jSc} {mr : Nat → Nat} {al : jAl} {pr n p m : Nat} {tx : Nat → Int32} {g : pG}
/-- what reaching by loose pages leaves -/
def uL (k : Nat) (sc car sc2 car2 : jSc) : Prop := hF7 sc sc2 ∧ (∀ b, b ≠ 758 → ¬ (784 ≤ b ∧ b < 784 + 2 * k) → car2 b = car b) ∧ sc2 757 5 = 0
theorem uL_tr {k : Nat} {a b a2 b2 a3 b3 : jSc} (h : uL k a b a2 b2) (h2 : uL k a2 b2 a3 b3) : uL k a b a3 b3 := ⟨hF7_tr h.1 h2.1, fun x u v => (h2.2.1 x u v).trans (h.2.1 x u v), h2.2.2⟩
theorem uL_s {k : Nat} {a b a2 b2 : jSc} (h : uL k a b a2 b2) : uL (k + 1) a b a2 b2 := ⟨h.1, fun x u v => h.2.1 x u (by omega), h.2.2⟩
theorem cE_L {k : Nat} {sc car sc2 car2 : jSc} (h : cE pr n tx g p m S0 ar0 sc car mr) (u : uL k sc car sc2 car2) : cE pr n tx g p m S0 ar0 sc2 car2 mr := cE_lo h (fun a ha => funext fun j => u.1 a j (by omega)) (fun b hb => u.2.1 b (by omega) (by omega)) (u.2.2.trans h.2.2.symm)
theorem c_rch : ∀ (k fu p1 : Nat) (sc car : jSc) (P : Nat → Int32), k ≤ 2 → k < fu → 783 + 2 * k ≤ p1 → p1 ≤ 787 → cE pr n tx g p m S0 ar0 sc car mr → pgR P (car (p1 + 1)) → c38 P = P →
    ∃ sc2 car2, xG_297 fu p1 (nI k) sc mr car al = some (if aRch (aCan ar0 m) (aSt S0 ar0) (aGd g) k P = true then 1 else 0, sc2, mr, car2, al) ∧ uL k sc car sc2 car2 := by
  intro k
  induction k with
  | zero =>
    intro fu p1 sc car P hk hf hp1 hp2 hE hR h38
    obtain ⟨fu, rfl⟩ : ∃ j, fu = j + 1 := ⟨fu - 1, by omega⟩
    obtain ⟨sc2, car2, e1, e2, e3⟩ := cE_good (al := al) (pp := p1) hE (by omega) hR
    have U : uL 0 sc car sc2 car2 := ⟨e3.1, fun b u _ => e2 b u, e3.2.2⟩
    show ∃ sc2 car2, xF_297 (xG_297 fu) p1 (nI 0) sc mr car al = some (if aGd g P = true then 1 else 0, _) ∧ _
    unfold xF_297
    rw [e1, ob5]
    by_cases z : aGd g P = true
    · simp only [if_pos z, if_neg (show ¬ (1 : Int32) = 0 by decide)]
      exact ⟨sc2, car2, rfl, U⟩
    · simp only [if_neg z, if_true, if_pos (show nI 0 ≤ 0 by decide)]
      exact ⟨sc2, car2, rfl, U⟩
  | succ k ih =>
    intro fu p1 sc car P hk hf hp1 hp2 hE hR h38
    obtain ⟨fu, rfl⟩ : ∃ j, fu = j + 1 := ⟨fu - 1, by omega⟩
    obtain ⟨sc2, car2, e1, e2, e3⟩ := cE_good (al := al) (pp := p1) hE (by omega) hR
    have U2 : uL (k + 1) sc car sc2 car2 := ⟨e3.1, fun b u _ => e2 b u, e3.2.2⟩
    have E2 := cE_L hE U2
    have R2 : pgR P (car2 (p1 + 1)) := by rw [e2 (p1 + 1) (by omega)]; exact hR
    show ∃ sc2 car2, xF_297 (xG_297 fu) p1 (nI (k + 1)) sc mr car al = _ ∧ _
    unfold xF_297
    rw [e1, ob5]
    by_cases z : aGd g P = true
    · rw [if_pos z, if_neg (by decide), if_pos (rch_g z)]
      exact ⟨sc2, car2, rfl, U2⟩
    · obtain ⟨q, q3, eq⟩ := hR.2.2.1.2
      have c19 : car2 (p1 + 1) 19 = nI q := (R2.1 19 (by decide)).trans eq
      have n0 : nI q = 0 ↔ q = 0 := nI_eq (a := q) (b := 0) (by omega) (by decide)
      rw [if_neg z, if_pos rfl, if_neg (nI_nle (by omega) (by omega)), if_pos (show nI (k + 1) < (3 : Int32) from nI_lt (b := 3) (by omega) (by decide)), show nI (k + 1) - (1 : Int32) = nI k from nI_pred k, if_pos (iB_nI (show k < 3 by omega) (by decide)), iN_nI (by omega)]
      unfold xF_233
      rw [ob5, c19]
      -- the loop over codes; y: an idle press has been tried, or nothing ticks
      have go : ∀ r c nn (y : Bool) sc car, c + r = 13 → r < nn → cE pr n tx g p m S0 ar0 sc car mr → pgR P (car (p1 + 1)) → (y = true → q = 0 ∨ ∃ c', c' < c ∧ aIdl g c' = true ∧ aCan ar0 m P c' = true ∧ ¬ aRch (aCan ar0 m) (aSt S0 ar0) (aGd g) k (aSt S0 ar0 P c') = true) → (q = 0 → y = true) → (∀ c', c' < c → aCan ar0 m P c' = true → aSt S0 ar0 P c' = P ∨ ¬ aRch (aCan ar0 m) (aSt S0 ar0) (aGd g) k (aSt S0 ar0 P c') = true) →
          ∃ sc9 car9, xF_297_50 (xG_297 fu) nn p1 (nI (k + 1)) (783 + 2 * k) (if y = true then 1 else 0) (nI c) sc mr car al = some (if aRch (aCan ar0 m) (aSt S0 ar0) (aGd g) (k + 1) P = true then 1 else 0, sc9, mr, car9, al) ∧ uL (k + 1) sc car sc9 car9 := by
        intro r
        induction r with
        | zero =>
          intro c nn y sc car h1 h2 hE hR hy hq hno
          obtain ⟨nn, rfl⟩ : ∃ j, nn = j + 1 := ⟨nn - 1, by omega⟩
          have c13 : c = 13 := by omega
          subst c13
          unfold xF_297_50
          rw [if_pos (show (13 : Int32) ≤ nI 13 by decide), if_neg (rch_self z hno)]
          exact ⟨sc, car, rfl, fun _ _ _ => rfl, fun _ _ _ => rfl, hE.2.2⟩
        | succ r ihr =>
          intro c nn y sc car h1 h2 hE hR hy hq hno
          obtain ⟨nn, rfl⟩ : ∃ j, nn = j + 1 := ⟨nn - 1, by omega⟩
          have c13 : c < 13 := by omega
          unfold xF_297_50
          rw [if_neg (show ¬ (13 : Int32) ≤ nI c from nI_ge (b := 13) (by omega) (by decide)), hE.1.2.2.2.1, if_pos hE.1.2.1.1, c_idl hE c13, ob5, nI_1]
          -- the code is tried
          have try_ : ∀ (x6 : Int32), x6 = (if aIdl g c = true then 1 else 0) → ¬ (aIdl g c = true ∧ y = true) → ∃ sc9 car9, xF_297_81 (xG_297 fu) (fun p1_ x2_ p3_ x4_ x5_ sc_ mr_ ar_ al_ => xF_297_50 (xG_297 fu) nn p1_ x2_ p3_ x4_ x5_ sc_ mr_ ar_ al_) p1 (nI (k + 1)) (783 + 2 * k) (if y = true then 1 else 0) (nI c) x6 sc mr car al = some (if aRch (aCan ar0 m) (aSt S0 ar0) (aGd g) (k + 1) P = true then 1 else 0, sc9, mr, car9, al) ∧ uL (k + 1) sc car sc9 car9 := by
            intro x6 hx6 hny
            unfold xF_297_81
            rw [cE_may (pp := p1) hE hR c13, ob5, nI_1]
            by_cases x : aCan ar0 m P c = true
            · rw [if_pos x, if_neg (by decide)]
              have fin : ∀ (y2 : Bool), (y2 = true ↔ y = true ∨ aIdl g c = true) → ∃ sc9 car9, xF_297_112 (xG_297 fu) (fun p1_ x2_ p3_ x4_ x5_ sc_ mr_ ar_ al_ => xF_297_50 (xG_297 fu) nn p1_ x2_ p3_ x4_ x5_ sc_ mr_ ar_ al_) p1 (nI (k + 1)) (783 + 2 * k) (nI c) (if y2 = true then 1 else 0) sc mr car al = some (if aRch (aCan ar0 m) (aSt S0 ar0) (aGd g) (k + 1) P = true then 1 else 0, sc9, mr, car9, al) ∧ uL (k + 1) sc car sc9 car9 := by
                intro y2 hy2
                unfold xF_297_112 xF_226
                rw [ob4]
                generalize hA1 : va_up car (783 + 2 * k + 1) (va_cpy (car (p1 + 1)) (car (783 + 2 * k + 1)) (iN (0 : Int32)) (iN (0 : Int32)) (iN (50 : Int32))) = car1
                have q1 : ∀ b, b ≠ 783 + 2 * k + 1 → car1 b = car b := fun b hb => by rw [← hA1, va_up_ne _ _ hb]
                have R1 : pgR P (car1 (783 + 2 * k + 1)) := by
                  rw [← hA1, va_up_self]
                  exact pgR_C hR (fun j hj => by
                    show va_cpy (car (p1 + 1)) (car (783 + 2 * k + 1)) 0 0 50 j = car (p1 + 1) j
                    rw [cpy_in (Nat.zero_le _) (by omega)]
                    congr 1
                    omega)
                have U1 : uL (k + 1) sc car sc car1 := ⟨fun _ _ _ => rfl, fun b _ w => q1 b (by omega), hE.2.2⟩
                obtain ⟨v, sc3, car3, f1, R3, H3⟩ := cE_step (al := al) (pp := 783 + 2 * k) (cE_L hE U1) (by omega) R1 c13 x
                have U3 : uL (k + 1) sc car sc3 car3 := uL_tr U1 ⟨H3.1, fun b u w => H3.2.1 b u (by omega), H3.2.2⟩
                obtain ⟨sc4, car4, g1, g2⟩ := ih fu (783 + 2 * k) sc3 car3 _ (by omega) (by omega) (by omega) (by omega) (cE_L hE U3) R3 c38_t
                have U4 := uL_tr U3 (uL_s g2)
                rw [f1, ob5, show nI (k + 1) - (1 : Int32) = nI k from nI_pred k, g1, ob5, nI_1]
                by_cases w : aRch (aCan ar0 m) (aSt S0 ar0) (aGd g) k (aSt S0 ar0 P c) = true
                · rw [if_pos w, if_neg (by decide), if_pos (rch_s.mpr (Or.inr ⟨c, c13, x, w⟩))]
                  exact ⟨sc4, car4, rfl, U4⟩
                · rw [if_neg w, if_pos rfl]
                  obtain ⟨sc9, car9, d1, d2⟩ := ihr (c + 1) nn y2 sc4 car4 (by omega) (by omega) (cE_L hE U4) (by rw [U4.2.1 (p1 + 1) (by omega) (by omega)]; exact hR) (fun h => by
                    rcases hy2.mp h with h | h
                    · rcases hy h with h | ⟨c', a, b⟩
                      · exact Or.inl h
                      · exact Or.inr ⟨c', by omega, b⟩
                    · exact Or.inr ⟨c, by omega, h, x, w⟩) (fun h => hy2.mpr (Or.inl (hq h))) (fun c' hc' hcan => by
                    by_cases e : c' = c
                    · subst e; exact Or.inr w
                    · exact hno c' (by omega) hcan)
                  exact ⟨sc9, car9, d1, uL_tr U4 d2⟩
              rcases y with _ | _
              · rw [if_pos (show (if false = true then (1 : Int32) else 0) = 0 by decide)]
                rcases hi : aIdl g c with _ | _
                · rw [hi] at hx6
                  rw [hx6, if_pos (show (if false = true then (1 : Int32) else 0) = 0 by decide)]
                  exact fin false (by rw [hi]; simp)
                · rw [hi] at hx6
                  rw [hx6, if_neg (show ¬ (if true = true then (1 : Int32) else 0) = 0 by decide)]
                  exact fin true (by rw [hi]; simp)
              · rw [if_neg (show ¬ (if true = true then (1 : Int32) else 0) = 0 by decide)]
                exact fin true (by simp)
            · rw [if_neg x, if_pos rfl]
              exact ihr (c + 1) nn y sc car (by omega) (by omega) hE hR (fun h => (hy h).imp id (fun ⟨c', a, b⟩ => ⟨c', by omega, b⟩)) hq (fun c' hc' hcan => by
                by_cases e : c' = c
                · subst e; exact absurd hcan x
                · exact hno c' (by omega) hcan)
          rcases hi : aIdl g c with _ | _
          · rw [if_neg (show ¬ (false = true) by decide), if_pos rfl]
            exact try_ 0 (by rw [hi]; rfl) (fun h => by rw [hi] at h; cases h.1)
          · rw [if_pos rfl, if_neg (show ¬ (1 : Int32) = 0 by decide)]
            rcases y with _ | _
            · rw [if_pos (show (if false = true then (1 : Int32) else 0) = 0 by decide)]
              exact try_ 1 (by rw [hi]; rfl) (fun h => by cases h.2)
            · rw [if_neg (show ¬ (if true = true then (1 : Int32) else 0) = 0 by decide)]
              refine ihr (c + 1) nn true sc car (by omega) (by omega) hE hR (fun h => (hy h).imp id (fun ⟨c', a, b⟩ => ⟨c', by omega, b⟩)) hq (fun c' hc' hcan => ?_)
              by_cases e : c' = c
              · subst e
                rcases hy rfl with h0 | ⟨c2, a1, a2, a3, a4⟩
                · exact Or.inl (aSt_still hE ⟨_, hR⟩ h38 hi hcan (by rw [eq, h0]; rfl))
                · exact Or.inr (by rw [aSt_idl hE ⟨_, hR⟩ hi a2 hcan a3]; exact a4)
              · exact hno c' (by omega) hcan
      by_cases w : q = 0
      · rw [if_pos (n0.mpr w)]
        obtain ⟨sc9, car9, d1, d2⟩ := go 13 0 oF true sc2 car2 (by omega) (by unfold oF; omega) E2 R2 (fun _ => Or.inl w) (fun _ => rfl) (fun c' h => absurd h (by omega))
        exact ⟨sc9, car9, d1, uL_tr U2 d2⟩
      · rw [if_neg (fun v => w (n0.mp v))]
        obtain ⟨sc9, car9, d1, d2⟩ := go 13 0 oF false sc2 car2 (by omega) (by unfold oF; omega) E2 R2 (fun h => by cases h) (fun h => absurd h w) (fun c' h => absurd h (by omega))
        exact ⟨sc9, car9, d1, uL_tr U2 d2⟩
end RG
