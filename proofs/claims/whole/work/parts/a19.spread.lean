/-! CLICKORDERS' SEARCH: one page spread. -/
section SD
variable {S0 : Nat → Int32} {ar0 : jSc} {sc car : jSc} {mr : Nat → Nat} {al : jAl} {pr n p m : Nat} {tx : Nat → Int32} {g : pG} {cn : (Nat → Int32) → Nat → Bool} {st : (Nat → Int32) → Nat → Nat → Int32} {most : Nat} {wh : Bool} {s : bS}
theorem c_207 {k31 : Int32 → Int32 → Int32 → Int32 → jSc → (Nat → Nat) → jSc → jAl → Option (jSc × (Nat → Nat) × jSc × jAl)} {k c : Nat} {x3 x6 : Int32} (hB : cBs cn st most wh s sc car) (hk : k < s.1.length) (hc : c < 13) (h0 : car 792 k = 0) :
    xF_293_207 k31 (nI k) 0 x3 (nI c) x6 sc mr car al = (if bOv wh s = true then some (sc, mr, j_u2 car 791 (k * 13 + c) x6, al) else k31 (nI k) 0 x3 (nI (c + 1)) sc mr (j_u2 car 791 (k * 13 + c) x6) al) ∧ cBs cn st most wh s sc (j_u2 car 791 (k * 13 + c) x6) := by
  have hB' := hB
  obtain ⟨h1, h2, h3, h4, h5, h6, h7, h8, h9⟩ := hB
  have B2 : cBs cn st most wh s sc (j_u2 car 791 (k * 13 + c) x6) := by
    refine ⟨hM_c h1 rfl (fun b u v => j_u2_row _ _ _ _ (by omega)), h2, h3, fun i e he => ?_, h5, h6, h7, h8, h9⟩
    obtain ⟨a1, a2, a3, a4⟩ := h4 i e he
    rw [j_u2_row _ _ _ _ (show 789 ≠ 791 by decide), j_u2_row _ _ _ _ (show 790 ≠ 791 by decide), j_u2_row _ _ _ _ (show 792 ≠ 791 by decide)]
    refine ⟨a1, a2, a3, ?_⟩
    by_cases z : i = k
    · subst z; exact Or.inl h0
    · rcases a4 with w | ⟨w, y⟩
      · exact Or.inl w
      · exact Or.inr ⟨w, fun c' hc' => nxE_c (y c' hc') (u2_nk (by omega)) (fun _ _ x => x)⟩
  have e13 : nI k * (13 : Int32) + nI c = nI (k * 13 + c) := by rw [show (13 : Int32) = nI 13 from rfl, nI_mul, nI_add]
  refine ⟨?_, B2⟩
  unfold xF_293_207
  rw [e13, if_pos (iB_nI (by omega) (by decide)), iN_nI (by omega), if_pos rfl, c_over B2, ob5, nI_1]
  by_cases o : bOv wh s = true
  · rw [if_pos o, if_neg (by decide), if_pos o]
  · rw [if_neg o, if_pos rfl, if_neg o]
theorem c_sprd (hw : wh = true ∨ wh = false) {k : Nat} {e : eT} (h38 : c38 e.1 = e.1) : ∀ (r c nn : Nat) (x3 : Int32) (s : bS) (sc car : jSc), c + r = 13 → r < nn → cE pr n tx g p m S0 ar0 sc car mr → cBs (aCan ar0 m) (aSt S0 ar0) most wh s sc car → ¬ bOv wh s = true → s.1[k]? = some e → pgR e.1 (car 779) → (∀ i, k ≤ i → i < s.1.length → car 792 i = 0) →
      (x3 = -1 ∨ ∃ j, j < 600 ∧ x3 = nI j ∧ ∀ c', c' < 13 → aIdl g c' = true → aCan ar0 m e.1 c' = true → (s.1.map (fun e => e.1))[j]? = some (aSt S0 ar0 e.1 c')) →
      (∀ c', c' < c → nxE (aCan ar0 m) (aSt S0 ar0) (s.1.map (fun e => e.1)) k e.1 car c') →
    ∃ sc2 car2, xF_293_31 nn (nI k) 0 x3 (nI c) sc mr car al = some (sc2, mr, car2, al) ∧ cBs (aCan ar0 m) (aSt S0 ar0) most wh (bIn (aCan ar0 m) (aSt S0 ar0) (aBad g) wh most k e.1 e.2.2.2 r c s) sc2 car2 ∧ uX sc car sc2 car2 ∧ ∀ i, k < i → i < (bIn (aCan ar0 m) (aSt S0 ar0) (aBad g) wh most k e.1 e.2.2.2 r c s).1.length → car2 792 i = 0 := by
  intro r
  induction r with
  | zero =>
    intro c nn x3 s sc car h1 h2 hE hB hO he hR h0 hst hnx
    obtain ⟨nn, rfl⟩ : ∃ j, nn = j + 1 := ⟨nn - 1, by omega⟩
    have l : (13 : Int32) ≤ nI c ↔ 13 ≤ c := nI_leI (by decide) (by omega)
    have il : k < s.1.length := (List.getElem?_eq_some_iff.mp he).1
    have lm := hB.2.1
    have l6 := hB.2.2.1
    unfold xF_293_31 bIn
    rw [if_pos (l.mpr (by omega)), if_pos (iB_nI (by omega) (by decide)), iN_nI (by omega)]
    refine ⟨sc, _, rfl, ?_, ⟨fun _ _ _ _ _ => rfl, fun b _ hb => j_u2_row _ _ _ _ (by omega), hE.2.2⟩, fun i hi hl => by rw [u2_nk (by omega)]; exact h0 i (by omega) hl⟩
    obtain ⟨h1', h2', h3', h4', h5', h6', h7', h8', h9'⟩ := hB
    refine ⟨hM_c h1' rfl (fun b u v => j_u2_row _ _ _ _ (by omega)), h2', h3', fun i f hf => ?_, h5', h6', h7', h8', h9'⟩
    obtain ⟨a1, a2, a3, a4⟩ := h4' i f hf
    rw [j_u2_row _ _ _ _ (show 789 ≠ 792 by decide), j_u2_row _ _ _ _ (show 790 ≠ 792 by decide)]
    refine ⟨a1, a2, a3, ?_⟩
    by_cases z : i = k
    · subst z
      rw [he] at hf
      cases hf
      exact Or.inr ⟨u2_eq, fun c' hc' => nxE_c (hnx c' (by omega)) (by rw [j_u2_row _ _ _ _ (show 791 ≠ 792 by decide)]) (fun _ _ x => x)⟩
    · rw [u2_nk z]
      rcases a4 with w | ⟨w, y⟩
      · exact Or.inl w
      · exact Or.inr ⟨w, fun c' hc' => nxE_c (y c' hc') (by rw [j_u2_row _ _ _ _ (show 791 ≠ 792 by decide)]) (fun _ _ x => x)⟩
  | succ r ih =>
    intro c nn x3 s sc car h1 h2 hE hB hO he hR h0 hst hnx
    obtain ⟨nn, rfl⟩ : ∃ j, nn = j + 1 := ⟨nn - 1, by omega⟩
    have l : (13 : Int32) ≤ nI c ↔ 13 ≤ c := nI_leI (by decide) (by omega)
    have c13 : c < 13 := by omega
    have il : k < s.1.length := (List.getElem?_eq_some_iff.mp he).1
    have lm := hB.2.1
    have l6 := hB.2.2.1
    have hl : (s.1.map (fun e => e.1)).length = s.1.length := List.length_map ..
    have hWe := (hB.2.2.2.1 k e he).2.2.1
    -- behind the code: s2 is where it led
    have next : ∀ (x3' x6 : Int32) (s2 : bS) (sc2 car2 : jSc), bC (aCan ar0 m) (aSt S0 ar0) (aBad g) most k e.1 e.2.2.2 c s = s2 → uX sc car sc2 car2 → cBs (aCan ar0 m) (aSt S0 ar0) most wh s2 sc2 car2 → (∃ t, s2.1 = s.1 ++ t) → car2 779 = car 779 → car2 791 = car 791 → (∀ i, k ≤ i → i < s2.1.length → car2 792 i = 0) →
        (¬ bOv wh s2 = true → (x3' = -1 ∨ ∃ j, j < 600 ∧ x3' = nI j ∧ ∀ c', c' < 13 → aIdl g c' = true → aCan ar0 m e.1 c' = true → (s2.1.map (fun e => e.1))[j]? = some (aSt S0 ar0 e.1 c')) ∧ (aCan ar0 m e.1 c = true → ∃ j, (s2.1.map (fun e => e.1))[j]? = some (aSt S0 ar0 e.1 c) ∧ x6 = nI j) ∧ (¬ aCan ar0 m e.1 c = true → x6 = -1)) →
        ∃ sc9 car9, xF_293_207 (fun x1_ x2_ x3_ x4_ sc_ mr_ ar_ al_ => xF_293_31 nn x1_ x2_ x3_ x4_ sc_ mr_ ar_ al_) (nI k) 0 x3' (nI c) x6 sc2 mr car2 al = some (sc9, mr, car9, al) ∧ cBs (aCan ar0 m) (aSt S0 ar0) most wh (bIn (aCan ar0 m) (aSt S0 ar0) (aBad g) wh most k e.1 e.2.2.2 (r + 1) c s) sc9 car9 ∧ uX sc car sc9 car9 ∧ ∀ i, k < i → i < (bIn (aCan ar0 m) (aSt S0 ar0) (aBad g) wh most k e.1 e.2.2.2 (r + 1) c s).1.length → car9 792 i = 0 := by
      intro x3' x6 s2 sc2 car2 hs hX hB2 ⟨t, ht⟩ h779 h791 h0' hnew
      have k2 : k < s2.1.length := by rw [ht, List.length_append]; omega
      obtain ⟨f1, f2⟩ := c_207 (mr := mr) (al := al) (k31 := fun x1_ x2_ x3_ x4_ sc_ mr_ ar_ al_ => xF_293_31 nn x1_ x2_ x3_ x4_ sc_ mr_ ar_ al_) (x3 := x3') (x6 := x6) hB2 k2 c13 (h0' k (Nat.le_refl _) k2)
      have X2 : uX sc2 car2 sc2 (j_u2 car2 791 (k * 13 + c) x6) := ⟨fun _ _ _ _ _ => rfl, fun b _ hb => j_u2_row _ _ _ _ (by omega), hX.2.2⟩
      have r2 : ∀ b, b ≠ 791 → j_u2 car2 791 (k * 13 + c) x6 b = car2 b := fun b hb => j_u2_row _ _ _ _ hb
      rw [f1]
      show ∃ sc9 car9, _ = _ ∧ cBs _ _ _ _ (if bOv wh (bC (aCan ar0 m) (aSt S0 ar0) (aBad g) most k e.1 e.2.2.2 c s) = true then bC (aCan ar0 m) (aSt S0 ar0) (aBad g) most k e.1 e.2.2.2 c s else bIn (aCan ar0 m) (aSt S0 ar0) (aBad g) wh most k e.1 e.2.2.2 r (c + 1) (bC (aCan ar0 m) (aSt S0 ar0) (aBad g) most k e.1 e.2.2.2 c s)) sc9 car9 ∧ uX sc car sc9 car9 ∧ ∀ i, k < i → i < (if bOv wh (bC (aCan ar0 m) (aSt S0 ar0) (aBad g) most k e.1 e.2.2.2 c s) = true then bC (aCan ar0 m) (aSt S0 ar0) (aBad g) most k e.1 e.2.2.2 c s else bIn (aCan ar0 m) (aSt S0 ar0) (aBad g) wh most k e.1 e.2.2.2 r (c + 1) (bC (aCan ar0 m) (aSt S0 ar0) (aBad g) most k e.1 e.2.2.2 c s)).1.length → car9 792 i = 0
      rw [hs]
      by_cases o : bOv wh s2 = true
      · rw [if_pos o, if_pos o]
        exact ⟨_, _, rfl, f2, uX_tr hX X2, fun i hi hl => by rw [r2 792 (by decide)]; exact h0' i (by omega) hl⟩
      · rw [if_neg o, if_neg o]
        obtain ⟨n1, n2, n3⟩ := hnew o
        have mono : ∀ (i : Nat) (Q : Nat → Int32), (s.1.map (fun e => e.1))[i]? = some Q → (s2.1.map (fun e => e.1))[i]? = some Q := fun i Q hQ => by
          rw [ht, List.map_append, List.getElem?_append_left (List.getElem?_eq_some_iff.mp hQ).1]
          exact hQ
        obtain ⟨sc9, car9, g1, g2, g3, g4⟩ := ih (c + 1) nn x3' s2 sc2 _ (by omega) (by omega) (cE_X hE (uX_tr hX X2)) f2 o (by rw [ht, List.getElem?_append_left il]; exact he) (by rw [r2 779 (by decide), h779]; exact hR) (by rw [r2 792 (by decide)]; exact h0') n1 (fun c' hc' => by
          by_cases y : c' = c
          · subst y
            refine ⟨fun z => Or.inl ?_, fun z => ?_⟩
            · obtain ⟨j, j1, j2⟩ := n2 z
              exact ⟨j, j1, by rw [u2_eq]; exact j2⟩
            · rw [u2_eq]; exact n3 z
          · exact nxE_c (hnx c' (by omega)) (by rw [u2_nk (by omega), h791]) mono)
        exact ⟨sc9, car9, g1, g2, uX_tr (uX_tr hX X2) g3, g4⟩
    unfold xF_293_31
    rw [if_neg (fun z => absurd (l.mp z) (by omega)), hE.1.2.2.2.1, if_pos hE.1.2.1.1, c_idl hE c13, ob5, cE_may (pp := 778) hE hR c13, ob5]
    by_cases z : aCan ar0 m e.1 c = true
    · rw [if_pos z, if_neg (show ¬ (1 : Int32) = 0 by decide)]
      -- the page is tried
      have try_ : ∀ x5 : Int32, (x5 = if aIdl g c = true then 1 else 0) → (aIdl g c = true → x3 = -1) → ∃ sc9 car9, xF_293_83 (fun x1_ x2_ x3_ x4_ sc_ mr_ ar_ al_ => xF_293_31 nn x1_ x2_ x3_ x4_ sc_ mr_ ar_ al_) (nI k) 0 x3 (nI c) x5 sc mr car al = some (sc9, mr, car9, al) ∧ cBs (aCan ar0 m) (aSt S0 ar0) most wh (bIn (aCan ar0 m) (aSt S0 ar0) (aBad g) wh most k e.1 e.2.2.2 (r + 1) c s) sc9 car9 ∧ uX sc car sc9 car9 ∧ ∀ i, k < i → i < (bIn (aCan ar0 m) (aSt S0 ar0) (aBad g) wh most k e.1 e.2.2.2 (r + 1) c s).1.length → car9 792 i = 0 := by
        intro x5 hx5 hx3
        unfold xF_293_83 xF_226
        rw [ob4]
        generalize hA1 : va_up car (780 + 1) (va_cpy (car (778 + 1)) (car (780 + 1)) (iN (0 : Int32)) (iN (0 : Int32)) (iN (50 : Int32))) = car1
        have q1 : ∀ b, b ≠ 781 → car1 b = car b := fun b hb => by rw [← hA1, va_up_ne _ _ hb]
        have R1 : pgR e.1 (car1 (780 + 1)) := by
          rw [← hA1, va_up_self]
          exact pgR_C hR (fun j hj => by
            show va_cpy (car 779) (car 781) 0 0 50 j = car 779 j
            rw [cpy_in (Nat.zero_le _) (by omega)]
            congr 1
            omega)
        have H1 : cH 780 sc car sc car1 := ⟨fun _ _ _ => rfl, fun b _ hb => q1 b hb, hE.2.2⟩
        have E1 := cE_H (by decide) hE H1
        obtain ⟨v, sc2, car2, e1, R2, H2⟩ := cE_step (al := al) (pp := 780) E1 (by decide) R1 c13 z
        have H12 := cH_tr H1 H2
        have E2 := cE_H (by decide) hE H12
        have B2 := cBs_H (by decide) hB H12
        obtain ⟨sc3, k3, seek⟩ := c_seek (pp := 780) (mr := mr) (al := al) B2.1 c38_t R2
        have X3 : uX sc car sc3 car2 := uX_tr (uX_H (by decide) H12) (uX_sk H12.2.2 k3)
        have B3 : cBs (aCan ar0 m) (aSt S0 ar0) most wh s sc3 car2 := cBs_c B2 (k3 774 0 (by decide)) (fun j _ => k3 773 j (by omega)) (fun _ _ => rfl)
        have E3 := cE_X hE X3
        have w779 : car2 779 = car 779 := H12.2.1 779 (by decide) (by decide)
        have w791 : car2 791 = car 791 := H12.2.1 791 (by decide) (by decide)
        have w792 : car2 792 = car 792 := H12.2.1 792 (by decide) (by decide)
        have L38 : ∀ f ∈ s.1, c38 f.1 = f.1 := fun f hf => hB.1.2.2.1 f.1 (List.mem_map.mpr ⟨f, hf, rfl⟩)
        rw [e1, ob5]
        rcases seek with ⟨j, j1, j2⟩ | ⟨j2, hN⟩
        · -- met before
          have jl : j < s.1.length := by have := (List.getElem?_eq_some_iff.mp j1).1; omega
          have p0 : (0 : Int32) ≤ nI j := (nI_leI (a := 0) (b := j) (by decide) (by omega)).mpr (Nat.zero_le _)
          have eC : bC (aCan ar0 m) (aSt S0 ar0) (aBad g) most k e.1 e.2.2.2 c s = s := by
            unfold bC
            rw [if_pos z, if_pos ((bI_i L38 c38_t).mpr (List.mem_of_getElem? j1))]
          rw [j2, ob5, if_pos p0]
          by_cases y : aIdl g c = true
          · rw [if_pos y] at hx5
            rw [hx5, if_neg (by decide), if_neg (nI_pos (by omega))]
            exact next _ _ s sc3 car2 eC X3 B3 ⟨[], by simp⟩ w779 w791 (by rw [w792]; exact h0) (fun _ => ⟨Or.inr ⟨j, by omega, rfl, fun c' hc' hi' hcan' => by rw [aSt_idl hE hWe hi' y hcan' z]; exact j1⟩, fun _ => ⟨j, j1, rfl⟩, fun h => absurd z h⟩)
          · rw [if_neg y] at hx5
            rw [hx5, if_pos rfl]
            exact next _ _ s sc3 car2 eC X3 B3 ⟨[], by simp⟩ w779 w791 (by rw [w792]; exact h0) (fun _ => ⟨hst, fun _ => ⟨j, j1, rfl⟩, fun h => absurd z h⟩)
        · -- not met
          have nI1 : ¬ bI s.1 (aSt S0 ar0 e.1 c) = true := fun w => hN.1 ((bI_i L38 c38_t).mp w)
          rw [j2, ob5, if_neg (by decide), if_pos rfl]
          obtain ⟨ad1, ad2⟩ := c_addM (mr := mr) (al := al) (Q := aSt S0 ar0 e.1 c) (x1 := nI k) (x2 := nI c) (d := e.2.2.2 + 1) B3 E3.2.2 R2 c38_t hN
          by_cases x : s.1.length = most
          · -- no room: spent
            have eC : bC (aCan ar0 m) (aSt S0 ar0) (aBad g) most k e.1 e.2.2.2 c s = (s.1, s.2.1, true) := by unfold bC; rw [if_pos z, if_neg nI1, if_pos x]
            have oC : bOv wh (s.1, s.2.1, true) = true := by unfold bOv; rfl
            have X4 : uX sc car (j_u2 sc3 773 1 1) car2 := uX_tr X3 ⟨fun a j _ w _ => if_neg (fun y => w ⟨y.1, Or.inl y.2⟩), fun _ _ _ => rfl, (u2_na (by decide)).trans X3.2.2⟩
            obtain ⟨g1, g2, g3, g4, g5, g6, g7, g8, g9⟩ := B3
            have B4 : cBs (aCan ar0 m) (aSt S0 ar0) most wh (s.1, s.2.1, true) (j_u2 sc3 773 1 1) car2 := ⟨hM_c g1 (u2_na (by decide)) (fun _ _ _ => rfl), g2, g3, g4, (u2_nk (by decide)).trans g5, g6, u2_eq, (u2_nk (by decide)).trans g8, (u2_nk (by decide)).trans g9⟩
            rw [ad1 x, ob5]
            have fin : ∀ x3', ∃ sc9 car9, xF_293_207 (fun x1_ x2_ x3_ x4_ sc_ mr_ ar_ al_ => xF_293_31 nn x1_ x2_ x3_ x4_ sc_ mr_ ar_ al_) (nI k) 0 x3' (nI c) (-1) (j_u2 (j_u2 sc3 773 1 1) 773 13 ((j_u2 sc3 773 1 1) 773 13)) mr car2 al = some (sc9, mr, car9, al) ∧ cBs (aCan ar0 m) (aSt S0 ar0) most wh (bIn (aCan ar0 m) (aSt S0 ar0) (aBad g) wh most k e.1 e.2.2.2 (r + 1) c s) sc9 car9 ∧ uX sc car sc9 car9 ∧ ∀ i, k < i → i < (bIn (aCan ar0 m) (aSt S0 ar0) (aBad g) wh most k e.1 e.2.2.2 (r + 1) c s).1.length → car9 792 i = 0 := by
              intro x3'
              rw [u2_3]
              exact next _ _ _ _ car2 eC X4 B4 ⟨[], by simp⟩ w779 w791 (by rw [w792]; exact h0) (fun h => absurd oC h)
            unfold xF_293_145
            have f187 : ∀ y0, y0 = (j_u2 sc3 773 1 1) 773 13 → ∃ sc9 car9, xF_293_187 (fun x1_ x2_ x3_ x4_ sc_ mr_ ar_ al_ => xF_293_31 nn x1_ x2_ x3_ x4_ sc_ mr_ ar_ al_) (nI k) 0 x3 (nI c) x5 (-1) y0 (j_u2 sc3 773 1 1) mr car2 al = some (sc9, mr, car9, al) ∧ cBs (aCan ar0 m) (aSt S0 ar0) most wh (bIn (aCan ar0 m) (aSt S0 ar0) (aBad g) wh most k e.1 e.2.2.2 (r + 1) c s) sc9 car9 ∧ uX sc car sc9 car9 ∧ ∀ i, k < i → i < (bIn (aCan ar0 m) (aSt S0 ar0) (aBad g) wh most k e.1 e.2.2.2 (r + 1) c s).1.length → car9 792 i = 0 := by
              rintro y0 rfl
              unfold xF_293_187
              by_cases y : x5 = 0
              · rw [if_pos y]; exact fin x3
              · rw [if_neg y, if_pos (show (-1 : Int32) < 0 by decide)]; exact fin x3
            by_cases y : (0 : Int32) ≤ (j_u2 sc3 773 1 1) 773 13
            · rw [if_pos y]; exact f187 _ rfl
            · rw [if_neg y, if_pos (show (-1 : Int32) < 0 by decide)]; exact f187 _ rfl
          · -- added
            obtain ⟨sc4, car4, a1, B4, X4, r4, s4, t4⟩ := ad2 x
            have eC : bC (aCan ar0 m) (aSt S0 ar0) (aBad g) most k e.1 e.2.2.2 c s = (s.1 ++ [(aSt S0 ar0 e.1 c, nI k, nI c, e.2.2.2 + 1)], (if s.2.1 = none ∧ aBad g (aSt S0 ar0 e.1 c) = true then some s.1.length else s.2.1), s.2.2) := by unfold bC; rw [if_pos z, if_neg nI1, if_neg x]
            have X34 := uX_tr X3 X4
            have E4 := cE_X hE X34
            have u779 : car4 779 = car 779 := (r4 779 (by omega)).trans w779
            have u791 : car4 791 = car 791 := (r4 791 (by omega)).trans w791
            have R4 : pgR (aSt S0 ar0 e.1 c) (car4 (780 + 1)) := by rw [r4 781 (by omega)]; exact R2
            have p0 : (0 : Int32) ≤ nI s.1.length := (nI_leI (a := 0) (b := s.1.length) (by decide) (by omega)).mpr (Nat.zero_le _)
            have last : ((s.1 ++ [((aSt S0 ar0 e.1 c, nI k, nI c, e.2.2.2 + 1) : eT)]).map (fun e => e.1))[s.1.length]? = some (aSt S0 ar0 e.1 c) := by
              rw [List.map_append, List.getElem?_append_right (by rw [hl]; exact Nat.le_refl _), hl]
              simp
            rw [a1, ob5]
            -- the first that spoils, then on
            have fin : ∀ (sc5 car5 : jSc) (y0 : Int32), cBs (aCan ar0 m) (aSt S0 ar0) most wh (s.1 ++ [(aSt S0 ar0 e.1 c, nI k, nI c, e.2.2.2 + 1)], (if s.2.1 = none ∧ aBad g (aSt S0 ar0 e.1 c) = true then some s.1.length else s.2.1), s.2.2) (j_u2 sc5 773 13 y0) car5 → uX sc car (j_u2 sc5 773 13 y0) car5 → (∀ b, b ≠ 758 → car5 b = car4 b) →
                ∃ sc9 car9, xF_293_187 (fun x1_ x2_ x3_ x4_ sc_ mr_ ar_ al_ => xF_293_31 nn x1_ x2_ x3_ x4_ sc_ mr_ ar_ al_) (nI k) 0 x3 (nI c) x5 (nI s.1.length) y0 sc5 mr car5 al = some (sc9, mr, car9, al) ∧ cBs (aCan ar0 m) (aSt S0 ar0) most wh (bIn (aCan ar0 m) (aSt S0 ar0) (aBad g) wh most k e.1 e.2.2.2 (r + 1) c s) sc9 car9 ∧ uX sc car sc9 car9 ∧ ∀ i, k < i → i < (bIn (aCan ar0 m) (aSt S0 ar0) (aBad g) wh most k e.1 e.2.2.2 (r + 1) c s).1.length → car9 792 i = 0 := by
              intro sc5 car5 y0 B5 X5 q5
              have z0 : ∀ i, k ≤ i → i < (s.1 ++ [((aSt S0 ar0 e.1 c, nI k, nI c, e.2.2.2 + 1) : eT)]).length → car5 792 i = 0 := fun i hi hl' => by
                rw [List.length_append] at hl'
                simp only [List.length_cons, List.length_nil] at hl'
                rw [q5 792 (by decide), t4 i, w792]
                by_cases w : i = s.1.length
                · rw [if_pos w]
                · rw [if_neg w]; exact h0 i hi (by omega)
              have mono : ∀ (i : Nat) (Q : Nat → Int32), (s.1.map (fun e => e.1))[i]? = some Q → ((s.1 ++ [((aSt S0 ar0 e.1 c, nI k, nI c, e.2.2.2 + 1) : eT)]).map (fun e => e.1))[i]? = some Q := fun i Q hQ => by
                rw [List.map_append, List.getElem?_append_left (List.getElem?_eq_some_iff.mp hQ).1]
                exact hQ
              unfold xF_293_187
              by_cases y : aIdl g c = true
              · rw [if_pos y] at hx5
                rw [hx5, if_neg (by decide), if_neg (nI_pos (by omega))]
                exact next _ _ _ _ car5 eC X5 B5 ⟨_, rfl⟩ ((q5 779 (by decide)).trans u779) ((q5 791 (by decide)).trans u791) z0 (fun _ => ⟨Or.inr ⟨s.1.length, by omega, rfl, fun c' hc' hi' hcan' => by rw [aSt_idl hE hWe hi' y hcan' z]; exact last⟩, fun _ => ⟨s.1.length, last, rfl⟩, fun h => absurd z h⟩)
              · rw [if_neg y] at hx5
                rw [hx5, if_pos rfl]
                refine next _ _ _ _ car5 eC X5 B5 ⟨_, rfl⟩ ((q5 779 (by decide)).trans u779) ((q5 791 (by decide)).trans u791) z0 (fun _ => ⟨?_, fun _ => ⟨s.1.length, last, rfl⟩, fun h => absurd z h⟩)
                rcases hst with w | ⟨j, j1, j3, j4⟩
                · exact Or.inl w
                · exact Or.inr ⟨j, j1, j3, fun c' hc' hi' hcan' => mono j _ (j4 c' hc' hi' hcan')⟩
            unfold xF_293_145
            have s13 : sc4 773 13 = fi1 s.2.1 := B4.2.2.2.2.1
            rcases ho : s.2.1 with _ | i
            · have s13' : sc4 773 13 = -1 := by rw [s13, ho]; rfl
              rw [s13', if_neg (by decide), if_neg (nI_pos (by omega)), if_pos rfl]
              obtain ⟨sc5, car5, b1, b2, b3⟩ := cE_bad (al := al) (pp := 780) E4 (by decide) R4
              have B5 := cBs_H (by decide) B4 b3
              have X5 := uX_tr X34 (uX_H (by decide) b3)
              rw [b1, ob5]
              have s13'' : sc5 773 13 = -1 := (b3.1 773 13 (by decide)).trans s13'
              by_cases w : aBad g (aSt S0 ar0 e.1 c) = true
              · rw [if_pos w, if_neg (by decide)]
                obtain ⟨g1, g2, g3, g4, g5, g6, g7, g8, g9⟩ := B5
                refine fin sc5 car5 (nI s.1.length) ?_ (uX_tr X5 ⟨fun a j _ w _ => if_neg (fun y => w ⟨y.1, Or.inr y.2⟩), fun _ _ _ => rfl, (u2_na (by decide)).trans X5.2.2⟩) b2
                rw [if_pos ⟨ho, w⟩]
                exact ⟨hM_c g1 (u2_na (by decide)) (fun _ _ _ => rfl), g2, g3, g4, u2_eq, fun i hi => by cases hi; show s.1.length < (s.1 ++ _).length; rw [List.length_append]; simp, (u2_nk (by decide)).trans g7, (u2_nk (by decide)).trans g8, (u2_nk (by decide)).trans g9⟩
              · rw [if_neg w, if_pos rfl]
                refine fin sc5 car5 (sc5 773 13) ?_ (by rw [u2_3]; exact X5) b2
                rw [u2_3, if_neg (fun h => w h.2)]
                exact B5
            · have i6 := B4.2.2.2.2.2.1 i ho
              have i6 : i < (s.1 ++ [((aSt S0 ar0 e.1 c, nI k, nI c, e.2.2.2 + 1) : eT)]).length := i6
              rw [List.length_append] at i6
              simp only [List.length_cons, List.length_nil] at i6
              have s13' : sc4 773 13 = nI i := by rw [s13, ho]; rfl
              have q0 : (0 : Int32) ≤ sc4 773 13 := by rw [s13']; exact (nI_leI (a := 0) (b := i) (by decide) (by omega)).mpr (Nat.zero_le _)
              rw [if_pos q0]
              refine fin sc4 car4 (sc4 773 13) ?_ (by rw [u2_3]; exact X34) (fun _ _ => rfl)
              rw [u2_3, if_neg (fun h => by rw [ho] at h; cases h.1)]
              exact B4
      by_cases y : aIdl g c = true
      · rw [if_pos y, if_neg (show ¬ (1 : Int32) = 0 by decide)]
        rcases hst with w | ⟨j, j1, j3, j4⟩
        · rw [w, if_neg (by decide), ← w]
          exact try_ 1 (by rw [if_pos y]) (fun _ => w)
        · have p0 : (0 : Int32) ≤ nI j := (nI_leI (a := 0) (b := j) (by decide) (by omega)).mpr (Nat.zero_le _)
          have L38 : ∀ f ∈ s.1, c38 f.1 = f.1 := fun f hf => hB.1.2.2.1 f.1 (List.mem_map.mpr ⟨f, hf, rfl⟩)
          have eC : bC (aCan ar0 m) (aSt S0 ar0) (aBad g) most k e.1 e.2.2.2 c s = s := by
            unfold bC
            rw [if_pos z, if_pos ((bI_i L38 c38_t).mpr (List.mem_of_getElem? (j4 c c13 y z)))]
          rw [j3, if_pos p0, if_neg (show ¬ (1 : Int32) = 0 by decide), if_neg (nI_pos (by omega))]
          exact next _ _ s sc car eC (uX_rf hE) hB ⟨[], by simp⟩ rfl rfl h0 (fun _ => ⟨Or.inr ⟨j, j1, rfl, j4⟩, fun _ => ⟨j, j4 c c13 y z, rfl⟩, fun h => absurd z h⟩)
      · rw [if_neg y, if_pos rfl]
        exact try_ 0 (by rw [if_neg y]) (fun h => absurd h y)
    · rw [if_neg z, if_pos rfl]
      exact next _ _ s sc car (by unfold bC; rw [if_neg z]) (uX_rf hE) hB ⟨[], by simp⟩ rfl rfl h0 (fun _ => ⟨hst, fun h => absurd h z, fun _ => rfl⟩)
end SD
