/-! WHICH PAGES ARE STUCK: ClickOrders. -/
section GT
variable {S0 : Nat → Int32} {ar0 : jSc} {mr : Nat → Nat} {al : jAl} {pr n p m : Nat} {tx : Nat → Int32} {g : pG}
theorem c_256 {g296 : Int32 → Int32 → jSc → (Nat → Nat) → jSc → jAl → Option (Int32 × jSc × (Nat → Nat) × jSc × jAl)} {sc car : jSc} {L : List (Nat → Int32)} {i k : Nat} {P : Nat → Int32} (hE : cE pr n tx g p m S0 ar0 sc car mr) (hJ : jN (aCan ar0 m) (aSt S0 ar0) (aGd g) L sc car) (hP : L[i]? = some P) (hk : k ≤ 3) {b : Bool} (hb : aRch (aCan ar0 m) (aSt S0 ar0) (aGd g) k P = b) :
    ∃ car2, xF_296_256 g296 (nI i) (nI k) (if b = true then 1 else 0) sc mr car al = some (if b = true then 1 else 0, sc, mr, car2, al) ∧ jN (aCan ar0 m) (aSt S0 ar0) (aGd g) L sc car2 ∧ uZ sc car sc car2 ∧ car2 792 = car 792 := by
  have il : i < L.length := (List.getElem?_eq_some_iff.mp hP).1
  have l2 := hJ.1.2.1
  have gen : ∀ (a : Nat) (car2 : jSc), (a = 793 ∨ a = 794) → car2 = j_u2 car a i (nI k) → (a = 793 → b = true) → (a = 794 → b = false) → jN (aCan ar0 m) (aSt S0 ar0) (aGd g) L sc car2 ∧ uZ sc car sc car2 ∧ car2 792 = car 792 := by
    rintro a car2 ha rfl h3 h4
    refine ⟨⟨hM_c hJ.1 rfl (fun b u v => j_u2_row _ _ _ _ (by omega)), fun j Q hQ => ?_⟩, ⟨fun _ _ _ _ => rfl, fun b _ _ hb => j_u2_row _ _ _ _ (by omega), hE.2.2⟩, j_u2_row _ _ _ _ (by omega)⟩
    obtain ⟨a1, a2, a3, a4⟩ := hJ.2 j Q hQ
    unfold jXi
    rw [j_u2_row _ _ _ _ (show 792 ≠ a by omega)]
    refine ⟨a1, ?_, ?_, ?_⟩
    · rcases a2 with w | ⟨w, y⟩
      · exact Or.inl w
      · exact Or.inr ⟨w, fun c' hc' => nxE_c (y c' hc') (by rw [j_u2_row _ _ _ _ (show 791 ≠ a by omega)]) (fun _ _ x => x)⟩
    · by_cases z : a = 793
      · subst z
        by_cases y : j = i
        · subst y
          rw [hP] at hQ
          cases hQ
          rw [u2_eq]
          exact Or.inr ⟨k, hk, rfl, hb.trans (h3 rfl)⟩
        · rw [u2_nk y]; exact a3
      · rw [j_u2_row _ _ _ _ (fun w => z w.symm)]; exact a3
    · by_cases z : a = 794
      · subst z
        by_cases y : j = i
        · subst y
          rw [hP] at hQ
          cases hQ
          rw [u2_eq]
          exact Or.inr ⟨k, hk, rfl, fun w => by rw [hb, h4 rfl] at w; cases w⟩
        · rw [u2_nk y]; exact a4
      · rw [j_u2_row _ _ _ _ (fun w => z w.symm)]; exact a4
  unfold xF_296_256
  rcases b with _ | _
  · rw [if_pos (show (if false = true then (1 : Int32) else 0) = 0 by decide), if_pos (iB_nI (show i < 2048 by omega) (by decide)), if_pos (Or.inl (show (if false = true then (1 : Int32) else 0) = 0 by decide)), iN_nI (by omega)]
    exact ⟨_, rfl, gen 794 _ (Or.inr rfl) rfl (fun h => absurd h (by decide)) (fun _ => rfl)⟩
  · rw [if_neg (show ¬ (if true = true then (1 : Int32) else 0) = 0 by decide), if_pos (iB_nI (show i < 2048 by omega) (by decide)), if_pos (Or.inr (show (if true = true then (1 : Int32) else 0) = 1 by decide)), iN_nI (by omega)]
    exact ⟨_, rfl, gen 793 _ (Or.inl rfl) rfl (fun _ => rfl) (fun h => absurd h (by decide))⟩
/-- what asking for one page comes to, given what is behind the look at the page itself -/
theorem c_get {fu i k : Nat} {sc car : jSc} {L : List (Nat → Int32)} {P : Nat → Int32} (hk : k ≤ 3) (hE : cE pr n tx g p m S0 ar0 sc car mr) (hJ : jN (aCan ar0 m) (aSt S0 ar0) (aGd g) L sc car) (hP : L[i]? = some P)
    (core : ∀ sc car, cE pr n tx g p m S0 ar0 sc car mr → jN (aCan ar0 m) (aSt S0 ar0) (aGd g) L sc car → ¬ aGd g P = true → ∃ B sc2 car2, xF_296_87 (xG_296 fu) (nI i) (nI k) sc mr car al = some (if aRch (aCan ar0 m) (aSt S0 ar0) (aGd g) k P = true then 1 else 0, sc2, mr, car2, al) ∧ jN (aCan ar0 m) (aSt S0 ar0) (aGd g) (L ++ B) sc2 car2 ∧ uZ sc car sc2 car2 ∧ ∀ j, j < L.length → car 792 j = 1 → car2 792 j = 1) :
    ∃ B sc2 car2, xG_296 (fu + 1) (nI i) (nI k) sc mr car al = some (if aRch (aCan ar0 m) (aSt S0 ar0) (aGd g) k P = true then 1 else 0, sc2, mr, car2, al) ∧ jN (aCan ar0 m) (aSt S0 ar0) (aGd g) (L ++ B) sc2 car2 ∧ uZ sc car sc2 car2 ∧ ∀ j, j < L.length → car 792 j = 1 → car2 792 j = 1 := by
  have il : i < L.length := (List.getElem?_eq_some_iff.mp hP).1
  have l2 := hJ.1.2.1
  obtain ⟨a1, a2, a3, a4⟩ := hJ.2 i P hP
  have ib : iB (nI i) 2048 := iB_nI (by omega) (by decide)
  have ap : L ++ [] = L := List.append_nil L
  show ∃ B sc2 car2, xF_296 (xG_296 fu) (nI i) (nI k) sc mr car al = _ ∧ _
  unfold xF_296
  rw [if_pos ib, iN_nI (by omega)]
  -- near
  have near : ¬ car 793 i ≤ nI k ∨ (car 793 i ≤ nI k ∧ ¬ nI k < car 793 i ∧ aRch (aCan ar0 m) (aSt S0 ar0) (aGd g) k P = true) := by
    rcases a3 with h | ⟨j, j1, j2, j3⟩
    · rw [h]
      exact Or.inl (show ¬ (9 : Int32) ≤ nI k from nI_ge (b := 9) (by omega) (by decide))
    · rw [j2]
      by_cases z : j ≤ k
      · exact Or.inr ⟨nI_le z (by omega), nI_nlt z (by omega), rch_m j3 z⟩
      · exact Or.inl (nI_ge (by omega) (by omega))
  rcases near with hn | ⟨hn, hn2, hn3⟩
  · have hn2 : nI k < car 793 i := by
      rcases a3 with h | ⟨j, j1, j2, j3⟩
      · rw [h]; exact (show nI k < (9 : Int32) from nI_lt (b := 9) (by omega) (by decide))
      · rw [j2] at hn ⊢
        by_cases z : j ≤ k
        · exact absurd (nI_le z (by omega)) hn
        · exact nI_lt (by omega) (by omega)
    rw [if_neg hn, if_pos ib]
    rcases a4 with h | ⟨j, j1, j2, j3⟩
    · -- not yet looked at
      rw [h, if_pos (show (-1 : Int32) < nI k from Int32.lt_of_lt_of_le (by decide) (nI_pos' (by omega))), if_pos ib, if_neg (by decide)]
      obtain ⟨car1, e1, R1, q1⟩ := c_copy (pp := 780) (mr := mr) (al := al) hJ.1 hP
      have H1 : cH 780 sc car sc car1 := ⟨fun _ _ _ => rfl, fun b _ hb => q1 b hb, hE.2.2⟩
      obtain ⟨sc2, car2, e2, q2, H2⟩ := cE_good (al := al) (pp := 780) (cE_H (by decide) hE H1) (by decide) R1
      have H12 := cH_tr H1 H2
      have E2 := cE_H (by decide) hE H12
      have J2 := jN_H (by decide) hJ H12
      have X2 := uZ_H (by decide) H12
      have w792 : car2 792 = car 792 := H12.2.1 792 (by decide) (by decide)
      rw [e1, ob4, e2, ob5]
      by_cases z : aGd g P = true
      · rw [if_pos z, if_neg (by decide), if_pos ib, if_pos (rch_g z)]
        obtain ⟨b1, b2⟩ := (c_256 (mr := mr) (al := al) (k := 0) (g296 := fun _ _ _ _ _ _ => none) E2 J2 hP (by omega) (b := true) (rch_g z))
        have e0 := b2.1
        unfold xF_296_256 at e0
        rw [if_neg (show ¬ (if true = true then (1 : Int32) else 0) = 0 by decide), if_pos ib, if_pos (Or.inr (show (if true = true then (1 : Int32) else 0) = 1 by decide)), iN_nI (by omega)] at e0
        have e0 : j_u2 car2 793 i 0 = b1 := by
          have := Option.some.inj e0
          exact congrArg (fun x => x.2.2.2.1) this
        rw [e0]
        exact ⟨[], sc2, b1, rfl, by rw [ap]; exact b2.2.1, uZ_tr X2 b2.2.2.1, fun j _ hj => by rw [b2.2.2.2, w792]; exact hj⟩
      · rw [if_neg z, if_pos rfl, if_pos ib]
        obtain ⟨b1, b2⟩ := (c_256 (mr := mr) (al := al) (k := 0) (g296 := fun _ _ _ _ _ _ => none) E2 J2 hP (by omega) (b := false) (show aGd g P = false by simpa using z))
        have e0 := b2.1
        unfold xF_296_256 at e0
        rw [if_pos (show (if false = true then (1 : Int32) else 0) = 0 by decide), if_pos ib, if_pos (Or.inl (show (if false = true then (1 : Int32) else 0) = 0 by decide)), iN_nI (by omega)] at e0
        have e0 : j_u2 car2 794 i 0 = b1 := by
          have := Option.some.inj e0
          exact congrArg (fun x => x.2.2.2.1) this
        rw [e0]
        obtain ⟨B, sc9, car9, g1, g2, g3, g4⟩ := core sc2 b1 (cE_Z E2 b2.2.2.1) b2.2.1 z
        exact ⟨B, sc9, car9, g1, g2, uZ_tr (uZ_tr X2 b2.2.2.1) g3, fun j hj h1 => g4 j hj (by rw [b2.2.2.2, w792]; exact h1)⟩
    · rw [j2]
      by_cases z : j < k
      · rw [if_pos (nI_lt z (by omega)), if_pos ib, if_pos (nI_pos' (by omega))]
        exact core sc car hE hJ (fun w => j3 (rch_g w))
      · rw [if_neg (nI_nlt (by omega) (by omega)), if_pos ib, if_pos hn2, if_neg (fun w => j3 (rch_m w (by omega)))]
        exact ⟨[], sc, car, rfl, by rw [ap]; exact hJ, uZ_rf hE, fun _ _ h => h⟩
  · rw [if_pos hn, if_pos ib, if_neg hn2, if_pos hn3]
    exact ⟨[], sc, car, rfl, by rw [ap]; exact hJ, uZ_rf hE, fun _ _ h => h⟩
theorem c_gets : ∀ (k fu i : Nat) (L : List (Nat → Int32)) (sc car : jSc) (P : Nat → Int32), k ≤ 3 → k < fu → cE pr n tx g p m S0 ar0 sc car mr → jN (aCan ar0 m) (aSt S0 ar0) (aGd g) L sc car → L[i]? = some P →
    ∃ B sc2 car2, xG_296 fu (nI i) (nI k) sc mr car al = some (if aRch (aCan ar0 m) (aSt S0 ar0) (aGd g) k P = true then 1 else 0, sc2, mr, car2, al) ∧ jN (aCan ar0 m) (aSt S0 ar0) (aGd g) (L ++ B) sc2 car2 ∧ uZ sc car sc2 car2 ∧ ∀ j, j < L.length → car 792 j = 1 → car2 792 j = 1 := by
  intro k
  induction k with
  | zero =>
    intro fu i L sc car P hk hf hE hJ hP
    obtain ⟨fu, rfl⟩ : ∃ j, fu = j + 1 := ⟨fu - 1, by omega⟩
    refine c_get hk hE hJ hP (fun sc car hE hJ z => ?_)
    have z' : aRch (aCan ar0 m) (aSt S0 ar0) (aGd g) 0 P = false := by show aGd g P = false; simpa using z
    unfold xF_296_87 xF_296_131
    rw [if_neg (by decide), if_pos (show nI 0 ≤ 0 by decide)]
    obtain ⟨b1, b2, b3, b4, b5⟩ := (c_256 (mr := mr) (al := al) (k := 0) (g296 := xG_296 fu) hE hJ hP (by omega) (b := false) z')
    have b2 : xF_296_256 (xG_296 fu) (nI i) (nI 0) 0 sc mr car al = _ := b2
    rw [z']
    exact ⟨[], sc, b1, b2, by rw [List.append_nil]; exact b3, b4, fun j _ h => by rw [b5]; exact h⟩
  | succ k ih =>
    intro fu i L sc car P hk hf hE hJ hP
    obtain ⟨fu, rfl⟩ : ∃ j, fu = j + 1 := ⟨fu - 1, by omega⟩
    refine c_get hk hE hJ hP (fun sc car hE hJ z => ?_)
    have il : i < L.length := (List.getElem?_eq_some_iff.mp hP).1
    have l2 := hJ.1.2.1
    have ib : iB (nI i) 2048 := iB_nI (by omega) (by decide)
    have h38 : c38 P = P := hJ.1.2.2.1 P (List.mem_of_getElem? hP)
    -- at the end
    have fin : ∀ (b : Bool) (L2 : List (Nat → Int32)) (sc2 car2 : jSc), aRch (aCan ar0 m) (aSt S0 ar0) (aGd g) (k + 1) P = b → cE pr n tx g p m S0 ar0 sc2 car2 mr → jN (aCan ar0 m) (aSt S0 ar0) (aGd g) L2 sc2 car2 → L2[i]? = some P → ∃ sc9 car9, xF_296_256 (xG_296 fu) (nI i) (nI (k + 1)) (if b = true then 1 else 0) sc2 mr car2 al = some (if aRch (aCan ar0 m) (aSt S0 ar0) (aGd g) (k + 1) P = true then 1 else 0, sc9, mr, car9, al) ∧ jN (aCan ar0 m) (aSt S0 ar0) (aGd g) L2 sc9 car9 ∧ uZ sc2 car2 sc9 car9 ∧ car9 792 = car2 792 := by
      intro b L2 sc2 car2 hb hE2 hJ2 hP2
      obtain ⟨b1, b2⟩ := (c_256 (mr := mr) (al := al) (g296 := xG_296 fu) hE2 hJ2 hP2 hk hb)
      rw [hb]
      exact ⟨sc2, b1, b2⟩
    -- over the codes
    have go : ∀ r c nn (L : List (Nat → Int32)) sc car, c + r = 13 → r + 1 < nn → cE pr n tx g p m S0 ar0 sc car mr → jN (aCan ar0 m) (aSt S0 ar0) (aGd g) L sc car → L[i]? = some P → car 792 i = 1 → (∀ c', c' < c → aCan ar0 m P c' = true → aSt S0 ar0 P c' = P ∨ ¬ aRch (aCan ar0 m) (aSt S0 ar0) (aGd g) k (aSt S0 ar0 P c') = true) →
        ∃ B sc9 car9, xF_296_153 (xG_296 fu) nn (nI i) (nI (k + 1)) 787 0 (nI c) sc mr car al = some (if aRch (aCan ar0 m) (aSt S0 ar0) (aGd g) (k + 1) P = true then 1 else 0, sc9, mr, car9, al) ∧ jN (aCan ar0 m) (aSt S0 ar0) (aGd g) (L ++ B) sc9 car9 ∧ uZ sc car sc9 car9 ∧ ∀ j, j < L.length → car 792 j = 1 → car9 792 j = 1 := by
      intro r
      induction r with
      | zero =>
        intro c nn L sc car h1 h2 hE hJ hP h1i hno
        obtain ⟨nn, rfl⟩ : ∃ j, nn = j + 1 := ⟨nn - 1, by omega⟩
        have c13 : c = 13 := by omega
        subst c13
        have no : aRch (aCan ar0 m) (aSt S0 ar0) (aGd g) (k + 1) P = false := by simpa using rch_self z hno
        unfold xF_296_153
        rw [if_pos (show (13 : Int32) ≤ nI 13 by decide)]
        obtain ⟨sc9, car9, f1, f2, f3, f4⟩ := fin false L sc car no hE hJ hP
        have f1 : xF_296_256 (xG_296 fu) (nI i) (nI (k + 1)) 0 sc mr car al = _ := f1
        exact ⟨[], sc9, car9, f1, by rw [List.append_nil]; exact f2, f3, fun j _ h => by rw [f4]; exact h⟩
      | succ r ihr =>
        intro c nn L sc car h1 h2 hE hJ hP h1i hno
        obtain ⟨nn, rfl⟩ : ∃ j, nn = j + 1 := ⟨nn - 1, by omega⟩
        have il : i < L.length := (List.getElem?_eq_some_iff.mp hP).1
        have l2 := hJ.1.2.1
        have c13 : c < 13 := by omega
        have e13 : nI i * (13 : Int32) + nI c = nI (i * 13 + c) := by rw [show (13 : Int32) = nI 13 from rfl, nI_mul, nI_add]
        have nx : nxE (aCan ar0 m) (aSt S0 ar0) L i P car c := by
          rcases (hJ.2 i P hP).2.1 with w | ⟨-, w⟩
          · rw [w] at h1i; exact absurd h1i (by decide)
          · exact w c c13
        -- it was reached
        have yes : ∀ (L2 : List (Nat → Int32)) (sc2 car2 : jSc) (nn : Nat), 0 < nn → (∃ T, L2 = L ++ T) → aRch (aCan ar0 m) (aSt S0 ar0) (aGd g) (k + 1) P = true → cE pr n tx g p m S0 ar0 sc2 car2 mr → jN (aCan ar0 m) (aSt S0 ar0) (aGd g) L2 sc2 car2 → uZ sc car sc2 car2 → (∀ j, j < L.length → car 792 j = 1 → car2 792 j = 1) → ∃ B sc9 car9, xF_296_153 (xG_296 fu) nn (nI i) (nI (k + 1)) 787 1 (nI (c + 1)) sc2 mr car2 al = some (if aRch (aCan ar0 m) (aSt S0 ar0) (aGd g) (k + 1) P = true then 1 else 0, sc9, mr, car9, al) ∧ jN (aCan ar0 m) (aSt S0 ar0) (aGd g) (L ++ B) sc9 car9 ∧ uZ sc car sc9 car9 ∧ ∀ j, j < L.length → car 792 j = 1 → car9 792 j = 1 := by
          intro L2 sc2 car2 nn hnn ⟨T, hT⟩ hy hE2 hJ2 hX h792
          obtain ⟨nn, rfl⟩ : ∃ j, nn = j + 1 := ⟨nn - 1, by omega⟩
          have hP2 : L2[i]? = some P := by rw [hT, List.getElem?_append_left il]; exact hP
          obtain ⟨sc9, car9, f1, f2, f3, f4⟩ := fin true L2 sc2 car2 hy hE2 hJ2 hP2
          have f1 : xF_296_256 (xG_296 fu) (nI i) (nI (k + 1)) 1 sc2 mr car2 al = _ := f1
          refine ⟨T, sc9, car9, ?_, by rw [← hT]; exact f2, uZ_tr hX f3, fun j hj h => by rw [f4]; exact h792 j hj h⟩
          unfold xF_296_153
          rw [if_neg (show ¬ (1 : Int32) = 0 by decide), f1]
          split <;> rfl
        -- it was not
        have on : ∀ (T : List (Nat → Int32)) (sc2 car2 : jSc), cE pr n tx g p m S0 ar0 sc2 car2 mr → jN (aCan ar0 m) (aSt S0 ar0) (aGd g) (L ++ T) sc2 car2 → uZ sc car sc2 car2 → (∀ j, j < L.length → car 792 j = 1 → car2 792 j = 1) → (aCan ar0 m P c = true → aSt S0 ar0 P c = P ∨ ¬ aRch (aCan ar0 m) (aSt S0 ar0) (aGd g) k (aSt S0 ar0 P c) = true) → ∃ B sc9 car9, xF_296_153 (xG_296 fu) nn (nI i) (nI (k + 1)) 787 0 (nI (c + 1)) sc2 mr car2 al = some (if aRch (aCan ar0 m) (aSt S0 ar0) (aGd g) (k + 1) P = true then 1 else 0, sc9, mr, car9, al) ∧ jN (aCan ar0 m) (aSt S0 ar0) (aGd g) (L ++ B) sc9 car9 ∧ uZ sc car sc9 car9 ∧ ∀ j, j < L.length → car 792 j = 1 → car9 792 j = 1 := by
          intro T sc2 car2 hE2 hJ2 hX h792 hc
          obtain ⟨B, sc9, car9, f1, f2, f3, f4⟩ := ihr (c + 1) nn (L ++ T) sc2 car2 (by omega) (by omega) hE2 hJ2 (by rw [List.getElem?_append_left il]; exact hP) (h792 i il h1i) (fun c' hc' hcan => by
            by_cases e : c' = c
            · subst e; exact hc hcan
            · exact hno c' (by omega) hcan)
          exact ⟨T ++ B, sc9, car9, f1, by rw [← List.append_assoc]; exact f2, uZ_tr hX f3, fun j hj h => f4 j (by rw [List.length_append]; omega) (h792 j hj h)⟩
        unfold xF_296_153
        rw [if_neg (show ¬ (13 : Int32) ≤ nI c from nI_ge (b := 13) (by omega) (by decide)), if_pos rfl, e13, if_pos (iB_nI (show i * 13 + c < 26624 by omega) (by decide)), iN_nI (by omega), nI_1, show nI (k + 1) - (1 : Int32) = nI k from nI_pred k]
        have ap : L ++ [] = L := List.append_nil L
        by_cases x : aCan ar0 m P c = true
        · rcases nx.1 x with ⟨j, j1, j2⟩ | j2
          · have jl : j < L.length := (List.getElem?_eq_some_iff.mp j1).1
            have ji : nI j = nI i ↔ j = i := nI_eq (by omega) (by omega)
            rw [j2, if_neg (fun w => absurd (show nI j < 0 by rw [w]; decide) (nI_pos (by omega))), if_neg (nI_pos (by omega))]
            by_cases y : j = i
            · rw [if_pos (ji.mpr y)]
              subst y
              rw [hP] at j1
              exact on [] sc car hE (by rw [ap]; exact hJ) (uZ_rf hE) (fun _ _ h => h) (fun _ => Or.inl (Option.some.inj j1).symm)
            · rw [if_neg (fun w => y (ji.mp w))]
              obtain ⟨T, sc2, car2, f1, f2, f3, f4⟩ := ih fu j L sc car _ (by omega) (by omega) hE hJ j1
              rw [f1, ob5]
              by_cases w : aRch (aCan ar0 m) (aSt S0 ar0) (aGd g) k (aSt S0 ar0 P c) = true
              · rw [if_pos w, if_neg (by decide)]
                exact yes (L ++ T) sc2 car2 nn (by omega) ⟨T, rfl⟩ (rch_s.mpr (Or.inr ⟨c, c13, x, w⟩)) (cE_Z hE f3) f2 f3 f4
              · rw [if_neg w, if_pos rfl]
                exact on T sc2 car2 (cE_Z hE f3) f2 f3 f4 (fun _ => Or.inr w)
          · rw [j2, if_pos rfl]
            obtain ⟨car1, e1, R1, q1⟩ := c_copy (pp := 787) (mr := mr) (al := al) hJ.1 hP
            have H1 : cH 787 sc car sc car1 := ⟨fun _ _ _ => rfl, fun b _ hb => q1 b hb, hE.2.2⟩
            obtain ⟨v, sc2, car2, e2, R2, H2⟩ := cE_step (al := al) (pp := 787) (cE_H (by decide) hE H1) (by decide) R1 c13 x
            have H12 := cH_tr H1 H2
            have E2 := cE_H (by decide) hE H12
            obtain ⟨sc3, car3, e3, U3⟩ := c_rch (al := al) k 40 787 sc2 car2 _ (by omega) (by omega) (by omega) (by omega) E2 R2 c38_t
            have J3 := jN_L (by omega) (jN_H (by decide) hJ H12) U3
            have X3 := uZ_tr (uZ_H (by decide) H12) (uZ_L (by omega) U3)
            have w792 : car3 792 = car 792 := (U3.2.1 792 (by decide) (by omega)).trans (H12.2.1 792 (by decide) (by decide))
            rw [e1, ob4, e2, ob5, e3, ob5]
            by_cases w : aRch (aCan ar0 m) (aSt S0 ar0) (aGd g) k (aSt S0 ar0 P c) = true
            · rw [if_pos w]
              exact yes L sc3 car3 nn (by omega) ⟨[], ap.symm⟩ (rch_s.mpr (Or.inr ⟨c, c13, x, w⟩)) (cE_Z hE X3) J3 X3 (fun j _ h => by rw [w792]; exact h)
            · rw [if_neg w]
              exact on [] sc3 car3 (cE_Z hE X3) (by rw [ap]; exact J3) X3 (fun j _ h => by rw [w792]; exact h) (fun _ => Or.inr w)
        · rw [nx.2 x, if_neg (by decide), if_pos (by decide)]
          exact on [] sc car hE (by rw [ap]; exact hJ) (uZ_rf hE) (fun _ _ h => h) (fun h => absurd h x)
    -- spread it, if it isn't
    have m131 : ∃ B sc9 car9, xF_296_131 (xG_296 fu) (nI i) (nI (k + 1)) 787 0 sc mr car al = some (if aRch (aCan ar0 m) (aSt S0 ar0) (aGd g) (k + 1) P = true then 1 else 0, sc9, mr, car9, al) ∧ jN (aCan ar0 m) (aSt S0 ar0) (aGd g) (L ++ B) sc9 car9 ∧ uZ sc car sc9 car9 ∧ ∀ j, j < L.length → car 792 j = 1 → car9 792 j = 1 := by
      unfold xF_296_131
      rw [if_neg (nI_nle (by omega) (by omega)), if_pos ib, iN_nI (by omega)]
      rcases (hJ.2 i P hP).2.1 with w | ⟨w, -⟩
      · rw [if_pos w]
        obtain ⟨T, sc2, car2, f1, f2, f3, f4, f5⟩ := c_293b (al := al) hE hJ hP w
        rw [f1, ob4]
        obtain ⟨B, sc9, car9, g1, g2, g3, g4⟩ := go 13 0 oF (L ++ T) sc2 car2 (by omega) (by unfold oF; omega) (cE_Z hE f3) f2 (by rw [List.getElem?_append_left il]; exact hP) f4 (fun c' h => absurd h (by omega))
        exact ⟨T ++ B, sc9, car9, g1, by rw [← List.append_assoc]; exact g2, uZ_tr f3 g3, fun j hj h => g4 j (by rw [List.length_append]; omega) (f5 j hj h)⟩
      · rw [if_neg (by rw [w]; decide)]
        exact go 13 0 oF L sc car (by omega) (by unfold oF; omega) hE hJ hP w (fun c' h => absurd h (by omega))
    unfold xF_296_87
    by_cases y : nI (k + 1) = (1 : Int32)
    · have k0 : k = 0 := by
        have := (nI_eq (a := k + 1) (b := 1) (by omega) (by decide)).mp y
        omega
      rw [if_pos y, if_pos ib, iN_nI (by omega)]
      by_cases w : car 792 i = 0
      · rw [if_pos w]
        obtain ⟨car1, e1, R1, q1⟩ := c_copy (pp := 787) (mr := mr) (al := al) hJ.1 hP
        have H1 : cH 787 sc car sc car1 := ⟨fun _ _ _ => rfl, fun b _ hb => q1 b hb, hE.2.2⟩
        have E1 := cE_H (by decide) hE H1
        obtain ⟨sc3, car3, e3, U3⟩ := c_rch (al := al) 1 40 787 sc car1 P (by omega) (by omega) (by omega) (by omega) E1 R1 h38
        have J3 := jN_L (by omega) (jN_H (by decide) hJ H1) U3
        have X3 := uZ_tr (uZ_H (by decide) H1) (uZ_L (by omega) U3)
        have w792 : car3 792 = car 792 := (U3.2.1 792 (by decide) (by omega)).trans (q1 792 (by decide))
        subst k0
        have e3 : xG_297 40 787 (1 : Int32) sc mr car1 al = _ := e3
        rw [e1, ob4, e3, ob5]
        obtain ⟨sc9, car9, f1, f2, f3, f4⟩ := fin (aRch (aCan ar0 m) (aSt S0 ar0) (aGd g) (0 + 1) P) L sc3 car3 rfl (cE_Z hE X3) J3 hP
        exact ⟨[], sc9, car9, f1, by rw [List.append_nil]; exact f2, uZ_tr X3 f3, fun j _ h => by rw [f4, w792]; exact h⟩
      · rw [if_neg w]
        exact m131
    · rw [if_neg y]
      exact m131
end GT
