/-! PAGES BEYOND the rows of a search, and what is kept of them. -/
def jXi (cn : (Nat → Int32) → Nat → Bool) (st : (Nat → Int32) → Nat → Nat → Int32) (gd : (Nat → Int32) → Bool) (L : List (Nat → Int32)) (car : jSc) (i : Nat) (P : Nat → Int32) : Prop := pW P ∧ (car 792 i = 0 ∨ (car 792 i = 1 ∧ ∀ c, c < 13 → nxE cn st L i P car c)) ∧ (car 793 i = 9 ∨ ∃ k, k ≤ 3 ∧ car 793 i = nI k ∧ aRch cn st gd k P = true) ∧ (car 794 i = -1 ∨ ∃ k, k ≤ 3 ∧ car 794 i = nI k ∧ ¬ aRch cn st gd k P = true)
def jN (cn : (Nat → Int32) → Nat → Bool) (st : (Nat → Int32) → Nat → Nat → Int32) (gd : (Nat → Int32) → Bool) (L : List (Nat → Int32)) (sc car : jSc) : Prop := hM L sc car ∧ ∀ i P, L[i]? = some P → jXi cn st gd L car i P
/-- what asking beyond leaves -/
def uZ (sc car sc2 car2 : jSc) : Prop := (∀ a k, ¬ (a = 757 ∧ 3 ≤ k ∧ k ≤ 9) → ¬ (a = 774 ∧ (k = 0 ∨ k = 4 ∨ k = 5)) → sc2 a k = sc a k) ∧ (∀ b, b ≠ 758 → ¬ (775 ≤ b ∧ b ≤ 788) → ¬ (791 ≤ b ∧ b ≤ 794) → car2 b = car b) ∧ sc2 757 5 = 0
theorem uZ_tr {a b a2 b2 a3 b3 : jSc} (h : uZ a b a2 b2) (h2 : uZ a2 b2 a3 b3) : uZ a b a3 b3 := ⟨fun x k u w => (h2.1 x k u w).trans (h.1 x k u w), fun x u v w => (h2.2.1 x u v w).trans (h.2.1 x u v w), h2.2.2⟩
theorem uZ_H {pp : Nat} {a b a2 b2 : jSc} (hp : 774 ≤ pp ∧ pp ≤ 787) (h : cH pp a b a2 b2) : uZ a b a2 b2 := ⟨fun x k u _ => h.1 x k u, fun x u v _ => h.2.1 x u (by omega), h.2.2⟩
theorem uZ_sk {a b a2 : jSc} (h5 : a 757 5 = 0) (h : sk a a2) : uZ a b a2 b := ⟨fun x k _ w => h x k (fun z => w ⟨z.1, Or.inr z.2⟩), fun _ _ _ _ => rfl, (h 757 5 (by decide)).trans h5⟩
theorem uZ_L {k : Nat} {a b a2 b2 : jSc} (hk : k ≤ 2) (h : uL k a b a2 b2) : uZ a b a2 b2 := ⟨fun x j u _ => h.1 x j u, fun x u v _ => h.2.1 x u (by omega), h.2.2⟩
theorem uY_Z {a b a2 b2 : jSc} (h : uZ a b a2 b2) : uY a b a2 b2 := ⟨fun x k u _ w => h.1 x k u w, fun x u v => h.2.1 x u (by omega) (by omega), h.2.2⟩
section BY
variable {S0 : Nat → Int32} {ar0 : jSc} {sc car : jSc} {mr : Nat → Nat} {al : jAl} {pr n p m : Nat} {tx : Nat → Int32} {g : pG} {cn : (Nat → Int32) → Nat → Bool} {st : (Nat → Int32) → Nat → Nat → Int32} {gd : (Nat → Int32) → Bool} {L : List (Nat → Int32)}
theorem cE_Z {sc2 car2 : jSc} (h : cE pr n tx g p m S0 ar0 sc car mr) (k : uZ sc car sc2 car2) : cE pr n tx g p m S0 ar0 sc2 car2 mr := cE_Y h (uY_Z k)
theorem uZ_rf (h : cE pr n tx g p m S0 ar0 sc car mr) : uZ sc car sc car := ⟨fun _ _ _ _ => rfl, fun _ _ _ _ => rfl, h.2.2⟩
theorem jN_c {sc2 car2 : jSc} (h : jN cn st gd L sc car) (e1 : sc2 774 0 = sc 774 0) (e3 : ∀ b, (775 ≤ b ∧ b ≤ 777) ∨ (791 ≤ b ∧ b ≤ 794) → car2 b = car b) : jN cn st gd L sc2 car2 := by
  refine ⟨hM_c h.1 e1 (fun b u v => e3 b (by omega)), fun i P hP => ?_⟩
  obtain ⟨a1, a2, a3, a4⟩ := h.2 i P hP
  unfold jXi
  rw [e3 792 (by omega), e3 793 (by omega), e3 794 (by omega)]
  refine ⟨a1, ?_, a3, a4⟩
  rcases a2 with z | ⟨z, w⟩
  · exact Or.inl z
  · exact Or.inr ⟨z, fun c hc => nxE_c (w c hc) (by rw [e3 791 (by omega)]) (fun _ _ x => x)⟩
theorem jN_H {pp : Nat} {sc2 car2 : jSc} (hp : 777 ≤ pp ∧ pp ≤ 787) (h : jN cn st gd L sc car) (k : cH pp sc car sc2 car2) : jN cn st gd L sc2 car2 := jN_c h (k.1 774 0 (by decide)) (fun b hb => k.2.1 b (by omega) (by omega))
theorem jN_L {k : Nat} {sc2 car2 : jSc} (hk : k ≤ 2) (h : jN cn st gd L sc car) (u : uL k sc car sc2 car2) : jN cn st gd L sc2 car2 := jN_c h (u.1 774 0 (by decide)) (fun b hb => u.2.1 b (by omega) (by omega))
theorem c_addB {Q : Nat → Int32} (h : jN cn st gd L sc car) (h5 : sc 757 5 = 0) (hR : pgR Q (car 781)) (h38 : c38 Q = Q) (hn : hNw L Q (car 781) sc car) :
    (L.length = 2048 → xF_295 sc mr car al = some (-2, sc, mr, car, al)) ∧ (¬ L.length = 2048 → ∃ sc2 car2, xF_295 sc mr car al = some (nI L.length, sc2, mr, car2, al) ∧ jN cn st gd (L ++ [Q]) sc2 car2 ∧ uZ sc car sc2 car2 ∧ (∀ b, 778 ≤ b ∧ b ≤ 788 ∨ b = 791 → car2 b = car b) ∧ sc2 773 = sc 773 ∧ ∀ i, i < L.length → car2 792 i = car 792 i) := by
  have l2 := h.1.2.1
  refine ⟨fun z => ?_, fun z => ?_⟩
  · unfold xF_295
    rw [c_full (pp := 780) h.1 z, ob5, if_neg (by decide)]
  · obtain ⟨car2, a1, a2, a3⟩ := c_add (pp := 780) (mr := mr) (al := al) h.1 h38 hR (by decide) hn (by omega)
    unfold xF_295
    rw [a1, ob5, if_pos (nI_pos' (by omega)), if_pos (iB_nI (show L.length < 2048 by omega) (by decide)), if_pos (iB_nI (show L.length < 2048 by omega) (by decide)), if_pos (iB_nI (show L.length < 2048 by omega) (by decide)), iN_nI (by omega)]
    generalize hA : j_u2 (j_u2 (j_u2 car2 792 L.length (0 : Int32)) 793 L.length (9 : Int32)) 794 L.length (-1 : Int32) = A
    have ro : ∀ b, b ≠ 792 → b ≠ 793 → b ≠ 794 → A b = car2 b := fun b u v w => by rw [← hA, j_u2_row _ _ _ _ w, j_u2_row _ _ _ _ v, j_u2_row _ _ _ _ u]
    have r2 : ∀ i, A 792 i = if i = L.length then 0 else car 792 i := fun i => by
      rw [← hA, j_u2_row _ _ _ _ (by decide), j_u2_row _ _ _ _ (by decide)]
      by_cases c : i = L.length
      · rw [if_pos c, c, u2_eq]
      · rw [if_neg c, u2_nk c, a3 792 (by omega)]
    have r3 : ∀ i, A 793 i = if i = L.length then 9 else car 793 i := fun i => by
      rw [← hA, j_u2_row _ _ _ _ (by decide)]
      by_cases c : i = L.length
      · rw [if_pos c, c, u2_eq]
      · rw [if_neg c, u2_nk c, j_u2_row _ _ _ _ (by decide), a3 793 (by omega)]
    have r4 : ∀ i, A 794 i = if i = L.length then -1 else car 794 i := fun i => by
      rw [← hA]
      by_cases c : i = L.length
      · rw [if_pos c, c, u2_eq]
      · rw [if_neg c, u2_nk c, j_u2_row _ _ _ _ (by decide), j_u2_row _ _ _ _ (by decide), a3 794 (by omega)]
    have r1 : A 791 = car 791 := by rw [ro 791 (by decide) (by decide) (by decide), a3 791 (by omega)]
    refine ⟨_, A, rfl, ⟨hM_c a2 rfl (fun b u v => ro b (by omega) (by omega) (by omega)), fun i P hP => ?_⟩, ⟨fun a k u w => if_neg (fun z => w ⟨z.1, Or.inl z.2⟩), fun b u v w => (ro b (by omega) (by omega) (by omega)).trans (a3 b (by omega)), (u2_na (by decide)).trans h5⟩, fun b hb => (ro b (by omega) (by omega) (by omega)).trans (a3 b (by omega)), j_u2_row _ _ _ _ (by decide), fun i hi => by rw [r2, if_neg (by omega)]⟩
    unfold jXi
    by_cases c : i < L.length
    · rw [List.getElem?_append_left c] at hP
      obtain ⟨b1, b2, b3, b4⟩ := h.2 i P hP
      rw [r2, r3, r4, if_neg (by omega), if_neg (by omega), if_neg (by omega)]
      refine ⟨b1, ?_, b3, b4⟩
      rcases b2 with z' | ⟨z', w⟩
      · exact Or.inl z'
      · refine Or.inr ⟨z', fun c' hc' => nxE_c (w c' hc') (by rw [r1]) (fun i' Q' x => ?_)⟩
        rw [List.getElem?_append_left (List.getElem?_eq_some_iff.mp x).1]
        exact x
    · rw [List.getElem?_append_right (by omega)] at hP
      have ci : i = L.length := by
        have := (List.getElem?_eq_some_iff.mp hP).1
        simp at this
        omega
      subst ci
      simp at hP
      subst hP
      rw [r2, r3, r4, if_pos rfl, if_pos rfl, if_pos rfl]
      exact ⟨⟨_, hR⟩, Or.inl rfl, Or.inl rfl, Or.inl rfl⟩
theorem c_spb {k : Nat} {P : Nat → Int32} (h38 : c38 P = P) : ∀ (r c nn : Nat) (x3 : Int32) (L : List (Nat → Int32)) (sc car : jSc), c + r = 13 → r < nn → cE pr n tx g p m S0 ar0 sc car mr → jN (aCan ar0 m) (aSt S0 ar0) (aGd g) L sc car → L[k]? = some P → pgR P (car 779) → car 792 k = 0 →
      (x3 = -1 ∨ ∃ j, j < 2048 ∧ x3 = nI j ∧ ∀ c', c' < 13 → aIdl g c' = true → aCan ar0 m P c' = true → L[j]? = some (aSt S0 ar0 P c')) →
      (∀ c', c' < c → nxE (aCan ar0 m) (aSt S0 ar0) L k P car c') →
    ∃ B sc2 car2, xF_293_31 nn (nI k) 1 x3 (nI c) sc mr car al = some (sc2, mr, car2, al) ∧ jN (aCan ar0 m) (aSt S0 ar0) (aGd g) (L ++ B) sc2 car2 ∧ uZ sc car sc2 car2 ∧ car2 792 k = 1 ∧ ∀ j, j < L.length → car 792 j = 1 → car2 792 j = 1 := by
  intro r
  induction r with
  | zero =>
    intro c nn x3 L sc car h1 h2 hE hJ hP hR h0 hst hnx
    obtain ⟨nn, rfl⟩ : ∃ j, nn = j + 1 := ⟨nn - 1, by omega⟩
    have il : k < L.length := (List.getElem?_eq_some_iff.mp hP).1
    have l2 := hJ.1.2.1
    unfold xF_293_31
    rw [if_pos (show (13 : Int32) ≤ nI c from nI_le (a := 13) (by omega) (by omega)), if_pos (iB_nI (show k < 2048 by omega) (by decide)), iN_nI (by omega)]
    refine ⟨[], sc, _, rfl, ?_, ⟨fun _ _ _ _ => rfl, fun b _ _ hb => j_u2_row _ _ _ _ (by omega), hE.2.2⟩, u2_eq, fun j _ hj => by
      by_cases z : j = k
      · rw [z, u2_eq]
      · rw [u2_nk z]; exact hj⟩
    rw [List.append_nil]
    refine ⟨hM_c hJ.1 rfl (fun b u v => j_u2_row _ _ _ _ (by omega)), fun i Q hQ => ?_⟩
    obtain ⟨a1, a2, a3, a4⟩ := hJ.2 i Q hQ
    unfold jXi
    rw [j_u2_row _ _ _ _ (show 793 ≠ 792 by decide), j_u2_row _ _ _ _ (show 794 ≠ 792 by decide)]
    refine ⟨a1, ?_, a3, a4⟩
    by_cases z : i = k
    · subst z
      rw [hP] at hQ
      cases hQ
      exact Or.inr ⟨u2_eq, fun c' hc' => nxE_c (hnx c' (by omega)) (by rw [j_u2_row _ _ _ _ (show 791 ≠ 792 by decide)]) (fun _ _ x => x)⟩
    · rw [u2_nk z]
      rcases a2 with w | ⟨w, y⟩
      · exact Or.inl w
      · exact Or.inr ⟨w, fun c' hc' => nxE_c (y c' hc') (by rw [j_u2_row _ _ _ _ (show 791 ≠ 792 by decide)]) (fun _ _ x => x)⟩
  | succ r ih =>
    intro c nn x3 L sc car h1 h2 hE hJ hP hR h0 hst hnx
    obtain ⟨nn, rfl⟩ : ∃ j, nn = j + 1 := ⟨nn - 1, by omega⟩
    have c13 : c < 13 := by omega
    have il : k < L.length := (List.getElem?_eq_some_iff.mp hP).1
    have l2 := hJ.1.2.1
    have hWe := (hJ.2 k P hP).1
    have next : ∀ (x3' x6 : Int32) (T : List (Nat → Int32)) (sc2 car2 : jSc), uZ sc car sc2 car2 → jN (aCan ar0 m) (aSt S0 ar0) (aGd g) (L ++ T) sc2 car2 → car2 779 = car 779 → car2 791 = car 791 → car2 792 k = 0 → (∀ j, j < L.length → car2 792 j = car 792 j) →
        (x3' = -1 ∨ ∃ j, j < 2048 ∧ x3' = nI j ∧ ∀ c', c' < 13 → aIdl g c' = true → aCan ar0 m P c' = true → (L ++ T)[j]? = some (aSt S0 ar0 P c')) → (aCan ar0 m P c = true → (∃ j, (L ++ T)[j]? = some (aSt S0 ar0 P c) ∧ x6 = nI j) ∨ x6 = -2) → (¬ aCan ar0 m P c = true → x6 = -1) →
        ∃ B sc9 car9, xF_293_207 (fun x1_ x2_ x3_ x4_ sc_ mr_ ar_ al_ => xF_293_31 nn x1_ x2_ x3_ x4_ sc_ mr_ ar_ al_) (nI k) 1 x3' (nI c) x6 sc2 mr car2 al = some (sc9, mr, car9, al) ∧ jN (aCan ar0 m) (aSt S0 ar0) (aGd g) (L ++ B) sc9 car9 ∧ uZ sc car sc9 car9 ∧ car9 792 k = 1 ∧ ∀ j, j < L.length → car 792 j = 1 → car9 792 j = 1 := by
      intro x3' x6 T sc2 car2 hX hJ2 h779 h791 h0' h792 n1 n2 n3
      have e13 : nI k * (13 : Int32) + nI c = nI (k * 13 + c) := by rw [show (13 : Int32) = nI 13 from rfl, nI_mul, nI_add]
      have r2 : ∀ b, b ≠ 791 → j_u2 car2 791 (k * 13 + c) x6 b = car2 b := fun b hb => j_u2_row _ _ _ _ hb
      have X2 : uZ sc2 car2 sc2 (j_u2 car2 791 (k * 13 + c) x6) := ⟨fun _ _ _ _ => rfl, fun b _ _ hb => r2 b (by omega), hX.2.2⟩
      have J2 : jN (aCan ar0 m) (aSt S0 ar0) (aGd g) (L ++ T) sc2 (j_u2 car2 791 (k * 13 + c) x6) := by
        refine ⟨hM_c hJ2.1 rfl (fun b u v => r2 b (by omega)), fun i Q hQ => ?_⟩
        obtain ⟨a1, a2, a3, a4⟩ := hJ2.2 i Q hQ
        unfold jXi
        rw [r2 792 (by decide), r2 793 (by decide), r2 794 (by decide)]
        refine ⟨a1, ?_, a3, a4⟩
        by_cases z : i = k
        · subst z; exact Or.inl h0'
        · rcases a2 with w | ⟨w, y⟩
          · exact Or.inl w
          · exact Or.inr ⟨w, fun c' hc' => nxE_c (y c' hc') (u2_nk (by omega)) (fun _ _ x => x)⟩
      have mono : ∀ (i : Nat) (Q : Nat → Int32), L[i]? = some Q → (L ++ T)[i]? = some Q := fun i Q hQ => by
        rw [List.getElem?_append_left (List.getElem?_eq_some_iff.mp hQ).1]
        exact hQ
      obtain ⟨B, sc9, car9, g1, g2, g3, g4, g5⟩ := ih (c + 1) nn x3' (L ++ T) sc2 _ (by omega) (by omega) (cE_Z hE (uZ_tr hX X2)) J2 (mono k P hP) (by rw [r2 779 (by decide), h779]; exact hR) (by rw [r2 792 (by decide)]; exact h0') n1 (fun c' hc' => by
        by_cases y : c' = c
        · subst y
          refine ⟨fun z => ?_, fun z => ?_⟩
          · rcases n2 z with ⟨j, j1, j2⟩ | w
            · exact Or.inl ⟨j, j1, by rw [u2_eq]; exact j2⟩
            · exact Or.inr (by rw [u2_eq]; exact w)
          · rw [u2_eq]; exact n3 z
        · exact nxE_c (hnx c' (by omega)) (by rw [u2_nk (by omega), h791]) mono)
      refine ⟨T ++ B, sc9, car9, ?_, by rw [← List.append_assoc]; exact g2, uZ_tr (uZ_tr hX X2) g3, g4, fun j hj h1j => g5 j (by rw [List.length_append]; omega) (by rw [r2 792 (by decide), h792 j hj]; exact h1j)⟩
      unfold xF_293_207
      rw [e13, if_pos (iB_nI (show k * 13 + c < 26624 by omega) (by decide)), iN_nI (by omega), if_neg (by decide), nI_1]
      exact g1
    unfold xF_293_31
    rw [if_neg (show ¬ (13 : Int32) ≤ nI c from nI_ge (b := 13) (by omega) (by decide)), hE.1.2.2.2.1, if_pos hE.1.2.1.1, c_idl hE c13, ob5, cE_may (pp := 778) hE hR c13, ob5]
    by_cases z : aCan ar0 m P c = true
    · rw [if_pos z, if_neg (show ¬ (1 : Int32) = 0 by decide)]
      have try_ : ∀ x5 : Int32, (x5 = if aIdl g c = true then 1 else 0) → (aIdl g c = true → x3 = -1) → ∃ B sc9 car9, xF_293_83 (fun x1_ x2_ x3_ x4_ sc_ mr_ ar_ al_ => xF_293_31 nn x1_ x2_ x3_ x4_ sc_ mr_ ar_ al_) (nI k) 1 x3 (nI c) x5 sc mr car al = some (sc9, mr, car9, al) ∧ jN (aCan ar0 m) (aSt S0 ar0) (aGd g) (L ++ B) sc9 car9 ∧ uZ sc car sc9 car9 ∧ car9 792 k = 1 ∧ ∀ j, j < L.length → car 792 j = 1 → car9 792 j = 1 := by
        intro x5 hx5 hx3
        unfold xF_293_83 xF_226
        rw [ob4]
        generalize hA1 : va_up car (780 + 1) (va_cpy (car (778 + 1)) (car (780 + 1)) (iN (0 : Int32)) (iN (0 : Int32)) (iN (50 : Int32))) = car1
        have q1 : ∀ b, b ≠ 781 → car1 b = car b := fun b hb => by rw [← hA1, va_up_ne _ _ hb]
        have R1 : pgR P (car1 (780 + 1)) := by
          rw [← hA1, va_up_self]
          exact pgR_C hR (fun j hj => by
            show va_cpy (car 779) (car 781) 0 0 50 j = car 779 j
            rw [cpy_in (Nat.zero_le _) (by omega)]
            congr 1
            omega)
        have H1 : cH 780 sc car sc car1 := ⟨fun _ _ _ => rfl, fun b _ hb => q1 b hb, hE.2.2⟩
        have E1 := cE_H (by decide) hE H1
        obtain ⟨v, sc2, car2, e1, R2, H2⟩ := cE_step (al := al) (pp := 780) E1 (by decide) R1 c13 z
        have H12 := cH_tr H1 H2
        have J2 := jN_H (by decide) hJ H12
        obtain ⟨sc3, k3, seek⟩ := c_seek (pp := 780) (mr := mr) (al := al) J2.1 c38_t R2
        have X3 : uZ sc car sc3 car2 := uZ_tr (uZ_H (by decide) H12) (uZ_sk H12.2.2 k3)
        have J3 : jN (aCan ar0 m) (aSt S0 ar0) (aGd g) L sc3 car2 := jN_c J2 (k3 774 0 (by decide)) (fun _ _ => rfl)
        have E3 := cE_Z hE X3
        have w779 : car2 779 = car 779 := H12.2.1 779 (by decide) (by decide)
        have w791 : car2 791 = car 791 := H12.2.1 791 (by decide) (by decide)
        have w792 : car2 792 = car 792 := H12.2.1 792 (by decide) (by decide)
        have ap : L ++ [] = L := List.append_nil L
        rw [e1, ob5]
        rcases seek with ⟨j, j1, j2⟩ | ⟨j2, hN⟩
        · have jl : j < L.length := (List.getElem?_eq_some_iff.mp j1).1
          have p0 : (0 : Int32) ≤ nI j := nI_pos' (by omega)
          rw [j2, ob5, if_pos p0]
          by_cases y : aIdl g c = true
          · rw [if_pos y] at hx5
            rw [hx5, if_neg (by decide), if_neg (nI_pos (by omega))]
            exact next _ _ [] sc3 car2 X3 (by rw [ap]; exact J3) w779 w791 (by rw [w792]; exact h0) (fun _ _ => by rw [w792]) (Or.inr ⟨j, by omega, rfl, fun c' hc' hi' hcan' => by rw [ap, aSt_idl hE hWe hi' y hcan' z]; exact j1⟩) (fun _ => Or.inl ⟨j, by rw [ap]; exact j1, rfl⟩) (fun h => absurd z h)
          · rw [if_neg y] at hx5
            rw [hx5, if_pos rfl]
            exact next _ _ [] sc3 car2 X3 (by rw [ap]; exact J3) w779 w791 (by rw [w792]; exact h0) (fun _ _ => by rw [w792]) (by rw [ap]; exact hst) (fun _ => Or.inl ⟨j, by rw [ap]; exact j1, rfl⟩) (fun h => absurd z h)
        · rw [j2, ob5, if_neg (by decide), if_neg (show ¬ (1 : Int32) = 0 by decide)]
          obtain ⟨ad1, ad2⟩ := c_addB (mr := mr) (al := al) J3 E3.2.2 R2 c38_t hN
          have f145 : ∀ (y0 : Int32) (sc4 car4 : jSc), xF_293_145 (fun x1_ x2_ x3_ x4_ sc_ mr_ ar_ al_ => xF_293_31 nn x1_ x2_ x3_ x4_ sc_ mr_ ar_ al_) (nI k) 1 x3 (nI c) x5 y0 sc4 mr car4 al = xF_293_187 (fun x1_ x2_ x3_ x4_ sc_ mr_ ar_ al_ => xF_293_31 nn x1_ x2_ x3_ x4_ sc_ mr_ ar_ al_) (nI k) 1 x3 (nI c) x5 y0 (sc4 773 13) sc4 mr car4 al := by
            intro y0 sc4 car4
            unfold xF_293_145
            split
            · rfl
            · split
              · rfl
              · rw [if_neg (show ¬ (1 : Int32) = 0 by decide)]
          by_cases x : L.length = 2048
          · rw [ad1 x, ob5, f145]
            unfold xF_293_187
            rw [u2_3]
            have fin := next x3 (-2) [] sc3 car2 X3 (by rw [ap]; exact J3) w779 w791 (by rw [w792]; exact h0) (fun _ _ => by rw [w792]) (by rw [ap]; exact hst) (fun _ => Or.inr rfl) (fun h => absurd z h)
            split
            · exact fin
            · rw [if_pos (show (-2 : Int32) < 0 by decide)]; exact fin
          · obtain ⟨sc4, car4, a1, J4, X4, r4, s4, t4⟩ := ad2 x
            have X34 := uZ_tr X3 X4
            have u779 : car4 779 = car 779 := (r4 779 (by omega)).trans w779
            have u791 : car4 791 = car 791 := (r4 791 (by omega)).trans w791
            have u792 : car4 792 k = 0 := by rw [t4 k il, w792]; exact h0
            have last : (L ++ [aSt S0 ar0 P c])[L.length]? = some (aSt S0 ar0 P c) := by rw [List.getElem?_append_right (Nat.le_refl _)]; simp
            have mono : ∀ (i : Nat) (Q : Nat → Int32), L[i]? = some Q → (L ++ [aSt S0 ar0 P c])[i]? = some Q := fun i Q hQ => by
              rw [List.getElem?_append_left (List.getElem?_eq_some_iff.mp hQ).1]
              exact hQ
            rw [a1, ob5, f145]
            unfold xF_293_187
            rw [u2_3]
            by_cases y : aIdl g c = true
            · rw [if_pos y] at hx5
              rw [hx5, if_neg (by decide), if_neg (nI_pos (by omega))]
              exact next _ _ _ sc4 car4 X34 J4 u779 u791 u792 (fun j hj => by rw [t4 j hj, w792]) (Or.inr ⟨L.length, by omega, rfl, fun c' hc' hi' hcan' => by rw [aSt_idl hE hWe hi' y hcan' z]; exact last⟩) (fun _ => Or.inl ⟨L.length, last, rfl⟩) (fun h => absurd z h)
            · rw [if_neg y] at hx5
              rw [hx5, if_pos rfl]
              refine next _ _ _ sc4 car4 X34 J4 u779 u791 u792 (fun j hj => by rw [t4 j hj, w792]) ?_ (fun _ => Or.inl ⟨L.length, last, rfl⟩) (fun h => absurd z h)
              rcases hst with w | ⟨j, j1, j3, j4⟩
              · exact Or.inl w
              · exact Or.inr ⟨j, j1, j3, fun c' hc' hi' hcan' => mono j _ (j4 c' hc' hi' hcan')⟩
      by_cases y : aIdl g c = true
      · rw [if_pos y, if_neg (show ¬ (1 : Int32) = 0 by decide)]
        rcases hst with w | ⟨j, j1, j3, j4⟩
        · rw [w, if_neg (by decide), ← w]
          exact try_ 1 (by rw [if_pos y]) (fun _ => w)
        · have p0 : (0 : Int32) ≤ nI j := nI_pos' (by omega)
          rw [j3, if_pos p0, if_neg (show ¬ (1 : Int32) = 0 by decide), if_neg (nI_pos (by omega))]
          exact next _ _ [] sc car (uZ_rf hE) (by rw [List.append_nil]; exact hJ) rfl rfl h0 (fun _ _ => rfl) (by rw [List.append_nil]; exact Or.inr ⟨j, j1, rfl, j4⟩) (fun _ => Or.inl ⟨j, by rw [List.append_nil]; exact j4 c c13 y z, rfl⟩) (fun h => absurd z h)
      · rw [if_neg y, if_pos rfl]
        exact try_ 0 (by rw [if_neg y]) (fun h => absurd h y)
    · rw [if_neg z, if_pos rfl]
      exact next _ _ [] sc car (uZ_rf hE) (by rw [List.append_nil]; exact hJ) rfl rfl h0 (fun _ _ => rfl) (by rw [List.append_nil]; exact hst) (fun h => absurd h z) (fun _ => rfl)
theorem c_293b {k : Nat} {P : Nat → Int32} (hE : cE pr n tx g p m S0 ar0 sc car mr) (hJ : jN (aCan ar0 m) (aSt S0 ar0) (aGd g) L sc car) (hP : L[k]? = some P) (h0 : car 792 k = 0) :
    ∃ B sc2 car2, xF_293 (nI k) 1 sc mr car al = some (sc2, mr, car2, al) ∧ jN (aCan ar0 m) (aSt S0 ar0) (aGd g) (L ++ B) sc2 car2 ∧ uZ sc car sc2 car2 ∧ car2 792 k = 1 ∧ ∀ j, j < L.length → car 792 j = 1 → car2 792 j = 1 := by
  have l2 := hJ.1.2.1
  have il : k < L.length := (List.getElem?_eq_some_iff.mp hP).1
  have h38 : c38 P = P := hJ.1.2.2.1 P (List.mem_of_getElem? hP)
  have hWe := (hJ.2 k P hP).1
  obtain ⟨car1, e1, R1, q1⟩ := c_copy (pp := 778) (mr := mr) (al := al) hJ.1 hP
  have H1 : cH 778 sc car sc car1 := ⟨fun _ _ _ => rfl, fun b _ hb => q1 b hb, hE.2.2⟩
  have E1 := cE_H (by decide) hE H1
  have J1 := jN_H (by decide) hJ H1
  obtain ⟨q, q3, eq⟩ := R1.2.2.1.2
  have c19 : car1 779 19 = nI q := (R1.1 19 (by decide)).trans eq
  have n0 : nI q = 0 ↔ q = 0 := nI_eq (a := q) (b := 0) (by omega) (by decide)
  unfold xF_293 xF_233
  rw [e1, ob4, ob5, c19]
  have fin : ∀ x3, (x3 = -1 ∨ ∃ j, j < 2048 ∧ x3 = nI j ∧ ∀ c', c' < 13 → aIdl g c' = true → aCan ar0 m P c' = true → L[j]? = some (aSt S0 ar0 P c')) → ∃ B sc2 car2, xF_293_31 oF (nI k) 1 x3 0 sc mr car1 al = some (sc2, mr, car2, al) ∧ jN (aCan ar0 m) (aSt S0 ar0) (aGd g) (L ++ B) sc2 car2 ∧ uZ sc car sc2 car2 ∧ car2 792 k = 1 ∧ ∀ j, j < L.length → car 792 j = 1 → car2 792 j = 1 := by
    intro x3 h3
    obtain ⟨B, sc2, car2, f1, f2, f3, f4, f5⟩ := c_spb (al := al) h38 13 0 oF x3 L sc car1 (by omega) (by unfold oF; omega) E1 J1 hP R1 (by rw [q1 792 (by decide)]; exact h0) h3 (fun c' hc' => absurd hc' (by omega))
    exact ⟨B, sc2, car2, f1, f2, uZ_tr (uZ_H (by decide) H1) f3, f4, fun j hj h1j => f5 j hj (by rw [q1 792 (by decide)]; exact h1j)⟩
  by_cases z : q = 0
  · rw [if_pos (n0.mpr z)]
    refine fin (nI k) (Or.inr ⟨k, by omega, rfl, fun c' _ hi hc => ?_⟩)
    rw [aSt_still hE hWe h38 hi hc (by rw [eq, z]; rfl)]
    exact hP
  · rw [if_neg (fun w => z (n0.mp w))]
    exact fin (-1) (Or.inl rfl)
end BY
