/-! HOW MANY ARE STUCK: ClickOrders. -/
section SK
variable {S0 : Nat → Int32} {ar0 : jSc} {mr : Nat → Nat} {al : jAl} {pr n p m : Nat} {tx : Nat → Int32} {g : pG}
theorem c_fil4 {a N len : Nat} {v : Int32} {sc car : jSc} (hN : N < 8000) (hl : len ≤ N) : ∃ car2, xF_504 a N (0 : Int32) (nI len) v sc mr car al = some (sc, mr, car2, al) ∧ (∀ j, car2 a j = if j < len then v else car a j) ∧ ∀ b, b ≠ a → car2 b = car b := by
  have go : ∀ r k nn car1, k + r = len → r < nn → (∀ j, car1 a j = if j < k then v else car a j) → (∀ b, b ≠ a → car1 b = car b) → ∃ car2, xF_504_10 nn a N (nI len) v (nI k) sc mr car1 al = some (sc, mr, car2, al) ∧ (∀ j, car2 a j = if j < len then v else car a j) ∧ ∀ b, b ≠ a → car2 b = car b := by
    intro r
    induction r with
    | zero =>
      intro k nn car1 h1 h2 h3 h4
      obtain ⟨nn, rfl⟩ : ∃ j, nn = j + 1 := ⟨nn - 1, by omega⟩
      have : k = len := by omega
      subst this
      unfold xF_504_10
      rw [if_pos (nI_le (Nat.le_refl _) (by omega))]
      exact ⟨car1, rfl, h3, h4⟩
    | succ r ih =>
      intro k nn car1 h1 h2 h3 h4
      obtain ⟨nn, rfl⟩ : ∃ j, nn = j + 1 := ⟨nn - 1, by omega⟩
      unfold xF_504_10
      rw [if_neg (nI_ge (by omega) (by omega)), if_pos (iB_nI (show k < N by omega) (by omega)), iN_nI (by omega), nI_1]
      refine ih (k + 1) nn _ (by omega) (by omega) (fun j => ?_) (fun b hb => (j_u2_row _ _ _ _ hb).trans (h4 b hb))
      by_cases c : j = k
      · subst c; rw [u2_eq, if_pos (by omega)]
      · rw [u2_nk c, h3 j]
        by_cases d : j < k
        · rw [if_pos d, if_pos (by omega)]
        · rw [if_neg d, if_neg (by omega)]
  have rc : xF_502 (Int32.ofNat N) (0 : Int32) (nI len) sc mr car al = some (sc, mr, car, al) := by
    unfold xF_502
    rw [show Int32.ofNat N = nI N from rfl]
    rw [if_pos (nI_pos' (n := len) (by omega)), if_pos (by decide), if_pos (nI_le hl (by omega))]
  unfold xF_504
  rw [rc, ob4]
  exact go len 0 oF car (by omega) (by unfold oF; omega) (fun j => by rw [if_neg (by omega)]) (fun _ _ => rfl)
theorem c_stkgo {k en : Nat} (hk : k ≤ 3) (he : en ≤ 600) {E : List eT} (hl : E.length ≤ 600) : ∀ (r pre : List eT) (B : List (Nat → Int32)) (nn cnt : Nat) (sc car : jSc), E = pre ++ r → r.length < nn → cnt ≤ en → cE pr n tx g p m S0 ar0 sc car mr → jN (aCan ar0 m) (aSt S0 ar0) (aGd g) (E.map (fun e => e.1) ++ B) sc car → sc 773 0 = nI E.length →
    ∃ B2 sc2 car2, xF_288_53 nn (nI k) (nI en) (nI cnt) (nI pre.length) sc mr car al = some (nI (min en (cnt + aStk (aCan ar0 m) (aSt S0 ar0) (aGd g) k r)), sc2, mr, car2, al) ∧ jN (aCan ar0 m) (aSt S0 ar0) (aGd g) (E.map (fun e => e.1) ++ B2) sc2 car2 ∧ uZ sc car sc2 car2 := by
  intro r
  induction r with
  | nil =>
    intro pre B nn cnt sc car hEq hn hc hE hJ h0
    obtain ⟨nn, rfl⟩ : ∃ j, nn = j + 1 := ⟨nn - 1, by simp at hn; omega⟩
    rw [List.append_nil] at hEq
    subst hEq
    unfold xF_288_53
    rw [h0, if_pos (nI_le (Nat.le_refl _) (by omega))]
    refine ⟨B, sc, car, ?_, hJ, uZ_rf hE⟩
    show some (nI cnt, _) = some (nI (min en (cnt + 0)), _)
    rw [show min en (cnt + 0) = cnt by omega]
  | cons e r ih =>
    intro pre B nn cnt sc car hEq hn hc hE hJ h0
    simp only [List.length_cons] at hn
    obtain ⟨nn, rfl⟩ : ∃ j, nn = j + 1 := ⟨nn - 1, by omega⟩
    have hl2 : E.length = pre.length + (r.length + 1) := by rw [hEq, List.length_append, List.length_cons]
    unfold xF_288_53
    rw [h0, if_neg (nI_ge (by omega) (by omega))]
    by_cases z : en ≤ cnt
    · rw [if_pos (nI_le z (by omega))]
      refine ⟨B, sc, car, ?_, hJ, uZ_rf hE⟩
      rw [show min en (cnt + aStk (aCan ar0 m) (aSt S0 ar0) (aGd g) k (e :: r)) = cnt by omega]
    · rw [if_neg (nI_ge (by omega) (by omega))]
      have hP : (E.map (fun e => e.1) ++ B)[pre.length]? = some e.1 := by
        rw [List.getElem?_append_left (by rw [List.length_map]; omega), hEq, List.map_append, List.getElem?_append_right (by rw [List.length_map]; exact Nat.le_refl _), List.length_map]
        simp
      obtain ⟨T, sc2, car2, f1, f2, f3, -⟩ := c_gets (al := al) k 40 pre.length _ sc car _ hk (by omega) hE hJ hP
      rw [List.append_assoc] at f2
      rw [f1, ob5, nI_1, nI_1]
      have e1 : (pre ++ [e]).length = pre.length + 1 := by simp
      have h0' : sc2 773 0 = nI E.length := (f3.1 773 0 (by decide) (by decide)).trans h0
      show ∃ B2 sc2 car2, _ = some (nI (min en (cnt + ((if aRch (aCan ar0 m) (aSt S0 ar0) (aGd g) k e.1 = true then 0 else 1) + aStk (aCan ar0 m) (aSt S0 ar0) (aGd g) k r))), sc2, mr, car2, al) ∧ _
      by_cases y : aRch (aCan ar0 m) (aSt S0 ar0) (aGd g) k e.1 = true
      · obtain ⟨B2, sc9, car9, g1, g2, g3⟩ := ih (pre ++ [e]) (B ++ T) nn cnt sc2 car2 (by rw [hEq]; simp) (by omega) hc (cE_Z hE f3) f2 h0'
        rw [e1] at g1
        simp only [if_pos y, if_neg (show ¬ (1 : Int32) = 0 by decide), Nat.zero_add]
        exact ⟨B2, sc9, car9, g1, g2, uZ_tr f3 g3⟩
      · obtain ⟨B2, sc9, car9, g1, g2, g3⟩ := ih (pre ++ [e]) (B ++ T) nn (cnt + 1) sc2 car2 (by rw [hEq]; simp) (by omega) (by omega) (cE_Z hE f3) f2 h0'
        rw [e1] at g1
        simp only [if_neg y, if_true, ← Nat.add_assoc]
        exact ⟨B2, sc9, car9, g1, g2, uZ_tr f3 g3⟩
theorem aStk_0 {cn : (Nat → Int32) → Nat → Bool} {st : (Nat → Int32) → Nat → Nat → Int32} {gd : (Nat → Int32) → Bool} {k : Nat} (h : ∀ P, gd P = true) : ∀ E : List eT, aStk cn st gd k E = 0
  | [] => rfl
  | e :: r => by
    show (if aRch cn st gd k e.1 = true then 0 else 1) + aStk cn st gd k r = 0
    rw [if_pos (rch_g (h e.1)), aStk_0 h r]
theorem c_stkc {k en : Nat} {wh : Bool} {s : bS} {B : List (Nat → Int32)} {sc car : jSc} (hk : k ≤ 3) (he : en ≤ 600) (hE : cE pr n tx g p m S0 ar0 sc car mr) (h : kPS (aCan ar0 m) (aSt S0 ar0) wh s B sc car) :
    ∃ B2 sc2 car2, xF_288 (nI k) (nI en) sc mr car al = some (nI (min en (aStk (aCan ar0 m) (aSt S0 ar0) (aGd g) k s.1)), sc2, mr, car2, al) ∧ kPS (aCan ar0 m) (aSt S0 ar0) wh s B2 sc2 car2 ∧ uY sc car sc2 car2 ∧ sc2 773 = sc 773 := by
  have h' := h
  obtain ⟨h1, h2, h3, h4, h5, h6, h7, h8⟩ := h
  unfold xF_288
  rw [hE.1.2.2.2.1, if_pos hE.1.2.1.1, hE.1.2.1.2.2.2.2]
  rcases hg : g.2.2.2.1 with _ | x
  · rw [if_neg (show ¬ (0 : Int32) ≤ c_at none by decide)]
    have g1 : ∀ P, aGd g P = true := fun P => by unfold aGd; rw [hg]
    refine ⟨B, sc, car, ?_, h', ⟨fun _ _ _ _ _ => rfl, fun _ _ _ => rfl, hE.2.2⟩, rfl⟩
    rw [aStk_0 g1, Nat.min_zero]
    rfl
  · have x6 : x.2 ≤ 600 := by
      obtain ⟨H, -, -, -, -, w5⟩ := hE.1.2.2.1
      have := (w5 x hg).2
      have l := hE.1.1.2.2.2.2.2.1
      omega
    rw [if_pos (show (0 : Int32) ≤ c_at (some x) from nI_pos' (n := x.2) (by omega)), h1.1]
    have l2 := h1.2.1
    obtain ⟨car1, e1, q1, r1⟩ := c_fil4 (a := 793) (N := 2048) (v := 9) (mr := mr) (al := al) (sc := sc) (car := car) (by decide) l2
    rw [e1, ob4, h1.1]
    obtain ⟨car2, e2, q2, r2⟩ := c_fil4 (a := 794) (N := 2048) (v := -1) (mr := mr) (al := al) (sc := sc) (car := car1) (by decide) l2
    rw [e2, ob4]
    have X2 : uZ sc car sc car2 := ⟨fun _ _ _ _ => rfl, fun b _ _ hb => (r2 b (by omega)).trans (r1 b (by omega)), hE.2.2⟩
    have row : ∀ b, b ≠ 793 → b ≠ 794 → car2 b = car b := fun b u v => (r2 b v).trans (r1 b u)
    have J2 : jN (aCan ar0 m) (aSt S0 ar0) (aGd g) (s.1.map (fun e => e.1) ++ B) sc car2 := by
      refine ⟨hM_c h1 rfl (fun b u v => row b (by omega) (by omega)), fun i P hP => ?_⟩
      have il := (List.getElem?_eq_some_iff.mp hP).1
      obtain ⟨a1, a2⟩ := h4 i P hP
      unfold jXi
      rw [row 792 (by decide) (by decide), r2 793 (by decide), q1 i, if_pos il, q2 i, if_pos il]
      refine ⟨a1, ?_, Or.inl rfl, Or.inl rfl⟩
      rcases a2 with w | ⟨w, y⟩
      · exact Or.inl w
      · exact Or.inr ⟨w, fun c' hc' => nxE_c (y c' hc') (by rw [row 791 (by decide) (by decide)]) (fun _ _ x => x)⟩
    obtain ⟨B2, sc9, car9, g1, g2, g3⟩ := c_stkgo (al := al) hk he h2 s.1 [] B oF 0 sc car2 rfl (by unfold oF; omega) (Nat.zero_le _) (cE_Z hE X2) J2 h8
    rw [Nat.zero_add] at g1
    have X9 := uZ_tr X2 g3
    have s773 : sc9 773 = sc 773 := funext fun j => g3.1 773 j (by omega) (by omega)
    refine ⟨B2, sc9, car9, g1, ⟨g2.1, h2, fun i e he => ?_, fun i P hP => ⟨(g2.2 i P hP).1, (g2.2 i P hP).2.1⟩, by rw [s773]; exact h5, by rw [s773]; exact h6, by rw [s773]; exact h7, by rw [s773]; exact h8⟩, uY_Z X9, s773⟩
    rw [X9.2.1 789 (by decide) (by omega) (by omega), X9.2.1 790 (by decide) (by omega) (by omega)]
    exact h3 i e he
theorem aStk_le {cn : (Nat → Int32) → Nat → Bool} {st : (Nat → Int32) → Nat → Nat → Int32} {gd : (Nat → Int32) → Bool} {k : Nat} : ∀ E : List eT, aStk cn st gd k E ≤ E.length
  | [] => Nat.le_refl _
  | e :: r => by
    show (if aRch cn st gd k e.1 = true then 0 else 1) + aStk cn st gd k r ≤ r.length + 1
    have := aStk_le (cn := cn) (st := st) (gd := gd) (k := k) r
    split <;> omega
theorem c_stuck {k nn0 most : Nat} {sc car : jSc} (hk : k ≤ 3) (hE : cE pr n tx g p m S0 ar0 sc car mr) (hK : cKy S0 ar0 m g sc car) (h1 : 1 ≤ most) (h6 : most ≤ 600) (hn : nn0 ≤ 8) :
    ∃ sc2 car2, xF_336 (nI nn0) (nI k) (nI most) sc mr car al = some (if (aRs S0 ar0 m g true most nn0).2.2 = true then -2 else nI (aStk (aCan ar0 m) (aSt S0 ar0) (aGd g) k (aRs S0 ar0 m g true most nn0).1), sc2, mr, car2, al) ∧ cKy S0 ar0 m g sc2 car2 ∧ uY sc car sc2 car2 := by
  obtain ⟨sc2, car2, wh, B, e1, e2, e3, e4, e5⟩ := c_goes (al := al) (w := true) hE hK h1 h6 hn
  have e2 := e2 rfl
  subst e2
  have e1 : xF_285 (nI nn0) (nI most) 1 sc mr car al = _ := e1
  have km : xF_358 (nI k) sc mr car al = some (sc, mr, car, al) := by
    unfold xF_358
    rw [if_neg (nI_pos (by omega)), if_pos (show nI k ≤ (3 : Int32) from nI_le (b := 3) (by omega) (by decide))]
  unfold xF_336
  rw [c_rows h1 h6 hn, ob4, km, ob4, e1, ob4, e3.2.2.2.2.2.1]
  rcases hb : (aRs S0 ar0 m g true most nn0).2.2 with _ | _
  · rw [if_pos (show (if false = true then (1 : Int32) else 0) = 0 by decide)]
    obtain ⟨B2, sc9, car9, g1, g2, g3, g4⟩ := c_stkc (al := al) (en := 600) hk (by omega) (cE_Y hE e5) e3
    have g1 : xF_288 (nI k) (600 : Int32) sc2 mr car2 al = _ := g1
    have := aStk_le (cn := aCan ar0 m) (st := aSt S0 ar0) (gd := aGd g) (k := k) (aRs S0 ar0 m g true most nn0).1
    have l6 := e3.2.1
    rw [g1, ob5, Nat.min_eq_right (by omega)]
    exact ⟨sc9, car9, rfl, cKy_of h1 h6 hn g2 (by rw [g4]; exact e4), uY_tr e5 g3⟩
  · rw [if_neg (show ¬ (if true = true then (1 : Int32) else 0) = 0 by decide)]
    exact ⟨sc2, car2, rfl, cKy_of h1 h6 hn e3 e4, e5⟩
end SK
