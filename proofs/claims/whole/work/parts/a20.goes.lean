/-! CLICKORDERS' SEARCH: all of it. -/
theorem bC_app {cn : (Nat → Int32) → Nat → Bool} {st : (Nat → Int32) → Nat → Nat → Int32} {bd : (Nat → Int32) → Bool} {most q d c : Nat} {P : Nat → Int32} {s : bS} : ∃ t, (bC cn st bd most q P d c s).1 = s.1 ++ t ∧ ∀ e ∈ t, e.2.2.2 = d + 1 := by
  unfold bC
  split
  · split
    · exact ⟨[], by simp, by simp⟩
    · split
      · exact ⟨[], by simp, by simp⟩
      · exact ⟨_, rfl, by simp⟩
  · exact ⟨[], by simp, by simp⟩
theorem bIn_app {cn : (Nat → Int32) → Nat → Bool} {st : (Nat → Int32) → Nat → Nat → Int32} {bd : (Nat → Int32) → Bool} {wh : Bool} {most q d : Nat} {P : Nat → Int32} : ∀ {r c : Nat} {s : bS}, ∃ t, (bIn cn st bd wh most q P d r c s).1 = s.1 ++ t ∧ ∀ e ∈ t, e.2.2.2 = d + 1
  | 0, c, s => ⟨[], by simp [bIn], by simp⟩
  | r + 1, c, s => by
    obtain ⟨t, h1, h2⟩ := bC_app (cn := cn) (st := st) (bd := bd) (most := most) (q := q) (d := d) (c := c) (P := P) (s := s)
    unfold bIn
    split
    · exact ⟨t, h1, h2⟩
    · obtain ⟨t2, h3, h4⟩ := bIn_app (cn := cn) (st := st) (bd := bd) (wh := wh) (most := most) (q := q) (d := d) (P := P) (r := r) (c := c + 1) (s := bC cn st bd most q P d c s)
      refine ⟨t ++ t2, by rw [h3, h1, List.append_assoc], fun e he => ?_⟩
      rcases List.mem_append.mp he with h | h
      · exact h2 e h
      · exact h4 e h
theorem bGo_end {cn : (Nat → Int32) → Nat → Bool} {st : (Nat → Int32) → Nat → Nat → Int32} {bd : (Nat → Int32) → Bool} {wh : Bool} {most n0 : Nat} {s : bS} : ∀ f q, (∀ i e, q ≤ i → s.1[i]? = some e → n0 ≤ e.2.2.2) → bGo cn st bd wh most n0 f q s = s
  | 0, _, _ => rfl
  | f + 1, q, h => by
    unfold bGo
    split
    · rfl
    · rename_i e he
      split
      · rfl
      · rw [if_neg (by have := h q e (Nat.le_refl _) he; omega)]
        exact bGo_end f (q + 1) (fun i e hi he => h i e (by omega) he)
section GO
variable {S0 : Nat → Int32} {ar0 : jSc} {sc car : jSc} {mr : Nat → Nat} {al : jAl} {pr n p m : Nat} {tx : Nat → Int32} {g : pG} {most : Nat} {wh : Bool} {s : bS}
theorem c_293 {k : Nat} {e : eT} (hE : cE pr n tx g p m S0 ar0 sc car mr) (hB : cBs (aCan ar0 m) (aSt S0 ar0) most wh s sc car) (hO : ¬ bOv wh s = true) (he : s.1[k]? = some e) (hz : ∀ i, k ≤ i → i < s.1.length → car 792 i = 0) :
    ∃ sc2 car2, xF_293 (nI k) 0 sc mr car al = some (sc2, mr, car2, al) ∧ cBs (aCan ar0 m) (aSt S0 ar0) most wh (bIn (aCan ar0 m) (aSt S0 ar0) (aBad g) wh most k e.1 e.2.2.2 13 0 s) sc2 car2 ∧ uX sc car sc2 car2 ∧ ∀ i, k < i → i < (bIn (aCan ar0 m) (aSt S0 ar0) (aBad g) wh most k e.1 e.2.2.2 13 0 s).1.length → car2 792 i = 0 := by
  have lm := hB.2.1
  have l6 := hB.2.2.1
  have il : k < s.1.length := (List.getElem?_eq_some_iff.mp he).1
  have hm : (s.1.map (fun e => e.1))[k]? = some e.1 := by rw [List.getElem?_map, he]; rfl
  have h38 : c38 e.1 = e.1 := hB.1.2.2.1 e.1 (List.mem_of_getElem? hm)
  have hWe := (hB.2.2.2.1 k e he).2.2.1
  obtain ⟨car1, e1, R1, q1⟩ := c_copy (pp := 778) (mr := mr) (al := al) hB.1 hm
  have H1 : cH 778 sc car sc car1 := ⟨fun _ _ _ => rfl, fun b _ hb => q1 b hb, hE.2.2⟩
  have E1 := cE_H (by decide) hE H1
  have B1 := cBs_H (by decide) hB H1
  have X1 := uX_H (by decide) H1
  obtain ⟨q, q3, eq⟩ := R1.2.2.1.2
  have c19 : car1 779 19 = nI q := (R1.1 19 (by decide)).trans eq
  have n0 : nI q = 0 ↔ q = 0 := nI_eq (a := q) (b := 0) (by omega) (by decide)
  unfold xF_293 xF_233
  rw [e1, ob4, ob5, c19]
  have fin : ∀ x3, (x3 = -1 ∨ ∃ j, j < 600 ∧ x3 = nI j ∧ ∀ c', c' < 13 → aIdl g c' = true → aCan ar0 m e.1 c' = true → (s.1.map (fun e => e.1))[j]? = some (aSt S0 ar0 e.1 c')) → ∃ sc2 car2, xF_293_31 oF (nI k) 0 x3 0 sc mr car1 al = some (sc2, mr, car2, al) ∧ cBs (aCan ar0 m) (aSt S0 ar0) most wh (bIn (aCan ar0 m) (aSt S0 ar0) (aBad g) wh most k e.1 e.2.2.2 13 0 s) sc2 car2 ∧ uX sc car sc2 car2 ∧ ∀ i, k < i → i < (bIn (aCan ar0 m) (aSt S0 ar0) (aBad g) wh most k e.1 e.2.2.2 13 0 s).1.length → car2 792 i = 0 := by
    intro x3 h3
    obtain ⟨sc2, car2, f1, f2, f3, f4⟩ := c_sprd (al := al) (wh := wh) (by cases wh <;> simp) h38 13 0 oF x3 s sc car1 (by omega) (by unfold oF; omega) E1 B1 hO he R1 (fun i a b => by rw [q1 792 (by decide)]; exact hz i a b) h3 (fun c' hc' => absurd hc' (by omega))
    exact ⟨sc2, car2, f1, f2, uX_tr X1 f3, f4⟩
  by_cases z : q = 0
  · rw [if_pos (n0.mpr z)]
    refine fin (nI k) (Or.inr ⟨k, by omega, rfl, fun c' _ hi hc => ?_⟩)
    rw [aSt_still hE hWe h38 hi hc (by rw [eq, z]; rfl)]
    exact hm
  · rw [if_neg (fun w => z (n0.mp w))]
    exact fin (-1) (Or.inl rfl)
/-- one level -/
theorem c_lev {k132 : Int32 → Int32 → Int32 → Int32 → jSc → (Nat → Nat) → jSc → jAl → Option (jSc × (Nat → Nat) × jSc × jAl)} {to D nn0 : Nat} (hD : D < nn0) : ∀ (r q nn : Nat) (s : bS) (sc car : jSc), q + r = to → r < nn → cE pr n tx g p m S0 ar0 sc car mr → cBs (aCan ar0 m) (aSt S0 ar0) most wh s sc car → to ≤ s.1.length → (∀ i e, s.1[i]? = some e → q ≤ i → (i < to → e.2.2.2 = D) ∧ (to ≤ i → e.2.2.2 = D + 1)) → (¬ bOv wh s = true → ∀ i, q ≤ i → i < s.1.length → car 792 i = 0) →
    ∃ s9 sc9 car9, xF_285_149 k132 nn (nI nn0) (nI to) (nI D) (nI q) sc mr car al = xF_285_176 k132 (nI nn0) (nI to) (nI D) sc9 mr car9 al ∧ cBs (aCan ar0 m) (aSt S0 ar0) most wh s9 sc9 car9 ∧ uX sc car sc9 car9 ∧ to ≤ s9.1.length ∧
      (∀ f, f + q = 601 → (bOv wh s9 = true ∧ bGo (aCan ar0 m) (aSt S0 ar0) (aBad g) wh most nn0 f q s = s9) ∨ (¬ bOv wh s9 = true ∧ ∃ f9, f9 + to = 601 ∧ bGo (aCan ar0 m) (aSt S0 ar0) (aBad g) wh most nn0 f q s = bGo (aCan ar0 m) (aSt S0 ar0) (aBad g) wh most nn0 f9 to s9)) ∧
      (¬ bOv wh s9 = true → (∀ i e, s9.1[i]? = some e → to ≤ i → e.2.2.2 = D + 1) ∧ ∀ i, to ≤ i → i < s9.1.length → car9 792 i = 0) := by
  intro r
  induction r with
  | zero =>
    intro q nn s sc car h1 h2 hE hB hl hd hz
    obtain ⟨nn, rfl⟩ : ∃ j, nn = j + 1 := ⟨nn - 1, by omega⟩
    have lm := hB.2.1
    have l6 := hB.2.2.1
    have qt : q = to := by omega
    subst qt
    unfold xF_285_149
    rw [if_pos ((nI_leI (by omega) (by omega)).mpr (Nat.le_refl _))]
    refine ⟨s, sc, car, rfl, hB, uX_rf hE, hl, fun f hf => ?_, fun o => ⟨fun i e he hi => (hd i e he hi).2 hi, hz o⟩⟩
    by_cases o : bOv wh s = true
    · exact Or.inl ⟨o, bGo_ov o f q⟩
    · exact Or.inr ⟨o, f, hf, rfl⟩
  | succ r ih =>
    intro q nn s sc car h1 h2 hE hB hl hd hz
    obtain ⟨nn, rfl⟩ : ∃ j, nn = j + 1 := ⟨nn - 1, by omega⟩
    have lm := hB.2.1
    have l6 := hB.2.2.1
    have lq : nI to ≤ nI q ↔ to ≤ q := nI_leI (by omega) (by omega)
    unfold xF_285_149
    rw [if_neg (fun z => absurd (lq.mp z) (by omega)), c_over hB, ob5]
    by_cases o : bOv wh s = true
    · rw [if_pos o, if_neg (by decide)]
      exact ⟨s, sc, car, rfl, hB, uX_rf hE, hl, fun f _ => Or.inl ⟨o, bGo_ov o f q⟩, fun h => absurd o h⟩
    · rw [if_neg o, if_pos rfl]
      obtain ⟨e, he⟩ : ∃ e, s.1[q]? = some e := ⟨s.1[q], List.getElem?_eq_getElem (by omega)⟩
      have ed : e.2.2.2 = D := (hd q e he (Nat.le_refl _)).1 (by omega)
      obtain ⟨sc2, car2, f1, f2, f3, f4⟩ := c_293 (al := al) hE hB o he (hz o)
      obtain ⟨t, t1, t2⟩ := bIn_app (cn := aCan ar0 m) (st := aSt S0 ar0) (bd := aBad g) (wh := wh) (most := most) (q := q) (d := e.2.2.2) (P := e.1) (r := 13) (c := 0) (s := s)
      rw [f1, ob4, nI_1]
      obtain ⟨s9, sc9, car9, g1, g2, g3, g3b, g4, g5⟩ := ih (q + 1) nn _ sc2 car2 (by omega) (by omega) (cE_X hE f3) f2 (by rw [t1, List.length_append]; omega) (fun i f hf hi => by
        rw [t1] at hf
        by_cases c : i < s.1.length
        · rw [List.getElem?_append_left c] at hf
          exact hd i f hf (by omega)
        · rw [List.getElem?_append_right (by omega)] at hf
          have := t2 f (List.mem_of_getElem? hf)
          exact ⟨fun w => absurd w (by omega), fun _ => by rw [this, ed]⟩) (fun _ i hi hil => f4 i (by omega) hil)
      refine ⟨s9, sc9, car9, g1, g2, uX_tr f3 g3, g3b, fun f hf => ?_, g5⟩
      obtain ⟨f, rfl⟩ : ∃ j, f = j + 1 := ⟨f - 1, by omega⟩
      have eG : bGo (aCan ar0 m) (aSt S0 ar0) (aBad g) wh most nn0 (f + 1) q s = bGo (aCan ar0 m) (aSt S0 ar0) (aBad g) wh most nn0 f (q + 1) (bIn (aCan ar0 m) (aSt S0 ar0) (aBad g) wh most q e.1 e.2.2.2 13 0 s) := by
        show (match s.1[q]? with | none => s | some e => _) = _
        rw [he]
        show (if bOv wh s = true then s else _) = _
        rw [if_neg o, if_pos (show e.2.2.2 < nn0 by omega)]
      rw [eG]
      exact g4 f (by omega)
theorem c_lvs {nn0 : Nat} (hn0 : nn0 ≤ 8) : ∀ (r D at_ nn : Nat) (s : bS) (sc car : jSc), D + r = nn0 → r + 1 < nn → cE pr n tx g p m S0 ar0 sc car mr → cBs (aCan ar0 m) (aSt S0 ar0) most wh s sc car → at_ ≤ s.1.length → (∀ i e, s.1[i]? = some e → at_ ≤ i → e.2.2.2 = D) → (¬ bOv wh s = true → ∀ i, at_ ≤ i → i < s.1.length → car 792 i = 0) →
    ∃ sc9 car9, xF_285_132 nn (nI nn0) (nI at_) (nI s.1.length) (nI D) sc mr car al = some (j_u2 sc9 773 0 (sc9 774 0), mr, car9, al) ∧ (∀ f, f + at_ = 601 → cBs (aCan ar0 m) (aSt S0 ar0) most wh (bGo (aCan ar0 m) (aSt S0 ar0) (aBad g) wh most nn0 f at_ s) sc9 car9) ∧ uX sc car sc9 car9 := by
  intro r
  induction r with
  | zero =>
    intro D at_ nn s sc car h1 h2 hE hB hl hd hz
    obtain ⟨nn, rfl⟩ : ∃ j, nn = j + 1 := ⟨nn - 1, by omega⟩
    unfold xF_285_132
    rw [if_pos ((nI_leI (by omega) (by omega)).mpr (by omega))]
    exact ⟨sc, car, rfl, fun f _ => by rw [bGo_end f at_ (fun i e hi he => by rw [hd i e he hi]; omega)]; exact hB, uX_rf hE⟩
  | succ r ih =>
    intro D at_ nn s sc car h1 h2 hE hB hl hd hz
    obtain ⟨nn, rfl⟩ : ∃ j, nn = j + 1 := ⟨nn - 1, by omega⟩
    have lm := hB.2.1
    have l6 := hB.2.2.1
    have ld : nI nn0 ≤ nI D ↔ nn0 ≤ D := nI_leI (by omega) (by omega)
    have la : nI s.1.length ≤ nI at_ ↔ s.1.length ≤ at_ := nI_leI (by omega) (by omega)
    unfold xF_285_132
    rw [if_neg (fun z => absurd (ld.mp z) (by omega))]
    by_cases z : s.1.length ≤ at_
    · rw [if_pos (la.mpr z)]
      exact ⟨sc, car, rfl, fun f _ => by
        rw [bGo_end f at_ (fun i e hi he => by have := (List.getElem?_eq_some_iff.mp he).1; omega)]
        exact hB, uX_rf hE⟩
    · rw [if_neg (fun w => z (la.mp w))]
      obtain ⟨s9, sc9, car9, g1, g2, g3, g3b, g4, g5⟩ := c_lev (al := al) (k132 := fun x1_ x5_ x6_ x7_ sc_ mr_ ar_ al_ => xF_285_132 nn x1_ x5_ x6_ x7_ sc_ mr_ ar_ al_) (to := s.1.length) (show D < nn0 by omega) (s.1.length - at_) at_ oF s sc car (by omega) (by unfold oF; omega) hE hB (Nat.le_refl _) (fun i e he hi => ⟨fun _ => hd i e he hi, fun w => by have := (List.getElem?_eq_some_iff.mp he).1; omega⟩) hz
      rw [g1]
      unfold xF_285_176
      rw [c_over g2, ob5, nI_1]
      have e0 : sc9 774 0 = nI s9.1.length := by rw [g2.1.1, List.length_map]
      by_cases o : bOv wh s9 = true
      · rw [if_pos o, if_neg (by decide)]
        obtain ⟨nn, rfl⟩ : ∃ j, nn = j + 1 := ⟨nn - 1, by omega⟩
        refine ⟨sc9, car9, ?_, fun f hf => ?_, g3⟩
        · show xF_285_132 (nn + 1) _ _ _ _ _ _ _ _ = _
          unfold xF_285_132
          rw [if_pos (show nI s.1.length ≤ nI s.1.length from (nI_leI (by omega) (by omega)).mpr (Nat.le_refl _))]
          split <;> rfl
        · rcases g4 f hf with ⟨-, w⟩ | ⟨w, -⟩
          · rw [w]; exact g2
          · exact absurd o w
      · rw [if_neg o, if_pos rfl, e0]
        obtain ⟨k1, k2⟩ := g5 o
        obtain ⟨sc8, car8, f1, f2, f3⟩ := ih (D + 1) s.1.length nn s9 sc9 car9 (by omega) (by omega) (cE_X hE g3) g2 g3b k1 (fun _ => k2)
        refine ⟨sc8, car8, f1, fun f hf => ?_, uX_tr g3 f3⟩
        rcases g4 f hf with ⟨w, -⟩ | ⟨-, f9, w1, w2⟩
        · exact absurd w o
        · rw [w2]; exact f2 f9 w1
/-- what a search of ClickOrders leaves -/
def uY (sc car sc2 car2 : jSc) : Prop := (∀ a k, ¬ (a = 757 ∧ 3 ≤ k ∧ k ≤ 9) → ¬ (a = 773 ∧ k ≠ 18) → ¬ (a = 774 ∧ (k = 0 ∨ k = 4 ∨ k = 5)) → sc2 a k = sc a k) ∧ (∀ b, b ≠ 758 → ¬ (775 ≤ b ∧ b ≤ 794) → car2 b = car b) ∧ sc2 757 5 = 0
theorem uY_X {a b a2 b2 : jSc} (h : uX a b a2 b2) : uY a b a2 b2 := ⟨fun x k u v w => h.1 x k u (fun z => v ⟨z.1, by omega⟩) w, fun x u v => h.2.1 x u (by omega), h.2.2⟩
theorem uY_tr {a b a2 b2 a3 b3 : jSc} (h : uY a b a2 b2) (h2 : uY a2 b2 a3 b3) : uY a b a3 b3 := ⟨fun x k u v w => (h2.1 x k u v w).trans (h.1 x k u v w), fun x u v => (h2.2.1 x u v).trans (h.2.1 x u v), h2.2.2⟩
theorem uY_u {a b f c : jSc} {k : Nat} {x : Int32} (hk : k ≠ 18) (h : uY a b f c) : uY a b (j_u2 f 773 k x) c := ⟨fun y j u v w => (if_neg (fun z => v ⟨z.1, by omega⟩)).trans (h.1 y j u v w), h.2.1, (u2_na (by decide)).trans h.2.2⟩
theorem cE_Y {sc2 car2 : jSc} (h : cE pr n tx g p m S0 ar0 sc car mr) (k : uY sc car sc2 car2) : cE pr n tx g p m S0 ar0 sc2 car2 mr := cE_lo h (fun a ha => funext fun j => k.1 a j (by omega) (by omega) (by omega)) (fun b hb => k.2.1 b (by omega) (by omega)) (k.2.2.trans h.2.2.symm)
theorem c_30 {nn0 : Nat} {key : Int32} {L0 : List (Nat → Int32)} (hE : cE pr n tx g p m S0 ar0 sc car mr) (hM0 : hM L0 sc car) (h1 : 1 ≤ most) (h6 : most ≤ 600) (hn0 : nn0 ≤ 8) :
    ∃ sc2 car2, xF_285_30 (nI nn0) (nI most) (if wh = true then 1 else 0) key sc mr car al = some (sc2, mr, car2, al) ∧ cBs (aCan ar0 m) (aSt S0 ar0) most wh (aRs S0 ar0 m g wh most nn0) sc2 car2 ∧ sc2 773 0 = nI (aRs S0 ar0 m g wh most nn0).1.length ∧ sc2 773 16 = key ∧ uY sc car sc2 car2 := by
  have w01 : (if wh = true then (1 : Int32) else 0) = 0 ∨ (if wh = true then (1 : Int32) else 0) = 1 := by cases wh <;> simp
  have m6 : (if (600 : Int32) < nI most then (600 : Int32) else nI most) = nI most := if_neg (fun z => absurd ((nI_ltI (a := 600) (b := most) (by decide) (by omega)).mp z) (by omega))
  unfold xF_285_30
  rw [if_pos w01, m6]
  generalize hA : j_u2 (j_u2 (j_u2 (j_u2 sc 773 16 key) 773 15 (if wh = true then (1 : Int32) else 0)) 773 14 (nI most)) 773 1 (0 : Int32) = A
  have YA : uY sc car A car := by
    rw [← hA]
    exact uY_u (by decide) (uY_u (by decide) (uY_u (by decide) (uY_u (by decide) ⟨fun _ _ _ _ _ => rfl, fun _ _ _ => rfl, hE.2.2⟩)))
  have A1 : A 773 1 = 0 := by rw [← hA, u2_eq]
  have A14 : A 773 14 = nI most := by rw [← hA, u2_nk (by decide), u2_eq]
  have A15 : A 773 15 = if wh = true then 1 else 0 := by rw [← hA, u2_nk (by decide), u2_nk (by decide), u2_eq]
  have A16 : A 773 16 = key := by rw [← hA, u2_nk (by decide), u2_nk (by decide), u2_nk (by decide), u2_eq]
  have MA : hM L0 A car := hM_c hM0 (by rw [← hA, u2_na (by decide), u2_na (by decide), u2_na (by decide), u2_na (by decide)]) (fun _ _ _ => rfl)
  obtain ⟨car1, e1, z1, q1⟩ := c_empty (mr := mr) (al := al) MA
  rw [e1, ob4]
  have M1 : hM [] (j_u2 A 774 0 0) car1 := hM_0 u2_eq z1
  have Y1 : uY sc car (j_u2 A 774 0 0) car1 := ⟨fun x k u v w => (if_neg (fun z => w ⟨z.1, Or.inl z.2⟩)).trans (YA.1 x k u v w), fun x u v => q1 x (by omega), (u2_na (by decide)).trans YA.2.2⟩
  have E1 := cE_Y hE Y1
  obtain ⟨sc2, car2, e2, R2, H2⟩ := cE_beg (al := al) (pp := 780) E1 (by decide)
  rw [e2, ob4]
  have M2 : hM [] sc2 car2 := hM_c M1 (H2.1 774 0 (by decide)) (fun b u v => H2.2.1 b (by omega) (by omega))
  have Y2 := uY_tr Y1 (uY_X (uX_H (by decide) H2))
  obtain ⟨sc3, k3, seek⟩ := c_seek (pp := 780) (mr := mr) (al := al) M2 c38_B R2
  rcases seek with ⟨i, i1, -⟩ | ⟨j2, hN⟩
  · simp at i1
  rw [j2, ob5]
  have M3 : hM [] sc3 car2 := hM_c M2 (k3 774 0 (by decide)) (fun _ _ _ => rfl)
  have Y3 := uY_tr Y2 (uY_X (uX_sk H2.2.2 k3))
  have f773 : ∀ k, sc3 773 k = A 773 k := fun k => (k3 773 k (by omega)).trans ((H2.1 773 k (by omega)).trans (u2_na (by decide)))
  obtain ⟨car4, a1, a2, a3⟩ := c_add (pp := 780) (mr := mr) (al := al) M3 c38_B R2 (by decide) hN (by simp)
  have lt : (0 : Int32) < nI most := (nI_ltI (a := 0) (b := most) (by decide) (by omega)).mpr (by omega)
  have a1 : xF_221 780 sc3 mr car2 al = some (nI 0, j_u2 sc3 774 0 (nI 1), mr, car4, al) := a1
  unfold xF_294
  rw [M3.1, f773 14, A14, if_pos (show nI ([] : List (Nat → Int32)).length < nI most from lt), a1, ob5, if_neg (nI_pos (by decide)), if_pos (iB_nI (by decide) (by decide)), if_pos (iB_nI (by decide) (by decide)), if_pos (iB_nI (by decide) (by decide)), iN_nI (by decide), ob5]
  generalize hC : j_u2 (j_u2 (j_u2 car4 789 0 (-1 : Int32)) 790 0 (-1 : Int32)) 792 0 (0 : Int32) = C4
  have ro : ∀ b, b ≠ 789 → b ≠ 790 → b ≠ 792 → C4 b = car4 b := fun b u v w => by rw [← hC, j_u2_row _ _ _ _ w, j_u2_row _ _ _ _ v, j_u2_row _ _ _ _ u]
  have r9 : C4 789 0 = -1 := by rw [← hC, j_u2_row _ _ _ _ (by decide), j_u2_row _ _ _ _ (by decide), u2_eq]
  have r0 : C4 790 0 = -1 := by rw [← hC, j_u2_row _ _ _ _ (by decide), u2_eq]
  have r2 : C4 792 0 = 0 := by rw [← hC, u2_eq]
  have X4 : uX sc3 car2 (j_u2 sc3 774 0 (nI 1)) C4 := ⟨fun a k u v w => if_neg (fun z => w ⟨z.1, Or.inl z.2⟩), fun b u v => (ro b (by omega) (by omega) (by omega)).trans (a3 b (by omega)), (u2_na (by decide)).trans Y3.2.2⟩
  have Y4 := uY_tr Y3 (uY_X X4)
  have E4 := cE_Y hE Y4
  have R4 : pgR (aB0 S0 ar0) (C4 (780 + 1)) := by rw [ro 781 (by decide) (by decide) (by decide), a3 781 (by omega)]; exact R2
  obtain ⟨sc5, car5, b1, b2, b3⟩ := cE_bad (al := al) (pp := 780) E4 (by decide) R4
  rw [b1, ob5]
  have f5 : ∀ k, sc5 773 k = A 773 k := fun k => (b3.1 773 k (by omega)).trans ((u2_na (by decide)).trans (f773 k))
  have Y5 := uY_tr Y4 (uY_X (uX_H (by decide) b3))
  have s0 : sc5 774 0 = nI 1 := (b3.1 774 0 (by decide)).trans u2_eq
  have M5 : hM [aB0 S0 ar0] sc5 car5 := hM_c a2 (s0.trans (u2_eq).symm) (fun b u v => (b2 b (by omega)).trans (ro b (by omega) (by omega) (by omega)))
  have fin : ∀ (y : Int32) (o : Option Nat), y = fi1 o → (∀ i, o = some i → i < 1) → (if aBad g (aB0 S0 ar0) = true then some 0 else none) = o → ∃ sc2 car2, xF_285_132 oF (nI nn0) 0 (sc5 774 0) 0 (j_u2 sc5 773 13 y) mr car5 al = some (sc2, mr, car2, al) ∧ cBs (aCan ar0 m) (aSt S0 ar0) most wh (aRs S0 ar0 m g wh most nn0) sc2 car2 ∧ sc2 773 0 = nI (aRs S0 ar0 m g wh most nn0).1.length ∧ sc2 773 16 = key ∧ uY sc car sc2 car2 := by
    intro y o hy ho hb
    have Y6 : uY sc5 car5 (j_u2 sc5 773 13 y) car5 := uY_u (by decide) ⟨fun _ _ _ _ _ => rfl, fun _ _ _ => rfl, b3.2.2⟩
    have B6 : cBs (aCan ar0 m) (aSt S0 ar0) most wh (([((aB0 S0 ar0, -1, -1, 0) : eT)], o, false) : bS) (j_u2 sc5 773 13 y) car5 := by
      refine ⟨hM_c M5 (u2_na (by decide)) (fun _ _ _ => rfl), by simpa using h1, h6, fun i e he => ?_, by rw [u2_eq]; exact hy, fun i hi => by simpa using ho i hi, (u2_nk (by decide)).trans ((f5 1).trans A1), (u2_nk (by decide)).trans ((f5 14).trans A14), (u2_nk (by decide)).trans ((f5 15).trans A15)⟩
      have he : ([((aB0 S0 ar0, -1, -1, 0) : eT)])[i]? = some e := he
      have i0 : i = 0 := by
        have := (List.getElem?_eq_some_iff.mp he).1
        simp at this
        omega
      subst i0
      simp at he
      subst he
      rw [b2 789 (by decide), b2 790 (by decide), b2 792 (by decide)]
      exact ⟨r9, r0, ⟨_, R2⟩, Or.inl r2⟩
    obtain ⟨sc9, car9, g1, g2, g3⟩ := c_lvs (al := al) hn0 nn0 0 0 oF _ _ car5 (by omega) (by unfold oF; omega) (cE_Y hE (uY_tr Y5 Y6)) B6 (Nat.zero_le _) (fun i e he hi => by
      have he : ([((aB0 S0 ar0, -1, -1, 0) : eT)])[i]? = some e := he
      have := List.mem_of_getElem? he
      simp at this
      rw [this]) (fun _ i _ hi => by
      have hi : i < 1 := hi
      have : i = 0 := by omega
      subst this
      rw [b2 792 (by decide)]
      exact r2)
    have g2 := g2 601 rfl
    have eR : aRs S0 ar0 m g wh most nn0 = bGo (aCan ar0 m) (aSt S0 ar0) (aBad g) wh most nn0 601 0 ([(aB0 S0 ar0, -1, -1, 0)], o, false) := by
      unfold aRs bRs bSt
      rw [hb]
    rw [s0]
    refine ⟨_, car9, g1, ?_, ?_, ?_, ?_⟩
    · rw [eR]
      exact cBs_c g2 (u2_na (by decide)) (fun k hk => u2_nk (by omega)) (fun _ _ => rfl)
    · rw [u2_eq, eR, g2.1.1, List.length_map]
    · rw [u2_nk (by decide), g3.1 773 16 (by decide) (by decide) (by decide), u2_nk (by decide), f5 16]
      exact A16
    · exact uY_u (k := 0) (by decide) (uY_tr (uY_tr Y5 Y6) (uY_X g3))
  by_cases w : aBad g (aB0 S0 ar0) = true
  · rw [if_pos w, if_neg (by decide)]
    exact fin 0 (some 0) rfl (fun i hi => by cases hi; omega) (if_pos w)
  · rw [if_neg w, if_pos rfl]
    exact fin (-1) none rfl (fun i hi => by cases hi) (if_neg w)
end GO
