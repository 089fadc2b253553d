/-! THE ORDER of the happenings: the reference's findOrder finds what ClickOrders keeps. -/
def iV (x : Int32) (p : Prop) : Prop := (p ∧ x = 1) ∨ (¬ p ∧ x = 0)
theorem iV_0 {x : Int32} {p : Prop} (h : iV x p) : x = 0 ↔ ¬ p := by
  rcases h with ⟨a, b⟩ | ⟨a, b⟩
  · exact ⟨fun z => by rw [b] at z; exact absurd z (by decide), fun z => absurd a z⟩
  · exact ⟨fun _ => a, fun _ => b⟩
theorem iV_c {x : Int32} {p q : Prop} (h : iV x p) (e : p ↔ q) : iV x q := by
  rcases h with ⟨a, b⟩ | ⟨a, b⟩
  · exact Or.inl ⟨e.mp a, b⟩
  · exact Or.inr ⟨fun z => a (e.mpr z), b⟩
theorem iV_b {x : Int32} {p : Bool} (h : iV x (p = true)) : x = if p = true then 1 else 0 := by
  rcases h with ⟨a, b⟩ | ⟨a, b⟩
  · rw [if_pos a, b]
  · rw [if_neg a, b]
/-- W j k: k comes ahead of j -/
def oW (n : Nat) (ar : jSc) (W : Nat → Nat → Bool) : Prop := ∀ j, j < n → ∀ k, k < 64 → (W j k = true ↔ ∃ i, i < j ∧ aDr ar i j = true ∧ (k = i ∨ W i k = true))
section OW
variable {ar : jSc} {n : Nat} {W : Nat → Nat → Bool}
theorem oW_lt (h : oW n ar W) : ∀ j, j < n → ∀ k, k < 64 → W j k = true → k < j := by
  intro j
  induction j using Nat.strongRecOn with
  | _ j ih =>
    intro hj k hk w
    obtain ⟨i, a, b, d⟩ := (h j hj k hk).mp w
    rcases d with d | d
    · omega
    · have := ih i a (by omega) k hk d
      omega
theorem oW_tr (h : oW n ar W) : ∀ j, j < n → ∀ i k, i < 64 → k < 64 → W j i = true → W i k = true → W j k = true := by
  intro j
  induction j using Nat.strongRecOn with
  | _ j ih =>
    intro hj i k hi hk w1 w2
    obtain ⟨q, a, b, d⟩ := (h j hj i hi).mp w1
    refine (h j hj k hk).mpr ⟨q, a, b, ?_⟩
    rcases d with d | d
    · subst d; exact Or.inr w2
    · exact Or.inr (ih q a (by omega) i k hi hk d w2)
theorem oW_st (h : oW n ar W) (hn : n ≤ 40) {j i : Nat} (hj : j < n) (hi : i < j) : W j i = true ↔ aDr ar i j = true ∨ ∃ q, i < q ∧ q < j ∧ W j q = true ∧ W q i = true := by
  constructor
  · intro w
    obtain ⟨q, a, b, d⟩ := (h j hj i (by omega)).mp w
    rcases d with d | d
    · subst d; exact Or.inl b
    · exact Or.inr ⟨q, oW_lt h q (by omega) i (by omega) d, a, (h j hj q (by omega)).mpr ⟨q, a, b, Or.inl rfl⟩, d⟩
  · rintro (w | ⟨q, a, b, d, e⟩)
    · exact (h j hj i (by omega)).mpr ⟨i, hi, w, Or.inl rfl⟩
    · exact oW_tr h j hj q i (by omega) (by omega) d e
end OW
/-- only column j of the order's rows has changed -/
def cO (j : Nat) (ar a : jSc) : Prop := (∀ b, ¬ (62 ≤ b ∧ b < 102) → a b = ar b) ∧ ∀ b q, q ≠ j → a b q = ar b q
theorem cO_rf (j : Nat) (ar : jSc) : cO j ar ar := ⟨fun _ _ => rfl, fun _ _ _ => rfl⟩
theorem cO_tr {j : Nat} {a b c : jSc} (h : cO j a b) (h2 : cO j b c) : cO j a c := ⟨fun k w => (h2.1 k w).trans (h.1 k w), fun k q w => (h2.2 k q w).trans (h.2 k q w)⟩
theorem cO_u {j i : Nat} {ar a : jSc} {v : Int32} (h : cO j ar a) (hi : i < 40) : cO j ar (j_u2 a (62 + i) j v) := ⟨fun b hb => (j_u2_row _ _ _ _ (by omega)).trans (h.1 b hb), fun b q hq => (u2_nk hq).trans (h.2 b q hq)⟩
theorem ltF_v {ar : jSc} {t : Nat} : ∀ {j : Nat}, ltF ar t j = -1 ∨ ∃ z, z < j ∧ ltF ar t j = nI z
  | 0 => Or.inl rfl
  | j + 1 => by
    unfold ltF
    by_cases c : mP ar (j + 1) t = true ∧ mP ar j t = false
    · rw [if_pos c]; exact Or.inr ⟨j, by omega, rfl⟩
    · rw [if_neg c]
      rcases ltF_v (ar := ar) (t := t) (j := j) with h | ⟨z, h, e⟩
      · exact Or.inl h
      · exact Or.inr ⟨z, by omega, e⟩
def dI (ar : jSc) (i j : Nat) : Bool := decide (ar 16 j = nI i) || (decide (8 ≤ ar 15 j) && decide (ar 15 i = ar 15 j))
section FO
variable {S : Nat → Int32} {ar : jSc} {n : Nat}
theorem r_71 {a : jSc} {s t : Nat} (hs : s < 41) (ht : t < 8) : rF_71 (nI s) (nI t) S a = some (if mP a s t = true then 1 else 0, S, a) := by
  have e1 := bt_s1 (x := a (20 + s) 8) (k := t) (by omega)
  have e2 := bt_s0 (x := a (20 + s) 9) (k := t) (by omega)
  unfold rF_71
  rw [if_pos (iB_nI hs (by decide)), iN_nI (by omega)]
  by_cases c : bt (a (20 + s) 8) t = true
  · rw [if_pos (e1.mpr c), if_pos (iB_nI hs (by decide))]
    by_cases d : bt (a (20 + s) 9) t = false
    · rw [if_pos (e2.mpr d), if_pos (mP_i.mpr ⟨c, d⟩)]
    · rw [if_neg (fun z => d (e2.mp z)), if_neg (fun z => d (mP_i.mp z).2)]
  · rw [if_neg (fun z => c (e1.mp z)), if_neg (fun z => c (mP_i.mp z).1)]
theorem mP_c {a : jSc} {j : Nat} (h : cO j ar a) {s t : Nat} (hs : s < 41) : mP a s t = mP ar s t := by
  unfold mP
  rw [h.1 (20 + s) (by omega)]
theorem r_105 {k37 : Int32 → Int32 → Int32 → (Nat → Int32) → jSc → Option ((Nat → Int32) × jSc)} {j i c : Nat} {lt y0 : Int32} {a : jSc} (h : cO j ar a) (hj : j < 40) (hi : i < j) (hc : c < 13) (hcj : ar 15 j = nI c) (hy : y0 = 0 ∨ y0 = 1) : rF_72_105 k37 (nI j) lt (nI i) y0 S a = k37 (nI j) (if c < 8 ∧ mP ar (i + 1) c = true ∧ mP ar i c = false then nI i else lt) (nI (i + 1)) S (j_u2 a (62 + i) j y0) := by
  have g8 : (8 : Int32) ≤ nI c ↔ 8 ≤ c := nI_leI (by decide) (by omega)
  have bj : iB (nI j) 40 := iB_nI hj (by decide)
  have bi : iB (nI i) 40 := iB_nI (by omega) (by decide)
  have ac : a 15 j = nI c := by rw [h.1 15 (by omega)]; exact hcj
  have ij : iN (nI j) = j := iN_nI (by omega)
  have ii : iN (nI i) = i := iN_nI (by omega)
  unfold rF_72_105
  simp only [if_pos bj, if_pos bi, if_pos hy, ij, ii, nI_1, ac]
  by_cases z : 8 ≤ c
  · rw [if_pos (g8.mpr z), if_neg (show ¬ (c < 8 ∧ mP ar (i + 1) c = true ∧ mP ar i c = false) from fun w => absurd w.1 (by omega))]
  · rw [if_neg (fun w => z (g8.mp w)), r_71 (by omega) (by omega), ob3, mP_c h (by omega)]
    by_cases x : mP ar (i + 1) c = true
    · rw [if_pos x, if_neg (by decide), ac, r_71 (by omega) (by omega), ob3, mP_c h (by omega)]
      by_cases y : mP ar i c = true
      · rw [if_pos y, if_neg (by decide), if_neg (show ¬ (c < 8 ∧ mP ar (i + 1) c = true ∧ mP ar i c = false) from fun w => by rw [y] at w; exact absurd w.2.2 (by decide))]
      · rw [if_neg y, if_pos rfl, if_pos ⟨by omega, x, by simpa using y⟩]
    · rw [if_neg x, if_pos rfl, if_neg (show ¬ (c < 8 ∧ mP ar (i + 1) c = true ∧ mP ar i c = false) from fun w => x w.2.1)]
/-- the column is cleared -/
theorem r_o12 {k2 : Int32 → (Nat → Int32) → jSc → Option ((Nat → Int32) × jSc)} {j : Nat} (hj : j < 40) : ∃ a9, rF_72_12 k2 oF (nI j) 0 S ar = rF_72_37 k2 oF (nI j) (-1) 0 S a9 ∧ cO j ar a9 ∧ ∀ q, q < 40 → a9 (62 + q) j = 0 := by
  have bj : iB (nI j) 40 := iB_nI hj (by decide)
  have go : ∀ r i nn a, i + r = 40 → r < nn → cO j ar a → (∀ q, q < i → a (62 + q) j = 0) → ∃ a9, rF_72_12 k2 nn (nI j) (nI i) S a = rF_72_37 k2 oF (nI j) (-1) 0 S a9 ∧ cO j ar a9 ∧ ∀ q, q < 40 → a9 (62 + q) j = 0 := by
    intro r
    induction r with
    | zero =>
      intro i nn a h1 h2 h3 h4
      obtain ⟨nn, rfl⟩ : ∃ j, nn = j + 1 := ⟨nn - 1, by omega⟩
      unfold rF_72_12
      rw [if_pos (show (40 : Int32) ≤ nI i from nI_le (a := 40) (by omega) (by omega))]
      exact ⟨a, rfl, h3, fun q hq => h4 q (by omega)⟩
    | succ r ih =>
      intro i nn a h1 h2 h3 h4
      obtain ⟨nn, rfl⟩ : ∃ j, nn = j + 1 := ⟨nn - 1, by omega⟩
      unfold rF_72_12
      rw [if_neg (show ¬ (40 : Int32) ≤ nI i from nI_ge (b := 40) (by omega) (by decide)), if_pos (iB_nI (show i < 40 by omega) (by decide)), if_pos bj, iN_nI (by omega), iN_nI (by omega), nI_1]
      refine ih (i + 1) nn _ (by omega) (by omega) (cO_u h3 (by omega)) (fun q hq => ?_)
      by_cases c : q = i
      · subst c; exact u2_eq
      · rw [u2_na (by omega)]; exact h4 q (by omega)
  exact go 40 0 oF ar (by omega) (by unfold oF; omega) (cO_rf j ar) (fun q hq => absurd hq (by omega))
/-- what is directly ordered -/
theorem r_o37 {k2 : Int32 → (Nat → Int32) → jSc → Option ((Nat → Int32) × jSc)} {j c : Nat} (hj : j < 40) (hc : c < 13) (hcj : ar 15 j = nI c) (hco : ∀ i, i < j → ∃ c, c < 13 ∧ ar 15 i = nI c) {a0 : jSc} (h0 : cO j ar a0) (hz : ∀ q, q < 40 → a0 (62 + q) j = 0) : ∃ a9, rF_72_37 k2 oF (nI j) (-1) 0 S a0 = rF_72_184 k2 oF (nI j) (nI j - 1) S a9 ∧ cO j ar a9 ∧ ∀ q, q < 40 → iV (a9 (62 + q) j) (q < j ∧ aDr ar q j = true) := by
  have bj : iB (nI j) 40 := iB_nI hj (by decide)
  have g8 : (8 : Int32) ≤ nI c ↔ 8 ≤ c := nI_leI (by decide) (by omega)
  have l8 : nI c < (8 : Int32) ↔ c < 8 := nI_ltI (by omega) (by decide)
  have dr : ∀ q, aDr ar q j = true ↔ dI ar q j = true ∨ (c < 8 ∧ ltF ar c j = nI q) := by
    intro q
    unfold aDr dI
    rw [hcj, iN_nI (by omega)]
    simp only [Bool.or_eq_true, Bool.and_eq_true, decide_eq_true_eq, l8]
  have go : ∀ r i nn a lt, i + r = j → r < nn → cO j ar a → (∀ q, q < 40 → iV (a (62 + q) j) (q < i ∧ dI ar q j = true)) → lt = (if c < 8 then ltF ar c i else -1) → ∃ a9, rF_72_37 k2 nn (nI j) lt (nI i) S a = rF_72_184 k2 oF (nI j) (nI j - 1) S a9 ∧ cO j ar a9 ∧ ∀ q, q < 40 → iV (a9 (62 + q) j) (q < j ∧ aDr ar q j = true) := by
    intro r
    induction r with
    | zero =>
      intro i nn a lt h1 h2 h3 h4 h5
      obtain ⟨nn, rfl⟩ : ∃ j, nn = j + 1 := ⟨nn - 1, by omega⟩
      have ij : i = j := by omega
      subst ij
      unfold rF_72_37
      rw [if_pos (show nI i ≤ nI i from nI_le (Nat.le_refl _) (by omega))]
      by_cases z : c < 8 ∧ ¬ ltF ar c i = -1
      · rcases ltF_v (ar := ar) (t := c) (j := i) with e | ⟨w, hw, e⟩
        · exact absurd e z.2
        · rw [if_pos z.1, e] at h5
          rw [h5, if_neg (nI_nm (by omega)), if_pos (iB_nI (show w < 40 by omega) (by decide)), if_pos bj, iN_nI (by omega), iN_nI (by omega)]
          refine ⟨_, rfl, cO_u h3 (by omega), fun q hq => ?_⟩
          by_cases x : q = w
          · subst x
            rw [u2_eq]
            exact Or.inl ⟨⟨hw, (dr q).mpr (Or.inr ⟨z.1, e⟩)⟩, rfl⟩
          · rw [u2_na (by omega)]
            refine iV_c (h4 q hq) (and_congr_right fun _ => ?_)
            rw [dr q]
            constructor
            · exact Or.inl
            · rintro (y | ⟨-, y⟩)
              · exact y
              · rw [e] at y
                exact absurd ((nI_eq (by omega) (by omega)).mp y).symm x
      · have l1 : lt = -1 := by
          rw [h5]
          by_cases y : c < 8
          · rw [if_pos y]
            exact Classical.byContradiction fun w => z ⟨y, w⟩
          · rw [if_neg y]
        rw [if_pos l1]
        refine ⟨_, rfl, h3, fun q hq => iV_c (h4 q hq) (and_congr_right fun _ => ?_)⟩
        rw [dr q]
        constructor
        · exact Or.inl
        · rintro (y | ⟨y1, y⟩)
          · exact y
          · exact absurd (y.symm.trans (Classical.byContradiction fun w => z ⟨y1, w⟩)) (nI_nm (by omega))
    | succ r ih =>
      intro i nn a lt h1 h2 h3 h4 h5
      obtain ⟨nn, rfl⟩ : ∃ j, nn = j + 1 := ⟨nn - 1, by omega⟩
      obtain ⟨d, hd, hdi⟩ := hco i (by omega)
      have bi : iB (nI i) 40 := iB_nI (by omega) (by decide)
      have a16 : a 16 j = ar 16 j := by rw [h3.1 16 (by omega)]
      have a15 : a 15 j = nI c := by rw [h3.1 15 (by omega)]; exact hcj
      have a15i : a 15 i = nI d := by rw [h3.1 15 (by omega)]; exact hdi
      have key : rF_72_37 k2 (nn + 1) (nI j) lt (nI i) S a = rF_72_105 (fun x1_ x2_ x3_ S_ ar_ => rF_72_37 k2 nn x1_ x2_ x3_ S_ ar_) (nI j) lt (nI i) (if dI ar i j = true then 1 else 0) S a := by
        have dd : dI ar i j = true ↔ ar 16 j = nI i ∨ (8 ≤ c ∧ d = c) := by
          unfold dI
          rw [hcj, hdi]
          simp only [Bool.or_eq_true, Bool.and_eq_true, decide_eq_true_eq, g8, nI_eq (show d < 2 ^ 31 by omega) (show c < 2 ^ 31 by omega)]
        have d8 : nI d = (8 : Int32) ↔ d = 8 := nI_eq (b := 8) (by omega) (by decide)
        have c8 : nI c = (8 : Int32) ↔ c = 8 := nI_eq (b := 8) (by omega) (by decide)
        have dl8 : nI d ≤ (8 : Int32) ↔ d ≤ 8 := nI_leI (b := 8) (by omega) (by decide)
        have dc : nI d = nI c ↔ d = c := nI_eq (by omega) (by omega)
        rw [rF_72_37]
        rw [if_neg (show ¬ nI j ≤ nI i from nI_ge (by omega) (by omega)), if_pos bj, iN_nI (show j < 2 ^ 31 by omega), a16]
        by_cases x : ar 16 j = nI i
        · rw [if_pos x, if_pos (dd.mpr (Or.inl x))]
        · rw [if_neg x, if_pos bi, iN_nI (by omega), a15i, if_pos bj, a15]
          have t74 : rF_72_74 (fun x1_ x2_ x3_ S_ ar_ => rF_72_37 k2 nn x1_ x2_ x3_ S_ ar_) (nI j) lt (nI i) S a = rF_72_105 (fun x1_ x2_ x3_ S_ ar_ => rF_72_37 k2 nn x1_ x2_ x3_ S_ ar_) (nI j) lt (nI i) (if 8 < d ∧ d = c then 1 else 0) S a := by
            have ij : iN (nI j) = j := iN_nI (by omega)
            have ii : iN (nI i) = i := iN_nI (by omega)
            unfold rF_72_74
            simp only [if_pos bi, if_pos bj, ij, ii, a15i, a15]
            by_cases y : d ≤ 8
            · rw [if_pos (dl8.mpr y), if_neg (fun w => absurd w.1 (by omega))]
            · rw [if_neg (fun w => y (dl8.mp w))]
              by_cases z : d = c
              · rw [if_pos (dc.mpr z), if_pos ⟨by omega, z⟩]
              · rw [if_neg (fun w => z (dc.mp w)), if_neg (fun w => z w.2)]
          rw [t74]
          have dq : dI ar i j = true ↔ 8 ≤ c ∧ d = c := ⟨fun w => (dd.mp w).resolve_left x, fun w => dd.mpr (Or.inr w)⟩
          by_cases y : d = 8
          · rw [if_pos (d8.mpr y)]
            by_cases z : c = 8
            · rw [if_pos (c8.mpr z), if_pos (dq.mpr ⟨by omega, by omega⟩)]
            · rw [if_neg (fun w => z (c8.mp w)), if_neg (fun w => by omega), if_neg (fun w => by have := dq.mp w; omega)]
          · rw [if_neg (fun w => y (d8.mp w))]
            by_cases z : 8 < d ∧ d = c
            · rw [if_pos z, if_pos (dq.mpr ⟨by omega, by omega⟩)]
            · rw [if_neg z, if_neg (fun w => by have := dq.mp w; omega)]
      rw [key, r_105 h3 hj (by omega) hc hcj (by by_cases w : dI ar i j = true; exact Or.inr (if_pos w); exact Or.inl (if_neg w))]
      refine ih (i + 1) nn _ _ (by omega) (by omega) (cO_u h3 (by omega)) (fun q hq => ?_) ?_
      · by_cases x : q = i
        · subst x
          rw [u2_eq]
          by_cases w : dI ar q j = true
          · rw [if_pos w]; exact Or.inl ⟨⟨by omega, w⟩, rfl⟩
          · rw [if_neg w]; exact Or.inr ⟨fun y => w y.2, rfl⟩
        · rw [u2_na (by omega)]
          exact iV_c (h4 q hq) (and_congr_left fun _ => by omega)
      · rw [h5]
        by_cases x : c < 8
        · rw [if_pos x, if_pos x]
          show _ = (if mP ar (i + 1) c = true ∧ mP ar i c = false then nI i else ltF ar c i)
          by_cases y : mP ar (i + 1) c = true ∧ mP ar i c = false
          · rw [if_pos y, if_pos ⟨x, y⟩]
          · rw [if_neg y, if_neg (fun w => y w.2)]
        · rw [if_neg x, if_neg x, if_neg (fun w => x w.1)]
  refine go j 0 oF a0 (-1) (by omega) (by unfold oF; omega) h0 (fun q hq => ?_) ?_
  · rw [hz q hq]; exact Or.inr ⟨fun w => absurd w.1 (by omega), rfl⟩
  · by_cases x : c < 8
    · rw [if_pos x]; rfl
    · rw [if_neg x]
/-- what is ordered through i -/
theorem r_o191 {k184 : Int32 → Int32 → (Nat → Int32) → jSc → Option ((Nat → Int32) × jSc)} {j i : Nat} (hj : j < 40) (hi : i < j) {a0 : jSc} (h0 : cO j ar a0) : ∃ a9, rF_72_191 k184 oF (nI j) (nI i) 0 S a0 = k184 (nI j) (nI i + -1) S a9 ∧ cO j ar a9 ∧ (∀ z, i ≤ z → a9 (62 + z) j = a0 (62 + z) j) ∧ ∀ z, z < i → iV (a9 (62 + z) j) (¬ a0 (62 + z) j = 0 ∨ (¬ a0 (62 + i) j = 0 ∧ ¬ ar (62 + z) i = 0)) := by
  have bj : iB (nI j) 40 := iB_nI hj (by decide)
  have bi : iB (nI i) 40 := iB_nI (by omega) (by decide)
  have go : ∀ r q nn a, q + r = i → r < nn → cO j ar a → (∀ z, q ≤ z → a (62 + z) j = a0 (62 + z) j) → (∀ z, z < q → iV (a (62 + z) j) (¬ a0 (62 + z) j = 0 ∨ (¬ a0 (62 + i) j = 0 ∧ ¬ ar (62 + z) i = 0))) → ∃ a9, rF_72_191 k184 nn (nI j) (nI i) (nI q) S a = k184 (nI j) (nI i + -1) S a9 ∧ cO j ar a9 ∧ (∀ z, i ≤ z → a9 (62 + z) j = a0 (62 + z) j) ∧ ∀ z, z < i → iV (a9 (62 + z) j) (¬ a0 (62 + z) j = 0 ∨ (¬ a0 (62 + i) j = 0 ∧ ¬ ar (62 + z) i = 0)) := by
    intro r
    induction r with
    | zero =>
      intro q nn a h1 h2 h3 h4 h5
      obtain ⟨nn, rfl⟩ : ∃ j, nn = j + 1 := ⟨nn - 1, by omega⟩
      unfold rF_72_191
      rw [if_pos (nI_le (by omega) (by omega))]
      exact ⟨a, rfl, h3, fun z hz => h4 z (by omega), fun z hz => h5 z (by omega)⟩
    | succ r ih =>
      intro q nn a h1 h2 h3 h4 h5
      obtain ⟨nn, rfl⟩ : ∃ j, nn = j + 1 := ⟨nn - 1, by omega⟩
      have bq : iB (nI q) 40 := iB_nI (by omega) (by decide)
      have st : ∀ v, iV v (¬ a0 (62 + q) j = 0 ∨ (¬ a0 (62 + i) j = 0 ∧ ¬ ar (62 + q) i = 0)) → ∃ a9, rF_72_191 k184 nn (nI j) (nI i) (nI (q + 1)) S (j_u2 a (62 + q) j v) = k184 (nI j) (nI i + -1) S a9 ∧ cO j ar a9 ∧ (∀ z, i ≤ z → a9 (62 + z) j = a0 (62 + z) j) ∧ ∀ z, z < i → iV (a9 (62 + z) j) (¬ a0 (62 + z) j = 0 ∨ (¬ a0 (62 + i) j = 0 ∧ ¬ ar (62 + z) i = 0)) := by
        intro v hv
        refine ih (q + 1) nn _ (by omega) (by omega) (cO_u h3 (by omega)) (fun z hz => ?_) (fun z hz => ?_)
        · rw [u2_na (by omega)]; exact h4 z (by omega)
        · by_cases x : z = q
          · subst x; rw [u2_eq]; exact hv
          · rw [u2_na (by omega)]; exact h5 z (by omega)
      have e1 : a (62 + q) j = a0 (62 + q) j := h4 q (Nat.le_refl _)
      have e2 : a (62 + i) j = a0 (62 + i) j := h4 i (by omega)
      have e3 : a (62 + q) i = ar (62 + q) i := h3.2 _ _ (by omega)
      have ij : iN (nI j) = j := iN_nI (by omega)
      have ii : iN (nI i) = i := iN_nI (by omega)
      have iq : iN (nI q) = q := iN_nI (by omega)
      have nle : ¬ nI i ≤ nI q := nI_ge (by omega) (by omega)
      unfold rF_72_191
      simp only [if_neg nle, if_pos bi, if_pos bj, if_pos bq, ij, ii, iq, e1, e2, e3, nI_1]
      by_cases x : a0 (62 + q) j = 0
      · rw [if_pos x]
        by_cases y : a0 (62 + i) j = 0
        · rw [if_pos y]
          exact st 0 (Or.inr ⟨fun w => w.elim (fun w => w x) (fun w => w.1 y), rfl⟩)
        · rw [if_neg y]
          by_cases z : ar (62 + q) i = 0
          · rw [if_pos z]
            exact st 0 (Or.inr ⟨fun w => w.elim (fun w => w x) (fun w => w.2 z), rfl⟩)
          · rw [if_neg z]
            exact st 1 (Or.inl ⟨Or.inr ⟨y, z⟩, rfl⟩)
      · rw [if_neg x]
        exact st 1 (Or.inl ⟨Or.inl x, rfl⟩)
  exact go i 0 oF a0 (by omega) (by unfold oF; omega) h0 (fun z _ => rfl) (fun z hz => absurd hz (by omega))
theorem r_o184 {W : Nat → Nat → Bool} {k2 : Int32 → (Nat → Int32) → jSc → Option ((Nat → Int32) × jSc)} {j : Nat} (hW : oW n ar W) (hn : n ≤ 40) (hj : j < n) (hcol : ∀ q, q < j → ∀ z, z < 40 → iV (ar (62 + z) q) (W q z = true)) {a0 : jSc} (h0 : cO j ar a0) (hd : ∀ q, q < 40 → iV (a0 (62 + q) j) (q < j ∧ aDr ar q j = true)) : ∃ a9, rF_72_184 k2 oF (nI j) (nI j - 1) S a0 = k2 (nI (j + 1)) S a9 ∧ cO j ar a9 ∧ ∀ z, z < 40 → iV (a9 (62 + z) j) (W j z = true) := by
  have go : ∀ i nn a x3, i ≤ j → i < nn → (i = 0 → x3 = -1) → (0 < i → x3 = nI (i - 1)) → cO j ar a → (∀ z, z < 40 → iV (a (62 + z) j) (z < j ∧ (aDr ar z j = true ∨ ∃ q, i ≤ q ∧ q < j ∧ z < q ∧ W j q = true ∧ W q z = true))) → ∃ a9, rF_72_184 k2 nn (nI j) x3 S a = k2 (nI (j + 1)) S a9 ∧ cO j ar a9 ∧ ∀ z, z < 40 → iV (a9 (62 + z) j) (W j z = true) := by
    intro i
    induction i with
    | zero =>
      intro nn a x3 h1 h2 h3 h4 h5 h6
      obtain ⟨nn, rfl⟩ : ∃ j, nn = j + 1 := ⟨nn - 1, by omega⟩
      rw [h3 rfl]
      unfold rF_72_184
      rw [if_pos (by decide), nI_1]
      refine ⟨a, rfl, h5, fun z hz => iV_c (h6 z hz) ?_⟩
      constructor
      · rintro ⟨w, x⟩
        refine (oW_st hW hn hj w).mpr ?_
        rcases x with x | ⟨q, x1, x2, x3, x4⟩
        · exact Or.inl x
        · exact Or.inr ⟨q, x3, x2, x4⟩
      · intro w
        have lt := oW_lt hW j hj z (by omega) w
        refine ⟨lt, ?_⟩
        rcases (oW_st hW hn hj lt).mp w with x | ⟨q, x1, x2, x3⟩
        · exact Or.inl x
        · exact Or.inr ⟨q, by omega, x2, x1, x3⟩
    | succ i ih =>
      intro nn a x3 h1 h2 h3 h4 h5 h6
      obtain ⟨nn, rfl⟩ : ∃ j, nn = j + 1 := ⟨nn - 1, by omega⟩
      rw [h4 (by omega), show i + 1 - 1 = i by omega]
      unfold rF_72_184
      rw [if_neg (nI_pos (by omega))]
      obtain ⟨a9, e1, e2, e3, e4⟩ := r_o191 (S := S) (k184 := fun x1_ x3_ S_ ar_ => rF_72_184 k2 nn x1_ x3_ S_ ar_) (show j < 40 by omega) (show i < j by omega) h5
      rw [e1]
      have em : nI i + (-1 : Int32) = nI i - 1 := (Int32.sub_eq_add_neg ..).symm
      -- the row of i is final
      have fi : ¬ a (62 + i) j = 0 ↔ W j i = true := by
        rw [iV_0 (h6 i (by omega)), Classical.not_not, oW_st hW hn hj (show i < j by omega)]
        constructor
        · rintro ⟨-, x | ⟨q, x1, x2, x3, x4⟩⟩
          · exact Or.inl x
          · exact Or.inr ⟨q, x3, x2, x4⟩
        · rintro (x | ⟨q, x1, x2, x3⟩)
          · exact ⟨by omega, Or.inl x⟩
          · exact ⟨by omega, Or.inr ⟨q, by omega, x2, x1, x3⟩⟩
      refine ih nn a9 _ (by omega) (by omega) (fun h => by rw [h]; decide) (fun h => by rw [em, nI_p1 h]) e2 (fun z hz => ?_)
      by_cases zi : z < i
      · refine iV_c (e4 z zi) ?_
        rw [fi, iV_0 (h6 z hz), Classical.not_not, iV_0 (hcol i (by omega) z hz), Classical.not_not]
        constructor
        · rintro (⟨x, y | ⟨q, y1, y2⟩⟩ | ⟨x, y⟩)
          · exact ⟨x, Or.inl y⟩
          · exact ⟨x, Or.inr ⟨q, by omega, y2⟩⟩
          · exact ⟨by omega, Or.inr ⟨i, by omega, by omega, zi, x, y⟩⟩
        · rintro ⟨x, y | ⟨q, y1, y2, y3, y4, y5⟩⟩
          · exact Or.inl ⟨x, Or.inl y⟩
          · by_cases qi : q = i
            · subst qi; exact Or.inr ⟨y4, y5⟩
            · exact Or.inl ⟨x, Or.inr ⟨q, by omega, y2, y3, y4, y5⟩⟩
      · rw [e3 z (by omega)]
        refine iV_c (h6 z hz) (and_congr_right fun zj => or_congr_right ?_)
        constructor
        · rintro ⟨q, y1, y2⟩
          exact ⟨q, by omega, y2⟩
        · rintro ⟨q, y1, y2, y3, y4⟩
          exact ⟨q, by omega, y2, y3, y4⟩
  refine go j oF a0 _ (Nat.le_refl _) (by unfold oF; omega) (fun h => by rw [h]; decide) (fun h => nI_p1 h) h0 (fun z hz => iV_c (hd z hz) (and_congr_right fun _ => ?_))
  constructor
  · exact Or.inl
  · rintro (x | ⟨q, x1, x2, -⟩)
    · exact x
    · omega
/-- findOrder -/
theorem r_order {W : Nat → Nat → Bool} (hW : oW n ar W) (hn : n ≤ 40) (h31 : S 31 = nI n) (hco : ∀ i, i < n → ∃ c, c < 13 ∧ ar 15 i = nI c) : ∃ ar9, rF_72 S ar = some (S, ar9) ∧ (∀ b, ¬ (62 ≤ b ∧ b < 102) → ar9 b = ar b) ∧ ∀ j, j < n → ∀ z, z < 40 → iV (ar9 (62 + z) j) (W j z = true) := by
  have go : ∀ r j nn a, j + r = n → r < nn → (∀ b, ¬ (62 ≤ b ∧ b < 102) → a b = ar b) → (∀ q, q < j → ∀ z, z < 40 → iV (a (62 + z) q) (W q z = true)) → ∃ ar9, rF_72_2 nn (nI j) S a = some (S, ar9) ∧ (∀ b, ¬ (62 ≤ b ∧ b < 102) → ar9 b = ar b) ∧ ∀ j, j < n → ∀ z, z < 40 → iV (ar9 (62 + z) j) (W j z = true) := by
    intro r
    induction r with
    | zero =>
      intro j nn a h1 h2 h3 h4
      obtain ⟨nn, rfl⟩ : ∃ j, nn = j + 1 := ⟨nn - 1, by omega⟩
      unfold rF_72_2
      rw [h31, if_pos (nI_le (by omega) (by omega))]
      exact ⟨a, rfl, h3, fun q hq => h4 q (by omega)⟩
    | succ r ih =>
      intro j nn a h1 h2 h3 h4
      obtain ⟨nn, rfl⟩ : ∃ j, nn = j + 1 := ⟨nn - 1, by omega⟩
      have a15 : a 15 = ar 15 := h3 15 (by omega)
      have dd : ∀ i j, j ≤ 40 → aDr a i j = aDr ar i j := by
        intro i j hj
        unfold aDr
        rw [a15, h3 16 (by omega), ltF_c (ar2 := a) (ar := ar) (fun s hs => h3 (20 + s) (by omega))]
      have hW2 : oW n a W := fun q hq k hk => by rw [hW q hq k hk]; simp only [dd _ q (by omega)]
      obtain ⟨c, hc, hcj⟩ := hco j (by omega)
      unfold rF_72_2
      rw [h31, if_neg (nI_ge (by omega) (by omega))]
      obtain ⟨a1, e1, e2, e3⟩ := r_o12 (S := S) (ar := a) (k2 := fun x1_ S_ ar_ => rF_72_2 nn x1_ S_ ar_) (show j < 40 by omega)
      obtain ⟨a2, f1, f2, f3⟩ := r_o37 (S := S) (ar := a) (k2 := fun x1_ S_ ar_ => rF_72_2 nn x1_ S_ ar_) (show j < 40 by omega) hc (by rw [a15]; exact hcj) (fun i hi => by rw [a15]; exact hco i (by omega)) e2 e3
      obtain ⟨a3, g1, g2, g3⟩ := r_o184 (S := S) (ar := a) (k2 := fun x1_ S_ ar_ => rF_72_2 nn x1_ S_ ar_) hW2 hn (show j < n by omega) h4 f2 f3
      rw [e1, f1, g1]
      refine ih (j + 1) nn a3 (by omega) (by omega) (fun b hb => (g2.1 b hb).trans (h3 b hb)) (fun q hq z hz => ?_)
      by_cases x : q = j
      · subst x; exact g3 z hz
      · rw [g2.2 (62 + z) q x]; exact h4 q (by omega) z hz
  exact go n 0 oF ar (by omega) (by unfold oF; omega) (fun _ _ => rfl) (fun q hq => absurd hq (by omega))
end FO
