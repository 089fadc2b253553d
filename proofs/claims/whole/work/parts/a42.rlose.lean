/-! WORDS LOST, in the reference: windows kept and loaded, the search. -/
/-- the windows as they are kept -/
def kR (S : Nat → Int32) (ar : jSc) : Nat → Int32 := fun i => if i < 38 then ar 714 i else if i < 76 then ar 715 (i - 38) else if i < 80 then ar 716 (i - 76) else if i < 84 then (if ar 718 (i - 80) = 0 then 0 else 1) else if i < 88 then (if ar 719 (i - 84) = 0 then 0 else 1) else S 57
section KP
variable {S : Nat → Int32} {ar : jSc}
theorem kR_80 {k : Nat} (h : k < 4) : kR S ar (80 + k) = if ar 718 k = 0 then 0 else 1 := by
  unfold kR
  rw [if_neg (show ¬ 80 + k < 38 by omega), if_neg (show ¬ 80 + k < 76 by omega), if_neg (show ¬ 80 + k < 80 by omega), if_pos (show 80 + k < 84 by omega), show 80 + k - 80 = k by omega]
theorem kR_84 {k : Nat} (h : k < 4) : kR S ar (84 + k) = if ar 719 k = 0 then 0 else 1 := by
  unfold kR
  rw [if_neg (show ¬ 84 + k < 38 by omega), if_neg (show ¬ 84 + k < 76 by omega), if_neg (show ¬ 84 + k < 80 by omega), if_neg (show ¬ 84 + k < 84 by omega), if_pos (show 84 + k < 88 by omega), show 84 + k - 84 = k by omega]
theorem r_114 {e : Nat} (he : e < 8) : ∃ ar9, rF_114 (nI e) S ar = some (S, ar9) ∧ (∀ i, i < 89 → ar9 (721 + e) i = kR S ar i) ∧ ∀ b, b ≠ 721 + e → ar9 b = ar b := by
  have be : iB (nI e) 8 := iB_nI he (by decide)
  have ie : iN (nI e) = e := iN_nI (by omega)
  have go2 : ∀ r k nn a, k + r = 4 → r < nn → (∀ i, i < 88 → (i < 76 ∨ i < 76 + k ∨ (80 ≤ i ∧ i < 80 + k) ∨ (84 ≤ i ∧ i < 84 + k)) → ¬ (76 + k ≤ i ∧ i < 80) → ¬ (80 + k ≤ i ∧ i < 84) → a (721 + e) i = kR S ar i) → (∀ b, b ≠ 721 + e → a b = ar b) → ∃ ar9, rF_114_51 nn (nI e) (nI k) S a = some (S, ar9) ∧ (∀ i, i < 89 → ar9 (721 + e) i = kR S ar i) ∧ ∀ b, b ≠ 721 + e → ar9 b = ar b := by
    intro r
    induction r with
    | zero =>
      intro k nn a h1 h2 h3 h4
      obtain ⟨nn, rfl⟩ : ∃ j, nn = j + 1 := ⟨nn - 1, by omega⟩
      unfold rF_114_51
      rw [if_pos (show (4 : Int32) ≤ nI k from nI_le (a := 4) (by omega) (by omega)), if_pos be, ie]
      refine ⟨_, rfl, fun i hi => ?_, fun b hb => (j_u2_row _ _ _ _ hb).trans (h4 b hb)⟩
      by_cases z : i = 88
      · subst z
        rw [u2_eq]
        unfold kR
        rw [if_neg (by decide), if_neg (by decide), if_neg (by decide), if_neg (by decide), if_neg (by decide)]
      · rw [u2_nk z]
        exact h3 i (by omega) (by omega) (by omega) (by omega)
    | succ r ih =>
      intro k nn a h1 h2 h3 h4
      obtain ⟨nn, rfl⟩ : ∃ j, nn = j + 1 := ⟨nn - 1, by omega⟩
      have bk : iB (nI k) 4 := iB_nI (by omega) (by decide)
      have ik : iN (nI k) = k := iN_nI (by omega)
      have e76 : (76 : Int32) + nI k = nI (76 + k) := nI_add 76 k
      have e80 : (80 : Int32) + nI k = nI (80 + k) := nI_add 80 k
      have e84 : (84 : Int32) + nI k = nI (84 + k) := nI_add 84 k
      have i76 : iN (nI (76 + k)) = 76 + k := iN_nI (by omega)
      have i80 : iN (nI (80 + k)) = 80 + k := iN_nI (by omega)
      have i84 : iN (nI (84 + k)) = 84 + k := iN_nI (by omega)
      have b76 : iB (nI (76 + k)) 89 := iB_nI (by omega) (by decide)
      have b80 : iB (nI (80 + k)) 89 := iB_nI (by omega) (by decide)
      have b84 : iB (nI (84 + k)) 89 := iB_nI (by omega) (by decide)
      have n4 : ¬ (4 : Int32) ≤ nI k := nI_ge (b := 4) (by omega) (by decide)
      have q8 : ∀ (f : jSc) (j : Nat) (x : Int32), (j_u2 f (721 + e) j x) 718 k = f 718 k := fun f j x => u2_na (by omega)
      have q9 : ∀ (f : jSc) (j : Nat) (x : Int32), (j_u2 f (721 + e) j x) 719 k = f 719 k := fun f j x => u2_na (by omega)
      have a8 : a 718 k = ar 718 k := by rw [h4 718 (by omega)]
      have a9 : a 719 k = ar 719 k := by rw [h4 719 (by omega)]
      have a6 : a 716 k = ar 716 k := by rw [h4 716 (by omega)]
      have st : ∀ x y : Int32, x = (if ar 718 k = 0 then 0 else 1) → y = (if ar 719 k = 0 then 0 else 1) → ∃ ar9, rF_114_51 nn (nI e) (nI (k + 1)) S (j_u2 (j_u2 (j_u2 a (721 + e) (76 + k) (ar 716 k)) (721 + e) (80 + k) x) (721 + e) (84 + k) y) = some (S, ar9) ∧ (∀ i, i < 89 → ar9 (721 + e) i = kR S ar i) ∧ ∀ b, b ≠ 721 + e → ar9 b = ar b := by
        intro x y hx hy
        refine ih (k + 1) nn _ (by omega) (by omega) (fun i hi h5 h6 h7 => ?_) (fun b hb => by rw [j_u2_row _ _ _ _ hb, j_u2_row _ _ _ _ hb, j_u2_row _ _ _ _ hb]; exact h4 b hb)
        by_cases z : i = 84 + k
        · subst z
          rw [u2_eq, hy, kR_84 (by omega)]
        · rw [u2_nk z]
          by_cases z : i = 80 + k
          · subst z
            rw [u2_eq, hx, kR_80 (by omega)]
          · rw [u2_nk z]
            by_cases z : i = 76 + k
            · subst z
              rw [u2_eq]
              unfold kR
              rw [if_neg (by omega), if_neg (by omega), if_pos (by omega), show 76 + k - 76 = k by omega]
            · rw [u2_nk z]
              exact h3 i hi (by omega) (by omega) (by omega)
      have t99 : ∀ (x : Int32) (f : jSc), f = j_u2 a (721 + e) (76 + k) (ar 716 k) → rF_114_99 (fun x1_ x2_ S_ ar_ => rF_114_51 nn x1_ x2_ S_ ar_) (nI e) (nI k) x (nI (80 + k)) (721 + e) S f = rF_114_51 nn (nI e) (nI (k + 1)) S (j_u2 (j_u2 f (721 + e) (80 + k) x) (721 + e) (84 + k) (if ar 719 k = 0 then 0 else 1)) := by
        intro x f hf
        unfold rF_114_99
        simp only [if_pos b80, if_pos be, if_pos bk, e84, if_pos b84, i80, i84, ie, ik, nI_1]
        rw [q9, hf, q9, a9]
        by_cases z : ar 719 k = 0
        · rw [if_pos z, if_pos z]
        · rw [if_neg z, if_neg z]
      rw [rF_114_51]
      simp only [if_neg n4, if_pos be, if_pos bk, e76, e80, if_pos b76, i76, ie, ik]
      rw [a6, q8, a8, t99 _ _ rfl, t99 _ _ rfl]
      by_cases z : ar 718 k = 0
      · rw [if_pos z]
        exact st 0 _ (by rw [if_pos z]) rfl
      · rw [if_neg z]
        exact st 1 _ (by rw [if_neg z]) rfl
  have go1 : ∀ r k nn a, k + r = 38 → r < nn → (∀ i, i < k ∨ (38 ≤ i ∧ i < 38 + k) → a (721 + e) i = kR S ar i) → (∀ b, b ≠ 721 + e → a b = ar b) → ∃ ar9, rF_114_2 nn (nI e) (nI k) S a = some (S, ar9) ∧ (∀ i, i < 89 → ar9 (721 + e) i = kR S ar i) ∧ ∀ b, b ≠ 721 + e → ar9 b = ar b := by
    intro r
    induction r with
    | zero =>
      intro k nn a h1 h2 h3 h4
      obtain ⟨nn, rfl⟩ : ∃ j, nn = j + 1 := ⟨nn - 1, by omega⟩
      unfold rF_114_2
      rw [if_pos (show (38 : Int32) ≤ nI k from nI_le (a := 38) (by omega) (by omega))]
      exact go2 4 0 oF a (by omega) (by unfold oF; omega) (fun i hi h5 h6 h7 => h3 i (by omega)) h4
    | succ r ih =>
      intro k nn a h1 h2 h3 h4
      obtain ⟨nn, rfl⟩ : ∃ j, nn = j + 1 := ⟨nn - 1, by omega⟩
      have bk : iB (nI k) 53 := iB_nI (by omega) (by decide)
      have bk9 : iB (nI k) 89 := iB_nI (by omega) (by decide)
      have e38 : (38 : Int32) + nI k = nI (38 + k) := nI_add 38 k
      have b38 : iB (nI (38 + k)) 89 := iB_nI (by omega) (by decide)
      have n38 : ¬ (38 : Int32) ≤ nI k := nI_ge (b := 38) (by omega) (by decide)
      have ik : iN (nI k) = k := iN_nI (by omega)
      have i38 : iN (nI (38 + k)) = 38 + k := iN_nI (by omega)
      rw [rF_114_2]
      simp only [if_neg n38, if_pos be, if_pos bk, if_pos bk9, e38, if_pos b38, ik, i38, ie, nI_1]
      rw [u2_na (show 715 ≠ 721 + e by omega), h4 715 (by omega), h4 714 (by omega)]
      refine ih (k + 1) nn _ (by omega) (by omega) (fun i hi => ?_) (fun b hb => by rw [j_u2_row _ _ _ _ hb, j_u2_row _ _ _ _ hb]; exact h4 b hb)
      by_cases z : i = 38 + k
      · subst z
        rw [u2_eq]
        unfold kR
        rw [if_neg (by omega), if_pos (by omega), show 38 + k - 38 = k by omega]
      · rw [u2_nk z]
        by_cases z : i = k
        · subst z
          rw [u2_eq]
          unfold kR
          rw [if_pos (by omega)]
        · rw [u2_nk z]
          exact h3 i (by omega)
  unfold rF_114
  exact go1 38 0 oF ar (by omega) (by unfold oF; omega) (fun i hi => absurd hi (by omega)) (fun _ _ => rfl)
theorem r_115 {e : Nat} (he : e < 8) : ∃ ar9, rF_115 (nI e) S ar = some (upd S 57 (ar (721 + e) 88), ar9) ∧ (∀ k, k < 38 → ar9 714 k = ar (721 + e) k ∧ ar9 715 k = ar (721 + e) (38 + k)) ∧ (∀ k, k < 4 → ar9 716 k = ar (721 + e) (76 + k) ∧ ar9 718 k = (if ar (721 + e) (80 + k) = 1 then 1 else 0) ∧ ar9 719 k = (if ar (721 + e) (84 + k) = 1 then 1 else 0)) ∧ ∀ b, b ≠ 714 → b ≠ 715 → b ≠ 716 → b ≠ 718 → b ≠ 719 → ar9 b = ar b := by
  have be : iB (nI e) 8 := iB_nI he (by decide)
  have ie : iN (nI e) = e := iN_nI (by omega)
  have go2 : ∀ r k nn a, k + r = 4 → r < nn → (∀ k, k < 38 → a 714 k = ar (721 + e) k ∧ a 715 k = ar (721 + e) (38 + k)) → (∀ q, q < k → a 716 q = ar (721 + e) (76 + q) ∧ a 718 q = (if ar (721 + e) (80 + q) = 1 then 1 else 0) ∧ a 719 q = (if ar (721 + e) (84 + q) = 1 then 1 else 0)) → (∀ b, b ≠ 714 → b ≠ 715 → b ≠ 716 → b ≠ 718 → b ≠ 719 → a b = ar b) → ∃ ar9, rF_115_51 nn (nI e) (nI k) S a = some (upd S 57 (ar (721 + e) 88), ar9) ∧ (∀ k, k < 38 → ar9 714 k = ar (721 + e) k ∧ ar9 715 k = ar (721 + e) (38 + k)) ∧ (∀ k, k < 4 → ar9 716 k = ar (721 + e) (76 + k) ∧ ar9 718 k = (if ar (721 + e) (80 + k) = 1 then 1 else 0) ∧ ar9 719 k = (if ar (721 + e) (84 + k) = 1 then 1 else 0)) ∧ ∀ b, b ≠ 714 → b ≠ 715 → b ≠ 716 → b ≠ 718 → b ≠ 719 → ar9 b = ar b := by
    intro r
    induction r with
    | zero =>
      intro k nn a h1 h2 h0 h3 h4
      obtain ⟨nn, rfl⟩ : ∃ j, nn = j + 1 := ⟨nn - 1, by omega⟩
      unfold rF_115_51
      rw [if_pos (show (4 : Int32) ≤ nI k from nI_le (a := 4) (by omega) (by omega)), if_pos be, ie, h4 (721 + e) (by omega) (by omega) (by omega) (by omega) (by omega)]
      exact ⟨a, rfl, h0, fun q hq => h3 q (by omega), h4⟩
    | succ r ih =>
      intro k nn a h1 h2 h0 h3 h4
      obtain ⟨nn, rfl⟩ : ∃ j, nn = j + 1 := ⟨nn - 1, by omega⟩
      have bk : iB (nI k) 4 := iB_nI (by omega) (by decide)
      have ik : iN (nI k) = k := iN_nI (by omega)
      have e76 : (76 : Int32) + nI k = nI (76 + k) := nI_add 76 k
      have e80 : (80 : Int32) + nI k = nI (80 + k) := nI_add 80 k
      have e84 : (84 : Int32) + nI k = nI (84 + k) := nI_add 84 k
      have i76 : iN (nI (76 + k)) = 76 + k := iN_nI (by omega)
      have i80 : iN (nI (80 + k)) = 80 + k := iN_nI (by omega)
      have i84 : iN (nI (84 + k)) = 84 + k := iN_nI (by omega)
      have b76 : iB (nI (76 + k)) 89 := iB_nI (by omega) (by decide)
      have b80 : iB (nI (80 + k)) 89 := iB_nI (by omega) (by decide)
      have b84 : iB (nI (84 + k)) 89 := iB_nI (by omega) (by decide)
      have n4 : ¬ (4 : Int32) ≤ nI k := nI_ge (b := 4) (by omega) (by decide)
      have qr : ∀ (f : jSc) (b j i : Nat) (x : Int32), b < 721 → (j_u2 f b j x) (721 + e) i = f (721 + e) i := fun f b j i x hb => u2_na (by omega)
      have ae : a (721 + e) = ar (721 + e) := h4 (721 + e) (by omega) (by omega) (by omega) (by omega) (by omega)
      have st : ∀ x y : Int32, x = (if ar (721 + e) (80 + k) = 1 then 1 else 0) → y = (if ar (721 + e) (84 + k) = 1 then 1 else 0) → ∃ ar9, rF_115_51 nn (nI e) (nI (k + 1)) S (j_u2 (j_u2 (j_u2 a 716 k (ar (721 + e) (76 + k))) 718 k x) 719 k y) = some (upd S 57 (ar (721 + e) 88), ar9) ∧ (∀ k, k < 38 → ar9 714 k = ar (721 + e) k ∧ ar9 715 k = ar (721 + e) (38 + k)) ∧ (∀ k, k < 4 → ar9 716 k = ar (721 + e) (76 + k) ∧ ar9 718 k = (if ar (721 + e) (80 + k) = 1 then 1 else 0) ∧ ar9 719 k = (if ar (721 + e) (84 + k) = 1 then 1 else 0)) ∧ ∀ b, b ≠ 714 → b ≠ 715 → b ≠ 716 → b ≠ 718 → b ≠ 719 → ar9 b = ar b := by
        intro x y hx hy
        refine ih (k + 1) nn _ (by omega) (by omega) (fun q hq => ?_) (fun q hq => ?_) (fun b u1 u2 u3 u4 u5 => ?_)
        · rw [u2_na (show 714 ≠ 719 by decide), u2_na (show 714 ≠ 718 by decide), u2_na (show 714 ≠ 716 by decide), u2_na (show 715 ≠ 719 by decide), u2_na (show 715 ≠ 718 by decide), u2_na (show 715 ≠ 716 by decide)]
          exact h0 q hq
        · rw [u2_na (show 716 ≠ 719 by decide), u2_na (show 716 ≠ 718 by decide), u2_na (show 718 ≠ 719 by decide)]
          by_cases z : q = k
          · subst z
            rw [u2_eq, u2_eq, u2_eq]
            exact ⟨rfl, hx, hy⟩
          · rw [u2_nk z, u2_nk z, u2_nk z, u2_nk z, u2_nk z, u2_nk z]
            exact h3 q (by omega)
        · rw [j_u2_row _ _ _ _ u5, j_u2_row _ _ _ _ u4, j_u2_row _ _ _ _ u3]
          exact h4 b u1 u2 u3 u4 u5
      have t100 : ∀ (x : Int32) (f : jSc), (x = 0 ∨ x = 1) → f (721 + e) = ar (721 + e) → rF_115_100 (fun x1_ x2_ S_ ar_ => rF_115_51 nn x1_ x2_ S_ ar_) (nI e) (nI k) x (nI k) 718 S f = rF_115_51 nn (nI e) (nI (k + 1)) S (j_u2 (j_u2 f 718 k x) 719 k (if ar (721 + e) (84 + k) = 1 then 1 else 0)) := by
        intro x f hx hf
        unfold rF_115_100
        simp only [if_pos bk, if_pos hx, if_pos be, e84, if_pos b84, i84, ie, ik, nI_1]
        rw [qr _ _ _ _ _ (by decide), hf]
        by_cases z : ar (721 + e) (84 + k) = 1
        · rw [if_pos z, if_pos z]
        · rw [if_neg z, if_neg z]
      rw [rF_115_51]
      simp only [if_neg n4, if_pos be, if_pos bk, e76, e80, if_pos b76, if_pos b80, i76, i80, ie, ik]
      rw [qr _ _ _ _ _ (by decide), ae, t100 1 _ (Or.inr rfl) (by rw [j_u2_row _ _ _ _ (by omega)]; exact ae), t100 0 _ (Or.inl rfl) (by rw [j_u2_row _ _ _ _ (by omega)]; exact ae)]
      by_cases z : ar (721 + e) (80 + k) = 1
      · rw [if_pos z]
        exact st 1 _ (by rw [if_pos z]) rfl
      · rw [if_neg z]
        exact st 0 _ (by rw [if_neg z]) rfl
  have go1 : ∀ r k nn a, k + r = 38 → r < nn → (∀ q, q < k → a 714 q = ar (721 + e) q ∧ a 715 q = ar (721 + e) (38 + q)) → (∀ b, b ≠ 714 → b ≠ 715 → a b = ar b) → ∃ ar9, rF_115_2 nn (nI e) (nI k) S a = some (upd S 57 (ar (721 + e) 88), ar9) ∧ (∀ k, k < 38 → ar9 714 k = ar (721 + e) k ∧ ar9 715 k = ar (721 + e) (38 + k)) ∧ (∀ k, k < 4 → ar9 716 k = ar (721 + e) (76 + k) ∧ ar9 718 k = (if ar (721 + e) (80 + k) = 1 then 1 else 0) ∧ ar9 719 k = (if ar (721 + e) (84 + k) = 1 then 1 else 0)) ∧ ∀ b, b ≠ 714 → b ≠ 715 → b ≠ 716 → b ≠ 718 → b ≠ 719 → ar9 b = ar b := by
    intro r
    induction r with
    | zero =>
      intro k nn a h1 h2 h3 h4
      obtain ⟨nn, rfl⟩ : ∃ j, nn = j + 1 := ⟨nn - 1, by omega⟩
      unfold rF_115_2
      rw [if_pos (show (38 : Int32) ≤ nI k from nI_le (a := 38) (by omega) (by omega))]
      exact go2 4 0 oF a (by omega) (by unfold oF; omega) (fun q hq => h3 q (by omega)) (fun q hq => absurd hq (by omega)) (fun b u1 u2 _ _ _ => h4 b u1 u2)
    | succ r ih =>
      intro k nn a h1 h2 h3 h4
      obtain ⟨nn, rfl⟩ : ∃ j, nn = j + 1 := ⟨nn - 1, by omega⟩
      have bk : iB (nI k) 53 := iB_nI (by omega) (by decide)
      have bk9 : iB (nI k) 89 := iB_nI (by omega) (by decide)
      have e38 : (38 : Int32) + nI k = nI (38 + k) := nI_add 38 k
      have b38 : iB (nI (38 + k)) 89 := iB_nI (by omega) (by decide)
      have n38 : ¬ (38 : Int32) ≤ nI k := nI_ge (b := 38) (by omega) (by decide)
      have ik : iN (nI k) = k := iN_nI (by omega)
      have i38 : iN (nI (38 + k)) = 38 + k := iN_nI (by omega)
      rw [rF_115_2]
      simp only [if_neg n38, if_pos be, if_pos bk, if_pos bk9, e38, if_pos b38, ik, i38, ie, nI_1]
      rw [u2_na (show 721 + e ≠ 714 by omega), h4 (721 + e) (by omega) (by omega)]
      refine ih (k + 1) nn _ (by omega) (by omega) (fun q hq => ?_) (fun b u1 u2 => by rw [j_u2_row _ _ _ _ u2, j_u2_row _ _ _ _ u1]; exact h4 b u1 u2)
      rw [u2_na (show 714 ≠ 715 by decide)]
      by_cases z : q = k
      · subst z; rw [u2_eq, u2_eq]; exact ⟨rfl, rfl⟩
      · rw [u2_nk z, u2_nk z, u2_nk z]; exact h3 q (by omega)
  unfold rF_115
  exact go1 38 0 oF ar (by omega) (by unfold oF; omega) (fun q hq => absurd hq (by omega)) (fun _ _ _ => rfl)
/-- the row holds the state, and v lost words -/
def kH (v : Int32) (row : Nat → Int32) (st : wSt) : Prop := ∃ (S : Nat → Int32) (a : jSc), rWs st a ∧ S 57 = v ∧ ∀ i, i < 89 → row i = kR S a i
theorem kH_load {v : Int32} {st : wSt} {e : Nat} (he : e < 8) (h : kH v (ar (721 + e)) st) : ∃ ar9, rF_115 (nI e) S ar = some (upd S 57 v, ar9) ∧ rWs st ar9 ∧ ∀ b, b ≠ 714 → b ≠ 715 → b ≠ 716 → b ≠ 718 → b ≠ 719 → ar9 b = ar b := by
  obtain ⟨T, a, ⟨h1, h2, h3, h4⟩, h5, h6⟩ := h
  obtain ⟨ar9, e1, e2, e3, e4⟩ := r_115 (S := S) (ar := ar) he
  have v88 : ar (721 + e) 88 = v := by
    rw [h6 88 (by decide)]
    unfold kR
    rw [if_neg (by decide), if_neg (by decide), if_neg (by decide), if_neg (by decide), if_neg (by decide)]
    exact h5
  have p0 : ∀ k, k < 38 → ar9 714 k = a 714 k := fun k hk => by
    rw [(e2 k hk).1, h6 k (by omega)]
    unfold kR
    rw [if_pos hk]
  have p1 : ∀ k, k < 38 → ar9 715 k = a 715 k := fun k hk => by
    rw [(e2 k hk).2, h6 (38 + k) (by omega)]
    unfold kR
    rw [if_neg (by omega), if_pos (by omega), show 38 + k - 38 = k by omega]
  have s6 : ∀ k, k < 4 → ar9 716 k = a 716 k := fun k hk => by
    rw [(e3 k hk).1, h6 (76 + k) (by omega)]
    unfold kR
    rw [if_neg (by omega), if_neg (by omega), if_pos (by omega), show 76 + k - 76 = k by omega]
  have s8 : ∀ k, k < 4 → (ar9 718 k = 0 ↔ a 718 k = 0) := fun k hk => by
    rw [(e3 k hk).2.1, h6 (80 + k) (by omega)]
    rw [kR_80 hk]
    by_cases z : a 718 k = 0
    · rw [if_pos z, if_neg (by decide)]; exact ⟨fun _ => z, fun _ => rfl⟩
    · rw [if_neg z, if_pos rfl]; exact ⟨fun y => absurd y (by decide), fun y => absurd y z⟩
  have s9 : ∀ k, k < 4 → (ar9 719 k = 0 ↔ a 719 k = 0) := fun k hk => by
    rw [(e3 k hk).2.2, h6 (84 + k) (by omega)]
    rw [kR_84 hk]
    by_cases z : a 719 k = 0
    · rw [if_pos z, if_neg (by decide)]; exact ⟨fun _ => z, fun _ => rfl⟩
    · rw [if_neg z, if_pos rfl]; exact ⟨fun y => absurd y (by decide), fun y => absurd y z⟩
  rw [v88] at e1
  refine ⟨ar9, e1, ⟨?_, ?_, ?_, fun k hk => by rw [p0 _ (by omega), p1 _ (by omega)]; exact h4 k hk⟩, e4⟩
  · rw [← h1]
    exact wS_e (c38_e p0) (c38_e p1) (fun k hk => by rw [s6 k hk, s8 k hk, s9 k hk]; exact ⟨Iff.rfl, Iff.rfl⟩)
  · obtain ⟨C, hC⟩ := h2
    exact ⟨C, pgR_P hC p0⟩
  · obtain ⟨C, hC⟩ := h3
    exact ⟨C, pgR_P hC p1⟩
end KP
