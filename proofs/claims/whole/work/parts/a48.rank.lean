/-! THE ORDER OF SETS of forms: the reference's isAhead and ClickOrders' ranks. -/
/-- the bits from k on, the other way round -/
def rvt (s : Nat) : Nat → Nat → Nat
  | _, 0 => 0
  | k, r + 1 => (if bt (nI s) k = true then 2 ^ r else 0) + rvt s (k + 1) r
def ont (s : Nat) : Nat → Nat → Nat
  | _, 0 => 0
  | k, r + 1 => (if bt (nI s) k = true then 1 else 0) + ont s (k + 1) r
def rv6 (s : Nat) : Nat := rvt s 0 6
def on6 (s : Nat) : Nat := ont s 0 6
theorem rvt_lt {s : Nat} : ∀ {r k : Nat}, rvt s k r < 2 ^ r
  | 0, _ => Nat.zero_lt_one
  | r + 1, k => by
    have := rvt_lt (s := s) (r := r) (k := k + 1)
    unfold rvt
    rw [Nat.pow_succ]
    split <;> omega
theorem ont_le {s : Nat} : ∀ {r k : Nat}, ont s k r ≤ r
  | 0, _ => Nat.le_refl _
  | r + 1, k => by
    have := ont_le (s := s) (r := r) (k := k + 1)
    unfold ont
    split <;> omega
theorem rv6_lt (s : Nat) : rv6 s < 64 := rvt_lt (r := 6)
theorem on6_lt (s : Nat) : on6 s < 8 := by
  have := ont_le (s := s) (r := 6) (k := 0)
  unfold on6; omega
theorem rv6_i : ∀ s, s < 64 → rv6 (rv6 s) = s := by decide +kernel
theorem rv6_inj {s t : Nat} (hs : s < 64) (ht : t < 64) (h : rv6 s = rv6 t) : s = t := by
  rw [← rv6_i s hs, ← rv6_i t ht, h]
/-- the first bit that differs -/
def lxA (a b : Nat) : Nat → Nat → Bool
  | _, 0 => false
  | k, r + 1 => if bt (nI a) k = bt (nI b) k then lxA a b (k + 1) r else bt (nI a) k
theorem lxA_r {a b : Nat} : ∀ {r k : Nat}, lxA a b k r = decide (rvt b k r < rvt a k r)
  | 0, _ => rfl
  | r + 1, k => by
    have h1 := rvt_lt (s := a) (r := r) (k := k + 1)
    have h2 := rvt_lt (s := b) (r := r) (k := k + 1)
    unfold lxA rvt
    rw [lxA_r]
    cases x : bt (nI a) k <;> cases y : bt (nI b) k
    · rw [if_pos rfl, if_neg (by decide)]; simp
    · rw [if_neg (by decide), if_pos rfl, if_neg (by decide), decide_eq_false (by omega)]
    · rw [if_neg (by decide), if_pos rfl, if_neg (by decide), decide_eq_true (by omega)]
    · rw [if_pos rfl, if_pos rfl, Bool.eq_iff_iff, decide_eq_true_eq, decide_eq_true_eq]; omega
/-- the rank of a set -/
def rk (ar : jSc) (m s : Nat) : Nat := (aPc ar s 0 m * 8 + on6 s) * 64 + (63 - rv6 s)
theorem rk_lt {ar : jSc} {m s : Nat} (hm : m ≤ 6) (hp : ∀ i, i < m → ∃ q, q ≤ 100 ∧ ar 105 i = nI q) : rk ar m s < 400000 := by
  have a := aPc_le (s := s) hp (c := m) (i := 0) (by omega)
  have b := on6_lt s
  unfold rk
  omega
theorem rk_inj {ar : jSc} {m s t : Nat} (hs : s < 64) (ht : t < 64) (h : rk ar m s = rk ar m t) : s = t := by
  have b := on6_lt s
  have b2 := on6_lt t
  have c := rv6_lt s
  have c2 := rv6_lt t
  unfold rk at h
  refine rv6_inj hs ht ?_
  omega
def bcv (x : Int32) : Int32 := match xF_501 x (fun _ _ => 0) (fun _ => 0) (fun _ _ => 0) (fun _ _ => 0) with
  | some (v, _) => v
  | none => 0
theorem bcv_k : ∀ s, s < 64 → bcv (nI s) = nI (on6 s) := by decide +kernel
def fwv (s : Nat) : Nat → Nat → Int32 → Int32
  | _, 0, x => x
  | k, r + 1, x => fwv s (k + 1) r (x ||| (((nI s >>> (nI k &&& 31)) &&& (1 : Int32)) <<< (((5 : Int32) - nI k) &&& 31)))
theorem fwv_k : ∀ m, m < 7 → ∀ s, s < 2 ^ m → fwv s 0 m 0 = nI (rv6 s) := by decide +kernel
section RK
variable {S : Nat → Int32} {ar : jSc} {sc car : jSc} {mr : Nat → Nat} {al : jAl} {m s : Nat}
theorem c_bc (hs : s < 64) : xF_501 (nI s) sc mr car al = some (nI (on6 s), sc, mr, car, al) := by
  rw [← bcv_k s hs]; rfl
theorem r_ones : rF_106 (nI s) S ar = some (nI (on6 s), S, ar) := by
  have go : ∀ r k nn t, k + r = 6 → r < nn → rF_106_4 nn (nI s) (nI t) (nI k) S ar = some (nI (t + ont s k r), S, ar) := by
    intro r
    induction r with
    | zero =>
      intro k nn t h1 h2
      obtain ⟨nn, rfl⟩ : ∃ j, nn = j + 1 := ⟨nn - 1, by omega⟩
      unfold rF_106_4
      rw [if_pos (show (6 : Int32) ≤ nI k from nI_le (a := 6) (by omega) (by omega))]; rfl
    | succ r ih =>
      intro k nn t h1 h2
      obtain ⟨nn, rfl⟩ : ∃ j, nn = j + 1 := ⟨nn - 1, by omega⟩
      have eu : ont s k (r + 1) = (if bt (nI s) k = true then 1 else 0) + ont s (k + 1) r := rfl
      unfold rF_106_4
      rw [if_neg (show ¬ (6 : Int32) ≤ nI k from nI_ge (b := 6) (by omega) (by decide)), bt_sh _ k (by omega), nI_1, eu]
      by_cases z : bt (nI s) k = true
      · rw [if_pos z, if_pos z, nI_1, ih (k + 1) nn (t + 1) (by omega) (by omega), Nat.add_assoc]
      · rw [if_neg z, if_neg z, Int32.add_zero, ih (k + 1) nn t (by omega) (by omega), Nat.zero_add]
  have := go 6 0 oF 0 (by omega) (by unfold oF; omega)
  rw [Nat.zero_add] at this
  exact this
theorem r_lex {a b : Nat} : rF_107_62 oF (nI a) (nI b) 0 S ar = some (if lxA a b 0 6 = true then 1 else 0, S, ar) := by
  have go : ∀ r k nn, k + r = 6 → r < nn → rF_107_62 nn (nI a) (nI b) (nI k) S ar = some (if lxA a b k r = true then 1 else 0, S, ar) := by
    intro r
    induction r with
    | zero =>
      intro k nn h1 h2
      obtain ⟨nn, rfl⟩ : ∃ j, nn = j + 1 := ⟨nn - 1, by omega⟩
      have h6 : (6 : Int32) ≤ nI k := nI_le (a := 6) (by omega) (by omega)
      unfold rF_107_62 rF_107_87
      rw [if_pos h6, if_pos h6]; rfl
    | succ r ih =>
      intro k nn h1 h2
      obtain ⟨nn, rfl⟩ : ∃ j, nn = j + 1 := ⟨nn - 1, by omega⟩
      have h6 : ¬ (6 : Int32) ≤ nI k := nI_ge (b := 6) (by omega) (by decide)
      have eu : lxA a b k (r + 1) = if bt (nI a) k = bt (nI b) k then lxA a b (k + 1) r else bt (nI a) k := rfl
      unfold rF_107_62 rF_107_87
      rw [if_neg h6, if_neg h6, bt_sh _ k (by omega), bt_sh _ k (by omega), nI_1, ih (k + 1) nn (by omega) (by omega), eu]
      cases x : bt (nI a) k <;> cases y : bt (nI b) k
      · rfl
      · rfl
      · rfl
      · rfl
  exact go 6 0 oF (by omega) (by unfold oF; omega)
/-- isAhead -/
theorem r_ah {a b : Nat} (hm : m ≤ 6) (h38 : S 38 = nI m) (hp : ∀ i, i < m → ∃ q, q ≤ 100 ∧ ar 105 i = nI q) : rF_107 (nI a) (nI b) S ar = some (if rk ar m a < rk ar m b then 1 else 0, S, ar) := by
  have pa := aPc_le (s := a) hp (c := m) (i := 0) (by omega)
  have pb := aPc_le (s := b) hp (c := m) (i := 0) (by omega)
  have oa := on6_lt a
  have ob := on6_lt b
  have ra := rv6_lt a
  have rb := rv6_lt b
  have lx : lxA a b 0 6 = decide (rv6 b < rv6 a) := lxA_r
  unfold rF_107
  rw [r_price hm h38 hp, ob3, r_price hm h38 hp, ob3, r_ones, ob3, r_ones, ob3, r_ones, ob3, r_ones, ob3, r_price hm h38 hp, ob3, r_price hm h38 hp, ob3, r_lex]
  have ep : nI (aPc ar a 0 m) = nI (aPc ar b 0 m) ↔ aPc ar a 0 m = aPc ar b 0 m := nI_eq (by omega) (by omega)
  have eo : nI (on6 a) = nI (on6 b) ↔ on6 a = on6 b := nI_eq (by omega) (by omega)
  by_cases z : aPc ar a 0 m = aPc ar b 0 m
  · rw [if_pos (ep.mpr z)]
    by_cases y : on6 a = on6 b
    · rw [if_pos (eo.mpr y), lx]
      by_cases x : rv6 b < rv6 a
      · rw [decide_eq_true x, if_pos rfl, if_pos (by unfold rk; omega)]
      · rw [decide_eq_false x, if_neg (by decide), if_neg (by unfold rk; omega)]
    · rw [if_neg (fun w => y (eo.mp w))]
      by_cases x : on6 b ≤ on6 a
      · rw [if_pos (nI_le x (by omega)), if_neg (by unfold rk; omega)]
      · rw [if_neg (nI_ge (by omega) (by omega)), if_pos (by unfold rk; omega)]
  · rw [if_neg (fun w => z (ep.mp w))]
    by_cases x : aPc ar b 0 m ≤ aPc ar a 0 m
    · rw [if_pos (nI_le x (by omega)), if_neg (by unfold rk; omega)]
    · rw [if_neg (nI_ge (by omega) (by omega)), if_pos (by unfold rk; omega)]
theorem sh_m : ∀ m, m < 7 → (1 : Int32) <<< (nI m &&& 31) = nI (2 ^ m) := by decide +kernel
theorem p2_64 (hm : m ≤ 6) : 2 ^ m ≤ 64 := by
  have : 2 ^ m ≤ 2 ^ 6 := Nat.pow_le_pow_right (by decide) hm
  exact this
/-- ranksSets -/
theorem c_ranks (hM : fM m ar sc car) : ∃ car2, xF_203 sc mr car al = some (j_u2 sc 736 11 0, mr, car2, al) ∧ (∀ t, t < 2 ^ m → car2 742 t = nI (rk ar m t)) ∧ ∀ b, b ≠ 742 → car2 b = car b := by
  have hm := hM.1
  have p64 := p2_64 hm
  have hp : ∀ i, i < m → ∃ q, q ≤ 100 ∧ ar 105 i = nI q := fun i hi => by
    obtain ⟨-, -, -, q, a, b, -⟩ := hM.2.2 i hi
    exact ⟨q, a, b⟩
  have inner : ∀ (k2 : Int32 → jSc → (Nat → Nat) → jSc → jAl → Option (jSc × (Nat → Nat) × jSc × jAl)) (t : Nat), t < 2 ^ m → ∀ (c1 : jSc), fM m ar sc c1 → ∀ r k nn x, k + r = m → r < nn → xF_203_22 k2 nn (nI t) x (nI k) sc mr c1 al = k2 (nI (t + 1)) sc mr (j_u2 c1 742 t (nI (aPc ar t 0 m * 8 + on6 t) * 64 + 64 - 1 - fwv t k r x)) al := by
    intro k2 t ht c1 hM1 r
    induction r with
    | zero =>
      intro k nn x h1 h2
      obtain ⟨nn, rfl⟩ : ∃ j, nn = j + 1 := ⟨nn - 1, by omega⟩
      rw [xF_203_22]
      rw [hM1.2.1, if_pos (nI_le (by omega) (by omega)), c_price hM1, ob5, c_bc (by omega), ob5, if_pos (iB_nI (show t < 64 by omega) (by decide)), iN_nI (by omega), nI_1, show nI (aPc ar t 0 m) * (8 : Int32) = nI (aPc ar t 0 m * 8) from nI_mul _ 8, nI_add]
      rfl
    | succ r ih =>
      intro k nn x h1 h2
      obtain ⟨nn, rfl⟩ : ∃ j, nn = j + 1 := ⟨nn - 1, by omega⟩
      rw [xF_203_22]
      rw [hM1.2.1, if_neg (nI_ge (by omega) (by omega)), nI_1, ih (k + 1) nn _ (by omega) (by omega)]
      rfl
  have go : ∀ r t nn c1, t + r = 2 ^ m → r < nn → (∀ q, q < t → c1 742 q = nI (rk ar m q)) → (∀ b, b ≠ 742 → c1 b = car b) → ∃ car2, xF_203_2 nn (nI t) sc mr c1 al = some (j_u2 sc 736 11 0, mr, car2, al) ∧ (∀ t, t < 2 ^ m → car2 742 t = nI (rk ar m t)) ∧ ∀ b, b ≠ 742 → car2 b = car b := by
    intro r
    induction r with
    | zero =>
      intro t nn c1 h1 h2 h3 h4
      obtain ⟨nn, rfl⟩ : ∃ j, nn = j + 1 := ⟨nn - 1, by omega⟩
      rw [xF_203_2]
      rw [hM.2.1, sh_m m (by omega), if_pos (nI_le (by omega) (by omega))]
      exact ⟨c1, rfl, fun q hq => h3 q (by omega), h4⟩
    | succ r ih =>
      intro t nn c1 h1 h2 h3 h4
      obtain ⟨nn, rfl⟩ : ∃ j, nn = j + 1 := ⟨nn - 1, by omega⟩
      have hM1 : fM m ar sc c1 := ⟨hM.1, hM.2.1, fun i hi => by rw [h4 737 (by decide), h4 738 (by decide), h4 739 (by decide), h4 740 (by decide)]; exact hM.2.2 i hi⟩
      rw [xF_203_2]
      rw [hM.2.1, sh_m m (by omega), if_neg (nI_ge (by omega) (by omega)), if_neg (show ¬ (64 : Int32) ≤ nI t from nI_ge (b := 64) (by omega) (by decide))]
      have := inner (fun x1_ sc_ mr_ ar_ al_ => xF_203_2 nn x1_ sc_ mr_ ar_ al_) t (by omega) c1 hM1 m 0 oF 0 (by omega) (by unfold oF; omega)
      rw [show nI 0 = (0 : Int32) from rfl] at this
      rw [this, fwv_k m (by omega) t (by omega)]
      have rl := rv6_lt t
      have ev : nI (aPc ar t 0 m * 8 + on6 t) * 64 + 64 - 1 - nI (rv6 t) = nI (rk ar m t) := by
        rw [show nI (aPc ar t 0 m * 8 + on6 t) * (64 : Int32) = nI ((aPc ar t 0 m * 8 + on6 t) * 64) from nI_mul _ 64, show nI ((aPc ar t 0 m * 8 + on6 t) * 64) + (64 : Int32) = nI ((aPc ar t 0 m * 8 + on6 t) * 64 + 64) from nI_add _ 64, show nI ((aPc ar t 0 m * 8 + on6 t) * 64 + 64) - (1 : Int32) = nI ((aPc ar t 0 m * 8 + on6 t) * 64 + 64 - 1) from nI_sub (b := 1) (by omega), nI_sub (by omega)]
        unfold rk
        congr 1
        omega
      rw [ev]
      refine ih (t + 1) nn _ (by omega) (by omega) (fun q hq => ?_) (fun b hb => (j_u2_row _ _ _ _ hb).trans (h4 b hb))
      by_cases z : q = t
      · subst z; exact u2_eq
      · rw [u2_nk z]; exact h3 q (by omega)
  exact go (2 ^ m) 0 oF car (by omega) (by unfold oF; omega) (fun q hq => absurd hq (by omega)) (fun _ _ => rfl)
/-- the next set behind the floor -/
theorem c_next {fl : Int32} {F : Nat} (hM : fM m ar sc car) (hr : ∀ t, t < 2 ^ m → car 742 t = nI (rk ar m t)) (hF : ∀ t, t < 2 ^ m → (nI (rk ar m t) ≤ fl ↔ rk ar m t < F)) : ∃ v, xF_204_26 oF fl (-1) 0 sc mr car al = some (v, sc, mr, car, al) ∧ ((v = -1 ∧ ∀ t, t < 2 ^ m → rk ar m t < F) ∨ ∃ t, t < 2 ^ m ∧ v = nI t ∧ F ≤ rk ar m t ∧ ∀ q, q < 2 ^ m → F ≤ rk ar m q → rk ar m t ≤ rk ar m q) := by
  have hm := hM.1
  have p64 := p2_64 hm
  have hp : ∀ i, i < m → ∃ q, q ≤ 100 ∧ ar 105 i = nI q := fun i hi => by
    obtain ⟨-, -, -, q, a, b, -⟩ := hM.2.2 i hi
    exact ⟨q, a, b⟩
  have go : ∀ r k nn v, k + r = 2 ^ m → r < nn → ((v = -1 ∧ ∀ t, t < k → rk ar m t < F) ∨ ∃ t, t < k ∧ v = nI t ∧ F ≤ rk ar m t ∧ ∀ q, q < k → F ≤ rk ar m q → rk ar m t ≤ rk ar m q) → ∃ v9, xF_204_26 nn fl v (nI k) sc mr car al = some (v9, sc, mr, car, al) ∧ ((v9 = -1 ∧ ∀ t, t < 2 ^ m → rk ar m t < F) ∨ ∃ t, t < 2 ^ m ∧ v9 = nI t ∧ F ≤ rk ar m t ∧ ∀ q, q < 2 ^ m → F ≤ rk ar m q → rk ar m t ≤ rk ar m q) := by
    intro r
    induction r with
    | zero =>
      intro k nn v h1 h2 h3
      obtain ⟨nn, rfl⟩ : ∃ j, nn = j + 1 := ⟨nn - 1, by omega⟩
      have ek : k = 2 ^ m := by omega
      rw [xF_204_26]
      rw [hM.2.1, sh_m m (by omega), if_pos (nI_le (by omega) (by omega))]
      rw [ek] at h3
      exact ⟨v, rfl, h3⟩
    | succ r ih =>
      intro k nn v h1 h2 h3
      obtain ⟨nn, rfl⟩ : ∃ j, nn = j + 1 := ⟨nn - 1, by omega⟩
      have bk : iB (nI k) 64 := iB_nI (show k < 64 by omega) (by decide)
      have lk := rk_lt (s := k) hm hp
      rw [xF_204_26]
      rw [hM.2.1, sh_m m (by omega), if_neg (nI_ge (by omega) (by omega)), if_neg (show ¬ (64 : Int32) ≤ nI k from nI_ge (b := 64) (by omega) (by decide)), if_pos bk, if_pos bk, iN_nI (show k < 2 ^ 31 by omega), hr k (by omega), nI_1]
      by_cases z : rk ar m k < F
      · rw [if_pos ((hF k (by omega)).mpr z)]
        refine ih (k + 1) nn v (by omega) (by omega) ?_
        rcases h3 with ⟨a, b⟩ | ⟨t, a, b, c, d⟩
        · refine Or.inl ⟨a, fun t ht => ?_⟩
          by_cases y : t = k
          · subst y; exact z
          · exact b t (by omega)
        · refine Or.inr ⟨t, by omega, b, c, fun q hq hq2 => ?_⟩
          by_cases y : q = k
          · subst y; omega
          · exact d q (by omega) hq2
      · rw [if_neg (fun y => z ((hF k (by omega)).mp y))]
        rcases h3 with ⟨a, b⟩ | ⟨t, a, b, c, d⟩
        · rw [if_pos (show v < 0 by rw [a]; decide)]
          refine ih (k + 1) nn (nI k) (by omega) (by omega) (Or.inr ⟨k, by omega, rfl, by omega, fun q hq hq2 => ?_⟩)
          by_cases y : q = k
          · subst y; omega
          · have := b q (by omega); omega
        · have lt := rk_lt (s := t) hm hp
          rw [b, if_neg (nI_pos (by omega)), if_pos (iB_nI (show t < 64 by omega) (by decide)), iN_nI (by omega), hr t (by omega)]
          by_cases y : rk ar m t ≤ rk ar m k
          · rw [if_pos (nI_le y (by omega))]
            refine ih (k + 1) nn (nI t) (by omega) (by omega) (Or.inr ⟨t, by omega, rfl, c, fun q hq hq2 => ?_⟩)
            by_cases x : q = k
            · subst x; exact y
            · exact d q (by omega) hq2
          · rw [if_neg (nI_ge (by omega) (by omega))]
            refine ih (k + 1) nn (nI k) (by omega) (by omega) (Or.inr ⟨k, by omega, rfl, by omega, fun q hq hq2 => ?_⟩)
            by_cases x : q = k
            · subst x; omega
            · have := d q (by omega) hq2; omega
  have := go (2 ^ m) 0 oF (-1) (by omega) (by unfold oF; omega) (Or.inl ⟨rfl, fun t ht => absurd ht (by omega)⟩)
  rw [show nI 0 = (0 : Int32) from rfl] at this
  exact this
end RK
