/-! CROSSINGS on both sides. -/
def tW (al : jAl) : Nat → Nat → Bool := fun j k => bL (al 768 j) k
/-- the items for which i and the later j cross -/
def aX (ar : jSc) (W : Nat → Nat → Bool) (i j : Nat) : Int32 := if i = j ∨ W j i = true then 0 else (ar 18 i &&& (ar 17 j ||| ar 18 j)) ||| (ar 18 j &&& ar 17 i)
/-- the order is found -/
def oF9 (n : Nat) (ar : jSc) (W : Nat → Nat → Bool) : Prop := ∀ j, j < n → ∀ z, z < 40 → iV (ar (62 + z) j) (W j z = true)
theorem oF9_c {n : Nat} {ar ar2 : jSc} {W : Nat → Nat → Bool} (h : oF9 n ar W) (e : ∀ b, 62 ≤ b → b < 102 → ar2 b = ar b) : oF9 n ar2 W := fun j hj z hz => by rw [e (62 + z) (by omega) (by omega)]; exact h j hj z hz
theorem aX_c {ar ar2 : jSc} {W : Nat → Nat → Bool} (h17 : ar2 17 = ar 17) (h18 : ar2 18 = ar 18) {i j : Nat} : aX ar2 W i j = aX ar W i j := by
  unfold aX
  rw [h17, h18]
section CR
variable {S : Nat → Int32} {ar : jSc} {n : Nat} {W : Nat → Nat → Bool} {sc car : jSc} {mr : Nat → Nat} {al : jAl}
theorem r_it {i j : Nat} (ho : oF9 n ar W) (hn : n ≤ 40) (hi : i ≤ j) (hj : j < n) : rF_74_21 (nI i) (nI j) S ar = some (aX ar W i j, S, ar) := by
  have bi : iB (nI i) 40 := iB_nI (by omega) (by decide)
  have bj : iB (nI j) 40 := iB_nI (by omega) (by decide)
  have e : nI i = nI j ↔ i = j := nI_eq (by omega) (by omega)
  have w := iV_0 (ho j hj i (by omega))
  unfold rF_74_21 aX
  by_cases z : i = j
  · rw [if_pos (e.mpr z), if_pos (Or.inl z)]
  · rw [if_neg (fun y => z (e.mp y)), if_pos bi, if_pos bj, iN_nI (by omega), iN_nI (by omega), if_pos bi, if_pos bj, if_pos bj, if_pos bj, if_pos bi]
    by_cases y : W j i = true
    · rw [if_neg (fun x => w.mp x y), if_pos (Or.inr y)]
    · rw [if_pos (w.mpr y), if_neg (fun x => x.elim z y)]
theorem r_items {i j : Nat} (ho : oF9 n ar W) (hn : n ≤ 40) (hi : i < n) (hj : j < n) : rF_74 (nI i) (nI j) S ar = some (aX ar W (min i j) (max i j), S, ar) := by
  unfold rF_74
  by_cases z : j ≤ i
  · rw [if_pos (nI_le z (by omega)), if_pos (nI_le z (by omega)), r_it ho hn z hi, Nat.min_eq_right z, Nat.max_eq_left z]
  · rw [if_neg (nI_ge (by omega) (by omega)), if_neg (nI_ge (by omega) (by omega)), r_it ho hn (by omega) hj, Nat.min_eq_left (by omega), Nat.max_eq_right (by omega)]
theorem c_isah {i j : Nat} (hi : i < 64) (hj : j < 40) : xF_300 (nI i) (nI j) sc mr car al = some (if i < j ∧ tW al j i = true then 1 else 0, sc, mr, car, al) := by
  unfold xF_300
  by_cases z : j ≤ i
  · rw [if_pos (nI_le z (by omega)), if_neg (fun y => absurd y.1 (by omega))]
  · rw [if_neg (nI_ge (by omega) (by omega)), if_pos (iB_nI hj (by decide)), iN_nI (by omega), show (Int64.ofNat ((1 : Fin 2) : Nat)) = (1 : Int64) from rfl, show (Int64.ofNat ((0 : Fin 2) : Nat)) = (0 : Int64) from rfl, bL_shr i hi]
    by_cases y : tW al j i = true
    · rw [if_pos (show i < j ∧ tW al j i = true from ⟨by omega, y⟩), if_pos (show bL (al 768 j) i = true from y), if_neg (by decide)]
    · rw [if_neg (show ¬ (i < j ∧ tW al j i = true) from fun x => y x.2), if_neg (show ¬ bL (al 768 j) i = true from y), if_pos (by decide)]
theorem or_ab (a b c d : Int32) : (a &&& (b ||| c)) ||| (c &&& (d ||| a)) = (a &&& (b ||| c)) ||| (c &&& d) := by
  apply b_ext
  intro i hi
  simp only [b_or, b_and]
  cases bt a i <;> cases bt b i <;> cases bt c i <;> cases bt d i <;> rfl
theorem c_crossed {i j : Nat} (hT : tK n S ar sc car al) (hi : i ≤ j) (hj : j < n) : xF_301 (nI i) (nI j) sc mr car al = some (aX ar (tW al) i j, sc, mr, car, al) := by
  obtain ⟨k1, k2, k3, k4, k5, k6, k7, k8⟩ := hT
  have bi : iB (nI i) 40 := iB_nI (by omega) (by decide)
  have bj : iB (nI j) 40 := iB_nI (by omega) (by decide)
  have e : nI i = nI j ↔ i = j := nI_eq (by omega) (by omega)
  unfold xF_301 aX
  by_cases z : i = j
  · rw [if_pos (e.mpr z), if_pos (Or.inl z)]
  · rw [if_neg (fun y => z (e.mp y)), c_isah (by omega) (by omega), ob5, if_pos bi, if_pos bj, iN_nI (by omega), iN_nI (by omega), if_pos bj, if_pos bj, if_pos bi, if_pos bi]
    by_cases y : tW al j i = true
    · rw [if_pos (show i < j ∧ tW al j i = true from ⟨by omega, y⟩), if_neg (show ¬ (1 : Int32) = 0 by decide), if_pos (Or.inr y)]
    · rw [if_neg (show ¬ (i < j ∧ tW al j i = true) from fun x => y x.2), if_pos (show (0 : Int32) = 0 from rfl), if_neg (show ¬ (i = j ∨ tW al j i = true) from fun x => x.elim z y), (k6 i (by omega)).2.2.2.1, (k6 i (by omega)).2.2.2.2, (k6 j hj).2.2.2.1, (k6 j hj).2.2.2.2, or_ab]
/-- the crossings, as a row of pairs -/
def crI (X : Nat → Nat → Int32) (i : Nat) : Nat → Nat → List (Nat × Nat)
  | _, 0 => []
  | j, r + 1 => if X i j = 0 then crI X i (j + 1) r else (i, j) :: crI X i (j + 1) r
def crO (X : Nat → Nat → Int32) (n : Nat) : Nat → Nat → List (Nat × Nat)
  | _, 0 => []
  | i, r + 1 => crI X i (i + 1) (n - (i + 1)) ++ crO X n (i + 1) r
theorem crI_m {X : Nat → Nat → Int32} {i : Nat} {p : Nat × Nat} : ∀ {r j : Nat}, p ∈ crI X i j r → p.1 = i ∧ j ≤ p.2 ∧ p.2 < j + r ∧ ¬ X p.1 p.2 = 0
  | 0, _, h => by cases h
  | r + 1, j, h => by
    unfold crI at h
    split at h
    · have := crI_m h
      exact ⟨this.1, by omega, by omega, this.2.2.2⟩
    · rename_i z
      rcases List.mem_cons.mp h with h | h
      · subst h; exact ⟨rfl, Nat.le_refl _, by omega, z⟩
      · have := crI_m h
        exact ⟨this.1, by omega, by omega, this.2.2.2⟩
theorem crO_m {X : Nat → Nat → Int32} {n : Nat} {p : Nat × Nat} : ∀ {r i : Nat}, i + r = n → p ∈ crO X n i r → p.1 < p.2 ∧ p.2 < n ∧ ¬ X p.1 p.2 = 0
  | 0, _, _, h => by cases h
  | r + 1, i, e, h => by
    unfold crO at h
    rcases List.mem_append.mp h with h | h
    · have := crI_m h
      exact ⟨by omega, by omega, this.2.2.2⟩
    · exact crO_m (by omega) h
theorem crI_len {X : Nat → Nat → Int32} {i : Nat} : ∀ {r j : Nat}, (crI X i j r).length ≤ r
  | 0, _ => Nat.le_refl _
  | r + 1, j => by
    have := crI_len (X := X) (i := i) (r := r) (j := j + 1)
    unfold crI
    split
    · omega
    · simp only [List.length_cons]; omega
theorem crO_len {X : Nat → Nat → Int32} {n : Nat} : ∀ {r i : Nat}, i + r = n → n ≤ 40 → (crO X n i r).length ≤ 40 * r
  | 0, _, _, _ => Nat.le_refl _
  | r + 1, i, e, hn => by
    have a := crO_len (X := X) (n := n) (r := r) (i := i + 1) (by omega) hn
    have b := crI_len (X := X) (i := i) (r := n - (i + 1)) (j := i + 1)
    unfold crO
    rw [List.length_append]
    omega
theorem crI_c {X Y : Nat → Nat → Int32} {i : Nat} : ∀ {r j : Nat}, (∀ q, q < j + r → X i q = Y i q) → crI X i j r = crI Y i j r
  | 0, _, _ => rfl
  | r + 1, j, h => by
    unfold crI
    rw [h j (by omega), crI_c (fun q hq => h q (by omega))]
theorem crO_c {X Y : Nat → Nat → Int32} {n : Nat} : ∀ {r i : Nat}, i + r = n → (∀ p q, p < n → q < n → X p q = Y p q) → crO X n i r = crO Y n i r
  | 0, _, _, _ => rfl
  | r + 1, i, e, h => by
    unfold crO
    rw [crO_c (by omega) h, crI_c (fun q hq => h i q (by omega) (by omega))]
/-- the kth crossing -/
def aKth (x : Int32) : Nat → List (Nat × Nat) → Int32
  | _, [] => -1
  | t, p :: r => if nI t = x then 64 * nI p.1 + nI p.2 else aKth x (t + 1) r
theorem aKth_neg {x : Int32} (hx : x < 0) : ∀ {L : List (Nat × Nat)} {t : Nat}, t + L.length < 2 ^ 31 → aKth x t L = -1
  | [], _, _ => rfl
  | p :: r, t, h => by
    unfold aKth
    simp only [List.length_cons] at h
    rw [if_neg (fun z => by rw [← z] at hx; exact absurd hx (nI_pos (by omega))), aKth_neg hx (by omega)]
/-- how many, in the reference -/
theorem r_cnt (ho : oF9 n ar W) (hn : n ≤ 40) (h31 : S 31 = nI n) {x1 : Int32} : ∀ (r i t nn : Nat), i + r = n → r < nn → rF_75_9 nn x1 1 (nI t) (nI i) S ar = some (nI (t + (crO (aX ar W) n i r).length), S, ar) := by
  have inner : ∀ (k9 : Int32 → Int32 → Int32 → Int32 → (Nat → Int32) → jSc → Option (Int32 × (Nat → Int32) × jSc)) (i : Nat), i < n → ∀ r j t nn, j + r = n → i < j → r < nn → rF_75_24 k9 nn x1 1 (nI t) (nI i) (nI j) S ar = k9 x1 1 (nI (t + (crI (aX ar W) i j r).length)) (nI (i + 1)) S ar := by
    intro k9 i hi r
    induction r with
    | zero =>
      intro j t nn h1 h2 h3
      obtain ⟨nn, rfl⟩ : ∃ j, nn = j + 1 := ⟨nn - 1, by omega⟩
      unfold rF_75_24
      rw [h31, if_pos (nI_le (by omega) (by omega)), nI_1]
      rfl
    | succ r ih =>
      intro j t nn h1 h2 h3
      obtain ⟨nn, rfl⟩ : ∃ j, nn = j + 1 := ⟨nn - 1, by omega⟩
      unfold rF_75_24
      rw [h31, if_neg (nI_ge (by omega) (by omega)), r_items ho hn hi (by omega), ob3, Nat.min_eq_left (by omega), Nat.max_eq_right (by omega), nI_1, nI_1, if_neg (show ¬ (1 : Int32) = 0 by decide)]
      unfold crI
      by_cases z : aX ar W i j = 0
      · rw [if_pos z, if_pos z, ih (j + 1) t nn (by omega) (by omega) (by omega)]
      · rw [if_neg z, if_neg z, ih (j + 1) (t + 1) nn (by omega) (by omega) (by omega), List.length_cons, show t + 1 + (crI (aX ar W) i (j + 1) r).length = t + ((crI (aX ar W) i (j + 1) r).length + 1) by omega]
  intro r
  induction r with
  | zero =>
    intro i t nn h1 h2
    obtain ⟨nn, rfl⟩ : ∃ j, nn = j + 1 := ⟨nn - 1, by omega⟩
    unfold rF_75_9
    rw [h31, if_pos (nI_le (by omega) (by omega)), if_neg (by decide)]
    rfl
  | succ r ih =>
    intro i t nn h1 h2
    obtain ⟨nn, rfl⟩ : ∃ j, nn = j + 1 := ⟨nn - 1, by omega⟩
    unfold rF_75_9
    rw [h31, if_neg (nI_ge (by omega) (by omega)), nI_1, inner _ i (by omega) (n - (i + 1)) (i + 1) t oF (by omega) (by omega) (by unfold oF; omega), ih (i + 1) _ nn (by omega) (by omega)]
    show _ = some (nI (t + (crI (aX ar W) i (i + 1) (n - (i + 1)) ++ crO (aX ar W) n (i + 1) r).length), S, ar)
    rw [List.length_append, Nat.add_assoc]
/-- which, in the reference -/
theorem r_kth (ho : oF9 n ar W) (hn : n ≤ 40) (h31 : S 31 = nI n) {x1 : Int32} : ∀ (r i t nn : Nat), i + r = n → r < nn → rF_75_9 nn x1 0 (nI t) (nI i) S ar = some (aKth x1 t (crO (aX ar W) n i r), S, ar) := by
  have inner : ∀ (k9 : Int32 → Int32 → Int32 → Int32 → (Nat → Int32) → jSc → Option (Int32 × (Nat → Int32) × jSc)) (i : Nat) (L : List (Nat × Nat)), i < n → (∀ t, k9 x1 0 (nI t) (nI (i + 1)) S ar = some (aKth x1 t L, S, ar)) → ∀ r j t nn, j + r = n → i < j → r < nn → rF_75_24 k9 nn x1 0 (nI t) (nI i) (nI j) S ar = some (aKth x1 t (crI (aX ar W) i j r ++ L), S, ar) := by
    intro k9 i L hi hk r
    induction r with
    | zero =>
      intro j t nn h1 h2 h3
      obtain ⟨nn, rfl⟩ : ∃ j, nn = j + 1 := ⟨nn - 1, by omega⟩
      unfold rF_75_24
      rw [h31, if_pos (nI_le (by omega) (by omega)), nI_1, hk t]
      rfl
    | succ r ih =>
      intro j t nn h1 h2 h3
      obtain ⟨nn, rfl⟩ : ∃ j, nn = j + 1 := ⟨nn - 1, by omega⟩
      unfold rF_75_24
      rw [h31, if_neg (nI_ge (by omega) (by omega)), r_items ho hn hi (by omega), ob3, Nat.min_eq_left (by omega), Nat.max_eq_right (by omega), nI_1, nI_1, if_pos rfl]
      unfold crI
      by_cases z : aX ar W i j = 0
      · rw [if_pos z, if_pos z, ih (j + 1) t nn (by omega) (by omega) (by omega)]
      · rw [if_neg z, if_neg z, ih (j + 1) (t + 1) nn (by omega) (by omega) (by omega)]
        show _ = some ((if nI t = x1 then 64 * nI i + nI j else aKth x1 (t + 1) (crI (aX ar W) i (j + 1) r ++ L)), S, ar)
        by_cases y : nI t = x1
        · rw [if_pos y, if_pos y]
        · rw [if_neg y, if_neg y]
  intro r
  induction r with
  | zero =>
    intro i t nn h1 h2
    obtain ⟨nn, rfl⟩ : ∃ j, nn = j + 1 := ⟨nn - 1, by omega⟩
    unfold rF_75_9
    rw [h31, if_pos (nI_le (by omega) (by omega)), if_pos rfl]
    rfl
  | succ r ih =>
    intro i t nn h1 h2
    obtain ⟨nn, rfl⟩ : ∃ j, nn = j + 1 := ⟨nn - 1, by omega⟩
    unfold rF_75_9
    rw [h31, if_neg (nI_ge (by omega) (by omega)), nI_1]
    exact inner _ i (crO (aX ar W) n (i + 1) r) (by omega) (fun t => ih (i + 1) t nn (by omega) (by omega)) (n - (i + 1)) (i + 1) t oF (by omega) (by omega) (by unfold oF; omega)
/-- how many, in ClickOrders -/
theorem c_cnt (hT : tK n S ar sc car al) : ∀ (r i t nn : Nat), i + r = n → r < nn → xF_302_4 nn (nI t) (nI i) sc mr car al = some (nI (t + (crO (aX ar (tW al)) n i r).length), sc, mr, car, al) := by
  have hn := hT.1
  have h5 := hT.2.2.1
  have inner : ∀ (k4 : Int32 → Int32 → jSc → (Nat → Nat) → jSc → jAl → Option (Int32 × jSc × (Nat → Nat) × jSc × jAl)) (i : Nat), i < n → ∀ r j t nn, j + r = n → i < j → r < nn → xF_302_16 k4 nn (nI t) (nI i) (nI j) sc mr car al = k4 (nI (t + (crI (aX ar (tW al)) i j r).length)) (nI (i + 1)) sc mr car al := by
    intro k4 i hi r
    induction r with
    | zero =>
      intro j t nn h1 h2 h3
      obtain ⟨nn, rfl⟩ : ∃ j, nn = j + 1 := ⟨nn - 1, by omega⟩
      unfold xF_302_16
      rw [h5, if_pos (nI_le (by omega) (by omega)), nI_1]
      rfl
    | succ r ih =>
      intro j t nn h1 h2 h3
      obtain ⟨nn, rfl⟩ : ∃ j, nn = j + 1 := ⟨nn - 1, by omega⟩
      unfold xF_302_16
      rw [h5, if_neg (nI_ge (by omega) (by omega)), c_crossed hT (by omega) (by omega), ob5, nI_1, nI_1]
      unfold crI
      by_cases z : aX ar (tW al) i j = 0
      · rw [if_pos z, if_pos z, ih (j + 1) t nn (by omega) (by omega) (by omega)]
      · rw [if_neg z, if_neg z, ih (j + 1) (t + 1) nn (by omega) (by omega) (by omega), List.length_cons, show t + 1 + (crI (aX ar (tW al)) i (j + 1) r).length = t + ((crI (aX ar (tW al)) i (j + 1) r).length + 1) by omega]
  intro r
  induction r with
  | zero =>
    intro i t nn h1 h2
    obtain ⟨nn, rfl⟩ : ∃ j, nn = j + 1 := ⟨nn - 1, by omega⟩
    unfold xF_302_4
    rw [h5, if_pos (nI_le (by omega) (by omega))]
    rfl
  | succ r ih =>
    intro i t nn h1 h2
    obtain ⟨nn, rfl⟩ : ∃ j, nn = j + 1 := ⟨nn - 1, by omega⟩
    unfold xF_302_4
    rw [h5, if_neg (nI_ge (by omega) (by omega)), nI_1, inner _ i (by omega) (n - (i + 1)) (i + 1) t oF (by omega) (by omega) (by unfold oF; omega), ih (i + 1) _ nn (by omega) (by omega)]
    show _ = some (nI (t + (crI (aX ar (tW al)) i (i + 1) (n - (i + 1)) ++ crO (aX ar (tW al)) n (i + 1) r).length), sc, mr, car, al)
    rw [List.length_append, Nat.add_assoc]
theorem sub_1 {x : Int32} {t : Nat} : x - nI t + (-1 : Int32) = x - nI (t + 1) := by
  rw [← nI_1, Int32.sub_eq_add_neg x (nI t + 1), Int32.neg_add, Int32.sub_eq_add_neg, Int32.sub_eq_add_neg, Int32.add_assoc]
theorem sub_0 {x : Int32} {t : Nat} : x - nI t = 0 ↔ nI t = x := by
  constructor
  · intro h
    have := congrArg (fun y => y + nI t) h
    simp only [Int32.sub_add_cancel, Int32.zero_add] at this
    exact this.symm
  · intro h
    rw [h, Int32.sub_self]
/-- which, in ClickOrders -/
theorem c_kth (hT : tK n S ar sc car al) {x1 : Int32} (hx : ¬ x1 < 0) : ∀ (r i t nn : Nat), i + r = n → r < nn → xF_303_4 nn x1 (x1 - nI t) (nI i) sc mr car al = some (aKth x1 t (crO (aX ar (tW al)) n i r), sc, mr, car, al) := by
  have hn := hT.1
  have h5 := hT.2.2.1
  have inner : ∀ (k4 : Int32 → Int32 → Int32 → jSc → (Nat → Nat) → jSc → jAl → Option (Int32 × jSc × (Nat → Nat) × jSc × jAl)) (i : Nat) (L : List (Nat × Nat)), i < n → (∀ t, k4 x1 (x1 - nI t) (nI (i + 1)) sc mr car al = some (aKth x1 t L, sc, mr, car, al)) → ∀ r j t nn, j + r = n → i < j → r < nn → xF_303_21 k4 nn x1 (x1 - nI t) (nI i) (nI j) sc mr car al = some (aKth x1 t (crI (aX ar (tW al)) i j r ++ L), sc, mr, car, al) := by
    intro k4 i L hi hk r
    induction r with
    | zero =>
      intro j t nn h1 h2 h3
      obtain ⟨nn, rfl⟩ : ∃ j, nn = j + 1 := ⟨nn - 1, by omega⟩
      unfold xF_303_21
      rw [h5, if_pos (nI_le (by omega) (by omega)), nI_1, hk t]
      rfl
    | succ r ih =>
      intro j t nn h1 h2 h3
      obtain ⟨nn, rfl⟩ : ∃ j, nn = j + 1 := ⟨nn - 1, by omega⟩
      unfold xF_303_21
      rw [h5, if_neg (nI_ge (by omega) (by omega)), c_crossed hT (by omega) (by omega), ob5, nI_1, sub_1]
      unfold crI
      by_cases z : aX ar (tW al) i j = 0
      · rw [if_pos z, if_pos z, ih (j + 1) t nn (by omega) (by omega) (by omega)]
      · rw [if_neg z, if_neg z, ih (j + 1) (t + 1) nn (by omega) (by omega) (by omega)]
        show _ = some ((if nI t = x1 then 64 * nI i + nI j else aKth x1 (t + 1) (crI (aX ar (tW al)) i (j + 1) r ++ L)), sc, mr, car, al)
        by_cases y : nI t = x1
        · rw [if_pos (sub_0.mpr y), if_pos y]
        · rw [if_neg (fun w => y (sub_0.mp w)), if_neg y]
  intro r
  induction r with
  | zero =>
    intro i t nn h1 h2
    obtain ⟨nn, rfl⟩ : ∃ j, nn = j + 1 := ⟨nn - 1, by omega⟩
    unfold xF_303_4
    rw [h5, if_pos (nI_le (by omega) (by omega))]
    rfl
  | succ r ih =>
    intro i t nn h1 h2
    obtain ⟨nn, rfl⟩ : ∃ j, nn = j + 1 := ⟨nn - 1, by omega⟩
    unfold xF_303_4
    rw [h5, if_neg (nI_ge (by omega) (by omega)), if_neg hx, nI_1]
    exact inner _ i (crO (aX ar (tW al)) n (i + 1) r) (by omega) (fun t => ih (i + 1) t nn (by omega) (by omega)) (n - (i + 1)) (i + 1) t oF (by omega) (by omega) (by unfold oF; omega)
theorem oW_K (hT : tK n S ar sc car al) : oW n ar (tW al) := hT.2.2.2.2.2.2.2
theorem co_K (hT : tK n S ar sc car al) : ∀ i, i < n → ∃ c, c < 13 ∧ ar 15 i = nI c := fun i hi => (hT.2.2.2.2.2.1 i hi).1
/-- what findOrder leaves -/
theorem r_ord (hT : tK n S ar sc car al) : ∃ ar9, rF_72 S ar = some (S, ar9) ∧ (∀ b, ¬ (62 ≤ b ∧ b < 102) → ar9 b = ar b) ∧ oF9 n ar9 (tW al) := r_order (oW_K hT) hT.1 hT.2.1 (co_K hT)
/-- crossings() -/
theorem r_crossings (hT : tK n S ar sc car al) (h0 : S 0 = 0) : ∃ ar9, rF_76 S ar = some (nI (crO (aX ar (tW al)) n 0 n).length, S, ar9) ∧ (∀ b, ¬ (62 ≤ b ∧ b < 102) → ar9 b = ar b) := by
  obtain ⟨ar9, e1, e2, e3⟩ := r_ord hT
  have u0 : upd S 0 0 = S := by
    funext k
    by_cases z : k = 0
    · subst z; rw [up_0]; exact h0.symm
    · rw [up_n z]
  have ec : crO (aX ar9 (tW al)) n 0 n = crO (aX ar (tW al)) n 0 n := crO_c (by omega) (fun p q _ _ => aX_c (e2 17 (by omega)) (e2 18 (by omega)))
  have := r_cnt (S := S) e3 hT.1 hT.2.1 (x1 := 0) n 0 0 oF (by omega) (by have := hT.1; unfold oF; omega)
  rw [ec, Nat.zero_add] at this
  unfold rF_76 rF_75
  rw [u0, e1, ob2]
  refine ⟨ar9, ?_, e2⟩
  show o_b3 (rF_75_9 oF 0 1 (nI 0) (nI 0) S ar9) _ = _
  rw [this, ob3]
theorem c_crossings (hT : tK n S ar sc car al) : xF_328 sc mr car al = some (nI (crO (aX ar (tW al)) n 0 n).length, sc, mr, car, al) := by
  have := c_cnt (mr := mr) hT n 0 0 oF (by omega) (by have := hT.1; unfold oF; omega)
  rw [Nat.zero_add] at this
  unfold xF_328 xF_302
  show o_b5 (xF_302_4 oF (nI 0) (nI 0) sc mr car al) _ = _
  rw [this, ob5]
/-- crossing(k) -/
theorem r_crossing (hT : tK n S ar sc car al) (h0 : S 0 = 0) {x : Int32} : ∃ ar9, rF_77 x S ar = some (aKth x 0 (crO (aX ar (tW al)) n 0 n), S, ar9) ∧ (∀ b, ¬ (62 ≤ b ∧ b < 102) → ar9 b = ar b) := by
  obtain ⟨ar9, e1, e2, e3⟩ := r_ord hT
  have u0 : upd S 0 0 = S := by
    funext k
    by_cases z : k = 0
    · subst z; rw [up_0]; exact h0.symm
    · rw [up_n z]
  have ec : crO (aX ar9 (tW al)) n 0 n = crO (aX ar (tW al)) n 0 n := crO_c (by omega) (fun p q _ _ => aX_c (e2 17 (by omega)) (e2 18 (by omega)))
  have := r_kth (S := S) e3 hT.1 hT.2.1 (x1 := x) n 0 0 oF (by omega) (by have := hT.1; unfold oF; omega)
  rw [ec] at this
  unfold rF_77 rF_75
  rw [u0, e1, ob2]
  refine ⟨ar9, ?_, e2⟩
  show o_b3 (rF_75_9 oF x 0 (nI 0) (nI 0) S ar9) _ = _
  rw [this, ob3]
theorem c_crossing (hT : tK n S ar sc car al) {x : Int32} : xF_329 x sc mr car al = some (aKth x 0 (crO (aX ar (tW al)) n 0 n), sc, mr, car, al) := by
  have hl := crO_len (X := aX ar (tW al)) (n := n) (r := n) (i := 0) (by omega) hT.1
  have hn := hT.1
  have e : xF_303 x sc mr car al = some (aKth x 0 (crO (aX ar (tW al)) n 0 n), sc, mr, car, al) := by
    unfold xF_303
    by_cases z : x < 0
    · rw [aKth_neg z (by omega)]
      show xF_303_4 (9999 + 1) x x 0 sc mr car al = _
      unfold xF_303_4
      by_cases y : sc 759 5 ≤ 0
      · rw [if_pos y]
      · rw [if_neg y, if_pos z]
    · have := c_kth (mr := mr) hT z n 0 0 oF (by omega) (by unfold oF; omega)
      rw [show x - nI 0 = x from Int32.sub_zero x] at this
      exact this
  unfold xF_329
  rw [e, ob5]
/-- ordered(i, j), past the test -/
theorem r_ord_a {i j : Nat} (ho : oF9 n ar W) (hn : n ≤ 40) (hi : i < n) (hj : j < n) (hl : W j i = true → i < j) : (if nI j ≤ nI i then some ((0 : Int32), S, ar) else (if iB (nI i) 40 then (if iB (nI j) 40 then (if (ar (62 + iN (nI i)) (iN (nI j))) = 0 then some ((0 : Int32), S, ar) else some ((1 : Int32), S, ar)) else none) else none)) = some (if i < j ∧ W j i = true then 1 else 0, S, ar) := by
  have w := iV_0 (ho j hj i (by omega))
  by_cases z : j ≤ i
  · rw [if_pos (nI_le z (by omega)), if_neg (fun y => absurd y.1 (by omega))]
  · rw [if_neg (nI_ge (by omega) (by omega)), if_pos (iB_nI (by omega) (by decide)), if_pos (iB_nI (by omega) (by decide)), iN_nI (by omega), iN_nI (by omega)]
    by_cases y : W j i = true
    · rw [if_neg (fun x => w.mp x y), if_pos ⟨by omega, y⟩]
    · rw [if_pos (w.mpr y), if_neg (fun x => y x.2)]
end CR
