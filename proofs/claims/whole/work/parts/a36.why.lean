/-! why, turn, sorts, on both sides. -/
theorem nA_of {x : Int32} (h : ¬ x < 0) : ∃ i, i < 2 ^ 31 ∧ x = nI i := by
  have h0 : 0 ≤ x.toInt := by
    have := Int32.not_lt.mp h
    exact Int32.le_iff_toInt_le.mp this
  have h1 : x.toInt < 2 ^ 31 := Int32.toInt_lt x
  refine ⟨x.toInt.toNat, by omega, ?_⟩
  apply Int32.toInt_inj.mp
  rw [nI_toInt (by omega)]
  omega
theorem nA_of2 {x : Int32} {n : Nat} (h : ¬ x < 0) (hn : n < 2 ^ 31) (h2 : x < nI n) : ∃ i, i < n ∧ x = nI i := by
  obtain ⟨i, a, rfl⟩ := nA_of h
  exact ⟨i, (nI_ltI a hn).mp h2, rfl⟩
theorem i_addor {a b : Int32} (h : a &&& b = 0) : a + b = a ||| b := by
  apply Int32.toBitVec_inj.mp
  rw [Int32.toBitVec_add, Int32.toBitVec_or]
  refine BitVec.add_eq_or_of_and_eq_zero _ _ ?_
  have := congrArg Int32.toBitVec h
  rw [Int32.toBitVec_and] at this
  exact this
def tz62 (x0 x1 : Int32) : Int32 := if x0 ≤ (4 : Int32) then (x1 + ((x0).toUInt32 >>> (((1 : Int32)).toUInt32 &&& Int32.toUInt32 31)).toInt32) else ((x1 + (2 : Int32)) + ((((x0).toUInt32 >>> (((2 : Int32)).toUInt32 &&& Int32.toUInt32 31)).toInt32).toUInt32 >>> (((1 : Int32)).toUInt32 &&& Int32.toUInt32 31)).toInt32)
def tz34 (x0 x1 : Int32) : Int32 := (if x0 ≤ (256 : Int32) then (if x0 ≤ (16 : Int32) then tz62 x0 x1 else tz62 ((x0).toUInt32 >>> (((4 : Int32)).toUInt32 &&& Int32.toUInt32 31)).toInt32 (x1 + (4 : Int32))) else (if ((x0).toUInt32 >>> (((8 : Int32)).toUInt32 &&& Int32.toUInt32 31)).toInt32 ≤ (16 : Int32) then tz62 ((x0).toUInt32 >>> (((8 : Int32)).toUInt32 &&& Int32.toUInt32 31)).toInt32 (x1 + (8 : Int32)) else tz62 ((((x0).toUInt32 >>> (((8 : Int32)).toUInt32 &&& Int32.toUInt32 31)).toInt32).toUInt32 >>> (((4 : Int32)).toUInt32 &&& Int32.toUInt32 31)).toInt32 ((x1 + (8 : Int32)) + (4 : Int32))))
def tzv (M : Int32) : Int32 := (if 0 < M then (if M ≤ (65536 : Int32) then tz34 M (1 : Int32) else tz34 ((M).toUInt32 >>> (((16 : Int32)).toUInt32 &&& Int32.toUInt32 31)).toInt32 ((1 : Int32) + (16 : Int32))) else (M &&& (32 : Int32)))
theorem tzv_k : ∀ k, k < 24 → tzv (nI (2 ^ k - 1)) = nI k := by decide +kernel
section TZ
variable {sc car : jSc} {mr : Nat → Nat} {al : jAl}
theorem c_62 {x0 x1 : Int32} : xF_500_62 x0 x1 sc mr car al = some (tz62 x0 x1, sc, mr, car, al) := by
  unfold xF_500_62 tz62
  split <;> rfl
theorem c_34 {x0 x1 : Int32} : xF_500_34 x0 x1 sc mr car al = some (tz34 x0 x1, sc, mr, car, al) := by
  unfold xF_500_34 tz34
  rw [c_62, c_62, c_62, c_62]
  split
  · split <;> rfl
  · split <;> rfl
theorem tz_M {x : Int32} {k : Nat} (hk : k < 24) (h1 : bt x k = true) (h0 : ∀ i, i < k → bt x i = false) : (x ^^^ (-1 : Int32)) &&& (x - (1 : Int32)) = nI (2 ^ k - 1) := by
  have bm : ∀ k, k < 24 → ∀ i, i < 32 → bt (nI (2 ^ k - 1)) i = decide (i < k) := by decide +kernel
  have sm : ∀ k, k < 24 → (1 : Int32) <<< (nI k &&& 31) - 1 = nI (2 ^ k - 1) := by decide +kernel
  generalize hu : x &&& (((1 : Int32) <<< (nI k &&& 31)) ^^^ (-1)) = u
  have bu : ∀ i, i < 32 → bt u i = (bt x i && !decide (i = k)) := fun i hi => by rw [← hu, bt_clr (by omega) hi]
  have e1 : u + ((1 : Int32) <<< (nI k &&& 31)) = x := by
    rw [i_addor]
    · apply b_ext
      intro i hi
      rw [b_or, bu i hi, bt_1 k (by omega) hi]
      by_cases z : i = k
      · subst z; simp [h1]
      · simp [z]
    · apply b_ext
      intro i hi
      rw [b_and, bu i hi, bt_1 k (by omega) hi, b_0]
      by_cases z : i = k
      · simp [z]
      · simp [z]
  have e2 : x - 1 = u ||| nI (2 ^ k - 1) := by
    rw [← i_addor, ← sm k hk, ← e1]
    · rw [Int32.sub_eq_add_neg, Int32.sub_eq_add_neg, Int32.add_assoc]
    · apply b_ext
      intro i hi
      rw [b_and, bu i hi, bm k hk i hi, b_0]
      by_cases z : i < k
      · rw [h0 i z]; rfl
      · rw [decide_eq_false z, Bool.and_false]
  apply b_ext
  intro i hi
  rw [e2, b_and, b_xor, b_or, bu i hi, bm k hk i hi, b_m1 i hi]
  by_cases z : i < k
  · rw [h0 i z, decide_eq_true z]; rfl
  · rw [decide_eq_false z, Bool.or_false]
    cases bt x i <;> simp
theorem c_tz {x : Int32} {k : Nat} (hk : k < 24) (h1 : bt x k = true) (h0 : ∀ i, i < k → bt x i = false) : xF_500 x sc mr car al = some (nI k, sc, mr, car, al) := by
  have e : xF_500 x sc mr car al = some (tzv ((x ^^^ (-1 : Int32)) &&& (x - (1 : Int32))), sc, mr, car, al) := by
    unfold xF_500 tzv
    rw [c_34, c_34]
    split
    · split <;> rfl
    · rfl
  rw [e, tz_M hk h1 h0, tzv_k k hk]
end TZ
/-- the least bit below 24 -/
def aLo (x : Int32) : Nat → Nat → Int32
  | _, 0 => -1
  | k, r + 1 => if bt x k = true then nI k else aLo x (k + 1) r
theorem aLo_v {x : Int32} : ∀ {r k : Nat}, (aLo x k r = -1 ∧ ∀ i, k ≤ i → i < k + r → bt x i = false) ∨ ∃ q, k ≤ q ∧ q < k + r ∧ aLo x k r = nI q ∧ bt x q = true ∧ ∀ i, k ≤ i → i < q → bt x i = false
  | 0, k => Or.inl ⟨rfl, fun i a b => by omega⟩
  | r + 1, k => by
    unfold aLo
    by_cases z : bt x k = true
    · rw [if_pos z]
      exact Or.inr ⟨k, Nat.le_refl _, by omega, rfl, z, fun i a b => by omega⟩
    · rw [if_neg z]
      have zf : bt x k = false := by simpa using z
      rcases aLo_v (x := x) (r := r) (k := k + 1) with ⟨a, b⟩ | ⟨q, a, b, c, d, e⟩
      · refine Or.inl ⟨a, fun i h1 h2 => ?_⟩
        by_cases y : i = k
        · subst y; exact zf
        · exact b i (by omega) (by omega)
      · refine Or.inr ⟨q, by omega, by omega, c, d, fun i h1 h2 => ?_⟩
        by_cases y : i = k
        · subst y; exact zf
        · exact e i (by omega) h2
theorem lo24_X {ar : jSc} {W : Nat → Nat → Bool} {n i j : Nat} (h : tB n ar) (hi : i < n) (hj : j < n) : lo24 (aX ar W i j) := by
  unfold aX
  split
  · exact lo24_0
  · intro b h1 h2
    rw [b_or, b_and, b_and, h i hi b h1 h2, h j hj b h1 h2]; rfl
section WY
variable {S0 : Nat → Int32} {ar0 : jSc} {S : Nat → Int32} {ar : jSc} {sc car : jSc} {mr : Nat → Nat} {al : jAl} {pr nn0 p m n : Nat} {tx : Nat → Int32} {g : pG} {W : Nat → Nat → Bool}
theorem r_78 {x : Int32} : ∀ (r k nn : Nat), k + r = 24 → r < nn → rF_78_50 nn x (nI k) S ar = some (aLo x k r, S, ar) := by
  intro r
  induction r with
  | zero =>
    intro k nn h1 h2
    obtain ⟨nn, rfl⟩ : ∃ j, nn = j + 1 := ⟨nn - 1, by omega⟩
    unfold rF_78_50
    rw [if_pos (show (24 : Int32) ≤ nI k from nI_le (a := 24) (by omega) (by omega))]; rfl
  | succ r ih =>
    intro k nn h1 h2
    obtain ⟨nn, rfl⟩ : ∃ j, nn = j + 1 := ⟨nn - 1, by omega⟩
    have e := bt_s1 (x := x) (k := k) (by omega)
    unfold rF_78_50
    rw [if_neg (show ¬ (24 : Int32) ≤ nI k from nI_ge (b := 24) (by omega) (by decide)), nI_1, ih (k + 1) nn (by omega) (by omega)]
    show _ = some ((if bt x k = true then nI k else aLo x (k + 1) r), S, ar)
    by_cases z : bt x k = true
    · rw [if_pos (e.mpr z), if_pos z]
    · rw [if_neg (fun y => z (e.mp y)), if_neg z]
theorem r_69 {i : Nat} (hn : n ≤ 40) (h31 : S 31 = nI n) (hi : i < n) : rF_69 (nI i) S ar = some (1, S, ar) := by
  unfold rF_69 rF_4
  rw [h31, if_neg (nI_pos (by omega)), show nI n - (1 : Int32) = nI (n - 1) from nI_p1 (by omega), if_neg (nI_nlt (by omega) (by omega)), ob3, if_pos (Or.inr rfl)]
theorem c_356 {i : Nat} (hn : n ≤ 40) (h5 : sc 759 5 = nI n) (hi : i < n) : xF_356 (nI i) sc mr car al = some (sc, mr, car, al) := by
  unfold xF_356
  rw [if_neg (nI_pos (by omega)), h5, if_pos (nI_lt hi (by omega))]
theorem mn_i {i j : Nat} (hi : i < 2 ^ 31) (hj : j < 2 ^ 31) : (if nI j < nI i then nI j else nI i) = nI (min i j) := by
  by_cases z : j < i
  · rw [if_pos (nI_lt z hi), Nat.min_eq_right (by omega)]
  · rw [if_neg (nI_nlt (by omega) (by omega)), Nat.min_eq_left (by omega)]
theorem mx_i {i j : Nat} (hi : i < 2 ^ 31) (hj : j < 2 ^ 31) : (if nI i < nI j then nI j else nI i) = nI (max i j) := by
  by_cases z : i < j
  · rw [if_pos (nI_lt z hj), Nat.max_eq_right (by omega)]
  · rw [if_neg (nI_nlt (by omega) (by omega)), Nat.max_eq_left (by omega)]
/-- what calls on the run leave: the order's rows, the row to be stepped, the page at work -/
def vQ (S : Nat → Int32) (ar : jSc) (S9 : Nat → Int32) (ar9 : jSc) : Prop := rF8 S S9 ∧ ∀ b, b ≠ 13 → b ≠ 712 → ¬ (62 ≤ b ∧ b < 102) → ar9 b = ar b
/-- why(i, j) -/
theorem r_why (hT : tK n (upd S 0 0) ar sc car al) {i j : Nat} (hi : i < n) (hj : j < n) : ∃ ar9, rF_78 (nI i) (nI j) S ar = some (aLo (aX ar (tW al) (min i j) (max i j)) 0 24, upd S 0 0, ar9) ∧ vQ (upd S 0 0) ar (upd S 0 0) ar9 := by
  obtain ⟨ar9, e1, e2, e3⟩ := r_ord hT
  unfold rF_78
  rw [r_69 hT.1 hT.2.1 hi, ob3, if_neg (show ¬ (1 : Int32) = 0 by decide), r_69 hT.1 hT.2.1 hj, ob3, if_neg (show ¬ (1 : Int32) = 0 by decide)]
  unfold rF_78_27
  rw [r_ok, ob3, if_pos rfl, e1, ob2, r_items e3 hT.1 hi hj, ob3, aX_c (e2 17 (by omega)) (e2 18 (by omega))]
  have := r_78 (S := upd S 0 0) (ar := ar9) (x := aX ar (tW al) (min i j) (max i j)) 24 0 oF (by omega) (by unfold oF; omega)
  rw [show nI 0 = (0 : Int32) from rfl] at this
  exact ⟨ar9, this, rF8_rf _, fun b _ _ h => e2 b h⟩
theorem c_why (hT : tK n S ar sc car al) (hB : tB n ar) {i j : Nat} (hi : i < n) (hj : j < n) : xF_330 (nI i) (nI j) sc mr car al = some (aLo (aX ar (tW al) (min i j) (max i j)) 0 24, sc, mr, car, al) := by
  have hn := hT.1
  have h5 := hT.2.2.1
  unfold xF_330
  rw [c_356 hn h5 hi, ob4, c_356 hn h5 hj, ob4, mn_i (by omega) (by omega), mx_i (by omega) (by omega), c_crossed hT (by omega) (by omega), ob5]
  have l24 := lo24_X (W := tW al) hB (show min i j < n by omega) (show max i j < n by omega)
  rcases aLo_v (x := aX ar (tW al) (min i j) (max i j)) (r := 24) (k := 0) with ⟨a, b⟩ | ⟨q, a, b, c, d, e⟩
  · have x0 : aX ar (tW al) (min i j) (max i j) = 0 := by
      apply b_ext
      intro q hq
      rw [b_0]
      by_cases z : q < 24
      · exact b q (by omega) (by omega)
      · exact l24 q (by omega) hq
    rw [if_pos x0, a]
  · have x0 : ¬ aX ar (tW al) (min i j) (max i j) = 0 := fun z => by rw [z, b_0] at d; cases d
    rw [if_neg x0, c_tz (k := q) (by omega) d (fun i hi => e i (by omega) hi), ob5, c]
theorem aX_ne {i j : Nat} (h : ¬ aX ar W (min i j) (max i j) = 0) : min i j < max i j := by
  refine Classical.byContradiction fun z => h ?_
  unfold aX
  rw [if_pos (Or.inl (by omega))]
/-- turn(i, j) -/
def aTrn (S0 : Nat → Int32) (ar0 : jSc) (m : Nat) (ar : jSc) (W : Nat → Nat → Bool) (n i j : Nat) : Int32 := if aX ar W (min i j) (max i j) = 0 then -1 else nI (aTu S0 ar0 m ar W n (min i j) (max i j))
theorem aTu_c {ar2 : jSc} (h : ∀ b, b ≠ 13 → b ≠ 712 → ¬ (62 ≤ b ∧ b < 102) → ar2 b = ar b) {i j : Nat} (hn : n ≤ 40) : aTu S0 ar0 m ar2 W n i j = aTu S0 ar0 m ar W n i j := by
  have e15 : ar2 15 = ar 15 := h 15 (by decide) (by decide) (by omega)
  have e14 : ar2 14 = ar 14 := h 14 (by decide) (by decide) (by omega)
  have ec : ∀ l, cds ar2 l = cds ar l := fun l => by unfold cds; rw [e15]
  have es : ∀ (cs : List Nat) (P : Nat → Int32), aStg S0 ar0 m (fun s => ar2 (20 + s)) n cs P = aStg S0 ar0 m (fun s => ar (20 + s)) n cs P := by
    intro cs
    induction cs with
    | nil => intro P; rfl
    | cons c cs ih =>
      intro P
      rw [aStg_cons, aStg_cons, ih, ih, aSB_c (T := fun s => ar (20 + s)) (T2 := fun s => ar2 (20 + s)) (Q := aSt S0 ar0 P c) (Q2 := aSt S0 ar0 P c) (fun s hs k _ => by rw [h (20 + s) (by omega) (by omega) (by omega)]) (fun _ _ => rfl)]
  unfold aTu aTn
  rw [ec, ec, e15, e14, es]
theorem r_trn (hE : cE pr nn0 tx g p m S0 ar0 sc car mr) (hS : stS S0 S) (hA : stA ar0 ar) (h16 : S0 16 = 0) (hT : tK n (upd S 0 0) ar sc car al) {i j : Nat} (hi : i < n) (hj : j < n) : ∃ S9 ar9, rF_83 (nI i) (nI j) S ar = some (aTrn S0 ar0 m ar (tW al) n i j, S9, ar9) ∧ vQ (upd S 0 0) ar S9 ar9 := by
  obtain ⟨ar1, e1, e2, e3⟩ := r_ord hT
  have hn := hT.1
  unfold rF_83
  rw [r_69 hT.1 hT.2.1 hi, ob3, if_neg (show ¬ (1 : Int32) = 0 by decide), r_69 hT.1 hT.2.1 hj, ob3, if_neg (show ¬ (1 : Int32) = 0 by decide)]
  unfold rF_83_27
  rw [r_ok, ob3, if_pos rfl, e1, ob2, r_items e3 hT.1 hi hj, ob3, aX_c (e2 17 (by omega)) (e2 18 (by omega))]
  unfold aTrn
  have hA1 : stA ar0 ar1 := stA_tr hA (fun b hb => e2 b (by omega))
  have hS1 := stS_0 hS
  have co1 : ∀ i, i < n → ∃ c, c < 13 ∧ ar1 15 i = nI c := fun i hi => by rw [e2 15 (by omega)]; exact co_K hT i hi
  by_cases z : aX ar (tW al) (min i j) (max i j) = 0
  · rw [if_pos z, if_pos z]
    exact ⟨_, ar1, rfl, rF8_rf _, fun b _ _ h => e2 b h⟩
  · have lt := aX_ne z
    rw [if_neg z, if_neg z]
    obtain ⟨S9, ar9, f1, f2, f3⟩ := r_turned (i := min i j) (j := max i j) hE hS1 hA1 h16 hn hT.2.1 lt (by omega) e3 co1
    have fr : vQ (upd S 0 0) ar S9 ar9 := ⟨f2, fun b h1 h2 h3 => (f3 b h1 h2).trans (e2 b h3)⟩
    rw [aTu_c (fun b _ _ h => e2 b h) hn] at f1
    by_cases y : j ≤ i
    · rw [if_pos (nI_le y (by omega))]
      rw [Nat.min_eq_right y, Nat.max_eq_left y] at f1 ⊢
      rw [f1, ob3]
      exact ⟨S9, ar9, rfl, fr⟩
    · rw [if_neg (nI_ge (by omega) (by omega))]
      rw [Nat.min_eq_left (show i ≤ j by omega), Nat.max_eq_right (show i ≤ j by omega)] at f1 ⊢
      rw [f1, ob3]
      exact ⟨S9, ar9, rfl, fr⟩
theorem c_trn (hE : cE pr nn0 tx g p m S0 ar0 sc car mr) (hT : tK n S ar sc car al) {i j : Nat} (hi : i < n) (hj : j < n) : ∃ sc2 car2, xF_331 (nI i) (nI j) sc mr car al = some (aTrn S0 ar0 m ar (tW al) n i j, sc2, mr, car2, al) ∧ zT sc car sc2 car2 := by
  have hn := hT.1
  have h5 := hT.2.2.1
  unfold xF_331 aTrn
  rw [c_356 hn h5 hi, ob4, c_356 hn h5 hj, ob4, mn_i (by omega) (by omega), mx_i (by omega) (by omega), c_crossed hT (by omega) (by omega), ob5]
  by_cases z : aX ar (tW al) (min i j) (max i j) = 0
  · rw [if_pos z, if_pos z]
    exact ⟨sc, car, rfl, zT_rf hE.2.2⟩
  · obtain ⟨sc2, car2, f1, f2⟩ := c_turned (al := al) (i := min i j) (j := max i j) hE hT (aX_ne z) (by omega)
    rw [if_neg z, if_neg z, f1, ob5]
    exact ⟨sc2, car2, rfl, f2⟩
end WY
