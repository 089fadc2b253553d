/-! PAGES: clocks grow older, the next clock, a clock and an answer taken: on both sides. -/
theorem nI_div {a b : Nat} (ha : a < 2 ^ 31) (hb : b < 2 ^ 31) : nI a / nI b = nI (a / b) := by
  apply Int32.toInt_inj.mp
  have h := Nat.div_le_self a b
  rw [Int32.toInt_div, nI_toInt ha, nI_toInt hb, nI_toInt (by omega), Int.tdiv_eq_ediv_of_nonneg (by omega), ← Int.natCast_ediv]
  generalize a / b = q at h ⊢
  exact Int.bmod_eq_of_le (by omega) (by omega)
theorem nI_md {d h : Nat} (hd : d ≤ 3) (hh : h ≤ 999) : nI (d * 1000 + h) - nI (d * 1000 + h) / 1000 * 1000 = nI h := by
  rw [show (1000 : Int32) = nI 1000 from rfl, nI_div (by omega) (by decide), nI_mul, show (d * 1000 + h) / 1000 = d by omega, nI_sub (by omega), show d * 1000 + h - d * 1000 = h by omega]
theorem nI_dv {d h : Nat} (hd : d ≤ 3) (hh : h ≤ 999) : nI (d * 1000 + h) / 1000 = nI d := by
  rw [show (1000 : Int32) = nI 1000 from rfl, nI_div (by omega) (by decide), show (d * 1000 + h) / 1000 = d by omega]
/-- all clocks to come one hour less, in both pages -/
def ageP (P : Nat → Int32) (n : Nat) : Nat → Int32 := fun i => if 30 ≤ i ∧ i < 30 + n then (if P i ≤ 0 then 0 else P i - 1) else P i
def ageC (C : Nat → Int32) (n : Nat) : Nat → Int32 := fun i => if 32 ≤ i ∧ i < 32 + n then (if C i - C i / 1000 * 1000 ≤ 0 then C i else C i - 1) else C i
theorem ageP_o {P : Nat → Int32} {n i : Nat} (h : i < 30 ∨ 30 + n ≤ i) : ageP P n i = P i := if_neg (by omega)
theorem ageC_o {C : Nat → Int32} {n i : Nat} (h : i < 32 ∨ 32 + n ≤ i) : ageC C n i = C i := if_neg (by omega)
theorem ageP_s {P : Nat → Int32} {j : Nat} : upd (ageP P j) (30 + j) (if ageP P j (30 + j) ≤ 0 then 0 else ageP P j (30 + j) - 1) = ageP P (j + 1) := by
  funext i
  by_cases c : i = 30 + j
  · subst c
    rw [up_0, ageP_o (by omega)]
    unfold ageP
    rw [if_pos (show 30 ≤ 30 + j ∧ 30 + j < 30 + (j + 1) by omega)]
  · rw [up_n c]
    unfold ageP
    by_cases d : 30 ≤ i ∧ i < 30 + j
    · rw [if_pos d, if_pos (show 30 ≤ i ∧ i < 30 + (j + 1) by omega)]
    · rw [if_neg d, if_neg (by omega)]
theorem ageC_s {C : Nat → Int32} {j : Nat} : (if ageC C j (32 + j) - ageC C j (32 + j) / 1000 * 1000 ≤ 0 then ageC C j else upd (ageC C j) (32 + j) (ageC C j (32 + j) - 1)) = ageC C (j + 1) := by
  have e : ageC C j (32 + j) = C (32 + j) := ageC_o (by omega)
  rw [e]
  funext i
  by_cases z : C (32 + j) - C (32 + j) / 1000 * 1000 ≤ 0
  · rw [if_pos z]
    unfold ageC
    by_cases c : i = 32 + j
    · subst c
      rw [if_neg (by omega), if_pos (by omega), if_pos z]
    · by_cases d : 32 ≤ i ∧ i < 32 + j
      · rw [if_pos d, if_pos (show 32 ≤ i ∧ i < 32 + (j + 1) by omega)]
      · rw [if_neg d, if_neg (by omega)]
  · rw [if_neg z]
    by_cases c : i = 32 + j
    · subst c
      rw [up_0]
      unfold ageC
      rw [if_pos (by omega), if_neg z]
    · rw [up_n c]
      unfold ageC
      by_cases d : 32 ≤ i ∧ i < 32 + j
      · rw [if_pos d, if_pos (show 32 ≤ i ∧ i < 32 + (j + 1) by omega)]
      · rw [if_neg d, if_neg (by omega)]
theorem va_u2 {f : jSc} {a k : Nat} {v : Int32} : j_u2 f a k v = va_up f a (upd (f a) k v) := by
  funext b
  by_cases c : b = a
  · subst c; rw [u2_up, va_up_self]
  · rw [j_u2_row _ _ _ _ c, va_up_ne _ _ c]
theorem va_i {f : jSc} {a : Nat} : va_up f a (f a) = f := by
  funext b
  by_cases c : b = a
  · subst c; rw [va_up_self]
  · rw [va_up_ne _ _ c]
theorem va_2 {f : jSc} {a : Nat} {x y : Nat → Int32} : va_up (va_up f a x) a y = va_up f a y := by
  funext b
  by_cases c : b = a
  · subst c; rw [va_up_self, va_up_self]
  · rw [va_up_ne _ _ c, va_up_ne _ _ c, va_up_ne _ _ c]
/-- the reference's clocks grow older -/
theorem r_age {x1 x2 x3 x4 x5 : Int32} {S : Nat → Int32} {ar : jSc} {n : Nat} (hn : n ≤ 3) (h26 : ar 13 26 = nI n) : rF_52_16 oF x1 x2 x3 x4 x5 0 S ar = if (8 : Int32) ≤ x1 then rF_52_100 x1 x3 x4 x5 (0 : Int32) (upd (upd S 26 x2) 25 (0 : Int32)) (va_up ar 13 (ageP (ar 13) n)) else rF_52_100 x1 x3 x4 x5 ((1 : Int32) <<< (((8 : Int32) + x1) &&& 31)) (upd (upd S 26 x2) 25 (0 : Int32)) (va_up ar 13 (ageP (ar 13) n)) := by
  have go : ∀ c j nn, j + c = n → c < nn → rF_52_16 nn x1 x2 x3 x4 x5 (nI j) S (va_up ar 13 (ageP (ar 13) j)) = if (8 : Int32) ≤ x1 then rF_52_100 x1 x3 x4 x5 (0 : Int32) (upd (upd S 26 x2) 25 (0 : Int32)) (va_up ar 13 (ageP (ar 13) n)) else rF_52_100 x1 x3 x4 x5 ((1 : Int32) <<< (((8 : Int32) + x1) &&& 31)) (upd (upd S 26 x2) 25 (0 : Int32)) (va_up ar 13 (ageP (ar 13) n)) := by
    intro c
    induction c with
    | zero =>
      intro j nn h1 h2
      obtain ⟨nn, rfl⟩ : ∃ i, nn = i + 1 := ⟨nn - 1, by omega⟩
      have : j = n := by omega
      subst this
      conv => lhs; unfold rF_52_16
      rw [va_up_self, ageP_o (by omega), h26, if_pos (nI_le (by omega) (by omega))]
    | succ c ih =>
      intro j nn h1 h2
      obtain ⟨nn, rfl⟩ : ∃ i, nn = i + 1 := ⟨nn - 1, by omega⟩
      have e30 : (30 : Int32) + nI j = nI (30 + j) := nI_add 30 j
      have r := ih (j + 1) nn (by omega) (by omega)
      rw [← ageP_s] at r
      conv => lhs; unfold rF_52_16
      have i1 : iB (nI (30 + j)) 53 := iB_nI (by omega) (by decide)
      rw [va_up_self, ageP_o (i := 26) (by omega), h26, if_neg (nI_ge (by omega) (by omega)), e30, if_pos i1, if_pos i1, if_pos i1, iN_nI (by omega), nI_1, va_u2, va_u2, va_up_self, va_2, va_2]
      by_cases z : ageP (ar 13) j (30 + j) ≤ 0
      · rw [if_pos z]
        rw [if_pos z] at r
        exact r
      · rw [if_neg z, if_pos i1]
        rw [if_neg z] at r
        exact r
  have e0 : ageP (ar 13) 0 = ar 13 := by
    funext i
    exact ageP_o (by omega)
  have r := go n 0 oF (by omega) (by unfold oF; omega)
  rw [e0, va_i] at r
  exact r
/-- ClickOrders' clocks grow older -/
theorem c_age {pp n : Nat} {sc car : jSc} {mr : Nat → Nat} {al : jAl} (hn : n ≤ 3) (h19 : car (pp + 1) 19 = nI n) : xF_240 pp sc mr car al = some (sc, mr, va_up car (pp + 1) (ageC (car (pp + 1)) n), al) := by
  have go : ∀ c j nn, j + c = n → c < nn → xF_240_2 nn pp (nI j) sc mr (va_up car (pp + 1) (ageC (car (pp + 1)) j)) al = some (sc, mr, va_up car (pp + 1) (ageC (car (pp + 1)) n), al) := by
    intro c
    induction c with
    | zero =>
      intro j nn h1 h2
      obtain ⟨nn, rfl⟩ : ∃ i, nn = i + 1 := ⟨nn - 1, by omega⟩
      have : j = n := by omega
      subst this
      unfold xF_240_2
      rw [va_up_self, ageC_o (by omega), h19, if_pos (nI_le (by omega) (by omega))]
    | succ c ih =>
      intro j nn h1 h2
      obtain ⟨nn, rfl⟩ : ∃ i, nn = i + 1 := ⟨nn - 1, by omega⟩
      have e32 : (32 : Int32) + nI j = nI (32 + j) := nI_add 32 j
      have r := ih (j + 1) nn (by omega) (by omega)
      rw [← ageC_s] at r
      unfold xF_240_2
      have i1 : iB (nI (32 + j)) 50 := iB_nI (by omega) (by decide)
      have c3 : (3 : Int32) ≤ nI j ↔ 3 ≤ j := nI_leI (by decide) (by omega)
      rw [va_up_self, ageC_o (i := 19) (by omega), h19, if_neg (nI_ge (by omega) (by omega)), if_neg (fun z => absurd (c3.mp z) (by omega)), e32, if_pos i1, if_pos i1, if_pos i1, iN_nI (by omega), nI_1, va_u2, va_up_self, va_2]
      by_cases z : ageC (car (pp + 1)) j (32 + j) - ageC (car (pp + 1)) j (32 + j) / 1000 * 1000 ≤ 0
      · rw [if_pos z]
        rw [if_pos z] at r
        exact r
      · rw [if_neg z]
        rw [if_neg z] at r
        exact r
  have e0 : ageC (car (pp + 1)) 0 = car (pp + 1) := by
    funext i
    exact ageC_o (by omega)
  have r := go n 0 oF (by omega) (by unfold oF; omega)
  rw [e0, va_i] at r
  exact r
theorem pgR_ag {P C : Nat → Int32} {n : Nat} (h : pgR P C) (hn : P 26 = nI n) (h3 : n ≤ 3) : pgR (ageP P n) (ageC C n) := by
  obtain ⟨h1, h2, ⟨k1, k2⟩, h4, h5, h5b⟩ := h
  refine ⟨fun k hk => ?_, fun k hk => ?_, ⟨fun l hl => ?_, ?_⟩, ?_, fun l k hl hk => ?_, fun k hk => ?_⟩
  · have a := ix_c k hk
    rw [ageC_o (by omega), ageP_o (by omega)]; exact h1 k hk
  · obtain ⟨d, x, hd, hx, e1, e2, e3⟩ := h2 k hk
    rw [ageP_o (i := 27 + k) (by omega)]
    by_cases c : k < n
    · have z1 : nI x ≤ (0 : Int32) ↔ x ≤ 0 := nI_leI (by omega) (by decide)
      unfold ageP ageC
      rw [if_pos (show 32 ≤ 32 + k ∧ 32 + k < 32 + n by omega), if_pos (show 30 ≤ 30 + k ∧ 30 + k < 30 + n by omega), e1, e3, nI_md hd hx]
      by_cases z : x = 0
      · rw [if_pos (z1.mpr (by omega)), if_pos (z1.mpr (by omega))]
        exact ⟨d, 0, hd, by omega, by rw [z], e2, rfl⟩
      · rw [if_neg (fun y => z (by have := z1.mp y; omega)), if_neg (fun y => z (by have := z1.mp y; omega))]
        obtain ⟨y, rfl⟩ : ∃ y, x = y + 1 := ⟨x - 1, by omega⟩
        exact ⟨d, y, hd, by omega, by rw [← Nat.add_assoc (d * 1000) y 1, nI_pred], e2, by rw [nI_pred]⟩
    · rw [ageP_o (by omega), ageC_o (by omega)]
      exact ⟨d, x, hd, hx, e1, e2, e3⟩
  · rw [ageP_o (by omega)]; exact k1 l hl
  · rw [ageP_o (by omega)]; exact k2
  · rw [ageP_o (by omega)]; exact h4
  · rw [ageP_o (by omega), ageP_o (by omega)]; exact h5 l k hl hk
  · rw [ageP_o (i := 26) (by omega), hn, iN_nI (by omega), ageP_o (i := 27 + k) (by omega)]
    intro hq
    rw [ageP_o (by omega)]
    exact h5b k hk (by rw [hn, iN_nI (by omega)]; exact hq)
theorem pgA_ag {P C : Nat → Int32} {n : Nat} (h : pgA P C) (h3 : n ≤ 3) : pgA (ageP P n) (ageC C n) := by
  obtain ⟨h1, h2⟩ := h
  refine ⟨fun l k hl hk => ?_, fun k hk => ?_⟩
  · rw [ageP_o (by omega), ageP_o (by omega), ageC_o (by omega)]; exact h1 l k hl hk
  · rw [ageP_o (by omega), ageP_o (by omega), ageC_o (by omega)]; exact h2 k hk
/-- which clock is next -/
def nxG (P : Nat → Int32) : Nat → Nat → Nat → Nat
  | b, _, 0 => b
  | b, k, c + 1 => nxG P (if P (30 + b) ≤ P (30 + k) then b else k) (k + 1) c
theorem nxG_lt (P : Nat → Int32) : ∀ c b k, b < k → nxG P b k c < k + c
  | 0, b, k, h => h
  | c + 1, b, k, h => by
    unfold nxG
    have := nxG_lt P c (if P (30 + b) ≤ P (30 + k) then b else k) (k + 1) (by split <;> omega)
    omega
theorem r_next {S : Nat → Int32} {ar : jSc} {n : Nat} (hn : n ≤ 3) (h26 : ar 13 26 = nI n) : rF_51 S ar = some (nI (nxG (ar 13) 0 1 (n - 1)), S, ar) := by
  have go : ∀ c b k nn, k + c = max n 1 → b < k → 1 ≤ k → c < nn → rF_51_4 nn (nI b) (nI k) S ar = some (nI (nxG (ar 13) b k c), S, ar) := by
    intro c
    induction c with
    | zero =>
      intro b k nn h1 h2 h3 h4
      obtain ⟨nn, rfl⟩ : ∃ i, nn = i + 1 := ⟨nn - 1, by omega⟩
      unfold rF_51_4
      rw [h26, if_pos (nI_le (by omega) (by omega))]
      rfl
    | succ c ih =>
      intro b k nn h1 h2 h3 h4
      obtain ⟨nn, rfl⟩ : ∃ i, nn = i + 1 := ⟨nn - 1, by omega⟩
      have ek : (30 : Int32) + nI k = nI (30 + k) := nI_add 30 k
      have eb : (30 : Int32) + nI b = nI (30 + b) := nI_add 30 b
      unfold rF_51_4
      rw [h26, if_neg (nI_ge (by omega) (by omega)), ek, eb, if_pos (iB_nI (by omega) (by decide)), if_pos (iB_nI (by omega) (by decide)), iN_nI (by omega), iN_nI (by omega), nI_1]
      unfold nxG
      by_cases z : ar 13 (30 + b) ≤ ar 13 (30 + k)
      · rw [if_pos z, if_pos z]; exact ih b (k + 1) nn (by omega) (by omega) (by omega) (by omega)
      · rw [if_neg z, if_neg z]; exact ih k (k + 1) nn (by omega) (by omega) (by omega) (by omega)
  exact go (n - 1) 0 1 oF (by omega) (by omega) (by omega) (by unfold oF; omega)
theorem c_soon {pp n : Nat} {P : Nat → Int32} {sc car : jSc} {mr : Nat → Nat} {al : jAl} (hR : pgR P (car (pp + 1))) (hn : n ≤ 3) (h26 : P 26 = nI n) : xF_241 pp sc mr car al = some (if n = 0 then -1 else nI (nxG P 0 1 (n - 1)), sc, mr, car, al) := by
  have h19 : car (pp + 1) 19 = nI n := (hR.1 19 (by decide)).trans h26
  have hh : ∀ k, k < 3 → car (pp + 1) (32 + k) - car (pp + 1) (32 + k) / 1000 * 1000 = P (30 + k) := by
    intro k hk
    obtain ⟨d, x, hd, hx, e1, e2, e3⟩ := hR.2.1 k hk
    rw [e1, e3, nI_md hd hx]
  have go : ∀ c b k nn, k + c = n → b < k → c < nn → xF_241_4 nn pp (nI b) (nI k) sc mr car al = some (nI (nxG P b k c), sc, mr, car, al) := by
    intro c
    induction c with
    | zero =>
      intro b k nn h1 h2 h4
      obtain ⟨nn, rfl⟩ : ∃ i, nn = i + 1 := ⟨nn - 1, by omega⟩
      unfold xF_241_4
      rw [h19, if_pos (nI_le (by omega) (by omega))]
      rfl
    | succ c ih =>
      intro b k nn h1 h2 h4
      obtain ⟨nn, rfl⟩ : ∃ i, nn = i + 1 := ⟨nn - 1, by omega⟩
      have ek : (32 : Int32) + nI k = nI (32 + k) := nI_add 32 k
      have eb : (32 : Int32) + nI b = nI (32 + b) := nI_add 32 b
      have c3 : (3 : Int32) ≤ nI k ↔ 3 ≤ k := nI_leI (by decide) (by omega)
      unfold xF_241_4
      rw [h19, if_neg (nI_ge (by omega) (by omega)), if_neg (fun z => absurd (c3.mp z) (by omega)), if_neg (nI_pos (by omega)), ek, eb, if_pos (iB_nI (by omega) (by decide)), if_pos (iB_nI (by omega) (by decide)), iN_nI (by omega), iN_nI (by omega), nI_1, hh b (by omega), hh k (by omega)]
      unfold nxG
      by_cases z : P (30 + b) ≤ P (30 + k)
      · rw [if_pos z, if_pos z]; exact ih b (k + 1) nn (by omega) (by omega) (by omega)
      · rw [if_neg z, if_neg z]; exact ih k (k + 1) nn (by omega) (by omega) (by omega)
  unfold xF_241
  show xF_241_4 (9999 + 1) pp (-1) 0 sc mr car al = _
  by_cases z : n = 0
  · subst z
    unfold xF_241_4
    rw [h19, if_pos (by decide), if_pos rfl]
  · rw [if_neg z]
    unfold xF_241_4
    have e0 : ¬ nI n ≤ (0 : Int32) := fun y => absurd ((nI_leI (a := n) (b := 0) (by omega) (by decide)).mp y) (by omega)
    rw [h19, if_neg e0, if_neg (by decide), if_pos (by decide)]
    exact go (n - 1) 0 1 9999 (by omega) (by omega) (by omega)
/-- the clock b of n taken away, in both pages -/
def sft (P : Nat → Int32) (b n o : Nat) (i : Nat) : Int32 := if i < o + b then P i else if i + 1 < o + n then P (i + 1) else if i + 1 = o + n then 0 else P i
def dP (P : Nat → Int32) (n b : Nat) : Nat → Int32 := fun i => if 27 ≤ i ∧ i < 30 then sft P b n 27 i else if 30 ≤ i ∧ i < 33 then sft P b n 30 i else if 50 ≤ i ∧ i < 53 then sft P b n 50 i else if i = 26 then nI (n - 1) else P i
def dC (C : Nat → Int32) (n b : Nat) : Nat → Int32 := fun i => if 32 ≤ i ∧ i < 35 then (if i < 32 + b then C i else if i < 34 then C (i + 1) else 0) else if 47 ≤ i ∧ i < 49 then (if i < 47 + b then C i else C (i + 1)) else if i = 19 then nI (n - 1) else C i
theorem r_drop {S : Nat → Int32} {ar : jSc} {n b : Nat} (hn : n ≤ 3) (hb : b < n) (h26 : ar 13 26 = nI n) : rF_53 (nI b) S ar = some (S, va_up ar 13 (dP (ar 13) n b)) := by
  -- the page with the clocks from b up to j moved
  have go : ∀ c j nn (ar1 : jSc), j + c + 1 = n → b ≤ j → c < nn → (∀ a, a ≠ 13 → ar1 a = ar a) → (∀ i, ar1 13 i = if (27 + b ≤ i ∧ i < 27 + j) ∨ (30 + b ≤ i ∧ i < 30 + j) ∨ (50 + b ≤ i ∧ i < 50 + j) then ar 13 (i + 1) else ar 13 i) → rF_53_12 nn (nI (n - 1)) (nI j) S ar1 = some (S, va_up ar 13 (dP (ar 13) n b)) := by
    intro c
    induction c with
    | zero =>
      intro j nn ar1 h1 h2 h3 h4 h5
      obtain ⟨nn, rfl⟩ : ∃ i, nn = i + 1 := ⟨nn - 1, by omega⟩
      have e27 : (27 : Int32) + nI (n - 1) = nI (27 + (n - 1)) := nI_add 27 (n - 1)
      have e30 : (30 : Int32) + nI (n - 1) = nI (30 + (n - 1)) := nI_add 30 (n - 1)
      have e50 : (50 : Int32) + nI (n - 1) = nI (50 + (n - 1)) := nI_add 50 (n - 1)
      unfold rF_53_12
      rw [if_pos (nI_le (by omega) (by omega)), e27, e30, e50, if_pos (iB_nI (by omega) (by decide)), if_pos (iB_nI (by omega) (by decide)), if_pos (iB_nI (by omega) (by decide)), iN_nI (by omega), iN_nI (by omega), iN_nI (by omega)]
      congr 2
      funext a
      by_cases ca : a = 13
      · subst ca
        rw [va_up_self, u2_up, u2_up, u2_up, u2_up]
        funext i
        unfold dP sft
        by_cases q1 : i = 26
        · subst q1; rw [up_0]; simp
        by_cases q2 : i = 50 + (n - 1)
        · subst q2; rw [up_n (by omega), up_0, if_neg (by omega), if_neg (by omega), if_pos (by omega), if_neg (by omega), if_neg (by omega), if_pos (by omega)]
        by_cases q3 : i = 30 + (n - 1)
        · subst q3; rw [up_n (by omega), up_n (by omega), up_0, if_neg (by omega), if_pos (by omega), if_neg (by omega), if_neg (by omega), if_pos (by omega)]
        by_cases q4 : i = 27 + (n - 1)
        · subst q4; rw [up_n (by omega), up_n (by omega), up_n (by omega), up_0, if_pos (by omega), if_neg (by omega), if_neg (by omega), if_pos (by omega)]
        rw [up_n q1, up_n q2, up_n q3, up_n q4, h5]
        repeat' split
        all_goals first | rfl | omega
      · rw [va_up_ne _ _ ca, j_u2_row _ _ _ _ ca, j_u2_row _ _ _ _ ca, j_u2_row _ _ _ _ ca, j_u2_row _ _ _ _ ca]
        exact h4 a ca
    | succ c ih =>
      intro j nn ar1 h1 h2 h3 h4 h5
      obtain ⟨nn, rfl⟩ : ∃ i, nn = i + 1 := ⟨nn - 1, by omega⟩
      have e27 : (27 : Int32) + nI j = nI (27 + j) := nI_add 27 j
      have e28 : (28 : Int32) + nI j = nI (28 + j) := nI_add 28 j
      have e30 : (30 : Int32) + nI j = nI (30 + j) := nI_add 30 j
      have e31 : (31 : Int32) + nI j = nI (31 + j) := nI_add 31 j
      have e50 : (50 : Int32) + nI j = nI (50 + j) := nI_add 50 j
      have e51 : (51 : Int32) + nI j = nI (51 + j) := nI_add 51 j
      unfold rF_53_12
      rw [if_neg (nI_ge (by omega) (by omega)), e27, e28, e30, e31, e50, e51, if_pos (iB_nI (by omega) (by decide)), if_pos (iB_nI (by omega) (by decide)), if_pos (iB_nI (by omega) (by decide)), if_pos (iB_nI (by omega) (by decide)), if_pos (iB_nI (by omega) (by decide)), if_pos (iB_nI (by omega) (by decide)), iN_nI (by omega), iN_nI (by omega), iN_nI (by omega), iN_nI (by omega), iN_nI (by omega), iN_nI (by omega), nI_1]
      refine ih (j + 1) nn _ (by omega) (by omega) (by omega) (fun a ca => ?_) (fun i => ?_)
      · rw [j_u2_row _ _ _ _ ca, j_u2_row _ _ _ _ ca, j_u2_row _ _ _ _ ca]
        exact h4 a ca
      · rw [u2_nk (show 51 + j ≠ 30 + j by omega), u2_nk (show 51 + j ≠ 27 + j by omega), u2_nk (show 31 + j ≠ 27 + j by omega)]
        by_cases q2 : i = 50 + j
        · subst q2; rw [u2_eq, h5, if_neg (by omega), if_pos (by omega)]; congr 1; omega
        by_cases q3 : i = 30 + j
        · subst q3; rw [u2_nk (by omega), u2_eq, h5, if_neg (by omega), if_pos (by omega)]; congr 1; omega
        by_cases q4 : i = 27 + j
        · subst q4; rw [u2_nk (by omega), u2_nk (by omega), u2_eq, h5, if_neg (by omega), if_pos (by omega)]; congr 1; omega
        rw [u2_nk q2, u2_nk q3, u2_nk q4, h5]
        repeat' split
        all_goals first | rfl | omega
  have e1 : nI n - 1 = nI (n - 1) := by
    have := nI_pred (n - 1)
    rw [show n - 1 + 1 = n by omega] at this
    exact this
  unfold rF_53
  rw [h26, e1]
  exact go (n - 1 - b) b oF ar (by omega) (by omega) (by unfold oF; omega) (fun _ _ => rfl) (fun i => by rw [if_neg (by omega)])
theorem xcp_n {a b c N M : Nat} (h1 : a + c ≤ N) (h2 : b + c ≤ M) (hN : N < 2 ^ 31) (hM : M < 2 ^ 31) : xcp (nI a) (nI b) (nI c) N M := by
  refine ⟨⟨nI_pos (by omega), nI_pos (by omega), nI_pos (by omega)⟩, ?_, ?_⟩
  · rw [iN_nI (by omega), iN_nI (by omega)]; exact h1
  · rw [iN_nI (by omega), iN_nI (by omega)]; exact h2
theorem c_drop {pp n b : Nat} {sc car : jSc} {mr : Nat → Nat} {al : jAl} (hn : n ≤ 3) (hb : b < n) (h19 : car (pp + 1) 19 = nI n) : xF_242 pp (nI b) sc mr car al = some (sc, mr, va_up car (pp + 1) (dC (car (pp + 1)) n b), al) := by
  have l3 : nI b < (3 : Int32) ↔ b < 3 := nI_ltI (by omega) (by decide)
  have e32 : (32 : Int32) + nI b = nI (32 + b) := nI_add 32 b
  have e47 : (47 : Int32) + nI b = nI (47 + b) := nI_add 47 b
  have e2 : (2 : Int32) - nI b = nI (2 - b) := nI_sub (a := 2) (by omega)
  have e1 : nI n - 1 = nI (n - 1) := by
    have := nI_pred (n - 1)
    rw [show n - 1 + 1 = n by omega] at this
    exact this
  unfold xF_242
  rw [if_neg (nI_pos (by omega)), if_pos (l3.mpr (by omega)), e32, e47, e2, nI_1, nI_1, if_pos (xcp_n (by omega) (by omega) (by decide) (by decide)), if_pos (xcp_n (by omega) (by omega) (by decide) (by decide)), iN_nI (by omega), iN_nI (by omega), iN_nI (by omega), iN_nI (by omega), iN_nI (by omega)]
  congr 3
  rw [va_up_self, va_2, u2_nk (show 19 ≠ 34 by decide), va_up_self]
  have q19 : va_cpy (va_cpy (car (pp + 1)) (car (pp + 1)) (32 + b + 1) (32 + b) (2 - b)) (va_cpy (car (pp + 1)) (car (pp + 1)) (32 + b + 1) (32 + b) (2 - b)) (47 + b + 1) (47 + b) (2 - b) 19 = nI n := by
    unfold va_cpy
    rw [if_neg (by omega), if_neg (by omega)]; exact h19
  rw [q19, e1]
  congr 1
  funext a
  by_cases ca : a = pp + 1
  · subst ca
    rw [va_up_self, u2_up, u2_up, va_up_self]
    funext i
    by_cases q1 : i = 19
    · subst q1; rw [up_0]; unfold dC; simp
    by_cases q2 : i = 34
    · subst q2; rw [up_n (by omega), up_0]; unfold dC; rw [if_pos (by omega)]; simp; omega
    rw [up_n q1, up_n q2]
    unfold va_cpy dC
    by_cases r1 : 47 + b ≤ i ∧ i < 47 + b + (2 - b)
    · rw [if_pos r1, if_neg (by omega), if_neg (by omega), if_pos (by omega), if_neg (by omega)]
      congr 1
      omega
    · rw [if_neg r1]
      by_cases r2 : 32 + b ≤ i ∧ i < 32 + b + (2 - b)
      · rw [if_pos r2, if_pos (by omega), if_neg (by omega), if_pos (by omega)]
        congr 1
        omega
      · rw [if_neg r2]
        repeat' split
        all_goals first | rfl | omega
  · rw [va_up_ne _ _ ca, j_u2_row _ _ _ _ ca, j_u2_row _ _ _ _ ca, va_up_ne _ _ ca]
theorem pgR_dr {P C : Nat → Int32} {n b : Nat} (h : pgR P C) (hn : P 26 = nI n) (h3 : n ≤ 3) (hb : b < n) : pgR (dP P n b) (dC C n b) := by
  obtain ⟨h1, h2, ⟨k1, k2⟩, h4, h5, h5b⟩ := h
  have o : ∀ i, i ≠ 26 → (i < 27 ∨ 33 ≤ i) → i < 50 → dP P n b i = P i := fun i a b c => by
    unfold dP
    rw [if_neg (by omega), if_neg (by omega), if_neg (by omega), if_neg a]
  have p27 : ∀ k, k < 3 → dP P n b (27 + k) = if k < b then P (27 + k) else if k + 1 < n then P (27 + (k + 1)) else 0 := fun k hk => by
    unfold dP sft
    rw [if_pos (by omega)]
    by_cases c1 : k < b
    · rw [if_pos (by omega), if_pos c1]
    · rw [if_neg (by omega), if_neg c1]
      by_cases c2 : k + 1 < n
      · rw [if_pos (by omega), if_pos c2]; rfl
      · rw [if_neg (by omega), if_neg c2]
        split
        · rfl
        · exact (h5b k hk (by rw [hn, iN_nI (by omega)]; omega)).1
  have p30 : ∀ k, k < 3 → dP P n b (30 + k) = if k < b then P (30 + k) else if k + 1 < n then P (30 + (k + 1)) else 0 := fun k hk => by
    unfold dP sft
    rw [if_neg (by omega), if_pos (by omega)]
    by_cases c1 : k < b
    · rw [if_pos (by omega), if_pos c1]
    · rw [if_neg (by omega), if_neg c1]
      by_cases c2 : k + 1 < n
      · rw [if_pos (by omega), if_pos c2]; rfl
      · rw [if_neg (by omega), if_neg c2]
        split
        · rfl
        · exact (h5b k hk (by rw [hn, iN_nI (by omega)]; omega)).2
  have c0 : ∀ k, k < 3 → n ≤ k → C (32 + k) = 0 := fun k hk hq => by
    obtain ⟨d, x, hd, hx, e1, e2, e3⟩ := h2 k hk
    obtain ⟨z1, z2⟩ := h5b k hk (by rw [hn, iN_nI (by omega)]; exact hq)
    have a1 : d = 0 := (nI_eq (a := d) (b := 0) (by omega) (by decide)).mp (e2.symm.trans z1)
    have a2 : x = 0 := (nI_eq (a := x) (b := 0) (by omega) (by decide)).mp (e3.symm.trans z2)
    rw [e1, a1, a2]; rfl
  have c32 : ∀ k, k < 3 → dC C n b (32 + k) = if k < b then C (32 + k) else if k + 1 < n then C (32 + (k + 1)) else 0 := fun k hk => by
    unfold dC
    rw [if_pos (by omega)]
    by_cases c1 : k < b
    · rw [if_pos (by omega), if_pos c1]
    · rw [if_neg (by omega), if_neg c1]
      by_cases c2 : k + 1 < n
      · rw [if_pos (by omega), if_pos c2]; rfl
      · rw [if_neg c2]
        split
        · exact c0 (k + 1) (by omega) (by omega)
        · rfl
  refine ⟨fun k hk => ?_, fun k hk => ?_, ⟨fun l hl => ?_, ?_⟩, ?_, fun l k hl hk => ?_, fun k hk => ?_⟩
  · have a := ix_c k hk
    by_cases c : k = 19
    · subst c
      unfold dC dP
      simp [show ix 19 = 26 from rfl]
    · rw [o _ (by omega) (by omega) (by omega)]
      unfold dC
      rw [if_neg (by omega), if_neg (by omega), if_neg c]
      exact h1 k hk
  · rw [c32 k hk, p27 k hk, p30 k hk]
    by_cases c1 : k < b
    · rw [if_pos c1, if_pos c1, if_pos c1]; exact h2 k hk
    · rw [if_neg c1, if_neg c1, if_neg c1]
      by_cases c2 : k + 1 < n
      · rw [if_pos c2, if_pos c2, if_pos c2]; exact h2 (k + 1) (by omega)
      · rw [if_neg c2, if_neg c2, if_neg c2]
        exact ⟨0, 0, by omega, by omega, rfl, rfl, rfl⟩
  · rw [o _ (by omega) (by omega) (by omega)]; exact k1 l hl
  · refine ⟨n - 1, by omega, ?_⟩
    unfold dP
    simp
  · rw [o _ (by omega) (by omega) (by omega)]; exact h4
  · rw [o _ (by omega) (by omega) (by omega), o _ (by omega) (by omega) (by omega)]; exact h5 l k hl hk
  · have e26 : dP P n b 26 = nI (n - 1) := by unfold dP; simp
    rw [e26, iN_nI (by omega), p27 k hk, p30 k hk]
    intro hq
    rw [if_neg (by omega), if_neg (by omega), if_neg (by omega), if_neg (by omega)]
    exact ⟨rfl, rfl⟩
theorem pgA_dr {P C : Nat → Int32} {n b : Nat} (h : pgA P C) (hn : P 26 = nI n) (h3 : n ≤ 3) (hb : b < n) : pgA (dP P n b) (dC C n b) := by
  obtain ⟨h1, h2⟩ := h
  have o : ∀ i, i ≠ 26 → (i < 27 ∨ 33 ≤ i) → i < 50 → dP P n b i = P i := fun i a b c => by
    unfold dP
    rw [if_neg (by omega), if_neg (by omega), if_neg (by omega), if_neg a]
  refine ⟨fun l k hl hk => ?_, fun k hk => ?_⟩
  · rw [o _ (by omega) (by omega) (by omega), o _ (by omega) (by omega) (by omega)]
    unfold dC
    rw [if_neg (by omega), if_neg (by omega), if_neg (by omega)]
    exact h1 l k hl hk
  · have e26 : dP P n b 26 = nI (n - 1) := by unfold dP; simp
    rw [e26, iN_nI (by omega)]
    intro hq
    have p50 : dP P n b (50 + k) = if k < b then P (50 + k) else P (50 + (k + 1)) := by
      unfold dP sft
      rw [if_neg (show ¬ (27 ≤ 50 + k ∧ 50 + k < 30) by omega), if_neg (show ¬ (30 ≤ 50 + k ∧ 50 + k < 33) by omega), if_pos (show 50 ≤ 50 + k ∧ 50 + k < 53 by omega)]
      by_cases c1 : k < b
      · rw [if_pos (show 50 + k < 50 + b by omega), if_pos c1]
      · rw [if_neg (show ¬ 50 + k < 50 + b by omega), if_pos (show 50 + k + 1 < 50 + n by omega), if_neg c1]; rfl
    have c47 : dC C n b (47 + k) = if k < b then C (47 + k) else C (47 + (k + 1)) := by
      unfold dC
      rw [if_neg (show ¬ (32 ≤ 47 + k ∧ 47 + k < 35) by omega), if_pos (show 47 ≤ 47 + k ∧ 47 + k < 49 by omega)]
      by_cases c1 : k < b
      · rw [if_pos (show 47 + k < 47 + b by omega), if_pos c1]
      · rw [if_neg (show ¬ 47 + k < 47 + b by omega), if_neg c1]; rfl
    rw [p50, c47]
    by_cases c1 : k < b
    · rw [if_pos c1, if_pos c1]
      exact h2 k hk (by rw [hn, iN_nI (by omega)]; omega)
    · rw [if_neg c1, if_neg c1]
      exact h2 (k + 1) (by omega) (by rw [hn, iN_nI (by omega)]; omega)
