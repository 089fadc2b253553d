/-! WORDS: the word at a place, as the row of its letters from behind. -/
theorem nI_mul (a b : Nat) : nI a * nI b = nI (a * b) := (Int32.ofNat_mul a b).symm
theorem nI_sub {a b : Nat} (h : b ≤ a) : nI a - nI b = nI (a - b) := by
  have e : a = (a - b) + b := by omega
  conv => lhs; rw [e, ← nI_add]
  exact Int32.add_sub_cancel _ _
theorem of_sm {v : Int32} (h : x_sm v) : ∃ k, 97 ≤ k ∧ k ≤ 122 ∧ v = nI k := by
  obtain ⟨j, hj, rfl⟩ := nI_of2 (x := v) (M := 122) (n := 122) (by decide) (fun z => absurd (Int32.le_trans h.1 (Int32.le_of_lt z)) (by decide)) h.2
  exact ⟨j, (nI_leI (by decide) (by omega)).mp (show nI 97 ≤ nI j from h.1), hj, rfl⟩
theorem of_dg {v : Int32} (h : x_dg v) : ∃ k, 48 ≤ k ∧ k ≤ 57 ∧ v = nI k := by
  obtain ⟨j, hj, rfl⟩ := nI_of2 (x := v) (M := 57) (n := 57) (by decide) (fun z => absurd (Int32.le_trans h.1 (Int32.le_of_lt z)) (by decide)) h.2
  exact ⟨j, (nI_leI (by decide) (by omega)).mp (show nI 48 ≤ nI j from h.1), hj, rfl⟩
/-- the letter at p, by its number -/
def x_lt (tx : Nat → Int32) (p : Nat) : Nat := iN (tx p) - 96
/-- the first m letters at q, the last one first -/
def x_wr (tx : Nat → Int32) (q : Nat) : Nat → List Nat
  | 0 => []
  | m + 1 => x_lt tx (q + m) :: x_wr tx q m
def x_cd : List Nat → Nat
  | [] => 0
  | x :: r => 27 * x_cd r + x
def x_lok : List Nat → Prop
  | [] => True
  | x :: r => (1 ≤ x ∧ x ≤ 26) ∧ x_lok r
theorem x_cd_inj : ∀ (l m : List Nat), x_lok l → x_lok m → x_cd l = x_cd m → l = m
  | [], [], _, _, _ => rfl
  | [], y :: s, _, hm, h => by simp only [x_cd] at h; have := hm.1; omega
  | x :: r, [], hl, _, h => by simp only [x_cd] at h; have := hl.1; omega
  | x :: r, y :: s, hl, hm, h => by
    simp only [x_cd] at h
    have h1 := hl.1
    have h2 := hm.1
    have e1 : x = y := by omega
    have e2 : x_cd r = x_cd s := by omega
    rw [e1, x_cd_inj r s hl.2 hm.2 e2]
theorem x_cd_lt : ∀ (l : List Nat), x_lok l → x_cd l < 27 ^ l.length
  | [], _ => by decide
  | x :: r, h => by
    have ih := x_cd_lt r h.2
    have h1 := h.1
    simp only [x_cd, List.length_cons, Nat.pow_succ]
    omega
theorem x_wr_len (tx : Nat → Int32) (q : Nat) : ∀ m, (x_wr tx q m).length = m
  | 0 => rfl
  | m + 1 => by simp [x_wr, x_wr_len tx q m]
theorem x_wr_ok {tx : Nat → Int32} {q : Nat} : ∀ m, (∀ j, q ≤ j → j < q + m → x_sm (tx j)) → x_lok (x_wr tx q m)
  | 0, _ => trivial
  | m + 1, h => by
    refine ⟨?_, x_wr_ok m (fun j a b => h j a (by omega))⟩
    obtain ⟨k, h1, h2, h3⟩ := of_sm (h (q + m) (by omega) (by omega))
    unfold x_lt
    rw [h3, iN_nI (by omega)]
    omega
/-- the word at q is w (its letters from behind) -/
abbrev x_is (tx : Nat → Int32) (q : Nat) (w : List Nat) : Prop := x_we tx q = q + w.length ∧ x_wr tx q w.length = w
/-- the word at q as the reference's number -/
def x_wh (tx : Nat → Int32) (q : Nat) : Int32 := if 6 < x_we tx q - q then -1 else nI (x_cd (x_wr tx q (x_we tx q - q)))
theorem pow27 {k : Nat} (h : k ≤ 6) : 27 ^ k ≤ 387420489 := by
  rcases (show k = 0 ∨ k = 1 ∨ k = 2 ∨ k = 3 ∨ k = 4 ∨ k = 5 ∨ k = 6 by omega) with rfl | rfl | rfl | rfl | rfl | rfl | rfl <;> decide
theorem x_wh_is {n q : Nat} {tx : Nat → Int32} (hT : x_tx n tx) {w : List Nat} (hw : x_lok w) (hl : w.length ≤ 6) : x_wh tx q = nI (x_cd w) ↔ x_is tx q w := by
  obtain ⟨a1, a2, a3, a4⟩ := x_we_ok hT q
  have hok := x_wr_ok (tx := tx) (q := q) (x_we tx q - q) (fun j a b => a3 j a (by omega))
  have c1 := x_cd_lt w hw
  have c2 := pow27 hl
  unfold x_wh
  constructor
  · intro h
    split at h
    · exact absurd (congrArg Int32.toInt h) (by rw [nI_toInt (by omega)]; show ¬ (-1 : Int) = _; omega)
    · rename_i h6
      have d1 := x_cd_lt _ hok
      rw [x_wr_len] at d1
      have d2 := pow27 (show x_we tx q - q ≤ 6 by omega)
      have e := x_cd_inj _ _ hok hw ((nI_eq (by omega) (by omega)).mp h)
      have e2 : x_we tx q - q = w.length := by rw [← e, x_wr_len]
      exact ⟨by omega, by rw [← e2]; exact e⟩
  · intro h
    have e2 : x_we tx q - q = w.length := by have := h.1; omega
    rw [if_neg (by omega), e2, h.2]
theorem r_wh_go {ar : jSc} {n q r : Nat} {tx : Nat → Int32} {S : Nat → Int32} (hT : r_TX S ar n tx) (hr : q + r < 2 ^ 29) (h3 : ¬ x_sm (tx (q + r))) (h4 : ∀ j, q ≤ j → j < q + r → x_sm (tx j)) : ∀ (m k nn : Nat), k + m = r → m < nn → rF_11_8 nn (nI (x_cd (x_wr tx q (min k 6)))) (nI k) (sA S q) ar = some (if 6 < r then -1 else nI (x_cd (x_wr tx q r)), sA S q, ar) := by
  intro m
  induction m with
  | zero =>
    intro k nn h1 h2
    obtain ⟨j, rfl⟩ : ∃ j, nn = j + 1 := ⟨nn - 1, by omega⟩
    have e : k = r := by omega
    subst e
    unfold rF_11_8
    rw [sA_5, nI_add, r_byteAt (r_TX_A hT) (by omega), ob3, r_isSmall, ob3, if_neg h3, if_pos rfl]
    have e6 : nI k ≤ (6 : Int32) ↔ k ≤ 6 := nI_leI (by omega) (by decide)
    by_cases h6 : 6 < k
    · rw [if_neg (fun z => absurd (e6.mp z) (by omega)), if_pos h6]
    · rw [if_pos (e6.mpr (by omega)), if_neg h6, Nat.min_eq_left (by omega)]
  | succ m ih =>
    intro k nn h1 h2
    obtain ⟨j, rfl⟩ : ∃ j, nn = j + 1 := ⟨nn - 1, by omega⟩
    unfold rF_11_8
    rw [sA_5, nI_add, r_byteAt (r_TX_A hT) (by omega), ob3, r_isSmall, ob3, if_pos (h4 (q + k) (by omega) (by omega)), if_neg (by decide)]
    have e6 : (6 : Int32) ≤ nI k ↔ 6 ≤ k := nI_leI (by decide) (by omega)
    by_cases h6 : 6 ≤ k
    · rw [if_pos (e6.mpr h6), nI_1]
      have := ih (k + 1) j (by omega) (by omega)
      rw [Nat.min_eq_right (by omega)] at this ⊢
      exact this
    · rw [if_neg (fun z => h6 (e6.mp z)), sA_5, nI_add, r_byteAt (r_TX_A hT) (by omega), ob3]
      obtain ⟨v, v1, v2, v3⟩ := of_sm (h4 (q + k) (by omega) (by omega))
      have := ih (k + 1) j (by omega) (by omega)
      rw [Nat.min_eq_left (by omega)] at this ⊢
      have e : (27 : Int32) * nI (x_cd (x_wr tx q k)) + tx (q + k) - 97 + 1 = nI (x_cd (x_wr tx q (k + 1))) := by
        rw [v3, show (27 : Int32) = nI 27 from rfl, show (97 : Int32) = nI 97 from rfl, nI_mul, nI_add, nI_sub (by omega), nI_1]
        simp only [x_wr, x_cd, x_lt, v3, iN_nI (show v < 2 ^ 31 by omega)]
        congr 1
        omega
      rw [e, nI_1]
      exact this
theorem r_wordHere {ar : jSc} {n q : Nat} {tx : Nat → Int32} {S : Nat → Int32} (hT : r_TX S ar n tx) (hq : q < 2 ^ 27) : rF_11 (sA S q) ar = some (x_wh tx (x_nb tx q), sA S (x_nb tx q), ar) := by
  obtain ⟨b1, b2, -, -⟩ := x_nb_ok hT.1 q
  obtain ⟨a1, a2, a3, a4⟩ := x_we_ok hT.1 (x_nb tx q)
  have hn := hT.1.1
  unfold rF_11
  rw [r_blanks hT (by omega), ob2]
  exact r_wh_go hT (q := x_nb tx q) (r := x_we tx (x_nb tx q) - x_nb tx q) (by omega) (by rw [show x_nb tx q + (x_we tx (x_nb tx q) - x_nb tx q) = x_we tx (x_nb tx q) by omega]; exact a4) (fun j a b => a3 j a (by omega)) (x_we tx (x_nb tx q) - x_nb tx q) 0 oF (by omega) (by rw [oF_s]; omega)
def m_word (a b c d e f : Int32) : Int32 :=
  let v := 27 * a + b
  let v := if c = 0 then v else 27 * v + c
  let v := if d = 0 then v else 27 * v + d
  let v := if e = 0 then v else 27 * v + e
  if f = 0 then v else 27 * v + f
theorem r_word {S : Nat → Int32} {ar : jSc} {a b c d e f : Int32} : rF_12 a b c d e f S ar = some (m_word a b c d e f, S, ar) := by
  unfold rF_12 rF_12_42 m_word
  by_cases h1 : c = 0 <;> by_cases h2 : d = 0 <;> by_cases h3 : e = 0 <;> by_cases h4 : f = 0 <;> simp [h1, h2, h3, h4]
theorem r_isWord {ar : jSc} {n q : Nat} {tx : Nat → Int32} {S : Nat → Int32} (hT : r_TX S ar n tx) (hq : q < 2 ^ 27) {a b c d e f : Int32} {w : List Nat} (hw : x_lok w) (hl : w.length ≤ 6) (hc : m_word a b c d e f = nI (x_cd w)) : rF_13 a b c d e f (sA S q) ar = some (if x_is tx (x_nb tx q) w then 1 else 0, sA S (x_nb tx q), ar) := by
  unfold rF_13
  rw [r_wordHere hT hq, ob3, r_word, ob3, hc]
  by_cases h : x_is tx (x_nb tx q) w
  · rw [if_pos ((x_wh_is hT.1 hw hl).mpr h), if_pos h]
  · rw [if_neg (fun z => h ((x_wh_is hT.1 hw hl).mp z)), if_neg h]
abbrev w_on : List Nat := [14, 15]
theorem r_w_on {ar : jSc} {n q : Nat} {tx : Nat → Int32} {S : Nat → Int32} (hT : r_TX S ar n tx) (hq : q < 2 ^ 27) : rF_13 15 14 0 0 0 0 (sA S q) ar = some (if x_is tx (x_nb tx q) w_on then 1 else 0, sA S (x_nb tx q), ar) := r_isWord hT hq (by simp [x_lok]) (by decide) (by decide)
abbrev w_harm : List Nat := [13, 18, 1, 8]
theorem r_w_harm {ar : jSc} {n q : Nat} {tx : Nat → Int32} {S : Nat → Int32} (hT : r_TX S ar n tx) (hq : q < 2 ^ 27) : rF_13 8 1 18 13 0 0 (sA S q) ar = some (if x_is tx (x_nb tx q) w_harm then 1 else 0, sA S (x_nb tx q), ar) := r_isWord hT hq (by simp [x_lok]) (by decide) (by decide)
abbrev w_place : List Nat := [5, 3, 1, 12, 16]
theorem r_w_place {ar : jSc} {n q : Nat} {tx : Nat → Int32} {S : Nat → Int32} (hT : r_TX S ar n tx) (hq : q < 2 ^ 27) : rF_13 16 12 1 3 5 0 (sA S q) ar = some (if x_is tx (x_nb tx q) w_place then 1 else 0, sA S (x_nb tx q), ar) := r_isWord hT hq (by simp [x_lok]) (by decide) (by decide)
abbrev w_start : List Nat := [20, 18, 1, 20, 19]
theorem r_w_start {ar : jSc} {n q : Nat} {tx : Nat → Int32} {S : Nat → Int32} (hT : r_TX S ar n tx) (hq : q < 2 ^ 27) : rF_13 19 20 1 18 20 0 (sA S q) ar = some (if x_is tx (x_nb tx q) w_start then 1 else 0, sA S (x_nb tx q), ar) := r_isWord hT hq (by simp [x_lok]) (by decide) (by decide)
abbrev w_press : List Nat := [19, 19, 5, 18, 16]
theorem r_w_press {ar : jSc} {n q : Nat} {tx : Nat → Int32} {S : Nat → Int32} (hT : r_TX S ar n tx) (hq : q < 2 ^ 27) : rF_13 16 18 5 19 19 0 (sA S q) ar = some (if x_is tx (x_nb tx q) w_press then 1 else 0, sA S (x_nb tx q), ar) := r_isWord hT hq (by simp [x_lok]) (by decide) (by decide)
abbrev w_clock : List Nat := [11, 3, 15, 12, 3]
theorem r_w_clock {ar : jSc} {n q : Nat} {tx : Nat → Int32} {S : Nat → Int32} (hT : r_TX S ar n tx) (hq : q < 2 ^ 27) : rF_13 3 12 15 3 11 0 (sA S q) ar = some (if x_is tx (x_nb tx q) w_clock then 1 else 0, sA S (x_nb tx q), ar) := r_isWord hT hq (by simp [x_lok]) (by decide) (by decide)
abbrev w_answer : List Nat := [18, 5, 23, 19, 14, 1]
theorem r_w_answer {ar : jSc} {n q : Nat} {tx : Nat → Int32} {S : Nat → Int32} (hT : r_TX S ar n tx) (hq : q < 2 ^ 27) : rF_13 1 14 19 23 5 18 (sA S q) ar = some (if x_is tx (x_nb tx q) w_answer then 1 else 0, sA S (x_nb tx q), ar) := r_isWord hT hq (by simp [x_lok]) (by decide) (by decide)
abbrev w_show : List Nat := [23, 15, 8, 19]
theorem r_w_show {ar : jSc} {n q : Nat} {tx : Nat → Int32} {S : Nat → Int32} (hT : r_TX S ar n tx) (hq : q < 2 ^ 27) : rF_13 19 8 15 23 0 0 (sA S q) ar = some (if x_is tx (x_nb tx q) w_show then 1 else 0, sA S (x_nb tx q), ar) := r_isWord hT hq (by simp [x_lok]) (by decide) (by decide)
abbrev w_hide : List Nat := [5, 4, 9, 8]
theorem r_w_hide {ar : jSc} {n q : Nat} {tx : Nat → Int32} {S : Nat → Int32} (hT : r_TX S ar n tx) (hq : q < 2 ^ 27) : rF_13 8 9 4 5 0 0 (sA S q) ar = some (if x_is tx (x_nb tx q) w_hide then 1 else 0, sA S (x_nb tx q), ar) := r_isWord hT hq (by simp [x_lok]) (by decide) (by decide)
abbrev w_grey : List Nat := [25, 5, 18, 7]
theorem r_w_grey {ar : jSc} {n q : Nat} {tx : Nat → Int32} {S : Nat → Int32} (hT : r_TX S ar n tx) (hq : q < 2 ^ 27) : rF_13 7 18 5 25 0 0 (sA S q) ar = some (if x_is tx (x_nb tx q) w_grey then 1 else 0, sA S (x_nb tx q), ar) := r_isWord hT hq (by simp [x_lok]) (by decide) (by decide)
abbrev w_live : List Nat := [5, 22, 9, 12]
theorem r_w_live {ar : jSc} {n q : Nat} {tx : Nat → Int32} {S : Nat → Int32} (hT : r_TX S ar n tx) (hq : q < 2 ^ 27) : rF_13 12 9 22 5 0 0 (sA S q) ar = some (if x_is tx (x_nb tx q) w_live then 1 else 0, sA S (x_nb tx q), ar) := r_isWord hT hq (by simp [x_lok]) (by decide) (by decide)
abbrev w_ask : List Nat := [11, 19, 1]
theorem r_w_ask {ar : jSc} {n q : Nat} {tx : Nat → Int32} {S : Nat → Int32} (hT : r_TX S ar n tx) (hq : q < 2 ^ 27) : rF_13 1 19 11 0 0 0 (sA S q) ar = some (if x_is tx (x_nb tx q) w_ask then 1 else 0, sA S (x_nb tx q), ar) := r_isWord hT hq (by simp [x_lok]) (by decide) (by decide)
abbrev w_stop : List Nat := [16, 15, 20, 19]
theorem r_w_stop {ar : jSc} {n q : Nat} {tx : Nat → Int32} {S : Nat → Int32} (hT : r_TX S ar n tx) (hq : q < 2 ^ 27) : rF_13 19 20 15 16 0 0 (sA S q) ar = some (if x_is tx (x_nb tx q) w_stop then 1 else 0, sA S (x_nb tx q), ar) := r_isWord hT hq (by simp [x_lok]) (by decide) (by decide)
abbrev w_save : List Nat := [5, 22, 1, 19]
theorem r_w_save {ar : jSc} {n q : Nat} {tx : Nat → Int32} {S : Nat → Int32} (hT : r_TX S ar n tx) (hq : q < 2 ^ 27) : rF_13 19 1 22 5 0 0 (sA S q) ar = some (if x_is tx (x_nb tx q) w_save then 1 else 0, sA S (x_nb tx q), ar) := r_isWord hT hq (by simp [x_lok]) (by decide) (by decide)
abbrev w_fail : List Nat := [12, 9, 1, 6]
theorem r_w_fail {ar : jSc} {n q : Nat} {tx : Nat → Int32} {S : Nat → Int32} (hT : r_TX S ar n tx) (hq : q < 2 ^ 27) : rF_13 6 1 9 12 0 0 (sA S q) ar = some (if x_is tx (x_nb tx q) w_fail then 1 else 0, sA S (x_nb tx q), ar) := r_isWord hT hq (by simp [x_lok]) (by decide) (by decide)
abbrev w_if : List Nat := [6, 9]
theorem r_w_if {ar : jSc} {n q : Nat} {tx : Nat → Int32} {S : Nat → Int32} (hT : r_TX S ar n tx) (hq : q < 2 ^ 27) : rF_13 9 6 0 0 0 0 (sA S q) ar = some (if x_is tx (x_nb tx q) w_if then 1 else 0, sA S (x_nb tx q), ar) := r_isWord hT hq (by simp [x_lok]) (by decide) (by decide)
abbrev w_or : List Nat := [18, 15]
theorem r_w_or {ar : jSc} {n q : Nat} {tx : Nat → Int32} {S : Nat → Int32} (hT : r_TX S ar n tx) (hq : q < 2 ^ 27) : rF_13 15 18 0 0 0 0 (sA S q) ar = some (if x_is tx (x_nb tx q) w_or then 1 else 0, sA S (x_nb tx q), ar) := r_isWord hT hq (by simp [x_lok]) (by decide) (by decide)
abbrev w_and : List Nat := [4, 14, 1]
theorem r_w_and {ar : jSc} {n q : Nat} {tx : Nat → Int32} {S : Nat → Int32} (hT : r_TX S ar n tx) (hq : q < 2 ^ 27) : rF_13 1 14 4 0 0 0 (sA S q) ar = some (if x_is tx (x_nb tx q) w_and then 1 else 0, sA S (x_nb tx q), ar) := r_isWord hT hq (by simp [x_lok]) (by decide) (by decide)
abbrev w_not : List Nat := [20, 15, 14]
theorem r_w_not {ar : jSc} {n q : Nat} {tx : Nat → Int32} {S : Nat → Int32} (hT : r_TX S ar n tx) (hq : q < 2 ^ 27) : rF_13 14 15 20 0 0 0 (sA S q) ar = some (if x_is tx (x_nb tx q) w_not then 1 else 0, sA S (x_nb tx q), ar) := r_isWord hT hq (by simp [x_lok]) (by decide) (by decide)
abbrev w_got : List Nat := [20, 15, 7]
theorem r_w_got {ar : jSc} {n q : Nat} {tx : Nat → Int32} {S : Nat → Int32} (hT : r_TX S ar n tx) (hq : q < 2 ^ 27) : rF_13 7 15 20 0 0 0 (sA S q) ar = some (if x_is tx (x_nb tx q) w_got then 1 else 0, sA S (x_nb tx q), ar) := r_isWord hT hq (by simp [x_lok]) (by decide) (by decide)
abbrev w_far : List Nat := [18, 1, 6]
theorem r_w_far {ar : jSc} {n q : Nat} {tx : Nat → Int32} {S : Nat → Int32} (hT : r_TX S ar n tx) (hq : q < 2 ^ 27) : rF_13 6 1 18 0 0 0 (sA S q) ar = some (if x_is tx (x_nb tx q) w_far then 1 else 0, sA S (x_nb tx q), ar) := r_isWord hT hq (by simp [x_lok]) (by decide) (by decide)
abbrev w_least : List Nat := [20, 19, 1, 5, 12]
theorem r_w_least {ar : jSc} {n q : Nat} {tx : Nat → Int32} {S : Nat → Int32} (hT : r_TX S ar n tx) (hq : q < 2 ^ 27) : rF_13 12 5 1 19 20 0 (sA S q) ar = some (if x_is tx (x_nb tx q) w_least then 1 else 0, sA S (x_nb tx q), ar) := r_isWord hT hq (by simp [x_lok]) (by decide) (by decide)
abbrev w_most : List Nat := [20, 19, 15, 13]
theorem r_w_most {ar : jSc} {n q : Nat} {tx : Nat → Int32} {S : Nat → Int32} (hT : r_TX S ar n tx) (hq : q < 2 ^ 27) : rF_13 13 15 19 20 0 0 (sA S q) ar = some (if x_is tx (x_nb tx q) w_most then 1 else 0, sA S (x_nb tx q), ar) := r_isWord hT hq (by simp [x_lok]) (by decide) (by decide)
