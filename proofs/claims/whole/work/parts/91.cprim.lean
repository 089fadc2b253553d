/-! ClickOrders: its reader's words, digits, numbers, letters, orders. -/
theorem x_sw_and : x_sw 0 w_and := ⟨by decide, by simp [x_lok], by decide, by decide⟩
theorem x_sw_answer : x_sw 1 w_answer := ⟨by decide, by simp [x_lok], by decide, by decide⟩
theorem x_sw_ask : x_sw 2 w_ask := ⟨by decide, by simp [x_lok], by decide, by decide⟩
theorem x_sw_clock : x_sw 3 w_clock := ⟨by decide, by simp [x_lok], by decide, by decide⟩
theorem x_sw_fail : x_sw 4 w_fail := ⟨by decide, by simp [x_lok], by decide, by decide⟩
theorem x_sw_far : x_sw 5 w_far := ⟨by decide, by simp [x_lok], by decide, by decide⟩
theorem x_sw_got : x_sw 6 w_got := ⟨by decide, by simp [x_lok], by decide, by decide⟩
theorem x_sw_grey : x_sw 7 w_grey := ⟨by decide, by simp [x_lok], by decide, by decide⟩
theorem x_sw_harm : x_sw 8 w_harm := ⟨by decide, by simp [x_lok], by decide, by decide⟩
theorem x_sw_hide : x_sw 9 w_hide := ⟨by decide, by simp [x_lok], by decide, by decide⟩
theorem x_sw_if : x_sw 10 w_if := ⟨by decide, by simp [x_lok], by decide, by decide⟩
theorem x_sw_least : x_sw 11 w_least := ⟨by decide, by simp [x_lok], by decide, by decide⟩
theorem x_sw_live : x_sw 12 w_live := ⟨by decide, by simp [x_lok], by decide, by decide⟩
theorem x_sw_most : x_sw 13 w_most := ⟨by decide, by simp [x_lok], by decide, by decide⟩
theorem x_sw_not : x_sw 14 w_not := ⟨by decide, by simp [x_lok], by decide, by decide⟩
theorem x_sw_on : x_sw 15 w_on := ⟨by decide, by simp [x_lok], by decide, by decide⟩
theorem x_sw_or : x_sw 16 w_or := ⟨by decide, by simp [x_lok], by decide, by decide⟩
theorem x_sw_place : x_sw 17 w_place := ⟨by decide, by simp [x_lok], by decide, by decide⟩
theorem x_sw_press : x_sw 18 w_press := ⟨by decide, by simp [x_lok], by decide, by decide⟩
theorem x_sw_save : x_sw 19 w_save := ⟨by decide, by simp [x_lok], by decide, by decide⟩
theorem x_sw_show : x_sw 20 w_show := ⟨by decide, by simp [x_lok], by decide, by decide⟩
theorem x_sw_start : x_sw 21 w_start := ⟨by decide, by simp [x_lok], by decide, by decide⟩
theorem x_sw_stop : x_sw 22 w_stop := ⟨by decide, by simp [x_lok], by decide, by decide⟩
section CP
variable {tx : Nat → Int32} {n : Nat} {sc ar : jSc} {mr : Nat → Nat} {al : jAl}
theorem c_digit (h : c_TX sc ar n tx) {q most : Nat} (hq : q ≤ n) (hm : most ≤ 8) :
    (¬ x_dg (tx (x_nb tx q)) → xF_266 (nI (most + 1)) (cA sc q) mr ar al = some (0, cF (cA sc (x_nb tx q)) 1 (x_nb tx q), mr, ar, al)) ∧
    (x_dg (tx (x_nb tx q)) → (x_dg (tx (x_nb tx q + 1)) ∨ most < iN (tx (x_nb tx q)) - 48) → xF_266 (nI (most + 1)) (cA sc q) mr ar al = some (0, cF (cA sc (x_nb tx q)) 2 (x_nb tx q), mr, ar, al)) ∧
    (x_dg (tx (x_nb tx q)) → ¬ (x_dg (tx (x_nb tx q + 1)) ∨ most < iN (tx (x_nb tx q)) - 48) → x_nb tx q + 1 ≤ n ∧ xF_266 (nI (most + 1)) (cA sc q) mr ar al = some (nI (iN (tx (x_nb tx q)) - 48), cA sc (x_nb tx q + 1), mr, ar, al)) := by
  have hn := h.1.1
  have b1 := x_nb_le h.1 hq
  have hA := c_TX_A (q := x_nb tx q) h
  have ew : xF_266 (nI (most + 1)) (cA sc q) mr ar al = xF_266 (nI (most + 1)) (cA sc q) mr ar al := rfl
  conv at ew => rhs; unfold xF_266
  rw [c_skips h hq, ob4, cA_2, c_isDigit hA (by omega), ob5] at ew
  refine ⟨fun k1 => ?_, fun k1 k2 => ?_, fun k1 k2 => ?_⟩
  · rw [ew, if_neg k1, if_pos rfl, show (1 : Int32) = nI 1 from rfl, c_faults, ob4]
  · have d3 := x_de_lt h.1 k1
    obtain ⟨y1, y2⟩ := c_byte h (show x_nb tx q < n by omega)
    obtain ⟨v, v1, v2, v3⟩ := of_dg k1
    have iv : iN (tx (x_nb tx q)) = v := by rw [v3]; exact iN_nI (by omega)
    rw [ew, if_pos k1, if_neg (by decide), if_pos y1, y2, nI_1, c_isDigit hA (by omega), ob5]
    by_cases k3 : x_dg (tx (x_nb tx q + 1))
    · rw [if_pos k3, if_neg (by decide), show (2 : Int32) = nI 2 from rfl, c_faults, ob4]
    · have k4 : most < v - 48 := by rw [iv] at k2; exact k2.elim (fun z => absurd z k3) id
      rw [if_neg k3, if_pos rfl, v3, show (48 : Int32) = nI 48 from rfl, nI_sub (by omega), if_neg (nI_nlt (by omega) (by omega)), show (2 : Int32) = nI 2 from rfl, c_faults, ob4]
  · have d3 := x_de_lt h.1 k1
    obtain ⟨y1, y2⟩ := c_byte h (show x_nb tx q < n by omega)
    obtain ⟨v, v1, v2, v3⟩ := of_dg k1
    have iv : iN (tx (x_nb tx q)) = v := by rw [v3]; exact iN_nI (by omega)
    have k3 : ¬ x_dg (tx (x_nb tx q + 1)) := fun z => k2 (Or.inl z)
    have k4 : v - 48 ≤ most := by rw [iv] at k2; exact Nat.not_lt.mp fun z => k2 (Or.inr z)
    refine ⟨by omega, ?_⟩
    rw [ew, if_pos k1, if_neg (by decide), if_pos y1, y2, nI_1, c_isDigit hA (by omega), ob5, if_neg k3, if_pos rfl, iv, v3, show (48 : Int32) = nI 48 from rfl, nI_sub (by omega), if_pos (nI_lt (by omega) (by omega)), u2_2]
theorem c_num_go (h : c_TX sc ar n tx) {q r b : Nat} (hr : q + r ≤ n) (h3 : ¬ x_dg (tx (q + r))) (h4 : ∀ j, q ≤ j → j < q + r → x_dg (tx j)) : ∀ (m k nn : Nat), k + m = r → m < nn → xF_267_29 nn (nI b) (nI (min 1000 (x_dN tx q k))) (nI (q + k)) (cA sc (q + k)) mr ar al = (if x_dN tx q r ≤ 999 then some (nI (x_dN tx q r), cA sc (q + r), mr, ar, al) else some (0, cF (cA sc (q + r)) 2 b, mr, ar, al)) := by
  have hn := h.1.1
  intro m
  induction m with
  | zero =>
    intro k nn h1 h2
    obtain ⟨j, rfl⟩ : ∃ j, nn = j + 1 := ⟨nn - 1, by omega⟩
    have e : k = r := by omega
    subst e
    have e9 : nI (min 1000 (x_dN tx q k)) ≤ (999 : Int32) ↔ min 1000 (x_dN tx q k) ≤ 999 := nI_leI (by omega) (by decide)
    have fin : (if nI (min 1000 (x_dN tx q k)) ≤ (999 : Int32) then some (nI (min 1000 (x_dN tx q k)), cA sc (q + k), mr, ar, al) else o_b4 (xF_276 2 (nI b) (cA sc (q + k)) mr ar al) (fun sce3 mre3 are3 ale3 => some ((0 : Int32), sce3, mre3, are3, ale3))) = (if x_dN tx q k ≤ 999 then some (nI (x_dN tx q k), cA sc (q + k), mr, ar, al) else some (0, cF (cA sc (q + k)) 2 b, mr, ar, al)) := by
      by_cases c : x_dN tx q k ≤ 999
      · rw [if_pos (e9.mpr (by omega)), if_pos c, show min 1000 (x_dN tx q k) = x_dN tx q k by omega]
      · rw [if_neg (fun z => absurd (e9.mp z) (by omega)), if_neg c, show (2 : Int32) = nI 2 from rfl, c_faults, ob4]
    unfold xF_267_29
    by_cases c1 : n ≤ q + k
    · rw [if_pos ((c_len (c_TX_A h) (by omega)).mpr c1)]
      exact fin
    · rw [if_neg (fun z => c1 ((c_len (c_TX_A h) (by omega)).mp z)), c_isDigit (c_TX_A h) (by omega), ob5, if_neg h3, if_pos rfl]
      exact fin
  | succ m ih =>
    intro k nn h1 h2
    obtain ⟨j, rfl⟩ : ∃ j, nn = j + 1 := ⟨nn - 1, by omega⟩
    have hd := h4 (q + k) (by omega) (by omega)
    have hlt : q + k < n := by omega
    obtain ⟨y1, y2⟩ := c_byte h hlt
    obtain ⟨v, v1, v2, v3⟩ := of_dg hd
    have e2 : x_dN tx q (k + 1) = 10 * x_dN tx q k + (v - 48) := by
      show 10 * x_dN tx q k + (iN (tx (q + k)) - 48) = _
      rw [v3, iN_nI (by omega)]
    have ev : nI (min 1000 (x_dN tx q k)) * (10 : Int32) + tx (q + k) - 48 = nI (min 1000 (x_dN tx q k) * 10 + (v - 48)) := by
      rw [v3, show (10 : Int32) = nI 10 from rfl, show (48 : Int32) = nI 48 from rfl, nI_mul, nI_add, nI_sub (by omega)]
      congr 1
      omega
    have := ih (k + 1) j (by omega) (by omega)
    rw [e2] at this
    unfold xF_267_29
    rw [if_neg (fun z => absurd ((c_len (c_TX_A h) (by omega)).mp z) (by omega)), c_isDigit (c_TX_A h) (by omega), ob5, if_pos hd, if_neg (by decide), if_pos y1, y2, ev, nI_1, u2_2]
    have e6 : (1000 : Int32) < nI (min 1000 (x_dN tx q k) * 10 + (v - 48)) ↔ 1000 < min 1000 (x_dN tx q k) * 10 + (v - 48) := nI_ltI (by decide) (by omega)
    have e7 : (if (1000 : Int32) < nI (min 1000 (x_dN tx q k) * 10 + (v - 48)) then (1000 : Int32) else nI (min 1000 (x_dN tx q k) * 10 + (v - 48))) = nI (min 1000 (10 * x_dN tx q k + (v - 48))) := by
      by_cases c : 1000 < min 1000 (x_dN tx q k) * 10 + (v - 48)
      · rw [if_pos (e6.mpr c), show min 1000 (10 * x_dN tx q k + (v - 48)) = 1000 by omega]; rfl
      · rw [if_neg (fun z => c (e6.mp z))]
        congr 1
        omega
    rw [e7]
    exact this
theorem c_number (h : c_TX sc ar n tx) {q : Nat} (hq : q ≤ n) : xF_267 (cA sc q) mr ar al = (if x_dg (tx (x_nb tx q)) then (if x_nu tx (x_nb tx q) ≤ 999 then some (nI (x_nu tx (x_nb tx q)), cA sc (x_de tx (x_nb tx q)), mr, ar, al) else some (0, cF (cA sc (x_de tx (x_nb tx q))) 2 (x_nb tx q), mr, ar, al)) else some (0, cF (cA sc (x_nb tx q)) 1 (x_nb tx q), mr, ar, al)) := by
  have hn := h.1.1
  have b1 := x_nb_le h.1 hq
  have hA := c_TX_A (q := x_nb tx q) h
  obtain ⟨a1, a2, a3, a4⟩ := x_de_ok h.1 (x_nb tx q)
  unfold xF_267
  rw [c_skips h hq, ob4, cA_2, c_isDigit hA (by omega), ob5]
  by_cases k1 : x_dg (tx (x_nb tx q))
  · have d3 := x_de_lt h.1 k1
    rw [if_pos k1, if_pos k1, if_neg (by decide)]
    have ed : x_nb tx q + (x_de tx (x_nb tx q) - x_nb tx q) = x_de tx (x_nb tx q) := by omega
    have go := c_num_go (mr := mr) (al := al) h (q := x_nb tx q) (r := x_de tx (x_nb tx q) - x_nb tx q) (b := x_nb tx q) (by omega) (by rw [ed]; exact a4) (fun j a b => a3 j a (by omega)) (x_de tx (x_nb tx q) - x_nb tx q) 0 oF (by omega) (by rw [oF_s]; omega)
    rw [ed] at go
    exact go
  · rw [if_neg k1, if_neg k1, if_pos rfl, show (1 : Int32) = nI 1 from rfl, c_faults, ob4]
theorem c_letter (h : c_TX sc ar n tx) {q : Nat} (hq : q ≤ n) : xF_268 (cA sc q) mr ar al = (match x_le tx (x_nb tx q) with | some l => some (nI l, cA sc (x_nb tx q + 1), mr, ar, al) | none => some (-1, cA sc (x_nb tx q), mr, ar, al)) := by
  have hn := h.1.1
  have b1 := x_nb_le h.1 hq
  have hA := c_TX_A (q := x_nb tx q) h
  unfold xF_268
  rw [c_skips h hq, ob4, cA_2, c_isSmall hA (by omega), ob5]
  by_cases k1 : x_sm (tx (x_nb tx q))
  · have hlt := lt_n h.1 (q := x_nb tx q) (by rintro z; rw [z] at k1; exact absurd k1 (by decide))
    obtain ⟨y1, y2⟩ := c_byte h hlt
    rw [if_pos k1, if_neg (by decide), cA_2, nI_1, c_isSmall hA (by omega), ob5]
    by_cases k2 : x_sm (tx (x_nb tx q + 1))
    · rw [if_pos k2, if_neg (by decide), show x_le tx (x_nb tx q) = none from if_neg (fun z => z.2 k2)]
    · rw [if_neg k2, if_pos rfl, cA_2, if_pos y1, y2]
      by_cases k3 : tx (x_nb tx q) ≤ 104
      · have hl : x_le tx (x_nb tx q) = some (iN (tx (x_nb tx q)) - 97) := if_pos ⟨⟨k1.1, k3⟩, k2⟩
        obtain ⟨l1, l2, l3⟩ := x_le_ok hl
        rw [if_pos k3, hl, if_pos y1, nI_1, u2_2]
        show some (tx (x_nb tx q) - 97, _, _, _, _) = some (nI (iN (tx (x_nb tx q)) - 97), _, _, _, _)
        rw [l2, show (97 : Int32) = nI 97 from rfl, nI_sub (by omega), iN_nI (by omega), show 97 + (iN (tx (x_nb tx q)) - 97) - 97 = iN (tx (x_nb tx q)) - 97 by omega]
      · rw [if_neg k3, show x_le tx (x_nb tx q) = none from if_neg (fun z => k3 z.1.2)]
  · rw [if_neg k1, if_pos rfl, show x_le tx (x_nb tx q) = none from if_neg (fun z => k1 ⟨z.1.1, Int32.le_trans z.1.2 (by decide)⟩)]
/-- an order added to the program p -/
def cDs (p : Nat) (o : Nat) (m : Int32) (sc : jSc) : jSc := j_u2 (j_u2 sc p 6 (sc p 6 ||| (if o = 24 then 1 <<< (m &&& 31) else 0))) p 3 (sc p 3 + 1)
theorem c_adds {p o L : Nat} {m : Int32} (ho : o < 100) (hL : sc p 3 = nI L) : (L < 700 → xF_252 p (nI o) m sc mr ar al = some (nI L, cDs p o m sc, mr, j_u2 (j_u2 ar (p + 1) L (nI o)) (p + 2) L m, al)) ∧ (700 ≤ L → L < 2 ^ 30 → xF_252 p (nI o) m sc mr ar al = some (-1, sc, mr, ar, al)) := by
  have eo : nI o = (24 : Int32) ↔ o = 24 := nI_eq (by omega) (by decide)
  refine ⟨fun h7 => ?_, fun h7 hL2 => ?_⟩
  · have e7 : nI L < (700 : Int32) := nI_lt (b := 700) h7 (by decide)
    unfold xF_252 cDs
    rw [hL, if_pos e7, if_pos (iB_nI h7 (by decide)), if_pos (iB_nI h7 (by decide)), iN_nI (by omega)]
    by_cases c : o = 24
    · rw [if_pos (eo.mpr c), if_pos c, u2_nk (show 3 ≠ 6 by decide), hL, u2_eq, nI_1, nI_pred]
    · rw [if_neg (fun z => c (eo.mp z)), if_neg c, u2_nk (show 3 ≠ 6 by decide), hL, u2_eq, nI_1, nI_pred]
  · unfold xF_252
    have e7 : ¬ nI L < (700 : Int32) := nI_nlt (b := 700) h7 (by omega)
    rw [hL, if_neg e7]
end CP
