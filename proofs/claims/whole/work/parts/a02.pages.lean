/-! BITS (the first family out of the kit's laws, to paste) and the two PAGES. -/
def bt (x : Int32) (i : Nat) : Bool := x.toBitVec.getLsbD i
theorem b_ext {x y : Int32} (h : ∀ i, i < 32 → bt x i = bt y i) : x = y := Int32.toBitVec_inj.mp (BitVec.eq_of_getLsbD_eq (fun i hi => h i hi))
theorem b_or (x y : Int32) (i : Nat) : bt (x ||| y) i = (bt x i || bt y i) := by unfold bt; rw [Int32.toBitVec_or, BitVec.getLsbD_or]
theorem b_and (x y : Int32) (i : Nat) : bt (x &&& y) i = (bt x i && bt y i) := by unfold bt; rw [Int32.toBitVec_and, BitVec.getLsbD_and]
theorem b_xor (x y : Int32) (i : Nat) : bt (x ^^^ y) i = (bt x i ^^ bt y i) := by unfold bt; rw [Int32.toBitVec_xor, BitVec.getLsbD_xor]
theorem b_big {x : Int32} {i : Nat} (h : 32 ≤ i) : bt x i = false := BitVec.getLsbD_of_ge _ _ h
theorem b_255 (i : Nat) : bt 255 i = decide (i < 8) := by
  rcases Nat.lt_or_ge i 32 with h | h
  · exact (by decide +kernel : ∀ i, i < 32 → bt 255 i = decide (i < 8)) i h
  · rw [b_big h, decide_eq_false (by omega)]
theorem b_65535 (i : Nat) : bt 65535 i = decide (i < 16) := by
  rcases Nat.lt_or_ge i 32 with h | h
  · exact (by decide +kernel : ∀ i, i < 32 → bt 65535 i = decide (i < 16)) i h
  · rw [b_big h, decide_eq_false (by omega)]
theorem b_m1 : ∀ i, i < 32 → bt (-1) i = true := by decide +kernel
theorem b_0 (i : Nat) : bt 0 i = false := BitVec.getLsbD_zero
theorem s_l : ∀ n, n < 32 → ((nI n &&& 31).toBitVec.smod 32).toNat = n := by decide +kernel
theorem s_u : ∀ n, n < 32 → (((nI n).toUInt32 &&& Int32.toUInt32 31).toBitVec % 32).toNat = n := by decide +kernel
theorem b_shl (n : Nat) (hn : n < 32) (x : Int32) {i : Nat} (hi : i < 32) : bt (x <<< (nI n &&& 31)) i = (decide (n ≤ i) && bt x (i - n)) := by
  unfold bt
  rw [Int32.toBitVec_shiftLeft]
  show (x.toBitVec <<< ((nI n &&& 31).toBitVec.smod 32).toNat).getLsbD i = _
  rw [s_l n hn, BitVec.getLsbD_shiftLeft]
  rcases Nat.lt_or_ge i n with h | h
  · simp [h, Nat.not_le.mpr h]
  · simp [hi, h, Nat.not_lt.mpr h]
theorem b_ushr (n : Nat) (hn : n < 32) (x : Int32) (i : Nat) : bt ((x.toUInt32 >>> ((nI n).toUInt32 &&& Int32.toUInt32 31)).toInt32) i = bt x (n + i) := by
  show (x.toUInt32 >>> ((nI n).toUInt32 &&& Int32.toUInt32 31)).toBitVec.getLsbD i = x.toUInt32.toBitVec.getLsbD (n + i)
  rw [UInt32.toBitVec_shiftRight]
  show (x.toUInt32.toBitVec >>> (((nI n).toUInt32 &&& Int32.toUInt32 31).toBitVec % 32).toNat).getLsbD i = _
  rw [s_u n hn, BitVec.getLsbD_ushiftRight]
theorem b_sshr (n : Nat) (hn : n < 32) (x : Int32) {i : Nat} (hi : i < 32) : bt (x >>> (nI n &&& 31)) i = if n + i < 32 then bt x (n + i) else bt x 31 := by
  unfold bt
  rw [Int32.toBitVec_shiftRight]
  show (x.toBitVec.sshiftRight ((nI n &&& 31).toBitVec.smod 32).toNat).getLsbD i = _
  rw [s_l n hn, BitVec.getLsbD_sshiftRight, BitVec.msb_eq_getLsbD_last]
  simp [hi]
theorem b_shl8 (x : Int32) {i : Nat} (hi : i < 32) : bt (x <<< ((8 : Int32) &&& 31)) i = (decide (8 ≤ i) && bt x (i - 8)) := b_shl 8 (by omega) x hi
theorem b_shl16 (x : Int32) {i : Nat} (hi : i < 32) : bt (x <<< ((16 : Int32) &&& 31)) i = (decide (16 ≤ i) && bt x (i - 16)) := b_shl 16 (by omega) x hi
theorem b_shl24 (x : Int32) {i : Nat} (hi : i < 32) : bt (x <<< ((24 : Int32) &&& 31)) i = (decide (24 ≤ i) && bt x (i - 24)) := b_shl 24 (by omega) x hi
theorem b_sshr8 (x : Int32) {i : Nat} (hi : i < 32) : bt (x >>> ((8 : Int32) &&& 31)) i = if 8 + i < 32 then bt x (8 + i) else bt x 31 := b_sshr 8 (by omega) x hi

theorem bt_1 (k : Nat) (hk : k < 32) {i : Nat} (hi : i < 32) : bt (1 <<< (nI k &&& 31)) i = decide (i = k) := by
  rw [b_shl k hk 1 hi]
  have h1 : ∀ j, j < 32 → bt 1 j = decide (j = 0) := by decide +kernel
  rw [h1 (i - k) (by omega)]
  by_cases c : i = k
  · subst c; simp
  · by_cases d : k ≤ i
    · simp [c, show ¬ i - k = 0 by omega]
    · simp [c, d]
theorem bt_sh (x : Int32) (k : Nat) (hk : k < 32) : (x >>> (nI k &&& 31)) &&& 1 = if bt x k = true then 1 else 0 := by
  have h1 : ∀ j, j < 32 → bt 1 j = decide (j = 0) := by decide +kernel
  apply b_ext
  intro i hi
  rw [b_and, b_sshr k hk x hi, h1 i hi]
  by_cases c : i = 0
  · subst c
    rw [if_pos (by omega)]
    simp only [Nat.add_zero, decide_true, Bool.and_true]
    by_cases d : bt x k = true
    · rw [if_pos d, d]; rfl
    · rw [if_neg d, b_0]; simpa using d
  · simp only [c, decide_false, Bool.and_false]
    by_cases d : bt x k = true
    · rw [if_pos d, h1 i hi]; simp [c]
    · rw [if_neg d, b_0]
theorem bt_or {x : Int32} {k i : Nat} (hk : k < 32) (hi : i < 32) : bt (x ||| (1 <<< (nI k &&& 31))) i = (bt x i || decide (i = k)) := by rw [b_or, bt_1 k hk hi]
theorem bt_clr {x : Int32} {k i : Nat} (hk : k < 32) (hi : i < 32) : bt (x &&& ((1 <<< (nI k &&& 31)) ^^^ (-1))) i = (bt x i && !decide (i = k)) := by
  rw [b_and, b_xor, bt_1 k hk hi, b_m1 i hi]; simp
theorem bt_s0 {x : Int32} {k : Nat} (hk : k < 32) : ((x >>> (nI k &&& 31)) &&& 1 = 0) ↔ bt x k = false := by
  rw [bt_sh x k hk]
  by_cases d : bt x k = true
  · rw [if_pos d, d]; simp
  · rw [if_neg d]; simpa using d
theorem bt_s1 {x : Int32} {k : Nat} (hk : k < 32) : ((x >>> (nI k &&& 31)) &&& 1 = 1) ↔ bt x k = true := by
  rw [bt_sh x k hk]
  by_cases d : bt x k = true
  · rw [if_pos d, d]; simp
  · rw [if_neg d]; simp [d]
theorem sh8 : ∀ d, d < 8 → ((1 : Int32) <<< (nI d &&& 31)) <<< ((8 : Int32) &&& 31) = 1 <<< ((8 + nI d) &&& 31) := by decide +kernel
theorem or_as (a b c : Int32) : a ||| b ||| c = a ||| (b ||| c) := Int32.or_assoc a b c
/-- where the cell k of a page of ClickOrders stands in the reference's page -/
def ix (k : Nat) : Nat := if k < 10 then k else if k < 14 then k + 23 else if k = 14 then 37 else if k < 19 then k - 5 else if k = 19 then 26 else k - 6
theorem ix_c (k : Nat) (h : k < 32) : (k < 10 ∧ ix k = k) ∨ (10 ≤ k ∧ k < 14 ∧ ix k = k + 23) ∨ (k = 14 ∧ ix k = 37) ∨ (15 ≤ k ∧ k < 19 ∧ ix k + 5 = k) ∨ (k = 19 ∧ ix k = 26) ∨ (20 ≤ k ∧ k < 32 ∧ ix k + 6 = k) := by
  unfold ix
  repeat' split
  all_goals omega
def pD (P C : Nat → Int32) : Prop := ∀ k, k < 32 → C k = P (ix k)
def pK (P C : Nat → Int32) : Prop := ∀ k, k < 3 → ∃ d h, d ≤ 3 ∧ h ≤ 999 ∧ C (32 + k) = nI (d * 1000 + h) ∧ P (27 + k) = nI d ∧ P (30 + k) = nI h
def pZ (P : Nat → Int32) : Prop := (∀ l k, l < 4 → k < 3 → iN (P (10 + l)) ≤ k → P (14 + 3 * l + k) = 0) ∧ ∀ k, k < 3 → iN (P 26) ≤ k → P (27 + k) = 0 ∧ P (30 + k) = 0
/-- the reference's page P and the page C of ClickOrders are alike -/
def pgR (P C : Nat → Int32) : Prop := pD P C ∧ pK P C ∧ pgC P ∧ (P 37 = 0 ∨ P 37 = 1) ∧ pZ P
/-- who asked, who set -/
def pgA (P C : Nat → Int32) : Prop := (∀ l k, l < 4 → k < 3 → k < iN (P (10 + l)) → C (35 + 3 * l + k) = P (38 + 3 * l + k)) ∧ ∀ k, k < 3 → k < iN (P 26) → C (47 + k) = P (50 + k)
theorem up_n {g : Nat → Int32} {k j : Nat} {x : Int32} (h : j ≠ k) : upd g k x j = g j := up_1 (by simpa using h)
theorem u2_up {f : jSc} {a k : Nat} {v : Int32} : j_u2 f a k v a = upd (f a) k v := by
  funext j
  by_cases c : j = k
  · subst c; rw [u2_eq, up_0]
  · rw [u2_nk c, up_n c]
theorem pD_up {P C : Nat → Int32} {i j : Nat} {v : Int32} (h : pD P C) (hj : j < 32) (hi : ix j = i) : pD (upd P i v) (upd C j v) := by
  intro k hk
  by_cases c : k = j
  · subst c; rw [hi, up_0, up_0]
  · have a := ix_c k hk
    have b := ix_c j hj
    rw [up_n c, up_n (by omega)]
    exact h k hk
theorem pD_c {P C : Nat → Int32} {j : Nat} {v : Int32} (h : pD P C) (hj : 32 ≤ j) : pD P (upd C j v) := by
  intro k hk
  rw [up_n (by omega)]
  exact h k hk
theorem pD_p {P C : Nat → Int32} {i : Nat} {v : Int32} (h : pD P C) (hi : (27 ≤ i ∧ i ≤ 32) ∨ 38 ≤ i) : pD (upd P i v) C := by
  intro k hk
  have a := ix_c k hk
  rw [up_n (by omega)]
  exact h k hk
theorem pgR_i {P C : Nat → Int32} {l : Nat} (h : pgR P C) (hl : l < 4) : C (15 + l) = P (10 + l) := by
  have a := ix_c (15 + l) (by omega)
  rw [h.1 _ (by omega)]
  congr 1
  omega
/-- names, things and rows: a cell below 14 -/
theorem pgR_lo {P C : Nat → Int32} {i j : Nat} {v : Int32} (h : pgR P C) (hj : j < 14) (hi : ix j = i) : pgR (upd P i v) (upd C j v) := by
  obtain ⟨h1, h2, ⟨h3, h3b⟩, h4, h5, h5b⟩ := h
  have a := ix_c j (by omega)
  refine ⟨pD_up h1 (by omega) hi, fun k hk => ?_, ⟨fun l hl => ?_, ?_⟩, ?_, fun l k hl hk => ?_, fun k hk => ?_⟩
  · rw [up_n (by omega), up_n (by omega), up_n (by omega)]; exact h2 k hk
  · rw [up_n (by omega)]; exact h3 l hl
  · rw [up_n (by omega)]; exact h3b
  · rw [up_n (by omega)]; exact h4
  · rw [up_n (by omega), up_n (by omega)]; exact h5 l k hl hk
  · rw [up_n (by omega), up_n (by omega), up_n (by omega)]; exact h5b k hk
theorem pgA_lo {P C : Nat → Int32} {i j : Nat} {v : Int32} (h : pgA P C) (hj : j < 15) (hi : i < 10 ∨ (33 ≤ i ∧ i ≤ 37)) : pgA (upd P i v) (upd C j v) := by
  obtain ⟨h1, h2⟩ := h
  refine ⟨fun l k hl hk => ?_, fun k hk => ?_⟩
  · rw [up_n (by omega), up_n (by omega), up_n (by omega)]; exact h1 l k hl hk
  · rw [up_n (by omega), up_n (by omega), up_n (by omega)]; exact h2 k hk
/-- the page failed -/
theorem pgR_br {P C : Nat → Int32} (h : pgR P C) : pgR (upd P 37 1) (upd C 14 1) := by
  obtain ⟨h1, h2, ⟨h3, h3b⟩, h4, h5, h5b⟩ := h
  refine ⟨pD_up h1 (by omega) (by decide), fun k hk => ?_, ⟨fun l hl => ?_, ?_⟩, Or.inr up_0, fun l k hl hk => ?_, fun k hk => ?_⟩
  · rw [up_n (by omega), up_n (by omega), up_n (by omega)]; exact h2 k hk
  · rw [up_n (by omega)]; exact h3 l hl
  · rw [up_n (by omega)]; exact h3b
  · rw [up_n (by omega), up_n (by omega)]; exact h5 l k hl hk
  · rw [up_n (by omega), up_n (by omega), up_n (by omega)]; exact h5b k hk
/-- a clock comes -/
theorem pgR_ck {P C : Nat → Int32} {n d x : Nat} {s : Int32} (h : pgR P C) (hn : P 26 = nI n) (h3 : n < 3) (hd : d ≤ 3) (hx : x ≤ 999) : pgR (upd (upd (upd (upd P (27 + n) (nI d)) (30 + n) (nI x)) (50 + n) s) 26 (nI (n + 1))) (upd (upd (upd C (32 + n) (nI (d * 1000 + x))) (47 + n) s) 19 (nI (n + 1))) := by
  obtain ⟨h1, h2, ⟨k1, k2⟩, h4, h5, h5b⟩ := h
  refine ⟨pD_up (pD_p (pD_p (pD_p (pD_c (pD_c h1 (by omega)) (by omega)) (by omega)) (by omega)) (by omega)) (by omega) (by decide), fun k hk => ?_, ⟨fun l hl => ?_, ⟨n + 1, by omega, up_0⟩⟩, ?_, fun l k hl hk => ?_, fun k hk => ?_⟩
  · by_cases c : k = n
    · subst c
      simp (disch := omega) only [up_0, up_n]
      exact ⟨d, x, hd, hx, rfl, rfl, rfl⟩
    · simp (disch := omega) only [up_0, up_n]
      exact h2 k hk
  · rw [up_n (by omega), up_n (by omega), up_n (by omega), up_n (by omega)]; exact k1 l hl
  · rw [up_n (by omega), up_n (by omega), up_n (by omega), up_n (by omega)]; exact h4
  · rw [up_n (by omega), up_n (by omega), up_n (by omega), up_n (by omega), up_n (by omega), up_n (by omega), up_n (by omega), up_n (by omega)]; exact h5 l k hl hk
  · rw [up_0, iN_nI (by omega)]
    intro hq
    rw [up_n (by omega), up_n (by omega), up_n (by omega), up_n (by omega), up_n (by omega), up_n (by omega), up_n (by omega), up_n (by omega)]
    exact h5b k hk (by rw [hn, iN_nI (by omega)]; omega)
theorem pgA_ck {P C : Nat → Int32} {n d x : Nat} {s y : Int32} (h : pgA P C) (hn : P 26 = nI n) (h3 : n < 3) : pgA (upd (upd (upd (upd P (27 + n) (nI d)) (30 + n) (nI x)) (50 + n) s) 26 (nI (n + 1))) (upd (upd (upd C (32 + n) y) (47 + n) s) 19 (nI (n + 1))) := by
  obtain ⟨h1, h2⟩ := h
  refine ⟨fun l k hl hk => ?_, fun k hk => ?_⟩
  · rw [up_n (by omega), up_n (by omega), up_n (by omega), up_n (by omega), up_n (by omega), up_n (by omega), up_n (by omega), up_n (by omega), up_n (by omega), up_n (by omega), up_n (by omega)]
    exact h1 l k hl hk
  · rw [up_0, iN_nI (by omega)]
    intro hq
    by_cases c : k = n
    · subst c
      simp (disch := omega) only [up_0, up_n]
    · simp (disch := omega) only [up_0, up_n]
      exact h2 k hk (by rw [hn, iN_nI (by omega)]; omega)
/-- an answer is to come -/
theorem pgR_an {P C : Nat → Int32} {n l : Nat} {s v : Int32} (h : pgR P C) (hl : l < 4) (hn : P (10 + l) = nI n) (h3 : n < 3) : pgR (upd (upd (upd P (14 + 3 * l + n) v) (38 + 3 * l + n) s) (10 + l) (nI (n + 1))) (upd (upd (upd C (20 + 3 * l + n) v) (35 + 3 * l + n) s) (15 + l) (nI (n + 1))) := by
  obtain ⟨h1, h2, ⟨k1, k2⟩, h4, h5, h5b⟩ := h
  have a1 := ix_c (15 + l) (by omega)
  have a2 := ix_c (20 + 3 * l + n) (by omega)
  refine ⟨pD_up (pD_p (pD_c (pD_up h1 (by omega) (by omega)) (by omega)) (by omega)) (by omega) (by omega), fun k hk => ?_, ⟨fun j hj => ?_, ?_⟩, ?_, fun j k hj hk => ?_, fun k hk => ?_⟩
  · rw [up_n (by omega), up_n (by omega), up_n (by omega), up_n (by omega), up_n (by omega), up_n (by omega), up_n (by omega), up_n (by omega), up_n (by omega)]
    exact h2 k hk
  · by_cases c : j = l
    · subst c; exact ⟨n + 1, by omega, up_0⟩
    · rw [up_n (by omega), up_n (by omega), up_n (by omega)]; exact k1 j hj
  · rw [up_n (by omega), up_n (by omega), up_n (by omega)]; exact k2
  · rw [up_n (by omega), up_n (by omega), up_n (by omega)]; exact h4
  · by_cases c : j = l
    · subst c
      rw [up_0, iN_nI (by omega)]
      intro hq
      rw [up_n (by omega), up_n (by omega), up_n (by omega)]
      exact h5 j k hj hk (by rw [hn, iN_nI (by omega)]; omega)
    · rw [up_n (by omega), up_n (by omega), up_n (by omega), up_n (by omega), up_n (by omega), up_n (by omega)]; exact h5 j k hj hk
  · rw [up_n (by omega), up_n (by omega), up_n (by omega), up_n (by omega), up_n (by omega), up_n (by omega), up_n (by omega), up_n (by omega), up_n (by omega)]; exact h5b k hk
theorem pgA_an {P C : Nat → Int32} {n l : Nat} {s v : Int32} (h : pgA P C) (hl : l < 4) (hn : P (10 + l) = nI n) (h3 : n < 3) : pgA (upd (upd (upd P (14 + 3 * l + n) v) (38 + 3 * l + n) s) (10 + l) (nI (n + 1))) (upd (upd (upd C (20 + 3 * l + n) v) (35 + 3 * l + n) s) (15 + l) (nI (n + 1))) := by
  obtain ⟨h1, h2⟩ := h
  refine ⟨fun j k hj hk => ?_, fun k hk => ?_⟩
  · by_cases c : j = l
    · subst c
      rw [up_0, iN_nI (by omega)]
      intro hq
      by_cases d : k = n
      · subst d; simp (disch := omega) only [up_0, up_n]
      · simp (disch := omega) only [up_0, up_n]
        exact h1 j k hj hk (by rw [hn, iN_nI (by omega)]; omega)
    · simp (disch := omega) only [up_0, up_n]; exact h1 j k hj hk
  · rw [up_n (by omega), up_n (by omega), up_n (by omega), up_n (by omega), up_n (by omega), up_n (by omega), up_n (by omega), up_n (by omega), up_n (by omega)]; exact h2 k hk
/-- the line l emptied, in the reference's page and in that of ClickOrders -/
def eQ (P : Nat → Int32) (l : Nat) : Nat → Int32 := upd (upd (upd (upd (upd (upd (upd P (10 + l) 0) (14 + 3 * l) 0) (38 + 3 * l) 0) (15 + 3 * l) 0) (39 + 3 * l) 0) (16 + 3 * l) 0) (40 + 3 * l) 0
def cQ (C : Nat → Int32) (l : Nat) : Nat → Int32 := upd (upd (upd (upd C (20 + 3 * l) 0) (21 + 3 * l) 0) (22 + 3 * l) 0) (15 + l) 0
theorem eP_row {ar : jSc} {l : Nat} : eP ar l 13 = eQ (ar 13) l := by
  unfold eP eQ
  rw [u2_up, u2_up, u2_up, u2_up, u2_up, u2_up, u2_up]
theorem eQ_k {P : Nat → Int32} {l i : Nat} : eQ P l i = if i = 10 + l ∨ (14 + 3 * l ≤ i ∧ i ≤ 16 + 3 * l) ∨ (38 + 3 * l ≤ i ∧ i ≤ 40 + 3 * l) then 0 else P i := by
  unfold eQ
  by_cases c1 : i = 10 + l
  · subst c1
    rw [if_pos (by omega), up_n (by omega), up_n (by omega), up_n (by omega), up_n (by omega), up_n (by omega), up_n (by omega), up_0]
  by_cases c2 : i = 14 + 3 * l
  · subst c2
    rw [if_pos (by omega), up_n (by omega), up_n (by omega), up_n (by omega), up_n (by omega), up_n (by omega), up_0]
  by_cases c3 : i = 38 + 3 * l
  · subst c3
    rw [if_pos (by omega), up_n (by omega), up_n (by omega), up_n (by omega), up_n (by omega), up_0]
  by_cases c4 : i = 15 + 3 * l
  · subst c4
    rw [if_pos (by omega), up_n (by omega), up_n (by omega), up_n (by omega), up_0]
  by_cases c5 : i = 39 + 3 * l
  · subst c5
    rw [if_pos (by omega), up_n (by omega), up_n (by omega), up_0]
  by_cases c6 : i = 16 + 3 * l
  · subst c6
    rw [if_pos (by omega), up_n (by omega), up_0]
  by_cases c7 : i = 40 + 3 * l
  · subst c7
    rw [if_pos (by omega), up_0]
  rw [if_neg (by omega), up_n c7, up_n c6, up_n c5, up_n c4, up_n c3, up_n c2, up_n c1]
theorem cQ_k {C : Nat → Int32} {l i : Nat} (hl : l < 4) : cQ C l i = if i = 15 + l ∨ (20 + 3 * l ≤ i ∧ i ≤ 22 + 3 * l) then 0 else C i := by
  unfold cQ
  by_cases c1 : i = 15 + l
  · subst c1; rw [if_pos (by omega), up_0]
  by_cases c2 : i = 22 + 3 * l
  · subst c2; rw [if_pos (by omega), up_n (by omega), up_0]
  by_cases c3 : i = 21 + 3 * l
  · subst c3; rw [if_pos (by omega), up_n (by omega), up_n (by omega), up_0]
  by_cases c4 : i = 20 + 3 * l
  · subst c4; rw [if_pos (by omega), up_n (by omega), up_n (by omega), up_n (by omega), up_0]
  rw [if_neg (by omega), up_n c1, up_n c2, up_n c3, up_n c4]
theorem pgR_em {P C : Nat → Int32} {l : Nat} (h : pgR P C) (hl : l < 4) : pgR (eQ P l) (cQ C l) := by
  obtain ⟨h1, h2, ⟨k1, k2⟩, h4, h5, h5b⟩ := h
  refine ⟨fun k hk => ?_, fun k hk => ?_, ⟨fun j hj => ?_, ?_⟩, ?_, fun j k hj hk => ?_, fun k hk => ?_⟩
  · have a := ix_c k hk
    rw [eQ_k, cQ_k hl]
    by_cases c : k = 15 + l ∨ (20 + 3 * l ≤ k ∧ k ≤ 22 + 3 * l)
    · rw [if_pos c, if_pos (by omega)]
    · rw [if_neg c, if_neg (by omega)]; exact h1 k hk
  · rw [eQ_k, eQ_k, cQ_k hl, if_neg (by omega), if_neg (by omega), if_neg (by omega)]; exact h2 k hk
  · rw [eQ_k]
    by_cases c : j = l
    · rw [if_pos (by omega)]; exact ⟨0, by omega, rfl⟩
    · rw [if_neg (by omega)]; exact k1 j hj
  · rw [eQ_k, if_neg (by omega)]; exact k2
  · rw [eQ_k, if_neg (by omega)]; exact h4
  · rw [eQ_k, eQ_k]
    by_cases c : j = l
    · intro _
      rw [if_pos (by omega)]
    · rw [if_neg (by omega), if_neg (by omega)]; exact h5 j k hj hk
  · rw [eQ_k, eQ_k, eQ_k, if_neg (by omega), if_neg (by omega), if_neg (by omega)]; exact h5b k hk
theorem pgA_em {P C : Nat → Int32} {l : Nat} (h : pgA P C) (hl : l < 4) : pgA (eQ P l) (cQ C l) := by
  obtain ⟨h1, h2⟩ := h
  refine ⟨fun j k hj hk => ?_, fun k hk => ?_⟩
  · rw [eQ_k, eQ_k, cQ_k hl]
    by_cases c : j = l
    · rw [if_pos (by omega)]
      intro hq
      exact absurd hq (by rw [show iN (0 : Int32) = 0 from rfl]; omega)
    · rw [if_neg (by omega), if_neg (by omega), if_neg (by omega)]; exact h1 j k hj hk
  · rw [eQ_k, eQ_k, cQ_k hl, if_neg (by omega), if_neg (by omega), if_neg (by omega)]; exact h2 k hk
