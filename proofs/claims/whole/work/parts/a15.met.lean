/-! PAGES THAT WERE MET: the table of ClickOrders. -/
theorem cpy_in {f g : Nat → Int32} {sp dp n j : Nat} (h : dp ≤ j) (h2 : j < dp + n) : va_cpy f g sp dp n j = f (sp + (j - dp)) := by
  unfold va_cpy
  rw [if_pos ⟨h, h2⟩]
theorem cpy_out {f g : Nat → Int32} {sp dp n j : Nat} (h : j < dp ∨ dp + n ≤ j) : va_cpy f g sp dp n j = g j := by
  unfold va_cpy
  rw [if_neg (by omega)]
/-- two rows are equal from k on, r cells -/
def eqg (f g : Nat → Int32) : Nat → Nat → Bool
  | 0, _ => true
  | r + 1, k => decide (f k = g k) && eqg f g r (k + 1)
theorem eqg_i {f g : Nat → Int32} : ∀ {r k : Nat}, eqg f g r k = true ↔ ∀ j, k ≤ j → j < k + r → f j = g j
  | 0, k => by simp [eqg]; intro j h1 h2; omega
  | r + 1, k => by
    unfold eqg
    rw [Bool.and_eq_true, decide_eq_true_iff, eqg_i]
    constructor
    · rintro ⟨h1, h2⟩ j a b
      by_cases z : j = k
      · subst z; exact h1
      · exact h2 j (by omega) (by omega)
    · intro h
      exact ⟨h k (by omega) (by omega), fun j a b => h j (by omega) (by omega)⟩
theorem nI_m {x : Int32} : ∃ h, h < 8192 ∧ x &&& 8191 = nI h := by
  refine ⟨(x.toBitVec &&& 8191#32).toNat, ?_, ?_⟩
  · rw [BitVec.toNat_and]
    exact Nat.lt_of_le_of_lt Nat.and_le_right (by decide)
  · apply Int32.toBitVec_inj.mp
    rw [Int32.toBitVec_and]
    show _ = BitVec.ofNat 32 _
    rw [BitVec.ofNat_toNat]
    simp
theorem nI_m1 {s : Nat} (h : s < 8192) : (nI s + 1) &&& 8191 = nI ((s + 1) % 8192) := by
  rw [nI_1]
  apply Int32.toBitVec_inj.mp
  rw [Int32.toBitVec_and]
  apply BitVec.eq_of_toNat_eq
  rw [BitVec.toNat_and]
  show (BitVec.ofNat 32 (s + 1)).toNat &&& 8191 = (BitVec.ofNat 32 ((s + 1) % 8192)).toNat
  rw [BitVec.toNat_ofNat, BitVec.toNat_ofNat, Nat.and_two_pow_sub_one_eq_mod _ 13]
  omega
/-- a list that has all numbers below N is as long -/
theorem l_cov : ∀ {N : Nat} {l : List Nat}, (∀ i, i < N → i ∈ l) → N ≤ l.length
  | 0, _, _ => Nat.zero_le _
  | N + 1, l, h => by
    have m := h N (by omega)
    have := l_cov (N := N) (l := l.erase N) (fun i hi => (List.mem_erase_of_ne (by omega)).mpr (h i (by omega)))
    rw [List.length_erase_of_mem m] at this
    have : 0 < l.length := List.length_pos_of_mem m
    omega
def qC (C : Nat → Int32) : Bool := decide (C 19 = 0) && decide (C 15 + C 16 + C 17 + C 18 = 0)
def uC (C : Nat → Int32) : Nat := if qC C = true then 20 else 35
def hgo (C : Nat → Int32) : Nat → Nat → Int32 → Int32
  | 0, _, s => s
  | r + 1, k, s => hgo C r (k + 1) (s * 31 + C k)
def hv (C : Nat → Int32) : Int32 := ((((hgo C (uC C) 0 0) * (-1640531535 : Int32))).toUInt32 >>> (((19 : Int32)).toUInt32 &&& Int32.toUInt32 31)).toInt32 &&& (8191 : Int32)
def hS (C : Nat → Int32) : Nat := iN (hv C)
theorem uC_35 (C : Nat → Int32) : uC C ≤ 35 := by unfold uC; split <;> omega
theorem hv_S (C : Nat → Int32) : hv C = nI (hS C) ∧ hS C < 8192 := by
  obtain ⟨h, h1, h2⟩ := nI_m (x := ((((hgo C (uC C) 0 0) * (-1640531535 : Int32))).toUInt32 >>> (((19 : Int32)).toUInt32 &&& Int32.toUInt32 31)).toInt32)
  have e : hv C = nI h := h2
  unfold hS
  rw [e, iN_nI (by omega)]
  exact ⟨rfl, h1⟩
theorem hgo_c {C D : Nat → Int32} : ∀ {r k : Nat} {s : Int32}, (∀ j, k ≤ j → j < k + r → C j = D j) → hgo C r k s = hgo D r k s
  | 0, _, _, _ => rfl
  | r + 1, k, s, h => by
    unfold hgo
    rw [h k (by omega) (by omega), hgo_c (fun j a b => h j (by omega) (by omega))]
theorem uC_c {C D : Nat → Int32} (h : ∀ j, j < 35 → C j = D j) : uC C = uC D := by
  unfold uC qC
  rw [h 19 (by omega), h 15 (by omega), h 16 (by omega), h 17 (by omega), h 18 (by omega)]
theorem hS_c {C D : Nat → Int32} (h : ∀ j, j < 35 → C j = D j) : hS C = hS D := by
  unfold hS hv
  rw [uC_c h, hgo_c (fun j _ b => h j (by have := uC_35 D; omega))]
section MT
variable {pp : Nat} {sc car : jSc} {mr : Nat → Nat} {al : jAl} {P Q C D : Nat → Int32}
theorem c_quiet : xF_234 pp sc mr car al = some (if qC (car (pp + 1)) = true then 1 else 0, sc, mr, car, al) := by
  unfold xF_234 xF_231 qC
  by_cases h : car (pp + 1) 19 = 0
  · rw [if_pos h, ob5, decide_eq_true h, Bool.true_and]
    by_cases h2 : car (pp + 1) 15 + car (pp + 1) 16 + car (pp + 1) 17 + car (pp + 1) 18 = 0
    · rw [if_pos h2, decide_eq_true h2, if_pos rfl]
    · rw [if_neg h2, decide_eq_false h2, if_neg (by decide)]
  · rw [if_neg h, decide_eq_false h, Bool.false_and, if_neg (by decide)]
theorem c_hash {u : Nat} (hu : u ≤ 35) (h5 : sc 774 5 = nI u) : xF_224 pp sc mr car al = some (((((hgo (car (pp + 1)) u 0 0) * (-1640531535 : Int32))).toUInt32 >>> (((19 : Int32)).toUInt32 &&& Int32.toUInt32 31)).toInt32 &&& (8191 : Int32), sc, mr, car, al) := by
  have go : ∀ r k nn s, k + r = u → r < nn → xF_224_4 nn pp s (nI k) sc mr car al = some (((((hgo (car (pp + 1)) r k s) * (-1640531535 : Int32))).toUInt32 >>> (((19 : Int32)).toUInt32 &&& Int32.toUInt32 31)).toInt32 &&& (8191 : Int32), sc, mr, car, al) := by
    intro r
    induction r with
    | zero =>
      intro k nn s h1 h2
      obtain ⟨nn, rfl⟩ : ∃ j, nn = j + 1 := ⟨nn - 1, by omega⟩
      unfold xF_224_4
      rw [h5, if_pos ((nI_leI (by omega) (by omega)).mpr (by omega))]
      rfl
    | succ r ih =>
      intro k nn s h1 h2
      obtain ⟨nn, rfl⟩ : ∃ j, nn = j + 1 := ⟨nn - 1, by omega⟩
      have l : nI u ≤ nI k ↔ u ≤ k := nI_leI (by omega) (by omega)
      unfold xF_224_4
      rw [h5, if_neg (fun z => absurd (l.mp z) (by omega)), if_pos (iB_nI (by omega) (by decide)), nI_1, iN_nI (by omega), ih (k + 1) nn _ (by omega) (by omega)]
      rfl
  exact go u 0 oF 0 (by omega) (by unfold oF; omega)
theorem c_isat {u i : Nat} (hi : i < 2048) (hu : u ≤ 35) (h5 : sc 774 5 = nI u) : xF_223 (nI i) pp sc mr car al = some (if eqg (fun j => car 775 (i * 35 + j)) (car (pp + 1)) u 0 = true then 1 else 0, sc, mr, car, al) := by
  have e35 : nI i * (35 : Int32) = nI (i * 35) := nI_mul i 35
  have go : ∀ r k nn, k + r = u → r < nn → xF_223_8 nn pp (nI (i * 35)) (nI k) sc mr car al = some (if eqg (fun j => car 775 (i * 35 + j)) (car (pp + 1)) r k = true then 1 else 0, sc, mr, car, al) := by
    intro r
    induction r with
    | zero =>
      intro k nn h1 h2
      obtain ⟨nn, rfl⟩ : ∃ j, nn = j + 1 := ⟨nn - 1, by omega⟩
      unfold xF_223_8
      rw [h5, if_pos ((nI_leI (by omega) (by omega)).mpr (by omega))]
      rfl
    | succ r ih =>
      intro k nn h1 h2
      obtain ⟨nn, rfl⟩ : ∃ j, nn = j + 1 := ⟨nn - 1, by omega⟩
      have l : nI u ≤ nI k ↔ u ≤ k := nI_leI (by omega) (by omega)
      unfold xF_223_8
      rw [h5, if_neg (fun z => absurd (l.mp z) (by omega)), nI_add, if_pos (iB_nI (by omega) (by decide)), if_pos (iB_nI (by omega) (by decide)), nI_1, iN_nI (by omega), iN_nI (by omega)]
      unfold eqg
      by_cases z : car 775 (i * 35 + k) = car (pp + 1) k
      · rw [if_pos z, ih (k + 1) nn (by omega) (by omega)]
        simp only [z, decide_true, Bool.true_and]
      · rw [if_neg z]
        simp only [z, decide_false, Bool.false_and]
        rfl
  unfold xF_223
  rw [e35]
  exact go u 0 oF (by omega) (by unfold oF; omega)
/-- a page on which nothing is to come: the rest is 0 -/
theorem qC_0 (h : pgR P C) (q : qC C = true) : C 19 = 0 ∧ (∀ l, l < 4 → C (15 + l) = 0) ∧ ∀ j, 20 ≤ j → j < 35 → C j = 0 := by
  unfold qC at q
  rw [Bool.and_eq_true, decide_eq_true_iff, decide_eq_true_iff] at q
  obtain ⟨q1, q2⟩ := q
  obtain ⟨hD, hK, hC, -, hZ⟩ := h
  have i19 := hD 19 (by decide)
  obtain ⟨k0, a0, b0⟩ := hC.1 0 (by decide)
  obtain ⟨k1, a1, b1⟩ := hC.1 1 (by decide)
  obtain ⟨k2, a2, b2⟩ := hC.1 2 (by decide)
  obtain ⟨k3, a3, b3⟩ := hC.1 3 (by decide)
  have i15 : C 15 = nI k0 := (hD 15 (by decide)).trans b0
  have i16 : C 16 = nI k1 := (hD 16 (by decide)).trans b1
  have i17 : C 17 = nI k2 := (hD 17 (by decide)).trans b2
  have i18 : C 18 = nI k3 := (hD 18 (by decide)).trans b3
  rw [i15, i16, i17, i18, nI_add, nI_add, nI_add] at q2
  have z : k0 + k1 + k2 + k3 = 0 := (nI_eq (by omega) (by omega)).mp q2
  have w : ∀ l, l < 4 → P (10 + l) = 0 := by
    intro l hl
    rcases (show l = 0 ∨ l = 1 ∨ l = 2 ∨ l = 3 by omega) with rfl | rfl | rfl | rfl
    · rw [b0, show k0 = 0 by omega]; rfl
    · rw [b1, show k1 = 0 by omega]; rfl
    · rw [b2, show k2 = 0 by omega]; rfl
    · rw [b3, show k3 = 0 by omega]; rfl
  have t : P 26 = 0 := i19.symm.trans q1
  have n0 : iN (0 : Int32) = 0 := rfl
  refine ⟨q1, fun l hl => ?_, fun j h1 h2 => ?_⟩
  · rcases (show l = 0 ∨ l = 1 ∨ l = 2 ∨ l = 3 by omega) with rfl | rfl | rfl | rfl
    · rw [i15, show k0 = 0 by omega]; rfl
    · rw [i16, show k1 = 0 by omega]; rfl
    · rw [i17, show k2 = 0 by omega]; rfl
    · rw [i18, show k3 = 0 by omega]; rfl
  · by_cases c : j < 32
    · rw [hD j c]
      have a := ix_c j c
      have := hZ.1 ((j - 20) / 3) ((j - 20) % 3) (by omega) (by omega) (by rw [w _ (by omega), n0]; omega)
      rw [show ix j = 14 + 3 * ((j - 20) / 3) + (j - 20) % 3 by omega]
      exact this
    · obtain ⟨d, x, hd, hx, e1, e2, e3⟩ := hK (j - 32) (by omega)
      obtain ⟨y1, y2⟩ := hZ.2 (j - 32) (by omega) (by rw [t, n0]; omega)
      rw [show 32 + (j - 32) = j by omega] at e1
      have d0 : d = 0 := (nI_eq (by omega) (by omega)).mp (e2.symm.trans y1)
      have x0 : x = 0 := (nI_eq (by omega) (by omega)).mp (e3.symm.trans y2)
      rw [e1, d0, x0]
      rfl
/-- comparing what is looked at tells alike pages -/
theorem at_i (h : pgR P C) (k : pgR Q D) : (∀ j, j < uC C → D j = C j) ↔ c38 Q = c38 P := by
  constructor
  · intro e
    have e35 : ∀ j, j < 35 → D j = C j := by
      unfold uC at e
      by_cases q : qC C = true
      · rw [if_pos q] at e
        obtain ⟨q1, q2, q3⟩ := qC_0 h q
        have qd : qC D = true := by
          unfold qC
          rw [e 19 (by omega), e 15 (by omega), e 16 (by omega), e 17 (by omega), e 18 (by omega)]
          exact q
        obtain ⟨r1, r2, r3⟩ := qC_0 k qd
        intro j hj
        by_cases c : j < 20
        · exact e j c
        · rw [q3 j (by omega) hj, r3 j (by omega) hj]
      · rw [if_neg q] at e
        exact e
    exact pgR_det k (pgR_C h e35)
  · intro e j hj
    exact pgR_det2 k h e j (by have := uC_35 C; omega)
/-- the pages L were met, in this order -/
def hM (L : List (Nat → Int32)) (sc car : jSc) : Prop := sc 774 0 = nI L.length ∧ L.length ≤ 2048 ∧ (∀ P ∈ L, c38 P = P) ∧ (∀ i P, L[i]? = some P → ∃ C, pgR P C ∧ ∀ j, j < 35 → car 775 (i * 35 + j) = C j) ∧ (∀ (i j : Nat) (P : Nat → Int32), L[i]? = some P → L[j]? = some P → i = j) ∧ ∃ sl : Nat → Nat, (∀ i, i < L.length → sl i < 8192 ∧ car 777 i = nI (sl i) ∧ car 776 (sl i) = nI (i + 1)) ∧ (∀ s, s < 8192 → car 776 s = 0 ∨ ∃ i, i < L.length ∧ sl i = s) ∧ ∀ i P C, L[i]? = some P → pgR P C → ∃ d, sl i = (hS C + d) % 8192 ∧ ∀ e, e < d → ¬ car 776 ((hS C + e) % 8192) = 0
/-- the place for a page that was not met is found -/
def hNw (L : List (Nat → Int32)) (P C : Nat → Int32) (sc car : jSc) : Prop := (¬ P ∈ L) ∧ ∃ s d, s < 8192 ∧ sc 774 4 = nI s ∧ car 776 s = 0 ∧ s = (hS C + d) % 8192 ∧ ∀ e, e < d → ¬ car 776 ((hS C + e) % 8192) = 0
theorem hM_c {L : List (Nat → Int32)} {sc2 car2 : jSc} (h : hM L sc car) (e : sc2 774 0 = sc 774 0) (e2 : ∀ b, 775 ≤ b → b ≤ 777 → car2 b = car b) : hM L sc2 car2 := by
  unfold hM at *
  rw [e, e2 775 (by omega) (by omega), e2 776 (by omega) (by omega), e2 777 (by omega) (by omega)]
  exact h
def sk (sc sc2 : jSc) : Prop := ∀ a k, ¬ (a = 774 ∧ (k = 4 ∨ k = 5)) → sc2 a k = sc a k
theorem c_seek {L : List (Nat → Int32)} (hL : hM L sc car) (hP : c38 P = P) (hR : pgR P (car (pp + 1))) :
    ∃ sc2, sk sc sc2 ∧ ((∃ i, L[i]? = some P ∧ xF_220 pp sc mr car al = some (nI i, sc2, mr, car, al)) ∨ (xF_220 pp sc mr car al = some (-1, sc2, mr, car, al) ∧ hNw L P (car (pp + 1)) sc2 car)) := by
  obtain ⟨m1, m2, m3, m4, m5, sl, s1, s2, s3⟩ := hL
  generalize hC : car (pp + 1) = C at *
  obtain ⟨v1, v2⟩ := hv_S C
  have u35 := uC_35 C
  have inj : ∀ {i : Nat} {Q : Nat → Int32}, L[i]? = some Q → i < L.length := fun h => (List.getElem?_eq_some_iff.mp h).1
  -- the loop
  have go : ∀ r k nn f, k + r = 8192 → r < nn → f 774 4 = nI ((hS C + k) % 8192) → f 774 5 = nI (uC C) → sk sc f → (∀ e, e < k → ¬ car 776 ((hS C + e) % 8192) = 0) → (∀ i, L[i]? = some P → ∀ e, e < k → sl i ≠ (hS C + e) % 8192) →
      ∃ sc2, sk sc sc2 ∧ ((∃ i, L[i]? = some P ∧ xF_220_29 nn pp (nI k) f mr car al = some (nI i, sc2, mr, car, al)) ∨ (xF_220_29 nn pp (nI k) f mr car al = some (-1, sc2, mr, car, al) ∧ hNw L P C sc2 car)) := by
    intro r
    induction r with
    | zero =>
      intro k nn f h1 h2 h4 h5 hf hz hn
      exfalso
      have cov : ∀ i, i < 8192 → i ∈ (List.range L.length).map sl := by
        intro i hi
        have hh : (hS C + ((i + 8192 - hS C) % 8192)) % 8192 = i := by omega
        have := hz ((i + 8192 - hS C) % 8192) (by omega)
        rw [hh] at this
        rcases s2 i hi with z | ⟨j, j1, j2⟩
        · exact absurd z this
        · exact List.mem_map.mpr ⟨j, List.mem_range.mpr j1, j2⟩
      have := l_cov cov
      rw [List.length_map, List.length_range] at this
      omega
    | succ r ih =>
      intro k nn f h1 h2 h4 h5 hf hz hn
      obtain ⟨nn, rfl⟩ : ∃ j, nn = j + 1 := ⟨nn - 1, by omega⟩
      have l : (8192 : Int32) ≤ nI k ↔ 8192 ≤ k := nI_leI (by decide) (by omega)
      have b : (hS C + k) % 8192 < 8192 := Nat.mod_lt _ (by decide)
      unfold xF_220_29
      rw [if_neg (fun z => absurd (l.mp z) (by omega)), h4, if_pos (iB_nI b (by decide)), iN_nI (by omega)]
      rcases s2 _ b with z | ⟨i, i1, i2⟩
      · rw [z, if_neg (by decide)]
        refine ⟨f, hf, Or.inr ⟨rfl, fun hm => ?_, (hS C + k) % 8192, k, b, h4, z, rfl, hz⟩⟩
        obtain ⟨i, hi⟩ := List.getElem?_of_mem hm
        obtain ⟨d, d1, d2⟩ := s3 i P C hi hR
        have il := inj hi
        by_cases c : d < k
        · exact hn i hi d c d1
        · by_cases c2 : d = k
          · subst c2
            have := (s1 i il).2.2
            rw [d1, z] at this
            exact absurd ((nI_eq (a := 0) (b := i + 1) (by decide) (by omega)).mp this) (by omega)
          · exact d2 k (by omega) z
      · obtain ⟨t1, t2, t3⟩ := s1 i i1
        rw [i2] at t3
        have e1 : nI (i + 1) - (1 : Int32) = nI i := by rw [nI_p1 (by omega)]; rfl
        obtain ⟨Q, hQ⟩ : ∃ Q, L[i]? = some Q := ⟨L[i], List.getElem?_eq_getElem i1⟩
        obtain ⟨D, hD, eD⟩ := m4 i Q hQ
        have p0 : (0 : Int32) ≤ nI i := (nI_leI (a := 0) (b := i) (by decide) (by omega)).mpr (Nat.zero_le _)
        rw [t3, e1, if_pos p0, c_isat (by omega) u35 h5, ob5, hC]
        have ei : eqg (fun j => car 775 (i * 35 + j)) C (uC C) 0 = true ↔ Q = P := by
          rw [eqg_i]
          have a := at_i hR hD
          rw [m3 Q (List.mem_of_getElem? hQ), hP] at a
          rw [← a]
          exact ⟨fun h j hj => by rw [← eD j (by omega)]; exact h j (by omega) (by omega), fun h j _ hj => by show car 775 (i * 35 + j) = C j; rw [eD j (by omega)]; exact h j (by omega)⟩
        by_cases y : Q = P
        · rw [if_pos (ei.mpr y), if_neg (by decide)]
          subst y
          exact ⟨f, hf, Or.inl ⟨i, hQ, rfl⟩⟩
        · rw [if_neg (fun w => y (ei.mp w)), if_pos rfl, h4, nI_1, nI_m1 b]
          have em : ((hS C + k) % 8192 + 1) % 8192 = (hS C + (k + 1)) % 8192 := by omega
          rw [em]
          refine ih (k + 1) nn _ (by omega) (by omega) u2_eq ((u2_nk (by decide)).trans h5) (fun a j w => (if_neg (fun c => w ⟨c.1, Or.inl c.2⟩)).trans (hf a j w)) (fun e he => ?_) (fun i' hi' e he => ?_)
          · by_cases c : e = k
            · subst c
              rw [t3]
              exact fun w => absurd ((nI_eq (a := i + 1) (b := 0) (by omega) (by decide)).mp w) (by omega)
            · exact hz e (by omega)
          · by_cases c : e = k
            · subst c
              intro w
              have := (s1 i' (inj hi')).2.2
              rw [w, t3] at this
              have : i + 1 = i' + 1 := (nI_eq (by omega) (by have := inj hi'; omega)).mp this
              have : i = i' := by omega
              subst this
              rw [hQ] at hi'
              exact y (Option.some.inj hi')
            · exact hn i' hi' e (by omega)
  unfold xF_220
  rw [c_quiet, ob5, hC]
  have fin : ∀ u : Nat, uC C = u → ∃ sc2, sk sc sc2 ∧ ((∃ i, L[i]? = some P ∧ (o_b5 (xF_224 pp (j_u2 sc 774 5 (nI u)) mr car al) (fun ve8 sce8 mre8 are8 ale8 => xF_220_29 oF pp (0 : Int32) (j_u2 sce8 774 4 ve8) mre8 are8 ale8)) = some (nI i, sc2, mr, car, al)) ∨ ((o_b5 (xF_224 pp (j_u2 sc 774 5 (nI u)) mr car al) (fun ve8 sce8 mre8 are8 ale8 => xF_220_29 oF pp (0 : Int32) (j_u2 sce8 774 4 ve8) mre8 are8 ale8)) = some (-1, sc2, mr, car, al) ∧ hNw L P C sc2 car)) := by
    intro u hu
    rw [c_hash (u := u) (by omega) u2_eq, ob5, hC]
    have ev : (((((hgo C u 0 0) * (-1640531535 : Int32))).toUInt32 >>> (((19 : Int32)).toUInt32 &&& Int32.toUInt32 31)).toInt32 &&& (8191 : Int32)) = nI (hS C) := by rw [← hu]; exact v1
    rw [ev]
    exact go 8192 0 oF _ (by omega) (by unfold oF; omega) (by rw [u2_eq, Nat.add_zero, Nat.mod_eq_of_lt v2]) (by rw [u2_nk (by decide), u2_eq, hu]) (fun a j w => (if_neg (fun c => w ⟨c.1, Or.inl c.2⟩)).trans (if_neg (fun c => w ⟨c.1, Or.inr c.2⟩))) (fun e he => absurd he (by omega)) (fun _ _ e he => absurd he (by omega))
  by_cases q : qC C = true
  · rw [if_pos q, if_neg (by decide)]
    exact fin 20 (by unfold uC; rw [if_pos q])
  · rw [if_neg q, if_pos rfl]
    exact fin 35 (by unfold uC; rw [if_neg q])
/-- a page is added -/
theorem c_add {L : List (Nat → Int32)} (hL : hM L sc car) (hP : c38 P = P) (hR : pgR P (car (pp + 1))) (hpp : 777 < pp + 1) (hn : hNw L P (car (pp + 1)) sc car) (h2 : L.length < 2048) :
    ∃ car2, xF_221 pp sc mr car al = some (nI L.length, j_u2 sc 774 0 (nI (L.length + 1)), mr, car2, al) ∧ hM (L ++ [P]) (j_u2 sc 774 0 (nI (L.length + 1))) car2 ∧ ∀ b, ¬ (775 ≤ b ∧ b ≤ 777) → car2 b = car b := by
  obtain ⟨m1, m2, m3, m4, m5, sl, s1, s2, s3⟩ := hL
  obtain ⟨n1, s, d, n2, n3, n4, n5, n6⟩ := hn
  have l : (2048 : Int32) ≤ nI L.length ↔ 2048 ≤ L.length := nI_leI (by decide) (by omega)
  have e35 : nI L.length * (35 : Int32) = nI (L.length * 35) := nI_mul _ 35
  have xc : xcp (0 : Int32) (nI (L.length * 35)) (35 : Int32) 50 71680 := xcp_n (a := 0) (b := L.length * 35) (c := 35) (by decide) (by omega) (by decide) (by decide)
  have e1 : nI (L.length + 1) - (1 : Int32) = nI L.length := by rw [nI_p1 (by omega)]; rfl
  have i0 : iN (0 : Int32) = 0 := rfl
  have i35 : iN (35 : Int32) = 35 := rfl
  unfold xF_221
  rw [m1, if_neg (fun z => absurd (l.mp z) (by omega)), n3, if_pos (iB_nI n2 (by decide)), iN_nI (by omega), if_pos n4, e35, if_pos xc, if_pos (iB_nI h2 (by decide)), if_pos (iB_nI n2 (by decide)), nI_1, e1, iN_nI (by omega), iN_nI (by omega), i0, i35]
  generalize hA : j_u2 (j_u2 (va_up car 775 (va_cpy (car (pp + 1)) (car 775) 0 (L.length * 35) 35)) 777 L.length (nI s)) 776 s (nI (L.length + 1)) = A
  have a5 : A 775 = va_cpy (car (pp + 1)) (car 775) 0 (L.length * 35) 35 := by rw [← hA, j_u2_row _ _ _ _ (by decide), j_u2_row _ _ _ _ (by decide), va_up_self]
  have a7 : ∀ i, A 777 i = if i = L.length then nI s else car 777 i := fun i => by
    rw [← hA, j_u2_row _ _ _ _ (by decide)]
    by_cases c : i = L.length
    · rw [if_pos c, c, u2_eq]
    · rw [if_neg c, u2_nk c, va_up_ne _ _ (by decide)]
  have a6 : ∀ i, A 776 i = if i = s then nI (L.length + 1) else car 776 i := fun i => by
    rw [← hA]
    by_cases c : i = s
    · rw [if_pos c, c, u2_eq]
    · rw [if_neg c, u2_nk c, j_u2_row _ _ _ _ (by decide), va_up_ne _ _ (by decide)]
  have nz : ¬ nI (L.length + 1) = (0 : Int32) := fun z => absurd ((nI_eq (a := L.length + 1) (b := 0) (by omega) (by decide)).mp z) (by omega)
  have a6n : ∀ i, ¬ car 776 i = 0 → ¬ A 776 i = 0 := fun i h => by
    rw [a6 i]
    split
    · exact nz
    · exact h
  have sne : ∀ i, i < L.length → sl i ≠ s := fun i hi c => by
    have := (s1 i hi).2.2
    rw [c, n4] at this
    exact absurd ((nI_eq (a := 0) (b := i + 1) (by decide) (by omega)).mp this) (by omega)
  have get : ∀ {i : Nat} {Q : Nat → Int32}, (L ++ [P])[i]? = some Q → (i < L.length ∧ L[i]? = some Q) ∨ (i = L.length ∧ Q = P) := by
    intro i Q h
    by_cases c : i < L.length
    · rw [List.getElem?_append_left c] at h; exact Or.inl ⟨c, h⟩
    · rw [List.getElem?_append_right (by omega)] at h
      by_cases c2 : i = L.length
      · subst c2; simp at h; exact Or.inr ⟨rfl, h.symm⟩
      · rw [List.getElem?_eq_none (by simp; omega)] at h; cases h
  obtain ⟨sl2, hsl⟩ : ∃ f : Nat → Nat, ∀ i, f i = if i = L.length then s else sl i := ⟨_, fun _ => rfl⟩
  refine ⟨A, rfl, ⟨?_, ?_, ?_, ?_, ?_, sl2, ?_, ?_, ?_⟩, ?_⟩
  · rw [u2_eq, List.length_append]; rfl
  · rw [List.length_append]; simp; omega
  · intro Q hQ
    rcases List.mem_append.mp hQ with h | h
    · exact m3 Q h
    · rw [List.mem_singleton.mp h]; exact hP
  · intro i Q hQ
    rcases get hQ with ⟨c, h⟩ | ⟨rfl, rfl⟩
    · obtain ⟨C, c1, c2⟩ := m4 i Q h
      exact ⟨C, c1, fun j hj => by rw [a5, cpy_out (by omega)]; exact c2 j hj⟩
    · exact ⟨_, hR, fun j hj => by rw [a5, cpy_in (by omega) (by omega)]; congr 1; omega⟩
  · intro i j Q h1 h2'
    rcases get h1 with ⟨c, h⟩ | ⟨rfl, rfl⟩
    · rcases get h2' with ⟨c', h'⟩ | ⟨rfl, rfl⟩
      · exact m5 i j Q h h'
      · exact absurd (List.mem_of_getElem? h) n1
    · rcases get h2' with ⟨c', h'⟩ | ⟨h', _⟩
      · exact absurd (List.mem_of_getElem? h') n1
      · exact h'.symm
  · intro i hi
    rw [List.length_append] at hi
    simp only [List.length_cons, List.length_nil] at hi
    by_cases c : i = L.length
    · rw [hsl, if_pos c, a7, if_pos c, a6, if_pos rfl, c]
      exact ⟨n2, rfl, rfl⟩
    · obtain ⟨t1, t2, t3⟩ := s1 i (by omega)
      rw [hsl, if_neg c, a7, if_neg c, a6, if_neg (sne i (by omega))]
      exact ⟨t1, t2, t3⟩
  · intro x hx
    rw [a6 x]
    by_cases c : x = s
    · exact Or.inr ⟨L.length, by simp, by rw [hsl, if_pos rfl, c]⟩
    · rw [if_neg c]
      rcases s2 x hx with z | ⟨i, i1, i2⟩
      · exact Or.inl z
      · exact Or.inr ⟨i, by simp; omega, by rw [hsl, if_neg (by omega)]; exact i2⟩
  · intro i Q D h1 hD
    rcases get h1 with ⟨c, h⟩ | ⟨rfl, rfl⟩
    · obtain ⟨d', d1, d2⟩ := s3 i Q D h hD
      exact ⟨d', by rw [hsl, if_neg (by omega)]; exact d1, fun e he => a6n _ (d2 e he)⟩
    · have hh : hS D = hS (car (pp + 1)) := hS_c (pgR_det2 hD hR rfl)
      rw [hh]
      exact ⟨d, by rw [hsl, if_pos rfl]; exact n5, fun e he => a6n _ (n6 e he)⟩
  · intro b hb
    rw [← hA, j_u2_row _ _ _ _ (by omega), j_u2_row _ _ _ _ (by omega), va_up_ne _ _ (by omega)]
theorem c_full {L : List (Nat → Int32)} (hL : hM L sc car) (h2 : L.length = 2048) : xF_221 pp sc mr car al = some (-1, sc, mr, car, al) := by
  unfold xF_221
  rw [hL.1, h2, if_pos (by decide)]
/-- a page that was met, taken -/
theorem c_copy {L : List (Nat → Int32)} {i : Nat} (hL : hM L sc car) (hi : L[i]? = some P) : ∃ car2, xF_222 (nI i) pp sc mr car al = some (sc, mr, car2, al) ∧ pgR P (car2 (pp + 1)) ∧ ∀ b, b ≠ pp + 1 → car2 b = car b := by
  have il : i < L.length := (List.getElem?_eq_some_iff.mp hi).1
  have l2 := hL.2.1
  have l : nI L.length ≤ nI i ↔ L.length ≤ i := nI_leI (by omega) (by omega)
  have e35 : nI i * (35 : Int32) = nI (i * 35) := nI_mul _ 35
  have xc : xcp (nI (i * 35)) (0 : Int32) (35 : Int32) 71680 50 := xcp_n (a := i * 35) (b := 0) (c := 35) (by omega) (by decide) (by decide) (by decide)
  have i0 : iN (0 : Int32) = 0 := rfl
  have i35 : iN (35 : Int32) = 35 := rfl
  obtain ⟨C, c1, c2⟩ := hL.2.2.2.1 i P hi
  refine ⟨va_up car (pp + 1) (va_cpy (car 775) (car (pp + 1)) (i * 35) 0 35), ?_, ?_, fun b hb => va_up_ne _ _ hb⟩
  · unfold xF_222
    rw [if_neg (nI_pos (by omega)), hL.1, if_neg (fun z => absurd (l.mp z) (by omega)), e35, if_pos xc, iN_nI (by omega), i0, i35]
  · rw [va_up_self]
    exact pgR_C c1 (fun k hk => by rw [cpy_in (by omega) (by omega)]; exact c2 k hk)
/-- all are forgotten -/
theorem c_empty {L : List (Nat → Int32)} (hL : hM L sc car) : ∃ car2, xF_219 sc mr car al = some (j_u2 sc 774 0 0, mr, car2, al) ∧ (∀ s, s < 8192 → car2 776 s = 0) ∧ ∀ b, b ≠ 776 → car2 b = car b := by
  obtain ⟨m1, m2, m3, m4, m5, sl, s1, s2, s3⟩ := hL
  have go : ∀ r k nn car2, k + r = L.length → r < nn → (∀ b, b ≠ 776 → car2 b = car b) → (∀ s, s < 8192 → car2 776 s = 0 ∨ ∃ i, k ≤ i ∧ i < L.length ∧ sl i = s) → ∃ car3, xF_219_2 nn (nI k) sc mr car2 al = some (j_u2 sc 774 0 0, mr, car3, al) ∧ (∀ s, s < 8192 → car3 776 s = 0) ∧ ∀ b, b ≠ 776 → car3 b = car b := by
    intro r
    induction r with
    | zero =>
      intro k nn car2 h1 h2 h3 h4
      obtain ⟨nn, rfl⟩ : ∃ j, nn = j + 1 := ⟨nn - 1, by omega⟩
      refine ⟨car2, ?_, fun s hs => ?_, h3⟩
      · unfold xF_219_2
        rw [m1, if_pos ((nI_leI (by omega) (by omega)).mpr (by omega))]
      · rcases h4 s hs with z | ⟨i, i1, i2, -⟩
        · exact z
        · omega
    | succ r ih =>
      intro k nn car2 h1 h2 h3 h4
      obtain ⟨nn, rfl⟩ : ∃ j, nn = j + 1 := ⟨nn - 1, by omega⟩
      have l : nI L.length ≤ nI k ↔ L.length ≤ k := nI_leI (by omega) (by omega)
      obtain ⟨t1, t2, t3⟩ := s1 k (by omega)
      unfold xF_219_2
      rw [m1, if_neg (fun z => absurd (l.mp z) (by omega)), if_pos (iB_nI (by omega) (by decide)), iN_nI (by omega), h3 777 (by decide), t2, if_pos (iB_nI t1 (by decide)), nI_1, iN_nI (by omega)]
      refine ih (k + 1) nn _ (by omega) (by omega) (fun b hb => (j_u2_row _ _ _ _ hb).trans (h3 b hb)) (fun s hs => ?_)
      by_cases c : s = sl k
      · exact Or.inl (by rw [c, u2_eq])
      · rw [u2_nk c]
        rcases h4 s hs with z | ⟨i, i1, i2, i3⟩
        · exact Or.inl z
        · exact Or.inr ⟨i, by
            by_cases d : i = k
            · subst d; exact absurd i3.symm c
            · omega, i2, i3⟩
  exact go L.length 0 oF car (by omega) (by unfold oF; omega) (fun _ _ => rfl) (fun s hs => by
    rcases s2 s hs with z | ⟨i, i1, i2⟩
    · exact Or.inl z
    · exact Or.inr ⟨i, Nat.zero_le _, i1, i2⟩)
theorem hM_0 (h : sc 774 0 = 0) (h2 : ∀ s, s < 8192 → car 776 s = 0) : hM [] sc car := ⟨h, by simp, by simp, by simp, by simp, fun _ => 0, by simp, fun s hs => Or.inl (h2 s hs), by simp⟩
end MT
