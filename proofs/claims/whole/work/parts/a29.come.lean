/-! THE RUN on both sides: it begins, a happening comes. -/
theorem pgA_P {P Q C : Nat → Int32} (h : pgA P C) (e : ∀ k, k < 53 → Q k = P k) : pgA Q C := by
  refine ⟨fun l k hl hk hw => ?_, fun k hk hw => ?_⟩
  · rw [e _ (by omega)] at hw ⊢
    exact h.1 l k hl hk hw
  · rw [e _ (by omega)] at hw ⊢
    exact h.2 k hk hw
/-- what a run's begin or happening leaves -/
def vR (S : Nat → Int32) (ar : jSc) (S9 : Nat → Int32) (ar9 : jSc) : Prop := (∀ k, (k < 3 ∨ (8 ≤ k ∧ k ≤ 16) ∨ (18 ≤ k ∧ k ≤ 21) ∨ 29 ≤ k) → k ≠ 31 → S9 k = S k) ∧ ∀ b, ¬ (13 ≤ b ∧ b ≤ 60) → ar9 b = ar b
def uR (sc car sc2 car2 : jSc) (al al2 : jAl) : Prop := (∀ a k, ¬ (a = 757 ∧ 3 ≤ k ∧ k ≤ 9) → ¬ (a = 759 ∧ (k = 5 ∨ k = 14)) → sc2 a k = sc a k) ∧ (∀ b, b ≠ 758 → ¬ (761 ≤ b ∧ b ≤ 765) → b ≠ 769 → b ≠ 770 → car2 b = car b) ∧ sc2 757 5 = 0 ∧ sc2 759 14 = 0 ∧ ∀ a, a ≠ 768 → al2 a = al a
/-- what was written are bits below 24 -/
def tB (n : Nat) (ar : jSc) : Prop := ∀ i, i < n → lo24 (ar 18 i)
section RN
variable {S0 : Nat → Int32} {ar0 : jSc} {S : Nat → Int32} {ar : jSc} {sc car : jSc} {mr : Nat → Nat} {al : jAl} {pr n p m : Nat} {tx : Nat → Int32} {g : pG}
/-- ten cells of the run's page are kept as a state -/
theorem c_shown {k : Nat} (hk : k ≤ 40) (h5 : sc 759 5 = nI k) : ∃ car2, xF_310 sc mr car al = some (sc, mr, car2, al) ∧ (∀ j, car2 769 j = if j = k then car 761 8 &&& (car 761 9 ^^^ (-1 : Int32)) else car 769 j) ∧ (∀ j, car2 770 j = if k * 10 ≤ j ∧ j < k * 10 + 10 then car 761 (j - k * 10) else car 770 j) ∧ ∀ b, b ≠ 769 → b ≠ 770 → car2 b = car b := by
  have e10 : nI k * (10 : Int32) = nI (k * 10) := nI_mul k 10
  have xc : xcp (0 : Int32) (nI (k * 10)) (10 : Int32) 50 410 := xcp_n (a := 0) (b := k * 10) (c := 10) (by decide) (by omega) (by decide) (by decide)
  have i0 : iN (0 : Int32) = 0 := rfl
  have i10 : iN (10 : Int32) = 10 := rfl
  unfold xF_310 xF_229
  rw [ob5, h5, if_pos (iB_nI (show k < 41 by omega) (by decide)), e10, if_pos xc, iN_nI (by omega), iN_nI (by omega), i0, i10]
  refine ⟨_, rfl, fun j => ?_, fun j => ?_, fun b h1 h2 => ?_⟩
  · rw [va_up_ne _ _ (by decide)]
    by_cases c : j = k
    · rw [if_pos c, c, u2_eq]
    · rw [if_neg c, u2_nk c]
  · rw [va_up_self, j_u2_row _ _ _ _ (show 761 ≠ 769 by decide), j_u2_row _ _ _ _ (show 770 ≠ 769 by decide)]
    by_cases c : k * 10 ≤ j ∧ j < k * 10 + 10
    · rw [if_pos c, cpy_in c.1 c.2, Nat.zero_add]
    · rw [if_neg c, cpy_out (by omega)]
  · rw [va_up_ne _ _ h2, j_u2_row _ _ _ _ h1]
theorem r_st0 (S : Nat → Int32) (ar : jSc) : ∃ ar9, rF_58_24 oF (0 : Int32) S ar = some (S, ar9) ∧ (∀ k, k < 10 → ar9 20 k = ar 14 k) ∧ ∀ b, b ≠ 20 → ar9 b = ar b := by
  have go : ∀ r k nn a, k + r = 10 → r < nn → (∀ b, b ≠ 20 → a b = ar b) → (∀ j, j < k → a 20 j = ar 14 j) → ∃ ar9, rF_58_24 nn (nI k) S a = some (S, ar9) ∧ (∀ k, k < 10 → ar9 20 k = ar 14 k) ∧ ∀ b, b ≠ 20 → ar9 b = ar b := by
    intro r
    induction r with
    | zero =>
      intro k nn a h1 h2 h3 h4
      obtain ⟨nn, rfl⟩ : ∃ j, nn = j + 1 := ⟨nn - 1, by omega⟩
      unfold rF_58_24
      rw [if_pos (show (10 : Int32) ≤ nI k from nI_le (a := 10) (by omega) (by omega))]
      exact ⟨a, rfl, fun j hj => h4 j (by omega), h3⟩
    | succ r ih =>
      intro k nn a h1 h2 h3 h4
      obtain ⟨nn, rfl⟩ : ∃ j, nn = j + 1 := ⟨nn - 1, by omega⟩
      unfold rF_58_24
      rw [if_neg (show ¬ (10 : Int32) ≤ nI k from nI_ge (b := 10) (by omega) (by decide)), if_pos (iB_nI (show k < 53 by omega) (by decide)), if_pos (iB_nI (show k < 10 by omega) (by decide)), iN_nI (by omega), nI_1]
      refine ih (k + 1) nn _ (by omega) (by omega) (fun b hb => (j_u2_row _ _ _ _ hb).trans (h3 b hb)) (fun j hj => ?_)
      by_cases c : j = k
      · subst c; rw [u2_eq, h3 14 (by decide)]
      · rw [u2_nk c]; exact h4 j (by omega)
  exact go 10 0 oF ar (by omega) (by unfold oF; omega) (fun _ _ => rfl) (fun j hj => absurd hj (by omega))
theorem r_st1 {q : Nat} (hq : q ≤ 40) (S : Nat → Int32) (ar : jSc) (h31 : S 31 = nI q) : ∃ ar9, rF_61_144 oF (0 : Int32) S ar = some (S 31 - 1, S, ar9) ∧ (∀ k, k < 10 → ar9 (20 + q) k = ar 14 k) ∧ ∀ b, b ≠ 20 + q → ar9 b = ar b := by
  have go : ∀ r k nn a, k + r = 10 → r < nn → (∀ b, b ≠ 20 + q → a b = ar b) → (∀ j, j < k → a (20 + q) j = ar 14 j) → ∃ ar9, rF_61_144 nn (nI k) S a = some (S 31 - 1, S, ar9) ∧ (∀ k, k < 10 → ar9 (20 + q) k = ar 14 k) ∧ ∀ b, b ≠ 20 + q → ar9 b = ar b := by
    intro r
    induction r with
    | zero =>
      intro k nn a h1 h2 h3 h4
      obtain ⟨nn, rfl⟩ : ∃ j, nn = j + 1 := ⟨nn - 1, by omega⟩
      unfold rF_61_144
      rw [if_pos (show (10 : Int32) ≤ nI k from nI_le (a := 10) (by omega) (by omega))]
      exact ⟨a, rfl, fun j hj => h4 j (by omega), h3⟩
    | succ r ih =>
      intro k nn a h1 h2 h3 h4
      obtain ⟨nn, rfl⟩ : ∃ j, nn = j + 1 := ⟨nn - 1, by omega⟩
      unfold rF_61_144
      rw [if_neg (show ¬ (10 : Int32) ≤ nI k from nI_ge (b := 10) (by omega) (by decide)), h31, if_pos (iB_nI (show q < 41 by omega) (by decide)), if_pos (iB_nI (show k < 53 by omega) (by decide)), if_pos (iB_nI (show k < 10 by omega) (by decide)), iN_nI (show k < 2 ^ 31 by omega), iN_nI (show q < 2 ^ 31 by omega), nI_1]
      rw [← h31]
      refine ih (k + 1) nn _ (by omega) (by omega) (fun b hb => (j_u2_row _ _ _ _ hb).trans (h3 b hb)) (fun j hj => ?_)
      by_cases c : j = k
      · subst c; rw [u2_eq, h3 14 (by omega)]
      · rw [u2_nk c]; exact h4 j (by omega)
  exact go 10 0 oF ar (by omega) (by unfold oF; omega) (fun _ _ => rfl) (fun j hj => absurd hj (by omega))
/-- a run begins -/
theorem h_run0 (hs : sR pr n tx g p m S ar sc car mr) (h16 : S 16 = 0) (h29 : S 29 = -1) (h5 : sc 757 5 = 0) :
    ∃ S9 ar9 sc9 car9, rF_58 S ar = some (S9, ar9) ∧ xF_298 sc mr car al = some (sc9, mr, car9, al) ∧ tK 0 S9 ar9 sc9 car9 al ∧ vR S ar S9 ar9 ∧ uR sc car sc9 car9 al al := by
  have u16 : upd S 16 0 = S := up_16 h16
  have hs1 : sR pr n tx g p m (upd S 31 0) ar sc car mr := sR_st hs ⟨up_n (by decide), up_n (by decide), up_n (by decide)⟩ (stA_rf ar)
  obtain ⟨S1, ar1, sc1, car1, e1, e2, R1, A1, f29, f5, f57, F1, G1, F2, N1⟩ := h_beg (al := al) (pp := 760) hs1 (by decide) h5
  have F2 : rF7 (upd S 31 0) S1 := by
    have : upd (upd S 31 0) 29 (-1) = upd S 31 0 := by
      funext k
      by_cases z : k = 29
      · subst z; rw [up_0, up_n (by decide)]; exact h29.symm
      · rw [up_n z]
    rw [this] at F2
    exact F2
  unfold rF_58 xF_298
  rw [u16, e1, ob2, r_keep (by decide) (by decide), ob2, e2, ob4]
  obtain ⟨ar3, s1, s2, s3⟩ := r_st0 S1 (va_up ar1 14 (fun k => if k < 53 then ar1 13 k else ar1 14 k))
  obtain ⟨car3, t1, t2, t3, t4⟩ := c_shown (k := 0) (sc := j_u2 sc1 759 5 0) (car := car1) (mr := mr) (al := al) (by omega) u2_eq
  rw [s1, t1, ob4]
  have r14 : ∀ k, k < 53 → ar3 14 k = ar1 13 k := fun k hk => by rw [s3 14 (by decide), va_up_self, if_pos hk]
  have c761 : car3 761 = car1 761 := t4 761 (by decide) (by decide)
  have R3 : pgR (ar3 14) (car3 761) := by rw [c761]; exact pgR_P R1 (fun k hk => r14 k (by omega))
  have A3 : pgA (ar3 14) (car3 761) := by rw [c761]; exact pgA_P A1 r14
  have low : ∀ k, k < 10 → car1 761 k = ar3 20 k := fun k hk => by
    rw [s2 k hk, va_up_self, if_pos (by omega)]
    have a := ix_c k (by omega)
    rw [R1.1 k (by omega), show ix k = k by omega]
  refine ⟨S1, ar3, _, car3, rfl, rfl, ⟨Nat.zero_le _, (F2 31 (by decide)).trans up_0, (u2_nk (by decide)).trans u2_eq, R3, A3, fun i hi => absurd hi (by omega), fun s hs => ?_, fun j hj => absurd hj (by omega)⟩, ⟨fun k hk h31 => ?_, fun b hb => ?_⟩, ⟨fun a k h1 h2 => ?_, fun b h1 h2 h3 h4 => ?_, ?_, u2_eq, fun _ _ => rfl⟩⟩
  · have s0 : s = 0 := by omega
    subst s0
    refine ⟨fun k hk => ?_, ?_⟩
    · rw [t3, if_pos (by omega), show 0 * 10 + k - 0 * 10 = k by omega]
      exact low k hk
    · rw [t2, if_pos rfl, low 8 (by omega), low 9 (by omega)]
  · by_cases z : k = 57
    · subst z; exact f57.trans (up_n (by decide))
    · rw [F2 k (by omega), up_n h31]
  · rw [s3 b (by omega), va_up_ne _ _ (by omega), N1 b (by omega)]
  · rw [show j_u2 (j_u2 sc1 759 5 0) 759 14 0 a k = sc1 a k from (if_neg (fun z => h2 ⟨z.1, Or.inr z.2⟩)).trans (if_neg (fun z => h2 ⟨z.1, Or.inl z.2⟩))]
    exact F1 a k h1
  · rw [t4 b h3 h4, G1 b h1 (by omega)]
  · rw [u2_na (by decide), u2_na (by decide)]; exact f5
/-- a happening comes to the run -/
theorem h_come {k c : Nat} (hE : cE pr n tx g p m S0 ar0 sc car mr) (hS : stS S0 S) (hA : stA ar0 ar) (h16 : S0 16 = 0) (h0 : S 0 = 0) (hT : tK k S ar sc car al) (hk : k < 40) (hc : c < 13) (hcan : aCan ar0 m (c38 (ar 14)) c = true) :
    ∃ S9 ar9 sc9 car9 al9, rF_61_21 (nI c) 0 S ar = some (nI k, S9, ar9) ∧ xF_299 (nI c) sc mr car al = some (nI k, sc9, mr, car9, al9) ∧ tK (k + 1) S9 ar9 sc9 car9 al9 ∧ (tB k ar → tB (k + 1) ar9) ∧ vR S ar S9 ar9 ∧ uR sc car sc9 car9 al al9 := by
  obtain ⟨k1, k2, k3, k4, k5, k6, k7, k8⟩ := hT
  have S16 : S 16 = 0 := hS.1.trans h16
  have S29 : S 29 = -1 := hS.2.2.trans hE.2.1
  -- the reference
  have r1 : rN ar (va_up ar 13 (fun j => if j < 53 then ar 14 j else ar 13 j)) := fun b hb => va_up_ne _ _ hb
  generalize hA1 : va_up ar 13 (fun j => if j < 53 then ar 14 j else ar 13 j) = ar1 at r1
  have p1 : ∀ j, j < 53 → ar1 13 j = ar 14 j := fun j hj => by rw [← hA1, va_up_self, if_pos hj]
  have W1 : rW S0 ar0 S ar1 (c38 (ar 14)) := ⟨hS, stA_tr hA (stA_13 r1), c38_e (fun j hj => p1 j (by omega)), ⟨_, pgR_38 k4⟩⟩
  have s1 : sR pr n tx g p m S ar1 sc (j_u2 car 762 k (nI c)) mr := sR_lo (sR_st hE.1 hS W1.2.1) (fun _ _ => rfl) (fun b hb => j_u2_row _ _ _ _ (by omega))
  have q761 : (j_u2 car 762 k (nI c)) (760 + 1) = car 761 := j_u2_row _ _ _ _ (by decide)
  have R1 : pgR (ar1 13) ((j_u2 car 762 k (nI c)) (760 + 1)) := by rw [q761]; exact pgR_P k4 (fun j hj => p1 j (by omega))
  have A1 : pgA (ar1 13) ((j_u2 car 762 k (nI c)) (760 + 1)) := by rw [q761]; exact pgA_P k5 p1
  have hw : hWn (fun _ => false) (S 57) S ar1 (j_u2 sc 757 4 0) := Or.inl ⟨S29, (u2_nk (by decide)).trans hE.2.2, rfl⟩
  obtain ⟨q1, q2⟩ := aCan_89 hcan
  have e38 : ∀ j, j < 38 → ar1 13 j = c38 (ar 14) j := fun j hj => by rw [c38_k hj]; exact p1 j (by omega)
  obtain ⟨v, v2, S2, ar2, sc2, car2, e1, e2, e3, ⟨R2, A2, b27, b28, -, -, -⟩, hw2, F2, G2, Q2, N2⟩ := h_hap (cb := true) (x := nI k) (al := al) (pp := 760) s1 (by decide) hc R1 (fun _ => A1) hw (fun e => by rw [e38 26 (by decide)]; exact q1 e) (fun e => by rw [e38 _ (by omega)]; exact q2 e)
  obtain ⟨v4, S4, ar4', l1, l2⟩ := r_hap24 (x := nI k) s1.1 s1.2.2.1 s1.2.2.2.2.1 s1.2.2.2.2.2.1 s1.2.2.2.2.2.2.1 S29 hc R1 (fun e => by rw [e38 26 (by decide)]; exact q1 e) (fun e => by rw [e38 _ (by omega)]; exact q2 e)
  have l3 : lo24 (S2 28) := by
    rw [e1] at l1
    cases l1
    exact l2
  have e3 := e3 rfl
  subst e3
  have A2 := A2 rfl
  have b27 : S2 27 = sc2 757 3 := b27.trans (Int32.zero_or ..)
  have b28 : S2 28 = sc2 757 4 := b28.trans (Int32.zero_or ..)
  have N2 := N2.2 S29
  have z57 : S2 57 = S 57 ∧ sc2 757 5 = 0 := by
    rcases hw2 with ⟨-, a, b⟩ | ⟨w, w1, w2, -⟩
    · exact ⟨b, a⟩
    · rw [Q2 29 (by decide), S29] at w2
      exact absurd w2.symm (nI_nm (by omega))
  have z31 : S2 31 = nI k := (Q2 31 (by decide)).trans k2
  have u2 : upd (upd S 16 0) 29 (-1) = S := by
    rw [up_16 S16]
    funext j
    by_cases z : j = 29
    · subst z; rw [up_0]; exact S29.symm
    · rw [up_n z]
  have ik : iB (nI k) 40 := iB_nI hk (by decide)
  have R3 : rF_3 (0 : Int32) (1 : Int32) S ar = some (0, S, ar) := by
    unfold rF_3
    rw [if_pos rfl, if_pos h0]
  unfold rF_61_21
  rw [R3, ob3, if_pos rfl, r_load (by decide) (by decide), ob2, hA1, rW_can hE W1 hc, ob3, if_pos hcan, if_neg (by decide), k2, if_neg (show ¬ nI k = (40 : Int32) from fun z => absurd ((nI_eq (a := k) (b := 40) (by omega) (by decide)).mp z) (by omega)), u2, e1, ob3, if_pos ik, z31, if_pos ik, if_pos ik, if_pos ik, iN_nI (by omega)]
  generalize hA3 : j_u2 (j_u2 (j_u2 (j_u2 ar2 16 k v2) 15 k (nI c)) 17 k (S2 27)) 18 k (S2 28) = ar3
  have o3 : ∀ b, b ≠ 15 → b ≠ 16 → b ≠ 17 → b ≠ 18 → ar3 b = ar2 b := fun b h1 h2 h3 h4 => by rw [← hA3, j_u2_row _ _ _ _ h4, j_u2_row _ _ _ _ h3, j_u2_row _ _ _ _ h1, j_u2_row _ _ _ _ h2]
  rw [r_keep (by decide) (by decide), ob2, z31, nI_1]
  generalize hA4 : va_up ar3 14 (fun j => if j < 53 then ar3 13 j else ar3 14 j) = ar4
  have o4 : ∀ b, b ≠ 14 → ar4 b = ar3 b := fun b hb => by rw [← hA4, va_up_ne _ _ hb]
  obtain ⟨ar5, d1, d2, d3⟩ := r_st1 (q := k + 1) (by omega) (upd S2 31 (nI (k + 1))) ar4 up_0
  rw [d1]
  -- rows of the reference behind it
  have o5 : ∀ b, b < 13 ∨ b = 19 ∨ 61 ≤ b ∨ (20 ≤ b ∧ b ≤ 20 + k) → ar5 b = ar b := fun b hb => by
    rw [d3 b (by omega), o4 b (by omega), o3 b (by omega) (by omega) (by omega) (by omega), N2 b (by omega), r1 b (by omega)]
  have w15 : ∀ i, ar5 15 i = if i = k then nI c else ar 15 i := fun i => by
    rw [d3 15 (by omega), o4 15 (by decide), ← hA3, j_u2_row _ _ _ _ (by decide), j_u2_row _ _ _ _ (by decide)]
    by_cases z : i = k
    · rw [if_pos z, z, u2_eq]
    · rw [if_neg z, u2_nk z, j_u2_row _ _ _ _ (by decide), N2 15 (by decide), r1 15 (by decide)]
  have w16 : ∀ i, ar5 16 i = if i = k then v2 else ar 16 i := fun i => by
    rw [d3 16 (by omega), o4 16 (by decide), ← hA3, j_u2_row _ _ _ _ (by decide), j_u2_row _ _ _ _ (by decide), j_u2_row _ _ _ _ (by decide)]
    by_cases z : i = k
    · rw [if_pos z, z, u2_eq]
    · rw [if_neg z, u2_nk z, N2 16 (by decide), r1 16 (by decide)]
  have w17 : ∀ i, ar5 17 i = if i = k then S2 27 else ar 17 i := fun i => by
    rw [d3 17 (by omega), o4 17 (by decide), ← hA3, j_u2_row _ _ _ _ (by decide)]
    by_cases z : i = k
    · rw [if_pos z, z, u2_eq]
    · rw [if_neg z, u2_nk z, j_u2_row _ _ _ _ (by decide), j_u2_row _ _ _ _ (by decide), N2 17 (by decide), r1 17 (by decide)]
  have w18 : ∀ i, ar5 18 i = if i = k then S2 28 else ar 18 i := fun i => by
    rw [d3 18 (by omega), o4 18 (by decide), ← hA3]
    by_cases z : i = k
    · rw [if_pos z, z, u2_eq]
    · rw [if_neg z, u2_nk z, j_u2_row _ _ _ _ (by decide), j_u2_row _ _ _ _ (by decide), j_u2_row _ _ _ _ (by decide), N2 18 (by decide), r1 18 (by decide)]
  have w14 : ∀ j, j < 53 → ar5 14 j = ar2 13 j := fun j hj => by rw [d3 14 (by omega), ← hA4, va_up_self, if_pos hj, o3 13 (by decide) (by decide) (by decide) (by decide)]
  have w4 : ∀ j, j < 53 → ar4 14 j = ar2 13 j := fun j hj => by rw [← hA4, va_up_self, if_pos hj, o3 13 (by decide) (by decide) (by decide) (by decide)]
  -- ClickOrders
  unfold xF_299
  rw [k3, if_pos (show nI k < (40 : Int32) from nI_lt (b := 40) hk (by decide)), if_pos ik, iN_nI (by omega), e2, ob5, if_pos ik, if_pos ik, if_pos ik]
  generalize hC3 : j_u2 (j_u2 (j_u2 car2 763 k v2) 764 k (sc2 757 3)) 765 k (sc2 757 4) = car3
  have c3 : ∀ b, b ≠ 763 → b ≠ 764 → b ≠ 765 → car3 b = car2 b := fun b h1 h2 h3 => by rw [← hC3, j_u2_row _ _ _ _ h3, j_u2_row _ _ _ _ h2, j_u2_row _ _ _ _ h1]
  have x62 : ∀ i, car3 762 i = if i = k then nI c else car 762 i := fun i => by
    rw [c3 762 (by decide) (by decide) (by decide), G2 762 (by decide) (by decide)]
    by_cases z : i = k
    · rw [if_pos z, z, u2_eq]
    · rw [if_neg z, u2_nk z]
  have x63 : ∀ i, car3 763 i = if i = k then v2 else car 763 i := fun i => by
    rw [← hC3, j_u2_row _ _ _ _ (by decide), j_u2_row _ _ _ _ (by decide)]
    by_cases z : i = k
    · rw [if_pos z, z, u2_eq]
    · rw [if_neg z, u2_nk z, G2 763 (by decide) (by decide), j_u2_row _ _ _ _ (by decide)]
  have x64 : ∀ i, car3 764 i = if i = k then sc2 757 3 else car 764 i := fun i => by
    rw [← hC3, j_u2_row _ _ _ _ (by decide)]
    by_cases z : i = k
    · rw [if_pos z, z, u2_eq]
    · rw [if_neg z, u2_nk z, j_u2_row _ _ _ _ (by decide), G2 764 (by decide) (by decide), j_u2_row _ _ _ _ (by decide)]
  have x65 : ∀ i, car3 765 i = if i = k then sc2 757 4 else car 765 i := fun i => by
    rw [← hC3]
    by_cases z : i = k
    · rw [if_pos z, z, u2_eq]
    · rw [if_neg z, u2_nk z, j_u2_row _ _ _ _ (by decide), j_u2_row _ _ _ _ (by decide), G2 765 (by decide) (by decide), j_u2_row _ _ _ _ (by decide)]
  have x69 : car3 769 = car 769 := by rw [c3 769 (by decide) (by decide) (by decide), G2 769 (by decide) (by decide), j_u2_row _ _ _ _ (by decide)]
  have x70 : car3 770 = car 770 := by rw [c3 770 (by decide) (by decide) (by decide), G2 770 (by decide) (by decide), j_u2_row _ _ _ _ (by decide)]
  have st5 : ∀ s, s ≤ k → ar5 (20 + s) = ar (20 + s) := fun s hs => o5 (20 + s) (by omega)
  obtain ⟨vv, g1, g2⟩ := c_ahead (ar := ar5) (sc := sc2) (car := car3) (mr := mr) (al := al) hk hc (fun i hi => by
    rw [x62, w15]
    by_cases z : i = k
    · rw [if_pos z, if_pos z]
    · rw [if_neg z, if_neg z]; exact (k6 i (by omega)).2.1) (by rw [x63, w16, if_pos rfl, if_pos rfl]) (by rw [w15, if_pos rfl]) (fun s hs => by rw [x69, st5 s hs]; exact (k7 s (by omega)).2)
  have z5 : sc2 759 5 = nI k := (F2 759 5 (by decide)).trans k3
  obtain ⟨car6, t1, t2, t3, t4⟩ := c_shown (k := k + 1) (sc := j_u2 sc2 759 5 (nI (k + 1))) (car := car3) (mr := mr) (al := j_u2 al 768 k vv) (by omega) u2_eq
  rw [g1, ob5, if_pos ik, z5, nI_1, t1, ob4]
  have c761 : car6 761 = car2 761 := by rw [t4 761 (by decide) (by decide), c3 761 (by decide) (by decide) (by decide)]
  have low : ∀ j, j < 10 → car3 761 j = ar5 (20 + (k + 1)) j := fun j hj => by
    rw [d2 j hj, w4 j (by omega), c3 761 (by decide) (by decide) (by decide)]
    have a := ix_c j (by omega)
    have := R2.1 j (by omega)
    rw [show ix j = j by omega] at this
    exact this
  refine ⟨upd S2 31 (nI (k + 1)), ar5, _, car6, _, ?_, rfl, ⟨by omega, ?_, (u2_nk (by decide)).trans u2_eq, ?_, ?_, fun i hi => ?_, fun s hs => ?_, fun j hj kk hkk => ?_⟩, fun hb i hi => ?_, ⟨fun j hj h31 => ?_, fun b hb => ?_⟩, ⟨fun a j h1 h2 => ?_, fun b h1 h2 h3 h4 => ?_, ?_, u2_eq, fun a ha => j_u2_row _ _ _ _ ha⟩⟩
  · rw [up_0, show nI (k + 1) - (1 : Int32) = nI k from nI_pred k]
  · exact up_0
  · rw [c761]; exact pgR_P R2 (fun j hj => w14 j (by omega))
  · rw [c761]; exact pgA_P A2 w14
  · rw [t4 762 (by decide) (by decide), t4 763 (by decide) (by decide), t4 764 (by decide) (by decide), t4 765 (by decide) (by decide), x62, x63, x64, x65, w15, w16, w17, w18]
    by_cases z : i = k
    · rw [if_pos z, if_pos z, if_pos z, if_pos z, if_pos z, if_pos z, if_pos z, if_pos z]
      exact ⟨⟨c, hc, rfl⟩, rfl, rfl, b27.symm, b28.symm⟩
    · rw [if_neg z, if_neg z, if_neg z, if_neg z, if_neg z, if_neg z, if_neg z, if_neg z]
      exact k6 i (by omega)
  · by_cases z : s = k + 1
    · subst z
      refine ⟨fun j hj => ?_, ?_⟩
      · rw [t3, if_pos (by omega), show (k + 1) * 10 + j - (k + 1) * 10 = j by omega]
        exact low j hj
      · rw [t2, if_pos rfl, low 8 (by omega), low 9 (by omega)]
    · rw [st5 s (by omega)]
      refine ⟨fun j hj => ?_, ?_⟩
      · rw [t3, if_neg (by omega), x70]
        exact (k7 s (by omega)).1 j hj
      · rw [t2, if_neg (by omega), x69]
        exact (k7 s (by omega)).2
  · have old : ∀ i, i < k → j_u2 al 768 k vv 768 i = al 768 i := fun i hi => if_neg (fun z => by have := z.2; omega)
    by_cases z : j = k
    · subst z
      have e : j_u2 al 768 j vv 768 j = vv := if_pos ⟨rfl, rfl⟩
      rw [e, g2 kk hkk]
      constructor
      · rintro ⟨i, a, b, d⟩
        exact ⟨i, a, b, by rw [old i a]; exact d⟩
      · rintro ⟨i, a, b, d⟩
        exact ⟨i, a, b, by rw [old i a] at d; exact d⟩
    · have jk : j < k := by omega
      rw [old j jk, k8 j jk kk hkk]
      have ed : ∀ i, i < j → aDr ar5 i j = aDr ar i j := fun i hi => aDr_c (fun q hq => by rw [w15, if_neg (by omega)]) (by rw [w16, if_neg (by omega)]) (fun s hs => st5 s (by omega)) hi
      constructor
      · rintro ⟨i, a, b, d⟩
        exact ⟨i, a, by rw [ed i a]; exact b, by rw [old i (by omega)]; exact d⟩
      · rintro ⟨i, a, b, d⟩
        exact ⟨i, a, by rw [ed i a] at b; exact b, by rw [old i (by omega)] at d; exact d⟩
  · rw [w18]
    by_cases z : i = k
    · rw [if_pos z]; exact l3
    · rw [if_neg z]; exact hb i (by omega)
  · rw [up_n h31]
    by_cases z : j = 57
    · subst z; exact z57.1
    · exact Q2 j (by omega)
  · exact o5 b (by omega)
  · rw [show j_u2 (j_u2 sc2 759 5 (nI (k + 1))) 759 14 0 a j = sc2 a j from (if_neg (fun z => h2 ⟨z.1, Or.inr z.2⟩)).trans (if_neg (fun z => h2 ⟨z.1, Or.inl z.2⟩))]
    exact F2 a j h1
  · rw [t4 b h3 h4, c3 b (by omega) (by omega) (by omega), G2 b h1 (by omega), j_u2_row _ _ _ _ (by omega)]
  · rw [u2_na (by decide), u2_na (by decide)]; exact z57.2
end RN
