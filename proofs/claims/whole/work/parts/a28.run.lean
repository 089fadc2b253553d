/-! THE RUN: bits of long numbers, and what is kept of a run. -/
def bL (x : Int64) (i : Nat) : Bool := x.toBitVec.getLsbD i
theorem bL_or (x y : Int64) (i : Nat) : bL (x ||| y) i = (bL x i || bL y i) := by unfold bL; rw [Int64.toBitVec_or, BitVec.getLsbD_or]
theorem bL_and (x y : Int64) (i : Nat) : bL (x &&& y) i = (bL x i && bL y i) := by unfold bL; rw [Int64.toBitVec_and, BitVec.getLsbD_and]
theorem bL_ext {x y : Int64} (h : ∀ i, i < 64 → bL x i = bL y i) : x = y := Int64.toBitVec_inj.mp (BitVec.eq_of_getLsbD_eq (fun i hi => h i hi))
theorem bL_0 (i : Nat) : bL 0 i = false := BitVec.getLsbD_zero
theorem sL_l : ∀ n, n < 64 → (((nI n).toInt64 &&& 63).toBitVec.smod 64).toNat = n := by decide +kernel
theorem bL_1 : ∀ i, i < 64 → bL 1 i = decide (i = 0) := by decide +kernel
theorem bL_shl (n : Nat) (hn : n < 64) {i : Nat} (hi : i < 64) : bL ((1 : Int64) <<< ((nI n).toInt64 &&& 63)) i = decide (i = n) := by
  have : bL ((1 : Int64) <<< ((nI n).toInt64 &&& 63)) i = (decide (n ≤ i) && bL 1 (i - n)) := by
    unfold bL
    rw [Int64.toBitVec_shiftLeft]
    show ((1 : Int64).toBitVec <<< (((nI n).toInt64 &&& 63).toBitVec.smod 64).toNat).getLsbD i = _
    rw [sL_l n hn, BitVec.getLsbD_shiftLeft]
    rcases Nat.lt_or_ge i n with h | h
    · simp [h, Nat.not_le.mpr h]
    · simp [hi, h, Nat.not_lt.mpr h]
  rw [this]
  by_cases c : i = n
  · subst c
    rw [Nat.sub_self, bL_1 0 (by decide)]
    simp
  · by_cases d : n ≤ i
    · rw [bL_1 _ (by omega)]
      simp [c, show ¬ i - n = 0 by omega]
    · simp [c, d]
theorem bL_shr (n : Nat) (hn : n < 64) (x : Int64) : (x >>> ((nI n).toInt64 &&& 63)) &&& 1 = if bL x n = true then 1 else 0 := by
  apply bL_ext
  intro i hi
  rw [bL_and, bL_1 i hi]
  have sr : bL (x >>> ((nI n).toInt64 &&& 63)) 0 = bL x n := by
    unfold bL
    rw [Int64.toBitVec_shiftRight]
    show (x.toBitVec.sshiftRight (((nI n).toInt64 &&& 63).toBitVec.smod 64).toNat).getLsbD 0 = _
    rw [sL_l n hn, BitVec.getLsbD_sshiftRight]
    simp [hn]
  by_cases c : i = 0
  · subst c
    rw [sr]
    by_cases d : bL x n = true
    · rw [if_pos d, d, bL_1 0 (by decide)]; rfl
    · rw [if_neg d, bL_0]; simpa using d
  · by_cases d : bL x n = true
    · rw [if_pos d, bL_1 i hi]; simp [c]
    · rw [if_neg d, bL_0]; simp [c]
/-- mayPress of a state that is kept -/
def mP (ar : jSc) (s t : Nat) : Bool := bt (ar (20 + s) 8) t && !bt (ar (20 + s) 9) t
/-- the latest that made the thing free -/
def ltF (ar : jSc) (t : Nat) : Nat → Int32
  | 0 => -1
  | i + 1 => if mP ar (i + 1) t = true ∧ mP ar i t = false then nI i else ltF ar t i
/-- directly ordered -/
def aDr (ar : jSc) (i j : Nat) : Bool := decide (ar 16 j = nI i) || (decide (8 ≤ ar 15 j) && decide (ar 15 i = ar 15 j)) || (decide (ar 15 j < 8) && decide (ltF ar (iN (ar 15 j)) j = nI i))
def tK (n : Nat) (S : Nat → Int32) (ar sc car : jSc) (al : jAl) : Prop := n ≤ 40 ∧ S 31 = nI n ∧ sc 759 5 = nI n ∧ pgR (ar 14) (car 761) ∧ pgA (ar 14) (car 761) ∧ (∀ i, i < n → (∃ c, c < 13 ∧ ar 15 i = nI c) ∧ car 762 i = ar 15 i ∧ car 763 i = ar 16 i ∧ car 764 i = ar 17 i ∧ car 765 i = ar 18 i) ∧ (∀ s, s ≤ n → (∀ k, k < 10 → car 770 (s * 10 + k) = ar (20 + s) k) ∧ car 769 s = ar (20 + s) 8 &&& (ar (20 + s) 9 ^^^ (-1))) ∧ ∀ j, j < n → ∀ k, k < 64 → (bL (al 768 j) k = true ↔ ∃ i, i < j ∧ aDr ar i j = true ∧ (k = i ∨ bL (al 768 i) k = true))
section TK
variable {S : Nat → Int32} {ar : jSc} {sc car : jSc} {mr : Nat → Nat} {al : jAl} {n : Nat}
theorem ltF_c {ar2 : jSc} {t : Nat} : ∀ {j : Nat}, (∀ s, s ≤ j → ar2 (20 + s) = ar (20 + s)) → ltF ar2 t j = ltF ar t j
  | 0, _ => rfl
  | j + 1, h => by
    unfold ltF mP
    rw [h (j + 1) (by omega), h j (by omega), ltF_c (fun s hs => h s (by omega))]
theorem aDr_c {ar2 : jSc} {i j : Nat} (h1 : ∀ k, k ≤ j → ar2 15 k = ar 15 k) (h2 : ar2 16 j = ar 16 j) (h3 : ∀ s, s ≤ j → ar2 (20 + s) = ar (20 + s)) (hi : i < j) : aDr ar2 i j = aDr ar i j := by
  unfold aDr
  rw [h1 j (by omega), h1 i (by omega), h2, ltF_c h3]
theorem free_b {a b : Int32} {c : Nat} (hc : c < 8) : ((a &&& (b ^^^ (-1 : Int32))) &&& ((1 : Int32) <<< (nI c &&& 31))) = (0 : Int32) ↔ ¬ (bt a c = true ∧ bt b c = false) := by
  constructor
  · rintro h ⟨h1, h2⟩
    have := congrArg (fun x => bt x c) h
    simp only [b_and, b_xor, bt_1 c (by omega) (show c < 32 by omega), b_m1 c (by omega), b_0, h1, h2] at this
    simp at this
  · intro h
    apply b_ext
    intro i hi
    rw [b_0, b_and, b_and, b_xor, bt_1 c (by omega) hi, b_m1 i hi]
    by_cases e : i = c
    · subst e
      rcases ha : bt a i with _ | _ <;> rcases hb : bt b i with _ | _ <;> simp_all
    · simp [e]
theorem mP_i {s t : Nat} : mP ar s t = true ↔ bt (ar (20 + s) 8) t = true ∧ bt (ar (20 + s) 9) t = false := by
  unfold mP
  rw [Bool.and_eq_true, Bool.not_eq_true']
/-- the latest that made the thing free, in ClickOrders -/
theorem c_freed {j c : Nat} (hj : j < 40) (hc : c < 13) (h762 : car 762 j = nI c) (hf : ∀ s, s ≤ j → car 769 s = ar (20 + s) 8 &&& (ar (20 + s) 9 ^^^ (-1))) : xF_312 (nI j) sc mr car al = some (if c < 8 then ltF ar c j else -1, sc, mr, car, al) := by
  have l8 : nI c < (8 : Int32) ↔ c < 8 := nI_ltI (by omega) (by decide)
  unfold xF_312
  rw [if_pos (iB_nI hj (by decide)), iN_nI (by omega), h762]
  by_cases z : c < 8
  · rw [if_pos (l8.mpr z), if_pos (iB_nI hj (by decide)), if_pos z]
    have go : ∀ i nn, i ≤ j → i < nn → ∀ x3, (i = 0 → x3 = -1) → (0 < i → x3 = nI (i - 1)) → xF_312_26 nn (1 <<< (nI c &&& 31)) x3 sc mr car al = some (ltF ar c i, sc, mr, car, al) := by
      intro i
      induction i with
      | zero =>
        intro nn h1 h2 x3 h3 h4
        obtain ⟨nn, rfl⟩ : ∃ j, nn = j + 1 := ⟨nn - 1, by omega⟩
        rw [h3 rfl]
        unfold xF_312_26
        rw [if_pos (by decide)]
        rfl
      | succ i ih =>
        intro nn h1 h2 x3 h3 h4
        obtain ⟨nn, rfl⟩ : ∃ j, nn = j + 1 := ⟨nn - 1, by omega⟩
        rw [h4 (by omega), show i + 1 - 1 = i by omega]
        have em : nI i + (-1 : Int32) = nI i - 1 := (Int32.sub_eq_add_neg ..).symm
        have rec_ := ih nn (by omega) (by omega) (nI i + (-1)) (fun h => by rw [h]; decide) (fun h => by rw [em, nI_p1 h])
        unfold xF_312_26
        rw [if_neg (nI_pos (by omega)), nI_1, if_pos (iB_nI (show i + 1 < 41 by omega) (by decide)), iN_nI (by omega), hf (i + 1) (by omega), if_pos (iB_nI (show i < 41 by omega) (by decide)), iN_nI (by omega), hf i (by omega), rec_]
        have a1 := free_b (a := ar (20 + (i + 1)) 8) (b := ar (20 + (i + 1)) 9) z
        have a2 := free_b (a := ar (20 + i) 8) (b := ar (20 + i) 9) z
        rw [← mP_i] at a1 a2
        show _ = some ((if mP ar (i + 1) c = true ∧ mP ar i c = false then nI i else ltF ar c i), _)
        by_cases y : mP ar (i + 1) c = true
        · rw [if_neg (fun w => a1.mp w y)]
          by_cases x : mP ar i c = true
          · rw [if_neg (fun w => a2.mp w x), if_neg (fun w => by rw [x] at w; cases w.2)]
          · rw [if_pos (a2.mpr x), if_pos ⟨y, by simpa using x⟩]
        · rw [if_pos (a1.mpr y), if_neg (fun w => y w.1)]
    exact go j oF (Nat.le_refl _) (by unfold oF; omega) _ (fun h => by rw [h]; decide) (fun h => nI_p1 h)
  · rw [if_neg (fun w => z (l8.mp w)), if_neg z]
/-- all that are ahead -/
theorem c_ahead {j c : Nat} (hj : j < 40) (hc : c < 13) (h762 : ∀ i, i ≤ j → car 762 i = ar 15 i) (h763 : car 763 j = ar 16 j) (hcj : ar 15 j = nI c) (hf : ∀ s, s ≤ j → car 769 s = ar (20 + s) 8 &&& (ar (20 + s) 9 ^^^ (-1))) : ∃ v, xF_311 (nI j) sc mr car al = some (v, sc, mr, car, al) ∧ ∀ k, k < 64 → (bL v k = true ↔ ∃ i, i < j ∧ aDr ar i j = true ∧ (k = i ∨ bL (al 768 i) k = true)) := by
  have l8 : nI c < (8 : Int32) ↔ c < 8 := nI_ltI (by omega) (by decide)
  have g8 : (8 : Int32) ≤ nI c ↔ 8 ≤ c := nI_leI (by decide) (by omega)
  unfold xF_311
  rw [c_freed (ar := ar) hj hc ((h762 j (Nat.le_refl _)).trans hcj) hf, ob5]
  have dr : ∀ i, aDr ar i j = true ↔ (8 ≤ c ∧ ar 15 i = nI c) ∨ ar 16 j = nI i ∨ (if c < 8 then ltF ar c j else -1) = nI i ∧ c < 8 := by
    intro i
    unfold aDr
    rw [hcj, iN_nI (by omega)]
    simp only [Bool.or_eq_true, Bool.and_eq_true, decide_eq_true_iff, g8, l8]
    by_cases z : c < 8
    · rw [if_pos z]
      constructor
      · rintro ((h | h) | h)
        · exact Or.inr (Or.inl h)
        · exact Or.inl h
        · exact Or.inr (Or.inr ⟨h.2, h.1⟩)
      · rintro (h | h | h)
        · exact Or.inl (Or.inr h)
        · exact Or.inl (Or.inl h)
        · exact Or.inr ⟨h.2, h.1⟩
    · constructor
      · rintro ((h | h) | h)
        · exact Or.inr (Or.inl h)
        · exact Or.inl h
        · exact absurd h.1 z
      · rintro (h | h | h)
        · exact Or.inl (Or.inr h)
        · exact Or.inl (Or.inl h)
        · exact absurd h.2 z
  generalize hL : (if c < 8 then ltF ar c j else -1) = lt at dr
  have ltm : ¬ c < 8 → lt = -1 := fun z => by rw [← hL, if_neg z]
  have go : ∀ r i nn x2, i + r = j → r < nn → (∀ k, k < 64 → (bL x2 k = true ↔ ∃ i', i' < i ∧ aDr ar i' j = true ∧ (k = i' ∨ bL (al 768 i') k = true))) → ∃ v, xF_311_12 nn (nI j) x2 lt (nI i) sc mr car al = some (v, sc, mr, car, al) ∧ ∀ k, k < 64 → (bL v k = true ↔ ∃ i, i < j ∧ aDr ar i j = true ∧ (k = i ∨ bL (al 768 i) k = true)) := by
    intro r
    induction r with
    | zero =>
      intro i nn x2 h1 h2 h3
      obtain ⟨nn, rfl⟩ : ∃ j, nn = j + 1 := ⟨nn - 1, by omega⟩
      have : i = j := by omega
      subst this
      unfold xF_311_12
      rw [if_pos (nI_le (Nat.le_refl _) (by omega))]
      exact ⟨x2, rfl, h3⟩
    | succ r ih =>
      intro i nn x2 h1 h2 h3
      obtain ⟨nn, rfl⟩ : ∃ j, nn = j + 1 := ⟨nn - 1, by omega⟩
      have i40 : i < 40 := by omega
      have yes : aDr ar i j = true → ∃ v, xF_311_12 nn (nI j) (x2 ||| (((Int64.ofNat ((1 : Fin 2) : Nat)) <<< ((nI i).toInt64 &&& 63)) ||| (al 768 i))) lt (nI (i + 1)) sc mr car al = some (v, sc, mr, car, al) ∧ ∀ k, k < 64 → (bL v k = true ↔ ∃ i, i < j ∧ aDr ar i j = true ∧ (k = i ∨ bL (al 768 i) k = true)) := fun hd => by
        refine ih (i + 1) nn _ (by omega) (by omega) (fun k hk => ?_)
        have e1 : bL ((Int64.ofNat ((1 : Fin 2) : Nat)) <<< ((nI i).toInt64 &&& 63)) k = decide (k = i) := bL_shl i (by omega) hk
        rw [bL_or, bL_or, e1, Bool.or_eq_true, Bool.or_eq_true, decide_eq_true_iff, h3 k hk]
        constructor
        · rintro (⟨i', a, b⟩ | h | h)
          · exact ⟨i', by omega, b⟩
          · exact ⟨i, by omega, hd, Or.inl h⟩
          · exact ⟨i, by omega, hd, Or.inr h⟩
        · rintro ⟨i', a, b, d⟩
          by_cases e : i' = i
          · subst e; exact Or.inr d
          · exact Or.inl ⟨i', by omega, b, d⟩
      have no : ¬ aDr ar i j = true → ∃ v, xF_311_12 nn (nI j) x2 lt (nI (i + 1)) sc mr car al = some (v, sc, mr, car, al) ∧ ∀ k, k < 64 → (bL v k = true ↔ ∃ i, i < j ∧ aDr ar i j = true ∧ (k = i ∨ bL (al 768 i) k = true)) := fun hd => by
        refine ih (i + 1) nn _ (by omega) (by omega) (fun k hk => ?_)
        rw [h3 k hk]
        constructor
        · rintro ⟨i', a, b⟩
          exact ⟨i', by omega, b⟩
        · rintro ⟨i', a, b, d⟩
          by_cases e : i' = i
          · subst e; exact absurd b hd
          · exact ⟨i', by omega, b, d⟩
      have f50 : ∀ y0 : Int32, (y0 = 0 ↔ ¬ (8 ≤ c ∧ ar 15 i = nI c)) → ∃ v, xF_311_50 (fun x1_ x2_ x4_ x5_ sc_ mr_ ar_ al_ => xF_311_12 nn x1_ x2_ x4_ x5_ sc_ mr_ ar_ al_) (nI j) x2 lt (nI i) y0 sc mr car al = some (v, sc, mr, car, al) ∧ ∀ k, k < 64 → (bL v k = true ↔ ∃ i, i < j ∧ aDr ar i j = true ∧ (k = i ∨ bL (al 768 i) k = true)) := by
        intro y0 hy
        unfold xF_311_50
        rw [if_pos (iB_nI hj (by decide)), iN_nI (show j < 2 ^ 31 by omega), h763, if_pos (iB_nI i40 (by decide)), iN_nI (show i < 2 ^ 31 by omega), nI_1]
        by_cases w : y0 = 0
        · rw [if_pos w]
          by_cases x : nI i = ar 16 j
          · rw [if_pos x]
            exact yes ((dr i).mpr (Or.inr (Or.inl x.symm)))
          · rw [if_neg x]
            by_cases u : nI i = lt
            · rw [if_pos u]
              refine yes ((dr i).mpr (Or.inr (Or.inr ⟨u.symm, ?_⟩)))
              by_cases q : c < 8
              · exact q
              · rw [ltm q] at u; exact absurd u (nI_nm (by omega))
            · rw [if_neg u]
              refine no (fun hd => ?_)
              rcases (dr i).mp hd with h | h | h
              · exact hy.mp w h
              · exact x h.symm
              · exact u h.1.symm
        · rw [if_neg w]
          exact yes ((dr i).mpr (Or.inl (Classical.not_not.mp (fun h => w (hy.mpr h)))))
      unfold xF_311_12
      rw [if_neg (nI_ge (by omega) (by omega)), if_pos (iB_nI hj (by decide)), iN_nI (show j < 2 ^ 31 by omega), h762 j (Nat.le_refl _), hcj]
      by_cases z : c < 8
      · rw [if_pos (l8.mpr z)]
        exact f50 0 ⟨fun _ h => absurd h.1 (by omega), fun _ => rfl⟩
      · rw [if_neg (fun w => z (l8.mp w)), if_pos (iB_nI i40 (by decide)), if_pos (iB_nI hj (by decide)), iN_nI (show i < 2 ^ 31 by omega), h762 i (by omega)]
        by_cases y : ar 15 i = nI c
        · rw [if_pos y]
          exact f50 1 ⟨fun h => absurd h (by decide), fun h => absurd ⟨by omega, y⟩ h⟩
        · rw [if_neg y]
          exact f50 0 ⟨fun _ h => y h.2, fun _ => rfl⟩
  exact go j 0 oF _ (by omega) (by unfold oF; omega) (fun k hk => ⟨fun h => absurd h (by rw [show (Int64.ofNat ((0 : Fin 2) : Nat)) = (0 : Int64) from rfl, bL_0]; decide), fun ⟨i', a, _⟩ => absurd a (by omega)⟩)
end TK
