/-! IS A SET'S WORK NEW? -/
theorem ak_hi {os : oL} (h : ∀ o ∈ os, o.1 = 24 → ∃ d, d < 4 ∧ o.2 = nI d) {i : Nat} (h1 : 4 ≤ i) (h2 : i < 32) : ∀ {a : Int32}, bt a i = false → bt (o_ak os a) i = false := by
  induction os with
  | nil => intro a ha; exact ha
  | cons o r ih =>
    intro a ha
    show bt (o_ak r (a ||| (if o.1 = 24 then (1 : Int32) <<< (o.2 &&& 31) else 0))) i = false
    refine ih (fun x hx => h x (List.mem_cons_of_mem _ hx)) ?_
    rw [b_or, ha, Bool.false_or]
    by_cases z : o.1 = 24
    · rw [if_pos z]
      obtain ⟨d, hd, e⟩ := h o List.mem_cons_self z
      rw [e, bt_1 d (by omega) h2, decide_eq_false (by omega)]
    · rw [if_neg z, b_0]
theorem ak_h {g : pG} (hw : wfG g) {i : Nat} (h1 : 4 ≤ i) (h2 : i < 32) : bt (o_ak g.1 0) i = false := by
  obtain ⟨H, -, ok, -⟩ := hw
  refine ak_hi (fun o ho h24 => ?_) h1 h2 (b_0 i)
  obtain ⟨j, hj⟩ := List.mem_iff_getElem?.mp ho
  rcases ok j o hj with k | k | k | k
  · have := k.2; omega
  · omega
  · omega
  · have := k.2.1
    unfold o_mk at this
    rw [h24, if_neg (by decide), if_neg (by decide), if_pos (by decide)] at this
    exact this
/-- four bits more -/
theorem sL_4 : ((4 : Int32).toInt64 &&& 63).toBitVec.smod 64 = 4#64 := by decide +kernel
theorem bL_s4 {x : Int64} {j : Nat} (hj : j < 64) : bL (x <<< ((4 : Int32).toInt64 &&& 63)) j = (decide (4 ≤ j) && bL x (j - 4)) := by
  unfold bL
  rw [Int64.toBitVec_shiftLeft]
  show (x.toBitVec <<< (((4 : Int32).toInt64 &&& 63).toBitVec.smod 64).toNat).getLsbD j = _
  rw [sL_4, BitVec.getLsbD_shiftLeft]
  show (decide (j < 64) && !decide (j < 4) && x.toBitVec.getLsbD (j - 4)) = _
  rw [decide_eq_true hj, Bool.true_and]
  by_cases z : 4 ≤ j
  · rw [decide_eq_true z, decide_eq_false (by omega)]; rfl
  · rw [decide_eq_false z, decide_eq_true (by omega)]; rfl
theorem bL_i {y : Int32} (hy : ∀ i, 4 ≤ i → i < 32 → bt y i = false) {j : Nat} (hj : j < 64) : bL y.toInt64 j = (decide (j < 4) && bt y j) := by
  unfold bL bt
  rw [Int32.toBitVec_toInt64, BitVec.getLsbD_signExtend, decide_eq_true hj, Bool.true_and, BitVec.msb_eq_getLsbD_last]
  have h31 : y.toBitVec.getLsbD 31 = false := hy 31 (by decide) (by decide)
  by_cases z : j < 32
  · rw [if_pos z]
    by_cases w : j < 4
    · rw [decide_eq_true w, Bool.true_and]
    · rw [decide_eq_false w, Bool.false_and]; exact hy j (by omega) z
  · rw [if_neg z, decide_eq_false (show ¬ j < 4 by omega), Bool.false_and]
    exact h31
theorem bL_nb {x : Int64} {y : Int32} (hy : ∀ i, 4 ≤ i → i < 32 → bt y i = false) {j : Nat} (hj : j < 64) : bL ((x <<< ((4 : Int32).toInt64 &&& 63)) ||| y.toInt64) j = if j < 4 then bt y j else bL x (j - 4) := by
  rw [bL_or, bL_s4 hj, bL_i hy hj]
  by_cases z : j < 4
  · rw [if_pos z, decide_eq_false (by omega), decide_eq_true z, Bool.false_and, Bool.false_or, Bool.true_and]
  · rw [if_neg z, decide_eq_true (by omega), decide_eq_false z, Bool.false_and, Bool.or_false, Bool.true_and]
/-- what the number x says of the forms A -/
def wB (g : pG) (m : Nat) (A : jSc) (x : Int64) : Prop := (∀ l, l < 4 → bt (o_ak g.1 0) l = true → bL x (32 + l) = m_fr A m 2 (nI l) ∧ bL x (36 + l) = m_fr A m 1 (nI l)) ∧ ∀ t l, t < 8 → l < 4 → bt (o_ak g.1 0) l = true → bL x (4 * (7 - t) + l) = m_b1 A (nI t) (nI l) 0 m
theorem wB_al {g : pG} {m : Nat} {A1 A2 : jSc} {x : Int64} (h1 : wB g m A1 x) (h2 : wB g m A2 x) (hr : rA A1 A2) : wAl g m A1 A2 := ⟨hr, fun l hl hb => ⟨(h2.1 l hl hb).1.symm.trans (h1.1 l hl hb).1, (h2.1 l hl hb).2.symm.trans (h1.1 l hl hb).2, fun t ht => (h2.2 t l ht hl hb).symm.trans (h1.2 t l ht hl hb)⟩⟩
section NW
variable {A : jSc} {sc car : jSc} {mr : Nat → Nat} {al : jAl} {m w : Nat} {g : pG}
theorem c_new (hw : wfG g) (hf : fR m A sc car) (h11 : sc 736 11 = nI w) (hw64 : w ≤ 64) : ∃ x, wB g m A x ∧ ((xF_205 (o_ak g.1 0) sc mr car al = some (0, sc, mr, car, al) ∧ ∃ j, j < w ∧ al 743 j = x) ∨ ∃ sc2 al2 w2, xF_205 (o_ak g.1 0) sc mr car al = some (1, sc2, mr, car, al2) ∧ sc2 736 11 = nI w2 ∧ w2 ≤ 64 ∧ (∀ a k, ¬ (a = 736 ∧ k = 11) → sc2 a k = sc a k) ∧ (∀ b, b ≠ 743 → al2 b = al b) ∧ ∀ j, j < w2 → al2 743 j = x ∨ (j < w ∧ al2 743 j = al 743 j)) := by
  obtain ⟨-, f2, f1, f3⟩ := hf
  have hy : ∀ z : Int32, ∀ i, 4 ≤ i → i < 32 → bt (z &&& o_ak g.1 0) i = false := fun z i h1 h2 => by rw [b_and, ak_h hw h1 h2, Bool.and_false]
  have hb : ∀ (z : Int32) (l : Nat), bt (o_ak g.1 0) l = true → bt (z &&& o_ak g.1 0) l = bt z l := fun z l h => by rw [b_and, h, Bool.and_true]
  -- the number
  have go : ∀ (r k nn : Nat) (x : Int64), k + r = 8 → r < nn → (∀ l, l < 4 → bt (o_ak g.1 0) l = true → bL x (4 * k + l) = m_fr A m 2 (nI l) ∧ bL x (4 * k + 4 + l) = m_fr A m 1 (nI l)) → (∀ t l, t < k → l < 4 → bt (o_ak g.1 0) l = true → bL x (4 * (k - 1 - t) + l) = m_b1 A (nI t) (nI l) 0 m) → ∃ x2, xF_205_21 nn (o_ak g.1 0) x (nI k) sc mr car al = xF_205_52 oF x2 0 sc mr car al ∧ wB g m A x2 := by
    intro r
    induction r with
    | zero =>
      intro k nn x h1 h2 h3 h4
      obtain ⟨nn, rfl⟩ : ∃ j, nn = j + 1 := ⟨nn - 1, by omega⟩
      have k8 : k = 8 := by omega
      subst k8
      rw [xF_205_21]
      rw [if_pos (show (8 : Int32) ≤ nI 8 by decide)]
      exact ⟨x, rfl, h3, h4⟩
    | succ r ih =>
      intro k nn x h1 h2 h3 h4
      obtain ⟨nn, rfl⟩ : ∃ j, nn = j + 1 := ⟨nn - 1, by omega⟩
      rw [xF_205_21]
      rw [if_neg (show ¬ (8 : Int32) ≤ nI k from nI_ge (b := 8) (by omega) (by decide)), if_pos (iB_nI (show k < 8 by omega) (by decide)), iN_nI (by omega), nI_1]
      refine ih (k + 1) nn _ (by omega) (by omega) (fun l hl hl2 => ?_) (fun t l ht hl hl2 => ?_)
      · rw [bL_nb (hy _) (by omega), bL_nb (hy _) (by omega), if_neg (by omega), if_neg (by omega), show 4 * (k + 1) + l - 4 = 4 * k + l by omega, show 4 * (k + 1) + 4 + l - 4 = 4 * k + 4 + l by omega]
        exact h3 l hl hl2
      · rw [bL_nb (hy _) (by omega)]
        by_cases z : t = k
        · subst z
          rw [if_pos (by omega), show 4 * (t + 1 - 1 - t) + l = l by omega, hb _ l hl2]
          exact f3 t l (by omega) hl
        · rw [if_neg (by omega), show 4 * (k + 1 - 1 - t) + l - 4 = 4 * (k - 1 - t) + l by omega]
          exact h4 t l (by omega) hl hl2
  obtain ⟨x2, e1, e2⟩ := go 8 0 oF ((((sc 736 7) &&& o_ak g.1 0).toInt64 <<< (((4 : Int32)).toInt64 &&& 63)) ||| (((sc 736 8) &&& o_ak g.1 0)).toInt64) (by omega) (by unfold oF; omega) (fun l hl hl2 => by
    rw [bL_nb (hy _) (by omega), bL_nb (hy _) (by omega), if_pos (by omega), if_neg (by omega), show 4 * 0 + l = l by omega, show 4 * 0 + 4 + l - 4 = l by omega, bL_i (hy _) (by omega), decide_eq_true hl, Bool.true_and, hb _ l hl2, hb _ l hl2]
    exact ⟨f2 l hl, f1 l hl⟩) (fun t l ht => absurd ht (by omega))
  rw [show nI 0 = (0 : Int32) from rfl] at e1
  have e3 : xF_205 (o_ak g.1 0) sc mr car al = xF_205_52 oF x2 0 sc mr car al := e1
  refine ⟨x2, e2, ?_⟩
  rw [e3]
  have cmp : ∀ a b : Int64, lg_cmp a b = 0 ↔ a = b := by
    intro a b
    unfold lg_cmp
    constructor
    · intro h
      split at h
      · exact absurd h (by decide)
      · split at h
        · rename_i _ e; exact e
        · exact absurd h (by decide)
    · intro h
      subst h
      split
      · rename_i lt; exact (Int64.lt_irrefl lt).elim
      · rw [if_pos rfl]
  have go2 : ∀ (r j nn : Nat), j + r = w → r < nn → (∀ q, q < j → ¬ al 743 q = x2) → ((xF_205_52 nn x2 (nI j) sc mr car al = some (0, sc, mr, car, al) ∧ ∃ j, j < w ∧ al 743 j = x2) ∨ ∃ sc2 al2 w2, xF_205_52 nn x2 (nI j) sc mr car al = some (1, sc2, mr, car, al2) ∧ sc2 736 11 = nI w2 ∧ w2 ≤ 64 ∧ (∀ a k, ¬ (a = 736 ∧ k = 11) → sc2 a k = sc a k) ∧ (∀ b, b ≠ 743 → al2 b = al b) ∧ ∀ j, j < w2 → al2 743 j = x2 ∨ (j < w ∧ al2 743 j = al 743 j)) := by
    intro r
    induction r with
    | zero =>
      intro j nn h1 h2 h3
      obtain ⟨nn, rfl⟩ : ∃ j, nn = j + 1 := ⟨nn - 1, by omega⟩
      rw [xF_205_52]
      rw [h11, if_pos (nI_le (by omega) (by omega))]
      refine Or.inr ?_
      by_cases z : w = 64
      · rw [if_pos (show (64 : Int32) ≤ nI w from nI_le (a := 64) (by omega) (by omega))]
        exact ⟨sc, al, w, rfl, h11, hw64, fun _ _ _ => rfl, fun _ _ => rfl, fun j hj => Or.inr ⟨hj, rfl⟩⟩
      · rw [if_neg (show ¬ (64 : Int32) ≤ nI w from nI_ge (b := 64) (by omega) (by decide)), if_pos (iB_nI (show w < 64 by omega) (by decide)), iN_nI (by omega), nI_1]
        refine ⟨_, _, w + 1, rfl, u2_eq, by omega, fun a k h => if_neg h, fun b hb => j_u2_row _ _ _ _ hb, fun j hj => ?_⟩
        by_cases y : j = w
        · subst y; exact Or.inl (if_pos ⟨rfl, rfl⟩)
        · exact Or.inr ⟨by omega, if_neg (fun q => y q.2)⟩
    | succ r ih =>
      intro j nn h1 h2 h3
      obtain ⟨nn, rfl⟩ : ∃ j, nn = j + 1 := ⟨nn - 1, by omega⟩
      rw [xF_205_52]
      rw [h11, if_neg (nI_ge (by omega) (by omega)), if_pos (iB_nI (show j < 64 by omega) (by decide)), iN_nI (by omega), nI_1]
      by_cases z : al 743 j = x2
      · rw [if_pos ((cmp _ _).mpr z)]
        exact Or.inl ⟨rfl, j, by omega, z⟩
      · rw [if_neg (fun y => z ((cmp _ _).mp y))]
        refine ih (j + 1) nn (by omega) (by omega) (fun q hq => ?_)
        by_cases y : q = j
        · subst y; exact z
        · exact h3 q (by omega)
  have := go2 w 0 oF (by omega) (by unfold oF; omega) (fun q hq => absurd hq (by omega))
  rw [show nI 0 = (0 : Int32) from rfl] at this
  exact this
end NW
