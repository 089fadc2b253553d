/-! A HAPPENING on both sides. -/
def m_b1 (ar : jSc) (t l : Int32) : Nat → Nat → Bool
  | _, 0 => false
  | i, c + 1 => decide (¬ ar 106 i = 0 ∧ ar 102 i = 0 ∧ ar 103 i = t ∧ ar 104 i = l) || m_b1 ar t l (i + 1) c
theorem m_b1_s {ar : jSc} {t l : Int32} {i c : Nat} : m_b1 ar t l i (c + 1) = (decide (¬ ar 106 i = 0 ∧ ar 102 i = 0 ∧ ar 103 i = t ∧ ar 104 i = l) || m_b1 ar t l (i + 1) c) := rfl
theorem m_ba_b1 {ar : jSc} {m : Nat} {t : Int32} {P : Nat → Int32} (hf : fG ar m) : ∀ c i, i + c = m → (m_ba ar t P i c = true ↔ ∃ l, l < 4 ∧ m_b1 ar t (nI l) i c = true ∧ ¬ P (10 + l) ≤ 0) := by
  intro c
  induction c with
  | zero =>
    intro i h
    constructor
    · intro z; cases z
    · rintro ⟨l, -, z, -⟩; cases z
  | succ c ih =>
    intro i h
    obtain ⟨l0, hl0, e0⟩ := hf.2 i (by omega)
    rw [m_ba_s, Bool.or_eq_true, ih (i + 1) (by omega), decide_eq_true_iff, e0, iN_nI (by omega)]
    constructor
    · rintro (⟨z1, z2, z3, z4⟩ | ⟨l, y1, y2, y3⟩)
      · refine ⟨l0, hl0, ?_, z4⟩
        rw [m_b1_s, Bool.or_eq_true, decide_eq_true_iff]
        exact Or.inl ⟨z1, z2, z3, e0⟩
      · refine ⟨l, y1, ?_, y3⟩
        rw [m_b1_s, Bool.or_eq_true]
        exact Or.inr y2
    · rintro ⟨l, y1, y2, y3⟩
      rw [m_b1_s, Bool.or_eq_true, decide_eq_true_iff] at y2
      rcases y2 with ⟨z1, z2, z3, z4⟩ | y2
      · have : l0 = l := (nI_eq (by omega) (by omega)).mp (e0.symm.trans z4)
        subst this
        exact Or.inl ⟨z1, z2, z3, y3⟩
      · exact Or.inr ⟨l, y1, y2, y3⟩
/-- the forms that are on, on both sides; m of them -/
def fR (m : Nat) (ar sc car : jSc) : Prop := fG ar m ∧ (∀ l, l < 4 → bt (sc 736 8) l = m_fr ar m 2 (nI l)) ∧ (∀ l, l < 4 → bt (sc 736 7) l = m_fr ar m 1 (nI l)) ∧ ∀ t l, t < 8 → l < 4 → bt (car 741 t) l = m_b1 ar (nI t) (nI l) 0 m
section HH
variable {cb : Bool} {c27 c28 : Int32} {S S2 : Nat → Int32} {ar ar2 : jSc} {pp : Nat} {sc car sc2 car2 : jSc} {mr : Nat → Nat} {al : jAl} {o0 : Nat → Bool} {d57 : Int32} {pr n p m : Nat} {tx : Nat → Int32} {g : pG} {P : Nat → Int32}
theorem c_busy (hR : pgR P (car (pp + 1))) : ∃ B, xF_232 pp sc mr car al = some (B, sc, mr, car, al) ∧ ∀ i, i < 32 → bt B i = decide (i < 4 ∧ ¬ P (10 + i) ≤ 0) := by
  have go : ∀ c j nn (x : Int32), j + c = 4 → c < nn → (∀ i, i < 32 → bt x i = decide (i < j ∧ ¬ P (10 + i) ≤ 0)) → ∃ B, xF_232_4 nn pp x (nI j) sc mr car al = some (B, sc, mr, car, al) ∧ ∀ i, i < 32 → bt B i = decide (i < 4 ∧ ¬ P (10 + i) ≤ 0) := by
    intro c
    induction c with
    | zero =>
      intro j nn x h1 h2 h3
      obtain ⟨nn, rfl⟩ : ∃ i, nn = i + 1 := ⟨nn - 1, by omega⟩
      have : j = 4 := by omega
      subst this
      refine ⟨x, ?_, h3⟩
      unfold xF_232_4
      rw [if_pos (by decide)]
    | succ c ih =>
      intro j nn x h1 h2 h3
      obtain ⟨nn, rfl⟩ : ∃ i, nn = i + 1 := ⟨nn - 1, by omega⟩
      have c4 : (4 : Int32) ≤ nI j ↔ 4 ≤ j := nI_leI (by decide) (by omega)
      have e15 : (15 : Int32) + nI j = nI (15 + j) := nI_add 15 j
      have ew : xF_232_4 (nn + 1) pp x (nI j) sc mr car al = xF_232_4 (nn + 1) pp x (nI j) sc mr car al := rfl
      conv at ew => rhs; unfold xF_232_4
      rw [if_neg (fun z => absurd (c4.mp z) (by omega)), e15, if_pos (iB_nI (by omega) (by decide)), iN_nI (by omega), pgR_i hR (by omega), nI_1] at ew
      by_cases z : P (10 + j) ≤ 0
      · rw [if_pos z] at ew
        obtain ⟨B, b1, b2⟩ := ih (j + 1) nn x (by omega) (by omega) (fun i hi => by
          rw [h3 i hi]
          by_cases c : i = j
          · subst c; simp [z]
          · simp [show i < j + 1 ↔ i < j by omega])
        exact ⟨B, ew.trans b1, b2⟩
      · rw [if_neg z] at ew
        obtain ⟨B, b1, b2⟩ := ih (j + 1) nn (x ||| (1 <<< (nI j &&& 31))) (by omega) (by omega) (fun i hi => by
          rw [bt_or (by omega) hi, h3 i hi]
          by_cases c : i = j
          · subst c; simp [z]
          · simp [c, show i < j + 1 ↔ i < j by omega])
        exact ⟨B, ew.trans b1, b2⟩
  exact go 4 0 oF 0 (by omega) (by unfold oF; omega) (fun i _ => by rw [b_0]; simp)
/-- what may come, says the hand -/
theorem c_may {c : Nat} (hf : fR m ar sc car) (hc : c < 13) (hR : pgR P (car (pp + 1))) : xF_206 pp (nI c) sc mr car al = some (if aCan ar m P c = true then 1 else 0, sc, mr, car, al) := by
  obtain ⟨f1, -, -, f4⟩ := hf
  have l8 : (8 : Int32) ≤ nI c ↔ 8 ≤ c := nI_leI (by decide) (by omega)
  have e8 : nI c = (8 : Int32) ↔ c = 8 := nI_eq (by omega) (by decide)
  unfold xF_206 aCan
  by_cases c8 : 8 ≤ c
  · rw [if_pos (l8.mpr c8)]
    by_cases d8 : c = 8
    · obtain ⟨k, hk, ek⟩ := hR.2.2.1.2
      have c19 : car (pp + 1) 19 = nI k := (hR.1 19 (by decide)).trans ek
      rw [if_pos (e8.mpr d8), if_pos d8]
      unfold xF_233
      rw [ob5, c19, ek]
      by_cases z : nI k = 0
      · rw [if_pos ((le0_nI (by omega)).mpr z)]; simp [z]
      · rw [if_neg (fun y => z ((le0_nI (by omega)).mp y))]; simp [z]
    · obtain ⟨k, hk, ek⟩ := hR.2.2.1.1 (c - 9) (by omega)
      have e9 : nI c - (9 : Int32) = nI (c - 9) := nI_sub (b := 9) (by omega)
      have e15 : (15 : Int32) + nI (c - 9) = nI (15 + (c - 9)) := nI_add 15 (c - 9)
      rw [if_neg (fun z => d8 (e8.mp z)), if_neg d8, if_pos (show 8 < c by omega)]
      unfold xF_230
      rw [e9, e15, if_pos (iB_nI (by omega) (by decide)), ob5, iN_nI (by omega), pgR_i hR (by omega), ek]
      by_cases z : nI k = 0
      · rw [if_pos ((le0_nI (by omega)).mpr z)]; simp [z]
      · rw [if_neg (fun y => z ((le0_nI (by omega)).mp y))]; simp [z]
  · rw [if_neg (fun z => c8 (l8.mp z)), if_neg (show ¬ c = 8 by omega), if_neg (show ¬ 8 < c by omega), if_pos (iB_nI (by omega) (by decide)), iN_nI (by omega)]
    obtain ⟨B, b1, b2⟩ := c_busy (sc := sc) (mr := mr) (al := al) hR
    have i8 : car (pp + 1) 8 = P 8 := hR.1 8 (by decide)
    have i9 : car (pp + 1) 9 = P 9 := hR.1 9 (by decide)
    unfold xF_229
    rw [ob5, i8, i9]
    have bb : bt (P 8 &&& (P 9 ^^^ (-1))) c = (bt (P 8) c && !bt (P 9) c) := by
      rw [b_and, b_xor, b_m1 c (by omega)]; simp
    by_cases fr : (bt (P 8) c && !bt (P 9) c) = true
    · rw [if_neg (fun z => by rw [bt_s0 (by omega), bb, fr] at z; cases z), b1, ob5, fr]
      have key : (car 741 c &&& B) = 0 ↔ ¬ m_ba ar (nI c) P 0 m = true := by
        rw [m_ba_b1 f1 m 0 (by omega)]
        constructor
        · rintro z ⟨l, y1, y2, y3⟩
          have := congrArg (fun x => bt x l) z
          simp only [b_and, b_0] at this
          rw [f4 c l (by omega) y1, y2, b2 l (by omega)] at this
          simp [y1, y3] at this
        · intro z
          apply b_ext
          intro i hi
          rw [b_and, b_0, b2 i hi]
          by_cases c4 : i < 4 ∧ ¬ P (10 + i) ≤ 0
          · rw [f4 c i (by omega) c4.1]
            by_cases y : m_b1 ar (nI c) (nI i) 0 m = true
            · exact absurd ⟨i, c4.1, y, c4.2⟩ z
            · simp [y]
          · rw [decide_eq_false c4, Bool.and_false]
      by_cases z0 : car 741 c = 0
      · have : (car 741 c &&& B) = 0 := by rw [z0]; exact Int32.zero_and
        rw [if_pos z0]
        simp [key.mp this]
      · rw [if_neg z0]
        by_cases z : (car 741 c &&& B) = 0
        · rw [if_pos z]
          simp [key.mp z]
        · rw [if_neg z]
          have : m_ba ar (nI c) P 0 m = true := by
            by_cases y : m_ba ar (nI c) P 0 m = true
            · exact y
            · exact absurd (key.mpr y) z
          simp [this]
    · rw [if_pos ((bt_s0 (by omega)).mpr (by rw [bb]; simpa using fr))]
      have : (bt (P 8) c && !bt (P 9) c) = false := by simpa using fr
      simp [this]
theorem h_norun : xF_213 pp (-1) sc mr car al = some (j_u2 sc 757 9 0, mr, car, al) := by
  unfold xF_213
  show xF_213_7 (9999 + 1) pp (-1) _ mr car al = _
  unfold xF_213_7
  rw [if_pos (by decide)]
/-- what a happening leaves of the hand -/
def hF7 (sc sc2 : jSc) : Prop := ∀ a k, ¬ (a = 757 ∧ 3 ≤ k ∧ k ≤ 9) → sc2 a k = sc a k
theorem hF7_s (h : hFs sc sc2) : hF7 sc sc2 := fun a k z => h a k (fun y => z ⟨y.1, by omega⟩)
theorem hF7_tr {sc3 : jSc} (h : hF7 sc sc2) (h2 : hF7 sc2 sc3) : hF7 sc sc3 := fun a k z => (h2 a k z).trans (h a k z)
theorem hF7_u {f : jSc} {k0 : Nat} {x : Int32} (hk : 3 ≤ k0 ∧ k0 ≤ 9) (h : hF7 sc f) : hF7 sc (j_u2 f 757 k0 x) := by
  intro a k hn
  by_cases e : a = 757
  · rw [u2_nk (fun z => hn ⟨e, by omega⟩)]; exact h a k hn
  · rw [u2_na e]; exact h a k hn
/-- what a happening leaves of the reference -/
def rF7 (S S9 : Nat → Int32) : Prop := ∀ k, (k < 3 ∨ (8 ≤ k ∧ k ≤ 16) ∨ (18 ≤ k ∧ k ≤ 21) ∨ (29 ≤ k ∧ k ≠ 57)) → S9 k = S k
theorem rF7_r {S9 : Nat → Int32} (h : runF S S9) : rF7 S S9 := by
  intro k hk
  have b : ∀ j, k ≠ j → (k == j) = false := fun j hj => by simpa using hj
  exact h k (b 3 (by omega)) (b 4 (by omega)) (b 5 (by omega)) (b 6 (by omega)) (b 7 (by omega)) (b 17 (by omega)) (b 22 (by omega)) (b 23 (by omega)) (b 24 (by omega)) (b 27 (by omega)) (b 28 (by omega)) (b 57 (by omega))
theorem rF7_tr {S3 : Nat → Int32} (h : rF7 S S2) (h2 : rF7 S2 S3) : rF7 S S3 := fun k z => (h2 k z).trans (h k z)
theorem rF7_u {f : Nat → Int32} {k0 : Nat} {x : Int32} (hk : k0 = 25 ∨ k0 = 26 ∨ k0 = 27 ∨ k0 = 28) (h : rF7 S f) : rF7 S (upd f k0 x) := fun k z => (up_n (by omega)).trans (h k z)
theorem rowF_va {Q : Nat → Int32} : rowF ar (va_up ar 13 Q) := fun b h _ _ _ => va_up_ne _ _ (by simpa using h)
/-- what the happening leaves, all told -/
def hHp (cb : Bool) (o0 : Nat → Bool) (d57 : Int32) (pp : Nat) (S : Nat → Int32) (ar sc car : jSc) (mr : Nat → Nat) (al : jAl) (xr : Option (Int32 × (Nat → Int32) × jSc)) (xc : Option (Int32 × jSc × (Nat → Nat) × jSc × jAl)) : Prop :=
  ∃ v v2 S9 ar9 sc2 car2, xr = some (v, S9, ar9) ∧ xc = some (v2, sc2, mr, car2, al) ∧ (cb = true → v2 = v) ∧ hI cb 0 0 S9 ar9 pp sc2 car2 ∧ hWn o0 d57 S9 ar9 sc2 ∧ hF7 sc sc2 ∧ hFa pp car car2 ∧ rF7 S S9 ∧ rowG S ar ar9
theorem gRf_f (h : gRf pr n tx g ar) (hR : rowF ar ar2) : gRf pr n tx g ar2 := by
  obtain ⟨g1, g2, g3, g4, g5, g6, g7, g8, g9⟩ := h
  have r : ∀ b, b < 13 → ar2 b = ar b := fun b hb => hR b (by simp; omega) (by simp; omega) (by simp; omega) (by simp; omega)
  refine ⟨g1, g2, by rw [r 8 (by decide)]; exact g3, fun q hq => by rw [r _ (by omega)]; exact g4 q hq, g5, g6, fun e he => by rw [r _ (by omega)]; exact g7 e he, by rw [r 10 (by decide)]; exact g8, by rw [r 11 (by decide)]; exact g9⟩
theorem gCl_f (hpp : 759 ≤ pp) (h : gCl p g sc car) (hF : hF7 sc sc2) (hA : hFa pp car car2) : gCl p g sc2 car2 := by
  obtain ⟨c1, ⟨c2, c2b⟩, c3, c4, c5⟩ := h
  have hp := x_pr_ne c1
  have r : ∀ b, b ≤ 757 → car2 b = car b := fun b hb => hA b (by omega) (by omega)
  refine ⟨c1, ⟨(hF p 3 (by omega)).trans c2, fun i hi => by rw [r (p + 1) (by omega), r (p + 2) (by omega)]; exact c2b i hi⟩, fun e he => by rw [r (p + 3) (by omega)]; exact c3 e he, (hF p 7 (by omega)).trans c4, (hF p 8 (by omega)).trans c5⟩
end HH
