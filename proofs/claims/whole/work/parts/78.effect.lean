/-! EFFECTS of the orders that do, on the reference's memory. -/
theorem u2_eq {f : jSc} {a k : Nat} {v : Int32} : j_u2 f a k v a k = v := if_pos ⟨rfl, rfl⟩
theorem u2_nk {f : jSc} {a b k j : Nat} {v : Int32} (h : j ≠ k) : j_u2 f a k v b j = f b j := if_neg (fun z => h z.2)
theorem u2_na {f : jSc} {a b k j : Nat} {v : Int32} (h : b ≠ a) : j_u2 f a k v b j = f b j := if_neg (fun z => h z.1)
/-- is one of the c forms from i on of kind k, on, at line l? -/
def m_fa (ar : jSc) (k l : Int32) : Nat → Nat → Bool
  | _, 0 => false
  | i, c + 1 => decide (¬ ar 106 i = 0 ∧ ar 102 i = k ∧ ar 104 i = l) || m_fa ar k l (i + 1) c
theorem m_fa_s {ar : jSc} {k l : Int32} {i c : Nat} : m_fa ar k l i (c + 1) = (decide (¬ ar 106 i = 0 ∧ ar 102 i = k ∧ ar 104 i = l) || m_fa ar k l (i + 1) c) := rfl
def m_fr (ar : jSc) (m : Nat) (k l : Int32) : Bool := m_fa ar k l 0 m
theorem r_isForm {S : Nat → Int32} {ar : jSc} {m : Nat} {k l : Int32} (hm : S 38 = nI m) (hm6 : m ≤ 6) : rF_35 k l S ar = some (if m_fr ar m k l = true then 1 else 0, S, ar) := by
  have go : ∀ (c i nn : Nat), i + c = m → c < nn → rF_35_2 nn k l (nI i) S ar = some (if m_fa ar k l i c = true then 1 else 0, S, ar) := by
    intro c
    induction c with
    | zero =>
      intro i nn h1 h2
      obtain ⟨j, rfl⟩ : ∃ j, nn = j + 1 := ⟨nn - 1, by omega⟩
      unfold rF_35_2
      rw [hm, if_pos (nI_le (by omega) (by omega))]
      rfl
    | succ c ih =>
      intro i nn h1 h2
      obtain ⟨j, rfl⟩ : ∃ j, nn = j + 1 := ⟨nn - 1, by omega⟩
      have e1 := iB_nI (k := i) (N := 6) (by omega) (by decide)
      have e2 : iN (nI i) = i := iN_nI (by omega)
      have e3 := ih (i + 1) j (by omega) (by omega)
      unfold rF_35_2
      rw [hm, if_neg (nI_ge (by omega) (by omega)), if_pos e1, if_pos e1, if_pos e1, e2, nI_1, e3, m_fa_s]
      by_cases a : ar 106 i = 0
      · rw [if_pos a]
        simp [a]
      · rw [if_neg a]
        by_cases b : ar 102 i = k
        · rw [if_pos b]
          by_cases d : ar 104 i = l
          · rw [if_pos d]; simp [a, b, d]
          · rw [if_neg d]; simp [d]
        · rw [if_neg b]; simp [b]
  exact go m 0 oF (by omega) (by rw [oF_s]; omega)
/-- the line l emptied -/
def eP (ar : jSc) (l : Nat) : jSc := j_u2 (j_u2 (j_u2 (j_u2 (j_u2 (j_u2 (j_u2 ar 13 (10 + l) 0) 13 (14 + 3 * l) 0) 13 (38 + 3 * l) 0) 13 (15 + 3 * l) 0) 13 (39 + 3 * l) 0) 13 (16 + 3 * l) 0) 13 (40 + 3 * l) 0
theorem nx {a b l : Nat} : ((nI a + (nI b * nI l)) : Int32) = nI (a + b * l) := by rw [nI_mul, nI_add]
theorem r_empties {S : Nat → Int32} {ar : jSc} {l : Nat} (hl : l < 4) : rF_36 (nI l) S ar = some (S, eP ar l) := by
  have e10 : (10 : Int32) + nI l = nI (10 + l) := nI_add 10 l
  have e14 : ∀ k : Nat, (14 : Int32) + 3 * nI l + nI k = nI (14 + 3 * l + k) := fun k => by rw [show (14 : Int32) = nI 14 from rfl, show (3 : Int32) = nI 3 from rfl, nx, nI_add]
  have e38 : ∀ k : Nat, (38 : Int32) + 3 * nI l + nI k = nI (38 + 3 * l + k) := fun k => by rw [show (38 : Int32) = nI 38 from rfl, show (3 : Int32) = nI 3 from rfl, nx, nI_add]
  have st : ∀ (k nn : Nat) (ar : jSc), k < 3 → rF_36_12 (nn + 1) (nI l) (nI k) S ar = rF_36_12 nn (nI l) (nI (k + 1)) S (j_u2 (j_u2 ar 13 (14 + 3 * l + k) 0) 13 (38 + 3 * l + k) 0) := by
    intro k nn ar hk
    conv => lhs; unfold rF_36_12
    have c3 : (3 : Int32) ≤ nI k ↔ 3 ≤ k := nI_leI (by decide) (by omega)
    rw [if_neg (fun z => absurd (c3.mp z) (by omega)), e14, e38, if_pos (iB_nI (by omega) (by decide)), if_pos (iB_nI (by omega) (by decide)), iN_nI (by omega), iN_nI (by omega), nI_1]
  have fin : ∀ (nn : Nat) (ar : jSc), rF_36_12 (nn + 1) (nI l) (nI 3) S ar = some (S, ar) := by
    intro nn ar
    unfold rF_36_12
    rw [if_pos (show (3 : Int32) ≤ nI 3 from by decide)]
  unfold rF_36
  rw [e10, if_pos (iB_nI (by omega) (by decide)), iN_nI (by omega), show oF = 9996 + 1 + 1 + 1 + 1 from rfl]
  show rF_36_12 (9996 + 1 + 1 + 1 + 1) (nI l) (nI 0) S _ = _
  rw [st 0 _ _ (by decide), st 1 _ _ (by decide), st 2 _ _ (by decide), fin]
  unfold eP
  rw [show 14 + 3 * l + 1 = 15 + 3 * l by omega, show 14 + 3 * l + 2 = 16 + 3 * l by omega, show 38 + 3 * l + 1 = 39 + 3 * l by omega, show 38 + 3 * l + 2 = 40 + 3 * l by omega]
  rfl
def m_wb (S : Nat → Int32) (b : Int32) : Int32 := S 28 ||| (1 <<< (b &&& 31))
/-- the effect of the order o with the mark m and the value v: what was written, ended, lost, the memory -/
def m_ef (o : Nat) (m v : Int32) (S : Nat → Int32) (ar : jSc) : Int32 × Int32 × Int32 × jSc :=
  if o = 18 then (m_wb S m, S 24, S 57, j_u2 ar 13 (iN m) v) else
  if o = 19 then (m_wb S (8 + m), S 24, S 57, j_u2 ar 13 8 (ar 13 8 ||| (1 <<< (m &&& 31)))) else
  if o = 20 then (m_wb S (8 + m), S 24, S 57, j_u2 ar 13 8 (ar 13 8 &&& ((1 <<< (m &&& 31)) ^^^ (-1)))) else
  if o = 21 then (m_wb S (8 + m), S 24, S 57, j_u2 ar 13 9 (ar 13 9 ||| (1 <<< (m &&& 31)))) else
  if o = 22 then (m_wb S (8 + m), S 24, S 57, j_u2 ar 13 9 (ar 13 9 &&& ((1 <<< (m &&& 31)) ^^^ (-1)))) else
  if o = 23 then (if ar 13 26 = 3 then (S 28, 1, S 57, j_u2 ar 13 37 1) else (S 28, S 24, S 57, j_u2 (j_u2 (j_u2 (j_u2 ar 13 (27 + iN (ar 13 26)) (nI (iN m / 1000))) 13 (30 + iN (ar 13 26)) (nI (iN m % 1000))) 13 (50 + iN (ar 13 26)) (S 26)) 13 26 (ar 13 26 + 1))) else
  if o = 24 then (if (if m_fr ar (iN (S 38)) 2 m = true then eP ar (iN m) else ar) 13 (10 + iN m) = 3 then (S 28, 1, S 57, j_u2 (if m_fr ar (iN (S 38)) 2 m = true then eP ar (iN m) else ar) 13 37 1) else (m_wb S (20 + m), S 24, S 57, j_u2 (j_u2 (j_u2 (if m_fr ar (iN (S 38)) 2 m = true then eP ar (iN m) else ar) 13 (14 + 3 * iN m + iN ((if m_fr ar (iN (S 38)) 2 m = true then eP ar (iN m) else ar) 13 (10 + iN m))) v) 13 (38 + 3 * iN m + iN ((if m_fr ar (iN (S 38)) 2 m = true then eP ar (iN m) else ar) 13 (10 + iN m))) (S 26)) 13 (10 + iN m) ((if m_fr ar (iN (S 38)) 2 m = true then eP ar (iN m) else ar) 13 (10 + iN m) + 1))) else
  if o = 25 then (m_wb S (20 + m), S 24, S 57, eP ar (iN m)) else
  if o = 26 then (if S 29 = -1 then (m_wb S (16 + m), S 24, S 57, j_u2 ar 13 (33 + iN m) v) else (m_wb S (16 + m), S 24, (if ar 716 (iN m) = 1 - S 29 ∧ ar (718 + iN (S 29)) (iN m) = 0 then S 57 + 1 else S 57), j_u2 (j_u2 (j_u2 ar 13 (33 + iN m) v) 716 (iN m) (S 29)) (718 + iN (1 - S 29)) (iN m) 0)) else
  (S 28, 1, S 57, j_u2 ar 13 37 1)
/-- the state behind an effect -/
def sE (S : Nat → Int32) (e : Int32 × Int32 × Int32 × jSc) : Nat → Int32 := upd (upd (upd S 28 e.1) 24 e.2.1) 57 e.2.2.1
/-- how many answers and clocks wait -/
def pgC (P : Nat → Int32) : Prop := (∀ l, l < 4 → ∃ k, k ≤ 3 ∧ P (10 + l) = nI k) ∧ ∃ k, k ≤ 3 ∧ P 26 = nI k
/-- may the mark m stand at the order o? -/
def o_mk (o : Nat) (m : Int32) : Prop := if o ≤ 22 then (∃ d, d < 8 ∧ m = nI d) else if o = 23 then (∃ d h, d ≤ 3 ∧ h ≤ 999 ∧ m = nI (d * 1000 + h)) else if o ≤ 26 then (∃ d, d < 4 ∧ m = nI d) else True
theorem sE_28 {S : Nat → Int32} {x : Int32} {a : jSc} : sE S (x, S 24, S 57, a) = upd S 28 x := by
  funext k
  unfold sE
  by_cases h : k = 57
  · subst h; rfl
  · by_cases h2 : k = 24
    · subst h2; rfl
    · simp [upd, h, h2]
theorem sE_24 {S : Nat → Int32} {x : Int32} {a : jSc} : sE S (S 28, x, S 57, a) = upd S 24 x := by
  funext k
  unfold sE
  by_cases h : k = 57
  · subst h; rfl
  · by_cases h2 : k = 28
    · subst h2; rfl
    · simp [upd, h, h2]
theorem sE_57 {S : Nat → Int32} {x y : Int32} {a : jSc} : sE S (x, S 24, y, a) = upd (upd S 28 x) 57 y := by
  funext k
  unfold sE
  by_cases h2 : k = 24
  · subst h2; rfl
  · simp [upd, h2]
theorem sE_0 {S : Nat → Int32} {a : jSc} : sE S (S 28, S 24, S 57, a) = S := by
  rw [sE_28]; exact up_3
theorem ef_18 {S : Nat → Int32} {ar : jSc} {m v : Int32} (hm : o_mk 18 m) : rF_31 m v S ar = some (sE S (m_ef 18 m v S ar), (m_ef 18 m v S ar).2.2.2) := by
  obtain ⟨d, h1, rfl⟩ := hm
  unfold rF_31
  rw [if_pos (iB_nI (by omega) (by decide))]
  show some (_, j_u2 ar 13 (iN (nI d)) v) = some (sE S (_, S 24, S 57, _), j_u2 ar 13 (iN (nI d)) v)
  rw [sE_28]
  rfl
theorem ef_th {S : Nat → Int32} {ar : jSc} {m v : Int32} {o : Nat} (ho : 19 ≤ o ∧ o ≤ 22) : rF_32 (nI (o - 18)) m S ar = some (sE S (m_ef o m v S ar), (m_ef o m v S ar).2.2.2) := by
  unfold rF_32
  rcases (show o = 19 ∨ o = 20 ∨ o = 21 ∨ o = 22 by omega) with rfl | rfl | rfl | rfl
  · rw [if_pos (by decide)]
    show some (_, _) = some (sE S (_, S 24, S 57, _), _)
    rw [sE_28]; rfl
  · rw [if_neg (by decide), if_pos (by decide)]
    show some (_, _) = some (sE S (_, S 24, S 57, _), _)
    rw [sE_28]; rfl
  · rw [if_neg (by decide), if_neg (by decide), if_pos (by decide)]
    show some (_, _) = some (sE S (_, S 24, S 57, _), _)
    rw [sE_28]; rfl
  · rw [if_neg (by decide), if_neg (by decide), if_neg (by decide)]
    show some (_, _) = some (sE S (_, S 24, S 57, _), _)
    rw [sE_28]; rfl
theorem ef_27 {S : Nat → Int32} {ar : jSc} {m v : Int32} : rF_33 S ar = some (sE S (m_ef 27 m v S ar), (m_ef 27 m v S ar).2.2.2) := by
  unfold rF_33
  show some (_, _) = some (sE S (S 28, 1, S 57, _), _)
  rw [sE_24]; rfl
theorem ef_23 {S : Nat → Int32} {ar : jSc} {d h : Nat} {v : Int32} (hd : d ≤ 3) (hh : h ≤ 999) (hP : pgC (ar 13)) : rF_34 (nI d) (nI h) S ar = some (sE S (m_ef 23 (nI (d * 1000 + h)) v S ar), (m_ef 23 (nI (d * 1000 + h)) v S ar).2.2.2) := by
  obtain ⟨-, k, hk, ek⟩ := hP
  have e1 : m_ef 23 (nI (d * 1000 + h)) v S ar = (if ar 13 26 = 3 then (S 28, 1, S 57, j_u2 ar 13 37 1) else (S 28, S 24, S 57, j_u2 (j_u2 (j_u2 (j_u2 ar 13 (27 + iN (ar 13 26)) (nI (iN (nI (d * 1000 + h)) / 1000))) 13 (30 + iN (ar 13 26)) (nI (iN (nI (d * 1000 + h)) % 1000))) 13 (50 + iN (ar 13 26)) (S 26)) 13 26 (ar 13 26 + 1))) := rfl
  have e3 : nI k = (3 : Int32) ↔ k = 3 := nI_eq (by omega) (by decide)
  unfold rF_34
  rw [e1, ek]
  by_cases c : k = 3
  · rw [if_pos (e3.mpr c), if_pos (e3.mpr c)]
    unfold rF_33
    rw [ob2, sE_24]
  · rw [if_neg (fun z => c (e3.mp z)), if_neg (fun z => c (e3.mp z)), sE_0]
    have a1 : (27 : Int32) + nI k = nI (27 + k) := nI_add 27 k
    have a2 : (30 : Int32) + nI k = nI (30 + k) := nI_add 30 k
    have a3 : (50 : Int32) + nI k = nI (50 + k) := nI_add 50 k
    rw [a1, a2, a3, if_pos (iB_nI (by omega) (by decide)), if_pos (iB_nI (by omega) (by decide)), if_pos (iB_nI (by omega) (by decide)), iN_nI (by omega), iN_nI (by omega), iN_nI (by omega), iN_nI (by omega), iN_nI (by omega), show (d * 1000 + h) / 1000 = d by omega, show (d * 1000 + h) % 1000 = h by omega, u2_nk (by omega), u2_nk (by omega), u2_nk (by omega), ek]
theorem ef_24a {S : Nat → Int32} {ar : jSc} {l : Nat} {v : Int32} (hl : l < 4) (hP : ∃ k, k ≤ 3 ∧ ar 13 (10 + l) = nI k) : rF_37_14 (nI l) v S ar = (if ar 13 (10 + l) = 3 then some (upd S 24 1, j_u2 ar 13 37 1) else some (upd S 28 (m_wb S (20 + nI l)), j_u2 (j_u2 (j_u2 ar 13 (14 + 3 * l + iN (ar 13 (10 + l))) v) 13 (38 + 3 * l + iN (ar 13 (10 + l))) (S 26)) 13 (10 + l) (ar 13 (10 + l) + 1))) := by
  obtain ⟨k, hk, ek⟩ := hP
  have e10 : (10 : Int32) + nI l = nI (10 + l) := nI_add 10 l
  have e14 : (14 : Int32) + 3 * nI l + nI k = nI (14 + 3 * l + k) := by rw [show (14 : Int32) = nI 14 from rfl, show (3 : Int32) = nI 3 from rfl, nx, nI_add]
  have e38 : (38 : Int32) + 3 * nI l + nI k = nI (38 + 3 * l + k) := by rw [show (38 : Int32) = nI 38 from rfl, show (3 : Int32) = nI 3 from rfl, nx, nI_add]
  have e3 : nI k = (3 : Int32) ↔ k = 3 := nI_eq (by omega) (by decide)
  unfold rF_37_14
  rw [e10, if_pos (iB_nI (by omega) (by decide)), iN_nI (by omega), ek]
  by_cases c : k = 3
  · rw [if_pos (e3.mpr c), if_pos (e3.mpr c)]
    unfold rF_33
    rw [ob2]
  · rw [if_neg (fun z => c (e3.mp z)), if_neg (fun z => c (e3.mp z)), e14, e38, if_pos (iB_nI (by omega) (by decide)), if_pos (iB_nI (by omega) (by decide)), if_pos (iB_nI (by omega) (by decide)), if_pos (iB_nI (by omega) (by decide)), iN_nI (by omega), iN_nI (by omega), iN_nI (by omega), u2_nk (by omega), u2_nk (by omega), ek]
    rfl
theorem eP_at {ar : jSc} {l : Nat} (hl : l < 4) : eP ar l 13 (10 + l) = 0 := by
  unfold eP
  rw [u2_nk (by omega), u2_nk (by omega), u2_nk (by omega), u2_nk (by omega), u2_nk (by omega), u2_nk (by omega), u2_eq]
theorem ef_24 {S : Nat → Int32} {ar : jSc} {l m : Nat} {v : Int32} (hl : l < 4) (hm : S 38 = nI m) (hm6 : m ≤ 6) (hP : pgC (ar 13)) : rF_37 (nI l) v S ar = some (sE S (m_ef 24 (nI l) v S ar), (m_ef 24 (nI l) v S ar).2.2.2) := by
  have e2 : iN (nI l) = l := iN_nI (by omega)
  have e3 : iN (S 38) = m := by rw [hm]; exact iN_nI (by omega)
  have e1 : ∀ ar1, (if m_fr ar m 2 (nI l) = true then eP ar l else ar) = ar1 → m_ef 24 (nI l) v S ar = (if ar1 13 (10 + l) = 3 then (S 28, 1, S 57, j_u2 ar1 13 37 1) else (m_wb S (20 + nI l), S 24, S 57, j_u2 (j_u2 (j_u2 ar1 13 (14 + 3 * l + iN (ar1 13 (10 + l))) v) 13 (38 + 3 * l + iN (ar1 13 (10 + l))) (S 26)) 13 (10 + l) (ar1 13 (10 + l) + 1))) := by
    intro ar1 h
    show (if (if m_fr ar (iN (S 38)) 2 (nI l) = true then eP ar (iN (nI l)) else ar) 13 (10 + iN (nI l)) = 3 then _ else _) = _
    rw [e3, e2, h]
  have fin : ∀ ar1, (∃ k, k ≤ 3 ∧ ar1 13 (10 + l) = nI k) → rF_37_14 (nI l) v S ar1 = some (sE S (if ar1 13 (10 + l) = 3 then (S 28, 1, S 57, j_u2 ar1 13 37 1) else (m_wb S (20 + nI l), S 24, S 57, j_u2 (j_u2 (j_u2 ar1 13 (14 + 3 * l + iN (ar1 13 (10 + l))) v) 13 (38 + 3 * l + iN (ar1 13 (10 + l))) (S 26)) 13 (10 + l) (ar1 13 (10 + l) + 1))), (if ar1 13 (10 + l) = 3 then (S 28, (1 : Int32), S 57, j_u2 ar1 13 37 1) else (m_wb S (20 + nI l), S 24, S 57, j_u2 (j_u2 (j_u2 ar1 13 (14 + 3 * l + iN (ar1 13 (10 + l))) v) 13 (38 + 3 * l + iN (ar1 13 (10 + l))) (S 26)) 13 (10 + l) (ar1 13 (10 + l) + 1))).2.2.2) := by
    intro ar1 h
    rw [ef_24a hl h]
    by_cases c : ar1 13 (10 + l) = 3
    · rw [if_pos c, if_pos c, sE_24]
    · rw [if_neg c, if_neg c, sE_28]
  unfold rF_37
  rw [show (2 : Int32) = nI 2 from rfl, r_isForm hm hm6, ob3]
  by_cases c : m_fr ar m 2 (nI l) = true
  · rw [if_pos (show m_fr ar m (nI 2) (nI l) = true from c), if_neg (by decide), r_empties hl, ob2, fin _ ⟨0, by omega, eP_at hl⟩, e1 (eP ar l) (if_pos c)]
  · rw [if_neg (show ¬ m_fr ar m (nI 2) (nI l) = true from c), if_pos rfl, fin _ (hP.1 l hl), e1 ar (if_neg c)]
theorem ef_25 {S : Nat → Int32} {ar : jSc} {l : Nat} {v : Int32} (hl : l < 4) : rF_38 (nI l) S ar = some (sE S (m_ef 25 (nI l) v S ar), (m_ef 25 (nI l) v S ar).2.2.2) := by
  have e1 : m_ef 25 (nI l) v S ar = (m_wb S (20 + nI l), S 24, S 57, eP ar l) := by
    show (m_wb S (20 + nI l), S 24, S 57, eP ar (iN (nI l))) = _
    rw [iN_nI (by omega)]
  unfold rF_38
  rw [r_empties hl, ob2, e1, sE_28]
  rfl
theorem ef_26 {S : Nat → Int32} {ar : jSc} {l : Nat} {v : Int32} (hl : l < 4) (hw : S 29 = -1 ∨ S 29 = 0 ∨ S 29 = 1) : rF_39 (nI l) v S ar = some (sE S (m_ef 26 (nI l) v S ar), (m_ef 26 (nI l) v S ar).2.2.2) := by
  have e2 : iN (nI l) = l := iN_nI (by omega)
  have e1 : m_ef 26 (nI l) v S ar = (if S 29 = -1 then (m_wb S (16 + nI l), S 24, S 57, j_u2 ar 13 (33 + l) v) else (m_wb S (16 + nI l), S 24, (if ar 716 l = 1 - S 29 ∧ ar (718 + iN (S 29)) l = 0 then S 57 + 1 else S 57), j_u2 (j_u2 (j_u2 ar 13 (33 + l) v) 716 l (S 29)) (718 + iN (1 - S 29)) l 0)) := by
    show (if S 29 = -1 then (m_wb S (16 + nI l), S 24, S 57, j_u2 ar 13 (33 + iN (nI l)) v) else (m_wb S (16 + nI l), S 24, (if ar 716 (iN (nI l)) = 1 - S 29 ∧ ar (718 + iN (S 29)) (iN (nI l)) = 0 then S 57 + 1 else S 57), j_u2 (j_u2 (j_u2 ar 13 (33 + iN (nI l)) v) 716 (iN (nI l)) (S 29)) (718 + iN (1 - S 29)) (iN (nI l)) 0)) = _
    rw [e2]
  have a1 : (33 : Int32) + nI l = nI (33 + l) := nI_add 33 l
  have b4 := iB_nI (k := l) (N := 4) hl (by decide)
  unfold rF_39
  rw [e1, a1, if_pos (iB_nI (by omega) (by decide)), iN_nI (by omega)]
  by_cases c : S 29 = -1
  · rw [if_pos c, if_pos c, sE_28]
    rfl
  · have hw2 : S 29 = 0 ∨ S 29 = 1 := hw.elim (fun z => absurd z c) id
    have w1 : iB (S 29) 2 := by rcases hw2 with e | e <;> rw [e] <;> decide
    have w2 : iB (1 - S 29) 2 := by rcases hw2 with e | e <;> rw [e] <;> decide
    have w3 := iB_lt w1
    have f73 : ∀ (S1 : Nat → Int32) (ar1 : jSc), S1 29 = S 29 → rF_39_73 (nI l) S1 ar1 = some (S1, j_u2 (j_u2 ar1 716 l (S 29)) (718 + iN (1 - S 29)) l 0) := by
      intro S1 ar1 h
      unfold rF_39_73
      rw [h, if_pos b4, if_pos w2, if_pos b4, e2]
    rw [if_neg c, if_neg c, if_pos b4, if_pos w1, if_pos b4, e2, u2_na (by omega)]
    by_cases d1 : ar 716 l = 1 - S 29
    · rw [if_pos d1]
      by_cases d2 : ar (718 + iN (S 29)) l = 0
      · rw [if_pos d2, if_pos ⟨d1, d2⟩, sE_57]
        exact f73 _ _ rfl
      · rw [if_neg d2, if_neg (fun z => d2 z.2), sE_28]
        exact f73 _ _ rfl
    · rw [if_neg d1, if_neg (fun z => d1 z.1), sE_28]
      exact f73 _ _ rfl
