/-! THE REFERENCE: steps and ifs. -/
theorem up_c {S : Nat → Int32} {a b : Nat} {x y : Int32} (h : (a == b) = false) : upd (upd S a x) b y = upd (upd S b y) a x := by
  have h : ¬ a = b := by simpa using h
  funext k
  by_cases e : k = a
  · subst e; simp [upd, h]
  · by_cases e2 : k = b
    · subst e2; simp [upd, e]
    · simp [upd, e, e2]
theorem sQ_u {S : Nat → Int32} {q o k : Nat} {rd x : Int32} (h5 : (5 == k) = false) (h6 : (6 == k) = false) (h7 : (27 == k) = false) : upd (sQ S q o rd) k x = sQ (upd S k x) q o rd := by
  unfold sQ sA
  rw [up_c h5, up_c h6, up_c h7]
theorem sE_Q {S : Nat → Int32} {q o : Nat} {c rd : Int32} {e : Int32 × Int32 × Int32 × jSc} : sE (sQ (upd S 17 c) q o rd) e = sQ (upd (sE S e) 17 c) q o rd := by
  unfold sE
  rw [sQ_u rfl rfl rfl, sQ_u rfl rfl rfl, sQ_u rfl rfl rfl, up_c (a := 17) (b := 28) rfl, up_c (a := 17) (b := 24) rfl, up_c (a := 17) (b := 57) rfl]
theorem sE_r {S : Nat → Int32} {rd : Int32} {e : Int32 × Int32 × Int32 × jSc} : sE (upd S 27 rd) e = upd (sE S e) 27 rd := by
  unfold sE
  rw [up_c (a := 27) (b := 28) rfl, up_c (a := 27) (b := 24) rfl, up_c (a := 27) (b := 57) rfl]
theorem sE_k {S : Nat → Int32} {e : Int32 × Int32 × Int32 × jSc} {k : Nat} (h1 : (k == 28) = false) (h2 : (k == 24) = false) (h3 : (k == 57) = false) : sE S e k = S k := by
  unfold sE
  rw [up_1 h3, up_1 h2, up_1 h1]
theorem m_ef_c {S T : Nat → Int32} {ar : jSc} {o : Nat} {m v : Int32} (h24 : S 24 = T 24) (h26 : S 26 = T 26) (h28 : S 28 = T 28) (h29 : S 29 = T 29) (h38 : S 38 = T 38) (h57 : S 57 = T 57) : m_ef o m v S ar = m_ef o m v T ar := by
  unfold m_ef m_wb
  rw [h24, h26, h28, h29, h38, h57]
theorem m_ef_v {S : Nat → Int32} {ar : jSc} {o : Nat} {m v u : Int32} (h : ¬ (o = 18 ∨ o = 24 ∨ o = 26)) : m_ef o m v S ar = m_ef o m u S ar := by
  unfold m_ef
  have h1 : ¬ o = 18 := fun z => h (Or.inl z)
  have h2 : ¬ o = 24 := fun z => h (Or.inr (Or.inl z))
  have h3 : ¬ o = 26 := fun z => h (Or.inr (Or.inr z))
  simp only [h1, h2, h3, if_false]
/-- rows that the effects leave -/
def rowF (ar ar2 : jSc) : Prop := ∀ b, (b == 13) = false → (b == 716) = false → (b == 718) = false → (b == 719) = false → ar2 b = ar b
theorem rowF_rf (ar : jSc) : rowF ar ar := fun _ _ _ _ _ => rfl
theorem rowF_tr {a b c : jSc} (h : rowF a b) (h2 : rowF b c) : rowF a c := fun k w x y z => (h2 k w x y z).trans (h k w x y z)
theorem rowF_u {ar : jSc} {a k : Nat} {v : Int32} (h : a = 13 ∨ a = 716 ∨ a = 718 ∨ a = 719) : rowF ar (j_u2 ar a k v) := fun b w x y z => j_u2_row _ _ _ _ (fun e => by subst e; rcases h with rfl | rfl | rfl | rfl <;> simp_all)
theorem rowF_eP {ar : jSc} {l : Nat} : rowF ar (eP ar l) := by
  unfold eP
  exact rowF_tr (rowF_u (Or.inl rfl)) (rowF_tr (rowF_u (Or.inl rfl)) (rowF_tr (rowF_u (Or.inl rfl)) (rowF_tr (rowF_u (Or.inl rfl)) (rowF_tr (rowF_u (Or.inl rfl)) (rowF_tr (rowF_u (Or.inl rfl)) (rowF_u (Or.inl rfl)))))))
theorem rowF_as {wn : Nat} (hw : wn < 2) : ∀ (os : oL) (ar : jSc), rowF ar (o_as wn os ar)
  | [], ar => rowF_rf ar
  | o :: os, ar => by
    refine rowF_tr ?_ (rowF_as hw os _)
    unfold o_a1
    split
    · exact rowF_u (by rcases (show wn = 0 ∨ wn = 1 by omega) with rfl | rfl <;> simp)
    · exact rowF_rf ar
theorem rowF_asr {S : Nat → Int32} (hw : S 29 = -1 ∨ S 29 = 0 ∨ S 29 = 1) (os : oL) (ar : jSc) : rowF ar (asr S os ar) := by
  unfold asr
  split
  · exact rowF_rf ar
  · rename_i h
    exact rowF_as (by rcases hw with e | e | e; exact absurd e h; rw [e]; decide; rw [e]; decide) os ar
theorem pgC_u {P : Nat → Int32} {ar : jSc} {k : Nat} {v : Int32} (h : pgC (ar 13)) (h1 : k < 10 ∨ 14 ≤ k) (h2 : ¬ k = 26) : pgC (j_u2 ar 13 k v 13) := by
  obtain ⟨a, b⟩ := h
  refine ⟨fun l hl => ?_, ?_⟩
  · rw [u2_nk (show 10 + l ≠ k by omega)]; exact a l hl
  · rw [u2_nk (fun z => h2 z.symm)]; exact b
theorem pgC_l {ar : jSc} {l j : Nat} (h : pgC (ar 13)) (hj : j ≤ 3) (hl : l < 4) : pgC (j_u2 ar 13 (10 + l) (nI j) 13) := by
  obtain ⟨a, b⟩ := h
  refine ⟨fun i hi => ?_, ?_⟩
  · by_cases e : i = l
    · subst e; rw [u2_eq]; exact ⟨j, hj, rfl⟩
    · rw [u2_nk (by omega)]; exact a i hi
  · rw [u2_nk (by omega)]; exact b
theorem pgC_26 {ar : jSc} {j : Nat} (h : pgC (ar 13)) (hj : j ≤ 3) : pgC (j_u2 ar 13 26 (nI j) 13) := by
  obtain ⟨a, b⟩ := h
  refine ⟨fun i hi => ?_, j, hj, u2_eq⟩
  rw [u2_nk (by omega)]
  exact a i hi
theorem pgC_eP {ar : jSc} {l : Nat} (h : pgC (ar 13)) (hl : l < 4) : pgC (eP ar l 13) := by
  unfold eP
  have h0 : pgC (j_u2 ar 13 (10 + l) 0 13) := pgC_l (j := 0) h (by omega) hl
  exact pgC_u (P := ar 13) (pgC_u (P := ar 13) (pgC_u (P := ar 13) (pgC_u (P := ar 13) (pgC_u (P := ar 13) (pgC_u (P := ar 13) h0 (by omega) (by omega)) (by omega) (by omega)) (by omega) (by omega)) (by omega) (by omega)) (by omega) (by omega)) (by omega) (by omega)
set_option maxHeartbeats 1000000 in
theorem ef_ok {S : Nat → Int32} {ar : jSc} {o : Nat} {m v : Int32} (ho : 18 ≤ o ∧ o ≤ 27) (hm : o_mk o m) (hP : pgC (ar 13)) (hw : S 29 = -1 ∨ S 29 = 0 ∨ S 29 = 1) : pgC ((m_ef o m v S ar).2.2.2 13) ∧ ((m_ef o m v S ar).2.1 = S 24 ∨ (m_ef o m v S ar).2.1 = 1) ∧ rowF ar (m_ef o m v S ar).2.2.2 := by
  have f37 : pgC (j_u2 ar 13 37 1 13) := pgC_u (P := ar 13) hP (by omega) (by omega)
  rcases (show o = 18 ∨ o = 19 ∨ o = 20 ∨ o = 21 ∨ o = 22 ∨ o = 23 ∨ o = 24 ∨ o = 25 ∨ o = 26 ∨ o = 27 by omega) with rfl | rfl | rfl | rfl | rfl | rfl | rfl | rfl | rfl | rfl
  · obtain ⟨d, h1, rfl⟩ := hm
    refine ⟨?_, Or.inl rfl, rowF_u (Or.inl rfl)⟩
    show pgC (j_u2 ar 13 (iN (nI d)) v 13)
    rw [iN_nI (by omega)]
    exact pgC_u (P := ar 13) hP (by omega) (by omega)
  · exact ⟨pgC_u (P := ar 13) hP (by omega) (by omega), Or.inl rfl, rowF_u (Or.inl rfl)⟩
  · exact ⟨pgC_u (P := ar 13) hP (by omega) (by omega), Or.inl rfl, rowF_u (Or.inl rfl)⟩
  · exact ⟨pgC_u (P := ar 13) hP (by omega) (by omega), Or.inl rfl, rowF_u (Or.inl rfl)⟩
  · exact ⟨pgC_u (P := ar 13) hP (by omega) (by omega), Or.inl rfl, rowF_u (Or.inl rfl)⟩
  · obtain ⟨k, hk, ek⟩ := hP.2
    have e3 : nI k = (3 : Int32) ↔ k = 3 := nI_eq (by omega) (by decide)
    have e1 : m_ef 23 m v S ar = (if ar 13 26 = 3 then (S 28, 1, S 57, j_u2 ar 13 37 1) else (S 28, S 24, S 57, j_u2 (j_u2 (j_u2 (j_u2 ar 13 (27 + iN (ar 13 26)) (nI (iN m / 1000))) 13 (30 + iN (ar 13 26)) (nI (iN m % 1000))) 13 (50 + iN (ar 13 26)) (S 26)) 13 26 (ar 13 26 + 1))) := rfl
    rw [e1, ek]
    by_cases c : k = 3
    · rw [if_pos (e3.mpr c)]
      exact ⟨f37, Or.inr rfl, rowF_u (Or.inl rfl)⟩
    · rw [if_neg (fun z => c (e3.mp z)), iN_nI (by omega), nI_1]
      have h := pgC_u (P := ar 13) (k := 50 + k) (v := S 26) (pgC_u (P := ar 13) (k := 30 + k) (v := nI (iN m % 1000)) (pgC_u (P := ar 13) (k := 27 + k) (v := nI (iN m / 1000)) hP (by omega) (by omega)) (by omega) (by omega)) (by omega) (by omega)
      exact ⟨pgC_26 h (by omega), Or.inl rfl, rowF_tr (rowF_u (Or.inl rfl)) (rowF_tr (rowF_u (Or.inl rfl)) (rowF_tr (rowF_u (Or.inl rfl)) (rowF_u (Or.inl rfl))))⟩
  · obtain ⟨l, hl, rfl⟩ := hm
    have e2 : iN (nI l) = l := iN_nI (by omega)
    have main : ∀ ar1 : jSc, pgC (ar1 13) → rowF ar ar1 → pgC ((if ar1 13 (10 + l) = 3 then (S 28, (1 : Int32), S 57, j_u2 ar1 13 37 1) else (m_wb S (20 + nI l), S 24, S 57, j_u2 (j_u2 (j_u2 ar1 13 (14 + 3 * l + iN (ar1 13 (10 + l))) v) 13 (38 + 3 * l + iN (ar1 13 (10 + l))) (S 26)) 13 (10 + l) (ar1 13 (10 + l) + 1))).2.2.2 13) ∧ ((if ar1 13 (10 + l) = 3 then (S 28, (1 : Int32), S 57, j_u2 ar1 13 37 1) else (m_wb S (20 + nI l), S 24, S 57, j_u2 (j_u2 (j_u2 ar1 13 (14 + 3 * l + iN (ar1 13 (10 + l))) v) 13 (38 + 3 * l + iN (ar1 13 (10 + l))) (S 26)) 13 (10 + l) (ar1 13 (10 + l) + 1))).2.1 = S 24 ∨ (if ar1 13 (10 + l) = 3 then (S 28, (1 : Int32), S 57, j_u2 ar1 13 37 1) else (m_wb S (20 + nI l), S 24, S 57, j_u2 (j_u2 (j_u2 ar1 13 (14 + 3 * l + iN (ar1 13 (10 + l))) v) 13 (38 + 3 * l + iN (ar1 13 (10 + l))) (S 26)) 13 (10 + l) (ar1 13 (10 + l) + 1))).2.1 = 1) ∧ rowF ar (if ar1 13 (10 + l) = 3 then (S 28, (1 : Int32), S 57, j_u2 ar1 13 37 1) else (m_wb S (20 + nI l), S 24, S 57, j_u2 (j_u2 (j_u2 ar1 13 (14 + 3 * l + iN (ar1 13 (10 + l))) v) 13 (38 + 3 * l + iN (ar1 13 (10 + l))) (S 26)) 13 (10 + l) (ar1 13 (10 + l) + 1))).2.2.2 := by
      intro ar1 h1 h2
      obtain ⟨k, hk, ek⟩ := h1.1 l hl
      have e3 : nI k = (3 : Int32) ↔ k = 3 := nI_eq (by omega) (by decide)
      rw [ek]
      by_cases c : k = 3
      · rw [if_pos (e3.mpr c)]
        exact ⟨pgC_u (P := ar 13) h1 (by omega) (by omega), Or.inr rfl, rowF_tr h2 (rowF_u (Or.inl rfl))⟩
      · rw [if_neg (fun z => c (e3.mp z)), iN_nI (by omega), nI_1]
        exact ⟨pgC_l (pgC_u (P := ar 13) (pgC_u (P := ar 13) h1 (by omega) (by omega)) (by omega) (by omega)) (by omega) hl, Or.inl rfl, rowF_tr h2 (rowF_tr (rowF_u (Or.inl rfl)) (rowF_tr (rowF_u (Or.inl rfl)) (rowF_u (Or.inl rfl))))⟩
    have e1 : m_ef 24 (nI l) v S ar = (if (if m_fr ar (iN (S 38)) 2 (nI l) = true then eP ar l else ar) 13 (10 + l) = 3 then (S 28, (1 : Int32), S 57, j_u2 (if m_fr ar (iN (S 38)) 2 (nI l) = true then eP ar l else ar) 13 37 1) else (m_wb S (20 + nI l), S 24, S 57, j_u2 (j_u2 (j_u2 (if m_fr ar (iN (S 38)) 2 (nI l) = true then eP ar l else ar) 13 (14 + 3 * l + iN ((if m_fr ar (iN (S 38)) 2 (nI l) = true then eP ar l else ar) 13 (10 + l))) v) 13 (38 + 3 * l + iN ((if m_fr ar (iN (S 38)) 2 (nI l) = true then eP ar l else ar) 13 (10 + l))) (S 26)) 13 (10 + l) ((if m_fr ar (iN (S 38)) 2 (nI l) = true then eP ar l else ar) 13 (10 + l) + 1))) := by
      have e0 : m_ef 24 (nI l) v S ar = (if (if m_fr ar (iN (S 38)) 2 (nI l) = true then eP ar (iN (nI l)) else ar) 13 (10 + iN (nI l)) = 3 then (S 28, (1 : Int32), S 57, j_u2 (if m_fr ar (iN (S 38)) 2 (nI l) = true then eP ar (iN (nI l)) else ar) 13 37 1) else (m_wb S (20 + nI l), S 24, S 57, j_u2 (j_u2 (j_u2 (if m_fr ar (iN (S 38)) 2 (nI l) = true then eP ar (iN (nI l)) else ar) 13 (14 + 3 * iN (nI l) + iN ((if m_fr ar (iN (S 38)) 2 (nI l) = true then eP ar (iN (nI l)) else ar) 13 (10 + iN (nI l)))) v) 13 (38 + 3 * iN (nI l) + iN ((if m_fr ar (iN (S 38)) 2 (nI l) = true then eP ar (iN (nI l)) else ar) 13 (10 + iN (nI l)))) (S 26)) 13 (10 + iN (nI l)) ((if m_fr ar (iN (S 38)) 2 (nI l) = true then eP ar (iN (nI l)) else ar) 13 (10 + iN (nI l)) + 1))) := rfl
      rw [e0, e2]
    rw [e1]
    refine main _ ?_ ?_
    · split
      · exact pgC_eP hP hl
      · exact hP
    · split
      · exact rowF_eP
      · exact rowF_rf ar
  · obtain ⟨l, hl, rfl⟩ := hm
    have e1 : m_ef 25 (nI l) v S ar = (m_wb S (20 + nI l), S 24, S 57, eP ar l) := by
      show (m_wb S (20 + nI l), S 24, S 57, eP ar (iN (nI l))) = _
      rw [iN_nI (by omega)]
    rw [e1]
    exact ⟨pgC_eP hP hl, Or.inl rfl, rowF_eP⟩
  · obtain ⟨l, hl, rfl⟩ := hm
    have e2 : iN (nI l) = l := iN_nI (by omega)
    have e1 : m_ef 26 (nI l) v S ar = (if S 29 = -1 then (m_wb S (16 + nI l), S 24, S 57, j_u2 ar 13 (33 + l) v) else (m_wb S (16 + nI l), S 24, (if ar 716 l = 1 - S 29 ∧ ar (718 + iN (S 29)) l = 0 then S 57 + 1 else S 57), j_u2 (j_u2 (j_u2 ar 13 (33 + l) v) 716 l (S 29)) (718 + iN (1 - S 29)) l 0)) := by
      show (if S 29 = -1 then (m_wb S (16 + nI l), S 24, S 57, j_u2 ar 13 (33 + iN (nI l)) v) else (m_wb S (16 + nI l), S 24, (if ar 716 (iN (nI l)) = 1 - S 29 ∧ ar (718 + iN (S 29)) (iN (nI l)) = 0 then S 57 + 1 else S 57), j_u2 (j_u2 (j_u2 ar 13 (33 + iN (nI l)) v) 716 (iN (nI l)) (S 29)) (718 + iN (1 - S 29)) (iN (nI l)) 0)) = _
      rw [e2]
    have h0 : pgC (j_u2 ar 13 (33 + l) v 13) := pgC_u (P := ar 13) hP (by omega) (by omega)
    rw [e1]
    by_cases c : S 29 = -1
    · rw [if_pos c]
      exact ⟨h0, Or.inl rfl, rowF_u (Or.inl rfl)⟩
    · rw [if_neg c]
      have h18 : 718 + iN (1 - S 29) = 718 ∨ 718 + iN (1 - S 29) = 719 := by
        rcases hw with e | e | e
        · exact absurd e c
        · rw [e]; exact Or.inr rfl
        · rw [e]; exact Or.inl rfl
      refine ⟨?_, Or.inl rfl, rowF_tr (rowF_u (Or.inl rfl)) (rowF_tr (rowF_u (Or.inr (Or.inl rfl))) (rowF_u (Or.inr (Or.inr h18))))⟩
      show pgC (j_u2 (j_u2 (j_u2 ar 13 (33 + l) v) 716 l (S 29)) (718 + iN (1 - S 29)) l 0 13)
      rw [j_u2_row _ _ _ _ (show 13 ≠ 718 + iN (1 - S 29) by omega), j_u2_row _ _ _ _ (show 13 ≠ 716 by decide)]
      exact h0
  · exact ⟨f37, Or.inr rfl, rowF_u (Or.inl rfl)⟩
