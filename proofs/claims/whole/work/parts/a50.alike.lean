/-! SETS OF FORMS THAT WORK ALIKE: forms on lines never asked do nothing. -/
theorem ak_mono {os : oL} {a : Int32} {l : Nat} (hl : l < 32) (h : bt a l = true) : bt (o_ak os a) l = true := by
  induction os generalizing a with
  | nil => exact h
  | cons o r ih =>
    show bt (o_ak r (a ||| (if o.1 = 24 then (1 : Int32) <<< (o.2 &&& 31) else 0))) l = true
    exact ih (by rw [b_or, h, Bool.true_or])
theorem ak_mem {l : Nat} (hl : l < 32) : ∀ {os : oL} {a : Int32}, (24, nI l) ∈ os → bt (o_ak os a) l = true
  | [], _, h => by cases h
  | o :: r, a, h => by
    show bt (o_ak r (a ||| (if o.1 = 24 then (1 : Int32) <<< (o.2 &&& 31) else 0))) l = true
    rcases List.mem_cons.mp h with e | e
    · refine ak_mono hl ?_
      rw [← e, if_pos rfl, b_or, bt_1 l hl hl, decide_eq_true rfl, Bool.or_true]
    · exact ak_mem hl e
/-- lines that are never asked never wait -/
def zW (ak : Int32) (P : Nat → Int32) : Prop := ∀ l, l < 4 → bt ak l = false → P (10 + l) = 0
theorem zW_c {ak : Int32} {P Q : Nat → Int32} (h : zW ak P) (e : ∀ k, 10 ≤ k → k < 14 → Q k = P k) : zW ak Q := fun l hl hb => by rw [e (10 + l) (by omega) (by omega)]; exact h l hl hb
theorem zW_u {ak : Int32} {ar : jSc} {k : Nat} {v : Int32} (h : zW ak (ar 13)) (hk : k < 10 ∨ 14 ≤ k) : zW ak (j_u2 ar 13 k v 13) := zW_c h (fun i h1 h2 => u2_nk (by omega))
theorem zW_eP {ak : Int32} {ar : jSc} {l : Nat} (hl : l < 4) (h : zW ak (ar 13)) : zW ak (eP ar l 13) := by
  intro i hi hb
  unfold eP
  by_cases z : i = l
  · subst z
    rw [u2_nk (by omega), u2_nk (by omega), u2_nk (by omega), u2_nk (by omega), u2_nk (by omega), u2_nk (by omega), u2_eq]
  · rw [u2_nk (by omega), u2_nk (by omega), u2_nk (by omega), u2_nk (by omega), u2_nk (by omega), u2_nk (by omega), u2_nk (by omega)]
    exact h i hi hb
/-- two memories that differ in the forms that are on alone -/
def rA (A1 A2 : jSc) : Prop := ∀ b, b ≠ 106 → A2 b = A1 b
theorem rA_u {A1 A2 : jSc} (h : rA A1 A2) {a k : Nat} {v : Int32} : rA (j_u2 A1 a k v) (j_u2 A2 a k v) := fun b hb => by
  funext j
  show (if b = a ∧ j = k then v else A2 b j) = (if b = a ∧ j = k then v else A1 b j)
  rw [h b hb]
theorem rA_eP {A1 A2 : jSc} (h : rA A1 A2) {l : Nat} : rA (eP A1 l) (eP A2 l) := by
  unfold eP
  exact rA_u (rA_u (rA_u (rA_u (rA_u (rA_u (rA_u h))))))
section AL
variable {ak : Int32} {S : Nat → Int32} {A1 A2 : jSc}
theorem ef_al {o : Nat} {m v : Int32} (ho : 18 ≤ o ∧ o ≤ 27) (hm : o_mk o m) (hP : pgC (A1 13)) (h29 : S 29 = -1) (hr : rA A1 A2) (ha : o = 24 → ∀ l, l < 4 → m = nI l → bt ak l = true) (hf : ∀ l, l < 4 → bt ak l = true → m_fr A2 (iN (S 38)) 2 (nI l) = m_fr A1 (iN (S 38)) 2 (nI l)) (hz : zW ak (A1 13)) : (m_ef o m v S A2).1 = (m_ef o m v S A1).1 ∧ (m_ef o m v S A2).2.1 = (m_ef o m v S A1).2.1 ∧ (m_ef o m v S A2).2.2.1 = (m_ef o m v S A1).2.2.1 ∧ rA (m_ef o m v S A1).2.2.2 (m_ef o m v S A2).2.2.2 ∧ zW ak ((m_ef o m v S A1).2.2.2 13) := by
  have e13 : A2 13 = A1 13 := hr 13 (by decide)
  unfold o_mk at hm
  unfold m_ef
  by_cases c18 : o = 18
  · rw [if_pos c18, if_pos c18]
    rw [if_pos (by omega)] at hm
    obtain ⟨d, hd, rfl⟩ := hm
    exact ⟨rfl, rfl, rfl, rA_u hr, zW_u hz (by rw [iN_nI (by omega)]; omega)⟩
  rw [if_neg c18, if_neg c18]
  by_cases c19 : o = 19
  · rw [if_pos c19, if_pos c19, e13]; exact ⟨rfl, rfl, rfl, rA_u hr, zW_u hz (by omega)⟩
  rw [if_neg c19, if_neg c19]
  by_cases c20 : o = 20
  · rw [if_pos c20, if_pos c20, e13]; exact ⟨rfl, rfl, rfl, rA_u hr, zW_u hz (by omega)⟩
  rw [if_neg c20, if_neg c20]
  by_cases c21 : o = 21
  · rw [if_pos c21, if_pos c21, e13]; exact ⟨rfl, rfl, rfl, rA_u hr, zW_u hz (by omega)⟩
  rw [if_neg c21, if_neg c21]
  by_cases c22 : o = 22
  · rw [if_pos c22, if_pos c22, e13]; exact ⟨rfl, rfl, rfl, rA_u hr, zW_u hz (by omega)⟩
  rw [if_neg c22, if_neg c22]
  rw [if_neg (by omega)] at hm
  by_cases c23 : o = 23
  · rw [if_pos c23, if_pos c23, e13]
    by_cases z : A1 13 26 = 3
    · rw [if_pos z, if_pos z]; exact ⟨rfl, rfl, rfl, rA_u hr, zW_u hz (by omega)⟩
    · rw [if_neg z, if_neg z]
      exact ⟨rfl, rfl, rfl, rA_u (rA_u (rA_u (rA_u hr))), zW_u (zW_u (zW_u (zW_u hz (by omega)) (by omega)) (by omega)) (by omega)⟩
  rw [if_neg c23, if_neg c23]
  rw [if_neg c23] at hm
  by_cases c24 : o = 24
  · rw [if_pos (by omega)] at hm
    obtain ⟨d, hd, rfl⟩ := hm
    rw [if_pos c24, if_pos c24, hf d hd (ha c24 d hd rfl), iN_nI (show d < 2 ^ 31 by omega)]
    have hb := ha c24 d hd rfl
    have key : ∃ B1 B2, (if m_fr A1 (iN (S 38)) 2 (nI d) = true then eP A1 d else A1) = B1 ∧ (if m_fr A1 (iN (S 38)) 2 (nI d) = true then eP A2 d else A2) = B2 ∧ rA B1 B2 ∧ zW ak (B1 13) := by
      by_cases z : m_fr A1 (iN (S 38)) 2 (nI d) = true
      · rw [if_pos z, if_pos z]; exact ⟨_, _, rfl, rfl, rA_eP hr, zW_eP hd hz⟩
      · rw [if_neg z, if_neg z]; exact ⟨_, _, rfl, rfl, hr, hz⟩
    obtain ⟨B1, B2, k1, k2, k3, k4⟩ := key
    rw [k1, k2, k3 13 (by decide)]
    by_cases z : B1 13 (10 + d) = 3
    · rw [if_pos z, if_pos z]; exact ⟨rfl, rfl, rfl, rA_u k3, zW_u k4 (by omega)⟩
    · rw [if_neg z, if_neg z]
      refine ⟨rfl, rfl, rfl, rA_u (rA_u (rA_u k3)), fun l hl hbl => ?_⟩
      have ne : l ≠ d := fun e => by rw [e, hb] at hbl; cases hbl
      show j_u2 _ 13 (10 + d) _ 13 (10 + l) = 0
      rw [u2_nk (by omega), u2_nk (by omega), u2_nk (by omega)]
      exact k4 l hl hbl
  rw [if_neg c24, if_neg c24]
  by_cases c25 : o = 25
  · rw [if_pos (by omega)] at hm
    obtain ⟨d, hd, rfl⟩ := hm
    rw [if_pos c25, if_pos c25, iN_nI (show d < 2 ^ 31 by omega)]
    exact ⟨rfl, rfl, rfl, rA_eP hr, zW_eP hd hz⟩
  rw [if_neg c25, if_neg c25]
  by_cases c26 : o = 26
  · rw [if_pos c26, if_pos c26, if_pos h29, if_pos h29]; exact ⟨rfl, rfl, rfl, rA_u hr, zW_u hz (by omega)⟩
  rw [if_neg c26, if_neg c26]
  exact ⟨rfl, rfl, rfl, rA_u hr, zW_u hz (by omega)⟩
theorem w_al {O : Nat → Nat × Int32} {len : Nat} {H : Nat → Nat} (hH : wfO O len H) (hO : ∀ a, a < len → (O a).1 = 24 → ∀ l, l < 4 → (O a).2 = nI l → bt ak l = true) : ∀ (f at_ : Nat) (st : List Int32) (S : Nat → Int32) (A1 A2 : jSc) (S2 : Nat → Int32) (B1 : jSc), w_run O len f at_ st S A1 = some (S2, B1) → pgC (A1 13) → S 29 = -1 → rA A1 A2 → (∀ l, l < 4 → bt ak l = true → m_fr A2 (iN (S 38)) 2 (nI l) = m_fr A1 (iN (S 38)) 2 (nI l)) → zW ak (A1 13) → ∃ B2, w_run O len f at_ st S A2 = some (S2, B2) ∧ rA B1 B2 ∧ zW ak (B1 13) := by
  intro f
  induction f with
  | zero => intro at_ st S A1 A2 S2 B1 h; cases h
  | succ f ih =>
    intro at_ st S A1 A2 S2 B1 h hP h29 hr hf hz
    have e13 : A2 13 = A1 13 := hr 13 (by decide)
    have ok := hH.2 at_
    have oa := hO at_
    unfold w_run at h ⊢
    by_cases c0 : len ≤ at_
    · rw [if_pos c0] at h ⊢
      cases h
      exact ⟨A2, rfl, hr, hz⟩
    rw [if_neg c0] at h ⊢
    have ok := ok (by omega)
    have oa := oa (by omega)
    by_cases c1 : (O at_).1 < 16
    · rw [if_pos c1, if_pos h29] at h ⊢
      rw [e13]
      exact ih _ _ _ _ A2 _ _ h hP (by rw [up_n (by decide)]; exact h29) hr (by rw [up_n (by decide)]; exact hf) hz
    rw [if_neg c1] at h ⊢
    by_cases c2 : (O at_).1 = 16
    · rw [if_pos c2] at h ⊢
      cases h
      exact ⟨A2, rfl, hr, hz⟩
    rw [if_neg c2] at h ⊢
    by_cases c3 : (O at_).1 = 17
    · rw [if_pos c3] at h ⊢
      by_cases c4 : st.headD 0 = 0
      · rw [if_pos c4] at h ⊢
        exact ih _ _ _ _ A2 _ _ h hP h29 hr hf hz
      · rw [if_neg c4] at h ⊢
        exact ih _ _ _ _ A2 _ _ h hP h29 hr hf hz
    rw [if_neg c3] at h ⊢
    rcases ok with k | k | k | k
    · have := k.2; omega
    · exact absurd k.1 c2
    · exact absurd k.1 c3
    · obtain ⟨x1, x2, x3, x4, x5⟩ := ef_al (ak := ak) (m := (O at_).2) (v := st.headD 0) k.1 k.2.1 hP h29 hr (fun e l hl em => oa e l hl em) hf hz
      have ep := (ef_ok (v := st.headD 0) k.1 k.2.1 hP (Or.inl h29)).1
      have es : sE S (m_ef (O at_).1 (O at_).2 (st.headD 0) S A2) = sE S (m_ef (O at_).1 (O at_).2 (st.headD 0) S A1) := by
        unfold sE
        rw [x1, x2, x3]
      rw [x2, es]
      have q13 := m_ef_13 (o := (O at_).1) (m := (O at_).2) (v := st.headD 0) (S := S) (ar := A1) h29
      have q23 := m_ef_13 (o := (O at_).1) (m := (O at_).2) (v := st.headD 0) (S := S) (ar := A2) h29
      by_cases c5 : (m_ef (O at_).1 (O at_).2 (st.headD 0) S A1).2.1 = 0
      · rw [if_pos c5] at h ⊢
        have s29 : sE S (m_ef (O at_).1 (O at_).2 (st.headD 0) S A1) 29 = -1 := by rw [sE_o (by decide) (by decide) (by decide)]; exact h29
        have s38 : sE S (m_ef (O at_).1 (O at_).2 (st.headD 0) S A1) 38 = S 38 := sE_o (by decide) (by decide) (by decide)
        refine ih _ _ _ _ _ _ _ h ep s29 x4 (fun l hl hb => ?_) x5
        rw [s38, m_fr_c (q13 106 (by decide)) (q13 102 (by decide)) (q13 104 (by decide)), m_fr_c (q23 106 (by decide)) (q23 102 (by decide)) (q23 104 (by decide))]
        exact hf l hl hb
      · rw [if_neg c5] at h ⊢
        cases h
        exact ⟨_, rfl, x4, x5⟩
end AL
