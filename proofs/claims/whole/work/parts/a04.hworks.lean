/-! ClickOrders: the hand works a row of orders as the reference does. -/
section HV
variable {cb : Bool} {c27 c28 : Int32} {S S2 : Nat → Int32} {ar ar2 : jSc} {pp : Nat} {sc car sc2 car2 : jSc} {mr : Nat → Nat} {al : jAl} {o0 : Nat → Bool} {d57 : Int32}
/-- save -/
theorem h_26 {m v : Int32} (hm : o_mk 26 m) (h24 : S 24 = 0) (hi : hI cb c27 c28 S ar pp sc car) (hw : hWn o0 d57 S ar sc) (h9 : sc 757 9 = nI 1) (hs : h_st car [v]) : hDo cb c27 c28 o0 d57 pp sc car mr al (xF_216 pp 26 m sc mr car al) S (m_ef 26 m v S ar) := by
  obtain ⟨l, hl, rfl⟩ := hm
  have e2 : iN (nI l) = l := iN_nI (by omega)
  have em : m_ef 26 (nI l) v S ar = m_ef 26 (nI l) v S ar := rfl
  conv at em => rhs; unfold m_ef
  simp only [show ¬ (26 : Nat) = 18 by decide, show ¬ (26 : Nat) = 19 by decide, show ¬ (26 : Nat) = 20 by decide, show ¬ (26 : Nat) = 21 by decide, show ¬ (26 : Nat) = 22 by decide, show ¬ (26 : Nat) = 23 by decide, show ¬ (26 : Nat) = 24 by decide, show ¬ (26 : Nat) = 25 by decide, if_false, if_true, e2] at em
  generalize hX : j_u2 (j_u2 (j_u2 sc 757 4 (sc 757 4 ||| (1 <<< ((16 + nI l) &&& 31)))) 757 6 (sc 757 6 + ((sc 757 5 >>> (nI l &&& 31)) &&& 1))) 757 5 (sc 757 5 &&& ((1 <<< (nI l &&& 31)) ^^^ (-1))) = X
  have ex : xF_216 pp 26 (nI l) sc mr car al = o_b5 (xF_218 X mr car al) (fun ve a b c d => if iB (10 + nI l) 50 then some (1, a, b, j_u2 c (pp + 1) (iN (10 + nI l)) ve, d) else none) := by rw [← hX]; rfl
  have X4 : X 757 4 = sc 757 4 ||| (1 <<< ((16 + nI l) &&& 31)) := by rw [← hX, u2_nk (by decide), u2_nk (by decide), u2_eq]
  have X5 : X 757 5 = sc 757 5 &&& ((1 <<< (nI l &&& 31)) ^^^ (-1)) := by rw [← hX, u2_eq]
  have X6 : X 757 6 = sc 757 6 + ((sc 757 5 >>> (nI l &&& 31)) &&& 1) := by rw [← hX, u2_nk (by decide), u2_eq]
  have X3 : X 757 3 = sc 757 3 := by rw [← hX, u2_nk (by decide), u2_nk (by decide), u2_nk (by decide)]
  have X9 : X 757 9 = nI 1 := by rw [← hX, u2_nk (by decide), u2_nk (by decide), u2_nk (by decide)]; exact h9
  have fX : hFs sc X := by rw [← hX]; exact hFs_u (by decide) (hFs_u (by decide) (hFs_u (by decide) (hFs_rf sc)))
  have e10 : (10 : Int32) + nI l = nI (10 + l) := nI_add 10 l
  have e16 : (16 : Int32) + nI l = nI (16 + l) := nI_add 16 l
  rw [h_pop (st := []) (x := v) X9 (by decide) hs, ob5, e10, if_pos (iB_nI (by omega) (by decide)), iN_nI (by omega)] at ex
  have fs : hFs sc (j_u2 X 757 9 (nI ([] : List Int32).length)) := hFs_u (by decide) fX
  have i1 := ix_c (10 + l) (by omega)
  have b16 : ∀ k, k < 4 → bt (X 757 4) (16 + k) = (bt (sc 757 4) (16 + k) || decide (k = l)) := by
    intro k hk
    rw [X4, e16, bt_or (by omega) (by omega)]
    by_cases c : k = l
    · simp [c]
    · simp [c, show ¬ 16 + k = 16 + l by omega]
  have b5 : ∀ k, k < 4 → bt (X 757 5) k = (bt (sc 757 5) k && !decide (k = l)) := fun k hk => by rw [X5, bt_clr (by omega) (by omega)]
  have goal : ∀ (e57 : Int32) (ar3 : jSc), m_ef 26 (nI l) v S ar = (m_wb S (16 + nI l), S 24, e57, ar3) → rowF ar ar3 → ar3 13 = upd (ar 13) (33 + l) v → hWn o0 d57 (sE S (m_wb S (16 + nI l), S 24, e57, ar3)) ar3 (j_u2 X 757 9 (nI ([] : List Int32).length)) → hDo cb c27 c28 o0 d57 pp sc car mr al (xF_216 pp 26 (nI l) sc mr car al) S (m_ef 26 (nI l) v S ar) := by
    intro e57 ar3 h1 h2 h3 h4
    rw [h1]
    refine ⟨1, _, _, ex, Or.inl ⟨rfl, h24, ?_⟩, h4, u2_eq, fs, hFa_u (hFa_rf pp car)⟩
    refine hI_s hi (fun k a b c => sE_o a b c) h2 fs (by rw [u2_nk (by decide)]; exact X3) ?_ ?_ (fun hcb => ?_)
    · rw [u2_nk (by decide), X4]
      show m_wb S (16 + nI l) = _
      rw [wb_or (d := 0) (x := 0) hi.2.2.2.1]
    · show pgR (ar3 13) _
      rw [h3, u2_up]
      exact pgR_lo hi.1 (by omega) (by omega)
    · show pgA (ar3 13) _
      rw [h3, u2_up]
      exact pgA_lo (hi.2.1 hcb) (by omega) (by omega)
  rcases hw with ⟨w1, w2, w3⟩ | ⟨w, w1, w2, w3, w4, w5⟩
  · rw [if_pos w1] at em
    refine goal _ _ em (rowF_u (Or.inl rfl)) u2_up (Or.inl ⟨w1, ?_, w3⟩)
    rw [u2_nk (by decide), X5, w2]
    exact Int32.zero_and
  · have hne : ¬ S 29 = -1 := by rw [w2]; exact nI_nm (by omega)
    have e1w : (1 : Int32) - nI w = nI (1 - w) := by rcases (show w = 0 ∨ w = 1 by omega) with rfl | rfl <;> decide
    have wne : ¬ nI w = nI (1 - w) := fun z => absurd ((nI_eq (by omega) (by omega)).mp z) (by omega)
    rw [if_neg hne, w2, e1w, iN_nI (by omega), iN_nI (by omega), show 718 + (1 - w) = 719 - w by omega] at em
    refine goal _ _ em (rowF_tr (rowF_tr (rowF_u (Or.inl rfl)) (rowF_u (by decide))) (rowF_u (by omega))) ?_ (Or.inr ⟨w, w1, w2, ?_, fun k hk => ?_, fun k hk => ?_⟩)
    · rw [j_u2_row _ _ _ _ (by omega), j_u2_row _ _ _ _ (by decide), u2_up]
    · rw [u2_nk (by decide), X6, bt_sh _ l (by omega), w4 l hl]
      show (if ar 716 l = nI (1 - w) ∧ ar (718 + w) l = 0 then S 57 + 1 else S 57) = _
      rw [w3]
      by_cases c : ar 716 l = nI (1 - w) ∧ ar (718 + w) l = 0
      · rw [if_pos c, if_pos (by simpa using c), Int32.add_assoc]
      · rw [if_neg c, if_neg (by simpa using c), Int32.add_zero]
    · rw [u2_nk (by decide), b5 k hk]
      by_cases c : k = l
      · subst c
        rw [u2_na (by omega), u2_eq]
        simp [wne]
      · rw [u2_nk c, u2_nk c, u2_na (by decide), u2_nk c, u2_nk c, u2_na (by omega), w4 k hk]
        simp [c]
    · rw [show j_u2 X 757 9 (nI ([] : List Int32).length) 757 4 = X 757 4 from u2_nk (by decide), b16 k hk]
      by_cases c : k = l
      · subst c
        rw [u2_na (by omega), u2_eq, u2_eq]
        simp
      · rw [u2_nk c, u2_nk c, u2_na (by decide), u2_nk c, u2_nk c, u2_na (by omega), w5 k hk]
        simp [c]
/-- each order that does -/
theorem h_does {o : Nat} {m : Int32} {st : List Int32} (ho : 18 ≤ o ∧ o ≤ 27) (hm : o_mk o m) (hpp : pp ≠ 757) (h24 : S 24 = 0) (hi : hI cb c27 c28 S ar pp sc car) (hw : hWn o0 d57 S ar sc) (h9 : sc 757 9 = nI st.length) (hl : st.length = (if o = 18 ∨ o = 24 ∨ o = 26 then 1 else 0)) (hs : h_st car st) : hDo cb c27 c28 o0 d57 pp sc car mr al (xF_216 pp (nI o) m sc mr car al) S (m_ef o m (st.headD 0) S ar) := by
  rcases st with _ | ⟨v, _ | ⟨v2, r⟩⟩
  · have hn : ¬ (o = 18 ∨ o = 24 ∨ o = 26) := fun z => by rw [if_pos z] at hl; cases hl
    rcases (show (19 ≤ o ∧ o ≤ 22) ∨ o = 23 ∨ o = 25 ∨ o = 27 by omega) with h | rfl | rfl | rfl
    · exact h_th h hm h24 hi hw h9
    · exact h_23 hm h24 hi hw h9
    · exact h_25 hm h24 hi hw h9
    · exact h_27 hi hw h9
  · have hy : o = 18 ∨ o = 24 ∨ o = 26 := by
      by_cases z : o = 18 ∨ o = 24 ∨ o = 26
      · exact z
      · rw [if_neg z] at hl; cases hl
    rcases hy with rfl | rfl | rfl
    · exact h_18 hm h24 hi hw hpp h9 hs
    · exact h_24 hm hpp h24 hi hw h9 hs
    · exact h_26 hm h24 hi hw h9 hs
  · simp only [List.length_cons] at hl
    split at hl <;> omega
theorem o_r1_or {c x : Int32} {o : Nat × Int32} : o_r1 (c ||| x) o = c ||| o_r1 x o := by
  unfold o_r1
  split
  · exact or_as _ _ _
  · split
    · exact or_as _ _ _
    · rfl
/-- each order that thinks -/
theorem h_tk {o : Nat × Int32} {st : List Int32} {h2 : Nat} (ho : o_hs st.length o h2) (hpp : pp ≠ 757) (hi : hI cb c27 c28 S ar pp sc car) (hw : hWn o0 d57 S ar sc) (h9 : sc 757 9 = nI st.length) (hs : h_st car st) :
    ∃ sc2 car2, xF_214 pp (nI o.1) o.2 sc mr car al = some (sc2, mr, car2, al) ∧ hI cb c27 c28 (upd S 27 (o_r1 (S 27) o)) (if S 29 = -1 then ar else o_a1 (iN (S 29)) ar o) pp sc2 car2 ∧ hWn o0 d57 (upd S 27 (o_r1 (S 27) o)) (if S 29 = -1 then ar else o_a1 (iN (S 29)) ar o) sc2 ∧ sc2 757 9 = nI (o_th (ar 13) (S 25) st o).length ∧ (o_th (ar 13) (S 25) st o).length = h2 ∧ h_st car2 (o_th (ar 13) (S 25) st o) ∧ hFs sc sc2 ∧ hFa pp car car2 := by
  have hpp1 : pp + 1 ≠ 758 := by omega
  obtain ⟨od, m⟩ := o
  obtain ⟨h64, ho⟩ := ho
  have hod : od < 16 := by
    rcases ho with h | h | h
    · have h1 : od < 4 := h.1
      omega
    · have h1 : od = 4 := h.1
      omega
    · have h1 : od ≤ 15 := h.2.1
      omega
  have q1 : od = 1 → ∃ d, d < 8 ∧ m = nI d ∧ car (pp + 1) d = ar 13 d := by
    intro e
    rcases ho with h | h | h
    · obtain ⟨d, d1, d2⟩ := h.2.2.1 e
      have i1 := ix_c d (by omega)
      exact ⟨d, d1, d2, (hi.1.1 d (by omega)).trans (by congr 1; omega)⟩
    · exact absurd h.1 (by show ¬ od = 4; omega)
    · exact absurd h.1 (by show ¬ 5 ≤ od; omega)
  have q3 : od = 3 → ∃ d, d < 4 ∧ m = nI d ∧ car (pp + 1) (10 + d) = ar 13 (33 + d) := by
    intro e
    rcases ho with h | h | h
    · obtain ⟨d, d1, d2⟩ := h.2.2.2 e
      have i1 := ix_c (10 + d) (by omega)
      exact ⟨d, d1, d2, (hi.1.1 (10 + d) (by omega)).trans (by congr 1; omega)⟩
    · exact absurd h.1 (by show ¬ od = 4; omega)
    · exact absurd h.1 (by show ¬ 5 ≤ od; omega)
  have q4 : od = 4 → 1 ≤ st.length := by
    intro e
    rcases ho with h | h | h
    · exact absurd h.1 (by show ¬ od < 4; omega)
    · exact h.2.1
    · exact absurd h.1 (by show ¬ 5 ≤ od; omega)
  have q5 : 5 ≤ od → 2 ≤ st.length := by
    intro e
    rcases ho with h | h | h
    · exact absurd h.1 (by show ¬ od < 4; omega)
    · exact absurd h.1 (by show ¬ od = 4; omega)
    · exact h.2.2.1
  obtain ⟨sc2, car2, e1, e2⟩ := h_think (mr := mr) (al := al) (P := ar 13) (gt := S 25) (p1 := pp) hod q1 q3 hi.2.2.2.2.1 h9 hs h64 q4 q5
  obtain ⟨t1, t2, t3, t4, t5, t6⟩ := e2
  have fs : hFs sc sc2 := fun a k h => t5 a k (fun z => h ⟨z.1, by omega⟩)
  have fa : hFa pp car car2 := fun b h _ => t6 b h
  have rF : rowF ar (if S 29 = -1 then ar else o_a1 (iN (S 29)) ar (od, m)) := by
    split
    · exact rowF_rf ar
    · rename_i hne
      unfold o_a1
      split
      · rcases hw with ⟨w1, -⟩ | ⟨w, w1, w2, -⟩
        · exact absurd w1 hne
        · rw [w2, iN_nI (by omega)]
          exact rowF_u (by omega)
      · exact rowF_rf ar
  have r13 : (if S 29 = -1 then ar else o_a1 (iN (S 29)) ar (od, m)) 13 = ar 13 := by
    split
    · rfl
    · unfold o_a1
      split
      · exact j_u2_row _ _ _ _ (by omega)
      · rfl
  refine ⟨sc2, car2, e1, ⟨?_, fun hcb => ?_, ?_, ?_, ?_, ?_, fun l hl => ?_⟩, ?_, t1, ?_, t2, fs, fa⟩
  · rw [r13, t6 (pp + 1) hpp1]; exact hi.1
  · rw [r13, t6 (pp + 1) hpp1]; exact hi.2.1 hcb
  · rw [up_0, hi.2.2.1, o_r1_or, t3]
  · rw [t5 757 4 (by decide)]; exact hi.2.2.2.1
  · rw [t5 757 7 (by decide)]; exact hi.2.2.2.2.1
  · rw [t5 757 8 (by decide)]; exact hi.2.2.2.2.2.1
  · rw [t5 736 8 (by decide), m_fr_c (rF 106 rfl rfl rfl rfl) (rF 102 rfl rfl rfl rfl) (rF 104 rfl rfl rfl rfl)]
    exact hi.2.2.2.2.2.2 l hl
  · rcases hw with ⟨w1, w2, w3⟩ | ⟨w, w1, w2, w3, w4, w5⟩
    · refine Or.inl ⟨w1, ?_, w3⟩
      rw [t4, w2]
      unfold h_sl
      split
      · exact Int32.zero_and
      · rfl
    · have hne : ¬ S 29 = -1 := by rw [w2]; exact nI_nm (by omega)
      rw [if_neg hne, w2, iN_nI (by omega)]
      refine Or.inr ⟨w, w1, w2, by rw [t5 757 6 (by decide)]; exact w3, fun k hk => ?_, fun k hk => ?_⟩
      · rw [t4]
        unfold h_sl o_a1
        by_cases c : od = 3
        · obtain ⟨d, d1, rfl, -⟩ := q3 c
          rw [if_pos (show (od, nI d).1 = 3 from c), if_pos (show (od, nI d).1 = 3 from c)]
          show bt (sc 757 5 &&& ((1 <<< (nI d &&& 31)) ^^^ (-1))) k = decide (j_u2 ar (718 + w) (iN (nI d)) 1 716 k = nI (1 - w) ∧ j_u2 ar (718 + w) (iN (nI d)) 1 (718 + w) k = 0)
          rw [bt_clr (by omega) (by omega), iN_nI (by omega), u2_na (by omega), w4 k hk]
          by_cases c2 : k = d
          · subst c2
            rw [u2_eq]
            simp
          · rw [u2_nk c2]
            simp [c2]
        · rw [if_neg (show ¬ (od, m).1 = 3 from c), if_neg (show ¬ (od, m).1 = 3 from c)]
          exact w4 k hk
      · rw [t5 757 4 (by decide)]
        have : o_a1 w ar (od, m) 716 = ar 716 ∧ o_a1 w ar (od, m) (719 - w) = ar (719 - w) := by
          unfold o_a1
          split
          · exact ⟨j_u2_row _ _ _ _ (by omega), j_u2_row _ _ _ _ (by omega)⟩
          · exact ⟨rfl, rfl⟩
        rw [this.1, this.2]
        exact w5 k hk
  · unfold o_th
    rcases ho with h | h | h
    · have h1 : od < 4 := h.1
      have h2 : h2 = st.length + 1 := h.2.1
      rcases (show od = 0 ∨ od = 1 ∨ od = 2 ∨ od = 3 by omega) with rfl | rfl | rfl | rfl <;> simp [h2]
    · have h1 : od = 4 := h.1
      have h3 : h2 = st.length := h.2.2
      subst h1
      rcases st with _ | ⟨x, r⟩
      · exact absurd (q4 rfl) (by decide)
      · simp [h3]
    · have h1 : 5 ≤ od := h.1
      have h3 : h2 + 1 = st.length := h.2.2.2
      simp only [show ¬ od = 0 by omega, show ¬ od = 1 by omega, show ¬ od = 2 by omega, show ¬ od = 3 by omega, show ¬ od = 4 by omega, if_false]
      rcases st with _ | ⟨y, _ | ⟨x, r⟩⟩
      · exact absurd (q5 h1) (by decide)
      · exact absurd (q5 h1) (by simp)
      · simp only [List.length_cons] at h3 ⊢
        omega
/-- the orders O, len of them, in the program p -/
def hO (p : Nat) (sc car : jSc) (O : Nat → Nat × Int32) (len : Nat) : Prop := sc p 3 = nI len ∧ ∀ i, i < len → car (p + 1) i = nI (O i).1 ∧ car (p + 2) i = (O i).2
theorem hO_f {p len : Nat} {O : Nat → Nat × Int32} (hp : x_pr p = true) (hpp : 759 ≤ pp) (h : hO p sc car O len) (fs : hFs sc sc2) (fa : hFa pp car car2) : hO p sc2 car2 O len := by
  have := x_pr_ne hp
  refine ⟨(fs p 3 (by omega)).trans h.1, fun i hi => ?_⟩
  rw [fa (p + 1) (by omega) (by omega), fa (p + 2) (by omega) (by omega)]
  exact h.2 i hi
/-- the orders are sound -/
def wfO (O : Nat → Nat × Int32) (len : Nat) (H : Nat → Nat) : Prop := len ≤ 700 ∧ ∀ a, a < len → o_ok H len a (O a)
set_option maxHeartbeats 1000000 in
theorem h_works {p len : Nat} {O : Nat → Nat × Int32} {H : Nat → Nat} (hp : x_pr p = true) (hmr : mr 3 = p) (hpp : 759 ≤ pp) (hH : wfO O len H) : ∀ (f at_ nn : Nat) (st : List Int32) (S : Nat → Int32) (ar : jSc) (sc car : jSc) (S2 : Nat → Int32) (ar2 : jSc), w_run O len f at_ st S ar = some (S2, ar2) → len < nn + at_ → S 24 = 0 → hO p sc car O len → at_ ≤ len → (at_ < len → H at_ = st.length) → hI cb c27 c28 S ar pp sc car → hWn o0 d57 S ar sc → sc 757 9 = nI st.length → h_st car st →
    ∃ sc2 car2, xF_213_7 nn pp (nI at_) sc mr car al = some (sc2, mr, car2, al) ∧ hI cb c27 c28 S2 ar2 pp sc2 car2 ∧ hWn o0 d57 S2 ar2 sc2 ∧ hFs sc sc2 ∧ hFa pp car car2 := by
  have hpn := x_pr_ne hp
  intro f
  induction f with
  | zero => intro at_ nn st S ar sc car S2 ar2 h; cases h
  | succ f ih =>
    intro at_ nn st S ar sc car S2 ar2 h hnn h24 hO1 hat hHa hi hw h9 hs
    obtain ⟨nn, rfl⟩ : ∃ j, nn = j + 1 := ⟨nn - 1, by omega⟩
    have l7 := hH.1
    have ew : xF_213_7 (nn + 1) pp (nI at_) sc mr car al = xF_213_7 (nn + 1) pp (nI at_) sc mr car al := rfl
    conv at ew => rhs; unfold xF_213_7
    rw [if_neg (nI_pos (by omega)), hmr, if_pos hp, hO1.1] at ew
    have le : nI len ≤ nI at_ ↔ len ≤ at_ := nI_leI (by omega) (by omega)
    unfold w_run at h
    by_cases c : len ≤ at_
    · rw [if_pos c] at h
      cases h
      rw [if_pos (le.mpr c)] at ew
      exact ⟨sc, car, ew, hi, hw, hFs_rf _, hFa_rf _ _⟩
    rw [if_neg c] at h
    have hlt : at_ < len := by omega
    obtain ⟨o1, o2⟩ := hO1.2 at_ hlt
    have hok := hH.2 at_ hlt
    have hst := hHa hlt
    have i7 : iB (nI at_) 700 := iB_nI (by omega) (by decide)
    rw [if_neg (fun z => c (le.mp z)), if_pos hp, if_pos i7, if_pos hp, if_pos i7, iN_nI (by omega), o1, o2] at ew
    have go16 : ∀ k : Nat, k < 2 ^ 31 → ((16 : Int32) ≤ nI k ↔ 16 ≤ k) := fun k hk => nI_leI (by decide) hk
    have eq : ∀ k j : Nat, k < 2 ^ 31 → j < 2 ^ 31 → (nI k = nI j ↔ k = j) := fun k j a b => nI_eq a b
    rcases hok with hok | ⟨k16, kH⟩ | ⟨k17, kH1, kH0, t, kt, t1, t2, t3⟩ | ⟨k18, kmk, kH0, kH⟩
    · have hod : (O at_).1 < 16 := by
        rcases hok.2 with z | z | z
        · omega
        · omega
        · omega
      rw [if_pos hod] at h
      rw [if_neg (fun z => absurd ((go16 _ (by omega)).mp z) (by omega))] at ew
      rw [hst] at hok
      obtain ⟨sc3, car3, x1, x2, x3, x4, x5, x6, x7, x8⟩ := h_tk (mr := mr) (al := al) hok (by omega) hi hw h9 hs
      rw [x1, ob4, nI_1] at ew
      obtain ⟨sc4, car4, y1, y2, y3, y4, y5⟩ := ih (at_ + 1) nn _ _ _ sc3 car3 S2 ar2 h (by omega) h24 (hO_f hp hpp hO1 x7 x8) (by omega) (fun _ => x5.symm) x2 x3 x4 x6
      exact ⟨sc4, car4, ew.trans y1, y2, y3, hFs_tr x7 y4, hFa_tr x8 y5⟩
    · rw [if_neg (by omega), if_pos k16] at h
      cases h
      rw [k16, if_pos (by decide), if_pos (by decide)] at ew
      exact ⟨sc, car, ew, hi, hw, hFs_rf _, hFa_rf _ _⟩
    · rw [if_neg (by omega), if_neg (by omega), if_pos k17] at h
      rw [k17, if_pos (by decide), if_neg (by decide), if_pos (by decide)] at ew
      rcases st with _ | ⟨x, _ | ⟨y, r⟩⟩
      · rw [hst] at kH1; cases kH1
      · rw [h_pop (st := []) (x := x) h9 (by decide) hs, ob5, kt] at ew
        have fs : hFs sc (j_u2 sc 757 9 (nI ([] : List Int32).length)) := hFs_u (by decide) (hFs_rf sc)
        have hi2 : hI cb c27 c28 S ar pp (j_u2 sc 757 9 (nI ([] : List Int32).length)) car := hI_s hi (fun _ _ _ _ => rfl) (rowF_rf ar) fs (u2_nk (by decide)) (by rw [u2_nk (by decide)]; exact hi.2.2.2.1) hi.1 hi.2.1
        have hw2 : hWn o0 d57 S ar (j_u2 sc 757 9 (nI ([] : List Int32).length)) := hW_s hw rfl rfl rfl rfl rfl (u2_nk (by decide)) (u2_nk (by decide)) (fun k _ => by rw [u2_nk (by decide)])
        have hO2 := hO_f hp hpp hO1 fs (hFa_rf pp car)
        by_cases cx : x = 0
        · rw [if_pos (show ([x] : List Int32).headD 0 = 0 from cx), kt, iN_nI (by omega), show max (at_ + 1) t = t by omega] at h
          have e1 : nI t - 1 = nI (t - 1) := by
            have := nI_pred (t - 1)
            rw [show t - 1 + 1 = t by omega] at this
            exact this
          have e2 : (if nI at_ < nI (t - 1) then nI (t - 1) else nI at_) = nI (t - 1) := by
            split
            · rfl
            · rename_i z
              have : ¬ at_ < t - 1 := fun y => z ((nI_ltI (by omega) (by omega)).mpr y)
              rw [show t - 1 = at_ by omega]
          rw [if_pos cx, e1, e2, nI_1, show t - 1 + 1 = t by omega] at ew
          obtain ⟨sc4, car4, y1, y2, y3, y4, y5⟩ := ih t nn _ _ _ _ car S2 ar2 h (by omega) h24 hO2 (by omega) (fun _ => t3) hi2 hw2 u2_eq trivial
          exact ⟨sc4, car4, ew.trans y1, y2, y3, hFs_tr fs y4, y5⟩
        · rw [if_neg (show ¬ ([x] : List Int32).headD 0 = 0 from cx)] at h
          rw [if_neg cx, nI_1] at ew
          obtain ⟨sc4, car4, y1, y2, y3, y4, y5⟩ := ih (at_ + 1) nn _ _ _ _ car S2 ar2 h (by omega) h24 hO2 (by omega) (fun _ => kH0) hi2 hw2 u2_eq trivial
          exact ⟨sc4, car4, ew.trans y1, y2, y3, hFs_tr fs y4, y5⟩
      · rw [hst] at kH1
        simp only [List.length_cons] at kH1
        omega
    · rw [if_neg (by omega), if_neg (by omega), if_neg (by omega)] at h
      rw [if_pos ((go16 _ (by omega)).mpr (by omega)), if_neg (show ¬ nI (O at_).1 = (16 : Int32) from fun z => absurd ((eq _ 16 (by omega) (by decide)).mp z) (by omega)), if_neg (show ¬ nI (O at_).1 = (17 : Int32) from fun z => absurd ((eq _ 17 (by omega) (by decide)).mp z) (by omega))] at ew
      rw [hst] at kH
      obtain ⟨r, sc3, car3, x1, x2, x3, x4, x5, x6⟩ := h_does (mr := mr) (al := al) k18 kmk (by omega) h24 hi hw h9 kH hs
      rw [x1, ob5] at ew
      have e0 : w_tl (O at_).1 st = [] := by
        unfold w_tl
        rcases st with _ | ⟨x, _ | ⟨y, q⟩⟩
        · split <;> rfl
        · have : (O at_).1 = 18 ∨ (O at_).1 = 24 ∨ (O at_).1 = 26 := by
            by_cases z : (O at_).1 = 18 ∨ (O at_).1 = 24 ∨ (O at_).1 = 26
            · exact z
            · rw [if_neg z] at kH; cases kH
          rw [if_pos this]; rfl
        · simp only [List.length_cons] at kH
          split at kH <;> omega
      rcases x2 with ⟨r1, r2, r3⟩ | ⟨r1, r2, r3⟩
      · rw [r1, if_neg (by decide), nI_1] at ew
        rw [if_pos r2, e0] at h
        obtain ⟨sc4, car4, y1, y2, y3, y4, y5⟩ := ih (at_ + 1) nn _ _ _ sc3 car3 S2 ar2 h (by omega) r2 (hO_f hp hpp hO1 x5 x6) (by omega) (fun _ => kH0) r3 x3 x4 trivial
        exact ⟨sc4, car4, ew.trans y1, y2, y3, hFs_tr x5 y4, hFa_tr x6 y5⟩
      · rw [r1, if_pos rfl] at ew
        rw [if_neg (by rw [r2]; decide)] at h
        cases h
        exact ⟨sc3, _, ew, r3, x3, x5, hFa_u x6⟩
end HV
