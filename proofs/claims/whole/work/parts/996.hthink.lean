/-! ClickOrders: the hand thinks. -/
/-- what stays stale behind an order that thinks -/
def h_sl (s : Int32) (o : Nat × Int32) : Int32 := if o.1 = 3 then s &&& ((1 <<< (o.2 &&& 31)) ^^^ (-1)) else s
section HT
variable {sc ar : jSc} {mr : Nat → Nat} {al : jAl}
/-- from (sc, ar) to (sc2, ar2) the hand thought: the stack is st2, read bits rd2, stale bits sl2 -/
def hTh (sc ar : jSc) (st2 : List Int32) (rd2 sl2 : Int32) (sc2 ar2 : jSc) : Prop := sc2 757 9 = nI st2.length ∧ h_st ar2 st2 ∧ sc2 757 3 = rd2 ∧ sc2 757 5 = sl2 ∧ (∀ a k, ¬ (a = 757 ∧ (k = 3 ∨ k = 5 ∨ k = 9)) → sc2 a k = sc a k) ∧ ∀ b, b ≠ 758 → ar2 b = ar b
theorem hTh_push {sc1 : jSc} {st : List Int32} {x rd2 sl2 : Int32} (h9 : sc1 757 9 = nI st.length) (hl : st.length < 64) (hs : h_st ar st) (h3 : sc1 757 3 = rd2) (h5 : sc1 757 5 = sl2) (hf : ∀ a k, ¬ (a = 757 ∧ (k = 3 ∨ k = 5 ∨ k = 9)) → sc1 a k = sc a k) : ∃ sc2 ar2, xF_214_138 x sc1 mr ar al = some (sc2, mr, ar2, al) ∧ hTh sc ar (x :: st) rd2 sl2 sc2 ar2 := by
  obtain ⟨e1, e2⟩ := h_push (mr := mr) (al := al) (x := x) h9 hl hs
  refine ⟨_, _, e1, u2_eq, e2, (u2_nk (by decide)).trans h3, (u2_nk (by decide)).trans h5, fun a k h => ?_, fun b hb => j_u2_row _ _ _ _ hb⟩
  by_cases e : a = 757
  · rw [u2_nk (fun z => h ⟨e, Or.inr (Or.inr z)⟩)]
    exact hf a k h
  · rw [u2_na e]
    exact hf a k h
theorem hf_up {f : jSc} {k0 : Nat} {x : Int32} (hk : k0 = 3 ∨ k0 = 5 ∨ k0 = 9) (hf : ∀ a k, ¬ (a = 757 ∧ (k = 3 ∨ k = 5 ∨ k = 9)) → f a k = sc a k) : ∀ a k, ¬ (a = 757 ∧ (k = 3 ∨ k = 5 ∨ k = 9)) → j_u2 f 757 k0 x a k = sc a k := by
  intro a k h
  by_cases e : a = 757
  · rw [u2_nk (fun z => h ⟨e, by omega⟩)]
    exact hf a k h
  · rw [u2_na e]
    exact hf a k h
theorem h_think {P : Nat → Int32} {gt m : Int32} {st : List Int32} {od p1 : Nat} (hod : od < 16) (hP1 : od = 1 → ∃ d, d < 8 ∧ m = nI d ∧ ar (p1 + 1) d = P d) (hP3 : od = 3 → ∃ d, d < 4 ∧ m = nI d ∧ ar (p1 + 1) (10 + d) = P (33 + d)) (hg : sc 757 7 = gt) (h9 : sc 757 9 = nI st.length) (hs : h_st ar st) (hl : st.length < 64) (h4 : od = 4 → 1 ≤ st.length) (h5 : 5 ≤ od → 2 ≤ st.length) :
    ∃ sc2 ar2, xF_214 p1 (nI od) m sc mr ar al = some (sc2, mr, ar2, al) ∧ hTh sc ar (o_th P gt st (od, m)) (o_r1 (sc 757 3) (od, m)) (h_sl (sc 757 5) (od, m)) sc2 ar2 := by
  have f0 : ∀ a k, ¬ (a = 757 ∧ (k = 3 ∨ k = 5 ∨ k = 9)) → sc a k = sc a k := fun _ _ _ => rfl
  unfold xF_214
  rcases (show od = 0 ∨ od = 1 ∨ od = 2 ∨ od = 3 ∨ od = 4 ∨ 5 ≤ od by omega) with rfl | rfl | rfl | rfl | rfl | h55
  · rw [if_pos (by decide)]
    exact hTh_push h9 hl hs rfl rfl f0
  · obtain ⟨d, d1, rfl, d2⟩ := hP1 rfl
    rw [if_neg (by decide), if_pos (by decide), if_pos (iB_nI (by omega) (by decide)), iN_nI (by omega), d2]
    have r := hTh_push (sc := sc) (ar := ar) (mr := mr) (al := al) (x := P d) (st := st) (sc1 := j_u2 sc 757 3 (sc 757 3 ||| (1 <<< (nI d &&& 31)))) ((u2_nk (by decide)).trans h9) hl hs u2_eq (u2_nk (by decide)) (hf_up (by decide) f0)
    have e : o_th P gt st (1, nI d) = P d :: st := by
      show P (iN (nI d)) :: st = _
      rw [iN_nI (by omega)]
    rw [e]
    exact r
  · rw [if_neg (by decide), if_neg (by decide), if_pos (by decide), hg]
    exact hTh_push h9 hl hs rfl rfl f0
  · obtain ⟨d, d1, rfl, d2⟩ := hP3 rfl
    rw [if_neg (by decide), if_neg (by decide), if_neg (by decide), if_pos (by decide), show (10 : Int32) = nI 10 from rfl, nI_add, if_pos (iB_nI (by omega) (by decide)), iN_nI (by omega), d2]
    have r := hTh_push (sc := sc) (ar := ar) (mr := mr) (al := al) (x := P (33 + d)) (st := st) (sc1 := j_u2 (j_u2 sc 757 3 (sc 757 3 ||| (1 <<< ((16 + nI d) &&& 31)))) 757 5 (sc 757 5 &&& ((1 <<< (nI d &&& 31)) ^^^ (-1)))) ((u2_nk (by decide)).trans ((u2_nk (by decide)).trans h9)) hl hs ((u2_nk (by decide)).trans u2_eq) u2_eq (hf_up (by decide) (hf_up (by decide) f0))
    have e : o_th P gt st (3, nI d) = P (33 + d) :: st := by
      show P (33 + iN (nI d)) :: st = _
      rw [iN_nI (by omega)]
    rw [e]
    exact r
  · rw [if_neg (by decide), if_neg (by decide), if_neg (by decide), if_neg (by decide), if_pos (by decide)]
    rcases st with _ | ⟨x, r⟩
    · exact absurd (h4 rfl) (by decide)
    · simp only [List.length_cons] at h9 hl
      rw [h_pop h9 (by omega) hs, ob5]
      exact hTh_push u2_eq (by omega) hs.2 (u2_nk (by decide)) (u2_nk (by decide)) (hf_up (by decide) f0)
  · have ne : ∀ k : Nat, k < 5 → ¬ nI od = nI k := fun k hk z => absurd ((nI_eq (by omega) (by omega)).mp z) (by omega)
    rw [if_neg (show ¬ nI od = (0 : Int32) from ne 0 (by decide)), if_neg (show ¬ nI od = (1 : Int32) from ne 1 (by decide)), if_neg (show ¬ nI od = (2 : Int32) from ne 2 (by decide)), if_neg (show ¬ nI od = (3 : Int32) from ne 3 (by decide)), if_neg (show ¬ nI od = (4 : Int32) from ne 4 (by decide))]
    rcases st with _ | ⟨y, _ | ⟨x, r⟩⟩
    · exact absurd (h5 h55) (by decide)
    · exact absurd (h5 h55) (show ¬ 2 ≤ 1 by decide)
    · simp only [List.length_cons] at h9 hl
      have hp1 : xF_218 sc mr ar al = some (y, j_u2 sc 757 9 (nI (r.length + 1)), mr, ar, al) := h_pop (st := x :: r) h9 (by simp only [List.length_cons]; omega) hs
      rw [hp1, ob5, h_pop (st := r) u2_eq (by omega) hs.2, ob5, h_join h55 (by omega), ob5, u2_2]
      have e : o_th P gt (y :: x :: r) (od, m) = o_jo od x y :: r := by
        unfold o_th
        simp only [show ¬ od = 0 by omega, show ¬ od = 1 by omega, show ¬ od = 2 by omega, show ¬ od = 3 by omega, show ¬ od = 4 by omega, if_false]
      have e2 : o_r1 (sc 757 3) (od, m) = sc 757 3 := by
        unfold o_r1
        simp only [show ¬ od = 1 by omega, show ¬ od = 3 by omega, if_false]
      have e3 : h_sl (sc 757 5) (od, m) = sc 757 5 := by
        unfold h_sl
        simp only [show ¬ od = 3 by omega, if_false]
      rw [e, e2, e3]
      exact hTh_push u2_eq (by omega) hs.2.2 (u2_nk (by decide)) (u2_nk (by decide)) (hf_up (by decide) f0)
end HT
