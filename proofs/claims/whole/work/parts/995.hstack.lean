/-! ClickOrders: the hand's stack. -/
/-- the stack's row holds st, its top at the head -/
def h_st (ar : jSc) : List Int32 → Prop
  | [] => True
  | x :: r => ar 758 r.length = x ∧ h_st ar r
section HS
variable {sc ar : jSc} {mr : Nat → Nat} {al : jAl}
theorem h_st_up {x : Int32} {k : Nat} : ∀ (st : List Int32), st.length ≤ k → h_st ar st → h_st (j_u2 ar 758 k x) st
  | [], _, _ => trivial
  | y :: r, hk, h => by
    simp only [List.length_cons] at hk
    exact ⟨(u2_nk (by omega)).trans h.1, h_st_up r (by omega) h.2⟩
theorem h_st_row {ar2 : jSc} (h : ar2 758 = ar 758) : ∀ (st : List Int32), h_st ar st → h_st ar2 st
  | [], _ => trivial
  | y :: r, hs => ⟨by rw [h]; exact hs.1, h_st_row h r hs.2⟩
theorem h_push {st : List Int32} {x : Int32} (h9 : sc 757 9 = nI st.length) (hl : st.length < 64) (hs : h_st ar st) : xF_214_138 x sc mr ar al = some (j_u2 sc 757 9 (nI (st.length + 1)), mr, j_u2 ar 758 st.length x, al) ∧ h_st (j_u2 ar 758 st.length x) (x :: st) := by
  refine ⟨?_, u2_eq, h_st_up st (Nat.le_refl _) hs⟩
  have e : (64 : Int32) ≤ nI st.length ↔ 64 ≤ st.length := nI_leI (by decide) (by omega)
  unfold xF_214_138
  rw [h9, if_neg (nI_pos (by omega)), if_neg (fun z => absurd (e.mp z) (by omega)), if_pos (iB_nI (by omega) (by decide)), iN_nI (by omega), nI_1]
theorem h_pop {st : List Int32} {x : Int32} (h9 : sc 757 9 = nI (st.length + 1)) (hl : st.length < 64) (hs : h_st ar (x :: st)) : xF_218 sc mr ar al = some (x, j_u2 sc 757 9 (nI st.length), mr, ar, al) := by
  have e0 : nI (st.length + 1) ≤ (0 : Int32) ↔ st.length + 1 ≤ 0 := nI_leI (by omega) (by decide)
  have e1 : nI (st.length + 1) ≤ (64 : Int32) ↔ st.length + 1 ≤ 64 := nI_leI (by omega) (by decide)
  unfold xF_218
  rw [h9, if_neg (fun z => absurd (e0.mp z) (by omega)), if_pos (e1.mpr (by omega)), nI_pred, if_pos (iB_nI (by omega) (by decide)), iN_nI (by omega), hs.1]
theorem h_join {o : Nat} {x y : Int32} (h1 : 5 ≤ o) (h2 : o ≤ 15) : xF_215 (nI o) x y sc mr ar al = some (o_jo o x y, sc, mr, ar, al) := by
  rcases (show o = 5 ∨ o = 6 ∨ o = 7 ∨ o = 8 ∨ o = 9 ∨ o = 10 ∨ o = 11 ∨ o = 12 ∨ o = 13 ∨ o = 14 ∨ o = 15 by omega) with rfl | rfl | rfl | rfl | rfl | rfl | rfl | rfl | rfl | rfl | rfl
  · rfl
  · rfl
  · rfl
  · unfold xF_215
    rw [if_neg (by decide), if_neg (by decide), if_neg (by decide), if_pos (by decide)]
    show _ = some ((if y = 0 then 0 else x / y), sc, mr, ar, al)
    by_cases c : y = 0
    · rw [if_pos c, if_pos c]
    · rw [if_neg c, if_pos c, if_neg c]
  · rfl
  · rfl
  · unfold xF_215
    rw [if_neg (by decide), if_neg (by decide), if_neg (by decide), if_neg (by decide), if_neg (by decide), if_neg (by decide), if_pos (by decide)]
    show _ = some ((if x < y then 1 else 0), sc, mr, ar, al)
    by_cases c : y ≤ x
    · rw [if_pos c, if_neg (Int32.not_lt.mpr c)]
    · rw [if_neg c, if_pos (Int32.not_le.mp c)]
  · unfold xF_215
    rw [if_neg (by decide), if_neg (by decide), if_neg (by decide), if_neg (by decide), if_neg (by decide), if_neg (by decide), if_neg (by decide), if_pos (by decide)]
    show _ = some ((if y < x then 1 else 0), sc, mr, ar, al)
    by_cases c : x ≤ y
    · rw [if_pos c, if_neg (Int32.not_lt.mpr c)]
    · rw [if_neg c, if_pos (Int32.not_le.mp c)]
  · unfold xF_215
    rw [if_neg (by decide), if_neg (by decide), if_neg (by decide), if_neg (by decide), if_neg (by decide), if_neg (by decide), if_neg (by decide), if_neg (by decide), if_pos (by decide)]
    show _ = some ((if x = y then 1 else 0), sc, mr, ar, al)
    split <;> rfl
  · rfl
  · rfl
end HS
