/-! THE REFERENCE: values, the whole. -/
theorem e_asame_ask {wn k : Nat} {S : Nat → Int32} {ar : jSc} : e_asame ar (a_ask wn k S ar) := by
  intro b h1 h2
  unfold a_ask
  split
  · rfl
  · rename_i hc
    have hw : wn < 2 := Nat.not_le.mp fun z => hc (Or.inr (Or.inr z))
    have e1 : ¬ b = 718 := by simpa using h1
    have e2 : ¬ b = 719 := by simpa using h2
    exact va_up_ne _ _ (show ¬ b = 718 + wn by omega)
set_option maxHeartbeats 8000000 in
set_option maxRecDepth 100000 in
theorem e_step0 {X : jX} (hX : j_LK (g_n X) (g_L X)) (hr : g_rs X = r_sh) {tx P : Nat → Int32} {wn nn n : Nat} (ih : ∀ tag v S ar v2 S2 ar2, e_x tx P wn n tag v S ar = some (v2, S2, ar2) → (e_same S S2 ∧ e_asame ar ar2) ∧ e_G X tx P wn nn n tag v S ar v2 S2 ar2) {v v2 : Int32} {S S2 : Nat → Int32} {ar ar2 : jSc} (h : e_x tx P wn (n + 1) 0 v S ar = some (v2, S2, ar2)) : (e_same S S2 ∧ e_asame ar ar2) ∧ e_G X tx P wn nn (n + 1) 0 v S ar v2 S2 ar2 := by
  rcases hq : e_q S with _ | q
  · rw [e_x_no _ _ _ _ _ _ _ _ hq] at h; cases h
  · rw [e_x_0 _ _ _ _ _ _ _ q hq] at h
    obtain ⟨hat, hq2⟩ := e_q_ok hq
    by_cases hf : S f_fault = 0
    · rw [if_neg (fun z => z hf)] at h
      by_cases hd : 48 ≤ tx (x_nb tx q) ∧ tx (x_nb tx q) ≤ 57
      · rw [if_pos hd] at h
        cases h
        refine ⟨⟨e_same_num (e_same_at (e_same_rf S)), fun _ _ _ => rfl⟩, ?_⟩
        intro d sc rf al Post lv hrf hK hl0 _ hP
        show gW X 22 (d + 4 * n + 12) 0 lv [] (va_up sc 0 S) rf ar al Post
        exact u_digit hX hr hrf hK hl0 hat hq2 hf hd hP
      · rw [if_neg hd] at h
        by_cases hl : x_let tx (x_nb tx q) = -1
        · rw [if_neg (fun z => z hl)] at h
          by_cases hg : x_wh tx (x_nb tx q) = m_word 7 15 20 0 0 0
          · rw [if_pos hg] at h
            cases h
            refine ⟨⟨e_same_at (e_same_rf S), fun _ _ _ => rfl⟩, ?_⟩
            intro d sc rf al Post lv hrf hK hl0 _ hP
            show gW X 22 (d + 4 * n + 12) 0 lv [] (va_up sc 0 S) rf ar al Post
            exact u_got hX hr hrf hK hl0 hat hq2 hf hd hl hg hP
          · rw [if_neg hg] at h
            by_cases hw : x_wh tx (x_nb tx q) = m_word 6 1 18 0 0 0
            · rw [if_pos hw] at h
              split at h
              · rename_i hz
                cases h
                refine ⟨⟨e_same_read (e_same_dig (e_same_at (e_same_rf S))), e_asame_ask⟩, ?_⟩
                intro d sc rf al Post lv hrf hK hl0 _ hP
                show gW X 22 (d + 4 * n + 12) 0 lv [] (va_up sc 0 S) rf ar al Post
                exact u_far1 hX hr hrf hK hl0 hat hq2 hf hd hl hg hw hz hP
              · rename_i hz
                cases h
                refine ⟨⟨e_same_dig (e_same_at (e_same_rf S)), fun _ _ _ => rfl⟩, ?_⟩
                intro d sc rf al Post lv hrf hK hl0 _ hP
                show gW X 22 (d + 4 * n + 12) 0 lv [] (va_up sc 0 S) rf ar al Post
                exact u_far0 hX hr hrf hK hl0 hat hq2 hf hd hl hg hw hz hP
            · rw [if_neg hw] at h
              by_cases hle : x_wh tx (x_nb tx q) = m_word 12 5 1 19 20 0
              · rw [if_pos (Or.inl hle)] at h
                by_cases h40 : tx (x_nb tx (x_we tx (x_nb tx q))) = 40
                · rw [if_neg (fun z => z h40)] at h
                  split at h
                  · rename_i u S1 ar1 h1
                    split at h
                    · rename_i q1 hq1
                      split at h
                      · rename_i t S3 ar3 h3
                        split at h
                        · rename_i q3 hq3
                          cases h
                          obtain ⟨⟨i1, i2⟩, i3⟩ := ih _ _ _ _ _ _ _ h1
                          obtain ⟨⟨j1, j2⟩, j3⟩ := ih _ _ _ _ _ _ _ h3
                          refine ⟨⟨e_same_o (e_same_sign (e_same_tr (e_same_sign (e_same_tr (e_same_open (e_same_at (e_same_rf S))) i1)) j1)), fun b y z => (j2 b y z).trans (i2 b y z)⟩, ?_⟩
                          intro d sc rf al Post lv hrf hK hl0 _ hP
                          rw [if_pos hle] at hP
                          show gW X 22 (d + 4 * n + 11 + 1) 0 lv [] (va_up sc 0 S) rf ar al Post
                          exact u_l1 hX hr hrf hK hl0 hat hq2 hf hd hl hg hw hle h40 i3 i1 i2 hq1 j3 j1 j2 hq3 hP
                        · cases h
                      · cases h
                    · cases h
                  · cases h
                · rw [if_pos h40] at h
                  cases h
                  refine ⟨⟨e_same_wrong (e_same_at (e_same_rf S)), fun _ _ _ => rfl⟩, ?_⟩
                  intro d sc rf al Post lv hrf hK hl0 _ hP
                  show gW X 22 (d + 4 * n + 11 + 1) 0 lv [] (va_up sc 0 S) rf ar al Post
                  exact u_l0 (n := n) hX hr hrf hK hl0 hat hq2 hf hd hl hg hw hle h40 hP
              · by_cases hmo : x_wh tx (x_nb tx q) = m_word 13 15 19 20 0 0
                · rw [if_pos (Or.inr hmo)] at h
                  by_cases h40 : tx (x_nb tx (x_we tx (x_nb tx q))) = 40
                  · rw [if_neg (fun z => z h40)] at h
                    split at h
                    · rename_i u S1 ar1 h1
                      split at h
                      · rename_i q1 hq1
                        split at h
                        · rename_i t S3 ar3 h3
                          split at h
                          · rename_i q3 hq3
                            cases h
                            obtain ⟨⟨i1, i2⟩, i3⟩ := ih _ _ _ _ _ _ _ h1
                            obtain ⟨⟨j1, j2⟩, j3⟩ := ih _ _ _ _ _ _ _ h3
                            refine ⟨⟨e_same_o (e_same_sign (e_same_tr (e_same_sign (e_same_tr (e_same_open (e_same_at (e_same_rf S))) i1)) j1)), fun b y z => (j2 b y z).trans (i2 b y z)⟩, ?_⟩
                            intro d sc rf al Post lv hrf hK hl0 _ hP
                            rw [if_neg hle] at hP
                            show gW X 22 (d + 4 * n + 11 + 1) 0 lv [] (va_up sc 0 S) rf ar al Post
                            exact u_m1 hX hr hrf hK hl0 hat hq2 hf hd hl hg hw hmo h40 i3 i1 i2 hq1 j3 j1 j2 hq3 hP
                          · cases h
                        · cases h
                      · cases h
                    · cases h
                  · rw [if_pos h40] at h
                    cases h
                    refine ⟨⟨e_same_wrong (e_same_at (e_same_rf S)), fun _ _ _ => rfl⟩, ?_⟩
                    intro d sc rf al Post lv hrf hK hl0 _ hP
                    show gW X 22 (d + 4 * n + 11 + 1) 0 lv [] (va_up sc 0 S) rf ar al Post
                    exact u_m0 (n := n) hX hr hrf hK hl0 hat hq2 hf hd hl hg hw hmo h40 hP
                · rw [if_neg (fun z => z.elim hle hmo)] at h
                  by_cases h40 : tx (x_nb tx q) = 40
                  · rw [if_neg (fun z => z h40)] at h
                    split at h
                    · rename_i u S1 ar1 h1
                      split at h
                      · rename_i q1 hq1
                        cases h
                        obtain ⟨⟨i1, i2⟩, i3⟩ := ih _ _ _ _ _ _ _ h1
                        refine ⟨⟨e_same_o (e_same_sign (e_same_tr (e_same_open (e_same_at (e_same_rf S))) i1)), i2⟩, ?_⟩
                        intro d sc rf al Post lv hrf hK hl0 _ hP
                        show gW X 22 (d + 4 * n + 11 + 1) 0 lv [] (va_up sc 0 S) rf ar al Post
                        exact u_par1 hX hr hrf hK hl0 hat hq2 hf hd hl hg hw hle hmo h40 i3 i1 i2 hq1 hP
                      · cases h
                    · cases h
                  · rw [if_pos h40] at h
                    cases h
                    refine ⟨⟨e_same_wrong (e_same_at (e_same_rf S)), fun _ _ _ => rfl⟩, ?_⟩
                    intro d sc rf al Post lv hrf hK hl0 _ hP
                    show gW X 22 (d + 4 * n + 11 + 1) 0 lv [] (va_up sc 0 S) rf ar al Post
                    exact u_par0 (n := n) hX hr hrf hK hl0 hat hq2 hf hd hl hg hw hle hmo h40 hP
        · rw [if_pos hl] at h
          cases h
          refine ⟨⟨e_same_read (e_same_at (e_same_rf S)), fun _ _ _ => rfl⟩, ?_⟩
          intro d sc rf al Post lv hrf hK hl0 _ hP
          show gW X 22 (d + 4 * n + 12) 0 lv [] (va_up sc 0 S) rf ar al Post
          exact u_letter hX hr hrf hK hl0 hat hq2 hf hd hl hP
    · rw [if_pos hf] at h
      cases h
      refine ⟨⟨e_same_rf S, fun _ _ _ => rfl⟩, ?_⟩
      intro d sc rf al Post lv hrf hK hl0 _ hP
      show gW X 22 (d + 4 * n + 12) 0 lv [] (va_up sc 0 S) rf ar al Post
      exact u_fault hX hr hrf hK hl0 hat hq2 hf hP
set_option maxHeartbeats 4000000 in
/-- every result of e_x is what the machine's unit, product and sum do -/
theorem e_ok {X : jX} (hX : j_LK (g_n X) (g_L X)) (hr : g_rs X = r_sh) {tx P : Nat → Int32} {wn nn : Nat} : ∀ (n tag : Nat) (v : Int32) (S : Nat → Int32) (ar : jSc) (v2 : Int32) (S2 : Nat → Int32) (ar2 : jSc), e_x tx P wn n tag v S ar = some (v2, S2, ar2) → (e_same S S2 ∧ e_asame ar ar2) ∧ e_G X tx P wn nn n tag v S ar v2 S2 ar2 := by
  intro n
  induction n with
  | zero => intro tag v S ar v2 S2 ar2 h; unfold e_x at h; cases h
  | succ n ih =>
    intro tag v S ar v2 S2 ar2 h
    rcases (show tag = 0 ∨ tag = 1 ∨ tag = 2 ∨ tag = 3 ∨ tag = 4 ∨ 5 ≤ tag by omega) with rfl | rfl | rfl | rfl | rfl | ht
    · exact e_step0 hX hr ih h
    · exact e_step1 hX hr ih h
    · exact e_step2 hX hr ih h
    · exact e_step3 hX hr ih h
    · exact e_step4 hX hr ih h
    · rcases hq : e_q S with _ | q
      · rw [e_x_no _ _ _ _ _ _ _ _ hq] at h; cases h
      · obtain ⟨k, rfl⟩ : ∃ k, tag = k + 5 := ⟨tag - 5, by omega⟩
        unfold e_x at h
        rw [hq] at h
        cases h
