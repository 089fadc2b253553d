/-! How many words one happening loses: a small number. -/
theorem ef_57 {o : Nat} {m v : Int32} {S : Nat → Int32} {ar : jSc} : (m_ef o m v S ar).2.2.1 = S 57 ∨ (m_ef o m v S ar).2.2.1 = S 57 + 1 := by
  unfold m_ef
  by_cases c18 : o = 18
  · rw [if_pos c18]; exact Or.inl rfl
  rw [if_neg c18]
  by_cases c19 : o = 19
  · rw [if_pos c19]; exact Or.inl rfl
  rw [if_neg c19]
  by_cases c20 : o = 20
  · rw [if_pos c20]; exact Or.inl rfl
  rw [if_neg c20]
  by_cases c21 : o = 21
  · rw [if_pos c21]; exact Or.inl rfl
  rw [if_neg c21]
  by_cases c22 : o = 22
  · rw [if_pos c22]; exact Or.inl rfl
  rw [if_neg c22]
  by_cases c23 : o = 23
  · rw [if_pos c23]
    by_cases z : ar 13 26 = 3
    · rw [if_pos z]; exact Or.inl rfl
    · rw [if_neg z]; exact Or.inl rfl
  rw [if_neg c23]
  by_cases c24 : o = 24
  · rw [if_pos c24]
    generalize (if m_fr ar (iN (S 38)) 2 m = true then eP ar (iN m) else ar) = ar1
    by_cases z : ar1 13 (10 + iN m) = 3
    · rw [if_pos z]; exact Or.inl rfl
    · rw [if_neg z]; exact Or.inl rfl
  rw [if_neg c24]
  by_cases c25 : o = 25
  · rw [if_pos c25]; exact Or.inl rfl
  rw [if_neg c25]
  by_cases c26 : o = 26
  · rw [if_pos c26]
    by_cases z : S 29 = -1
    · rw [if_pos z]; exact Or.inl rfl
    · rw [if_neg z]
      show (if ar 716 (iN m) = 1 - S 29 ∧ ar (718 + iN (S 29)) (iN m) = 0 then S 57 + 1 else S 57) = _ ∨ _
      by_cases y : ar 716 (iN m) = 1 - S 29 ∧ ar (718 + iN (S 29)) (iN m) = 0
      · rw [if_pos y]; exact Or.inr rfl
      · rw [if_neg y]; exact Or.inl rfl
  rw [if_neg c26]
  exact Or.inl rfl
theorem sEb_57 {S : Nat → Int32} {e : Int32 × Int32 × Int32 × jSc} : sE S e 57 = e.2.2.1 := up_0
def up57 (S S2 : Nat → Int32) (f : Nat) : Prop := ∃ j, j ≤ f ∧ S2 57 = S 57 + nI j
theorem up57_0 {S S2 : Nat → Int32} {f : Nat} (h : S2 57 = S 57) : up57 S S2 f := ⟨0, Nat.zero_le _, by rw [h]; exact (Int32.add_zero _).symm⟩
theorem w_57 {O : Nat → Nat × Int32} {len : Nat} : ∀ (f at_ : Nat) (st : List Int32) (S : Nat → Int32) (ar : jSc) (S2 : Nat → Int32) (ar2 : jSc), w_run O len f at_ st S ar = some (S2, ar2) → up57 S S2 f := by
  intro f
  induction f with
  | zero => intro at_ st S ar S2 ar2 h; cases h
  | succ f ih =>
    intro at_ st S ar S2 ar2 h
    unfold w_run at h
    split at h
    · cases h; exact up57_0 rfl
    split at h
    · obtain ⟨j, a, b⟩ := ih _ _ _ _ _ _ h
      exact ⟨j, by omega, by rw [b, up_n (by decide)]⟩
    split at h
    · cases h; exact up57_0 rfl
    split at h
    · split at h
      · obtain ⟨j, a, b⟩ := ih _ _ _ _ _ _ h
        exact ⟨j, by omega, b⟩
      · obtain ⟨j, a, b⟩ := ih _ _ _ _ _ _ h
        exact ⟨j, by omega, b⟩
    have e := ef_57 (o := (O at_).1) (m := (O at_).2) (v := st.headD 0) (S := S) (ar := ar)
    split at h
    · obtain ⟨j, a, b⟩ := ih _ _ _ _ _ _ h
      rw [sEb_57] at b
      rcases e with e | e
      · exact ⟨j, by omega, by rw [b, e]⟩
      · exact ⟨j + 1, by omega, by rw [b, e, Int32.add_assoc, Int32.add_comm 1 (nI j), nI_1]⟩
    · cases h
      rcases e with e | e
      · exact up57_0 (sEb_57.trans e)
      · exact ⟨1, by omega, sEb_57.trans e⟩
section H57
variable {S : Nat → Int32} {ar : jSc} {pr n m : Nat} {tx : Nat → Int32} {g : pG}
theorem r_run57 {e : Nat} (hg : gRf pr n tx g ar) (hw' : wfG g) (h16 : S 16 = nI pr) (hm : ∃ k, k ≤ 6 ∧ S 38 = nI k) (he : e < 17) (hP : pgC (ar 13)) (hw : S 29 = -1 ∨ S 29 = 0 ∨ S 29 = 1) : ∃ S9 ar9, rF_46 (nI e) S ar = some (S9, ar9) ∧ up57 S S9 600 := by
  obtain ⟨g1, g2, g3, g4, g5, g6, g7, g8, g9⟩ := hg
  rcases hx : g.2.1 e with _ | x
  · exact ⟨_, _, r_runs0 (S := S) (ar := ar) (e := e) g1 h16 he (by rw [g7 e he, hx]; rfl), up57_0 (up_n (by decide))⟩
  · obtain ⟨S9, ar9, Sm, f, x1, x2, ⟨x3, x4, x5, x6⟩, -, -, -, -, -, xf⟩ := r_runs (S := S) (ar := ar) (e := e) g1 h16 he (by rw [g7 e he, hx]; rfl) g3 g2 g4 (HB_of g5 g6 hx) hP hm hw
    obtain ⟨j, a, b⟩ := w_57 _ _ _ _ _ _ _ x2
    exact ⟨S9, ar9, x1, j, by omega, by rw [x6, b, up_n (by decide)]⟩
theorem r_hap57 {c : Nat} {x : Int32} {C : Nat → Int32} (hg : gRf pr n tx g ar) (hw' : wfG g) (h16 : S 16 = nI pr) (h38 : S 38 = nI m) (hf : fG ar m) (h29 : S 29 = -1 ∨ S 29 = 0 ∨ S 29 = 1) (hc : c < 13) (hR : pgR (ar 13) C) (h8 : c = 8 → ¬ ar 13 26 = 0) (h9 : 8 < c → ¬ ar 13 (10 + (c - 9)) = 0) : ∃ v S9 ar9, rF_52 (nI c) x S ar = some (v, S9, ar9) ∧ up57 S S9 600 := by
  obtain ⟨q, hq, eq⟩ := hR.2.2.1.2
  have hm6 : ∃ k, k ≤ 6 ∧ S 38 = nI k := ⟨m, hf.1, h38⟩
  have er : rF_52 (nI c) x S ar = (if (8 : Int32) ≤ nI c then rF_52_100 (nI c) (nI (nxG (ar 13) 0 1 (q - 1))) (-1) (1 + nI c) 0 (upd (upd S 26 x) 25 0) (va_up ar 13 (ageP (ar 13) q)) else rF_52_100 (nI c) (nI (nxG (ar 13) 0 1 (q - 1))) (-1) (1 + nI c) (1 <<< ((8 + nI c) &&& 31)) (upd (upd S 26 x) 25 0) (va_up ar 13 (ageP (ar 13) q))) := by
    unfold rF_52
    rw [r_next hq eq, ob3, r_age hq eq]
  have R1 : pgR (ageP (ar 13) q) (ageC C q) := pgR_ag hR eq hq
  have l8 : (8 : Int32) ≤ nI c ↔ 8 ≤ c := nI_leI (by decide) (by omega)
  have g8 : nI c ≤ (8 : Int32) ↔ c ≤ 8 := nI_leI (by omega) (by decide)
  have e8 : nI c = (8 : Int32) ↔ c = 8 := nI_eq (by omega) (by decide)
  by_cases k8 : 8 ≤ c
  · rw [if_pos (l8.mpr k8)] at er
    by_cases kc : c = 8
    · have q0 : q ≠ 0 := fun z => h8 kc (by rw [eq, z]; rfl)
      have hb := nxG_lt (ar 13) (q - 1) 0 1 (by omega)
      generalize hB : nxG (ar 13) 0 1 (q - 1) = b at er hb
      have e27 : (27 : Int32) + nI b = nI (27 + b) := nI_add 27 b
      have e50 : (50 : Int32) + nI b = nI (50 + b) := nI_add 50 b
      obtain ⟨d, y, hd, hy, z1, z2, z3⟩ := R1.2.1 b (by omega)
      have p26 : ageP (ar 13) q 26 = nI q := (ageP_o (by omega)).trans eq
      have e9 : (9 : Int32) + nI d = nI (9 + d) := nI_add 9 d
      unfold rF_52_100 at er
      have R2 := pgR_dr R1 p26 hq (show b < q by omega)
      rw [if_pos (e8.mpr kc), e27, e50, if_pos (iB_nI (by omega) (by decide)), if_pos (iB_nI (by omega) (by decide)), r_drop hq (by omega) (by rw [va_up_self]; exact p26), ob2, if_neg (by decide), iN_nI (by omega), iN_nI (by omega), va_up_self, z2, e9, va_2] at er
      obtain ⟨S9, ar9, r1, r2⟩ := r_run57 (S := upd (upd (upd (upd S 26 x) 25 (0 : Int32)) 27 (0 : Int32)) 28 (0 : Int32)) (e := 9 + d) (gRf_f hg (rowF_va (Q := dP (ageP (ar 13) q) q b))) hw' (by rw [up_n (by decide), up_n (by decide), up_n (by decide), up_n (by decide)]; exact h16) (by rw [up_n (by decide), up_n (by decide), up_n (by decide), up_n (by decide)]; exact hm6) (by omega) (by rw [va_up_self]; exact R2.2.2.1) (by rw [up_n (by decide), up_n (by decide), up_n (by decide), up_n (by decide)]; exact h29)
      rw [r1, ob2] at er
      exact ⟨_, _, _, er, by obtain ⟨j, a, b⟩ := r2; exact ⟨j, a, b⟩⟩
    · have g9 : 8 < c := by omega
      obtain ⟨l, rfl⟩ : ∃ l, c = 9 + l := ⟨c - 9, by omega⟩
      have el : nI (9 + l) - (9 : Int32) = nI l := by rw [show (9 : Int32) = nI 9 from rfl, nI_sub (by omega), show 9 + l - 9 = l by omega]
      obtain ⟨w, hw3, ew⟩ := hR.2.2.1.1 l (by omega)
      have w0 : w ≠ 0 := fun z => h9 g9 (by rw [show 9 + l - 9 = l by omega, ew, z]; rfl)
      have p10 : ageP (ar 13) q (10 + l) = nI w := (ageP_o (by omega)).trans ew
      have e10 : (10 : Int32) + nI l = nI (10 + l) := nI_add 10 l
      have e13 : (13 : Int32) + nI l = nI (13 + l) := nI_add 13 l
      have e20 : (20 : Int32) + nI l = nI (20 + l) := nI_add 20 l
      have e38 : (38 : Int32) + 3 * nI l = nI (38 + 3 * l) := by rw [show (38 : Int32) = nI 38 from rfl, show (3 : Int32) = nI 3 from rfl, nx]
      have e14 : (14 : Int32) + 3 * nI l = nI (14 + 3 * l) := by rw [show (14 : Int32) = nI 14 from rfl, show (3 : Int32) = nI 3 from rfl, nx]
      have R2 := pgR_tk R1 (show l < 4 by omega) p10 hw3 (by omega)
      have cs : ∃ y0 : Int32, (y0 = 0 ∨ y0 = 1) ∧ rF_52 (nI (9 + l)) x S ar = rF_52_228 (ageP (ar 13) q (38 + 3 * l)) (nI (13 + l)) (nI l) y0 (upd (upd (upd (upd (upd S 26 x) 25 (0 : Int32)) 27 (0 : Int32)) 28 (0 : Int32)) 25 (ageP (ar 13) q (14 + 3 * l))) (va_up ar 13 (ageP (ar 13) q)) := by
        have heq : nI w = (1 : Int32) ↔ w = 1 := nI_eq (by omega) (by decide)
        unfold rF_52_100 at er
        rw [if_neg (fun z => kc (e8.mp z)), if_neg (fun z => absurd (g8.mp z) (by omega)), el, e38, e14, e10, e13, if_pos (iB_nI (by omega) (by decide)), if_pos (iB_nI (by omega) (by decide)), if_pos (iB_nI (by omega) (by decide)), iN_nI (by omega), iN_nI (by omega), iN_nI (by omega), va_up_self, p10] at er
        by_cases w1 : w = 1
        · rw [if_pos (heq.mpr w1)] at er
          exact ⟨1, Or.inr rfl, er⟩
        · rw [if_neg (fun z => w1 (heq.mp z))] at er
          rw [r_isForm (m := m) (by show S 38 = nI m; exact h38) hf.1, ob3] at er
          by_cases y : m_fr (va_up ar 13 (ageP (ar 13) q)) m 1 (nI l) = true
          · rw [if_pos y, if_neg (by decide)] at er
            exact ⟨0, Or.inl rfl, er⟩
          · rw [if_neg y, if_pos rfl] at er
            exact ⟨1, Or.inr rfl, er⟩
      obtain ⟨y0, hy0, er⟩ := cs
      generalize hT : upd (upd (upd (upd (upd (upd S 26 x) 25 (0 : Int32)) 27 (0 : Int32)) 28 (0 : Int32)) 25 (ageP (ar 13) q (14 + 3 * l))) 28 ((0 : Int32) ||| ((1 : Int32) <<< ((20 + nI l) &&& 31))) = T
      have FT : rF7 S T := by rw [← hT]; exact rF7_u (by decide) (rF7_u (by decide) (rF7_u (by decide) (rF7_u (by decide) (rF7_u (by decide) (rF7_u (by decide) (fun _ _ => rfl))))))
      have T57 : T 57 = S 57 := by rw [← hT]; rfl
      unfold rF_52_228 at er
      rw [r_take (n := w) hw3 (by omega) (by omega) (by rw [va_up_self]; exact p10), ob2, va_up_self, va_2] at er
      have eT : upd (upd (upd (upd (upd (upd S 26 x) 25 (0 : Int32)) 27 (0 : Int32)) 28 (0 : Int32)) 25 (ageP (ar 13) q (14 + 3 * l))) 28 (upd (upd (upd (upd (upd S 26 x) 25 (0 : Int32)) 27 (0 : Int32)) 28 (0 : Int32)) 25 (ageP (ar 13) q (14 + 3 * l)) 28 ||| (1 <<< ((20 + nI l) &&& 31))) = T := hT
      rw [eT] at er
      rcases hy0 with rfl | rfl
      · rw [if_pos rfl] at er
        exact ⟨_, _, _, er, up57_0 T57⟩
      · rw [if_neg (by decide)] at er
        obtain ⟨S9, ar9, r1, r2⟩ := r_run57 (S := T) (e := 13 + l) (gRf_f hg (rowF_va (Q := tP (ageP (ar 13) q) w l))) hw' (by rw [FT 16 (by decide)]; exact h16) (by rw [FT 38 (by decide)]; exact hm6) (by omega) (by rw [va_up_self]; exact R2.2.2.1) (by rw [FT 29 (by decide)]; exact h29)
        rw [r1, ob2] at er
        exact ⟨_, _, _, er, by obtain ⟨j, a, b⟩ := r2; exact ⟨j, a, by rw [b, T57]⟩⟩
  · rw [if_neg (fun z => k8 (l8.mp z))] at er
    have e1 : (1 : Int32) + nI c = nI (1 + c) := nI_add 1 c
    unfold rF_52_100 at er
    rw [if_neg (fun z => absurd (e8.mp z) (by omega)), if_pos (g8.mpr (by omega)), if_neg (by decide), e1] at er
    obtain ⟨S9, ar9, r1, r2⟩ := r_run57 (S := upd (upd (upd (upd S 26 x) 25 (0 : Int32)) 27 ((1 : Int32) <<< ((8 + nI c) &&& 31))) 28 (0 : Int32)) (e := 1 + c) (gRf_f hg (rowF_va (Q := ageP (ar 13) q))) hw' (by rw [up_n (by decide), up_n (by decide), up_n (by decide), up_n (by decide)]; exact h16) (by rw [up_n (by decide), up_n (by decide), up_n (by decide), up_n (by decide)]; exact hm6) (by omega) (by rw [va_up_self]; exact R1.2.2.1) (by rw [up_n (by decide), up_n (by decide), up_n (by decide), up_n (by decide)]; exact h29)
    rw [r1, ob2] at er
    exact ⟨_, _, _, er, r2⟩
/-- a page starts -/
theorem r_start57 (hg : gRf pr n tx g ar) (hw' : wfG g) (h16 : S 16 = nI pr) (hm : ∃ k, k ≤ 6 ∧ S 38 = nI k) (h29 : S 29 = -1 ∨ S 29 = 0 ∨ S 29 = 1) : ∃ S9 ar9, rF_48 S ar = some (S9, ar9) ∧ up57 S S9 600 := by
  have hP : pgC (upd (bF (ar 13) 53) 8 255) := (pgR_bl (P := upd (bF (ar 13) 53) 8 255) (C := blC (fun k => ar 13 (33 + k))) (fun i hi => bF_k (P := ar 13) hi) (fun _ _ => rfl)).1.2.2.1
  obtain ⟨S9, ar9, e1, e2⟩ := r_run57 (S := upd (upd S 26 (-1)) 25 0) (ar := va_up ar 13 (upd (bF (ar 13) 53) 8 255)) (e := 0) (gRf_f hg rowF_va) hw' (by rw [up_n (by decide), up_n (by decide)]; exact h16) (by rw [up_n (by decide), up_n (by decide)]; exact hm) (by omega) (by rw [va_up_self]; exact hP) (by rw [up_n (by decide), up_n (by decide)]; exact h29)
  have e1 : rF_46 0 (upd (upd S 26 (-1)) 25 0) (va_up ar 13 (upd (bF (ar 13) 53) 8 255)) = some (S9, ar9) := e1
  rw [r_blank, e1]
  obtain ⟨j, a, b⟩ := e2
  exact ⟨S9, ar9, rfl, j, a, by rw [b, up_n (by decide), up_n (by decide)]⟩
end H57
