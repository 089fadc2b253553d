/-! What a happening writes are bits below 24. -/
def lo24 (x : Int32) : Prop := ∀ b, 24 ≤ b → b < 32 → bt x b = false
theorem lo24_0 : lo24 0 := fun b _ _ => b_0 b
theorem lo24_or {x : Int32} {k : Nat} (h : lo24 x) (hk : k < 24) : lo24 (x ||| (1 <<< (nI k &&& 31))) := fun b h1 h2 => by
  rw [bt_or (by omega) h2, h b h1 h2, Bool.false_or, decide_eq_false (by omega)]
theorem lo24_1 {k : Nat} (hk : k < 24) : lo24 (1 <<< (nI k &&& 31)) := fun b h1 h2 => by
  rw [bt_1 k (by omega) h2, decide_eq_false (by omega)]
theorem efb_24 {o : Nat} {m v : Int32} {S : Nat → Int32} {ar : jSc} (ho : 18 ≤ o ∧ o ≤ 27) (hm : o_mk o m) (h : lo24 (S 28)) : lo24 (m_ef o m v S ar).1 := by
  have w8 : ∀ d, d < 8 → lo24 (m_wb S (8 + nI d)) := fun d hd => by
    unfold m_wb
    rw [show (8 : Int32) + nI d = nI (8 + d) from nI_add 8 d]
    exact lo24_or h (by omega)
  have w16 : ∀ d, d < 4 → lo24 (m_wb S (16 + nI d)) := fun d hd => by
    unfold m_wb
    rw [show (16 : Int32) + nI d = nI (16 + d) from nI_add 16 d]
    exact lo24_or h (by omega)
  have w20 : ∀ d, d < 4 → lo24 (m_wb S (20 + nI d)) := fun d hd => by
    unfold m_wb
    rw [show (20 : Int32) + nI d = nI (20 + d) from nI_add 20 d]
    exact lo24_or h (by omega)
  unfold o_mk at hm
  unfold m_ef
  by_cases c18 : o = 18
  · rw [if_pos c18]
    rw [if_pos (by omega)] at hm
    obtain ⟨d, hd, rfl⟩ := hm
    exact lo24_or h (by omega)
  rw [if_neg c18]
  by_cases c19 : o = 19
  · rw [if_pos c19]
    rw [if_pos (by omega)] at hm
    obtain ⟨d, hd, rfl⟩ := hm
    exact w8 d hd
  rw [if_neg c19]
  by_cases c20 : o = 20
  · rw [if_pos c20]
    rw [if_pos (by omega)] at hm
    obtain ⟨d, hd, rfl⟩ := hm
    exact w8 d hd
  rw [if_neg c20]
  by_cases c21 : o = 21
  · rw [if_pos c21]
    rw [if_pos (by omega)] at hm
    obtain ⟨d, hd, rfl⟩ := hm
    exact w8 d hd
  rw [if_neg c21]
  by_cases c22 : o = 22
  · rw [if_pos c22]
    rw [if_pos (by omega)] at hm
    obtain ⟨d, hd, rfl⟩ := hm
    exact w8 d hd
  rw [if_neg c22]
  rw [if_neg (by omega)] at hm
  by_cases c23 : o = 23
  · rw [if_pos c23]
    by_cases z : ar 13 26 = 3
    · rw [if_pos z]; exact h
    · rw [if_neg z]; exact h
  rw [if_neg c23]
  rw [if_neg c23] at hm
  by_cases c24 : o = 24
  · rw [if_pos (by omega)] at hm
    obtain ⟨d, hd, rfl⟩ := hm
    rw [if_pos c24]
    generalize (if m_fr ar (iN (S 38)) 2 (nI d) = true then eP ar (iN (nI d)) else ar) = ar1
    by_cases z : ar1 13 (10 + iN (nI d)) = 3
    · rw [if_pos z]; exact h
    · rw [if_neg z]; exact w20 d hd
  rw [if_neg c24]
  by_cases c25 : o = 25
  · rw [if_pos (by omega)] at hm
    obtain ⟨d, hd, rfl⟩ := hm
    rw [if_pos c25]
    exact w20 d hd
  rw [if_neg c25]
  by_cases c26 : o = 26
  · rw [if_pos (by omega)] at hm
    obtain ⟨d, hd, rfl⟩ := hm
    rw [if_pos c26]
    by_cases z : S 29 = -1
    · rw [if_pos z]; exact w16 d hd
    · rw [if_neg z]; exact w16 d hd
  rw [if_neg c26]
  exact h
theorem sE_b {S : Nat → Int32} {e : Int32 × Int32 × Int32 × jSc} : sE S e 28 = e.1 := by
  unfold sE
  rw [up_n (by decide), up_n (by decide), up_0]
theorem w_24 {O : Nat → Nat × Int32} {len : Nat} {H : Nat → Nat} (hH : wfO O len H) : ∀ (f at_ : Nat) (st : List Int32) (S : Nat → Int32) (ar : jSc) (S2 : Nat → Int32) (ar2 : jSc), w_run O len f at_ st S ar = some (S2, ar2) → lo24 (S 28) → lo24 (S2 28) := by
  intro f
  induction f with
  | zero => intro at_ st S ar S2 ar2 h; cases h
  | succ f ih =>
    intro at_ st S ar S2 ar2 h h24
    have ok := hH.2 at_
    unfold w_run at h
    split at h
    · cases h; exact h24
    rename_i hl
    have ok := ok (by omega)
    split at h
    · exact ih _ _ _ _ _ _ h (by rw [up_n (by decide)]; exact h24)
    rename_i o16
    split at h
    · cases h; exact h24
    rename_i n16
    split at h
    · split at h
      · exact ih _ _ _ _ _ _ h h24
      · exact ih _ _ _ _ _ _ h h24
    rename_i n17
    have e24 : lo24 (m_ef (O at_).1 (O at_).2 (st.headD 0) S ar).1 := by
      rcases ok with k | k | k | k
      · have := k.2; omega
      · exact absurd k.1 n16
      · exact absurd k.1 n17
      · exact efb_24 k.1 k.2.1 h24
    split at h
    · exact ih _ _ _ _ _ _ h (by rw [sE_b]; exact e24)
    · cases h
      rw [sE_b]; exact e24
section H24
variable {S : Nat → Int32} {ar : jSc} {pr n m : Nat} {tx : Nat → Int32} {g : pG}
theorem r_run24 {e : Nat} (hg : gRf pr n tx g ar) (hw' : wfG g) (h16 : S 16 = nI pr) (hm : ∃ k, k ≤ 6 ∧ S 38 = nI k) (he : e < 17) (hP : pgC (ar 13)) (hw : S 29 = -1 ∨ S 29 = 0 ∨ S 29 = 1) (h : lo24 (S 28)) : ∃ S9 ar9, rF_46 (nI e) S ar = some (S9, ar9) ∧ lo24 (S9 28) := by
  obtain ⟨g1, g2, g3, g4, g5, g6, g7, g8, g9⟩ := hg
  rcases hx : g.2.1 e with _ | x
  · exact ⟨_, _, r_runs0 (S := S) (ar := ar) (e := e) g1 h16 he (by rw [g7 e he, hx]; rfl), by rw [up_n (by decide)]; exact h⟩
  · obtain ⟨H, w1, -⟩ := wfG_O hw' g6
    obtain ⟨S9, ar9, Sm, f, x1, x2, ⟨x3, x4, x5, x6⟩, -⟩ := r_runs (S := S) (ar := ar) (e := e) g1 h16 he (by rw [g7 e he, hx]; rfl) g3 g2 g4 (HB_of g5 g6 hx) hP hm hw
    refine ⟨S9, ar9, x1, ?_⟩
    rw [x5]
    exact w_24 w1 _ _ _ _ _ _ _ x2 (by rw [up_n (by decide)]; exact h)
theorem r_hap24 {c : Nat} {x : Int32} {C : Nat → Int32} (hg : gRf pr n tx g ar) (hw' : wfG g) (h16 : S 16 = nI pr) (h38 : S 38 = nI m) (hf : fG ar m) (h29 : S 29 = -1) (hc : c < 13) (hR : pgR (ar 13) C) (h8 : c = 8 → ¬ ar 13 26 = 0) (h9 : 8 < c → ¬ ar 13 (10 + (c - 9)) = 0) : ∃ v S9 ar9, rF_52 (nI c) x S ar = some (v, S9, ar9) ∧ lo24 (S9 28) := by
  obtain ⟨q, hq, eq⟩ := hR.2.2.1.2
  have hm6 : ∃ k, k ≤ 6 ∧ S 38 = nI k := ⟨m, hf.1, h38⟩
  have er : rF_52 (nI c) x S ar = (if (8 : Int32) ≤ nI c then rF_52_100 (nI c) (nI (nxG (ar 13) 0 1 (q - 1))) (-1) (1 + nI c) 0 (upd (upd S 26 x) 25 0) (va_up ar 13 (ageP (ar 13) q)) else rF_52_100 (nI c) (nI (nxG (ar 13) 0 1 (q - 1))) (-1) (1 + nI c) (1 <<< ((8 + nI c) &&& 31)) (upd (upd S 26 x) 25 0) (va_up ar 13 (ageP (ar 13) q))) := by
    unfold rF_52
    rw [r_next hq eq, ob3, r_age hq eq]
  have R1 : pgR (ageP (ar 13) q) (ageC C q) := pgR_ag hR eq hq
  have l8 : (8 : Int32) ≤ nI c ↔ 8 ≤ c := nI_leI (by decide) (by omega)
  have g8 : nI c ≤ (8 : Int32) ↔ c ≤ 8 := nI_leI (by omega) (by decide)
  have e8 : nI c = (8 : Int32) ↔ c = 8 := nI_eq (by omega) (by decide)
  by_cases k8 : 8 ≤ c
  · rw [if_pos (l8.mpr k8)] at er
    by_cases kc : c = 8
    · have q0 : q ≠ 0 := fun z => h8 kc (by rw [eq, z]; rfl)
      have hb := nxG_lt (ar 13) (q - 1) 0 1 (by omega)
      generalize hB : nxG (ar 13) 0 1 (q - 1) = b at er hb
      have e27 : (27 : Int32) + nI b = nI (27 + b) := nI_add 27 b
      have e50 : (50 : Int32) + nI b = nI (50 + b) := nI_add 50 b
      obtain ⟨d, y, hd, hy, z1, z2, z3⟩ := R1.2.1 b (by omega)
      have p26 : ageP (ar 13) q 26 = nI q := (ageP_o (by omega)).trans eq
      have e9 : (9 : Int32) + nI d = nI (9 + d) := nI_add 9 d
      unfold rF_52_100 at er
      have R2 := pgR_dr R1 p26 hq (show b < q by omega)
      rw [if_pos (e8.mpr kc), e27, e50, if_pos (iB_nI (by omega) (by decide)), if_pos (iB_nI (by omega) (by decide)), r_drop hq (by omega) (by rw [va_up_self]; exact p26), ob2, if_neg (by decide), iN_nI (by omega), iN_nI (by omega), va_up_self, z2, e9, va_2] at er
      obtain ⟨S9, ar9, r1, r2⟩ := r_run24 (S := upd (upd (upd (upd S 26 x) 25 (0 : Int32)) 27 (0 : Int32)) 28 (0 : Int32)) (e := 9 + d) (gRf_f hg (rowF_va (Q := dP (ageP (ar 13) q) q b))) hw' (by rw [up_n (by decide), up_n (by decide), up_n (by decide), up_n (by decide)]; exact h16) (by rw [up_n (by decide), up_n (by decide), up_n (by decide), up_n (by decide)]; exact hm6) (by omega) (by rw [va_up_self]; exact R2.2.2.1) (Or.inl (by rw [up_n (by decide), up_n (by decide), up_n (by decide), up_n (by decide)]; exact h29)) (by rw [up_0]; exact lo24_0)
      rw [r1, ob2] at er
      exact ⟨_, _, _, er, r2⟩
    · have g9 : 8 < c := by omega
      obtain ⟨l, rfl⟩ : ∃ l, c = 9 + l := ⟨c - 9, by omega⟩
      have el : nI (9 + l) - (9 : Int32) = nI l := by rw [show (9 : Int32) = nI 9 from rfl, nI_sub (by omega), show 9 + l - 9 = l by omega]
      obtain ⟨w, hw3, ew⟩ := hR.2.2.1.1 l (by omega)
      have w0 : w ≠ 0 := fun z => h9 g9 (by rw [show 9 + l - 9 = l by omega, ew, z]; rfl)
      have p10 : ageP (ar 13) q (10 + l) = nI w := (ageP_o (by omega)).trans ew
      have e10 : (10 : Int32) + nI l = nI (10 + l) := nI_add 10 l
      have e13 : (13 : Int32) + nI l = nI (13 + l) := nI_add 13 l
      have e20 : (20 : Int32) + nI l = nI (20 + l) := nI_add 20 l
      have e38 : (38 : Int32) + 3 * nI l = nI (38 + 3 * l) := by rw [show (38 : Int32) = nI 38 from rfl, show (3 : Int32) = nI 3 from rfl, nx]
      have e14 : (14 : Int32) + 3 * nI l = nI (14 + 3 * l) := by rw [show (14 : Int32) = nI 14 from rfl, show (3 : Int32) = nI 3 from rfl, nx]
      have R2 := pgR_tk R1 (show l < 4 by omega) p10 hw3 (by omega)
      have cs : ∃ y0 : Int32, (y0 = 0 ∨ y0 = 1) ∧ rF_52 (nI (9 + l)) x S ar = rF_52_228 (ageP (ar 13) q (38 + 3 * l)) (nI (13 + l)) (nI l) y0 (upd (upd (upd (upd (upd S 26 x) 25 (0 : Int32)) 27 (0 : Int32)) 28 (0 : Int32)) 25 (ageP (ar 13) q (14 + 3 * l))) (va_up ar 13 (ageP (ar 13) q)) := by
        have heq : nI w = (1 : Int32) ↔ w = 1 := nI_eq (by omega) (by decide)
        unfold rF_52_100 at er
        rw [if_neg (fun z => kc (e8.mp z)), if_neg (fun z => absurd (g8.mp z) (by omega)), el, e38, e14, e10, e13, if_pos (iB_nI (by omega) (by decide)), if_pos (iB_nI (by omega) (by decide)), if_pos (iB_nI (by omega) (by decide)), iN_nI (by omega), iN_nI (by omega), iN_nI (by omega), va_up_self, p10] at er
        by_cases w1 : w = 1
        · rw [if_pos (heq.mpr w1)] at er
          exact ⟨1, Or.inr rfl, er⟩
        · rw [if_neg (fun z => w1 (heq.mp z))] at er
          rw [r_isForm (m := m) (by show S 38 = nI m; exact h38) hf.1, ob3] at er
          by_cases y : m_fr (va_up ar 13 (ageP (ar 13) q)) m 1 (nI l) = true
          · rw [if_pos y, if_neg (by decide)] at er
            exact ⟨0, Or.inl rfl, er⟩
          · rw [if_neg y, if_pos rfl] at er
            exact ⟨1, Or.inr rfl, er⟩
      obtain ⟨y0, hy0, er⟩ := cs
      generalize hT : upd (upd (upd (upd (upd (upd S 26 x) 25 (0 : Int32)) 27 (0 : Int32)) 28 (0 : Int32)) 25 (ageP (ar 13) q (14 + 3 * l))) 28 ((0 : Int32) ||| ((1 : Int32) <<< ((20 + nI l) &&& 31))) = T
      have FT : rF7 S T := by rw [← hT]; exact rF7_u (by decide) (rF7_u (by decide) (rF7_u (by decide) (rF7_u (by decide) (rF7_u (by decide) (rF7_u (by decide) (fun _ _ => rfl))))))
      have T28 : lo24 (T 28) := by
        rw [← hT, up_0, e20]
        exact lo24_or lo24_0 (by omega)
      unfold rF_52_228 at er
      rw [r_take (n := w) hw3 (by omega) (by omega) (by rw [va_up_self]; exact p10), ob2, va_up_self, va_2] at er
      have eT : upd (upd (upd (upd (upd (upd S 26 x) 25 (0 : Int32)) 27 (0 : Int32)) 28 (0 : Int32)) 25 (ageP (ar 13) q (14 + 3 * l))) 28 (upd (upd (upd (upd (upd S 26 x) 25 (0 : Int32)) 27 (0 : Int32)) 28 (0 : Int32)) 25 (ageP (ar 13) q (14 + 3 * l)) 28 ||| (1 <<< ((20 + nI l) &&& 31))) = T := hT
      rw [eT] at er
      rcases hy0 with rfl | rfl
      · rw [if_pos rfl] at er
        exact ⟨_, _, _, er, T28⟩
      · rw [if_neg (by decide)] at er
        obtain ⟨S9, ar9, r1, r2⟩ := r_run24 (S := T) (e := 13 + l) (gRf_f hg (rowF_va (Q := tP (ageP (ar 13) q) w l))) hw' (by rw [FT 16 (by decide)]; exact h16) (by rw [FT 38 (by decide)]; exact hm6) (by omega) (by rw [va_up_self]; exact R2.2.2.1) (Or.inl (by rw [FT 29 (by decide)]; exact h29)) T28
        rw [r1, ob2] at er
        exact ⟨_, _, _, er, r2⟩
  · rw [if_neg (fun z => k8 (l8.mp z))] at er
    have e1 : (1 : Int32) + nI c = nI (1 + c) := nI_add 1 c
    unfold rF_52_100 at er
    rw [if_neg (fun z => absurd (e8.mp z) (by omega)), if_pos (g8.mpr (by omega)), if_neg (by decide), e1] at er
    obtain ⟨S9, ar9, r1, r2⟩ := r_run24 (S := upd (upd (upd (upd S 26 x) 25 (0 : Int32)) 27 ((1 : Int32) <<< ((8 + nI c) &&& 31))) 28 (0 : Int32)) (e := 1 + c) (gRf_f hg (rowF_va (Q := ageP (ar 13) q))) hw' (by rw [up_n (by decide), up_n (by decide), up_n (by decide), up_n (by decide)]; exact h16) (by rw [up_n (by decide), up_n (by decide), up_n (by decide), up_n (by decide)]; exact hm6) (by omega) (by rw [va_up_self]; exact R1.2.2.1) (Or.inl (by rw [up_n (by decide), up_n (by decide), up_n (by decide), up_n (by decide)]; exact h29)) (by rw [up_0]; exact lo24_0)
    rw [r1, ob2] at er
    exact ⟨_, _, _, er, r2⟩
end H24
