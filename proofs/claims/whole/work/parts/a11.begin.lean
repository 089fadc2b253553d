/-! PAGES BEGUN on both sides. -/
def blP (F : Nat → Int32) (i : Nat) : Int32 := if i = 8 then 255 else if 33 ≤ i ∧ i ≤ 36 then F (i - 33) else 0
def blC (F : Nat → Int32) (i : Nat) : Int32 := if i = 8 then 255 else if 10 ≤ i ∧ i < 14 then F (i - 10) else 0
theorem pgR_bl {P C F : Nat → Int32} (hP : ∀ i, i < 53 → P i = blP F i) (hC : ∀ i, i < 50 → C i = blC F i) : pgR P C ∧ pgA P C := by
  have p0 : ∀ i, i < 53 → i ≠ 8 → (i < 33 ∨ 36 < i) → P i = 0 := fun i h1 h2 h3 => by
    rw [hP i h1]; unfold blP; rw [if_neg h2, if_neg (by omega)]
  have c0 : ∀ i, i < 50 → i ≠ 8 → (i < 10 ∨ 14 ≤ i) → C i = 0 := fun i h1 h2 h3 => by
    rw [hC i h1]; unfold blC; rw [if_neg h2, if_neg (by omega)]
  refine ⟨⟨fun k hk => ?_, fun k hk => ⟨0, 0, by omega, by omega, c0 _ (by omega) (by omega) (by omega), p0 _ (by omega) (by omega) (by omega), p0 _ (by omega) (by omega) (by omega)⟩, ⟨fun l hl => ⟨0, by omega, p0 _ (by omega) (by omega) (by omega)⟩, ⟨0, by omega, p0 _ (by omega) (by omega) (by omega)⟩⟩, Or.inl (p0 _ (by omega) (by omega) (by omega)), fun l k hl hk _ => p0 _ (by omega) (by omega) (by omega), fun k hk _ => ⟨p0 _ (by omega) (by omega) (by omega), p0 _ (by omega) (by omega) (by omega)⟩⟩, fun l k hl hk hq => ?_, fun k hk hq => ?_⟩
  · have a := ix_c k hk
    by_cases c8 : k = 8
    · subst c8
      rw [hC 8 (by decide), show ix 8 = 8 from rfl, hP 8 (by decide)]
      rfl
    · by_cases c : 10 ≤ k ∧ k < 14
      · rw [hC k (by omega), hP _ (by omega)]
        unfold blC blP
        rw [if_neg c8, if_pos c, if_neg (by omega), if_pos (by omega)]
        congr 1
        omega
      · rw [c0 k (by omega) c8 (by omega), p0 _ (by omega) (by omega) (by omega)]
  · rw [p0 _ (by omega) (by omega) (by omega)] at hq
    exact absurd hq (by rw [show iN (0 : Int32) = 0 from rfl]; omega)
  · rw [p0 _ (by omega) (by omega) (by omega)] at hq
    exact absurd hq (by rw [show iN (0 : Int32) = 0 from rfl]; omega)
/-- the reference's page made blank, the far rows kept -/
def bF (P : Nat → Int32) (j : Nat) : Nat → Int32 := fun i => if i < j ∧ ¬ (33 ≤ i ∧ i ≤ 36) then 0 else P i
theorem bF_s {P : Nat → Int32} {j : Nat} : upd (bF P j) j (if 33 ≤ j ∧ j ≤ 36 then bF P j j else 0) = bF P (j + 1) := by
  funext i
  by_cases c : i = j
  · subst c
    rw [up_0]
    unfold bF
    by_cases d : 33 ≤ i ∧ i ≤ 36
    · rw [if_pos d, if_neg (by omega), if_neg (by omega)]
    · rw [if_neg d, if_pos (by omega)]
  · rw [up_n c]
    unfold bF
    by_cases d : i < j ∧ ¬ (33 ≤ i ∧ i ≤ 36)
    · rw [if_pos d, if_pos (by omega)]
    · rw [if_neg d, if_neg (by omega)]
theorem r_blank {S : Nat → Int32} {ar : jSc} : rF_48 S ar = rF_46 0 (upd (upd S 26 (-1)) 25 0) (va_up ar 13 (upd (bF (ar 13) 53) 8 255)) := by
  have go : ∀ c j nn, j + c = 53 → c < nn → rF_48_2 nn (nI j) S (va_up ar 13 (bF (ar 13) j)) = rF_46 0 (upd (upd S 26 (-1)) 25 0) (va_up ar 13 (upd (bF (ar 13) 53) 8 255)) := by
    intro c
    induction c with
    | zero =>
      intro j nn h1 h2
      obtain ⟨nn, rfl⟩ : ∃ i, nn = i + 1 := ⟨nn - 1, by omega⟩
      have : j = 53 := by omega
      subst this
      unfold rF_48_2
      rw [if_pos (by decide), va_u2, va_up_self, va_2]
      rcases rF_46 0 (upd (upd S 26 (-1)) 25 0) (va_up ar 13 (upd (bF (ar 13) 53) 8 255)) with _ | ⟨a, b⟩
      · rfl
      · rfl
    | succ c ih =>
      intro j nn h1 h2
      obtain ⟨nn, rfl⟩ : ∃ i, nn = i + 1 := ⟨nn - 1, by omega⟩
      have r := ih (j + 1) nn (by omega) (by omega)
      rw [← bF_s] at r
      have c53 : (53 : Int32) ≤ nI j ↔ 53 ≤ j := nI_leI (by decide) (by omega)
      have l33 : nI j < (33 : Int32) ↔ j < 33 := nI_ltI (by omega) (by decide)
      have l36 : (36 : Int32) < nI j ↔ 36 < j := nI_ltI (by decide) (by omega)
      have i1 : iB (nI j) 53 := iB_nI (by omega) (by decide)
      unfold rF_48_2 rF_4
      rw [if_neg (fun z => absurd (c53.mp z) (by omega))]
      by_cases d : 33 ≤ j ∧ j ≤ 36
      · rw [if_neg (fun z => absurd (l33.mp z) (by omega)), if_neg (fun z => absurd (l36.mp z) (by omega)), ob3, if_neg (by decide), if_pos i1, if_pos i1, iN_nI (by omega), nI_1, va_u2, va_up_self, va_2]
        rw [if_pos d] at r
        exact r
      · rw [if_neg d] at r
        by_cases d1 : j < 33
        · rw [if_pos (l33.mpr d1), ob3, if_pos rfl, if_pos i1, iN_nI (by omega), nI_1, va_u2, va_up_self, va_2]
          exact r
        · rw [if_neg (fun z => d1 (l33.mp z)), if_pos (l36.mpr (by omega)), ob3, if_pos rfl, if_pos i1, iN_nI (by omega), nI_1, va_u2, va_up_self, va_2]
          exact r
  have r := go 53 0 oF (by omega) (by unfold oF; omega)
  have e0 : bF (ar 13) 0 = ar 13 := by
    funext i
    unfold bF
    rw [if_neg (by omega)]
  rw [e0, va_i] at r
  exact r
theorem bF_k {P : Nat → Int32} {i : Nat} (h : i < 53) : upd (bF P 53) 8 255 i = blP (fun k => P (33 + k)) i := by
  unfold blP
  by_cases c : i = 8
  · rw [c, up_0]; rfl
  · rw [up_n c, if_neg c]
    unfold bF
    by_cases d : 33 ≤ i ∧ i ≤ 36
    · rw [if_neg (by omega), if_pos d]
      show P i = P (33 + (i - 33))
      congr 1
      omega
    · rw [if_pos ⟨h, d⟩, if_neg d]
section BG
variable {S : Nat → Int32} {ar : jSc} {pp : Nat} {sc car : jSc} {mr : Nat → Nat} {al : jAl} {o0 : Nat → Bool} {d57 : Int32} {pr n p m : Nat} {tx : Nat → Int32} {g : pG}
/-- a page that bears nothing but far rows starts -/
theorem h_start (hs : sR pr n tx g p m S ar sc car mr) (hpp : 759 ≤ pp) (hC : ∀ i, i < 50 → car (pp + 1) i = blC (fun k => ar 13 (33 + k)) i) (hw : hWn o0 d57 S ar (j_u2 sc 757 4 0)) :
    ∃ S9 ar9 sc2 car2, rF_48 S ar = some (S9, ar9) ∧ xF_208 pp sc mr car al = some (sc2, mr, car2, al) ∧ pgR (ar9 13) (car2 (pp + 1)) ∧ pgA (ar9 13) (car2 (pp + 1)) ∧ hWn o0 d57 S9 ar9 sc2 ∧ hF7 sc sc2 ∧ hFa pp car car2 ∧ rF7 S S9 ∧ rowG S ar ar9 := by
  obtain ⟨s1, s2, s3, s4, s5, s6, s7⟩ := hs
  have hp := x_pr_ne s2.1
  generalize hX : j_u2 (j_u2 (j_u2 (j_u2 sc 757 3 (0 : Int32)) 757 4 (0 : Int32)) 757 7 (0 : Int32)) 757 8 (-1) = X
  have X3 : X 757 3 = 0 := by rw [← hX, u2_nk (by decide), u2_nk (by decide), u2_nk (by decide), u2_eq]
  have X4 : X 757 4 = 0 := by rw [← hX, u2_nk (by decide), u2_nk (by decide), u2_eq]
  have X5 : X 757 5 = sc 757 5 := by rw [← hX, u2_nk (by decide), u2_nk (by decide), u2_nk (by decide), u2_nk (by decide)]
  have X6 : X 757 6 = sc 757 6 := by rw [← hX, u2_nk (by decide), u2_nk (by decide), u2_nk (by decide), u2_nk (by decide)]
  have X7 : X 757 7 = 0 := by rw [← hX, u2_nk (by decide), u2_eq]
  have X8 : X 757 8 = -1 := by rw [← hX, u2_eq]
  have FX : hF7 sc X := by rw [← hX]; exact hF7_u (by decide) (hF7_u (by decide) (hF7_u (by decide) (hF7_u (by decide) (fun _ _ _ => rfl))))
  have ec : xF_208 pp sc mr car al = o_b4 (some (X, mr, car, al)) (fun a b c d => if x_pr (b 3) = true then o_b4 (xF_213 pp (c (b 3 + 3) 0) a b c d) (fun a b c d => some (a, b, c, d)) else none) := by rw [← hX]; rfl
  rw [ob4, s4, if_pos s2.1] at ec
  generalize hT : upd (upd S 26 (-1 : Int32)) 25 (0 : Int32) = T
  have T25 : T 25 = 0 := by rw [← hT]; rfl
  have T26 : T 26 = -1 := by rw [← hT]; rfl
  have FT : rF7 S T := by rw [← hT]; exact rF7_u (by decide) (rF7_u (by decide) (fun _ _ => rfl))
  have er : rF_48 S ar = rF_46 0 T (va_up ar 13 (upd (bF (ar 13) 53) 8 255)) := by rw [← hT]; exact r_blank
  obtain ⟨b1, b2⟩ := pgR_bl (fun i hi => bF_k (P := ar 13) hi) hC
  have hi : hI true (S 27) (S 28) T (va_up ar 13 (upd (bF (ar 13) 53) 8 255)) pp X car := by
    refine ⟨by rw [va_up_self]; exact b1, fun _ => by rw [va_up_self]; exact b2, by rw [← hT, X3, Int32.or_zero]; rfl, by rw [← hT, X4, Int32.or_zero]; rfl, X7.trans T25.symm, X8.trans T26.symm, fun l hl => ?_⟩
    rw [FT 38 (by decide), m_fr_c (va_up_ne _ _ (by decide)) (va_up_ne _ _ (by decide)) (va_up_ne _ _ (by decide)), FX 736 8 (by decide), s6, iN_nI (by have := s7.1.1; omega)]
    exact s7.2.1 l hl
  have hw2 : hWn o0 d57 T (va_up ar 13 (upd (bF (ar 13) 53) 8 255)) X := hW_4 hw (fun k hk => b_0 _) X4 X5 X6 (FT 29 (by decide)) (by rw [← hT]; rfl) (fun b hb => va_up_ne _ _ hb)
  obtain ⟨S9, ar9, sc9, car9, r1, r2, r3, r4, r5, r6, r7, r8⟩ := h_run (mr := mr) (al := al) (e := 0) (gRf_f s1 rowF_va) (gCl_f hpp s2 FX (hFa_rf _ _)) s3 s4 hpp (by rw [FT 16 (by decide)]; exact s5) (by rw [FT 38 (by decide)]; exact ⟨m, s7.1.1, s6⟩) (by omega) hi hw2
  have r1 : rF_46 0 T _ = some (S9, ar9) := r1
  rw [r1] at er
  rw [r2, ob4] at ec
  exact ⟨S9, ar9, sc9, car9, er, ec, r3.1, r3.2.1 rfl, r4, hF7_tr FX (hF7_s r5), r6, rF7_tr FT (rF7_r r7), rowG_tr rowG_va r8 (FT 29 (by decide))⟩
/-- the far rows made 0 -/
theorem r_anew : rF_49 S ar = rF_48 (upd S 29 (-1)) (va_up ar 13 (fun i => if 33 ≤ i ∧ i < 37 then 0 else ar 13 i)) := by
  have go : ∀ c j nn, j + c = 37 → 33 ≤ j → c < nn → rF_49_3 nn (nI j) S (va_up ar 13 (fun i => if 33 ≤ i ∧ i < j then 0 else ar 13 i)) = rF_48 (upd S 29 (-1)) (va_up ar 13 (fun i => if 33 ≤ i ∧ i < 37 then 0 else ar 13 i)) := by
    intro c
    induction c with
    | zero =>
      intro j nn h1 h3 h2
      obtain ⟨nn, rfl⟩ : ∃ i, nn = i + 1 := ⟨nn - 1, by omega⟩
      have : j = 37 := by omega
      subst this
      unfold rF_49_3
      rw [if_pos (by decide)]
      rcases rF_48 (upd S 29 (-1)) (va_up ar 13 (fun i => if 33 ≤ i ∧ i < 37 then 0 else ar 13 i)) with _ | ⟨a, b⟩
      · rfl
      · rfl
    | succ c ih =>
      intro j nn h1 h3 h2
      obtain ⟨nn, rfl⟩ : ∃ i, nn = i + 1 := ⟨nn - 1, by omega⟩
      have r := ih (j + 1) nn (by omega) (by omega) (by omega)
      have c37 : (37 : Int32) ≤ nI j ↔ 37 ≤ j := nI_leI (by decide) (by omega)
      unfold rF_49_3
      rw [if_neg (fun z => absurd (c37.mp z) (by omega)), if_pos (iB_nI (by omega) (by decide)), iN_nI (by omega), nI_1, va_u2, va_up_self, va_2]
      have e : upd (fun i => if 33 ≤ i ∧ i < j then 0 else ar 13 i) j 0 = (fun i => if 33 ≤ i ∧ i < j + 1 then 0 else ar 13 i) := by
        funext i
        by_cases q : i = j
        · subst q
          rw [up_0, if_pos (by omega)]
        · rw [up_n q]
          by_cases d : 33 ≤ i ∧ i < j
          · rw [if_pos d, if_pos (by omega)]
          · rw [if_neg d, if_neg (by omega)]
      rw [e]
      exact r
  have r := go 4 33 oF (by omega) (by omega) (by unfold oF; omega)
  have e0 : (fun i => if 33 ≤ i ∧ i < 33 then 0 else ar 13 i) = ar 13 := by
    funext i
    rw [if_neg (by omega)]
  rw [e0, va_i] at r
  exact r
/-- a page begun anew -/
theorem h_beg (hs : sR pr n tx g p m S ar sc car mr) (hpp : 759 ≤ pp) (h5 : sc 757 5 = 0) :
    ∃ S9 ar9 sc2 car2, rF_49 S ar = some (S9, ar9) ∧ xF_207 pp sc mr car al = some (sc2, mr, car2, al) ∧ pgR (ar9 13) (car2 (pp + 1)) ∧ pgA (ar9 13) (car2 (pp + 1)) ∧ S9 29 = -1 ∧ sc2 757 5 = 0 ∧ S9 57 = S 57 ∧ hF7 sc sc2 ∧ hFa pp car car2 ∧ rF7 (upd S 29 (-1)) S9 ∧ ∀ b, b ≠ 13 → ar9 b = ar b := by
  obtain ⟨A, a1, a2, a3⟩ := c_fill (P := pp + 1) (m := 50) (x := 0) (sc := sc) (ar := car) (mr := mr) (al := al) (by decide)
  have fA : hFa pp car (j_u2 A (pp + 1) 8 255) := fun b _ h => (j_u2_row _ _ _ _ h).trans (a3 b h)
  have s' : sR pr n tx g p m (upd S 29 (-1)) (va_up ar 13 (fun i => if 33 ≤ i ∧ i < 37 then 0 else ar 13 i)) sc (j_u2 A (pp + 1) 8 255) mr := by
    obtain ⟨s1, s2, s3, s4, s5, s6, s7⟩ := hs
    exact ⟨gRf_f s1 rowF_va, gCl_f hpp s2 (fun _ _ _ => rfl) fA, s3, s4, s5, s6, fR_f hpp s7 rowF_va (fun _ _ _ => rfl) fA⟩
  have hC : ∀ i, i < 50 → (j_u2 A (pp + 1) 8 255) (pp + 1) i = blC (fun k => (va_up ar 13 (fun i => if 33 ≤ i ∧ i < 37 then 0 else ar 13 i)) 13 (33 + k)) i := by
    intro i hi
    unfold blC
    by_cases c : i = 8
    · subst c; rw [u2_eq, if_pos rfl]
    · rw [u2_nk c, a2 i hi, if_neg c]
      split
      · rw [va_up_self]
        show 0 = (if 33 ≤ 33 + (i - 10) ∧ 33 + (i - 10) < 37 then 0 else ar 13 (33 + (i - 10)))
        rw [if_pos (by omega)]
      · rfl
  have hw : hWn (fun _ => false) (S 57) (upd S 29 (-1)) (va_up ar 13 (fun i => if 33 ≤ i ∧ i < 37 then 0 else ar 13 i)) (j_u2 sc 757 4 0) := Or.inl ⟨rfl, (u2_nk (by decide)).trans h5, rfl⟩
  obtain ⟨S9, ar9, sc2, car2, r1, r2, r3, r4, r5, r6, r7, r8, r9⟩ := h_start (al := al) s' hpp hC hw
  have ec : xF_207 pp sc mr car al = xF_208 pp sc mr (j_u2 A (pp + 1) 8 255) al := by
    unfold xF_207 xF_225
    rw [a1, ob4, ob4]
    rfl
  have h29 : S9 29 = -1 := r8 29 (by decide)
  refine ⟨S9, ar9, sc2, car2, r_anew.trans r1, ec.trans r2, r3, r4, h29, ?_, ?_, r6, hFa_tr fA r7, r8, fun b hb => (r9.2 rfl b hb).trans (va_up_ne _ _ hb)⟩
  · rcases r5 with ⟨-, z, -⟩ | ⟨w, w1, w2, -⟩
    · exact z
    · rw [h29] at w2
      exact absurd w2.symm (nI_nm (by omega))
  · rcases r5 with ⟨-, -, z⟩ | ⟨w, w1, w2, -⟩
    · exact z
    · rw [h29] at w2
      exact absurd w2.symm (nI_nm (by omega))
end BG
