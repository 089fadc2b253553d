/-! SETS OF FORMS THAT WORK ALIKE: happenings, beginnings, searches. -/
section A2
variable {ak : Int32} {S : Nat → Int32} {A1 A2 : jSc} {pr n m : Nat} {tx : Nat → Int32} {g : pG}
theorem rA_st (h : rA A1 A2) : ∀ b, b < 13 → A2 b = A1 b := fun b hb => h b (by omega)
theorem gRf_A (hg : gRf pr n tx g A1) (h : rA A1 A2) : gRf pr n tx g A2 := by
  obtain ⟨g1, g2, g3, g4, g5, g6, g7, g8, g9⟩ := hg
  exact ⟨g1, g2, by rw [h 8 (by decide)]; exact g3, fun q hq => by rw [h _ (by omega)]; exact g4 q hq, g5, g6, fun e he => by rw [h _ (by omega)]; exact g7 e he, by rw [h 10 (by decide)]; exact g8, by rw [h 11 (by decide)]; exact g9⟩
/-- the asked lines of a program -/
theorem ak_O {a : Nat} (ha : a < g.1.length) (h : (oO g.1 a).1 = 24) {l : Nat} (hl : l < 4) (e : (oO g.1 a).2 = nI l) : bt (o_ak g.1 0) l = true := by
  refine ak_mem (by omega) ?_
  have : oO g.1 a ∈ g.1 := by
    have hx : g.1[a]? = some (oO g.1 a) := by
      unfold oO
      rw [List.getD_eq_getElem?_getD, List.getElem?_eq_getElem ha]
      rfl
    exact List.mem_of_getElem? hx
  have e2 : oO g.1 a = (24, nI l) := Prod.ext h e
  rw [← e2]; exact this
theorem r_46al {e : Nat} (hg : gRf pr n tx g A1) (hw' : wfG g) (h16 : S 16 = nI pr) (h38 : S 38 = nI m) (hm : m ≤ 6) (he : e < 17) (hP : pgC (A1 13)) (h29 : S 29 = -1) (hr : rA A1 A2) (hf : ∀ l, l < 4 → bt (o_ak g.1 0) l = true → m_fr A2 m 2 (nI l) = m_fr A1 m 2 (nI l)) (hz : zW (o_ak g.1 0) (A1 13)) : ∃ S9 B1 S8 B2, rF_46 (nI e) S A1 = some (S9, B1) ∧ rF_46 (nI e) S A2 = some (S8, B2) ∧ rA B1 B2 ∧ zW (o_ak g.1 0) (B1 13) := by
  have hg2 := gRf_A hg hr
  obtain ⟨g1, g2, g3, g4, g5, g6, g7, g8, g9⟩ := hg
  obtain ⟨-, -, k3, k4, -, -, k7, -, -⟩ := hg2
  rcases hx : g.2.1 e with _ | x
  · exact ⟨_, _, _, _, r_runs0 (S := S) (ar := A1) (e := e) g1 h16 he (by rw [g7 e he, hx]; rfl), r_runs0 (S := S) (ar := A2) (e := e) g1 h16 he (by rw [k7 e he, hx]; rfl), hr, hz⟩
  · obtain ⟨H, w1, -⟩ := wfG_O hw' g6
    obtain ⟨S9, B1, Sm, f, x1, x2, -⟩ := r_runs (S := S) (ar := A1) (e := e) g1 h16 he (by rw [g7 e he, hx]; rfl) g3 g2 g4 (HB_of g5 g6 hx) hP ⟨m, hm, h38⟩ (Or.inl h29)
    obtain ⟨S8, B2, Sn, f2, y1, y2, -⟩ := r_runs (S := S) (ar := A2) (e := e) g1 h16 he (by rw [k7 e he, hx]; rfl) k3 g2 k4 (HB_of g5 g6 hx) (by rw [hr 13 (by decide)]; exact hP) ⟨m, hm, h38⟩ (Or.inl h29)
    have z1 := w_mono f (f + f2) _ _ _ _ _ (by omega) x2
    have z2 := w_mono f2 (f + f2) _ _ _ _ _ (by omega) y2
    obtain ⟨B3, t1, t2, t3⟩ := w_al (ak := o_ak g.1 0) w1 (fun a ha h24 l hl em => ak_O ha h24 hl em) _ _ _ _ _ A2 _ _ z1 hP (by rw [up_n (by decide)]; exact h29) hr (by rw [up_n (by decide), h38, iN_nI (by omega)]; exact hf) hz
    rw [z2] at t1
    cases t1
    exact ⟨S9, B1, S8, B2, x1, y1, t2, t3⟩
theorem rA_va (h : rA A1 A2) {b : Nat} {Q : Nat → Int32} : rA (va_up A1 b Q) (va_up A2 b Q) := fun k hk => by
  by_cases z : k = b
  · subst z; rw [va_up_self, va_up_self]
  · rw [va_up_ne _ _ z, va_up_ne _ _ z]; exact h k hk
theorem m_frv {ar : jSc} {Q : Nat → Int32} {k l : Int32} : m_fr (va_up ar 13 Q) m k l = m_fr ar m k l := m_fr_c (va_up_ne _ _ (by decide)) (va_up_ne _ _ (by decide)) (va_up_ne _ _ (by decide))
/-- happens -/
theorem r_52al {c : Nat} {x : Int32} {C : Nat → Int32} (hg : gRf pr n tx g A1) (hw' : wfG g) (h16 : S 16 = nI pr) (h38 : S 38 = nI m) (hm : m ≤ 6) (h29 : S 29 = -1) (hc : c < 13) (hR : pgR (A1 13) C) (h8 : c = 8 → ¬ A1 13 26 = 0) (h9 : 8 < c → ¬ A1 13 (10 + (c - 9)) = 0) (hr : rA A1 A2) (hf : ∀ l, l < 4 → bt (o_ak g.1 0) l = true → m_fr A2 m 2 (nI l) = m_fr A1 m 2 (nI l)) (hf1 : ∀ l, l < 4 → bt (o_ak g.1 0) l = true → m_fr A2 m 1 (nI l) = m_fr A1 m 1 (nI l)) (hz : zW (o_ak g.1 0) (A1 13)) : ∃ v v2 S9 S8 B1 B2, rF_52 (nI c) x S A1 = some (v, S9, B1) ∧ rF_52 (nI c) x S A2 = some (v2, S8, B2) ∧ rA B1 B2 ∧ zW (o_ak g.1 0) (B1 13) := by
  have e13 : A2 13 = A1 13 := hr 13 (by decide)
  obtain ⟨q, hq, eq⟩ := hR.2.2.1.2
  have er : ∀ ar : jSc, ar 13 = A1 13 → rF_52 (nI c) x S ar = (if (8 : Int32) ≤ nI c then rF_52_100 (nI c) (nI (nxG (A1 13) 0 1 (q - 1))) (-1) (1 + nI c) 0 (upd (upd S 26 x) 25 0) (va_up ar 13 (ageP (A1 13) q)) else rF_52_100 (nI c) (nI (nxG (A1 13) 0 1 (q - 1))) (-1) (1 + nI c) (1 <<< ((8 + nI c) &&& 31)) (upd (upd S 26 x) 25 0) (va_up ar 13 (ageP (A1 13) q))) := by
    intro ar he
    unfold rF_52
    rw [r_next hq (by rw [he]; exact eq), ob3, r_age hq (by rw [he]; exact eq), he]
  have R1 : pgR (ageP (A1 13) q) (ageC C q) := pgR_ag hR eq hq
  have z1 : zW (o_ak g.1 0) (ageP (A1 13) q) := zW_c hz (fun k _ h2 => ageP_o (by omega))
  have l8 : (8 : Int32) ≤ nI c ↔ 8 ≤ c := nI_leI (by decide) (by omega)
  have g8 : nI c ≤ (8 : Int32) ↔ c ≤ 8 := nI_leI (by omega) (by decide)
  have e8 : nI c = (8 : Int32) ↔ c = 8 := nI_eq (by omega) (by decide)
  rw [er A1 rfl, er A2 e13]
  -- the run at the end
  have run : ∀ (e : Nat) (T : Nat → Int32) (Q : Nat → Int32) (v : Int32), e < 17 → rF7 S T → pgC Q → zW (o_ak g.1 0) Q → ∃ S9 B1 S8 B2, o_b2 (rF_46 (nI e) T (va_up A1 13 Q)) (fun Se are => some (v, Se, are)) = some (v, S9, B1) ∧ o_b2 (rF_46 (nI e) T (va_up A2 13 Q)) (fun Se are => some (v, Se, are)) = some (v, S8, B2) ∧ rA B1 B2 ∧ zW (o_ak g.1 0) (B1 13) := by
    intro e T Q v he hT hP hzQ
    obtain ⟨S9, B1, S8, B2, t1, t2, t3, t4⟩ := r_46al (S := T) (gRf_f hg (rowF_va (Q := Q))) hw' (by rw [hT 16 (by decide)]; exact h16) (by rw [hT 38 (by decide)]; exact h38) hm he (by rw [va_up_self]; exact hP) (by rw [hT 29 (by decide)]; exact h29) (rA_va hr) (fun l hl hb => by rw [m_frv, m_frv]; exact hf l hl hb) (by rw [va_up_self]; exact hzQ)
    rw [t1, t2]
    exact ⟨S9, B1, S8, B2, rfl, rfl, t3, t4⟩
  by_cases k8 : 8 ≤ c
  · rw [if_pos (l8.mpr k8), if_pos (l8.mpr k8)]
    by_cases kc : c = 8
    · have q0 : q ≠ 0 := fun z => h8 kc (by rw [eq, z]; rfl)
      have hb := nxG_lt (A1 13) (q - 1) 0 1 (by omega)
      generalize hB : nxG (A1 13) 0 1 (q - 1) = b at hb
      have e27 : (27 : Int32) + nI b = nI (27 + b) := nI_add 27 b
      have e50 : (50 : Int32) + nI b = nI (50 + b) := nI_add 50 b
      obtain ⟨d, y, hd, hy, w1, w2, w3⟩ := R1.2.1 b (by omega)
      have p26 : ageP (A1 13) q 26 = nI q := (ageP_o (by omega)).trans eq
      have e9 : (9 : Int32) + nI d = nI (9 + d) := nI_add 9 d
      have R2 := pgR_dr R1 p26 hq (show b < q by omega)
      have z2 : zW (o_ak g.1 0) (dP (ageP (A1 13) q) q b) := zW_c z1 (fun k h1 h2 => by
        unfold dP
        rw [if_neg (by omega), if_neg (by omega), if_neg (by omega), if_neg (by omega)])
      unfold rF_52_100
      simp only [if_pos (e8.mpr kc), e27, e50, if_pos (iB_nI (show 27 + b < 53 by omega) (by decide)), if_pos (iB_nI (show 50 + b < 53 by omega) (by decide))]
      rw [r_drop hq (by omega) (by rw [va_up_self]; exact p26), ob2, if_neg (by decide), r_drop hq (by omega) (by rw [va_up_self]; exact p26), ob2, if_neg (by decide), iN_nI (by omega), iN_nI (by omega), va_up_self, va_up_self, w2, e9, va_2, va_2]
      obtain ⟨S9, B1, S8, B2, t1, t2, t3, t4⟩ := run (9 + d) (upd (upd (upd (upd S 26 x) 25 (0 : Int32)) 27 (0 : Int32)) 28 (0 : Int32)) _ (ageP (A1 13) q (50 + b)) (by omega) (rF7_u (by decide) (rF7_u (by decide) (rF7_u (by decide) (rF7_u (by decide) (fun _ _ => rfl))))) R2.2.2.1 z2
      exact ⟨_, _, S9, S8, B1, B2, t1, t2, t3, t4⟩
    · have g9 : 8 < c := by omega
      obtain ⟨l, rfl⟩ : ∃ l, c = 9 + l := ⟨c - 9, by omega⟩
      have el : nI (9 + l) - (9 : Int32) = nI l := by rw [show (9 : Int32) = nI 9 from rfl, nI_sub (by omega), show 9 + l - 9 = l by omega]
      obtain ⟨w, hw3, ew⟩ := hR.2.2.1.1 l (by omega)
      have w0 : w ≠ 0 := fun z => h9 g9 (by rw [show 9 + l - 9 = l by omega, ew, z]; rfl)
      have asked : bt (o_ak g.1 0) l = true := by
        cases u : bt (o_ak g.1 0) l
        · exact absurd (hz l (by omega) u) (by have := h9 g9; rw [show 9 + l - 9 = l by omega] at this; exact this)
        · rfl
      have p10 : ageP (A1 13) q (10 + l) = nI w := (ageP_o (by omega)).trans ew
      have e10 : (10 : Int32) + nI l = nI (10 + l) := nI_add 10 l
      have e13' : (13 : Int32) + nI l = nI (13 + l) := nI_add 13 l
      have e38 : (38 : Int32) + 3 * nI l = nI (38 + 3 * l) := by rw [show (38 : Int32) = nI 38 from rfl, show (3 : Int32) = nI 3 from rfl, nx]
      have e14 : (14 : Int32) + 3 * nI l = nI (14 + 3 * l) := by rw [show (14 : Int32) = nI 14 from rfl, show (3 : Int32) = nI 3 from rfl, nx]
      have R2 := pgR_tk R1 (show l < 4 by omega) p10 hw3 (by omega)
      have z2 : zW (o_ak g.1 0) (tP (ageP (A1 13) q) w l) := fun i hi hb => by
        have ne : i ≠ l := fun e => by rw [e, asked] at hb; cases hb
        unfold tP
        rw [if_neg (by omega), if_neg (by omega), if_neg (by omega)]
        exact z1 i hi hb
      generalize hT0 : upd (upd (upd (upd (upd S 26 x) 25 (0 : Int32)) 27 (0 : Int32)) 28 (0 : Int32)) 25 (ageP (A1 13) q (14 + 3 * l)) = T0
      have cs : ∃ y0 : Int32, (y0 = 0 ∨ y0 = 1) ∧ ∀ ar : jSc, (ar = A1 ∨ ar = A2) → rF_52_100 (nI (9 + l)) (nI (nxG (A1 13) 0 1 (q - 1))) (-1) (1 + nI (9 + l)) 0 (upd (upd S 26 x) 25 0) (va_up ar 13 (ageP (A1 13) q)) = rF_52_228 (ageP (A1 13) q (38 + 3 * l)) (nI (13 + l)) (nI l) y0 T0 (va_up ar 13 (ageP (A1 13) q)) := by
        have heq : nI w = (1 : Int32) ↔ w = 1 := nI_eq (by omega) (by decide)
        by_cases w1 : w = 1
        · refine ⟨1, Or.inr rfl, fun ar _ => ?_⟩
          unfold rF_52_100
          rw [if_neg (fun z => kc (e8.mp z)), if_neg (fun z => absurd (g8.mp z) (by omega)), el, e38, e14, e10, e13', if_pos (iB_nI (by omega) (by decide)), if_pos (iB_nI (by omega) (by decide)), if_pos (iB_nI (by omega) (by decide)), iN_nI (by omega), iN_nI (by omega), iN_nI (by omega), va_up_self, p10, if_pos (heq.mpr w1), hT0]
        · by_cases y : m_fr A1 m 1 (nI l) = true
          · refine ⟨0, Or.inl rfl, fun ar har => ?_⟩
            have y2 : m_fr ar m 1 (nI l) = true := by
              rcases har with rfl | rfl
              · exact y
              · rw [hf1 l (by omega) asked]; exact y
            unfold rF_52_100
            rw [if_neg (fun z => kc (e8.mp z)), if_neg (fun z => absurd (g8.mp z) (by omega)), el, e38, e14, e10, e13', if_pos (iB_nI (by omega) (by decide)), if_pos (iB_nI (by omega) (by decide)), if_pos (iB_nI (by omega) (by decide)), iN_nI (by omega), iN_nI (by omega), iN_nI (by omega), va_up_self, p10, if_neg (fun z => w1 (heq.mp z)), r_isForm (m := m) (by show S 38 = nI m; exact h38) hm, ob3, m_frv, if_pos y2, if_neg (by decide), hT0]
          · refine ⟨1, Or.inr rfl, fun ar har => ?_⟩
            have y2 : ¬ m_fr ar m 1 (nI l) = true := by
              rcases har with rfl | rfl
              · exact y
              · rw [hf1 l (by omega) asked]; exact y
            unfold rF_52_100
            rw [if_neg (fun z => kc (e8.mp z)), if_neg (fun z => absurd (g8.mp z) (by omega)), el, e38, e14, e10, e13', if_pos (iB_nI (by omega) (by decide)), if_pos (iB_nI (by omega) (by decide)), if_pos (iB_nI (by omega) (by decide)), iN_nI (by omega), iN_nI (by omega), iN_nI (by omega), va_up_self, p10, if_neg (fun z => w1 (heq.mp z)), r_isForm (m := m) (by show S 38 = nI m; exact h38) hm, ob3, m_frv, if_neg y2, if_pos rfl, hT0]
      obtain ⟨y0, hy0, ec⟩ := cs
      rw [ec A1 (Or.inl rfl), ec A2 (Or.inr rfl)]
      have FT : rF7 S T0 := by rw [← hT0]; exact rF7_u (by decide) (rF7_u (by decide) (rF7_u (by decide) (rF7_u (by decide) (rF7_u (by decide) (fun _ _ => rfl)))))
      unfold rF_52_228
      rw [r_take (n := w) hw3 (by omega) (by omega) (by rw [va_up_self]; exact p10), ob2, va_up_self, va_2, r_take (n := w) hw3 (by omega) (by omega) (by rw [va_up_self]; exact p10), ob2, va_up_self, va_2]
      rcases hy0 with rfl | rfl
      · rw [if_pos rfl, if_pos rfl]
        exact ⟨_, _, _, _, _, _, rfl, rfl, rA_va hr, by rw [va_up_self]; exact z2⟩
      · rw [if_neg (by decide), if_neg (by decide)]
        obtain ⟨S9, B1, S8, B2, t1, t2, t3, t4⟩ := run (13 + l) _ _ (ageP (A1 13) q (38 + 3 * l)) (by omega) (rF7_u (k0 := 28) (by decide) FT) R2.2.2.1 z2
        exact ⟨_, _, S9, S8, B1, B2, t1, t2, t3, t4⟩
  · rw [if_neg (fun z => k8 (l8.mp z)), if_neg (fun z => k8 (l8.mp z))]
    have e1 : (1 : Int32) + nI c = nI (1 + c) := nI_add 1 c
    unfold rF_52_100
    rw [if_neg (fun z => absurd (e8.mp z) (by omega)), if_pos (g8.mpr (by omega)), if_neg (by decide), if_neg (fun z => absurd (e8.mp z) (by omega)), if_pos (g8.mpr (by omega)), if_neg (by decide), e1]
    obtain ⟨S9, B1, S8, B2, t1, t2, t3, t4⟩ := run (1 + c) (upd (upd (upd (upd S 26 x) 25 (0 : Int32)) 27 ((1 : Int32) <<< ((8 + nI c) &&& 31))) 28 (0 : Int32)) _ (-1) (by omega) (rF7_u (by decide) (rF7_u (by decide) (rF7_u (by decide) (rF7_u (by decide) (fun _ _ => rfl))))) R1.2.2.1 z1
    exact ⟨_, _, S9, S8, B1, B2, t1, t2, t3, t4⟩
/-- beginsAnew -/
theorem r_49al (hg : gRf pr n tx g A1) (hw' : wfG g) (h16 : S 16 = nI pr) (h38 : S 38 = nI m) (hm : m ≤ 6) (hr : rA A1 A2) (hf : ∀ l, l < 4 → bt (o_ak g.1 0) l = true → m_fr A2 m 2 (nI l) = m_fr A1 m 2 (nI l)) : ∃ S9 S8 B1 B2, rF_49 S A1 = some (S9, B1) ∧ rF_49 S A2 = some (S8, B2) ∧ rA B1 B2 ∧ zW (o_ak g.1 0) (B1 13) := by
  have e13 : A2 13 = A1 13 := hr 13 (by decide)
  rw [r_anew, r_anew, r_blank, r_blank, va_up_self, va_up_self, va_2, va_2, e13]
  generalize hQ : upd (bF (fun i => if 33 ≤ i ∧ i < 37 then 0 else A1 13 i) 53) 8 255 = Q
  have bl : ∀ i, i < 53 → Q i = blP (fun k => (fun i => if 33 ≤ i ∧ i < 37 then 0 else A1 13 i) (33 + k)) i := fun i hi => by rw [← hQ]; exact bF_k hi
  have hR := (pgR_bl (P := Q) (C := blC (fun k => (fun i => if 33 ≤ i ∧ i < 37 then 0 else A1 13 i) (33 + k))) bl (fun _ _ => rfl)).1
  have hz : zW (o_ak g.1 0) Q := fun l hl _ => by
    rw [bl (10 + l) (by omega)]
    unfold blP
    rw [if_neg (by omega), if_neg (by omega)]
  obtain ⟨S9, B1, S8, B2, t1, t2, t3, t4⟩ := r_46al (e := 0) (S := upd (upd (upd S 29 (-1)) 26 (-1)) 25 0) (gRf_f hg (rowF_va (Q := Q))) hw' (by rw [up_n (by decide), up_n (by decide), up_n (by decide)]; exact h16) (by rw [up_n (by decide), up_n (by decide), up_n (by decide)]; exact h38) hm (by omega) (by rw [va_up_self]; exact hR.2.2.1) (by rw [up_n (by decide), up_n (by decide), up_0]) (rA_va hr) (fun l hl hb => by rw [m_frv, m_frv]; exact hf l hl hb) (by rw [va_up_self]; exact hz)
  exact ⟨S9, S8, B1, B2, t1, t2, t3, t4⟩
end A2
