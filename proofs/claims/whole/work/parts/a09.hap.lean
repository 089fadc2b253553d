/-! A HAPPENING on both sides: the whole. -/
section HP
variable {cb : Bool} {S : Nat → Int32} {ar : jSc} {pp : Nat} {sc car : jSc} {mr : Nat → Nat} {al : jAl} {o0 : Nat → Bool} {d57 : Int32} {pr n p m : Nat} {tx : Nat → Int32} {g : pG}
/-- both sides as they stand, the same program and forms -/
def sR (pr n : Nat) (tx : Nat → Int32) (g : pG) (p m : Nat) (S : Nat → Int32) (ar sc car : jSc) (mr : Nat → Nat) : Prop := gRf pr n tx g ar ∧ gCl p g sc car ∧ wfG g ∧ mr 3 = p ∧ S 16 = nI pr ∧ S 38 = nI m ∧ fR m ar sc car
theorem fR_f {sc2 car2 ar2 : jSc} (hpp : 759 ≤ pp) (h : fR m ar sc car) (hR : rowF ar ar2) (hF : hF7 sc sc2) (hA : hFa pp car car2) : fR m ar2 sc2 car2 := by
  obtain ⟨f1, f2, f3, f4⟩ := h
  have r : ∀ b, 102 ≤ b → b ≤ 106 → ar2 b = ar b := fun b h1 h2 => hR b (by simp; omega) (by simp; omega) (by simp; omega) (by simp; omega)
  refine ⟨⟨f1.1, fun i hi => by rw [r 104 (by decide) (by decide)]; exact f1.2 i hi⟩, fun l hl => ?_, fun l hl => ?_, fun t l ht hl => ?_⟩
  · rw [hF 736 8 (by decide), m_fr_c (r 106 (by decide) (by decide)) (r 102 (by decide) (by decide)) (r 104 (by decide) (by decide))]; exact f2 l hl
  · rw [hF 736 7 (by decide), m_fr_c (r 106 (by decide) (by decide)) (r 102 (by decide) (by decide)) (r 104 (by decide) (by decide))]; exact f3 l hl
  · rw [hA 741 (by decide) (by omega), f4 t l ht hl]
    have go : ∀ c i, m_b1 ar (nI t) (nI l) i c = m_b1 ar2 (nI t) (nI l) i c := by
      intro c
      induction c with
      | zero => intro i; rfl
      | succ c ih => intro i; rw [m_b1_s, m_b1_s, ih, r 106 (by decide) (by decide), r 102 (by decide) (by decide), r 103 (by decide) (by decide), r 104 (by decide) (by decide)]
    exact go m 0
theorem sR_f {S2 : Nat → Int32} {sc2 car2 ar2 : jSc} (hpp : 759 ≤ pp) (h : sR pr n tx g p m S ar sc car mr) (hS : rF7 S S2) (hR : rowF ar ar2) (hF : hF7 sc sc2) (hA : hFa pp car car2) : sR pr n tx g p m S2 ar2 sc2 car2 mr := by
  obtain ⟨h1, h2, h3, h4, h5, h6, h7⟩ := h
  exact ⟨gRf_f h1 hR, gCl_f hpp h2 hF hA, h3, h4, (hS 16 (by decide)).trans h5, (hS 38 (by decide)).trans h6, fR_f hpp h7 hR hF hA⟩
theorem hW_4 {x : Int32} {f : jSc} (h : hWn o0 d57 S ar (j_u2 sc 757 4 0)) (hx : ∀ k, k < 4 → bt x (16 + k) = false) (h4 : f 757 4 = x) (h5 : f 757 5 = sc 757 5) (h6 : f 757 6 = sc 757 6) {S2 : Nat → Int32} {ar2 : jSc} (h29 : S2 29 = S 29) (h57 : S2 57 = S 57) (hr : ∀ b, b ≠ 13 → ar2 b = ar b) : hWn o0 d57 S2 ar2 f := by
  refine hW_s h h57 h29 (hr 716 (by decide)) (hr 718 (by decide)) (hr 719 (by decide)) (h5.trans (u2_nk (by decide)).symm) (h6.trans (u2_nk (by decide)).symm) (fun k hk => ?_)
  rw [h4, hx k hk, u2_eq, b_0]
theorem bt_16 {j k : Nat} (hj : j < 32) (hk : k < 4) (h : j < 16 ∨ 20 ≤ j) : bt (1 <<< (nI j &&& 31)) (16 + k) = false := by
  rw [bt_1 j hj (by omega)]
  simp
  omega
set_option maxHeartbeats 1000000 in
theorem h_hap {c : Nat} {x : Int32} (hs : sR pr n tx g p m S ar sc car mr) (hpp : 759 ≤ pp) (hc : c < 13) (hR : pgR (ar 13) (car (pp + 1))) (hA : cb = true → pgA (ar 13) (car (pp + 1))) (hw : hWn o0 d57 S ar (j_u2 sc 757 4 0)) (h8 : c = 8 → ¬ ar 13 26 = 0) (h9 : 8 < c → ¬ ar 13 (10 + (c - 9)) = 0) :
    hHp cb o0 d57 pp S ar sc car mr al (rF_52 (nI c) x S ar) (xF_209 pp (nI c) x sc mr car al) := by
  obtain ⟨s1, s2, s3, s4, s5, s6, s7⟩ := hs
  have hp := x_pr_ne s2.1
  obtain ⟨q, hq, eq⟩ := hR.2.2.1.2
  have c19 : car (pp + 1) 19 = nI q := (hR.1 19 (by decide)).trans eq
  have hm6 : ∃ k, k ≤ 6 ∧ S 38 = nI k := ⟨m, s7.1.1, s6⟩
  -- the reference
  have er : rF_52 (nI c) x S ar = (if (8 : Int32) ≤ nI c then rF_52_100 (nI c) (nI (nxG (ar 13) 0 1 (q - 1))) (-1) (1 + nI c) 0 (upd (upd S 26 x) 25 0) (va_up ar 13 (ageP (ar 13) q)) else rF_52_100 (nI c) (nI (nxG (ar 13) 0 1 (q - 1))) (-1) (1 + nI c) (1 <<< ((8 + nI c) &&& 31)) (upd (upd S 26 x) 25 0) (va_up ar 13 (ageP (ar 13) q))) := by
    unfold rF_52
    rw [r_next hq eq, ob3, r_age hq eq]
  -- ClickOrders
  generalize hX : j_u2 (j_u2 (j_u2 (j_u2 sc 757 3 (0 : Int32)) 757 4 (0 : Int32)) 757 7 (0 : Int32)) 757 8 x = X
  have X3 : X 757 3 = 0 := by rw [← hX, u2_nk (by decide), u2_nk (by decide), u2_nk (by decide), u2_eq]
  have X4 : X 757 4 = 0 := by rw [← hX, u2_nk (by decide), u2_nk (by decide), u2_eq]
  have X5 : X 757 5 = sc 757 5 := by rw [← hX, u2_nk (by decide), u2_nk (by decide), u2_nk (by decide), u2_nk (by decide)]
  have X6 : X 757 6 = sc 757 6 := by rw [← hX, u2_nk (by decide), u2_nk (by decide), u2_nk (by decide), u2_nk (by decide)]
  have X7 : X 757 7 = 0 := by rw [← hX, u2_nk (by decide), u2_eq]
  have X8 : X 757 8 = x := by rw [← hX, u2_eq]
  have FX : hF7 sc X := by rw [← hX]; exact hF7_u (by decide) (hF7_u (by decide) (hF7_u (by decide) (hF7_u (by decide) (fun _ _ _ => rfl))))
  have R1 : pgR (ageP (ar 13) q) (ageC (car (pp + 1)) q) := pgR_ag hR eq hq
  have A1 : cb = true → pgA (ageP (ar 13) q) (ageC (car (pp + 1)) q) := fun h => pgA_ag (hA h) hq
  have fA : ∀ Q : Nat → Int32, hFa pp car (va_up car (pp + 1) Q) := fun Q b _ h => va_up_ne _ _ h
  have fr2 : ∀ l, l < 4 → bt (X 736 8) l = m_fr ar (iN (S 38)) 2 (nI l) := fun l hl => by rw [FX 736 8 (by decide), s6, iN_nI (by have := s7.1.1; omega)]; exact s7.2.1 l hl
  have en : ∀ Q e, (va_up car (pp + 1) Q) (p + 3) e = car (p + 3) e := fun Q e => by rw [va_up_ne _ _ (by omega)]
  have ec : xF_209 pp (nI c) x sc mr car al = o_b4 (some (X, mr, car, al)) (fun sce8 mre8 are8 ale8 => (o_b5 (xF_241 pp sce8 mre8 are8 ale8) (fun ve9 sce9 mre9 are9 ale9 => (o_b4 (xF_240 pp sce9 mre9 are9 ale9) (fun sce10 mre10 are10 ale10 => (if (8 : Int32) ≤ nI c then (if nI c ≤ (8 : Int32) then (if ve9 < 0 then (o_b4 (xF_213 pp (-1 : Int32) sce10 mre10 are10 ale10) (fun sce14 mre14 are14 ale14 => some ((-1 : Int32), sce14, mre14, are14, ale14))) else (if iB ((47 : Int32) + ve9) 50 then (if x_pr (mre10 3) = true then (if iB ((32 : Int32) + ve9) 50 then (if iB ((9 : Int32) + ((are10 (pp + 1) (iN ((32 : Int32) + ve9))) / (1000 : Int32))) 17 then (o_b4 (xF_242 pp ve9 sce10 mre10 are10 ale10) (fun sce19 mre19 are19 ale19 => (o_b4 (xF_213 pp (are10 ((mre10 3) + 3) (iN ((9 : Int32) + ((are10 (pp + 1) (iN ((32 : Int32) + ve9))) / (1000 : Int32))))) sce19 mre19 are19 ale19) (fun sce20 mre20 are20 ale20 => some ((are10 (pp + 1) (iN ((47 : Int32) + ve9))), sce20, mre20, are20, ale20))))) else none) else none) else none) else none)) else (o_b5 (xF_230 pp (nI c - (9 : Int32)) sce10 mre10 are10 ale10) (fun ve21 sce21 mre21 are21 ale21 => (if ve21 ≤ (1 : Int32) then xF_209_95 pp (nI c - (9 : Int32)) (0 : Int32) sce21 mre21 are21 ale21 else (if (((sce21 736 7) >>> ((nI c - (9 : Int32)) &&& 31)) &&& (1 : Int32)) = 0 then xF_209_95 pp (nI c - (9 : Int32)) (0 : Int32) sce21 mre21 are21 ale21 else xF_209_95 pp (nI c - (9 : Int32)) (1 : Int32) sce21 mre21 are21 ale21))))) else (if x_pr (mre10 3) = true then (if iB ((1 : Int32) + nI c) 17 then (o_b4 (xF_213 pp (are10 ((mre10 3) + 3) (iN ((1 : Int32) + nI c))) (j_u2 sce10 757 3 ((1 : Int32) <<< (((8 : Int32) + nI c) &&& 31))) mre10 are10 ale10) (fun sce26 mre26 are26 ale26 => some ((-1 : Int32), sce26, mre26, are26, ale26))) else none) else none))))))) := by
    rw [← hX]; rfl
  rw [ob4, c_soon (P := ar 13) (n := q) hR hq eq, ob5, c_age hq c19, ob4] at ec
  have l8 : (8 : Int32) ≤ nI c ↔ 8 ≤ c := nI_leI (by decide) (by omega)
  have g8 : nI c ≤ (8 : Int32) ↔ c ≤ 8 := nI_leI (by omega) (by decide)
  have e8 : nI c = (8 : Int32) ↔ c = 8 := nI_eq (by omega) (by decide)
  by_cases k8 : 8 ≤ c
  · rw [if_pos (l8.mpr k8)] at er ec
    by_cases kc : c = 8
    · -- a clock
      have q0 : q ≠ 0 := fun z => h8 kc (by rw [eq, z]; rfl)
      have hb := nxG_lt (ar 13) (q - 1) 0 1 (by omega)
      generalize hB : nxG (ar 13) 0 1 (q - 1) = b at er ec hb
      rw [if_neg q0, if_pos (g8.mpr (by omega)), if_neg (nI_pos (by omega))] at ec
      have e47 : (47 : Int32) + nI b = nI (47 + b) := nI_add 47 b
      have e32 : (32 : Int32) + nI b = nI (32 + b) := nI_add 32 b
      have e27 : (27 : Int32) + nI b = nI (27 + b) := nI_add 27 b
      have e50 : (50 : Int32) + nI b = nI (50 + b) := nI_add 50 b
      obtain ⟨d, y, hd, hy, z1, z2, z3⟩ := R1.2.1 b (by omega)
      have p26 : ageP (ar 13) q 26 = nI q := (ageP_o (by omega)).trans eq
      have a19 : (va_up car (pp + 1) (ageC (car (pp + 1)) q)) (pp + 1) 19 = nI q := by rw [va_up_self, ageC_o (by omega)]; exact c19
      have e9 : (9 : Int32) + nI d = nI (9 + d) := nI_add 9 d
      rw [e47, e32, if_pos (iB_nI (by omega) (by decide)), s4, if_pos s2.1, if_pos (iB_nI (by omega) (by decide)), iN_nI (by omega), iN_nI (by omega), va_up_self, z1, nI_dv hd hy, e9, if_pos (iB_nI (by omega) (by decide)), iN_nI (by omega), c_drop (by omega) (by omega) a19, ob4, va_up_self, va_2, en] at ec
      unfold rF_52_100 at er
      have R2 := pgR_dr R1 p26 hq (show b < q by omega)
      rw [if_pos (e8.mpr kc), e27, e50, if_pos (iB_nI (by omega) (by decide)), if_pos (iB_nI (by omega) (by decide)), r_drop hq (by omega) (by rw [va_up_self]; exact p26), ob2, if_neg (by decide), iN_nI (by omega), iN_nI (by omega), va_up_self, z2, e9, va_2] at er
      generalize hT : upd (upd (upd (upd S 26 x) 25 (0 : Int32)) 27 (0 : Int32)) 28 (0 : Int32) = T at er
      have T25 : T 25 = 0 := by rw [← hT]; rfl
      have T26 : T 26 = x := by rw [← hT]; rfl
      have FT : rF7 S T := by rw [← hT]; exact rF7_u (by decide) (rF7_u (by decide) (rF7_u (by decide) (rF7_u (by decide) (fun _ _ => rfl))))
      have hi : hI cb 0 0 T (va_up ar 13 (dP (ageP (ar 13) q) q b)) pp X (va_up car (pp + 1) (dC (ageC (car (pp + 1)) q) q b)) := by
        refine ⟨by rw [va_up_self, va_up_self]; exact R2, fun h => by rw [va_up_self, va_up_self]; exact pgA_dr (A1 h) p26 hq (by omega), by rw [← hT, X3]; rfl, by rw [← hT, X4]; rfl, X7.trans T25.symm, X8.trans T26.symm, fun l hl => ?_⟩
        rw [FT 38 (by decide), m_fr_c (va_up_ne _ _ (by decide)) (va_up_ne _ _ (by decide)) (va_up_ne _ _ (by decide))]
        exact fr2 l hl
      have hw2 : hWn o0 d57 T (va_up ar 13 (dP (ageP (ar 13) q) q b)) X := hW_4 hw (fun k _ => b_0 _) X4 X5 X6 (FT 29 (by decide)) (by rw [← hT]; rfl) (fun b hb => va_up_ne _ _ hb)
      obtain ⟨S9, ar9, sc9, car9, r1, r2, r3, r4, r5, r6, r7, r8⟩ := h_run (mr := mr) (al := al) (e := 9 + d) (gRf_f s1 rowF_va) (gCl_f hpp s2 FX (fA _)) s3 s4 hpp (by rw [FT 16 (by decide)]; exact s5) (by rw [FT 38 (by decide)]; exact hm6) (by omega) hi hw2
      rw [en] at r2
      rw [r1, ob2] at er
      rw [r2, ob4] at ec
      refine ⟨_, _, S9, ar9, sc9, car9, er, ec, fun h => ?_, r3, r4, hF7_tr FX (hF7_s r5), hFa_tr (fA _) r6, rF7_tr FT (rF7_r r7), rowG_tr rowG_va r8 (FT 29 (by decide))⟩
      have := (A1 h).2 b (by omega) (by rw [p26, iN_nI (by omega)]; omega)
      exact this
    · -- an answer
      have g9 : 8 < c := by omega
      obtain ⟨l, rfl⟩ : ∃ l, c = 9 + l := ⟨c - 9, by omega⟩
      have el : nI (9 + l) - (9 : Int32) = nI l := by rw [show (9 : Int32) = nI 9 from rfl, nI_sub (by omega), show 9 + l - 9 = l by omega]
      rw [if_neg (fun z => absurd (g8.mp z) (by omega)), el] at ec
      obtain ⟨w, hw3, ew⟩ := hR.2.2.1.1 l (by omega)
      have w0 : w ≠ 0 := fun z => h9 g9 (by rw [show 9 + l - 9 = l by omega, ew, z]; rfl)
      have p10 : ageP (ar 13) q (10 + l) = nI w := (ageP_o (by omega)).trans ew
      have a15 : ageC (car (pp + 1)) q (15 + l) = nI w := (pgR_i R1 (by omega)).trans p10
      have e15 : (15 : Int32) + nI l = nI (15 + l) := nI_add 15 l
      have e10 : (10 : Int32) + nI l = nI (10 + l) := nI_add 10 l
      have e13 : (13 : Int32) + nI l = nI (13 + l) := nI_add 13 l
      have e20 : (20 : Int32) + nI l = nI (20 + l) := nI_add 20 l
      have e38 : (38 : Int32) + 3 * nI l = nI (38 + 3 * l) := by rw [show (38 : Int32) = nI 38 from rfl, show (3 : Int32) = nI 3 from rfl, nx]
      have e14 : (14 : Int32) + 3 * nI l = nI (14 + 3 * l) := by rw [show (14 : Int32) = nI 14 from rfl, show (3 : Int32) = nI 3 from rfl, nx]
      have e35 : (35 : Int32) + nI l * 3 = nI (35 + 3 * l) := by rw [show (35 : Int32) = nI 35 from rfl, show (3 : Int32) = nI 3 from rfl, nI_mul, nI_add, Nat.mul_comm l 3]
      have R2 := pgR_tk R1 (show l < 4 by omega) p10 hw3 (by omega)
      have c20 : ageC (car (pp + 1)) q (20 + 3 * l) = ageP (ar 13) q (14 + 3 * l) := by
        have a := ix_c (20 + 3 * l) (by omega)
        rw [R1.1 _ (by omega)]
        congr 1
        omega
      -- run or not
      have cs : ∃ y0 : Int32, (y0 = 0 ∨ y0 = 1) ∧ xF_209 pp (nI (9 + l)) x sc mr car al = xF_209_95 pp (nI l) (1 - y0) X mr (va_up car (pp + 1) (ageC (car (pp + 1)) q)) al ∧ rF_52 (nI (9 + l)) x S ar = rF_52_228 (ageP (ar 13) q (38 + 3 * l)) (nI (13 + l)) (nI l) y0 (upd (upd (upd (upd (upd S 26 x) 25 (0 : Int32)) 27 (0 : Int32)) 28 (0 : Int32)) 25 (ageP (ar 13) q (14 + 3 * l))) (va_up ar 13 (ageP (ar 13) q)) := by
        have hle : nI w ≤ (1 : Int32) ↔ w ≤ 1 := nI_leI (by omega) (by decide)
        have heq : nI w = (1 : Int32) ↔ w = 1 := nI_eq (by omega) (by decide)
        unfold xF_230 at ec
        rw [e15, if_pos (iB_nI (by omega) (by decide)), ob5, iN_nI (by omega), va_up_self, a15] at ec
        unfold rF_52_100 at er
        rw [if_neg (fun z => kc (e8.mp z)), if_neg (fun z => absurd (g8.mp z) (by omega)), el, e38, e14, e10, e13, if_pos (iB_nI (by omega) (by decide)), if_pos (iB_nI (by omega) (by decide)), if_pos (iB_nI (by omega) (by decide)), iN_nI (by omega), iN_nI (by omega), iN_nI (by omega), va_up_self, p10] at er
        by_cases w1 : w = 1
        · rw [if_pos (heq.mpr w1)] at er
          rw [if_pos (hle.mpr (by omega))] at ec
          exact ⟨1, Or.inr rfl, ec, er⟩
        · rw [if_neg (fun z => w1 (heq.mp z))] at er
          rw [if_neg (fun z => absurd (hle.mp z) (by omega))] at ec
          rw [r_isForm (m := m) (by show S 38 = nI m; exact s6) s7.1.1, ob3] at er
          have hb := s7.2.2.1 l (by omega)
          have hb2 : bt (X 736 7) l = m_fr (va_up ar 13 (ageP (ar 13) q)) m 1 (nI l) := by
            rw [FX 736 7 (by decide), m_fr_c (va_up_ne _ _ (by decide)) (va_up_ne _ _ (by decide)) (va_up_ne _ _ (by decide))]; exact hb
          by_cases y : m_fr (va_up ar 13 (ageP (ar 13) q)) m 1 (nI l) = true
          · rw [if_pos y, if_neg (by decide)] at er
            rw [if_neg (fun z => by rw [bt_s0 (by omega), hb2, y] at z; cases z)] at ec
            exact ⟨0, Or.inl rfl, ec, er⟩
          · rw [if_neg y, if_pos rfl] at er
            rw [if_pos ((bt_s0 (by omega)).mpr (by rw [hb2]; simpa using y))] at ec
            exact ⟨1, Or.inr rfl, ec, er⟩
      obtain ⟨y0, hy0, ec, er⟩ := cs
      generalize hT : upd (upd (upd (upd (upd (upd S 26 x) 25 (0 : Int32)) 27 (0 : Int32)) 28 (0 : Int32)) 25 (ageP (ar 13) q (14 + 3 * l))) 28 ((0 : Int32) ||| ((1 : Int32) <<< ((20 + nI l) &&& 31))) = T
      have T25 : T 25 = ageP (ar 13) q (14 + 3 * l) := by rw [← hT]; rfl
      have T26 : T 26 = x := by rw [← hT]; rfl
      have FT : rF7 S T := by rw [← hT]; exact rF7_u (by decide) (rF7_u (by decide) (rF7_u (by decide) (rF7_u (by decide) (rF7_u (by decide) (rF7_u (by decide) (fun _ _ => rfl))))))
      unfold rF_52_228 at er
      rw [r_take (n := w) hw3 (by omega) (by omega) (by rw [va_up_self]; exact p10), ob2, va_up_self, va_2] at er
      have eT : upd (upd (upd (upd (upd (upd S 26 x) 25 (0 : Int32)) 27 (0 : Int32)) 28 (0 : Int32)) 25 (ageP (ar 13) q (14 + 3 * l))) 28 (upd (upd (upd (upd (upd S 26 x) 25 (0 : Int32)) 27 (0 : Int32)) 28 (0 : Int32)) 25 (ageP (ar 13) q (14 + 3 * l)) 28 ||| (1 <<< ((20 + nI l) &&& 31))) = T := hT
      rw [eT] at er
      generalize hY : j_u2 (j_u2 X 757 7 (ageP (ar 13) q (14 + 3 * l))) 757 4 ((1 : Int32) <<< ((20 + nI l) &&& 31)) = Y
      have Y4 : Y 757 4 = (1 : Int32) <<< ((20 + nI l) &&& 31) := by rw [← hY, u2_eq]
      have Yk : ∀ k, k ≠ 4 → k ≠ 7 → Y 757 k = X 757 k := fun k a b => by rw [← hY, u2_nk a, u2_nk b]
      have Y7 : Y 757 7 = ageP (ar 13) q (14 + 3 * l) := by rw [← hY, u2_nk (by decide), u2_eq]
      have FY : hF7 sc Y := by rw [← hY]; exact hF7_u (by decide) (hF7_u (by decide) FX)
      unfold xF_209_95 xF_237 at ec
      rw [e35, if_pos (iB_nI (by omega) (by decide)), ob5, iN_nI (by omega), c_give (n := w) hw3 (by omega) (by omega) (by rw [va_up_self]; exact a15), ob5, va_up_self, va_2, c20, s4, if_pos s2.1, e13, if_pos (iB_nI (by omega) (by decide)), iN_nI (by omega), hY, en] at ec
      have hi : hI cb 0 0 T (va_up ar 13 (tP (ageP (ar 13) q) w l)) pp Y (va_up car (pp + 1) (tC (ageC (car (pp + 1)) q) w l)) := by
        refine ⟨by rw [va_up_self, va_up_self]; exact R2, fun h => by rw [va_up_self, va_up_self]; exact pgA_tk (A1 h) (by omega) p10 hw3 (by omega), by rw [← hT, Yk 3 (by decide) (by decide), X3]; rfl, by rw [← hT, Y4]; rfl, Y7.trans T25.symm, (Yk 8 (by decide) (by decide)).trans (X8.trans T26.symm), fun j hj => ?_⟩
        rw [FT 38 (by decide), m_fr_c (va_up_ne _ _ (by decide)) (va_up_ne _ _ (by decide)) (va_up_ne _ _ (by decide)), FY 736 8 (by decide), ← FX 736 8 (by decide)]
        exact fr2 j hj
      have hw2 : hWn o0 d57 T (va_up ar 13 (tP (ageP (ar 13) q) w l)) Y := by
        refine hW_4 hw (fun k hk => ?_) Y4 ((Yk 5 (by decide) (by decide)).trans X5) ((Yk 6 (by decide) (by decide)).trans X6) (FT 29 (by decide)) (by rw [← hT]; rfl) (fun b hb => va_up_ne _ _ hb)
        rw [e20]
        exact bt_16 (by omega) hk (by omega)
      have hv : cb = true → ageC (car (pp + 1)) q (35 + 3 * l) = ageP (ar 13) q (38 + 3 * l) := fun h => by
        have := (A1 h).1 l 0 (by omega) (by decide) (by rw [p10, iN_nI (by omega)]; omega)
        exact this
      rcases hy0 with rfl | rfl
      · rw [if_pos rfl] at er
        rw [if_neg (show ¬ (1 : Int32) - 0 = 0 by decide), h_norun, ob4] at ec
        have f9 : hFs Y (j_u2 Y 757 9 0) := hFs_u (by decide) (hFs_rf Y)
        exact ⟨_, _, T, _, _, _, er, ec, hv, hI_s hi (fun _ _ _ _ => rfl) (rowF_rf _) f9 (u2_nk (by decide)) (by rw [u2_nk (by decide)]; exact hi.2.2.2.1) hi.1 hi.2.1, hW_s hw2 rfl rfl rfl rfl rfl (u2_nk (by decide)) (u2_nk (by decide)) (fun k _ => by rw [u2_nk (by decide)]), hF7_tr FY (hF7_s f9), fA _, FT, rowG_va⟩
      · rw [if_neg (by decide)] at er
        rw [if_pos (show (1 : Int32) - 1 = 0 by decide)] at ec
        obtain ⟨S9, ar9, sc9, car9, r1, r2, r3, r4, r5, r6, r7, r8⟩ := h_run (mr := mr) (al := al) (e := 13 + l) (gRf_f s1 rowF_va) (gCl_f hpp s2 FY (fA _)) s3 s4 hpp (by rw [FT 16 (by decide)]; exact s5) (by rw [FT 38 (by decide)]; exact hm6) (by omega) hi hw2
        rw [en] at r2
        rw [r1, ob2] at er
        rw [r2, ob4] at ec
        exact ⟨_, _, S9, ar9, sc9, car9, er, ec, hv, r3, r4, hF7_tr FY (hF7_s r5), hFa_tr (fA _) r6, rF7_tr FT (rF7_r r7), rowG_tr rowG_va r8 (FT 29 (by decide))⟩
  · -- a press
    rw [if_neg (fun z => k8 (l8.mp z))] at er ec
    have e1 : (1 : Int32) + nI c = nI (1 + c) := nI_add 1 c
    have e8b : (8 : Int32) + nI c = nI (8 + c) := nI_add 8 c
    rw [s4, if_pos s2.1, e1, if_pos (iB_nI (by omega) (by decide)), iN_nI (by omega), en] at ec
    unfold rF_52_100 at er
    rw [if_neg (fun z => absurd (e8.mp z) (by omega)), if_pos (g8.mpr (by omega)), if_neg (by decide), e1] at er
    generalize hT : upd (upd (upd (upd S 26 x) 25 (0 : Int32)) 27 ((1 : Int32) <<< ((8 + nI c) &&& 31))) 28 (0 : Int32) = T at er
    have T25 : T 25 = 0 := by rw [← hT]; rfl
    have T26 : T 26 = x := by rw [← hT]; rfl
    have FT : rF7 S T := by rw [← hT]; exact rF7_u (by decide) (rF7_u (by decide) (rF7_u (by decide) (rF7_u (by decide) (fun _ _ => rfl))))
    generalize hY : j_u2 X 757 3 ((1 : Int32) <<< ((8 + nI c) &&& 31)) = Y at ec
    have Yk : ∀ k, k ≠ 3 → Y 757 k = X 757 k := fun k a => by rw [← hY, u2_nk a]
    have FY : hF7 sc Y := by rw [← hY]; exact hF7_u (by decide) FX
    have hi : hI cb 0 0 T (va_up ar 13 (ageP (ar 13) q)) pp Y (va_up car (pp + 1) (ageC (car (pp + 1)) q)) := by
      refine ⟨by rw [va_up_self, va_up_self]; exact R1, fun h => by rw [va_up_self, va_up_self]; exact A1 h, ?_, by rw [← hT, Yk 4 (by decide), X4]; rfl, (Yk 7 (by decide)).trans (X7.trans T25.symm), (Yk 8 (by decide)).trans (X8.trans T26.symm), fun j hj => ?_⟩
      · rw [← hT, ← hY, u2_eq]
        show (1 : Int32) <<< ((8 + nI c) &&& 31) = 0 ||| _
        rw [Int32.zero_or]
      · rw [FT 38 (by decide), m_fr_c (va_up_ne _ _ (by decide)) (va_up_ne _ _ (by decide)) (va_up_ne _ _ (by decide)), FY 736 8 (by decide), ← FX 736 8 (by decide)]
        exact fr2 j hj
    have hw2 : hWn o0 d57 T (va_up ar 13 (ageP (ar 13) q)) Y := hW_4 hw (fun k hk => b_0 _) ((Yk 4 (by decide)).trans X4) ((Yk 5 (by decide)).trans X5) ((Yk 6 (by decide)).trans X6) (FT 29 (by decide)) (by rw [← hT]; rfl) (fun b hb => va_up_ne _ _ hb)
    obtain ⟨S9, ar9, sc9, car9, r1, r2, r3, r4, r5, r6, r7, r8⟩ := h_run (mr := mr) (al := al) (e := 1 + c) (gRf_f s1 rowF_va) (gCl_f hpp s2 FY (fA _)) s3 s4 hpp (by rw [FT 16 (by decide)]; exact s5) (by rw [FT 38 (by decide)]; exact hm6) (by omega) hi hw2
    rw [en] at r2
    rw [r1, ob2] at er
    rw [r2, ob4] at ec
    exact ⟨_, _, S9, ar9, sc9, car9, er, ec, fun _ => rfl, r3, r4, hF7_tr FY (hF7_s r5), hFa_tr (fA _) r6, rF7_tr FT (rF7_r r7), rowG_tr rowG_va r8 (FT 29 (by decide))⟩
end HP
