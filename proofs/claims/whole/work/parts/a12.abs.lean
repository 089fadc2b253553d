/-! PAGES as they are alike: what a happening makes of them, the same on both sides. -/
def c38 (P : Nat → Int32) : Nat → Int32 := fun k => if k < 38 then P k else 0
theorem c38_k {P : Nat → Int32} {k : Nat} (h : k < 38) : c38 P k = P k := if_pos h
theorem c38_2 {P : Nat → Int32} : c38 (c38 P) = c38 P := by
  funext k
  unfold c38
  split <;> rfl
theorem c38_e {P Q : Nat → Int32} (h : ∀ k, k < 38 → P k = Q k) : c38 P = c38 Q := by
  funext k
  unfold c38
  split
  · rename_i hk; exact h k hk
  · rfl
theorem c38_i {P Q : Nat → Int32} {k : Nat} (h : c38 P = c38 Q) (hk : k < 38) : P k = Q k := by
  have := congrFun h k
  rw [c38_k hk, c38_k hk] at this
  exact this
theorem pgR_P {P Q C : Nat → Int32} (h : pgR P C) (e : ∀ k, k < 38 → Q k = P k) : pgR Q C := by
  obtain ⟨h1, h2, ⟨h3, h3b⟩, h4, h5, h5b⟩ := h
  refine ⟨fun k hk => ?_, fun k hk => ?_, ⟨fun l hl => ?_, ?_⟩, ?_, fun l k hl hk => ?_, fun k hk => ?_⟩
  · have a := ix_c k hk
    rw [e _ (by omega)]; exact h1 k hk
  · rw [e _ (by omega), e _ (by omega)]; exact h2 k hk
  · rw [e _ (by omega)]; exact h3 l hl
  · rw [e _ (by omega)]; exact h3b
  · rw [e _ (by omega)]; exact h4
  · rw [e _ (by omega), e _ (by omega)]; exact h5 l k hl hk
  · rw [e _ (by omega), e _ (by omega), e _ (by omega)]; exact h5b k hk
theorem pgR_38 {P C : Nat → Int32} (h : pgR P C) : pgR (c38 P) C := pgR_P h (fun _ hk => c38_k hk)
theorem pgR_38' {P C : Nat → Int32} (h : pgR (c38 P) C) : pgR P C := pgR_P h (fun _ hk => (c38_k hk).symm)
theorem pgR_C {P C D : Nat → Int32} (h : pgR P C) (e : ∀ k, k < 35 → D k = C k) : pgR P D := by
  obtain ⟨h1, h2, h3⟩ := h
  refine ⟨fun k hk => ?_, fun k hk => ?_, h3⟩
  · rw [e _ (by omega)]; exact h1 k hk
  · rw [e _ (by omega)]; exact h2 k hk
/-- one page of ClickOrders is like one page of the reference alone -/
theorem pgR_det {P Q C : Nat → Int32} (h : pgR P C) (h2 : pgR Q C) : c38 P = c38 Q := by
  refine c38_e (fun k hk => ?_)
  have go : ∀ j, j < 32 → ix j = k → P k = Q k := fun j hj e => by rw [← e, ← h.1 j hj, h2.1 j hj]
  have ck : ∀ j, j < 3 → P (27 + j) = Q (27 + j) ∧ P (30 + j) = Q (30 + j) := fun j hj => by
    obtain ⟨d, x, hd, hx, e1, e2, e3⟩ := h.2.1 j hj
    obtain ⟨d', x', hd', hx', e1', e2', e3'⟩ := h2.2.1 j hj
    have e : d * 1000 + x = d' * 1000 + x' := (nI_eq (by omega) (by omega)).mp (e1.symm.trans e1')
    rw [e2, e3, e2', e3', show d = d' by omega, show x = x' by omega]
    exact ⟨rfl, rfl⟩
  rcases (show k < 10 ∨ (10 ≤ k ∧ k < 14) ∨ (14 ≤ k ∧ k < 26) ∨ k = 26 ∨ (27 ≤ k ∧ k < 30) ∨ (30 ≤ k ∧ k < 33) ∨ (33 ≤ k ∧ k < 37) ∨ k = 37 by omega) with c | c | c | c | c | c | c | c
  · have a := ix_c k (by omega); exact go k (by omega) (by omega)
  · have a := ix_c (k + 5) (by omega); exact go (k + 5) (by omega) (by omega)
  · have a := ix_c (k + 6) (by omega); exact go (k + 6) (by omega) (by omega)
  · have a := ix_c 19 (by omega); exact go 19 (by omega) (by omega)
  · have r := (ck (k - 27) (by omega)).1
    rw [show 27 + (k - 27) = k by omega] at r
    exact r
  · have r := (ck (k - 30) (by omega)).2
    rw [show 30 + (k - 30) = k by omega] at r
    exact r
  · have a := ix_c (k - 23) (by omega); exact go (k - 23) (by omega) (by omega)
  · have a := ix_c 14 (by omega); exact go 14 (by omega) (by omega)
theorem pgR_det2 {P Q C D : Nat → Int32} (h : pgR P C) (h2 : pgR Q D) (e : c38 P = c38 Q) : ∀ k, k < 35 → C k = D k := by
  intro k hk
  by_cases c : k < 32
  · have a := ix_c k c
    rw [h.1 k c, h2.1 k c, c38_i e (by omega)]
  · obtain ⟨d, x, hd, hx, e1, e2, e3⟩ := h.2.1 (k - 32) (by omega)
    obtain ⟨d', x', hd', hx', e1', e2', e3'⟩ := h2.2.1 (k - 32) (by omega)
    rw [show 32 + (k - 32) = k by omega] at e1 e1'
    have a1 : d = d' := (nI_eq (by omega) (by omega)).mp (e2.symm.trans ((c38_i e (by omega)).trans e2'))
    have a2 : x = x' := (nI_eq (by omega) (by omega)).mp (e3.symm.trans ((c38_i e (by omega)).trans e3'))
    rw [e1, e1', a1, a2]
/-- a page that can be -/
def pW (P : Nat → Int32) : Prop := ∃ C, pgR P C
/-- rows and fields that say which program and which forms -/
def stA (ar ar2 : jSc) : Prop := ∀ b, ((b < 13 ∧ b ≠ 1 ∧ b ≠ 12) ∨ (102 ≤ b ∧ b ≤ 106)) → ar2 b = ar b
def stS (S S2 : Nat → Int32) : Prop := S2 16 = S 16 ∧ S2 38 = S 38 ∧ S2 29 = S 29
theorem stA_rf (ar : jSc) : stA ar ar := fun _ _ => rfl
theorem stA_tr {a b c : jSc} (h : stA a b) (h2 : stA b c) : stA a c := fun k w => (h2 k w).trans (h k w)
theorem stS_rf (S : Nat → Int32) : stS S S := ⟨rfl, rfl, rfl⟩
theorem stS_tr {a b c : Nat → Int32} (h : stS a b) (h2 : stS b c) : stS a c := ⟨h2.1.trans h.1, h2.2.1.trans h.2.1, h2.2.2.trans h.2.2⟩
theorem stA_13 {a b : jSc} (h : ∀ k, k ≠ 13 → b k = a k) : stA a b := fun k w => h k (by omega)
theorem stA_row {a b : jSc} (h : rowF a b) : stA a b := fun k w => h k (by simp; omega) (by simp; omega) (by simp; omega) (by simp; omega)
theorem stA_va {ar : jSc} {k : Nat} {Q : Nat → Int32} (h : 13 ≤ k ∧ (k < 102 ∨ 106 < k)) : stA ar (va_up ar k Q) := fun b w => va_up_ne _ _ (by omega)
theorem stS_7 {S S2 : Nat → Int32} (h : rF7 S S2) : stS S S2 := ⟨h 16 (by decide), h 38 (by decide), h 29 (by decide)⟩
/-- what a happening makes of a page; the page that was begun -/
def aSt (S0 : Nat → Int32) (ar0 : jSc) (P : Nat → Int32) (c : Nat) : Nat → Int32 := match rF_52 (nI c) (-1) S0 (va_up ar0 13 P) with
  | some (_, _, a) => c38 (a 13)
  | none => c38 P
def aB0 (S0 : Nat → Int32) (ar0 : jSc) : Nat → Int32 := match rF_49 S0 ar0 with
  | some (_, a) => c38 (a 13)
  | none => c38 (ar0 13)
section AB
variable {S S0 : Nat → Int32} {ar ar0 : jSc} {pp : Nat} {sc car : jSc} {mr : Nat → Nat} {al : jAl} {pr n p m : Nat} {tx : Nat → Int32} {g : pG} {P : Nat → Int32} {c : Nat}
theorem gRf_st {ar2 : jSc} (h : gRf pr n tx g ar) (r : stA ar ar2) : gRf pr n tx g ar2 := by
  obtain ⟨g1, g2, g3, g4, g5, g6, g7, g8, g9⟩ := h
  exact ⟨g1, g2, by rw [r 8 (by omega)]; exact g3, fun q hq => by rw [r _ (by omega)]; exact g4 q hq, g5, g6, fun e he => by rw [r _ (by omega)]; exact g7 e he, by rw [r 10 (by omega)]; exact g8, by rw [r 11 (by omega)]; exact g9⟩
theorem m_b1_c {ar2 : jSc} (r : stA ar ar2) {t l : Int32} : ∀ c i, m_b1 ar2 t l i c = m_b1 ar t l i c := by
  intro c
  induction c with
  | zero => intro i; rfl
  | succ c ih => intro i; rw [m_b1_s, m_b1_s, ih, r 106 (by omega), r 102 (by omega), r 103 (by omega), r 104 (by omega)]
theorem fR_st {ar2 : jSc} (h : fR m ar sc car) (r : stA ar ar2) : fR m ar2 sc car := by
  obtain ⟨f1, f2, f3, f4⟩ := h
  refine ⟨⟨f1.1, fun i hi => by rw [r 104 (by omega)]; exact f1.2 i hi⟩, fun l hl => ?_, fun l hl => ?_, fun t l ht hl => ?_⟩
  · rw [m_fr_c (r 106 (by omega)) (r 102 (by omega)) (r 104 (by omega))]; exact f2 l hl
  · rw [m_fr_c (r 106 (by omega)) (r 102 (by omega)) (r 104 (by omega))]; exact f3 l hl
  · rw [m_b1_c r]; exact f4 t l ht hl
theorem sR_st {S2 : Nat → Int32} {ar2 : jSc} (h : sR pr n tx g p m S ar sc car mr) (hS : stS S S2) (r : stA ar ar2) : sR pr n tx g p m S2 ar2 sc car mr := by
  obtain ⟨h1, h2, h3, h4, h5, h6, h7⟩ := h
  exact ⟨gRf_st h1 r, h2, h3, h4, hS.1.trans h5, hS.2.1.trans h6, fR_st h7 r⟩
theorem sR_cl {sc2 car2 : jSc} (hpp : 759 ≤ pp) (h : sR pr n tx g p m S ar sc car mr) (hF : hF7 sc sc2) (hA : hFa pp car car2) : sR pr n tx g p m S ar sc2 car2 mr := sR_f hpp h (fun _ _ => rfl) (rowF_rf ar) hF hA
theorem aCan_89 (h : aCan ar m P c = true) : (c = 8 → ¬ P 26 = 0) ∧ (8 < c → ¬ P (10 + (c - 9)) = 0) := by
  unfold aCan at h
  refine ⟨fun e => ?_, fun e => ?_⟩
  · rw [if_pos e] at h
    simpa using h
  · rw [if_neg (by omega), if_pos e] at h
    simpa using h
/-- a happening on ClickOrders' page pp -/
theorem c_step (hs : sR pr n tx g p m S0 ar0 sc car mr) (h29 : S0 29 = -1) (hpp : 759 ≤ pp) (h5 : sc 757 5 = 0) (hR : pgR P (car (pp + 1))) (hc : c < 13) (hcan : aCan ar0 m P c = true) :
    ∃ v sc2 car2, xF_209 pp (nI c) (-1) sc mr car al = some (v, sc2, mr, car2, al) ∧ pgR (aSt S0 ar0 P c) (car2 (pp + 1)) ∧ hF7 sc sc2 ∧ hFa pp car car2 ∧ sc2 757 5 = 0 := by
  have s' := sR_st hs (stS_rf S0) (stA_va (k := 13) (Q := P) (by omega))
  have hw : hWn (fun _ => false) (S0 57) S0 (va_up ar0 13 P) (j_u2 sc 757 4 0) := Or.inl ⟨h29, (u2_nk (by decide)).trans h5, rfl⟩
  obtain ⟨q1, q2⟩ := aCan_89 hcan
  obtain ⟨v, v2, S9, ar9, sc2, car2, e1, e2, -, e4, e5, e6, e7, e8, e9⟩ := h_hap (cb := false) (x := -1) (al := al) s' hpp hc (by rw [va_up_self]; exact hR) (fun h => by cases h) hw (by rw [va_up_self]; exact q1) (by rw [va_up_self]; exact q2)
  refine ⟨v2, sc2, car2, e2, ?_, e6, e7, ?_⟩
  · unfold aSt
    rw [e1]
    exact pgR_38 e4.1
  · rcases e5 with ⟨-, z, -⟩ | ⟨w, w1, w2, -⟩
    · exact z
    · rw [e8 29 (by decide), h29] at w2
      exact absurd w2.symm (nI_nm (by omega))
/-- a happening on the reference's page; sc, car: any ClickOrders of the same program and forms -/
theorem r_step (hs : sR pr n tx g p m S0 ar0 sc car mr) (h29 : S0 29 = -1) (hS : stS S0 S) (hA : stA ar0 ar) (hP : c38 (ar 13) = c38 P) (hW : pW P) (hc : c < 13) (hcan : aCan ar0 m P c = true) :
    ∃ v S9 ar9, rF_52 (nI c) (-1) S ar = some (v, S9, ar9) ∧ c38 (ar9 13) = aSt S0 ar0 P c ∧ rF7 S S9 ∧ (∀ b, b ≠ 13 → ar9 b = ar b) ∧ S9 57 = S 57 := by
  obtain ⟨C, hC⟩ := hW
  have fA : hFa 766 car (va_up car 767 C) := fun b _ h => va_up_ne _ _ h
  have fs : hF7 sc (j_u2 sc 757 5 0) := hF7_u (by decide) (fun _ _ _ => rfl)
  have hs2 := sR_cl (pp := 766) (by decide) hs fs fA
  have hR : pgR P ((va_up car 767 C) (766 + 1)) := by rw [va_up_self]; exact hC
  obtain ⟨v, sc2, car2, e1, e2, -, -, -⟩ := c_step (al := fun _ _ => 0) hs2 h29 (pp := 766) (by decide) u2_eq hR hc hcan
  have hR2 : pgR (ar 13) ((va_up car 767 C) (766 + 1)) := by rw [va_up_self]; exact pgR_P hC (fun k hk => c38_i hP hk)
  have h29' : S 29 = -1 := hS.2.2.trans h29
  have hw : hWn (fun _ => false) (S 57) S ar (j_u2 (j_u2 sc 757 5 0) 757 4 0) := Or.inl ⟨h29', (u2_nk (by decide)).trans u2_eq, rfl⟩
  obtain ⟨q1, q2⟩ := aCan_89 hcan
  obtain ⟨v3, v4, S9, ar9, sc3, car3, f1, f2, -, f4, f5, f6, f7, f8, f9⟩ := h_hap (cb := false) (x := -1) (al := fun _ _ => 0) (sR_st hs2 hS hA) (pp := 766) (by decide) hc hR2 (fun h => by cases h) hw (fun e => by rw [c38_i hP (by decide)]; exact q1 e) (fun e => by rw [c38_i hP (by omega)]; exact q2 e)
  rw [e1] at f2
  cases f2
  refine ⟨v3, S9, ar9, f1, ?_, f8, f9.2 h29', ?_⟩
  · have := pgR_det f4.1 e2
    rw [this]
    unfold aSt
    split <;> exact c38_2
  · rcases f5 with ⟨-, -, z⟩ | ⟨w, w1, w2, -⟩
    · exact z
    · rw [f8 29 (by decide), h29'] at w2
      exact absurd w2.symm (nI_nm (by omega))
theorem pW_st (hs : sR pr n tx g p m S0 ar0 sc car mr) (h29 : S0 29 = -1) (hW : pW P) (hc : c < 13) (hcan : aCan ar0 m P c = true) : pW (aSt S0 ar0 P c) := by
  obtain ⟨C, hC⟩ := hW
  have fA : hFa 766 car (va_up car 767 C) := fun b _ h => va_up_ne _ _ h
  have fs : hF7 sc (j_u2 sc 757 5 0) := hF7_u (by decide) (fun _ _ _ => rfl)
  have hR : pgR P ((va_up car 767 C) (766 + 1)) := by rw [va_up_self]; exact hC
  obtain ⟨v, sc2, car2, e1, e2, -, -, -⟩ := c_step (al := fun _ _ => 0) (sR_cl (pp := 766) (by decide) hs fs fA) h29 (pp := 766) (by decide) u2_eq hR hc hcan
  exact ⟨_, e2⟩
theorem m_ba_c {ar2 : jSc} {P2 : Nat → Int32} {t : Int32} (r : stA ar ar2) (hf : fG ar m) (e : ∀ k, k < 38 → P2 k = P k) : ∀ c i, i + c = m → m_ba ar2 t P2 i c = m_ba ar t P i c := by
  intro c
  induction c with
  | zero => intro i _; rfl
  | succ c ih =>
    intro i h
    obtain ⟨l, hl, el⟩ := hf.2 i (by omega)
    rw [m_ba_s, m_ba_s, ih (i + 1) (by omega), r 106 (by omega), r 102 (by omega), r 103 (by omega), r 104 (by omega), el, iN_nI (by omega), e _ (by omega)]
theorem aCan_c {ar2 : jSc} {P2 : Nat → Int32} (r : stA ar ar2) (hf : fG ar m) (e : ∀ k, k < 38 → P2 k = P k) (hc : c < 13) : aCan ar2 m P2 c = aCan ar m P c := by
  unfold aCan
  rw [e 26 (by omega), e 8 (by omega), e 9 (by omega), m_ba_c r hf e m 0 (by omega)]
  by_cases h : 8 < c
  · rw [e (10 + (c - 9)) (by omega)]
  · rw [if_neg h, if_neg h]
theorem r_canA (hs : sR pr n tx g p m S0 ar0 sc car mr) (hS : stS S0 S) (hA : stA ar0 ar) (hP : c38 (ar 13) = c38 P) (hW : pW P) (hc : c < 13) : rF_50 (nI c) S ar = some (if aCan ar0 m P c = true then 1 else 0, S, ar) := by
  obtain ⟨C, hC⟩ := hW
  have s' := sR_st hs hS hA
  have hf := s'.2.2.2.2.2.2.1
  rw [r_can s'.2.2.2.2.2.1 hf hc (pgR_P hC (fun k hk => c38_i hP hk)).2.2.1, aCan_c hA hs.2.2.2.2.2.2.1 (fun k hk => c38_i hP hk) hc]
theorem aBad_c {Q : Nat → Int32} (hs : sR pr n tx g p m S0 ar0 sc car mr) (hW : pW P) (e : c38 P = c38 Q) : aBad g P = aBad g Q := by
  obtain ⟨C, hC⟩ := hW
  have fA : hFa 766 car (va_up car 767 C) := fun b _ h => va_up_ne _ _ h
  have s' := sR_cl (sc2 := sc) (pp := 766) (by decide) hs (fun _ _ _ => rfl) fA
  have hR : pgR P ((va_up car 767 C) (766 + 1)) := by rw [va_up_self]; exact hC
  obtain ⟨a1, a2, e1, -, -⟩ := c_bad (al := fun _ _ => 0) s'.1 s'.2.1 s'.2.2.1 s'.2.2.2.1 (by decide) hR
  obtain ⟨b1, b2, e2, -, -⟩ := c_bad (al := fun _ _ => 0) s'.1 s'.2.1 s'.2.2.1 s'.2.2.2.1 (by decide) (pgR_P hR (fun k hk => (c38_i e hk).symm))
  rw [e1] at e2
  have e3 := congrArg (fun x => x.1) (Option.some.inj e2)
  simp only at e3
  rcases h1 : aBad g P with _ | _ <;> rcases h2 : aBad g Q with _ | _ <;> rw [h1, h2] at e3 <;> first | rfl | exact absurd e3 (by decide)
theorem aGd_c {Q : Nat → Int32} (hs : sR pr n tx g p m S0 ar0 sc car mr) (hW : pW P) (e : c38 P = c38 Q) : aGd g P = aGd g Q := by
  obtain ⟨C, hC⟩ := hW
  have fA : hFa 766 car (va_up car 767 C) := fun b _ h => va_up_ne _ _ h
  have s' := sR_cl (sc2 := sc) (pp := 766) (by decide) hs (fun _ _ _ => rfl) fA
  have hR : pgR P ((va_up car 767 C) (766 + 1)) := by rw [va_up_self]; exact hC
  obtain ⟨a1, a2, e1, -, -⟩ := c_good (al := fun _ _ => 0) s'.1 s'.2.1 s'.2.2.1 s'.2.2.2.1 (by decide) hR
  obtain ⟨b1, b2, e2, -, -⟩ := c_good (al := fun _ _ => 0) s'.1 s'.2.1 s'.2.2.1 s'.2.2.2.1 (by decide) (pgR_P hR (fun k hk => (c38_i e hk).symm))
  rw [e1] at e2
  have e3 := congrArg (fun x => x.1) (Option.some.inj e2)
  simp only at e3
  rcases h1 : aGd g P with _ | _ <;> rcases h2 : aGd g Q with _ | _ <;> rw [h1, h2] at e3 <;> first | rfl | exact absurd e3 (by decide)
theorem r_badA (hs : sR pr n tx g p m S0 ar0 sc car mr) (h29 : S0 29 = -1) (hS : stS S0 S) (hA : stA ar0 ar) (hP : c38 (ar 13) = c38 P) (hW : pW P) : ∃ S9, rF_57 S ar = some (if aBad g P = true then 1 else 0, S9, ar) ∧ rF8 S S9 := by
  have s' := sR_st hs hS hA
  obtain ⟨C, hC⟩ := hW
  have hR := pgR_P hC (fun k hk => c38_i hP hk)
  obtain ⟨S9, e1, e2⟩ := r_bad s'.1 s'.2.2.2.2.1 (Or.inl (hS.2.2.trans h29)) hR.2.2.1
  rw [aBad_c hs ⟨C, hR⟩ hP] at e1
  exact ⟨S9, e1, e2⟩
theorem r_goodA (hs : sR pr n tx g p m S0 ar0 sc car mr) (h29 : S0 29 = -1) (hS : stS S0 S) (hA : stA ar0 ar) (hP : c38 (ar 13) = c38 P) (hW : pW P) : ∃ S9, rF_47 (ar 11 pr) 1 S ar = some (if aGd g P = true then 1 else 0, S9, ar) ∧ rF8 S S9 := by
  have s' := sR_st hs hS hA
  obtain ⟨C, hC⟩ := hW
  have hR := pgR_P hC (fun k hk => c38_i hP hk)
  obtain ⟨S9, e1, e2⟩ := r_good s'.1 s'.2.2.2.2.1 (Or.inl (hS.2.2.trans h29))
  rw [aGd_c hs ⟨C, hR⟩ hP] at e1
  exact ⟨S9, e1, e2⟩
/-- the page begun, on both sides -/
theorem c_beg (hs : sR pr n tx g p m S0 ar0 sc car mr) (hpp : 759 ≤ pp) (h5 : sc 757 5 = 0) :
    ∃ sc2 car2, xF_207 pp sc mr car al = some (sc2, mr, car2, al) ∧ pgR (aB0 S0 ar0) (car2 (pp + 1)) ∧ hF7 sc sc2 ∧ hFa pp car car2 ∧ sc2 757 5 = 0 := by
  obtain ⟨S9, ar9, sc2, car2, e1, e2, e3, e4, e5, e6, e7, e8, e9, e10, e11⟩ := h_beg (al := al) hs hpp h5
  refine ⟨sc2, car2, e2, ?_, e8, e9, e6⟩
  unfold aB0
  rw [e1]
  exact pgR_38 e3
theorem r_beg (hs : sR pr n tx g p m S0 ar0 sc car mr) (hS : S 16 = S0 16 ∧ S 38 = S0 38) (hA : stA ar0 ar) :
    ∃ S9 ar9, rF_49 S ar = some (S9, ar9) ∧ c38 (ar9 13) = aB0 S0 ar0 ∧ S9 29 = -1 ∧ rF7 (upd S 29 (-1)) S9 ∧ (∀ b, b ≠ 13 → ar9 b = ar b) ∧ S9 57 = S 57 := by
  have fs : hF7 sc (j_u2 sc 757 5 0) := hF7_u (by decide) (fun _ _ _ => rfl)
  have hs2 := sR_cl (pp := 766) (by decide) hs fs (hFa_rf 766 car)
  have s' : sR pr n tx g p m S ar (j_u2 sc 757 5 0) car mr := by
    obtain ⟨h1, h2, h3, h4, h5, h6, h7⟩ := hs2
    exact ⟨gRf_st h1 hA, h2, h3, h4, hS.1.trans h5, hS.2.trans h6, fR_st h7 hA⟩
  obtain ⟨sc2, car2, e1, e2, -, -, -⟩ := c_beg (pp := 766) (al := fun _ _ => 0) hs2 (by decide) u2_eq
  obtain ⟨S9, ar9, sc3, car3, f1, f2, f3, f4, f5, f6, f7, f8, f9, f10, f11⟩ := h_beg (pp := 766) (al := fun _ _ => 0) s' (by decide) u2_eq
  rw [e1] at f2
  cases f2
  refine ⟨S9, ar9, f1, ?_, f5, f10, f11, f7⟩
  rw [pgR_det f3 e2]
  unfold aB0
  split <;> exact c38_2
theorem pW_B0 (hs : sR pr n tx g p m S0 ar0 sc car mr) : pW (aB0 S0 ar0) := by
  have fs : hF7 sc (j_u2 sc 757 5 0) := hF7_u (by decide) (fun _ _ _ => rfl)
  obtain ⟨sc2, car2, e1, e2, -, -, -⟩ := c_beg (pp := 766) (al := fun _ _ => 0) (sR_cl (pp := 766) (by decide) hs fs (hFa_rf 766 car)) (by decide) u2_eq
  exact ⟨_, e2⟩
end AB
