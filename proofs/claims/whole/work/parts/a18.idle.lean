/-! PRESSES WITHOUT A HANDLER; the state of ClickOrders' search. -/
def aIdl (g : pG) (c : Nat) : Bool := decide (c < 8) && (g.2.1 (1 + c)).isNone
section ID
variable {S S0 : Nat → Int32} {ar ar0 : jSc} {pp : Nat} {sc car : jSc} {mr : Nat → Nat} {al : jAl} {pr n p m : Nat} {tx : Nat → Int32} {g : pG} {P : Nat → Int32} {c : Nat}
theorem cE_at {e : Nat} (h : cE pr n tx g p m S0 ar0 sc car mr) (he : e < 17) : (g.2.1 e = none → car (p + 3) e = -1) ∧ (¬ g.2.1 e = none → ∃ k, k ≤ 600 ∧ car (p + 3) e = nI k) := by
  have c3 := h.1.2.1.2.2.1 e he
  refine ⟨fun z => ?_, fun z => ?_⟩
  · rw [c3, z]; rfl
  · rcases hx : g.2.1 e with _ | x
    · exact absurd hx z
    · obtain ⟨H, -, -, w3, -⟩ := h.1.2.2.1
      have := (w3 e x hx).2
      have l := h.1.1.2.2.2.2.2.1
      exact ⟨x.2, by omega, by rw [c3, hx]; rfl⟩
theorem c_idl (h : cE pr n tx g p m S0 ar0 sc car mr) (hc : c < 13) : xF_254 p (nI c) sc mr car al = some (if aIdl g c = true then 1 else 0, sc, mr, car, al) := by
  have l8 : (8 : Int32) ≤ nI c ↔ 8 ≤ c := nI_leI (by decide) (by omega)
  have e1 : (1 : Int32) + nI c = nI (1 + c) := nI_add 1 c
  unfold xF_254 aIdl
  by_cases z : 8 ≤ c
  · rw [if_pos (l8.mpr z), decide_eq_false (by omega), Bool.false_and, if_neg (by decide)]
  · rw [if_neg (fun w => z (l8.mp w)), e1, if_pos (iB_nI (by omega) (by decide)), iN_nI (by omega), decide_eq_true (by omega), Bool.true_and]
    obtain ⟨a1, a2⟩ := cE_at h (show 1 + c < 17 by omega)
    rcases hx : g.2.1 (1 + c) with _ | x
    · rw [a1 hx, if_neg (by decide)]
      rfl
    · obtain ⟨k, k1, k2⟩ := a2 (by rw [hx]; exact fun w => by cases w)
      have p0 : (0 : Int32) ≤ nI k := (nI_leI (a := 0) (b := k) (by decide) (by omega)).mpr (Nat.zero_le _)
      rw [k2, if_pos p0]
      rfl
theorem aIdl_i (h : aIdl g c = true) : c < 8 ∧ g.2.1 (1 + c) = none := by
  unfold aIdl at h
  rw [Bool.and_eq_true, decide_eq_true_iff, Option.isNone_iff_eq_none] at h
  exact h
theorem c_idst {q : Nat} (h : cE pr n tx g p m S0 ar0 sc car mr) (hi : aIdl g c = true) (hR : pgR P (car (pp + 1))) (hpp : 759 ≤ pp) (hq : q ≤ 3) (h26 : P 26 = nI q) : ∃ sc2, xF_209 pp (nI c) (-1) sc mr car al = some (-1, sc2, mr, va_up car (pp + 1) (ageC (car (pp + 1)) q), al) := by
  obtain ⟨c8, hx⟩ := aIdl_i hi
  have l8 : (8 : Int32) ≤ nI c ↔ 8 ≤ c := nI_leI (by decide) (by omega)
  have e1 : (1 : Int32) + nI c = nI (1 + c) := nI_add 1 c
  have c19 : car (pp + 1) 19 = nI q := (hR.1 19 (by decide)).trans h26
  have hp := x_pr_ne h.1.2.1.1
  unfold xF_209 xF_212
  rw [ob4, c_soon (P := P) (n := q) hR hq h26, ob5, c_age hq c19, ob4, if_neg (fun w => absurd (l8.mp w) (by omega)), h.1.2.2.2.1, if_pos h.1.2.1.1, e1, if_pos (iB_nI (by omega) (by decide)), iN_nI (by omega), va_up_ne _ _ (show p + 3 ≠ pp + 1 by omega), (cE_at h (show 1 + c < 17 by omega)).1 hx, h_norun, ob4]
  exact ⟨_, rfl⟩
theorem aSt_idl {c2 : Nat} (h : cE pr n tx g p m S0 ar0 sc car mr) (hW : pW P) (hi : aIdl g c = true) (hi2 : aIdl g c2 = true) (hc : aCan ar0 m P c = true) (hc2 : aCan ar0 m P c2 = true) : aSt S0 ar0 P c = aSt S0 ar0 P c2 := by
  obtain ⟨C, hC⟩ := hW
  have hE := cE_H (pp := 766) (by decide) h (show cH 766 sc car sc (va_up car 767 C) from ⟨fun _ _ _ => rfl, fun b _ hb => va_up_ne _ _ hb, h.2.2⟩)
  have hR : pgR P ((va_up car 767 C) (766 + 1)) := by rw [va_up_self]; exact hC
  obtain ⟨q, q3, eq⟩ := hC.2.2.1.2
  obtain ⟨v1, a1, b1, e1, r1, -⟩ := cE_step (al := fun _ _ => 0) (pp := 766) hE (by decide) hR (by have := (aIdl_i hi).1; omega) hc
  obtain ⟨v2, a2, b2, e2, r2, -⟩ := cE_step (al := fun _ _ => 0) (pp := 766) hE (by decide) hR (by have := (aIdl_i hi2).1; omega) hc2
  obtain ⟨x1, d1⟩ := c_idst (al := fun _ _ => 0) (pp := 766) hE hi hR (by decide) q3 eq
  obtain ⟨x2, d2⟩ := c_idst (al := fun _ _ => 0) (pp := 766) hE hi2 hR (by decide) q3 eq
  rw [d1] at e1
  rw [d2] at e2
  cases e1
  cases e2
  rw [← c38_t (S0 := S0) (ar0 := ar0) (P := P) (c := c), ← c38_t (S0 := S0) (ar0 := ar0) (P := P) (c := c2)]
  exact pgR_det r1 r2
theorem aSt_still (h : cE pr n tx g p m S0 ar0 sc car mr) (hW : pW P) (h38 : c38 P = P) (hi : aIdl g c = true) (hc : aCan ar0 m P c = true) (h26 : P 26 = 0) : aSt S0 ar0 P c = P := by
  obtain ⟨C, hC⟩ := hW
  have hE := cE_H (pp := 766) (by decide) h (show cH 766 sc car sc (va_up car 767 C) from ⟨fun _ _ _ => rfl, fun b _ hb => va_up_ne _ _ hb, h.2.2⟩)
  have hR : pgR P ((va_up car 767 C) (766 + 1)) := by rw [va_up_self]; exact hC
  obtain ⟨v1, a1, b1, e1, r1, -⟩ := cE_step (al := fun _ _ => 0) (pp := 766) hE (by decide) hR (by have := (aIdl_i hi).1; omega) hc
  obtain ⟨x1, d1⟩ := c_idst (q := 0) (al := fun _ _ => 0) (pp := 766) hE hi hR (by decide) (by omega) h26
  rw [d1] at e1
  cases e1
  have : ageC ((va_up car 767 C) (766 + 1)) 0 = (va_up car 767 C) (766 + 1) := by
    funext i
    exact ageC_o (by omega)
  rw [this, va_up_self] at r1
  rw [← c38_t (S0 := S0) (ar0 := ar0) (P := P) (c := c), ← h38]
  rw [va_up_self] at r1
  rw [h38]
  exact (pgR_det r1 hC).trans h38 |>.trans rfl
end ID
/-- where a code leads, as it is kept -/
def nxE (cn : (Nat → Int32) → Nat → Bool) (st : (Nat → Int32) → Nat → Nat → Int32) (L : List (Nat → Int32)) (k : Nat) (P : Nat → Int32) (car : jSc) (c : Nat) : Prop := (cn P c = true → (∃ j, L[j]? = some (st P c) ∧ car 791 (k * 13 + c) = nI j) ∨ car 791 (k * 13 + c) = -2) ∧ (¬ cn P c = true → car 791 (k * 13 + c) = -1)
def fi1 (o : Option Nat) : Int32 := match o with
  | none => -1
  | some i => nI i
/-- the search of ClickOrders stands so -/
def cBs (cn : (Nat → Int32) → Nat → Bool) (st : (Nat → Int32) → Nat → Nat → Int32) (most : Nat) (wh : Bool) (s : bS) (sc car : jSc) : Prop := hM (s.1.map (fun e => e.1)) sc car ∧ s.1.length ≤ most ∧ most ≤ 600 ∧ (∀ i e, s.1[i]? = some e → car 789 i = e.2.1 ∧ car 790 i = e.2.2.1 ∧ pW e.1 ∧ (car 792 i = 0 ∨ (car 792 i = 1 ∧ ∀ c, c < 13 → nxE cn st (s.1.map (fun e => e.1)) i e.1 car c))) ∧ sc 773 13 = fi1 s.2.1 ∧ (∀ i, s.2.1 = some i → i < s.1.length) ∧ sc 773 1 = (if s.2.2 = true then 1 else 0) ∧ sc 773 14 = nI most ∧ sc 773 15 = if wh = true then 1 else 0
/-- what a search leaves -/
def uX (sc car sc2 car2 : jSc) : Prop := (∀ a k, ¬ (a = 757 ∧ 3 ≤ k ∧ k ≤ 9) → ¬ (a = 773 ∧ (k = 1 ∨ k = 13)) → ¬ (a = 774 ∧ (k = 0 ∨ k = 4 ∨ k = 5)) → sc2 a k = sc a k) ∧ (∀ b, b ≠ 758 → ¬ (775 ≤ b ∧ b ≤ 792) → car2 b = car b) ∧ sc2 757 5 = 0
theorem uX_tr {a b a2 b2 a3 b3 : jSc} (h : uX a b a2 b2) (h2 : uX a2 b2 a3 b3) : uX a b a3 b3 := ⟨fun x k u v w => (h2.1 x k u v w).trans (h.1 x k u v w), fun x u v => (h2.2.1 x u v).trans (h.2.1 x u v), h2.2.2⟩
theorem uX_H {pp : Nat} {a b a2 b2 : jSc} (hp : 774 ≤ pp ∧ pp ≤ 791) (h : cH pp a b a2 b2) : uX a b a2 b2 := ⟨fun x k u _ _ => h.1 x k u, fun x u v => h.2.1 x u (by omega), h.2.2⟩
theorem uX_sk {a b a2 : jSc} (h5 : a 757 5 = 0) (h : sk a a2) : uX a b a2 b := ⟨fun x k _ _ w => h x k (fun z => w ⟨z.1, Or.inr z.2⟩), fun _ _ _ => rfl, (h 757 5 (by decide)).trans h5⟩
section CB
variable {S0 : Nat → Int32} {ar0 : jSc} {sc car : jSc} {mr : Nat → Nat} {al : jAl} {pr n p m : Nat} {tx : Nat → Int32} {g : pG} {cn : (Nat → Int32) → Nat → Bool} {st : (Nat → Int32) → Nat → Nat → Int32} {most : Nat} {wh : Bool} {s : bS}
theorem cE_X {sc2 car2 : jSc} (h : cE pr n tx g p m S0 ar0 sc car mr) (k : uX sc car sc2 car2) : cE pr n tx g p m S0 ar0 sc2 car2 mr := cE_lo h (fun a ha => funext fun j => k.1 a j (by omega) (by omega) (by omega)) (fun b hb => k.2.1 b (by omega) (by omega)) (k.2.2.trans h.2.2.symm)
theorem uX_rf (h : cE pr n tx g p m S0 ar0 sc car mr) : uX sc car sc car := ⟨fun _ _ _ _ _ => rfl, fun _ _ _ => rfl, h.2.2⟩
theorem nxE_c {L L2 : List (Nat → Int32)} {k c : Nat} {P : Nat → Int32} {car2 : jSc} (h : nxE cn st L k P car c) (e : car2 791 (k * 13 + c) = car 791 (k * 13 + c)) (hl : ∀ (i : Nat) (Q : Nat → Int32), L[i]? = some Q → L2[i]? = some Q) : nxE cn st L2 k P car2 c := by
  unfold nxE
  rw [e]
  refine ⟨fun z => ?_, h.2⟩
  rcases h.1 z with ⟨j, j1, j2⟩ | w
  · exact Or.inl ⟨j, hl j _ j1, j2⟩
  · exact Or.inr w
/-- nothing of the search has changed -/
theorem cBs_c {sc2 car2 : jSc} (h : cBs cn st most wh s sc car) (e1 : sc2 774 0 = sc 774 0) (e2 : ∀ k, k = 1 ∨ k = 13 ∨ k = 14 ∨ k = 15 → sc2 773 k = sc 773 k) (e3 : ∀ b, (775 ≤ b ∧ b ≤ 777) ∨ (789 ≤ b ∧ b ≤ 792) → car2 b = car b) : cBs cn st most wh s sc2 car2 := by
  obtain ⟨h1, h2, h3, h4, h5, h6, h7, h8, h9⟩ := h
  refine ⟨hM_c h1 e1 (fun b u v => e3 b (by omega)), h2, h3, fun i e he => ?_, (e2 13 (by omega)).trans h5, h6, (e2 1 (by omega)).trans h7, (e2 14 (by omega)).trans h8, (e2 15 (by omega)).trans h9⟩
  obtain ⟨a1, a2, a3, a4⟩ := h4 i e he
  rw [e3 789 (by omega), e3 790 (by omega), e3 792 (by omega)]
  refine ⟨a1, a2, a3, ?_⟩
  rcases a4 with z | ⟨z, w⟩
  · exact Or.inl z
  · exact Or.inr ⟨z, fun c hc => nxE_c (w c hc) (by rw [e3 791 (by omega)]) (fun _ _ x => x)⟩
theorem cBs_H {pp : Nat} {sc2 car2 : jSc} (hp : 777 ≤ pp ∧ pp ≤ 787) (h : cBs cn st most wh s sc car) (k : cH pp sc car sc2 car2) : cBs cn st most wh s sc2 car2 := cBs_c h (k.1 774 0 (by decide)) (fun j _ => k.1 773 j (by omega)) (fun b hb => k.2.1 b (by omega) (by omega))
theorem c_over (h : cBs cn st most wh s sc car) : xF_291 sc mr car al = some (if bOv wh s = true then 1 else 0, sc, mr, car, al) := by
  obtain ⟨h1, h2, h3, h4, h5, h6, h7, h8, h9⟩ := h
  unfold xF_291 bOv
  obtain ⟨E, o, b⟩ := s
  rw [h7, h5, h9]
  rcases b with _ | _
  · rw [if_pos (show (if false = true then (1 : Int32) else 0) = 0 by decide)]
    rcases o with _ | i
    · rw [if_pos (show fi1 none < 0 by decide)]
      rcases wh with _ | _ <;> rfl
    · have := h6 i rfl
      have h2' : E.length ≤ most := h2
      have p0 : ¬ fi1 (some i) < 0 := nI_pos (by simp only at this; omega)
      rw [if_neg (show ¬ fi1 ((E, some i, false) : bS).2.1 < 0 from p0)]
      rcases wh with _ | _ <;> rfl
  · rw [if_neg (show ¬ (if true = true then (1 : Int32) else 0) = 0 by decide)]
    rfl
/-- one more is met -/
theorem c_addM {Q : Nat → Int32} {x1 x2 : Int32} {d : Nat} (h : cBs cn st most wh s sc car) (h5 : sc 757 5 = 0) (hR : pgR Q (car 781)) (h38 : c38 Q = Q) (hn : hNw (s.1.map (fun e => e.1)) Q (car 781) sc car) :
    (s.1.length = most → xF_294 x1 x2 sc mr car al = some (-1, j_u2 sc 773 1 1, mr, car, al)) ∧ (¬ s.1.length = most → ∃ sc2 car2, xF_294 x1 x2 sc mr car al = some (nI s.1.length, sc2, mr, car2, al) ∧ cBs cn st most wh (s.1 ++ [(Q, x1, x2, d)], s.2.1, s.2.2) sc2 car2 ∧ uX sc car sc2 car2 ∧ (∀ b, 778 ≤ b ∧ b ≤ 788 ∨ b = 791 → car2 b = car b) ∧ sc2 773 = sc 773 ∧ ∀ i, car2 792 i = if i = s.1.length then 0 else car 792 i) := by
  obtain ⟨h1, h2, h3, h4, h6, h6b, h7, h8, h9⟩ := h
  have hl : (s.1.map (fun e => e.1)).length = s.1.length := List.length_map ..
  have e0 : sc 774 0 = nI s.1.length := by rw [h1.1, hl]
  have lt : nI s.1.length < nI most ↔ s.1.length < most := nI_ltI (by omega) (by omega)
  refine ⟨fun z => ?_, fun z => ?_⟩
  · unfold xF_294
    rw [e0, h8, if_neg (fun w => absurd (lt.mp w) (by omega))]
  · obtain ⟨car2, a1, a2, a3⟩ := c_add (pp := 780) (mr := mr) (al := al) h1 h38 hR (by decide) hn (by omega)
    rw [hl] at a1 a2
    unfold xF_294
    rw [e0, h8, if_pos (lt.mpr (by omega)), a1, ob5, if_neg (nI_pos (by omega)), if_pos (iB_nI (show s.1.length < 600 by omega) (by decide)), if_pos (iB_nI (show s.1.length < 600 by omega) (by decide)), if_pos (iB_nI (show s.1.length < 2048 by omega) (by decide)), iN_nI (by omega)]
    generalize hA : j_u2 (j_u2 (j_u2 car2 789 s.1.length x1) 790 s.1.length x2) 792 s.1.length (0 : Int32) = A
    have ro : ∀ b, b ≠ 789 → b ≠ 790 → b ≠ 792 → A b = car2 b := fun b u v w => by rw [← hA, j_u2_row _ _ _ _ w, j_u2_row _ _ _ _ v, j_u2_row _ _ _ _ u]
    have r9 : ∀ i, A 789 i = if i = s.1.length then x1 else car 789 i := fun i => by
      rw [← hA, j_u2_row _ _ _ _ (by decide), j_u2_row _ _ _ _ (by decide)]
      by_cases c : i = s.1.length
      · rw [if_pos c, c, u2_eq]
      · rw [if_neg c, u2_nk c, a3 789 (by omega)]
    have r0 : ∀ i, A 790 i = if i = s.1.length then x2 else car 790 i := fun i => by
      rw [← hA, j_u2_row _ _ _ _ (by decide)]
      by_cases c : i = s.1.length
      · rw [if_pos c, c, u2_eq]
      · rw [if_neg c, u2_nk c, j_u2_row _ _ _ _ (by decide), a3 790 (by omega)]
    have r2 : ∀ i, A 792 i = if i = s.1.length then 0 else car 792 i := fun i => by
      rw [← hA]
      by_cases c : i = s.1.length
      · rw [if_pos c, c, u2_eq]
      · rw [if_neg c, u2_nk c, j_u2_row _ _ _ _ (by decide), j_u2_row _ _ _ _ (by decide), a3 792 (by omega)]
    have r1 : A 791 = car 791 := by rw [ro 791 (by decide) (by decide) (by decide), a3 791 (by omega)]
    refine ⟨_, A, rfl, ⟨?_, ?_, h3, fun i e he => ?_, ?_, ?_, ?_, ?_, ?_⟩, ⟨fun a k u v w => if_neg (fun z => w ⟨z.1, Or.inl z.2⟩), fun b u v => (ro b (by omega) (by omega) (by omega)).trans (a3 b (by omega)), (u2_na (by decide)).trans h5⟩, fun b hb => (ro b (by omega) (by omega) (by omega)).trans (a3 b (by omega)), j_u2_row _ _ _ _ (by decide), r2⟩
    · rw [List.map_append]
      exact hM_c a2 rfl (fun b u v => ro b (by omega) (by omega) (by omega))
    · show (s.1 ++ _).length ≤ most
      rw [List.length_append]; simp; omega
    · show A 789 i = _ ∧ _
      have he : (s.1 ++ [(Q, x1, x2, d)])[i]? = some e := he
      by_cases c : i < s.1.length
      · rw [List.getElem?_append_left c] at he
        obtain ⟨b1, b2, b3, b4⟩ := h4 i e he
        rw [r9, r0, r2, if_neg (by omega), if_neg (by omega), if_neg (by omega)]
        refine ⟨b1, b2, b3, ?_⟩
        rcases b4 with z' | ⟨z', w⟩
        · exact Or.inl z'
        · refine Or.inr ⟨z', fun c' hc' => nxE_c (w c' hc') (by rw [r1]) (fun i' Q' x => ?_)⟩
          have il := (List.getElem?_eq_some_iff.mp x).1
          rw [List.map_append, List.getElem?_append_left il]
          exact x
      · rw [List.getElem?_append_right (by omega)] at he
        have ci : i = s.1.length := by
          have := (List.getElem?_eq_some_iff.mp he).1
          simp at this
          omega
        subst ci
        simp at he
        subst he
        rw [r9, r0, r2, if_pos rfl, if_pos rfl, if_pos rfl]
        exact ⟨rfl, rfl, ⟨_, hR⟩, Or.inl rfl⟩
    · rw [u2_na (by decide)]; exact h6
    · intro i hi
      have := h6b i hi
      show i < (s.1 ++ _).length
      rw [List.length_append]; omega
    · rw [u2_na (by decide)]; exact h7
    · rw [u2_na (by decide)]; exact h8
    · rw [u2_na (by decide)]; exact h9
end CB
