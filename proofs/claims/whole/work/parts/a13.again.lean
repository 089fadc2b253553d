/-! HAPPENINGS one after the other, each that can come: on both sides. -/
theorem c38_c {P Q : Nat → Int32} (h : c38 P = Q) : c38 P = c38 Q := by rw [← h, c38_2]
def rN (ar ar9 : jSc) : Prop := ∀ b, b ≠ 13 → ar9 b = ar b
theorem rN_tr {a b c : jSc} (h : rN a b) (h2 : rN b c) : rN a c := fun k w => (h2 k w).trans (h k w)
/-- ClickOrders, the same program and forms as the reference's memory S0 ar0, no window -/
def cE (pr n : Nat) (tx : Nat → Int32) (g : pG) (p m : Nat) (S0 : Nat → Int32) (ar0 sc car : jSc) (mr : Nat → Nat) : Prop := sR pr n tx g p m S0 ar0 sc car mr ∧ S0 29 = -1 ∧ sc 757 5 = 0
/-- what happenings on page pp leave -/
def cH (pp : Nat) (sc car sc2 car2 : jSc) : Prop := hF7 sc sc2 ∧ hFa pp car car2 ∧ sc2 757 5 = 0
theorem cH_tr {pp : Nat} {a b a2 b2 a3 b3 : jSc} (h : cH pp a b a2 b2) (h2 : cH pp a2 b2 a3 b3) : cH pp a b a3 b3 := ⟨hF7_tr h.1 h2.1, hFa_tr h.2.1 h2.2.1, h2.2.2⟩
/-- the reference, the same program and forms, page P -/
def rW (S0 : Nat → Int32) (ar0 : jSc) (S : Nat → Int32) (ar : jSc) (P : Nat → Int32) : Prop := stS S0 S ∧ stA ar0 ar ∧ c38 (ar 13) = P ∧ pW P
def rH (S : Nat → Int32) (ar : jSc) (S9 : Nat → Int32) (ar9 : jSc) : Prop := rF8 S S9 ∧ rN ar ar9
theorem rH_rf (S : Nat → Int32) (ar : jSc) : rH S ar S ar := ⟨rF8_rf S, fun _ _ => rfl⟩
theorem rH_tr {a a2 a3 : Nat → Int32} {b b2 b3 : jSc} (h : rH a b a2 b2) (h2 : rH a2 b2 a3 b3) : rH a b a3 b3 := ⟨rF8_tr h.1 h2.1, rN_tr h.2 h2.2⟩
def aAg (S0 : Nat → Int32) (ar0 : jSc) (m : Nat) (P : Nat → Int32) (c : Nat) : Nat → Int32 := if aCan ar0 m P c = true then aSt S0 ar0 P c else P
def aRow (S0 : Nat → Int32) (ar0 : jSc) (m : Nat) (cs : List Nat) (P : Nat → Int32) : Nat → Int32 := cs.foldl (aAg S0 ar0 m) P
section AG
variable {S S0 : Nat → Int32} {ar ar0 : jSc} {pp : Nat} {sc car : jSc} {mr : Nat → Nat} {al : jAl} {pr n p m : Nat} {tx : Nat → Int32} {g : pG} {P : Nat → Int32} {c : Nat}
theorem sR_lo {sc2 car2 : jSc} (h : sR pr n tx g p m S ar sc car mr) (e1 : ∀ a, a < 757 → sc2 a = sc a) (e2 : ∀ b, b < 757 → car2 b = car b) : sR pr n tx g p m S ar sc2 car2 mr := by
  obtain ⟨h1, ⟨c1, ⟨c2, c2b⟩, c3, c4, c5⟩, h3, h4, h5, h6, h7, f2, f3, f4⟩ := h
  have hp := x_pr_ne c1
  refine ⟨h1, ⟨c1, ⟨by rw [e1 p (by omega)]; exact c2, fun i hi => by rw [e2 (p + 1) (by omega), e2 (p + 2) (by omega)]; exact c2b i hi⟩, fun e he => by rw [e2 (p + 3) (by omega)]; exact c3 e he, by rw [e1 p (by omega)]; exact c4, by rw [e1 p (by omega)]; exact c5⟩, h3, h4, h5, h6, h7, fun l hl => by rw [e1 736 (by decide)]; exact f2 l hl, fun l hl => by rw [e1 736 (by decide)]; exact f3 l hl, fun t l ht hl => by rw [e2 741 (by decide)]; exact f4 t l ht hl⟩
theorem cE_lo {sc2 car2 : jSc} (h : cE pr n tx g p m S0 ar0 sc car mr) (e1 : ∀ a, a < 757 → sc2 a = sc a) (e2 : ∀ b, b < 757 → car2 b = car b) (e3 : sc2 757 5 = sc 757 5) : cE pr n tx g p m S0 ar0 sc2 car2 mr := ⟨sR_lo h.1 e1 e2, h.2.1, e3.trans h.2.2⟩
theorem cE_H {sc2 car2 : jSc} (hpp : 759 ≤ pp) (h : cE pr n tx g p m S0 ar0 sc car mr) (k : cH pp sc car sc2 car2) : cE pr n tx g p m S0 ar0 sc2 car2 mr := ⟨sR_cl hpp h.1 k.1 k.2.1, h.2.1, k.2.2⟩
theorem cH_rf (h : cE pr n tx g p m S0 ar0 sc car mr) : cH pp sc car sc car := ⟨fun _ _ _ => rfl, hFa_rf pp car, h.2.2⟩
theorem cE_may (h : cE pr n tx g p m S0 ar0 sc car mr) (hR : pgR P (car (pp + 1))) (hc : c < 13) : xF_206 pp (nI c) sc mr car al = some (if aCan ar0 m P c = true then 1 else 0, sc, mr, car, al) := c_may h.1.2.2.2.2.2.2 hc hR
theorem cE_step (h : cE pr n tx g p m S0 ar0 sc car mr) (hpp : 759 ≤ pp) (hR : pgR P (car (pp + 1))) (hc : c < 13) (hcan : aCan ar0 m P c = true) :
    ∃ v sc2 car2, xF_209 pp (nI c) (-1) sc mr car al = some (v, sc2, mr, car2, al) ∧ pgR (aSt S0 ar0 P c) (car2 (pp + 1)) ∧ cH pp sc car sc2 car2 := by
  obtain ⟨v, sc2, car2, e1, e2, e3, e4, e5⟩ := c_step (al := al) h.1 h.2.1 hpp h.2.2 hR hc hcan
  exact ⟨v, sc2, car2, e1, e2, e3, e4, e5⟩
theorem hF7_3 {sc2 : jSc} (h : hF3 sc sc2) : hF7 sc sc2 := fun a k z => h.1 a k (fun y => z ⟨y.1, by omega⟩)
theorem cE_bad (h : cE pr n tx g p m S0 ar0 sc car mr) (hpp : 759 ≤ pp) (hR : pgR P (car (pp + 1))) :
    ∃ sc2 car2, xF_210 pp sc mr car al = some (if aBad g P = true then 1 else 0, sc2, mr, car2, al) ∧ (∀ b, b ≠ 758 → car2 b = car b) ∧ cH pp sc car sc2 car2 := by
  obtain ⟨sc2, car2, e1, e2, e3⟩ := c_bad (al := al) h.1.1 h.1.2.1 h.1.2.2.1 h.1.2.2.2.1 hpp hR
  exact ⟨sc2, car2, e1, e3, hF7_3 e2, fun b h1 _ => e3 b h1, e2.2 h.2.2⟩
theorem cE_good (h : cE pr n tx g p m S0 ar0 sc car mr) (hpp : 759 ≤ pp) (hR : pgR P (car (pp + 1))) :
    ∃ sc2 car2, xF_211 pp sc mr car al = some (if aGd g P = true then 1 else 0, sc2, mr, car2, al) ∧ (∀ b, b ≠ 758 → car2 b = car b) ∧ cH pp sc car sc2 car2 := by
  obtain ⟨sc2, car2, e1, e2, e3⟩ := c_good (al := al) h.1.1 h.1.2.1 h.1.2.2.1 h.1.2.2.2.1 hpp hR
  exact ⟨sc2, car2, e1, e3, hF7_3 e2, fun b h1 _ => e3 b h1, e2.2 h.2.2⟩
theorem cE_beg (h : cE pr n tx g p m S0 ar0 sc car mr) (hpp : 759 ≤ pp) :
    ∃ sc2 car2, xF_207 pp sc mr car al = some (sc2, mr, car2, al) ∧ pgR (aB0 S0 ar0) (car2 (pp + 1)) ∧ cH pp sc car sc2 car2 := by
  obtain ⟨sc2, car2, e1, e2, e3, e4, e5⟩ := c_beg (al := al) h.1 hpp h.2.2
  exact ⟨sc2, car2, e1, e2, e3, e4, e5⟩
theorem rW_H {S9 : Nat → Int32} {ar9 : jSc} {Q : Nat → Int32} (h : rW S0 ar0 S ar P) (k : rH S ar S9 ar9) (e : c38 (ar9 13) = Q) (w : pW Q) : rW S0 ar0 S9 ar9 Q := ⟨stS_tr h.1 (stS_7 k.1.1), stA_tr h.2.1 (stA_13 k.2), e, w⟩
theorem rW_can (hE : cE pr n tx g p m S0 ar0 sc car mr) (h : rW S0 ar0 S ar P) (hc : c < 13) : rF_50 (nI c) S ar = some (if aCan ar0 m P c = true then 1 else 0, S, ar) := r_canA hE.1 h.1 h.2.1 (c38_c h.2.2.1) h.2.2.2 hc
theorem rW_step (hE : cE pr n tx g p m S0 ar0 sc car mr) (h : rW S0 ar0 S ar P) (hc : c < 13) (hcan : aCan ar0 m P c = true) : ∃ v S9 ar9, rF_52 (nI c) (-1) S ar = some (v, S9, ar9) ∧ rW S0 ar0 S9 ar9 (aSt S0 ar0 P c) ∧ rH S ar S9 ar9 := by
  obtain ⟨v, S9, ar9, e1, e2, e3, e4, e5⟩ := r_step hE.1 hE.2.1 h.1 h.2.1 (c38_c h.2.2.1) h.2.2.2 hc hcan
  exact ⟨v, S9, ar9, e1, rW_H h ⟨⟨e3, e5⟩, e4⟩ e2 (pW_st hE.1 hE.2.1 h.2.2.2 hc hcan), ⟨e3, e5⟩, e4⟩
theorem rW_bad (hE : cE pr n tx g p m S0 ar0 sc car mr) (h : rW S0 ar0 S ar P) : ∃ S9, rF_57 S ar = some (if aBad g P = true then 1 else 0, S9, ar) ∧ rW S0 ar0 S9 ar P ∧ rH S ar S9 ar := by
  obtain ⟨S9, e1, e2⟩ := r_badA hE.1 hE.2.1 h.1 h.2.1 (c38_c h.2.2.1) h.2.2.2
  exact ⟨S9, e1, rW_H h ⟨e2, fun _ _ => rfl⟩ h.2.2.1 h.2.2.2, e2, fun _ _ => rfl⟩
theorem rW_good (hE : cE pr n tx g p m S0 ar0 sc car mr) (h : rW S0 ar0 S ar P) : ∃ S9, rF_47 (ar 11 pr) 1 S ar = some (if aGd g P = true then 1 else 0, S9, ar) ∧ rW S0 ar0 S9 ar P ∧ rH S ar S9 ar := by
  obtain ⟨S9, e1, e2⟩ := r_goodA hE.1 hE.2.1 h.1 h.2.1 (c38_c h.2.2.1) h.2.2.2
  exact ⟨S9, e1, rW_H h ⟨e2, fun _ _ => rfl⟩ h.2.2.1 h.2.2.2, e2, fun _ _ => rfl⟩
theorem rW_beg (hE : cE pr n tx g p m S0 ar0 sc car mr) (hS : stS S0 S) (hA : stA ar0 ar) : ∃ S9 ar9, rF_49 S ar = some (S9, ar9) ∧ rW S0 ar0 S9 ar9 (aB0 S0 ar0) ∧ rH S ar S9 ar9 := by
  obtain ⟨S9, ar9, e1, e2, e3, e4, e5, e6⟩ := r_beg hE.1 ⟨hS.1, hS.2.1⟩ hA
  have u : upd S 29 (-1) = S := by
    funext k
    by_cases z : k = 29
    · subst z; rw [up_0]; exact (hS.2.2.trans hE.2.1).symm
    · rw [up_n z]
  rw [u] at e4
  exact ⟨S9, ar9, e1, ⟨stS_tr hS (stS_7 e4), stA_tr hA (stA_13 e5), e2, pW_B0 hE.1⟩, ⟨e4, e6⟩, e5⟩
theorem aAg_y (h : aCan ar0 m P c = true) : aAg S0 ar0 m P c = aSt S0 ar0 P c := if_pos h
theorem aAg_n (h : ¬ aCan ar0 m P c = true) : aAg S0 ar0 m P c = P := if_neg h
/-- it comes again, if it can -/
theorem rW_again (hE : cE pr n tx g p m S0 ar0 sc car mr) (h : rW S0 ar0 S ar P) (hc : c < 13) :
    ∃ S9 ar9, rF_79 (nI c) S ar = some (if aCan ar0 m P c = true then 1 else 0, S9, ar9) ∧ rW S0 ar0 S9 ar9 (aAg S0 ar0 m P c) ∧ rH S ar S9 ar9 := by
  unfold rF_79
  rw [rW_can hE h hc, ob3]
  by_cases z : aCan ar0 m P c = true
  · obtain ⟨v, S9, ar9, e1, e2, e3⟩ := rW_step hE h hc z
    rw [if_pos z, if_neg (by decide), e1, ob3, aAg_y z]
    exact ⟨S9, ar9, rfl, e2, e3⟩
  · rw [if_neg z, if_pos rfl, aAg_n z]
    exact ⟨S, ar, rfl, h, rH_rf S ar⟩
end AG
/-- the row holds the codes cs from b on -/
def rl (row : Nat → Int32) : Nat → List Nat → Prop
  | _, [] => True
  | b, c :: r => row b = nI c ∧ rl row (b + 1) r
theorem rl_app {row : Nat → Int32} : ∀ {a : List Nat} {b : Nat} {d : List Nat}, rl row b (a ++ d) ↔ rl row b a ∧ rl row (b + a.length) d
  | [], b, d => by simp [rl]
  | o :: r, b, d => by
    simp only [List.cons_append, rl, List.length_cons]
    rw [rl_app (a := r), show b + (r.length + 1) = b + 1 + r.length by omega, and_assoc]
theorem rl_c {row row2 : Nat → Int32} : ∀ {cs : List Nat} {b : Nat}, rl row b cs → (∀ i, b ≤ i → i < b + cs.length → row2 i = row i) → rl row2 b cs
  | [], _, _, _ => trivial
  | c :: r, b, h, e => by
    simp only [List.length_cons] at e
    exact ⟨(e b (by omega) (by omega)).trans h.1, rl_c h.2 (fun i h1 h2 => e i (by omega) (by omega))⟩
theorem rl_get {row : Nat → Int32} : ∀ {cs : List Nat} {b i : Nat} {c : Nat}, rl row b cs → cs[i]? = some c → row (b + i) = nI c
  | [], _, _, _, _, h => by simp at h
  | o :: r, b, 0, c, h, e => by
    simp at e
    subst e
    exact h.1
  | o :: r, b, i + 1, c, h, e => by
    have := rl_get (i := i) h.2 (by simpa using e)
    rw [show b + (i + 1) = b + 1 + i by omega]
    exact this
/-- the codes without that at w; the first stands at k -/
def er (w : Nat) : Nat → List Nat → List Nat
  | _, [] => []
  | k, c :: r => if k = w then er w (k + 1) r else c :: er w (k + 1) r
theorem er_id {w : Nat} : ∀ {cs : List Nat} {k : Nat}, (w < k ∨ k + cs.length ≤ w) → er w k cs = cs
  | [], _, _ => rfl
  | c :: r, k, h => by
    simp only [List.length_cons] at h
    unfold er
    rw [if_neg (by omega), er_id (by omega)]
theorem er_mid {a : List Nat} {c : Nat} {r : List Nat} : er a.length 0 (a ++ c :: r) = a ++ r := by
  have go : ∀ (a : List Nat) (k : Nat), er (k + a.length) k (a ++ c :: r) = a ++ r := by
    intro a
    induction a with
    | nil =>
      intro k
      show (if k = k + 0 then er (k + 0) (k + 1) r else c :: er (k + 0) (k + 1) r) = r
      rw [if_pos (Nat.add_zero k).symm]
      exact er_id (Or.inl (by omega))
    | cons x a ih =>
      intro k
      simp only [List.length_cons, List.cons_append]
      unfold er
      rw [if_neg (by omega), show k + (a.length + 1) = k + 1 + a.length by omega, ih (k + 1)]
  have := go a 0
  rw [Nat.zero_add] at this
  exact this
/-- the first that is refused -/
def aFr (S0 : Nat → Int32) (ar0 : jSc) (m : Nat) : Nat → List Nat → (Nat → Int32) → Int32
  | _, [], _ => -1
  | k, c :: r, P => if aCan ar0 m P c = true then aFr S0 ar0 m (k + 1) r (aSt S0 ar0 P c) else nI k
def aSp (S0 : Nat → Int32) (ar0 : jSc) (m : Nat) (g : pG) (cs : List Nat) : Bool := aBad g (aRow S0 ar0 m cs (aB0 S0 ar0))
section SP
variable {S0 : Nat → Int32} {ar0 : jSc} {pr n p m : Nat} {tx : Nat → Int32} {g : pG} {mr : Nat → Nat} {al : jAl} {sc car : jSc}
/-- the reference: does the told row spoil, without that at w? -/
theorem r_spgo (hE : cE pr n tx g p m S0 ar0 sc car mr) {x1 : Int32} {w : Nat} (hx : ∀ k, k < 40 → (nI k = x1 ↔ k = w)) : ∀ (cs : List Nat) (k nn : Nat) (S : Nat → Int32) (ar : jSc) (P : Nat → Int32), (∀ c ∈ cs, c < 13) → k + cs.length ≤ 40 → cs.length < nn → S 51 = nI (k + cs.length) → rl (ar 711) k cs → rW S0 ar0 S ar P →
    ∃ S9 ar9, rF_98_11 nn x1 (nI k) S ar = some (if aBad g (aRow S0 ar0 m (er w k cs) P) = true then 1 else 0, S9, ar9) ∧ rH S ar S9 ar9 := by
  intro cs
  induction cs with
  | nil =>
    intro k nn S ar P _ h1 h2 h3 _ hP
    obtain ⟨nn, rfl⟩ : ∃ i, nn = i + 1 := ⟨nn - 1, by simp at h2; omega⟩
    simp only [List.length_nil, Nat.add_zero] at h1 h3
    obtain ⟨S9, e1, e2, e3⟩ := rW_bad hE hP
    unfold rF_98_11
    rw [h3, if_pos ((nI_leI (by omega) (by omega)).mpr (Nat.le_refl _)), e1, ob3]
    refine ⟨S9, ar, ?_, e3⟩
    show (if (if aBad g P = true then (1 : Int32) else 0) = 0 ∨ (if aBad g P = true then (1 : Int32) else 0) = 1 then _ else none) = _
    by_cases z : aBad g P = true
    · rw [if_pos z, if_pos (Or.inr rfl), show aRow S0 ar0 m (er w k []) P = P from rfl, if_pos z]
    · rw [if_neg z, if_pos (Or.inl rfl), show aRow S0 ar0 m (er w k []) P = P from rfl, if_neg z]
  | cons c r ih =>
    intro k nn S ar P hc h1 h2 h3 hr hP
    simp only [List.length_cons] at h1 h2 h3
    obtain ⟨nn, rfl⟩ : ∃ i, nn = i + 1 := ⟨nn - 1, by omega⟩
    have l : nI (k + (r.length + 1)) ≤ nI k ↔ k + (r.length + 1) ≤ k := nI_leI (by omega) (by omega)
    unfold rF_98_11
    rw [h3, if_neg (fun z => absurd (l.mp z) (by omega)), nI_1]
    have h3' : S 51 = nI (k + 1 + r.length) := by rw [h3, show k + (r.length + 1) = k + 1 + r.length by omega]
    by_cases z : k = w
    · rw [if_pos ((hx k (by omega)).mpr z)]
      have e : er w k (c :: r) = er w (k + 1) r := by
        show (if k = w then _ else _) = _
        rw [if_pos z]
      rw [e]
      exact ih (k + 1) nn S ar P (fun x hx => hc x (List.mem_cons_of_mem _ hx)) (by omega) (by omega) h3' hr.2 hP
    · have e : er w k (c :: r) = c :: er w (k + 1) r := by
        show (if k = w then _ else _) = _
        rw [if_neg z]
      obtain ⟨S9, ar9, e1, e2, e3⟩ := rW_again hE hP (hc c List.mem_cons_self)
      rw [if_neg (fun y => z ((hx k (by omega)).mp y)), if_pos (iB_nI (by omega) (by decide)), iN_nI (by omega), hr.1, e1, ob3, e]
      obtain ⟨S8, ar8, f1, f2⟩ := ih (k + 1) nn S9 ar9 _ (fun x hx => hc x (List.mem_cons_of_mem _ hx)) (by omega) (by omega) ((e3.1.1 51 (by decide)).trans h3') (by rw [e3.2 711 (by decide)]; exact hr.2) e2
      exact ⟨S8, ar8, f1, rH_tr e3 f2⟩
theorem r_sp (hE : cE pr n tx g p m S0 ar0 sc car mr) (h16 : S0 16 = 0) {x1 : Int32} {w : Nat} (hx : ∀ k, k < 40 → (nI k = x1 ↔ k = w)) {cs : List Nat} {S : Nat → Int32} {ar : jSc} (hc : ∀ c ∈ cs, c < 13) (h1 : cs.length ≤ 40) (h3 : S 51 = nI cs.length) (hr : rl (ar 711) 0 cs) (hS : stS S0 S) (hA : stA ar0 ar) :
    ∃ S9 ar9, rF_98 x1 S ar = some (if aSp S0 ar0 m g (er w 0 cs) = true then 1 else 0, S9, ar9) ∧ rH S ar S9 ar9 := by
  have u : upd S 16 0 = S := by
    funext k
    by_cases z : k = 16
    · subst z; rw [up_0]; exact (hS.1.trans h16).symm
    · rw [up_n z]
  unfold rF_98
  rw [u]
  obtain ⟨S9, ar9, e1, e2, e3⟩ := rW_beg hE hS hA
  rw [e1, ob2]
  obtain ⟨S8, ar8, f1, f2⟩ := r_spgo hE hx cs 0 oF S9 ar9 _ hc (by omega) (by unfold oF; omega) (by rw [e3.1.1 51 (by decide), h3, Nat.zero_add]) (by rw [e3.2 711 (by decide)]; exact hr) e2
  exact ⟨S8, ar8, f1, rH_tr e3 f2⟩
/-- ClickOrders: the same -/
theorem c_spgo {x1 : Int32} {w : Nat} (hx : ∀ k, k < 40 → (nI k = x1 ↔ k = w)) : ∀ (cs : List Nat) (k nn : Nat) (sc car : jSc) (P : Nat → Int32), cE pr n tx g p m S0 ar0 sc car mr → (∀ c ∈ cs, c < 13) → k + cs.length ≤ 40 → cs.length < nn → sc 819 1 = nI (k + cs.length) → rl (car 820) k cs → pgR P (car 822) →
    ∃ sc2 car2, xF_282_13 nn x1 (nI k) sc mr car al = some (if aBad g (aRow S0 ar0 m (er w k cs) P) = true then 1 else 0, sc2, mr, car2, al) ∧ cH 821 sc car sc2 car2 := by
  intro cs
  induction cs with
  | nil =>
    intro k nn sc car P hE _ h1 h2 h3 _ hR
    obtain ⟨nn, rfl⟩ : ∃ i, nn = i + 1 := ⟨nn - 1, by simp at h2; omega⟩
    simp only [List.length_nil, Nat.add_zero] at h1 h3
    obtain ⟨sc2, car2, e1, -, e3⟩ := cE_bad (al := al) (pp := 821) hE (by decide) hR
    unfold xF_282_13
    rw [h3, if_pos ((nI_leI (by omega) (by omega)).mpr (Nat.le_refl _)), e1, ob5]
    refine ⟨sc2, car2, ?_, e3⟩
    show (if (if aBad g P = true then (1 : Int32) else 0) = 0 ∨ (if aBad g P = true then (1 : Int32) else 0) = 1 then _ else none) = _
    by_cases z : aBad g P = true
    · rw [if_pos z, if_pos (Or.inr rfl), show aRow S0 ar0 m (er w k []) P = P from rfl, if_pos z]
    · rw [if_neg z, if_pos (Or.inl rfl), show aRow S0 ar0 m (er w k []) P = P from rfl, if_neg z]
  | cons c r ih =>
    intro k nn sc car P hE hc h1 h2 h3 hr hR
    simp only [List.length_cons] at h1 h2 h3
    obtain ⟨nn, rfl⟩ : ∃ i, nn = i + 1 := ⟨nn - 1, by omega⟩
    have l : nI (k + (r.length + 1)) ≤ nI k ↔ k + (r.length + 1) ≤ k := nI_leI (by omega) (by omega)
    unfold xF_282_13
    rw [h3, if_neg (fun z => absurd (l.mp z) (by omega)), nI_1]
    have h3' : sc 819 1 = nI (k + 1 + r.length) := by rw [h3, show k + (r.length + 1) = k + 1 + r.length by omega]
    by_cases z : k = w
    · rw [if_pos ((hx k (by omega)).mpr z)]
      have e : er w k (c :: r) = er w (k + 1) r := by
        show (if k = w then _ else _) = _
        rw [if_pos z]
      rw [e]
      exact ih (k + 1) nn sc car P hE (fun x hx => hc x (List.mem_cons_of_mem _ hx)) (by omega) (by omega) h3' hr.2 hR
    · have e : er w k (c :: r) = c :: er w (k + 1) r := by
        show (if k = w then _ else _) = _
        rw [if_neg z]
      have c13 := hc c List.mem_cons_self
      rw [if_neg (fun y => z ((hx k (by omega)).mp y)), if_pos (iB_nI (by omega) (by decide)), iN_nI (by omega), hr.1, cE_may (pp := 821) hE hR c13, ob5, e]
      by_cases y : aCan ar0 m P c = true
      · obtain ⟨v, sc2, car2, e1, e2, e3⟩ := cE_step (al := al) (pp := 821) hE (by decide) hR c13 y
        rw [if_pos y, if_neg (by decide), if_pos (iB_nI (by omega) (by decide)), hr.1, e1, ob5]
        obtain ⟨sc8, car8, f1, f2⟩ := ih (k + 1) nn sc2 car2 _ (cE_H (by decide) hE e3) (fun x hx => hc x (List.mem_cons_of_mem _ hx)) (by omega) (by omega) ((e3.1 819 1 (by decide)).trans h3') (by rw [e3.2.1 820 (by decide) (by decide)]; exact hr.2) e2
        refine ⟨sc8, car8, ?_, cH_tr e3 f2⟩
        rw [f1]
        show _ = some (if aBad g (aRow S0 ar0 m (er w (k + 1) r) (aAg S0 ar0 m P c)) = true then _ else _, _)
        rw [aAg_y y]
      · rw [if_neg y, if_pos rfl]
        obtain ⟨sc8, car8, f1, f2⟩ := ih (k + 1) nn sc car _ hE (fun x hx => hc x (List.mem_cons_of_mem _ hx)) (by omega) (by omega) h3' hr.2 hR
        refine ⟨sc8, car8, ?_, f2⟩
        rw [f1]
        show _ = some (if aBad g (aRow S0 ar0 m (er w (k + 1) r) (aAg S0 ar0 m P c)) = true then _ else _, _)
        rw [aAg_n y]
theorem c_sp (hE : cE pr n tx g p m S0 ar0 sc car mr) {x1 : Int32} {w : Nat} (hx : ∀ k, k < 40 → (nI k = x1 ↔ k = w)) {cs : List Nat} (hc : ∀ c ∈ cs, c < 13) (h1 : cs.length ≤ 40) (h3 : sc 819 1 = nI cs.length) (hr : rl (car 820) 0 cs) :
    ∃ sc2 car2, xF_282 x1 sc mr car al = some (if aSp S0 ar0 m g (er w 0 cs) = true then 1 else 0, sc2, mr, car2, al) ∧ cH 821 sc car sc2 car2 := by
  unfold xF_282
  obtain ⟨sc9, car9, e1, e2, e3⟩ := cE_beg (al := al) (pp := 821) hE (by decide)
  rw [e1, ob4]
  obtain ⟨sc8, car8, f1, f2⟩ := c_spgo (al := al) hx cs 0 oF sc9 car9 _ (cE_H (by decide) hE e3) hc (by omega) (by unfold oF; omega) (by rw [e3.1 819 1 (by decide), h3, Nat.zero_add]) (by rw [e3.2.1 820 (by decide) (by decide)]; exact hr) e2
  exact ⟨sc8, car8, f1, cH_tr e3 f2⟩
/-- the record, on both sides -/
theorem r_rcgo (hE : cE pr n tx g p m S0 ar0 sc car mr) : ∀ (cs : List Nat) (k nn : Nat) (S : Nat → Int32) (ar : jSc) (P : Nat → Int32), (∀ c ∈ cs, c < 13) → k + cs.length ≤ 40 → cs.length < nn → S 51 = nI (k + cs.length) → rl (ar 711) k cs → rW S0 ar0 S ar P →
    ∃ S9 ar9, rF_97_16 nn (nI k) S ar = some (aFr S0 ar0 m k cs P, S9, ar9) ∧ rH S ar S9 ar9 := by
  intro cs
  induction cs with
  | nil =>
    intro k nn S ar P _ h1 h2 h3 _ hP
    obtain ⟨nn, rfl⟩ : ∃ i, nn = i + 1 := ⟨nn - 1, by simp at h2; omega⟩
    simp only [List.length_nil, Nat.add_zero] at h1 h3
    unfold rF_97_16
    rw [h3, if_pos ((nI_leI (by omega) (by omega)).mpr (Nat.le_refl _))]
    exact ⟨S, ar, rfl, rH_rf S ar⟩
  | cons c r ih =>
    intro k nn S ar P hc h1 h2 h3 hr hP
    simp only [List.length_cons] at h1 h2 h3
    obtain ⟨nn, rfl⟩ : ∃ i, nn = i + 1 := ⟨nn - 1, by omega⟩
    have l : nI (k + (r.length + 1)) ≤ nI k ↔ k + (r.length + 1) ≤ k := nI_leI (by omega) (by omega)
    have h3' : S 51 = nI (k + 1 + r.length) := by rw [h3, show k + (r.length + 1) = k + 1 + r.length by omega]
    obtain ⟨S9, ar9, e1, e2, e3⟩ := rW_again hE hP (hc c List.mem_cons_self)
    unfold rF_97_16
    rw [h3, if_neg (fun z => absurd (l.mp z) (by omega)), nI_1, if_pos (iB_nI (by omega) (by decide)), iN_nI (by omega), hr.1, e1, ob3]
    show ∃ _ _, _ = some (if aCan ar0 m P c = true then _ else _, _, _) ∧ _
    by_cases y : aCan ar0 m P c = true
    · rw [if_pos y, if_neg (by decide), if_pos y]
      rw [aAg_y y] at e2
      obtain ⟨S8, ar8, f1, f2⟩ := ih (k + 1) nn S9 ar9 _ (fun x hx => hc x (List.mem_cons_of_mem _ hx)) (by omega) (by omega) ((e3.1.1 51 (by decide)).trans h3') (by rw [e3.2 711 (by decide)]; exact hr.2) e2
      exact ⟨S8, ar8, f1, rH_tr e3 f2⟩
    · rw [if_neg y, if_pos rfl, if_neg y]
      exact ⟨S9, ar9, rfl, e3⟩
theorem c_rcgo : ∀ (cs : List Nat) (k nn : Nat) (sc car : jSc) (P : Nat → Int32), cE pr n tx g p m S0 ar0 sc car mr → (∀ c ∈ cs, c < 13) → k + cs.length ≤ 40 → cs.length < nn → sc 819 1 = nI (k + cs.length) → rl (car 820) k cs → pgR P (car 822) →
    ∃ sc2 car2, xF_278_13 nn (nI k) sc mr car al = some (aFr S0 ar0 m k cs P, sc2, mr, car2, al) ∧ cH 821 sc car sc2 car2 := by
  intro cs
  induction cs with
  | nil =>
    intro k nn sc car P hE _ h1 h2 h3 _ hR
    obtain ⟨nn, rfl⟩ : ∃ i, nn = i + 1 := ⟨nn - 1, by simp at h2; omega⟩
    simp only [List.length_nil, Nat.add_zero] at h1 h3
    unfold xF_278_13
    rw [h3, if_pos ((nI_leI (by omega) (by omega)).mpr (Nat.le_refl _))]
    exact ⟨sc, car, rfl, cH_rf hE⟩
  | cons c r ih =>
    intro k nn sc car P hE hc h1 h2 h3 hr hR
    simp only [List.length_cons] at h1 h2 h3
    obtain ⟨nn, rfl⟩ : ∃ i, nn = i + 1 := ⟨nn - 1, by omega⟩
    have l : nI (k + (r.length + 1)) ≤ nI k ↔ k + (r.length + 1) ≤ k := nI_leI (by omega) (by omega)
    have h3' : sc 819 1 = nI (k + 1 + r.length) := by rw [h3, show k + (r.length + 1) = k + 1 + r.length by omega]
    have c13 := hc c List.mem_cons_self
    unfold xF_278_13
    rw [h3, if_neg (fun z => absurd (l.mp z) (by omega)), nI_1, if_pos (iB_nI (by omega) (by decide)), iN_nI (by omega), hr.1, cE_may (pp := 821) hE hR c13, ob5]
    show ∃ _ _, _ = some (if aCan ar0 m P c = true then _ else _, _, _) ∧ _
    by_cases y : aCan ar0 m P c = true
    · obtain ⟨v, sc2, car2, e1, e2, e3⟩ := cE_step (al := al) (pp := 821) hE (by decide) hR c13 y
      rw [if_pos y, if_neg (by decide), if_pos (iB_nI (by omega) (by decide)), hr.1, e1, ob5, if_pos y]
      obtain ⟨sc8, car8, f1, f2⟩ := ih (k + 1) nn sc2 car2 _ (cE_H (by decide) hE e3) (fun x hx => hc x (List.mem_cons_of_mem _ hx)) (by omega) (by omega) ((e3.1 819 1 (by decide)).trans h3') (by rw [e3.2.1 820 (by decide) (by decide)]; exact hr.2) e2
      exact ⟨sc8, car8, f1, cH_tr e3 f2⟩
    · rw [if_neg y, if_pos rfl, if_neg y]
      exact ⟨sc, car, rfl, cH_rf hE⟩
end SP
