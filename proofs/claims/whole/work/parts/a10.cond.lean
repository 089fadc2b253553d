/-! CONDITIONS of a page: harm and place, on both sides. -/
/-- the stack behind the orders that think, from at_ on -/
def aCv (O : Nat → Nat × Int32) (P : Nat → Int32) : Nat → Nat → List Int32 → List Int32
  | 0, _, st => st
  | f + 1, at_, st => if (O at_).1 < 16 then aCv O P f (at_ + 1) (o_th P 0 st (O at_)) else st
theorem aCv_ev {O : Nat → Nat × Int32} {P : Nat → Int32} : ∀ (os : oL) (f at_ : Nat) (st : List Int32), o_va os → w_sg O at_ (os ++ [(16, 0)]) → os.length < f → aCv O P f at_ st = o_ev P 0 os st
  | [], f, at_, st, _, hs, hf => by
    obtain ⟨f, rfl⟩ : ∃ j, f = j + 1 := ⟨f - 1, by simp at hf; omega⟩
    unfold aCv
    rw [hs.1, if_neg (by decide)]
    rfl
  | o :: r, f, at_, st, hv, hs, hf => by
    simp only [List.length_cons] at hf
    obtain ⟨f, rfl⟩ : ∃ j, f = j + 1 := ⟨f - 1, by omega⟩
    unfold aCv
    have hs : O at_ = o ∧ w_sg O (at_ + 1) (r ++ [(16, 0)]) := hs
    rw [hs.1, if_pos (hv o List.mem_cons_self)]
    exact aCv_ev r f (at_ + 1) _ (fun x hx => hv x (List.mem_cons_of_mem _ hx)) hs.2 (by omega)
def aCnd (g : pG) (x : Nat × Nat) (P : Nat → Int32) : Bool := !decide ((aCv (oO g.1) P 700 x.2 []).headD 0 = 0)
/-- no answers wait -/
def q4 (P : Nat → Int32) : Bool := decide (P 10 = 0) && decide (P 11 = 0) && decide (P 12 = 0) && decide (P 13 = 0)
theorem q4_i {P : Nat → Int32} : q4 P = true ↔ ∀ l, l < 4 → P (10 + l) = 0 := by
  unfold q4
  simp only [Bool.and_eq_true, decide_eq_true_iff]
  constructor
  · rintro ⟨⟨⟨a, b⟩, c⟩, d⟩ l hl
    rcases (show l = 0 ∨ l = 1 ∨ l = 2 ∨ l = 3 by omega) with rfl | rfl | rfl | rfl <;> assumption
  · intro h
    exact ⟨⟨⟨h 0 (by decide), h 1 (by decide)⟩, h 2 (by decide)⟩, h 3 (by decide)⟩
theorem q4_n {P : Nat → Int32} (h : ¬ ∀ l, l < 4 → P (10 + l) = 0) : q4 P = false := by
  rcases e : q4 P with _ | _
  · rfl
  · exact absurd (q4_i.mp e) h
/-- harm, place -/
def aBad (g : pG) (P : Nat → Int32) : Bool := decide (P 37 = 1) || (q4 P && decide (P 26 = 0) && (match g.2.2.1 with | none => false | some x => aCnd g x P))
def aGd (g : pG) (P : Nat → Int32) : Bool := match g.2.2.2.1 with
  | none => true
  | some x => aCnd g x P
/-- fields that happenings without a window leave -/
def rF8 (S S9 : Nat → Int32) : Prop := rF7 S S9 ∧ S9 57 = S 57
theorem rF8_rf (S : Nat → Int32) : rF8 S S := ⟨fun _ _ => rfl, rfl⟩
theorem rF8_tr {a b c : Nat → Int32} (h : rF8 a b) (h2 : rF8 b c) : rF8 a c := ⟨rF7_tr h.1 h2.1, h2.2.trans h.2⟩
section CN
variable {S : Nat → Int32} {ar : jSc} {pp : Nat} {sc car : jSc} {mr : Nat → Nat} {al : jAl} {pr n p m : Nat} {tx : Nat → Int32} {g : pG} {P : Nat → Int32}
/-- the reference works a condition of the program -/
theorem r_cnd {x : Nat × Nat} {w : Int32} (hg : gRf pr n tx g ar) (h16 : S 16 = nI pr) (hw : S 29 = -1 ∨ S 29 = 0 ∨ S 29 = 1) (hx : g.2.2.1 = some x ∨ g.2.2.2.1 = some x) : ∃ S9, rF_47 (nI x.1) w S ar = some (if aCnd g x (ar 13) = true then 1 else 0, S9, ar) ∧ rF8 S S9 := by
  obtain ⟨g1, g2, g3, g4, g5, g6, g7, g8, g9⟩ := hg
  have hC : HC n tx (oO g.1) g.1.length x.1 x.2 := by
    rcases hx with hx | hx
    · exact HC_of (g5.2.1 x hx)
    · exact HC_of (g5.2.2 x hx)
  obtain ⟨S9, v, os, v1, e1, e2, e3, e4, e5, e6⟩ := r_holds (S := S) (ar := ar) (w := w) g1 h16 g3 g2 g4 hC hw
  have ev : aCv (oO g.1) (ar 13) 700 x.2 [] = [v] := (aCv_ev os 700 x.2 [] e2 e3 (by omega)).trans (e5 [])
  have b : aCnd g x (ar 13) = !decide (v = 0) := by unfold aCnd; rw [ev]; rfl
  refine ⟨S9, ?_, fun k hk => ?_, e6 57 rfl rfl rfl rfl rfl rfl rfl rfl rfl⟩
  · rw [e1, b]
    rcases v1 with rfl | rfl
    · rfl
    · rfl
  · have bb : ∀ j, k ≠ j → (k == j) = false := fun j hj => by simpa using hj
    exact e6 k (bb 3 (by omega)) (bb 4 (by omega)) (bb 5 (by omega)) (bb 6 (by omega)) (bb 7 (by omega)) (bb 17 (by omega)) (bb 22 (by omega)) (bb 23 (by omega)) (bb 25 (by omega))
theorem r_bad (hg : gRf pr n tx g ar) (h16 : S 16 = nI pr) (hw : S 29 = -1 ∨ S 29 = 0 ∨ S 29 = 1) (hP : pgC (ar 13)) : ∃ S9, rF_57 S ar = some (if aBad g (ar 13) = true then 1 else 0, S9, ar) ∧ rF8 S S9 := by
  have hg' := hg
  obtain ⟨g1, -, -, -, -, -, -, g8, -⟩ := hg
  have go : ∀ c j nn, j + c = 4 → c < nn → (∀ l, l < j → ar 13 (10 + l) = 0) → ∃ S9, rF_57_15 nn (nI j) S ar = some (if ((q4 (ar 13) && decide (ar 13 26 = 0) && (match g.2.2.1 with | none => false | some x => aCnd g x (ar 13))) = true) then 1 else 0, S9, ar) ∧ rF8 S S9 := by
    intro c
    induction c with
    | zero =>
      intro j nn h1 h2 h3
      obtain ⟨nn, rfl⟩ : ∃ i, nn = i + 1 := ⟨nn - 1, by omega⟩
      have : j = 4 := by omega
      subst this
      unfold rF_57_15
      rw [if_pos (by decide), q4_i.mpr h3]
      by_cases z : ar 13 26 = 0
      · rw [if_pos z, h16, if_pos (iB_nI g1 (by decide)), iN_nI (by omega), g8, decide_eq_true z]
        rcases hx : g.2.2.1 with _ | x
        · refine ⟨S, ?_, rF8_rf S⟩
          show o_b3 (rF_47 (-1) 0 S ar) _ = _
          unfold rF_47
          rw [if_pos rfl, if_pos (by decide), ob3, if_pos rfl]
          rfl
        · obtain ⟨S9, e1, e2⟩ := r_cnd (w := 0) hg' h16 hw (Or.inl hx)
          refine ⟨S9, ?_, e2⟩
          show o_b3 (rF_47 (nI x.1) 0 S ar) _ = _
          rw [e1, ob3]
          by_cases y : aCnd g x (ar 13) = true
          · rw [if_pos y, if_neg (by decide)]; simp [y]
          · rw [if_neg y, if_pos rfl]; simp [y]
      · rw [if_neg z]
        exact ⟨S, by simp [z], rF8_rf S⟩
    | succ c ih =>
      intro j nn h1 h2 h3
      obtain ⟨nn, rfl⟩ : ∃ i, nn = i + 1 := ⟨nn - 1, by omega⟩
      have c4 : (4 : Int32) ≤ nI j ↔ 4 ≤ j := nI_leI (by decide) (by omega)
      have e10 : (10 : Int32) + nI j = nI (10 + j) := nI_add 10 j
      obtain ⟨k, hk, ek⟩ := hP.1 j (by omega)
      unfold rF_57_15
      rw [if_neg (fun z => absurd (c4.mp z) (by omega)), e10, if_pos (iB_nI (by omega) (by decide)), iN_nI (by omega), nI_1]
      by_cases z : ar 13 (10 + j) = 0
      · rw [if_pos (by rw [ek]; exact (le0_nI (by omega)).mpr (ek.symm.trans z))]
        exact ih (j + 1) nn (by omega) (by omega) (fun l hl => by
          by_cases c : l = j
          · subst c; exact z
          · exact h3 l (by omega))
      · rw [if_neg (fun y => z (by rw [ek] at y; exact ek.trans ((le0_nI (by omega)).mp y)))]
        refine ⟨S, ?_, rF8_rf S⟩
        rw [q4_n (fun y => z (y j (by omega)))]
        rfl
  unfold rF_57 aBad
  by_cases z : ar 13 37 = 1
  · rw [if_pos z]
    exact ⟨S, by simp [z], rF8_rf S⟩
  · rw [if_neg z, decide_eq_false z, Bool.false_or]
    exact go 4 0 oF (by omega) (by unfold oF; omega) (fun l hl => absurd hl (by omega))
theorem r_good (hg : gRf pr n tx g ar) (h16 : S 16 = nI pr) (hw : S 29 = -1 ∨ S 29 = 0 ∨ S 29 = 1) : ∃ S9, rF_47 (ar 11 pr) 1 S ar = some (if aGd g (ar 13) = true then 1 else 0, S9, ar) ∧ rF8 S S9 := by
  have hg' := hg
  obtain ⟨g1, -, -, -, -, -, -, -, g9⟩ := hg
  rw [g9]
  unfold aGd
  rcases hx : g.2.2.2.1 with _ | x
  · refine ⟨S, ?_, rF8_rf S⟩
    show rF_47 (-1) 1 S ar = _
    unfold rF_47
    rw [if_pos rfl, if_pos (by decide)]
    rfl
  · exact r_cnd (w := 1) hg' h16 hw (Or.inr hx)
/-- what thinking leaves -/
def hF3 (sc sc2 : jSc) : Prop := (∀ a k, ¬ (a = 757 ∧ (k = 3 ∨ k = 5 ∨ k = 7 ∨ k = 9)) → sc2 a k = sc a k) ∧ (sc 757 5 = 0 → sc2 757 5 = 0)
/-- the hand works a condition -/
theorem h_cnd {O : Nat → Nat × Int32} {len : Nat} {H : Nat → Nat} {gt : Int32} (hp : x_pr p = true) (hmr : mr 3 = p) (hpp : 759 ≤ pp) (hH : wfO O len H) (hP1 : ∀ d, d < 8 → car (pp + 1) d = P d) (hP3 : ∀ d, d < 4 → car (pp + 1) (10 + d) = P (33 + d)) : ∀ (os : oL) (at_ nn : Nat) (st : List Int32) (sc car2 : jSc), o_va os → w_sg O at_ (os ++ [(16, 0)]) → at_ + os.length + 1 ≤ len → len < nn + at_ → H at_ = st.length → hO p sc car O len → (∀ b, b ≠ 758 → car2 b = car b) → sc 757 7 = gt → sc 757 9 = nI st.length → h_st car2 st →
    ∃ sc3 car3, xF_213_7 nn pp (nI at_) sc mr car2 al = some (sc3, mr, car3, al) ∧ h_st car3 (o_ev P gt os st) ∧ hF3 sc sc3 ∧ ∀ b, b ≠ 758 → car3 b = car b := by
  have hpn := x_pr_ne hp
  have l7 := hH.1
  intro os
  induction os with
  | nil =>
    intro at_ nn st sc car2 hv hs hl hnn hst hO1 hc h7 h9 hS
    obtain ⟨nn, rfl⟩ : ∃ j, nn = j + 1 := ⟨nn - 1, by simp at hl; omega⟩
    simp only [List.length_nil] at hl
    have i7 : iB (nI at_) 700 := iB_nI (by omega) (by decide)
    obtain ⟨o1, o2⟩ := hO1.2 at_ (by omega)
    refine ⟨sc, car2, ?_, hS, ⟨fun _ _ _ => rfl, fun h => h⟩, hc⟩
    unfold xF_213_7
    rw [if_neg (nI_pos (by omega)), hmr, if_pos hp, hO1.1, if_neg (nI_ge (by omega) (by omega)), if_pos hp, if_pos i7, if_pos hp, if_pos i7, iN_nI (by omega), hc (p + 1) (by omega), o1, hs.1, if_pos (by decide), if_pos (by decide)]
  | cons o r ih =>
    intro at_ nn st sc car2 hv hs hl hnn hst hO1 hc h7 h9 hS
    simp only [List.length_cons] at hl
    obtain ⟨nn, rfl⟩ : ∃ j, nn = j + 1 := ⟨nn - 1, by omega⟩
    have hs : O at_ = o ∧ w_sg O (at_ + 1) (r ++ [(16, 0)]) := hs
    have ho16 := hv o List.mem_cons_self
    have k1 : at_ + 1 + r.length + 1 ≤ len := by omega
    have k2 : len < nn + (at_ + 1) := by omega
    have np : p ≠ 757 := by omega
    have npp : pp + 1 ≠ 758 := by omega
    have i7 : iB (nI at_) 700 := iB_nI (by omega) (by decide)
    obtain ⟨o1, o2⟩ := hO1.2 at_ (by omega)
    have hok : o_hs (H at_) o (H (at_ + 1)) := by
      rcases hH.2 at_ (by omega) with h | ⟨h, -⟩ | ⟨h, -⟩ | ⟨h, -⟩
      · rw [hs.1] at h; exact h
      · rw [hs.1] at h; omega
      · rw [hs.1] at h; omega
      · rw [hs.1] at h; omega
    have ew : xF_213_7 (nn + 1) pp (nI at_) sc mr car2 al = xF_213_7 (nn + 1) pp (nI at_) sc mr car2 al := rfl
    conv at ew => rhs; unfold xF_213_7
    have g16 : ¬ (16 : Int32) ≤ nI o.1 := fun z => absurd ((nI_leI (a := 16) (b := o.1) (by decide) (by omega)).mp z) (by omega)
    rw [if_neg (nI_pos (by omega)), hmr, if_pos hp, hO1.1, if_neg (nI_ge (by omega) (by omega)), if_pos hp, if_pos i7, if_pos hp, if_pos i7, iN_nI (by omega), hc (p + 1) (by omega), hc (p + 2) (by omega), o1, o2, hs.1, if_neg g16] at ew
    obtain ⟨od, mk⟩ := o
    rw [hst] at hok
    obtain ⟨h64, hok⟩ := hok
    have q1 : od = 1 → ∃ d, d < 8 ∧ mk = nI d ∧ car2 (pp + 1) d = P d := by
      intro e
      rcases hok with h | h | h
      · obtain ⟨d, d1, d2⟩ := h.2.2.1 e
        exact ⟨d, d1, d2, by rw [hc _ npp]; exact hP1 d d1⟩
      · exact absurd h.1 (by show ¬ od = 4; omega)
      · exact absurd h.1 (by show ¬ 5 ≤ od; omega)
    have q3 : od = 3 → ∃ d, d < 4 ∧ mk = nI d ∧ car2 (pp + 1) (10 + d) = P (33 + d) := by
      intro e
      rcases hok with h | h | h
      · obtain ⟨d, d1, d2⟩ := h.2.2.2 e
        exact ⟨d, d1, d2, by rw [hc _ npp]; exact hP3 d d1⟩
      · exact absurd h.1 (by show ¬ od = 4; omega)
      · exact absurd h.1 (by show ¬ 5 ≤ od; omega)
    have q4 : od = 4 → 1 ≤ st.length := by
      intro e
      rcases hok with h | h | h
      · exact absurd h.1 (by show ¬ od < 4; omega)
      · exact h.2.1
      · exact absurd h.1 (by show ¬ 5 ≤ od; omega)
    have q5 : 5 ≤ od → 2 ≤ st.length := by
      intro e
      rcases hok with h | h | h
      · exact absurd h.1 (by show ¬ od < 4; omega)
      · exact absurd h.1 (by show ¬ od = 4; omega)
      · exact h.2.2.1
    obtain ⟨sc3, car3, e1, t1, t2, t3, t4, t5, t6⟩ := h_think (mr := mr) (al := al) (P := P) (gt := gt) (p1 := pp) ho16 q1 q3 h7 h9 hS h64 q4 q5
    have e1 : xF_214 pp (nI od) mk sc mr car2 al = some (sc3, mr, car3, al) := e1
    rw [e1, ob4, nI_1] at ew
    have hlen : (o_th P gt st (od, mk)).length = H (at_ + 1) := by
      unfold o_th
      rcases hok with h | h | h
      · have h1 : od < 4 := h.1
        have h2 : H (at_ + 1) = st.length + 1 := h.2.1
        rcases (show od = 0 ∨ od = 1 ∨ od = 2 ∨ od = 3 by omega) with rfl | rfl | rfl | rfl <;> simp [h2]
      · have h1 : od = 4 := h.1
        have h3 : H (at_ + 1) = st.length := h.2.2
        subst h1
        rcases st with _ | ⟨x, r⟩
        · exact absurd (q4 rfl) (by decide)
        · simp [h3]
      · have h1 : 5 ≤ od := h.1
        have h3 : H (at_ + 1) + 1 = st.length := h.2.2.2
        simp only [show ¬ od = 0 by omega, show ¬ od = 1 by omega, show ¬ od = 2 by omega, show ¬ od = 3 by omega, show ¬ od = 4 by omega, if_false]
        rcases st with _ | ⟨y, _ | ⟨x, r⟩⟩
        · exact absurd (q5 h1) (by decide)
        · exact absurd (q5 h1) (by simp)
        · simp only [List.length_cons] at h3 ⊢
          omega
    have fs : hF3 sc sc3 := by
      refine ⟨fun a k h => t5 a k (fun z => h ⟨z.1, by omega⟩), fun h => ?_⟩
      rw [t4, h]
      unfold h_sl
      split
      · exact Int32.zero_and
      · rfl
    obtain ⟨sc4, car4, y1, y2, y3, y4⟩ := ih (at_ + 1) nn (o_th P gt st (od, mk)) sc3 car3 (fun x hx => hv x (List.mem_cons_of_mem _ hx)) hs.2 k1 k2 hlen.symm ⟨(t5 p 3 (fun z => np z.1)).trans hO1.1, hO1.2⟩ (fun b hb => (t6 b hb).trans (hc b hb)) ((t5 757 7 (by decide)).trans h7) t1 t2
    refine ⟨sc4, car4, ew.trans y1, y2, ⟨fun a k h => (y3.1 a k h).trans (fs.1 a k h), fun h => y3.2 (fs.2 h)⟩, y4⟩
/-- a condition of the program, worked by the hand: the stack's first cell -/
theorem c_cnd {x : Nat × Nat} (hg : gRf pr n tx g ar) (hc : gCl p g sc car) (hw' : wfG g) (hmr : mr 3 = p) (hpp : 759 ≤ pp) (hx : g.2.2.1 = some x ∨ g.2.2.2.1 = some x) (hR : pgR P (car (pp + 1))) : ∃ sc3 car3, xF_213 pp (nI x.2) (j_u2 sc 757 7 0) mr car al = some (sc3, mr, car3, al) ∧ (¬ car3 758 0 = 0 ↔ aCnd g x P = true) ∧ hF3 sc sc3 ∧ ∀ b, b ≠ 758 → car3 b = car b := by
  obtain ⟨g1, g2, g3, g4, g5, g6, g7, g8, g9⟩ := hg
  obtain ⟨c1, c2, c3, c4, c5⟩ := hc
  have hp := x_pr_ne c1
  obtain ⟨H, w1, w2, w3, w4⟩ := wfG_O hw' g6
  obtain ⟨h0, hl⟩ : H x.2 = 0 ∧ x.2 ≤ g.1.length := by
    rcases hx with hx | hx
    · exact w3 x hx
    · exact w4 x hx
  have hC : HC n tx (oO g.1) g.1.length x.1 x.2 := by
    rcases hx with hx | hx
    · exact HC_of (g5.2.1 x hx)
    · exact HC_of (g5.2.2 x hx)
  obtain ⟨os, q2, p1, p2, p3, p4⟩ := hC
  have hva := va_or (va_tk 6) _ _ _ p1
  have hP1 : ∀ d, d < 8 → car (pp + 1) d = P d := fun d hd => by
    have a := ix_c d (by omega)
    rw [hR.1 d (by omega)]
    congr 1
    omega
  have hP3 : ∀ d, d < 4 → car (pp + 1) (10 + d) = P (33 + d) := fun d hd => by
    have a := ix_c (10 + d) (by omega)
    rw [hR.1 _ (by omega)]
    congr 1
    omega
  obtain ⟨sc3, car3, y1, y2, y3, y4⟩ := h_cnd (al := al) (gt := 0) c1 hmr hpp w1 hP1 hP3 os x.2 oF [] (j_u2 (j_u2 sc 757 7 0) 757 9 0) car hva p2 p3 (by unfold oF; omega) h0 ⟨by rw [u2_na (by omega), u2_na (by omega)]; exact c2.1, c2.2⟩ (fun _ _ => rfl) ((u2_nk (by decide)).trans u2_eq) u2_eq trivial
  refine ⟨sc3, car3, y1, ?_, ⟨fun a k h => ?_, fun h => y3.2 (by rw [u2_nk (by decide), u2_nk (by decide)]; exact h)⟩, y4⟩
  · have hlen : ∀ os h h2 st, o_hl h os h2 → st.length = h → (o_ev P 0 os st).length = h2 := by
      intro os
      induction os with
      | nil => intro h h2 st e1 e2; rw [e1]; exact e2
      | cons o r ih =>
        intro h h2 st e1 e2
        obtain ⟨h1, e3, e4⟩ := e1
        refine ih h1 h2 _ e4 ?_
        obtain ⟨od, mk⟩ := o
        obtain ⟨h64, hok⟩ := e3
        subst e2
        unfold o_th
        rcases hok with h | h | h
        · have h1' : od < 4 := h.1
          have h2' : h1 = st.length + 1 := h.2.1
          rcases (show od = 0 ∨ od = 1 ∨ od = 2 ∨ od = 3 by omega) with rfl | rfl | rfl | rfl <;> simp [h2']
        · have h1' : od = 4 := h.1
          have h3' : h1 = st.length := h.2.2
          have h4' : 1 ≤ st.length := h.2.1
          subst h1'
          rcases st with _ | ⟨x, r⟩
          · exact absurd h4' (by decide)
          · simp [h3']
        · have h1' : 5 ≤ od := h.1
          have h3' : h1 + 1 = st.length := h.2.2.2
          have h4' : 2 ≤ st.length := h.2.2.1
          simp only [show ¬ od = 0 by omega, show ¬ od = 1 by omega, show ¬ od = 2 by omega, show ¬ od = 3 by omega, show ¬ od = 4 by omega, if_false]
          rcases st with _ | ⟨y, _ | ⟨x, r⟩⟩
          · exact absurd h4' (by decide)
          · exact absurd h4' (by simp)
          · simp only [List.length_cons] at h3' ⊢
            omega
    have hl1 := hlen os 0 1 [] (dp_c6 (h := 0) p1 (by omega)) rfl
    have ev := aCv_ev (P := P) os 700 x.2 [] hva p2 (by omega)
    unfold aCnd
    rw [ev]
    generalize o_ev P 0 os [] = L at y2 hl1
    rcases L with _ | ⟨v, _ | ⟨v2, r⟩⟩
    · cases hl1
    · have : car3 758 0 = v := y2.1
      rw [this]
      simp
    · simp at hl1
  · rw [y3.1 a k h]
    by_cases e : a = 757
    · rw [u2_nk (fun z => h ⟨e, by omega⟩), u2_nk (fun z => h ⟨e, by omega⟩)]
    · rw [u2_na e, u2_na e]
theorem c_bad (hg : gRf pr n tx g ar) (hc : gCl p g sc car) (hw' : wfG g) (hmr : mr 3 = p) (hpp : 759 ≤ pp) (hR : pgR P (car (pp + 1))) : ∃ sc3 car3, xF_210 pp sc mr car al = some (if aBad g P = true then 1 else 0, sc3, mr, car3, al) ∧ hF3 sc sc3 ∧ ∀ b, b ≠ 758 → car3 b = car b := by
  have hc' := hc
  obtain ⟨c1, c2, c3, c4, c5⟩ := hc
  have c14 : car (pp + 1) 14 = P 37 := hR.1 14 (by decide)
  have e28 : xF_228 pp sc mr car al = some (if P 37 = 1 then 1 else 0, sc, mr, car, al) := by
    unfold xF_228
    rw [c14]
    rcases hR.2.2.2.1 with z | z
    · rw [z]; rfl
    · rw [z]; rfl
  have f0 : hF3 sc sc := ⟨fun _ _ _ => rfl, fun h => h⟩
  unfold xF_210
  rw [e28, ob5]
  by_cases z : P 37 = 1
  · rw [if_pos z, if_neg (by decide), e28, ob5, if_pos z, if_pos (by decide)]
    exact ⟨sc, car, by unfold aBad; simp [z], f0, fun _ _ => rfl⟩
  · rw [if_neg z, if_pos rfl, hmr, if_pos c1, c4, e28, ob5, if_neg z, if_pos (show (0 : Int32) = 0 ∨ (0 : Int32) = 1 by decide)]
    unfold aBad
    rw [decide_eq_false z, Bool.false_or]
    rcases hx : g.2.2.1 with _ | x
    · rw [if_pos (show c_at none < 0 by decide)]
      exact ⟨sc, car, by simp, f0, fun _ _ => rfl⟩
    · obtain ⟨H, w1, w2, w3, w4⟩ := wfG_O hw' hg.2.2.2.2.2.1
      have hl := (w3 x hx).2
      have h6 := hg.2.2.2.2.2.1
      rw [if_neg (show ¬ c_at (some x) < 0 from nI_pos (by omega))]
      obtain ⟨k, hk, ek⟩ := hR.2.2.1.2
      have e34 : xF_234 pp sc mr car al = some (if (q4 P && decide (P 26 = 0)) = true then 1 else 0, sc, mr, car, al) := by
        have c19 : car (pp + 1) 19 = P 26 := hR.1 19 (by decide)
        unfold xF_234 xF_231
        rw [c19, ob5]
        have w15 : ∀ l, l < 4 → car (pp + 1) (15 + l) = P (10 + l) := fun l hl => pgR_i hR hl
        have a0 : car (pp + 1) 15 = P (10 + 0) := w15 0 (by decide)
        have a1 : car (pp + 1) 16 = P (10 + 1) := w15 1 (by decide)
        have a2 : car (pp + 1) 17 = P (10 + 2) := w15 2 (by decide)
        have a3 : car (pp + 1) 18 = P (10 + 3) := w15 3 (by decide)
        obtain ⟨k0, q0, b0⟩ := hR.2.2.1.1 0 (by decide)
        obtain ⟨k1, q1, b1⟩ := hR.2.2.1.1 1 (by decide)
        obtain ⟨k2, q2, b2⟩ := hR.2.2.1.1 2 (by decide)
        obtain ⟨k3, q3, b3⟩ := hR.2.2.1.1 3 (by decide)
        have es : car (pp + 1) 15 + car (pp + 1) 16 + car (pp + 1) 17 + car (pp + 1) 18 = nI (k0 + k1 + k2 + k3) := by rw [a0, a1, a2, a3, b0, b1, b2, b3, nI_add, nI_add, nI_add]
        rw [es]
        have sum0 : nI (k0 + k1 + k2 + k3) = 0 ↔ ∀ l, l < 4 → P (10 + l) = 0 := by
          have e0 : nI (k0 + k1 + k2 + k3) = (0 : Int32) ↔ k0 + k1 + k2 + k3 = 0 := nI_eq (by omega) (by decide)
          rw [e0]
          constructor
          · intro h l hl
            rcases (show l = 0 ∨ l = 1 ∨ l = 2 ∨ l = 3 by omega) with rfl | rfl | rfl | rfl
            · rw [b0, show k0 = 0 by omega]; rfl
            · rw [b1, show k1 = 0 by omega]; rfl
            · rw [b2, show k2 = 0 by omega]; rfl
            · rw [b3, show k3 = 0 by omega]; rfl
          · intro h
            have z0 : k0 = 0 := (nI_eq (a := k0) (b := 0) (by omega) (by decide)).mp (b0.symm.trans (h 0 (by decide)))
            have z1 : k1 = 0 := (nI_eq (a := k1) (b := 0) (by omega) (by decide)).mp (b1.symm.trans (h 1 (by decide)))
            have z2 : k2 = 0 := (nI_eq (a := k2) (b := 0) (by omega) (by decide)).mp (b2.symm.trans (h 2 (by decide)))
            have z3 : k3 = 0 := (nI_eq (a := k3) (b := 0) (by omega) (by decide)).mp (b3.symm.trans (h 3 (by decide)))
            omega
        by_cases y : P 26 = 0
        · rw [if_pos y, decide_eq_true y, Bool.and_true]
          by_cases y2 : ∀ l, l < 4 → P (10 + l) = 0
          · rw [if_pos (sum0.mpr y2), q4_i.mpr y2]; rfl
          · rw [if_neg (fun q => y2 (sum0.mp q)), q4_n y2]; rfl
        · rw [if_neg y, decide_eq_false y, Bool.and_false]; rfl
      rw [e34, ob5]
      by_cases y : (q4 P && decide (P 26 = 0)) = true
      · rw [if_pos y, if_neg (by decide), hmr, if_pos c1]
        obtain ⟨sc3, car3, r1, r2, r3, r4⟩ := c_cnd (mr := mr) (al := al) hg hc' hw' hmr hpp (Or.inl hx) hR
        have ep : (j_u2 sc 757 7 0) p 7 = nI x.2 := by
          have := x_pr_ne c1
          rw [u2_na (by omega), c4, hx]; rfl
        rw [ep, r1, ob4]
        refine ⟨sc3, car3, ?_, r3, r4⟩
        show _ = some (if ((q4 P && decide (P 26 = 0)) && aCnd g x P) = true then 1 else 0, sc3, mr, car3, al)
        rw [y, Bool.true_and]
        by_cases q : aCnd g x P = true
        · rw [if_neg (r2.mpr q), if_pos q]
        · rw [if_pos (by
            by_cases w : car3 758 0 = 0
            · exact w
            · exact absurd (r2.mp w) q), if_neg q]
      · rw [if_neg y, if_pos rfl, e28, ob5, if_neg z, if_pos (by decide)]
        have yf : (q4 P && decide (P 26 = 0)) = false := by simpa using y
        refine ⟨sc, car, ?_, f0, fun _ _ => rfl⟩
        show _ = some (if ((q4 P && decide (P 26 = 0)) && aCnd g x P) = true then 1 else 0, sc, mr, car, al)
        rw [yf]
        rfl
theorem c_good (hg : gRf pr n tx g ar) (hc : gCl p g sc car) (hw' : wfG g) (hmr : mr 3 = p) (hpp : 759 ≤ pp) (hR : pgR P (car (pp + 1))) : ∃ sc3 car3, xF_211 pp sc mr car al = some (if aGd g P = true then 1 else 0, sc3, mr, car3, al) ∧ hF3 sc sc3 ∧ ∀ b, b ≠ 758 → car3 b = car b := by
  have hc' := hc
  obtain ⟨c1, c2, c3, c4, c5⟩ := hc
  unfold xF_211 aGd
  rw [hmr, if_pos c1, c5]
  rcases hx : g.2.2.2.1 with _ | x
  · rw [if_neg (show ¬ 0 ≤ c_at none by decide)]
    exact ⟨sc, car, rfl, ⟨fun _ _ _ => rfl, fun h => h⟩, fun _ _ => rfl⟩
  · obtain ⟨H, w1, w2, w3, w4⟩ := wfG_O hw' hg.2.2.2.2.2.1
    have hl := (w4 x hx).2
    have h6 := hg.2.2.2.2.2.1
    rw [if_pos (show 0 ≤ c_at (some x) from nI_pos' (by omega)), if_pos c1]
    obtain ⟨sc3, car3, r1, r2, r3, r4⟩ := c_cnd (mr := mr) (al := al) hg hc' hw' hmr hpp (Or.inr hx) hR
    have ep : (j_u2 sc 757 7 0) p 8 = nI x.2 := by
      have := x_pr_ne c1
      rw [u2_na (by omega), c5, hx]; rfl
    rw [ep, r1, ob4]
    refine ⟨sc3, car3, ?_, r3, r4⟩
    show _ = some (if aCnd g x P = true then 1 else 0, sc3, mr, car3, al)
    by_cases q : aCnd g x P = true
    · rw [if_neg (r2.mpr q), if_pos q]
    · rw [if_pos (by
        by_cases w : car3 758 0 = 0
        · exact w
        · exact absurd (r2.mp w) q), if_neg q]
end CN
