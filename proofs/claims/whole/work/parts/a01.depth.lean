/-! HEIGHTS: how high the stack stands at each order. -/
/-- an order that thinks takes the height h to h2 -/
def o_hs (h : Nat) (o : Nat × Int32) (h2 : Nat) : Prop := h < 64 ∧ ((o.1 < 4 ∧ h2 = h + 1 ∧ (o.1 = 1 → ∃ d, d < 8 ∧ o.2 = nI d) ∧ (o.1 = 3 → ∃ d, d < 4 ∧ o.2 = nI d)) ∨ (o.1 = 4 ∧ 1 ≤ h ∧ h2 = h) ∨ (5 ≤ o.1 ∧ o.1 ≤ 15 ∧ 2 ≤ h ∧ h2 + 1 = h))
def o_hl : Nat → oL → Nat → Prop
  | h, [], h2 => h2 = h
  | h, o :: r, h2 => ∃ h1, o_hs h o h1 ∧ o_hl h1 r h2
theorem o_hl_app : ∀ {a : oL} {b : oL} {h h1 h2 : Nat}, o_hl h a h1 → o_hl h1 b h2 → o_hl h (a ++ b) h2
  | [], b, h, h1, h2, e, k => by cases e; exact k
  | o :: r, b, h, h1, h2, e, k => by
    obtain ⟨h3, e1, e2⟩ := e
    exact ⟨h3, e1, o_hl_app e2 k⟩
theorem o_hl_1 {h h2 : Nat} {o : Nat × Int32} (e : o_hs h o h2) : o_hl h [o] h2 := ⟨h2, e, rfl⟩
theorem o_hl_j {h od : Nat} {m : Int32} (h1 : 5 ≤ od ∧ od ≤ 15) (h2 : h + 2 < 64) : o_hl (h + 2) [(od, m)] (h + 1) := o_hl_1 ⟨h2, Or.inr (Or.inr ⟨h1.1, h1.2, by omega, rfl⟩)⟩
def p_dp (D : Nat) (p : Nat → oR) : Prop := ∀ q os q2 h, p q = .inr (os, q2) → h + D ≤ 64 → o_hl h os (h + 1)
theorem p_dp_mono {D D2 : Nat} {p : Nat → oR} (h : p_dp D p) (hD : D ≤ D2) : p_dp D2 p := fun q os q2 k e1 e2 => h q os q2 k e1 (by omega)
theorem dp_lp {D : Nat} {u : Nat → oR} {sg : Int32 → Option Nat} {tx : Nat → Int32} (hD : 2 ≤ D) (hu : p_dp D u) (hs : ∀ c od, sg c = some od → 5 ≤ od ∧ od ≤ 15) : ∀ (m : Nat) (os : oL) (q : Nat) (os2 : oL) (q2 h : Nat), h + 1 + D ≤ 64 → o_hl h os (h + 1) → p_lp u sg tx m os q = .inr (os2, q2) → o_hl h os2 (h + 1) := by
  intro m
  induction m with
  | zero => intro os q os2 q2 h hh ho e; cases e; exact ho
  | succ m ih =>
    intro os q os2 q2 h hh ho e
    unfold p_lp at e
    split at e
    · cases e; exact ho
    · rename_i od hod
      obtain ⟨o1, q1, h1, h2⟩ := p_bd_r e
      exact ih _ _ _ _ _ hh (o_hl_app (o_hl_app ho (hu _ _ _ _ h1 (by omega))) (o_hl_j (hs _ _ hod) (by omega))) h2
theorem dp_wl {D : Nat} {u : Nat → oR} {wd : List Nat} {od : Nat} {tx : Nat → Int32} (hD : 2 ≤ D) (hu : p_dp D u) (hs : 5 ≤ od ∧ od ≤ 15) : ∀ (m : Nat) (os : oL) (q : Nat) (os2 : oL) (q2 h : Nat), h + 1 + D ≤ 64 → o_hl h os (h + 1) → p_wl u wd od tx m os q = .inr (os2, q2) → o_hl h os2 (h + 1) := by
  intro m
  induction m with
  | zero => intro os q os2 q2 h hh ho e; cases e; exact ho
  | succ m ih =>
    intro os q os2 q2 h hh ho e
    unfold p_wl at e
    split at e
    · obtain ⟨o1, q1, h1, h2⟩ := p_bd_r e
      exact ih _ _ _ _ _ hh (o_hl_app (o_hl_app ho (hu _ _ _ _ h1 (by omega))) (o_hl_j hs (by omega))) h2
    · cases e; exact ho
theorem o_hl_p {h od : Nat} {m : Int32} (h1 : od = 0 ∨ od = 2) (h2 : h < 64) : o_hl h [(od, m)] (h + 1) := o_hl_1 ⟨h2, Or.inl ⟨by show od < 4; omega, rfl, fun z => absurd z (by show ¬ od = 1; omega), fun z => absurd z (by show ¬ od = 3; omega)⟩⟩
theorem dp_un {D : Nat} {V : Option (Nat → oR)} {tx : Nat → Int32} (hD : 2 ≤ D) (hV : ∀ p, V = some p → p_dp D p) : p_dp (D + 1) (p_un V tx) := by
  intro q os q2 hh h hl
  unfold p_un at h
  split at h
  · split at h
    · cases h; exact o_hl_p (by omega) (by omega)
    · cases h
  · split at h
    · rename_i l hle
      cases h
      exact o_hl_1 ⟨by omega, Or.inl ⟨by show 1 < 4; decide, rfl, fun _ => ⟨_, (x_le_ok hle).1, rfl⟩, fun z => absurd z (by show ¬ 1 = 3; decide)⟩⟩
    · unfold p_uw at h
      split at h
      · cases h; exact o_hl_p (by omega) (by omega)
      · split at h
        · obtain ⟨d, hd, h⟩ := p_dg_r h
          cases h
          exact o_hl_1 ⟨by omega, Or.inl ⟨by show 3 < 4; decide, rfl, fun z => absurd z (by show ¬ 3 = 1; decide), fun _ => ⟨d, by omega, rfl⟩⟩⟩
        · split at h
          · split at h
            · rcases V with _ | V
              · cases h
              · obtain ⟨o1, q1, h1, h⟩ := p_bd_r h
                obtain ⟨-, h⟩ := p_sg_r h
                obtain ⟨o2, q3, h2, h⟩ := p_bd_r h
                obtain ⟨-, h⟩ := p_sg_r h
                cases h
                exact o_hl_app (o_hl_app (hV V rfl _ _ _ _ h1 (by omega)) (hV V rfl _ _ _ _ h2 (by omega))) (o_hl_j (by split <;> decide) (by omega))
            · cases h
          · split at h
            · rcases V with _ | V
              · cases h
              · obtain ⟨o1, q1, h1, h⟩ := p_bd_r h
                obtain ⟨-, h⟩ := p_sg_r h
                cases h
                exact hV V rfl _ _ _ _ h1 (by omega)
            · cases h
theorem dp_s0 {D : Nat} {V : Option (Nat → oR)} {tx : Nat → Int32} (hD : 2 ≤ D) (hV : ∀ p, V = some p → p_dp D p) : p_dp (D + 3) (p_s0 V tx) := by
  have h1 : p_dp (D + 2) (p_pr V tx) := by
    intro q os q2 hh h hl
    obtain ⟨o1, q1, h1, h⟩ := p_bd_r h
    refine dp_lp (D := D + 1) (by omega) (dp_un hD hV) (fun c od hc => ?_) _ _ _ _ _ _ (by omega) (dp_un hD hV _ _ _ _ h1 (by omega)) h
    unfold sg_mul at hc
    split at hc
    · cases hc; decide
    · split at hc
      · cases hc; decide
      · cases hc
  intro q os q2 hh h hl
  obtain ⟨o1, q1, h2, h⟩ := p_bd_r h
  refine dp_lp (D := D + 2) (by omega) h1 (fun c od hc => ?_) _ _ _ _ _ _ (by omega) (h1 _ _ _ _ h2 (by omega)) h
  unfold sg_add at hc
  split at hc
  · cases hc; decide
  · split at hc
    · cases hc; decide
    · cases hc
theorem dp_su {tx : Nat → Int32} : ∀ k, p_dp (3 * k + 5) (p_su tx k)
  | 0 => dp_s0 (D := 2) (by omega) (fun p h => by cases h)
  | k + 1 => dp_s0 (D := 3 * k + 5) (by omega) (fun p h => by cases h; exact dp_su k)
theorem dp_or {D : Nat} {t : Nat → oR} {tx : Nat → Int32} (hD : 2 ≤ D) (ht : p_dp D t) : p_dp (D + 2) (p_or t tx) := by
  have h1 : p_dp (D + 1) (p_an t tx) := by
    intro q os q2 hh h hl
    obtain ⟨o1, q1, h1, h⟩ := p_bd_r h
    exact dp_wl hD ht (by decide) _ _ _ _ _ _ (by omega) (ht _ _ _ _ h1 (by omega)) h
  intro q os q2 hh h hl
  obtain ⟨o1, q1, h2, h⟩ := p_bd_r h
  exact dp_wl (D := D + 1) (by omega) h1 (by decide) _ _ _ _ _ _ (by omega) (h1 _ _ _ _ h2 (by omega)) h
theorem dp_te {D : Nat} {V : Nat → oR} {W : Option ((Nat → oR) × (Nat → oR))} {tx : Nat → Int32} (hD : 2 ≤ D) (hV : p_dp D V) (hW : ∀ t r, W = some (t, r) → p_dp D t ∧ p_dp D r) : p_dp (D + 1) (p_te V W tx) := by
  intro q os q2 hh h hl
  unfold p_te at h
  split at h
  · rcases W with _ | ⟨t, r⟩
    · cases h
    · obtain ⟨o1, q1, h1, h⟩ := p_bd_r h
      cases h
      exact o_hl_app ((hW t r rfl).1 _ _ _ _ h1 (by omega)) (o_hl_1 ⟨by omega, Or.inr (Or.inl ⟨rfl, by omega, rfl⟩)⟩)
  · split at h
    · rcases W with _ | ⟨t, r⟩
      · cases h
      · obtain ⟨o1, q1, h1, h⟩ := p_bd_r h
        obtain ⟨-, h⟩ := p_sg_r h
        cases h
        exact (hW t r rfl).2 _ _ _ _ h1 (by omega)
    · obtain ⟨o1, q1, h1, h⟩ := p_bd_r h
      rcases p_rl_c (tx := tx) (q := q1) (k := fun o q3 => p_bd (V q3) (fun os2 q4 => .inr (o1 ++ os2 ++ [(o, 0)], q4))) with ⟨od, hod, e⟩ | ⟨hno, e⟩
      · rw [e] at h
        obtain ⟨o2, q3, h2, h⟩ := p_bd_r h
        cases h
        exact o_hl_app (o_hl_app (hV _ _ _ _ h1 (by omega)) (hV _ _ _ _ h2 (by omega))) (o_hl_j (by rcases hod with ⟨-, a⟩ | ⟨-, a⟩ | ⟨-, a⟩ <;> rw [a] <;> decide) (by omega))
      · rw [e] at h; cases h
theorem dp_tk {tx : Nat → Int32} : ∀ k, p_dp (3 * k + 6) (p_tk tx k)
  | 0 => dp_te (D := 5) (by omega) (dp_su 0) (fun t r h => by cases h)
  | k + 1 => dp_te (D := 3 * k + 8) (by omega) (dp_su (k + 1)) (fun t r h => by cases h; exact ⟨p_dp_mono (dp_tk k) (by omega), dp_or (by omega) (dp_tk k)⟩)
/-- the condition's orders lift the stack by one -/
theorem dp_c6 {tx : Nat → Int32} {q q2 h : Nat} {os : oL} (e : p_or (p_tk tx 6) tx q = .inr (os, q2)) (hh : h ≤ 1) : o_hl h os (h + 1) := dp_or (by omega) (dp_tk 6) _ _ _ _ e (by omega)
/-- the order o at a, heights H, jumps up to e -/
def o_ok (H : Nat → Nat) (e a : Nat) (o : Nat × Int32) : Prop := o_hs (H a) o (H (a + 1)) ∨ (o.1 = 16 ∧ H (a + 1) = 0) ∨ (o.1 = 17 ∧ H a = 1 ∧ H (a + 1) = 0 ∧ ∃ t, o.2 = nI t ∧ a < t ∧ t ≤ e ∧ H t = 0) ∨
  ((18 ≤ o.1 ∧ o.1 ≤ 27) ∧ o_mk o.1 o.2 ∧ H (a + 1) = 0 ∧ H a = (if o.1 = 18 ∨ o.1 = 24 ∨ o.1 = 26 then 1 else 0))
def wfQ (b : Nat) (os : oL) (h0 h1 : Nat) : Prop := ∃ H : Nat → Nat, H b = h0 ∧ H (b + os.length) = h1 ∧ ∀ i o, os[i]? = some o → o_ok H (b + os.length) (b + i) o
theorem o_ok_c {H H2 : Nat → Nat} {e e2 a : Nat} {o : Nat × Int32} (h : o_ok H e a o) (he : e ≤ e2) (h1 : ∀ x, a ≤ x → x ≤ e → H2 x = H x) (ha : a < e) : o_ok H2 e2 a o := by
  unfold o_ok at h ⊢
  rw [h1 a (Nat.le_refl _) (by omega), h1 (a + 1) (by omega) (by omega)]
  rcases h with h | h | ⟨h2, h3, h4, t, h5, h6, h7, h8⟩ | h
  · exact Or.inl h
  · exact Or.inr (Or.inl h)
  · exact Or.inr (Or.inr (Or.inl ⟨h2, h3, h4, t, h5, h6, by omega, by rw [h1 t (by omega) h7]; exact h8⟩))
  · exact Or.inr (Or.inr (Or.inr h))
theorem wfQ_app {b h0 h1 h2 : Nat} {os1 os2 : oL} (e1 : wfQ b os1 h0 h1) (e2 : wfQ (b + os1.length) os2 h1 h2) : wfQ b (os1 ++ os2) h0 h2 := by
  obtain ⟨H1, a1, a2, a3⟩ := e1
  obtain ⟨H2, b1, b2, b3⟩ := e2
  have le : (os1 ++ os2).length = os1.length + os2.length := List.length_append
  have g1 : ∀ x, x ≤ b + os1.length → (if x < b + os1.length then H1 x else H2 x) = H1 x := by
    intro x hx
    by_cases c : x < b + os1.length
    · rw [if_pos c]
    · rw [if_neg c, show x = b + os1.length by omega, b1, a2]
  have g2 : ∀ x, b + os1.length ≤ x → (if x < b + os1.length then H1 x else H2 x) = H2 x := fun x hx => if_neg (by omega)
  refine ⟨fun x => if x < b + os1.length then H1 x else H2 x, ?_, ?_, fun i o hi => ?_⟩
  · show (if b < b + os1.length then H1 b else H2 b) = h0
    rw [g1 b (by omega)]; exact a1
  · show (if b + (os1 ++ os2).length < b + os1.length then _ else H2 _) = h2
    rw [le, g2 _ (by omega), ← Nat.add_assoc]; exact b2
  · rw [le]
    by_cases c : i < os1.length
    · rw [List.getElem?_append_left c] at hi
      exact o_ok_c (a3 i o hi) (by omega) (fun x _ hx => g1 x hx) (by omega)
    · rw [List.getElem?_append_right (by omega)] at hi
      have := (List.getElem?_eq_some_iff.mp hi).1
      have r := b3 _ o hi
      rw [show b + os1.length + (i - os1.length) = b + i by omega] at r
      exact o_ok_c r (by omega) (fun x hx _ => g2 x (by omega)) (by omega)
theorem wfQ_1 {b h0 h1 : Nat} {o : Nat × Int32} (e : o_hs h0 o h1 ∨ (o.1 = 16 ∧ h1 = 0) ∨ ((18 ≤ o.1 ∧ o.1 ≤ 27) ∧ o_mk o.1 o.2 ∧ h1 = 0 ∧ h0 = (if o.1 = 18 ∨ o.1 = 24 ∨ o.1 = 26 then 1 else 0))) : wfQ b [o] h0 h1 := by
  refine ⟨fun x => if x = b then h0 else h1, if_pos rfl, if_neg (by simp), fun i o2 hi => ?_⟩
  have hi0 : i = 0 := by
    have := (List.getElem?_eq_some_iff.mp hi).1
    simp at this
    exact this
  subst hi0
  cases hi
  unfold o_ok
  have e1 : (if b + 0 = b then h0 else h1) = h0 := if_pos rfl
  have e2 : (if b + 0 + 1 = b then h0 else h1) = h1 := if_neg (by omega)
  show o_hs (if b + 0 = b then h0 else h1) o (if b + 0 + 1 = b then h0 else h1) ∨ _
  rw [e1, e2]
  rcases e with e | e | ⟨e3, e4, e5, e6⟩
  · exact Or.inl e
  · exact Or.inr (Or.inl ⟨e.1, e2.trans e.2⟩)
  · exact Or.inr (Or.inr (Or.inr ⟨e3, e4, e2.trans e5, e1.trans e6⟩))
theorem wfQ_hl : ∀ (os : oL) (b h h2 : Nat), o_hl h os h2 → wfQ b os h h2
  | [], b, h, h2, e => ⟨fun _ => h, rfl, e.symm, fun i o hi => by simp at hi⟩
  | o :: r, b, h, h2, e => by
    obtain ⟨h1, e1, e2⟩ := e
    exact wfQ_app (os1 := [o]) (os2 := r) (wfQ_1 (Or.inl e1)) (wfQ_hl r _ _ _ e2)
theorem wfQ_if {b t : Nat} {os2 : oL} (ht : t = b + 1 + os2.length) (e : wfQ (b + 1) os2 0 0) : wfQ b ((17, nI t) :: os2) 1 0 := by
  obtain ⟨H, a1, a2, a3⟩ := e
  have le : ((17, nI t) :: os2 : oL).length = os2.length + 1 := List.length_cons
  have g2 : ∀ x, b < x → (if x = b then 1 else H x) = H x := fun x hx => if_neg (by omega)
  refine ⟨fun x => if x = b then 1 else H x, if_pos rfl, ?_, fun i o hi => ?_⟩
  · show (if b + ((17, nI t) :: os2 : oL).length = b then 1 else H _) = 0
    rw [le, g2 _ (by omega), show b + (os2.length + 1) = b + 1 + os2.length by omega]
    exact a2
  · rw [le]
    rcases i with _ | i
    · cases hi
      refine Or.inr (Or.inr (Or.inl ⟨rfl, if_pos rfl, (g2 _ (by omega)).trans a1, t, rfl, by omega, by omega, ?_⟩))
      show (if t = b then 1 else H t) = 0
      rw [g2 _ (by omega), ht]
      exact a2
    · have hi : os2[i]? = some o := hi
      have := (List.getElem?_eq_some_iff.mp hi).1
      have r := a3 i o hi
      rw [show b + 1 + i = b + (i + 1) by omega] at r
      exact o_ok_c r (by omega) (fun x hx _ => g2 x (by omega)) (by omega)
theorem wfQ_s1 {V : Nat → oR} {D : Nat} {tx : Nat → Int32} {kd q b : Nat} (hV : p_dp D V) (hD : D ≤ 64) (hkd : kd ≤ 9) (h0 : kd = 0 → ∃ l, l < 8 ∧ tx q = nI (97 + l)) {os : oL} {q2 : Nat} (h : p_s1 V tx kd q = .inr (os, q2)) : wfQ b os 0 0 := by
  unfold p_s1 at h
  split at h
  · obtain ⟨-, h⟩ := p_sg_r h
    obtain ⟨o1, q1, h1, h⟩ := p_bd_r h
    obtain ⟨-, h⟩ := p_sg_r h
    cases h
    obtain ⟨l, hl, he⟩ := h0 (by assumption)
    refine wfQ_app (wfQ_hl _ _ _ _ (hV _ _ _ 0 h1 (by omega))) (wfQ_1 (Or.inr (Or.inr ⟨(show 18 ≤ 18 ∧ 18 ≤ 27 by decide), ⟨l, hl, ?_⟩, rfl, rfl⟩)))
    rw [he, iN_nI (by omega), show 97 + l - 97 = l by omega]
  · split at h
    · obtain ⟨d, hd, h⟩ := p_dg_r h
      obtain ⟨-, h⟩ := p_sg_r h
      cases h
      refine wfQ_1 (Or.inr (Or.inr ⟨by show 18 ≤ 18 + kd ∧ 18 + kd ≤ 27; omega, ?_, rfl, ?_⟩))
      · show o_mk (18 + kd) (nI d)
        unfold o_mk
        rw [if_pos (by omega)]
        exact ⟨d, by omega, rfl⟩
      · show 0 = (if 18 + kd = 18 ∨ 18 + kd = 24 ∨ 18 + kd = 26 then 1 else 0)
        rw [if_neg (by omega)]
    · split at h
      · obtain ⟨d, hd, h⟩ := p_dg_r h
        unfold p_nm at h
        split at h
        · cases h
        · split at h
          · obtain ⟨-, h⟩ := p_sg_r h
            cases h
            exact wfQ_1 (Or.inr (Or.inr ⟨(show 18 ≤ 23 ∧ 23 ≤ 27 by decide), ⟨d, _, hd, by assumption, rfl⟩, rfl, rfl⟩))
          · cases h
      · split at h
        · obtain ⟨d, hd, h⟩ := p_dg_r h
          obtain ⟨-, h⟩ := p_sg_r h
          cases h
          exact wfQ_1 (Or.inr (Or.inr ⟨(show 18 ≤ 25 ∧ 25 ≤ 27 by decide), ⟨d, by omega, rfl⟩, rfl, rfl⟩))
        · split at h
          · obtain ⟨-, h⟩ := p_sg_r h
            cases h
            exact wfQ_1 (Or.inr (Or.inr ⟨by decide, trivial, rfl, rfl⟩))
          · obtain ⟨d, hd, h⟩ := p_dg_r h
            obtain ⟨o1, q1, h1, h⟩ := p_bd_r h
            obtain ⟨-, h⟩ := p_sg_r h
            cases h
            have hk : kd = 6 ∨ kd = 8 := by omega
            refine wfQ_app (wfQ_hl _ _ _ _ (hV _ _ _ 0 h1 (by omega))) (wfQ_1 (Or.inr (Or.inr ⟨by show 18 ≤ 18 + kd ∧ 18 + kd ≤ 27; omega, ?_, rfl, ?_⟩)))
            · show o_mk (18 + kd) (nI d)
              unfold o_mk
              rw [if_neg (by omega), if_neg (by omega), if_pos (by omega)]
              exact ⟨d, by omega, rfl⟩
            · show 0 + 1 = (if 18 + kd = 18 ∨ 18 + kd = 24 ∨ 18 + kd = 26 then 1 else 0)
              rw [if_pos (by omega)]
theorem x_kd_ub {tx : Nat → Int32} {q kd : Nat} (h : x_kd tx q = some kd) : kd ≤ 10 ∧ (kd = 0 → ∃ l, l < 8 ∧ tx q = nI (97 + l)) := by
  unfold x_kd at h
  split at h
  · rename_i c
    cases h
    refine ⟨by omega, fun _ => ?_⟩
    rcases hl : x_le tx q with _ | l
    · exact absurd hl c
    · exact ⟨l, (x_le_ok hl).1, (x_le_ok hl).2.1⟩
  · have : ∀ k, 1 ≤ k → k ≤ 10 → k ≤ 10 ∧ (k = 0 → ∃ l, l < 8 ∧ tx q = nI (97 + l)) := fun k h1 h2 => ⟨h2, fun z => absurd z (by omega)⟩
    split at h
    · cases h; exact this _ (by decide) (by decide)
    split at h
    · cases h; exact this _ (by decide) (by decide)
    split at h
    · cases h; exact this _ (by decide) (by decide)
    split at h
    · cases h; exact this _ (by decide) (by decide)
    split at h
    · cases h; exact this _ (by decide) (by decide)
    split at h
    · cases h; exact this _ (by decide) (by decide)
    split at h
    · cases h; exact this _ (by decide) (by decide)
    split at h
    · cases h; exact this _ (by decide) (by decide)
    split at h
    · cases h; exact this _ (by decide) (by decide)
    split at h
    · cases h; exact this _ (by decide) (by decide)
    · cases h
theorem wfQ_t0 {V : Nat → oR} {D : Nat} {I : Option ((Nat → oR) × (Nat → Nat → Nat → oS))} {tx : Nat → Int32} (hV : p_dp D V) (hD : D ≤ 64) (hI : ∀ C T, I = some (C, T) → p_dp 64 C ∧ ∀ q b c os q2 c2, T q b c = .inr (os, q2, c2) → wfQ b os 0 0) {q b c : Nat} {os : oL} {q2 c2 : Nat} (h : p_t0 V I tx q b c = .inr (os, q2, c2)) : wfQ b os 0 0 := by
  unfold p_t0 at h
  split at h
  · cases h
  · rename_i kd hk
    obtain ⟨k1, k2⟩ := x_kd_ub hk
    split at h
    · cases h
    · split at h
      · rcases I with _ | ⟨C, T⟩
        · cases h
        · obtain ⟨o1, q1, h1, h⟩ := p_b3_r h
          obtain ⟨o2, q3, c3, h2, h⟩ := p_c3_r h
          cases h
          obtain ⟨i1, i2⟩ := hI C T rfl
          rw [List.append_assoc]
          exact wfQ_app (wfQ_hl _ _ _ _ (i1 _ _ _ 0 h1 (by omega))) (wfQ_if rfl (i2 _ _ _ _ _ _ h2))
      · obtain ⟨o1, q1, h1, h⟩ := p_b3_r h
        cases h
        exact wfQ_s1 hV hD (by omega) k2 h1
theorem wfQ_st {tx : Nat → Int32} : ∀ (k : Nat), k ≤ 6 → ∀ q b c os q2 c2, p_st tx k q b c = .inr (os, q2, c2) → wfQ b os 0 0
  | 0, _, q, b, c, os, q2, c2, h => wfQ_t0 (dp_su 0) (by omega) (fun C T e => by cases e) h
  | k + 1, hk, q, b, c, os, q2, c2, h => wfQ_t0 (dp_su (k + 1)) (by omega) (fun C T e => by
      cases e
      exact ⟨p_dp_mono (dp_or (by omega) (dp_tk k)) (by omega), wfQ_st k (by omega)⟩) h
theorem wfQ_hb {tx : Nat → Int32} : ∀ (m q b c : Nat) (os : oL) (q2 c2 : Nat), p_hb tx m q b c = .inr (os, q2, c2) → wfQ b os 0 0 := by
  intro m
  induction m with
  | zero => intro q b c os q2 c2 h; cases h
  | succ m ih =>
    intro q b c os q2 c2 h
    unfold p_hb at h
    split at h
    · cases h; exact wfQ_1 (Or.inr (Or.inl ⟨rfl, rfl⟩))
    · obtain ⟨o1, q3, c3, h1, h⟩ := p_c3_r h
      obtain ⟨o2, q4, c4, h2, h⟩ := p_c3_r h
      cases h
      exact wfQ_app (wfQ_st 6 (by omega) _ _ _ _ _ _ h1) (ih _ _ _ _ _ _ h2)
