/-! STEPS: the parser, the orders' machine on the reference's memory. -/
/-- which step stands at q: 0 a name, 1 to 10 the words -/
def x_kd (tx : Nat → Int32) (q : Nat) : Option Nat :=
  if ¬ x_le tx q = none then some 0 else if x_is tx q w_show then some 1 else if x_is tx q w_hide then some 2 else if x_is tx q w_grey then some 3 else if x_is tx q w_live then some 4 else if x_is tx q w_clock then some 5 else
  if x_is tx q w_ask then some 6 else if x_is tx q w_stop then some 7 else if x_is tx q w_save then some 8 else if x_is tx q w_fail then some 9 else if x_is tx q w_if then some 10 else none
def x_ki (o : Option Nat) : Int32 := match o with
  | some k => nI k
  | none => -1
theorem r_stepHere {S : Nat → Int32} {ar : jSc} {n q : Nat} {tx : Nat → Int32} (hT : r_TX S ar n tx) (hq : q ≤ n) : rF_28 (sA S q) ar = some (x_ki (x_kd tx (x_nb tx q)), sA S (x_nb tx q), ar) := by
  have hn := hT.1.1
  have b1 := x_nb_le hT.1 hq
  have e0 := x_nb_idem hT.1 q
  unfold rF_28 x_kd
  rw [r_letter hT (by omega), ob3]
  rcases hl : x_le tx (x_nb tx q) with _ | l
  · rw [if_neg (show ¬ ¬ (none : Option Nat) = none from fun z => z rfl)]
    show (if (-1 : Int32) = -1 then _ else _) = _
    rw [if_pos rfl]
    rw [r_w_show hT (by omega), e0, ob3]
    by_cases c1 : x_is tx (x_nb tx q) w_show
    · rw [if_pos c1, if_neg (by decide), if_pos c1]; rfl
    rw [if_neg c1, if_pos rfl, if_neg c1, r_w_hide hT (by omega), e0, ob3]
    by_cases c2 : x_is tx (x_nb tx q) w_hide
    · rw [if_pos c2, if_neg (by decide), if_pos c2]; rfl
    rw [if_neg c2, if_pos rfl, if_neg c2, r_w_grey hT (by omega), e0, ob3]
    by_cases c3 : x_is tx (x_nb tx q) w_grey
    · rw [if_pos c3, if_neg (by decide), if_pos c3]; rfl
    rw [if_neg c3, if_pos rfl, if_neg c3, r_w_live hT (by omega), e0, ob3]
    by_cases c4 : x_is tx (x_nb tx q) w_live
    · rw [if_pos c4, if_neg (by decide), if_pos c4]; rfl
    rw [if_neg c4, if_pos rfl, if_neg c4, r_w_clock hT (by omega), e0, ob3]
    by_cases c5 : x_is tx (x_nb tx q) w_clock
    · rw [if_pos c5, if_neg (by decide), if_pos c5]; rfl
    rw [if_neg c5, if_pos rfl, if_neg c5, r_w_ask hT (by omega), e0, ob3]
    by_cases c6 : x_is tx (x_nb tx q) w_ask
    · rw [if_pos c6, if_neg (by decide), if_pos c6]; rfl
    rw [if_neg c6, if_pos rfl, if_neg c6, r_w_stop hT (by omega), e0, ob3]
    by_cases c7 : x_is tx (x_nb tx q) w_stop
    · rw [if_pos c7, if_neg (by decide), if_pos c7]; rfl
    rw [if_neg c7, if_pos rfl, if_neg c7, r_w_save hT (by omega), e0, ob3]
    by_cases c8 : x_is tx (x_nb tx q) w_save
    · rw [if_pos c8, if_neg (by decide), if_pos c8]; rfl
    rw [if_neg c8, if_pos rfl, if_neg c8, r_w_fail hT (by omega), e0, ob3]
    by_cases c9 : x_is tx (x_nb tx q) w_fail
    · rw [if_pos c9, if_neg (by decide), if_pos c9]; rfl
    rw [if_neg c9, if_pos rfl, if_neg c9, r_w_if hT (by omega), e0, ob3]
    by_cases c10 : x_is tx (x_nb tx q) w_if
    · rw [if_pos c10, if_neg (by decide), if_pos c10]; rfl
    rw [if_neg c10, if_pos rfl, if_neg c10]; rfl
  · have l1 := (x_le_ok hl).1
    rw [if_pos (show ¬ (some l : Option Nat) = none from fun z => by cases z)]
    show (if nI l = -1 then _ else _) = _
    rw [if_neg (by rcases (show l = 0 ∨ l = 1 ∨ l = 2 ∨ l = 3 ∨ l = 4 ∨ l = 5 ∨ l = 6 ∨ l = 7 by omega) with rfl | rfl | rfl | rfl | rfl | rfl | rfl | rfl <;> decide)]
    rfl
def p_nm (tx : Nat → Int32) (q : Nat) (k : Nat → Nat → oR) : oR := if ¬ x_dg (tx (x_nb tx q)) then .inl (1, x_nb tx q) else if x_nu tx (x_nb tx q) ≤ 999 then k (x_nu tx (x_nb tx q)) (x_de tx (x_nb tx q)) else .inl (2, x_nb tx q)
/-- a step that is no if, of the kind kd, at q -/
def p_s1 (V : Nat → oR) (tx : Nat → Int32) (kd q : Nat) : oR :=
  if kd = 0 then p_sg tx (q + 1) 61 (fun q2 => p_bd (V q2) (fun os q3 => p_sg tx q3 59 (fun q4 => .inr (os ++ [(18, nI (iN (tx q) - 97))], q4)))) else
  if kd ≤ 4 then p_dg tx (x_we tx q) 7 (fun d q2 => p_sg tx q2 59 (fun q3 => .inr ([(18 + kd, nI d)], q3))) else
  if kd = 5 then p_dg tx (x_we tx q) 3 (fun d q2 => p_nm tx q2 (fun h q3 => p_sg tx q3 59 (fun q4 => .inr ([(23, nI (d * 1000 + h))], q4)))) else
  if kd = 7 then p_dg tx (x_we tx q) 3 (fun d q2 => p_sg tx q2 59 (fun q3 => .inr ([(25, nI d)], q3))) else
  if kd = 9 then p_sg tx (x_we tx q) 59 (fun q3 => .inr ([(27, -1)], q3)) else
  p_dg tx (x_we tx q) 3 (fun d q2 => p_bd (V q2) (fun os q3 => p_sg tx q3 59 (fun q4 => .inr (os ++ [(18 + kd, nI d)], q4))))
abbrev oS : Type := (Nat × Nat) ⊕ (oL × Nat × Nat)
def p_b3 (r : oR) (f : oL → Nat → oS) : oS := match r with
  | .inl e => .inl e
  | .inr (os, q) => f os q
def p_c3 (r : oS) (f : oL → Nat → Nat → oS) : oS := match r with
  | .inl e => .inl e
  | .inr (os, q, c) => f os q c
def p_i3 (I : Option ((Nat → oR) × (Nat → Nat → Nat → oS))) (q : Nat) (k : (Nat → oR) → (Nat → Nat → Nat → oS) → oS) : oS := match I with
  | none => .inl (3, q)
  | some (a, b) => k a b
/-- a step at q, its orders to stand from base on, cnt steps before it; V values, I conditions and steps with one more open -/
def p_t0 (V : Nat → oR) (I : Option ((Nat → oR) × (Nat → Nat → Nat → oS))) (tx : Nat → Int32) (q base cnt : Nat) : oS :=
  match x_kd tx (x_nb tx q) with
  | none => .inl (1, x_nb tx q)
  | some kd => if cnt = 60 then .inl (3, x_nb tx q) else if kd = 10 then
      p_i3 I (x_nb tx q) (fun C T => p_b3 (C (x_we tx (x_nb tx q))) (fun os1 q2 => p_c3 (T q2 (base + os1.length + 1) (cnt + 1)) (fun os2 q3 c3 => .inr (os1 ++ [(17, nI (base + os1.length + 1 + os2.length))] ++ os2, q3, c3))))
    else p_b3 (p_s1 V tx kd (x_nb tx q)) (fun os q2 => .inr (os, q2, cnt + 1))
def p_st (tx : Nat → Int32) : Nat → Nat → Nat → Nat → oS
  | 0 => p_t0 (p_su tx 0) none tx
  | k + 1 => p_t0 (p_su tx (k + 1)) (some (p_or (p_tk tx k) tx, p_st tx k)) tx
/-- orders that only think -/
def o_va (os : oL) : Prop := ∀ o ∈ os, o.1 < 16
theorem o_va_app {a b : oL} (h1 : o_va a) (h2 : o_va b) : o_va (a ++ b) := fun o h => (List.mem_append.mp h).elim (h1 o) (h2 o)
theorem o_va_1 {o : Nat} {m : Int32} (h : o < 16) : o_va [(o, m)] := fun x hx => by
  have := List.mem_singleton.mp hx
  subst this
  exact h
/-- a parser all of whose orders think -/
def p_va (p : Nat → oR) : Prop := ∀ q os q2, p q = .inr (os, q2) → o_va os
theorem p_sg_r {tx : Nat → Int32} {q : Nat} {c : Int32} {k : Nat → oR} {os : oL} {q2 : Nat} (h : p_sg tx q c k = .inr (os, q2)) : tx (x_nb tx q) = c ∧ k (x_nb tx q + 1) = .inr (os, q2) := by
  unfold p_sg at h
  split at h
  · rename_i e; exact ⟨e, h⟩
  · cases h
theorem va_lp {u : Nat → oR} {sg : Int32 → Option Nat} {tx : Nat → Int32} (hu : p_va u) (hs : ∀ c od, sg c = some od → od < 16) : ∀ (m : Nat) (os : oL) (q : Nat) (os2 : oL) (q2 : Nat), o_va os → p_lp u sg tx m os q = .inr (os2, q2) → o_va os2 := by
  intro m
  induction m with
  | zero => intro os q os2 q2 ho h; cases h; exact ho
  | succ m ih =>
    intro os q os2 q2 ho h
    unfold p_lp at h
    split at h
    · cases h; exact ho
    · rename_i od hod
      obtain ⟨o1, q1, h1, h2⟩ := p_bd_r h
      exact ih _ _ _ _ (o_va_app (o_va_app ho (hu _ _ _ h1)) (o_va_1 (hs _ _ hod))) h2
theorem va_wl {u : Nat → oR} {wd : List Nat} {od : Nat} {tx : Nat → Int32} (hu : p_va u) (hs : od < 16) : ∀ (m : Nat) (os : oL) (q : Nat) (os2 : oL) (q2 : Nat), o_va os → p_wl u wd od tx m os q = .inr (os2, q2) → o_va os2 := by
  intro m
  induction m with
  | zero => intro os q os2 q2 ho h; cases h; exact ho
  | succ m ih =>
    intro os q os2 q2 ho h
    unfold p_wl at h
    split at h
    · obtain ⟨o1, q1, h1, h2⟩ := p_bd_r h
      exact ih _ _ _ _ (o_va_app (o_va_app ho (hu _ _ _ h1)) (o_va_1 hs)) h2
    · cases h; exact ho
theorem va_un {V : Option (Nat → oR)} {tx : Nat → Int32} (hV : ∀ p, V = some p → p_va p) : p_va (p_un V tx) := by
  intro q os q2 h
  unfold p_un at h
  split at h
  · split at h
    · cases h; exact o_va_1 (by decide)
    · cases h
  · split at h
    · cases h; exact o_va_1 (by decide)
    · unfold p_uw at h
      split at h
      · cases h; exact o_va_1 (by decide)
      · split at h
        · unfold p_dg at h
          split at h
          · cases h
          · split at h
            · cases h
            · cases h; exact o_va_1 (by decide)
        · split at h
          · split at h
            · rcases V with _ | V
              · cases h
              · obtain ⟨o1, q1, h1, h⟩ := p_bd_r h
                obtain ⟨-, h⟩ := p_sg_r h
                obtain ⟨o2, q3, h2, h⟩ := p_bd_r h
                obtain ⟨-, h⟩ := p_sg_r h
                cases h
                exact o_va_app (o_va_app (hV V rfl _ _ _ h1) (hV V rfl _ _ _ h2)) (o_va_1 (by split <;> decide))
            · cases h
          · split at h
            · rcases V with _ | V
              · cases h
              · obtain ⟨o1, q1, h1, h⟩ := p_bd_r h
                obtain ⟨-, h⟩ := p_sg_r h
                cases h
                exact hV V rfl _ _ _ h1
            · cases h
theorem va_s0 {V : Option (Nat → oR)} {tx : Nat → Int32} (hV : ∀ p, V = some p → p_va p) : p_va (p_s0 V tx) := by
  have h1 : p_va (p_pr V tx) := by
    intro q os q2 h
    obtain ⟨o1, q1, h1, h⟩ := p_bd_r h
    refine va_lp (va_un hV) (fun c od hc => ?_) _ _ _ _ _ (va_un hV _ _ _ h1) h
    unfold sg_mul at hc
    split at hc
    · cases hc; decide
    · split at hc
      · cases hc; decide
      · cases hc
  intro q os q2 h
  obtain ⟨o1, q1, h2, h⟩ := p_bd_r h
  refine va_lp h1 (fun c od hc => ?_) _ _ _ _ _ (h1 _ _ _ h2) h
  unfold sg_add at hc
  split at hc
  · cases hc; decide
  · split at hc
    · cases hc; decide
    · cases hc
theorem va_su {tx : Nat → Int32} : ∀ k, p_va (p_su tx k)
  | 0 => va_s0 (fun p h => by cases h)
  | k + 1 => va_s0 (fun p h => by cases h; exact va_su k)
theorem va_or {t : Nat → oR} {tx : Nat → Int32} (ht : p_va t) : p_va (p_or t tx) := by
  have h1 : p_va (p_an t tx) := by
    intro q os q2 h
    obtain ⟨o1, q1, h1, h⟩ := p_bd_r h
    exact va_wl ht (by decide) _ _ _ _ _ (ht _ _ _ h1) h
  intro q os q2 h
  obtain ⟨o1, q1, h2, h⟩ := p_bd_r h
  exact va_wl h1 (by decide) _ _ _ _ _ (h1 _ _ _ h2) h
theorem va_te {V : Nat → oR} {W : Option ((Nat → oR) × (Nat → oR))} {tx : Nat → Int32} (hV : p_va V) (hW : ∀ t r, W = some (t, r) → p_va t ∧ p_va r) : p_va (p_te V W tx) := by
  intro q os q2 h
  unfold p_te at h
  split at h
  · rcases W with _ | ⟨t, r⟩
    · cases h
    · obtain ⟨o1, q1, h1, h⟩ := p_bd_r h
      cases h
      exact o_va_app ((hW t r rfl).1 _ _ _ h1) (o_va_1 (by decide))
  · split at h
    · rcases W with _ | ⟨t, r⟩
      · cases h
      · obtain ⟨o1, q1, h1, h⟩ := p_bd_r h
        obtain ⟨-, h⟩ := p_sg_r h
        cases h
        exact (hW t r rfl).2 _ _ _ h1
    · obtain ⟨o1, q1, h1, h⟩ := p_bd_r h
      rcases p_rl_c (tx := tx) (q := q1) (k := fun o q3 => p_bd (V q3) (fun os2 q4 => .inr (o1 ++ os2 ++ [(o, 0)], q4))) with ⟨od, hod, e⟩ | ⟨hno, e⟩
      · rw [e] at h
        obtain ⟨o2, q3, h2, h⟩ := p_bd_r h
        cases h
        exact o_va_app (o_va_app (hV _ _ _ h1) (hV _ _ _ h2)) (o_va_1 (by rcases hod with ⟨-, a⟩ | ⟨-, a⟩ | ⟨-, a⟩ <;> rw [a] <;> decide))
      · rw [e] at h; cases h
theorem va_tk {tx : Nat → Int32} : ∀ k, p_va (p_tk tx k)
  | 0 => va_te (va_su 0) (fun t r h => by cases h)
  | k + 1 => va_te (va_su (k + 1)) (fun t r h => by cases h; exact ⟨va_tk k, va_or (va_tk k)⟩)
/-- the orders' machine on the reference's memory: orders O, len of them; from the place at on, with the stack st -/
def w_tl (o : Nat) (st : List Int32) : List Int32 := if o = 18 ∨ o = 24 ∨ o = 26 then st.tail else st
def w_run (O : Nat → Nat × Int32) (len : Nat) : Nat → Nat → List Int32 → (Nat → Int32) → jSc → Option ((Nat → Int32) × jSc)
  | 0, _, _, _, _ => none
  | f + 1, at_, st, S, ar => if len ≤ at_ then some (S, ar) else
    if (O at_).1 < 16 then w_run O len f (at_ + 1) (o_th (ar 13) (S 25) st (O at_)) (upd S 27 (o_r1 (S 27) (O at_))) (if S 29 = -1 then ar else o_a1 (iN (S 29)) ar (O at_)) else
    if (O at_).1 = 16 then some (S, ar) else
    if (O at_).1 = 17 then (if st.headD 0 = 0 then w_run O len f (max (at_ + 1) (iN (O at_).2)) st.tail S ar else w_run O len f (at_ + 1) st.tail S ar) else
    if (m_ef (O at_).1 (O at_).2 (st.headD 0) S ar).2.1 = 0 then w_run O len f (at_ + 1) (w_tl (O at_).1 st) (sE S (m_ef (O at_).1 (O at_).2 (st.headD 0) S ar)) (m_ef (O at_).1 (O at_).2 (st.headD 0) S ar).2.2.2 else some (sE S (m_ef (O at_).1 (O at_).2 (st.headD 0) S ar), (m_ef (O at_).1 (O at_).2 (st.headD 0) S ar).2.2.2)
def w_sg (O : Nat → Nat × Int32) : Nat → oL → Prop
  | _, [] => True
  | b, o :: r => O b = o ∧ w_sg O (b + 1) r
theorem w_sg_app {O : Nat → Nat × Int32} : ∀ {os1 : oL} {b : Nat} {os2 : oL}, w_sg O b (os1 ++ os2) ↔ w_sg O b os1 ∧ w_sg O (b + os1.length) os2
  | [], b, os2 => by simp [w_sg]
  | o :: r, b, os2 => by
    simp only [List.cons_append, w_sg, List.length_cons]
    rw [w_sg_app (os1 := r), show b + (r.length + 1) = b + 1 + r.length by omega, and_assoc]
def asr (S : Nat → Int32) (os : oL) (ar : jSc) : jSc := if S 29 = -1 then ar else o_as (iN (S 29)) os ar
theorem w_think {O : Nat → Nat × Int32} {len f : Nat} : ∀ (os : oL) (b : Nat) (st : List Int32) (S : Nat → Int32) (ar : jSc), (S 29 = -1 ∨ S 29 = 0 ∨ S 29 = 1) → o_va os → w_sg O b os → b + os.length ≤ len → w_run O len (f + os.length) b st S ar = w_run O len f (b + os.length) (o_ev (ar 13) (S 25) os st) (upd S 27 (o_rd os (S 27))) (asr S os ar) := by
  intro os
  induction os with
  | nil =>
    intro b st S ar hw _ _ _
    show w_run O len f b st S ar = w_run O len f b st (upd S 27 (S 27)) (asr S [] ar)
    rw [up_3, show asr S [] ar = ar from by unfold asr; split <;> rfl]
  | cons o r ih =>
    intro b st S ar hw hv hs hl
    simp only [List.length_cons] at hl
    have hlt := hv o (List.mem_cons_self)
    show w_run O len (f + r.length + 1) b st S ar = _
    conv => lhs; unfold w_run
    rw [if_neg (by omega), hs.1, if_pos hlt]
    rw [ih (b + 1) _ (upd S 27 (o_r1 (S 27) o)) _ hw (fun x hx => hv x (List.mem_cons_of_mem _ hx)) hs.2 (by omega)]
    have e1 : (if S 29 = -1 then ar else o_a1 (iN (S 29)) ar o) 13 = ar 13 := by
      split
      · rfl
      · rename_i hc
        unfold o_a1
        split
        · exact j_u2_row _ _ _ _ (by omega)
        · rfl
    rw [e1, show b + 1 + r.length = b + (r.length + 1) by omega]
    have e2 : upd (upd S 27 (o_r1 (S 27) o)) 27 (o_rd r (upd S 27 (o_r1 (S 27) o) 27)) = upd S 27 (o_rd (o :: r) (S 27)) := by
      rw [up_2, up_0]; rfl
    have e3 : asr (upd S 27 (o_r1 (S 27) o)) r (if S 29 = -1 then ar else o_a1 (iN (S 29)) ar o) = asr S (o :: r) ar := by
      unfold asr
      show (if S 29 = -1 then _ else o_as (iN (S 29)) r _) = _
      by_cases c : S 29 = -1
      · rw [if_pos c, if_pos c, if_pos c]
      · rw [if_neg c, if_neg c, if_neg c]; rfl
    rw [e2, e3]
    rfl
