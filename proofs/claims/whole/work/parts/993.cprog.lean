/-! ClickOrders: the reader reads a program. -/
def c_bd (x : Int32) : xVn := fun a b c d => o_b5 (xF_269 15 a b c d) (fun v a b c d => if v = 0 then o_b5 (xF_269 8 a b c d) (fun v a b c d => if v = 0 then o_b5 (xF_269 17 a b c d) (fun v a b c d => if v = 0 then xF_276 1 x a b c d else if x_pr (b 4) = true then xF_256 (j_u2 a (b 4) 8 (a (b 4) 3)) b c d else none) else if x_pr (b 4) = true then xF_256 (j_u2 a (b 4) 7 (a (b 4) 3)) b c d else none) else xF_257 x a b c d)
section CP
variable {tx : Nat → Int32} {n p : Nat} {mr : Nat → Nat} {al : jAl}
theorem c_47 {nn : Nat} {x3 : Int32} {sc ar : jSc} : xF_255_47 (nn + 1) x3 sc mr ar al = if sc 756 1 < x3 then some (sc 756 4, sc, mr, ar, al) else o_b5 (xF_272 sc mr ar al) (fun v a b c d => if v = 0 then o_b4 (c_bd (a 756 2) a b c d) (fun a b c d => xF_255_47 nn (x3 + 1) a b c d) else some (a 756 4, a, b, c, d)) := by
  conv => lhs; unfold xF_255_47
  split
  · rfl
  · rcases xF_272 sc mr ar al with _ | ⟨v, a, b, c, d⟩
    · rfl
    · rw [ob5, ob5]
      split
      · unfold c_bd
        rcases xF_269 15 a b c d with _ | ⟨v1, a1, b1, c1, d1⟩
        · rfl
        · rw [ob5, ob5]
          split
          · rcases xF_269 8 a1 b1 c1 d1 with _ | ⟨v2, a2, b2, c2, d2⟩
            · rfl
            · rw [ob5, ob5]
              split
              · rcases xF_269 17 a2 b2 c2 d2 with _ | ⟨v3, a3, b3, c3, d3⟩
                · rfl
                · rw [ob5, ob5]
                  split
                  · rfl
                  · split
                    · rfl
                    · rfl
              · split
                · rfl
                · rfl
          · rfl
      · rfl
theorem c_hp {C : Nat → oR} {base ar : jSc} {g : pG} {Q w : Nat} (hp : x_pr p = true) (hmr : mr 4 = p) (hn : n ≤ 600) (hC : cPV n tx p mr 0 (xG_261 40 0) C) (hCl : p_ln C) (hG : cG n tx p base ar Q g) (hw : Q + 1 ≤ w) (hwn : w ≤ n) :
    (∀ o1 q2, C w = .inr (o1, q2) → tx (x_nb tx q2) = 59 → Q < x_nb tx q2 + 1 ∧ x_nb tx q2 + 1 ≤ n ∧ ∃ sc2 ar2, xF_256 (cA base w) mr ar al = some (sc2, mr, ar2, al) ∧ cG n tx p sc2 ar2 (x_nb tx q2 + 1) (g.1 ++ (o1 ++ [(16, 0)]), g.2) ∧ cFr p base ar sc2 ar2) ∧
    (∀ kd pl, (C w = .inl (kd, pl) ∨ ∃ o1 q2, C w = .inr (o1, q2) ∧ ¬ tx (x_nb tx q2) = 59 ∧ (kd, pl) = (1, x_nb tx q2)) → ∃ sc2 ar2, xF_256 (cA base w) mr ar al = some (sc2, mr, ar2, al) ∧ cFB n kd pl sc2 ∧ cFr p base ar sc2 ar2) := by
  have hx := hG.1.1.1
  have r := c_fiR (al := al) hp hmr hn hG.1 hC hCl hw hwn
  refine ⟨fun o1 q2 h1 h59 => ?_, fun kd pl hv => ?_⟩
  · have b0 := (x_nb_ok hx q2).1
    have l1 := hCl _ _ _ h1
    obtain ⟨r1, sc2, ar2, r2, r3, r4⟩ := r.1 (o1 ++ [(16, 0)]) (x_nb tx q2 + 1) (by rw [h1]; show p_sg tx q2 59 (fun q4 => .inr (o1 ++ [(16, 0)], q4)) = _; unfold p_sg; rw [if_pos h59])
    exact ⟨by omega, r1, sc2, ar2, r2, cG_T hp hG r4 r3 r1 (by simp only [List.length_append, List.length_cons, List.length_nil]; omega), cFr_T r4⟩
  · rcases hv with h1 | ⟨o1, q2, h1, h59, he⟩
    · obtain ⟨sc2, ar2, r2, r4⟩ := r.2 kd pl (by rw [h1]; rfl)
      exact ⟨sc2, ar2, r2, cFB_B r4, cFr_B r4⟩
    · cases he
      obtain ⟨sc2, ar2, r2, r4⟩ := r.2 1 (x_nb tx q2) (by rw [h1]; show p_sg tx q2 59 (fun q4 => .inr (o1 ++ [(16, 0)], q4)) = _; unfold p_sg; rw [if_neg h59])
      exact ⟨sc2, ar2, r2, cFB_B r4, cFr_B r4⟩
theorem c_pt {sc ar : jSc} {g : pG} {Q : Nat} (hp : x_pr p = true) (hmr : mr 4 = p) (hn : n ≤ 600) (hG : cG n tx p sc ar Q g) (hQ : x_nb tx Q = Q) :
    (∀ g2 q2, p_pt tx Q g = .inr (g2, q2) → Q < q2 ∧ q2 ≤ n ∧ ∃ sc2 ar2, c_bd (nI Q) sc mr ar al = some (sc2, mr, ar2, al) ∧ cG n tx p sc2 ar2 q2 g2 ∧ cFr p sc ar sc2 ar2) ∧
    (∀ kd pl, p_pt tx Q g = .inl (kd, pl) → ∃ sc2 ar2, c_bd (nI Q) sc mr ar al = some (sc2, mr, ar2, al) ∧ cFB n kd pl sc2 ∧ cFr p sc ar sc2 ar2) := by
  have hne := x_pr_ne hp
  have hK := hG.1
  have hT := hK.1
  have hq := hK.2.2.2.2.2.1
  have esc : cA sc Q = sc := cA_i hK.2.1
  have hwe : x_we tx Q ≤ n := x_we_lt hT.1 hq
  obtain ⟨w1, w2⟩ := c_tk (tx := tx) (n := n) (p := p) (mr := mr) hp hmr hn 6 38 (by omega) (by omega)
  have hC := (c_or hp hmr hn w1 w2 (ln_tk 6)).1
  have hCl : p_ln (p_or (p_tk tx 6) tx) := ln_or (ln_tk 6)
  have wd : ∀ {s : Nat} {w : List Nat}, x_sw s w → xF_269 s sc mr ar al = some (if x_is tx Q w then 1 else 0, if x_is tx Q w then cA sc (Q + w.length) else sc, mr, ar, al) := by
    intro s w hs
    have := c_word (mr := mr) (al := al) hT hq hs
    rw [hQ, esc] at this
    exact this
  have ew : c_bd (nI Q) sc mr ar al = c_bd (nI Q) sc mr ar al := rfl
  conv at ew => rhs; unfold c_bd
  rw [wd x_sw_on, ob5] at ew
  unfold p_pt
  by_cases c1 : x_is tx Q w_on
  · rw [if_pos c1, if_pos c1, if_neg (by decide), ← c1.1] at ew
    rw [if_pos c1]
    have l := c1.1
    rw [show w_on.length = 2 from rfl] at l
    obtain ⟨v1, v2⟩ := c_hd (al := al) (Q := Q) hp hmr hn (cG_A (w := x_we tx Q) hp hG (by omega) hwe) hq
    rw [← ew] at v1 v2
    rcases pe : p_ev tx (x_we tx Q) with ⟨kd1, pl1⟩ | ⟨e, q2⟩
    · refine ⟨fun g2 q2 hpp => (by cases hpp), fun kd pl hpp => ?_⟩
      cases hpp
      obtain ⟨sc2, ar2, r1, r2, r3⟩ := v2 _ _ (Or.inl pe)
      exact ⟨sc2, ar2, r1, r2, cFr_tr cFr_c r3⟩
    · show (∀ g2 q4, (if ¬ g.2.1 e = none then _ else if tx (x_nb tx q2) = 123 then _ else _) = _ → _) ∧ (∀ kd pl, (if ¬ g.2.1 e = none then _ else if tx (x_nb tx q2) = 123 then _ else _) = _ → _)
      by_cases h0 : g.2.1 e = none
      · rw [if_neg (fun z => z h0)]
        by_cases h123 : tx (x_nb tx q2) = 123
        · rw [if_pos h123]
          rcases ph : p_hb tx 700 (x_nb tx q2 + 1) g.1.length g.2.2.2.2 with ⟨kd1, pl1⟩ | ⟨seg, q4, c4⟩
          · refine ⟨fun g2 q2 hpp => (by cases hpp), fun kd pl hpp => ?_⟩
            cases hpp
            obtain ⟨sc2, ar2, r1, r2, r3⟩ := v2 _ _ (Or.inr ⟨e, q2, pe, Or.inr ⟨h0, Or.inr ⟨h123, ph⟩⟩⟩)
            exact ⟨sc2, ar2, r1, r2, cFr_tr cFr_c r3⟩
          · refine ⟨fun g2 q2 hpp => ?_, fun kd pl hpp => (by cases hpp)⟩
            cases hpp
            obtain ⟨r0, r1, sc2, ar2, r2, r3, r4⟩ := v1 _ _ pe h0 h123 _ _ _ ph
            exact ⟨by omega, r1, sc2, ar2, r2, r3, cFr_tr cFr_c r4⟩
        · rw [if_neg h123]
          refine ⟨fun g2 q2 hpp => (by cases hpp), fun kd pl hpp => ?_⟩
          cases hpp
          obtain ⟨sc2, ar2, r1, r2, r3⟩ := v2 1 (x_nb tx q2) (Or.inr ⟨e, q2, pe, Or.inr ⟨h0, Or.inl ⟨h123, rfl⟩⟩⟩)
          exact ⟨sc2, ar2, r1, r2, cFr_tr cFr_c r3⟩
      · rw [if_pos h0]
        refine ⟨fun g2 q2 hpp => (by cases hpp), fun kd pl hpp => ?_⟩
        cases hpp
        obtain ⟨sc2, ar2, r1, r2, r3⟩ := v2 4 Q (Or.inr ⟨e, q2, pe, Or.inl ⟨h0, rfl⟩⟩)
        exact ⟨sc2, ar2, r1, r2, cFr_tr cFr_c r3⟩
  · rw [if_neg c1, if_neg c1, if_pos rfl, wd x_sw_harm, ob5] at ew
    rw [if_neg c1]
    have fld : ∀ k : Nat, ¬ k = 3 → j_u2 (cA sc (x_we tx Q)) p k (cA sc (x_we tx Q) p 3) = cA (j_u2 sc p k (sc p 3)) (x_we tx Q) := fun k _ => by
      rw [cA_n (by omega)]
      exact u2_c (by omega)
    by_cases c2 : x_is tx Q w_harm
    · rw [if_pos c2, if_pos c2, if_neg (by decide), ← c2.1, hmr, if_pos hp, fld 7 (by decide)] at ew
      rw [if_pos c2]
      have l := c2.1
      rw [show w_harm.length = 4 from rfl] at l
      obtain ⟨v1, v2⟩ := c_hp (al := al) (w := x_we tx Q) hp hmr hn hC hCl (cGs7 (x := x_we tx Q) hp hG) (by omega) hwe
      rw [← ew] at v1 v2
      rcases pe : p_or (p_tk tx 6) tx (x_we tx Q) with ⟨kd1, pl1⟩ | ⟨o1, q2⟩
      · refine ⟨fun g2 q2 hpp => (by cases hpp), fun kd pl hpp => ?_⟩
        cases hpp
        obtain ⟨sc2, ar2, r1, r2, r3⟩ := v2 _ _ (Or.inl pe)
        exact ⟨sc2, ar2, r1, r2, cFr_tr (cFr_p (k := 7) (by decide)) r3⟩
      · show (∀ g2 q4, (if tx (x_nb tx q2) = 59 then _ else _) = _ → _) ∧ (∀ kd pl, (if tx (x_nb tx q2) = 59 then _ else _) = _ → _)
        by_cases h59 : tx (x_nb tx q2) = 59
        · rw [if_pos h59]
          refine ⟨fun g2 q4 hpp => ?_, fun kd pl hpp => (by cases hpp)⟩
          cases hpp
          obtain ⟨r0, r1, sc2, ar2, r2, r3, r4⟩ := v1 _ _ pe h59
          exact ⟨r0, r1, sc2, ar2, r2, r3, cFr_tr (cFr_p (k := 7) (by decide)) r4⟩
        · rw [if_neg h59]
          refine ⟨fun g2 q4 hpp => (by cases hpp), fun kd pl hpp => ?_⟩
          cases hpp
          obtain ⟨sc2, ar2, r1, r2, r3⟩ := v2 1 (x_nb tx q2) (Or.inr ⟨o1, q2, pe, h59, rfl⟩)
          exact ⟨sc2, ar2, r1, r2, cFr_tr (cFr_p (k := 7) (by decide)) r3⟩
    · rw [if_neg c2, if_neg c2, if_pos rfl, wd x_sw_place, ob5] at ew
      rw [if_neg c2]
      by_cases c3 : x_is tx Q w_place
      · rw [if_pos c3, if_pos c3, if_neg (by decide), ← c3.1, hmr, if_pos hp, fld 8 (by decide)] at ew
        rw [if_pos c3]
        have l := c3.1
        rw [show w_place.length = 5 from rfl] at l
        obtain ⟨v1, v2⟩ := c_hp (al := al) (w := x_we tx Q) hp hmr hn hC hCl (cGs8 (x := x_we tx Q) hp hG) (by omega) hwe
        rw [← ew] at v1 v2
        rcases pe : p_or (p_tk tx 6) tx (x_we tx Q) with ⟨kd1, pl1⟩ | ⟨o1, q2⟩
        · refine ⟨fun g2 q2 hpp => (by cases hpp), fun kd pl hpp => ?_⟩
          cases hpp
          obtain ⟨sc2, ar2, r1, r2, r3⟩ := v2 _ _ (Or.inl pe)
          exact ⟨sc2, ar2, r1, r2, cFr_tr (cFr_p (k := 8) (by decide)) r3⟩
        · show (∀ g2 q4, (if tx (x_nb tx q2) = 59 then _ else _) = _ → _) ∧ (∀ kd pl, (if tx (x_nb tx q2) = 59 then _ else _) = _ → _)
          by_cases h59 : tx (x_nb tx q2) = 59
          · rw [if_pos h59]
            refine ⟨fun g2 q4 hpp => ?_, fun kd pl hpp => (by cases hpp)⟩
            cases hpp
            obtain ⟨r0, r1, sc2, ar2, r2, r3, r4⟩ := v1 _ _ pe h59
            exact ⟨r0, r1, sc2, ar2, r2, r3, cFr_tr (cFr_p (k := 8) (by decide)) r4⟩
          · rw [if_neg h59]
            refine ⟨fun g2 q4 hpp => (by cases hpp), fun kd pl hpp => ?_⟩
            cases hpp
            obtain ⟨sc2, ar2, r1, r2, r3⟩ := v2 1 (x_nb tx q2) (Or.inr ⟨o1, q2, pe, h59, rfl⟩)
            exact ⟨sc2, ar2, r1, r2, cFr_tr (cFr_p (k := 8) (by decide)) r3⟩
      · rw [if_neg c3, if_neg c3, if_pos rfl, show (1 : Int32) = nI 1 from rfl, c_faults] at ew
        rw [if_neg c3]
        refine ⟨fun g2 q4 hpp => (by cases hpp), fun kd pl hpp => ?_⟩
        cases hpp
        have B := cB_F (kd := 1) (pl := Q) (q2 := Q) hp hK (by omega) hq hn
        rw [esc] at B
        exact ⟨_, _, ew, cFB_B B, cFr_B B⟩
end CP
