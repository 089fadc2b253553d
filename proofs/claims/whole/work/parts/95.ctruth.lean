/-! ClickOrders: the reader's conditions. -/
/-- f keeps a fault -/
def cPB (n : Nat) (tx : Nat → Int32) (p : Nat) (mr : Nat → Nat) (f : xVn) : Prop := ∀ (sc ar sc1 ar1 : jSc) (al : jAl) (kd pl : Nat), c_TX sc ar n tx → cB n p sc ar kd pl sc1 ar1 → ∃ sc2 ar2, f sc1 mr ar1 al = some (sc2, mr, ar2, al) ∧ cB n p sc ar kd pl sc2 ar2
section CC
variable {tx : Nat → Int32} {n p : Nat} {mr : Nat → Nat} {g : Int32 → xVn}
theorem c_rel {sc ar : jSc} {al : jAl} {q : Nat} (h : c_TX sc ar n tx) (hq : q ≤ n) :
    (∀ o, ((tx (x_nb tx q) = 60 ∧ o = 11) ∨ (tx (x_nb tx q) = 62 ∧ o = 12) ∨ (tx (x_nb tx q) = 61 ∧ o = 13)) → xF_262 (cA sc q) mr ar al = some (nI o, cA sc (x_nb tx q + 1), mr, ar, al)) ∧
    ((¬ tx (x_nb tx q) = 60 ∧ ¬ tx (x_nb tx q) = 62 ∧ ¬ tx (x_nb tx q) = 61) → xF_262 (cA sc q) mr ar al = some (13, cF (cA sc (x_nb tx q)) 1 (x_nb tx q), mr, ar, al)) := by
  have b1 := x_nb_le h.1 hq
  have e0 := x_nb_idem h.1 q
  have s1 := c_sign (mr := mr) (al := al) (c := 60) h hq (by decide)
  have s2 := c_sign (mr := mr) (al := al) (c := 62) h b1 (by decide)
  have s3 := c_needs (mr := mr) (al := al) (c := 61) h b1 (by decide)
  rw [e0] at s2 s3
  have ex : xF_262 (cA sc q) mr ar al = xF_262 (cA sc q) mr ar al := rfl
  conv at ex => rhs; unfold xF_262
  rw [s1, ob5] at ex
  by_cases c1 : tx (x_nb tx q) = 60
  · rw [if_pos c1, if_pos c1, if_neg (by decide)] at ex
    refine ⟨fun o ho => ?_, fun z => absurd c1 z.1⟩
    rcases ho with ⟨_, rfl⟩ | ⟨a, _⟩ | ⟨a, _⟩
    · exact ex
    · rw [c1] at a; exact absurd a (by decide)
    · rw [c1] at a; exact absurd a (by decide)
  · rw [if_neg c1, if_neg c1, if_pos rfl, s2, ob5] at ex
    by_cases c2 : tx (x_nb tx q) = 62
    · rw [if_pos c2, if_pos c2, if_neg (by decide)] at ex
      refine ⟨fun o ho => ?_, fun z => absurd c2 z.2.1⟩
      rcases ho with ⟨a, _⟩ | ⟨_, rfl⟩ | ⟨a, _⟩
      · exact absurd a c1
      · exact ex
      · rw [c2] at a; exact absurd a (by decide)
    · rw [if_neg c2, if_neg c2, if_pos rfl, s3, ob4] at ex
      by_cases c3 : tx (x_nb tx q) = 61
      · rw [if_pos c3] at ex
        refine ⟨fun o ho => ?_, fun z => absurd c3 z.2.2⟩
        rcases ho with ⟨a, _⟩ | ⟨a, _⟩ | ⟨_, rfl⟩
        · exact absurd a c1
        · exact absurd a c2
        · exact ex
      · rw [if_neg c3] at ex
        refine ⟨fun o ho => ?_, fun z => ex⟩
        rcases ho with ⟨a, _⟩ | ⟨a, _⟩ | ⟨a, _⟩
        · exact absurd a c1
        · exact absurd a c2
        · exact absurd a c3
theorem cZ_rel {sc ar : jSc} {al : jAl} (h : cZ n tx sc ar) : xF_262 sc mr ar al = some (13, sc, mr, ar, al) := by
  unfold xF_262
  rw [cZ_sign h (by decide), ob5, if_pos rfl, cZ_sign h (by decide), ob5, if_pos rfl, cZ_needs h (by decide), ob4]
theorem c_testB (hp : x_pr p = true) (hmr : mr 4 = p) (hVF : cPF n tx mr (xG_263 40 0)) : cPB n tx p mr (xF_261 g 2) := by
  intro sc ar sc1 ar1 al kd pl hT hB
  have h := cB_Z hp hT hB
  obtain ⟨v, sc3, ar3, e1, e2⟩ := cB_add (mr := mr) (al := al) (m := 0) (od := 13) hp hB (by decide)
  refine ⟨sc3, ar3, ?_, e2⟩
  unfold xF_261
  rw [if_pos (by decide), cZ_skips h, ob4, cZ_word h x_sw_not (by decide), ob5, if_pos rfl, cZ_sign h (by decide), ob5, if_pos rfl, hVF _ _ _ h, ob4, cZ_rel h, ob5, hVF _ _ _ h, ob4, hmr, if_pos hp, show (13 : Int32) = nI 13 from rfl, e1, ob5]
set_option maxHeartbeats 4000000 in
theorem c_test {o : Nat} {V : Nat → oR} {W : Option ((Nat → oR) × (Nat → oR))} (hp : x_pr p = true) (hmr : mr 4 = p) (hn : n ≤ 600) (hV : cPV n tx p mr o (xG_263 40 0) V) (hVF : cPF n tx mr (xG_263 40 0)) (hVl : p_ln V) (hW0 : W = none → o = 6) (hW : ∀ t r, W = some (t, r) → o < 6 ∧ cPV n tx p mr (o + 1) (g 2) t ∧ cPV n tx p mr (o + 1) (g 0) r ∧ p_ln t ∧ p_ln r) : cPV n tx p mr o (xF_261 g 2) (p_te V W tx) := by
  intro sc ar al q L hK
  have hne := x_pr_ne hp
  have hT := hK.1
  have hq := hK.2.2.2.2.2.1
  have hLq := hK.2.2.2.2.2.2
  have esc : cA sc q = sc := cA_i hK.2.1
  have b0 := (x_nb_ok hT.1 q).1
  have b1 := x_nb_le hT.1 hq
  have e0 := x_nb_idem hT.1 q
  have hK1 := cK_A hp hK b0 b1
  have hwe : x_we tx (x_nb tx q) ≤ n := x_we_lt hT.1 b1
  have ew : xF_261 g 2 sc mr ar al = xF_261 g 2 sc mr ar al := rfl
  conv at ew => rhs; unfold xF_261
  have s0 := c_skips (mr := mr) (al := al) hT hq
  rw [esc] at s0
  have wd := c_word (mr := mr) (al := al) hT b1 x_sw_not
  rw [e0] at wd
  have k3 := hK.2.2.1
  rw [if_pos (by decide), s0, ob4, wd, ob5, cA_2] at ew
  unfold p_te
  by_cases c1 : x_is tx (x_nb tx q) w_not
  · rw [if_pos c1, if_pos c1, if_neg (by decide)] at ew
    rw [if_pos c1]
    have e3n : x_nb tx q + 3 ≤ n := by have := c1.1; rw [show w_not.length = 3 from rfl] at this; omega
    rcases W with _ | ⟨t, r⟩
    · refine ⟨fun os q2 hpp => (by cases hpp), fun kd pl hpp => ?_⟩
      have hpp : Sum.inl (3, x_nb tx q) = Sum.inl (kd, pl) := hpp
      cases hpp
      have o6 := hW0 rfl
      subst o6
      rw [c_open6 hK, ob5, if_pos rfl] at ew
      exact ⟨_, _, ew, cB_F hp hK (by omega) b1 hn⟩
    · obtain ⟨o6, hPt, hPr, hlt, hlr⟩ := hW t r rfl
      rw [c_open hK o6, ob5, if_neg (by decide)] at ew
      have cA3 : cA sc (x_nb tx q + 3) 756 3 = nI o := (cA_k (by decide)).trans k3
      have hKO := cK_O (q2 := x_nb tx q + 3) hp hK (by omega) (by omega)
      obtain ⟨u1, u2⟩ := hPt _ _ al _ _ hKO
      refine ⟨fun os q2 hpp => ?_, fun kd pl hpp => ?_⟩
      · obtain ⟨os1, q3, p1, hpp⟩ := p_bd_r hpp
        cases hpp
        obtain ⟨a1, sc2, ar2, a2, a3, a4⟩ := u1 _ _ p1
        have l1 := hlt _ _ _ p1
        obtain ⟨sc3, ar3, f1, f2, f3⟩ := cT_add (mr := mr) (al := al) (ar := ar2) (m := 0) (od := 4) hp a4.1 (by omega) (by decide)
        have t4 := cT_tr a4 f3
        have e3 : sc3 756 3 = nI (o + 1) := (t4.2.2.1 756 3 (by decide) (by omega)).trans u2_eq
        have t5 := cT_open hp t4
        rw [cA3] at t5
        have t6 := cT_tr (cT_nil (q := x_nb tx q + 3) hp hK.2.2.2.2.1) t5
        rw [List.nil_append] at t6
        refine ⟨a1, _, ar3, ?_, ?_, t6⟩
        · rw [ew, show x_nb tx q + w_not.length = x_nb tx q + 3 from rfl, a2, ob4, hmr, if_pos hp, show (4 : Int32) = nI 4 from rfl, f1, ob5, e3, nI_pred]
        · exact (u2_nk (by decide)).trans (f2.trans a3)
      · rcases p_bd_l hpp with p1 | ⟨os1, q3, p1, hpp⟩
        · obtain ⟨sc2, ar2, a2, a3⟩ := u2 _ _ p1
          obtain ⟨v, sc3, ar3, f1, f2⟩ := cB_add (mr := mr) (al := al) (m := 0) (od := 4) hp a3 (by decide)
          have e3 : sc3 756 3 = nI (o + 1) := (f2.2.2.2.2.2.1 756 3 (by decide) (by omega)).trans u2_eq
          have t5 := cB_open hp f2
          rw [cA3] at t5
          refine ⟨_, ar3, ?_, cB_T (cT_nil (q := x_nb tx q + 3) hp hK.2.2.2.2.1) t5⟩
          rw [ew, show x_nb tx q + w_not.length = x_nb tx q + 3 from rfl, a2, ob4, hmr, if_pos hp, show (4 : Int32) = nI 4 from rfl, f1, ob5, e3, nI_pred]
        · cases hpp
  · rw [if_neg c1, if_neg c1, if_pos rfl] at ew
    rw [if_neg c1]
    have sg := c_sign (mr := mr) (al := al) (c := 91) hT b1 (by decide)
    rw [e0] at sg
    rw [sg, ob5] at ew
    by_cases k1 : tx (x_nb tx q) = 91
    · have k2 := lt_n hT.1 (q := x_nb tx q) (by rw [k1]; decide)
      rw [if_pos k1, if_pos k1, if_neg (by decide)] at ew
      rw [if_pos k1]
      rcases W with _ | ⟨t, r⟩
      · refine ⟨fun os q2 hpp => (by cases hpp), fun kd pl hpp => ?_⟩
        have hpp : Sum.inl (3, x_nb tx q) = Sum.inl (kd, pl) := hpp
        cases hpp
        have o6 := hW0 rfl
        subst o6
        rw [c_open6 hK, ob5, if_pos rfl] at ew
        exact ⟨_, _, ew, cB_F hp hK (by omega) b1 hn⟩
      · obtain ⟨o6, hPt, hPr, hlt, hlr⟩ := hW t r rfl
        rw [c_open hK o6, ob5, if_neg (by decide)] at ew
        have cA3 : cA sc (x_nb tx q + 1) 756 3 = nI o := (cA_k (by decide)).trans k3
        have hKO := cK_O (q2 := x_nb tx q + 1) hp hK (by omega) (by omega)
        obtain ⟨i1, i2⟩ := c_in (mr := mr) (al := al) (c := 93) hp hn hKO (by decide) hPr hlr
        have ew2 : xF_261 g 2 sc mr ar al = o_b4 (o_b4 (g 0 (j_u2 (cA sc (x_nb tx q + 1)) 756 3 (nI (o + 1))) mr ar al) (fun a b c2 d => xF_271 93 a b c2 d)) (fun a b c d => some (j_u2 a 756 3 (a 756 3 - 1), b, c, d)) := by
          rw [ew]
          rcases g 0 (j_u2 (cA sc (x_nb tx q + 1)) 756 3 (nI (o + 1))) mr ar al with _ | ⟨a, b, c, d⟩
          · rfl
          · rfl
        refine ⟨fun os q2 hpp => ?_, fun kd pl hpp => ?_⟩
        · obtain ⟨os1, q3, p1, hpp⟩ := p_bd_r hpp
          obtain ⟨c41, hpp⟩ := p_sg_r hpp
          cases hpp
          obtain ⟨a1, sc2, ar2, a2, a3, a4⟩ := i1 os q3 p1 c41
          have e3 : sc2 756 3 = nI (o + 1) := (a4.2.2.1 756 3 (by decide) (by omega)).trans u2_eq
          rw [ew2, a2, ob4, e3, nI_pred]
          refine ⟨a1, _, ar2, rfl, (u2_nk (by decide)).trans a3, ?_⟩
          have h4 := cT_open hp a4
          rw [cA3] at h4
          exact cT_tr (cT_nil (q := x_nb tx q + 1) hp hK.2.2.2.2.1) h4
        · have fin : ∀ kd pl, (r (x_nb tx q + 1) = .inl (kd, pl) ∨ ∃ os q3, r (x_nb tx q + 1) = .inr (os, q3) ∧ ¬ tx (x_nb tx q3) = 93 ∧ (kd, pl) = (1, x_nb tx q3)) → ∃ sc2 ar2, xF_261 g 2 sc mr ar al = some (sc2, mr, ar2, al) ∧ cB n p sc ar kd pl sc2 ar2 := by
            intro kd pl hh
            obtain ⟨sc2, ar2, a2, a3⟩ := i2 kd pl hh
            have e3 : sc2 756 3 = nI (o + 1) := (a3.2.2.2.2.2.1 756 3 (by decide) (by omega)).trans u2_eq
            rw [ew2, a2, ob4, e3, nI_pred]
            have h4 := cB_open hp a3
            rw [cA3] at h4
            exact ⟨_, ar2, rfl, cB_T (cT_nil (q := x_nb tx q + 1) hp hK.2.2.2.2.1) h4⟩
          rcases p_bd_l hpp with p1 | ⟨os1, q3, p1, hpp⟩
          · exact fin kd pl (Or.inl p1)
          · rcases p_sg_l hpp with ⟨c41, hpp⟩ | ⟨c41, he⟩
            · cases hpp
            · exact fin kd pl (Or.inr ⟨os1, q3, p1, c41, he⟩)
    · rw [if_neg k1, if_neg k1, if_pos rfl] at ew
      rw [if_neg k1]
      obtain ⟨u1, u2⟩ := hV _ _ al _ _ hK1
      have t0 := cT_nil (q := x_nb tx q) (ar := ar) hp hK.2.2.2.2.1
      have bad : ∀ (kd pl : Nat) (v1 : Nat) (sc2 ar2 : jSc), v1 < 100 → cB n p sc ar kd pl sc2 ar2 → ∃ sc3 ar3, (o_b4 (xG_263 40 0 sc2 mr ar2 al) (fun a b c d => if x_pr (b 4) = true then (o_b5 (xF_252 (b 4) (nI v1) 0 a b c d) (fun _ a b c d => some (a, b, c, d))) else none)) = some (sc3, mr, ar3, al) ∧ cB n p sc ar kd pl sc3 ar3 := by
        intro kd pl v1 sc2 ar2 hv1 hB
        have h := cB_Z hp hT hB
        obtain ⟨v, sc3, ar3, f1, f2⟩ := cB_add (mr := mr) (al := al) (m := 0) (od := v1) hp hB hv1
        exact ⟨sc3, ar3, by rw [hVF _ _ _ h, ob4, hmr, if_pos hp, f1, ob5], f2⟩
      rcases p1 : V (x_nb tx q) with ⟨kd1, pl1⟩ | ⟨os1, q2⟩
      · refine ⟨fun os q2 hpp => (by cases hpp), fun kd pl hpp => ?_⟩
        cases hpp
        obtain ⟨sc2, ar2, a2, a3⟩ := u2 _ _ p1
        have a3 := cB_T t0 a3
        rw [ew, a2, ob4, cZ_rel (cB_Z hp hT a3), ob5]
        exact bad _ _ 13 sc2 ar2 (by decide) a3
      · obtain ⟨a1, sc2, ar2, a2, a3, a4⟩ := u1 _ _ p1
        have l1 := hVl _ _ _ p1
        have t1 := cT_tr t0 a4
        rw [List.nil_append] at t1
        have hK2 := cK_T hp hK t1 a3 a1 (by omega)
        obtain ⟨r1, r2⟩ := c_rel (mr := mr) (al := al) hK2.1 a1
        rw [cA_i a3] at r1 r2
        rw [ew, a2, ob4]
        show (∀ os q3, p_rl tx q2 (fun o q3 => p_bd (V q3) (fun os2 q4 => .inr (os1 ++ os2 ++ [(o, 0)], q4))) = .inr (os, q3) → _) ∧ (∀ kd pl, p_rl tx q2 (fun o q3 => p_bd (V q3) (fun os2 q4 => .inr (os1 ++ os2 ++ [(o, 0)], q4))) = .inl (kd, pl) → _)
        rcases p_rl_c (tx := tx) (q := q2) (k := fun o q3 => p_bd (V q3) (fun os2 q4 => .inr (os1 ++ os2 ++ [(o, 0)], q4))) with ⟨od, c, e⟩ | ⟨c, e⟩
        · rw [e, r1 od c, ob5]
          have hod : od < 100 := by omega
          have k2 : x_nb tx q2 < n := lt_n hT.1 (by rcases c with ⟨c, _⟩ | ⟨c, _⟩ | ⟨c, _⟩ <;> rw [c] <;> decide)
          have b2 := (x_nb_ok hT.1 q2).1
          have hK3 := cK_A (q2 := x_nb tx q2 + 1) hp hK2 (by omega) (by omega)
          have t2 := cT_tr t1 (cT_nil (q := x_nb tx q2 + 1) (ar := ar2) hp t1.1)
          rw [List.append_nil] at t2
          obtain ⟨w1, w2⟩ := hV _ _ al _ _ hK3
          rcases p2 : V (x_nb tx q2 + 1) with ⟨kd1, pl1⟩ | ⟨os2, q4⟩
          · refine ⟨fun os q2 hpp => (by cases hpp), fun kd pl hpp => ?_⟩
            cases hpp
            obtain ⟨sc4, ar4, d2, d3⟩ := w2 _ _ p2
            obtain ⟨v, sc5, ar5, f1, f2⟩ := cB_add (mr := mr) (al := al) (m := 0) (od := od) hp (cB_T t2 d3) hod
            exact ⟨sc5, ar5, by rw [d2, ob4, hmr, if_pos hp, f1, ob5], f2⟩
          · refine ⟨fun os q2 hpp => ?_, fun kd pl hpp => (by cases hpp)⟩
            cases hpp
            obtain ⟨d1, sc4, ar4, d2, d3, d4⟩ := w1 _ _ p2
            have l2 := hVl _ _ _ p2
            have t3 := cT_tr t2 d4
            obtain ⟨sc5, ar5, f1, f2, f3⟩ := cT_add (mr := mr) (al := al) (ar := ar4) (m := 0) (od := od) hp t3.1 (by rw [List.length_append]; omega) hod
            exact ⟨d1, sc5, ar5, by rw [d2, ob4, hmr, if_pos hp, f1, ob5], f2.trans d3, cT_tr t3 f3⟩
        · rw [e, r2 c, ob5]
          refine ⟨fun os q2 hpp => (by cases hpp), fun kd pl hpp => ?_⟩
          cases hpp
          exact bad _ _ 13 _ ar2 (by decide) (cB_T t1 (cB_F hp hK2 (by omega) (x_nb_le hT.1 a1) hn))
end CC
