/-! ClickOrders: the reader's values do what the parser says. -/
abbrev xVn : Type := jSc → (Nat → Nat) → jSc → jAl → Option (jSc × (Nat → Nat) × jSc × jAl)
def cPV (n : Nat) (tx : Nat → Int32) (p : Nat) (mr : Nat → Nat) (o : Nat) (f : xVn) (pp : Nat → oR) : Prop := ∀ (sc ar : jSc) (al : jAl) (q L : Nat), cK n tx p sc ar q o L →
  (∀ os q2, pp q = .inr (os, q2) → q2 ≤ n ∧ ∃ sc2 ar2, f sc mr ar al = some (sc2, mr, ar2, al) ∧ sc2 756 2 = nI q2 ∧ cT p sc ar L os sc2 ar2) ∧
  (∀ kd pl, pp q = .inl (kd, pl) → ∃ sc2 ar2, f sc mr ar al = some (sc2, mr, ar2, al) ∧ cB n p sc ar kd pl sc2 ar2)
def cPF (n : Nat) (tx : Nat → Int32) (mr : Nat → Nat) (f : xVn) : Prop := ∀ (sc ar : jSc) (al : jAl), cZ n tx sc ar → f sc mr ar al = some (sc, mr, ar, al)
section CV
variable {tx : Nat → Int32} {n p : Nat} {mr : Nat → Nat} {g : Int32 → xVn}
theorem obx5 {x : Option (Int32 × jSc × (Nat → Nat) × jSc × jAl)} {v : Int32} {a : jSc} {b : Nat → Nat} {c : jSc} {d : jAl} (h : x = some (v, a, b, c, d)) : (o_b5 x (fun _ a b c d => some (a, b, c, d))) = some (a, b, c, d) := by rw [h, ob5]
theorem c_unitF : cPF n tx mr (xF_263 g 2) := by
  intro sc ar al h
  unfold xF_263
  rw [if_pos (by decide), cZ_skips h, ob4, cZ_letter h, ob5, if_pos (by decide), cZ_digit h, ob5, if_pos rfl, cZ_word h x_sw_got (by decide), ob5, if_pos rfl, cZ_word h x_sw_far (by decide), ob5, if_pos rfl, cZ_sign h (by decide), ob5, if_pos rfl, cZ_word h x_sw_least (by decide), ob5, if_pos rfl, cZ_word h x_sw_most (by decide), ob5, if_pos rfl, h.2.1, show (1 : Int32) = nI 1 from rfl, c_faults, ob4, cZ_F h]
/-- one order added where the cursor has gone to q2 -/
theorem c_one {sc ar : jSc} {al : jAl} {q o L q2 od : Nat} {m : Int32} (hp : x_pr p = true) (hmr : mr 4 = p) (hn : n ≤ 600) (hK : cK n tx p sc ar q o L) (hod : od < 100) : ∃ sc2 ar2, (if x_pr (mr 4) = true then (o_b5 (xF_252 (mr 4) (nI od) m (cA sc q2) mr ar al) (fun _ a b c d => some (a, b, c, d))) else none) = some (sc2, mr, ar2, al) ∧ sc2 756 2 = nI q2 ∧ cT p sc ar L [(od, m)] sc2 ar2 := by
  obtain ⟨k1, k2, k3, k4, k5, k6, k7⟩ := hK
  have hne := x_pr_ne hp
  have hL : cA sc q2 p 3 = nI L := (cA_n (by omega)).trans k5
  obtain ⟨sc2, ar2, e1, e2, e3⟩ := cT_add (mr := mr) (al := al) (ar := ar) (m := m) hp hL (by omega) hod
  refine ⟨sc2, ar2, ?_, e2.trans cA_2, ?_⟩
  · rw [hmr, if_pos hp, e1, ob5]
  · have := cT_tr (cT_nil (q := q2) hp k5) e3
    exact this
theorem c_oneB {sc ar sc1 ar1 : jSc} {al : jAl} {kd pl od : Nat} {m : Int32} (hp : x_pr p = true) (hmr : mr 4 = p) (hB : cB n p sc ar kd pl sc1 ar1) (hod : od < 100) : ∃ sc2 ar2, (if x_pr (mr 4) = true then (o_b5 (xF_252 (mr 4) (nI od) m sc1 mr ar1 al) (fun _ a b c d => some (a, b, c, d))) else none) = some (sc2, mr, ar2, al) ∧ cB n p sc ar kd pl sc2 ar2 := by
  obtain ⟨v, sc3, ar3, e1, e2⟩ := cB_add (mr := mr) (al := al) (m := m) hp hB hod
  exact ⟨sc3, ar3, by rw [hmr, if_pos hp, e1, ob5], e2⟩
/-- a value within a bracket, then a sign; the bracket closed -/
theorem c_in {sc ar : jSc} {al : jAl} {q o L : Nat} {V : Nat → oR} {c : Int32} (hp : x_pr p = true) (hn : n ≤ 600) (hK : cK n tx p sc ar q (o + 1) L) (hc : ¬ c = -1) (hV : cPV n tx p mr (o + 1) (g 0) V) (hln : p_ln V) :
    (∀ os q3, V q = .inr (os, q3) → tx (x_nb tx q3) = c → x_nb tx q3 + 1 ≤ n ∧ ∃ sc2 ar2, o_b4 (g 0 sc mr ar al) (fun a b c2 d => xF_271 c a b c2 d) = some (sc2, mr, ar2, al) ∧ sc2 756 2 = nI (x_nb tx q3 + 1) ∧ cT p sc ar L os sc2 ar2) ∧
    (∀ kd pl, (V q = .inl (kd, pl) ∨ ∃ os q3, V q = .inr (os, q3) ∧ ¬ tx (x_nb tx q3) = c ∧ (kd, pl) = (1, x_nb tx q3)) → ∃ sc2 ar2, o_b4 (g 0 sc mr ar al) (fun a b c2 d => xF_271 c a b c2 d) = some (sc2, mr, ar2, al) ∧ cB n p sc ar kd pl sc2 ar2) := by
  obtain ⟨u1, u2⟩ := hV sc ar al q L hK
  refine ⟨fun os q3 hv h59 => ?_, fun kd pl hv => ?_⟩
  · obtain ⟨a1, sc2, ar2, a2, a3, a4⟩ := u1 os q3 hv
    have hT2 := c_TX_T hp hK.1 a4
    have hlt := lt_n hK.1.1 (q := x_nb tx q3) (by rw [h59]; exact hc)
    have e := c_needs (mr := mr) (al := al) (c := c) hT2 a1 hc
    rw [cA_i a3, if_pos h59] at e
    refine ⟨by omega, cA sc2 (x_nb tx q3 + 1), ar2, by rw [a2, ob4]; exact e, cA_2, ?_⟩
    have := cT_tr a4 (cT_nil (q := x_nb tx q3 + 1) (ar := ar2) hp a4.1)
    rw [List.append_nil] at this
    exact this
  · rcases hv with hv | ⟨os, q3, hv, h59, he⟩
    · obtain ⟨sc2, ar2, a2, a3⟩ := u2 kd pl hv
      exact ⟨sc2, ar2, by rw [a2, ob4]; exact cZ_needs (cB_Z hp hK.1 a3) hc, a3⟩
    · cases he
      obtain ⟨a1, sc2, ar2, a2, a3, a4⟩ := u1 os q3 hv
      have hK2 := cK_T hp hK a4 a3 a1 (hln _ _ _ hv)
      have e := c_needs (mr := mr) (al := al) (c := c) hK2.1 a1 hc
      rw [cA_i a3, if_neg h59] at e
      exact ⟨_, ar2, by rw [a2, ob4]; exact e, cB_T a4 (cB_F hp hK2 (by omega) (x_nb_le hK.1.1 a1) hn)⟩
theorem cK_A {sc ar : jSc} {q o L q2 : Nat} (hp : x_pr p = true) (hK : cK n tx p sc ar q o L) (h1 : q ≤ q2) (h2 : q2 ≤ n) : cK n tx p (cA sc q2) ar q2 o L := cK_T (os := []) hp hK (cT_nil hp hK.2.2.2.2.1) cA_2 h2 (by simpa using h1)
theorem cK_O {sc ar : jSc} {q o L q2 : Nat} (hp : x_pr p = true) (hK : cK n tx p sc ar q o L) (h1 : q ≤ q2) (h2 : q2 ≤ n) : cK n tx p (j_u2 (cA sc q2) 756 3 (nI (o + 1))) ar q2 (o + 1) L := by
  obtain ⟨k1, k2, k3, k4, k5, k6, k7⟩ := cK_A hp hK h1 h2
  have hne := x_pr_ne hp
  exact ⟨c_TX_S k1 (u2_nk (by decide)) rfl, (u2_nk (by decide)).trans k2, u2_eq, (u2_nk (by decide)).trans k4, (u2_na (by omega)).trans k5, k6, k7⟩
theorem c_288 {sc ar sc1 ar1 : jSc} {al : jAl} {kd pl : Nat} {x4 : Int32} (hp : x_pr p = true) (hmr : mr 4 = p) (hB : cB n p sc ar kd pl sc1 ar1) : ∃ sc2 ar2, xF_263_288 g x4 sc1 mr ar1 al = some (sc2, mr, ar2, al) ∧ cB n p sc ar kd pl sc2 ar2 := by
  unfold xF_263_288
  by_cases c : x4 = 0
  · obtain ⟨sc2, ar2, a1, a2⟩ := c_oneB (al := al) (od := 10) (m := 0) hp hmr hB (by decide)
    refine ⟨sc2, ar2, ?_, a2⟩
    rw [← a1, if_pos c]
    rfl
  · obtain ⟨sc2, ar2, a1, a2⟩ := c_oneB (al := al) (od := 9) (m := 0) hp hmr hB (by decide)
    refine ⟨sc2, ar2, ?_, a2⟩
    rw [← a1, if_neg c]
    rfl
def p_lm (V : Option (Nat → oR)) (tx : Nat → Int32) (w od : Nat) : oR :=
  (if tx (x_nb tx w) = 40 then
      p_op V (x_nb tx w) (fun V => p_bd (V (x_nb tx w + 1)) (fun os1 q3 => p_sg tx q3 44 (fun q4 => p_bd (V q4) (fun os2 q5 => p_sg tx q5 41 (fun q6 => .inr (os1 ++ os2 ++ [(od, 0)], q6))))))
    else .inl (1, x_nb tx w))
theorem p_sg_l {tx : Nat → Int32} {q : Nat} {c : Int32} {k : Nat → oR} {a b : Nat} (h : p_sg tx q c k = .inl (a, b)) : (tx (x_nb tx q) = c ∧ k (x_nb tx q + 1) = .inl (a, b)) ∨ (¬ tx (x_nb tx q) = c ∧ (a, b) = (1, x_nb tx q)) := by
  unfold p_sg at h
  split at h
  · rename_i e; exact Or.inl ⟨e, h⟩
  · rename_i e; cases h; exact Or.inr ⟨e, rfl⟩
set_option maxHeartbeats 4000000 in
theorem c_lm {o : Nat} {V : Option (Nat → oR)} {sc ar : jSc} {al : jAl} {q L w od : Nat} {x4 : Int32} {X : Option (jSc × (Nat → Nat) × jSc × jAl)} (hp : x_pr p = true) (hmr : mr 4 = p) (hn : n ≤ 600) (ho : V = none → o = 6) (hV : ∀ v, V = some v → o < 6 ∧ cPV n tx p mr (o + 1) (g 0) v ∧ p_ln v) (hF : ¬ V = none → cPF n tx mr (g 0)) (hK : cK n tx p sc ar q o L) (hqw : q ≤ w) (hwn : w ≤ n) (hx : od = if x4 = 0 then 10 else 9) (hew : X = xF_263_233 g x4 (cA sc w) mr ar al) :
    (∀ os q2, p_lm V tx w od = .inr (os, q2) → q2 ≤ n ∧ ∃ sc2 ar2, X = some (sc2, mr, ar2, al) ∧ sc2 756 2 = nI q2 ∧ cT p sc ar L os sc2 ar2) ∧
    (∀ kd pl, p_lm V tx w od = .inl (kd, pl) → ∃ sc2 ar2, X = some (sc2, mr, ar2, al) ∧ cB n p sc ar kd pl sc2 ar2) := by
  have hT := hK.1
  have hne := x_pr_ne hp
  have b0 := (x_nb_ok hT.1 w).1
  have b1 := x_nb_le hT.1 hwn
  have e0 := x_nb_idem hT.1 w
  have nd := c_needs (mr := mr) (al := al) (c := 40) hT b1 (by decide)
  rw [e0] at nd
  unfold xF_263_233 at hew
  rw [c_skips hT hwn, ob4, nd, ob4, cA_2] at hew
  unfold p_lm
  by_cases k1 : tx (x_nb tx w) = 40
  · have k2 := lt_n hT.1 (q := x_nb tx w) (by rw [k1]; decide)
    rw [if_pos k1] at hew ⊢
    rcases V with _ | V
    · refine ⟨fun os q2 hpp => (by cases hpp), fun kd pl hpp => ?_⟩
      have hpp : Sum.inl (3, x_nb tx w) = Sum.inl (kd, pl) := hpp
      cases hpp
      have o6 := ho rfl
      subst o6
      rw [c_open6 hK, ob5, if_pos rfl] at hew
      rw [hew]
      exact c_288 hp hmr (cB_F hp hK (by omega) b1 hn)
    · obtain ⟨o6, hPV, hln⟩ := hV V rfl
      rw [c_open hK o6, ob5, if_neg (by decide)] at hew
      have hKO := cK_O (q2 := x_nb tx w + 1) hp hK (by omega) (by omega)
      have cA3 : cA sc (x_nb tx w + 1) 756 3 = nI o := (cA_k (by decide)).trans hK.2.2.1
      obtain ⟨i1, i2⟩ := c_in (mr := mr) (al := al) (c := 44) hp hn hKO (by decide) hPV hln
      generalize hS : j_u2 (cA sc (x_nb tx w + 1)) 756 3 (nI (o + 1)) = S at hew hKO i1 i2
      have S3 : S 756 3 = nI (o + 1) := by rw [← hS]; exact u2_eq
      have ew2 : X = o_b4 (o_b4 (g 0 S mr ar al) (fun a b c2 d => xF_271 44 a b c2 d)) (fun a b c d => o_b4 (o_b4 (g 0 a b c d) (fun a b c2 d => xF_271 41 a b c2 d)) (fun a b c d => xF_263_288 g x4 (j_u2 a 756 3 (a 756 3 - 1)) b c d)) := by
        rw [hew]
        rcases g 0 S mr ar al with _ | ⟨a, b, c, d⟩
        · rfl
        · rw [ob4, ob4]
          rcases xF_271 44 a b c d with _ | ⟨a, b, c, d⟩
          · rfl
          · rw [ob4, ob4]
            rcases g 0 a b c d with _ | ⟨a, b, c, d⟩
            · rfl
            · rfl
      have bad : ∀ (kd pl : Nat) (sc2 ar2 : jSc), cB n p S ar kd pl sc2 ar2 → ∃ sc3 ar3, xF_263_288 g x4 (j_u2 sc2 756 3 (sc2 756 3 - 1)) mr ar2 al = some (sc3, mr, ar3, al) ∧ cB n p sc ar kd pl sc3 ar3 := by
        intro kd pl sc2 ar2 hB
        have e3 : sc2 756 3 = nI (o + 1) := (hB.2.2.2.2.2.1 756 3 (by decide) (by omega)).trans S3
        rw [e3, nI_pred]
        rw [← hS] at hB
        have h4 := cB_open hp hB
        rw [cA3] at h4
        exact c_288 hp hmr (cB_T (cT_nil (q := x_nb tx w + 1) hp hK.2.2.2.2.1) h4)
      refine ⟨fun os q2 hpp => ?_, fun kd pl hpp => ?_⟩
      · obtain ⟨os1, q3, p1, hpp⟩ := p_bd_r hpp
        obtain ⟨c44, hpp⟩ := p_sg_r hpp
        obtain ⟨os2, q5, p2, hpp⟩ := p_bd_r hpp
        obtain ⟨c41, hpp⟩ := p_sg_r hpp
        cases hpp
        obtain ⟨a1, sc2, ar2, a2, a3, a4⟩ := i1 os1 q3 p1 c44
        have l1 := hln _ _ _ p1
        have l1b := (x_nb_ok hT.1 q3).1
        have hK2 := cK_T hp hKO a4 a3 a1 (by omega)
        obtain ⟨j1, j2⟩ := c_in (mr := mr) (al := al) (c := 41) hp hn hK2 (by decide) hPV hln
        obtain ⟨d1, sc4, ar4, d2, d3, d4⟩ := j1 os2 q5 p2 c41
        have l2 := hln _ _ _ p2
        have l2b := (x_nb_ok hT.1 q5).1
        have t4 := cT_tr a4 d4
        have e3 : sc4 756 3 = nI (o + 1) := (t4.2.2.1 756 3 (by decide) (by omega)).trans S3
        rw [← hS] at t4
        have h4 := cT_open hp t4
        rw [cA3] at h4
        have t5 := cT_tr (cT_nil (q := x_nb tx w + 1) hp hK.2.2.2.2.1) h4
        rw [List.nil_append] at t5
        have hLL : j_u2 sc4 756 3 (nI o) p 3 = nI (L + (os1 ++ os2).length) := t5.1
        have h7 := hK.2.2.2.2.2.2
        obtain ⟨sc6, ar6, f1, f2, f3⟩ := cT_add (mr := mr) (al := al) (ar := ar4) (m := 0) (od := od) hp hLL (by rw [List.length_append]; omega) (by rw [hx]; split <;> decide)
        refine ⟨d1, sc6, ar6, ?_, f2.trans ((u2_nk (by decide)).trans d3), cT_tr t5 f3⟩
        rw [ew2, a2, ob4, d2, ob4, e3, nI_pred]
        unfold xF_263_288
        rw [hmr, if_pos hp]
        by_cases c : x4 = 0
        · rw [if_pos c] at hx ⊢
          rw [show (10 : Int32) = nI 10 from rfl, ← hx, f1, ob5]
        · rw [if_neg c] at hx ⊢
          rw [show (9 : Int32) = nI 9 from rfl, ← hx, f1, ob5]
      · have fin1 : ∀ kd pl, (V (x_nb tx w + 1) = .inl (kd, pl) ∨ ∃ os q3, V (x_nb tx w + 1) = .inr (os, q3) ∧ ¬ tx (x_nb tx q3) = 44 ∧ (kd, pl) = (1, x_nb tx q3)) → ∃ sc2 ar2, X = some (sc2, mr, ar2, al) ∧ cB n p sc ar kd pl sc2 ar2 := by
          intro kd pl hh
          obtain ⟨sc2, ar2, a2, a3⟩ := i2 kd pl hh
          have hz := cB_Z hp hKO.1 a3
          rw [ew2, a2, ob4, hF (fun z => by cases z) sc2 ar2 al hz, ob4, cZ_needs hz (by decide), ob4]
          exact bad kd pl sc2 ar2 a3
        rcases p_bd_l hpp with p1 | ⟨os1, q3, p1, hpp⟩
        · exact fin1 kd pl (Or.inl p1)
        · rcases p_sg_l hpp with ⟨c44, hpp⟩ | ⟨c44, he⟩
          · obtain ⟨a1, sc2, ar2, a2, a3, a4⟩ := i1 os1 q3 p1 c44
            have l1 := hln _ _ _ p1
            have l1b := (x_nb_ok hT.1 q3).1
            have hK2 := cK_T hp hKO a4 a3 a1 (by omega)
            obtain ⟨j1, j2⟩ := c_in (mr := mr) (al := al) (c := 41) hp hn hK2 (by decide) hPV hln
            have fin2 : (V (x_nb tx q3 + 1) = .inl (kd, pl) ∨ ∃ os q4, V (x_nb tx q3 + 1) = .inr (os, q4) ∧ ¬ tx (x_nb tx q4) = 41 ∧ (kd, pl) = (1, x_nb tx q4)) → ∃ sc2 ar2, X = some (sc2, mr, ar2, al) ∧ cB n p sc ar kd pl sc2 ar2 := by
              intro hh
              obtain ⟨sc4, ar4, d2, d3⟩ := j2 kd pl hh
              rw [ew2, a2, ob4, d2, ob4]
              exact bad kd pl sc4 ar4 (cB_T a4 d3)
            rcases p_bd_l hpp with p2 | ⟨os2, q5, p2, hpp⟩
            · exact fin2 (Or.inl p2)
            · rcases p_sg_l hpp with ⟨c41, hpp⟩ | ⟨c41, he⟩
              · cases hpp
              · exact fin2 (Or.inr ⟨os2, q5, p2, c41, he⟩)
          · exact fin1 kd pl (Or.inr ⟨os1, q3, p1, c44, he⟩)
  · rw [if_neg k1] at hew ⊢
    refine ⟨fun os q2 hpp => (by cases hpp), fun kd pl hpp => ?_⟩
    cases hpp
    have B := cB_F (kd := 1) (pl := x_nb tx w) (q2 := x_nb tx w) hp hK (by omega) b1 hn
    rw [cZ_open (cB_Z hp hT B), ob5, if_pos rfl] at hew
    rw [hew]
    exact c_288 hp hmr B
set_option maxHeartbeats 4000000 in
theorem c_unit {o : Nat} {V : Option (Nat → oR)} (hp : x_pr p = true) (hmr : mr 4 = p) (hn : n ≤ 600) (ho : V = none → o = 6) (hV : ∀ v, V = some v → o < 6 ∧ cPV n tx p mr (o + 1) (g 0) v ∧ p_ln v) (hF : ¬ V = none → cPF n tx mr (g 0)) : cPV n tx p mr o (xF_263 g 2) (p_un V tx) := by
  intro sc ar al q L hK
  have hT := hK.1
  have hq := hK.2.2.2.2.2.1
  have esc : cA sc q = sc := cA_i hK.2.1
  have b0 := (x_nb_ok hT.1 q).1
  have b1 := x_nb_le hT.1 hq
  have e0 := x_nb_idem hT.1 q
  have hK1 := cK_A hp hK b0 b1
  have hwe : x_we tx (x_nb tx q) ≤ n := x_we_lt hT.1 b1
  have ew : xF_263 g 2 sc mr ar al = xF_263 g 2 sc mr ar al := rfl
  conv at ew => rhs; unfold xF_263
  have s0 := c_skips (mr := mr) (al := al) hT hq
  rw [esc] at s0
  have lt := c_letter (mr := mr) (al := al) hT b1
  rw [e0] at lt
  rw [if_pos (by decide), s0, ob4, lt] at ew
  unfold p_un
  rcases hl : x_le tx (x_nb tx q) with _ | l
  · rw [hl] at ew
    rw [ob5, if_pos (by decide), cA_2, c_isDigit hK1.1 (by omega), ob5] at ew
    by_cases hd : x_dg (tx (x_nb tx q))
    · have d3 := x_de_lt hT.1 hd
      have nu := c_number (mr := mr) (al := al) hT b1
      rw [e0, if_pos hd] at nu
      rw [if_pos hd, if_neg (by decide)] at ew
      rw [if_pos hd]
      by_cases h9 : x_nu tx (x_nb tx q) ≤ 999
      · rw [if_pos h9] at nu
        rw [if_pos h9]
        refine ⟨fun os q2 hpp => ?_, fun kd pl hpp => (by cases hpp)⟩
        cases hpp
        obtain ⟨sc2, ar2, a1, a2, a3⟩ := c_one (al := al) (q2 := x_de tx (x_nb tx q)) (od := 0) (m := nI (x_nu tx (x_nb tx q))) hp hmr hn hK (by decide)
        refine ⟨d3.2, sc2, ar2, ?_, a2, a3⟩
        rw [ew, ← a1]
        by_cases c : x_pr (mr 4) = true
        · rw [if_pos c, if_pos c, nu, ob5]; rfl
        · rw [if_neg c, if_neg c]
      · rw [if_neg h9] at nu
        rw [if_neg h9]
        refine ⟨fun os q2 hpp => (by cases hpp), fun kd pl hpp => ?_⟩
        cases hpp
        have B := cB_F (kd := 2) (pl := x_nb tx q) (q2 := x_de tx (x_nb tx q)) hp hK (by omega) b1 hn
        obtain ⟨sc2, ar2, a1, a2⟩ := c_oneB (al := al) (od := 0) (m := 0) hp hmr B (by decide)
        refine ⟨sc2, ar2, ?_, a2⟩
        rw [ew, ← a1]
        by_cases c : x_pr (mr 4) = true
        · rw [if_pos c, if_pos c, nu, ob5]; rfl
        · rw [if_neg c, if_neg c]
    · rw [if_neg hd, if_pos rfl] at ew
      rw [if_neg hd]
      show (∀ os q2, p_uw V tx q = .inr (os, q2) → _) ∧ (∀ kd pl, p_uw V tx q = .inl (kd, pl) → _)
      unfold p_uw
      have wd : ∀ {s : Nat} {w : List Nat}, x_sw s w → xF_269 s (cA sc (x_nb tx q)) mr ar al = some (if x_is tx (x_nb tx q) w then 1 else 0, if x_is tx (x_nb tx q) w then cA sc (x_nb tx q + w.length) else cA sc (x_nb tx q), mr, ar, al) := by
        intro s w hs
        have := c_word (mr := mr) (al := al) hT b1 hs
        rw [e0] at this
        exact this
      rw [wd x_sw_got, ob5] at ew
      by_cases c1 : x_is tx (x_nb tx q) w_got
      · rw [if_pos c1, if_pos c1, if_neg (by decide)] at ew
        rw [if_pos c1]
        refine ⟨fun os q2 hpp => ?_, fun kd pl hpp => (by cases hpp)⟩
        cases hpp
        obtain ⟨sc2, ar2, a1, a2, a3⟩ := c_one (al := al) (q2 := x_nb tx q + w_got.length) (od := 2) (m := 0) hp hmr hn hK (by decide)
        refine ⟨hwe, sc2, ar2, ew.trans a1, by rw [a2, c1.1], a3⟩
      · rw [if_neg c1, if_neg c1, if_pos rfl, wd x_sw_far, ob5] at ew
        rw [if_neg c1]
        by_cases c2 : x_is tx (x_nb tx q) w_far
        · rw [if_pos c2, if_pos c2, if_neg (by decide), ← c2.1] at ew
          rw [if_pos c2]
          obtain ⟨d1, d2, d3⟩ := c_digit (mr := mr) (al := al) (most := 3) hT hwe (by decide)
          have b2 := x_nb_le hT.1 hwe
          unfold p_dg
          by_cases k1 : x_dg (tx (x_nb tx (x_we tx (x_nb tx q))))
          · rw [if_neg (fun z => z k1)]
            by_cases k2 : x_dg (tx (x_nb tx (x_we tx (x_nb tx q)) + 1)) ∨ 3 < iN (tx (x_nb tx (x_we tx (x_nb tx q)))) - 48
            · rw [if_pos k2]
              refine ⟨fun os q2 hpp => (by cases hpp), fun kd pl hpp => ?_⟩
              cases hpp
              have B := cB_F (kd := 2) (pl := x_nb tx (x_we tx (x_nb tx q))) (q2 := x_nb tx (x_we tx (x_nb tx q))) hp hK (by omega) b2 hn
              obtain ⟨sc2, ar2, a1, a2⟩ := c_oneB (al := al) (od := 3) (m := 0) hp hmr B (by decide)
              refine ⟨sc2, ar2, ?_, a2⟩
              rw [ew, ← a1]
              by_cases c : x_pr (mr 4) = true
              · rw [if_pos c, if_pos c, show (4 : Int32) = nI (3 + 1) from rfl, d2 k1 k2, ob5]; rfl
              · rw [if_neg c, if_neg c]
            · rw [if_neg k2]
              obtain ⟨d4, d5⟩ := d3 k1 k2
              refine ⟨fun os q2 hpp => ?_, fun kd pl hpp => (by cases hpp)⟩
              cases hpp
              obtain ⟨sc2, ar2, a1, a2, a3⟩ := c_one (al := al) (q2 := x_nb tx (x_we tx (x_nb tx q)) + 1) (od := 3) (m := nI (iN (tx (x_nb tx (x_we tx (x_nb tx q)))) - 48)) hp hmr hn hK (by decide)
              refine ⟨d4, sc2, ar2, ?_, a2, a3⟩
              rw [ew, ← a1]
              by_cases c : x_pr (mr 4) = true
              · rw [if_pos c, if_pos c, show (4 : Int32) = nI (3 + 1) from rfl, d5, ob5]; rfl
              · rw [if_neg c, if_neg c]
          · rw [if_pos k1]
            refine ⟨fun os q2 hpp => (by cases hpp), fun kd pl hpp => ?_⟩
            cases hpp
            have B := cB_F (kd := 1) (pl := x_nb tx (x_we tx (x_nb tx q))) (q2 := x_nb tx (x_we tx (x_nb tx q))) hp hK (by omega) b2 hn
            obtain ⟨sc2, ar2, a1, a2⟩ := c_oneB (al := al) (od := 3) (m := 0) hp hmr B (by decide)
            refine ⟨sc2, ar2, ?_, a2⟩
            rw [ew, ← a1]
            by_cases c : x_pr (mr 4) = true
            · rw [if_pos c, if_pos c, show (4 : Int32) = nI (3 + 1) from rfl, d1 k1, ob5]; rfl
            · rw [if_neg c, if_neg c]
        · rw [if_neg c2, if_neg c2, if_pos rfl] at ew
          rw [if_neg c2]
          have sg := c_sign (mr := mr) (al := al) (c := 40) hT b1 (by decide)
          rw [e0] at sg
          rw [sg, ob5] at ew
          by_cases k1 : tx (x_nb tx q) = 40
          · have k2 := lt_n hT.1 (q := x_nb tx q) (by rw [k1]; decide)
            have nosm : ¬ x_sm (tx (x_nb tx q)) := by rw [k1]; decide
            have now : ∀ w : List Nat, 0 < w.length → ¬ x_is tx (x_nb tx q) w := by
              intro w hw z
              have := z.1
              have e : x_we tx (x_nb tx q) = x_nb tx q := x_sk_eq _ 1500 (Nat.le_refl _) (by omega) (fun j a b => absurd a (by omega)) (by simpa using nosm)
              omega
            rw [if_pos k1, if_pos k1, if_neg (by decide)] at ew
            rw [if_neg (fun z => z.elim (now _ (by decide)) (now _ (by decide))), if_pos k1]
            rcases V with _ | V
            · refine ⟨fun os q2 hpp => (by cases hpp), fun kd pl hpp => ?_⟩
              have hpp : Sum.inl (3, x_nb tx q) = Sum.inl (kd, pl) := hpp
              cases hpp
              have o6 := ho rfl
              subst o6
              rw [c_open6 hK, ob5, if_pos rfl] at ew
              exact ⟨_, _, ew, cB_F hp hK (by omega) b1 hn⟩
            · obtain ⟨o6, hPV, hln⟩ := hV V rfl
              rw [c_open hK o6, ob5, if_neg (by decide)] at ew
              have hKO := cK_O (q2 := x_nb tx q + 1) hp hK (by omega) (by omega)
              obtain ⟨i1, i2⟩ := c_in (mr := mr) (al := al) (c := 41) hp hn hKO (by decide) hPV hln
              have ew2 : xF_263 g 2 sc mr ar al = o_b4 (o_b4 (g 0 (j_u2 (cA sc (x_nb tx q + 1)) 756 3 (nI (o + 1))) mr ar al) (fun a b c2 d => xF_271 41 a b c2 d)) (fun a b c d => some (j_u2 a 756 3 (a 756 3 - 1), b, c, d)) := by
                rw [ew]
                rcases g 0 (j_u2 (cA sc (x_nb tx q + 1)) 756 3 (nI (o + 1))) mr ar al with _ | ⟨a, b, c, d⟩
                · rfl
                · rfl
              have k3 := hK.2.2.1
              have cA3 : cA sc (x_nb tx q + 1) 756 3 = nI o := (cA_k (by decide)).trans k3
              refine ⟨fun os q2 hpp => ?_, fun kd pl hpp => ?_⟩
              · obtain ⟨os1, q3, p1, hpp⟩ := p_bd_r hpp
                obtain ⟨c41, hpp⟩ := p_sg_r hpp
                cases hpp
                obtain ⟨a1, sc2, ar2, a2, a3, a4⟩ := i1 os q3 p1 c41
                have e3 : sc2 756 3 = nI (o + 1) := (a4.2.2.1 756 3 (by decide) (by have := x_pr_ne hp; omega)).trans u2_eq
                rw [ew2, a2, ob4, e3, nI_pred]
                refine ⟨a1, _, ar2, rfl, (u2_nk (by decide)).trans a3, ?_⟩
                have h4 := cT_open hp a4
                rw [cA3] at h4
                exact cT_tr (cT_nil (q := x_nb tx q + 1) hp hK.2.2.2.2.1) h4
              · have fin : ∀ kd pl, (V (x_nb tx q + 1) = .inl (kd, pl) ∨ ∃ os q3, V (x_nb tx q + 1) = .inr (os, q3) ∧ ¬ tx (x_nb tx q3) = 41 ∧ (kd, pl) = (1, x_nb tx q3)) → ∃ sc2 ar2, xF_263 g 2 sc mr ar al = some (sc2, mr, ar2, al) ∧ cB n p sc ar kd pl sc2 ar2 := by
                  intro kd pl hh
                  obtain ⟨sc2, ar2, a2, a3⟩ := i2 kd pl hh
                  have e3 : sc2 756 3 = nI (o + 1) := (a3.2.2.2.2.2.1 756 3 (by decide) (by have := x_pr_ne hp; omega)).trans u2_eq
                  rw [ew2, a2, ob4, e3, nI_pred]
                  have h4 := cB_open hp a3
                  rw [cA3] at h4
                  exact ⟨_, ar2, rfl, cB_T (cT_nil (q := x_nb tx q + 1) hp hK.2.2.2.2.1) h4⟩
                rcases p_bd_l hpp with p1 | ⟨os1, q3, p1, hpp⟩
                · exact fin kd pl (Or.inl p1)
                · unfold p_sg at hpp
                  split at hpp
                  · cases hpp
                  · rename_i c41
                    cases hpp
                    exact fin _ _ (Or.inr ⟨os1, q3, p1, c41, rfl⟩)
          · rw [if_neg k1, if_neg k1, if_pos rfl, wd x_sw_least, ob5] at ew
            by_cases c3 : x_is tx (x_nb tx q) w_least
            · rw [if_pos c3, if_pos c3, if_neg (by decide), ← c3.1] at ew
              rw [if_pos (Or.inl c3), if_pos c3]
              exact c_lm hp hmr hn ho hV hF hK (by have := (x_we_ok hT.1 (x_nb tx q)).1; omega) hwe (od := 9) (x4 := 1) (by decide) ew
            · rw [if_neg c3, if_neg c3, if_pos rfl, wd x_sw_most, ob5] at ew
              by_cases c4 : x_is tx (x_nb tx q) w_most
              · rw [if_pos c4, if_pos c4, if_neg (by decide), ← c4.1] at ew
                rw [if_pos (Or.inr c4), if_neg c3]
                exact c_lm hp hmr hn ho hV hF hK (by have := (x_we_ok hT.1 (x_nb tx q)).1; omega) hwe (od := 10) (x4 := 0) (by decide) ew
              · rw [if_neg c4, if_neg c4, if_pos rfl, show (1 : Int32) = nI 1 from rfl, c_faults, ob4] at ew
                rw [if_neg (fun z => z.elim c3 c4), if_neg k1]
                refine ⟨fun os q2 hpp => (by cases hpp), fun kd pl hpp => ?_⟩
                cases hpp
                exact ⟨_, _, ew, cB_F hp hK (by omega) b1 hn⟩
  · obtain ⟨l1, l2, l3⟩ := x_le_ok hl
    have hd : ¬ x_dg (tx (x_nb tx q)) := by rw [l2]; rcases (show l = 0 ∨ l = 1 ∨ l = 2 ∨ l = 3 ∨ l = 4 ∨ l = 5 ∨ l = 6 ∨ l = 7 by omega) with rfl | rfl | rfl | rfl | rfl | rfl | rfl | rfl <;> decide
    have k2 := lt_n hT.1 (q := x_nb tx q) (by rw [l2]; exact nI_nm (by omega))
    rw [hl] at ew
    rw [ob5, if_neg (nI_pos (by omega))] at ew
    rw [if_neg hd]
    refine ⟨fun os q2 hpp => ?_, fun kd pl hpp => (by cases hpp)⟩
    cases hpp
    obtain ⟨sc2, ar2, a1, a2, a3⟩ := c_one (al := al) (q2 := x_nb tx q + 1) (od := 1) (m := nI l) hp hmr hn hK (by decide)
    exact ⟨by omega, sc2, ar2, ew.trans a1, a2, a3⟩
end CV
