/-! ClickOrders: the reader's handlers. -/
section CH
variable {tx : Nat → Int32} {n p : Nat} {mr : Nat → Nat} {al : jAl}
theorem c_16B {sc ar sc1 ar1 : jSc} {kd pl : Nat} (hp : x_pr p = true) (hmr : mr 4 = p) (hB : cB n p sc ar kd pl sc1 ar1) : ∃ sc2 ar2, (if x_pr (mr 4) = true then (o_b5 (xF_252 (mr 4) 16 0 sc1 mr ar1 al) (fun _ a b c d => some (a, b, c, d))) else none) = some (sc2, mr, ar2, al) ∧ cB n p sc ar kd pl sc2 ar2 := c_oneB (od := 16) hp hmr hB (by decide)
theorem c_hbB {sc ar sc1 ar1 : jSc} {kd pl N : Nat} {x3 : Int32} (hp : x_pr p = true) (hmr : mr 4 = p) (hT : c_TX sc ar n tx) (hB : cB n p sc ar kd pl sc1 ar1) : ∃ sc2 ar2, xF_257_69 (N + 1) x3 sc1 mr ar1 al = some (sc2, mr, ar2, al) ∧ cB n p sc ar kd pl sc2 ar2 := by
  obtain ⟨sc2, ar2, e1, e2⟩ := c_16B (mr := mr) (al := al) hp hmr hB
  refine ⟨sc2, ar2, ?_, e2⟩
  unfold xF_257_69
  rw [if_neg (cB_Z hp hT hB).2.2, ← e1]
  split
  · rfl
  · rfl
theorem j_4 {sc : jSc} {c : Nat} (h : sc p 4 = nI c) : j_u2 sc p 4 (nI c) = sc := by rw [← h]; exact u2_3
theorem c_hb (hp : x_pr p = true) (hmr : mr 4 = p) (hn : n ≤ 600) : ∀ (M N j q L c : Nat) (sc ar : jSc), n < M + q → n + 1 < N + q → j ≤ q → cK n tx p sc ar q 0 L → sc p 4 = nI c → c ≤ 60 →
    (∀ os q2 c2, p_hb tx M q L c = .inr (os, q2, c2) → q2 ≤ n ∧ q + os.length ≤ q2 ∧ c2 ≤ 60 ∧ ∃ sc2 ar2, xF_257_69 N (nI j) sc mr ar al = some (sc2, mr, ar2, al) ∧ sc2 756 2 = nI q2 ∧ cT p (j_u2 sc p 4 (nI c2)) ar L os sc2 ar2) ∧
    (∀ kd pl, p_hb tx M q L c = .inl (kd, pl) → ∃ c2 sc2 ar2, xF_257_69 N (nI j) sc mr ar al = some (sc2, mr, ar2, al) ∧ cB n p (j_u2 sc p 4 (nI c2)) ar kd pl sc2 ar2) := by
  have hne := x_pr_ne hp
  intro M
  induction M with
  | zero => intro N j q L c sc ar h1 h2 h3 hK; have := hK.2.2.2.2.2.1; omega
  | succ M ih =>
    intro N j q L c sc ar h1 h2 h3 hK hc hc6
    have hT := hK.1
    have hq := hK.2.2.2.2.2.1
    have hLq := hK.2.2.2.2.2.2
    obtain ⟨N, rfl⟩ : ∃ N', N = N' + 1 := ⟨N - 1, by omega⟩
    have b0 := (x_nb_ok hT.1 q).1
    have b1 := x_nb_le hT.1 hq
    have sg := c_sign (mr := mr) (al := al) (c := 125) hT hq (by decide)
    rw [cA_i hK.2.1] at sg
    have hl : ¬ sc 756 1 < nI j := by
      rw [hT.2.1]
      exact fun z => absurd ((nI_ltI (by omega) (by omega)).mp z) (by omega)
    have ew : xF_257_69 (N + 1) (nI j) sc mr ar al = xF_257_69 (N + 1) (nI j) sc mr ar al := rfl
    conv at ew => rhs; unfold xF_257_69
    rw [if_neg hl, if_pos hK.2.2.2.1, sg, ob5] at ew
    have pe : p_hb tx (M + 1) q L c = if tx (x_nb tx q) = 125 then .inr ([(16, 0)], x_nb tx q + 1, c) else p_c3 (p_st tx 6 (x_nb tx q) L c) (fun os1 q2 c2 => p_c3 (p_hb tx M q2 (L + os1.length) c2) (fun os2 q3 c3 => .inr (os1 ++ os2, q3, c3))) := rfl
    rw [pe]
    by_cases c1 : tx (x_nb tx q) = 125
    · have k2 := lt_n hT.1 (q := x_nb tx q) (by rw [c1]; decide)
      rw [if_pos c1, if_pos c1, if_neg (by decide)] at ew
      rw [if_pos c1]
      refine ⟨fun os q2 c2 hpp => ?_, fun kd pl hpp => (by cases hpp)⟩
      cases hpp
      obtain ⟨sc2, ar2, a1, a2, a3⟩ := c_one (al := al) (q2 := x_nb tx q + 1) (od := 16) (m := 0) hp hmr hn hK (by decide)
      rw [j_4 hc]
      exact ⟨by omega, by simp only [List.length_cons, List.length_nil]; omega, hc6, sc2, ar2, ew.trans a1, a2, a3⟩
    · rw [if_neg c1, if_neg c1, if_pos rfl] at ew
      rw [if_neg c1]
      have hK1 := cK_A hp hK b0 b1
      obtain ⟨t1, t2⟩ := (c_st (tx := tx) (n := n) (p := p) (mr := mr) hp hmr hn 6 40 (by omega) (by omega)).1 (cA sc (x_nb tx q)) ar al (x_nb tx q) L c hK1 ((cA_n (by omega)).trans hc) hc6
      have s0 : ∀ x : Int32, j_u2 (cA sc (x_nb tx q)) p 4 x = cA (j_u2 sc p 4 x) (x_nb tx q) := fun x => u2_c (by omega)
      have n0 : ∀ x : Int32, cT p (j_u2 sc p 4 x) ar L [] (cA (j_u2 sc p 4 x) (x_nb tx q)) ar := fun x => cT_nil hp ((u2_nk (by decide)).trans hK.2.2.2.2.1)
      rcases p1 : p_st tx 6 (x_nb tx q) L c with ⟨kd1, pl1⟩ | ⟨os1, q2, c2⟩
      · refine ⟨fun os q2 c2 hpp => (by cases hpp), fun kd pl hpp => ?_⟩
        cases hpp
        obtain ⟨c2, sc2, ar2, a2, a3⟩ := t2 _ _ p1
        rw [s0] at a3
        have a4 := cB_T (n0 _) a3
        obtain ⟨N, rfl⟩ : ∃ N', N = N' + 1 := ⟨N - 1, by omega⟩
        obtain ⟨sc3, ar3, f1, f2⟩ := c_hbB (N := N) (x3 := nI j + 1) (mr := mr) (al := al) hp hmr (cK_4 (x := nI c2) hp hK).1 a4
        exact ⟨c2, sc3, ar3, by rw [ew, a2, ob4, f1], f2⟩
      · obtain ⟨a1, a2, a3, a4, sc2, ar2, a5, a6, a7⟩ := t1 _ _ _ p1
        rw [s0] at a7
        have t3 := cT_tr (n0 _) a7
        rw [List.nil_append] at t3
        have hK2 := cK_T hp (cK_4 (x := nI c2) hp hK) t3 a6 a1 (by omega)
        have hc2 : sc2 p 4 = nI c2 := (t3.2.2.1 p 4 (by omega) (by omega)).trans u2_eq
        obtain ⟨v1, v2⟩ := ih N (j + 1) q2 (L + os1.length) c2 sc2 ar2 (by omega) (by omega) (by omega) hK2 hc2 a4
        rw [ew, a5, ob4, nI_1]
        have up : ∀ c3 : Nat, cT p (j_u2 sc p 4 (nI c3)) ar L os1 (j_u2 sc2 p 4 (nI c3)) ar2 := fun c3 => by
          have := cT_p4 (x := nI c3) hp t3
          rw [u2_2] at this
          exact this
        refine ⟨fun os q3 c3 hpp => ?_, fun kd pl hpp => ?_⟩
        · have hpp : p_c3 (p_hb tx M q2 (L + os1.length) c2) (fun os2 q3 c3 => .inr (os1 ++ os2, q3, c3)) = .inr (os, q3, c3) := hpp
          obtain ⟨os2, q4, c4, p2, hpp⟩ := p_c3_r hpp
          cases hpp
          obtain ⟨d1, d2, d3, sc3, ar3, d5, d6, d7⟩ := v1 _ _ _ p2
          exact ⟨d1, by rw [List.length_append]; omega, d3, sc3, ar3, d5, d6, cT_tr (up c3) d7⟩
        · have hpp : p_c3 (p_hb tx M q2 (L + os1.length) c2) (fun os2 q3 c3 => .inr (os1 ++ os2, q3, c3)) = .inl (kd, pl) := hpp
          rcases p_c3_l hpp with p2 | ⟨os2, q4, c4, p2, hpp⟩
          · obtain ⟨c3, sc3, ar3, d5, d7⟩ := v2 _ _ p2
            exact ⟨c3, sc3, ar3, d5, cB_T (up c3) d7⟩
          · cases hpp
/-- a digit, what the reader makes of it -/
theorem c_d2 {sc ar : jSc} {w most off : Nat} (h : c_TX sc ar n tx) (hw : w ≤ n) (hm : most ≤ 8) :
    (∀ e q2, p_d2 tx w most off = .inr (e, q2) → off ≤ e ∧ e ≤ off + most ∧ w < q2 ∧ q2 ≤ n ∧ o_b5 (xF_266 (nI (most + 1)) (cA sc w) mr ar al) (fun v a b c d => some (nI off + v, a, b, c, d)) = some (nI e, cA sc q2, mr, ar, al)) ∧
    (∀ kd pl, p_d2 tx w most off = .inl (kd, pl) → (1 ≤ kd ∧ kd ≤ 4) ∧ pl ≤ n ∧ ∃ q3, o_b5 (xF_266 (nI (most + 1)) (cA sc w) mr ar al) (fun v a b c d => some (nI off + v, a, b, c, d)) = some (nI off, cF (cA sc q3) kd pl, mr, ar, al)) := by
  have b0 := (x_nb_ok h.1 w).1
  have b2 := x_nb_le h.1 hw
  obtain ⟨d1, d2, d3⟩ := c_digit (mr := mr) (al := al) (most := most) h hw hm
  have z : nI off + 0 = nI off := by rw [show (0 : Int32) = nI 0 from rfl, nI_add]; rfl
  unfold p_d2
  by_cases k1 : x_dg (tx (x_nb tx w))
  · rw [if_neg (fun z => z k1)]
    by_cases k2 : x_dg (tx (x_nb tx w + 1)) ∨ most < iN (tx (x_nb tx w)) - 48
    · rw [if_pos k2, d2 k1 k2, ob5, z]
      refine ⟨fun e q2 hpp => (by cases hpp), fun kd pl hpp => ?_⟩
      cases hpp
      exact ⟨by omega, b2, _, rfl⟩
    · rw [if_neg k2]
      obtain ⟨d4, d5⟩ := d3 k1 k2
      rw [d5, ob5, nI_add]
      refine ⟨fun e q2 hpp => ?_, fun kd pl hpp => (by cases hpp)⟩
      cases hpp
      exact ⟨by omega, by omega, by omega, d4, rfl⟩
  · rw [if_pos k1, d1 k1, ob5, z]
    refine ⟨fun e q2 hpp => (by cases hpp), fun kd pl hpp => ?_⟩
    cases hpp
    exact ⟨by omega, b2, _, rfl⟩
theorem c_ev {sc ar : jSc} {q : Nat} (h : c_TX sc ar n tx) (hq : q ≤ n) :
    (∀ e q2, p_ev tx q = .inr (e, q2) → e ≤ 16 ∧ q < q2 ∧ q2 ≤ n ∧ xF_258 (cA sc q) mr ar al = some (nI e, cA sc q2, mr, ar, al)) ∧
    (∀ kd pl, p_ev tx q = .inl (kd, pl) → (1 ≤ kd ∧ kd ≤ 4) ∧ pl ≤ n ∧ ∃ v q3, xF_258 (cA sc q) mr ar al = some (v, cF (cA sc q3) kd pl, mr, ar, al)) := by
  have b0 := (x_nb_ok h.1 q).1
  have b1 := x_nb_le h.1 hq
  have e0 := x_nb_idem h.1 q
  have hwe : x_we tx (x_nb tx q) ≤ n := x_we_lt h.1 b1
  have wd : ∀ {s : Nat} {w : List Nat}, x_sw s w → xF_269 s (cA sc (x_nb tx q)) mr ar al = some (if x_is tx (x_nb tx q) w then 1 else 0, if x_is tx (x_nb tx q) w then cA sc (x_nb tx q + w.length) else cA sc (x_nb tx q), mr, ar, al) := by
    intro s w hs
    have := c_word (mr := mr) (al := al) h b1 hs
    rw [e0] at this
    exact this
  have w1 := c_word (mr := mr) (al := al) h hq x_sw_start
  have ew : xF_258 (cA sc q) mr ar al = xF_258 (cA sc q) mr ar al := rfl
  conv at ew => rhs; unfold xF_258
  rw [w1, ob5] at ew
  unfold p_ev
  by_cases c1 : x_is tx (x_nb tx q) w_start
  · rw [if_pos c1, if_pos c1, if_neg (by decide), ← c1.1] at ew
    rw [if_pos c1]
    refine ⟨fun e q2 hpp => ?_, fun kd pl hpp => (by cases hpp)⟩
    cases hpp
    have l := c1.1
    rw [show w_start.length = 5 from rfl] at l
    exact ⟨by omega, by omega, hwe, ew⟩
  rw [if_neg c1, if_neg c1, if_pos rfl, wd x_sw_press, ob5] at ew
  rw [if_neg c1]
  have fin : ∀ (most off : Nat), most ≤ 8 → off + most ≤ 16 → q < x_we tx (x_nb tx q) → xF_258 (cA sc q) mr ar al = o_b5 (xF_266 (nI (most + 1)) (cA sc (x_we tx (x_nb tx q))) mr ar al) (fun v a b c d => some (nI off + v, a, b, c, d)) →
    (∀ e q2, p_d2 tx (x_we tx (x_nb tx q)) most off = .inr (e, q2) → e ≤ 16 ∧ q < q2 ∧ q2 ≤ n ∧ xF_258 (cA sc q) mr ar al = some (nI e, cA sc q2, mr, ar, al)) ∧
    (∀ kd pl, p_d2 tx (x_we tx (x_nb tx q)) most off = .inl (kd, pl) → (1 ≤ kd ∧ kd ≤ 4) ∧ pl ≤ n ∧ ∃ v q3, xF_258 (cA sc q) mr ar al = some (v, cF (cA sc q3) kd pl, mr, ar, al)) := by
    intro most off hm ho hqw ee
    obtain ⟨r1, r2⟩ := c_d2 (mr := mr) (al := al) (most := most) (off := off) h hwe hm
    rw [← ee] at r1 r2
    refine ⟨fun e q2 hpp => ?_, fun kd pl hpp => ?_⟩
    · obtain ⟨s1, s2, s3, s4, s5⟩ := r1 e q2 hpp
      exact ⟨by omega, by omega, s4, s5⟩
    · obtain ⟨s1, s2, q3, s3⟩ := r2 kd pl hpp
      exact ⟨s1, s2, _, q3, s3⟩
  by_cases c2 : x_is tx (x_nb tx q) w_press
  · rw [if_pos c2, if_pos c2, if_neg (by decide), ← c2.1] at ew
    rw [if_pos c2]
    have l := c2.1
    rw [show w_press.length = 5 from rfl] at l
    exact fin 7 1 (by decide) (by decide) (by omega) ew
  rw [if_neg c2, if_neg c2, if_pos rfl, wd x_sw_clock, ob5] at ew
  rw [if_neg c2]
  by_cases c3 : x_is tx (x_nb tx q) w_clock
  · rw [if_pos c3, if_pos c3, if_neg (by decide), ← c3.1] at ew
    rw [if_pos c3]
    have l := c3.1
    rw [show w_clock.length = 5 from rfl] at l
    exact fin 3 9 (by decide) (by decide) (by omega) ew
  rw [if_neg c3, if_neg c3, if_pos rfl, wd x_sw_answer, ob5] at ew
  rw [if_neg c3]
  by_cases c4 : x_is tx (x_nb tx q) w_answer
  · rw [if_pos c4, if_pos c4, if_neg (by decide), ← c4.1] at ew
    rw [if_pos c4]
    have l := c4.1
    rw [show w_answer.length = 6 from rfl] at l
    exact fin 3 13 (by decide) (by decide) (by omega) ew
  rw [if_neg c4, if_neg c4, if_pos rfl, cA_2, show (1 : Int32) = nI 1 from rfl, c_faults, ob4] at ew
  rw [if_neg c4]
  refine ⟨fun e q2 hpp => (by cases hpp), fun kd pl hpp => ?_⟩
  cases hpp
  exact ⟨by omega, b1, _, _, ew⟩
end CH
