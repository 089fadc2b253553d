/-! ClickOrders: one step of the reader. -/
section CE
variable {tx : Nat → Int32} {n p : Nat} {mr : Nat → Nat} {sc ar : jSc} {al : jAl} {o L q : Nat}
def c_fi (g : xVn) : xVn := fun a b c d => o_b4 (xG_261 40 0 a b c d) (fun a b c d => if x_pr (b 4) = true then o_b5 (xF_252 (b 4) 17 0 a b c d) (fun v a b c d => o_b4 (g a b c d) (fun a b c d => if x_pr (b 4) = true then o_b4 (xF_253 (b 4) v a b c d) (fun a b c d => some (j_u2 a 756 3 (a 756 3 - 1), b, c, d)) else none)) else none)
theorem c_27 {g : xVn} {x1 x2 : Int32} {w c y : Nat} (hp : x_pr p = true) (hmr : mr 4 = p) (hc : sc p 4 = nI c) (hc6 : c ≤ 60) (hy : y < 100) : xF_259_27 g x1 x2 (nI y) (cA sc w) mr ar al = if c = 60 then o_b4 (xF_276 3 x1 (cA (j_u2 sc p 4 (nI (c + 1))) w) mr ar al) (fun a b c d => some (a, b, c, d)) else if y = 17 then o_b5 (xF_265 x1 (cA (j_u2 sc p 4 (nI (c + 1))) w) mr ar al) (fun v a b c d => if v = 0 then some (a, b, c, d) else c_fi g a b c d) else c_go g (nI y) x2 (cA (j_u2 sc p 4 (nI (c + 1))) w) mr ar al := by
  have hne := x_pr_ne hp
  have e1 : j_u2 (cA sc w) p 4 (cA sc w p 4 + 1) = cA (j_u2 sc p 4 (nI (c + 1))) w := by
    rw [cA_n (by omega), hc, nI_1]
    exact u2_c (by omega)
  have e2 : cA (j_u2 sc p 4 (nI (c + 1))) w p 4 = nI (c + 1) := (cA_n (by omega)).trans u2_eq
  have e3 : nI (c + 1) ≤ (60 : Int32) ↔ c + 1 ≤ 60 := nI_leI (by omega) (by decide)
  have e4 : nI y = (17 : Int32) ↔ y = 17 := nI_eq (by omega) (by decide)
  unfold xF_259_27
  rw [if_pos (Int32.not_lt.mp (nI_pos (by omega))), hmr, if_pos hp, if_pos hp, e1, e2]
  by_cases c1 : c = 60
  · rw [if_neg (fun z => absurd (e3.mp z) (by omega)), if_pos c1]
  · rw [if_pos (e3.mpr (by omega)), if_neg c1]
    by_cases c2 : y = 17
    · rw [if_pos (e4.mpr c2), if_pos c2]
      rfl
    · rw [if_neg (fun z => c2 (e4.mp z)), if_neg c2]
      rfl
theorem c_oneF {g : xVn} : cPF n tx mr (xF_259 g) := by
  intro sc ar al h
  unfold xF_259
  rw [cZ_skips h, ob4, cZ_letter h, ob5, if_pos (by decide), cZ_kd h, ob5]
  unfold xF_259_27
  rw [if_neg (by decide), h.2.1, show (1 : Int32) = nI 1 from rfl, c_faults, ob4, cZ_F h]
theorem c_if {g : xVn} {C : Nat → oR} {T : Nat → Nat → Nat → oS} {w c : Nat} (hp : x_pr p = true) (hmr : mr 4 = p) (hn : n ≤ 600) (hK : cK n tx p sc ar q o L) (hc : sc p 4 = nI (c + 1)) (hc6 : c < 60) (hqw : q + 2 ≤ w) (hwn : w ≤ n) (hC : cPV n tx p mr (o + 1) (xG_261 40 0) C) (hCl : p_ln C) (hT : cPS n tx p mr (o + 1) g T) (hTF : cPF n tx mr g) :
    (∀ os q2 c2, p_b3 (C w) (fun os1 q2 => p_c3 (T q2 (L + os1.length + 1) (c + 1)) (fun os2 q3 c3 => .inr (os1 ++ [(17, nI (L + os1.length + 1 + os2.length))] ++ os2, q3, c3))) = .inr (os, q2, c2) → q2 ≤ n ∧ q + os.length ≤ q2 ∧ q < q2 ∧ c2 ≤ 60 ∧ ∃ sc2 ar2, c_fi g (j_u2 (cA sc w) 756 3 (nI (o + 1))) mr ar al = some (sc2, mr, ar2, al) ∧ sc2 756 2 = nI q2 ∧ cT p (j_u2 sc p 4 (nI c2)) ar L os sc2 ar2) ∧
    (∀ kd pl, p_b3 (C w) (fun os1 q2 => p_c3 (T q2 (L + os1.length + 1) (c + 1)) (fun os2 q3 c3 => .inr (os1 ++ [(17, nI (L + os1.length + 1 + os2.length))] ++ os2, q3, c3))) = .inl (kd, pl) → ∃ c2 sc2 ar2, c_fi g (j_u2 (cA sc w) 756 3 (nI (o + 1))) mr ar al = some (sc2, mr, ar2, al) ∧ cB n p (j_u2 sc p 4 (nI c2)) ar kd pl sc2 ar2) := by
  have hne := x_pr_ne hp
  have hx := hK.1.1
  have hLq := hK.2.2.2.2.2.2
  have hKO := cK_O (q2 := w) hp hK (by omega) hwn
  -- the state with one more open, and whatever steps
  have s0 : ∀ x : Int32, j_u2 (j_u2 (cA sc w) 756 3 (nI (o + 1))) p 4 x = j_u2 (cA (j_u2 sc p 4 x) w) 756 3 (nI (o + 1)) := fun x => by
    rw [u2_c (by omega)]
    congr 1
    exact u2_c (by omega)
  have k3 : ∀ x : Int32, cA (j_u2 sc p 4 x) w 756 3 = nI o := fun x => (cA_k (by decide)).trans ((u2_na (by omega)).trans hK.2.2.1)
  have l3 : ∀ x : Int32, (j_u2 sc p 4 x) p 3 = nI L := fun x => (u2_nk (by decide)).trans hK.2.2.2.2.1
  have S3 : (j_u2 (cA sc w) 756 3 (nI (o + 1))) 756 3 = nI (o + 1) := u2_eq
  have S4 : (j_u2 (cA sc w) 756 3 (nI (o + 1))) p 4 = nI (c + 1) := (u2_na (by omega)).trans ((cA_n (by omega)).trans hc)
  have sid : j_u2 (j_u2 (cA sc w) 756 3 (nI (o + 1))) p 4 (nI (c + 1)) = j_u2 (cA sc w) 756 3 (nI (o + 1)) := by
    conv => lhs; rw [← S4]
    exact u2_3
  generalize hS : j_u2 (cA sc w) 756 3 (nI (o + 1)) = S at *
  obtain ⟨u1, u2⟩ := hC _ _ al _ _ hKO
  -- what comes last
  have bad : ∀ (kd pl : Nat) (x v : Int32) (sc2 ar2 : jSc), (v = -1 ∨ ∃ j, j < 700 ∧ v = nI j) → cB n p (j_u2 S p 4 x) ar kd pl sc2 ar2 → ∃ sc3 ar3, (if x_pr (mr 4) = true then o_b4 (xF_253 (mr 4) v sc2 mr ar2 al) (fun a b c d => some (j_u2 a 756 3 (a 756 3 - 1), b, c, d)) else none) = some (sc3, mr, ar3, al) ∧ cB n p (j_u2 sc p 4 x) ar kd pl sc3 ar3 := by
    intro kd pl x v sc2 ar2 hv hB
    obtain ⟨ar3, e1, e2⟩ := cB_land (mr := mr) (al := al) hB hv
    have e3 : sc2 756 3 = nI (o + 1) := (e2.2.2.2.2.2.1 756 3 (by decide) (by omega)).trans ((u2_na (by omega)).trans S3)
    rw [hmr, if_pos hp, e1, ob4, e3, nI_pred]
    rw [s0] at e2
    have h4 := cB_open hp e2
    rw [k3] at h4
    exact ⟨_, ar3, rfl, cB_T (cT_nil (q := w) hp (l3 x)) h4⟩
  unfold c_fi
  rcases p1 : C w with ⟨kd1, pl1⟩ | ⟨os1, q2⟩
  · refine ⟨fun os q2 c2 hpp => (by cases hpp), fun kd pl hpp => ?_⟩
    cases hpp
    obtain ⟨sc2, ar2, a2, a3⟩ := u2 _ _ p1
    obtain ⟨v, sc3, ar3, f1, f2, f3⟩ := cB_add2 (mr := mr) (al := al) (m := 0) (od := 17) hp a3 (by decide)
    rw [a2, ob4, hmr, if_pos hp, show (17 : Int32) = nI 17 from rfl, f1, ob5, hTF _ _ _ (cB_Z hp hKO.1 f3), ob4]
    rw [← sid] at f3
    have r := bad _ _ _ v sc3 ar3 f2 f3
    exact ⟨c + 1, r⟩
  · obtain ⟨a1, sc2, ar2, a2, a3, a4⟩ := u1 _ _ p1
    have l1 := hCl _ _ _ p1
    obtain ⟨sc3, ar3, f1, f2, f3⟩ := cT_add (mr := mr) (al := al) (ar := ar2) (m := 0) (od := 17) hp a4.1 (by omega) (by decide)
    have t3 := cT_tr a4 f3
    have hc3 := f2.trans a3
    have hK3 : cK n tx p sc3 ar3 q2 (o + 1) (L + os1.length + 1) := by
      obtain ⟨z1, z2, z3, z4, z5, z6, z7⟩ := hKO
      refine ⟨c_TX_T hp z1 t3, hc3, (t3.2.2.1 756 3 (by omega) (by omega)).trans z3, (t3.2.2.1 756 4 (by omega) (by omega)).trans z4, ?_, a1, by omega⟩
      rw [t3.1]
      congr 1
      simp only [List.length_append, List.length_cons, List.length_nil]
      omega
    have h43 : sc3 p 4 = nI (c + 1) := (t3.2.2.1 p 4 (by omega) (by omega)).trans S4
    obtain ⟨v1, v2⟩ := hT sc3 ar3 al q2 (L + os1.length + 1) (c + 1) hK3 h43 (by omega)
    rw [a2, ob4, hmr, if_pos hp, show (17 : Int32) = nI 17 from rfl, f1, ob5]
    show (∀ os q2_1 c2, p_c3 (T q2 (L + os1.length + 1) (c + 1)) (fun os2 q3 c3 => .inr (os1 ++ [(17, nI (L + os1.length + 1 + os2.length))] ++ os2, q3, c3)) = .inr (os, q2_1, c2) → _) ∧ (∀ kd pl, p_c3 (T q2 (L + os1.length + 1) (c + 1)) (fun os2 q3 c3 => .inr (os1 ++ [(17, nI (L + os1.length + 1 + os2.length))] ++ os2, q3, c3)) = .inl (kd, pl) → _)
    refine ⟨fun os q3 c3 hpp => ?_, fun kd pl hpp => ?_⟩
    · obtain ⟨os2, q4, c4, p2, hpp⟩ := p_c3_r hpp
      cases hpp
      obtain ⟨d1, d2, d3, d4, sc4, ar4, d5, d6, d7⟩ := v1 _ _ _ p2
      have t4 := cT_p4 (x := nI c3) hp t3
      have t5 : cT p (j_u2 S p 4 (nI c3)) ar L (os1 ++ [(17, 0)] ++ os2) sc4 ar4 := cT_tr t4 (by rw [show L + (os1 ++ [((17 : Nat), (0 : Int32))]).length = L + os1.length + 1 by simp only [List.length_append, List.length_cons, List.length_nil]; omega]; exact d7)
      have e3 : sc4 756 3 = nI (o + 1) := (t5.2.2.1 756 3 (by decide) (by omega)).trans ((u2_na (by omega)).trans S3)
      have el : L + (os1 ++ [((17 : Nat), (0 : Int32))] ++ os2).length = L + os1.length + 1 + os2.length := by simp only [List.length_append, List.length_cons, List.length_nil]; omega
      have e4 : sc4 p 3 = nI (L + os1.length + 1 + os2.length) := by rw [t5.1, el]
      have e5 : xF_253 p (nI (L + os1.length)) sc4 mr ar4 al = some (sc4, mr, j_u2 ar4 (p + 2) (L + os1.length) (nI (L + os1.length + 1 + os2.length)), al) := by
        unfold xF_253
        rw [if_neg (nI_pos (by omega)), e4, if_neg (fun z => absurd ((nI_leI (by omega) (by omega)).mp z) (by omega)), if_pos (iB_nI (by omega) (by decide)), iN_nI (by omega)]
      have t6 := cT_land (v := nI (L + os1.length + 1 + os2.length)) t5
      rw [s0] at t6
      have t7 := cT_open hp t6
      rw [k3] at t7
      have t8 := cT_tr (os1 := []) (cT_nil (q := w) hp (l3 (nI c3))) t7
      rw [List.nil_append] at t8
      refine ⟨d1, ?_, by omega, d4, _, _, ?_, ?_, t8⟩
      · simp only [List.length_append, List.length_cons, List.length_nil]
        omega
      · rw [d5, ob4, hmr, if_pos hp, e5, ob4, e3, nI_pred]
      · exact (u2_nk (by decide)).trans d6
    · rcases p_c3_l hpp with p2 | ⟨os2, q4, c4, p2, hpp⟩
      · obtain ⟨c2, sc4, ar4, d5, d7⟩ := v2 _ _ p2
        have t4 := cT_p4 (x := nI c2) hp t3
        have r := bad _ _ _ (nI (L + os1.length)) sc4 ar4 (Or.inr ⟨_, by omega, rfl⟩) (cB_T t4 d7)
        obtain ⟨sc5, ar5, r1, r2⟩ := r
        refine ⟨c2, sc5, ar5, ?_, r2⟩
        rw [d5, ob4, r1]
      · cases hpp
theorem s1_ne {V : Nat → oR} {tx : Nat → Int32} {kd q : Nat} {os : oL} {q2 : Nat} (h : p_s1 V tx kd q = .inr (os, q2)) : 1 ≤ os.length := by
  unfold p_s1 at h
  split at h
  · obtain ⟨-, h⟩ := p_sg_r h
    obtain ⟨o1, q1, h1, h⟩ := p_bd_r h
    obtain ⟨-, h⟩ := p_sg_r h
    cases h
    simp only [List.length_append, List.length_cons, List.length_nil]
    omega
  · split at h
    · obtain ⟨d, -, h⟩ := p_dg_r h
      obtain ⟨-, h⟩ := p_sg_r h
      cases h
      exact Nat.le_refl 1
    · split at h
      · obtain ⟨d, -, h⟩ := p_dg_r h
        unfold p_nm at h
        split at h
        · cases h
        · split at h
          · obtain ⟨-, h⟩ := p_sg_r h
            cases h
            exact Nat.le_refl 1
          · cases h
      · split at h
        · obtain ⟨d, -, h⟩ := p_dg_r h
          obtain ⟨-, h⟩ := p_sg_r h
          cases h
          exact Nat.le_refl 1
        · split at h
          · obtain ⟨-, h⟩ := p_sg_r h
            cases h
            exact Nat.le_refl 1
          · obtain ⟨d, -, h⟩ := p_dg_r h
            obtain ⟨o1, q1, h1, h⟩ := p_bd_r h
            obtain ⟨-, h⟩ := p_sg_r h
            cases h
            simp only [List.length_append, List.length_cons, List.length_nil]
            omega
theorem cK_4 {x : Int32} (hp : x_pr p = true) (hK : cK n tx p sc ar q o L) : cK n tx p (j_u2 sc p 4 x) ar q o L := by
  have hne := x_pr_ne hp
  obtain ⟨k1, k2, k3, k4, k5, k6, k7⟩ := hK
  exact ⟨c_TX_S k1 (u2_na (by omega)) rfl, (u2_na (by omega)).trans k2, (u2_na (by omega)).trans k3, (u2_na (by omega)).trans k4, (u2_nk (by decide)).trans k5, k6, k7⟩
set_option maxHeartbeats 1000000 in
theorem c_t0 {g : xVn} {V : Nat → oR} {I : Option ((Nat → oR) × (Nat → Nat → Nat → oS))} (hp : x_pr p = true) (hmr : mr 4 = p) (hn : n ≤ 600) (hV : cPV n tx p mr o (xG_263 40 0) V) (hVF : cPF n tx mr (xG_263 40 0)) (hVl : p_ln V) (hI0 : I = none → o = 6) (hI : ∀ C T, I = some (C, T) → o < 6 ∧ cPV n tx p mr (o + 1) (xG_261 40 0) C ∧ p_ln C ∧ cPS n tx p mr (o + 1) g T ∧ cPF n tx mr g) : cPS n tx p mr o (xF_259 g) (p_t0 V I tx) := by
  intro sc ar al q L c hK hc hc6
  have hne := x_pr_ne hp
  have hT := hK.1
  have hq := hK.2.2.2.2.2.1
  have hLq := hK.2.2.2.2.2.2
  have esc : cA sc q = sc := cA_i hK.2.1
  have b0 := (x_nb_ok hT.1 q).1
  have b1 := x_nb_le hT.1 hq
  have e0 := x_nb_idem hT.1 q
  have hwe : x_we tx (x_nb tx q) ≤ n := x_we_lt hT.1 b1
  have s0 := c_skips (mr := mr) (al := al) hT hq
  rw [esc] at s0
  have lt := c_letter (mr := mr) (al := al) hT b1
  rw [e0] at lt
  have hKS : ∀ x : Int32, cK n tx p (j_u2 sc p 4 x) ar q o L := fun x => cK_4 hp hK
  -- a step known: its kind, where its word ends
  have main : ∀ (kd w : Nat) (x2 : Int32), kd ≤ 10 → q + 1 ≤ w → (kd = 10 → q + 2 ≤ w) → w ≤ n → x_kd tx (x_nb tx q) = some kd → (kd = 0 → w = x_nb tx q + 1 ∧ x2 = nI (iN (tx (x_nb tx q)) - 97)) → (¬ kd = 0 → w = x_we tx (x_nb tx q)) → (kd = 9 → x2 = -1) → xF_259 g sc mr ar al = xF_259_27 g (nI (x_nb tx q)) x2 (nI (c_yk kd)) (cA sc w) mr ar al →
      (∀ os q2 c2, p_t0 V I tx q L c = .inr (os, q2, c2) → q2 ≤ n ∧ q + os.length ≤ q2 ∧ q < q2 ∧ c2 ≤ 60 ∧ ∃ sc2 ar2, xF_259 g sc mr ar al = some (sc2, mr, ar2, al) ∧ sc2 756 2 = nI q2 ∧ cT p (j_u2 sc p 4 (nI c2)) ar L os sc2 ar2) ∧
      (∀ kd pl, p_t0 V I tx q L c = .inl (kd, pl) → ∃ c2 sc2 ar2, xF_259 g sc mr ar al = some (sc2, mr, ar2, al) ∧ cB n p (j_u2 sc p 4 (nI c2)) ar kd pl sc2 ar2) := by
    intro kd w x2 hk hqw hqw2 hwn hkd hw0 hw1 h9 ew
    have yb : c_yk kd < 100 := by unfold c_yk; split <;> omega
    rw [c_27 hp hmr hc hc6 yb] at ew
    unfold p_t0
    rw [hkd]
    show (∀ os q2 c2, (if c = 60 then _ else if kd = 10 then _ else _) = _ → _) ∧ (∀ kd1 pl, (if c = 60 then _ else if kd = 10 then _ else _) = _ → _)
    by_cases c60 : c = 60
    · rw [if_pos c60, show (3 : Int32) = nI 3 from rfl, c_faults, ob4] at ew
      rw [if_pos c60]
      refine ⟨fun os q2 c2 hpp => (by cases hpp), fun kd pl hpp => ?_⟩
      cases hpp
      exact ⟨c + 1, _, _, ew, cB_F hp (hKS _) (by omega) b1 hn⟩
    · rw [if_neg c60] at ew
      rw [if_neg c60]
      by_cases c10 : kd = 10
      · rw [if_pos (show c_yk kd = 17 by rw [c10]; rfl)] at ew
        rw [if_pos c10]
        rcases I with _ | ⟨C, T⟩
        · refine ⟨fun os q2 c2 hpp => (by cases hpp), fun kd1 pl hpp => ?_⟩
          have hpp : Sum.inl (3, x_nb tx q) = Sum.inl (kd1, pl) := hpp
          cases hpp
          have o6 := hI0 rfl
          subst o6
          rw [c_open6 (hKS _), ob5, if_pos rfl] at ew
          exact ⟨c + 1, _, _, ew, cB_F hp (hKS _) (by omega) b1 hn⟩
        · obtain ⟨o6, hC, hCl, hTT, hTF⟩ := hI C T rfl
          rw [c_open (hKS _) o6, ob5, if_neg (by decide)] at ew
          have ww := hw1 (by omega)
          have r := c_if (al := al) (c := c) hp hmr hn (hKS (nI (c + 1))) u2_eq (by omega) (hqw2 c10) hwn hC hCl hTT hTF
          rw [← ew, ww] at r
          refine ⟨fun os q2 c2 hpp => ?_, fun kd1 pl hpp => ?_⟩
          · have := r.1 os q2 c2 hpp
            rw [u2_2] at this
            exact this
          · obtain ⟨c2, sc2, ar2, r1, r2⟩ := r.2 kd1 pl hpp
            rw [u2_2] at r2
            exact ⟨c2, sc2, ar2, r1, r2⟩
      · have ey : c_yk kd = 18 + kd := if_neg c10
        rw [if_neg (by omega), ey] at ew
        rw [if_neg c10]
        have r := c_s1 (g := g) (al := al) (q1 := x_nb tx q) (x2 := x2) hp hmr hn (hKS (nI (c + 1))) hV hVF hVl hqw hwn (by omega) hw0 hw1 h9
        rw [← ew] at r
        refine ⟨fun os q2 c2 hpp => ?_, fun kd1 pl hpp => ?_⟩
        · obtain ⟨os1, q3, p1, hpp⟩ := p_b3_r hpp
          cases hpp
          obtain ⟨r1, r2⟩ := r.1 _ _ p1
          have l1 := ln_s1 hVl p1
          have l2 : q < q2 := by have := s1_ne p1; omega
          exact ⟨r1, by omega, l2, by omega, r2⟩
        · rcases p_b3_l hpp with p1 | ⟨os1, q3, p1, hpp⟩
          · exact ⟨c + 1, r.2 _ _ p1⟩
          · cases hpp
  rcases hl : x_le tx (x_nb tx q) with _ | l
  · rw [hl] at lt
    have ew : xF_259 g sc mr ar al = o_b5 (c_kr (x_kd tx (x_nb tx q)) tx sc (x_nb tx q) mr ar al) (fun v a b c d => xF_259_27 g (nI (x_nb tx q)) (-1) v a b c d) := by
      unfold xF_259
      rw [s0, ob4, lt, ob5, if_pos (by decide), c_kd hT hq hl, cA_2]
    rcases hk : x_kd tx (x_nb tx q) with _ | kd
    · rw [hk] at ew
      have ew : xF_259 g sc mr ar al = xF_259_27 g (nI (x_nb tx q)) (-1) (-1) (cA sc (x_nb tx q)) mr ar al := ew
      unfold xF_259_27 at ew
      rw [if_neg (by decide), show (1 : Int32) = nI 1 from rfl, c_faults, ob4] at ew
      unfold p_t0
      rw [hk]
      refine ⟨fun os q2 c2 hpp => (by cases hpp), fun kd pl hpp => ?_⟩
      cases hpp
      refine ⟨c, _, _, ew, ?_⟩
      rw [show j_u2 sc p 4 (nI c) = sc by rw [← hc]; exact u2_3]
      exact cB_F hp hK (by omega) b1 hn
    · rw [hk] at ew
      have ew : xF_259 g sc mr ar al = xF_259_27 g (nI (x_nb tx q)) (-1) (nI (c_yk kd)) (cA sc (x_we tx (x_nb tx q))) mr ar al := ew
      obtain ⟨y1, y2, y3⟩ := x_kd_b hl hk
      exact main kd _ _ y2 (by omega) (fun _ => by omega) hwe hk (fun z => absurd z (by omega)) (fun _ => rfl) (fun _ => rfl) ew
  · obtain ⟨l1, l2, l3⟩ := x_le_ok hl
    have k2 := lt_n hT.1 (q := x_nb tx q) (by rw [l2]; exact nI_nm (by omega))
    have hk : x_kd tx (x_nb tx q) = some 0 := by
      unfold x_kd
      rw [if_pos (by rw [hl]; exact fun z => by cases z)]
    rw [hl] at lt
    have ew : xF_259 g sc mr ar al = xF_259_27 g (nI (x_nb tx q)) (nI l) (nI (c_yk 0)) (cA sc (x_nb tx q + 1)) mr ar al := by
      unfold xF_259
      rw [s0, ob4, lt, ob5, if_neg (nI_pos (by omega)), cA_2]
      rfl
    exact main 0 _ _ (by omega) (by omega) (fun z => absurd z (by decide)) (by omega) hk (fun _ => ⟨rfl, by rw [l2, iN_nI (by omega)]; congr 1; omega⟩) (fun z => absurd rfl z) (fun z => absurd z (by decide)) ew
/-- the reader's step, where k more may be opened -/
theorem c_st (hp : x_pr p = true) (hmr : mr 4 = p) (hn : n ≤ 600) : ∀ (k m : Nat), k ≤ 6 → k + 1 ≤ m → cPS n tx p mr (6 - k) (xG_259 m) (p_st tx k) ∧ cPF n tx mr (xG_259 m)
  | 0, m, hk, hm => by
    obtain ⟨m, rfl⟩ : ∃ j, m = j + 1 := ⟨m - 1, by omega⟩
    obtain ⟨v1, v2⟩ := c_su (tx := tx) (n := n) hp hmr hn 0 40 (by omega) (by omega)
    exact ⟨c_t0 hp hmr hn v1 v2 (ln_su 0) (fun _ => rfl) (fun C T z => by cases z), c_oneF⟩
  | k + 1, m, hk, hm => by
    obtain ⟨m, rfl⟩ : ∃ j, m = j + 1 := ⟨m - 1, by omega⟩
    obtain ⟨v1, v2⟩ := c_su (tx := tx) (n := n) hp hmr hn (k + 1) 40 (by omega) (by omega)
    obtain ⟨t1, t2⟩ := c_st hp hmr hn k m (by omega) (by omega)
    obtain ⟨w1, w2⟩ := c_tk (tx := tx) (n := n) hp hmr hn k 38 (by omega) (by omega)
    have w3 := c_or hp hmr hn w1 w2 (ln_tk k)
    have e : 6 - (k + 1) + 1 = 6 - k := by omega
    exact ⟨c_t0 hp hmr hn v1 v2 (ln_su (k + 1)) (fun z => by cases z) (fun C T z => by cases z; rw [e]; exact ⟨by omega, w3.1, ln_or (ln_tk k), t1, t2⟩), c_oneF⟩
end CE
