/-! THE REFERENCE: a step that is no if. -/
/-- the order and its mark that a step of the kind kd comes to, its letter lv, digit dv, value v -/
def k_od (kd : Nat) (lv dv v : Int32) (od : Nat) (mk : Int32) : Prop :=
  (kd = 0 ∧ od = 18 ∧ lv = mk ∧ ∃ d, d < 8 ∧ mk = nI d) ∨ (1 ≤ kd ∧ kd ≤ 4 ∧ od = 18 + kd ∧ dv = mk ∧ ∃ d, d < 8 ∧ mk = nI d) ∨ (kd = 5 ∧ od = 23 ∧ ∃ d h, d ≤ 3 ∧ h ≤ 999 ∧ dv = nI d ∧ v = nI h ∧ mk = nI (d * 1000 + h)) ∨ (6 ≤ kd ∧ kd ≤ 8 ∧ od = 18 + kd ∧ dv = mk ∧ ∃ d, d < 4 ∧ mk = nI d) ∨ (kd = 9 ∧ od = 27 ∧ mk = -1)
theorem k_od_mk {kd od : Nat} {lv dv v mk : Int32} (h : k_od kd lv dv v od mk) : (18 ≤ od ∧ od ≤ 27) ∧ o_mk od mk := by
  rcases h with ⟨-, rfl, -, d, h⟩ | ⟨h1, h2, rfl, -, d, h⟩ | ⟨-, rfl, d, e, a, b, -, -, h⟩ | ⟨h1, h2, rfl, -, d, h⟩ | ⟨-, rfl, -⟩
  · exact ⟨by omega, d, h⟩
  · refine ⟨by omega, ?_⟩
    unfold o_mk
    rw [if_pos (by omega)]
    exact ⟨d, h⟩
  · exact ⟨by omega, d, e, a, b, h⟩
  · refine ⟨by omega, ?_⟩
    unfold o_mk
    rw [if_neg (by omega), if_neg (by omega), if_pos (by omega)]
    exact ⟨d, h⟩
  · exact ⟨by omega, trivial⟩
section SN
variable {tx : Nat → Int32} {n : Nat} {g29 g30 : (Nat → Int32) → jSc → Option ((Nat → Int32) × jSc)}
theorem s209F {S : Nat → Int32} {ar : jSc} {a b c e : Int32} (h : ¬ S 7 = 0) : rF_29_209 g29 g30 a b c e S ar = some (S, ar) := by
  unfold rF_29_209
  rw [if_neg h]
theorem s209N {S : Nat → Int32} {ar : jSc} {a b c e : Int32} (h : S 7 = 0) (h2 : S 22 = 0) : rF_29_209 g29 g30 a b c e S ar = some (S, ar) := by
  unfold rF_29_209
  rw [if_pos h, if_pos h2]
theorem s209 {S : Nat → Int32} {ar : jSc} {kd od : Nat} {lv dv v mk : Int32} (h7 : S 7 = 0) (h22 : ¬ S 22 = 0) (hk : k_od kd lv dv v od mk) (hP : pgC (ar 13)) (hm : ∃ m, m ≤ 6 ∧ S 38 = nI m) (hw : S 29 = -1 ∨ S 29 = 0 ∨ S 29 = 1) : rF_29_209 g29 g30 (nI kd) lv dv v S ar = some (sE S (m_ef od mk v S ar), (m_ef od mk v S ar).2.2.2) := by
  obtain ⟨m, hm6, hm⟩ := hm
  have obx : ∀ (x : Option ((Nat → Int32) × jSc)), (o_b2 x (fun a b => some (a, b))) = x := by
    intro x
    rcases x with _ | ⟨a, b⟩ <;> rfl
  unfold rF_29_209
  rw [if_pos h7, if_neg h22]
  simp only [obx]
  rcases hk with ⟨rfl, rfl, rfl, d, h1, h2⟩ | ⟨h1, h2, rfl, rfl, d, h3, h4⟩ | ⟨rfl, rfl, d, e, a, b, rfl, rfl, rfl⟩ | ⟨h1, h2, rfl, rfl, d, h3, h4⟩ | ⟨rfl, rfl, rfl⟩
  · rw [if_pos (by decide), ef_18 ⟨d, h1, h2⟩]
  · have e5 : (5 : Int32) ≤ nI kd ↔ 5 ≤ kd := nI_leI (by decide) (by omega)
    rw [if_neg (nI_ne0 (by omega) (by omega)), if_neg (fun z => absurd (e5.mp z) (by omega))]
    have := ef_th (S := S) (ar := ar) (m := dv) (v := v) (o := 18 + kd) (by omega)
    rw [show 18 + kd - 18 = kd by omega] at this
    exact this
  · rw [if_neg (by decide), if_pos (by decide), if_pos (by decide), ef_23 (v := nI e) a b hP]
  · rcases (show kd = 6 ∨ kd = 7 ∨ kd = 8 by omega) with rfl | rfl | rfl
    · rw [if_neg (by decide), if_pos (by decide), if_neg (by decide), if_pos (by decide), h4, ef_24 h3 hm hm6 hP]
    · rw [if_neg (by decide), if_pos (by decide), if_neg (by decide), if_neg (by decide), if_pos (by decide), h4, ef_25 (v := v) h3]
    · rw [if_neg (by decide), if_pos (by decide), if_neg (by decide), if_neg (by decide), if_neg (by decide), if_pos (by decide), h4, ef_26 h3 hw]
  · rw [if_neg (by decide), if_pos (by decide), if_neg (by decide), if_neg (by decide), if_neg (by decide), if_neg (by decide), ef_27 (m := -1) (v := v)]
/-- what a step that is no if comes to: r the parser's word, f the reference's -/
def rK (n o B : Nat) (S : Nat → Int32) (ar : jSc) (q : Nat) (rd : Int32) (r : oR) (f : Option ((Nat → Int32) × jSc)) : Prop :=
  (∀ os q2, r = .inr (os, q2) → q < q2 ∧ q2 ≤ n ∧ ∃ ov od mk v, os = ov ++ [(od, mk)] ∧ o_va ov ∧ ((18 ≤ od ∧ od ≤ 27) ∧ o_mk od mk) ∧ (∀ st, o_ev (ar 13) (S 25) ov st = (if od = 18 ∨ od = 24 ∨ od = 26 then v :: st else st)) ∧
    (S 22 = 0 → f = some (sQ S q2 o (rdo S ov rd), aro S ov ar)) ∧
    (¬ S 22 = 0 → pgC (ar 13) → (∃ m, m ≤ 6 ∧ S 38 = nI m) → f = some (sE (sQ S q2 o (rdo S ov rd)) (m_ef od mk v (sQ S q2 o (rdo S ov rd)) (aro S ov ar)), (m_ef od mk v (sQ S q2 o (rdo S ov rd)) (aro S ov ar)).2.2.2))) ∧
  (∀ kd pl, r = .inl (kd, pl) → S 22 = 0 → ∃ S9, f = some (S9, ar) ∧ rFl (sQ S q o rd) n kd pl B S9)
/-- the end of a step: the sign ; and the effect -/
theorem s_fin {S : Nat → Int32} {ar : jSc} {q q3 o B kd od : Nat} {rd lv dv v mk : Int32} {ov : oL} (hE : rE tx n S ar) (hq3 : q3 ≤ n) (hq : q ≤ q3) (hB : n ≤ B) (hk : k_od kd lv dv v od mk) (hov : o_va ov) (hev : ∀ st, o_ev (ar 13) (S 25) ov st = (if od = 18 ∨ od = 24 ∨ od = 26 then v :: st else st)) :
    rK n o B S ar q rd (p_sg tx q3 59 (fun q4 => .inr (ov ++ [(od, mk)], q4))) (o_b2 (rF_15 59 (sQ S q3 o (rdo S ov rd)) (aro S ov ar)) (fun S2 ar2 => rF_29_209 g29 g30 (nI kd) lv dv v S2 ar2)) := by
  have hE2 := rE_aro (os := ov) hE
  obtain ⟨s1, s2⟩ := un_sg (o := o) (rd := rdo S ov rd) hE2 hq3 59 (by decide)
  have z1 := (x_nb_ok hE.1.1 q3).1
  have m1 := x_nb_le hE.1.1 hq3
  refine ⟨fun os q2 hp => ?_, fun kd2 pl hp h22 => ?_⟩
  · obtain ⟨c, hp⟩ := p_sg_r hp
    cases hp
    obtain ⟨t1, t2⟩ := s1 c
    rw [t1, ob2]
    refine ⟨by omega, t2, ov, od, mk, v, rfl, hov, k_od_mk hk, hev, fun h22 => ?_, fun h22 hP hm => ?_⟩
    · exact s209N hE.2.1 h22
    · exact s209 hE.2.1 h22 hk (by rw [aro_row hE.2.2 (by omega)]; exact hP) hm hE.2.2
  · unfold p_sg at hp
    split at hp
    · cases hp
    · rename_i c
      cases hp
      rw [s2 c, ob2, rdo_no h22, aro_no h22]
      have f := rFl_sW (S := S) (n := n) (q := q) (o := o) (rd := rd) (B := B) (p := x_nb tx q3) (kd := 1) (pl := x_nb tx q3) hE.2.1 (by omega) m1 (by omega)
      exact ⟨_, s209F (rFl_ne f), f⟩
theorem r_in {S : Nat → Int32} {ar : jSc} {k a b : Nat} (hk : k < 100) (ha : a < 100) (hb : b < 100) : rF_4 (nI k) (nI a) (nI b) S ar = some (if a ≤ k ∧ k ≤ b then 1 else 0, S, ar) := by
  unfold rF_4
  have e1 : nI k < nI a ↔ k < a := nI_ltI (by omega) (by omega)
  have e2 : nI b < nI k ↔ b < k := nI_ltI (by omega) (by omega)
  by_cases h1 : k < a
  · rw [if_pos (e1.mpr h1), if_neg (by omega)]
  · by_cases h2 : b < k
    · rw [if_neg (fun z => h1 (e1.mp z)), if_pos (e2.mpr h2), if_neg (by omega)]
    · rw [if_neg (fun z => h1 (e1.mp z)), if_neg (fun z => h2 (e2.mp z)), if_pos (by omega)]
theorem s117 {S : Nat → Int32} {ar : jSc} {kd : Nat} {lv : Int32} (hk : kd ≤ 9) : rF_29_117 g29 g30 (nI kd) lv S ar = (if 1 ≤ kd ∧ kd ≤ 8 then o_b3 (rF_17 (nI (if kd ≤ 4 then 7 else 3)) S ar) (fun v S1 ar1 => rF_29_154 g29 g30 (nI kd) lv v S1 ar1) else rF_29_154 g29 g30 (nI kd) lv 0 S ar) := by
  unfold rF_29_117
  rw [show (1 : Int32) = nI 1 from rfl, show (4 : Int32) = nI 4 from rfl, r_in (by omega) (by omega) (by omega), ob3]
  by_cases c1 : 1 ≤ kd ∧ kd ≤ 4
  · rw [if_pos c1, if_neg (by decide), if_pos (by omega), if_pos c1.2]
    rfl
  · rw [if_neg c1, if_pos rfl, show (5 : Int32) = nI 5 from rfl, show (8 : Int32) = nI 8 from rfl, r_in (by omega) (by omega) (by omega), ob3]
    by_cases c2 : 5 ≤ kd ∧ kd ≤ 8
    · rw [if_pos c2, if_neg (by decide), if_pos (by omega), if_neg (by omega)]
      rfl
    · rw [if_neg c2, if_pos rfl, if_neg (by omega)]
theorem s154v {S : Nat → Int32} {ar : jSc} {kd : Nat} {lv y : Int32} (hk : kd = 0 ∨ kd = 6 ∨ kd = 8) : rF_29_154 g29 g30 (nI kd) lv y S ar = o_b3 ((rG_22 40).2.2 S ar) (fun v S1 ar1 => if S1 7 = 0 then o_b2 (rF_15 59 S1 ar1) (fun S2 ar2 => rF_29_209 g29 g30 (nI kd) lv y v S2 ar2) else rF_29_209 g29 g30 (nI kd) lv y v S1 ar1) := by
  unfold rF_29_154
  rcases hk with rfl | rfl | rfl
  · rw [if_neg (by decide), if_pos (by decide)]
  · rw [if_neg (by decide), if_neg (by decide), if_pos (by decide)]
  · rw [if_neg (by decide), if_neg (by decide), if_neg (by decide), if_pos (by decide)]
theorem s154o {S : Nat → Int32} {ar : jSc} {kd : Nat} {lv y : Int32} (hk : kd ≤ 9) (h5 : kd ≠ 5) (h0 : kd ≠ 0) (h6 : kd ≠ 6) (h8 : kd ≠ 8) : rF_29_154 g29 g30 (nI kd) lv y S ar = (if S 7 = 0 then o_b2 (rF_15 59 S ar) (fun S2 ar2 => rF_29_209 g29 g30 (nI kd) lv y 0 S2 ar2) else rF_29_209 g29 g30 (nI kd) lv y 0 S ar) := by
  have ne : ∀ k : Nat, k < 100 → kd ≠ k → ¬ nI kd = nI k := fun k hk2 h z => h ((nI_eq (by omega) (by omega)).mp z)
  unfold rF_29_154
  rw [if_neg (show ¬ nI kd = 5 from ne 5 (by omega) h5), if_neg (show ¬ nI kd = 0 from ne 0 (by omega) h0), if_neg (show ¬ nI kd = 6 from ne 6 (by omega) h6), if_neg (show ¬ nI kd = 8 from ne 8 (by omega) h8)]
theorem s154n {S : Nat → Int32} {ar : jSc} {lv y : Int32} : rF_29_154 g29 g30 (nI 5) lv y S ar = o_b3 (rF_16 (nI 999) S ar) (fun v S1 ar1 => if S1 7 = 0 then o_b2 (rF_15 59 S1 ar1) (fun S2 ar2 => rF_29_209 g29 g30 (nI 5) lv y v S2 ar2) else rF_29_209 g29 g30 (nI 5) lv y v S1 ar1) := by
  unfold rF_29_154
  rw [if_pos (show nI 5 = 5 from rfl)]
  rfl
/-- a value, then the end -/
theorem s_val {S : Nat → Int32} {ar : jSc} {q q2 o B BV kd od : Nat} {rd lv dv mk : Int32} {V : Nat → oR} (hV : rPV tx n o BV (rG_22 40).2.2 V) (hva : p_va V) (hE : rE tx n S ar) (hq2 : q2 ≤ n) (hq : q ≤ q2) (hB : n ≤ B) (hBV : BV ≤ B) (hkd : kd = 0 ∨ kd = 6 ∨ kd = 8) (hod : od = 18 ∨ od = 24 ∨ od = 26) (hk : ∀ v, k_od kd lv dv v od mk) :
    rK n o B S ar q rd (p_bd (V q2) (fun os q3 => p_sg tx q3 59 (fun q4 => .inr (os ++ [(od, mk)], q4)))) (rF_29_154 g29 g30 (nI kd) lv dv (sQ S q2 o rd) ar) := by
  obtain ⟨u1, u2⟩ := hV S ar q2 rd hE hq2
  rw [s154v hkd]
  rcases hr : V q2 with ⟨kd2, pl⟩ | ⟨os1, q3⟩
  · refine ⟨fun os q4 hp => (by cases hp), fun kd3 pl3 hp h22 => ?_⟩
    have hp : Sum.inl (kd2, pl) = Sum.inl (kd3, pl3) := hp
    cases hp
    obtain ⟨v, S9, e1, e2⟩ := u2 kd2 pl hr h22
    rw [e1, ob3, if_neg (rFl_ne e2), s209F (rFl_ne e2)]
    exact ⟨S9, rfl, rFl_mono (rFl_fr e2 sQ_fr) hBV⟩
  · obtain ⟨w1, w2, v, w3, w4⟩ := u1 os1 q3 hr
    rw [w4, ob3, if_pos (show sQ S q3 o (rdo S os1 rd) 7 = 0 from hE.2.1)]
    exact s_fin hE w2 (by omega) hB (hk v) (hva _ _ _ hr) (fun st => by rw [if_pos hod]; exact w3 st)
/-- a digit of the mark -/
theorem s_dig {S : Nat → Int32} {ar : jSc} {q q1 o B kd most : Nat} {rd lv : Int32} {k : Nat → Nat → oR} (hE : rE tx n S ar) (hq1 : q1 ≤ n) (hq : q ≤ q1) (hB : n + 6 ≤ B) (hm : most ≤ 9)
    (hF : ∀ (S9 : Nat → Int32) (p : Nat), p ≤ n → ¬ S9 7 = 0 → r_TX S9 ar n tx → S9 5 = nI p → ∃ p2 S8, p2 ≤ n + 1 ∧ S8 = sA S9 p2 ∧ rF_29_154 g29 g30 (nI kd) lv 0 S9 ar = some (S8, ar))
    (hk : ∀ d, d ≤ most → x_nb tx q1 + 1 ≤ n → rK n o B S ar q rd (k d (x_nb tx q1 + 1)) (rF_29_154 g29 g30 (nI kd) lv (nI d) (sQ S (x_nb tx q1 + 1) o rd) ar)) :
    rK n o B S ar q rd (p_dg tx q1 most k) (o_b3 (rF_17 (nI most) (sQ S q1 o rd) ar) (fun v S1 ar1 => rF_29_154 g29 g30 (nI kd) lv v S1 ar1)) := by
  have hn := hE.1.1.1
  have hTB : r_TX (upd (upd S 27 rd) 6 (nI o)) ar n tx := r_TX_S hE.1 rfl rfl
  have h7B : upd (upd S 27 rd) 6 (nI o) 7 = 0 := hE.2.1
  have b1 := x_nb_le hE.1.1 hq1
  have bad : ∀ (w p : Nat), 1 ≤ w ∧ w ≤ 4 → p ≤ n → ∃ S9, rF_29_154 g29 g30 (nI kd) lv 0 (sW (sQ S p o rd) w (x_nb tx q1)) ar = some (S9, ar) ∧ rFl (sQ S q o rd) n w (x_nb tx q1) B S9 := by
    intro w p hw hp
    have f := rFl_sW (S := S) (n := n) (q := q) (o := o) (rd := rd) (B := B) (p := p) (kd := w) (pl := x_nb tx q1) hE.2.1 hw b1 (by omega)
    obtain ⟨p2, S8, e1, rfl, e2⟩ := hF _ p hp (rFl_ne f) (rFl_TX f (rE_TX hE)) (by rw [sW_k rfl rfl]; rfl)
    exact ⟨_, e2, rFl_A f _ (by omega)⟩
  unfold p_dg
  by_cases k1 : x_dg (tx (x_nb tx q1))
  · rw [if_neg (fun z => z k1)]
    obtain ⟨v, v1, v2, v3⟩ := of_dg k1
    have iv : iN (tx (x_nb tx q1)) = v := by rw [v3]; exact iN_nI (by omega)
    have d3 := x_de_lt hE.1.1 k1
    by_cases k2 : x_dg (tx (x_nb tx q1 + 1)) ∨ most < iN (tx (x_nb tx q1)) - 48
    · rw [if_pos k2]
      refine ⟨fun os q2 hp => (by cases hp), fun kd2 pl hp _ => ?_⟩
      cases hp
      rw [r_digit_big hTB (by omega) h7B k1 (fun d hd1 hd2 => by
        rcases k2 with k2 | k2
        · exact hd1.2.1 k2
        · have h5 := hd1.2.2
          rw [v3] at h5
          have := (nI_eq (by omega) (by omega)).mp h5
          omega) hm, ob3]
      exact bad 2 _ (by omega) d3.2
    · rw [if_neg k2]
      have hv : iN (tx (x_nb tx q1)) - 48 ≤ most := Nat.not_lt.mp fun z => k2 (Or.inr z)
      have h1 : x_d1 tx (x_nb tx q1) (iN (tx (x_nb tx q1)) - 48) := ⟨k1, fun z => k2 (Or.inl z), by rw [iv, v3]; congr 1; omega⟩
      rw [r_digit_ok hTB (by omega) h7B h1 hv hm, ob3]
      exact hk _ hv (by omega)
  · rw [if_pos k1]
    refine ⟨fun os q2 hp => (by cases hp), fun kd2 pl hp _ => ?_⟩
    cases hp
    rw [r_digit_no hTB (by omega) h7B k1, ob3]
    exact bad 1 _ (by omega) b1
/-- behind a fault: kinds with a value, with a number, with nothing more -/
theorem s154Fv {S9 : Nat → Int32} {ar : jSc} {kd p : Nat} {lv : Int32} (hVF : rPF tx n (rG_22 40).2.2) (hk : kd = 0 ∨ kd = 6 ∨ kd = 8) (hp : p ≤ n) (h7 : ¬ S9 7 = 0) (hT : r_TX S9 ar n tx) (h5 : S9 5 = nI p) : ∃ p2 S8, p2 ≤ n + 1 ∧ S8 = sA S9 p2 ∧ rF_29_154 g29 g30 (nI kd) lv 0 S9 ar = some (S8, ar) := by
  have hn := hT.1.1
  obtain ⟨v, p2, e1, e2⟩ := hVF S9 ar p hT h7 (by omega)
  rw [sA_i h5] at e2
  rw [s154v hk, e2, ob3, if_neg (show ¬ sA S9 p2 7 = 0 from h7), s209F (show ¬ sA S9 p2 7 = 0 from h7)]
  exact ⟨p2, _, by omega, rfl, rfl⟩
theorem s154Fo {S9 : Nat → Int32} {ar : jSc} {kd p : Nat} {lv : Int32} (hk : kd ≤ 9) (h5k : kd ≠ 5) (h0 : kd ≠ 0) (h6 : kd ≠ 6) (h8 : kd ≠ 8) (hp : p ≤ n) (h7 : ¬ S9 7 = 0) (h5 : S9 5 = nI p) : ∃ p2 S8, p2 ≤ n + 1 ∧ S8 = sA S9 p2 ∧ rF_29_154 g29 g30 (nI kd) lv 0 S9 ar = some (S8, ar) := by
  rw [s154o hk h5k h0 h6 h8, if_neg h7, s209F h7]
  exact ⟨p, S9, by omega, (sA_i h5).symm, rfl⟩
theorem s154F5 {S9 : Nat → Int32} {ar : jSc} {p : Nat} {lv : Int32} (hp : p ≤ n) (h7 : ¬ S9 7 = 0) (hT : r_TX S9 ar n tx) (h5 : S9 5 = nI p) : ∃ p2 S8, p2 ≤ n + 1 ∧ S8 = sA S9 p2 ∧ rF_29_154 g29 g30 (nI 5) lv 0 S9 ar = some (S8, ar) := by
  have hn := hT.1.1
  have b1 := x_nb_le hT.1 hp
  have e := r_digits hT (q := p) (most := 999) (by omega) (by decide)
  rw [sA_i h5] at e
  rw [s154n, e, ob3]
  by_cases k1 : x_dg (tx (x_nb tx p))
  · have d3 := x_de_lt hT.1 k1
    rw [if_pos k1, if_pos k1]
    have e8 : (if min 100000 (x_nu tx (x_nb tx p)) ≤ 999 then sA S9 (x_de tx (x_nb tx p)) else sW (sA S9 (x_de tx (x_nb tx p))) 2 (x_nb tx p)) = sA S9 (x_de tx (x_nb tx p)) := by
      split
      · rfl
      · exact sW_1 (show ¬ sA S9 (x_de tx (x_nb tx p)) 7 = 0 from h7)
    rw [e8, if_neg (show ¬ sA S9 (x_de tx (x_nb tx p)) 7 = 0 from h7), s209F (show ¬ sA S9 (x_de tx (x_nb tx p)) 7 = 0 from h7)]
    exact ⟨_, _, by omega, rfl, rfl⟩
  · rw [if_neg k1, if_neg k1, sW_1 (show ¬ sA S9 (x_nb tx p) 7 = 0 from h7), if_neg (show ¬ sA S9 (x_nb tx p) 7 = 0 from h7), s209F (show ¬ sA S9 (x_nb tx p) 7 = 0 from h7)]
    exact ⟨_, _, by omega, rfl, rfl⟩
/-- the number of a clock -/
theorem s_num5 {S : Nat → Int32} {ar : jSc} {q q2 o B d : Nat} {rd lv : Int32} (hE : rE tx n S ar) (hq2 : q2 ≤ n) (hq : q ≤ q2) (hB : n + 6 ≤ B) (hd : d ≤ 3) :
    rK n o B S ar q rd (p_nm tx q2 (fun h q3 => p_sg tx q3 59 (fun q4 => .inr ([(23, nI (d * 1000 + h))], q4)))) (rF_29_154 g29 g30 (nI 5) lv (nI d) (sQ S q2 o rd) ar) := by
  have hn := hE.1.1.1
  have hTB : r_TX (upd (upd S 27 rd) 6 (nI o)) ar n tx := r_TX_S hE.1 rfl rfl
  have b1 := x_nb_le hE.1.1 hq2
  have b0 := (x_nb_ok hE.1.1 q2).1
  have e := r_digits hTB (q := q2) (most := 999) (by omega) (by decide)
  unfold p_nm
  rw [s154n, e, ob3]
  by_cases k1 : x_dg (tx (x_nb tx q2))
  · have d3 := x_de_lt hE.1.1 k1
    rw [if_neg (fun z => z k1), if_pos k1, if_pos k1]
    by_cases k2 : x_nu tx (x_nb tx q2) ≤ 999
    · rw [if_pos k2, show min 100000 (x_nu tx (x_nb tx q2)) = x_nu tx (x_nb tx q2) by omega, if_pos k2, if_pos (show sA (upd (upd S 27 rd) 6 (nI o)) (x_de tx (x_nb tx q2)) 7 = 0 from hE.2.1)]
      have r := s_fin (g29 := g29) (g30 := g30) (q := q) (q3 := x_de tx (x_nb tx q2)) (o := o) (B := B) (kd := 5) (od := 23) (rd := rd) (lv := lv) (dv := nI d) (v := nI (x_nu tx (x_nb tx q2))) (mk := nI (d * 1000 + x_nu tx (x_nb tx q2))) (ov := []) hE d3.2 (by omega) (by omega) (Or.inr (Or.inr (Or.inl ⟨rfl, rfl, d, _, hd, k2, rfl, rfl, rfl⟩))) (fun x hx => by cases hx) (fun st => by rw [if_neg (by decide)]; rfl)
      rw [rdo_id (show o_rd [] rd = rd from rfl), aro_id (show o_as _ [] ar = ar from rfl)] at r
      exact r
    · rw [if_neg k2]
      refine ⟨fun os q2 hp => (by cases hp), fun kd2 pl hp _ => ?_⟩
      cases hp
      rw [if_neg (show ¬ min 100000 (x_nu tx (x_nb tx q2)) ≤ 999 by omega)]
      have f := rFl_sW (S := S) (n := n) (q := q) (o := o) (rd := rd) (B := B) (p := x_de tx (x_nb tx q2)) (kd := 2) (pl := x_nb tx q2) hE.2.1 (by omega) b1 (by omega)
      rw [if_neg (rFl_ne f), s209F (rFl_ne f)]
      exact ⟨_, rfl, f⟩
  · rw [if_pos k1, if_neg k1, if_neg k1]
    refine ⟨fun os q2 hp => (by cases hp), fun kd2 pl hp _ => ?_⟩
    cases hp
    have f := rFl_sW (S := S) (n := n) (q := q) (o := o) (rd := rd) (B := B) (p := x_nb tx q2) (kd := 1) (pl := x_nb tx q2) hE.2.1 (by omega) b1 (by omega)
    rw [if_neg (rFl_ne f), s209F (rFl_ne f)]
    exact ⟨_, rfl, f⟩
set_option maxHeartbeats 2000000 in
/-- a step of the kind kd at q -/
theorem s89 {S : Nat → Int32} {ar : jSc} {q o B BV kd : Nat} {rd lv : Int32} {V : Nat → oR} (hV : rPV tx n o BV (rG_22 40).2.2 V) (hVF : rPF tx n (rG_22 40).2.2) (hva : p_va V) (hE : rE tx n S ar) (hq : q ≤ n) (hq1 : x_nb tx q = q) (hB : n + 6 ≤ B) (hBV : BV ≤ B) (hB1 : B < 2 ^ 19) (hkd : x_kd tx q = some kd) (hk9 : kd ≤ 9) (hlv : kd = 0 → lv = nI (iN (tx q) - 97)) :
    rK n o B S ar q rd (p_s1 V tx kd q) (rF_29_89 g29 g30 (nI kd) lv (sQ S q o rd) ar) := by
  have hn := hE.1.1.1
  have hTB : r_TX (upd (upd S 27 rd) 6 (nI o)) ar n tx := r_TX_S hE.1 rfl rfl
  have hwe : x_we tx q ≤ n := x_we_lt hE.1.1 hq
  have hwq : q ≤ x_we tx q := (x_we_ok hE.1.1 q).1
  by_cases h0 : kd = 0
  · subst h0
    have hl : ¬ x_le tx q = none := by
      intro z
      unfold x_kd at hkd
      rw [if_neg (fun y => y z)] at hkd
      repeat' split at hkd
      all_goals first | (cases hkd; done) | (injection hkd with hkd; omega)
    obtain ⟨l, hl⟩ := Option.ne_none_iff_exists'.mp hl
    obtain ⟨l1, l2, l3⟩ := x_le_ok hl
    have hlt := lt_n hE.1.1 (q := q) (by rw [l2]; rcases (show l = 0 ∨ l = 1 ∨ l = 2 ∨ l = 3 ∨ l = 4 ∨ l = 5 ∨ l = 6 ∨ l = 7 by omega) with rfl | rfl | rfl | rfl | rfl | rfl | rfl | rfl <;> decide)
    have elv : lv = nI l := by rw [hlv rfl, l2, iN_nI (by omega)]; congr 1; omega
    have eq : nI (iN (tx q) - 97) = nI l := by rw [← hlv rfl]; exact elv
    unfold p_s1 rF_29_89
    rw [if_pos rfl, if_pos (show nI 0 = 0 from rfl), sQ_51, eq]
    obtain ⟨s1, s2⟩ := un_sg (o := o) (rd := rd) hE (show q + 1 ≤ n by omega) 61 (by decide)
    have z1 := (x_nb_ok hE.1.1 (q + 1)).1
    have m1 := x_nb_le hE.1.1 (show q + 1 ≤ n by omega)
    unfold p_sg
    by_cases c : tx (x_nb tx (q + 1)) = 61
    · obtain ⟨t1, t2⟩ := s1 c
      rw [if_pos c, t1, ob2, s117 (by omega), if_neg (by omega)]
      exact s_val hV hva hE t2 (by omega) (by omega) hBV (Or.inl rfl) (Or.inl rfl) (fun v => Or.inl ⟨rfl, rfl, elv, l, l1, rfl⟩)
    · rw [if_neg c]
      refine ⟨fun os q2 hp => (by cases hp), fun kd2 pl hp _ => ?_⟩
      cases hp
      have f := rFl_sW (S := S) (n := n) (q := q) (o := o) (rd := rd) (B := B) (p := x_nb tx (q + 1)) (kd := 1) (pl := x_nb tx (q + 1)) hE.2.1 (by omega) m1 (by omega)
      rw [s2 c, ob2, s117 (by omega), if_neg (by omega)]
      obtain ⟨p2, S8, e1, rfl, e2⟩ := s154Fv (g29 := g29) (g30 := g30) (lv := lv) hVF (Or.inl rfl) m1 (rFl_ne f) (rFl_TX f (rE_TX hE)) (by rw [sW_k rfl rfl]; rfl)
      exact ⟨_, e2, rFl_A f _ (by omega)⟩
  · have e89 : rF_29_89 g29 g30 (nI kd) lv (sQ S q o rd) ar = rF_29_117 g29 g30 (nI kd) lv (sQ S (x_we tx q) o rd) ar := by
      unfold rF_29_89
      rw [if_neg (nI_ne0 (by omega) (by omega)), r_skipWord hTB (by omega), ob2]
    rw [e89, s117 hk9]
    unfold p_s1
    rw [if_neg h0]
    by_cases h4 : kd ≤ 4
    · rw [if_pos h4, if_pos (by omega), if_pos h4]
      refine s_dig hE hwe hwq hB (by decide) (fun S9 p a b c e => s154Fo hk9 (by omega) h0 (by omega) (by omega) a b e) (fun d hd hn2 => ?_)
      rw [s154o hk9 (by omega) h0 (by omega) (by omega), if_pos (show sQ S (x_nb tx (x_we tx q) + 1) o rd 7 = 0 from hE.2.1)]
      have z := (x_nb_ok hE.1.1 (x_we tx q)).1
      have r := s_fin (g29 := g29) (g30 := g30) (q := q) (q3 := x_nb tx (x_we tx q) + 1) (o := o) (B := B) (kd := kd) (od := 18 + kd) (rd := rd) (lv := lv) (dv := nI d) (v := 0) (mk := nI d) (ov := []) hE hn2 (by omega) (by omega) (Or.inr (Or.inl ⟨by omega, h4, rfl, rfl, d, by omega, rfl⟩)) (fun x hx => by cases hx) (fun st => by rw [if_neg (by omega)]; rfl)
      rw [rdo_id (show o_rd [] rd = rd from rfl), aro_id (show o_as _ [] ar = ar from rfl)] at r
      exact r
    · rw [if_neg h4]
      by_cases h9 : kd = 9
      · subst h9
        rw [if_neg (by decide), if_neg (by decide), if_pos rfl, if_neg (by decide), s154o (by omega) (by decide) (by decide) (by decide) (by decide), if_pos (show sQ S (x_we tx q) o rd 7 = 0 from hE.2.1)]
        have r := s_fin (g29 := g29) (g30 := g30) (q := q) (q3 := x_we tx q) (o := o) (B := B) (kd := 9) (od := 27) (rd := rd) (lv := lv) (dv := 0) (v := 0) (mk := -1) (ov := []) hE hwe hwq (by omega) (Or.inr (Or.inr (Or.inr (Or.inr ⟨rfl, rfl, rfl⟩)))) (fun x hx => by cases hx) (fun st => by rw [if_neg (by decide)]; rfl)
        rw [rdo_id (show o_rd [] rd = rd from rfl), aro_id (show o_as _ [] ar = ar from rfl)] at r
        exact r
      · rw [if_pos (show 1 ≤ kd ∧ kd ≤ 8 by omega), if_neg h4]
        have z := (x_nb_ok hE.1.1 (x_we tx q)).1
        by_cases h5 : kd = 5
        · subst h5
          rw [if_pos rfl]
          exact s_dig hE hwe hwq hB (by decide) (fun S9 p a b c e => s154F5 a b c e) (fun d hd hn2 => s_num5 hE hn2 (by omega) hB hd)
        · rw [if_neg h5]
          by_cases h7 : kd = 7
          · subst h7
            rw [if_pos rfl]
            refine s_dig hE hwe hwq hB (by decide) (fun S9 p a b c e => s154Fo (by omega) (by decide) (by decide) (by decide) (by decide) a b e) (fun d hd hn2 => ?_)
            rw [s154o (by omega) (by decide) (by decide) (by decide) (by decide), if_pos (show sQ S (x_nb tx (x_we tx q) + 1) o rd 7 = 0 from hE.2.1)]
            have r := s_fin (g29 := g29) (g30 := g30) (q := q) (q3 := x_nb tx (x_we tx q) + 1) (o := o) (B := B) (kd := 7) (od := 25) (rd := rd) (lv := lv) (dv := nI d) (v := 0) (mk := nI d) (ov := []) hE hn2 (by omega) (by omega) (Or.inr (Or.inr (Or.inr (Or.inl ⟨by decide, by decide, rfl, rfl, d, by omega, rfl⟩)))) (fun x hx => by cases hx) (fun st => by rw [if_neg (by decide)]; rfl)
            rw [rdo_id (show o_rd [] rd = rd from rfl), aro_id (show o_as _ [] ar = ar from rfl)] at r
            exact r
          · rw [if_neg h7, if_neg h9]
            have h68 : kd = 6 ∨ kd = 8 := by omega
            refine s_dig hE hwe hwq hB (by decide) (fun S9 p a b c e => s154Fv hVF (Or.inr h68) a b c e) (fun d hd hn2 => ?_)
            exact s_val hV hva hE hn2 (by omega) (by omega) hBV (Or.inr h68) (by omega) (fun v => Or.inr (Or.inr (Or.inr (Or.inl ⟨by omega, by omega, rfl, rfl, d, by omega, rfl⟩))))
end SN
