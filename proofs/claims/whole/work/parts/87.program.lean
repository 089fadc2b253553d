/-! THE REFERENCE: parts and programs read. -/
def x_op (o : Option (Nat × Nat)) : Int32 := match o with
  | some x => nI x.1
  | none => -1
/-- what the reference has found is g -/
def gR (n : Nat) (S : Nat → Int32) (ar : jSc) (g : pG) : Prop := (S 17 = nI g.2.2.2.2 ∧ g.2.2.2.2 ≤ 60) ∧ (∀ e, e < 17 → ar 12 e = x_op (g.2.1 e)) ∧ S 18 = x_op g.2.2.1 ∧ S 19 = x_op g.2.2.2.1 ∧ ∀ e x, g.2.1 e = some x → x.1 ≤ n
theorem nI_nm {k : Nat} (h : k < 2 ^ 31) : ¬ nI k = -1 := fun z => absurd (congrArg Int32.toInt z) (by rw [nI_toInt h]; show ¬ (k : Int) = -1; omega)
section PB
variable {tx : Nat → Int32} {n : Nat}
theorem r_TX_12 {S : Nat → Int32} {ar : jSc} {k : Nat} {v : Int32} (h : r_TX S ar n tx) : r_TX S (j_u2 ar 12 k v) n tx := by
  refine ⟨h.1, h.2.1, ?_⟩
  rcases h.2.2 with ⟨a, b⟩ | ⟨q, a, b, c⟩
  · exact Or.inl ⟨a, fun p hp => by rw [j_u2_row _ _ _ _ (by decide)]; exact b p hp⟩
  · exact Or.inr ⟨q, a, b, fun p hp => by rw [j_u2_row _ _ _ _ (by omega)]; exact c p hp⟩
theorem rE_12 {S : Nat → Int32} {ar : jSc} {k : Nat} {v : Int32} (h : rE tx n S ar) : rE tx n S (j_u2 ar 12 k v) := ⟨r_TX_12 h.1, h.2⟩
theorem p52F {s0 S9 : Nat → Int32} {ar : jSc} {e kd pl B : Nat} (hT : r_TX s0 ar n tx) (h : rFl s0 n kd pl B S9) (hB : B < 2 ^ 20) (hn : n ≤ B) (he : e < 17) : ∃ S8, rF_41_52 (nI e) S9 ar = some (S8, j_u2 ar 12 e (S9 5)) ∧ rFl s0 n kd pl (B + 1) S8 := by
  obtain ⟨S8, e8, h8⟩ := blF (r_TX_12 (k := e) (v := S9 5) hT) h hB hn
  obtain ⟨p, z1, z2⟩ := rFl_at h8
  have e5 : S8 5 = nI p := by rw [← z2]; exact sA_5
  unfold rF_41_52
  rw [if_neg (rFl_ne h), if_pos (iB_nI he (by decide)), iN_nI (by omega), e8, ob2, oF_s]
  unfold rF_41_79
  rw [if_neg (rFl_ne h8), e5, nI_1]
  exact ⟨_, rfl, rFl_A h8 _ (by omega)⟩
/-- a condition of the program: harm (18), place (19) -/
theorem p165 {S : Nat → Int32} {ar : jSc} {q : Nat} {rd x2 : Int32} (hE : rE tx n S ar) (hq : q ≤ n) (h22 : S 22 = 0) (hrd : S 27 = rd) (f : Nat) (hf : f = (if x2 = 0 then 19 else 18)) :
    (∀ os q2, p_or (p_tk tx 6) tx (x_we tx q) = .inr (os, q2) → tx (x_nb tx q2) = 59 → q < x_nb tx q2 + 1 ∧ x_nb tx q2 + 1 ≤ n ∧ x_we tx q + os.length ≤ q2 ∧ rF_41_165 x2 (sQ S q 0 rd) ar = some (sQ (upd S f (nI (x_we tx q))) (x_nb tx q2 + 1) 0 rd, ar)) ∧
    (∀ kd pl, ((p_or (p_tk tx 6) tx (x_we tx q) = .inl (kd, pl)) ∨ ∃ os q2, p_or (p_tk tx 6) tx (x_we tx q) = .inr (os, q2) ∧ ¬ tx (x_nb tx q2) = 59 ∧ (kd, pl) = (1, x_nb tx q2)) → ∃ S9, rF_41_165 x2 (sQ S q 0 rd) ar = some (S9, ar) ∧ rFB S n kd pl S9) := by
  have hn := hE.1.1.1
  have h7 := hE.2.1
  have hTB : r_TX (upd (upd S 27 rd) 6 (nI 0)) ar n tx := r_TX_S hE.1 rfl rfl
  have hwe : x_we tx q ≤ n := x_we_lt hE.1.1 hq
  have hwq : q ≤ x_we tx q := (x_we_ok hE.1.1 q).1
  have hf2 : f = 18 ∨ f = 19 := by rw [hf]; split <;> simp
  have hEf : rE tx n (upd S f (nI (x_we tx q))) ar := by
    rcases hf2 with rfl | rfl
    · exact ⟨r_TX_S hE.1 rfl rfl, hE.2.1, hE.2.2⟩
    · exact ⟨r_TX_S hE.1 rfl rfl, hE.2.1, hE.2.2⟩
  have hf22 : upd S f (nI (x_we tx q)) 22 = 0 := by rcases hf2 with rfl | rfl <;> exact h22
  have hf27 : upd S f (nI (x_we tx q)) 27 = rd := by rcases hf2 with rfl | rfl <;> exact hrd
  have ew : rF_41_165 x2 (sQ S q 0 rd) ar = o_b3 ((rG_25 40).2.2 (sQ (upd S f (nI (x_we tx q))) (x_we tx q) 0 rd) ar) (fun _ S1 ar1 => if S1 7 = 0 then o_b2 (rF_15 59 S1 ar1) (fun S2 ar2 => some (S2, ar2)) else some (S1, ar1)) := by
    unfold rF_41_165
    rw [if_pos (show sQ S q 0 rd 7 = 0 from h7), r_skipWord hTB (by omega), ob2]
    by_cases c : x2 = 0
    · rw [if_pos c] at hf
      subst hf
      rw [if_pos c, sA_5, sQ_u rfl rfl rfl]
    · rw [if_neg c] at hf
      subst hf
      rw [if_neg c, sA_5, sQ_u rfl rfl rfl]
  obtain ⟨u1, u2⟩ := (rP_ct (tx := tx) (n := n) hn 6 16 (by omega)).2 _ ar (x_we tx q) rd hEf hwe
  rw [ew]
  have fr : ∀ k, (k == 17) = false → (k == 18) = false → (k == 19) = false → upd S f (nI (x_we tx q)) k = S k := by
    intro k a b c
    rcases hf2 with rfl | rfl
    · exact up_1 b
    · exact up_1 c
  refine ⟨fun os q2 hp h59 => ?_, fun kd pl hp => ?_⟩
  · obtain ⟨w1, w2, v, w0, w3, w4⟩ := u1 os q2 hp
    have w4 : (rG_25 40).2.2 (sQ (upd S f (nI (x_we tx q))) (x_we tx q) 0 rd) ar = _ := w4
    rw [rdo_no hf22, aro_no hf22] at w4
    obtain ⟨s1, s2⟩ := un_sg (o := 0) (rd := rd) hEf w2 59 (by decide)
    obtain ⟨t1, t2⟩ := s1 h59
    have z := (x_nb_ok hE.1.1 q2).1
    have l := ln_or (ln_tk 6) _ _ _ hp
    have e7 : sQ (upd S f (nI (x_we tx q))) q2 0 rd 7 = 0 := hEf.2.1
    refine ⟨by omega, t2, l, ?_⟩
    rw [w4, ob3]
    show (if sQ (upd S f (nI (x_we tx q))) q2 (6 - 6) rd 7 = 0 then _ else _) = _
    rw [if_pos e7]
    show o_b2 (rF_15 59 (sQ (upd S f (nI (x_we tx q))) q2 0 rd) ar) _ = _
    rw [t1, ob2]
  · rcases hp with hp | ⟨os, q2, hp, h59, he⟩
    · obtain ⟨v, S9, w0, y1, y2⟩ := u2 kd pl hp hf22
      have y1 : (rG_25 40).2.2 (sQ (upd S f (nI (x_we tx q))) (x_we tx q) 0 rd) ar = _ := y1
      rw [y1, ob3, if_neg (rFl_ne y2)]
      exact ⟨S9, rfl, rFB_fr (rFB_of' y2 (by omega) hf27) fr⟩
    · cases he
      obtain ⟨w1, w2, v, w0, w3, w4⟩ := u1 os q2 hp
      have w4 : (rG_25 40).2.2 (sQ (upd S f (nI (x_we tx q))) (x_we tx q) 0 rd) ar = _ := w4
      rw [rdo_no hf22, aro_no hf22] at w4
      obtain ⟨s1, s2⟩ := un_sg (o := 0) (rd := rd) hEf w2 59 (by decide)
      have m1 := x_nb_le hE.1.1 w2
      have e7 : sQ (upd S f (nI (x_we tx q))) q2 0 rd 7 = 0 := hEf.2.1
      rw [w4, ob3]
      show ∃ S9, (if sQ (upd S f (nI (x_we tx q))) q2 (6 - 6) rd 7 = 0 then _ else _) = some (S9, ar) ∧ _
      rw [if_pos e7]
      show ∃ S9, o_b2 (rF_15 59 (sQ (upd S f (nI (x_we tx q))) q2 0 rd) ar) _ = some (S9, ar) ∧ _
      rw [s2 h59, ob2]
      have f9 := rFl_sW (S := upd S f (nI (x_we tx q))) (n := n) (q := q) (o := 0) (rd := rd) (B := n) (p := x_nb tx q2) (kd := 1) (pl := x_nb tx q2) hEf.2.1 (by omega) m1 m1
      exact ⟨_, rfl, rFB_fr (rFB_of' f9 (by omega) hf27) fr⟩
/-- rows but that of the handlers found -/
def r12 (ar ar2 : jSc) : Prop := ∀ b, (b == 12) = false → ar2 b = ar b
theorem r12_u {ar : jSc} {k : Nat} {v : Int32} : r12 ar (j_u2 ar 12 k v) := fun b h => j_u2_row _ _ _ _ (by simpa using h)
def f179 (S S2 : Nat → Int32) : Prop := ∀ k, (k == 17) = false → (k == 18) = false → (k == 19) = false → S2 k = S k
set_option maxHeartbeats 2000000 in
theorem r_part {S : Nat → Int32} {ar : jSc} {q : Nat} {rd : Int32} {g : pG} (hE : rE tx n S ar) (hq : q < n) (hnb : x_nb tx q = q) (h22 : S 22 = 0) (h4 : S 4 = -1) (hrd : S 27 = rd) (hg : gR n S ar g) (hgl : g.1.length ≤ q) :
    (∀ g2 q2, p_pt tx q g = .inr (g2, q2) → q < q2 ∧ q2 ≤ n ∧ g2.1.length ≤ q2 ∧ ∃ S2 ar2, rF_41 (sQ S q 0 rd) ar = some (sQ S2 q2 0 rd, ar2) ∧ gR n S2 ar2 g2 ∧ f179 S S2 ∧ r12 ar ar2) ∧
    (∀ kd pl, p_pt tx q g = .inl (kd, pl) → ∃ S9 ar9, rF_41 (sQ S q 0 rd) ar = some (S9, ar9) ∧ rFB S n kd pl S9 ∧ r12 ar ar9) := by
  have hn := hE.1.1.1
  have h7 := hE.2.1
  have hTB : r_TX (upd (upd S 27 rd) 6 (nI 0)) ar n tx := r_TX_S hE.1 rfl rfl
  have hwe : x_we tx q ≤ n := x_we_lt hE.1.1 (by omega)
  have hwq : q ≤ x_we tx q := (x_we_ok hE.1.1 q).1
  obtain ⟨⟨g17, gc⟩, g12, g18, g19, gp⟩ := hg
  have ew : rF_41 (sQ S q 0 rd) ar = rF_41 (sQ S q 0 rd) ar := rfl
  conv at ew => rhs; unfold rF_41
  rw [r_w_on hTB (by omega), hnb, ob3] at ew
  unfold p_pt
  by_cases c1 : x_is tx q w_on
  · rw [if_pos c1] at ew ⊢
    rw [if_neg (show ¬ (1 : Int32) = 0 by decide), r_skipWord hTB (by omega), ob2] at ew
    obtain ⟨e1, e2⟩ := r_event (o := 0) (rd := rd) hE hwe
    rcases hev : p_ev tx (x_we tx q) with ⟨kd, pl⟩ | ⟨e, q2⟩
    · refine ⟨fun g2 q2 hp => (by cases hp), fun kd2 pl2 hp => ?_⟩
      cases hp
      obtain ⟨S9, e, he, y1, y2⟩ := e2 kd pl hev
      obtain ⟨S8, z1, z2⟩ := p52F (rE_TX hE) y2 (by omega) (by omega) he
      rw [y1, ob3, if_neg (rFl_ne y2), z1] at ew
      exact ⟨S8, _, ew, rFB_of' z2 (by omega) hrd, r12_u⟩
    · obtain ⟨he, a1, a2, a3⟩ := e1 e q2 hev
      rw [a3, ob3, if_pos (show sQ S q2 0 rd 7 = 0 from h7), if_pos (iB_nI he (by decide)), iN_nI (by omega), g12 e he] at ew
      show (∀ g2 q2', (if ¬ g.2.1 e = none then Sum.inl (4, q) else _) = _ → _) ∧ (∀ kd pl, (if ¬ g.2.1 e = none then Sum.inl (4, q) else _) = _ → _)
      rcases hh : g.2.1 e with _ | x
      · rw [hh, show x_op none = -1 from rfl, if_pos rfl] at ew
        rw [if_neg (fun z => z rfl)]
        have b1 := x_nb_le hE.1.1 a2
        have b0 := (x_nb_ok hE.1.1 q2).1
        unfold rF_41_52 at ew
        rw [if_pos (show sQ S q2 0 rd 7 = 0 from h7)] at ew
        obtain ⟨s1, s2⟩ := un_sg (o := 0) (rd := rd) hE a2 123 (by decide)
        by_cases k1 : tx (x_nb tx q2) = 123
        · obtain ⟨t1, t2⟩ := s1 k1
          have hTB3 : r_TX (upd (upd S 27 rd) 6 (nI 0)) (j_u2 ar 12 e (nI (x_nb tx q2 + 1))) n tx := r_TX_12 hTB
          have eS : upd S 17 (nI g.2.2.2.2) = S := by rw [← g17]; exact up_3
          rw [t1, ob2, if_pos (iB_nI he (by decide)), iN_nI (by omega), sQ_5, r_blanks hTB3 (by omega), ob2] at ew
          rw [if_pos k1]
          obtain ⟨i1, i2⟩ := r_body (tx := tx) hn 700 oF S (j_u2 ar 12 e (nI (x_nb tx q2 + 1))) (x_nb tx q2 + 1) g.1.length g.2.2.2.2 rd (rE_12 hE) t2 gc (by omega) h22 h4 hrd (by omega) (by rw [oF_s]; omega)
          rw [eS] at i1 i2
          rcases hb : p_hb tx 700 (x_nb tx q2 + 1) g.1.length g.2.2.2.2 with ⟨kd, pl⟩ | ⟨seg, q4, c4⟩
          · refine ⟨fun g2 q2 hp => (by cases hp), fun kd2 pl2 hp => ?_⟩
            cases hp
            obtain ⟨S9, y1, y2⟩ := i2 kd pl hb
            exact ⟨S9, _, ew.trans y1, y2, r12_u⟩
          · refine ⟨fun g2 q5 hp => ?_, fun kd pl hp => (by cases hp)⟩
            cases hp
            obtain ⟨j1, j2, j3, j4, j5⟩ := i1 seg _ c4 hb
            refine ⟨by omega, j2, by simp only [List.length_append]; omega, upd S 17 (nI c4), _, ew.trans j5, ⟨⟨rfl, j3⟩, fun e' he' => ?_, g18, g19, fun e' x' hx => ?_⟩, fun k a b c => up_1 a, r12_u⟩
            · show j_u2 ar 12 e (nI (x_nb tx q2 + 1)) 12 e' = x_op (if e' = e then some (x_nb tx q2 + 1, g.1.length) else g.2.1 e')
              by_cases ee : e' = e
              · subst ee; rw [u2_eq, if_pos rfl]; rfl
              · rw [u2_nk ee, if_neg ee]; exact g12 e' he'
            · have hx : (if e' = e then some (x_nb tx q2 + 1, g.1.length) else g.2.1 e') = some x' := hx
              split at hx
              · cases hx; exact t2
              · exact gp e' x' hx
        · rw [if_neg k1]
          refine ⟨fun g2 q2 hp => (by cases hp), fun kd2 pl2 hp => ?_⟩
          cases hp
          have f := rFl_sW (S := S) (n := n) (q := q) (o := 0) (rd := rd) (B := n) (p := x_nb tx q2) (kd := 1) (pl := x_nb tx q2) h7 (by omega) b1 b1
          have e5 : sW (sQ S (x_nb tx q2) 0 rd) 1 (x_nb tx q2) 5 = nI (x_nb tx q2) := by rw [sW_k rfl rfl]; rfl
          obtain ⟨S8, e8, h8⟩ := blF (r_TX_12 (k := e) (v := nI (x_nb tx q2)) (rE_TX hE)) f (by omega) (by omega)
          obtain ⟨p, z1, z2⟩ := rFl_at h8
          have e58 : S8 5 = nI p := by rw [← z2]; exact sA_5
          rw [s2 k1, ob2, if_pos (iB_nI he (by decide)), iN_nI (by omega), e5, e8, ob2, oF_s] at ew
          unfold rF_41_79 at ew
          rw [if_neg (rFl_ne h8), e58, nI_1] at ew
          exact ⟨_, _, ew, rFB_A (rFB_of' h8 (by omega) hrd) (by omega), r12_u⟩
      · rw [hh, show x_op (some x) = nI x.1 from rfl, if_neg (nI_nm (by have := gp e x hh; omega)), sQ_5, show (4 : Int32) = nI 4 from rfl, r_wrong, ob2] at ew
        rw [if_pos (fun z => by cases z)]
        refine ⟨fun g2 q2 hp => (by cases hp), fun kd2 pl2 hp => ?_⟩
        cases hp
        have f := rFl_sW (S := S) (n := n) (q := q) (o := 0) (rd := rd) (B := n) (p := q2) (kd := 4) (pl := q) h7 (by omega) (by omega) a2
        obtain ⟨S8, z1, z2⟩ := p52F (rE_TX hE) f (by omega) (by omega) he
        exact ⟨S8, _, ew.trans z1, rFB_of' z2 (by omega) hrd, r12_u⟩
  · rw [if_neg c1] at ew ⊢
    rw [if_pos rfl, r_w_harm hTB (by omega), hnb, ob3, r_w_place hTB (by omega), hnb, ob3] at ew
    have cond : ∀ (x2 : Int32) (f : Nat) (hf : f = (if x2 = 0 then 19 else 18)) (mk : oL → pG), rF_41 (sQ S q 0 rd) ar = rF_41_165 x2 (sQ S q 0 rd) ar → (∀ o1 : oL, (mk o1).1.length = g.1.length + o1.length + 1 ∧ (0 < x_we tx q - q) ∧ gR n (upd S f (nI (x_we tx q))) ar (mk o1)) →
        (∀ g2 q2, (match p_or (p_tk tx 6) tx (x_we tx q) with | .inl f => Sum.inl f | .inr (o1, q2) => if tx (x_nb tx q2) = 59 then Sum.inr (mk o1, x_nb tx q2 + 1) else Sum.inl (1, x_nb tx q2)) = Sum.inr (g2, q2) → q < q2 ∧ q2 ≤ n ∧ g2.1.length ≤ q2 ∧ ∃ S2 ar2, rF_41 (sQ S q 0 rd) ar = some (sQ S2 q2 0 rd, ar2) ∧ gR n S2 ar2 g2 ∧ f179 S S2 ∧ r12 ar ar2) ∧ (∀ kd pl, (match p_or (p_tk tx 6) tx (x_we tx q) with | .inl f => Sum.inl f | .inr (o1, q2) => if tx (x_nb tx q2) = 59 then Sum.inr (mk o1, x_nb tx q2 + 1) else Sum.inl (1, x_nb tx q2)) = Sum.inl (kd, pl) → ∃ S9 ar9, rF_41 (sQ S q 0 rd) ar = some (S9, ar9) ∧ rFB S n kd pl S9 ∧ r12 ar ar9) := by
      intro x2 f hf mk hew hmk
      obtain ⟨u1, u2⟩ := p165 (x2 := x2) hE (show q ≤ n by omega) h22 hrd f hf
      rw [hew]
      rcases hp1 : p_or (p_tk tx 6) tx (x_we tx q) with ⟨kd, pl⟩ | ⟨o1, q3⟩
      · refine ⟨fun g2 q2 hp => (by cases hp), fun kd2 pl2 hp => ?_⟩
        cases hp
        obtain ⟨S9, y1, y2⟩ := u2 kd pl (Or.inl hp1)
        exact ⟨S9, ar, y1, y2, fun _ _ => rfl⟩
      · show (∀ g2 q2, (if tx (x_nb tx q3) = 59 then Sum.inr (mk o1, x_nb tx q3 + 1) else Sum.inl (1, x_nb tx q3)) = Sum.inr (g2, q2) → _) ∧ (∀ kd pl, (if tx (x_nb tx q3) = 59 then Sum.inr (mk o1, x_nb tx q3 + 1) else Sum.inl (1, x_nb tx q3)) = Sum.inl (kd, pl) → _)
        by_cases k : tx (x_nb tx q3) = 59
        · rw [if_pos k]
          refine ⟨fun g2 q2 hp => ?_, fun kd pl hp => (by cases hp)⟩
          cases hp
          obtain ⟨a1, a2, a3, a4⟩ := u1 o1 q3 hp1 k
          obtain ⟨m1, m2, m3⟩ := hmk o1
          have z := (x_nb_ok hE.1.1 q3).1
          have hf2 : f = 18 ∨ f = 19 := by rw [hf]; split <;> simp
          refine ⟨a1, a2, by rw [m1]; omega, _, ar, a4, m3, fun k a b c => ?_, fun _ _ => rfl⟩
          rcases hf2 with rfl | rfl
          · exact up_1 b
          · exact up_1 c
        · rw [if_neg k]
          refine ⟨fun g2 q2 hp => (by cases hp), fun kd pl hp => ?_⟩
          cases hp
          obtain ⟨S9, y1, y2⟩ := u2 1 (x_nb tx q3) (Or.inr ⟨o1, q3, hp1, k, rfl⟩)
          exact ⟨S9, ar, y1, y2, fun _ _ => rfl⟩
    by_cases c2 : x_is tx q w_harm
    · rw [if_pos c2] at ew ⊢
      rw [if_neg (show ¬ (1 : Int32) = 0 by decide)] at ew
      have gw := (x_is_lt hE.1.1 (show q ≤ n by omega) c2 (by decide)).1
      exact cond 1 18 rfl (fun o1 => (g.1 ++ (o1 ++ [(16, 0)]), g.2.1, some (x_we tx q, g.1.length), g.2.2.2.1, g.2.2.2.2)) ew (fun o1 => ⟨by simp only [List.length_append, List.length_cons, List.length_nil]; omega, by omega, ⟨g17, gc⟩, g12, rfl, g19, gp⟩)
    · rw [if_neg c2] at ew ⊢
      rw [if_pos rfl] at ew
      by_cases c3 : x_is tx q w_place
      · rw [if_pos c3] at ew ⊢
        rw [if_neg (show ¬ (1 : Int32) = 0 by decide)] at ew
        have gw := (x_is_lt hE.1.1 (show q ≤ n by omega) c3 (by decide)).1
        exact cond 0 19 rfl (fun o1 => (g.1 ++ (o1 ++ [(16, 0)]), g.2.1, g.2.2.1, some (x_we tx q, g.1.length), g.2.2.2.2)) ew (fun o1 => ⟨by simp only [List.length_append, List.length_cons, List.length_nil]; omega, by omega, ⟨g17, gc⟩, g12, g18, rfl, gp⟩)
      · rw [if_neg c3] at ew ⊢
        rw [if_pos rfl, sA_5, show (1 : Int32) = nI 1 from rfl, r_wrong, ob2] at ew
        refine ⟨fun g2 q2 hp => (by cases hp), fun kd pl hp => ?_⟩
        cases hp
        have f := rFl_sW (S := S) (n := n) (q := q) (o := 0) (rd := rd) (B := n) (p := q) (kd := 1) (pl := q) h7 (by omega) (by omega) (by omega)
        unfold rF_41_165 at ew
        rw [if_neg (rFl_ne f)] at ew
        exact ⟨_, ar, ew, rFB_of' f (by omega) hrd, fun _ _ => rfl⟩
end PB
