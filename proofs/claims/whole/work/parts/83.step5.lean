/-! THE REFERENCE: doStep and ifStep. -/
/-- an if at q (its word stands there) -/
def p_if (I : Option ((Nat → oR) × (Nat → Nat → Nat → oS))) (tx : Nat → Int32) (q base cnt : Nat) : oS := p_i3 I q (fun C T => p_b3 (C (x_we tx q)) (fun os1 q2 => p_c3 (T q2 (base + os1.length + 1) cnt) (fun os2 q3 c3 => .inr (os1 ++ [(17, nI (base + os1.length + 1 + os2.length))] ++ os2, q3, c3))))
theorem p_b3_r {r : oR} {f : oL → Nat → oS} {x : oL × Nat × Nat} (h : p_b3 r f = .inr x) : ∃ os q, r = .inr (os, q) ∧ f os q = .inr x := by
  rcases r with e | ⟨os1, q1⟩
  · cases h
  · exact ⟨os1, q1, rfl, h⟩
theorem p_b3_l {r : oR} {f : oL → Nat → oS} {a b : Nat} (h : p_b3 r f = .inl (a, b)) : r = .inl (a, b) ∨ ∃ os q, r = .inr (os, q) ∧ f os q = .inl (a, b) := by
  rcases r with e | ⟨os1, q1⟩
  · have h : Sum.inl e = Sum.inl (a, b) := h
    cases h
    exact Or.inl rfl
  · exact Or.inr ⟨os1, q1, rfl, h⟩
theorem p_c3_r {r : oS} {f : oL → Nat → Nat → oS} {x : oL × Nat × Nat} (h : p_c3 r f = .inr x) : ∃ os q c, r = .inr (os, q, c) ∧ f os q c = .inr x := by
  rcases r with e | ⟨os1, q1, c1⟩
  · cases h
  · exact ⟨os1, q1, c1, rfl, h⟩
theorem p_c3_l {r : oS} {f : oL → Nat → Nat → oS} {a b : Nat} (h : p_c3 r f = .inl (a, b)) : r = .inl (a, b) ∨ ∃ os q c, r = .inr (os, q, c) ∧ f os q c = .inl (a, b) := by
  rcases r with e | ⟨os1, q1, c1⟩
  · have h : Sum.inl e = Sum.inl (a, b) := h
    cases h
    exact Or.inl rfl
  · exact Or.inr ⟨os1, q1, c1, rfl, h⟩
section DO
variable {tx : Nat → Int32} {n : Nat} {g29 g30 : rVn}
theorem rE_17 {S : Nat → Int32} {ar : jSc} {c : Int32} (h : rE tx n S ar) : rE tx n (upd S 17 c) ar := ⟨r_TX_S h.1 rfl rfl, h.2.1, h.2.2⟩
theorem rE_22 {S : Nat → Int32} {ar : jSc} {c : Int32} (h : rE tx n S ar) : rE tx n (upd S 22 c) ar := ⟨r_TX_S h.1 rfl rfl, h.2.1, h.2.2⟩
/-- g30 does what p_if says at a word if -/
def rSI (tx : Nat → Int32) (n o B : Nat) (f : rVn) (I : Option ((Nat → oR) × (Nat → Nat → Nat → oS))) : Prop := ∀ (S : Nat → Int32) (ar : jSc) (q : Nat) (rd : Int32) (base cnt : Nat) (c : Int32), rE tx n S ar → q ≤ n → x_is tx q w_if → (S 4 = -1 → c = nI cnt) → cnt ≤ 60 → base ≤ 100000 + q →
  (∀ os q2 c2, p_if I tx q base cnt = .inr (os, q2, c2) → q < q2 ∧ q2 ≤ n ∧ cnt < c2 ∧ c2 ≤ 60 ∧ q + os.length ≤ q2 ∧
    (S 22 = 0 → ∃ c9, (S 4 = -1 → c9 = nI c2) ∧ f (sQ (upd S 17 c) q o rd) ar = some (sQ (upd S 17 c9) q2 o rd, ar)) ∧
    (S 22 = 1 → S 23 = 1 → S 24 = 0 → pgC (ar 13) → (∃ m, m ≤ 6 ∧ S 38 = nI m) → ¬ S 4 = -1 → ∃ c9 S2 rd2 ar2, f (sQ (upd S 17 c) q o rd) ar = some (sQ (upd S2 17 c9) q2 o rd2, ar2) ∧ wR S rd ar base os S2 rd2 ar2)) ∧
  (∀ kd pl, p_if I tx q base cnt = .inl (kd, pl) → S 22 = 0 → S 4 = -1 → ∃ S9 c9, f (sQ (upd S 17 c) q o rd) ar = some (S9, ar) ∧ rFl (sQ (upd S 17 c9) q o rd) n kd pl B S9)
theorem asr_aro {S : Nat → Int32} {ar : jSc} {os : oL} (h22 : S 22 = 1) (h23 : S 23 = 1) : aro S os ar = asr S os ar := by
  unfold aro asr
  by_cases c : S 29 = -1
  · rw [if_pos c, if_pos (Or.inr (Or.inr c))]
  · rw [if_neg c, if_neg (fun z => z.elim (fun y => by rw [h22] at y; exact absurd y (by decide)) (fun y => y.elim (fun x => by rw [h23] at x; exact absurd x (by decide)) c))]
theorem rdo_do {S : Nat → Int32} {os : oL} {rd : Int32} (h22 : S 22 = 1) (h23 : S 23 = 1) : rdo S os rd = o_rd os rd := if_neg (fun z => z.elim (fun y => by rw [h22] at y; exact absurd y (by decide)) (fun y => by rw [h23] at y; exact absurd y (by decide)))
theorem rFl_22 {s0 S9 : Nat → Int32} {kd pl B : Nat} {x : Int32} (h : rFl s0 n kd pl B S9) (hx : s0 22 = x) : upd S9 22 x = S9 := by
  have e := h.2.2.2.2 22 rfl rfl rfl rfl
  rw [hx] at e
  rw [← e]
  exact up_3
set_option maxHeartbeats 4000000 in
theorem rP_if {o B BC BT : Nat} {I : Option ((Nat → oR) × (Nat → Nat → Nat → oS))} (hB : n + 6 ≤ B) (hBC : BC ≤ B) (hBT : BT ≤ B) (ho : I = none → o = 6) (hI : ∀ C T, I = some (C, T) → o < 6 ∧ rPB tx n (o + 1) BC (rG_25 40).2.2 C ∧ p_va C ∧ p_ln C ∧ rST tx n (o + 1) BT g29 T) : rSI tx n o B (rF_30 g29 g30) I := by
  intro S ar q rd base cnt c hE hq hw hc hcnt hbase
  have hn := hE.1.1.1
  have h7 := hE.2.1
  have hEc := rE_17 (c := c) hE
  obtain ⟨g1, g2⟩ := x_is_lt hE.1.1 hq hw (by decide)
  have gw := hw.1
  simp only [List.length_cons, List.length_nil] at gw
  unfold p_if
  rcases I with _ | ⟨C, T⟩
  · refine ⟨fun os q2 c2 hp => (by cases hp), fun kd pl hp _ _ => ?_⟩
    have hp : Sum.inl (3, q) = Sum.inl (kd, pl) := hp
    cases hp
    have o6 := ho rfl
    subst o6
    unfold rF_30
    rw [if_pos (show sQ (upd S 17 c) q 6 rd 6 = 6 from rfl), sQ_5, show (3 : Int32) = nI 3 from rfl, r_wrong, ob2]
    exact ⟨_, c, rfl, rFl_sW (S := upd S 17 c) h7 (by omega) hq (by omega)⟩
  · obtain ⟨o6, hC, hva, hln, hT⟩ := hI C T rfl
    have e7 : nI o = (6 : Int32) ↔ o = 6 := nI_eq (by omega) (by decide)
    have hTB : r_TX (upd (upd (upd S 17 c) 27 rd) 6 (nI (o + 1))) ar n tx := r_TX_S hE.1 rfl rfl
    have ew : rF_30 g29 g30 (sQ (upd S 17 c) q o rd) ar = o_b3 ((rG_25 40).2.2 (sQ (upd S 17 c) (x_we tx q) (o + 1) rd) ar) (fun ve9 Se9 are9 => (if S 22 = 0 then rF_30_57 g29 g30 (S 22) 0 Se9 are9 else (if ve9 = 0 then rF_30_57 g29 g30 (S 22) 0 Se9 are9 else rF_30_57 g29 g30 (S 22) 1 Se9 are9))) := by
      unfold rF_30
      rw [if_neg (show ¬ sQ (upd S 17 c) q o rd 6 = 6 from fun z => absurd (e7.mp z) (by omega)), show sQ (upd S 17 c) q o rd 6 = nI o from rfl, nI_1, sQ_6, r_skipWord hTB (by omega), ob2]
      rfl
    rw [ew]
    obtain ⟨u1, u2⟩ := hC (upd S 17 c) ar (x_we tx q) rd hEc g2
    have z01 : (0 : Int32) = 0 ∨ (0 : Int32) = 1 := Or.inl rfl
    refine ⟨fun os q2 c2 hp => ?_, fun kd pl hp h22 h4 => ?_⟩
    · obtain ⟨os1, q3, p1, hp⟩ := p_b3_r hp
      obtain ⟨os2, q4, c4, p2, hp⟩ := p_c3_r hp
      cases hp
      obtain ⟨w1, w2, v, w0, w3, w4⟩ := u1 os1 q3 p1
      have l1 := hln _ _ _ p1
      have hE1 := rE_aro (os := os1) hEc
      have hE1' : rE tx n S (aro (upd S 17 c) os1 ar) := ⟨r_TX_S hE1.1 rfl rfl, hE.2⟩
      obtain ⟨t1, -⟩ := hT S (aro (upd S 17 c) os1 ar) q3 (rdo (upd S 17 c) os1 rd) (base + os1.length + 1) cnt c hE1' w2 hc hcnt (by omega)
      obtain ⟨a1, a2, a3, a4, a5, a6, a7⟩ := t1 os2 q2 c2 p2
      rw [w4, ob3]
      refine ⟨by omega, a2, a3, a4, by simp only [List.length_append, List.length_cons, List.length_nil]; omega, fun h22 => ?_, fun h22 h23 h24 hP hm h4 => ?_⟩
      · obtain ⟨c9, b1, b2⟩ := a6 h22
        rw [aro_no (show upd S 17 c 22 = 0 from h22), rdo_no (show upd S 17 c 22 = 0 from h22)] at b2 ⊢
        rw [if_pos h22, h22]
        unfold rF_30_57
        have e22 : upd (sQ (upd S 17 c) q3 (o + 1) rd) 22 0 = sQ (upd S 17 c) q3 (o + 1) rd := by
          have : sQ (upd S 17 c) q3 (o + 1) rd 22 = 0 := h22
          conv => rhs; rw [← up_3 (g := sQ (upd S 17 c) q3 (o + 1) rd) (k := 22), this]
        rw [if_pos z01, if_pos (show sQ (upd S 17 c) q3 (o + 1) rd 7 = 0 from h7), e22, b2, ob2, if_pos z01]
        refine ⟨c9, b1, ?_⟩
        have e23 : upd (sQ (upd S 17 c9) q2 (o + 1) rd) 22 0 = sQ (upd S 17 c9) q2 (o + 1) rd := by
          have : sQ (upd S 17 c9) q2 (o + 1) rd 22 = 0 := h22
          conv => rhs; rw [← up_3 (g := sQ (upd S 17 c9) q2 (o + 1) rd) (k := 22), this]
        rw [e23, show sQ (upd S 17 c9) q2 (o + 1) rd 6 = nI (o + 1) from rfl, nI_pred, sQ_6]
      · have hne : ¬ S 22 = 0 := by rw [h22]; decide
        have ear : aro (upd S 17 c) os1 ar = asr S os1 ar := asr_aro (S := upd S 17 c) h22 h23
        have erd : rdo (upd S 17 c) os1 rd = o_rd os1 rd := rdo_do (S := upd S 17 c) h22 h23
        have pg : asr S os1 ar 13 = ar 13 := by rw [← ear]; exact aro_row hE.2.2 (by omega) os1 ar
        rw [ear, erd] at a7 ⊢
        rw [ear] at hE1'
        rw [if_neg hne, h22]
        have hth : ∀ (O : Nat → Nat × Int32) (len : Nat) (st : List Int32) (f : Nat), w_sg O base os1 → base + os1.length ≤ len → w_run O len (f + os1.length) base st (upd S 27 rd) ar = w_run O len f (base + os1.length) (v :: st) (upd S 27 (o_rd os1 rd)) (asr S os1 ar) := by
          intro O len st f h1 h2
          have := w_think (O := O) (len := len) (f := f) os1 base st (upd S 27 rd) ar hE.2.2 (hva _ _ _ p1) h1 h2
          rw [this, up_2, up_0]
          have e1 : o_ev (ar 13) (upd S 27 rd 25) os1 st = v :: st := w3 st
          rw [e1]
          rfl
        rcases w0 with v0 | v1
        · subst v0
          rw [if_pos rfl]
          have hE0 : rE tx n (upd S 22 0) (asr S os1 ar) := rE_22 hE1'
          obtain ⟨t1', -⟩ := hT (upd S 22 0) (asr S os1 ar) q3 (o_rd os1 rd) (base + os1.length + 1) cnt c hE0 w2 hc hcnt (by omega)
          obtain ⟨-, -, -, -, -, a6', -⟩ := t1' os2 q2 c2 p2
          obtain ⟨c9, b1, b2⟩ := a6' rfl
          unfold rF_30_57
          rw [if_pos z01, if_pos (show sQ (upd S 17 c) q3 (o + 1) (o_rd os1 rd) 7 = 0 from h7), sQ_u rfl rfl rfl, up_c (a := 17) (b := 22) rfl, b2, ob2, if_pos (Or.inr rfl), sQ_u rfl rfl rfl, up_c (a := 17) (b := 22) rfl, up_2, show upd S 22 1 = S by rw [← h22]; exact up_3]
          refine ⟨c9, S, o_rd os1 rd, asr S os1 ar, ?_, ?_⟩
          · rw [show sQ (upd (upd S 22 0) 17 c9) q2 (o + 1) (o_rd os1 rd) 6 = nI (o + 1) from rfl, nI_pred, sQ_6]
          · refine ⟨fun _ _ _ _ => rfl, Or.inl h24, by rw [pg]; exact hP, rowF_asr hE.2.2 os1 ar, fun O len st f0 hs hl => ?_⟩
            obtain ⟨hs1, hs2⟩ := w_sg_app.mp hs
            obtain ⟨hs3, hs4⟩ := w_sg_app.mp hs1
            simp only [List.length_append, List.length_cons, List.length_nil] at hl ⊢
            refine ⟨f0 + os2.length, by omega, ?_⟩
            rw [show f0 + (os1.length + (0 + 1) + os2.length) = f0 + os2.length + 1 + os1.length by omega, hth O len st _ hs3 (by omega), if_pos h24]
            conv => lhs; unfold w_run
            rw [if_neg (by omega), hs4.1, if_neg (fun z => absurd z (show ¬ (17 : Nat) < 16 by decide)), if_neg (fun z => absurd z (show ¬ (17 : Nat) = 16 by decide)), if_pos rfl, if_pos (show (0 :: st).headD 0 = 0 from rfl)]
            have ej : max (base + os1.length + 1) (iN (nI (base + os1.length + 1 + os2.length))) = base + (os1.length + (0 + 1) + os2.length) := by rw [iN_nI (by omega)]; omega
            rw [ej]
            rfl
        · subst v1
          rw [if_neg (by decide)]
          obtain ⟨c9, S2, rd2, ar2, b1, b2⟩ := a7 h22 h23 h24 (by rw [pg]; exact hP) hm h4
          obtain ⟨f1, f2, f3, f4, f5⟩ := b2
          have hs22 : S2 22 = 1 := (f1 22 rfl rfl rfl).trans h22
          unfold rF_30_57
          rw [if_pos (Or.inr rfl), if_pos (show sQ (upd S 17 c) q3 (o + 1) (o_rd os1 rd) 7 = 0 from h7), sQ_u rfl rfl rfl, up_c (a := 17) (b := 22) rfl, show upd S 22 1 = S by rw [← h22]; exact up_3, b1, ob2, if_pos (Or.inr rfl), sQ_u rfl rfl rfl, up_c (a := 17) (b := 22) rfl, show upd S2 22 1 = S2 by rw [← hs22]; exact up_3]
          refine ⟨c9, S2, rd2, ar2, ?_, ?_⟩
          · rw [show sQ (upd S2 17 c9) q2 (o + 1) rd2 6 = nI (o + 1) from rfl, nI_pred, sQ_6]
          · refine ⟨f1, f2, f3, rowF_tr (rowF_asr hE.2.2 os1 ar) f4, fun O len st f0 hs hl => ?_⟩
            obtain ⟨hs1, hs2⟩ := w_sg_app.mp hs
            obtain ⟨hs3, hs4⟩ := w_sg_app.mp hs1
            simp only [List.length_append, List.length_cons, List.length_nil] at hl hs2 ⊢
            obtain ⟨fx, fy, fz⟩ := f5 O len st f0 (by rw [show base + os1.length + 1 = base + (os1.length + (0 + 1)) by omega]; exact hs2) (by omega)
            refine ⟨fx, fy, ?_⟩
            rw [show f0 + (os1.length + (0 + 1) + os2.length) = f0 + os2.length + 1 + os1.length by omega, hth O len st _ hs3 (by omega)]
            conv => lhs; unfold w_run
            rw [if_neg (by omega), hs4.1, if_neg (fun z => absurd z (show ¬ (17 : Nat) < 16 by decide)), if_neg (fun z => absurd z (show ¬ (17 : Nat) = 16 by decide)), if_pos rfl, if_neg (show ¬ (1 :: st).headD 0 = 0 by show ¬ (1 : Int32) = 0; decide)]
            show w_run O len (f0 + os2.length) (base + os1.length + 1) st _ _ = _
            rw [fz, show base + os1.length + 1 + os2.length = base + (os1.length + (0 + 1) + os2.length) by omega]
    · rcases p_b3_l hp with p1 | ⟨os1, q3, p1, hp⟩
      · obtain ⟨v, S9, w0, y1, y2⟩ := u2 kd pl p1 h22
        rw [y1, ob3, if_pos h22, h22]
        unfold rF_30_57
        rw [if_pos z01, if_neg (rFl_ne y2), if_pos z01, rFl_22 y2 h22, rFl_22 y2 h22]
        exact ⟨_, c, rfl, rFl_o (rFl_mono (rFl_fr y2 sQ_fr) hBC)⟩
      · obtain ⟨w1, w2, v, w0, w3, w4⟩ := u1 os1 q3 p1
        rw [aro_no (show upd S 17 c 22 = 0 from h22), rdo_no (show upd S 17 c 22 = 0 from h22)] at w4
        have l1 := hln _ _ _ p1
        rw [w4, ob3, if_pos h22, h22]
        rcases p_c3_l hp with p2 | ⟨os2, q4, c4, p2, hp⟩
        · obtain ⟨S9, c9, y1, y2⟩ := (hT S ar q3 rd (base + os1.length + 1) cnt c hE w2 hc hcnt (by omega)).2 kd pl p2 h22 h4
          unfold rF_30_57
          have e22 : upd (sQ (upd S 17 c) q3 (o + 1) rd) 22 0 = sQ (upd S 17 c) q3 (o + 1) rd := by
            have : sQ (upd S 17 c) q3 (o + 1) rd 22 = 0 := h22
            conv => rhs; rw [← up_3 (g := sQ (upd S 17 c) q3 (o + 1) rd) (k := 22), this]
          rw [if_pos z01, if_pos (show sQ (upd S 17 c) q3 (o + 1) rd 7 = 0 from h7), e22, y1, ob2, if_pos z01, rFl_22 y2 h22]
          exact ⟨_, c9, rfl, rFl_o (rFl_mono (rFl_fr y2 sQ_fr) hBT)⟩
        · cases hp
end DO
