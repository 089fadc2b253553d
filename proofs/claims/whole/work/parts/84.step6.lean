/-! THE REFERENCE: steps, the whole. -/
section DS
variable {tx : Nat → Int32} {n : Nat} {g29 g30 : rVn}
theorem x_kd_10 {q : Nat} (h : x_kd tx q = some 10) : x_is tx q w_if := by
  unfold x_kd at h
  split at h
  · injection h with h; omega
  · split at h
    · injection h with h; omega
    · split at h
      · injection h with h; omega
      · split at h
        · injection h with h; omega
        · split at h
          · injection h with h; omega
          · split at h
            · injection h with h; omega
            · split at h
              · injection h with h; omega
              · split at h
                · injection h with h; omega
                · split at h
                  · injection h with h; omega
                  · split at h
                    · injection h with h; omega
                    · split at h
                      · rename_i hc; exact hc
                      · cases h
theorem x_kd_le {q k : Nat} (h : x_kd tx q = some k) : k ≤ 10 := by
  unfold x_kd at h
  repeat' split at h
  all_goals first | (cases h; done) | (cases h; omega)
theorem x_kd_0 {q : Nat} (h : x_kd tx q = some 0) : ∃ l, x_le tx q = some l := by
  rcases hl : x_le tx q with _ | l
  · unfold x_kd at h
    rw [if_neg (fun y => y hl)] at h
    repeat' split at h
    all_goals first | (cases h; done) | (injection h with h; omega)
  · exact ⟨l, rfl⟩
theorem nb_of {q : Nat} (hT : x_tx n tx) : x_nb tx (x_nb tx q) = x_nb tx q := x_nb_idem hT q
theorem s48F {S : Nat → Int32} {ar : jSc} {k : Int32} (h : ¬ S 7 = 0) : rF_29_48 g29 g30 k S ar = some (S, ar) := by
  unfold rF_29_48
  rw [if_neg h]
/-- the machine does a step that is no if -/
theorem wR_1 {S : Nat → Int32} {ar : jSc} {rd v mk : Int32} {base od q2 o : Nat} {c : Int32} {ov : oL} (hE : rE tx n S ar) (h22 : S 22 = 1) (h23 : S 23 = 1) (h24 : S 24 = 0) (hP : pgC (ar 13)) (hov : o_va ov) (hod : (18 ≤ od ∧ od ≤ 27) ∧ o_mk od mk) (hev : ∀ st, o_ev (ar 13) (S 25) ov st = (if od = 18 ∨ od = 24 ∨ od = 26 then v :: st else st)) :
    ∃ S2 ar2, (sE (sQ (upd S 17 c) q2 o (rdo S ov rd)) (m_ef od mk v (sQ (upd S 17 c) q2 o (rdo S ov rd)) (aro S ov ar)), (m_ef od mk v (sQ (upd S 17 c) q2 o (rdo S ov rd)) (aro S ov ar)).2.2.2) = (sQ (upd S2 17 c) q2 o (rdo S ov rd), ar2) ∧ wR S rd ar base (ov ++ [(od, mk)]) S2 (rdo S ov rd) ar2 := by
  have ear : aro S ov ar = asr S ov ar := asr_aro h22 h23
  have erd : rdo S ov rd = o_rd ov rd := rdo_do h22 h23
  have pg : asr S ov ar 13 = ar 13 := by rw [← ear]; exact aro_row hE.2.2 (by omega) ov ar
  rw [ear, erd]
  have e1 : m_ef od mk v (sQ (upd S 17 c) q2 o (o_rd ov rd)) (asr S ov ar) = m_ef od mk v S (asr S ov ar) := m_ef_c rfl rfl rfl rfl rfl rfl
  rw [e1]
  obtain ⟨k1, k2, k3⟩ := ef_ok (S := S) (ar := asr S ov ar) (v := v) hod.1 hod.2 (by rw [pg]; exact hP) hE.2.2
  have e24 : sE S (m_ef od mk v S (asr S ov ar)) 24 = (m_ef od mk v S (asr S ov ar)).2.1 := rfl
  refine ⟨sE S (m_ef od mk v S (asr S ov ar)), (m_ef od mk v S (asr S ov ar)).2.2.2, by rw [sE_Q], ?_⟩
  refine ⟨fun k a b c => sE_k b a c, ?_, k1, rowF_tr (rowF_asr hE.2.2 ov ar) k3, fun O len st f0 hs hl => ?_⟩
  · rw [e24]
    rcases k2 with k2 | k2
    · rw [k2]; exact Or.inl h24
    · exact Or.inr k2
  · obtain ⟨hs1, hs2⟩ := w_sg_app.mp hs
    simp only [List.length_append, List.length_cons, List.length_nil] at hl ⊢
    refine ⟨f0, Nat.le_refl f0, ?_⟩
    have th := w_think (O := O) (len := len) (f := f0 + 1) ov base st (upd S 27 rd) ar hE.2.2 hov hs1 (by omega)
    rw [show f0 + (ov.length + (0 + 1)) = f0 + 1 + ov.length by omega, th, up_2, up_0]
    have ev : o_ev (ar 13) (upd S 27 rd 25) ov st = (if od = 18 ∨ od = 24 ∨ od = 26 then v :: st else st) := hev st
    rw [ev, show asr (upd S 27 rd) ov ar = asr S ov ar from rfl]
    conv => lhs; unfold w_run
    have o1 := hod.1
    rw [if_neg (by omega), hs2.1, if_neg (fun z => absurd (show od < 16 from z) (by omega)), if_neg (fun z => absurd (show od = 16 from z) (by omega)), if_neg (fun z => absurd (show od = 17 from z) (by omega))]
    have em : m_ef od mk ((if od = 18 ∨ od = 24 ∨ od = 26 then v :: st else st).headD 0) (upd S 27 (o_rd ov rd)) (asr S ov ar) = m_ef od mk v S (asr S ov ar) := by
      rw [m_ef_c (S := upd S 27 (o_rd ov rd)) (T := S) rfl rfl rfl rfl rfl rfl]
      by_cases c : od = 18 ∨ od = 24 ∨ od = 26
      · rw [if_pos c]; rfl
      · exact m_ef_v c
    have et : w_tl od (if od = 18 ∨ od = 24 ∨ od = 26 then v :: st else st) = st := by
      unfold w_tl
      by_cases c : od = 18 ∨ od = 24 ∨ od = 26
      · rw [if_pos c, if_pos c]; rfl
      · rw [if_neg c, if_neg c]
    show (if (m_ef od mk _ _ _).2.1 = 0 then w_run O len f0 _ (w_tl od _) _ _ else _) = _
    rw [em, et, sE_r, e24]
    rfl
set_option maxHeartbeats 4000000 in
theorem rP_do {o B BV BI : Nat} {V : Nat → oR} {I : Option ((Nat → oR) × (Nat → Nat → Nat → oS))} (hV : rPV tx n o BV (rG_22 40).2.2 V) (hVF : rPF tx n (rG_22 40).2.2) (hva : p_va V) (hln : p_ln V) (hB : n + 6 ≤ B) (hBV : BV ≤ B) (hBI : BI ≤ B) (hB1 : B < 2 ^ 19) (hI : rSI tx n o BI g30 I) : rST tx n o B (rF_29 g29 g30) (p_t0 V I tx) := by
  intro S ar q rd base cnt c hE hq hc hcnt hbase
  have hn := hE.1.1.1
  have h7 := hE.2.1
  have hEc := rE_17 (c := c) hE
  have hTB : r_TX (upd (upd (upd S 17 c) 27 rd) 6 (nI o)) ar n tx := r_TX_S hE.1 rfl rfl
  have b0 := (x_nb_ok hE.1.1 q).1
  have b1 := x_nb_le hE.1.1 hq
  have e0 := x_nb_idem hE.1.1 q
  have ew : rF_29 g29 g30 (sQ (upd S 17 c) q o rd) ar = rF_29 g29 g30 (sQ (upd S 17 c) q o rd) ar := rfl
  conv at ew => rhs; unfold rF_29
  rw [r_stepHere hTB hq, ob3] at ew
  unfold p_t0
  rcases hk : x_kd tx (x_nb tx q) with _ | kd
  · refine ⟨fun os q2 c2 hp => (by cases hp), fun kd pl hp _ _ => ?_⟩
    cases hp
    rw [hk, show x_ki none = -1 from rfl, if_pos rfl, sA_5, show (1 : Int32) = nI 1 from rfl, r_wrong, ob2] at ew
    have f := rFl_sW (S := upd S 17 c) (n := n) (q := q) (o := o) (rd := rd) (B := B) (p := x_nb tx q) (kd := 1) (pl := x_nb tx q) h7 (by omega) b1 (by omega)
    rw [ew, s48F (rFl_ne f)]
    exact ⟨_, c, rfl, f⟩
  · have k10 := x_kd_le hk
    have kn : ¬ x_ki (some kd) = -1 := by
      show ¬ nI kd = -1
      rcases (show kd = 0 ∨ kd = 1 ∨ kd = 2 ∨ kd = 3 ∨ kd = 4 ∨ kd = 5 ∨ kd = 6 ∨ kd = 7 ∨ kd = 8 ∨ kd = 9 ∨ kd = 10 by omega) with rfl | rfl | rfl | rfl | rfl | rfl | rfl | rfl | rfl | rfl | rfl <;> decide
    rw [hk, if_neg kn] at ew
    have e17 : sA (upd (upd (upd S 17 c) 27 rd) 6 (nI o)) (x_nb tx q) 17 = c := rfl
    have e4 : sA (upd (upd (upd S 17 c) 27 rd) 6 (nI o)) (x_nb tx q) 4 = S 4 := rfl
    rw [e17, e4] at ew
    by_cases c60 : cnt = 60
    · refine ⟨fun os q2 c2 hp => ?_, fun kd2 pl hp _ h4 => ?_⟩
      · have hp : (if cnt = 60 then Sum.inl (3, x_nb tx q) else _) = Sum.inr (os, q2, c2) := hp
        rw [if_pos c60] at hp
        cases hp
      · have hp : (if cnt = 60 then Sum.inl (3, x_nb tx q) else _) = Sum.inl (kd2, pl) := hp
        rw [if_pos c60] at hp
        cases hp
        have hc60 : c = 60 := by rw [hc h4, c60]; rfl
        rw [if_pos hc60, if_pos h4, sA_5, show (3 : Int32) = nI 3 from rfl, r_wrong, ob2] at ew
        have f := rFl_sW (S := upd S 17 c) (n := n) (q := q) (o := o) (rd := rd) (B := B) (p := x_nb tx q) (kd := 3) (pl := x_nb tx q) h7 (by omega) b1 (by omega)
        rw [ew, s48F (rFl_ne f)]
        exact ⟨_, c, rfl, f⟩
    · have ew2 : rF_29 g29 g30 (sQ (upd S 17 c) q o rd) ar = rF_29_48 g29 g30 (nI kd) (sQ (upd S 17 c) (x_nb tx q) o rd) ar := by
        rw [ew]
        by_cases z : c = 60
        · rw [if_pos z]
          by_cases h4 : S 4 = -1
          · exact absurd ((nI_eq (by omega) (by omega)).mp (show nI cnt = nI 60 from (hc h4).symm.trans z)) c60
          · rw [if_neg h4]; rfl
        · rw [if_neg z]; rfl
      have hcn : S 4 = -1 → c + 1 = nI (cnt + 1) := fun h => by rw [hc h, nI_1]
      have ew3 : rF_29_48 g29 g30 (nI kd) (sQ (upd S 17 c) (x_nb tx q) o rd) ar = (if nI kd = 10 then (o_b2 (g30 (sQ (upd S 17 (c + 1)) (x_nb tx q) o rd) ar) (fun Se45 are45 => some (Se45, are45))) else (if nI kd = 0 then (o_b3 (rF_19 (sQ (upd S 17 (c + 1)) (x_nb tx q) o rd) ar) (fun ve47 Se47 are47 => rF_29_89 g29 g30 (nI kd) ve47 Se47 are47)) else rF_29_89 g29 g30 (nI kd) (-1) (sQ (upd S 17 (c + 1)) (x_nb tx q) o rd) ar)) := by
        unfold rF_29_48
        rw [if_pos (show sQ (upd S 17 c) (x_nb tx q) o rd 7 = 0 from h7), show sQ (upd S 17 c) (x_nb tx q) o rd 17 = c from rfl, sQ_u rfl rfl rfl, up_2]
      have obx : ∀ (x : Option ((Nat → Int32) × jSc)), (o_b2 x (fun a b => some (a, b))) = x := by
        intro x
        rcases x with _ | ⟨a, b⟩ <;> rfl
      rw [ew2, ew3]
      show (∀ os q2 c2, (if cnt = 60 then Sum.inl (3, x_nb tx q) else if kd = 10 then p_if I tx (x_nb tx q) base (cnt + 1) else p_b3 (p_s1 V tx kd (x_nb tx q)) (fun os q2 => .inr (os, q2, cnt + 1))) = Sum.inr (os, q2, c2) → _) ∧ (∀ kd2 pl, (if cnt = 60 then Sum.inl (3, x_nb tx q) else if kd = 10 then p_if I tx (x_nb tx q) base (cnt + 1) else p_b3 (p_s1 V tx kd (x_nb tx q)) (fun os q2 => .inr (os, q2, cnt + 1))) = Sum.inl (kd2, pl) → _)
      rw [if_neg c60]
      by_cases h10 : kd = 10
      · subst h10
        rw [if_pos rfl, if_pos (by decide), obx]
        obtain ⟨i1, i2⟩ := hI S ar (x_nb tx q) rd base (cnt + 1) (c + 1) hE b1 (x_kd_10 hk) hcn (by omega) (by omega)
        refine ⟨fun os q2 c2 hp => ?_, fun kd2 pl hp h22 h4 => ?_⟩
        · obtain ⟨a1, a2, a3, a4, a5, a6, a7⟩ := i1 os q2 c2 hp
          exact ⟨by omega, a2, by omega, a4, by omega, a6, a7⟩
        · obtain ⟨S9, c9, y1, y2⟩ := i2 kd2 pl hp h22 h4
          exact ⟨S9, c9, y1, rFl_mono (rFl_fr y2 sQ_fr) hBI⟩
      · have k9 : kd ≤ 9 := by omega
        have n10 : ¬ nI kd = (10 : Int32) := fun z => h10 ((nI_eq (by omega) (by decide)).mp (show nI kd = nI 10 from z))
        rw [if_neg h10, if_neg n10]
        have hE2 := rE_17 (c := c + 1) hE
        have hTB2 : r_TX (upd (upd (upd S 17 (c + 1)) 27 rd) 6 (nI o)) ar n tx := r_TX_S hE.1 rfl rfl
        have main : ∃ lv, (if nI kd = 0 then (o_b3 (rF_19 (sQ (upd S 17 (c + 1)) (x_nb tx q) o rd) ar) (fun ve47 Se47 are47 => rF_29_89 g29 g30 (nI kd) ve47 Se47 are47)) else rF_29_89 g29 g30 (nI kd) (-1) (sQ (upd S 17 (c + 1)) (x_nb tx q) o rd) ar) = rF_29_89 g29 g30 (nI kd) lv (sQ (upd S 17 (c + 1)) (x_nb tx q) o rd) ar ∧ (kd = 0 → lv = nI (iN (tx (x_nb tx q)) - 97)) := by
          by_cases k0 : kd = 0
          · subst k0
            obtain ⟨l, hl⟩ := x_kd_0 hk
            obtain ⟨l1, l2, l3⟩ := x_le_ok hl
            rw [if_pos (show nI 0 = 0 from rfl), r_letter hTB2 (by omega), e0, hl, ob3]
            refine ⟨nI l, rfl, fun _ => ?_⟩
            rw [l2, iN_nI (by omega)]
            congr 1
            omega
          · rw [if_neg (nI_ne0 (by omega) (by omega))]
            exact ⟨-1, rfl, fun z => absurd z k0⟩
        obtain ⟨lv, em, hlv⟩ := main
        rw [em]
        obtain ⟨r1, r2⟩ := s89 (g29 := g29) (g30 := g30) (rd := rd) (lv := lv) hV hVF hva hE2 b1 e0 hB hBV hB1 hk k9 hlv
        refine ⟨fun os q2 c2 hp => ?_, fun kd2 pl hp h22 h4 => ?_⟩
        · obtain ⟨os1, q3, p1, hp⟩ := p_b3_r hp
          cases hp
          have l1 := ln_s1 hln p1
          obtain ⟨a1, a2, ov, od, mk, v, a3, a4, a5, a6, a7, a8⟩ := r1 os q2 p1
          refine ⟨by omega, a2, by omega, by omega, by omega, fun h22 => ?_, fun h22 h23 h24 hP hm h4 => ?_⟩
          · have := a7 h22
            rw [rdo_no (show upd S 17 (c + 1) 22 = 0 from h22), aro_no (show upd S 17 (c + 1) 22 = 0 from h22)] at this
            exact ⟨c + 1, hcn, this⟩
          · have := a8 (by show ¬ S 22 = 0; rw [h22]; decide) hP hm
            obtain ⟨S2, ar2, w1, w2⟩ := wR_1 (base := base) (rd := rd) (q2 := q2) (o := o) (c := c + 1) hE h22 h23 h24 hP a4 a5 a6
            rw [this]
            refine ⟨c + 1, S2, rdo S ov rd, ar2, ?_, by rw [a3]; exact w2⟩
            exact congrArg some w1
        · rcases p_b3_l hp with p1 | ⟨os1, q3, p1, hp⟩
          · obtain ⟨S9, y1, y2⟩ := r2 kd2 pl p1 h22
            exact ⟨S9, c + 1, y1, rFl_fr y2 sQ_fr⟩
          · cases hp
/-- steps of the reference: k more may be opened -/
theorem rP_st (hn : n ≤ 600) : ∀ (k m : Nat), k ≤ 6 → rST tx n (6 - k) (n + 120 + 6 * (k + 1)) (rG_29 (m + 2 * (k + 1))).1 (p_st tx k) := by
  intro k
  induction k with
  | zero =>
    intro m _
    have hv := rP_su (tx := tx) hn 0 34 (by omega)
    refine rP_do (V := p_su tx 0) (I := none) (BI := n + 120) hv (rPF_su 37) (va_su 0) (ln_su 0) (by omega) (by omega) (by omega) (by omega) ?_
    exact rP_if (BC := n) (BT := n) (by omega) (by omega) (by omega) (fun _ => rfl) (fun C T h => by cases h)
  | succ k ih =>
    intro m hk
    have hv := rP_su (tx := tx) hn (k + 1) (40 - 3 * (k + 3)) (by omega)
    rw [show 40 - 3 * (k + 3) + 3 * (k + 1 + 2) = 40 by omega] at hv
    have hc := rP_ct (tx := tx) hn k (40 - 3 * (k + 2)) (by omega)
    rw [show 40 - 3 * (k + 2) + 3 * (k + 2) = 40 by omega] at hc
    refine rP_do (V := p_su tx (k + 1)) (I := some (p_or (p_tk tx k) tx, p_st tx k)) (BI := n + 120 + 6 * (k + 1)) hv (rPF_su 37) (va_su (k + 1)) (ln_su (k + 1)) (by omega) (by omega) (by omega) (by omega) ?_
    refine rP_if (BC := n + 60 + 6 * (k + 1)) (BT := n + 120 + 6 * (k + 1)) (by omega) (by omega) (by omega) (fun h => by cases h) (fun C T h => ?_)
    cases h
    refine ⟨by omega, ?_, va_or (va_tk k), ln_or (ln_tk k), ?_⟩
    · rw [show 6 - (k + 1) + 1 = 6 - k by omega]
      exact hc.2
    · rw [show 6 - (k + 1) + 1 = 6 - k by omega]
      exact ih m (by omega)
end DS
