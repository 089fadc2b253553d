/-! HANDLERS: their bodies as orders, and that the reference runs them as the orders' machine does. -/
/-- the steps of a handler from q on, its orders to stand from base on -/
def p_hb (tx : Nat → Int32) : Nat → Nat → Nat → Nat → oS
  | 0, q, _, _ => .inl (9, q)
  | m + 1, q, base, cnt => if tx (x_nb tx q) = 125 then .inr ([(16, 0)], x_nb tx q + 1, cnt) else p_c3 (p_st tx 6 (x_nb tx q) base cnt) (fun os1 q2 c2 => p_c3 (p_hb tx m q2 (base + os1.length) c2) (fun os2 q3 c3 => .inr (os1 ++ os2, q3, c3)))
theorem w_mono {O : Nat → Nat × Int32} {len : Nat} : ∀ (f f2 at_ : Nat) (st : List Int32) (S : Nat → Int32) (ar : jSc) (x : (Nat → Int32) × jSc), f ≤ f2 → w_run O len f at_ st S ar = some x → w_run O len f2 at_ st S ar = some x := by
  intro f
  induction f with
  | zero => intro f2 at_ st S ar x _ h; cases h
  | succ f ih =>
    intro f2 at_ st S ar x hf h
    obtain ⟨f2, rfl⟩ : ∃ j, f2 = j + 1 := ⟨f2 - 1, by omega⟩
    unfold w_run at h ⊢
    split
    · rename_i c; rw [if_pos c] at h; exact h
    · rename_i c
      rw [if_neg c] at h
      split
      · rename_i c; rw [if_pos c] at h; exact ih _ _ _ _ _ _ (by omega) h
      · rename_i c
        rw [if_neg c] at h
        split
        · rename_i c; rw [if_pos c] at h; exact h
        · rename_i c
          rw [if_neg c] at h
          split
          · rename_i c
            rw [if_pos c] at h
            split
            · rename_i c; rw [if_pos c] at h; exact ih _ _ _ _ _ _ (by omega) h
            · rename_i c; rw [if_neg c] at h; exact ih _ _ _ _ _ _ (by omega) h
          · rename_i c
            rw [if_neg c] at h
            split
            · rename_i c; rw [if_pos c] at h; exact ih _ _ _ _ _ _ (by omega) h
            · rename_i c; rw [if_neg c] at h; exact h
/-- the fields that the machine looks at -/
def w_ag (S T : Nat → Int32) : Prop := S 24 = T 24 ∧ S 25 = T 25 ∧ S 26 = T 26 ∧ S 27 = T 27 ∧ S 28 = T 28 ∧ S 29 = T 29 ∧ S 38 = T 38 ∧ S 57 = T 57
/-- fields that the machine leaves -/
def w_fr (S S2 : Nat → Int32) : Prop := ∀ k, (k == 24) = false → (k == 27) = false → (k == 28) = false → (k == 57) = false → S2 k = S k
theorem w_cong {O : Nat → Nat × Int32} {len : Nat} : ∀ (f at_ : Nat) (st : List Int32) (S T : Nat → Int32) (ar : jSc) (S2 : Nat → Int32) (ar2 : jSc), w_ag S T → w_run O len f at_ st S ar = some (S2, ar2) → w_fr S S2 ∧ ∃ T2, w_run O len f at_ st T ar = some (T2, ar2) ∧ w_ag S2 T2 ∧ w_fr T T2 := by
  intro f
  induction f with
  | zero => intro at_ st S T ar S2 ar2 _ h; cases h
  | succ f ih =>
    intro at_ st S T ar S2 ar2 ha h
    obtain ⟨a24, a25, a26, a27, a28, a29, a38, a57⟩ := ha
    have em : ∀ o m v, m_ef o m v S ar = m_ef o m v T ar := fun o m v => m_ef_c a24 a26 a28 a29 a38 a57
    have rf : ∀ U : Nat → Int32, w_fr U U := fun U _ _ _ _ _ => rfl
    have ha : w_ag S T := ⟨a24, a25, a26, a27, a28, a29, a38, a57⟩
    unfold w_run at h ⊢
    split
    · rename_i c; rw [if_pos c] at h; cases h; exact ⟨rf _, T, rfl, ha, rf _⟩
    · rename_i c
      rw [if_neg c] at h
      split
      · rename_i c
        rw [if_pos c] at h
        have hag : w_ag (upd S 27 (o_r1 (S 27) (O at_))) (upd T 27 (o_r1 (T 27) (O at_))) := ⟨a24, a25, a26, by rw [up_0, up_0, a27], a28, a29, a38, a57⟩
        obtain ⟨h1, T2, h2, h3, h4⟩ := ih _ _ _ _ _ _ _ hag h
        refine ⟨fun k w x y z => by rw [h1 k w x y z, up_1 x], T2, ?_, h3, fun k w x y z => by rw [h4 k w x y z, up_1 x]⟩
        rw [← a25, ← a29]
        exact h2
      · rename_i c
        rw [if_neg c] at h
        split
        · rename_i c; rw [if_pos c] at h; cases h; exact ⟨rf _, T, rfl, ha, rf _⟩
        · rename_i c
          rw [if_neg c] at h
          split
          · rename_i c
            rw [if_pos c] at h
            split
            · rename_i c; rw [if_pos c] at h; exact ih _ _ _ _ _ _ _ ha h
            · rename_i c; rw [if_neg c] at h; exact ih _ _ _ _ _ _ _ ha h
          · rename_i c
            rw [if_neg c] at h
            rw [em] at h
            have hs : w_ag (sE S (m_ef (O at_).1 (O at_).2 (st.headD 0) T ar)) (sE T (m_ef (O at_).1 (O at_).2 (st.headD 0) T ar)) := ⟨rfl, a25, a26, a27, rfl, a29, a38, rfl⟩
            have hf : ∀ U : Nat → Int32, w_fr U (sE U (m_ef (O at_).1 (O at_).2 (st.headD 0) T ar)) := fun U k w x y z => sE_k y w z
            split
            · rename_i c
              rw [if_pos c] at h
              obtain ⟨h1, T2, h2, h3, h4⟩ := ih _ _ _ _ _ _ _ hs h
              exact ⟨fun k w x y z => (h1 k w x y z).trans (hf S k w x y z), T2, h2, h3, fun k w x y z => (h4 k w x y z).trans (hf T k w x y z)⟩
            · rename_i c
              rw [if_neg c] at h
              cases h
              exact ⟨hf S, _, rfl, hs, hf T⟩
section RU
variable {tx : Nat → Int32} {n : Nat}
set_option maxHeartbeats 1000000 in
theorem run_go (hn6 : n ≤ 600) {O : Nat → Nat × Int32} {len : Nat} : ∀ (m nn : Nat) (S : Nat → Int32) (ar : jSc) (q base cnt : Nat) (rd c : Int32) (seg : oL) (q2 c2 : Nat), rE tx n S ar → q ≤ n → cnt ≤ 60 → base ≤ 100000 + q → S 22 = 1 → S 23 = 1 → S 24 = 0 → pgC (ar 13) → (∃ k, k ≤ 6 ∧ S 38 = nI k) → ¬ S 4 = -1 → p_hb tx m q base cnt = .inr (seg, q2, c2) → w_sg O base seg → base + seg.length ≤ len → n + 1 < q + nn →
    ∃ S2 ar2 p2 o2 c9 rd2 f, rF_46_42 nn (sQ (upd S 17 c) (x_nb tx q) 0 rd) ar = some (sQ (upd S2 17 c9) p2 o2 rd2, ar2) ∧ fldF S S2 ∧ pgC (ar2 13) ∧ rowF ar ar2 ∧ (S2 24 = 0 ∨ S2 24 = 1) ∧ f ≤ seg.length ∧ w_run O len f base [] (upd S 27 rd) ar = some (upd S2 27 rd2, ar2) := by
  intro m
  induction m with
  | zero => intro nn S ar q base cnt rd c seg q2 c2 hE hq hcnt hb h22 h23 h24 hP hm h4 hp; cases hp
  | succ m ih =>
    intro nn S ar q base cnt rd c seg q2 c2 hE hq hcnt hb h22 h23 h24 hP hm h4 hp hs hl hnn
    obtain ⟨nn, rfl⟩ : ∃ j, nn = j + 1 := ⟨nn - 1, by omega⟩
    have hn := hE.1.1.1
    have b0 := (x_nb_ok hE.1.1 q).1
    have b1 := x_nb_le hE.1.1 hq
    have hEc := rE_17 (c := c) hE
    unfold p_hb at hp
    unfold rF_46_42
    rw [if_pos (show sQ (upd S 17 c) (x_nb tx q) 0 rd 24 = 0 from h24), sQ_5, r_byteAt (rE_TX hEc) (by omega), ob3]
    by_cases k1 : tx (x_nb tx q) = 125
    · rw [if_pos k1] at hp ⊢
      cases hp
      refine ⟨S, ar, x_nb tx q, 0, c, rd, 1, rfl, fun _ _ _ _ => rfl, hP, rowF_rf ar, Or.inl h24, by simp, ?_⟩
      unfold w_run
      simp only [List.length_cons, List.length_nil] at hl
      rw [if_neg (by omega), hs.1, if_neg (by decide), if_pos rfl]
    · rw [if_neg k1] at hp ⊢
      obtain ⟨os1, q3, c3, p1, hp⟩ := p_c3_r hp
      obtain ⟨os2, q4, c4, p2, hp⟩ := p_c3_r hp
      cases hp
      obtain ⟨hs1, hs2⟩ := w_sg_app.mp hs
      simp only [List.length_append] at hl ⊢
      obtain ⟨a1, a2, a3, a4, a5, -, a7⟩ := (rP_st (tx := tx) hn6 6 26 (by omega) S ar (x_nb tx q) rd base cnt c hE b1 (fun z => absurd z h4) hcnt (by omega)).1 os1 q3 c3 p1
      obtain ⟨c9, S2, rd2, ar2, e1, f1, f2, f3, f4, f5⟩ := a7 h22 h23 h24 hP hm h4
      have e1 : (rG_29 40).1 (sQ (upd S 17 c) (x_nb tx q) 0 rd) ar = some (sQ (upd S2 17 c9) q3 0 rd2, ar2) := e1
      have hE2 : rE tx n S2 ar2 := by
        refine ⟨⟨hE.1.1, (f1 3 rfl rfl rfl).trans hE.1.2.1, ?_⟩, (f1 7 rfl rfl rfl).trans hE.2.1, by rw [f1 29 rfl rfl rfl]; exact hE.2.2⟩
        rcases hE.1.2.2 with ⟨y, -⟩ | ⟨z, y1, y2, y3⟩
        · exact absurd y h4
        · refine Or.inr ⟨z, y1, (f1 4 rfl rfl rfl).trans y2, fun p hp => ?_⟩
          rw [f4 (3 + z) (by rcases (show z = 0 ∨ z = 1 by omega) with rfl | rfl <;> rfl) (by rcases (show z = 0 ∨ z = 1 by omega) with rfl | rfl <;> rfl) (by rcases (show z = 0 ∨ z = 1 by omega) with rfl | rfl <;> rfl) (by rcases (show z = 0 ∨ z = 1 by omega) with rfl | rfl <;> rfl)]
          exact y3 p hp
      have hTB : r_TX (upd (upd (upd S2 17 c9) 27 rd2) 6 (nI 0)) ar2 n tx := r_TX_S hE2.1 rfl rfl
      rw [e1, ob2, r_blanks hTB (by omega), ob2]
      by_cases h2 : S2 24 = 0
      · obtain ⟨S3, ar3, p3, o3, c5, rd3, f, i1, i2, i3, i4, i5, i6, i7⟩ := ih nn S2 ar2 q3 (base + os1.length) c3 rd2 c9 os2 q2 c2 hE2 a2 a4 (by omega) ((f1 22 rfl rfl rfl).trans h22) ((f1 23 rfl rfl rfl).trans h23) h2 f3 (by rw [f1 38 rfl rfl rfl]; exact hm) (by rw [f1 4 rfl rfl rfl]; exact h4) p2 hs2 (by omega) (by omega)
        obtain ⟨fx, fy, fz⟩ := f5 O len [] f hs1 (by omega)
        rw [if_pos h2] at fz
        refine ⟨S3, ar3, p3, o3, c5, rd3, f + os1.length, i1, fun k a b c => (i2 k a b c).trans (f1 k a b c), i3, rowF_tr f4 i4, i5, by omega, ?_⟩
        rw [fz]
        exact w_mono _ _ _ _ _ _ _ fy i7
      · obtain ⟨fx, fy, fz⟩ := f5 O len [] 0 hs1 (by omega)
        rw [if_neg h2] at fz
        obtain ⟨nn, rfl⟩ : ∃ j, nn = j + 1 := ⟨nn - 1, by omega⟩
        refine ⟨S2, ar2, x_nb tx q3, 0, c9, rd2, 0 + os1.length, ?_, f1, f3, f4, f2, by omega, fz⟩
        unfold rF_46_42
        rw [if_neg (show ¬ sQ (upd S2 17 c9) (x_nb tx q3) 0 rd2 24 = 0 from h2)]
end RU
/-- the handler at pos in the text tx of n bytes has its orders from idx on -/
def HB (n : Nat) (tx : Nat → Int32) (O : Nat → Nat × Int32) (len pos idx : Nat) : Prop := ∃ m cnt seg q2 c2, p_hb tx m pos idx cnt = .inr (seg, q2, c2) ∧ cnt ≤ 60 ∧ idx ≤ 100000 ∧ w_sg O idx seg ∧ idx + seg.length ≤ len ∧ pos ≤ n
/-- fields that running leaves -/
def runF (S S2 : Nat → Int32) : Prop := ∀ k, (k == 3) = false → (k == 4) = false → (k == 5) = false → (k == 6) = false → (k == 7) = false → (k == 17) = false → (k == 22) = false → (k == 23) = false → (k == 24) = false → (k == 27) = false → (k == 28) = false → (k == 57) = false → S2 k = S k
/-- running an event with a handler -/
theorem r_runs {S : Nat → Int32} {ar : jSc} {n pr e pos idx len : Nat} {tx : Nat → Int32} {O : Nat → Nat × Int32} (hpr : pr < 2) (h16 : S 16 = nI pr) (he : e < 17) (hh : ar (6 + pr) e = nI pos) (hsz : ar 8 pr = nI n) (htx : x_tx n tx) (hte : ∀ p, p < n → tx p = ar (3 + pr) p) (hB : HB n tx O len pos idx) (hP : pgC (ar 13)) (hm : ∃ k, k ≤ 6 ∧ S 38 = nI k) (hw : S 29 = -1 ∨ S 29 = 0 ∨ S 29 = 1) :
    ∃ S9 ar9 Sm f, rF_46 (nI e) S ar = some (S9, ar9) ∧ w_run O len f idx [] (upd S 24 0) ar = some (Sm, ar9) ∧ (S9 24 = Sm 24 ∧ S9 27 = Sm 27 ∧ S9 28 = Sm 28 ∧ S9 57 = Sm 57) ∧ runF S S9 ∧ w_fr S Sm ∧ pgC (ar9 13) ∧ rowF ar ar9 ∧ (Sm 24 = 0 ∨ Sm 24 = 1) ∧ f ≤ len := by
  obtain ⟨m, cnt, seg, q2, c2, hp, hcnt, hidx, hs, hl, hpos⟩ := hB
  have hn := htx.1
  have hnp : ¬ nI pos = -1 := fun z => absurd (congrArg Int32.toInt z) (by rw [nI_toInt (by omega)]; show ¬ (pos : Int) = -1; omega)
  have hpn : ¬ nI pr = -1 := by rcases (show pr = 0 ∨ pr = 1 by omega) with rfl | rfl <;> decide
  unfold rF_46 rF_45
  rw [h16, if_pos (iB_nI hpr (by decide)), if_pos (iB_nI he (by decide)), iN_nI (by omega), iN_nI (by omega), hh, if_neg hnp, show upd S 24 0 16 = S 16 from rfl, h16, if_pos (iB_nI hpr (by decide)), iN_nI (by omega), hsz, ob2]
  -- the base
  have base : ∃ Sb, (upd (upd (upd (upd (upd (upd (upd (upd (upd S 24 0) 4 (nI pr)) 3 (nI n)) 5 (nI pos)) 6 0) 7 0) 17 0) 22 1) 23 1) = sQ (upd Sb 17 0) pos 0 (S 27) ∧ Sb 3 = nI n ∧ Sb 4 = nI pr ∧ Sb 7 = 0 ∧ Sb 22 = 1 ∧ Sb 23 = 1 ∧ Sb 24 = 0 ∧ (∀ k, (k == 3) = false → (k == 4) = false → (k == 7) = false → (k == 22) = false → (k == 23) = false → (k == 24) = false → Sb k = S k) := by
    refine ⟨upd (upd (upd (upd (upd (upd S 24 0) 4 (nI pr)) 3 (nI n)) 7 0) 22 1) 23 1, ?_, rfl, rfl, rfl, rfl, rfl, rfl, fun k a b c d e f => by rw [up_1 e, up_1 d, up_1 c, up_1 a, up_1 b, up_1 f]⟩
    funext k
    by_cases e5 : k = 5
    · subst e5; rfl
    by_cases e6 : k = 6
    · subst e6; rfl
    by_cases e17 : k = 17
    · subst e17; rfl
    by_cases e27 : k = 27
    · subst e27; rfl
    by_cases e7 : k = 7
    · subst e7; rfl
    by_cases e22 : k = 22
    · subst e22; rfl
    by_cases e23 : k = 23
    · subst e23; rfl
    simp [upd, e5, e6, e17, e27, e7, e22, e23]
  obtain ⟨Sb, eb, s3, s4, s7, s22, s23, s24, sf⟩ := base
  have s4n : ¬ Sb 4 = -1 := by rw [s4]; exact hpn
  have hEb : rE tx n Sb ar := ⟨⟨htx, s3, Or.inr ⟨pr, hpr, s4, hte⟩⟩, s7, by rw [sf 29 rfl rfl rfl rfl rfl rfl]; exact hw⟩
  have hTB : r_TX (upd (upd (upd Sb 17 0) 27 (S 27)) 6 (nI 0)) ar n tx := r_TX_S hEb.1 rfl rfl
  rw [eb, r_blanks hTB (by omega), ob2]
  obtain ⟨S2, ar2, p2, o2, c9, rd2, f, i1, i2, i3, i4, i5, i6, i7⟩ := run_go (n := n) hn m oF Sb ar pos idx cnt (S 27) 0 seg q2 c2 hEb hpos hcnt (by omega) s22 s23 s24 hP (by rw [sf 38 rfl rfl rfl rfl rfl rfl]; exact hm) s4n hp hs hl (by rw [oF_s]; omega)
  have hag : w_ag (upd Sb 27 (S 27)) (upd S 24 0) := ⟨s24, sf 25 rfl rfl rfl rfl rfl rfl, sf 26 rfl rfl rfl rfl rfl rfl, rfl, sf 28 rfl rfl rfl rfl rfl rfl, sf 29 rfl rfl rfl rfl rfl rfl, sf 38 rfl rfl rfl rfl rfl rfl, sf 57 rfl rfl rfl rfl rfl rfl⟩
  obtain ⟨c1, T2, c2', c3, c4⟩ := w_cong _ _ _ _ _ _ _ _ hag i7
  obtain ⟨a24, a25, a26, a27, a28, a29, a38, a57⟩ := c3
  refine ⟨_, ar2, T2, f, i1, c2', ⟨a24, a27, a28, a57⟩, fun k h3 h4 h5 h6 h7 h17 h22 h23 h24 h27 h28 h57 => ?_, fun k w x y z => (c4 k w x y z).trans (up_1 w), i3, i4, ?_, by omega⟩
  · rw [sQ_k h5 h6, up_1 h27, up_1 h17, i2 k h24 h28 h57]
    exact sf k h3 h4 h7 h22 h23 h24
  · rw [← a24]; exact i5
/-- running an event without a handler -/
theorem r_runs0 {S : Nat → Int32} {ar : jSc} {pr e : Nat} (hpr : pr < 2) (h16 : S 16 = nI pr) (he : e < 17) (hh : ar (6 + pr) e = -1) : rF_46 (nI e) S ar = some (upd S 24 0, ar) := by
  unfold rF_46
  rw [h16, if_pos (iB_nI hpr (by decide)), if_pos (iB_nI he (by decide)), iN_nI (by omega), iN_nI (by omega), hh, if_pos rfl]
/-- a condition at pos has its orders from idx on -/
def HC (n : Nat) (tx : Nat → Int32) (O : Nat → Nat × Int32) (len pos idx : Nat) : Prop := ∃ os q2, p_or (p_tk tx 6) tx pos = .inr (os, q2) ∧ w_sg O idx (os ++ [(16, 0)]) ∧ idx + os.length + 1 ≤ len ∧ pos ≤ n
theorem r_holds {S : Nat → Int32} {ar : jSc} {n pr pos idx len : Nat} {w : Int32} {tx : Nat → Int32} {O : Nat → Nat × Int32} (hpr : pr < 2) (h16 : S 16 = nI pr) (hsz : ar 8 pr = nI n) (htx : x_tx n tx) (hte : ∀ p, p < n → tx p = ar (3 + pr) p) (hB : HC n tx O len pos idx) (hw : S 29 = -1 ∨ S 29 = 0 ∨ S 29 = 1) :
    ∃ S9 v os, (v = 0 ∨ v = 1) ∧ rF_47 (nI pos) w S ar = some (v, S9, ar) ∧ o_va os ∧ w_sg O idx (os ++ [(16, 0)]) ∧ idx + os.length + 1 ≤ len ∧ (∀ st, o_ev (ar 13) 0 os st = v :: st) ∧ (∀ k, (k == 3) = false → (k == 4) = false → (k == 5) = false → (k == 6) = false → (k == 7) = false → (k == 17) = false → (k == 22) = false → (k == 23) = false → (k == 25) = false → S9 k = S k) := by
  obtain ⟨os, q2, hp, hs, hl, hpos⟩ := hB
  have hn := htx.1
  have hnp : ¬ nI pos = -1 := fun z => absurd (congrArg Int32.toInt z) (by rw [nI_toInt (by omega)]; show ¬ (pos : Int) = -1; omega)
  have base : ∃ Sb, (upd (upd (upd (upd (upd (upd (upd (upd (upd S 4 (nI pr)) 3 (nI n)) 5 (nI pos)) 6 0) 7 0) 17 0) 22 0) 23 0) 25 0) = sQ Sb pos 0 (S 27) ∧ Sb 3 = nI n ∧ Sb 4 = nI pr ∧ Sb 7 = 0 ∧ Sb 22 = 0 ∧ Sb 25 = 0 ∧ (∀ k, (k == 3) = false → (k == 4) = false → (k == 7) = false → (k == 17) = false → (k == 22) = false → (k == 23) = false → (k == 25) = false → Sb k = S k) := by
    refine ⟨upd (upd (upd (upd (upd (upd (upd S 4 (nI pr)) 3 (nI n)) 7 0) 17 0) 22 0) 23 0) 25 0, ?_, rfl, rfl, rfl, rfl, rfl, fun k a b c d e f g => by rw [up_1 g, up_1 f, up_1 e, up_1 d, up_1 c, up_1 a, up_1 b]⟩
    funext k
    by_cases e5 : k = 5
    · subst e5; rfl
    by_cases e6 : k = 6
    · subst e6; rfl
    by_cases e17 : k = 17
    · subst e17; rfl
    by_cases e27 : k = 27
    · subst e27; rfl
    by_cases e7 : k = 7
    · subst e7; rfl
    by_cases e22 : k = 22
    · subst e22; rfl
    by_cases e23 : k = 23
    · subst e23; rfl
    by_cases e25 : k = 25
    · subst e25; rfl
    simp [upd, e5, e6, e17, e27, e7, e22, e23, e25]
  obtain ⟨Sb, eb, s3, s4, s7, s22, s25, sf⟩ := base
  have hEb : rE tx n Sb ar := ⟨⟨htx, s3, Or.inr ⟨pr, hpr, s4, hte⟩⟩, s7, by rw [sf 29 rfl rfl rfl rfl rfl rfl rfl]; exact hw⟩
  obtain ⟨w1, w2, v, w0, w3, w4⟩ := ((rP_ct (tx := tx) (n := n) hn 6 16 (by omega)).2 Sb ar pos (S 27) hEb hpos).1 os q2 hp
  have w4 : (rG_25 40).2.2 (sQ Sb pos 0 (S 27)) ar = _ := w4
  rw [rdo_no s22, aro_no s22] at w4
  unfold rF_47 rF_45
  rw [if_neg hnp, h16, if_pos (iB_nI hpr (by decide)), iN_nI (by omega), hsz, ob2, eb, w4, ob3, if_pos w0]
  rw [s25] at w3
  refine ⟨_, v, os, w0, rfl, va_or (va_tk 6) _ _ _ hp, hs, hl, w3, fun k h3 h4 h5 h6 h7 h17 h22 h23 h25 => ?_⟩
  rw [sQ_k h5 h6]
  by_cases e27 : k = 27
  · subst e27; rfl
  · rw [up_1 (by simpa using e27)]
    exact sf k h3 h4 h7 h17 h22 h23 h25
