/-! PROGRAMS: the parser of parts and programs; the reference's reading. -/
abbrev oE : Type := (Nat × Nat) ⊕ (Nat × Nat)
def p_d2 (tx : Nat → Int32) (q most off : Nat) : oE := if ¬ x_dg (tx (x_nb tx q)) then .inl (1, x_nb tx q) else if x_dg (tx (x_nb tx q + 1)) ∨ most < iN (tx (x_nb tx q)) - 48 then .inl (2, x_nb tx q) else .inr (off + (iN (tx (x_nb tx q)) - 48), x_nb tx q + 1)
/-- an event at q: its number, and where it ends -/
def p_ev (tx : Nat → Int32) (q : Nat) : oE := if x_is tx (x_nb tx q) w_start then .inr (0, x_we tx (x_nb tx q)) else if x_is tx (x_nb tx q) w_press then p_d2 tx (x_we tx (x_nb tx q)) 7 1 else if x_is tx (x_nb tx q) w_clock then p_d2 tx (x_we tx (x_nb tx q)) 3 9 else if x_is tx (x_nb tx q) w_answer then p_d2 tx (x_we tx (x_nb tx q)) 3 13 else .inl (1, x_nb tx q)
/-- a program as far as read: orders, handlers (place in the text, first order), harm, place, steps -/
abbrev pG : Type := oL × (Nat → Option (Nat × Nat)) × Option (Nat × Nat) × Option (Nat × Nat) × Nat
def p_pt (tx : Nat → Int32) (q : Nat) (g : pG) : (Nat × Nat) ⊕ (pG × Nat) :=
  if x_is tx q w_on then (match p_ev tx (x_we tx q) with
    | .inl e => .inl e
    | .inr (e, q2) => if ¬ g.2.1 e = none then .inl (4, q) else if tx (x_nb tx q2) = 123 then (match p_hb tx 700 (x_nb tx q2 + 1) g.1.length g.2.2.2.2 with
      | .inl f => .inl f
      | .inr (seg, q4, c4) => .inr ((g.1 ++ seg, (fun j => if j = e then some (x_nb tx q2 + 1, g.1.length) else g.2.1 j), g.2.2.1, g.2.2.2.1, c4), q4)) else .inl (1, x_nb tx q2)) else
  if x_is tx q w_harm then (match p_or (p_tk tx 6) tx (x_we tx q) with
    | .inl f => .inl f
    | .inr (o1, q2) => if tx (x_nb tx q2) = 59 then .inr ((g.1 ++ (o1 ++ [(16, 0)]), g.2.1, some (x_we tx q, g.1.length), g.2.2.2.1, g.2.2.2.2), x_nb tx q2 + 1) else .inl (1, x_nb tx q2)) else
  if x_is tx q w_place then (match p_or (p_tk tx 6) tx (x_we tx q) with
    | .inl f => .inl f
    | .inr (o1, q2) => if tx (x_nb tx q2) = 59 then .inr ((g.1 ++ (o1 ++ [(16, 0)]), g.2.1, g.2.2.1, some (x_we tx q, g.1.length), g.2.2.2.2), x_nb tx q2 + 1) else .inl (1, x_nb tx q2)) else
  .inl (1, q)
def p_pl (tx : Nat → Int32) (n : Nat) : Nat → Nat → pG → (Nat × Nat) ⊕ pG
  | 0, q, _ => .inl (9, q)
  | m + 1, q, g => if n ≤ x_nb tx q then .inr g else (match p_pt tx (x_nb tx q) g with
    | .inl e => .inl e
    | .inr (g2, q2) => p_pl tx n m q2 g2)
/-- S9 is s0 with a fault, further on in the reading of parts -/
def rFB (S : Nat → Int32) (n kd pl : Nat) (S9 : Nat → Int32) : Prop := ((1 ≤ kd ∧ kd ≤ 4) ∧ pl ≤ n) ∧ S9 7 = nI kd ∧ S9 8 = nI pl ∧ (∃ q, q ≤ 2000 ∧ S9 5 = nI q) ∧ ∀ k, (k == 5) = false → (k == 6) = false → (k == 7) = false → (k == 8) = false → (k == 17) = false → (k == 18) = false → (k == 19) = false → S9 k = S k
theorem rFB_ne {S S9 : Nat → Int32} {n kd pl : Nat} (h : rFB S n kd pl S9) : ¬ S9 7 = 0 := by
  rw [h.2.1]
  exact nI_ne0 (by have := h.1; omega) (by have := h.1; omega)
theorem rFB_of {S S9 : Nat → Int32} {n kd pl q o B : Nat} {rd c : Int32} (h : rFl (sQ (upd S 17 c) q o rd) n kd pl B S9) (hB : B ≤ 2000) (hr : S 27 = rd) : rFB S n kd pl S9 := by
  obtain ⟨h1, h2, h3, ⟨p, h4, h5⟩, h6⟩ := h
  refine ⟨h1, h2, h3, ⟨p, by omega, h5⟩, fun k a b c d e f g => ?_⟩
  rw [h6 k a b c d, sQ_k a b]
  by_cases e27 : k = 27
  · subst e27; exact hr.symm
  · rw [up_1 (by simpa using e27), up_1 e]
theorem rFB_of' {S S9 : Nat → Int32} {n kd pl q o B : Nat} {rd : Int32} (h : rFl (sQ S q o rd) n kd pl B S9) (hB : B ≤ 2000) (hr : S 27 = rd) : rFB S n kd pl S9 := by
  obtain ⟨h1, h2, h3, ⟨p, h4, h5⟩, h6⟩ := h
  refine ⟨h1, h2, h3, ⟨p, by omega, h5⟩, fun k a b c d e f g => ?_⟩
  rw [h6 k a b c d, sQ_k a b]
  by_cases e27 : k = 27
  · subst e27; exact hr.symm
  · rw [up_1 (by simpa using e27)]
theorem rFB_A {S S9 : Nat → Int32} {n kd pl q : Nat} (h : rFB S n kd pl S9) (hq : q ≤ 2000) : rFB S n kd pl (upd S9 5 (nI q)) := by
  obtain ⟨h1, h2, h3, -, h6⟩ := h
  refine ⟨h1, h2, h3, ⟨q, hq, rfl⟩, fun k a b c d e f g => ?_⟩
  rw [up_1 a]
  exact h6 k a b c d e f g
theorem rFB_fr {S T S9 : Nat → Int32} {n kd pl : Nat} (h : rFB T n kd pl S9) (h1 : ∀ k, (k == 17) = false → (k == 18) = false → (k == 19) = false → T k = S k) : rFB S n kd pl S9 := ⟨h.1, h.2.1, h.2.2.1, h.2.2.2.1, fun k a b c d e f g => (h.2.2.2.2 k a b c d e f g).trans (h1 k e f g)⟩
section PA
variable {tx : Nat → Int32} {n : Nat}
/-- a digit of an event -/
theorem r_d2 {S : Nat → Int32} {ar : jSc} {q most off o : Nat} {rd : Int32} (hE : rE tx n S ar) (hq : q ≤ n) (hm : most ≤ 9) (hoff : off ≤ 13) :
    (∀ e q2, p_d2 tx q most off = .inr (e, q2) → off ≤ e ∧ e ≤ off + most ∧ q < q2 ∧ q2 ≤ n ∧ o_b3 (rF_17 (nI most) (sQ S q o rd) ar) (fun v S1 ar1 => some (nI off + v, S1, ar1)) = some (nI e, sQ S q2 o rd, ar)) ∧
    (∀ kd pl, p_d2 tx q most off = .inl (kd, pl) → ∃ S9, o_b3 (rF_17 (nI most) (sQ S q o rd) ar) (fun v S1 ar1 => some (nI off + v, S1, ar1)) = some (nI off, S9, ar) ∧ rFl (sQ S q o rd) n kd pl (n + 6) S9) := by
  have hn := hE.1.1.1
  have hTB : r_TX (upd (upd S 27 rd) 6 (nI o)) ar n tx := r_TX_S hE.1 rfl rfl
  have h7B : upd (upd S 27 rd) 6 (nI o) 7 = 0 := hE.2.1
  have b1 := x_nb_le hE.1.1 hq
  have b0 := (x_nb_ok hE.1.1 q).1
  have e0 : nI off + 0 = nI off := by rw [show (0 : Int32) = nI 0 from rfl, nI_add]; rfl
  unfold p_d2
  by_cases k1 : x_dg (tx (x_nb tx q))
  · rw [if_neg (fun z => z k1)]
    obtain ⟨v, v1, v2, v3⟩ := of_dg k1
    have iv : iN (tx (x_nb tx q)) = v := by rw [v3]; exact iN_nI (by omega)
    have d3 := x_de_lt hE.1.1 k1
    by_cases k2 : x_dg (tx (x_nb tx q + 1)) ∨ most < iN (tx (x_nb tx q)) - 48
    · rw [if_pos k2]
      refine ⟨fun e q2 hp => (by cases hp), fun kd pl hp => ?_⟩
      cases hp
      rw [r_digit_big hTB (by omega) h7B k1 (fun d hd1 hd2 => by
        rcases k2 with k2 | k2
        · exact hd1.2.1 k2
        · have h5 := hd1.2.2
          rw [v3] at h5
          have := (nI_eq (by omega) (by omega)).mp h5
          omega) hm, ob3, e0]
      exact ⟨_, rfl, rFl_sW hE.2.1 (by omega) b1 (by omega)⟩
    · rw [if_neg k2]
      refine ⟨fun e q2 hp => ?_, fun kd pl hp => (by cases hp)⟩
      cases hp
      have hv : iN (tx (x_nb tx q)) - 48 ≤ most := Nat.not_lt.mp fun z => k2 (Or.inr z)
      have h1 : x_d1 tx (x_nb tx q) (iN (tx (x_nb tx q)) - 48) := ⟨k1, fun z => k2 (Or.inl z), by rw [iv, v3]; congr 1; omega⟩
      rw [r_digit_ok hTB (by omega) h7B h1 hv hm, ob3, nI_add]
      exact ⟨by omega, by omega, by omega, by omega, rfl⟩
  · rw [if_pos k1]
    refine ⟨fun e q2 hp => (by cases hp), fun kd pl hp => ?_⟩
    cases hp
    rw [r_digit_no hTB (by omega) h7B k1, ob3, e0]
    exact ⟨_, rfl, rFl_sW hE.2.1 (by omega) b1 (by omega)⟩
theorem r_event {S : Nat → Int32} {ar : jSc} {q o : Nat} {rd : Int32} (hE : rE tx n S ar) (hq : q ≤ n) :
    (∀ e q2, p_ev tx q = .inr (e, q2) → e < 17 ∧ q < q2 ∧ q2 ≤ n ∧ rF_40 (sQ S q o rd) ar = some (nI e, sQ S q2 o rd, ar)) ∧
    (∀ kd pl, p_ev tx q = .inl (kd, pl) → ∃ S9 e, e < 17 ∧ rF_40 (sQ S q o rd) ar = some (nI e, S9, ar) ∧ rFl (sQ S q o rd) n kd pl (n + 6) S9) := by
  have hn := hE.1.1.1
  have hTB : r_TX (upd (upd S 27 rd) 6 (nI o)) ar n tx := r_TX_S hE.1 rfl rfl
  have b1 := x_nb_le hE.1.1 hq
  have b0 := (x_nb_ok hE.1.1 q).1
  have e0 := x_nb_idem hE.1.1 q
  have hwe : x_we tx (x_nb tx q) ≤ n := x_we_lt hE.1.1 b1
  have hwq : x_nb tx q ≤ x_we tx (x_nb tx q) := (x_we_ok hE.1.1 _).1
  unfold p_ev rF_40
  rw [r_w_start hTB (by omega), ob3]
  by_cases c1 : x_is tx (x_nb tx q) w_start
  · rw [if_pos c1, if_pos c1, if_neg (by decide), r_skipWord hTB (by omega), ob2]
    obtain ⟨g1, g2⟩ := x_is_lt hE.1.1 b1 c1 (by decide)
    refine ⟨fun e q2 hp => ?_, fun kd pl hp => (by cases hp)⟩
    cases hp
    exact ⟨by decide, by omega, g2, rfl⟩
  rw [if_neg c1, if_neg c1, if_pos rfl, r_w_press hTB (by omega), e0, ob3]
  have dig : ∀ (most off : Nat), most ≤ 9 → off + most < 17 → off ≤ 13 → (∀ e q2, p_d2 tx (x_we tx (x_nb tx q)) most off = .inr (e, q2) → e < 17 ∧ q < q2 ∧ q2 ≤ n ∧ o_b3 (rF_17 (nI most) (sQ S (x_we tx (x_nb tx q)) o rd) ar) (fun v S1 ar1 => some (nI off + v, S1, ar1)) = some (nI e, sQ S q2 o rd, ar)) ∧ (∀ kd pl, p_d2 tx (x_we tx (x_nb tx q)) most off = .inl (kd, pl) → ∃ S9 e, e < 17 ∧ o_b3 (rF_17 (nI most) (sQ S (x_we tx (x_nb tx q)) o rd) ar) (fun v S1 ar1 => some (nI off + v, S1, ar1)) = some (nI e, S9, ar) ∧ rFl (sQ S q o rd) n kd pl (n + 6) S9) := by
    intro most off h1 h2 h3
    obtain ⟨d1, d2⟩ := r_d2 (o := o) (rd := rd) (off := off) hE hwe h1 h3
    refine ⟨fun e q2 hp => ?_, fun kd pl hp => ?_⟩
    · obtain ⟨a, b, c, d, f⟩ := d1 e q2 hp
      exact ⟨by omega, by omega, d, f⟩
    · obtain ⟨S9, a, b⟩ := d2 kd pl hp
      exact ⟨S9, off, by omega, a, rFl_fr b sQ_fr⟩
  by_cases c2 : x_is tx (x_nb tx q) w_press
  · rw [if_pos c2, if_pos c2, if_neg (by decide), r_skipWord hTB (by omega), ob2]
    exact dig 7 1 (by decide) (by decide) (by decide)
  rw [if_neg c2, if_neg c2, if_pos rfl, r_w_clock hTB (by omega), e0, ob3]
  by_cases c3 : x_is tx (x_nb tx q) w_clock
  · rw [if_pos c3, if_pos c3, if_neg (by decide), r_skipWord hTB (by omega), ob2]
    exact dig 3 9 (by decide) (by decide) (by decide)
  rw [if_neg c3, if_neg c3, if_pos rfl, r_w_answer hTB (by omega), e0, ob3]
  by_cases c4 : x_is tx (x_nb tx q) w_answer
  · rw [if_pos c4, if_pos c4, if_neg (by decide), r_skipWord hTB (by omega), ob2]
    exact dig 3 13 (by decide) (by decide) (by decide)
  rw [if_neg c4, if_neg c4, if_pos rfl, sA_5, show (1 : Int32) = nI 1 from rfl, r_wrong, ob2]
  refine ⟨fun e q2 hp => (by cases hp), fun kd pl hp => ?_⟩
  cases hp
  exact ⟨_, 0, by decide, rfl, rFl_sW hE.2.1 (by omega) b1 (by omega)⟩
/-- a handler's body, read -/
theorem r_body (hn6 : n ≤ 600) : ∀ (m nn : Nat) (S : Nat → Int32) (ar : jSc) (q base cnt : Nat) (rd : Int32), rE tx n S ar → q ≤ n → cnt ≤ 60 → base ≤ 100000 + q → S 22 = 0 → S 4 = -1 → S 27 = rd → n < q + m → n + 1 < q + nn →
    (∀ seg q2 c2, p_hb tx m q base cnt = .inr (seg, q2, c2) → q < q2 ∧ q2 ≤ n ∧ c2 ≤ 60 ∧ q + seg.length ≤ q2 ∧ rF_41_79 nn (sQ (upd S 17 (nI cnt)) (x_nb tx q) 0 rd) ar = some (sQ (upd S 17 (nI c2)) q2 0 rd, ar)) ∧
    (∀ kd pl, p_hb tx m q base cnt = .inl (kd, pl) → ∃ S9, rF_41_79 nn (sQ (upd S 17 (nI cnt)) (x_nb tx q) 0 rd) ar = some (S9, ar) ∧ rFB S n kd pl S9) := by
  intro m
  induction m with
  | zero => intro nn S ar q base cnt rd hE hq hcnt hb h22 h4 hrd hm hnn; omega
  | succ m ih =>
    intro nn S ar q base cnt rd hE hq hcnt hb h22 h4 hrd hm hnn
    obtain ⟨nn, rfl⟩ : ∃ j, nn = j + 1 := ⟨nn - 1, by omega⟩
    have hn := hE.1.1.1
    have h7 := hE.2.1
    have b0 := (x_nb_ok hE.1.1 q).1
    have b1 := x_nb_le hE.1.1 hq
    have hEc := rE_17 (c := nI cnt) hE
    unfold p_hb rF_41_79
    rw [if_pos (show sQ (upd S 17 (nI cnt)) (x_nb tx q) 0 rd 7 = 0 from h7), sQ_5, r_byteAt (rE_TX hEc) (by omega), ob3]
    by_cases k1 : tx (x_nb tx q) = 125
    · rw [if_pos k1, if_pos k1, sQ_5, sQ_1]
      have k2 := lt_n hE.1.1 (q := x_nb tx q) (by rw [k1]; decide)
      refine ⟨fun seg q2 c2 hp => ?_, fun kd pl hp => (by cases hp)⟩
      cases hp
      exact ⟨by omega, by omega, hcnt, by simp only [List.length_cons, List.length_nil]; omega, rfl⟩
    · rw [if_neg k1, if_neg k1]
      obtain ⟨u1, u2⟩ := rP_st (tx := tx) hn6 6 26 (by omega) S ar (x_nb tx q) rd base cnt (nI cnt) hE b1 (fun _ => rfl) hcnt (by omega)
      refine ⟨fun seg q2 c2 hp => ?_, fun kd pl hp => ?_⟩
      · obtain ⟨os1, q3, c3, p1, hp⟩ := p_c3_r hp
        obtain ⟨os2, q4, c4, p2, hp⟩ := p_c3_r hp
        cases hp
        obtain ⟨a1, a2, a3, a4, a5, a6, -⟩ := u1 os1 q3 c3 p1
        obtain ⟨c9, d1, d2⟩ := a6 h22
        have d2 : (rG_29 40).1 (sQ (upd S 17 (nI cnt)) (x_nb tx q) 0 rd) ar = some (sQ (upd S 17 c9) q3 0 rd, ar) := d2
        rw [d1 h4] at d2
        have hTB : r_TX (upd (upd (upd S 17 (nI c3)) 27 rd) 6 (nI 0)) ar n tx := r_TX_S hE.1 rfl rfl
        obtain ⟨i1, i2, i3, i4, i5⟩ := (ih nn S ar q3 (base + os1.length) c3 rd hE a2 a4 (by omega) h22 h4 hrd (by omega) (by omega)).1 os2 q2 c2 p2
        rw [d2, ob2, r_blanks hTB (by omega), ob2]
        exact ⟨by omega, i2, i3, by simp only [List.length_append]; omega, i5⟩
      · rcases p_c3_l hp with p1 | ⟨os1, q3, c3, p1, hp⟩
        · obtain ⟨S9, c9, y1, y2⟩ := u2 kd pl p1 h22 h4
          have y1 : (rG_29 40).1 (sQ (upd S 17 (nI cnt)) (x_nb tx q) 0 rd) ar = some (S9, ar) := y1
          obtain ⟨S8, e8, h8⟩ := blF (show r_TX (sQ (upd S 17 c9) (x_nb tx q) (6 - 6) rd) ar n tx from r_TX_S hE.1 rfl rfl) y2 (by omega) (by omega)
          rw [y1, ob2, e8, ob2]
          obtain ⟨nn, rfl⟩ : ∃ j, nn = j + 1 := ⟨nn - 1, by omega⟩
          obtain ⟨p, z1, z2⟩ := rFl_at h8
          have e5 : S8 5 = nI p := by rw [← z2]; exact sA_5
          unfold rF_41_79
          rw [if_neg (rFl_ne h8), e5, nI_1]
          exact ⟨_, rfl, rFB_A (rFB_of h8 (by omega) hrd) (by omega)⟩
        · obtain ⟨a1, a2, a3, a4, a5, a6, -⟩ := u1 os1 q3 c3 p1
          obtain ⟨c9, d1, d2⟩ := a6 h22
          have d2 : (rG_29 40).1 (sQ (upd S 17 (nI cnt)) (x_nb tx q) 0 rd) ar = some (sQ (upd S 17 c9) q3 0 rd, ar) := d2
          rw [d1 h4] at d2
          have hTB : r_TX (upd (upd (upd S 17 (nI c3)) 27 rd) 6 (nI 0)) ar n tx := r_TX_S hE.1 rfl rfl
          rw [d2, ob2, r_blanks hTB (by omega), ob2]
          rcases p_c3_l hp with p2 | ⟨os2, q4, c4, p2, hp⟩
          · exact (ih nn S ar q3 (base + os1.length) c3 rd hE a2 a4 (by omega) h22 h4 hrd (by omega) (by omega)).2 kd pl p2
          · cases hp
end PA
