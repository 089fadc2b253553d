/-! CONDITIONS: the parser, and that the reference does what it says. -/
def p_rl (tx : Nat → Int32) (q : Nat) (k : Nat → Nat → oR) : oR := if tx (x_nb tx q) = 60 then k 11 (x_nb tx q + 1) else if tx (x_nb tx q) = 62 then k 12 (x_nb tx q + 1) else if tx (x_nb tx q) = 61 then k 13 (x_nb tx q + 1) else .inl (1, x_nb tx q)
def p_ow (W : Option ((Nat → oR) × (Nat → oR))) (q : Nat) (k : (Nat → oR) → (Nat → oR) → oR) : oR := match W with
  | none => .inl (3, q)
  | some (t, r) => k t r
/-- a test; W: tests and conditions with one more open, none if no more may stand open -/
def p_te (V : Nat → oR) (W : Option ((Nat → oR) × (Nat → oR))) (tx : Nat → Int32) (q : Nat) : oR :=
  if x_is tx (x_nb tx q) w_not then p_ow W (x_nb tx q) (fun t _ => p_bd (t (x_nb tx q + 3)) (fun os q2 => .inr (os ++ [(4, 0)], q2))) else
  if tx (x_nb tx q) = 91 then p_ow W (x_nb tx q) (fun _ r => p_bd (r (x_nb tx q + 1)) (fun os q3 => p_sg tx q3 93 (fun q4 => .inr (os, q4)))) else
  p_bd (V (x_nb tx q)) (fun os1 q2 => p_rl tx q2 (fun o q3 => p_bd (V q3) (fun os2 q4 => .inr (os1 ++ os2 ++ [(o, 0)], q4))))
def p_wl (u : Nat → oR) (wd : List Nat) (od : Nat) (tx : Nat → Int32) : Nat → oL → Nat → oR
  | 0, os, q => .inr (os, q)
  | m + 1, os, q => if x_is tx (x_nb tx q) wd then p_bd (u (x_we tx (x_nb tx q))) (fun os2 q2 => p_wl u wd od tx m (os ++ os2 ++ [(od, 0)]) q2) else .inr (os, x_nb tx q)
def p_an (t : Nat → oR) (tx : Nat → Int32) (q : Nat) : oR := p_bd (t q) (fun os q2 => p_wl t w_and 14 tx 700 os q2)
def p_or (t : Nat → oR) (tx : Nat → Int32) (q : Nat) : oR := p_bd (p_an t tx q) (fun os q2 => p_wl (p_an t tx) w_or 15 tx 700 os q2)
/-- a test, where k more may be opened -/
def p_tk (tx : Nat → Int32) : Nat → Nat → oR
  | 0 => p_te (p_su tx 0) none tx
  | k + 1 => p_te (p_su tx (k + 1)) (some (p_tk tx k, p_or (p_tk tx k) tx)) tx
/-- f does what the parser p says; its value is 0 or 1 -/
def rPB (tx : Nat → Int32) (n o B : Nat) (f : rFn) (p : Nat → oR) : Prop := ∀ (S : Nat → Int32) (ar : jSc) (q : Nat) (rd : Int32), rE tx n S ar → q ≤ n →
  (∀ os q2, p q = .inr (os, q2) → q < q2 ∧ q2 ≤ n ∧ ∃ v, (v = 0 ∨ v = 1) ∧ (∀ st, o_ev (ar 13) (S 25) os st = v :: st) ∧ f (sQ S q o rd) ar = some (v, sQ S q2 o (rdo S os rd), aro S os ar)) ∧
  (∀ kd pl, p q = .inl (kd, pl) → S 22 = 0 → ∃ v S9, (v = 0 ∨ v = 1) ∧ f (sQ S q o rd) ar = some (v, S9, ar) ∧ rFl (sQ S q o rd) n kd pl B S9)
def rPG (f : rFn) : Prop := ∀ (S : Nat → Int32) (ar : jSc), ¬ S 7 = 0 → f S ar = some (0, S, ar)
theorem sQ_51 {S : Nat → Int32} {q o : Nat} {rd : Int32} : upd (sQ S q o rd) 5 (sQ S q o rd 5 + 1) = sQ S (q + 1) o rd := by rw [sQ_5, sQ_1]
section CT
variable {tx : Nat → Int32} {n : Nat} {g25 g26 g27 : rFn}
theorem rPG_25 : rPG (rF_25 g25 g26 g27) := by
  intro S ar h
  unfold rF_25
  rw [if_neg h]
theorem ct_141 {S1 S2 : Nat → Int32} {ar ar2 : jSc} {x u c : Int32} (h : (rG_22 40).2.2 (upd S1 5 (S1 5 + 1)) ar = some (u, S2, ar2)) : rF_25_141 g25 g26 g27 x c S1 ar = some (if c = 60 then (if x < u then 1 else 0) else if c = 62 then (if u < x then 1 else 0) else (if x = u then 1 else 0), S2, ar2) := by
  unfold rF_25_141
  rw [h, ob3]
  by_cases k1 : c = 60
  · rw [if_pos k1, if_pos k1]
    by_cases k : u ≤ x
    · rw [if_pos k, if_neg (Int32.not_lt.mpr k)]
    · rw [if_neg k, if_pos (Int32.not_le.mp k)]
  · rw [if_neg k1, if_neg k1]
    by_cases k2 : c = 62
    · rw [if_pos k2, if_pos k2]
      by_cases k : x ≤ u
      · rw [if_pos k, if_neg (Int32.not_lt.mpr k)]
      · rw [if_neg k, if_pos (Int32.not_le.mp k)]
    · rw [if_neg k2, if_neg k2]
      by_cases k : x = u
      · rw [if_pos k, if_pos k]
      · rw [if_neg k, if_neg k]
theorem ct_b {c x u : Int32} : (if c = 60 then (if x < u then (1 : Int32) else 0) else if c = 62 then (if u < x then 1 else 0) else (if x = u then 1 else 0)) = 0 ∨ (if c = 60 then (if x < u then (1 : Int32) else 0) else if c = 62 then (if u < x then 1 else 0) else (if x = u then 1 else 0)) = 1 := by
  repeat' split
  all_goals first | exact Or.inl rfl | exact Or.inr rfl
theorem p_rl_c {q : Nat} {k : Nat → Nat → oR} : (∃ o, ((tx (x_nb tx q) = 60 ∧ o = 11) ∨ (tx (x_nb tx q) = 62 ∧ o = 12) ∨ (tx (x_nb tx q) = 61 ∧ o = 13)) ∧ p_rl tx q k = k o (x_nb tx q + 1)) ∨ ((¬ tx (x_nb tx q) = 60 ∧ ¬ tx (x_nb tx q) = 62 ∧ ¬ tx (x_nb tx q) = 61) ∧ p_rl tx q k = .inl (1, x_nb tx q)) := by
  unfold p_rl
  by_cases h1 : tx (x_nb tx q) = 60
  · exact Or.inl ⟨11, Or.inl ⟨h1, rfl⟩, if_pos h1⟩
  · by_cases h2 : tx (x_nb tx q) = 62
    · exact Or.inl ⟨12, Or.inr (Or.inl ⟨h2, rfl⟩), by rw [if_neg h1, if_pos h2]⟩
    · by_cases h3 : tx (x_nb tx q) = 61
      · exact Or.inl ⟨13, Or.inr (Or.inr ⟨h3, rfl⟩), by rw [if_neg h1, if_neg h2, if_pos h3]⟩
      · exact Or.inr ⟨⟨h1, h2, h3⟩, by rw [if_neg h1, if_neg h2, if_neg h3]⟩
set_option maxHeartbeats 4000000 in
theorem rP_test {o B BV BW : Nat} {V : Nat → oR} {W : Option ((Nat → oR) × (Nat → oR))} (hV : rPV tx n o BV (rG_22 40).2.2 V) (hVF : rPF tx n (rG_22 40).2.2) (hG25 : rPG g25) (hG27 : rPG g27) (hB : n + 6 ≤ B) (hB1 : B < 2 ^ 19) (hBV : BV + 6 ≤ B) (hBW : BW + 6 ≤ B) (ho : W = none → o = 6) (hW : ∀ t r, W = some (t, r) → o < 6 ∧ rPB tx n (o + 1) BW g25 t ∧ rPB tx n (o + 1) BW g27 r) : rPB tx n o B (rF_25 g25 g26 g27) (p_te V W tx) := by
  intro S ar q rd hE hq
  have hT := hE.1
  have h7 := hE.2.1
  have hn := hT.1.1
  have hTB : r_TX (upd (upd S 27 rd) 6 (nI o)) ar n tx := r_TX_S hT rfl rfl
  have b0 := (x_nb_ok hT.1 q).1
  have b1 := x_nb_le hT.1 hq
  have ew : rF_25 g25 g26 g27 (sQ S q o rd) ar = rF_25 g25 g26 g27 (sQ S q o rd) ar := rfl
  conv at ew => rhs; unfold rF_25
  rw [if_pos (show sQ S q o rd 7 = 0 from h7), r_w_not hTB (by omega), ob3] at ew
  unfold p_te
  by_cases c1 : x_is tx (x_nb tx q) w_not
  · rw [if_pos c1, if_neg (show ¬ (1 : Int32) = 0 by decide)] at ew
    rw [if_pos c1]
    have l3 : x_nb tx q + 3 ≤ n := by have := (x_is_lt hT.1 b1 c1 (by decide)).2; have := c1.1; simp only [List.length_cons, List.length_nil] at this; omega
    rcases W with _ | ⟨t, r⟩
    · refine ⟨fun os q2 hp => (by cases hp), fun kd pl hp h22 => ?_⟩
      have hp : Sum.inl (3, x_nb tx q) = Sum.inl (kd, pl) := hp
      cases hp
      have o6 := ho rfl
      subst o6
      obtain ⟨S9, e1, e2⟩ := r_opens6 (ar := ar) (n := n) (q := x_nb tx q) (b := 3) (rd := rd) h7 b1
      have e1 : rF_18 3 (sA (upd (upd S 27 rd) 6 (nI 6)) (x_nb tx q)) ar = _ := e1
      rw [e1, ob2, hG25 _ _ (rFl_ne e2), ob3, if_pos rfl] at ew
      exact ⟨1, _, Or.inr rfl, ew, rFl_o (rFl_mono (rFl_fr e2 sQ_fr) (by omega))⟩
    · obtain ⟨o6, hP, -⟩ := hW t r rfl
      have e1 : rF_18 3 (sA (upd (upd S 27 rd) 6 (nI o)) (x_nb tx q)) ar = _ := r_opens (b := 3) o6
      rw [e1, ob2] at ew
      obtain ⟨u1, u2⟩ := hP S ar (x_nb tx q + 3) rd hE l3
      refine ⟨fun os q2 hp => ?_, fun kd pl hp h22 => ?_⟩
      · obtain ⟨os1, q3, p1, hp⟩ := p_bd_r hp
        cases hp
        obtain ⟨w1, w2, v, w0, w3, w4⟩ := u1 os1 q2 p1
        rw [w4, ob3] at ew
        refine ⟨by omega, w2, 1 - v, by rcases w0 with e | e <;> rw [e] <;> decide, fun st => by rw [o_ev_app, w3]; rfl, ?_⟩
        rw [ew, rdo_1 rfl rfl, aro_1 rfl, show sQ S q2 (o + 1) (rdo S os1 rd) 6 = nI (o + 1) from rfl, nI_pred, sQ_6]
        rcases w0 with e | e
        · rw [e, if_pos rfl]; rfl
        · rw [e, if_neg (by decide)]; rfl
      · rcases p_bd_l hp with p1 | ⟨os1, q3, p1, hp⟩
        · obtain ⟨v, S9, w0, y1, y2⟩ := u2 kd pl p1 h22
          rw [y1, ob3] at ew
          have f : rFl (sQ S q o rd) n kd pl B (upd S9 6 (S9 6 - 1)) := rFl_o (rFl_mono (rFl_fr y2 sQ_fr) (by omega))
          by_cases k : v = 0
          · rw [if_pos k] at ew; exact ⟨1, _, Or.inr rfl, ew, f⟩
          · rw [if_neg k] at ew; exact ⟨0, _, Or.inl rfl, ew, f⟩
        · cases hp
  · rw [if_neg c1, if_pos rfl, sA_5, r_byteAt (r_TX_A hTB) (by omega), ob3] at ew
    rw [if_neg c1]
    by_cases c2 : tx (x_nb tx q) = 91
    · rw [if_pos c2] at ew ⊢
      have k2 := lt_n hT.1 (q := x_nb tx q) (by rw [c2]; decide)
      rcases W with _ | ⟨t, r⟩
      · refine ⟨fun os q2 hp => (by cases hp), fun kd pl hp h22 => ?_⟩
        have hp : Sum.inl (3, x_nb tx q) = Sum.inl (kd, pl) := hp
        cases hp
        have o6 := ho rfl
        subst o6
        obtain ⟨S9, e1, e2⟩ := r_opens6 (ar := ar) (n := n) (q := x_nb tx q) (b := 1) (rd := rd) h7 b1
        have e1 : rF_18 1 (sA (upd (upd S 27 rd) 6 (nI 6)) (x_nb tx q)) ar = _ := e1
        have e2 := rFl_mono e2 (show x_nb tx q + 1 ≤ B - 4 by omega)
        obtain ⟨S8, e3, e4⟩ := un_sgF (rE_TX hE) e2 (by omega) (by omega) 93
        rw [e1, ob2, hG27 _ _ (rFl_ne e2), ob3, e3, ob2, if_pos (Or.inl rfl)] at ew
        exact ⟨0, _, Or.inl rfl, ew, rFl_o (rFl_mono (rFl_fr e4 sQ_fr) (by omega))⟩
      · obtain ⟨o6, -, hP⟩ := hW t r rfl
        have e1 : rF_18 1 (sA (upd (upd S 27 rd) 6 (nI o)) (x_nb tx q)) ar = _ := r_opens (b := 1) o6
        rw [e1, ob2] at ew
        obtain ⟨u1, u2⟩ := hP S ar (x_nb tx q + 1) rd hE (by omega)
        refine ⟨fun os q2 hp => ?_, fun kd pl hp h22 => ?_⟩
        · obtain ⟨os1, q3, p1, hp⟩ := p_bd_r hp
          obtain ⟨w1, w2, v, w0, w3, w4⟩ := u1 os1 q3 p1
          rw [w4, ob3] at ew
          unfold p_sg at hp
          obtain ⟨s1, s2⟩ := un_sg (o := o + 1) (rd := rdo S os1 rd) (rE_aro (os := os1) hE) w2 93 (by decide)
          have z1 := (x_nb_ok hT.1 q3).1
          split at hp
          · rename_i k41
            obtain ⟨s3, s4⟩ := s1 k41
            cases hp
            refine ⟨by omega, s4, v, w0, w3, ?_⟩
            rw [ew, s3, ob2, if_pos w0, show sQ S (x_nb tx q3 + 1) (o + 1) (rdo S os rd) 6 = nI (o + 1) from rfl, nI_pred, sQ_6]
          · cases hp
        · rcases p_bd_l hp with p1 | ⟨os1, q3, p1, hp⟩
          · obtain ⟨v, S9, w0, y1, y2⟩ := u2 kd pl p1 h22
            have y2 := rFl_mono y2 (show BW ≤ B - 4 by omega)
            obtain ⟨S8, e3, e4⟩ := un_sgF (rE_TX hE) y2 (by omega) (by omega) 93
            rw [y1, ob3, e3, ob2, if_pos w0] at ew
            exact ⟨v, _, w0, ew, rFl_o (rFl_mono (rFl_fr e4 sQ_fr) (by omega))⟩
          · obtain ⟨w1, w2, v, w0, w3, w4⟩ := u1 os1 q3 p1
            rw [w4, ob3, rdo_no h22, aro_no h22] at ew
            unfold p_sg at hp
            obtain ⟨s1, s2⟩ := un_sg (o := o + 1) (rd := rd) hE w2 93 (by decide)
            have m1 := x_nb_le hT.1 w2
            split at hp
            · cases hp
            · rename_i k41
              cases hp
              rw [s2 k41, ob2, if_pos w0] at ew
              exact ⟨v, _, w0, ew, rFl_o (rFl_fr (rFl_sW (q := q) h7 (by omega) m1 (by omega)) sQ_fr)⟩
    · rw [if_neg c2] at ew ⊢
      obtain ⟨u1, u2⟩ := hV S ar (x_nb tx q) rd hE b1
      refine ⟨fun os q2 hp => ?_, fun kd pl hp h22 => ?_⟩
      · obtain ⟨os1, q3, p1, hp⟩ := p_bd_r hp
        obtain ⟨w1, w2, v, w3, w4⟩ := u1 os1 q3 p1
        have hE1 := rE_aro (os := os1) hE
        have hT2 : r_TX (upd (upd S 27 (rdo S os1 rd)) 6 (nI o)) (aro S os1 ar) n tx := r_TX_S hE1.1 rfl rfl
        have m1 := x_nb_le hT.1 w2
        have z1 := (x_nb_ok hT.1 q3).1
        rw [w4, ob3, r_blanks hT2 (by omega), ob2, sA_5, r_byteAt (r_TX_A hT2) (by omega), ob3] at ew
        rcases p_rl_c (tx := tx) (q := q3) (k := fun o q3 => p_bd (V q3) (fun os2 q4 => .inr (os1 ++ os2 ++ [(o, 0)], q4))) with ⟨od, hod, e⟩ | ⟨hno, e⟩
        · rw [e] at hp
          have k3 : x_nb tx q3 < n := lt_n hT.1 (by rcases hod with ⟨a, -⟩ | ⟨a, -⟩ | ⟨a, -⟩ <;> rw [a] <;> decide)
          obtain ⟨os2, q4, p2, hp⟩ := p_bd_r hp
          obtain ⟨y1, y2, u, y3, y4⟩ := (hV S (aro S os1 ar) (x_nb tx q3 + 1) (rdo S os1 rd) hE1 (by omega)).1 os2 q4 p2
          have pg : aro S os1 ar 13 = ar 13 := aro_row hE.2.2 (by omega) os1 ar
          rw [pg] at y3
          rw [← sQ_51 (q := x_nb tx q3)] at y4
          have e3 := ct_141 (g25 := g25) (g26 := g26) (g27 := g27) (x := v) (c := tx (x_nb tx q3)) y4
          have e4 : rF_25 g25 g26 g27 (sQ S q o rd) ar = rF_25_141 g25 g26 g27 v (tx (x_nb tx q3)) (sQ S (x_nb tx q3) o (rdo S os1 rd)) (aro S os1 ar) := by
            rw [ew]
            rcases hod with ⟨a, -⟩ | ⟨a, -⟩ | ⟨a, -⟩
            · rw [if_pos a]
            · rw [if_neg (by rw [a]; decide), if_pos a]
            · rw [if_neg (by rw [a]; decide), if_neg (by rw [a]; decide), if_pos a]
          cases hp
          refine ⟨by omega, y2, (if tx (x_nb tx q3) = 60 then (if v < u then 1 else 0) else if tx (x_nb tx q3) = 62 then (if u < v then 1 else 0) else (if v = u then 1 else 0)), ct_b, fun st => ?_, ?_⟩
          rotate_left
          · rw [e4, e3, rdo_1 (by rcases hod with ⟨-, a⟩ | ⟨-, a⟩ | ⟨-, a⟩ <;> rw [a] <;> rfl) (by rcases hod with ⟨-, a⟩ | ⟨-, a⟩ | ⟨-, a⟩ <;> rw [a] <;> rfl), aro_1 (by rcases hod with ⟨-, a⟩ | ⟨-, a⟩ | ⟨-, a⟩ <;> rw [a] <;> rfl), rdo_app, aro_app]
          · rw [List.append_assoc, o_ev_app, w3, o_ev_app, y3]
            rcases hod with ⟨a, rfl⟩ | ⟨a, rfl⟩ | ⟨a, rfl⟩
            · rw [if_pos a]; rfl
            · rw [if_neg (by rw [a]; decide), if_pos a]; rfl
            · rw [if_neg (by rw [a]; decide), if_neg (by rw [a]; decide)]; rfl
        · rw [e] at hp; cases hp
      · rcases p_bd_l hp with p1 | ⟨os1, q3, p1, hp⟩
        · obtain ⟨v, S9, y1, y2⟩ := u2 kd pl p1 h22
          have y2 := rFl_mono y2 (show BV ≤ B - 6 by omega)
          obtain ⟨S8, e8, h8⟩ := blF (rE_TX hE) y2 (by omega) (by omega)
          obtain ⟨p, z1, z2⟩ := rFl_at h8
          have hT8 := rFl_TX h8 (rE_TX hE)
          have e5 : S8 5 = nI p := by rw [← z2]; exact sA_5
          rw [y1, ob3, e8, ob2, e5, r_byteAt hT8 (by omega), ob3] at ew
          obtain ⟨u, S6, e6, h6⟩ := un_g24F hVF (rE_TX hE) (rFl_A h8 (B - 5) (show p + 1 ≤ B - 5 by omega)) (by omega) (by omega)
          rw [show sA S8 (p + 1) = upd S8 5 (S8 5 + 1) by rw [e5, nI_1]] at e6
          have e3 := ct_141 (g25 := g25) (g26 := g26) (g27 := g27) (x := v) (c := tx p) e6
          have h7' : sW S8 1 p = S8 := sW_1 (rFl_ne h8)
          have e4 : rF_25 g25 g26 g27 (sQ S q o rd) ar = rF_25_141 g25 g26 g27 v (tx p) S8 ar := by
            rw [ew]
            by_cases a : tx p = 60
            · rw [if_pos a]
            · rw [if_neg a]
              by_cases a : tx p = 62
              · rw [if_pos a]
              · rw [if_neg a]
                by_cases a : tx p = 61
                · rw [if_pos a]
                · rw [if_neg a, e5, show (1 : Int32) = nI 1 from rfl, r_wrong, ob2, h7']
          exact ⟨_, S6, ct_b, e4.trans e3, rFl_mono (rFl_fr h6 sQ_fr) (by omega)⟩
        · obtain ⟨w1, w2, v, w3, w4⟩ := u1 os1 q3 p1
          rw [rdo_no h22, aro_no h22] at w4
          have m1 := x_nb_le hT.1 w2
          rw [w4, ob3, r_blanks hTB (by omega), ob2, sA_5, r_byteAt (r_TX_A hTB) (by omega), ob3] at ew
          rcases p_rl_c (tx := tx) (q := q3) (k := fun o q3 => p_bd (V q3) (fun os2 q4 => .inr (os1 ++ os2 ++ [(o, 0)], q4))) with ⟨od, hod, e⟩ | ⟨hno, e⟩
          · rw [e] at hp
            have k3 : x_nb tx q3 < n := lt_n hT.1 (by rcases hod with ⟨a, -⟩ | ⟨a, -⟩ | ⟨a, -⟩ <;> rw [a] <;> decide)
            rcases p_bd_l hp with p2 | ⟨os2, q4, p2, hp⟩
            · obtain ⟨u, S9, y1, y2⟩ := (hV S ar (x_nb tx q3 + 1) rd hE (by omega)).2 kd pl p2 h22
              rw [← sQ_51 (q := x_nb tx q3)] at y1
              have e3 := ct_141 (g25 := g25) (g26 := g26) (g27 := g27) (x := v) (c := tx (x_nb tx q3)) y1
              have e4 : rF_25 g25 g26 g27 (sQ S q o rd) ar = rF_25_141 g25 g26 g27 v (tx (x_nb tx q3)) (sQ S (x_nb tx q3) o rd) ar := by
                rw [ew]
                rcases hod with ⟨a, -⟩ | ⟨a, -⟩ | ⟨a, -⟩
                · rw [if_pos a]
                · rw [if_neg (by rw [a]; decide), if_pos a]
                · rw [if_neg (by rw [a]; decide), if_neg (by rw [a]; decide), if_pos a]
              exact ⟨_, S9, ct_b, e4.trans e3, rFl_mono (rFl_fr y2 sQ_fr) (by omega)⟩
            · cases hp
          · rw [e] at hp
            cases hp
            have f := rFl_sW (S := S) (n := n) (q := q) (o := o) (rd := rd) (B := B - 6) (p := x_nb tx q3) (kd := 1) (pl := x_nb tx q3) h7 (by omega) m1 (by omega)
            have e5 : sW (sQ S (x_nb tx q3) o rd) 1 (x_nb tx q3) 5 = nI (x_nb tx q3) := by rw [sW_k rfl rfl]; rfl
            obtain ⟨u, S6, e6, h6⟩ := un_g24F hVF (rE_TX hE) (rFl_A f (B - 5) (show x_nb tx q3 + 1 ≤ B - 5 by omega)) (by omega) (by omega)
            rw [show sA (sW (sQ S (x_nb tx q3) o rd) 1 (x_nb tx q3)) (x_nb tx q3 + 1) = upd (sW (sQ S (x_nb tx q3) o rd) 1 (x_nb tx q3)) 5 (sW (sQ S (x_nb tx q3) o rd) 1 (x_nb tx q3) 5 + 1) by rw [e5, nI_1]] at e6
            have e3 := ct_141 (g25 := g25) (g26 := g26) (g27 := g27) (x := v) (c := tx (x_nb tx q3)) e6
            rw [if_neg hno.1, if_neg hno.2.1, if_neg hno.2.2, sA_5, show (1 : Int32) = nI 1 from rfl, r_wrong, ob2] at ew
            exact ⟨_, S6, ct_b, ew.trans e3, rFl_mono (rFl_fr h6 sQ_fr) (by omega)⟩

theorem wF26 {S : Nat → Int32} {ar : jSc} {nn : Nat} {v : Int32} (h : ¬ S 7 = 0) (hv : v = 0 ∨ v = 1) : rF_26_5 g25 g26 g27 (nn + 1) v S ar = some (v, S, ar) := by
  unfold rF_26_5
  rw [if_neg h, if_pos hv]
theorem wc26 {x y : Int32} (hx : x = 0 ∨ x = 1) (hy : y = 0 ∨ y = 1) : o_jo 14 x y = (if x = 0 then (0 : Int32) else if y = 0 then 0 else 1) ∧ (o_jo 14 x y = 0 ∨ o_jo 14 x y = 1) := by
  rcases hx with rfl | rfl <;> rcases hy with rfl | rfl <;> decide
theorem ws26 {S : Nat → Int32} {ar : jSc} {nn : Nat} {v : Int32} {q o : Nat} {rd : Int32} (hE : rE tx n S ar) (hq : q ≤ n) : rF_26_5 g25 g26 g27 (nn + 1) v (sQ S q o rd) ar = (if x_is tx (x_nb tx q) w_and then o_b3 (g25 (sQ S (x_we tx (x_nb tx q)) o rd) ar) (fun y S1 ar1 => rF_26_5 g25 g26 g27 nn (if v = 0 then (0 : Int32) else if y = 0 then 0 else 1) S1 ar1) else (if v = 0 ∨ v = 1 then some (v, sQ S (x_nb tx q) o rd, ar) else none)) := by
  have hn := hE.1.1.1
  have hTB : r_TX (upd (upd S 27 rd) 6 (nI o)) ar n tx := r_TX_S hE.1 rfl rfl
  have b1 := x_nb_le hE.1.1 hq
  conv => lhs; unfold rF_26_5
  rw [if_pos (show sQ S q o rd 7 = 0 from hE.2.1), r_w_and hTB (by omega), ob3]
  by_cases c : x_is tx (x_nb tx q) w_and
  · rw [if_pos c, if_pos c, if_neg (by decide), r_skipWord hTB (by omega), ob2]
    rcases g25 (sQ S (x_we tx (x_nb tx q)) o rd) ar with _ | ⟨y, S1, ar1⟩
    · rfl
    · show (if v = 0 then _ else _) = rF_26_5 g25 g26 g27 nn (if v = 0 then (0 : Int32) else if y = 0 then 0 else 1) S1 ar1
      by_cases k : v = 0
      · rw [if_pos k, if_pos k]
      · rw [if_neg k, if_neg k]
        by_cases k0 : y = 0
        · rw [if_pos k0, if_pos k0]
        · rw [if_neg k0, if_neg k0]
  · rw [if_neg c, if_neg c, if_pos rfl]
set_option maxHeartbeats 2000000 in
theorem wl26 {S : Nat → Int32} {o B : Nat} {u : Nat → oR} (hU : rPB tx n o B g25 u) (hB : n ≤ B) (hB1 : B < 2 ^ 19) : ∀ (m nn : Nat) (os : oL) (q : Nat) (v rd : Int32) (ar : jSc), rE tx n S ar → q ≤ n → n < q + m → n + 1 < q + nn → (v = 0 ∨ v = 1) →
    (∀ os2 q2, p_wl u w_and 14 tx m os q = .inr (os2, q2) → q ≤ q2 ∧ q2 ≤ n ∧ ∃ od v2, (v2 = 0 ∨ v2 = 1) ∧ os2 = os ++ od ∧ (∀ st, o_ev (ar 13) (S 25) od (v :: st) = v2 :: st) ∧ rF_26_5 g25 g26 g27 nn v (sQ S q o rd) ar = some (v2, sQ S q2 o (rdo S od rd), aro S od ar)) ∧
    (∀ kd pl, p_wl u w_and 14 tx m os q = .inl (kd, pl) → S 22 = 0 → ∃ v2 S9, (v2 = 0 ∨ v2 = 1) ∧ rF_26_5 g25 g26 g27 nn v (sQ S q o rd) ar = some (v2, S9, ar) ∧ rFl (sQ S q o rd) n kd pl B S9) := by
  intro m
  induction m with
  | zero => intro nn os q v rd ar hE hq hm; omega
  | succ m ih =>
    intro nn os q v rd ar hE hq hm hnn hv
    obtain ⟨nn, rfl⟩ : ∃ j, nn = j + 1 := ⟨nn - 1, by omega⟩
    have hn := hE.1.1.1
    have b0 := (x_nb_ok hE.1.1 q).1
    have b1 := x_nb_le hE.1.1 hq
    rw [ws26 hE hq]
    unfold p_wl
    by_cases c : x_is tx (x_nb tx q) w_and
    · rw [if_pos c, if_pos c]
      obtain ⟨g1, g2⟩ := x_is_lt hE.1.1 b1 c (by decide)
      obtain ⟨u1, u2⟩ := hU S ar (x_we tx (x_nb tx q)) rd hE g2
      refine ⟨fun os2 q2 hp => ?_, fun kd pl hp h22 => ?_⟩
      · obtain ⟨os1, q3, p1, hp⟩ := p_bd_r hp
        obtain ⟨w1, w2, t, w0, w3, w4⟩ := u1 os1 q3 p1
        obtain ⟨x1, x2⟩ := wc26 hv w0
        rw [w4, ob3, ← x1]
        have hE2 := rE_aro (os := os1) hE
        obtain ⟨i1, i2, od2, v2, i0, i3, i4, i5⟩ := (ih nn (os ++ os1 ++ [(14, 0)]) q3 (o_jo 14 v t) (rdo S os1 rd) (aro S os1 ar) hE2 w2 (by omega) (by omega) x2).1 os2 q2 hp
        have pg : aro S os1 ar 13 = ar 13 := aro_row hE.2.2 (by omega) os1 ar
        rw [pg] at i4
        refine ⟨by omega, i2, os1 ++ [(14, 0)] ++ od2, v2, i0, by rw [i3]; simp [List.append_assoc], fun st => ?_, ?_⟩
        · rw [o_ev_app, o_ev_app, w3]
          exact i4 st
        · rw [i5, rdo_app, rdo_1 rfl rfl, aro_app, aro_1 rfl]
      · rcases p_bd_l hp with p1 | ⟨os1, q3, p1, hp⟩
        · obtain ⟨t, S9, w0, y1, y2⟩ := u2 kd pl p1 h22
          obtain ⟨x1, x2⟩ := wc26 hv w0
          rw [y1, ob3, ← x1]
          obtain ⟨nn, rfl⟩ : ∃ j, nn = j + 1 := ⟨nn - 1, by omega⟩
          exact ⟨_, S9, x2, wF26 (rFl_ne y2) x2, rFl_fr y2 sQ_fr⟩
        · obtain ⟨w1, w2, t, w0, w3, w4⟩ := u1 os1 q3 p1
          obtain ⟨x1, x2⟩ := wc26 hv w0
          rw [w4, ob3, ← x1, rdo_no h22, aro_no h22]
          obtain ⟨v2, S9, i0, i1, i2⟩ := (ih nn (os ++ os1 ++ [(14, 0)]) q3 _ rd ar hE w2 (by omega) (by omega) x2).2 kd pl hp h22
          exact ⟨v2, S9, i0, i1, rFl_fr i2 sQ_fr⟩
    · rw [if_neg c, if_neg c, if_pos hv]
      refine ⟨fun os2 q2 hp => ?_, fun kd pl hp => (by cases hp)⟩
      cases hp
      refine ⟨b0, b1, [], v, hv, (List.append_nil _).symm, fun st => rfl, ?_⟩
      rw [rdo_id (show o_rd [] rd = rd from rfl), aro_id (show o_as _ [] ar = ar from rfl)]
theorem rP_26 {o B : Nat} {t : Nat → oR} (hU : rPB tx n o B g25 (t)) (hB : n ≤ B) (hB1 : B < 2 ^ 19) : rPB tx n o B (rF_26 g25 g26 g27) (p_an t tx) := by
  intro S ar q rd hE hq
  obtain ⟨u1, u2⟩ := hU S ar q rd hE hq
  have hn := hE.1.1.1
  unfold p_an rF_26
  refine ⟨fun os q2 hp => ?_, fun kd pl hp h22 => ?_⟩
  · obtain ⟨os1, q3, p1, hp⟩ := p_bd_r hp
    obtain ⟨w1, w2, t, w0, w3, w4⟩ := u1 os1 q3 p1
    have hE2 := rE_aro (os := os1) hE
    obtain ⟨i1, i2, od, v2, i0, i3, i4, i5⟩ := (wl26 (g25 := g25) (g26 := g26) (g27 := g27) hU hB hB1 700 oF os1 q3 t (rdo S os1 rd) (aro S os1 ar) hE2 w2 (by omega) (by rw [oF_s]; omega) w0).1 os q2 hp
    have pg : aro S os1 ar 13 = ar 13 := aro_row hE.2.2 (by omega) os1 ar
    rw [pg] at i4
    refine ⟨by omega, i2, v2, i0, fun st => by rw [i3, o_ev_app, w3, i4], ?_⟩
    rw [w4, ob3, i5, i3, rdo_app, aro_app]
  · rcases p_bd_l hp with p1 | ⟨os1, q3, p1, hp⟩
    · obtain ⟨t, S9, w0, y1, y2⟩ := u2 kd pl p1 h22
      rw [y1, ob3, oF_s]
      exact ⟨t, S9, w0, wF26 (rFl_ne y2) w0, y2⟩
    · obtain ⟨w1, w2, t, w0, w3, w4⟩ := u1 os1 q3 p1
      rw [rdo_no h22, aro_no h22] at w4
      obtain ⟨v2, S9, i0, i1, i2⟩ := (wl26 (g25 := g25) (g26 := g26) (g27 := g27) hU hB hB1 700 oF os1 q3 t rd ar hE w2 (by omega) (by rw [oF_s]; omega) w0).2 kd pl hp h22
      rw [w4, ob3]
      exact ⟨v2, S9, i0, i1, rFl_fr i2 sQ_fr⟩
theorem rPG_26 (h : rPG g25) : rPG (rF_26 g25 g26 g27) := by
  intro S ar h7
  unfold rF_26
  rw [h S ar h7, ob3, oF_s]
  exact wF26 h7 (Or.inl rfl)
theorem wF27 {S : Nat → Int32} {ar : jSc} {nn : Nat} {v : Int32} (h : ¬ S 7 = 0) (hv : v = 0 ∨ v = 1) : rF_27_5 g25 g26 g27 (nn + 1) v S ar = some (v, S, ar) := by
  unfold rF_27_5
  rw [if_neg h, if_pos hv]
theorem wc27 {x y : Int32} (hx : x = 0 ∨ x = 1) (hy : y = 0 ∨ y = 1) : o_jo 15 x y = (if x = 0 then (if y = 0 then (0 : Int32) else 1) else 1) ∧ (o_jo 15 x y = 0 ∨ o_jo 15 x y = 1) := by
  rcases hx with rfl | rfl <;> rcases hy with rfl | rfl <;> decide
theorem ws27 {S : Nat → Int32} {ar : jSc} {nn : Nat} {v : Int32} {q o : Nat} {rd : Int32} (hE : rE tx n S ar) (hq : q ≤ n) : rF_27_5 g25 g26 g27 (nn + 1) v (sQ S q o rd) ar = (if x_is tx (x_nb tx q) w_or then o_b3 (g26 (sQ S (x_we tx (x_nb tx q)) o rd) ar) (fun y S1 ar1 => rF_27_5 g25 g26 g27 nn (if v = 0 then (if y = 0 then (0 : Int32) else 1) else 1) S1 ar1) else (if v = 0 ∨ v = 1 then some (v, sQ S (x_nb tx q) o rd, ar) else none)) := by
  have hn := hE.1.1.1
  have hTB : r_TX (upd (upd S 27 rd) 6 (nI o)) ar n tx := r_TX_S hE.1 rfl rfl
  have b1 := x_nb_le hE.1.1 hq
  conv => lhs; unfold rF_27_5
  rw [if_pos (show sQ S q o rd 7 = 0 from hE.2.1), r_w_or hTB (by omega), ob3]
  by_cases c : x_is tx (x_nb tx q) w_or
  · rw [if_pos c, if_pos c, if_neg (by decide), r_skipWord hTB (by omega), ob2]
    rcases g26 (sQ S (x_we tx (x_nb tx q)) o rd) ar with _ | ⟨y, S1, ar1⟩
    · rfl
    · show (if v = 0 then _ else _) = rF_27_5 g25 g26 g27 nn (if v = 0 then (if y = 0 then (0 : Int32) else 1) else 1) S1 ar1
      by_cases k : v = 0
      · rw [if_pos k, if_pos k]
        by_cases k0 : y = 0
        · rw [if_pos k0, if_pos k0]
        · rw [if_neg k0, if_neg k0]
      · rw [if_neg k, if_neg k]
  · rw [if_neg c, if_neg c, if_pos rfl]
set_option maxHeartbeats 2000000 in
theorem wl27 {S : Nat → Int32} {o B : Nat} {u : Nat → oR} (hU : rPB tx n o B g26 u) (hB : n ≤ B) (hB1 : B < 2 ^ 19) : ∀ (m nn : Nat) (os : oL) (q : Nat) (v rd : Int32) (ar : jSc), rE tx n S ar → q ≤ n → n < q + m → n + 1 < q + nn → (v = 0 ∨ v = 1) →
    (∀ os2 q2, p_wl u w_or 15 tx m os q = .inr (os2, q2) → q ≤ q2 ∧ q2 ≤ n ∧ ∃ od v2, (v2 = 0 ∨ v2 = 1) ∧ os2 = os ++ od ∧ (∀ st, o_ev (ar 13) (S 25) od (v :: st) = v2 :: st) ∧ rF_27_5 g25 g26 g27 nn v (sQ S q o rd) ar = some (v2, sQ S q2 o (rdo S od rd), aro S od ar)) ∧
    (∀ kd pl, p_wl u w_or 15 tx m os q = .inl (kd, pl) → S 22 = 0 → ∃ v2 S9, (v2 = 0 ∨ v2 = 1) ∧ rF_27_5 g25 g26 g27 nn v (sQ S q o rd) ar = some (v2, S9, ar) ∧ rFl (sQ S q o rd) n kd pl B S9) := by
  intro m
  induction m with
  | zero => intro nn os q v rd ar hE hq hm; omega
  | succ m ih =>
    intro nn os q v rd ar hE hq hm hnn hv
    obtain ⟨nn, rfl⟩ : ∃ j, nn = j + 1 := ⟨nn - 1, by omega⟩
    have hn := hE.1.1.1
    have b0 := (x_nb_ok hE.1.1 q).1
    have b1 := x_nb_le hE.1.1 hq
    rw [ws27 hE hq]
    unfold p_wl
    by_cases c : x_is tx (x_nb tx q) w_or
    · rw [if_pos c, if_pos c]
      obtain ⟨g1, g2⟩ := x_is_lt hE.1.1 b1 c (by decide)
      obtain ⟨u1, u2⟩ := hU S ar (x_we tx (x_nb tx q)) rd hE g2
      refine ⟨fun os2 q2 hp => ?_, fun kd pl hp h22 => ?_⟩
      · obtain ⟨os1, q3, p1, hp⟩ := p_bd_r hp
        obtain ⟨w1, w2, t, w0, w3, w4⟩ := u1 os1 q3 p1
        obtain ⟨x1, x2⟩ := wc27 hv w0
        rw [w4, ob3, ← x1]
        have hE2 := rE_aro (os := os1) hE
        obtain ⟨i1, i2, od2, v2, i0, i3, i4, i5⟩ := (ih nn (os ++ os1 ++ [(15, 0)]) q3 (o_jo 15 v t) (rdo S os1 rd) (aro S os1 ar) hE2 w2 (by omega) (by omega) x2).1 os2 q2 hp
        have pg : aro S os1 ar 13 = ar 13 := aro_row hE.2.2 (by omega) os1 ar
        rw [pg] at i4
        refine ⟨by omega, i2, os1 ++ [(15, 0)] ++ od2, v2, i0, by rw [i3]; simp [List.append_assoc], fun st => ?_, ?_⟩
        · rw [o_ev_app, o_ev_app, w3]
          exact i4 st
        · rw [i5, rdo_app, rdo_1 rfl rfl, aro_app, aro_1 rfl]
      · rcases p_bd_l hp with p1 | ⟨os1, q3, p1, hp⟩
        · obtain ⟨t, S9, w0, y1, y2⟩ := u2 kd pl p1 h22
          obtain ⟨x1, x2⟩ := wc27 hv w0
          rw [y1, ob3, ← x1]
          obtain ⟨nn, rfl⟩ : ∃ j, nn = j + 1 := ⟨nn - 1, by omega⟩
          exact ⟨_, S9, x2, wF27 (rFl_ne y2) x2, rFl_fr y2 sQ_fr⟩
        · obtain ⟨w1, w2, t, w0, w3, w4⟩ := u1 os1 q3 p1
          obtain ⟨x1, x2⟩ := wc27 hv w0
          rw [w4, ob3, ← x1, rdo_no h22, aro_no h22]
          obtain ⟨v2, S9, i0, i1, i2⟩ := (ih nn (os ++ os1 ++ [(15, 0)]) q3 _ rd ar hE w2 (by omega) (by omega) x2).2 kd pl hp h22
          exact ⟨v2, S9, i0, i1, rFl_fr i2 sQ_fr⟩
    · rw [if_neg c, if_neg c, if_pos hv]
      refine ⟨fun os2 q2 hp => ?_, fun kd pl hp => (by cases hp)⟩
      cases hp
      refine ⟨b0, b1, [], v, hv, (List.append_nil _).symm, fun st => rfl, ?_⟩
      rw [rdo_id (show o_rd [] rd = rd from rfl), aro_id (show o_as _ [] ar = ar from rfl)]
theorem rP_27 {o B : Nat} {t : Nat → oR} (hU : rPB tx n o B g26 (p_an t tx)) (hB : n ≤ B) (hB1 : B < 2 ^ 19) : rPB tx n o B (rF_27 g25 g26 g27) (p_or t tx) := by
  intro S ar q rd hE hq
  obtain ⟨u1, u2⟩ := hU S ar q rd hE hq
  have hn := hE.1.1.1
  unfold p_or rF_27
  refine ⟨fun os q2 hp => ?_, fun kd pl hp h22 => ?_⟩
  · obtain ⟨os1, q3, p1, hp⟩ := p_bd_r hp
    obtain ⟨w1, w2, t, w0, w3, w4⟩ := u1 os1 q3 p1
    have hE2 := rE_aro (os := os1) hE
    obtain ⟨i1, i2, od, v2, i0, i3, i4, i5⟩ := (wl27 (g25 := g25) (g26 := g26) (g27 := g27) hU hB hB1 700 oF os1 q3 t (rdo S os1 rd) (aro S os1 ar) hE2 w2 (by omega) (by rw [oF_s]; omega) w0).1 os q2 hp
    have pg : aro S os1 ar 13 = ar 13 := aro_row hE.2.2 (by omega) os1 ar
    rw [pg] at i4
    refine ⟨by omega, i2, v2, i0, fun st => by rw [i3, o_ev_app, w3, i4], ?_⟩
    rw [w4, ob3, i5, i3, rdo_app, aro_app]
  · rcases p_bd_l hp with p1 | ⟨os1, q3, p1, hp⟩
    · obtain ⟨t, S9, w0, y1, y2⟩ := u2 kd pl p1 h22
      rw [y1, ob3, oF_s]
      exact ⟨t, S9, w0, wF27 (rFl_ne y2) w0, y2⟩
    · obtain ⟨w1, w2, t, w0, w3, w4⟩ := u1 os1 q3 p1
      rw [rdo_no h22, aro_no h22] at w4
      obtain ⟨v2, S9, i0, i1, i2⟩ := (wl27 (g25 := g25) (g26 := g26) (g27 := g27) hU hB hB1 700 oF os1 q3 t rd ar hE w2 (by omega) (by rw [oF_s]; omega) w0).2 kd pl hp h22
      rw [w4, ob3]
      exact ⟨v2, S9, i0, i1, rFl_fr i2 sQ_fr⟩
theorem rPG_27 (h : rPG g26) : rPG (rF_27 g25 g26 g27) := by
  intro S ar h7
  unfold rF_27
  rw [h S ar h7, ob3, oF_s]
  exact wF27 h7 (Or.inl rfl)
theorem rPG_ct : ∀ m : Nat, rPG (rG_25 (m + 3)).1 ∧ rPG (rG_25 (m + 3)).2.2 := fun m => ⟨rPG_25, rPG_27 (rPG_26 rPG_25)⟩
/-- conditions of the reference: k more may be opened -/
theorem rP_ct (hn : n ≤ 600) : ∀ (k m : Nat), k ≤ 6 → rPB tx n (6 - k) (n + 60 + 6 * (k + 1)) (rG_25 (m + 3 * (k + 2))).1 (p_tk tx k) ∧ rPB tx n (6 - k) (n + 60 + 6 * (k + 1)) (rG_25 (m + 3 * (k + 2))).2.2 (p_or (p_tk tx k) tx) := by
  intro k
  induction k with
  | zero =>
    intro m _
    have hv := rP_su (tx := tx) hn 0 34 (by omega)
    have T : ∀ m, rPB tx n (6 - 0) (n + 60 + 6 * (0 + 1)) (rG_25 (m + 4)).1 (p_tk tx 0) := fun m => rP_test (W := none) (BW := n) hv (rPF_su 37) (rPG_ct m).1 (rPG_ct m).2 (by omega) (by omega) (by omega) (by omega) (fun _ => rfl) (fun t r h => by cases h)
    exact ⟨T (m + 2), rP_27 (rP_26 (T m) (by omega) (by omega)) (by omega) (by omega)⟩
  | succ k ih =>
    intro m hk
    have hv := rP_su (tx := tx) hn (k + 1) (40 - 3 * (k + 3)) (by omega)
    rw [show 40 - 3 * (k + 3) + 3 * (k + 1 + 2) = 40 by omega] at hv
    have T : ∀ j, rPB tx n (6 - (k + 1)) (n + 60 + 6 * (k + 1 + 1)) (rG_25 (j + 3 * (k + 2) + 1)).1 (p_tk tx (k + 1)) := by
      intro j
      refine rP_test (W := some (p_tk tx k, p_or (p_tk tx k) tx)) (BW := n + 60 + 6 * (k + 1)) hv (rPF_su 37) (rPG_ct (j + 3 * (k + 1))).1 (rPG_ct (j + 3 * (k + 1))).2 (by omega) (by omega) (by omega) (by omega) (fun h => by cases h) (fun t r h => ?_)
      cases h
      refine ⟨by omega, ?_⟩
      rw [show 6 - (k + 1) + 1 = 6 - k by omega]
      exact ih j (by omega)
    have e1 : m + 3 * (k + 1 + 2) = m + 2 + 3 * (k + 2) + 1 := by omega
    refine ⟨by rw [e1]; exact T (m + 2), ?_⟩
    have e2 : m + 3 * (k + 1 + 2) = m + 3 * (k + 2) + 1 + 1 + 1 := by omega
    rw [e2]
    exact rP_27 (rP_26 (T m) (by omega) (by omega)) (by omega) (by omega)
end CT
