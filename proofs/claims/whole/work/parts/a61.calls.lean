/-! CALLS: clocks, crossings, searches, the told row cut down. -/
def aRk (P : Nat → Int32) (c : Nat) : Nat → Nat → Nat
  | _, 0 => 0
  | e, r + 1 => (if P (30 + e) < P (30 + c) ∨ (P (30 + e) = P (30 + c) ∧ e < c) then 1 else 0) + aRk P c (e + 1) r
def aCk (x : Int32) (P : Nat → Int32) (q : Nat) : Nat → Nat → Int32
  | _, 0 => -1
  | c, r + 1 => if nI (aRk P c 0 q) = x then 1000 * P (27 + c) + P (30 + c) else aCk x P q (c + 1) r
section CA
variable {S S2 : Nat → Int32} {ar ar2 : jSc} {sc car sc2 car2 : jSc} {mr : Nat → Nat} {al al2 : jAl} {S0 : Nat → Int32} {ar0 : jSc} {n p m s nr : Nat} {tx : Nat → Int32} {g : pG} {cs : List Nat}
theorem aRk_le {P : Nat → Int32} {c : Nat} : ∀ {r e : Nat}, aRk P c e r ≤ r ∧ (e ≤ c → c < e + r → aRk P c e r + 1 ≤ r) := by
  intro r
  induction r with
  | zero => intro e; exact ⟨Nat.le_refl 0, fun h1 h2 => by omega⟩
  | succ r ih =>
    intro e
    obtain ⟨i1, i2⟩ := ih (e := e + 1)
    have b : (if P (30 + e) < P (30 + c) ∨ (P (30 + e) = P (30 + c) ∧ e < c) then 1 else 0) ≤ 1 := by split <;> omega
    refine ⟨by show _ + _ ≤ _; omega, fun h1 h2 => ?_⟩
    show _ + aRk P c (e + 1) r + 1 ≤ r + 1
    by_cases z : e = c
    · subst z
      have : ¬ (P (30 + e) < P (30 + e) ∨ (P (30 + e) = P (30 + e) ∧ e < e)) := by
        rintro (q | q)
        · exact Int32.lt_irrefl q
        · exact absurd q.2 (Nat.lt_irrefl _)
      rw [if_neg this]
      omega
    · have := i2 (by omega) (by omega)
      omega
theorem r_rk {k20 : Int32 → Int32 → (Nat → Int32) → jSc → Option (Int32 × (Nat → Int32) × jSc)} {x : Int32} {q c : Nat} (hq : q ≤ 3) (hc : c < q) (h26 : ar 14 26 = nI q) : ∀ (r e t nn : Nat), e + r = q → r < nn → rF_66_36 k20 nn x (nI c) (nI t) (nI e) S ar = if nI (t + aRk (ar 14) c e r) = x then some (1000 * ar 14 (27 + c) + ar 14 (30 + c), S, ar) else k20 x (nI c + 1) S ar := by
  intro r
  induction r with
  | zero =>
    intro e t nn he hr
    obtain ⟨nn, rfl⟩ : ∃ j, nn = j + 1 := ⟨nn - 1, by omega⟩
    unfold rF_66_36
    rw [h26, if_pos (nI_le (by omega) (by omega)), show (27 : Int32) + nI c = nI (27 + c) from nI_add 27 c, show (30 : Int32) + nI c = nI (30 + c) from nI_add 30 c, if_pos (iB_nI (by omega) (by decide)), if_pos (iB_nI (by omega) (by decide)), iN_nI (by omega), iN_nI (by omega)]
    rfl
  | succ r ih =>
    intro e t nn he hr
    obtain ⟨nn, rfl⟩ : ∃ j, nn = j + 1 := ⟨nn - 1, by omega⟩
    have i0 := ih (e + 1) t nn (by omega) (by omega)
    have i1 := ih (e + 1) (t + 1) nn (by omega) (by omega)
    have eA : aRk (ar 14) c e (r + 1) = (if ar 14 (30 + e) < ar 14 (30 + c) ∨ (ar 14 (30 + e) = ar 14 (30 + c) ∧ e < c) then 1 else 0) + aRk (ar 14) c (e + 1) r := rfl
    unfold rF_66_36
    rw [h26, if_neg (nI_ge (by omega) (by omega)), show (30 : Int32) + nI e = nI (30 + e) from nI_add 30 e, show (30 : Int32) + nI c = nI (30 + c) from nI_add 30 c, if_pos (iB_nI (by omega) (by decide)), if_pos (iB_nI (by omega) (by decide)), iN_nI (by omega), iN_nI (by omega), nI_1, nI_1, show nI t + (0 : Int32) = nI t from nI_add t 0]
    by_cases h1 : ar 14 (30 + e) < ar 14 (30 + c)
    · rw [if_pos h1, i1, eA, if_pos (Or.inl h1), ← Nat.add_assoc]
    · rw [if_neg h1, if_pos (iB_nI (by omega) (by decide)), if_pos (iB_nI (by omega) (by decide))]
      by_cases h2 : ar 14 (30 + e) = ar 14 (30 + c)
      · rw [if_pos h2]
        by_cases h3 : c ≤ e
        · have hc2 : ¬ (ar 14 (30 + e) < ar 14 (30 + c) ∨ (ar 14 (30 + e) = ar 14 (30 + c) ∧ e < c)) := by
            rintro (w | w)
            · exact h1 w
            · exact absurd w.2 (by omega)
          rw [if_pos (nI_le h3 (by omega)), i0, eA, if_neg hc2, Nat.zero_add]
        · rw [if_neg (nI_ge (by omega) (by omega)), i1, eA, if_pos (Or.inr ⟨h2, by omega⟩), ← Nat.add_assoc]
      · have hc2 : ¬ (ar 14 (30 + e) < ar 14 (30 + c) ∨ (ar 14 (30 + e) = ar 14 (30 + c) ∧ e < c)) := by
          rintro (w | w)
          · exact h1 w
          · exact h2 w.1
        rw [if_neg h2, i0, eA, if_neg hc2, Nat.zero_add]
theorem r_ck {x : Int32} {q : Nat} (hq : q ≤ 3) (h26 : ar 14 26 = nI q) : ∀ (r c nn : Nat), c + r = q → r < nn → rF_66_20 nn x (nI c) S ar = some (aCk x (ar 14) q c r, S, ar) := by
  intro r
  induction r with
  | zero =>
    intro c nn he hr
    obtain ⟨nn, rfl⟩ : ∃ j, nn = j + 1 := ⟨nn - 1, by omega⟩
    unfold rF_66_20
    rw [h26, if_pos (nI_le (by omega) (by omega))]
    rfl
  | succ r ih =>
    intro c nn he hr
    obtain ⟨nn, rfl⟩ : ∃ j, nn = j + 1 := ⟨nn - 1, by omega⟩
    unfold rF_66_20
    rw [h26, if_neg (nI_ge (by omega) (by omega))]
    refine (r_rk (S := S) (x := x) hq (by omega) h26 q 0 0 oF (by omega) (by unfold oF; omega)).trans ?_
    rw [Nat.zero_add, nI_1, ih (c + 1) nn (by omega) (by omega)]
    show _ = some (if nI (aRk (ar 14) c 0 q) = x then 1000 * ar 14 (27 + c) + ar 14 (30 + c) else aCk x (ar 14) q (c + 1) r, S, ar)
    by_cases z : nI (aRk (ar 14) c 0 q) = x
    · rw [if_pos z, if_pos z]
    · rw [if_neg z, if_neg z]
theorem ck_h {P C : Nat → Int32} (h : pK P C) {k : Nat} (hk : k < 3) : C (32 + k) - C (32 + k) / (1000 : Int32) * (1000 : Int32) = P (30 + k) ∧ C (32 + k) = 1000 * P (27 + k) + P (30 + k) := by
  obtain ⟨d, e, h1, h2, h3, h4, h5⟩ := h k hk
  rw [h3, h4, h5]
  refine ⟨(pk_rem (a := d * 1000 + e) (d := 1000) (by omega) (by decide) (by decide)).trans ?_, ?_⟩
  · rw [show (d * 1000 + e) % 1000 = e by omega]
  · rw [show (1000 : Int32) * nI d = nI (1000 * d) from pk_mul 1000 d, nI_add, Nat.mul_comm]
theorem c_rk {k14 : Nat → Int32 → Int32 → Int32 → jSc → (Nat → Nat) → jSc → jAl → Option (Int32 × jSc × (Nat → Nat) × jSc × jAl)} {P : Nat → Int32} {x : Int32} {q c : Nat} (hK : pK P (car (760 + 1))) (hq : q ≤ 3) (hc : c < q) : ∀ (r e t nn : Nat), e + r = q → r < nn → xF_243_40 k14 nn 760 x (nI q) (nI c) (P (30 + c)) (nI t) (nI e) sc mr car al = if nI (t + aRk P c e r) = x then some (1000 * P (27 + c) + P (30 + c), sc, mr, car, al) else k14 760 x (nI q) (nI c + 1) sc mr car al := by
  intro r
  induction r with
  | zero =>
    intro e t nn he hr
    obtain ⟨nn, rfl⟩ : ∃ j, nn = j + 1 := ⟨nn - 1, by omega⟩
    unfold xF_243_40
    rw [if_pos (nI_le (by omega) (by omega)), show (32 : Int32) + nI c = nI (32 + c) from nI_add 32 c, if_pos (iB_nI (by omega) (by decide)), iN_nI (by omega), (ck_h hK (by omega)).2]
    rfl
  | succ r ih =>
    intro e t nn he hr
    obtain ⟨nn, rfl⟩ : ∃ j, nn = j + 1 := ⟨nn - 1, by omega⟩
    have i0 := ih (e + 1) t nn (by omega) (by omega)
    have i1 := ih (e + 1) (t + 1) nn (by omega) (by omega)
    have eA : aRk P c e (r + 1) = (if P (30 + e) < P (30 + c) ∨ (P (30 + e) = P (30 + c) ∧ e < c) then 1 else 0) + aRk P c (e + 1) r := rfl
    unfold xF_243_40
    rw [if_neg (nI_ge (by omega) (by omega)), show (32 : Int32) + nI e = nI (32 + e) from nI_add 32 e, if_pos (iB_nI (by omega) (by decide)), iN_nI (by omega), (ck_h hK (by omega)).1, nI_1, nI_1]
    by_cases h1 : P (30 + e) < P (30 + c)
    · rw [if_pos h1, i1, eA, if_pos (Or.inl h1), ← Nat.add_assoc]
    · rw [if_neg h1]
      by_cases h2 : P (30 + e) = P (30 + c)
      · rw [if_pos h2]
        by_cases h3 : c ≤ e
        · have hc2 : ¬ (P (30 + e) < P (30 + c) ∨ (P (30 + e) = P (30 + c) ∧ e < c)) := by
            rintro (w | w)
            · exact h1 w
            · exact absurd w.2 (by omega)
          rw [if_pos (nI_le h3 (by omega)), i0, eA, if_neg hc2, Nat.zero_add]
        · rw [if_neg (nI_ge (by omega) (by omega)), i1, eA, if_pos (Or.inr ⟨h2, by omega⟩), ← Nat.add_assoc]
      · have hc2 : ¬ (P (30 + e) < P (30 + c) ∨ (P (30 + e) = P (30 + c) ∧ e < c)) := by
          rintro (w | w)
          · exact h1 w
          · exact h2 w.1
        rw [if_neg h2, i0, eA, if_neg hc2, Nat.zero_add]
theorem c_ck {P : Nat → Int32} {x : Int32} {q : Nat} (hK : pK P (car (760 + 1))) (hq : q ≤ 3) : ∀ (r c nn : Nat), c + r = q → r < nn → xF_243_14 nn 760 x (nI q) (nI c) sc mr car al = some (aCk x P q c r, sc, mr, car, al) := by
  intro r
  induction r with
  | zero =>
    intro c nn he hr
    obtain ⟨nn, rfl⟩ : ∃ j, nn = j + 1 := ⟨nn - 1, by omega⟩
    unfold xF_243_14
    rw [if_pos (nI_le (by omega) (by omega))]
    rfl
  | succ r ih =>
    intro c nn he hr
    obtain ⟨nn, rfl⟩ : ∃ j, nn = j + 1 := ⟨nn - 1, by omega⟩
    unfold xF_243_14
    rw [if_neg (nI_ge (by omega) (by omega)), show (32 : Int32) + nI c = nI (32 + c) from nI_add 32 c, if_pos (iB_nI (by omega) (by decide)), iN_nI (by omega), (ck_h hK (by omega)).1]
    refine (c_rk (x := x) hK hq (by omega) q 0 0 oF (by omega) (by unfold oF; omega)).trans ?_
    rw [Nat.zero_add, nI_1, ih (c + 1) nn (by omega) (by omega)]
    show _ = some (if nI (aRk P c 0 q) = x then 1000 * P (27 + c) + P (30 + c) else aCk x P q (c + 1) r, sc, mr, car, al)
    by_cases z : nI (aRk P c 0 q) = x
    · rw [if_pos z, if_pos z]
    · rw [if_neg z, if_neg z]
theorem aCk_no {P : Nat → Int32} {x : Int32} {q : Nat} (hq : q ≤ 3) (hx : x < 0 ∨ ¬ x < nI q) : ∀ (r c : Nat), c + r = q → aCk x P q c r = -1 := by
  intro r
  induction r with
  | zero => intro c _; rfl
  | succ r ih =>
    intro c he
    have hl := (aRk_le (P := P) (c := c) (r := q) (e := 0)).2 (Nat.zero_le _) (by omega)
    show (if nI (aRk P c 0 q) = x then _ else aCk x P q (c + 1) r) = -1
    rw [if_neg, ih (c + 1) (by omega)]
    rintro rfl
    rcases hx with h | h
    · exact nI_pos (by omega) h
    · exact h (nI_lt (by omega) (by omega))
theorem q_clock {x : Int32} (h : GX S0 ar0 n tx g p m s nr cs S ar sc car mr al) : qA (rF_66 x S ar) (xF_323 x sc mr car al) := by
  have h' := GX_0 h 0
  have hp := GX_pg h
  obtain ⟨q, hq, eq⟩ := hp.2.2.1.2
  have c19 : car (760 + 1) 19 = nI q := (show car 761 19 = ar 14 26 from hp.1 19 (by omega)).trans eq
  have C : xF_323 x sc mr car al = (if x = (-1 : Int32) then some (nI q, sc, mr, car, al) else (if x < 0 then some ((-1 : Int32), sc, mr, car, al) else (if x < nI q then some (aCk x (ar 14) q 0 q, sc, mr, car, al) else some ((-1 : Int32), sc, mr, car, al)))) := by
    unfold xF_323 xF_233
    rw [c19, ob5]
    have e : xF_243 760 x sc mr car al = some (aCk x (ar 14) q 0 q, sc, mr, car, al) := by
      unfold xF_243
      rw [c19, if_neg (show ¬ (3 : Int32) < nI q from nI_nlt (a := 3) hq (by decide))]
      exact c_ck hp.2.1 hq q 0 oF (by omega) (by unfold oF; omega)
    rw [e, ob5]
  by_cases hx : x = -1
  · exact ⟨nI q, upd S 0 0, ar, sc, mr, car, al, by unfold rF_66; rw [if_pos hx, eq], q_b0, by rw [C, if_pos hx], GX_R h'⟩
  · have R : rF_66 x S ar = some (aCk x (ar 14) q 0 q, upd S 0 0, ar) := by
      unfold rF_66
      rw [if_neg hx]
      exact r_ck hq eq q 0 oF (by omega) (by unfold oF; omega)
    rw [if_neg hx] at C
    refine ⟨_, _, _, _, _, _, _, R, q_b0, ?_, GX_R h'⟩
    rw [C]
    by_cases h1 : x < 0
    · rw [if_pos h1, aCk_no hq (Or.inl h1) q 0 (by omega)]
    · rw [if_neg h1]
      by_cases h2 : x < nI q
      · rw [if_pos h2]
      · rw [if_neg h2, aCk_no hq (Or.inr h2) q 0 (by omega)]
theorem up_up {S : Nat → Int32} {k : Nat} {x y : Int32} : upd (upd S k x) k y = upd S k y := by
  funext j
  by_cases h : j = k
  · subst h; rw [up_0, up_0]
  · rw [up_n h, up_n h, up_n h]
theorem fR9_62 (e2 : ∀ b, ¬ (62 ≤ b ∧ b < 102) → ar2 b = ar b) : fR9 S ar S ar2 := ⟨fun _ _ => rfl, fun b h1 h2 h3 h4 h5 => e2 b (by omega)⟩
theorem q_crossings (h : GX S0 ar0 n tx g p m s nr cs S ar sc car mr al) : qA (rF_76 S ar) (xF_328 sc mr car al) := by
  have h' := GX_0 h 0
  obtain ⟨ar9, e1, e2⟩ := r_crossings (GX_K h') q_b0
  refine ⟨_, upd S 0 0, ar9, sc, mr, car, al, ?_, q_b0, c_crossings (GX_K h'), GX_R (GX_r h' (fR9_62 e2))⟩
  rw [← e1]
  unfold rF_76
  rw [up_up]
theorem q_crossing {x : Int32} (h : GX S0 ar0 n tx g p m s nr cs S ar sc car mr al) : qA (rF_77 x S ar) (xF_329 x sc mr car al) := by
  have h' := GX_0 h 0
  obtain ⟨ar9, e1, e2⟩ := r_crossing (GX_K h') q_b0 (x := x)
  refine ⟨_, upd S 0 0, ar9, sc, mr, car, al, ?_, q_b0, c_crossing (GX_K h'), GX_R (GX_r h' (fR9_62 e2))⟩
  rw [← e1]
  unfold rF_77
  rw [up_up]
theorem fR9_Q (r : vQ S ar S2 ar2) : fR9 S ar S2 ar2 := by
  obtain ⟨⟨r1, r57⟩, r2⟩ := r
  refine ⟨fun k hk => ?_, fun b h1 h2 h3 h4 h5 => r2 b h1 h4 (by omega)⟩
  by_cases h57 : k = 57
  · subst h57; exact r57
  · exact r1 k (by omega)
theorem vQ_0 (r : vQ S ar S2 ar2) : S2 0 = S 0 := r.1.1 0 (by omega)
theorem q_why {i j : Nat} (h : GX S0 ar0 n tx g p m s nr cs S ar sc car mr al) (hi : i < nr) (hj : j < nr) : qA (rF_78 (nI i) (nI j) S ar) (xF_330 (nI i) (nI j) sc mr car al) := by
  have h' := GX_0 h 0
  obtain ⟨ar9, e1, e2⟩ := r_why (GX_K h') hi hj
  exact ⟨_, upd S 0 0, ar9, sc, mr, car, al, e1, q_b0, c_why (GX_K h') h.2.1.2.1 hi hj, GX_R (GX_r h' (fR9_Q e2))⟩
/-- a pair of happenings of which one is none -/
def nPr (nr : Nat) (x y : Int32) : Prop := (x < 0 ∨ ¬ x < nI nr) ∨ (∃ i, i < nr ∧ x = nI i) ∧ (y < 0 ∨ ¬ y < nI nr)
theorem q_why_t {x y : Int32} (h : GX S0 ar0 n tx g p m s nr cs S ar sc car mr al) (hx : nPr nr x y) : qT 1 sc car mr al (rF_78 x y S ar) := by
  have h' := GX_0 h 0
  have hn := (GX_K h).1
  refine ⟨0, upd (upd S 0 0) 0 1, ar, ?_, q_b0, GX_R (GX_0 h' 1)⟩
  have f : rF_78_27 x y 1 (upd S 0 0) ar = some (0, upd (upd S 0 0) 0 1, ar) := by
    unfold rF_78_27
    rw [q_bad (by decide), ob3, if_neg (by decide)]
  unfold rF_78
  rcases hx with hx | ⟨⟨i, hi, rfl⟩, hy⟩
  · rw [q_69 hn (GX_K h').2.1 hx, ob3, if_pos rfl]; exact f
  · rw [r_69 hn (GX_K h').2.1 hi, ob3, if_neg (by decide), q_69 hn (GX_K h').2.1 hy, ob3, if_pos rfl]; exact f
theorem fC9_T (k : zT sc car sc2 car2) : fC9 sc car al sc2 car2 al := by
  obtain ⟨k1, k2, k3⟩ := k
  refine ⟨⟨fun a j h1 h2 h3 h4 => k1 a j h1 h2, fun b h1 h2 h3 h4 h5 h6 h7 => k2 b h1 h2 h3, fun j hj => by rw [k2 798 (by omega) (by omega) (by omega)], k3, rfl⟩, ?_, ?_, fun b hb => k2 b (by omega) (by omega) (by omega)⟩
  · funext j; exact k1 773 j (by omega) (by omega)
  · funext j; exact k1 774 j (by omega) (by omega)
theorem q_turn {i j : Nat} (h : GX S0 ar0 n tx g p m s nr cs S ar sc car mr al) (hi : i < nr) (hj : j < nr) : qA (rF_83 (nI i) (nI j) S ar) (xF_331 (nI i) (nI j) sc mr car al) := by
  have h' := GX_0 h 0
  obtain ⟨S9, ar9, e1, e2⟩ := r_trn (GX_E h) (GX_S h) (GX_A h) (GX_16 h) (GX_K h') hi hj
  obtain ⟨sc2, car2, e3, e4⟩ := c_trn (GX_E h) (GX_K h') hi hj
  exact ⟨_, S9, ar9, sc2, mr, car2, al, e1, (vQ_0 e2).trans q_b0, e3, GX_R (GX_f h' (fR9_Q e2) (fC9_T e4))⟩
theorem q_turn_t {x y : Int32} (h : GX S0 ar0 n tx g p m s nr cs S ar sc car mr al) (hx : nPr nr x y) : qT 1 sc car mr al (rF_83 x y S ar) := by
  have h' := GX_0 h 0
  have hn := (GX_K h).1
  refine ⟨0, upd (upd S 0 0) 0 1, ar, ?_, q_b0, GX_R (GX_0 h' 1)⟩
  have f : rF_83_27 x y 1 (upd S 0 0) ar = some (0, upd (upd S 0 0) 0 1, ar) := by
    unfold rF_83_27
    rw [q_bad (by decide), ob3, if_neg (by decide)]
  unfold rF_83
  rcases hx with hx | ⟨⟨i, hi, rfl⟩, hy⟩
  · rw [q_69 hn (GX_K h').2.1 hx, ob3, if_pos rfl]; exact f
  · rw [r_69 hn (GX_K h').2.1 hi, ob3, if_neg (by decide), q_69 hn (GX_K h').2.1 hy, ob3, if_pos rfl]; exact f
theorem q_sorts {kd : Nat} (h : GX S0 ar0 n tx g p m s nr cs S ar sc car mr al) (hk : kd < 5) : qA (rF_84 (nI kd) S ar) (xF_332 (nI kd) sc mr car al) := by
  have h' := GX_0 h 0
  obtain ⟨S9, ar9, e1, e2⟩ := r_sorts (GX_E h) (GX_S h) (GX_A h) (GX_16 h) (GX_K h') hk
  obtain ⟨sc2, car2, e3, e4, e5⟩ := c_sorts (GX_E h) (GX_K h') h.2.1.2.2 hk
  have h9 := GX_r h' (fR9_Q e2)
  have kp : kPc sc car sc2 car2 := kPc_lo (fun a k _ _ => e4.1 a k (by omega) (by omega)) (fun b _ _ => e4.2.1 b (by omega) (by omega) (by omega) (by omega)) e4.2.2
  have ks : kSr S9 ar9 S9 ar9 := ⟨⟨rfl, rfl, rfl⟩, fun _ _ => rfl⟩
  have kr : kRn (upd S 0 0) ar sc2 car2 al S9 ar9 sc2 car2 al := f_Rn (fR9_Q e2) (fC9_rf e4.2.2).1
  refine ⟨_, S9, ar9, sc2, mr, car2, al, e1, (vQ_0 e2).trans q_b0, e3, ?_⟩
  obtain ⟨h1, h2, h3, h4, h5, h6, h7, h8, h9⟩ := h9
  have e773 : sc2 773 = sc 773 := funext fun j => e4.1 773 j (by omega) (by omega)
  have e774 : sc2 774 = sc 774 := funext fun j => e4.1 774 j (by omega) (by omega)
  have cc : ∀ b, b ≠ 758 → b ≠ 767 → b ≠ 771 → b ≠ 772 → car2 b = car b := e4.2.1
  have cs1 : ∀ a k, a ≠ 757 → a ≠ 759 → sc2 a k = sc a k := fun a k z1 z2 => e4.1 a k (by omega) (by omega)
  exact GX_R ⟨gSt_k h1 kp ks, ⟨tK_Y h2.1 e4, h2.2.1, tY_k h2.1.1 e5 kr⟩, gTold_k h3 ⟨rfl, rfl, cs1 819 1 (by omega) (by omega), cc 820 (by omega) (by omega) (by omega) (by omega)⟩, cKy_k h4 ⟨e773, e774, fun b hb => cc b (by omega) (by omega) (by omega) (by omega)⟩, gWi_k h5 ⟨rfl, fun _ _ _ => rfl, cs1 796 1 (by omega) (by omega), cs1 796 4 (by omega) (by omega), cs1 796 5 (by omega) (by omega), by rw [cc 798 (by omega) (by omega) (by omega) (by omega)], by rw [cc 798 (by omega) (by omega) (by omega) (by omega)], cc 800 (by omega) (by omega) (by omega) (by omega), cc 802 (by omega) (by omega) (by omega) (by omega)⟩, cSt_k h6 (cs1 734 13 (by omega) (by omega)) (cs1 734 14 (by omega) (by omega)), gPr_k h7 h1.1.1.2.1.1 kp ks, gOld_k h8 kp ks, gTp_k h9 ⟨rfl, rfl, rfl, cs1 734 11 (by omega) (by omega), cs1 734 12 (by omega) (by omega), cc 735 (by omega) (by omega) (by omega) (by omega)⟩⟩
theorem q_sorts_t {x : Int32} (h : GR S ar sc car mr al) (hx : x < 0 ∨ ¬ x < nI 5) : qT 1 sc car mr al (rF_84 x S ar) := by
  refine ⟨0, upd (upd S 0 0) 0 1, ar, ?_, q_b0, GR_0 (GR_0 h 0) 1⟩
  unfold rF_84
  rw [q_out (hi := 4) (q_gt (N := 4) (by decide) hx), ob3, if_pos rfl, q_bad (by decide), ob3, if_neg (by decide)]
/-! searches -/
theorem fR9_X (r : vZ S ar S2 ar2) : fR9 S ar S2 ar2 := ⟨fun k hk => r.1 k (by omega) (by omega), fun b h1 h2 h3 h4 h5 => r.2 b h1 (by omega) (by omega)⟩
theorem vZ_0 (r : vZ S ar S2 ar2) : S2 0 = S 0 := r.1 0 (by omega) (by omega)
theorem fC0_Y (k : uY sc car sc2 car2) : fC0 sc car al sc2 car2 al := by
  obtain ⟨k1, k2, k3⟩ := k
  exact ⟨fun a j h1 h2 h3 h4 => k1 a j h1 (by omega) (by omega), fun b h1 h2 h3 h4 h5 h6 h7 => k2 b h1 (by omega), fun j hj => by rw [k2 798 (by omega) (by omega)], k3, rfl⟩
/-- how many, how many pages: out of range -/
def nRw (x y : Int32) : Prop := (x < 0 ∨ ¬ x < nI 9) ∨ (∃ i, i < 9 ∧ x = nI i) ∧ (y < 1 ∨ 600 < y)
theorem q_most (y : Int32) : (∃ i, 1 ≤ i ∧ i ≤ 600 ∧ y = nI i) ∨ (y < 1 ∨ 600 < y) := by
  rcases q_dec 601 (by decide) y with ⟨i, hi, rfl⟩ | h
  · by_cases z : i = 0
    · subst z; exact Or.inr (Or.inl (by decide))
    · exact Or.inl ⟨i, by omega, by omega, rfl⟩
  · refine Or.inr ?_
    rcases q_gt (N := 600) (by decide) h with h | h
    · refine Or.inl ?_
      rw [Int32.lt_iff_toInt_lt] at h ⊢
      have e0 : (0 : Int32).toInt = 0 := rfl
      have e1 : (1 : Int32).toInt = 1 := rfl
      omega
    · exact Or.inr h
theorem q_rows (x y : Int32) : (∃ i j, i ≤ 8 ∧ 1 ≤ j ∧ j ≤ 600 ∧ x = nI i ∧ y = nI j) ∨ nRw x y := by
  rcases q_dec 9 (by decide) x with ⟨i, hi, rfl⟩ | h
  · rcases q_most y with ⟨j, h1, h2, rfl⟩ | h
    · exact Or.inl ⟨i, j, by omega, h1, h2, rfl, rfl⟩
    · exact Or.inr (Or.inr ⟨⟨i, hi, rfl⟩, h⟩)
  · exact Or.inr (Or.inl h)
theorem q_88 {x y : Int32} (h : nRw x y) : rF_88 x y S ar = some (0, S, ar) := by
  unfold rF_88
  rcases h with h | ⟨⟨i, hi, rfl⟩, h⟩
  · rw [q_out (hi := 8) (q_gt (N := 8) (by decide) h), ob3, if_pos rfl]
  · rw [show rF_4 (nI i) 0 8 S ar = some (1, S, ar) from q_inn (N := 8) (by omega) (by decide), ob3, if_neg (by decide), q_out h, ob3, if_pos rfl]
theorem q_worst {nn0 most : Nat} (h : GX S0 ar0 n tx g p m s nr cs S ar sc car mr al) (hn : nn0 ≤ 8) (h1 : 1 ≤ most) (h6 : most ≤ 600) : qA (rF_89 (nI nn0) (nI most) S ar) (xF_333 (nI nn0) (nI most) sc mr car al) := by
  have h' := GX_0 h 0
  obtain ⟨S9, ar9, e1, e2⟩ := r_worst (GX_E h) (GX_16 h) h1 h6 hn (GX_S h) (GX_A h)
  obtain ⟨sc2, car2, e3, e4, e5⟩ := c_worst (al := al) (GX_E h) h.2.2.2.1 h1 h6 hn
  exact ⟨_, S9, ar9, sc2, mr, car2, al, e1, (vZ_0 (vZ_X e2)).trans q_b0, e3, GX_R (GX_ky h' (fR9_X (vZ_X e2)) (fC0_Y e5) e4)⟩
theorem q_step {nn0 most : Nat} {k : Int32} (h : GX S0 ar0 n tx g p m s nr cs S ar sc car mr al) (hn : nn0 ≤ 8) (h1 : 1 ≤ most) (h6 : most ≤ 600) : qA (rF_90 (nI nn0) (nI most) k S ar) (xF_334 (nI nn0) (nI most) k sc mr car al) := by
  have h' := GX_0 h 0
  obtain ⟨S9, ar9, e1, e2⟩ := r_stp (k := k) (GX_E h) (GX_16 h) h1 h6 hn (GX_S h) (GX_A h)
  obtain ⟨sc2, car2, e3, e4, e5⟩ := c_stp (al := al) (k := k) (GX_E h) h.2.2.2.1 h1 h6 hn
  exact ⟨_, S9, ar9, sc2, mr, car2, al, e1, (vZ_0 (vZ_X e2)).trans q_b0, e3, GX_R (GX_ky h' (fR9_X (vZ_X e2)) (fC0_Y e5) e4)⟩
theorem q_pages {nn0 most : Nat} (h : GX S0 ar0 n tx g p m s nr cs S ar sc car mr al) (hn : nn0 ≤ 8) (h1 : 1 ≤ most) (h6 : most ≤ 600) : qA (rF_91 (nI nn0) (nI most) S ar) (xF_335 (nI nn0) (nI most) sc mr car al) := by
  have h' := GX_0 h 0
  obtain ⟨S9, ar9, e1, e2⟩ := r_pgs (GX_E h) (GX_16 h) h1 h6 hn (GX_S h) (GX_A h)
  obtain ⟨sc2, car2, e3, e4, e5⟩ := c_pgs (al := al) (GX_E h) h.2.2.2.1 h1 h6 hn
  exact ⟨_, S9, ar9, sc2, mr, car2, al, e1, (vZ_0 (vZ_X e2)).trans q_b0, e3, GX_R (GX_ky h' (fR9_X (vZ_X e2)) (fC0_Y e5) e4)⟩
theorem q_stuck {nn0 k most : Nat} (h : GX S0 ar0 n tx g p m s nr cs S ar sc car mr al) (hn : nn0 ≤ 8) (hk : k ≤ 3) (h1 : 1 ≤ most) (h6 : most ≤ 600) : qA (rF_94 (nI nn0) (nI k) (nI most) S ar) (xF_336 (nI nn0) (nI k) (nI most) sc mr car al) := by
  have h' := GX_0 h 0
  obtain ⟨S9, ar9, e1, e2⟩ := r_stuck hk (GX_E h) (GX_16 h) h1 h6 hn (GX_S h) (GX_A h)
  obtain ⟨sc2, car2, e3, e4, e5⟩ := c_stuck (al := al) hk (GX_E h) h.2.2.2.1 h1 h6 hn
  exact ⟨_, S9, ar9, sc2, mr, car2, al, e1, (vZ_0 e2).trans q_b0, e3, GX_R (GX_ky h' (fR9_X e2) (fC0_Y e5) e4)⟩
theorem q_worst_t {x y : Int32} (h : GR S ar sc car mr al) (hx : nRw x y) : qT 1 sc car mr al (rF_89 x y S ar) := by
  refine ⟨0, upd (upd S 0 0) 0 1, ar, ?_, q_b0, GR_0 (GR_0 h 0) 1⟩
  unfold rF_89
  rw [q_88 hx, ob3, if_pos rfl]
  unfold rF_89_20
  rw [q_bad (by decide), ob3, if_neg (by decide)]
theorem q_step_t {x y z : Int32} (h : GR S ar sc car mr al) (hx : nRw x y) : qT 1 sc car mr al (rF_90 x y z S ar) := by
  refine ⟨0, upd (upd S 0 0) 0 1, ar, ?_, q_b0, GR_0 (GR_0 h 0) 1⟩
  unfold rF_90
  rw [q_88 hx, ob3, if_pos rfl]
  unfold rF_90_20
  rw [q_bad (by decide), ob3, if_neg (by decide)]
theorem q_pages_t {x y : Int32} (h : GR S ar sc car mr al) (hx : nRw x y) : qT 1 sc car mr al (rF_91 x y S ar) := by
  refine ⟨0, upd (upd S 0 0) 0 1, ar, ?_, q_b0, GR_0 (GR_0 h 0) 1⟩
  unfold rF_91
  rw [q_88 hx, ob3, if_pos rfl]
  unfold rF_91_20
  rw [q_bad (by decide), ob3, if_neg (by decide)]
theorem q_stuck_t {x y z : Int32} (h : GR S ar sc car mr al) (hx : nRw x z ∨ (∃ i j, i ≤ 8 ∧ 1 ≤ j ∧ j ≤ 600 ∧ x = nI i ∧ z = nI j) ∧ (y < 0 ∨ ¬ y < nI 4)) : qT 1 sc car mr al (rF_94 x y z S ar) := by
  refine ⟨0, upd (upd S 0 0) 0 1, ar, ?_, q_b0, GR_0 (GR_0 h 0) 1⟩
  have f : rF_94_29 x y z 1 (upd S 0 0) ar = some (0, upd (upd S 0 0) 0 1, ar) := by
    unfold rF_94_29
    rw [q_bad (by decide), ob3, if_neg (by decide)]
  unfold rF_94
  rcases hx with hx | ⟨⟨i, j, h1, h2, h3, rfl, rfl⟩, hy⟩
  · rw [q_88 hx, ob3, if_pos rfl]; exact f
  · rw [r_88 h2 h3 h1, ob3, if_neg (by decide), q_out (hi := 3) (q_gt (N := 3) (by decide) hy), ob3, if_pos rfl]; exact f
theorem q_record (h : GX S0 ar0 n tx g p m s nr cs S ar sc car mr al) : qA (rF_97 S ar) (xF_339 sc mr car al) := by
  have h' := GX_0 h 0
  obtain ⟨S9, ar9, e1, e2⟩ := r_rec (GX_E h) (GX_16 h) h.2.2.1.1 (GX_S h) (GX_A h)
  obtain ⟨sc2, car2, e3, e4⟩ := c_rec (al := al) (GX_E h) h.2.2.1.2
  refine ⟨_, S9, ar9, sc2, mr, car2, al, e1, ?_, by unfold xF_339; rw [e3, ob5], GX_R (GX_f h' (fR9_H e2) (fC9_H (Or.inl rfl) e4))⟩
  rw [show S9 0 = upd S 0 0 0 from e2.1.1 0 (by omega)]; exact q_b0
theorem q_cut (h : GX S0 ar0 n tx g p m s nr cs S ar sc car mr al) : qA (rF_99 S ar) (xF_340 sc mr car al) := by
  have h' := GX_0 h 0
  obtain ⟨S9, ar9, e1, e2, e3⟩ := r_cut (GX_E h) (GX_16 h) h.2.2.1.1 (GX_S h) (GX_A h)
  obtain ⟨sc2, car2, e4, e5, e6⟩ := c_cut (al := al) (GX_E h) h.2.2.1.2
  obtain ⟨v1, v2⟩ := vT_k.mp e3
  obtain ⟨w1, w2, w3⟩ := wT_k.mp e6
  refine ⟨_, S9, ar9, sc2, mr, car2, al, e1, (v1 0 (by omega) (by omega)).trans q_b0, by unfold xF_340; rw [e4, ob5], GX_R (GX_told h' ⟨e2, e5⟩ (fun k hk => v1 k (by omega) (by omega)) (fun b h1 h2 h3 h4 h5 h6 => v2 b h1 h4) (fun a k h1 h2 h3 => w1 a k h1 h3) (fun b h1 h2 h3 h4 h5 => w2 b h1 h5 h4) w3)⟩
/-! count -/
theorem r_119 {x : Int32} {x3 : Int32} : ∀ (r e nn : Nat), e + r = 17 → r < nn → rF_119_12 nn x (nI (hCn (ar 6) e)) x3 (nI e) S ar = rF_119_49 oF x (nI (hCn (ar 6) 17)) x3 0 S ar := by
  intro r
  induction r with
  | zero =>
    intro e nn he hr
    obtain ⟨nn, rfl⟩ : ∃ j, nn = j + 1 := ⟨nn - 1, by omega⟩
    obtain rfl : e = 17 := by omega
    unfold rF_119_12
    rw [if_pos (by decide)]
  | succ r ih =>
    intro e nn he hr
    obtain ⟨nn, rfl⟩ : ∃ j, nn = j + 1 := ⟨nn - 1, by omega⟩
    have i0 := ih (e + 1) nn (by omega) (by omega)
    unfold rF_119_12
    rw [if_neg (show ¬ (17 : Int32) ≤ nI e from nI_ge (b := 17) (by omega) (by decide)), if_pos (iB_nI (by omega) (by decide)), iN_nI (by omega), nI_1, nI_1, show nI (hCn (ar 6) e) + (0 : Int32) = nI (hCn (ar 6) e) from nI_add _ 0]
    have eh : hCn (ar 6) (e + 1) = hCn (ar 6) e + (if ar 6 e = -1 then 0 else 1) := rfl
    by_cases z : ar 6 e = -1
    · rw [if_pos z]
      rw [eh, if_pos z] at i0
      exact i0
    · rw [if_neg z]
      rw [eh, if_neg z] at i0
      exact i0
theorem r_49l {x x2 x3 : Int32} {nn l : Nat} (hl : l < 4) : rF_119_49 (nn + 1) x x2 x3 (nI l) S ar = rF_119_49 nn x x2 (x3 + ar 14 (10 + l)) (nI (l + 1)) S ar := by
  conv => lhs; unfold rF_119_49
  rw [if_neg (show ¬ (4 : Int32) ≤ nI l from nI_ge (b := 4) (by omega) (by decide)), show (10 : Int32) + nI l = nI (10 + l) from nI_add 10 l, if_pos (iB_nI (by omega) (by decide)), iN_nI (by omega), nI_1]
theorem q_count {x : Int32} (h : GX S0 ar0 n tx g p m s nr cs S ar sc car mr al) : qA (rF_119 x S ar) (xF_350 x sc mr car al) := by
  have h' := GX_0 h 0
  have hp := GX_pg h
  obtain ⟨g1, g2, g3⟩ := h.2.2.2.2.2.2.1
  have e0 : mr 0 = p := h.2.2.2.2.2.2.2.1.2.2.2.2.2.2.1.symm.trans h.1.1.1.2.2.2.1
  have xp : x_pr p = true := h.1.1.1.2.1.1
  have h38 : S 38 = nI m := (GX_S h).2.1.trans h.1.1.1.2.2.2.2.2.1
  have c5 : sc 736 5 = nI m := h.1.2.2.2.2.1.2.1
  obtain ⟨tp, t1, t2, t3, t4, t5⟩ := h.2.2.2.2.2.2.2.2
  obtain ⟨⟨u1, -⟩, u2, -⟩ := h.2.2.1
  have k31 := (GX_K h).2.1
  have k5 := (GX_K h).2.2.1
  have a15 : car (760 + 1) 15 = ar 14 10 := hp.1 15 (by omega)
  have a16 : car (760 + 1) 16 = ar 14 11 := hp.1 16 (by omega)
  have a17 : car (760 + 1) 17 = ar 14 12 := hp.1 17 (by omega)
  have a18 : car (760 + 1) 18 = ar 14 13 := hp.1 18 (by omega)
  have a19 : car (760 + 1) 19 = ar 14 26 := hp.1 19 (by omega)
  have R : rF_119 x S ar = (if x = (0 : Int32) then some ((ar 9 0), upd S 0 0, ar) else (if x = (1 : Int32) then some (nI (hCn (ar 6) 17), upd S 0 0, ar) else (if x = (2 : Int32) then some (nI nr, upd S 0 0, ar) else (if x = (3 : Int32) then some (0 + ar 14 10 + ar 14 11 + ar 14 12 + ar 14 13, upd S 0 0, ar) else (if x = (4 : Int32) then some ((ar 14 26), upd S 0 0, ar) else (if x = (5 : Int32) then some (nI m, upd S 0 0, ar) else (if x = (6 : Int32) then some (nI cs.length, upd S 0 0, ar) else (if x = (7 : Int32) then some (nI tp, upd S 0 0, ar) else some ((-1 : Int32), upd S 0 0, ar))))))))) := by
    unfold rF_119
    refine (r_119 (S := upd S 0 0) (x := x) (x3 := 0) 17 0 oF (by omega) (by unfold oF; omega)).trans ?_
    rw [show oF = 9995 + 1 + 1 + 1 + 1 + 1 from rfl, show (0 : Int32) = nI 0 from rfl]
    refine (r_49l (by decide)).trans ?_
    refine (r_49l (by decide)).trans ?_
    refine (r_49l (by decide)).trans ?_
    refine (r_49l (by decide)).trans ?_
    unfold rF_119_49
    rw [if_pos (by decide), show upd S 0 (nI 0) 31 = nI nr from (up_n (by decide)).trans k31, show upd S 0 (nI 0) 38 = nI m from (up_n (by decide)).trans h38, show upd S 0 (nI 0) 51 = nI cs.length from (up_n (by decide)).trans u1, show upd S 0 (nI 0) 1 = nI tp from (up_n (by decide)).trans t2]
    rfl
  have C : xF_350 x sc mr car al = (if x = (0 : Int32) then some ((ar 9 0), sc, mr, car, al) else (if x = (1 : Int32) then some (nI (hCn (ar 6) 17), sc, mr, car, al) else (if x = (2 : Int32) then some (nI nr, sc, mr, car, al) else (if x = (3 : Int32) then some (ar 14 10 + ar 14 11 + ar 14 12 + ar 14 13, sc, mr, car, al) else (if x = (4 : Int32) then some ((ar 14 26), sc, mr, car, al) else (if x = (5 : Int32) then some (nI m, sc, mr, car, al) else (if x = (6 : Int32) then some (nI cs.length, sc, mr, car, al) else (if x = (7 : Int32) then some (nI tp, sc, mr, car, al) else some ((-1 : Int32), sc, mr, car, al))))))))) := by
    unfold xF_350 xF_231 xF_233
    rw [ob5, ob5, a15, a16, a17, a18, a19, e0, if_pos xp, if_pos xp, g2, g3, k5, c5, u2, t3]
  rw [show (0 : Int32) + ar 14 10 = ar 14 10 from Int32.zero_add _] at R
  rw [R, C]
  have K : ∀ v, qA (some (v, upd S 0 0, ar)) (some (v, sc, mr, car, al)) := fun v => ⟨v, upd S 0 0, ar, sc, mr, car, al, rfl, q_b0, rfl, GX_R h'⟩
  by_cases z0 : x = 0
  · rw [if_pos z0, if_pos z0]; exact K _
  rw [if_neg z0, if_neg z0]
  by_cases z1 : x = 1
  · rw [if_pos z1, if_pos z1]; exact K _
  rw [if_neg z1, if_neg z1]
  by_cases z2 : x = 2
  · rw [if_pos z2, if_pos z2]; exact K _
  rw [if_neg z2, if_neg z2]
  by_cases z3 : x = 3
  · rw [if_pos z3, if_pos z3]; exact K _
  rw [if_neg z3, if_neg z3]
  by_cases z4 : x = 4
  · rw [if_pos z4, if_pos z4]; exact K _
  rw [if_neg z4, if_neg z4]
  by_cases z5 : x = 5
  · rw [if_pos z5, if_pos z5]; exact K _
  rw [if_neg z5, if_neg z5]
  by_cases z6 : x = 6
  · rw [if_pos z6, if_pos z6]; exact K _
  rw [if_neg z6, if_neg z6]
  by_cases z7 : x = 7
  · rw [if_pos z7, if_pos z7]; exact K _
  rw [if_neg z7, if_neg z7]
  exact K _
end CA
