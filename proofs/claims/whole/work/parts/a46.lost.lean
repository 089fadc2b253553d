/-! lost(n) on both sides. -/
def aFr2 (f : Nat → Bool) : Nat → Nat → Int32
  | _, 0 => -1
  | d, r + 1 => if f d = true then nI d else aFr2 f (d + 1) r
theorem aFr2_n {f : Nat → Bool} : ∀ {r d : Nat}, (∀ k, d ≤ k → k < d + r → f k = false) → aFr2 f d r = -1
  | 0, _, _ => rfl
  | r + 1, d, h => by
    unfold aFr2
    rw [h d (by omega) (by omega), if_neg (by decide), aFr2_n (fun k a b => h k (by omega) (by omega))]
theorem aFr2_y {f : Nat → Bool} {q : Nat} : ∀ {r d : Nat}, d ≤ q → q < d + r → f q = true → (∀ k, d ≤ k → k < q → f k = false) → aFr2 f d r = nI q
  | 0, _, _, _, _, _ => by omega
  | r + 1, d, h1, h2, h3, h4 => by
    unfold aFr2
    by_cases z : d = q
    · subst z; rw [if_pos h3]
    · rw [h4 d (by omega) (by omega), if_neg (by decide), aFr2_y (by omega) (by omega) h3 (fun k a b => h4 k (by omega) b)]
/-- is a word lost within d happenings from the beginning? -/
def aLd (S0 : Nat → Int32) (ar0 : jSc) (m d : Nat) : Bool := decide (0 < (wB0 S0 ar0).2) || wLs S0 ar0 m d (wB0 S0 ar0).1
section LO
variable {S0 : Nat → Int32} {ar0 : jSc} {S : Nat → Int32} {ar : jSc} {sc car : jSc} {mr : Nat → Nat} {al : jAl} {pr nn0 p m n : Nat} {tx : Nat → Int32} {g : pG} {st : wSt}
/-- what lost leaves -/
def vL (S : Nat → Int32) (ar : jSc) (S9 : Nat → Int32) (ar9 : jSc) : Prop := (∀ k, (k < 3 ∨ (8 ≤ k ∧ k ≤ 16) ∨ (18 ≤ k ∧ k ≤ 21) ∨ 29 ≤ k) → S9 k = S k) ∧ ∀ b, b ≠ 13 → ¬ (714 ≤ b ∧ b ≤ 719) → ¬ (721 ≤ b ∧ b ≤ 728) → ar9 b = ar b
theorem r_lost (hE : cE pr nn0 tx g p m S0 ar0 sc car mr) (h16 : S0 16 = 0) (hS : stS S0 S) (hA : stA ar0 ar) (h : rWs st ar) (hn : n ≤ 3) : ∃ S9 ar9, rF_117 (nI n) S ar = some (aFr2 (aLd S0 ar0 m) 0 (n + 1), S9, ar9) ∧ rWs st ar9 ∧ vL (upd S 0 0) ar S9 ar9 := by
  have r4 : rF_4 (nI n) 0 3 (upd S 0 0) ar = some (1, upd S 0 0, ar) := by
    unfold rF_4
    rw [if_neg (nI_pos (by omega)), if_neg (show ¬ (3 : Int32) < nI n from nI_nlt (a := 3) (by omega) (by decide))]
  unfold rF_117
  rw [r4, ob3, if_neg (show ¬ (1 : Int32) = 0 by decide)]
  unfold rF_117_20
  rw [r_ok, ob3, if_pos rfl]
  obtain ⟨ar1, a1, a2, a3⟩ := r_114 (S := upd S 0 0) (ar := ar) (e := 7) (by decide)
  have a1 : rF_114 7 (upd S 0 0) ar = some (upd S 0 0, ar1) := a1
  rw [a1, ob2]
  have hS1 := stS_0 hS
  have hA1 : stA ar0 ar1 := stA_tr hA (fun b hb => a3 b (by omega))
  have K7 : kH (S 57) (ar1 728) st := ⟨upd S 0 0, ar, h, up_n (by decide), a2⟩
  obtain ⟨S2, ar2, b1, b2, b3, b4⟩ := r_win hE h16 hS1 hA1
  obtain ⟨-, -, -, -, -, -, -, -, -, -, -, j, j12, ej⟩ := w_win (al := fun _ _ => 0) (b := 0) hE h16 hS1 hA1 (by omega)
  rw [b1, ob2]
  obtain ⟨ar3, c1, c2, c3⟩ := r_114 (S := S2) (ar := ar2) (e := 0) (by decide)
  have c1 : rF_114 0 S2 ar2 = some (S2, ar3) := c1
  rw [c1, ob2, ob2]
  have K0 : ar3 728 = ar1 728 := by rw [c3 728 (by omega), b4.2 728 (by omega) (by omega)]
  -- the frame up to here
  have V3 : (∀ k, (k < 3 ∨ (8 ≤ k ∧ k ≤ 16) ∨ (18 ≤ k ∧ k ≤ 21) ∨ 29 ≤ k) → k ≠ 57 → S2 k = upd S 0 0 k) ∧ ∀ b, b ≠ 13 → ¬ (714 ≤ b ∧ b ≤ 719) → ¬ (721 ≤ b ∧ b ≤ 728) → ar3 b = ar b := ⟨b4.1, fun b u1 u2 u3 => by rw [c3 b (by omega), b4.2 b u1 u2, a3 b (by omega)]⟩
  -- back
  have back : ∀ (x : Int32) (S4 : Nat → Int32) (ar4 : jSc), lFr 0 S2 ar3 S4 ar4 → ∃ S9 ar9, o_b2 (rF_115 7 S4 ar4) (fun Se2 are2 => some (x, Se2, are2)) = some (x, S9, ar9) ∧ rWs st ar9 ∧ vL (upd S 0 0) ar S9 ar9 := by
    intro x S4 ar4 hF
    obtain ⟨ar9, l1, l2, l3⟩ := kH_load (S := S4) (ar := ar4) (e := 7) (by decide) (show kH (S 57) (ar4 728) st by rw [hF.2 728 (by omega) (by omega) (by omega), K0]; exact K7)
    have l1 : rF_115 7 S4 ar4 = some (upd S4 57 (S 57), ar9) := l1
    rw [l1, ob2]
    refine ⟨_, _, rfl, l2, fun k hk => ?_, fun b u1 u2 u3 => ?_⟩
    · by_cases z : k = 57
      · subst z; rw [up_0, up_n (by decide)]
      · rw [up_n z, hF.1 k hk z, V3.1 k hk z]
    · rw [l3 b (by omega) (by omega) (by omega) (by omega) (by omega), hF.2 b u1 u2 (by omega), V3.2 b u1 u2 u3]
  by_cases j0 : j = 0
  · subst j0
    have S57 : S2 57 = 0 := by rw [b2, ej]; rfl
    have nl : ¬ 0 < (wB0 S0 ar0).2 := by rw [ej]; decide
    have ld : ∀ d, aLd S0 ar0 m d = wLs S0 ar0 m d (wB0 S0 ar0).1 := fun d => by unfold aLd; rw [decide_eq_false nl, Bool.false_or]
    rw [S57, if_pos (show (0 : Int32) ≤ 0 by decide)]
    have KB : kH 0 (ar3 (721 + 0)) (wB0 S0 ar0).1 := ⟨S2, ar2, b3, S57, c2⟩
    have go : ∀ (r d nn : Nat) (S4 : Nat → Int32) (ar4 : jSc), d + r = n + 1 → 1 ≤ d → r + 1 < nn → lFr 0 S2 ar3 S4 ar4 → (∀ k, k < d → aLd S0 ar0 m k = false) → ∃ S9 ar9, rF_117_59 nn (nI n) (-1) (nI d) S4 ar4 = some (aFr2 (aLd S0 ar0 m) 0 (n + 1), S9, ar9) ∧ rWs st ar9 ∧ vL (upd S 0 0) ar S9 ar9 := by
      intro r
      induction r with
      | zero =>
        intro d nn S4 ar4 h1 h2 h3 h4 h5
        obtain ⟨nn, rfl⟩ : ∃ j, nn = j + 1 := ⟨nn - 1, by omega⟩
        rw [rF_117_59]
        rw [if_pos (nI_lt (by omega) (by omega)), aFr2_n (fun k _ hk => h5 k (by omega))]
        exact back (-1) S4 ar4 h4
      | succ r ih =>
        intro d nn S4 ar4 h1 h2 h3 h4 h5
        obtain ⟨nn, rfl⟩ : ∃ j, nn = j + 1 := ⟨nn - 1, by omega⟩
        have nlt : ¬ nI n < nI d := nI_nlt (by omega) (by omega)
        rw [rF_117_59]
        rw [if_neg nlt, if_pos rfl]
        obtain ⟨v, S5, ar5, t1, t2, t3⟩ := r_lose hE h16 d 40 0 S4 ar4 (wB0 S0 ar0).1 h2 (by omega) (by omega) (lFr_S h4 (stS_tr hS1 ⟨V3.1 16 (by omega) (by omega), V3.1 38 (by omega) (by omega), V3.1 29 (by omega) (by omega)⟩)) (lFr_A h4 (stA_tr hA (fun b hb => V3.2 b (by omega) (by omega) (by omega)))) (by rw [h4.2 (721 + 0) (by omega) (by omega) (by omega)]; exact KB)
        rw [show nI 0 = (0 : Int32) from rfl] at t1
        rw [t1, ob3, nI_1]
        have G := lFr_tr h4 t3
        rcases t2 with ⟨x, y⟩ | ⟨x, y⟩
        · rw [y, if_neg (show ¬ (1 : Int32) = 0 by decide)]
          obtain ⟨nn, rfl⟩ : ∃ j, nn = j + 1 := ⟨nn - 1, by omega⟩
          have ea : aFr2 (aLd S0 ar0 m) 0 (n + 1) = nI d := aFr2_y (by omega) (by omega) ((ld d).trans x) (fun k _ hk => h5 k hk)
          rw [ea, rF_117_59]
          by_cases z : nI n < nI (d + 1)
          · rw [if_pos z]; exact back _ S5 ar5 G
          · rw [if_neg z, if_neg (show ¬ nI d = (-1 : Int32) from nI_nm (by omega))]
            exact back _ S5 ar5 G
        · rw [y, if_pos rfl]
          refine ih (d + 1) nn S5 ar5 (by omega) (by omega) (by omega) G (fun k hk => ?_)
          by_cases z : k = d
          · subst z; rw [ld k]; simpa using x
          · exact h5 k (by omega)
    have := go n 1 oF S2 ar3 (by omega) (by omega) (by unfold oF; omega) ⟨fun _ _ _ => rfl, fun _ _ _ _ => rfl⟩ (fun k hk => by
      have : k = 0 := by omega
      subst this
      rw [ld 0]; rfl)
    exact this
  · have S57 : S2 57 = nI j := by rw [b2, ej]
    have lo : 0 < (wB0 S0 ar0).2 := by rw [ej]; exact nI_lt (a := 0) (by omega) (by omega)
    rw [S57, if_neg (show ¬ nI j ≤ (0 : Int32) from nI_ge (b := j) (a := 0) (by omega) (by omega))]
    have ea : aFr2 (aLd S0 ar0 m) 0 (n + 1) = 0 := by
      show (if aLd S0 ar0 m 0 = true then nI 0 else _) = 0
      rw [if_pos (by unfold aLd; rw [decide_eq_true lo, Bool.true_or])]
      rfl
    rw [ea]
    show ∃ S9 ar9, rF_117_59 (9999 + 1) (nI n) 0 1 S2 ar3 = _ ∧ _
    rw [rF_117_59]
    by_cases z : nI n < (1 : Int32)
    · rw [if_pos z]; exact back 0 S2 ar3 ⟨fun _ _ _ => rfl, fun _ _ _ _ => rfl⟩
    · rw [if_neg z, if_neg (show ¬ (0 : Int32) = -1 by decide)]
      exact back 0 S2 ar3 ⟨fun _ _ _ => rfl, fun _ _ _ _ => rfl⟩
/-- what is kept of lost in ClickOrders -/
def cFw (S0 : Nat → Int32) (ar0 : jSc) (m : Nat) (sc : jSc) : Prop := ∃ t, t ≤ 4 ∧ sc 796 5 = nI t - 1 ∧ ((sc 796 4 = -1 ∧ ∀ d, d < t → aLd S0 ar0 m d = false) ∨ ∃ f, f < t ∧ sc 796 4 = nI f ∧ aLd S0 ar0 m f = true ∧ ∀ d, d < f → aLd S0 ar0 m d = false)
def cYf (sc car sc2 car2 : jSc) : Prop := (∀ a k, ¬ (a = 757 ∧ 3 ≤ k ∧ k ≤ 9) → ¬ (a = 796 ∧ (k = 4 ∨ k = 5)) → sc2 a k = sc a k) ∧ (∀ q, q ≠ 758 → q ≠ 798 → ¬ (804 ≤ q ∧ q ≤ 818) → car2 q = car q) ∧ (∀ k, k < 2 → car2 798 k = car 798 k) ∧ sc2 757 5 = 0
theorem cE_cY {sc2 car2 : jSc} (h : cE pr nn0 tx g p m S0 ar0 sc car mr) (k : cYf sc car sc2 car2) : cE pr nn0 tx g p m S0 ar0 sc2 car2 mr := cE_lo h (fun a ha => funext fun j => k.1 a j (by omega) (by omega)) (fun q hq => k.2.1 q (by omega) (by omega) (by omega)) (k.2.2.2.trans h.2.2.symm)
theorem c_lost (hE : cE pr nn0 tx g p m S0 ar0 sc car mr) (h16 : S0 16 = 0) (hF : cFw S0 ar0 m sc) (hn : n ≤ 3) : ∃ sc2 car2, xF_348 (nI n) sc mr car al = some (aFr2 (aLd S0 ar0 m) 0 (n + 1), sc2, mr, car2, al) ∧ cFw S0 ar0 m sc2 ∧ cYf sc car sc2 car2 := by
  have r3 : xF_358 (nI n) sc mr car al = some (sc, mr, car, al) := by
    unfold xF_358
    rw [if_neg (nI_pos (by omega)), if_pos (show nI n ≤ (3 : Int32) from nI_le (b := 3) (by omega) (by decide))]
  -- the end
  have fin : ∀ (t : Nat) (sc1 car1 : jSc), t ≤ 4 → sc1 796 5 = nI t - 1 → cYf sc car sc1 car1 → ((n < t ∧ sc1 796 4 = -1 ∧ ∀ d, d < t → aLd S0 ar0 m d = false) ∨ ∃ f, f < t ∧ sc1 796 4 = nI f ∧ aLd S0 ar0 m f = true ∧ ∀ d, d < f → aLd S0 ar0 m d = false) → ∃ sc2 car2, xF_247_62 (nI n) sc1 mr car1 al = some (aFr2 (aLd S0 ar0 m) 0 (n + 1), sc2, mr, car2, al) ∧ cFw S0 ar0 m sc2 ∧ cYf sc car sc2 car2 := by
    intro t sc1 car1 h1 h2 h3 h4
    unfold xF_247_62
    rcases h4 with ⟨a, b, c⟩ | ⟨f, a, b, c, d⟩
    · rw [b, if_pos (show (-1 : Int32) < 0 by decide), aFr2_n (fun k _ hk => c k (by omega))]
      exact ⟨sc1, car1, rfl, ⟨t, h1, h2, Or.inl ⟨b, c⟩⟩, h3⟩
    · rw [b, if_neg (nI_pos (by omega))]
      by_cases z : n < f
      · rw [if_pos (nI_lt z (by omega)), aFr2_n (fun k _ hk => d k (by omega))]
        exact ⟨sc1, car1, rfl, ⟨t, h1, h2, Or.inr ⟨f, a, b, c, d⟩⟩, h3⟩
      · rw [if_neg (nI_nlt (by omega) (by omega)), aFr2_y (q := f) (by omega) (by omega) c (fun k _ hk => d k hk)]
        exact ⟨sc1, car1, rfl, ⟨t, h1, h2, Or.inr ⟨f, a, b, c, d⟩⟩, h3⟩
  have go : ∀ (r t nn : Nat) (sc1 car1 : jSc), t + r = 5 → r < nn → t ≤ 4 → sc1 796 5 = nI t - 1 → cYf sc car sc1 car1 → ((sc1 796 4 = -1 ∧ ∀ d, d < t → aLd S0 ar0 m d = false) ∨ ∃ f, f < t ∧ sc1 796 4 = nI f ∧ aLd S0 ar0 m f = true ∧ ∀ d, d < f → aLd S0 ar0 m d = false) → ∃ sc2 car2, xF_247_7 nn (nI n) (nI t) sc1 mr car1 al = some (aFr2 (aLd S0 ar0 m) 0 (n + 1), sc2, mr, car2, al) ∧ cFw S0 ar0 m sc2 ∧ cYf sc car sc2 car2 := by
    intro r
    induction r with
    | zero => intro t nn sc1 car1 h1 h2 h0; omega
    | succ r ih =>
      intro t nn sc1 car1 h1 h2 h0 h5 h3 h4
      obtain ⟨nn, rfl⟩ : ∃ j, nn = j + 1 := ⟨nn - 1, by omega⟩
      rw [xF_247_7]
      by_cases z : n < t
      · rw [if_pos (nI_lt z (by omega))]
        exact fin t sc1 car1 h0 h5 h3 (h4.elim (fun a => Or.inl ⟨z, a⟩) Or.inr)
      · rw [if_neg (nI_nlt (by omega) (by omega))]
        rcases h4 with ⟨a, b⟩ | ⟨f, a, b, c, d⟩
        · rw [if_neg (by rw [a]; decide)]
          have hE1 := cE_cY hE h3
          obtain ⟨sc2, car2, e1, e2, e3⟩ := c_win (al := al) (b := 2) hE1 h16 (by omega)
          have e1 : xF_248 2 sc1 mr car1 al = some ((wB0 S0 ar0).2, sc2, mr, car2, al) := e1
          have Y2 : cYf sc car sc2 car2 := ⟨fun x k u v => (e3.1 x k u).trans (h3.1 x k u v), fun q u v w => (e3.2.1 q u v (by omega) (by omega)).trans (h3.2.1 q u v w), fun k hk => (e3.2.2.1 k (by omega) (by omega)).trans (h3.2.2.1 k hk), e3.2.2.2⟩
          have step : ∀ (y0 : Int32) (sc4 car4 : jSc), iV y0 (aLd S0 ar0 m t = true) → cYf sc car sc4 car4 → sc4 796 4 = -1 → ∃ sc2 car2, xF_247_41 (fun x1_ x2_ sc_ mr_ ar_ al_ => xF_247_7 nn x1_ x2_ sc_ mr_ ar_ al_) (nI n) (nI t) y0 sc4 mr car4 al = some (aFr2 (aLd S0 ar0 m) 0 (n + 1), sc2, mr, car2, al) ∧ cFw S0 ar0 m sc2 ∧ cYf sc car sc2 car2 := by
            intro y0 sc4 car4 hy hY h44
            unfold xF_247_41
            rw [nI_1]
            have t4 : t ≤ 3 := by omega
            have ep : nI (t + 1) - 1 = nI t := nI_pred t
            rcases hy with ⟨x, y⟩ | ⟨x, y⟩
            · rw [y, if_neg (show ¬ (1 : Int32) = 0 by decide)]
              refine ih (t + 1) nn _ _ (by omega) (by omega) (by omega) (by rw [u2_eq, ep]) ⟨fun q k u v => ?_, hY.2.1, hY.2.2.1, by rw [u2_na (by decide), u2_na (by decide)]; exact hY.2.2.2⟩ (Or.inr ⟨t, by omega, by rw [u2_nk (by decide), u2_eq], x, b⟩)
              rw [show j_u2 (j_u2 sc4 796 4 (nI t)) 796 5 (nI t) q k = sc4 q k from (if_neg (fun w => v ⟨w.1, Or.inr w.2⟩)).trans (if_neg (fun w => v ⟨w.1, Or.inl w.2⟩))]
              exact hY.1 q k u v
            · rw [y, if_pos rfl]
              refine ih (t + 1) nn _ _ (by omega) (by omega) (by omega) (by rw [u2_eq, ep]) ⟨fun q k u v => ?_, hY.2.1, hY.2.2.1, by rw [u2_na (by decide)]; exact hY.2.2.2⟩ (Or.inl ⟨by rw [u2_nk (by decide)]; exact h44, fun d hd => ?_⟩)
              · rw [show j_u2 sc4 796 5 (nI t) q k = sc4 q k from if_neg (fun w => v ⟨w.1, Or.inr w.2⟩)]
                exact hY.1 q k u v
              · by_cases q : d = t
                · subst q; simpa using x
                · exact b d (by omega)
          rw [e1, ob5]
          have s44 : sc2 796 4 = -1 := (e3.1 796 4 (by omega)).trans a
          by_cases lo : 0 < (wB0 S0 ar0).2
          · rw [if_pos lo]
            exact step 1 sc2 car2 (Or.inl ⟨by unfold aLd; rw [decide_eq_true lo, Bool.true_or], rfl⟩) Y2 s44
          · rw [if_neg lo]
            obtain ⟨v, sc4, car4, f1, f2, f3⟩ := c_lose (al := al) h16 t 40 2 sc2 car2 (wB0 S0 ar0).1 (by omega) (by omega) (cE_cY hE Y2) e2
            have f1 : xG_250 40 2 (nI t) sc2 mr car2 al = some (v, sc4, mr, car4, al) := f1
            have Y4 : cYf sc car sc4 car4 := ⟨fun x k u w => (f3.1 x k u).trans (Y2.1 x k u w), fun q u w x => (f3.2.1 q u w (by omega)).trans (Y2.2.1 q u w x), fun k hk => (f3.2.2.1 k (by omega)).trans (Y2.2.2.1 k hk), f3.2.2.2⟩
            have s4 : sc4 796 4 = -1 := (f3.1 796 4 (by omega)).trans s44
            have la : aLd S0 ar0 m t = wLs S0 ar0 m t (wB0 S0 ar0).1 := by unfold aLd; rw [decide_eq_false lo, Bool.false_or]
            rw [f1, ob5]
            rcases f2 with ⟨x, y⟩ | ⟨x, y⟩
            · rw [y, if_neg (show ¬ (1 : Int32) = 0 by decide)]
              exact step 1 sc4 car4 (Or.inl ⟨by rw [la]; exact x, rfl⟩) Y4 s4
            · rw [y, if_pos rfl]
              exact step 0 sc4 car4 (Or.inr ⟨by rw [la]; exact x, rfl⟩) Y4 s4
        · rw [if_pos (show (0 : Int32) ≤ sc1 796 4 by rw [b]; exact nI_le (a := 0) (by omega) (by omega))]
          exact fin t sc1 car1 h0 h5 h3 (Or.inr ⟨f, a, b, c, d⟩)
  obtain ⟨t, t4, h5, h4⟩ := hF
  unfold xF_348
  rw [r3, ob4]
  unfold xF_247
  rw [h5, show nI t - 1 + (1 : Int32) = nI t from Int32.sub_add_cancel _ _]
  obtain ⟨sc2, car2, e1, e2, e3⟩ := go (5 - t) t oF sc car (by omega) (by unfold oF; omega) t4 h5 ⟨fun _ _ _ _ => rfl, fun _ _ _ _ => rfl, fun _ _ => rfl, hE.2.2⟩ h4
  rw [e1, ob5]
  exact ⟨sc2, car2, rfl, e2, e3⟩
end LO
