/-! CALLS: feed. -/
/-- the byte i of the word w -/
def byW (w : Int32) (i : Nat) : Int32 := (w >>> (nI (24 - 8 * i) &&& 31)) &&& 255
def fdW (a b c d e : Int32) (k : Nat) : Int32 := if k < 4 then a else if k < 8 then b else if k < 12 then c else if k < 16 then d else e
/-- the byte k of what is fed -/
def fdB (a b c d e : Int32) (k : Nat) : Int32 := byW (fdW a b c d e k) (k % 4)
section FD
variable {S S2 : Nat → Int32} {ar ar2 : jSc} {sc car sc2 car2 : jSc} {mr : Nat → Nat} {al al2 : jAl} {S0 : Nat → Int32} {ar0 : jSc} {n p m s nr : Nat} {tx : Nat → Int32} {g : pG} {cs : List Nat}
theorem byW_lt (w : Int32) (i : Nat) : ∃ b, b < 256 ∧ byW w i = nI b := pk_andE _ 8 rfl
theorem r_fdx {k : Nat} (hk : k < 20) : (24 : Int32) - ((8 : Int32) * (nI k - nI k / (4 : Int32) * (4 : Int32))) = nI (24 - 8 * (k % 4)) := by
  rw [show nI k - nI k / (4 : Int32) * (4 : Int32) = nI (k % 4) from pk_rem (a := k) (d := 4) (by omega) (by decide) (by decide), show (8 : Int32) * nI (k % 4) = nI (8 * (k % 4)) from pk_mul 8 _]
  exact pk_sub (a := 24) (by omega)
theorem r_fd1 {a b c d e : Int32} {k t nn : Nat} (hk : k < 20) (ht : t < 600) (h1 : S 1 = nI t) : rF_5_23 (nn + 1) a b c d e (nI k) S ar = rF_5_23 nn a b c d e (nI (k + 1)) (upd S 1 (nI (t + 1))) (j_u2 ar 1 t (fdB a b c d e k)) := by
  have key : ∀ w, fdW a b c d e k = w → rF_5_76 (fun x1_ x2_ x3_ x4_ x5_ x6_ S_ ar_ => rF_5_23 nn x1_ x2_ x3_ x4_ x5_ x6_ S_ ar_) a b c d e (nI k) w S ar = rF_5_23 nn a b c d e (nI (k + 1)) (upd S 1 (nI (t + 1))) (j_u2 ar 1 t (fdB a b c d e k)) := by
    intro w hw
    unfold rF_5_76
    rw [h1, if_pos (iB_nI ht (by decide)), iN_nI (by omega), r_fdx hk, nI_1, nI_1]
    unfold fdB
    rw [hw]
    rfl
  conv => lhs; unfold rF_5_23
  rw [if_neg (show ¬ (20 : Int32) ≤ nI k from nI_ge (b := 20) hk (by decide))]
  by_cases q4 : 4 ≤ k
  · rw [if_pos (show (4 : Int32) ≤ nI k from nI_le (a := 4) q4 (by omega))]
    by_cases q8 : 8 ≤ k
    · rw [if_pos (show (8 : Int32) ≤ nI k from nI_le (a := 8) q8 (by omega))]
      by_cases q12 : 12 ≤ k
      · rw [if_pos (show (12 : Int32) ≤ nI k from nI_le (a := 12) q12 (by omega))]
        by_cases q16 : 16 ≤ k
        · rw [if_pos (show (16 : Int32) ≤ nI k from nI_le (a := 16) q16 (by omega))]
          exact key e (by unfold fdW; rw [if_neg (by omega), if_neg (by omega), if_neg (by omega), if_neg (by omega)])
        · rw [if_neg (show ¬ (16 : Int32) ≤ nI k from nI_ge (b := 16) (by omega) (by decide))]
          exact key d (by unfold fdW; rw [if_neg (by omega), if_neg (by omega), if_neg (by omega), if_pos (by omega)])
      · rw [if_neg (show ¬ (12 : Int32) ≤ nI k from nI_ge (b := 12) (by omega) (by decide))]
        exact key c (by unfold fdW; rw [if_neg (by omega), if_neg (by omega), if_pos (by omega)])
    · rw [if_neg (show ¬ (8 : Int32) ≤ nI k from nI_ge (b := 8) (by omega) (by decide))]
      exact key b (by unfold fdW; rw [if_neg (by omega), if_pos (by omega)])
  · rw [if_neg (show ¬ (4 : Int32) ≤ nI k from nI_ge (b := 4) (by omega) (by decide))]
    exact key a (by unfold fdW; rw [if_pos (by omega)])
theorem r_fd {a b c d e : Int32} {t : Nat} (ht : t + 20 ≤ 600) {S : Nat → Int32} {ar : jSc} : ∀ (r k nn : Nat) (S1 : Nat → Int32) (a1 : jSc), k + r = 20 → r < nn → S1 1 = nI (t + k) → (∀ j, j ≠ 1 → S1 j = S j) → (∀ j, a1 1 j = if t ≤ j ∧ j < t + k then fdB a b c d e (j - t) else ar 1 j) → (∀ q, q ≠ 1 → a1 q = ar q) → ∃ S9 a9, rF_5_23 nn a b c d e (nI k) S1 a1 = some (nI (t + 20), S9, a9) ∧ S9 1 = nI (t + 20) ∧ (∀ j, j ≠ 1 → S9 j = S j) ∧ (∀ j, a9 1 j = if t ≤ j ∧ j < t + 20 then fdB a b c d e (j - t) else ar 1 j) ∧ ∀ q, q ≠ 1 → a9 q = ar q := by
  intro r
  induction r with
  | zero =>
    intro k nn S1 a1 hk hr h1 h2 h3 h4
    obtain ⟨nn, rfl⟩ : ∃ j, nn = j + 1 := ⟨nn - 1, by omega⟩
    obtain rfl : k = 20 := by omega
    refine ⟨S1, a1, ?_, h1, h2, h3, h4⟩
    unfold rF_5_23
    rw [if_pos (by decide), h1]
  | succ r ih =>
    intro k nn S1 a1 hk hr h1 h2 h3 h4
    obtain ⟨nn, rfl⟩ : ∃ j, nn = j + 1 := ⟨nn - 1, by omega⟩
    rw [r_fd1 (by omega) (by omega) h1]
    refine ih (k + 1) nn _ _ (by omega) (by omega) up_0 (fun j hj => (up_n hj).trans (h2 j hj)) (fun j => ?_) (fun q hq => (j_u2_row _ _ _ _ hq).trans (h4 q hq))
    by_cases z : j = t + k
    · subst z
      rw [u2_eq, if_pos (by omega), show t + k - t = k by omega]
    · rw [u2_nk z, h3 j]
      by_cases w : t ≤ j ∧ j < t + k
      · rw [if_pos w, if_pos (by omega)]
      · rw [if_neg w, if_neg (by omega)]
theorem c_fd1 {w : Int32} {u i nn : Nat} (hi : i < 4) (hu : u < 600) (h : sc 734 11 = nI u) {x : Int32} (hx : x = nI (24 - 8 * i)) : xF_351_3 (nn + 1) w x sc mr car al = xF_351_3 nn w (x + (-8 : Int32)) (j_u2 sc 734 11 (nI (u + 1))) mr (j_u2 car 735 u (byW w i)) al := by
  conv => lhs; unfold xF_351_3
  subst hx
  rw [if_neg (nI_pos (by omega)), h, if_neg (show ¬ (600 : Int32) ≤ nI u from nI_ge (b := 600) hu (by decide)), if_pos (iB_nI hu (by decide)), iN_nI (by omega), nI_1]
  rfl
theorem c_fd {w : Int32} {u : Nat} (hu : u + 4 ≤ 600) (h : sc 734 11 = nI u) : ∃ sc2 car2, xF_351 w sc mr car al = some (sc2, mr, car2, al) ∧ sc2 734 11 = nI (u + 4) ∧ (∀ a k, ¬ (a = 734 ∧ k = 11) → sc2 a k = sc a k) ∧ (∀ j, car2 735 j = if u ≤ j ∧ j < u + 4 then byW w (j - u) else car 735 j) ∧ ∀ b, b ≠ 735 → car2 b = car b := by
  refine ⟨j_u2 (j_u2 (j_u2 (j_u2 sc 734 11 (nI (u + 1))) 734 11 (nI (u + 2))) 734 11 (nI (u + 3))) 734 11 (nI (u + 4)), j_u2 (j_u2 (j_u2 (j_u2 car 735 u (byW w 0)) 735 (u + 1) (byW w 1)) 735 (u + 2) (byW w 2)) 735 (u + 3) (byW w 3), ?_, u2_eq, fun a k hk => ?_, fun j => ?_, fun b hb => ?_⟩
  · unfold xF_351
    rw [show oF = 9995 + 1 + 1 + 1 + 1 + 1 from rfl]
    refine (c_fd1 (i := 0) (by decide) (by omega) h rfl).trans ?_
    refine (c_fd1 (i := 1) (u := u + 1) (by decide) (by omega) u2_eq rfl).trans ?_
    refine (c_fd1 (i := 2) (u := u + 2) (by decide) (by omega) u2_eq rfl).trans ?_
    refine (c_fd1 (i := 3) (u := u + 3) (by decide) (by omega) u2_eq rfl).trans ?_
    unfold xF_351_3
    rw [if_pos (by decide)]
  · exact (if_neg hk).trans ((if_neg hk).trans ((if_neg hk).trans (if_neg hk)))
  · by_cases z3 : j = u + 3
    · subst z3
      rw [u2_eq, if_pos (by omega), show u + 3 - u = 3 by omega]
    · rw [u2_nk z3]
      by_cases z2 : j = u + 2
      · subst z2
        rw [u2_eq, if_pos (by omega), show u + 2 - u = 2 by omega]
      · rw [u2_nk z2]
        by_cases z1 : j = u + 1
        · subst z1
          rw [u2_eq, if_pos (by omega), show u + 1 - u = 1 by omega]
        · rw [u2_nk z1]
          by_cases z0 : j = u
          · subst z0
            rw [u2_eq, if_pos (by omega), show j - j = 0 by omega]
          · rw [u2_nk z0, if_neg (by omega)]
  · rw [j_u2_row _ _ _ _ hb, j_u2_row _ _ _ _ hb, j_u2_row _ _ _ _ hb, j_u2_row _ _ _ _ hb]
/-- only the tape (and what was found last) is new -/
theorem GX_tape (h : GX S0 ar0 n tx g p m s nr cs S ar sc car mr al) (k : gTp S2 ar2 sc2 car2) (r1 : ∀ k, (k = 16 ∨ k = 29 ∨ k = 31 ∨ k = 38 ∨ k = 51 ∨ k = 57) → S2 k = S k) (r2 : ∀ b, b ≠ 1 → b ≠ 12 → ar2 b = ar b) (c1 : ∀ a k, ¬ (a = 734 ∧ (k = 11 ∨ k = 12)) → sc2 a k = sc a k) (c2 : ∀ b, b ≠ 735 → car2 b = car b) : GX S0 ar0 n tx g p m s nr cs S2 ar2 sc2 car2 mr al := by
  obtain ⟨h1, h2, h3, h4, h5, h6, h7, h8, h9⟩ := h
  have kp : kPc sc car sc2 car2 := kPc_lo (fun a k _ _ => c1 a k (by omega)) (fun b _ _ => c2 b (by omega)) ((c1 757 5 (by omega)).trans h1.1.2.2)
  have ks : kSr S ar S2 ar2 := ⟨⟨r1 16 (by omega), r1 38 (by omega), r1 29 (by omega)⟩, fun b hb => r2 b (by omega) (by omega)⟩
  have e773 : sc2 773 = sc 773 := funext fun j => c1 773 j (by omega)
  have e774 : sc2 774 = sc 774 := funext fun j => c1 774 j (by omega)
  exact ⟨gSt_k h1 kp ks, gRun_k h2 ⟨r1 31 (by omega), fun b hb => r2 b (by omega) (by omega), c1 759 5 (by omega), c1 759 14 (by omega), fun b hb => c2 b (by omega), rfl⟩, gTold_k h3 ⟨r1 51 (by omega), r2 711 (by omega) (by omega), c1 819 1 (by omega), c2 820 (by omega)⟩, cKy_k h4 ⟨e773, e774, fun b hb => c2 b (by omega)⟩, gWi_k h5 ⟨r1 57 (by omega), fun b _ _ => r2 b (by omega) (by omega), c1 796 1 (by omega), c1 796 4 (by omega), c1 796 5 (by omega), by rw [c2 798 (by omega)], by rw [c2 798 (by omega)], c2 800 (by omega), c2 802 (by omega)⟩, cSt_k h6 (c1 734 13 (by omega)) (c1 734 14 (by omega)), gPr_k h7 h1.1.1.2.1.1 kp ks, gOld_k h8 kp ks, k⟩
theorem q_feed {a b c d e : Int32} (h : GX S0 ar0 n tx g p m s nr cs S ar sc car mr al) : qA (rF_5 a b c d e S ar) (xF_313 a b c d e sc mr car al) := by
  have h' := GX_0 h 0
  obtain ⟨tp, t1, t2, t3, t4, t5, t6⟩ := h.2.2.2.2.2.2.2.2
  have L : nI tp + (20 : Int32) = nI (tp + 20) := nI_add tp 20
  by_cases z : tp + 20 ≤ 600
  · obtain ⟨S9, a9, e1, e2, e3, e4, e5⟩ := r_fd (a := a) (b := b) (c := c) (d := d) (e := e) (t := tp) z (S := upd S 0 0) (ar := ar) 20 0 oF (upd S 0 0) ar (by omega) (by unfold oF; omega) ((up_n (by decide)).trans t2) (fun _ _ => rfl) (fun j => by rw [if_neg (by omega)]) (fun _ _ => rfl)
    obtain ⟨sc1, car1, f1, f2, f3, f4, f5⟩ := c_fd (w := a) (mr := mr) (al := al) (car := car) (u := tp) (by omega) t3
    obtain ⟨sc2, car2, g1, g2, g3, g4, g5⟩ := c_fd (w := b) (mr := mr) (al := al) (car := car1) (u := tp + 4) (by omega) f2
    obtain ⟨sc3, car3, i1, i2, i3, i4, i5⟩ := c_fd (w := c) (mr := mr) (al := al) (car := car2) (u := tp + 8) (by omega) g2
    obtain ⟨sc4, car4, j1, j2, j3, j4, j5⟩ := c_fd (w := d) (mr := mr) (al := al) (car := car3) (u := tp + 12) (by omega) i2
    obtain ⟨sc5, car5, k1, k2, k3, k4, k5⟩ := c_fd (w := e) (mr := mr) (al := al) (car := car4) (u := tp + 16) (by omega) j2
    have R : rF_5 a b c d e S ar = some (nI (tp + 20), S9, a9) := by
      unfold rF_5
      rw [t2, L, if_pos (show nI (tp + 20) ≤ (600 : Int32) from nI_le (b := 600) z (by decide))]
      exact e1
    have C : xF_313 a b c d e sc mr car al = some (nI (tp + 20), sc5, mr, car5, al) := by
      unfold xF_313
      rw [t3, L, if_pos (show nI (tp + 20) ≤ (600 : Int32) from nI_le (b := 600) z (by decide)), f1, ob4, g1, ob4, i1, ob4, j1, ob4, k1, ob4, k2]
    refine ⟨_, _, _, _, _, _, _, R, (e3 0 (by omega)).trans q_b0, C, GX_R (GX_tape h' ⟨tp + 20, z, e2, k2, fun q hq => ?_, fun q hq => ?_, ?_⟩ (fun q hq => e3 q (by omega)) (fun q hq _ => e5 q hq) (fun x q hq => (k3 x q (by omega)).trans ((j3 x q (by omega)).trans ((i3 x q (by omega)).trans ((g3 x q (by omega)).trans (f3 x q (by omega)))))) (fun q hq => (k5 q hq).trans ((j5 q hq).trans ((i5 q hq).trans ((g5 q hq).trans (f5 q hq)))))) ⟩
    · rw [k4, j4, i4, g4, f4, e4]
      by_cases z0 : q < tp
      · rw [if_neg (by omega), if_neg (by omega), if_neg (by omega), if_neg (by omega), if_neg (by omega), if_neg (by omega)]
        exact t4 q z0
      · rw [if_pos (show tp ≤ q ∧ q < tp + 20 by omega)]
        obtain ⟨v, rfl⟩ : ∃ v, q = tp + v := ⟨q - tp, by omega⟩
        rw [show tp + v - tp = v by omega]
        unfold fdB fdW
        by_cases y4 : v < 4
        · rw [if_neg (by omega), if_neg (by omega), if_neg (by omega), if_neg (by omega), if_pos (by omega), if_pos y4, show v % 4 = v by omega]
        · rw [if_neg y4]
          by_cases y8 : v < 8
          · rw [if_neg (by omega), if_neg (by omega), if_neg (by omega), if_pos (by omega), if_pos y8, show tp + v - (tp + 4) = v % 4 by omega]
          · rw [if_neg y8]
            by_cases y12 : v < 12
            · rw [if_neg (by omega), if_neg (by omega), if_pos (by omega), if_pos y12, show tp + v - (tp + 8) = v % 4 by omega]
            · rw [if_neg y12]
              by_cases y16 : v < 16
              · rw [if_neg (by omega), if_pos (by omega), if_pos y16, show tp + v - (tp + 12) = v % 4 by omega]
              · rw [if_neg y16, if_pos (by omega), show tp + v - (tp + 16) = v % 4 by omega]
    · rw [e4]
      by_cases y : tp ≤ q ∧ q < tp + 20
      · rw [if_pos y]; exact byW_lt _ _
      · rw [if_neg y]; exact t5 q hq
    · rw [e3 2 (by omega), up_n (by decide), t6]
      exact ((k3 734 12 (by omega)).trans ((j3 734 12 (by omega)).trans ((i3 734 12 (by omega)).trans ((g3 734 12 (by omega)).trans (f3 734 12 (by omega)))))).symm
  · refine ⟨-1, upd S 0 0, ar, sc, mr, car, al, ?_, q_b0, ?_, GX_R h'⟩
    · unfold rF_5
      rw [t2, L, if_neg (show ¬ nI (tp + 20) ≤ (600 : Int32) from nI_ge (a := 600) (by omega) (by omega))]
    · unfold xF_313
      rw [t3, L, if_neg (show ¬ nI (tp + 20) ≤ (600 : Int32) from nI_ge (a := 600) (by omega) (by omega))]
end FD
