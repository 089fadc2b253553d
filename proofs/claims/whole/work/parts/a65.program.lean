/-! CALLS: program. -/
/-- the row d takes what the row e holds, from i on up to N -/
def cpA (a : jSc) (d e i N : Nat) : jSc := va_up a d (fun j => if i ≤ j ∧ j < N then a e j else a d j)
section PG
variable {S S2 : Nat → Int32} {ar ar2 : jSc} {sc car sc2 car2 : jSc} {mr : Nat → Nat} {al al2 : jAl} {S0 : Nat → Int32} {ar0 : jSc} {n p m s nr : Nat} {tx : Nat → Int32} {g : pG} {cs : List Nat}
theorem cpA_0 {a : jSc} {d e N : Nat} : cpA a d e N N = a := by
  funext b
  unfold cpA
  by_cases z : b = d
  · subst z
    rw [va_up_self]
    funext j
    rw [if_neg (by omega)]
  · rw [va_up_ne _ _ z]
theorem cpA_s {a : jSc} {d e i N : Nat} (hd : d ≠ e) (hi : i < N) : cpA (j_u2 a d i (a e i)) d e (i + 1) N = cpA a d e i N := by
  funext b
  unfold cpA
  by_cases z : b = d
  · subst z
    rw [va_up_self, va_up_self]
    funext j
    rw [j_u2_row a b i (a e i) (show e ≠ b from fun w => hd w.symm)]
    by_cases y : j = i
    · subst y
      rw [if_neg (by omega), if_pos (by omega), u2_eq]
    · rw [u2_nk y]
      by_cases w : i ≤ j ∧ j < N
      · rw [if_pos w, if_pos (by omega)]
      · rw [if_neg w, if_neg (by omega)]
  · rw [va_up_ne _ _ z, va_up_ne _ _ z, j_u2_row _ _ _ _ z]
theorem cpA_d {a : jSc} {d e N j : Nat} (h : j < N) : cpA a d e 0 N d j = a e j := by
  unfold cpA
  rw [va_up_self, if_pos (by omega)]
theorem cpA_b {a : jSc} {d e i N b : Nat} (h : b ≠ d) : cpA a d e i N b = a b := va_up_ne _ _ h
theorem r_43a {x : Int32} : ∀ (r i nn : Nat) (a : jSc), i + r = 600 → r < nn → rF_43_2 nn x (nI i) S a = rF_43_33 oF x 0 S (cpA a 4 3 i 600) := by
  intro r
  induction r with
  | zero =>
    intro i nn a hi hr
    obtain ⟨nn, rfl⟩ : ∃ j, nn = j + 1 := ⟨nn - 1, by omega⟩
    obtain rfl : i = 600 := by omega
    unfold rF_43_2
    rw [if_pos (by decide), cpA_0]
  | succ r ih =>
    intro i nn a hi hr
    obtain ⟨nn, rfl⟩ : ∃ j, nn = j + 1 := ⟨nn - 1, by omega⟩
    unfold rF_43_2
    rw [if_neg (show ¬ (600 : Int32) ≤ nI i from nI_ge (b := 600) (by omega) (by decide)), if_pos (iB_nI (by omega) (by decide)), if_pos (iB_nI (by omega) (by decide)), iN_nI (by omega), nI_1, ih (i + 1) nn _ (by omega) (by omega), cpA_s (by decide) (by omega)]
theorem r_43b {x : Int32} : ∀ (r i nn : Nat) (a : jSc), i + r = 17 → r < nn → rF_43_33 nn x (nI i) S a = rF_43_111 oF x 0 S (j_u2 (j_u2 (j_u2 (j_u2 (cpA a 7 6 i 17) 8 1 (a 8 0)) 9 1 (a 9 0)) 10 1 (a 10 0)) 11 1 (a 11 0)) := by
  intro r
  induction r with
  | zero =>
    intro i nn a hi hr
    obtain ⟨nn, rfl⟩ : ∃ j, nn = j + 1 := ⟨nn - 1, by omega⟩
    obtain rfl : i = 17 := by omega
    unfold rF_43_33
    rw [if_pos (by decide), cpA_0]
  | succ r ih =>
    intro i nn a hi hr
    obtain ⟨nn, rfl⟩ : ∃ j, nn = j + 1 := ⟨nn - 1, by omega⟩
    unfold rF_43_33
    rw [if_neg (show ¬ (17 : Int32) ≤ nI i from nI_ge (b := 17) (by omega) (by decide)), if_pos (iB_nI (by omega) (by decide)), if_pos (iB_nI (by omega) (by decide)), iN_nI (by omega), nI_1, ih (i + 1) nn _ (by omega) (by omega), cpA_s (by decide) (by omega), j_u2_row a 7 i (a 6 i) (show 8 ≠ 7 by decide), j_u2_row a 7 i (a 6 i) (show 9 ≠ 7 by decide), j_u2_row a 7 i (a 6 i) (show 10 ≠ 7 by decide), j_u2_row a 7 i (a 6 i) (show 11 ≠ 7 by decide)]
theorem r_43c {k : Nat} (hk : k ≤ 600) : ∀ (r i nn : Nat) (a : jSc), i + r = k → r < nn → rF_43_111 nn (nI k) (nI i) S a = rF_43_138 oF (nI k) 0 S (cpA a 3 1 i k) := by
  intro r
  induction r with
  | zero =>
    intro i nn a hi hr
    obtain ⟨nn, rfl⟩ : ∃ j, nn = j + 1 := ⟨nn - 1, by omega⟩
    obtain rfl : i = k := by omega
    unfold rF_43_111
    rw [if_pos (nI_le (Nat.le_refl i) (by omega)), cpA_0]
  | succ r ih =>
    intro i nn a hi hr
    obtain ⟨nn, rfl⟩ : ∃ j, nn = j + 1 := ⟨nn - 1, by omega⟩
    unfold rF_43_111
    rw [if_neg (nI_ge (by omega) (by omega)), if_pos (iB_nI (by omega) (by decide)), if_pos (iB_nI (by omega) (by decide)), iN_nI (by omega), nI_1, ih (i + 1) nn _ (by omega) (by omega), cpA_s (by decide) (by omega)]
theorem r_43d {x : Int32} : ∀ (r i nn : Nat) (a : jSc), i + r = 17 → r < nn → rF_43_138 nn x (nI i) S a = some (S, j_u2 (j_u2 (j_u2 (j_u2 (cpA a 6 12 i 17) 8 0 x) 9 0 (S 17)) 10 0 (S 18)) 11 0 (S 19)) := by
  intro r
  induction r with
  | zero =>
    intro i nn a hi hr
    obtain ⟨nn, rfl⟩ : ∃ j, nn = j + 1 := ⟨nn - 1, by omega⟩
    obtain rfl : i = 17 := by omega
    unfold rF_43_138
    rw [if_pos (by decide), cpA_0]
  | succ r ih =>
    intro i nn a hi hr
    obtain ⟨nn, rfl⟩ : ∃ j, nn = j + 1 := ⟨nn - 1, by omega⟩
    unfold rF_43_138
    rw [if_neg (show ¬ (17 : Int32) ≤ nI i from nI_ge (b := 17) (by omega) (by decide)), if_pos (iB_nI (by omega) (by decide)), if_pos (iB_nI (by omega) (by decide)), iN_nI (by omega), nI_1, ih (i + 1) nn _ (by omega) (by omega), cpA_s (by decide) (by omega)]
def tkA (ar : jSc) (S : Nat → Int32) (k : Nat) : jSc := j_u2 (j_u2 (j_u2 (j_u2 (cpA (cpA (j_u2 (j_u2 (j_u2 (j_u2 (cpA (cpA ar 4 3 0 600) 7 6 0 17) 8 1 (ar 8 0)) 9 1 (ar 9 0)) 10 1 (ar 10 0)) 11 1 (ar 11 0)) 3 1 0 k) 6 12 0 17) 8 0 (nI k)) 9 0 (S 17)) 10 0 (S 18)) 11 0 (S 19)
theorem r_43 {k : Nat} (hk : k ≤ 600) : rF_43 (nI k) S ar = some (S, tkA ar S k) := by
  unfold rF_43
  refine (r_43a 600 0 oF ar (by omega) (by unfold oF; omega)).trans ?_
  refine (r_43b 17 0 oF _ (by omega) (by unfold oF; omega)).trans ?_
  refine (r_43c hk k 0 oF _ (by omega) (by unfold oF; omega)).trans ?_
  refine (r_43d 17 0 oF _ (by omega) (by unfold oF; omega)).trans ?_
  rw [cpA_b (show 8 ≠ 4 by decide), cpA_b (show 9 ≠ 4 by decide), cpA_b (show 10 ≠ 4 by decide), cpA_b (show 11 ≠ 4 by decide)]
  rfl
theorem tkA_o {k b : Nat} (h : b < 3 ∨ b = 5 ∨ 12 ≤ b) : tkA ar S k b = ar b := by
  unfold tkA
  rw [j_u2_row _ _ _ _ (by omega), j_u2_row _ _ _ _ (by omega), j_u2_row _ _ _ _ (by omega), j_u2_row _ _ _ _ (by omega), cpA_b (by omega), cpA_b (by omega), j_u2_row _ _ _ _ (by omega), j_u2_row _ _ _ _ (by omega), j_u2_row _ _ _ _ (by omega), j_u2_row _ _ _ _ (by omega), cpA_b (by omega), cpA_b (by omega)]
theorem tkA_8 {k : Nat} : tkA ar S k 8 0 = nI k ∧ tkA ar S k 8 1 = ar 8 0 := ⟨rfl, rfl⟩
theorem tkA_9 {k : Nat} : tkA ar S k 9 0 = S 17 ∧ tkA ar S k 9 1 = ar 9 0 := ⟨rfl, rfl⟩
theorem tkA_10 {k : Nat} : tkA ar S k 10 0 = S 18 ∧ tkA ar S k 10 1 = ar 10 0 := ⟨rfl, rfl⟩
theorem tkA_11 {k : Nat} : tkA ar S k 11 0 = S 19 ∧ tkA ar S k 11 1 = ar 11 0 := ⟨rfl, rfl⟩
theorem tkA_4 {k j : Nat} (h : j < 600) : tkA ar S k 4 j = ar 3 j := by
  unfold tkA
  rw [j_u2_row _ _ _ _ (by omega), j_u2_row _ _ _ _ (by omega), j_u2_row _ _ _ _ (by omega), j_u2_row _ _ _ _ (by omega), cpA_b (by omega), cpA_b (by omega), j_u2_row _ _ _ _ (by omega), j_u2_row _ _ _ _ (by omega), j_u2_row _ _ _ _ (by omega), j_u2_row _ _ _ _ (by omega), cpA_b (by omega), cpA_d h]
theorem tkA_7 {k j : Nat} (h : j < 17) : tkA ar S k 7 j = ar 6 j := by
  unfold tkA
  rw [j_u2_row _ _ _ _ (by omega), j_u2_row _ _ _ _ (by omega), j_u2_row _ _ _ _ (by omega), j_u2_row _ _ _ _ (by omega), cpA_b (by omega), cpA_b (by omega), j_u2_row _ _ _ _ (by omega), j_u2_row _ _ _ _ (by omega), j_u2_row _ _ _ _ (by omega), j_u2_row _ _ _ _ (by omega), cpA_d h, cpA_b (by omega)]
theorem tkA_3 {k j : Nat} (h : j < k) : tkA ar S k 3 j = ar 1 j := by
  unfold tkA
  rw [j_u2_row _ _ _ _ (by omega), j_u2_row _ _ _ _ (by omega), j_u2_row _ _ _ _ (by omega), j_u2_row _ _ _ _ (by omega), cpA_b (by omega), cpA_d h, j_u2_row _ _ _ _ (by omega), j_u2_row _ _ _ _ (by omega), j_u2_row _ _ _ _ (by omega), j_u2_row _ _ _ _ (by omega), cpA_b (by omega), cpA_b (by omega)]
theorem tkA_6 {k j : Nat} (h : j < 17) : tkA ar S k 6 j = ar 12 j := by
  unfold tkA
  rw [j_u2_row _ _ _ _ (by omega), j_u2_row _ _ _ _ (by omega), j_u2_row _ _ _ _ (by omega), j_u2_row _ _ _ _ (by omega), cpA_d h, cpA_b (by omega), j_u2_row _ _ _ _ (by omega), j_u2_row _ _ _ _ (by omega), j_u2_row _ _ _ _ (by omega), j_u2_row _ _ _ _ (by omega), cpA_b (by omega), cpA_b (by omega)]
theorem fR_F (h : fR m ar sc car) (e : ∀ b, 102 ≤ b → b ≤ 106 → ar2 b = ar b) : fR m ar2 sc car := by
  obtain ⟨⟨f1, f2⟩, f3, f4, f5⟩ := h
  have e2 := e 102 (by omega) (by omega)
  have e3 := e 103 (by omega) (by omega)
  have e4 := e 104 (by omega) (by omega)
  have e6 := e 106 (by omega) (by omega)
  refine ⟨⟨f1, fun i hi => by rw [e4]; exact f2 i hi⟩, fun l hl => by rw [m_fr_c e6 e2 e4]; exact f3 l hl, fun l hl => by rw [m_fr_c e6 e2 e4]; exact f4 l hl, fun t l ht hl => ?_⟩
  rw [f5 t l ht hl, Bool.eq_iff_iff, m_b1_i, m_b1_i, e2, e3, e4, e6]
theorem fed_tx {k : Nat} (hk : k ≤ 600) (hb : ∀ q, q < 600 → ∃ b, b < 256 ∧ ar 1 q = nI b) : x_tx k (t_fed ar k) := by
  refine ⟨hk, fun q hq => ?_, fun q hq => ?_⟩
  · unfold t_fed
    rw [if_neg (by omega)]
  · unfold t_fed
    rw [if_pos hq]
    obtain ⟨b, h1, h2⟩ := hb q (by omega)
    rw [h2]
    exact ⟨nI_pos' (by omega), nI_le (b := 255) (by omega) (by decide)⟩
theorem hN_Cn {h : Nat → Option (Nat × Nat)} {row : Nat → Int32} (e : ∀ k, k < 17 → row k = x_op (h k)) (hb : ∀ k x, h k = some x → x.1 ≤ 600) : ∀ k, k ≤ 17 → hCn row k = hN h k := by
  intro k
  induction k with
  | zero => intro _; rfl
  | succ k ih =>
    intro hk
    show hCn row k + (if row k = -1 then 0 else 1) = hN h k + (if h k = none then 0 else 1)
    rw [ih (by omega), e k (by omega)]
    rcases hx : h k with _ | x
    · rfl
    · have := hb k x hx
      rw [if_neg (show ¬ x_op (some x) = -1 from nI_nm (show x.1 < 2 ^ 31 by omega)), if_neg (fun z => by cases z)]
theorem c_sg_get {P : Nat} : ∀ {os : oL} {L i : Nat}, c_sg car P L os → i < os.length → car (P + 1) (L + i) = nI (oO os i).1 ∧ car (P + 2) (L + i) = (oO os i).2 := by
  intro os
  induction os with
  | nil => intro L i _ h; exact absurd h (Nat.not_lt_zero _)
  | cons o r ih =>
    intro L i h hi
    obtain ⟨h1, h2, h3⟩ := h
    rcases i with _ | i
    · exact ⟨h1, h2⟩
    · have := ih (L := L + 1) (i := i) h3 (by simpa using hi)
      rw [show L + 1 + i = L + (i + 1) by omega] at this
      exact this
theorem gCl_G {q k : Nat} (hp : x_pr p = true) (h : cG k tx p sc car q g) : gCl p g sc car := by
  obtain ⟨h1, h2, h3, h4, h5, h6, h7, h8, h9⟩ := h
  refine ⟨hp, ⟨h1.2.2.2.2.1, fun i hi => ?_⟩, h5, h7, h8⟩
  have := c_sg_get h2 hi
  rw [Nat.zero_add] at this
  exact this
theorem gCl_at (h : gCl p g sc car) (e1 : ∀ k, sc2 p k = sc p k) (e2 : ∀ b, p < b → b ≤ p + 3 → car2 b = car b) : gCl p g sc2 car2 := by
  obtain ⟨x1, ⟨x2, x2b⟩, x3, x4, x5⟩ := h
  exact ⟨x1, ⟨by rw [e1]; exact x2, fun i hi => by rw [e2 (p + 1) (by omega) (by omega), e2 (p + 2) (by omega) (by omega)]; exact x2b i hi⟩, fun e he => by rw [e2 (p + 3) (by omega) (by omega)]; exact x3 e he, by rw [e1]; exact x4, by rw [e1]; exact x5⟩
/-- a text that is wrong: the spare program alone was touched -/
theorem GX_rd {v : Nat} (h : GX S0 ar0 n tx g p m s nr cs S ar sc car mr al) (k : gTp S2 ar2 sc2 car2) (r1 : ∀ k, (k = 16 ∨ k = 29 ∨ k = 31 ∨ k = 38 ∨ k = 51 ∨ k = 57) → S2 k = S k) (r2 : ∀ b, b ≠ 1 → b ≠ 12 → ar2 b = ar b) (c1 : ∀ a k, a ≠ 756 → a ≠ mr 2 → ¬ (a = 734 ∧ (k = 11 ∨ k = 12)) → sc2 a k = sc a k) (c2 : ∀ b, b ≠ mr 2 + 1 → b ≠ mr 2 + 2 → b ≠ mr 2 + 3 → car2 b = car b) : GX S0 ar0 n tx g p m s nr cs S2 ar2 sc2 car2 (va_up mr 4 v) al := by
  obtain ⟨h1, h2, h3, h4, h5, h6, h7, h8, h9⟩ := h
  obtain ⟨o1, o2, o3, o4, o5, o6, o7, n1, tx1, g1, o8, o9, o10⟩ := h8
  have x0 := x_pr_ne o1
  have x1 := x_pr_ne o2
  have x2 := x_pr_ne o3
  have ep : p = mr 0 := h1.1.1.2.2.2.1.symm.trans o7
  have m3 : va_up mr 4 v 3 = mr 3 := va_up_ne _ _ (by decide)
  have m0 : va_up mr 4 v 0 = mr 0 := va_up_ne _ _ (by decide)
  have m1 : va_up mr 4 v 1 = mr 1 := va_up_ne _ _ (by decide)
  have m2 : va_up mr 4 v 2 = mr 2 := va_up_ne _ _ (by decide)
  have cc : ∀ a k, (a = 736 ∨ 757 ≤ a) → sc2 a k = sc a k := fun a k ha => c1 a k (by omega) (by omega) (by omega)
  have cb : ∀ b, b ≤ 744 ∨ 756 ≤ b → car2 b = car b := fun b hb => c2 b (by omega) (by omega) (by omega)
  have ks : kSr S ar S2 ar2 := ⟨⟨r1 16 (by omega), r1 38 (by omega), r1 29 (by omega)⟩, fun b hb => r2 b (by omega) (by omega)⟩
  have e773 : sc2 773 = sc 773 := funext fun j => cc 773 j (by omega)
  have e774 : sc2 774 = sc 774 := funext fun j => cc 774 j (by omega)
  obtain ⟨⟨⟨s1, s2, s3, s4, s5, s6, f1, f2, f3, f4⟩, s29, s75⟩, s16, sS, sA, sM, sO⟩ := h1
  refine ⟨⟨⟨⟨s1, gCl_at s2 (fun k => c1 p k (by omega) (by omega) (by omega)) (fun b b1 b2 => c2 b (by omega) (by omega) (by omega)), s3, m3.trans s4, s5, s6, f1, fun l hl => by rw [cc 736 8 (by omega)]; exact f2 l hl, fun l hl => by rw [cc 736 7 (by omega)]; exact f3 l hl, fun t l ht hl => by rw [cb 741 (by omega)]; exact f4 t l ht hl⟩, s29, (cc 757 5 (by omega)).trans s75⟩, s16, stS_tr sS ks.1, stA_tr sA ks.2, ⟨sM.1, (cc 736 5 (by omega)).trans sM.2.1, fun i hi => by rw [cb 737 (by omega), cb 738 (by omega), cb 739 (by omega), cb 740 (by omega)]; exact sM.2.2 i hi⟩, ⟨sO.1, (cc 736 6 (by omega)).trans sO.2.1, sO.2.2⟩⟩, gRun_k h2 ⟨r1 31 (by omega), fun b hb => r2 b (by omega) (by omega), cc 759 5 (by omega), cc 759 14 (by omega), fun b hb => cb b (by omega), rfl⟩, gTold_k h3 ⟨r1 51 (by omega), r2 711 (by omega) (by omega), cc 819 1 (by omega), cb 820 (by omega)⟩, cKy_k h4 ⟨e773, e774, fun b hb => cb b (by omega)⟩, gWi_k h5 ⟨r1 57 (by omega), fun b _ _ => r2 b (by omega) (by omega), cc 796 1 (by omega), cc 796 4 (by omega), cc 796 5 (by omega), by rw [cb 798 (by omega)], by rw [cb 798 (by omega)], cb 800 (by omega), cb 802 (by omega)⟩, cSt_k h6 (c1 734 13 (by omega) (by omega) (by omega)) (c1 734 14 (by omega) (by omega) (by omega)), ⟨?_, ?_, ?_⟩, ⟨m0.symm ▸ o1, m1.symm ▸ o2, m2.symm ▸ o3, by rw [m0, m1]; exact o4, by rw [m0, m2]; exact o5, by rw [m1, m2]; exact o6, by rw [m3, m0]; exact o7, n1, tx1, g1, gRf_st o8 ks.2, by rw [m1]; exact gCl_at o9 (fun k => c1 (mr 1) k (by omega) (by omega) (by omega)) (fun b b1 b2 => c2 b (by omega) (by omega) (by omega)), o10⟩, k⟩
  · exact (c1 p 6 (by omega) (by omega) (by omega)).trans h7.1
  · rw [r2 9 (by omega) (by omega)]
    exact (c1 p 4 (by omega) (by omega) (by omega)).trans h7.2.1
  · rw [r2 6 (by omega) (by omega)]
    exact (c1 p 5 (by omega) (by omega) (by omega)).trans h7.2.2
theorem q_program {k tp : Nat} (h : GX S0 ar0 n tx g p m s nr cs S ar sc car mr al) (t1 : tp ≤ 600) (t2 : S 1 = nI tp) (t3 : sc 734 11 = nI tp) (t4 : ∀ k, k < tp → car 735 k = ar 1 k) (t5 : ∀ k, k < 600 → ∃ b, b < 256 ∧ ar 1 k = nI b) (hk : k ≤ tp) : qA (rF_42 (nI k) S ar) (xF_314 (nI k) sc mr car al) := by
  obtain ⟨P1, P2⟩ := r_program (S := S) (ar := ar) (n := k) (t := tp) t2 t1 hk (fun q hq => by
    obtain ⟨b, h1, h2⟩ := t5 q hq
    rw [h2]
    exact ⟨nI_pos' (by omega), nI_le (b := 255) (by omega) (by decide)⟩) (Or.inl (GX_S29 h))
  have hx := fed_tx (ar := ar) (k := k) (by omega) t5
  have h8 := h.2.2.2.2.2.2.2.1
  obtain ⟨o1, o2, o3, o4, o5, o6, o7, n1, tx1, g1, o8, o9, o10⟩ := h8
  have x0 := x_pr_ne o1
  have x1 := x_pr_ne o2
  have x2 := x_pr_ne o3
  obtain ⟨C1, C2⟩ := c_reads (mr := mr) (al := al) (sc := sc) (ar := car) o3 hx (show k ≤ 600 by omega) (fun j hj => by
    unfold t_fed
    rw [if_pos hj]
    exact t4 j (by omega))
  have h9 : ∀ j, (j == 22) = false ↔ j ≠ 22 := fun j => by simp
  have C : xF_314 (nI k) sc mr car al = (o_b5 (xF_255 (nI k) (mr 2) sc mr car al) (fun ve4 sce4 mre4 are4 ale4 => (if ve4 = 0 then (if x_pr (mre4 1) = true then (if x_pr (mre4 0) = true then (if x_pr (mre4 2) = true then (if x_pr (mre4 2) = true then (o_b4 (xF_352 (j_u2 (j_u2 sce4 734 11 (0 : Int32)) 734 12 (sce4 756 6)) (va_up (va_up (va_up (va_up mre4 1 (mre4 0)) 0 (mre4 2)) 2 (mre4 1)) 3 (mre4 2)) are4 ale4) (fun sce10 mre10 are10 ale10 => (o_b4 (xF_298 sce10 mre10 are10 ale10) (fun sce11 mre11 are11 ale11 => (o_b4 (xF_244 sce11 mre11 are11 ale11) (fun sce12 mre12 are12 ale12 => (if x_pr (mre12 0) = true then some ((sce12 (mre12 0) 4), sce12, mre12, are12, ale12) else none))))))) else none) else none) else none) else none) else some ((ve4 - (10 : Int32)), (j_u2 (j_u2 sce4 734 11 (0 : Int32)) 734 12 (sce4 756 6)), mre4, are4, ale4)))) := by
    unfold xF_314
    rw [if_neg (nI_pos (by omega)), t3, if_pos (nI_le hk (by omega)), if_pos o3]
  rcases hpl : p_pl (t_fed ar k) k 700 0 g0 with ⟨kd, pl⟩ | g'
  · -- a fault
    obtain ⟨⟨kd1, kd4⟩, pln, S9, ar9, e1, e2, e3, e4, e5, e6, e7, e8, e9⟩ := P2 kd pl hpl
    obtain ⟨sc4, car4, f1, f2, f3, f4⟩ := C2 kd pl hpl
    have R : rF_42 (nI k) S ar = some (nI kd - 10, upd (upd S9 1 0) 2 (nI pl), ar9) := by
      rw [e1]
      unfold rF_42_136
      rw [e2, if_neg (nI_ne0 (by omega) (by omega)), e3]
    rw [f1, ob5, if_neg (nI_ne0 (by omega) (by omega)), f2.2.2.1] at C
    have r12' : ∀ b, b ≠ 12 → ar9 b = ar b := fun b hb => e5 b (by simpa using hb)
    refine ⟨_, _, _, _, _, _, _, R, (up_n (by decide)).trans ((up_n (by decide)).trans e4), C, GX_R (GX_rd h ⟨0, by omega, (up_n (by decide)).trans up_0, (if_neg (by omega)).trans u2_eq, fun q hq => absurd hq (by omega), fun q hq => by rw [r12' 1 (by omega)]; exact t5 q hq, up_0.trans u2_eq.symm⟩ (fun q hq => ?_) (fun b _ hb => r12' b hb) (fun a q q1 q2 q3 => ?_) (fun b q1 q2 q3 => f4 b q1 q2 q3))⟩
    · rw [up_n (by omega), up_n (by omega)]
      by_cases z : q = 16
      · subst z; exact e7 16 (by omega) (by omega)
      · exact e6 q (by omega) ((h9 q).mpr (by omega))
    · exact (if_neg (by omega)).trans ((if_neg (by omega)).trans (f3 a q q1 (fun z => q2 z.1)))
  · -- a program
    obtain ⟨gi, gl, S2, ar2, e1, e2, e3, e4, e5, e6, e7, e8, e9, e10⟩ := P1 g' hpl
    obtain ⟨sc4, car4, q2, f1, f2, f3, f4⟩ := C1 g' hpl
    have hm := h.1.2.2.2.2.1
    have hO := h.1.2.2.2.2.2
    have hE := GX_E h
    have hA := GX_A h
    have h70 := GX_16 h
    have r12' : ∀ b, b ≠ 12 → ar2 b = ar b := fun b hb => e6 b (by simpa using hb)
    -- the reference takes the program over
    generalize hS3 : upd (upd S2 1 0) 2 (S2 8) = S3
    have R0 : rF_42 (nI k) S ar = o_b2 (rF_58 S3 (tkA ar2 S3 k)) (fun Se3 are3 => (o_b2 (rF_109 Se3 are3) (fun Se4 are4 => some ((are4 9 0), Se4, are4)))) := by
      rw [e1]
      unfold rF_42_136
      rw [e2, if_pos rfl, hS3, r_43 (by omega), ob2]
    have s3 : ∀ j, j ≠ 1 → j ≠ 2 → S3 j = S2 j := fun j j1 j2 => by rw [← hS3, up_n j2, up_n j1]
    have s3o : ∀ j, (9 ≤ j ∧ j ≤ 16) ∨ (20 ≤ j ∧ j ≠ 22) → S3 j = S j := fun j hj => by
      rw [s3 j (by omega) (by omega)]
      by_cases z : j ≤ 16
      · exact e8 j (by omega) z
      · exact e7 j (by omega) ((h9 j).mpr (by omega))
    have S16 : S3 16 = 0 := (s3o 16 (by omega)).trans (GX_S16 h)
    have S29 : S3 29 = -1 := (s3o 29 (by omega)).trans (GX_S29 h)
    have S38 : S3 38 = nI m := (s3o 38 (by omega)).trans ((GX_S h).2.1.trans hE.1.2.2.2.2.2.1)
    obtain ⟨⟨w1, w2⟩, w3, w4, w5, w6⟩ := e5
    generalize hAA : tkA ar2 S3 k = A at R0
    have Ao : ∀ b, b < 3 ∨ b = 5 ∨ 13 ≤ b → A b = ar b := fun b hb => by rw [← hAA, tkA_o (by omega)]; exact r12' b (by omega)
    have g2f : ∀ e x, g'.2.1 e = some x → x.1 ≤ 600 := fun e x hx => Nat.le_trans (w6 e x hx) (by omega)
    have G0 : gRf 0 k (t_fed ar k) g' A := by
      refine ⟨by decide, hx, by rw [← hAA]; exact tkA_8.1, fun q hq => ?_, gi, by omega, fun e he => ?_, ?_, ?_⟩
      · show _ = A 3 q
        rw [← hAA, tkA_3 hq, r12' 1 (by decide)]
        unfold t_fed
        rw [if_pos hq]
      · show A 6 e = _
        rw [← hAA, tkA_6 he]; exact w3 e he
      · rw [← hAA, tkA_10.1, s3 18 (by decide) (by decide)]; exact w4
      · rw [← hAA, tkA_11.1, s3 19 (by decide) (by decide)]; exact w5
    have G1 : gRf 1 n tx g A := by
      obtain ⟨a1, a2, a3, a4, a5, a6, a7, a8, a9⟩ := gRf_st hE.1.1 hA
      refine ⟨by decide, a2, by rw [← hAA, tkA_8.2, r12' 8 (by decide)]; exact a3, fun q hq => ?_, a5, a6, fun e he => ?_, ?_, ?_⟩
      · show _ = A 4 q
        have := a2.1
        rw [← hAA, tkA_4 (by omega), r12' 3 (by decide)]; exact a4 q hq
      · show A 7 e = _
        rw [← hAA, tkA_7 he, r12' 6 (by decide)]; exact a7 e he
      · rw [← hAA, tkA_10.2, r12' 10 (by decide)]; exact a8
      · rw [← hAA, tkA_11.2, r12' 11 (by decide)]; exact a9
    have wf' : wfG g' := wfG_pl 700 0 g0 g' wfG_0 hpl
    have FR : fR m A sc car := fR_F hE.1.2.2.2.2.2.2 (fun b b1 b2 => (Ao b (by omega)).trans (hA b (by omega)))
    -- ClickOrders
    have m0 : va_up mr 4 (mr 2) 0 = mr 0 := va_up_ne _ _ (by decide)
    have m1 : va_up mr 4 (mr 2) 1 = mr 1 := va_up_ne _ _ (by decide)
    have m2 : va_up mr 4 (mr 2) 2 = mr 2 := va_up_ne _ _ (by decide)
    rw [f1, ob5, if_pos rfl, m0, m1, m2, if_pos o2, if_pos o1, if_pos o3, if_pos o3, c_352, ob4] at C
    generalize hmr : va_up (va_up (va_up (va_up (va_up mr 4 (mr 2)) 1 (mr 0)) 0 (mr 2)) 2 (mr 1)) 3 (mr 2) = mr' at C
    have n0 : mr' 0 = mr 2 := by rw [← hmr]; rfl
    have n1' : mr' 1 = mr 0 := by rw [← hmr]; rfl
    have n2 : mr' 2 = mr 1 := by rw [← hmr]; rfl
    have n3 : mr' 3 = mr 2 := by rw [← hmr]; rfl
    generalize hs6 : scG (j_u2 (j_u2 (j_u2 sc4 734 11 0) 734 12 (sc4 756 6)) 734 13 (-1)) = sc6 at C
    have c6 : ∀ a q, a ≠ 734 → ¬ (a = 773 ∧ q = 16) → ¬ (a = 796 ∧ (q = 4 ∨ q = 5)) → ¬ (a = 759 ∧ q = 14) → sc6 a q = sc4 a q := fun a q z0 z1 z2 z3 => by
      rw [← hs6, scG_o z1 z2 z3]
      exact (if_neg (by omega)).trans ((if_neg (by omega)).trans (if_neg (by omega)))
    have c6o : ∀ a q, a ≠ 734 → a ≠ 756 → a ≠ mr 2 → ¬ (a = 773 ∧ q = 16) → ¬ (a = 796 ∧ (q = 4 ∨ q = 5)) → ¬ (a = 759 ∧ q = 14) → sc6 a q = sc a q := fun a q z0 zz zp z1 z2 z3 => (c6 a q z0 z1 z2 z3).trans (f3 a q zz (fun w => zp w.1))
    have z16 : sc6 773 16 = -1 := by rw [← hs6]; rfl
    have z4 : sc6 796 4 = -1 := by rw [← hs6]; rfl
    have z5 : sc6 796 5 = -1 := by rw [← hs6]; rfl
    have z13 : sc6 734 13 = -1 := by rw [← hs6]; rfl
    have z11 : sc6 734 11 = 0 := by rw [← hs6]; rfl
    have z12 : sc6 734 12 = -1 := by
      rw [← hs6]
      show sc4 756 6 = -1
      exact f2.2.2.2.2.2.2.2.2.2
    have fr6 : ∀ b, b ≤ 744 ∨ 756 ≤ b → car4 b = car b := fun b hb => f4 b (by omega) (by omega) (by omega)
    have GC : gCl (mr 2) g' sc6 car4 := gCl_at (gCl_G o3 f2) (fun q => c6 (mr 2) q (by omega) (by omega) (by omega) (by omega)) (fun _ _ _ => rfl)
    have ep : p = mr 0 := hE.1.2.2.2.1.symm.trans o7
    have GP : gCl p g sc6 car4 := gCl_at hE.1.2.1 (fun q => c6o p q (by omega) (by omega) (by omega) (by omega) (by omega) (by omega)) (fun b b1 b2 => f4 b (by omega) (by omega) (by omega))
    have HS : sR 0 k (t_fed ar k) g' (mr 2) m S3 A sc6 car4 mr' := ⟨G0, GC, wf', n3, S16, S38, FR.1, fun l hl => by rw [c6o 736 8 (by omega) (by omega) (by omega) (by omega) (by omega) (by omega)]; exact FR.2.1 l hl, fun l hl => by rw [c6o 736 7 (by omega) (by omega) (by omega) (by omega) (by omega) (by omega)]; exact FR.2.2.1 l hl, fun t l ht hl => by rw [fr6 741 (by omega)]; exact FR.2.2.2 t l ht hl⟩
    have h5 : sc6 757 5 = 0 := (c6o 757 5 (by omega) (by omega) (by omega) (by omega) (by omega) (by omega)).trans (GX_5 h)
    obtain ⟨S4, ar4, sc7, car7, a1, a2, a3, ⟨v1, v2⟩, u1, u2, u3, u4, u5⟩ := h_run0 (al := al) HS S16 S29 h5
    have HS2 : sR 0 k (t_fed ar k) g' (mr 2) m S4 ar4 sc7 car7 mr' := sR_lo (sR_st HS ⟨v1 16 (by omega) (by omega), v1 38 (by omega) (by omega), v1 29 (by omega) (by omega)⟩ (fun b hb => v2 b (by omega))) (fun a ha => funext fun j => u1 a j (by omega) (by omega)) (fun b hb => u2 b (by omega) (by omega) (by omega) (by omega))
    obtain ⟨vv, S5, ar5, sc8, car8, b1, b2, b3, b4, ⟨y1, y2⟩, ⟨y3, y4, y5, y6⟩, -⟩ := h_win (al := al) (b := 0) HS2 ((v1 16 (by omega) (by omega)).trans S16) ((v1 29 (by omega) (by omega)).trans S29) (by decide)
    have b2 : xF_248 (0 : Int32) sc7 mr' car7 al = some (vv, sc8, mr', car8, al) := b2
    have x44 : xF_244 sc7 mr' car7 al = some (j_u2 sc8 796 1 vv, mr', car8, al) := by
      unfold xF_244
      rw [b2, ob5]
    -- what is kept
    have k5 : ∀ j, (1 ≤ j ∧ j < 3) ∨ (9 ≤ j ∧ j ≤ 16) ∨ (18 ≤ j ∧ j ≤ 21) ∨ (29 ≤ j ∧ j ≠ 31 ∧ j ≠ 57) → S5 j = S3 j := fun j hj => (y1 j (by omega) (by omega)).trans (v1 j (by omega) (by omega))
    have k9 : ∀ b, b < 13 ∨ (61 ≤ b ∧ b < 714) ∨ 720 ≤ b → ar5 b = A b := fun b hb => (y2 b (by omega) (by omega)).trans (v2 b (by omega))
    have d9 : ∀ a q, ¬ (a = 757 ∧ 3 ≤ q ∧ q ≤ 9) → ¬ (a = 759 ∧ (q = 5 ∨ q = 14)) → ¬ (a = 796 ∧ q = 1) → (j_u2 sc8 796 1 vv) a q = sc6 a q := fun a q q1 q2 q3 => (if_neg q3).trans ((y3 a q q1).trans (u1 a q q1 q2))
    have d7 : ∀ b, b ≠ 758 → ¬ (761 ≤ b ∧ b ≤ 765) → b ≠ 769 → b ≠ 770 → b ≠ 798 → b ≠ 800 → b ≠ 802 → car8 b = car4 b := fun b q1 q2 q3 q4 q5 q6 q7 => (y4 b q1 q5 (by omega) (by omega)).trans (u2 b q1 q2 q3 q4)
    have steps : (j_u2 sc8 796 1 vv) (mr 2) 4 = ar5 9 0 := by
      rw [d9 (mr 2) 4 (by omega) (by omega) (by omega), c6 (mr 2) 4 (by omega) (by omega) (by omega) (by omega), f2.2.2.2.1.1, k9 9 (by omega), ← hAA, tkA_9.1, s3 17 (by decide) (by decide)]
      exact w1.symm
    have R : rF_42 (nI k) S ar = some (ar5 9 0, S5, ar5) := by rw [R0, a1, ob2, b1, ob2]
    rw [a2, ob4, x44, ob4, n0, if_pos o3, steps] at C
    have S50 : S5 0 = 0 := (y1 0 (by omega) (by omega)).trans ((v1 0 (by omega) (by omega)).trans ((s3 0 (by decide) (by decide)).trans e4))
    have E9 : cE 0 k (t_fed ar k) g' (mr 2) m S3 A (j_u2 sc8 796 1 vv) car8 mr' := ⟨sR_lo HS (fun a ha => funext fun j => d9 a j (by omega) (by omega) (by omega)) (fun b hb => d7 b (by omega) (by omega) (by omega) (by omega) (by omega) (by omega) (by omega)), S29, (if_neg (by omega)).trans y6⟩
    have t0 : tK 0 S5 ar5 (j_u2 sc8 796 1 vv) car8 al := tK_k a3 ⟨y1 31 (by omega) (by omega), fun b hb => y2 b (by omega) (by omega), (if_neg (by omega)).trans (y3 759 5 (by omega)), (if_neg (by omega)).trans (y3 759 14 (by omega)), fun b hb => y4 b (by omega) (by omega) (by omega) (by omega), rfl⟩
    obtain ⟨⟨L, hL⟩, -⟩ := h.2.2.2.1
    have hL2 : hM L (j_u2 sc8 796 1 vv) car8 := by
      obtain ⟨l1, l2, l3, l4, l5, l6⟩ := hL
      have q775 : car8 775 = car 775 := (d7 775 (by omega) (by omega) (by omega) (by omega) (by omega) (by omega) (by omega)).trans (fr6 775 (by omega))
      have q776 : car8 776 = car 776 := (d7 776 (by omega) (by omega) (by omega) (by omega) (by omega) (by omega) (by omega)).trans (fr6 776 (by omega))
      have q777 : car8 777 = car 777 := (d7 777 (by omega) (by omega) (by omega) (by omega) (by omega) (by omega) (by omega)).trans (fr6 777 (by omega))
      exact ⟨(d9 774 0 (by omega) (by omega) (by omega)).trans ((c6o 774 0 (by omega) (by omega) (by omega) (by omega) (by omega) (by omega)).trans l1), l2, l3, by rw [q775]; exact l4, l5, by rw [q776, q777]; exact l6⟩
    obtain ⟨⟨td1, td2, td3, td4⟩, td5, td6, td7, td8⟩ := h.2.2.1
    have c736 : ∀ q, (j_u2 sc8 796 1 vv) 736 q = sc 736 q := fun q => (d9 736 q (by omega) (by omega) (by omega)).trans (c6o 736 q (by omega) (by omega) (by omega) (by omega) (by omega) (by omega))
    have cfo : ∀ b, 737 ≤ b → b ≤ 741 → car8 b = car b := fun b b1 b2 => (d7 b (by omega) (by omega) (by omega) (by omega) (by omega) (by omega) (by omega)).trans (fr6 b (by omega))
    have Afo : ∀ b, 102 ≤ b → b ≤ 106 → A b = ar0 b := fun b b1 b2 => (Ao b (by omega)).trans (hA b (by omega))
    refine ⟨_, _, _, _, _, _, _, R, S50, C, GX_R (S0 := S3) (ar0 := A) (n := k) (tx := t_fed ar k) (g := g') (p := mr 2) (m := m) (s := s) (nr := 0) (cs := cs) ⟨⟨E9, S16, ⟨k5 16 (by omega), k5 38 (by omega), k5 29 (by omega)⟩, fun b hb => k9 b (by omega), ⟨hm.1, (c736 5).trans hm.2.1, fun i hi => ?_⟩, ⟨hO.1, (c736 6).trans hO.2.1, fun i hi => ?_⟩⟩, ⟨t0, fun i hi => absurd hi (by omega), Or.inl ((if_neg (by omega)).trans ((y3 759 14 (by omega)).trans u4))⟩, ⟨⟨(k5 51 (by omega)).trans ((s3o 51 (by omega)).trans td1), by rw [k9 711 (by omega), Ao 711 (by omega)]; exact td2, td3, td4⟩, ⟨(d9 819 1 (by omega) (by omega) (by omega)).trans ((c6o 819 1 (by omega) (by omega) (by omega) (by omega) (by omega) (by omega)).trans td5), by rw [d7 820 (by omega) (by omega) (by omega) (by omega) (by omega) (by omega) (by omega), fr6 820 (by omega)]; exact td6, td7, td8⟩⟩, ⟨⟨L, hL2⟩, Or.inl ((d9 773 16 (by omega) (by omega) (by omega)).trans z16)⟩, ⟨b4, b3.trans u2_eq.symm, 0, by omega, by rw [d9 796 5 (by omega) (by omega) (by omega), z5]; decide, Or.inl ⟨(d9 796 4 (by omega) (by omega) (by omega)).trans z4, fun d hd => absurd hd (by omega)⟩⟩, Or.inl ((d9 734 13 (by omega) (by omega) (by omega)).trans z13), ⟨?_, steps, ?_⟩, ⟨by rw [n0]; exact o3, by rw [n1']; exact o1, by rw [n2]; exact o2, by rw [n0, n1']; exact fun z => o5 z.symm, by rw [n0, n2]; exact fun z => o6 z.symm, by rw [n1', n2]; exact o4, by rw [n3, n0], n, tx, g, gRf_st G1 (fun b hb => k9 b (by omega)), ?_, hE.1.2.2.1⟩, ⟨0, by omega, (k5 1 (by omega)).trans (by rw [← hS3]; rfl), (d9 734 11 (by omega) (by omega) (by omega)).trans z11, fun q hq => absurd hq (by omega), fun q hq => ?_, ?_⟩⟩⟩
    · rw [cfo 737 (by omega) (by omega), cfo 738 (by omega) (by omega), cfo 739 (by omega) (by omega), cfo 740 (by omega) (by omega), Afo 102 (by omega) (by omega), Afo 103 (by omega) (by omega), Afo 104 (by omega) (by omega), Afo 105 (by omega) (by omega)]
      exact hm.2.2 i hi
    · rw [Afo 106 (by omega) (by omega)]; exact hO.2.2 i hi
    · rw [d9 (mr 2) 6 (by omega) (by omega) (by omega), c6 (mr 2) 6 (by omega) (by omega) (by omega) (by omega)]; exact f2.2.2.1
    · rw [d9 (mr 2) 5 (by omega) (by omega) (by omega), c6 (mr 2) 5 (by omega) (by omega) (by omega) (by omega), f2.2.2.2.2.2.1, k9 6 (by omega), hN_Cn (h := g'.2.1) (fun e he => by rw [← hAA, tkA_6 he]; exact w3 e he) g2f 17 (Nat.le_refl _)]
    · rw [n1', ← ep]
      exact gCl_at GP (fun q => d9 p q (by omega) (by omega) (by omega)) (fun b z1 z2 => d7 b (by omega) (by omega) (by omega) (by omega) (by omega) (by omega) (by omega))
    · rw [k9 1 (by omega), Ao 1 (by omega)]; exact t5 q hq
    · rw [d9 734 12 (by omega) (by omega) (by omega), z12, k5 2 (by omega), ← hS3]
      exact e3
theorem q_program_t {x : Int32} {tp : Nat} (h : GR S ar sc car mr al) (t1 : tp ≤ 600) (t2 : S 1 = nI tp) (hx : x < 0 ∨ ¬ x < nI (tp + 1)) : qT 1 sc car mr al (rF_42 x S ar) := by
  refine ⟨0, upd (upd S 0 0) 0 1, ar, ?_, q_b0, GR_0 (GR_0 h 0) 1⟩
  unfold rF_42
  rw [t2, q_out (q_gt (by omega) hx), ob3, if_pos rfl]
  unfold rF_42_23
  rw [q_bad (by decide), ob3, if_neg (by decide)]
end PG
