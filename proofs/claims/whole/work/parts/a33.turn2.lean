/-! A crossing turned: the steps, in the reference. -/
section TS
variable {S0 : Nat → Int32} {ar0 : jSc} {S : Nat → Int32} {ar : jSc} {sc car : jSc} {mr : Nat → Nat} {al : jAl} {pr nn0 p m n : Nat} {tx : Nat → Int32} {g : pG} {W : Nat → Nat → Bool}
theorem bq_t {A : Type} {a b : A} : (if true = true then a else b) = a := rfl
theorem bq_f {A : Type} {a b : A} : (if false = true then a else b) = b := rfl
theorem aRow_cons {P : Nat → Int32} {c : Nat} {l : List Nat} : aRow S0 ar0 m (c :: l) P = aRow S0 ar0 m l (aAg S0 ar0 m P c) := rfl
theorem aStg_cons {T : Nat → Nat → Int32} {P : Nat → Int32} {c : Nat} {l : List Nat} : aStg S0 ar0 m T n (c :: l) P = if aCan ar0 m P c = true then (!aSB T (aSt S0 ar0 P c) n || aStg S0 ar0 m T n l (aSt S0 ar0 P c)) else aStg S0 ar0 m T n l P := rfl
theorem bi_or {a b : Bool} : (if (a || b) = true then (1 : Int32) else 0) = if b = true then 1 else (if a = true then 1 else 0) := by cases a <;> cases b <;> rfl
/-- one step: what comes is looked at -/
theorem r_196 (hE : cE pr nn0 tx g p m S0 ar0 sc car mr) (hn : n ≤ 40) (h31 : S 31 = nI n) {T : Nat → Nat → Int32} (hT : ∀ s, s ≤ n → ∀ k, k < 10 → ar (20 + s) k = T s k) {P : Nat → Int32} (hW : rW S0 ar0 S ar P) {k162 : Int32 → Int32 → Int32 → Int32 → Int32 → (Nat → Int32) → jSc → Option (Int32 × (Nat → Int32) × jSc)} {x3 x4 x5 : Int32} {st : Bool} {k : Nat} {came : Bool} : rF_81_196 k162 x3 x4 x5 (if st = true then 1 else 0) (nI k) (if came = true then 1 else 0) S ar = k162 x3 x4 x5 (if (st || (came && !aSB T P n)) = true then 1 else 0) (nI (k + 1)) S ar := by
  have e : aSB (fun s => ar (20 + s)) (ar 13) n = aSB T P n := aSB_c hT (fun k hk => by rw [← hW.2.2.1, c38_k (by omega)])
  unfold rF_81_196
  rw [nI_1, r_isst hn h31, ob3, e]
  cases came
  · rw [bq_f, if_pos rfl, Bool.false_and, Bool.or_false]
  · rw [bq_t, if_neg (show ¬ (1 : Int32) = 0 by decide), Bool.true_and]
    cases aSB T P n
    · rw [bq_f, if_pos rfl, Bool.not_false, Bool.or_true, bq_t]
    · rw [bq_t, if_neg (show ¬ (1 : Int32) = 0 by decide), Bool.not_true, Bool.or_false]
/-- some steps, none of them at the turned place -/
theorem r_162 (hE : cE pr nn0 tx g p m S0 ar0 sc car mr) (hn : n ≤ 40) {T : Nat → Nat → Int32} {N tA : Nat} (hN : N ≤ 40) (htA : tA < 40) {x5 : Int32} : ∀ (cs : List Nat) (k nn : Nat) (st : Bool) (S : Nat → Int32) (ar : jSc) (P : Nat → Int32), (∀ c ∈ cs, c < 13) → k + cs.length ≤ N → cs.length < nn → (∀ q, k ≤ q → q < k + cs.length → q ≠ tA) → S 31 = nI n → (∀ s, s ≤ n → ∀ k, k < 10 → ar (20 + s) k = T s k) → rl (ar 712) k cs → rW S0 ar0 S ar P →
    ∃ S9 ar9 nn2, rF_81_162 nn (nI N) (nI tA) x5 (if st = true then 1 else 0) (nI k) S ar = rF_81_162 nn2 (nI N) (nI tA) x5 (if (st || aStg S0 ar0 m T n cs P) = true then 1 else 0) (nI (k + cs.length)) S9 ar9 ∧ nn2 + cs.length = nn ∧ rW S0 ar0 S9 ar9 (aRow S0 ar0 m cs P) ∧ rH S ar S9 ar9 := by
  intro cs
  induction cs with
  | nil =>
    intro k nn st S ar P _ h1 h2 _ h31 _ _ hW
    exact ⟨S, ar, nn, by rw [show aStg S0 ar0 m T n [] P = false from rfl, Bool.or_false]; rfl, rfl, hW, rH_rf S ar⟩
  | cons c r ih =>
    intro k nn st S ar P hc h1 h2 hq h31 hT hr hW
    simp only [List.length_cons] at h1 h2 hq
    obtain ⟨nn, rfl⟩ : ∃ i, nn = i + 1 := ⟨nn - 1, by omega⟩
    have c13 := hc c List.mem_cons_self
    obtain ⟨S1, ar1, e1, e2, e3⟩ := rW_again hE hW c13
    have h31' : S1 31 = nI n := (e3.1.1 31 (by decide)).trans h31
    have hT' : ∀ s, s ≤ n → ∀ k, k < 10 → ar1 (20 + s) k = T s k := fun s hs k hk => by rw [e3.2 (20 + s) (by omega)]; exact hT s hs k hk
    have hne : ¬ nI k = nI tA := fun w => hq k (Nat.le_refl _) (by omega) ((nI_eq (by omega) (by omega)).mp w)
    have := r_196 hE hn h31' hT' e2 (k162 := fun x3_ x4_ x5_ x6_ x7_ S_ ar_ => rF_81_162 nn x3_ x4_ x5_ x6_ x7_ S_ ar_) (x3 := nI N) (x4 := nI tA) (x5 := x5) (st := st) (k := k) (came := aCan ar0 m P c)
    have hd : rF_81_162 (nn + 1) (nI N) (nI tA) x5 (if st = true then 1 else 0) (nI k) S ar = rF_81_162 nn (nI N) (nI tA) x5 (if (st || (aCan ar0 m P c && !aSB T (aAg S0 ar0 m P c) n)) = true then 1 else 0) (nI (k + 1)) S1 ar1 := by
      rw [rF_81_162]
      rw [if_neg (nI_ge (by omega) (by omega)), if_pos (iB_nI (show k < 40 by omega) (by decide)), iN_nI (by omega), hr.1, e1, ob3, if_neg hne]
      exact this
    obtain ⟨S9, ar9, nn2, f1, f2, f3, f4⟩ := ih (k + 1) nn (st || (aCan ar0 m P c && !aSB T (aAg S0 ar0 m P c) n)) S1 ar1 _ (fun x hx => hc x (List.mem_cons_of_mem _ hx)) (by omega) (by omega) (fun q a b => hq q (by omega) (by omega)) h31' hT' (by rw [e3.2 712 (by decide)]; exact hr.2) e2
    refine ⟨S9, ar9, nn2, ?_, by simp only [List.length_cons]; omega, f3, rH_tr e3 f4⟩
    rw [hd, f1]
    have es : (st || aStg S0 ar0 m T n (c :: r) P) = ((st || (aCan ar0 m P c && !aSB T (aAg S0 ar0 m P c) n)) || aStg S0 ar0 m T n r (aAg S0 ar0 m P c)) := by
      rw [Bool.or_assoc]
      congr 1
      show (if aCan ar0 m P c = true then _ else _) = _
      by_cases z : aCan ar0 m P c = true
      · rw [if_pos z, aAg_y z, z, Bool.true_and]
      · rw [if_neg z, aAg_n z]
        simp only [Bool.not_eq_true] at z
        rw [z, Bool.false_and, Bool.false_or]
    rw [es, show k + (c :: r).length = k + 1 + r.length by simp only [List.length_cons]; omega]
theorem r_250 {P : Nat → Int32} {R : Nat → Int32} {st : Bool} (hP : ∀ k, k < 38 → ar 13 k = P k) (hR : ∀ k, k < 38 → ar 14 k = R k) : rF_81_250 oF (if st = true then 1 else 0) 0 S ar = some (nI (if eqN P R 38 = true then (if st = true then 2 else 1) else 3), S, ar) := by
  have go : ∀ r k nn, k + r = 38 → r < nn → (∀ q, q < k → P q = R q) → rF_81_250 nn (if st = true then 1 else 0) (nI k) S ar = some (nI (if eqN P R 38 = true then (if st = true then 2 else 1) else 3), S, ar) := by
    intro r
    induction r with
    | zero =>
      intro k nn h1 h2 h3
      obtain ⟨nn, rfl⟩ : ∃ j, nn = j + 1 := ⟨nn - 1, by omega⟩
      unfold rF_81_250
      rw [if_pos (show (38 : Int32) ≤ nI k from nI_le (a := 38) (by omega) (by omega)), if_pos (eqN_i.mpr (fun q hq => h3 q (by omega)))]
      cases st
      · rfl
      · rfl
    | succ r ih =>
      intro k nn h1 h2 h3
      obtain ⟨nn, rfl⟩ : ∃ j, nn = j + 1 := ⟨nn - 1, by omega⟩
      unfold rF_81_250
      rw [if_neg (show ¬ (38 : Int32) ≤ nI k from nI_ge (b := 38) (by omega) (by decide)), if_pos (iB_nI (show k < 53 by omega) (by decide)), if_pos (iB_nI (show k < 53 by omega) (by decide)), iN_nI (by omega), hP k (by omega), hR k (by omega), nI_1]
      by_cases z : P k = R k
      · rw [if_pos z]
        refine ih (k + 1) nn (by omega) (by omega) (fun q hq => ?_)
        by_cases y : q = k
        · subst y; exact z
        · exact h3 q (by omega)
      · rw [if_neg z, if_neg (fun y => z (eqN_i.mp y k (by omega)))]; rfl
  exact go 38 0 oF (by omega) (by unfold oF; omega) (fun q hq => absurd hq (by omega))
/-- a crossing turned -/
theorem r_turned (hE : cE pr nn0 tx g p m S0 ar0 sc car mr) (hS : stS S0 S) (hA : stA ar0 ar) (h16 : S0 16 = 0) (hn : n ≤ 40) (h31 : S 31 = nI n) {i j : Nat} (hi : i < j) (hj : j < n) (ho : oF9 n ar W) (hco : ∀ i, i < n → ∃ c, c < 13 ∧ ar 15 i = nI c) : ∃ S9 ar9, rF_81 (nI i) (nI j) S ar = some (nI (aTu S0 ar0 m ar W n i j), S9, ar9) ∧ rF8 S S9 ∧ ∀ b, b ≠ 13 → b ≠ 712 → ar9 b = ar b := by
  have len := aP_len (W := W) hi hj
  have S16 : S 16 = 0 := hS.1.trans h16
  obtain ⟨a0, e1, e2, e3⟩ := r_t0 hn h31 hi hj ho hco
  have hA0 : stA ar0 a0 := stA_tr hA (fun b hb => e2 b (by omega))
  obtain ⟨S1, ar1, b1, b2, b3⟩ := rW_beg hE hS hA0
  rw [e1, up_16 S16, b1, ob2]
  have cd13 : ∀ l : List Nat, (∀ x ∈ l, x < n) → ∀ c ∈ cds ar l, c < 13 := by
    intro l hl c hc
    obtain ⟨x, hx, rfl⟩ := List.mem_map.mp hc
    obtain ⟨d, hd, e⟩ := hco x (hl x hx)
    show iN (ar 15 x) < 13
    rw [e, iN_nI (by omega)]; exact hd
  have m1 := cd13 (aPr W i j) (fun x hx => by have := aPr_m hi hx; omega)
  have m2 := cd13 (aPo W n i j) (fun x hx => aPo_m hi hj hx)
  have mj : iN (ar 15 j) < 13 := by
    obtain ⟨d, hd, e⟩ := hco j hj
    rw [e, iN_nI (by omega)]; exact hd
  rw [cds_app] at e3
  have e3' := rl_app.mp e3
  rw [cds_len, Nat.zero_add] at e3'
  obtain ⟨q1, q2⟩ := e3'
  have q2' : a0 712 (aPr W i j).length = nI (iN (ar 15 j)) ∧ rl (a0 712) ((aPr W i j).length + 1) (cds ar (aPo W n i j)) := q2
  have T0 : ∀ s, s ≤ n → ∀ k, k < 10 → ar1 (20 + s) k = (fun s => ar (20 + s)) s k := fun s hs k hk => by rw [b3.2 (20 + s) (by omega), e2 (20 + s) (by omega)]
  have r712 : ar1 712 = a0 712 := b3.2 712 (by decide)
  obtain ⟨S2, ar2, nn2, f1, f2, f3, f4⟩ := r_162 (T := fun s => ar (20 + s)) hE hn (N := n) (tA := (aPr W i j).length) hn (by omega) (x5 := 0) (cds ar (aPr W i j)) 0 oF false S1 ar1 _ m1 (by rw [cds_len]; omega) (by rw [cds_len]; unfold oF; omega) (fun q _ b => by rw [cds_len] at b; omega) ((b3.1.1 31 (by decide)).trans h31) T0 (by rw [r712]; exact q1) b2
  rw [cds_len] at f1 f2
  rw [Nat.zero_add, Bool.false_or, if_neg (show ¬ false = true by decide)] at f1
  rw [show nI 0 = (0 : Int32) from rfl] at f1
  rw [f1]
  obtain ⟨nn2, rfl⟩ : ∃ j, nn2 = j + 1 := ⟨nn2 - 1, by unfold oF at f2; omega⟩
  -- at the turned place
  generalize hP1 : aRow S0 ar0 m (cds ar (aPr W i j)) (aB0 S0 ar0) = P1 at f3
  obtain ⟨S3, ar3, g1, g2, g3⟩ := rW_again hE f3 mj
  have h2 : S2 31 = nI n := (f4.1.1 31 (by decide)).trans ((b3.1.1 31 (by decide)).trans h31)
  have h3 : S3 31 = nI n := (g3.1.1 31 (by decide)).trans h2
  have T2 : ∀ s, s ≤ n → ∀ k, k < 10 → ar2 (20 + s) k = (fun s => ar (20 + s)) s k := fun s hs k hk => by rw [f4.2 (20 + s) (by omega)]; exact T0 s hs k hk
  have T3 : ∀ s, s ≤ n → ∀ k, k < 10 → ar3 (20 + s) k = (fun s => ar (20 + s)) s k := fun s hs k hk => by rw [g3.2 (20 + s) (by omega)]; exact T2 s hs k hk
  have r712' : ar2 712 = a0 712 := (f4.2 712 (by decide)).trans r712
  generalize hs1 : aStg S0 ar0 m (fun s => ar (20 + s)) n (cds ar (aPr W i j)) (aB0 S0 ar0) = s1
  generalize hb : aCan ar0 m P1 (iN (ar 15 j)) = b at g1
  have t1 := r_196 hE hn h3 T3 g2 (k162 := fun x3_ x4_ x5_ x6_ x7_ S_ ar_ => rF_81_162 nn2 x3_ x4_ x5_ x6_ x7_ S_ ar_) (x3 := nI n) (x4 := nI (aPr W i j).length) (x5 := if b = true then 0 else 1) (st := s1) (k := (aPr W i j).length) (came := b)
  have hd : rF_81_162 (nn2 + 1) (nI n) (nI (aPr W i j).length) 0 (if s1 = true then 1 else 0) (nI (aPr W i j).length) S2 ar2 = rF_81_162 nn2 (nI n) (nI (aPr W i j).length) (if b = true then 0 else 1) (if (s1 || (b && !aSB (fun s => ar (20 + s)) (aAg S0 ar0 m P1 (iN (ar 15 j))) n)) = true then 1 else 0) (nI ((aPr W i j).length + 1)) S3 ar3 := by
    rw [rF_81_162]
    rw [if_neg (nI_ge (by omega) (by omega)), if_pos (iB_nI (show (aPr W i j).length < 40 by omega) (by decide)), iN_nI (by omega), r712', q2'.1, g1, ob3, if_pos rfl]
    rw [← t1]
    cases b
    · rw [if_pos (show (if false = true then (1 : Int32) else 0) = 0 from rfl)]
      rfl
    · rw [if_neg (show ¬ (if true = true then (1 : Int32) else 0) = 0 by decide)]
      rfl
  rw [hd]
  obtain ⟨S4, ar4, nn4, k1, k2, k3, k4⟩ := r_162 (T := fun s => ar (20 + s)) hE hn (N := n) (tA := (aPr W i j).length) hn (by omega) (x5 := if b = true then 0 else 1) (cds ar (aPo W n i j)) ((aPr W i j).length + 1) nn2 (s1 || (b && !aSB (fun s => ar (20 + s)) (aAg S0 ar0 m P1 (iN (ar 15 j))) n)) S3 ar3 _ m2 (by rw [cds_len]; omega) (by rw [cds_len]; unfold oF at f2; omega) (fun q a b => by omega) h3 T3 (by rw [g3.2 712 (by decide), r712']; exact q2'.2) g2
  rw [cds_len] at k1 k2
  rw [show (aPr W i j).length + 1 + (aPo W n i j).length = n from len] at k1
  obtain ⟨nn4, rfl⟩ : ∃ j, nn4 = j + 1 := ⟨nn4 - 1, by unfold oF at f2; omega⟩
  rw [k1, rF_81_162, if_pos (nI_le (Nat.le_refl _) (by omega))]
  have R4 : rF8 S S4 := rF8_tr b3.1 (rF8_tr f4.1 (rF8_tr g3.1 k4.1))
  have N4 : ∀ b, b ≠ 13 → b ≠ 712 → ar4 b = ar b := fun b hb hb2 => by rw [k4.2 b hb, g3.2 b hb, f4.2 b hb, b3.2 b hb, e2 b hb2]
  refine ⟨S4, ar4, ?_, R4, N4⟩
  have P13 : ∀ k, k < 38 → ar4 13 k = aRow S0 ar0 m (cds ar (aPo W n i j)) (aAg S0 ar0 m P1 (iN (ar 15 j))) k := fun k hk => by rw [← k3.2.2.1, c38_k hk]
  have R14 : ∀ k, k < 38 → ar4 14 k = ar 14 k := fun k _ => by rw [N4 14 (by decide) (by decide)]
  have er : aRow S0 ar0 m (cds ar (aPr W i j) ++ iN (ar 15 j) :: cds ar (aPo W n i j)) (aB0 S0 ar0) = aRow S0 ar0 m (cds ar (aPo W n i j)) (aAg S0 ar0 m P1 (iN (ar 15 j))) := by
    rw [aRow_app, hP1, aRow_cons]
  unfold aTu aTn
  rw [hP1, hb]
  cases b
  · rw [bq_f, if_neg (show ¬ (1 : Int32) = 0 by decide), bq_f, show nI 0 = (0 : Int32) from rfl]
  · rw [bq_t, if_pos (show (0 : Int32) = 0 from rfl), bq_t, P13 37 (by decide), R14 37 (by decide), er, r_250 P13 R14]
    have es : aStg S0 ar0 m (fun s => ar (20 + s)) n (cds ar (aPr W i j) ++ iN (ar 15 j) :: cds ar (aPo W n i j)) (aB0 S0 ar0) = (s1 || (true && !aSB (fun s => ar (20 + s)) (aAg S0 ar0 m P1 (iN (ar 15 j))) n) || aStg S0 ar0 m (fun s => ar (20 + s)) n (cds ar (aPo W n i j)) (aAg S0 ar0 m P1 (iN (ar 15 j)))) := by
      rw [aStg_app, hs1, hP1, Bool.or_assoc, Bool.true_and]
      rw [aStg_cons, if_pos hb, aAg_y hb]
    rw [es]
    by_cases z : aRow S0 ar0 m (cds ar (aPo W n i j)) (aAg S0 ar0 m P1 (iN (ar 15 j))) 37 = 1
    · rw [if_pos z]
      by_cases y : ar 14 37 = 0
      · rw [if_pos y, if_pos ⟨z, y⟩]; rfl
      · rw [if_neg y, if_neg (show ¬ (aRow S0 ar0 m (cds ar (aPo W n i j)) (aAg S0 ar0 m P1 (iN (ar 15 j))) 37 = 1 ∧ ar 14 37 = 0) from fun x => y x.2)]
    · rw [if_neg z, if_neg (show ¬ (aRow S0 ar0 m (cds ar (aPo W n i j)) (aAg S0 ar0 m P1 (iN (ar 15 j))) 37 = 1 ∧ ar 14 37 = 0) from fun x => z x.1)]
end TS
