/-! A crossing turned, in ClickOrders: its answer. -/
section CU
variable {S0 : Nat → Int32} {ar0 : jSc} {S : Nat → Int32} {ar : jSc} {sc car : jSc} {mr : Nat → Nat} {al : jAl} {pr nn0 p m n : Nat} {tx : Nat → Int32} {g : pG}
theorem c_same {a b : Nat} {T Q : Nat → Int32} (ha : a < 40) (hb : b < 41) (hQ : ∀ k, k < 10 → car 771 (a * 10 + k) = Q k) (hT : ∀ k, k < 10 → car 770 (b * 10 + k) = T k) : xF_309 (nI (a * 10)) (nI (b * 10)) sc mr car al = some (if eqN T Q 10 = true then 1 else 0, sc, mr, car, al) := by
  have go : ∀ r k nn, k + r = 10 → r < nn → (∀ q, q < k → T q = Q q) → xF_309_2 nn (nI (a * 10)) (nI (b * 10)) (nI k) sc mr car al = some (if eqN T Q 10 = true then 1 else 0, sc, mr, car, al) := by
    intro r
    induction r with
    | zero =>
      intro k nn h1 h2 h3
      obtain ⟨nn, rfl⟩ : ∃ j, nn = j + 1 := ⟨nn - 1, by omega⟩
      unfold xF_309_2
      rw [if_pos (show (10 : Int32) ≤ nI k from nI_le (a := 10) (by omega) (by omega)), if_pos (eqN_i.mpr (fun q hq => h3 q (by omega)))]
    | succ r ih =>
      intro k nn h1 h2 h3
      obtain ⟨nn, rfl⟩ : ∃ j, nn = j + 1 := ⟨nn - 1, by omega⟩
      unfold xF_309_2
      rw [if_neg (show ¬ (10 : Int32) ≤ nI k from nI_ge (b := 10) (by omega) (by decide)), nI_add, nI_add, if_pos (iB_nI (show a * 10 + k < 400 by omega) (by decide)), if_pos (iB_nI (show b * 10 + k < 410 by omega) (by decide)), iN_nI (by omega), iN_nI (by omega), hQ k (by omega), hT k (by omega), nI_1]
      by_cases z : Q k = T k
      · rw [if_pos z]
        refine ih (k + 1) nn (by omega) (by omega) (fun q hq => ?_)
        by_cases y : q = k
        · subst y; exact z.symm
        · exact h3 q (by omega)
      · rw [if_neg z, if_neg (fun y => z (eqN_i.mp y k (by omega)).symm)]
  exact go 10 0 oF (by omega) (by unfold oF; omega) (fun q hq => absurd hq (by omega))
/-- isStrange -/
theorem c_strange {V : List (Nat → Int32)} {T : Nat → Nat → Int32} (hn : n ≤ 40) (h5 : sc 759 5 = nI n) (hv : vKs V sc car) (hl : V.length ≤ 40) (hT : ∀ s, s ≤ n → ∀ k, k < 10 → car 770 (s * 10 + k) = T s k) : xF_308 sc mr car al = some (if V.any (fun Q => !aSB T Q n) = true then 1 else 0, sc, mr, car, al) := by
  have inner : ∀ (k2 : Int32 → jSc → (Nat → Nat) → jSc → jAl → Option (Int32 × jSc × (Nat → Nat) × jSc × jAl)) (i : Nat) (Q : Nat → Int32), V[i]? = some Q → i < 40 → ∀ r s nn (x2 : Int32), s + r = n + 1 → r < nn → iV x2 (∃ q, q < s ∧ eqN (T q) Q 10 = true) → xF_308_14 k2 nn (nI i) x2 (nI s) sc mr car al = if aSB T Q n = true then k2 (nI (i + 1)) sc mr car al else some ((1 : Int32), sc, mr, car, al) := by
    intro k2 i Q hQ hi r
    induction r with
    | zero =>
      intro s nn x2 h1 h2 h3
      obtain ⟨nn, rfl⟩ : ∃ j, nn = j + 1 := ⟨nn - 1, by omega⟩
      unfold xF_308_14
      rw [h5, if_pos (nI_lt (by omega) (by omega)), nI_1]
      have w := iV_0 h3
      by_cases z : aSB T Q n = true
      · obtain ⟨q, a, b⟩ := aSB_i.mp z
        rw [if_pos z, if_neg (fun y => w.mp y ⟨q, by omega, eqN_i.mpr b⟩)]
      · rw [if_neg z, if_pos (w.mpr (fun ⟨q, a, b⟩ => z (aSB_i.mpr ⟨q, by omega, eqN_i.mp b⟩)))]
    | succ r ih =>
      intro s nn x2 h1 h2 h3
      obtain ⟨nn, rfl⟩ : ∃ j, nn = j + 1 := ⟨nn - 1, by omega⟩
      have ns : ¬ nI n < nI s := fun w => absurd ((nI_ltI (by omega) (by omega)).mp w) (by omega)
      have w := iV_0 h3
      unfold xF_308_14
      rw [h5, if_neg ns, nI_1, nI_1, show nI i * (10 : Int32) = nI (i * 10) from nI_mul i 10, show nI s * (10 : Int32) = nI (s * 10) from nI_mul s 10]
      by_cases z : x2 = 0
      · rw [if_pos z, c_same (T := T s) (Q := Q) hi (by omega) (fun k hk => hv.2 i Q hQ k hk) (fun k hk => hT s (by omega) k hk), ob5]
        refine ih (s + 1) nn _ (by omega) (by omega) ?_
        by_cases y : eqN (T s) Q 10 = true
        · rw [if_pos y]; exact Or.inl ⟨⟨s, by omega, y⟩, rfl⟩
        · rw [if_neg y]
          refine Or.inr ⟨fun ⟨q, a, b⟩ => ?_, rfl⟩
          by_cases x : q = s
          · subst x; exact y b
          · exact w.mp z ⟨q, by omega, b⟩
      · have hz : ∃ q, q < s ∧ eqN (T q) Q 10 = true := Classical.byContradiction fun y => z (w.mpr y)
        obtain ⟨q, a, b⟩ := hz
        rw [if_neg z, if_neg z, if_pos (aSB_i.mpr ⟨q, by omega, eqN_i.mp b⟩)]
  have go : ∀ (V2 : List (Nat → Int32)) (i nn : Nat), i + V2.length = V.length → (∀ q, V2[q]? = V[i + q]?) → V2.length < nn → xF_308_2 nn (nI i) sc mr car al = some (if V2.any (fun Q => !aSB T Q n) = true then 1 else 0, sc, mr, car, al) := by
    intro V2
    induction V2 with
    | nil =>
      intro i nn h1 h2 h3
      obtain ⟨nn, rfl⟩ : ∃ j, nn = j + 1 := ⟨nn - 1, by simp at h3; omega⟩
      simp only [List.length_nil] at h1
      unfold xF_308_2
      rw [hv.1, if_pos (nI_le (by omega) (by omega))]
      rfl
    | cons Q V2 ih =>
      intro i nn h1 h2 h3
      simp only [List.length_cons] at h1 h3
      obtain ⟨nn, rfl⟩ : ∃ j, nn = j + 1 := ⟨nn - 1, by omega⟩
      have hQ : V[i]? = some Q := by
        have := h2 0
        simp only [List.getElem?_cons_zero, Nat.add_zero] at this
        exact this.symm
      have nx : ∀ q, V2[q]? = V[i + 1 + q]? := fun q => by
        have := h2 (q + 1)
        simp only [List.getElem?_cons_succ] at this
        rw [this, show i + (q + 1) = i + 1 + q by omega]
      have t := inner (fun x1_ sc_ mr_ ar_ al_ => xF_308_2 nn x1_ sc_ mr_ ar_ al_) i Q hQ (by omega) (n + 1) 0 oF 0 (by omega) (by unfold oF; omega) (Or.inr ⟨fun ⟨q, a, _⟩ => absurd a (by omega), rfl⟩)
      rw [show nI 0 = (0 : Int32) from rfl] at t
      unfold xF_308_2
      rw [hv.1, if_neg (nI_ge (by omega) (by omega)), t, List.any_cons]
      cases z : aSB T Q n
      · rw [if_neg (by decide), Bool.not_false, Bool.true_or, if_pos rfl]
      · rw [if_pos rfl, Bool.not_true, Bool.false_or]
        exact ih (i + 1) nn (by omega) nx (by omega)
  exact go V 0 oF (by omega) (fun q => by rw [Nat.zero_add]) (by unfold oF; omega)
theorem c_alike {P R : Nat → Int32} (hP : pgR P (car 767)) (hR : pgR R (car 761)) : xF_227 766 760 sc mr car al = some (if eqN P R 38 = true then 1 else 0, sc, mr, car, al) := by
  have key : (∀ k, k < 35 → car 767 k = car 761 k) ↔ eqN P R 38 = true := by
    rw [eqN_i]
    constructor
    · intro h k hk
      exact c38_i (pgR_det (pgR_C hP (fun k hk => (h k hk).symm)) hR) hk
    · intro h k hk
      exact pgR_det2 hP hR (c38_e h) k hk
  have go : ∀ r k nn, k + r = 35 → r < nn → (∀ q, q < k → car 767 q = car 761 q) → xF_227_2 nn 766 760 (nI k) sc mr car al = some (if eqN P R 38 = true then 1 else 0, sc, mr, car, al) := by
    intro r
    induction r with
    | zero =>
      intro k nn h1 h2 h3
      obtain ⟨nn, rfl⟩ : ∃ j, nn = j + 1 := ⟨nn - 1, by omega⟩
      unfold xF_227_2
      rw [if_pos (show (35 : Int32) ≤ nI k from nI_le (a := 35) (by omega) (by omega)), if_pos (key.mp (fun q hq => h3 q (by omega)))]
    | succ r ih =>
      intro k nn h1 h2 h3
      obtain ⟨nn, rfl⟩ : ∃ j, nn = j + 1 := ⟨nn - 1, by omega⟩
      have bk : iB (nI k) 50 := iB_nI (show k < 50 by omega) (by decide)
      unfold xF_227_2
      simp only [if_neg (show ¬ (35 : Int32) ≤ nI k from nI_ge (b := 35) (by omega) (by decide)), if_pos bk, iN_nI (show k < 2 ^ 31 by omega), nI_1]
      by_cases z : car 767 k = car 761 k
      · rw [if_pos (show car (766 + 1) k = car (760 + 1) k from z)]
        refine ih (k + 1) nn (by omega) (by omega) (fun q hq => ?_)
        by_cases y : q = k
        · subst y; exact z
        · exact h3 q (by omega)
      · rw [if_neg (show ¬ car (766 + 1) k = car (760 + 1) k from z), if_neg (fun y => z (key.mpr y k (by omega)))]
  exact go 35 0 oF (by omega) (by unfold oF; omega) (fun q hq => absurd hq (by omega))
theorem c_broken {pp : Nat} {P : Nat → Int32} (hR : pgR P (car (pp + 1))) : xF_228 pp sc mr car al = some (if P 37 = 1 then 1 else 0, sc, mr, car, al) := by
  unfold xF_228
  have h14 : car (pp + 1) 14 = P 37 := hR.1 14 (by decide)
  rw [h14]
  rcases hR.2.2.2.1 with z | z
  · rw [z, if_pos rfl, if_neg (by decide)]
  · rw [z, if_neg (by decide), if_pos rfl]
/-- turned -/
theorem c_turned (hE : cE pr nn0 tx g p m S0 ar0 sc car mr) (hT : tK n S ar sc car al) {i j : Nat} (hi : i < j) (hj : j < n) : ∃ sc2 car2, xF_306 (nI i) (nI j) sc mr car al = some (nI (aTu S0 ar0 m ar (tW al) n i j), sc2, mr, car2, al) ∧ zT sc car sc2 car2 := by
  obtain ⟨hn, k2, k3, k4, k5, k6, k7, k8⟩ := hT
  have len := aP_len (W := tW al) hi hj
  have f0 := fl_t (r := i) (a := 0)
  have f1 := fl_len (p := tW al j) (r := j - (i + 1)) (a := i + 1)
  have f2 := fl_t (r := n - (j + 1)) (a := j + 1)
  obtain ⟨sc1, car1, b1, b2, b3⟩ := cE_beg (al := al) (pp := 766) hE (by decide)
  have z1 : zT sc car (j_u2 sc1 759 12 0) car1 := by
    refine ⟨fun a k u w => ?_, fun b u w _ => b3.2.1 b u w, ?_⟩
    · rw [show j_u2 sc1 759 12 0 a k = sc1 a k from if_neg w]
      exact b3.1 a k u
    · rw [u2_na (by decide)]; exact b3.2.2
  have p1 : zP pr nn0 tx g p m S0 ar0 mr n ar [] (aB0 S0 ar0) (j_u2 sc1 759 12 0) car1 := by
    refine ⟨cE_ZT hE z1, b2, ⟨u2_eq, fun i Q h => by simp at h⟩, ?_, fun q hq => ?_⟩
    · rw [u2_nk (by decide), b3.1 759 5 (by decide)]; exact k3
    · obtain ⟨⟨c, hc, e⟩, e2, -⟩ := k6 q hq
      exact ⟨c, hc, e, by rw [b3.2.1 762 (by decide) (by decide), e2, e]⟩
  unfold xF_306
  rw [b1, ob4]
  obtain ⟨sc2, car2, c1, c2, c3⟩ := c_t18 (al := al) hn hj hi i 0 oF [] _ _ _ (by omega) (by unfold oF; omega) (by simp only [List.length_nil]; omega) p1
  rw [show nI 0 = (0 : Int32) from rfl] at c1
  rw [c1, List.nil_append] at *
  generalize hV1 : aVs S0 ar0 m (cds ar (fl (fun _ => true) 0 i)) (aB0 S0 ar0) = V1 at c2
  have lV1 : V1.length ≤ i := by rw [← hV1]; refine Nat.le_trans aVs_len ?_; rw [cds_len]; omega
  obtain ⟨sc3, car3, nn3, d1, d2, d3⟩ := c_t39 (al := al) hn hj hi (j - (i + 1)) (i + 1) oF _ _ _ _ (by omega) (by unfold oF; omega) (by omega) c2
  rw [d1]
  generalize hQ1 : aRow S0 ar0 m (cds ar (fl (tW al j) (i + 1) (j - (i + 1)))) (aRow S0 ar0 m (cds ar (fl (fun _ => true) 0 i)) (aB0 S0 ar0)) = P1 at d2
  have hP1 : aRow S0 ar0 m (cds ar (aPr (tW al) i j)) (aB0 S0 ar0) = P1 := by
    unfold aPr
    rw [cds_app, aRow_app]; exact hQ1
  generalize hV2 : V1 ++ aVs S0 ar0 m (cds ar (fl (tW al j) (i + 1) (j - (i + 1)))) (aRow S0 ar0 m (cds ar (fl (fun _ => true) 0 i)) (aB0 S0 ar0)) = V2 at d2
  have hV2' : aVs S0 ar0 m (cds ar (aPr (tW al) i j)) (aB0 S0 ar0) = V2 := by
    unfold aPr
    rw [cds_app, aVs_app, hV1]; exact hV2
  have lV2 : V2.length ≤ (aPr (tW al) i j).length := by rw [← hV2']; refine Nat.le_trans aVs_len ?_; rw [cds_len]; omega
  -- j
  obtain ⟨sc4, car4, e1, e2, e3⟩ := c_again (al := al) d2 hn hj (by omega)
  rw [xF_306_39, if_pos (nI_le (Nat.le_refl _) (by omega)), e1, ob5]
  unfold aTu aTn
  rw [hP1]
  by_cases z : aCan ar0 m P1 (iN (ar 15 j)) = true
  · rw [if_pos z, if_neg (show ¬ (1 : Int32) = 0 by decide), if_pos z]
    -- i
    have lV3 := z_l1 (S0 := S0) (ar0 := ar0) (m := m) (ar := ar) (V := V2) (P := P1) (k := j)
    obtain ⟨sc5, car5, g1, g2, g3⟩ := c_again (al := al) e2 hn (show i < n by omega) (by unfold aPo at len; simp only [List.length_cons] at len; omega)
    rw [g1, ob5, nI_1]
    have lV4 := z_l1 (S0 := S0) (ar0 := ar0) (m := m) (ar := ar) (V := V2 ++ aVs S0 ar0 m [iN (ar 15 j)] P1) (P := aAg S0 ar0 m P1 (iN (ar 15 j))) (k := i)
    have len' := len
    unfold aPo at len'
    simp only [List.length_cons, List.length_append] at len'
    obtain ⟨sc6, car6, q1, q2, q3⟩ := c_t85 (al := al) hn hj (j - (i + 1)) (i + 1) oF _ _ _ _ (by omega) (by unfold oF; omega) (by omega) g2
    rw [q1]
    have lV5 := aVs_len (S0 := S0) (ar0 := ar0) (m := m) (a := cds ar (fl (fun q => !tW al j q) (i + 1) (j - (i + 1)))) (P := aAg S0 ar0 m (aAg S0 ar0 m P1 (iN (ar 15 j))) (iN (ar 15 i)))
    rw [cds_len] at lV5
    obtain ⟨sc7, car7, nn7, r1, r2, r3⟩ := c_t115 (al := al) hn (n - (j + 1)) (j + 1) oF _ _ _ _ (by omega) (by unfold oF; omega) (by rw [List.length_append]; omega) q2
    rw [r1]
    have zz : zT sc car sc7 car7 := zT_tr z1 (zT_tr c3 (zT_tr d3 (zT_tr e3 (zT_tr g3 (zT_tr q3 r3)))))
    -- all of it
    have eP : aRow S0 ar0 m (cds ar (aPr (tW al) i j) ++ iN (ar 15 j) :: cds ar (aPo (tW al) n i j)) (aB0 S0 ar0) = aRow S0 ar0 m (cds ar (fl (fun _ => true) (j + 1) (n - (j + 1)))) (aRow S0 ar0 m (cds ar (fl (fun q => !tW al j q) (i + 1) (j - (i + 1)))) (aAg S0 ar0 m (aAg S0 ar0 m P1 (iN (ar 15 j))) (iN (ar 15 i)))) := by
      unfold aPo
      rw [aRow_app, hP1, aRow_cons, z_row, cds_app, aRow_app]
    have eV : aVs S0 ar0 m (cds ar (aPr (tW al) i j) ++ iN (ar 15 j) :: cds ar (aPo (tW al) n i j)) (aB0 S0 ar0) = V2 ++ aVs S0 ar0 m [iN (ar 15 j)] P1 ++ aVs S0 ar0 m [iN (ar 15 i)] (aAg S0 ar0 m P1 (iN (ar 15 j))) ++ aVs S0 ar0 m (cds ar (fl (fun q => !tW al j q) (i + 1) (j - (i + 1)))) (aAg S0 ar0 m (aAg S0 ar0 m P1 (iN (ar 15 j))) (iN (ar 15 i))) ++ aVs S0 ar0 m (cds ar (fl (fun _ => true) (j + 1) (n - (j + 1)))) (aRow S0 ar0 m (cds ar (fl (fun q => !tW al j q) (i + 1) (j - (i + 1)))) (aAg S0 ar0 m (aAg S0 ar0 m P1 (iN (ar 15 j))) (iN (ar 15 i)))) := by
      unfold aPo
      rw [aVs_app, hV2', hP1, show iN (ar 15 j) :: cds ar (i :: (fl (fun k => !tW al j k) (i + 1) (j - (i + 1)) ++ fl (fun _ => true) (j + 1) (n - (j + 1)))) = cds ar (j :: i :: (fl (fun k => !tW al j k) (i + 1) (j - (i + 1)) ++ fl (fun _ => true) (j + 1) (n - (j + 1)))) from rfl, z_cons, z_cons, cds_app, aVs_app]
      simp only [List.append_assoc]
    rw [← eP, ← eV] at r2
    have hs : aStg S0 ar0 m (fun s => ar (20 + s)) n (cds ar (aPr (tW al) i j) ++ iN (ar 15 j) :: cds ar (aPo (tW al) n i j)) (aB0 S0 ar0) = _ := aStg_vs
    rw [hs]
    generalize hPP : aRow S0 ar0 m (cds ar (aPr (tW al) i j) ++ iN (ar 15 j) :: cds ar (aPo (tW al) n i j)) (aB0 S0 ar0) = PP at r2
    have lVV : (aVs S0 ar0 m (cds ar (aPr (tW al) i j) ++ iN (ar 15 j) :: cds ar (aPo (tW al) n i j)) (aB0 S0 ar0)).length ≤ 40 := by
      refine Nat.le_trans aVs_len ?_
      rw [List.length_append, List.length_cons, cds_len, cds_len]; omega
    generalize hVV : aVs S0 ar0 m (cds ar (aPr (tW al) i j) ++ iN (ar 15 j) :: cds ar (aPo (tW al) n i j)) (aB0 S0 ar0) = VV at r2 lVV
    obtain ⟨s1, s2, s3, s4, s5⟩ := r2
    have R7 : pgR (ar 14) (car7 (760 + 1)) := by rw [zz.2.1 761 (by decide) (by decide) (by decide)]; exact k4
    have t157 : xF_306_157 sc7 mr car7 al = some (nI (if eqN PP (ar 14) 38 = true then (if VV.any (fun Q => !aSB (fun s => ar (20 + s)) Q n) = true then 2 else 1) else 3), sc7, mr, car7, al) := by
      unfold xF_306_157
      rw [c_alike s2 R7, ob5, c_strange (T := fun s => ar (20 + s)) hn s4 s3 lVV (fun s hs k hk => by rw [zz.2.1 770 (by decide) (by decide) (by decide)]; exact (k7 s hs).1 k hk), ob5]
      by_cases y : eqN PP (ar 14) 38 = true
      · rw [if_pos y, if_neg (show ¬ (1 : Int32) = 0 by decide), if_pos y]
        by_cases x : VV.any (fun Q => !aSB (fun s => ar (20 + s)) Q n) = true
        · rw [if_pos x, if_neg (show ¬ (1 : Int32) = 0 by decide), if_pos x]; rfl
        · rw [if_neg x, if_pos (show (0 : Int32) = 0 from rfl), if_neg x]; rfl
      · rw [if_neg y, if_pos (show (0 : Int32) = 0 from rfl), if_neg y]; rfl
    rw [xF_306_115, s4, if_pos (nI_le (Nat.le_refl _) (by omega)), c_broken (pp := 766) s2, ob5, c_broken (pp := 760) R7, ob5, t157]
    refine ⟨sc7, car7, ?_, zz⟩
    by_cases y : PP 37 = 1
    · rw [if_pos y, if_neg (show ¬ (1 : Int32) = 0 by decide)]
      rcases k4.2.2.2.1 with x | x
      · rw [if_neg (show ¬ ar 14 37 = 1 by rw [x]; decide), if_pos (show (0 : Int32) = 0 from rfl), if_pos (show PP 37 = 1 ∧ ar 14 37 = 0 from ⟨y, x⟩)]; rfl
      · rw [if_pos x, if_neg (show ¬ (1 : Int32) = 0 by decide), if_neg (show ¬ (PP 37 = 1 ∧ ar 14 37 = 0) from fun w => by rw [x] at w; exact absurd w.2 (by decide))]
    · rw [if_neg y, if_pos (show (0 : Int32) = 0 from rfl), if_neg (show ¬ (PP 37 = 1 ∧ ar 14 37 = 0) from fun w => y w.1)]
  · rw [if_neg z, if_pos (show (0 : Int32) = 0 from rfl), if_neg z]
    exact ⟨sc4, car4, rfl, zT_tr z1 (zT_tr c3 (zT_tr d3 e3))⟩
end CU
