/-! WORDS LOST, in the reference: the search itself. -/
theorem i_lc {a b c : Int32} (h : a + b = a + c) : b = c := by
  have h2 : b + a - a = c + a - a := by rw [Int32.add_comm b, Int32.add_comm c, h]
  rwa [Int32.add_sub_cancel, Int32.add_sub_cancel] at h2
section RL
variable {S0 : Nat → Int32} {ar0 : jSc} {S : Nat → Int32} {ar : jSc} {sc car : jSc} {mr : Nat → Nat} {al : jAl} {pr n p m b : Nat} {tx : Nat → Int32} {g : pG} {st : wSt}
theorem r_110_57 {w c : Nat} (hs : sR pr n tx g p m S ar sc car mr) (h16 : S 16 = 0) (hw : w < 2) (hc : c < 13) (hP : pW (ar (714 + w))) (hcan : aCan ar m (ar (714 + w)) c = true) : ∃ S9 ar9, rF_110 (nI w) (nI c) S ar = some (1, S9, ar9) ∧ up57 S S9 600 := by
  obtain ⟨C, hC⟩ := hP
  generalize hA1 : va_up ar 13 (fun k => if k < 53 then ar (714 + w) k else ar 13 k) = ar1
  have n1 : ∀ q, q ≠ 13 → ar1 q = ar q := fun q hq => by rw [← hA1, va_up_ne _ _ hq]
  have p1 : ∀ k, k < 53 → ar1 13 k = ar (714 + w) k := fun k hk => by rw [← hA1, va_up_self, if_pos hk]
  have R1 : pgR (ar1 13) C := pgR_P hC (fun k hk => p1 k (by omega))
  have s1 : sR pr n tx g p m S ar1 sc car mr := sR_st hs (stS_rf S) (stA_13 n1)
  have can1 : aCan ar1 m (ar1 13) c = true := by
    rw [aCan_c (ar := ar) (P := ar (714 + w)) (stA_13 n1) hs.2.2.2.2.2.2.1 (fun k hk => p1 k (by omega)) hc]; exact hcan
  obtain ⟨q1, q2⟩ := aCan_89 can1
  have bw : iB (nI w) 2 := iB_nI hw (by decide)
  obtain ⟨v, S2, ar2, e1, j, e2, e3⟩ := r_hap57 (S := upd S 29 (nI w)) (x := -1) s1.1 s1.2.2.1 (by rw [up_n (by decide)]; exact s1.2.2.2.2.1) (by rw [up_n (by decide)]; exact s1.2.2.2.2.2.1) s1.2.2.2.2.2.2.1 (by rw [up_0]; rcases (show w = 0 ∨ w = 1 by omega) with rfl | rfl; exact Or.inr (Or.inl rfl); exact Or.inr (Or.inr rfl)) hc R1 q1 q2
  obtain ⟨ar8, r1, -, -⟩ := r_far hw (S := upd S2 29 (-1)) (ar := va_up ar2 (714 + w) (fun k => if k < 53 then ar2 13 k else ar2 (714 + w) k))
  refine ⟨upd S2 29 (-1), ar8, ?_, j, e2, by rw [up_n (by decide), e3, up_n (by decide)]⟩
  unfold rF_110
  rw [if_pos bw, up_16 h16, iN_nI (by omega), r_load (by decide) (by omega), ob2, hA1, r_can (m := m) s1.2.2.2.2.2.1 s1.2.2.2.2.2.2.1 hc R1.2.2.1, ob3, if_pos can1, if_neg (by decide), e1, ob3, if_pos bw, r_keep (by decide) (by omega), ob2, r1]
/-- one happening loses a small number of words -/
theorem wN_57 {w c : Nat} (hE : cE pr n tx g p m S0 ar0 sc car mr) (h16 : S0 16 = 0) (hS : stS S0 S) (hA : stA ar0 ar) (h : rWs st ar) (hw : w < 2) (hc : c < 13) (hcan : aCan ar0 m (wPg st w) c = true) : ∃ j, j ≤ 600 ∧ (wNx S0 ar0 st w c).2 = nI j := by
  have hf := hE.1.2.2.2.2.2.2.1
  obtain ⟨S9, ar9, e1, e2, -, -⟩ := r_mv hE h16 hS hA h hw hc hcan
  obtain ⟨S8, ar8, f1, j, f2, f3⟩ := r_110_57 (sR_st hE.1 hS hA) (hS.1.trans h16) hw hc (by
    rcases (show w = 0 ∨ w = 1 by omega) with rfl | rfl
    · exact h.2.1
    · exact h.2.2.1) (by rw [wPg_c hw hf hA h.1 hc]; exact hcan)
  rw [e1] at f1
  cases f1
  refine ⟨j, f2, ?_⟩
  have := e2.symm.trans f3
  exact i_lc this
theorem kH_det {v v2 : Int32} {row : Nat → Int32} {st2 : wSt} (h : kH v row st) (h2 : kH v2 row st2) : st2 = st := by
  have e : ∀ x : Nat → Int32, va_up (fun (_ _ : Nat) => (0 : Int32)) 721 x (721 + 0) = x := fun x => va_up_self ..
  obtain ⟨a, e1, e2, -⟩ := kH_load (S := fun _ => 0) (ar := va_up (fun (_ _ : Nat) => (0 : Int32)) 721 row) (e := 0) (by decide) (by rw [e]; exact h)
  obtain ⟨a2, f1, f2, -⟩ := kH_load (S := fun _ => 0) (ar := va_up (fun (_ _ : Nat) => (0 : Int32)) 721 row) (e := 0) (by decide) (by rw [e]; exact h2)
  rw [e1] at f1
  have : a = a2 := by
    have := Option.some.inj f1
    exact (Prod.mk.inj this).2
  rw [← f2.1, ← this, e2.1]
theorem kH_c {v : Int32} {row row2 : Nat → Int32} (h : kH v row st) (e : ∀ i, i < 89 → row2 i = row i) : kH v row2 st := by
  obtain ⟨T, a, h1, h2, h3⟩ := h
  exact ⟨T, a, h1, h2, fun i hi => (e i hi).trans (h3 i hi)⟩
/-- what the search leaves -/
def lFr (e : Nat) (S : Nat → Int32) (ar : jSc) (S9 : Nat → Int32) (ar9 : jSc) : Prop := (∀ k, (k < 3 ∨ (8 ≤ k ∧ k ≤ 16) ∨ (18 ≤ k ∧ k ≤ 21) ∨ 29 ≤ k) → k ≠ 57 → S9 k = S k) ∧ ∀ b, b ≠ 13 → ¬ (714 ≤ b ∧ b ≤ 719) → ¬ (722 + e ≤ b ∧ b ≤ 727) → ar9 b = ar b
theorem lFr_tr {e : Nat} {a a2 a3 : Nat → Int32} {b b2 b3 : jSc} (h : lFr e a b a2 b2) (h2 : lFr e a2 b2 a3 b3) : lFr e a b a3 b3 := ⟨fun k x y => (h2.1 k x y).trans (h.1 k x y), fun k x y z => (h2.2 k x y z).trans (h.2 k x y z)⟩
theorem lFr_up {e : Nat} {a a2 : Nat → Int32} {b b2 : jSc} (h : lFr (e + 1) a b a2 b2) : lFr e a b a2 b2 := ⟨h.1, fun k x y z => h.2 k x y (by omega)⟩
theorem lFr_S {e : Nat} {S9 : Nat → Int32} {ar9 : jSc} (h : lFr e S ar S9 ar9) (hS : stS S0 S) : stS S0 S9 := stS_tr hS ⟨h.1 16 (by omega) (by omega), h.1 38 (by omega) (by omega), h.1 29 (by omega) (by omega)⟩
theorem lFr_A {e : Nat} {S9 : Nat → Int32} {ar9 : jSc} (h : lFr e S ar S9 ar9) (hA : stA ar0 ar) : stA ar0 ar9 := stA_tr hA (fun b hb => h.2 b (by omega) (by omega) (by omega))
theorem lFr_W {e : Nat} {S9 : Nat → Int32} {ar9 : jSc} (h : wFr S ar S9 ar9) : lFr e S ar S9 ar9 := ⟨h.1, fun b x y _ => h.2 b x y⟩
/-- are two kept rows the same? -/
theorem r_61 {g116 : Int32 → Int32 → (Nat → Int32) → jSc → Option (Int32 × (Nat → Int32) × jSc)} {k2 : Int32 → Int32 → Int32 → (Nat → Int32) → jSc → Option (Int32 × (Nat → Int32) × jSc)} {e : Nat} {x2 x3 : Int32} (he : e < 7) : ∃ x4, rF_116_61 g116 k2 oF (nI e) x2 x3 1 0 S ar = rF_116_109 g116 k2 (nI e) x2 x3 x4 S ar ∧ iV x4 (∀ i, i < 89 → ar (721 + e) i = ar (721 + (e + 1)) i) := by
  have be : iB (nI e) 8 := iB_nI (by omega) (by decide)
  have be1 : iB (nI (e + 1)) 8 := iB_nI (by omega) (by decide)
  have go : ∀ r k nn x4, k + r = 89 → r < nn → iV x4 (∀ i, i < k → ar (721 + e) i = ar (721 + (e + 1)) i) → ∃ x5, rF_116_61 g116 k2 nn (nI e) x2 x3 x4 (nI k) S ar = rF_116_109 g116 k2 (nI e) x2 x3 x5 S ar ∧ iV x5 (∀ i, i < 89 → ar (721 + e) i = ar (721 + (e + 1)) i) := by
    intro r
    induction r with
    | zero =>
      intro k nn x4 h1 h2 h3
      obtain ⟨nn, rfl⟩ : ∃ j, nn = j + 1 := ⟨nn - 1, by omega⟩
      have k89 : k = 89 := by omega
      subst k89
      rw [rF_116_61]
      rw [if_pos (show (89 : Int32) ≤ nI 89 by decide)]
      exact ⟨x4, rfl, h3⟩
    | succ r ih =>
      intro k nn x4 h1 h2 h3
      obtain ⟨nn, rfl⟩ : ∃ j, nn = j + 1 := ⟨nn - 1, by omega⟩
      have bk : iB (nI k) 89 := iB_nI (by omega) (by decide)
      have w := iV_0 h3
      rw [rF_116_61]
      rw [if_neg (show ¬ (89 : Int32) ≤ nI k from nI_ge (b := 89) (by omega) (by decide))]
      by_cases z : x4 = 0
      · rw [if_pos z]
        exact ⟨x4, rfl, Or.inr ⟨fun y => w.mp z (fun i hi => y i (by omega)), z⟩⟩
      · have hz : ∀ i, i < k → ar (721 + e) i = ar (721 + (e + 1)) i := Classical.byContradiction fun y => z (w.mpr y)
        rw [if_neg z, if_pos be, if_pos bk, nI_1, if_pos be1, if_pos bk, iN_nI (by omega), iN_nI (by omega), iN_nI (by omega), nI_1]
        by_cases y : ar (721 + e) k = ar (721 + (e + 1)) k
        · rw [if_pos y]
          refine ih (k + 1) nn 1 (by omega) (by omega) (Or.inl ⟨fun i hi => ?_, rfl⟩)
          by_cases x : i = k
          · subst x; exact y
          · exact hz i (by omega)
        · rw [if_neg y]
          exact ih (k + 1) nn 0 (by omega) (by omega) (Or.inr ⟨fun x => y (x k (by omega)), rfl⟩)
  exact go 89 0 oF 1 (by omega) (by unfold oF; omega) (Or.inl ⟨fun i hi => absurd hi (by omega), rfl⟩)
theorem v13 {v : Nat} (hv : v < 26) : nI v / (13 : Int32) = nI (v / 13) ∧ nI v - nI (v / 13) * (13 : Int32) = nI (v % 13) := by
  have a : nI v / (13 : Int32) = nI (v / 13) := nI_div (a := v) (b := 13) (by omega) (by decide)
  refine ⟨a, ?_⟩
  rw [show nI (v / 13) * (13 : Int32) = nI (v / 13 * 13) from nI_mul (v / 13) 13, nI_sub (by omega)]
  congr 1
  omega
/-- loses -/
theorem r_lose (hE : cE pr n tx g p m S0 ar0 sc car mr) (h16 : S0 16 = 0) : ∀ (d f e : Nat) (S : Nat → Int32) (ar : jSc) (st : wSt), 1 ≤ d → d + e ≤ 3 → d ≤ f → stS S0 S → stA ar0 ar → kH 0 (ar (721 + e)) st → ∃ v S9 ar9, rG_116 f (nI e) (nI d) S ar = some (v, S9, ar9) ∧ iV v (wLs S0 ar0 m d st = true) ∧ lFr e S ar S9 ar9 := by
  intro d
  induction d with
  | zero => intro f e S ar st h; omega
  | succ d ihd =>
    intro f e S ar st _ hde hf hS hA hK
    obtain ⟨f, rfl⟩ : ∃ j, f = j + 1 := ⟨f - 1, by omega⟩
    have go : ∀ (r v nn : Nat) (S1 : Nat → Int32) (ar1 : jSc), v + r = 26 → r < nn → lFr e S ar S1 ar1 → (∀ v', v' < v → aCan ar0 m (wPg st (v' / 13)) (v' % 13) = true → ¬ 0 < (wNx S0 ar0 st (v' / 13) (v' % 13)).2 ∧ ((wNx S0 ar0 st (v' / 13) (v' % 13)).1 = st ∨ wLs S0 ar0 m d (wNx S0 ar0 st (v' / 13) (v' % 13)).1 = false)) → ∃ x S9 ar9, rF_116_2 (rG_116 f) nn (nI e) (nI (d + 1)) (nI v) S1 ar1 = some (x, S9, ar9) ∧ iV x (wLs S0 ar0 m (d + 1) st = true) ∧ lFr e S ar S9 ar9 := by
      intro r
      induction r with
      | zero =>
        intro v nn S1 ar1 h1 h2 h3 h4
        obtain ⟨nn, rfl⟩ : ∃ j, nn = j + 1 := ⟨nn - 1, by omega⟩
        have v26 : v = 26 := by omega
        subst v26
        rw [rF_116_2]
        rw [if_pos (show (26 : Int32) ≤ nI 26 by decide)]
        refine ⟨0, S1, ar1, rfl, Or.inr ⟨?_, rfl⟩, h3⟩
        rw [wLs_skip (d := d) h4 (d + 1) (Nat.le_refl _)]
        decide
      | succ r ih =>
        intro v nn S1 ar1 h1 h2 h3 h4
        obtain ⟨nn, rfl⟩ : ∃ j, nn = j + 1 := ⟨nn - 1, by omega⟩
        obtain ⟨d1, d2⟩ := v13 (show v < 26 by omega)
        have hK1 : kH 0 (ar1 (721 + e)) st := by rw [h3.2 (721 + e) (by omega) (by omega) (by omega)]; exact hK
        obtain ⟨ar2, l1, l2, l3⟩ := kH_load (S := S1) (by omega) hK1
        have F2 : lFr e S1 ar1 (upd S1 57 0) ar2 := ⟨fun k _ h57 => up_n h57, fun b u1 u2 u3 => l3 b (by omega) (by omega) (by omega) (by omega) (by omega)⟩
        have G2 : lFr e S ar (upd S1 57 0) ar2 := lFr_tr h3 F2
        have hS2 := lFr_S G2 hS
        have hA2 := lFr_A G2 hA
        rw [rF_116_2]
        rw [if_neg (show ¬ (26 : Int32) ≤ nI v from nI_ge (b := 26) (by omega) (by decide)), l1, ob2, d1, d2, nI_1]
        have hw : v / 13 < 2 := by omega
        have hc : v % 13 < 13 := by omega
        -- go on
        have next : ∀ (S3 : Nat → Int32) (ar3 : jSc), lFr e S ar S3 ar3 → (aCan ar0 m (wPg st (v / 13)) (v % 13) = true → ¬ 0 < (wNx S0 ar0 st (v / 13) (v % 13)).2 ∧ ((wNx S0 ar0 st (v / 13) (v % 13)).1 = st ∨ wLs S0 ar0 m d (wNx S0 ar0 st (v / 13) (v % 13)).1 = false)) → ∃ x S9 ar9, rF_116_2 (rG_116 f) nn (nI e) (nI (d + 1)) (nI (v + 1)) S3 ar3 = some (x, S9, ar9) ∧ iV x (wLs S0 ar0 m (d + 1) st = true) ∧ lFr e S ar S9 ar9 := by
          intro S3 ar3 hF hn
          refine ih (v + 1) nn S3 ar3 (by omega) (by omega) hF (fun v' hv' hcan => ?_)
          by_cases z : v' = v
          · subst z; exact hn hcan
          · exact h4 v' (by omega) hcan
        by_cases cn : aCan ar0 m (wPg st (v / 13)) (v % 13) = true
        · obtain ⟨S3, ar3, m1, m2, m3, m4⟩ := r_mv hE h16 hS2 hA2 l2 hw hc cn
          obtain ⟨j, j6, ej⟩ := wN_57 hE h16 hS2 hA2 l2 hw hc cn
          have G3 : lFr e S ar S3 ar3 := lFr_tr G2 (lFr_W m4)
          rw [up_0, ej, Int32.zero_add] at m2
          rw [m1, ob3, if_neg (show ¬ (1 : Int32) = 0 by decide), m2]
          by_cases j0 : j = 0
          · subst j0
            have nl : ¬ 0 < (wNx S0 ar0 st (v / 13) (v % 13)).2 := by rw [ej]; decide
            rw [if_pos (show nI 0 ≤ (0 : Int32) by decide)]
            by_cases dz : d = 0
            · subst dz
              rw [if_pos (show nI (0 + 1) = (1 : Int32) from rfl)]
              exact next S3 ar3 G3 (fun _ => ⟨nl, Or.inr rfl⟩)
            · rw [if_neg (show ¬ nI (d + 1) = (1 : Int32) from fun y => absurd ((nI_eq (b := 1) (by omega) (by decide)).mp y) (by omega)), nI_1]
              obtain ⟨ar4, k1, k2, k3⟩ := r_114 (S := S3) (ar := ar3) (e := e + 1) (by omega)
              rw [k1, ob2]
              have G4 : lFr e S ar S3 ar4 := lFr_tr G3 ⟨fun _ _ _ => rfl, fun b u1 u2 u3 => k3 b (by omega)⟩
              have hKn : kH 0 (ar4 (721 + (e + 1))) (wNx S0 ar0 st (v / 13) (v % 13)).1 := ⟨S3, ar3, m3, m2, k2⟩
              obtain ⟨x4, q1, q2⟩ := r_61 (S := S3) (ar := ar4) (g116 := rG_116 f) (k2 := fun x1_ x2_ x3_ S_ ar_ => rF_116_2 (rG_116 f) nn x1_ x2_ x3_ S_ ar_) (e := e) (x2 := nI (d + 1)) (x3 := nI v) (by omega)
              rw [q1]
              unfold rF_116_109
              rw [nI_1, nI_1]
              have hK4 : kH 0 (ar4 (721 + e)) st := by rw [G4.2 (721 + e) (by omega) (by omega) (by omega)]; exact hK
              rcases q2 with ⟨same, x1⟩ | ⟨dif, x0⟩
              · rw [x1, if_neg (show ¬ (1 : Int32) = 0 by decide)]
                exact next S3 ar4 G4 (fun _ => ⟨nl, Or.inl (kH_det hK4 (kH_c hKn same))⟩)
              · rw [x0, if_pos rfl, show nI (d + 1) - (1 : Int32) = nI d from nI_pred d]
                obtain ⟨vv, S5, ar5, t1, t2, t3⟩ := ihd f (e + 1) S3 ar4 _ (by omega) (by omega) (by omega) (lFr_S G4 hS) (lFr_A G4 hA) hKn
                rw [t1, ob3]
                have G5 : lFr e S ar S5 ar5 := lFr_tr G4 (lFr_up t3)
                rcases t2 with ⟨lo, y1⟩ | ⟨lo, y0⟩
                · rw [y1, if_neg (show ¬ (1 : Int32) = 0 by decide)]
                  exact ⟨1, S5, ar5, rfl, Or.inl ⟨wLs_i.mpr ⟨v, by omega, cn, Or.inr lo⟩, rfl⟩, G5⟩
                · rw [y0, if_pos rfl]
                  exact next S5 ar5 G5 (fun _ => ⟨nl, Or.inr (by simpa using lo)⟩)
          · rw [if_neg (show ¬ nI j ≤ (0 : Int32) from nI_ge (b := j) (a := 0) (by omega) (by omega))]
            refine ⟨1, S3, ar3, rfl, Or.inl ⟨wLs_i.mpr ⟨v, by omega, cn, Or.inl ?_⟩, rfl⟩, G3⟩
            rw [ej]
            exact nI_lt (a := 0) (by omega) (by omega)
        · obtain ⟨ar3, m1, m2⟩ := r_mv0 hE h16 hS2 hA2 l2 hw hc cn
          rw [m1, ob3, if_pos rfl]
          exact next (upd S1 57 0) ar3 (lFr_tr G2 ⟨fun _ _ _ => rfl, fun b u1 _ _ => m2 b u1⟩) (fun h => absurd h cn)
    show ∃ v S9 ar9, rF_116_2 (rG_116 f) oF (nI e) (nI (d + 1)) (nI 0) S ar = some (v, S9, ar9) ∧ _ ∧ _
    exact go 26 0 oF S ar (by omega) (by unfold oF; omega) ⟨fun _ _ _ => rfl, fun _ _ _ _ => rfl⟩ (fun v' h => absurd h (by omega))
end RL
