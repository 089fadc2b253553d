/-! A crossing turned, in ClickOrders. -/
/-- the pages on the way -/
def aVs (S0 : Nat → Int32) (ar0 : jSc) (m : Nat) : List Nat → (Nat → Int32) → List (Nat → Int32)
  | [], _ => []
  | c :: cs, P => if aCan ar0 m P c = true then aSt S0 ar0 P c :: aVs S0 ar0 m cs (aSt S0 ar0 P c) else aVs S0 ar0 m cs P
theorem aVs_app {S0 : Nat → Int32} {ar0 : jSc} {m : Nat} {b : List Nat} : ∀ {a : List Nat} {P : Nat → Int32}, aVs S0 ar0 m (a ++ b) P = aVs S0 ar0 m a P ++ aVs S0 ar0 m b (aRow S0 ar0 m a P)
  | [], _ => rfl
  | c :: a, P => by
    have i1 := aVs_app (S0 := S0) (ar0 := ar0) (m := m) (b := b) (a := a) (P := aSt S0 ar0 P c)
    have i2 := aVs_app (S0 := S0) (ar0 := ar0) (m := m) (b := b) (a := a) (P := P)
    show (if aCan ar0 m P c = true then aSt S0 ar0 P c :: aVs S0 ar0 m (a ++ b) (aSt S0 ar0 P c) else aVs S0 ar0 m (a ++ b) P) = (if aCan ar0 m P c = true then _ else _) ++ aVs S0 ar0 m b (aRow S0 ar0 m a (aAg S0 ar0 m P c))
    by_cases z : aCan ar0 m P c = true
    · rw [if_pos z, if_pos z, aAg_y z, i1, List.cons_append]
    · rw [if_neg z, if_neg z, aAg_n z, i2]
theorem aVs_len {S0 : Nat → Int32} {ar0 : jSc} {m : Nat} : ∀ {a : List Nat} {P : Nat → Int32}, (aVs S0 ar0 m a P).length ≤ a.length
  | [], _ => Nat.le_refl _
  | c :: a, P => by
    unfold aVs
    split
    · have := aVs_len (S0 := S0) (ar0 := ar0) (m := m) (a := a) (P := aSt S0 ar0 P c)
      simp only [List.length_cons]; omega
    · have := aVs_len (S0 := S0) (ar0 := ar0) (m := m) (a := a) (P := P)
      simp only [List.length_cons]; omega
theorem aStg_vs {S0 : Nat → Int32} {ar0 : jSc} {m : Nat} {T : Nat → Nat → Int32} {n : Nat} : ∀ {a : List Nat} {P : Nat → Int32}, aStg S0 ar0 m T n a P = (aVs S0 ar0 m a P).any (fun Q => !aSB T Q n)
  | [], _ => rfl
  | c :: a, P => by
    unfold aStg aVs
    by_cases z : aCan ar0 m P c = true
    · rw [if_pos z, if_pos z, List.any_cons, aStg_vs]
    · rw [if_neg z, if_neg z, aStg_vs]
/-- ten cells of each page on the way are kept -/
def vKs (V : List (Nat → Int32)) (sc car : jSc) : Prop := sc 759 12 = nI V.length ∧ ∀ i Q, V[i]? = some Q → ∀ k, k < 10 → car 771 (i * 10 + k) = Q k
/-- what the steps leave -/
def zT (sc car sc2 car2 : jSc) : Prop := (∀ a k, ¬ (a = 757 ∧ 3 ≤ k ∧ k ≤ 9) → ¬ (a = 759 ∧ k = 12) → sc2 a k = sc a k) ∧ (∀ b, b ≠ 758 → b ≠ 767 → b ≠ 771 → car2 b = car b) ∧ sc2 757 5 = 0
theorem zT_tr {a b c a2 b2 c2 : jSc} (h : zT a a2 b b2) (h2 : zT b b2 c c2) : zT a a2 c c2 := ⟨fun x k u v => (h2.1 x k u v).trans (h.1 x k u v), fun x u v w => (h2.2.1 x u v w).trans (h.2.1 x u v w), h2.2.2⟩
theorem zT_H {a b a2 b2 : jSc} (h : cH 766 a b a2 b2) : zT a b a2 b2 := ⟨fun x k u _ => h.1 x k u, fun x u v _ => h.2.1 x u v, h.2.2⟩
section CT
variable {S0 : Nat → Int32} {ar0 : jSc} {S : Nat → Int32} {ar : jSc} {mr : Nat → Nat} {al : jAl} {pr nn0 p m n : Nat} {tx : Nat → Int32} {g : pG}
theorem cE_ZT {sc car sc2 car2 : jSc} (h : cE pr nn0 tx g p m S0 ar0 sc car mr) (k : zT sc car sc2 car2) : cE pr nn0 tx g p m S0 ar0 sc2 car2 mr := by
  refine cE_lo h (fun a ha => ?_) (fun b hb => k.2.1 b (by omega) (by omega) (by omega)) (k.2.2.trans h.2.2.symm)
  funext j
  exact k.1 a j (by omega) (by omega)
/-- all that the loops keep -/
def zP (pr nn0 : Nat) (tx : Nat → Int32) (g : pG) (p m : Nat) (S0 : Nat → Int32) (ar0 : jSc) (mr : Nat → Nat) (n : Nat) (ar : jSc) (V : List (Nat → Int32)) (P : Nat → Int32) (sc car : jSc) : Prop := cE pr nn0 tx g p m S0 ar0 sc car mr ∧ pgR P (car 767) ∧ vKs V sc car ∧ sc 759 5 = nI n ∧ ∀ i, i < n → ∃ c, c < 13 ∧ ar 15 i = nI c ∧ car 762 i = nI c
theorem zP_Z {V : List (Nat → Int32)} {P : Nat → Int32} {sc car sc2 car2 : jSc} {V2 : List (Nat → Int32)} {P2 : Nat → Int32} (h : zP pr nn0 tx g p m S0 ar0 mr n ar V P sc car) (k : zT sc car sc2 car2) (hR : pgR P2 (car2 767)) (hV : vKs V2 sc2 car2) : zP pr nn0 tx g p m S0 ar0 mr n ar V2 P2 sc2 car2 := by
  obtain ⟨h1, h2, h3, h4, h5⟩ := h
  refine ⟨cE_ZT h1 k, hR, hV, (k.1 759 5 (by omega) (by omega)).trans h4, fun i hi => ?_⟩
  obtain ⟨c, a, b, d⟩ := h5 i hi
  exact ⟨c, a, b, by rw [k.2.1 762 (by decide) (by decide) (by decide)]; exact d⟩
/-- comesAgain -/
theorem c_again {V : List (Nat → Int32)} {P : Nat → Int32} {sc car : jSc} {k : Nat} (h : zP pr nn0 tx g p m S0 ar0 mr n ar V P sc car) (hn : n ≤ 40) (hk : k < n) (hV : V.length < 40) : ∃ sc2 car2, xF_307 (nI k) sc mr car al = some (if aCan ar0 m P (iN (ar 15 k)) = true then 1 else 0, sc2, mr, car2, al) ∧ zP pr nn0 tx g p m S0 ar0 mr n ar (V ++ aVs S0 ar0 m [iN (ar 15 k)] P) (aAg S0 ar0 m P (iN (ar 15 k))) sc2 car2 ∧ zT sc car sc2 car2 := by
  have h' := h
  obtain ⟨hE, hR, hv, h5, hco⟩ := h
  obtain ⟨c, hc, ec, ec2⟩ := hco k hk
  have ic : iN (ar 15 k) = c := by rw [ec, iN_nI (by omega)]
  rw [ic]
  have bk : iB (nI k) 40 := iB_nI (by omega) (by decide)
  unfold xF_307
  rw [if_pos bk, iN_nI (by omega), ec2, cE_may (pp := 766) hE hR hc, ob5]
  have e1 : aVs S0 ar0 m [c] P = if aCan ar0 m P c = true then [aSt S0 ar0 P c] else [] := rfl
  rw [e1]
  by_cases z : aCan ar0 m P c = true
  · rw [if_pos z, if_neg (by decide), hv.1, if_pos (show nI V.length < (40 : Int32) from nI_lt (b := 40) hV (by decide)), if_pos bk, ec2]
    obtain ⟨v, sc2, car2, f1, f2, f3⟩ := cE_step (al := al) (pp := 766) hE (by decide) hR hc z
    have s12 : sc2 759 12 = nI V.length := (f3.1 759 12 (by decide)).trans hv.1
    have e10 : nI V.length * (10 : Int32) = nI (V.length * 10) := nI_mul V.length 10
    have xc : xcp (0 : Int32) (nI (V.length * 10)) (10 : Int32) 50 400 := xcp_n (a := 0) (b := V.length * 10) (c := 10) (by decide) (by omega) (by decide) (by decide)
    rw [f1, ob5, s12, e10, if_pos xc, nI_1, iN_nI (by omega), show iN (0 : Int32) = 0 from rfl, show iN (10 : Int32) = 10 from rfl, aAg_y z, if_pos z]
    have zz : zT sc car (j_u2 sc2 759 12 (nI (V.length + 1))) (va_up car2 771 (va_cpy (car2 767) (car2 771) 0 (V.length * 10) 10)) := by
      refine ⟨fun a k u w => ?_, fun b u w x => ?_, ?_⟩
      · rw [show j_u2 sc2 759 12 (nI (V.length + 1)) a k = sc2 a k from if_neg w]
        exact f3.1 a k u
      · rw [va_up_ne _ _ x]; exact f3.2.1 b u w
      · rw [u2_na (by decide)]; exact f3.2.2
    refine ⟨_, _, rfl, zP_Z h' zz (by rw [va_up_ne _ _ (by decide)]; exact f2) ⟨?_, fun i Q hQ k hk => ?_⟩, zz⟩
    · rw [u2_eq]; simp
    · rw [va_up_self]
      by_cases y : i < V.length
      · rw [cpy_out (by omega), f3.2.1 771 (by decide) (by decide)]
        rw [List.getElem?_append_left y] at hQ
        exact hv.2 i Q hQ k hk
      · rw [List.getElem?_append_right (by omega)] at hQ
        have i0 : i - V.length = 0 := by
          rcases Nat.eq_zero_or_pos (i - V.length) with w | w
          · exact w
          · rw [List.getElem?_eq_none (by simp only [List.length_cons, List.length_nil]; omega)] at hQ
            cases hQ
        rw [i0] at hQ
        have hQ : aSt S0 ar0 P c = Q := by simpa using hQ
        have iv : i = V.length := by omega
        subst iv
        rw [cpy_in (by omega) (by omega), ← hQ, show 0 + (V.length * 10 + k - V.length * 10) = k by omega, f2.1 k (by omega)]
        have a := ix_c k (by omega)
        rw [show ix k = k by omega]
  · rw [if_neg z, if_pos rfl, aAg_n z, if_neg z, List.append_nil]
    exact ⟨_, _, rfl, h', ⟨fun _ _ _ _ => rfl, fun _ _ _ _ => rfl, hE.2.2⟩⟩
/-- one more of a row -/
theorem z_cons {V : List (Nat → Int32)} {P : Nat → Int32} {k : Nat} {l : List Nat} : V ++ aVs S0 ar0 m (cds ar (k :: l)) P = (V ++ aVs S0 ar0 m [iN (ar 15 k)] P) ++ aVs S0 ar0 m (cds ar l) (aAg S0 ar0 m P (iN (ar 15 k))) := by
  have : cds ar (k :: l) = [iN (ar 15 k)] ++ cds ar l := rfl
  rw [this, aVs_app, ← List.append_assoc]
  rfl
theorem z_row {P : Nat → Int32} {k : Nat} {l : List Nat} : aRow S0 ar0 m (cds ar (k :: l)) P = aRow S0 ar0 m (cds ar l) (aAg S0 ar0 m P (iN (ar 15 k))) := rfl
theorem zT_rf {sc car : jSc} (h : sc 757 5 = 0) : zT sc car sc car := ⟨fun _ _ _ _ => rfl, fun _ _ _ _ => rfl, h⟩
theorem z_l1 {V : List (Nat → Int32)} {P : Nat → Int32} {k : Nat} : (V ++ aVs S0 ar0 m [iN (ar 15 k)] P).length ≤ V.length + 1 := by
  have := aVs_len (S0 := S0) (ar0 := ar0) (m := m) (a := [iN (ar 15 k)]) (P := P)
  rw [List.length_append]
  simp only [List.length_cons, List.length_nil] at this
  omega
theorem c_t115 (hn : n ≤ 40) : ∀ (r k nn : Nat) (V : List (Nat → Int32)) (P : Nat → Int32) (sc car : jSc), k + r = n → r < nn → V.length + r ≤ 40 → zP pr nn0 tx g p m S0 ar0 mr n ar V P sc car → ∃ sc2 car2 nn2, xF_306_115 nn (nI k) sc mr car al = xF_306_115 (nn2 + 1) (nI n) sc2 mr car2 al ∧ zP pr nn0 tx g p m S0 ar0 mr n ar (V ++ aVs S0 ar0 m (cds ar (fl (fun _ => true) k r)) P) (aRow S0 ar0 m (cds ar (fl (fun _ => true) k r)) P) sc2 car2 ∧ zT sc car sc2 car2 := by
  intro r
  induction r with
  | zero =>
    intro k nn V P sc car h1 h2 h3 h4
    obtain ⟨nn, rfl⟩ : ∃ j, nn = j + 1 := ⟨nn - 1, by omega⟩
    have kn : k = n := by omega
    subst kn
    refine ⟨sc, car, nn, rfl, ?_, zT_rf h4.1.2.2⟩
    rw [show V ++ aVs S0 ar0 m (cds ar (fl (fun _ => true) k 0)) P = V from List.append_nil V]
    exact h4
  | succ r ih =>
    intro k nn V P sc car h1 h2 h3 h4
    obtain ⟨nn, rfl⟩ : ∃ j, nn = j + 1 := ⟨nn - 1, by omega⟩
    obtain ⟨sc2, car2, e1, e2, e3⟩ := c_again (al := al) h4 hn (show k < n by omega) (by omega)
    rw [xF_306_115]
    rw [h4.2.2.2.1, if_neg (nI_ge (by omega) (by omega)), e1, ob5, nI_1]
    obtain ⟨sc3, car3, nn2, f1, f2, f3⟩ := ih (k + 1) nn _ _ sc2 car2 (by omega) (by omega) (by have := z_l1 (S0 := S0) (ar0 := ar0) (m := m) (ar := ar) (V := V) (P := P) (k := k); omega) e2
    refine ⟨sc3, car3, nn2, f1, ?_, zT_tr e3 f3⟩
    rw [show fl (fun _ => true) k (r + 1) = k :: fl (fun _ => true) (k + 1) r from rfl, z_cons, z_row]
    exact f2
theorem c_t85 (hn : n ≤ 40) {j : Nat} (hj : j < n) : ∀ (r k nn : Nat) (V : List (Nat → Int32)) (P : Nat → Int32) (sc car : jSc), k + r = j → r < nn → V.length + (fl (fun q => !tW al j q) k r).length ≤ 40 → zP pr nn0 tx g p m S0 ar0 mr n ar V P sc car → ∃ sc2 car2, xF_306_85 nn (nI j) (nI k) sc mr car al = xF_306_115 oF (nI (j + 1)) sc2 mr car2 al ∧ zP pr nn0 tx g p m S0 ar0 mr n ar (V ++ aVs S0 ar0 m (cds ar (fl (fun q => !tW al j q) k r)) P) (aRow S0 ar0 m (cds ar (fl (fun q => !tW al j q) k r)) P) sc2 car2 ∧ zT sc car sc2 car2 := by
  intro r
  induction r with
  | zero =>
    intro k nn V P sc car h1 h2 h3 h4
    obtain ⟨nn, rfl⟩ : ∃ j, nn = j + 1 := ⟨nn - 1, by omega⟩
    rw [xF_306_85]
    rw [if_pos (nI_le (by omega) (by omega)), nI_1]
    refine ⟨sc, car, rfl, ?_, zT_rf h4.1.2.2⟩
    rw [show V ++ aVs S0 ar0 m (cds ar (fl (fun q => !tW al j q) k 0)) P = V from List.append_nil V]
    exact h4
  | succ r ih =>
    intro k nn V P sc car h1 h2 h3 h4
    obtain ⟨nn, rfl⟩ : ∃ j, nn = j + 1 := ⟨nn - 1, by omega⟩
    rw [xF_306_85]
    rw [if_neg (nI_ge (by omega) (by omega)), c_isah (by omega) (by omega), ob5, nI_1]
    by_cases z : tW al j k = true
    · rw [if_pos (show k < j ∧ tW al j k = true from ⟨by omega, z⟩), if_neg (show ¬ (1 : Int32) = 0 by decide)]
      rw [show fl (fun q => !tW al j q) k (r + 1) = fl (fun q => !tW al j q) (k + 1) r by
        show (if (!tW al j k) = true then _ else _) = _
        rw [z, if_neg (by decide)]] at h3 ⊢
      exact ih (k + 1) nn V P sc car (by omega) (by omega) h3 h4
    · have e0 : fl (fun q => !tW al j q) k (r + 1) = k :: fl (fun q => !tW al j q) (k + 1) r := by
        show (if (!tW al j k) = true then _ else _) = _
        rw [if_pos (by simpa using z)]
      rw [e0, List.length_cons] at h3
      rw [if_neg (show ¬ (k < j ∧ tW al j k = true) from fun y => z y.2), if_pos (show (0 : Int32) = 0 from rfl)]
      obtain ⟨sc2, car2, e1, e2, e3⟩ := c_again (al := al) h4 hn (show k < n by omega) (by omega)
      rw [e1, ob5]
      obtain ⟨sc3, car3, f1, f2, f3⟩ := ih (k + 1) nn _ _ sc2 car2 (by omega) (by omega) (by have := z_l1 (S0 := S0) (ar0 := ar0) (m := m) (ar := ar) (V := V) (P := P) (k := k); omega) e2
      refine ⟨sc3, car3, f1, ?_, zT_tr e3 f3⟩
      rw [show fl (fun q => !tW al j q) k (r + 1) = k :: fl (fun q => !tW al j q) (k + 1) r by
        show (if (!tW al j k) = true then _ else _) = _
        rw [if_pos (by simpa using z)], z_cons, z_row]
      exact f2
theorem c_t39 (hn : n ≤ 40) {i j : Nat} (hj : j < n) (hi : i < j) : ∀ (r k nn : Nat) (V : List (Nat → Int32)) (P : Nat → Int32) (sc car : jSc), k + r = j → r < nn → V.length + r ≤ 40 → zP pr nn0 tx g p m S0 ar0 mr n ar V P sc car → ∃ sc2 car2 nn2, xF_306_39 nn (nI i) (nI j) (nI k) sc mr car al = xF_306_39 (nn2 + 1) (nI i) (nI j) (nI j) sc2 mr car2 al ∧ zP pr nn0 tx g p m S0 ar0 mr n ar (V ++ aVs S0 ar0 m (cds ar (fl (tW al j) k r)) P) (aRow S0 ar0 m (cds ar (fl (tW al j) k r)) P) sc2 car2 ∧ zT sc car sc2 car2 := by
  intro r
  induction r with
  | zero =>
    intro k nn V P sc car h1 h2 h3 h4
    obtain ⟨nn, rfl⟩ : ∃ j, nn = j + 1 := ⟨nn - 1, by omega⟩
    have kn : k = j := by omega
    subst kn
    refine ⟨sc, car, nn, rfl, ?_, zT_rf h4.1.2.2⟩
    rw [show V ++ aVs S0 ar0 m (cds ar (fl (tW al k) k 0)) P = V from List.append_nil V]
    exact h4
  | succ r ih =>
    intro k nn V P sc car h1 h2 h3 h4
    obtain ⟨nn, rfl⟩ : ∃ j, nn = j + 1 := ⟨nn - 1, by omega⟩
    rw [xF_306_39]
    rw [if_neg (nI_ge (by omega) (by omega)), c_isah (by omega) (by omega), ob5, nI_1]
    by_cases z : tW al j k = true
    · rw [if_pos (show k < j ∧ tW al j k = true from ⟨by omega, z⟩), if_neg (show ¬ (1 : Int32) = 0 by decide)]
      obtain ⟨sc2, car2, e1, e2, e3⟩ := c_again (al := al) h4 hn (show k < n by omega) (by omega)
      rw [e1, ob5]
      obtain ⟨sc3, car3, nn2, f1, f2, f3⟩ := ih (k + 1) nn _ _ sc2 car2 (by omega) (by omega) (by have := z_l1 (S0 := S0) (ar0 := ar0) (m := m) (ar := ar) (V := V) (P := P) (k := k); omega) e2
      refine ⟨sc3, car3, nn2, f1, ?_, zT_tr e3 f3⟩
      rw [show fl (tW al j) k (r + 1) = k :: fl (tW al j) (k + 1) r by
        show (if tW al j k = true then _ else _) = _
        rw [if_pos z], z_cons, z_row]
      exact f2
    · rw [if_neg (show ¬ (k < j ∧ tW al j k = true) from fun y => z y.2), if_pos (show (0 : Int32) = 0 from rfl)]
      rw [show fl (tW al j) k (r + 1) = fl (tW al j) (k + 1) r by
        show (if tW al j k = true then _ else _) = _
        rw [if_neg z]]
      exact ih (k + 1) nn V P sc car (by omega) (by omega) (by omega) h4
theorem c_t18 (hn : n ≤ 40) {i j : Nat} (hj : j < n) (hi : i < j) : ∀ (r k nn : Nat) (V : List (Nat → Int32)) (P : Nat → Int32) (sc car : jSc), k + r = i → r < nn → V.length + r ≤ 40 → zP pr nn0 tx g p m S0 ar0 mr n ar V P sc car → ∃ sc2 car2, xF_306_18 nn (nI i) (nI j) (nI k) sc mr car al = xF_306_39 oF (nI i) (nI j) (nI (i + 1)) sc2 mr car2 al ∧ zP pr nn0 tx g p m S0 ar0 mr n ar (V ++ aVs S0 ar0 m (cds ar (fl (fun _ => true) k r)) P) (aRow S0 ar0 m (cds ar (fl (fun _ => true) k r)) P) sc2 car2 ∧ zT sc car sc2 car2 := by
  intro r
  induction r with
  | zero =>
    intro k nn V P sc car h1 h2 h3 h4
    obtain ⟨nn, rfl⟩ : ∃ j, nn = j + 1 := ⟨nn - 1, by omega⟩
    rw [xF_306_18]
    rw [if_pos (nI_le (by omega) (by omega)), nI_1]
    refine ⟨sc, car, rfl, ?_, zT_rf h4.1.2.2⟩
    rw [show V ++ aVs S0 ar0 m (cds ar (fl (fun _ => true) k 0)) P = V from List.append_nil V]
    exact h4
  | succ r ih =>
    intro k nn V P sc car h1 h2 h3 h4
    obtain ⟨nn, rfl⟩ : ∃ j, nn = j + 1 := ⟨nn - 1, by omega⟩
    obtain ⟨sc2, car2, e1, e2, e3⟩ := c_again (al := al) h4 hn (show k < n by omega) (by omega)
    rw [xF_306_18]
    rw [if_neg (nI_ge (by omega) (by omega)), e1, ob5, nI_1]
    obtain ⟨sc3, car3, f1, f2, f3⟩ := ih (k + 1) nn _ _ sc2 car2 (by omega) (by omega) (by have := z_l1 (S0 := S0) (ar0 := ar0) (m := m) (ar := ar) (V := V) (P := P) (k := k); omega) e2
    refine ⟨sc3, car3, f1, ?_, zT_tr e3 f3⟩
    rw [show fl (fun _ => true) k (r + 1) = k :: fl (fun _ => true) (k + 1) r from rfl, z_cons, z_row]
    exact f2
end CT
