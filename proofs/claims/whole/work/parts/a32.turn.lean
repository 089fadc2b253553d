/-! A CROSSING TURNED, in the reference. -/
/-- the numbers from a on, r of them, for which p holds -/
def fl (p : Nat → Bool) : Nat → Nat → List Nat
  | _, 0 => []
  | a, r + 1 => if p a = true then a :: fl p (a + 1) r else fl p (a + 1) r
theorem fl_len {p : Nat → Bool} : ∀ {r a : Nat}, (fl p a r).length + (fl (fun k => !p k) a r).length = r
  | 0, _ => rfl
  | r + 1, a => by
    have := fl_len (p := p) (r := r) (a := a + 1)
    unfold fl
    cases h : p a
    · simp; omega
    · simp; omega
theorem fl_t : ∀ {r a : Nat}, (fl (fun _ => true) a r).length = r
  | 0, _ => rfl
  | r + 1, a => by
    have := fl_t (r := r) (a := a + 1)
    unfold fl
    simp; omega
theorem fl_m {p : Nat → Bool} {x : Nat} : ∀ {r a : Nat}, x ∈ fl p a r → a ≤ x ∧ x < a + r
  | 0, _, h => by cases h
  | r + 1, a, h => by
    unfold fl at h
    split at h
    · rcases List.mem_cons.mp h with h | h
      · omega
      · have := fl_m h; omega
    · have := fl_m h; omega
/-- the happenings ahead of j, and behind it, as it is turned -/
def aPr (W : Nat → Nat → Bool) (i j : Nat) : List Nat := fl (fun _ => true) 0 i ++ fl (W j) (i + 1) (j - (i + 1))
def aPo (W : Nat → Nat → Bool) (n i j : Nat) : List Nat := i :: (fl (fun k => !W j k) (i + 1) (j - (i + 1)) ++ fl (fun _ => true) (j + 1) (n - (j + 1)))
theorem aP_len {W : Nat → Nat → Bool} {n i j : Nat} (hi : i < j) (hj : j < n) : (aPr W i j).length + 1 + (aPo W n i j).length = n := by
  have a := fl_len (p := W j) (r := j - (i + 1)) (a := i + 1)
  have b := fl_t (r := i) (a := 0)
  have c := fl_t (r := n - (j + 1)) (a := j + 1)
  unfold aPr aPo
  simp only [List.length_append, List.length_cons]
  omega
theorem aPr_m {W : Nat → Nat → Bool} {i j x : Nat} (hi : i < j) (h : x ∈ aPr W i j) : x < j := by
  unfold aPr at h
  rcases List.mem_append.mp h with h | h
  · have := fl_m h; omega
  · have := fl_m h; omega
theorem aPo_m {W : Nat → Nat → Bool} {n i j x : Nat} (hi : i < j) (hj : j < n) (h : x ∈ aPo W n i j) : x < n := by
  unfold aPo at h
  rcases List.mem_cons.mp h with h | h
  · omega
  · rcases List.mem_append.mp h with h | h
    · have := fl_m h; omega
    · have := fl_m h; omega
/-- the first n cells are the same -/
def eqN (f g : Nat → Int32) : Nat → Bool
  | 0 => true
  | k + 1 => eqN f g k && decide (f k = g k)
theorem eqN_i {f g : Nat → Int32} : ∀ {n : Nat}, eqN f g n = true ↔ ∀ k, k < n → f k = g k
  | 0 => ⟨fun _ k hk => absurd hk (by omega), fun _ => rfl⟩
  | n + 1 => by
    unfold eqN
    rw [Bool.and_eq_true, decide_eq_true_eq, eqN_i]
    constructor
    · rintro ⟨a, b⟩ k hk
      by_cases z : k = n
      · subst z; exact b
      · exact a k (by omega)
    · exact fun h => ⟨fun k hk => h k (by omega), h n (by omega)⟩
/-- are the first ten cells among the states up to n? -/
def aSB (T : Nat → Nat → Int32) (Q : Nat → Int32) : Nat → Bool
  | 0 => eqN (T 0) Q 10
  | s + 1 => aSB T Q s || eqN (T (s + 1)) Q 10
theorem aSB_i {T : Nat → Nat → Int32} {Q : Nat → Int32} : ∀ {n : Nat}, aSB T Q n = true ↔ ∃ s, s ≤ n ∧ ∀ k, k < 10 → T s k = Q k
  | 0 => by
    unfold aSB
    rw [eqN_i]
    constructor
    · exact fun h => ⟨0, Nat.le_refl _, h⟩
    · rintro ⟨s, h, k⟩
      have : s = 0 := by omega
      subst this; exact k
  | n + 1 => by
    unfold aSB
    rw [Bool.or_eq_true, eqN_i, aSB_i]
    constructor
    · rintro (⟨s, h, k⟩ | h)
      · exact ⟨s, by omega, k⟩
      · exact ⟨n + 1, Nat.le_refl _, h⟩
    · rintro ⟨s, h, k⟩
      by_cases z : s = n + 1
      · subst z; exact Or.inr k
      · exact Or.inl ⟨s, by omega, k⟩
theorem aSB_c {T T2 : Nat → Nat → Int32} {Q Q2 : Nat → Int32} {n : Nat} (h : ∀ s, s ≤ n → ∀ k, k < 10 → T2 s k = T s k) (e : ∀ k, k < 10 → Q2 k = Q k) : aSB T2 Q2 n = aSB T Q n := by
  rw [Bool.eq_iff_iff, aSB_i, aSB_i]
  constructor
  · rintro ⟨s, a, b⟩
    exact ⟨s, a, fun k hk => by rw [← h s a k hk, ← e k hk]; exact b k hk⟩
  · rintro ⟨s, a, b⟩
    exact ⟨s, a, fun k hk => by rw [h s a k hk, e k hk]; exact b k hk⟩
/-- is there a state that never was, on the way? -/
def aStg (S0 : Nat → Int32) (ar0 : jSc) (m : Nat) (T : Nat → Nat → Int32) (n : Nat) : List Nat → (Nat → Int32) → Bool
  | [], _ => false
  | c :: cs, P => if aCan ar0 m P c = true then (!aSB T (aSt S0 ar0 P c) n || aStg S0 ar0 m T n cs (aSt S0 ar0 P c)) else aStg S0 ar0 m T n cs P
theorem aStg_app {S0 : Nat → Int32} {ar0 : jSc} {m : Nat} {T : Nat → Nat → Int32} {n : Nat} {b : List Nat} : ∀ {a : List Nat} {P : Nat → Int32}, aStg S0 ar0 m T n (a ++ b) P = (aStg S0 ar0 m T n a P || aStg S0 ar0 m T n b (aRow S0 ar0 m a P))
  | [], _ => by simp [aStg, aRow]
  | c :: a, P => by
    have i1 := aStg_app (S0 := S0) (ar0 := ar0) (m := m) (T := T) (n := n) (b := b) (a := a) (P := aSt S0 ar0 P c)
    have i2 := aStg_app (S0 := S0) (ar0 := ar0) (m := m) (T := T) (n := n) (b := b) (a := a) (P := P)
    show (if aCan ar0 m P c = true then (!aSB T (aSt S0 ar0 P c) n || aStg S0 ar0 m T n (a ++ b) (aSt S0 ar0 P c)) else aStg S0 ar0 m T n (a ++ b) P) = ((if aCan ar0 m P c = true then _ else _) || aStg S0 ar0 m T n b (aRow S0 ar0 m a (aAg S0 ar0 m P c)))
    by_cases z : aCan ar0 m P c = true
    · rw [if_pos z, if_pos z, aAg_y z, i1, Bool.or_assoc]
    · rw [if_neg z, if_neg z, aAg_n z, i2]
theorem aRow_app {S0 : Nat → Int32} {ar0 : jSc} {m : Nat} {a b : List Nat} {P : Nat → Int32} : aRow S0 ar0 m (a ++ b) P = aRow S0 ar0 m b (aRow S0 ar0 m a P) := by
  unfold aRow
  rw [List.foldl_append]
/-- what becomes of it -/
def aTn (S0 : Nat → Int32) (ar0 : jSc) (m : Nat) (T : Nat → Nat → Int32) (R : Nat → Int32) (n : Nat) (c1 : List Nat) (cj : Nat) (c2 : List Nat) : Nat :=
  if aCan ar0 m (aRow S0 ar0 m c1 (aB0 S0 ar0)) cj = true then
    (if aRow S0 ar0 m (c1 ++ cj :: c2) (aB0 S0 ar0) 37 = 1 ∧ R 37 = 0 then 4 else
      if eqN (aRow S0 ar0 m (c1 ++ cj :: c2) (aB0 S0 ar0)) R 38 = true then (if aStg S0 ar0 m T n (c1 ++ cj :: c2) (aB0 S0 ar0) = true then 2 else 1) else 3)
  else 0
/-- the codes of happenings -/
def cds (ar : jSc) (l : List Nat) : List Nat := l.map (fun k => iN (ar 15 k))
theorem cds_app {ar : jSc} {a b : List Nat} : cds ar (a ++ b) = cds ar a ++ cds ar b := List.map_append
theorem cds_len {ar : jSc} {a : List Nat} : (cds ar a).length = a.length := List.length_map _
/-- the pair (i, j) turned -/
def aTu (S0 : Nat → Int32) (ar0 : jSc) (m : Nat) (ar : jSc) (W : Nat → Nat → Bool) (n i j : Nat) : Nat := aTn S0 ar0 m (fun s => ar (20 + s)) (ar 14) n (cds ar (aPr W i j)) (iN (ar 15 j)) (cds ar (aPo W n i j))
section TN
variable {S0 : Nat → Int32} {ar0 : jSc} {S : Nat → Int32} {ar : jSc} {sc car : jSc} {mr : Nat → Nat} {al : jAl} {pr nn0 p m n : Nat} {tx : Nat → Int32} {g : pG} {W : Nat → Nat → Bool}
/-- isState -/
theorem r_isst (hn : n ≤ 40) (h31 : S 31 = nI n) : rF_80 S ar = some (if aSB (fun s => ar (20 + s)) (ar 13) n = true then 1 else 0, S, ar) := by
  have inner : ∀ (k2 : Int32 → (Nat → Int32) → jSc → Option (Int32 × (Nat → Int32) × jSc)) (s : Nat), s < 41 → ∀ r k nn (x2 : Int32) , k + r = 10 → r < nn → iV x2 (∀ q, q < k → ar (20 + s) q = ar 13 q) → rF_80_14 k2 nn (nI s) x2 (nI k) S ar = if eqN (ar (20 + s)) (ar 13) 10 = true then some ((1 : Int32), S, ar) else k2 (nI (s + 1)) S ar := by
    intro k2 s hs r
    induction r with
    | zero =>
      intro k nn x2 h1 h2 h3
      obtain ⟨nn, rfl⟩ : ∃ j, nn = j + 1 := ⟨nn - 1, by omega⟩
      have k10 : k = 10 := by omega
      subst k10
      unfold rF_80_14
      rw [if_pos (show (10 : Int32) ≤ nI 10 by decide), nI_1]
      have w := iV_0 h3
      by_cases z : ∀ q, q < 10 → ar (20 + s) q = ar 13 q
      · rw [if_pos (eqN_i.mpr z), if_neg (fun y => w.mp y z)]
      · rw [if_neg (fun y => z (eqN_i.mp y)), if_pos (w.mpr z)]
    | succ r ih =>
      intro k nn x2 h1 h2 h3
      obtain ⟨nn, rfl⟩ : ∃ j, nn = j + 1 := ⟨nn - 1, by omega⟩
      unfold rF_80_14
      rw [if_neg (show ¬ (10 : Int32) ≤ nI k from nI_ge (b := 10) (by omega) (by decide)), nI_1]
      have w := iV_0 h3
      by_cases z : x2 = 0
      · rw [if_pos z]
        exact ih (k + 1) nn 0 (by omega) (by omega) (Or.inr ⟨fun y => (w.mp z) (fun q hq => y q (by omega)), rfl⟩)
      · have hz : ∀ q, q < k → ar (20 + s) q = ar 13 q := Classical.byContradiction fun y => z (w.mpr y)
        rw [if_neg z, if_pos (iB_nI hs (by decide)), if_pos (iB_nI (show k < 10 by omega) (by decide)), if_pos (iB_nI (show k < 53 by omega) (by decide)), iN_nI (by omega), iN_nI (by omega)]
        by_cases y : ar (20 + s) k = ar 13 k
        · rw [if_pos y]
          refine ih (k + 1) nn 1 (by omega) (by omega) (Or.inl ⟨fun q hq => ?_, rfl⟩)
          by_cases x : q = k
          · subst x; exact y
          · exact hz q (by omega)
        · rw [if_neg y]
          exact ih (k + 1) nn 0 (by omega) (by omega) (Or.inr ⟨fun x => y (x k (by omega)), rfl⟩)
  have go : ∀ r s nn, s + r = n + 1 → r < nn → ∃ v, rF_80_2 nn (nI s) S ar = some (v, S, ar) ∧ iV v (∃ q, s ≤ q ∧ q ≤ n ∧ ∀ k, k < 10 → ar (20 + q) k = ar 13 k) := by
    intro r
    induction r with
    | zero =>
      intro s nn h1 h2
      obtain ⟨nn, rfl⟩ : ∃ j, nn = j + 1 := ⟨nn - 1, by omega⟩
      unfold rF_80_2
      rw [h31, if_pos (nI_lt (by omega) (by omega))]
      exact ⟨0, rfl, Or.inr ⟨fun ⟨q, a, b, _⟩ => by omega, rfl⟩⟩
    | succ r ih =>
      intro s nn h1 h2
      obtain ⟨nn, rfl⟩ : ∃ j, nn = j + 1 := ⟨nn - 1, by omega⟩
      have ns : ¬ nI n < nI s := fun w => absurd ((nI_ltI (by omega) (by omega)).mp w) (by omega)
      unfold rF_80_2
      rw [h31, if_neg ns]
      have := inner (fun x1_ S_ ar_ => rF_80_2 nn x1_ S_ ar_) s (by omega) 10 0 oF 1 (by omega) (by unfold oF; omega) (Or.inl ⟨fun q hq => absurd hq (by omega), rfl⟩)
      rw [show nI 0 = (0 : Int32) from rfl] at this
      rw [this]
      by_cases z : ∀ q, q < 10 → ar (20 + s) q = ar 13 q
      · rw [if_pos (eqN_i.mpr z)]
        exact ⟨1, rfl, Or.inl ⟨⟨s, Nat.le_refl _, by omega, z⟩, rfl⟩⟩
      · rw [if_neg (fun y => z (eqN_i.mp y))]
        obtain ⟨v, e1, e2⟩ := ih (s + 1) nn (by omega) (by omega)
        refine ⟨v, e1, iV_c e2 ?_⟩
        constructor
        · rintro ⟨q, a, b, d⟩
          exact ⟨q, by omega, b, d⟩
        · rintro ⟨q, a, b, d⟩
          by_cases x : q = s
          · subst x; exact absurd d z
          · exact ⟨q, by omega, b, d⟩
  unfold rF_80
  obtain ⟨v, e1, e2⟩ := go (n + 1) 0 oF (by omega) (by unfold oF; omega)
  rw [show nI 0 = (0 : Int32) from rfl] at e1
  have e3 : iV v (aSB (fun s => ar (20 + s)) (ar 13) n = true) := iV_c e2 (by
    rw [aSB_i]
    constructor
    · rintro ⟨s, -, a, b⟩
      exact ⟨s, a, b⟩
    · rintro ⟨s, a, b⟩
      exact ⟨s, Nat.zero_le _, a, b⟩)
  rw [e1, iV_b e3]
/-- only the row of codes to be stepped has changed; it holds those of L -/
def rBq (ar : jSc) (L : List Nat) (a : jSc) : Prop := (∀ b, b ≠ 712 → a b = ar b) ∧ rl (a 712) 0 (cds ar L)
theorem r_put {L : List Nat} {k : Nat} {a : jSc} (h : rBq ar L a) (hl : L.length < 40) (hk : k < 40) (hc : ∃ c, c < 13 ∧ ar 15 k = nI c) : ∃ a9, rF_82 (nI L.length) (nI k) S a = some (nI (L.length + 1), S, a9) ∧ rBq ar (L ++ [k]) a9 := by
  obtain ⟨c, hc, e⟩ := hc
  unfold rF_82
  rw [if_pos (iB_nI hk (by decide)), if_pos (iB_nI hl (by decide)), nI_1, iN_nI (by omega), iN_nI (by omega)]
  refine ⟨_, rfl, fun b hb => (j_u2_row _ _ _ _ hb).trans (h.1 b hb), ?_⟩
  rw [cds_app, rl_app]
  refine ⟨rl_c h.2 (fun q h1 h2 => u2_nk (by rw [cds_len] at h2; omega)), ?_, trivial⟩
  rw [cds_len, Nat.zero_add, u2_eq, h.1 15 (by decide)]
  show ar 15 k = nI (iN (ar 15 k))
  rw [e, iN_nI (by omega)]
theorem r_t121 (hn : n ≤ 40) (h31 : S 31 = nI n) (hco : ∀ i, i < n → ∃ c, c < 13 ∧ ar 15 i = nI c) {x4 : Int32} : ∀ (r k nn : Nat) (L : List Nat) (a : jSc), k + r = n → r < nn → L.length + r ≤ 40 → rBq ar L a → ∃ a9, rF_81_121 nn (nI L.length) x4 (nI k) S a = o_b2 (rF_49 (upd S 16 0) a9) (fun Se18 are18 => rF_81_162 oF (nI (L ++ fl (fun _ => true) k r).length) x4 0 0 0 Se18 are18) ∧ rBq ar (L ++ fl (fun _ => true) k r) a9 := by
  intro r
  induction r with
  | zero =>
    intro k nn L a h1 h2 h3 h4
    obtain ⟨nn, rfl⟩ : ∃ j, nn = j + 1 := ⟨nn - 1, by omega⟩
    unfold rF_81_121
    rw [h31, if_pos (nI_le (by omega) (by omega))]
    rw [show L ++ fl (fun _ => true) k 0 = L from List.append_nil L]
    exact ⟨a, rfl, h4⟩
  | succ r ih =>
    intro k nn L a h1 h2 h3 h4
    obtain ⟨nn, rfl⟩ : ∃ j, nn = j + 1 := ⟨nn - 1, by omega⟩
    obtain ⟨a1, e1, e2⟩ := r_put (S := S) h4 (by omega) (show k < 40 by omega) (hco k (by omega))
    unfold rF_81_121
    rw [h31, if_neg (nI_ge (by omega) (by omega)), e1, ob3, nI_1]
    obtain ⟨a9, f1, f2⟩ := ih (k + 1) nn (L ++ [k]) a1 (by omega) (by omega) (by simp only [List.length_append, List.length_cons, List.length_nil]; omega) e2
    have e : L ++ fl (fun _ => true) k (r + 1) = (L ++ [k]) ++ fl (fun _ => true) (k + 1) r := by
      show L ++ (k :: fl (fun _ => true) (k + 1) r) = _
      simp
    rw [e]
    rw [show (L ++ [k]).length = L.length + 1 by simp] at f1
    exact ⟨a9, f1, f2⟩
theorem r_t84 (hn : n ≤ 40) {j : Nat} (hj : j < n) (ho : oF9 n ar W) (hco : ∀ i, i < n → ∃ c, c < 13 ∧ ar 15 i = nI c) {x4 : Int32} : ∀ (r k nn : Nat) (L : List Nat) (a : jSc), k + r = j → r < nn → L.length + (fl (fun q => !W j q) k r).length ≤ 40 → rBq ar L a → ∃ a9, rF_81_84 nn (nI j) (nI L.length) x4 (nI k) S a = rF_81_121 oF (nI (L ++ fl (fun q => !W j q) k r).length) x4 (nI (j + 1)) S a9 ∧ rBq ar (L ++ fl (fun q => !W j q) k r) a9 := by
  intro r
  induction r with
  | zero =>
    intro k nn L a h1 h2 h3 h4
    obtain ⟨nn, rfl⟩ : ∃ j, nn = j + 1 := ⟨nn - 1, by omega⟩
    unfold rF_81_84
    rw [if_pos (nI_le (by omega) (by omega)), nI_1]
    rw [show L ++ fl (fun q => !W j q) k 0 = L from List.append_nil L]
    exact ⟨a, rfl, h4⟩
  | succ r ih =>
    intro k nn L a h1 h2 h3 h4
    obtain ⟨nn, rfl⟩ : ∃ j, nn = j + 1 := ⟨nn - 1, by omega⟩
    have w := iV_0 (ho j hj k (by omega))
    unfold rF_81_84
    rw [if_neg (nI_ge (by omega) (by omega)), if_pos (iB_nI (show k < 40 by omega) (by decide)), if_pos (iB_nI (show j < 40 by omega) (by decide)), iN_nI (by omega), iN_nI (by omega), h4.1 (62 + k) (by omega)]
    by_cases z : W j k = true
    · rw [if_neg (fun y => w.mp y z), nI_1]
      have e : fl (fun q => !W j q) k (r + 1) = fl (fun q => !W j q) (k + 1) r := by
        show (if (!W j k) = true then _ else _) = _
        rw [z, if_neg (by decide)]
      rw [e] at h3 ⊢
      exact ih (k + 1) nn L a (by omega) (by omega) h3 h4
    · have e0 : fl (fun q => !W j q) k (r + 1) = k :: fl (fun q => !W j q) (k + 1) r := by
        show (if (!W j k) = true then k :: fl (fun q => !W j q) (k + 1) r else _) = _
        rw [if_pos (by simpa using z)]
      rw [e0, List.length_cons] at h3
      obtain ⟨a1, e1, e2⟩ := r_put (S := S) h4 (by omega) (show k < 40 by omega) (hco k (by omega))
      rw [if_pos (w.mpr z), e1, ob3, nI_1]
      obtain ⟨a9, f1, f2⟩ := ih (k + 1) nn (L ++ [k]) a1 (by omega) (by omega) (by simp only [List.length_append, List.length_cons, List.length_nil]; omega) e2
      have e : L ++ fl (fun q => !W j q) k (r + 1) = (L ++ [k]) ++ fl (fun q => !W j q) (k + 1) r := by
        show L ++ (if (!W j k) = true then k :: fl (fun q => !W j q) (k + 1) r else _) = _
        rw [if_pos (by simpa using z)]
        simp
      rw [e]
      rw [show (L ++ [k]).length = L.length + 1 by simp] at f1
      exact ⟨a9, f1, f2⟩
theorem r_t30 (hn : n ≤ 40) {i j : Nat} (hi : i < j) (hj : j < n) (ho : oF9 n ar W) (hco : ∀ i, i < n → ∃ c, c < 13 ∧ ar 15 i = nI c) : ∀ (r k nn : Nat) (L : List Nat) (a : jSc), k + r = j → r < nn → L.length + r + 2 ≤ 40 → rBq ar L a → ∃ a9, rF_81_30 nn (nI i) (nI j) (nI L.length) (nI k) S a = rF_81_84 oF (nI j) (nI (L ++ fl (W j) k r ++ [j, i]).length) (nI (L ++ fl (W j) k r).length) (nI (i + 1)) S a9 ∧ rBq ar (L ++ fl (W j) k r ++ [j, i]) a9 := by
  intro r
  induction r with
  | zero =>
    intro k nn L a h1 h2 h3 h4
    obtain ⟨nn, rfl⟩ : ∃ j, nn = j + 1 := ⟨nn - 1, by omega⟩
    obtain ⟨a1, e1, e2⟩ := r_put (S := S) h4 (by omega) (show j < 40 by omega) (hco j (by omega))
    have l1 : (L ++ [j]).length = L.length + 1 := by simp
    obtain ⟨a2, f1, f2⟩ := r_put (S := S) e2 (by omega) (show i < 40 by omega) (hco i (by omega))
    rw [l1] at f1
    unfold rF_81_30
    rw [if_pos (nI_le (by omega) (by omega)), e1, ob3, f1, ob3, nI_1]
    rw [show L ++ fl (W j) k 0 = L from List.append_nil L, show (L ++ [j, i]).length = L.length + 1 + 1 by simp]
    refine ⟨a2, rfl, ?_⟩
    rw [show L ++ [j, i] = L ++ [j] ++ [i] by simp]
    exact f2
  | succ r ih =>
    intro k nn L a h1 h2 h3 h4
    obtain ⟨nn, rfl⟩ : ∃ j, nn = j + 1 := ⟨nn - 1, by omega⟩
    have w := iV_0 (ho j hj k (by omega))
    unfold rF_81_30
    rw [if_neg (nI_ge (by omega) (by omega)), if_pos (iB_nI (show k < 40 by omega) (by decide)), if_pos (iB_nI (show j < 40 by omega) (by decide)), iN_nI (by omega), iN_nI (by omega), h4.1 (62 + k) (by omega)]
    by_cases z : W j k = true
    · obtain ⟨a1, e1, e2⟩ := r_put (S := S) h4 (by omega) (show k < 40 by omega) (hco k (by omega))
      rw [if_neg (fun y => w.mp y z), e1, ob3, nI_1]
      obtain ⟨a9, f1, f2⟩ := ih (k + 1) nn (L ++ [k]) a1 (by omega) (by omega) (by simp only [List.length_append, List.length_cons, List.length_nil]; omega) e2
      have e : L ++ fl (W j) k (r + 1) = (L ++ [k]) ++ fl (W j) (k + 1) r := by
        show L ++ (if W j k = true then k :: fl (W j) (k + 1) r else _) = _
        rw [if_pos z]
        simp
      rw [e]
      rw [show (L ++ [k]).length = L.length + 1 by simp] at f1
      exact ⟨a9, f1, f2⟩
    · rw [if_pos (w.mpr z), nI_1]
      have e : fl (W j) k (r + 1) = fl (W j) (k + 1) r := by
        show (if W j k = true then _ else _) = _
        rw [if_neg z]
      rw [e]
      exact ih (k + 1) nn L a (by omega) (by omega) (by omega) h4
theorem r_t5 (hn : n ≤ 40) {i j : Nat} (hi : i < j) (hj : j < n) (hco : ∀ i, i < n → ∃ c, c < 13 ∧ ar 15 i = nI c) : ∀ (r k nn : Nat) (L : List Nat) (a : jSc), k + r = i → r < nn → L.length + r ≤ 40 → rBq ar L a → ∃ a9, rF_81_5 nn (nI i) (nI j) (nI L.length) (nI k) S a = rF_81_30 oF (nI i) (nI j) (nI (L ++ fl (fun _ => true) k r).length) (nI (i + 1)) S a9 ∧ rBq ar (L ++ fl (fun _ => true) k r) a9 := by
  intro r
  induction r with
  | zero =>
    intro k nn L a h1 h2 h3 h4
    obtain ⟨nn, rfl⟩ : ∃ j, nn = j + 1 := ⟨nn - 1, by omega⟩
    unfold rF_81_5
    rw [if_pos (nI_le (by omega) (by omega)), nI_1]
    rw [show L ++ fl (fun _ => true) k 0 = L from List.append_nil L]
    exact ⟨a, rfl, h4⟩
  | succ r ih =>
    intro k nn L a h1 h2 h3 h4
    obtain ⟨nn, rfl⟩ : ∃ j, nn = j + 1 := ⟨nn - 1, by omega⟩
    obtain ⟨a1, e1, e2⟩ := r_put (S := S) h4 (by omega) (show k < 40 by omega) (hco k (by omega))
    unfold rF_81_5
    rw [if_neg (nI_ge (by omega) (by omega)), e1, ob3, nI_1]
    obtain ⟨a9, f1, f2⟩ := ih (k + 1) nn (L ++ [k]) a1 (by omega) (by omega) (by simp only [List.length_append, List.length_cons, List.length_nil]; omega) e2
    have e : L ++ fl (fun _ => true) k (r + 1) = (L ++ [k]) ++ fl (fun _ => true) (k + 1) r := by
      show L ++ (k :: fl (fun _ => true) (k + 1) r) = _
      simp
    rw [e]
    rw [show (L ++ [k]).length = L.length + 1 by simp] at f1
    exact ⟨a9, f1, f2⟩
/-- the row is made -/
theorem r_t0 (hn : n ≤ 40) (h31 : S 31 = nI n) {i j : Nat} (hi : i < j) (hj : j < n) (ho : oF9 n ar W) (hco : ∀ i, i < n → ∃ c, c < 13 ∧ ar 15 i = nI c) : ∃ a9, rF_81 (nI i) (nI j) S ar = o_b2 (rF_49 (upd S 16 0) a9) (fun Se18 are18 => rF_81_162 oF (nI n) (nI (aPr W i j).length) 0 0 0 Se18 are18) ∧ rBq ar (aPr W i j ++ j :: aPo W n i j) a9 := by
  have len := aP_len (W := W) hi hj
  have f0 := fl_t (r := i) (a := 0)
  have f1 := fl_len (p := W j) (r := j - (i + 1)) (a := i + 1)
  have f2 := fl_t (r := n - (j + 1)) (a := j + 1)
  obtain ⟨a1, e1, e2⟩ := r_t5 (S := S) hn hi hj hco i 0 oF [] ar (by omega) (by unfold oF; omega) (by simp only [List.length_nil]; omega) ⟨fun _ _ => rfl, trivial⟩
  rw [List.nil_append] at e1 e2
  obtain ⟨a2, g1, g2⟩ := r_t30 (S := S) hn hi hj ho hco (j - (i + 1)) (i + 1) oF _ a1 (by omega) (by unfold oF; omega) (by omega) e2
  obtain ⟨a3, h1, h2⟩ := r_t84 (S := S) hn hj ho hco (x4 := nI (aPr W i j).length) (j - (i + 1)) (i + 1) oF _ a2 (by omega) (by unfold oF; omega) (by simp only [List.length_append, List.length_cons, List.length_nil]; omega) g2
  obtain ⟨a4, k1, k2⟩ := r_t121 (S := S) hn h31 hco (x4 := nI (aPr W i j).length) (n - (j + 1)) (j + 1) oF _ a3 (by omega) (by unfold oF; omega) (by simp only [List.length_append, List.length_cons, List.length_nil]; omega) h2
  have el : fl (fun _ => true) 0 i ++ fl (W j) (i + 1) (j - (i + 1)) ++ [j, i] ++ fl (fun q => !W j q) (i + 1) (j - (i + 1)) ++ fl (fun _ => true) (j + 1) (n - (j + 1)) = aPr W i j ++ j :: aPo W n i j := by
    unfold aPr aPo
    simp
  rw [el] at k1 k2
  refine ⟨a4, ?_, k2⟩
  unfold rF_81
  show rF_81_5 oF (nI i) (nI j) (nI 0) (nI 0) S ar = _
  rw [List.length_nil] at e1
  rw [e1, g1]
  have : rF_81_84 oF (nI j) (nI (fl (fun _ => true) 0 i ++ fl (W j) (i + 1) (j - (i + 1)) ++ [j, i]).length) (nI (fl (fun _ => true) 0 i ++ fl (W j) (i + 1) (j - (i + 1))).length) (nI (i + 1)) S a2 = rF_81_84 oF (nI j) (nI (fl (fun _ => true) 0 i ++ fl (W j) (i + 1) (j - (i + 1)) ++ [j, i]).length) (nI (aPr W i j).length) (nI (i + 1)) S a2 := rfl
  rw [this, h1, k1]
  rw [show (aPr W i j ++ j :: aPo W n i j).length = n by simp only [List.length_append, List.length_cons]; omega]
end TN
