/-! ClickOrders: its reader's scanning. -/
theorem u2_c {f : jSc} {a k b j : Nat} {x y : Int32} (h : ¬ (a = b ∧ k = j)) : j_u2 (j_u2 f a k x) b j y = j_u2 (j_u2 f b j y) a k x := by
  funext c i
  by_cases e1 : c = a ∧ i = k
  · by_cases e2 : c = b ∧ i = j
    · exact absurd ⟨e1.1.symm.trans e2.1, e1.2.symm.trans e2.2⟩ h
    · simp [j_u2, e1, e2]
      intro z1 z2
      exact absurd ⟨z1, z2⟩ h
  · simp [j_u2, e1]
theorem u2_2 {f : jSc} {a k : Nat} {x y : Int32} : j_u2 (j_u2 f a k x) a k y = j_u2 f a k y := by
  funext c i
  by_cases e1 : c = a ∧ i = k
  · simp [j_u2, e1]
  · simp [j_u2, e1]
theorem u2_3 {f : jSc} {a k : Nat} : j_u2 f a k (f a k) = f := by
  funext c i
  by_cases e1 : c = a ∧ i = k
  · simp [j_u2, e1]
  · simp [j_u2, e1]
/-- the cursor becomes q -/
abbrev cA (sc : jSc) (q : Nat) : jSc := j_u2 sc 756 2 (nI q)
theorem cA_A {sc : jSc} {p q : Nat} : cA (cA sc p) q = cA sc q := u2_2
theorem cA_2 {sc : jSc} {q : Nat} : cA sc q 756 2 = nI q := u2_eq
theorem cA_1 {sc : jSc} {q : Nat} : j_u2 (cA sc q) 756 2 (nI q + 1) = cA sc (q + 1) := by rw [nI_1]; exact cA_A
theorem cA_i {sc : jSc} {q : Nat} (h : sc 756 2 = nI q) : cA sc q = sc := by unfold cA; rw [← h]; exact u2_3
/-- the reader reads the text tx of n bytes -/
def c_TX (sc ar : jSc) (n : Nat) (tx : Nat → Int32) : Prop := x_tx n tx ∧ sc 756 1 = nI n ∧ ∀ p, p < n → ar 735 p = tx p
theorem c_TX_S {sc sc2 ar ar2 : jSc} {n : Nat} {tx : Nat → Int32} (h : c_TX sc ar n tx) (h1 : sc2 756 1 = sc 756 1) (h2 : ar2 735 = ar 735) : c_TX sc2 ar2 n tx := ⟨h.1, h1.trans h.2.1, fun p hp => by rw [h2]; exact h.2.2 p hp⟩
theorem c_TX_A {sc ar : jSc} {n q : Nat} {tx : Nat → Int32} (h : c_TX sc ar n tx) : c_TX (cA sc q) ar n tx := c_TX_S h rfl rfl
section CS
variable {tx : Nat → Int32} {n : Nat} {sc ar : jSc} {mr : Nat → Nat} {al : jAl}
theorem c_len (h : c_TX sc ar n tx) {q : Nat} (hq : q < 2 ^ 31) : sc 756 1 ≤ nI q ↔ n ≤ q := by
  rw [h.2.1]
  exact nI_leI (by have := h.1.1; omega) hq
theorem c_byte (h : c_TX sc ar n tx) {q : Nat} (hq : q < n) : iB (nI q) 600 ∧ ar 735 (iN (nI q)) = tx q := by
  have := h.1.1
  exact ⟨iB_nI (by omega) (by decide), by rw [iN_nI (by omega)]; exact h.2.2 q hq⟩
theorem c_skips (h : c_TX sc ar n tx) {q : Nat} (hq : q ≤ n) : xF_273 (cA sc q) mr ar al = some (cA sc (x_nb tx q), mr, ar, al) := by
  have hn := h.1.1
  obtain ⟨b0, b1, b2, b3⟩ := x_nb_ok h.1 q
  have go : ∀ (m p nn : Nat), p + m = x_nb tx q → q ≤ p → m < nn → xF_273_5 nn (nI p) (cA sc p) mr ar al = some (cA sc (x_nb tx q), mr, ar, al) := by
    intro m
    induction m with
    | zero =>
      intro p nn e1 e2 e3
      obtain ⟨nn, rfl⟩ : ∃ j, nn = j + 1 := ⟨nn - 1, by omega⟩
      have e : p = x_nb tx q := by omega
      subst e
      unfold xF_273_5
      by_cases c : n ≤ x_nb tx q
      · rw [if_pos ((c_len (c_TX_A h) (by omega)).mpr c)]
      · obtain ⟨y1, y2⟩ := c_byte h (show x_nb tx q < n by omega)
        rw [if_neg (fun z => c ((c_len (c_TX_A h) (by omega)).mp z)), if_pos y1, y2, if_neg b3]
    | succ m ih =>
      intro p nn e1 e2 e3
      obtain ⟨nn, rfl⟩ : ∃ j, nn = j + 1 := ⟨nn - 1, by omega⟩
      have hp : p < n := lt_n h.1 (by rw [b2 p e2 (by omega)]; decide)
      obtain ⟨y1, y2⟩ := c_byte h hp
      unfold xF_273_5
      rw [if_neg (fun z => absurd ((c_len (c_TX_A h) (by omega)).mp z) (by omega)), if_pos y1, y2, if_pos (b2 p e2 (by omega)), nI_1, u2_2]
      exact ih (p + 1) nn (by omega) (by omega) (by omega)
  unfold xF_273
  rw [cA_2]
  exact go (x_nb tx q - q) q oF (by omega) (by omega) (by rw [oF_s]; omega)
theorem c_sign (h : c_TX sc ar n tx) {q : Nat} (hq : q ≤ n) {c : Int32} (hc : ¬ c = -1) : xF_270 c (cA sc q) mr ar al = some (if tx (x_nb tx q) = c then 1 else 0, if tx (x_nb tx q) = c then cA sc (x_nb tx q + 1) else cA sc (x_nb tx q), mr, ar, al) := by
  have hn := h.1.1
  have b1 := x_nb_le h.1 hq
  unfold xF_270
  rw [c_skips h hq, ob4, cA_2]
  by_cases c1 : n ≤ x_nb tx q
  · have : ¬ tx (x_nb tx q) = c := by rw [h.1.2.1 _ c1]; exact fun z => hc z.symm
    rw [if_pos ((c_len (c_TX_A h) (by omega)).mpr c1), if_neg this, if_neg this]
  · obtain ⟨y1, y2⟩ := c_byte h (show x_nb tx q < n by omega)
    rw [if_neg (fun z => c1 ((c_len (c_TX_A h) (by omega)).mp z)), if_pos y1, y2]
    by_cases c2 : tx (x_nb tx q) = c
    · rw [if_pos c2, if_pos c2, if_pos c2, cA_1]
    · rw [if_neg c2, if_neg c2, if_neg c2]
/-- a fault of the reader -/
def cF (sc : jSc) (kd pl : Nat) : jSc := if sc 756 4 = 0 then j_u2 (j_u2 (j_u2 sc 756 4 (nI kd)) 756 6 (nI pl)) 756 2 (sc 756 1) else j_u2 sc 756 2 (sc 756 1)
theorem c_faults {kd pl : Nat} : xF_276 (nI kd) (nI pl) sc mr ar al = some (cF sc kd pl, mr, ar, al) := by
  unfold xF_276 cF
  split <;> rfl
theorem c_needs (h : c_TX sc ar n tx) {q : Nat} (hq : q ≤ n) {c : Int32} (hc : ¬ c = -1) : xF_271 c (cA sc q) mr ar al = some (if tx (x_nb tx q) = c then cA sc (x_nb tx q + 1) else cF (cA sc (x_nb tx q)) 1 (x_nb tx q), mr, ar, al) := by
  have hn := h.1.1
  have b1 := x_nb_le h.1 hq
  have obx : ∀ (x : Option (jSc × (Nat → Nat) × jSc × jAl)), (o_b4 x (fun a b c d => some (a, b, c, d))) = x := by
    intro x
    rcases x with _ | ⟨a, b, c, d⟩ <;> rfl
  unfold xF_271
  rw [c_skips h hq, ob4, cA_2, show (1 : Int32) = nI 1 from rfl, c_faults, ob4]
  by_cases c1 : n ≤ x_nb tx q
  · have : ¬ tx (x_nb tx q) = c := by rw [h.1.2.1 _ c1]; exact fun z => hc z.symm
    rw [if_pos ((c_len (c_TX_A h) (by omega)).mpr c1), if_neg this]
  · obtain ⟨y1, y2⟩ := c_byte h (show x_nb tx q < n by omega)
    rw [if_neg (fun z => c1 ((c_len (c_TX_A h) (by omega)).mp z)), if_pos y1, y2]
    by_cases c2 : tx (x_nb tx q) = c
    · rw [if_pos c2, if_pos c2, nI_add, u2_2]
    · rw [if_neg c2, if_neg c2]
theorem c_isDigit (h : c_TX sc ar n tx) {q : Nat} (hq : q < 2 ^ 30) : xF_274 (nI q) sc mr ar al = some (if x_dg (tx q) then 1 else 0, sc, mr, ar, al) := by
  have hn := h.1.1
  unfold xF_274
  rw [if_neg (nI_pos (by omega))]
  by_cases c1 : n ≤ q
  · rw [if_pos ((c_len h (by omega)).mpr c1), if_neg (by rw [h.1.2.1 _ c1]; decide)]
  · obtain ⟨y1, y2⟩ := c_byte h (show q < n by omega)
    rw [if_neg (fun z => c1 ((c_len h (by omega)).mp z)), if_pos y1, y2, if_pos y1]
    by_cases h1 : tx q < 48
    · rw [if_pos h1, if_neg (fun z => Int32.not_lt.mpr z.1 h1)]
    · by_cases h2 : 57 < tx q
      · rw [if_neg h1, if_pos h2, if_neg (fun z => Int32.not_lt.mpr z.2 h2)]
      · rw [if_neg h1, if_neg h2, if_pos ⟨Int32.not_lt.mp h1, Int32.not_lt.mp h2⟩]
theorem c_isSmall (h : c_TX sc ar n tx) {q : Nat} (hq : q < 2 ^ 30) : xF_275 (nI q) sc mr ar al = some (if x_sm (tx q) then 1 else 0, sc, mr, ar, al) := by
  have hn := h.1.1
  unfold xF_275
  rw [if_neg (nI_pos (by omega))]
  by_cases c1 : n ≤ q
  · rw [if_pos ((c_len h (by omega)).mpr c1), if_neg (by rw [h.1.2.1 _ c1]; decide)]
  · obtain ⟨y1, y2⟩ := c_byte h (show q < n by omega)
    rw [if_neg (fun z => c1 ((c_len h (by omega)).mp z)), if_pos y1, y2, if_pos y1]
    by_cases h1 : tx q < 97
    · rw [if_pos h1, if_neg (fun z => Int32.not_lt.mpr z.1 h1)]
    · by_cases h2 : 122 < tx q
      · rw [if_neg h1, if_pos h2, if_neg (fun z => Int32.not_lt.mpr z.2 h2)]
      · rw [if_neg h1, if_neg h2, if_pos ⟨Int32.not_lt.mp h1, Int32.not_lt.mp h2⟩]
/-- a word by its letters -/
theorem x_wr_get (tx : Nat → Int32) (q : Nat) : ∀ (m j : Nat), j < m → (x_wr tx q m).getD j 0 = x_lt tx (q + (m - 1 - j))
  | 0, _, h => absurd h (by omega)
  | m + 1, 0, _ => by simp [x_wr]
  | m + 1, j + 1, h => by
    have := x_wr_get tx q m j (by omega)
    simp only [x_wr, List.getD_cons_succ]
    rw [this]
    congr 1
    omega
theorem x_lok_get : ∀ (w : List Nat), x_lok w → ∀ j, j < w.length → 1 ≤ w.getD j 0 ∧ w.getD j 0 ≤ 26
  | [], _, j, h => absurd h (by simp)
  | x :: r, hw, 0, _ => by simpa using hw.1
  | x :: r, hw, j + 1, h => by
    simp only [List.getD_cons_succ]
    exact x_lok_get r hw.2 j (by simpa using h)
theorem x_is_iff (hT : x_tx n tx) {w : List Nat} (hw : x_lok w) {q : Nat} : x_is tx q w ↔ (∀ i, i < w.length → tx (q + i) = nI (96 + w.getD (w.length - 1 - i) 0)) ∧ ¬ x_sm (tx (q + w.length)) := by
  obtain ⟨a1, a2, a3, a4⟩ := x_we_ok hT q
  constructor
  · rintro ⟨h1, h2⟩
    refine ⟨fun i hi => ?_, by rw [← h1]; exact a4⟩
    have hs := a3 (q + i) (by omega) (by omega)
    obtain ⟨k, k1, k2, k3⟩ := of_sm hs
    have := x_wr_get tx q w.length (w.length - 1 - i) (by omega)
    rw [h2] at this
    rw [this, show w.length - 1 - (w.length - 1 - i) = i by omega]
    unfold x_lt
    rw [k3, iN_nI (by omega)]
    congr 1
    omega
  · rintro ⟨h1, h2⟩
    have e1 : x_we tx q = q + w.length := by
      refine x_sk_eq _ 1500 (by omega) ?_ (fun j b1 b2 => ?_) (by simpa using h2)
      · by_cases z : w.length = 0
        · omega
        · have hl : q + (w.length - 1) < n := lt_n hT (by
            rw [h1 (w.length - 1) (by omega)]
            have := x_lok_get w hw (w.length - 1 - (w.length - 1)) (by omega)
            exact nI_nm (by omega))
          have := hT.1
          omega
      · have := h1 (j - q) (by omega)
        rw [show q + (j - q) = j by omega] at this
        have l := x_lok_get w hw (w.length - 1 - (j - q)) (by omega)
        rw [this]
        exact decide_eq_true ⟨(nI_leI (a := 97) (by decide) (by omega)).mpr (by omega), (nI_leI (b := 122) (by omega) (by decide)).mpr (by omega)⟩
    refine ⟨e1, List.ext_getElem (by rw [x_wr_len]) (fun j b1 b2 => ?_)⟩
    have g1 : (x_wr tx q w.length)[j] = (x_wr tx q w.length).getD j 0 := by simp [List.getD_eq_getElem?_getD, b1]
    have g2 : w[j] = w.getD j 0 := by simp [List.getD_eq_getElem?_getD, b2]
    rw [g1, g2, x_wr_get tx q w.length j b2]
    unfold x_lt
    have l := x_lok_get w hw j b2
    rw [h1 (w.length - 1 - j) (by omega), show w.length - 1 - (w.length - 1 - j) = j by omega, iN_nI (by omega)]
    omega
/-- the number s names the word w -/
def x_sw (s : Nat) (w : List Nat) : Prop := x_sn s = w.length ∧ x_lok w ∧ w.length ≤ 6 ∧ ∀ i, i < w.length → x_sc s i = nI (96 + w.getD (w.length - 1 - i) 0)
theorem c_word (h : c_TX sc ar n tx) {q s : Nat} {w : List Nat} (hq : q ≤ n) (hs : x_sw s w) : xF_269 s (cA sc q) mr ar al = some (if x_is tx (x_nb tx q) w then 1 else 0, if x_is tx (x_nb tx q) w then cA sc (x_nb tx q + w.length) else cA sc (x_nb tx q), mr, ar, al) := by
  have hn := h.1.1
  have b1 := x_nb_le h.1 hq
  obtain ⟨s1, s2, s3, s4⟩ := hs
  have hA := c_TX_A (q := x_nb tx q) h
  have go : ∀ (m k nn : Nat), k + m = w.length → m < nn → (∀ i, i < k → tx (x_nb tx q + i) = nI (96 + w.getD (w.length - 1 - i) 0)) → xF_269_11 nn s (nI w.length) (nI k) (cA sc (x_nb tx q)) mr ar al = some (if x_is tx (x_nb tx q) w then 1 else 0, if x_is tx (x_nb tx q) w then cA sc (x_nb tx q + w.length) else cA sc (x_nb tx q), mr, ar, al) := by
    intro m
    induction m with
    | zero =>
      intro k nn e1 e2 e3
      obtain ⟨nn, rfl⟩ : ∃ j, nn = j + 1 := ⟨nn - 1, by omega⟩
      have e : k = w.length := by omega
      subst e
      unfold xF_269_11
      rw [if_pos (nI_le (Nat.le_refl _) (by omega)), cA_2, nI_add, c_isSmall hA (by omega), ob5]
      by_cases c : x_sm (tx (x_nb tx q + w.length))
      · have : ¬ x_is tx (x_nb tx q) w := fun z => ((x_is_iff h.1 s2).mp z).2 c
        rw [if_pos c, if_neg (by decide), if_neg this, if_neg this]
      · have : x_is tx (x_nb tx q) w := (x_is_iff h.1 s2).mpr ⟨e3, c⟩
        rw [if_neg c, if_pos rfl, if_pos this, if_pos this, cA_2, nI_add, u2_2]
    | succ m ih =>
      intro k nn e1 e2 e3
      obtain ⟨nn, rfl⟩ : ∃ j, nn = j + 1 := ⟨nn - 1, by omega⟩
      have no : ¬ tx (x_nb tx q + k) = nI (96 + w.getD (w.length - 1 - k) 0) → ¬ x_is tx (x_nb tx q) w := fun z y => z (((x_is_iff h.1 s2).mp y).1 k (by omega))
      have l := x_lok_get w s2 (w.length - 1 - k) (by omega)
      unfold xF_269_11
      rw [if_neg (nI_ge (by omega) (by omega)), cA_2, nI_add]
      by_cases c1 : n ≤ x_nb tx q + k
      · have := no (by rw [h.1.2.1 _ c1]; exact fun z => nI_nm (by omega) z.symm)
        rw [if_pos ((c_len hA (by omega)).mpr c1), if_neg this, if_neg this]
      · obtain ⟨y1, y2⟩ := c_byte h (show x_nb tx q + k < n by omega)
        rw [if_neg (fun z => c1 ((c_len hA (by omega)).mp z)), if_pos y1, s1, if_pos (iB_nI (by omega) (by omega)), y2, iN_nI (by omega), s4 k (by omega)]
        by_cases c2 : tx (x_nb tx q + k) = nI (96 + w.getD (w.length - 1 - k) 0)
        · rw [if_pos c2, nI_1]
          exact ih (k + 1) nn (by omega) (by omega) (fun i hi => by
            by_cases ee : i = k
            · subst ee; exact c2
            · exact e3 i (by omega))
        · rw [if_neg c2, if_neg (no c2), if_neg (no c2)]
  unfold xF_269
  rw [c_skips h hq, ob4, show x_sl s = nI w.length by unfold x_sl; rw [s1]; rfl]
  exact go w.length 0 oF (by omega) (by rw [oF_s]; omega) (fun i hi => by omega)
end CS
