/-! THE TOLD ROW, cut down: on both sides. -/
/-- one pass: what is left, given what stands and what is to be tried -/
def cPs (sp : List Nat → Bool) : List Nat → List Nat → List Nat
  | pre, [] => pre
  | pre, c :: r => if sp (pre ++ r) = true then cPs sp pre r else cPs sp (pre ++ [c]) r
def cRd (sp : List Nat → Bool) : Nat → List Nat → List Nat
  | 0, cs => cs
  | f + 1, cs => if (cPs sp [] cs).length < cs.length then cRd sp f (cPs sp [] cs) else cPs sp [] cs
theorem cPs_len {sp : List Nat → Bool} : ∀ {r pre : List Nat}, (cPs sp pre r).length ≤ pre.length + r.length
  | [], pre => by simp [cPs]
  | c :: r, pre => by
    unfold cPs
    split
    · have := cPs_len (sp := sp) (r := r) (pre := pre)
      simp only [List.length_cons]; omega
    · have := cPs_len (sp := sp) (r := r) (pre := pre ++ [c])
      simp only [List.length_cons, List.length_append, List.length_nil] at this ⊢; omega
theorem cPs_mem {sp : List Nat → Bool} {x : Nat} : ∀ {r pre : List Nat}, x ∈ cPs sp pre r → x ∈ pre ++ r
  | [], pre => by simp [cPs]
  | c :: r, pre => by
    unfold cPs
    split
    · intro h
      have := cPs_mem h
      simp only [List.mem_append, List.mem_cons] at this ⊢
      rcases this with h | h
      · exact Or.inl h
      · exact Or.inr (Or.inr h)
    · intro h
      have := cPs_mem h
      simpa using this
theorem cRd_mem {sp : List Nat → Bool} {x : Nat} : ∀ {f : Nat} {cs : List Nat}, x ∈ cRd sp f cs → x ∈ cs
  | 0, cs => fun h => h
  | f + 1, cs => by
    unfold cRd
    split
    · intro h; have := cPs_mem (cRd_mem h); simpa using this
    · intro h; have := cPs_mem h; simpa using this
theorem cRd_len {sp : List Nat → Bool} : ∀ {f : Nat} {cs : List Nat}, (cRd sp f cs).length ≤ cs.length
  | 0, cs => Nat.le_refl _
  | f + 1, cs => by
    unfold cRd
    split
    · exact Nat.le_trans cRd_len (by omega)
    · have := cPs_len (sp := sp) (r := cs) (pre := [])
      simpa using this
/-- the told row of the reference: cs -/
def tRf (S : Nat → Int32) (ar : jSc) (cs : List Nat) : Prop := S 51 = nI cs.length ∧ rl (ar 711) 0 cs ∧ cs.length ≤ 40 ∧ ∀ c ∈ cs, c < 13
def tCl (sc car : jSc) (cs : List Nat) : Prop := sc 819 1 = nI cs.length ∧ rl (car 820) 0 cs ∧ cs.length ≤ 40 ∧ ∀ c ∈ cs, c < 13
/-- what cutting leaves -/
def vT (S : Nat → Int32) (ar : jSc) (S9 : Nat → Int32) (ar9 : jSc) : Prop := rF8 (upd S 51 (S9 51)) S9 ∧ ∀ b, b ≠ 13 → b ≠ 711 → ar9 b = ar b
def wT (sc car sc9 car9 : jSc) : Prop := hF7 (j_u2 sc 819 1 (sc9 819 1)) sc9 ∧ (∀ b, b ≠ 758 → b ≠ 822 → b ≠ 820 → car9 b = car b) ∧ sc9 757 5 = 0
theorem rF8_k {A B : Nat → Int32} : rF8 A B ↔ ∀ k, (k < 3 ∨ (8 ≤ k ∧ k ≤ 16) ∨ (18 ≤ k ∧ k ≤ 21) ∨ 29 ≤ k) → B k = A k := by
  constructor
  · rintro ⟨h1, h2⟩ k hk
    by_cases z : k = 57
    · subst z; exact h2
    · exact h1 k (by omega)
  · intro h
    exact ⟨fun k hk => h k (by omega), h 57 (by omega)⟩
theorem vT_k {S S9 : Nat → Int32} {ar ar9 : jSc} : vT S ar S9 ar9 ↔ (∀ k, (k < 3 ∨ (8 ≤ k ∧ k ≤ 16) ∨ (18 ≤ k ∧ k ≤ 21) ∨ 29 ≤ k) → k ≠ 51 → S9 k = S k) ∧ ∀ b, b ≠ 13 → b ≠ 711 → ar9 b = ar b := by
  unfold vT
  rw [rF8_k]
  constructor
  · rintro ⟨h1, h2⟩
    exact ⟨fun k hk z => by rw [h1 k hk, up_n z], h2⟩
  · rintro ⟨h1, h2⟩
    refine ⟨fun k hk => ?_, h2⟩
    by_cases z : k = 51
    · subst z; rw [up_0]
    · rw [up_n z]; exact h1 k hk z
theorem vT_tr {S S2 S3 : Nat → Int32} {a a2 a3 : jSc} (h : vT S a S2 a2) (h2 : vT S2 a2 S3 a3) : vT S a S3 a3 := by
  rw [vT_k] at *
  exact ⟨fun k hk z => (h2.1 k hk z).trans (h.1 k hk z), fun b x y => (h2.2 b x y).trans (h.2 b x y)⟩
theorem vT_H {S S2 : Nat → Int32} {a a2 : jSc} (h : rH S a S2 a2) : vT S a S2 a2 := by
  rw [vT_k]
  have := rF8_k.mp h.1
  exact ⟨fun k hk _ => this k hk, fun b x _ => h.2 b x⟩
theorem wT_k {s s9 c c9 : jSc} : wT s c s9 c9 ↔ (∀ a k, ¬ (a = 757 ∧ 3 ≤ k ∧ k ≤ 9) → ¬ (a = 819 ∧ k = 1) → s9 a k = s a k) ∧ (∀ b, b ≠ 758 → b ≠ 822 → b ≠ 820 → c9 b = c b) ∧ s9 757 5 = 0 := by
  unfold wT hF7
  constructor
  · rintro ⟨h1, h2⟩
    exact ⟨fun a k z y => by rw [h1 a k z]; exact if_neg (fun w => y ⟨w.1, w.2⟩), h2⟩
  · rintro ⟨h1, h2⟩
    refine ⟨fun a k z => ?_, h2⟩
    by_cases y : a = 819 ∧ k = 1
    · obtain ⟨rfl, rfl⟩ := y; rw [u2_eq]
    · rw [h1 a k z y]; exact (if_neg (fun w => y ⟨w.1, w.2⟩)).symm
theorem wT_tr {s s2 s3 c c2 c3 : jSc} (h : wT s c s2 c2) (h2 : wT s2 c2 s3 c3) : wT s c s3 c3 := by
  rw [wT_k] at *
  exact ⟨fun a k x y => (h2.1 a k x y).trans (h.1 a k x y), fun b x y z => (h2.2.1 b x y z).trans (h.2.1 b x y z), h2.2.2⟩
theorem wT_H {s s2 c c2 : jSc} (h : cH 821 s c s2 c2) : wT s c s2 c2 := by
  rw [wT_k]
  exact ⟨fun a k x _ => h.1 a k x, fun b x y _ => h.2.1 b x y, h.2.2⟩
section CT
variable {S0 : Nat → Int32} {ar0 : jSc} {pr n p m : Nat} {tx : Nat → Int32} {g : pG} {mr : Nat → Nat} {al : jAl} {sc car : jSc}
theorem cE_T {sc2 car2 : jSc} (h : cE pr n tx g p m S0 ar0 sc car mr) (k : wT sc car sc2 car2) : cE pr n tx g p m S0 ar0 sc2 car2 mr := by
  rw [wT_k] at k
  exact cE_lo h (fun a ha => funext fun j => k.1 a j (by omega) (by omega)) (fun b hb => k.2.1 b (by omega) (by omega) (by omega)) (k.2.2.trans h.2.2.symm)
theorem stS_T {S S9 : Nat → Int32} {ar ar9 : jSc} (h : stS S0 S) (k : vT S ar S9 ar9) : stS S0 S9 := by
  have k := (vT_k.mp k).1
  exact stS_tr h ⟨k 16 (by omega) (by omega), k 38 (by omega) (by omega), k 29 (by omega) (by omega)⟩
theorem stA_T {S S9 : Nat → Int32} {ar ar9 : jSc} (h : stA ar0 ar) (k : vT S ar S9 ar9) : stA ar0 ar9 := stA_tr h (fun b hb => k.2 b (by omega) (by omega))
theorem tRf_H {S S9 : Nat → Int32} {ar ar9 : jSc} {cs : List Nat} (h : tRf S ar cs) (k : rH S ar S9 ar9) : tRf S9 ar9 cs := ⟨(k.1.1 51 (by decide)).trans h.1, by rw [k.2 711 (by decide)]; exact h.2.1, h.2.2⟩
theorem tCl_H {sc2 car2 : jSc} {cs : List Nat} (h : tCl sc car cs) (k : cH 821 sc car sc2 car2) : tCl sc2 car2 cs := ⟨(k.1 819 1 (by decide)).trans h.1, by rw [k.2.1 820 (by decide) (by decide)]; exact h.2.1, h.2.2⟩
theorem tM {a r : List Nat} {c : Nat} (h : ∀ x ∈ a ++ c :: r, x < 13) : ∀ x ∈ a ++ r, x < 13 := fun x hx => h x (by simp only [List.mem_append, List.mem_cons] at hx ⊢; rcases hx with h | h; exact Or.inl h; exact Or.inr (Or.inr h))
/-- moving up -/
theorem r_shift {k25 : Int32 → Int32 → (Nat → Int32) → jSc → Option (Int32 × (Nat → Int32) × jSc)} {x2 : Int32} : ∀ (r : List Nat) (i nn : Nat) (S : Nat → Int32) (ar : jSc), rl (ar 711) (i + 1) r → S 51 = nI (i + 1 + r.length) → i + 1 + r.length ≤ 40 → r.length < nn →
    ∃ ar9, rF_99_51 k25 nn x2 (nI (i + 1)) S ar = k25 1 x2 (upd S 51 (nI (i + r.length))) ar9 ∧ rl (ar9 711) i r ∧ (∀ j, j < i → ar9 711 j = ar 711 j) ∧ ∀ b, b ≠ 711 → ar9 b = ar b := by
  intro r
  induction r with
  | nil =>
    intro i nn S ar h1 h2 h3 h4
    obtain ⟨nn, rfl⟩ : ∃ j, nn = j + 1 := ⟨nn - 1, by simp at h4; omega⟩
    simp only [List.length_nil, Nat.add_zero] at h2 h3
    unfold rF_99_51
    rw [h2, if_pos ((nI_leI (by omega) (by omega)).mpr (Nat.le_refl _)), nI_p1 (by omega)]
    exact ⟨ar, rfl, trivial, fun _ _ => rfl, fun _ _ => rfl⟩
  | cons c r ih =>
    intro i nn S ar h1 h2 h3 h4
    simp only [List.length_cons] at h2 h3 h4
    obtain ⟨nn, rfl⟩ : ∃ j, nn = j + 1 := ⟨nn - 1, by omega⟩
    have l : nI (i + 1 + (r.length + 1)) ≤ nI (i + 1) ↔ i + 1 + (r.length + 1) ≤ i + 1 := nI_leI (by omega) (by omega)
    unfold rF_99_51
    rw [h2, if_neg (fun z => absurd (l.mp z) (by omega)), if_pos (iB_nI (by omega) (by decide)), nI_p1 (by omega), show i + 1 - 1 = i by omega, if_pos (iB_nI (by omega) (by decide)), nI_1, iN_nI (by omega), iN_nI (by omega), h1.1]
    obtain ⟨ar9, e1, e2, e3, e4⟩ := ih (i + 1) nn S (j_u2 ar 711 i (nI c)) (rl_c h1.2 (fun j a b => u2_nk (by omega))) (by rw [h2]; congr 1; omega) (by omega) (by omega)
    refine ⟨ar9, ?_, ⟨(e3 i (by omega)).trans u2_eq, e2⟩, fun j hj => (e3 j (by omega)).trans (u2_nk (by omega)), fun b hb => (e4 b hb).trans (funext fun j => u2_na hb)⟩
    rw [e1]
    simp only [List.length_cons]
    rw [show i + 1 + r.length = i + (r.length + 1) by omega]
theorem c_shift {mr : Nat → Nat} : ∀ (r : List Nat) (i nn : Nat) (sc car : jSc), rl (car 820) (i + 1) r → sc 819 1 = nI (i + 1 + r.length) → i + 1 + r.length ≤ 40 → r.length < nn →
    ∃ car9, xF_281_2 nn (nI i) sc mr car al = some (j_u2 sc 819 1 (nI (i + r.length)), mr, car9, al) ∧ rl (car9 820) i r ∧ (∀ j, j < i → car9 820 j = car 820 j) ∧ ∀ b, b ≠ 820 → car9 b = car b := by
  intro r
  induction r with
  | nil =>
    intro i nn S ar h1 h2 h3 h4
    obtain ⟨nn, rfl⟩ : ∃ j, nn = j + 1 := ⟨nn - 1, by simp at h4; omega⟩
    simp only [List.length_nil, Nat.add_zero] at h2 h3
    unfold xF_281_2
    rw [h2, nI_1, if_pos ((nI_leI (by omega) (by omega)).mpr (Nat.le_refl _)), nI_p1 (by omega)]
    exact ⟨ar, rfl, trivial, fun _ _ => rfl, fun _ _ => rfl⟩
  | cons c r ih =>
    intro i nn S ar h1 h2 h3 h4
    simp only [List.length_cons] at h2 h3 h4
    obtain ⟨nn, rfl⟩ : ∃ j, nn = j + 1 := ⟨nn - 1, by omega⟩
    have l : nI (i + 1 + (r.length + 1)) ≤ nI (i + 1) ↔ i + 1 + (r.length + 1) ≤ i + 1 := nI_leI (by omega) (by omega)
    unfold xF_281_2
    rw [h2, nI_1, if_neg (fun z => absurd (l.mp z) (by omega)), if_pos (iB_nI (by omega) (by decide)), if_pos (iB_nI (by omega) (by decide)), iN_nI (by omega), iN_nI (by omega), h1.1]
    obtain ⟨ar9, e1, e2, e3, e4⟩ := ih (i + 1) nn S (j_u2 ar 820 i (nI c)) (rl_c h1.2 (fun j a b => u2_nk (by omega))) (by rw [h2]; congr 1; omega) (by omega) (by omega)
    refine ⟨ar9, ?_, ⟨(e3 i (by omega)).trans u2_eq, e2⟩, fun j hj => (e3 j (by omega)).trans (u2_nk (by omega)), fun b hb => (e4 b hb).trans (funext fun j => u2_na hb)⟩
    rw [e1]
    simp only [List.length_cons]
    rw [show i + 1 + r.length = i + (r.length + 1) by omega]
theorem hx_nI {w : Nat} (h : w < 40) : ∀ k, k < 40 → (nI k = nI w ↔ k = w) := fun k hk => nI_eq (by omega) (by omega)
theorem hx_m : ∀ k, k < 40 → (nI k = (-1 : Int32) ↔ k = 40) := fun k hk => ⟨fun z => absurd z (nI_nm (by omega)), fun z => by omega⟩
/-- one pass over the row: the reference -/
theorem r_pass (hE : cE pr n tx g p m S0 ar0 sc car mr) (h16 : S0 16 = 0) {k17 : Int32 → (Nat → Int32) → jSc → Option (Int32 × (Nat → Int32) × jSc)} : ∀ (r pre : List Nat) (nn : Nat) (x1 : Int32) (S : Nat → Int32) (ar : jSc), tRf S ar (pre ++ r) → stS S0 S → stA ar0 ar → r.length < nn →
    ∃ S9 ar9, rF_99_25 k17 nn x1 (nI pre.length) S ar = k17 (if (cPs (aSp S0 ar0 m g) pre r).length < pre.length + r.length then 1 else x1) S9 ar9 ∧ tRf S9 ar9 (cPs (aSp S0 ar0 m g) pre r) ∧ vT S ar S9 ar9 := by
  intro r
  induction r with
  | nil =>
    intro pre nn x1 S ar ht hS hA hn
    obtain ⟨nn, rfl⟩ : ∃ j, nn = j + 1 := ⟨nn - 1, by simp at hn; omega⟩
    obtain ⟨t1, t2, t3, t4⟩ := ht
    rw [List.append_nil] at t1 t2 t3 t4
    unfold rF_99_25
    rw [t1, if_pos ((nI_leI (by omega) (by omega)).mpr (Nat.le_refl _))]
    refine ⟨S, ar, ?_, ⟨t1, t2, t3, t4⟩, vT_H (rH_rf S ar)⟩
    show _ = k17 (if pre.length < pre.length + 0 then 1 else x1) S ar
    rw [if_neg (by omega)]
  | cons c r ih =>
    intro pre nn x1 S ar ht hS hA hn
    simp only [List.length_cons] at hn
    obtain ⟨nn, rfl⟩ : ∃ j, nn = j + 1 := ⟨nn - 1, by omega⟩
    have ht' := ht
    obtain ⟨t1, t2, t3, t4⟩ := ht
    have t3' := t3
    simp only [List.length_append, List.length_cons] at t3'
    have l : nI (pre ++ c :: r).length ≤ nI pre.length ↔ (pre ++ c :: r).length ≤ pre.length := nI_leI (by omega) (by omega)
    obtain ⟨S9, ar9, e1, e2⟩ := r_sp hE h16 (hx_nI (w := pre.length) (by omega)) t4 t3 t1 t2 hS hA
    rw [er_mid] at e1
    unfold rF_99_25
    rw [t1, if_neg (fun z => by have := l.mp z; simp only [List.length_append, List.length_cons] at this; omega), e1, ob3]
    by_cases z : aSp S0 ar0 m g (pre ++ r) = true
    · have eP : cPs (aSp S0 ar0 m g) pre (c :: r) = cPs (aSp S0 ar0 m g) pre r := by
        show (if _ then _ else _) = _
        rw [if_pos z]
      have T := tRf_H ht' e2
      rw [if_pos z, if_neg (by decide), nI_1]
      have T2 := rl_app.mp T.2.1
      rw [Nat.zero_add] at T2
      obtain ⟨ar8, f1, f2, f3, f4⟩ := r_shift (k25 := fun x1_ x2_ S_ ar_ => rF_99_25 k17 nn x1_ x2_ S_ ar_) (x2 := nI pre.length) r pre.length oF S9 ar9 T2.2.2 (by rw [T.1]; simp only [List.length_append, List.length_cons]; congr 1; omega) (by omega) (by unfold oF; omega)
      rw [f1, eP]
      have T3 : tRf (upd S9 51 (nI (pre.length + r.length))) ar8 (pre ++ r) := ⟨by rw [up_0, List.length_append], rl_app.mpr ⟨rl_c T2.1 (fun i _ h => f3 i (by omega)), by rw [Nat.zero_add]; exact f2⟩, by rw [List.length_append]; omega, tM t4⟩
      have F3 : vT S ar (upd S9 51 (nI (pre.length + r.length))) ar8 := vT_tr (vT_H e2) (vT_k.mpr ⟨fun k _ hk => up_n hk, fun b _ hb => f4 b hb⟩)
      obtain ⟨S7, ar7, d1, d2, d3⟩ := ih pre nn 1 _ ar8 T3 (stS_T hS F3) (stA_T hA F3) (by omega)
      refine ⟨S7, ar7, ?_, d2, vT_tr F3 d3⟩
      show rF_99_25 k17 nn 1 (nI pre.length) _ ar8 = _
      have := cPs_len (sp := aSp S0 ar0 m g) (r := r) (pre := pre)
      rw [d1, if_pos (show _ < pre.length + (c :: r).length by simp only [List.length_cons]; omega)]
      split <;> rfl
    · have eP : cPs (aSp S0 ar0 m g) pre (c :: r) = cPs (aSp S0 ar0 m g) (pre ++ [c]) r := by
        show (if _ then _ else _) = _
        rw [if_neg z]
      have F3 := vT_H e2
      rw [if_neg z, if_pos rfl, eP, nI_1]
      have T := tRf_H ht' e2
      rw [show pre ++ c :: r = (pre ++ [c]) ++ r by simp] at T
      obtain ⟨S7, ar7, d1, d2, d3⟩ := ih (pre ++ [c]) nn x1 S9 ar9 T (stS_T hS F3) (stA_T hA F3) (by omega)
      refine ⟨S7, ar7, ?_, d2, vT_tr F3 d3⟩
      rw [show (pre ++ [c]).length = pre.length + 1 by simp] at d1
      rw [d1]
      simp only [List.length_cons]
      rw [show pre.length + 1 + r.length = pre.length + (r.length + 1) by omega]
/-- one pass: ClickOrders -/
theorem c_pass : ∀ (r pre : List Nat) (nn k : Nat) (sc car : jSc), cE pr n tx g p m S0 ar0 sc car mr → tCl sc car (pre ++ r) → r.length < nn → k + r.length ≤ 40 → pre.length ≤ k →
    ∃ sc9 car9, xF_280_9 nn (nI (k + r.length)) (nI pre.length) (nI k) sc mr car al = some (if (cPs (aSp S0 ar0 m g) pre r).length < k + r.length then 1 else 0, sc9, mr, car9, al) ∧ tCl sc9 car9 (cPs (aSp S0 ar0 m g) pre r) ∧ wT sc car sc9 car9 := by
  intro r
  induction r with
  | nil =>
    intro pre nn k sc car hE ht hn hk hpk
    obtain ⟨nn, rfl⟩ : ∃ j, nn = j + 1 := ⟨nn - 1, by simp at hn; omega⟩
    obtain ⟨t1, t2, t3, t4⟩ := ht
    rw [List.append_nil] at t1 t2 t3 t4
    simp only [List.length_nil, Nat.add_zero] at hk ⊢
    have l : nI k ≤ nI pre.length ↔ k ≤ pre.length := nI_leI (by omega) (by omega)
    unfold xF_280_9
    rw [t1, if_pos ((nI_leI (by omega) (by omega)).mpr (Nat.le_refl _))]
    refine ⟨sc, car, ?_, ⟨t1, t2, t3, t4⟩, wT_H (cH_rf hE)⟩
    show _ = some (if pre.length < k then 1 else 0, sc, mr, car, al)
    by_cases z : pre.length < k
    · rw [if_neg (fun y => absurd (l.mp y) (by omega)), if_pos z]
    · rw [if_pos (l.mpr (by omega)), if_neg z]
  | cons c r ih =>
    intro pre nn k sc car hE ht hn hk hpk
    simp only [List.length_cons] at hn hk
    obtain ⟨nn, rfl⟩ : ∃ j, nn = j + 1 := ⟨nn - 1, by omega⟩
    have ht' := ht
    obtain ⟨t1, t2, t3, t4⟩ := ht
    have t3' := t3
    simp only [List.length_append, List.length_cons] at t3'
    have l : nI (k + (r.length + 1)) ≤ nI k ↔ k + (r.length + 1) ≤ k := nI_leI (by omega) (by omega)
    obtain ⟨sc9, car9, e1, e2⟩ := c_sp (al := al) hE (hx_nI (w := pre.length) (by omega)) t4 t3 t1 t2
    rw [er_mid] at e1
    simp only [List.length_cons]
    unfold xF_280_9
    rw [if_neg (fun z => absurd (l.mp z) (by omega)), e1, ob5]
    simp only [nI_1, show k + (r.length + 1) = k + 1 + r.length from by omega]
    by_cases z : aSp S0 ar0 m g (pre ++ r) = true
    · have eP : cPs (aSp S0 ar0 m g) pre (c :: r) = cPs (aSp S0 ar0 m g) pre r := by
        show (if _ then _ else _) = _
        rw [if_pos z]
      have T := tCl_H ht' e2
      rw [if_pos z, if_neg (by decide)]
      have T2 := rl_app.mp T.2.1
      rw [Nat.zero_add] at T2
      obtain ⟨car8, f1, f2, f3, f4⟩ := c_shift (al := al) (mr := mr) r pre.length oF sc9 car9 T2.2.2 (by rw [T.1]; simp only [List.length_append, List.length_cons]; congr 1; omega) (by omega) (by unfold oF; omega)
      unfold xF_281
      rw [f1, ob4, eP]
      have T3 : tCl (j_u2 sc9 819 1 (nI (pre.length + r.length))) car8 (pre ++ r) := ⟨by rw [u2_eq, List.length_append], rl_app.mpr ⟨rl_c T2.1 (fun i _ h => f3 i (by omega)), by rw [Nat.zero_add]; exact f2⟩, by rw [List.length_append]; omega, tM t4⟩
      have F3 : wT sc car (j_u2 sc9 819 1 (nI (pre.length + r.length))) car8 := wT_tr (wT_H e2) (wT_k.mpr ⟨fun a j _ hk => if_neg (fun w => hk ⟨w.1, w.2⟩), fun b _ _ hb => f4 b hb, (u2_na (by decide)).trans e2.2.2⟩)
      obtain ⟨sc7, car7, d1, d2, d3⟩ := ih pre nn (k + 1) _ car8 (cE_T hE F3) T3 (by omega) (by omega) (by omega)
      exact ⟨sc7, car7, d1, d2, wT_tr F3 d3⟩
    · have eP : cPs (aSp S0 ar0 m g) pre (c :: r) = cPs (aSp S0 ar0 m g) (pre ++ [c]) r := by
        show (if _ then _ else _) = _
        rw [if_neg z]
      have F3 := wT_H e2
      rw [if_neg z, if_pos rfl, eP]
      have T := tCl_H ht' e2
      rw [show pre ++ c :: r = (pre ++ [c]) ++ r by simp] at T
      obtain ⟨sc7, car7, d1, d2, d3⟩ := ih (pre ++ [c]) nn (k + 1) sc9 car9 (cE_T hE F3) T (by omega) (by omega) (by simp; omega)
      refine ⟨sc7, car7, ?_, d2, wT_tr F3 d3⟩
      rw [show (pre ++ [c]).length = pre.length + 1 by simp] at d1
      exact d1
theorem r_rd (hE : cE pr n tx g p m S0 ar0 sc car mr) (h16 : S0 16 = 0) : ∀ (f : Nat) (cs : List Nat) (nn : Nat) (S : Nat → Int32) (ar : jSc), cs.length < f → f < nn → tRf S ar cs → stS S0 S → stA ar0 ar →
    ∃ S9 ar9, rF_99_17 nn 1 S ar = some (nI (cRd (aSp S0 ar0 m g) f cs).length, S9, ar9) ∧ tRf S9 ar9 (cRd (aSp S0 ar0 m g) f cs) ∧ vT S ar S9 ar9 := by
  intro f
  induction f with
  | zero => intro cs nn S ar h; omega
  | succ f ih =>
    intro cs nn S ar h1 h2 ht hS hA
    obtain ⟨nn, rfl⟩ : ∃ j, nn = j + 1 := ⟨nn - 1, by omega⟩
    have t3 := ht.2.2.1
    obtain ⟨S9, ar9, e1, e2, e3⟩ := r_pass hE h16 (k17 := fun x1_ S_ ar_ => rF_99_17 nn x1_ S_ ar_) cs [] oF 0 S ar ht hS hA (by unfold oF; omega)
    unfold rF_99_17
    rw [if_neg (by decide)]
    have e1 : rF_99_25 (fun x1_ S_ ar_ => rF_99_17 nn x1_ S_ ar_) oF (0 : Int32) (0 : Int32) S ar = _ := e1
    rw [e1]
    simp only [List.length_nil, Nat.zero_add]
    unfold cRd
    by_cases z : (cPs (aSp S0 ar0 m g) [] cs).length < cs.length
    · rw [if_pos z, if_pos z]
      obtain ⟨S7, ar7, d1, d2, d3⟩ := ih (cPs (aSp S0 ar0 m g) [] cs) nn S9 ar9 (by omega) (by omega) e2 (stS_T hS e3) (stA_T hA e3)
      exact ⟨S7, ar7, d1, d2, vT_tr e3 d3⟩
    · rw [if_neg z, if_neg z]
      obtain ⟨nn, rfl⟩ : ∃ j, nn = j + 1 := ⟨nn - 1, by omega⟩
      unfold rF_99_17
      rw [if_pos rfl, e2.1]
      exact ⟨S9, ar9, rfl, e2, e3⟩
theorem c_rd : ∀ (f : Nat) (cs : List Nat) (nn k : Nat) (sc car : jSc), cs.length < f → f < nn → k + f ≤ 41 → cE pr n tx g p m S0 ar0 sc car mr → tCl sc car cs →
    ∃ sc9 car9, xF_279_14 nn 1 (nI k) sc mr car al = some (nI (cRd (aSp S0 ar0 m g) f cs).length, sc9, mr, car9, al) ∧ tCl sc9 car9 (cRd (aSp S0 ar0 m g) f cs) ∧ wT sc car sc9 car9 := by
  intro f
  induction f with
  | zero => intro cs nn k sc car h; omega
  | succ f ih =>
    intro cs nn k sc car h1 h2 hk hE ht
    obtain ⟨nn, rfl⟩ : ∃ j, nn = j + 1 := ⟨nn - 1, by omega⟩
    have t3 := ht.2.2.1
    obtain ⟨sc9, car9, e1, e2, e3⟩ := c_pass (al := al) cs [] oF 0 sc car hE ht (by unfold oF; omega) (by omega) (Nat.le_refl _)
    have l : (40 : Int32) < nI k ↔ 40 < k := nI_ltI (by decide) (by omega)
    unfold xF_279_14
    rw [if_neg (fun z => absurd (l.mp z) (by omega)), if_neg (by decide)]
    unfold xF_280
    rw [ht.1]
    rw [Nat.zero_add] at e1
    have e1 : xF_280_9 oF (nI cs.length) (0 : Int32) (0 : Int32) sc mr car al = _ := e1
    rw [e1, ob5, nI_1]
    unfold cRd
    by_cases z : (cPs (aSp S0 ar0 m g) [] cs).length < cs.length
    · rw [if_pos z, if_pos z]
      obtain ⟨S7, ar7, d1, d2, d3⟩ := ih (cPs (aSp S0 ar0 m g) [] cs) nn (k + 1) sc9 car9 (by omega) (by omega) (by omega) (cE_T hE e3) e2
      exact ⟨S7, ar7, d1, d2, wT_tr e3 d3⟩
    · rw [if_neg z, if_neg z]
      obtain ⟨nn, rfl⟩ : ∃ j, nn = j + 1 := ⟨nn - 1, by omega⟩
      have l2 : (40 : Int32) < nI (k + 1) ↔ 40 < k + 1 := nI_ltI (by decide) (by omega)
      unfold xF_279_14
      rw [if_pos rfl, e2.1]
      by_cases y : 40 < k + 1
      · rw [if_pos (l2.mpr y)]
        exact ⟨sc9, car9, rfl, e2, e3⟩
      · rw [if_neg (fun x => y (l2.mp x))]
        exact ⟨sc9, car9, rfl, e2, e3⟩
/-- cut, on both sides: the answer and the row that is left -/
def aCut (S0 : Nat → Int32) (ar0 : jSc) (m : Nat) (g : pG) (cs : List Nat) : Int32 × List Nat := if aSp S0 ar0 m g cs = true then (nI (cRd (aSp S0 ar0 m g) 41 cs).length, cRd (aSp S0 ar0 m g) 41 cs) else (-1, cs)
theorem r_cut (hE : cE pr n tx g p m S0 ar0 sc car mr) (h16 : S0 16 = 0) {S : Nat → Int32} {ar : jSc} {cs : List Nat} (ht : tRf S ar cs) (hS : stS S0 S) (hA : stA ar0 ar) :
    ∃ S9 ar9, rF_99 S ar = some ((aCut S0 ar0 m g cs).1, S9, ar9) ∧ tRf S9 ar9 (aCut S0 ar0 m g cs).2 ∧ vT (upd S 0 0) ar S9 ar9 := by
  have ht0 : tRf (upd S 0 0) ar cs := ⟨(up_n (by decide)).trans ht.1, ht.2⟩
  have hS0 : stS S0 (upd S 0 0) := stS_tr hS ⟨up_n (by decide), up_n (by decide), up_n (by decide)⟩
  obtain ⟨S9, ar9, e1, e2⟩ := r_sp hE h16 hx_m ht0.2.2.2 ht0.2.2.1 ht0.1 ht0.2.1 hS0 hA
  rw [er_id (Or.inr (by have := ht.2.2.1; omega))] at e1
  unfold rF_99 aCut
  rw [e1, ob3]
  have F := vT_H e2
  by_cases z : aSp S0 ar0 m g cs = true
  · rw [if_pos z, if_neg (by decide), if_pos z]
    obtain ⟨S7, ar7, d1, d2, d3⟩ := r_rd hE h16 41 cs oF S9 ar9 (by have := ht.2.2.1; omega) (by unfold oF; omega) (tRf_H ht0 e2) (stS_T hS0 F) (stA_T hA F)
    exact ⟨S7, ar7, d1, d2, vT_tr F d3⟩
  · rw [if_neg z, if_pos rfl, if_neg z]
    exact ⟨S9, ar9, rfl, tRf_H ht0 e2, F⟩
theorem c_cut (hE : cE pr n tx g p m S0 ar0 sc car mr) {cs : List Nat} (ht : tCl sc car cs) :
    ∃ sc9 car9, xF_279 sc mr car al = some ((aCut S0 ar0 m g cs).1, sc9, mr, car9, al) ∧ tCl sc9 car9 (aCut S0 ar0 m g cs).2 ∧ wT sc car sc9 car9 := by
  obtain ⟨sc9, car9, e1, e2⟩ := c_sp (al := al) hE hx_m ht.2.2.2 ht.2.2.1 ht.1 ht.2.1
  rw [er_id (Or.inr (by have := ht.2.2.1; omega))] at e1
  unfold xF_279 aCut
  rw [e1, ob5]
  have F := wT_H e2
  by_cases z : aSp S0 ar0 m g cs = true
  · rw [if_pos z, if_neg (by decide), if_pos z]
    obtain ⟨S7, ar7, d1, d2, d3⟩ := c_rd (al := al) 41 cs oF 0 sc9 car9 (by have := ht.2.2.1; omega) (by unfold oF; omega) (by omega) (cE_T hE F) (tCl_H ht e2)
    exact ⟨S7, ar7, d1, d2, wT_tr F d3⟩
  · rw [if_neg z, if_pos rfl, if_neg z]
    exact ⟨sc9, car9, rfl, tCl_H ht e2, F⟩
theorem r_rec (hE : cE pr n tx g p m S0 ar0 sc car mr) (h16 : S0 16 = 0) {S : Nat → Int32} {ar : jSc} {cs : List Nat} (ht : tRf S ar cs) (hS : stS S0 S) (hA : stA ar0 ar) :
    ∃ S9 ar9, rF_97 S ar = some (aFr S0 ar0 m 0 cs (aB0 S0 ar0), S9, ar9) ∧ rH (upd S 0 0) ar S9 ar9 := by
  have hS0 : stS S0 (upd S 0 0) := stS_tr hS ⟨up_n (by decide), up_n (by decide), up_n (by decide)⟩
  have u : upd (upd S 0 0) 16 0 = upd S 0 0 := by
    funext k
    by_cases z : k = 16
    · subst z; rw [up_0]; exact (hS0.1.trans h16).symm
    · rw [up_n z]
  unfold rF_97
  rw [u]
  obtain ⟨S9, ar9, e1, e2, e3⟩ := rW_beg hE hS0 hA
  rw [e1, ob2]
  have t3 := ht.2.2.1
  obtain ⟨S8, ar8, f1, f2⟩ := r_rcgo hE cs 0 oF S9 ar9 _ ht.2.2.2 (by omega) (by unfold oF; omega) (by rw [e3.1.1 51 (by decide), up_n (by decide), ht.1, Nat.zero_add]) (by rw [e3.2 711 (by decide)]; exact ht.2.1) e2
  exact ⟨S8, ar8, f1, rH_tr e3 f2⟩
theorem c_rec (hE : cE pr n tx g p m S0 ar0 sc car mr) {cs : List Nat} (ht : tCl sc car cs) :
    ∃ sc2 car2, xF_278 sc mr car al = some (aFr S0 ar0 m 0 cs (aB0 S0 ar0), sc2, mr, car2, al) ∧ cH 821 sc car sc2 car2 := by
  unfold xF_278
  obtain ⟨sc9, car9, e1, e2, e3⟩ := cE_beg (al := al) (pp := 821) hE (by decide)
  rw [e1, ob4]
  have t3 := ht.2.2.1
  obtain ⟨sc8, car8, f1, f2⟩ := c_rcgo (al := al) cs 0 oF sc9 car9 _ (cE_H (by decide) hE e3) ht.2.2.2 (by omega) (by unfold oF; omega) (by rw [e3.1 819 1 (by decide), ht.1, Nat.zero_add]) (by rw [e3.2.1 820 (by decide) (by decide)]; exact ht.2.1) e2
  exact ⟨sc8, car8, f1, cH_tr e3 f2⟩
end CT
