/-! THE SEARCH: what it finds, and the reference's. -/
abbrev eT : Type := (Nat → Int32) × Int32 × Int32 × Nat
abbrev bS : Type := List eT × Option Nat × Bool
/-- is the page among them -/
def bI (L : List eT) (Q : Nat → Int32) : Bool := L.any (fun e => eqg e.1 Q 38 0)
def bC (cn : (Nat → Int32) → Nat → Bool) (st : (Nat → Int32) → Nat → Nat → Int32) (bd : (Nat → Int32) → Bool) (most p : Nat) (P : Nat → Int32) (d c : Nat) (s : bS) : bS := if cn P c = true then (if bI s.1 (st P c) = true then s else if s.1.length = most then (s.1, s.2.1, true) else (s.1 ++ [(st P c, nI p, nI c, d + 1)], (if s.2.1 = none ∧ bd (st P c) = true then some s.1.length else s.2.1), s.2.2)) else s
def bOv (wh : Bool) (s : bS) : Bool := s.2.2 || (!wh && s.2.1.isSome)
def bIn (cn : (Nat → Int32) → Nat → Bool) (st : (Nat → Int32) → Nat → Nat → Int32) (bd : (Nat → Int32) → Bool) (wh : Bool) (most p : Nat) (P : Nat → Int32) (d : Nat) : Nat → Nat → bS → bS
  | 0, _, s => s
  | r + 1, c, s => if bOv wh (bC cn st bd most p P d c s) = true then bC cn st bd most p P d c s else bIn cn st bd wh most p P d r (c + 1) (bC cn st bd most p P d c s)
def bGo (cn : (Nat → Int32) → Nat → Bool) (st : (Nat → Int32) → Nat → Nat → Int32) (bd : (Nat → Int32) → Bool) (wh : Bool) (most n : Nat) : Nat → Nat → bS → bS
  | 0, _, s => s
  | f + 1, p, s => match s.1[p]? with
    | none => s
    | some e => if bOv wh s = true then s else if e.2.2.2 < n then bGo cn st bd wh most n f (p + 1) (bIn cn st bd wh most p e.1 e.2.2.2 13 0 s) else bGo cn st bd wh most n f (p + 1) s
def bSt (bd : (Nat → Int32) → Bool) (B : Nat → Int32) : bS := ([(B, -1, -1, 0)], (if bd B = true then some 0 else none), false)
/-- what the search comes to -/
def bRs (cn : (Nat → Int32) → Nat → Bool) (st : (Nat → Int32) → Nat → Nat → Int32) (bd : (Nat → Int32) → Bool) (B : Nat → Int32) (wh : Bool) (most n : Nat) : bS := bGo cn st bd wh most n 601 0 (bSt bd B)
theorem eqg_P {P Q : Nat → Int32} (h : c38 P = P) (h2 : c38 Q = Q) : eqg P Q 38 0 = true ↔ P = Q := by
  rw [eqg_i]
  constructor
  · intro e
    rw [← h, ← h2]
    exact c38_e (fun k hk => e k (by omega) (by omega))
  · intro e j _ _
    rw [e]
theorem bI_i {L : List eT} {Q : Nat → Int32} (h : ∀ e ∈ L, c38 e.1 = e.1) (h2 : c38 Q = Q) : bI L Q = true ↔ Q ∈ L.map (fun e => e.1) := by
  unfold bI
  rw [List.any_eq_true, List.mem_map]
  constructor
  · rintro ⟨e, he, q⟩
    exact ⟨e, he, (eqg_P (h e he) h2).mp q⟩
  · rintro ⟨e, he, q⟩
    exact ⟨e, he, (eqg_P (h e he) h2).mpr q⟩
theorem c38_B {S0 : Nat → Int32} {ar0 : jSc} : c38 (aB0 S0 ar0) = aB0 S0 ar0 := by
  unfold aB0
  split <;> exact c38_2
theorem c38_t {S0 : Nat → Int32} {ar0 : jSc} {P : Nat → Int32} {c : Nat} : c38 (aSt S0 ar0 P c) = aSt S0 ar0 P c := by
  unfold aSt
  split <;> exact c38_2
/-- loading and keeping a page -/
theorem r_load {p1 n1 : Nat} {S : Nat → Int32} {ar : jSc} (h : n1 ≤ 53) (hp : p1 ≠ 13) : rF_55 p1 n1 S ar = some (S, va_up ar 13 (fun k => if k < n1 then ar p1 k else ar 13 k)) := by
  have go : ∀ r k nn a, k + r = n1 → r < nn → (∀ b, b ≠ 13 → a b = ar b) → (∀ j, a 13 j = if j < k then ar p1 j else ar 13 j) → rF_55_2 nn p1 n1 (nI k) S a = some (S, va_up ar 13 (fun k => if k < n1 then ar p1 k else ar 13 k)) := by
    intro r
    induction r with
    | zero =>
      intro k nn a h1 h2 h3 h4
      obtain ⟨nn, rfl⟩ : ∃ j, nn = j + 1 := ⟨nn - 1, by omega⟩
      unfold rF_55_2
      rw [show Int32.ofNat n1 = nI n1 from rfl, if_pos ((nI_leI (by omega) (by omega)).mpr (by omega))]
      congr 2
      funext b j
      by_cases c : b = 13
      · subst c; rw [va_up_self, h4 j, show k = n1 by omega]
      · rw [va_up_ne _ _ c, h3 b c]
    | succ r ih =>
      intro k nn a h1 h2 h3 h4
      obtain ⟨nn, rfl⟩ : ∃ j, nn = j + 1 := ⟨nn - 1, by omega⟩
      have l : nI n1 ≤ nI k ↔ n1 ≤ k := nI_leI (by omega) (by omega)
      unfold rF_55_2
      rw [show Int32.ofNat n1 = nI n1 from rfl, if_neg (fun z => absurd (l.mp z) (by omega)), if_pos (iB_nI (by omega) (by omega)), if_pos (iB_nI (by omega) (by omega)), nI_1, iN_nI (by omega)]
      refine ih (k + 1) nn _ (by omega) (by omega) (fun b hb => (j_u2_row _ _ _ _ hb).trans (h3 b hb)) (fun j => ?_)
      by_cases c : j = k
      · subst c; rw [u2_eq, h3 p1 hp, if_pos (by omega)]
      · rw [u2_nk c, h4 j]
        by_cases d : j < k
        · rw [if_pos d, if_pos (by omega)]
        · rw [if_neg d, if_neg (by omega)]
  exact go n1 0 oF ar (by omega) (by unfold oF; omega) (fun _ _ => rfl) (fun j => by rw [if_neg (by omega)])
theorem r_keep {p1 n1 : Nat} {S : Nat → Int32} {ar : jSc} (h : n1 ≤ 53) (hp : p1 ≠ 13) : rF_56 p1 n1 S ar = some (S, va_up ar p1 (fun k => if k < n1 then ar 13 k else ar p1 k)) := by
  have go : ∀ r k nn a, k + r = n1 → r < nn → (∀ b, b ≠ p1 → a b = ar b) → (∀ j, a p1 j = if j < k then ar 13 j else ar p1 j) → rF_56_2 nn p1 n1 (nI k) S a = some (S, va_up ar p1 (fun k => if k < n1 then ar 13 k else ar p1 k)) := by
    intro r
    induction r with
    | zero =>
      intro k nn a h1 h2 h3 h4
      obtain ⟨nn, rfl⟩ : ∃ j, nn = j + 1 := ⟨nn - 1, by omega⟩
      unfold rF_56_2
      rw [show Int32.ofNat n1 = nI n1 from rfl, if_pos ((nI_leI (by omega) (by omega)).mpr (by omega))]
      congr 2
      funext b j
      by_cases c : b = p1
      · subst c; rw [va_up_self, h4 j, show k = n1 by omega]
      · rw [va_up_ne _ _ c, h3 b c]
    | succ r ih =>
      intro k nn a h1 h2 h3 h4
      obtain ⟨nn, rfl⟩ : ∃ j, nn = j + 1 := ⟨nn - 1, by omega⟩
      have l : nI n1 ≤ nI k ↔ n1 ≤ k := nI_leI (by omega) (by omega)
      unfold rF_56_2
      rw [show Int32.ofNat n1 = nI n1 from rfl, if_neg (fun z => absurd (l.mp z) (by omega)), if_pos (iB_nI (by omega) (by omega)), if_pos (iB_nI (by omega) (by omega)), nI_1, iN_nI (by omega)]
      refine ih (k + 1) nn _ (by omega) (by omega) (fun b hb => (j_u2_row _ _ _ _ hb).trans (h3 b hb)) (fun j => ?_)
      by_cases c : j = k
      · subst c; rw [u2_eq, h3 13 (fun z => hp z.symm), if_pos (by omega)]
      · rw [u2_nk c, h4 j]
        by_cases d : j < k
        · rw [if_pos d, if_pos (by omega)]
        · rw [if_neg d, if_neg (by omega)]
  exact go n1 0 oF ar (by omega) (by unfold oF; omega) (fun _ _ => rfl) (fun j => by rw [if_neg (by omega)])
/-- what a search of the reference leaves -/
def vX (S : Nat → Int32) (ar : jSc) (S9 : Nat → Int32) (ar9 : jSc) : Prop := (∀ k, (k < 3 ∨ (8 ≤ k ∧ k ≤ 16) ∨ (18 ≤ k ∧ k ≤ 21) ∨ 29 ≤ k) → ¬ (48 ≤ k ∧ k ≤ 50) → S9 k = S k) ∧ ∀ b, b ≠ 13 → ¬ (108 ≤ b ∧ b ≤ 710) → ar9 b = ar b
theorem vX_rf (S : Nat → Int32) (ar : jSc) : vX S ar S ar := ⟨fun _ _ _ => rfl, fun _ _ _ => rfl⟩
theorem vX_tr {S S2 S3 : Nat → Int32} {a a2 a3 : jSc} (h : vX S a S2 a2) (h2 : vX S2 a2 S3 a3) : vX S a S3 a3 := ⟨fun k x y => (h2.1 k x y).trans (h.1 k x y), fun b x y => (h2.2 b x y).trans (h.2 b x y)⟩
theorem vX_H {S S2 : Nat → Int32} {a a2 : jSc} (h : rH S a S2 a2) : vX S a S2 a2 := ⟨fun k x _ => rF8_k.mp h.1 k x, fun b x _ => h.2 b x⟩
theorem vX_u {S : Nat → Int32} {ar : jSc} {k : Nat} {x : Int32} (h : 48 ≤ k ∧ k ≤ 50) : vX S ar (upd S k x) ar := ⟨fun j _ y => up_n (by omega), fun _ _ _ => rfl⟩
theorem stS_X {S0 S S9 : Nat → Int32} {ar ar9 : jSc} (h : stS S0 S) (k : vX S ar S9 ar9) : stS S0 S9 := stS_tr h ⟨k.1 16 (by omega) (by omega), k.1 38 (by omega) (by omega), k.1 29 (by omega) (by omega)⟩
theorem stA_X {S S9 : Nat → Int32} {ar0 ar ar9 : jSc} (h : stA ar0 ar) (k : vX S ar S9 ar9) : stA ar0 ar9 := stA_tr h (fun b hb => k.2 b (by omega) (by omega))
/-- the entries of a search in the reference's rows -/
def rB (E : List eT) (S : Nat → Int32) (ar : jSc) : Prop := S 48 = nI E.length ∧ E.length ≤ 600 ∧ ∀ i e, E[i]? = some e → (∀ k, k < 38 → ar (108 + i) k = e.1 k) ∧ ar 708 i = e.2.1 ∧ ar 709 i = e.2.2.1 ∧ ar 710 i = nI e.2.2.2 ∧ c38 e.1 = e.1 ∧ pW e.1 ∧ e.2.2.2 ≤ 8
theorem rB_c {E : List eT} {S S9 : Nat → Int32} {ar ar9 : jSc} (h : rB E S ar) (h1 : S9 48 = S 48) (h2 : ∀ b, b ≠ 13 → ar9 b = ar b) : rB E S9 ar9 := by
  refine ⟨h1.trans h.1, h.2.1, fun i e he => ?_⟩
  have il : i < E.length := (List.getElem?_eq_some_iff.mp he).1
  have l := h.2.1
  rw [h2 (108 + i) (by omega), h2 708 (by decide), h2 709 (by decide), h2 710 (by decide)]
  exact h.2.2 i e he
theorem rB_H {E : List eT} {S S9 : Nat → Int32} {ar ar9 : jSc} (h : rB E S ar) (k : rH S ar S9 ar9) : rB E S9 ar9 := rB_c h (k.1.1 48 (by decide)) k.2
theorem rB_38 {E : List eT} {S : Nat → Int32} {ar : jSc} (h : rB E S ar) : ∀ e ∈ E, c38 e.1 = e.1 := fun e he => by
  obtain ⟨i, hi⟩ := List.getElem?_of_mem he
  exact (h.2.2 i e hi).2.2.2.2.1
section BF
variable {S S0 : Nat → Int32} {ar ar0 : jSc} {sc car : jSc} {mr : Nat → Nat} {pr n p m : Nat} {tx : Nat → Int32} {g : pG} {P : Nat → Int32}
/-- was it met before -/
theorem r_metb {E : List eT} (hB : rB E S ar) (hP : c38 (ar 13) = P) : ∃ v, rF_85 S ar = some (v, S, ar) ∧ (v = -1 ↔ ¬ bI E P = true) := by
  have hP2 : c38 P = P := by rw [← hP, c38_2]
  have l6 := hB.2.1
  have ee : ∀ i e, E[i]? = some e → (eqg (ar (108 + i)) (ar 13) 38 0 = true ↔ eqg e.1 P 38 0 = true) := by
    intro i e he
    rw [eqg_i, eqg_i]
    have h1 := (hB.2.2 i e he).1
    have h2 : ∀ k, k < 38 → P k = ar 13 k := fun k hk => by rw [← hP, c38_k hk]
    exact ⟨fun h j a b => by rw [← h1 j (by omega), h2 j (by omega)]; exact h j a b, fun h j a b => by rw [h1 j (by omega), ← h2 j (by omega)]; exact h j a b⟩
  have go14 : ∀ (k2 : Int32 → (Nat → Int32) → jSc → Option (Int32 × (Nat → Int32) × jSc)) (q : Nat), q < 600 → ∀ r k nn, k + r = 38 → r + 1 < nn → rF_85_14 k2 nn (nI q) 1 (nI k) S ar = if eqg (ar (108 + q)) (ar 13) r k = true then some (nI q, S, ar) else k2 (nI q + 1) S ar := by
    intro k2 q hq r
    induction r with
    | zero =>
      intro k nn h1 h2
      obtain ⟨nn, rfl⟩ : ∃ j, nn = j + 1 := ⟨nn - 1, by omega⟩
      have l : (38 : Int32) ≤ nI k ↔ 38 ≤ k := nI_leI (by decide) (by omega)
      unfold rF_85_14
      rw [if_pos (l.mpr (by omega)), if_neg (by decide)]
      rfl
    | succ r ih =>
      intro k nn h1 h2
      obtain ⟨nn, rfl⟩ : ∃ j, nn = j + 1 := ⟨nn - 1, by omega⟩
      have l : (38 : Int32) ≤ nI k ↔ 38 ≤ k := nI_leI (by decide) (by omega)
      unfold rF_85_14
      rw [if_neg (fun z => absurd (l.mp z) (by omega)), if_neg (by decide), if_pos (iB_nI hq (by decide)), if_pos (iB_nI (by omega) (by decide)), if_pos (iB_nI (by omega) (by decide)), iN_nI (by omega), iN_nI (by omega), nI_1]
      unfold eqg
      by_cases z : ar (108 + q) k = ar 13 k
      · rw [if_pos z, ih (k + 1) nn (by omega) (by omega)]
        simp only [z, decide_true, Bool.true_and]
      · rw [if_neg z]
        simp only [z, decide_false, Bool.false_and]
        obtain ⟨nn, rfl⟩ : ∃ j, nn = j + 1 := ⟨nn - 1, by omega⟩
        unfold rF_85_14
        rw [if_neg (show ¬ (false = true) by decide)]
        by_cases y : (38 : Int32) ≤ nI (k + 1)
        · rw [if_pos y, if_pos rfl]
        · rw [if_neg y, if_pos rfl, if_pos rfl]
  have go : ∀ r k nn, k + r = E.length → r < nn → ∃ v, rF_85_2 nn (nI k) S ar = some (v, S, ar) ∧ (v = -1 ↔ ∀ i e, k ≤ i → E[i]? = some e → ¬ eqg e.1 P 38 0 = true) := by
    intro r
    induction r with
    | zero =>
      intro k nn h1 h2
      obtain ⟨nn, rfl⟩ : ∃ j, nn = j + 1 := ⟨nn - 1, by omega⟩
      unfold rF_85_2
      rw [hB.1, if_pos ((nI_leI (by omega) (by omega)).mpr (by omega))]
      refine ⟨-1, rfl, ⟨fun _ i e hi he => ?_, fun _ => rfl⟩⟩
      have := (List.getElem?_eq_some_iff.mp he).1
      omega
    | succ r ih =>
      intro k nn h1 h2
      obtain ⟨nn, rfl⟩ : ∃ j, nn = j + 1 := ⟨nn - 1, by omega⟩
      have l : nI E.length ≤ nI k ↔ E.length ≤ k := nI_leI (by omega) (by omega)
      obtain ⟨e, he⟩ : ∃ e, E[k]? = some e := ⟨E[k], List.getElem?_eq_getElem (by omega)⟩
      unfold rF_85_2
      have g14 := go14 (fun x1_ S_ ar_ => rF_85_2 nn x1_ S_ ar_) k (by omega) 38 0 oF (by omega) (by unfold oF; omega)
      have g14 : rF_85_14 (fun x1_ S_ ar_ => rF_85_2 nn x1_ S_ ar_) oF (nI k) 1 (0 : Int32) S ar = _ := g14
      rw [hB.1, if_neg (fun z => absurd (l.mp z) (by omega)), g14]
      by_cases z : eqg (ar (108 + k)) (ar 13) 38 0 = true
      · rw [if_pos z]
        refine ⟨nI k, rfl, ⟨fun h => absurd h (nI_nm (by omega)), fun h => absurd ((ee k e he).mp z) (h k e (Nat.le_refl _) he)⟩⟩
      · rw [if_neg z, nI_1]
        obtain ⟨v, e1, e2⟩ := ih (k + 1) nn (by omega) (by omega)
        refine ⟨v, e1, e2.trans ⟨fun h i f hi hf => ?_, fun h i f hi hf => h i f (by omega) hf⟩⟩
        by_cases c : i = k
        · subst c
          rw [he] at hf
          cases hf
          exact fun w => z ((ee i e he).mpr w)
        · exact h i f (by omega) hf
  obtain ⟨v, e1, e2⟩ := go E.length 0 oF (by omega) (by unfold oF; omega)
  refine ⟨v, e1, e2.trans ?_⟩
  unfold bI
  rw [List.any_eq_true]
  constructor
  · rintro h ⟨e, he, q⟩
    obtain ⟨i, hi⟩ := List.getElem?_of_mem he
    exact h i e (Nat.zero_le _) hi q
  · intro h i e _ he q
    exact h ⟨e, List.mem_of_getElem? he, q⟩
/-- it is met -/
theorem r_meets {E : List eT} {x1 x2 : Int32} {d : Nat} (hB : rB E S ar) (hP : c38 (ar 13) = P) (hW : pW P) (h6 : E.length < 600) (hd : d ≤ 8) (hx : (x1 = -1 ∧ d = 0) ∨ ∃ i e, x1 = nI i ∧ E[i]? = some e ∧ d = e.2.2.2 + 1) :
    ∃ ar9, rF_86 x1 x2 S ar = some (upd S 48 (nI (E.length + 1)), ar9) ∧ rB (E ++ [(P, x1, x2, d)]) (upd S 48 (nI (E.length + 1))) ar9 ∧ vX S ar (upd S 48 (nI (E.length + 1))) ar9 ∧ ar9 13 = ar 13 := by
  have hP2 : c38 P = P := by rw [← hP, c38_2]
  unfold rF_86
  rw [hB.1, if_pos (iB_nI h6 (by decide)), iN_nI (by omega), r_keep (by decide) (by omega), ob2, hB.1, if_pos (iB_nI h6 (by decide)), if_pos (iB_nI h6 (by decide)), if_pos (iB_nI h6 (by decide)), iN_nI (by omega), nI_1]
  have key : ∀ y : Int32, y = nI d → ∃ ar9, some (upd S 48 (nI (E.length + 1)), j_u2 (j_u2 (j_u2 (va_up ar (108 + E.length) (fun k => if k < 38 then ar 13 k else ar (108 + E.length) k)) 708 E.length x1) 709 E.length x2) 710 E.length y) = some (upd S 48 (nI (E.length + 1)), ar9) ∧ rB (E ++ [(P, x1, x2, d)]) (upd S 48 (nI (E.length + 1))) ar9 ∧ vX S ar (upd S 48 (nI (E.length + 1))) ar9 ∧ ar9 13 = ar 13 := by
    intro y hy
    refine ⟨_, rfl, ⟨by rw [up_0, List.length_append]; rfl, by rw [List.length_append]; simp; omega, fun i e he => ?_⟩, ⟨fun k _ hk => up_n (by omega), fun b hb hb2 => by rw [j_u2_row _ _ _ _ (by omega), j_u2_row _ _ _ _ (by omega), j_u2_row _ _ _ _ (by omega), va_up_ne _ _ (by omega)]⟩, by rw [j_u2_row _ _ _ _ (by omega), j_u2_row _ _ _ _ (by omega), j_u2_row _ _ _ _ (by omega), va_up_ne _ _ (by omega)]⟩
    by_cases c : i < E.length
    · rw [List.getElem?_append_left c] at he
      rw [j_u2_row _ _ _ _ (show 108 + i ≠ 710 by omega), j_u2_row _ _ _ _ (show 108 + i ≠ 709 by omega), j_u2_row _ _ _ _ (show 108 + i ≠ 708 by omega), va_up_ne _ _ (show 108 + i ≠ 108 + E.length by omega)]
      rw [j_u2_row _ _ _ _ (show 708 ≠ 710 by decide), j_u2_row _ _ _ _ (show 708 ≠ 709 by decide), u2_nk (show i ≠ E.length by omega), va_up_ne _ _ (show 708 ≠ 108 + E.length by omega)]
      rw [j_u2_row _ _ _ _ (show 709 ≠ 710 by decide), u2_nk (show i ≠ E.length by omega), j_u2_row _ _ _ _ (show 709 ≠ 708 by decide), va_up_ne _ _ (show 709 ≠ 108 + E.length by omega)]
      rw [u2_nk (show i ≠ E.length by omega), j_u2_row _ _ _ _ (show 710 ≠ 709 by decide), j_u2_row _ _ _ _ (show 710 ≠ 708 by decide), va_up_ne _ _ (show 710 ≠ 108 + E.length by omega)]
      exact hB.2.2 i e he
    · rw [List.getElem?_append_right (by omega)] at he
      have ci : i = E.length := by
        have := (List.getElem?_eq_some_iff.mp he).1
        simp at this
        omega
      subst ci
      simp at he
      subst he
      refine ⟨fun k hk => ?_, ?_, ?_, ?_, hP2, hW, hd⟩
      · rw [j_u2_row _ _ _ _ (show 108 + E.length ≠ 710 by omega), j_u2_row _ _ _ _ (show 108 + E.length ≠ 709 by omega), j_u2_row _ _ _ _ (show 108 + E.length ≠ 708 by omega), va_up_self, if_pos hk, ← hP]
        exact (c38_k hk).symm
      · rw [j_u2_row _ _ _ _ (show 708 ≠ 710 by decide), j_u2_row _ _ _ _ (show 708 ≠ 709 by decide), u2_eq]
      · rw [j_u2_row _ _ _ _ (show 709 ≠ 710 by decide), u2_eq]
      · rw [u2_eq]; exact hy
  rcases hx with ⟨rfl, rfl⟩ | ⟨i, e, rfl, he, rfl⟩
  · rw [if_pos rfl]
    exact key 0 rfl
  · have il := (List.getElem?_eq_some_iff.mp he).1
    rw [if_neg (nI_nm (by omega)), if_pos (iB_nI (show i < 600 by omega) (by decide)), iN_nI (show i < 2 ^ 31 by omega), if_pos (iB_nI h6 (by decide)), va_up_ne _ _ (show 710 ≠ 108 + E.length by omega), (hB.2.2 i e he).2.2.2.1]
    exact key _ (nI_1 ..)
end BF
