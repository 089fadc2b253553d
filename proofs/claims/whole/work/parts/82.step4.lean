/-! THE REFERENCE: steps and ifs do what the parser and the orders' machine say. -/
/-- at most one order a byte -/
def p_ln (p : Nat → oR) : Prop := ∀ q os q2, p q = .inr (os, q2) → q + os.length ≤ q2
theorem nb_ge (tx : Nat → Int32) (q : Nat) : q ≤ x_nb tx q := x_sk_ge _ _ _
theorem de_ge {tx : Nat → Int32} {q : Nat} (h : x_dg (tx q)) : q + 1 ≤ x_de tx q := by
  unfold x_de
  rw [show (1500 : Nat) = 1499 + 1 from rfl]
  unfold x_sk
  rw [if_pos (by simpa using h)]
  exact x_sk_ge _ _ _
theorem ln_lp {u : Nat → oR} {sg : Int32 → Option Nat} {tx : Nat → Int32} (hu : p_ln u) : ∀ (m : Nat) (os : oL) (q : Nat) (os2 : oL) (q2 k : Nat), k + os.length ≤ q → p_lp u sg tx m os q = .inr (os2, q2) → k + os2.length ≤ q2 := by
  intro m
  induction m with
  | zero => intro os q os2 q2 k ho h; cases h; exact ho
  | succ m ih =>
    intro os q os2 q2 k ho h
    have := nb_ge tx q
    unfold p_lp at h
    split at h
    · cases h; omega
    · rename_i od hod
      obtain ⟨o1, q1, h1, h2⟩ := p_bd_r h
      have := hu _ _ _ h1
      exact ih _ _ _ _ _ (by simp only [List.length_append, List.length_cons, List.length_nil]; omega) h2
theorem ln_wl {u : Nat → oR} {wd : List Nat} {od : Nat} {tx : Nat → Int32} (hu : p_ln u) (hw : 0 < wd.length) : ∀ (m : Nat) (os : oL) (q : Nat) (os2 : oL) (q2 k : Nat), k + os.length ≤ q → p_wl u wd od tx m os q = .inr (os2, q2) → k + os2.length ≤ q2 := by
  intro m
  induction m with
  | zero => intro os q os2 q2 k ho h; cases h; exact ho
  | succ m ih =>
    intro os q os2 q2 k ho h
    have := nb_ge tx q
    unfold p_wl at h
    split at h
    · rename_i hc
      have := hc.1
      obtain ⟨o1, q1, h1, h2⟩ := p_bd_r h
      have := hu _ _ _ h1
      exact ih _ _ _ _ _ (by simp only [List.length_append, List.length_cons, List.length_nil]; omega) h2
    · cases h; omega
theorem ln_un {V : Option (Nat → oR)} {tx : Nat → Int32} (hV : ∀ p, V = some p → p_ln p) : p_ln (p_un V tx) := by
  intro q os q2 h
  have b := nb_ge tx q
  unfold p_un at h
  split at h
  · rename_i hd
    have := de_ge hd
    split at h
    · cases h; simp only [List.length_cons, List.length_nil]; omega
    · cases h
  · split at h
    · cases h; simp only [List.length_cons, List.length_nil]; omega
    · unfold p_uw at h
      split at h
      · rename_i hc
        have := hc.1
        cases h; simp only [List.length_cons, List.length_nil] at *; omega
      · split at h
        · rename_i hc
          have := hc.1
          have b2 := nb_ge tx (x_we tx (x_nb tx q))
          unfold p_dg at h
          split at h
          · cases h
          · split at h
            · cases h
            · cases h; simp only [List.length_cons, List.length_nil] at *; omega
        · split at h
          · split at h
            · rcases V with _ | V
              · cases h
              · obtain ⟨o1, q1, h1, h⟩ := p_bd_r h
                obtain ⟨-, h⟩ := p_sg_r h
                obtain ⟨o2, q3, h2, h⟩ := p_bd_r h
                obtain ⟨-, h⟩ := p_sg_r h
                cases h
                have a1 := hV V rfl _ _ _ h1
                have a2 := hV V rfl _ _ _ h2
                have a3 := nb_ge tx q1
                have a4 := nb_ge tx q3
                have a5 := nb_ge tx (x_we tx (x_nb tx q))
                have a6 : x_nb tx q ≤ x_we tx (x_nb tx q) := x_sk_ge _ _ _
                simp only [List.length_append, List.length_cons, List.length_nil]
                omega
            · cases h
          · split at h
            · rcases V with _ | V
              · cases h
              · obtain ⟨o1, q1, h1, h⟩ := p_bd_r h
                obtain ⟨-, h⟩ := p_sg_r h
                cases h
                have a1 := hV V rfl _ _ _ h1
                have a3 := nb_ge tx q1
                omega
            · cases h
theorem ln_s0 {V : Option (Nat → oR)} {tx : Nat → Int32} (hV : ∀ p, V = some p → p_ln p) : p_ln (p_s0 V tx) := by
  have h1 : p_ln (p_pr V tx) := by
    intro q os q2 h
    obtain ⟨o1, q1, h1, h⟩ := p_bd_r h
    exact ln_lp (ln_un hV) _ _ _ _ _ _ (ln_un hV _ _ _ h1) h
  intro q os q2 h
  obtain ⟨o1, q1, h2, h⟩ := p_bd_r h
  exact ln_lp h1 _ _ _ _ _ _ (h1 _ _ _ h2) h
theorem ln_su {tx : Nat → Int32} : ∀ k, p_ln (p_su tx k)
  | 0 => ln_s0 (fun p h => by cases h)
  | k + 1 => ln_s0 (fun p h => by cases h; exact ln_su k)
theorem ln_or {t : Nat → oR} {tx : Nat → Int32} (ht : p_ln t) : p_ln (p_or t tx) := by
  have h1 : p_ln (p_an t tx) := by
    intro q os q2 h
    obtain ⟨o1, q1, h1, h⟩ := p_bd_r h
    exact ln_wl ht (by decide) _ _ _ _ _ _ (ht _ _ _ h1) h
  intro q os q2 h
  obtain ⟨o1, q1, h2, h⟩ := p_bd_r h
  exact ln_wl h1 (by decide) _ _ _ _ _ _ (h1 _ _ _ h2) h
theorem ln_te {V : Nat → oR} {W : Option ((Nat → oR) × (Nat → oR))} {tx : Nat → Int32} (hV : p_ln V) (hW : ∀ t r, W = some (t, r) → p_ln t ∧ p_ln r) : p_ln (p_te V W tx) := by
  intro q os q2 h
  have b := nb_ge tx q
  unfold p_te at h
  split at h
  · rcases W with _ | ⟨t, r⟩
    · cases h
    · obtain ⟨o1, q1, h1, h⟩ := p_bd_r h
      cases h
      have a1 := (hW t r rfl).1 _ _ _ h1
      simp only [List.length_append, List.length_cons, List.length_nil]
      omega
  · split at h
    · rcases W with _ | ⟨t, r⟩
      · cases h
      · obtain ⟨o1, q1, h1, h⟩ := p_bd_r h
        obtain ⟨-, h⟩ := p_sg_r h
        cases h
        have a1 := (hW t r rfl).2 _ _ _ h1
        have a3 := nb_ge tx q1
        omega
    · obtain ⟨o1, q1, h1, h⟩ := p_bd_r h
      have a1 := hV _ _ _ h1
      have a3 := nb_ge tx q1
      rcases p_rl_c (tx := tx) (q := q1) (k := fun o q3 => p_bd (V q3) (fun os2 q4 => .inr (o1 ++ os2 ++ [(o, 0)], q4))) with ⟨od, hod, e⟩ | ⟨hno, e⟩
      · rw [e] at h
        obtain ⟨o2, q3, h2, h⟩ := p_bd_r h
        cases h
        have a2 := hV _ _ _ h2
        simp only [List.length_append, List.length_cons, List.length_nil]
        omega
      · rw [e] at h; cases h
theorem ln_tk {tx : Nat → Int32} : ∀ k, p_ln (p_tk tx k)
  | 0 => ln_te (ln_su 0) (fun t r h => by cases h)
  | k + 1 => ln_te (ln_su (k + 1)) (fun t r h => by cases h; exact ⟨ln_tk k, ln_or (ln_tk k)⟩)
theorem p_dg_r {tx : Nat → Int32} {q m : Nat} {k : Nat → Nat → oR} {os : oL} {q2 : Nat} (h : p_dg tx q m k = .inr (os, q2)) : ∃ d, d ≤ m ∧ k d (x_nb tx q + 1) = .inr (os, q2) := by
  unfold p_dg at h
  split at h
  · cases h
  · split at h
    · cases h
    · rename_i hc
      exact ⟨_, Nat.not_lt.mp fun z => hc (Or.inr z), h⟩
theorem ln_s1 {V : Nat → oR} {tx : Nat → Int32} {kd q : Nat} (hV : p_ln V) {os : oL} {q2 : Nat} (h : p_s1 V tx kd q = .inr (os, q2)) : q + os.length ≤ q2 := by
  have w0 : q ≤ x_we tx q := x_sk_ge _ _ _
  have w1 := nb_ge tx (x_we tx q)
  unfold p_s1 at h
  split at h
  · obtain ⟨-, h⟩ := p_sg_r h
    obtain ⟨o1, q1, h1, h⟩ := p_bd_r h
    obtain ⟨-, h⟩ := p_sg_r h
    cases h
    have a1 := hV _ _ _ h1
    have a2 := nb_ge tx (q + 1)
    have a3 := nb_ge tx q1
    simp only [List.length_append, List.length_cons, List.length_nil]
    omega
  · split at h
    · obtain ⟨d, -, h⟩ := p_dg_r h
      obtain ⟨-, h⟩ := p_sg_r h
      cases h
      have a3 := nb_ge tx (x_nb tx (x_we tx q) + 1)
      simp only [List.length_cons, List.length_nil]
      omega
    · split at h
      · obtain ⟨d, -, h⟩ := p_dg_r h
        unfold p_nm at h
        split at h
        · cases h
        · rename_i hd
          split at h
          · obtain ⟨-, h⟩ := p_sg_r h
            cases h
            have a2 := nb_ge tx (x_nb tx (x_we tx q) + 1)
            have a3 := de_ge (Classical.not_not.mp hd)
            have a4 := nb_ge tx (x_de tx (x_nb tx (x_nb tx (x_we tx q) + 1)))
            simp only [List.length_cons, List.length_nil]
            omega
          · cases h
      · split at h
        · obtain ⟨d, -, h⟩ := p_dg_r h
          obtain ⟨-, h⟩ := p_sg_r h
          cases h
          have a3 := nb_ge tx (x_nb tx (x_we tx q) + 1)
          simp only [List.length_cons, List.length_nil]
          omega
        · split at h
          · obtain ⟨-, h⟩ := p_sg_r h
            cases h
            simp only [List.length_cons, List.length_nil]
            omega
          · obtain ⟨d, -, h⟩ := p_dg_r h
            obtain ⟨o1, q1, h1, h⟩ := p_bd_r h
            obtain ⟨-, h⟩ := p_sg_r h
            cases h
            have a1 := hV _ _ _ h1
            have a3 := nb_ge tx q1
            simp only [List.length_append, List.length_cons, List.length_nil]
            omega
abbrev rVn : Type := (Nat → Int32) → jSc → Option ((Nat → Int32) × jSc)
/-- what stays of the fields -/
def fldF (S S2 : Nat → Int32) : Prop := ∀ k, (k == 24) = false → (k == 28) = false → (k == 57) = false → S2 k = S k
/-- the machine does the orders os from base on: from (S, rd, ar) to (S2, rd2, ar2) -/
def wR (S : Nat → Int32) (rd : Int32) (ar : jSc) (base : Nat) (os : oL) (S2 : Nat → Int32) (rd2 : Int32) (ar2 : jSc) : Prop :=
  fldF S S2 ∧ (S2 24 = 0 ∨ S2 24 = 1) ∧ pgC (ar2 13) ∧ rowF ar ar2 ∧ ∀ (O : Nat → Nat × Int32) (len : Nat) (st : List Int32) (f0 : Nat), w_sg O base os → base + os.length ≤ len → ∃ f1, f0 ≤ f1 ∧ w_run O len (f0 + os.length) base st (upd S 27 rd) ar = (if S2 24 = 0 then w_run O len f1 (base + os.length) st (upd S2 27 rd2) ar2 else some (upd S2 27 rd2, ar2))
def rST (tx : Nat → Int32) (n o B : Nat) (f : rVn) (p : Nat → Nat → Nat → oS) : Prop := ∀ (S : Nat → Int32) (ar : jSc) (q : Nat) (rd : Int32) (base cnt : Nat) (c : Int32), rE tx n S ar → q ≤ n → (S 4 = -1 → c = nI cnt) → cnt ≤ 60 → base ≤ 100000 + q →
  (∀ os q2 c2, p q base cnt = .inr (os, q2, c2) → q < q2 ∧ q2 ≤ n ∧ cnt < c2 ∧ c2 ≤ 60 ∧ q + os.length ≤ q2 ∧
    (S 22 = 0 → ∃ c9, (S 4 = -1 → c9 = nI c2) ∧ f (sQ (upd S 17 c) q o rd) ar = some (sQ (upd S 17 c9) q2 o rd, ar)) ∧
    (S 22 = 1 → S 23 = 1 → S 24 = 0 → pgC (ar 13) → (∃ m, m ≤ 6 ∧ S 38 = nI m) → ¬ S 4 = -1 → ∃ c9 S2 rd2 ar2, f (sQ (upd S 17 c) q o rd) ar = some (sQ (upd S2 17 c9) q2 o rd2, ar2) ∧ wR S rd ar base os S2 rd2 ar2)) ∧
  (∀ kd pl, p q base cnt = .inl (kd, pl) → S 22 = 0 → S 4 = -1 → ∃ S9 c9, f (sQ (upd S 17 c) q o rd) ar = some (S9, ar) ∧ rFl (sQ (upd S 17 c9) q o rd) n kd pl B S9)
