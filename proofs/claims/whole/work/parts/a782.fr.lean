/-! A RUN IN A SMALLER POOL is a run in a larger one, and leaves what is not in its pool. -/
def km (n0 : List Nat) (g f : jM) : jM := fun a => if a ∈ n0 then f a else g a
theorem km_in {n0 : List Nat} {g f : jM} {a : Nat} (h : a ∈ n0) : km n0 g f a = f a := if_pos h
theorem km_up {n0 : List Nat} {g f : jM} {a : Nat} (h : a ∈ n0) (e : va_E) : km n0 g (va_up f a e) = va_up (km n0 g f) a e := by
  funext x
  unfold km va_up
  by_cases e1 : x = a
  · subst e1
    simp [h]
  · simp [e1]
section FR
variable {n0 n1 : List Nat} {g f : jM} {mx : Nat} {fl : Nat → Option (Nat × Nat × Nat)} {cn : Nat → Option Int32} {nt : Nat → Nat}
theorem km_ob (hs : ∀ a ∈ n0, a ∈ n1) {a ci : Nat} {fs : List Value} (h : j_ob n0 f a ci = some fs) : a ∈ n0 ∧ j_ob n1 (km n0 g f) a ci = some fs := by
  have h1 : a ∈ n0 := (j_ob_ok h).1
  refine ⟨h1, ?_⟩
  unfold j_ob at h ⊢
  rw [if_pos h1] at h
  rw [if_pos (hs a h1), km_in h1]
  exact h
theorem km_ai (hs : ∀ a ∈ n0, a ∈ n1) {t a : Nat} {q : Nat × (Nat → Int32)} (h : j_ai n0 f t a = some q) : a ∈ n0 ∧ j_ai n1 (km n0 g f) t a = some q := by
  unfold j_ai at h ⊢
  by_cases h1 : a ∈ n0
  · rw [if_pos h1] at h
    rw [if_pos (hs a h1), km_in h1]
    exact ⟨h1, h⟩
  · rw [if_neg h1] at h
    cases h
theorem km_al (hs : ∀ a ∈ n0, a ∈ n1) {t a : Nat} {q : Nat × (Nat → Int64)} (h : j_al n0 f t a = some q) : a ∈ n0 ∧ j_al n1 (km n0 g f) t a = some q := by
  unfold j_al at h ⊢
  by_cases h1 : a ∈ n0
  · rw [if_pos h1] at h
    rw [if_pos (hs a h1), km_in h1]
    exact ⟨h1, h⟩
  · rw [if_neg h1] at h
    cases h
theorem km_ar (hs : ∀ a ∈ n0, a ∈ n1) {a : Nat} {q : Nat × Nat × (Nat → Option Nat)} (h : j_ar n0 f a = some q) : a ∈ n0 ∧ j_ar n1 (km n0 g f) a = some q := by
  unfold j_ar at h ⊢
  by_cases h1 : a ∈ n0
  · rw [if_pos h1] at h
    rw [if_pos (hs a h1), km_in h1]
    exact ⟨h1, h⟩
  · rw [if_neg h1] at h
    cases h
set_option maxHeartbeats 8000000 in
theorem j_step_fr (hs : ∀ a ∈ n0, a ∈ n1) {i : Instr} {pc pc' : Nat} {lv lv' : jV} {st st' : List Value} {f' : jM} (h : j_step n0 mx fl cn nt i pc lv st f = some (pc', lv', st', f')) : j_step n1 mx fl cn nt i pc lv st (km n0 g f) = some (pc', lv', st', km n0 g f') := by
  cases i
  case getfield x =>
    simp only [j_step] at h ⊢
    split at h
    · rename_i a r
      split at h
      · rename_i ci k t hf
        split at h
        · rename_i fs ho
          obtain ⟨-, h2⟩ := km_ob (g := g) hs ho
          simp only [hf, h2]
          split at h
          · rename_i v hv
            cases h
            simp only [hv]
          · cases h
        · cases h
      · cases h
    · cases h
  case putfield x =>
    simp only [j_step] at h ⊢
    split at h
    · rename_i v a r
      split at h
      · rename_i ci k t hf
        split at h
        · rename_i fs ho
          obtain ⟨h1, h2⟩ := km_ob (g := g) hs ho
          simp only [hf, h2]
          split at h
          · rename_i hv
            cases h
            rw [if_pos hv, km_up h1]
          · cases h
        · cases h
      · cases h
    · cases h
  case iaload =>
    simp only [j_step] at h ⊢
    split at h
    · rename_i j a r
      split at h
      · rename_i nn gg ho
        obtain ⟨-, h2⟩ := km_ai (g := g) hs ho
        simp only [h2]
        split at h
        · cases h
        · rename_i hv
          cases h
          rw [if_neg hv]
      · cases h
    · cases h
  case baload =>
    simp only [j_step] at h ⊢
    split at h
    · rename_i j a r
      split at h
      · rename_i nn gg ho
        obtain ⟨-, h2⟩ := km_ai (g := g) hs ho
        simp only [h2]
        split at h
        · cases h
        · rename_i hv
          cases h
          rw [if_neg hv]
      · cases h
    · cases h
  case laload =>
    simp only [j_step] at h ⊢
    split at h
    · rename_i j a r
      split at h
      · rename_i nn gg ho
        obtain ⟨-, h2⟩ := km_al (g := g) hs ho
        simp only [h2]
        split at h
        · cases h
        · rename_i hv
          cases h
          rw [if_neg hv]
      · cases h
    · cases h
  case aaload =>
    simp only [j_step] at h ⊢
    split at h
    · rename_i j a r
      split at h
      · rename_i t nn gg ho
        obtain ⟨-, h2⟩ := km_ar (g := g) hs ho
        simp only [h2]
        split at h
        · cases h
        · rename_i hv
          rw [if_neg (fun z => hv (by
            rcases z with z | z | z
            · exact Or.inl z
            · exact Or.inr (Or.inl z)
            · exact Or.inr (Or.inr (fun y => z (y.imp id (fun w => ⟨w.1, hs 0 w.2⟩))))))]
          split at h
          · rename_i q hq
            cases h
            try simp only [hq]
          · cases h
      · cases h
    · cases h
  case iastore =>
    simp only [j_step] at h ⊢
    split at h
    · rename_i x j a r
      split at h
      · rename_i nn gg ho
        obtain ⟨h1, h2⟩ := km_ai (g := g) hs ho
        simp only [h2]
        split at h
        · cases h
        · rename_i hv
          cases h
          rw [if_neg hv, km_up h1]
      · cases h
    · cases h
  case bastore =>
    simp only [j_step] at h ⊢
    split at h
    · rename_i x j a r
      split at h
      · rename_i nn gg ho
        obtain ⟨h1, h2⟩ := km_ai (g := g) hs ho
        simp only [h2]
        split at h
        · cases h
        · rename_i hv
          cases h
          rw [if_neg hv, km_up h1]
      · cases h
    · cases h
  case lastore =>
    simp only [j_step] at h ⊢
    split at h
    · rename_i x j a r
      split at h
      · rename_i nn gg ho
        obtain ⟨h1, h2⟩ := km_al (g := g) hs ho
        simp only [h2]
        split at h
        · cases h
        · rename_i hv
          cases h
          rw [if_neg hv, km_up h1]
      · cases h
    · cases h
  case arraylength =>
    simp only [j_step] at h ⊢
    split at h
    · rename_i a r
      split at h
      · rename_i h1
        rw [if_pos (hs a h1), km_in h1]
        split at h
        · rename_i t x hx
          split at h
          · rename_i hv
            cases h
            rw [if_pos (hv.imp id (fun w => ⟨w.1, hs 0 w.2⟩))]
          · cases h
        · cases h
      · cases h
    · cases h
  case invokestatic x =>
    simp only [j_step] at h ⊢
    by_cases hnt : nt x = 1
    · rw [if_pos hnt] at h ⊢
      split at h
      · rename_i n dp a sp b r
        split at h
        · rename_i nb gb hb
          split at h
          · rename_i na ga ha
            obtain ⟨b1, b2⟩ := km_ai (g := g) hs hb
            obtain ⟨a1, a2⟩ := km_ai (g := g) hs ha
            simp only [b2, a2]
            split at h
            · rename_i hv
              cases h
              rw [if_pos hv, km_up a1]
            · cases h
          · cases h
        · cases h
      · cases h
    · rw [if_neg hnt] at h ⊢
      by_cases hn2 : nt x = 2
      · rw [if_pos hn2] at h ⊢
        split at h
        · split at h
          · rename_i hv
            cases h
            simp only [if_pos hv]
          · cases h
        · cases h
      · rw [if_neg hn2] at h ⊢
        by_cases hn3 : nt x = 3
        · rw [if_pos hn3] at h ⊢
          split at h
          · split at h
            · rename_i hv
              cases h
              simp only [if_pos hv]
            · cases h
          · cases h
        · rw [if_neg hn3] at h
          cases h
  case tableswitch d lo hi os =>
    simp only [j_step, j_go] at h ⊢
    split at h
    · rename_i x r
      by_cases hc : x.toInt < lo ∨ hi < x.toInt
      · rw [if_pos hc] at h
        simp only [if_pos hc]
        split at h
        · cases h
          rfl
        · cases h
      · rw [if_neg hc] at h
        simp only [if_neg hc]
        split at h
        · split at h
          · cases h
            rfl
          · cases h
        · cases h
    · cases h
  all_goals simp only [j_step, j_go] at h ⊢
  all_goals (repeat' split at h) <;> first | (cases h; done) | (cases h; rfl) | (cases h; simp_all; done)
theorem j_rc_fr (hs : ∀ a ∈ n0, a ∈ n1) {ci na : Nat} {st : List Value} (h : j_rc n0 f ci na st = true) : j_rc n1 (km n0 g f) ci na st = true := by
  unfold j_rc at h ⊢
  split at h
  · rename_i a ha
    obtain ⟨fs, hfs⟩ := Option.isSome_iff_exists.mp h
    simp only [ha, (km_ob (g := g) hs hfs).2]
    rfl
  · cases h
theorem j_can_fr (hs : ∀ a ∈ n0, a ∈ n1) {kd ci na mq d : Nat} {st : List Value} (h : j_can n0 f kd ci na mq d st = true) : j_can n1 (km n0 g f) kd ci na mq d st = true := by
  simp only [j_can, Bool.and_eq_true, Bool.or_eq_true, decide_eq_true_eq] at h ⊢
  exact ⟨h.1, h.2.imp id (fun z => ⟨z.1, j_rc_fr hs z.2⟩)⟩
end FR
theorem j_run_fr {n0 n1 : List Nat} {g : jM} {co : Nat → Nat → Option Instr} {fl : Nat → Nat → Option (Nat × Nat × Nat)} {cn : Nat → Nat → Option Int32} {nt : Nat → Nat → Nat} {ml : Nat → Nat → Option (Nat × Nat × Nat × Nat)} {mx rt : Nat → Nat} (hs : ∀ a ∈ n0, a ∈ n1) : ∀ (N mid d pc : Nat) (lv : jV) (st : List Value) (f : jM) (r : Option Value) (f' : jM), j_run n0 co fl cn nt ml mx rt N mid d pc lv st f = some (r, f') → j_run n1 co fl cn nt ml mx rt N mid d pc lv st (km n0 g f) = some (r, km n0 g f') := by
  intro N
  induction N with
  | zero => intro mid d pc lv st f r f' h; simp [j_run] at h
  | succ N ih =>
    intro mid d pc lv st f r f' h
    rw [j_run] at h ⊢
    split at h
    · cases h
    · rename_i i hi
      try simp only [hi]
      split at h
      · rename_i r' hret
        cases h
        try simp only [hret]
      · rename_i hret
        try simp only [hret]
        split at h
        · rename_i kd x hinv
          try simp only [hinv]
          split at h
          · rename_i kd' q na ci hq
            try simp only [hq]
            split at h
            · rename_i hcan
              rw [if_pos ⟨hcan.1, j_can_fr hs hcan.2⟩]
              split at h
              · rename_i r1 f1 hrun
                simp only [ih _ _ _ _ _ _ _ _ hrun]
                exact ih _ _ _ _ _ _ _ _ h
              · cases h
            · cases h
          · rename_i hq
            try simp only [hq]
            split at h
            · rename_i hd
              rw [if_pos hd]
              split at h
              · rename_i pc' lv' st' f2 hst
                simp only [j_step_fr (g := g) hs hst]
                exact ih _ _ _ _ _ _ _ _ h
              · cases h
            · cases h
        · rename_i hinv
          try simp only [hinv]
          split at h
          · rename_i pc' lv' st' f2 hst
            simp only [j_step_fr (g := g) hs hst]
            exact ih _ _ _ _ _ _ _ _ h
          · cases h
