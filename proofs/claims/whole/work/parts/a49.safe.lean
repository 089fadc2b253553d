/-! SEARCHES, abstractly: all that rows reach is met; first pages that spoil; searches that go alike. -/
section BF
variable {cn : (Nat → Int32) → Nat → Bool} {st : (Nat → Int32) → Nat → Nat → Int32} {bd : (Nat → Int32) → Bool} {most n0 : Nat}
/-- the first that is bad -/
def bFb (bd : (Nat → Int32) → Bool) (s : bS) : Prop := (s.2.1 = none → ∀ e ∈ s.1, bd e.1 = false) ∧ ∀ i, s.2.1 = some i → ∃ e, s.1[i]? = some e ∧ bd e.1 = true
theorem bC_fb {s : bS} {q d c : Nat} {P : Nat → Int32} (h : bFb bd s) : bFb bd (bC cn st bd most q P d c s) := by
  unfold bC
  by_cases z : cn P c = true
  · rw [if_pos z]
    by_cases y : bI s.1 (st P c) = true
    · rw [if_pos y]; exact h
    · rw [if_neg y]
      by_cases x : s.1.length = most
      · rw [if_pos x]; exact h
      · rw [if_neg x]
        refine ⟨fun e => ?_, fun i e => ?_⟩
        · by_cases w : s.2.1 = none ∧ bd (st P c) = true
          · rw [if_pos w] at e; cases e
          · rw [if_neg w] at e
            intro f hf
            rcases List.mem_append.mp hf with hf | hf
            · exact h.1 e f hf
            · rw [List.mem_singleton.mp hf]
              cases u : bd (st P c)
              · rfl
              · exact absurd ⟨e, u⟩ w
        · by_cases w : s.2.1 = none ∧ bd (st P c) = true
          · rw [if_pos w] at e
            cases e
            exact ⟨_, by rw [List.getElem?_append_right (Nat.le_refl _), Nat.sub_self]; rfl, w.2⟩
          · rw [if_neg w] at e
            obtain ⟨f, a, b⟩ := h.2 i e
            refine ⟨f, ?_, b⟩
            have := (List.getElem?_eq_some_iff.mp a).1
            rw [List.getElem?_append_left this]; exact a
  · rw [if_neg z]; exact h
theorem bIn_fb {wh : Bool} {q d : Nat} {P : Nat → Int32} : ∀ {r c : Nat} {s : bS}, bFb bd s → bFb bd (bIn cn st bd wh most q P d r c s)
  | 0, _, _, h => h
  | r + 1, c, s, h => by
    unfold bIn
    split
    · exact bC_fb h
    · exact bIn_fb (bC_fb h)
theorem bGo_fb {wh : Bool} : ∀ {f q : Nat} {s : bS}, bFb bd s → bFb bd (bGo cn st bd wh most n0 f q s)
  | 0, _, _, h => h
  | f + 1, q, s, h => by
    unfold bGo
    split
    · exact h
    · split
      · exact h
      · split
        · exact bGo_fb (bIn_fb h)
        · exact bGo_fb h
theorem bRs_fb {wh : Bool} {B : Nat → Int32} : bFb bd (bRs cn st bd B wh most n0) := by
  unfold bRs
  refine bGo_fb ⟨fun e => ?_, fun i e => ?_⟩
  · unfold bSt at e ⊢
    intro f hf
    rw [List.mem_singleton.mp hf]
    cases u : bd B
    · rfl
    · rw [if_pos u] at e; cases e
  · unfold bSt at e ⊢
    by_cases u : bd B = true
    · rw [if_pos u] at e
      cases e
      exact ⟨_, rfl, u⟩
    · rw [if_neg u] at e; cases e
/-- all pages of the search are in normal form -/
def b38 (s : bS) : Prop := ∀ e ∈ s.1, c38 e.1 = e.1
theorem bC_mem {s : bS} {q d c : Nat} {P : Nat → Int32} {e : eT} (he : e ∈ (bC cn st bd most q P d c s).1) : e ∈ s.1 ∨ (e.1 = st P c ∧ cn P c = true ∧ e.2.2.2 = d + 1) := by
  unfold bC at he
  by_cases z : cn P c = true
  · rw [if_pos z] at he
    by_cases y : bI s.1 (st P c) = true
    · rw [if_pos y] at he; exact Or.inl he
    · rw [if_neg y] at he
      by_cases x : s.1.length = most
      · rw [if_pos x] at he; exact Or.inl he
      · rw [if_neg x] at he
        rcases List.mem_append.mp he with he | he
        · exact Or.inl he
        · rw [List.mem_singleton.mp he]; exact Or.inr ⟨rfl, z, rfl⟩
  · rw [if_neg z] at he; exact Or.inl he
/-- one code is done: not spent, where it leads is met -/
theorem bC_met {s : bS} {q d c : Nat} {P : Nat → Int32} (h : (bC cn st bd most q P d c s).2.2 = false) (hc : cn P c = true) (hs : ∀ e ∈ s.1, c38 e.1 = e.1) (h38 : c38 (st P c) = st P c) (hd : ∀ e ∈ s.1, e.2.2.2 ≤ d + 1) : ∃ e ∈ (bC cn st bd most q P d c s).1, e.1 = st P c ∧ e.2.2.2 ≤ d + 1 := by
  unfold bC at h ⊢
  rw [if_pos hc] at h ⊢
  by_cases y : bI s.1 (st P c) = true
  · rw [if_pos y]
    obtain ⟨e, he, hq⟩ := List.mem_map.mp ((bI_i hs h38).mp y)
    exact ⟨e, he, hq, hd e he⟩
  · rw [if_neg y] at h ⊢
    by_cases x : s.1.length = most
    · rw [if_pos x] at h; cases h
    · rw [if_neg x]
      exact ⟨_, List.mem_append_right _ (List.mem_singleton.mpr rfl), rfl, Nat.le_refl _⟩
theorem bC_22 {s : bS} {q d c : Nat} {P : Nat → Int32} (h : s.2.2 = true) : (bC cn st bd most q P d c s).2.2 = true := by
  unfold bC
  split
  · split
    · exact h
    · split
      · rfl
      · exact h
  · exact h
theorem bIn_22 {wh : Bool} {q d : Nat} {P : Nat → Int32} : ∀ {r c : Nat} {s : bS}, s.2.2 = true → (bIn cn st bd wh most q P d r c s).2.2 = true
  | 0, _, _, h => h
  | r + 1, c, s, h => by
    unfold bIn
    split
    · exact bC_22 h
    · exact bIn_22 (bC_22 h)
theorem bGo_22 {wh : Bool} : ∀ {f q : Nat} {s : bS}, s.2.2 = true → (bGo cn st bd wh most n0 f q s).2.2 = true
  | 0, _, _, h => h
  | f + 1, q, s, h => by
    unfold bGo
    split
    · exact h
    · split
      · exact h
      · split
        · exact bGo_22 (bIn_22 h)
        · exact bGo_22 h
theorem bC_sub {s : bS} {q d c : Nat} {P : Nat → Int32} {e : eT} (he : e ∈ s.1) : e ∈ (bC cn st bd most q P d c s).1 := by
  obtain ⟨t, h, -⟩ := bC_app (cn := cn) (st := st) (bd := bd) (most := most) (q := q) (d := d) (c := c) (P := P) (s := s)
  rw [h]; exact List.mem_append_left _ he
theorem bIn_sub {wh : Bool} {q d r c : Nat} {P : Nat → Int32} {s : bS} {e : eT} (he : e ∈ s.1) : e ∈ (bIn cn st bd wh most q P d r c s).1 := by
  obtain ⟨t, h, -⟩ := bIn_app (cn := cn) (st := st) (bd := bd) (wh := wh) (most := most) (q := q) (d := d) (P := P) (r := r) (c := c) (s := s)
  rw [h]; exact List.mem_append_left _ he
/-- a page is spread whole: where its codes lead is met -/
theorem bIn_met {q d : Nat} {P : Nat → Int32} (h38 : ∀ Q c, c38 (st Q c) = st Q c) : ∀ {r c : Nat} {s : bS}, (bIn cn st bd true most q P d r c s).2.2 = false → (∀ e ∈ s.1, c38 e.1 = e.1) → (∀ e ∈ s.1, e.2.2.2 ≤ d + 1) → ∀ k, c ≤ k → k < c + r → cn P k = true → ∃ e ∈ (bIn cn st bd true most q P d r c s).1, e.1 = st P k ∧ e.2.2.2 ≤ d + 1
  | 0, _, _, _, _, _, k, h1, h2, _ => by omega
  | r + 1, c, s, h, hs, hd, k, h1, h2, hc => by
    have hov : ¬ bOv true (bC cn st bd most q P d c s) = true := fun w => by
      unfold bIn at h
      rw [if_pos w] at h
      unfold bOv at w
      rw [h] at w
      cases w
    have eq : bIn cn st bd true most q P d (r + 1) c s = bIn cn st bd true most q P d r (c + 1) (bC cn st bd most q P d c s) := by
      show (if bOv true (bC cn st bd most q P d c s) = true then _ else _) = _
      rw [if_neg hov]
    rw [eq] at h ⊢
    have h22 : (bC cn st bd most q P d c s).2.2 = false := by
      cases u : (bC cn st bd most q P d c s).2.2
      · rfl
      · rw [bIn_22 u] at h; cases h
    have hs' : ∀ e ∈ (bC cn st bd most q P d c s).1, c38 e.1 = e.1 := fun e he => by
      rcases bC_mem he with a | ⟨a, -⟩
      · exact hs e a
      · rw [a]; exact h38 P c
    have hd' : ∀ e ∈ (bC cn st bd most q P d c s).1, e.2.2.2 ≤ d + 1 := fun e he => by
      rcases bC_mem he with a | ⟨-, -, a⟩
      · exact hd e a
      · omega
    by_cases z : k = c
    · subst z
      obtain ⟨e, a, b, b2⟩ := bC_met h22 hc hs (h38 P k) hd
      exact ⟨e, bIn_sub a, b, b2⟩
    · exact bIn_met h38 h hs' hd' k (by omega) (by omega) hc
/-- what holds of the list as the search stands at q -/
def bMq (s : bS) (q : Nat) : Prop := (∀ e ∈ s.1, c38 e.1 = e.1) ∧ (∀ (i j : Nat) (e f : eT), i ≤ j → s.1[i]? = some e → s.1[j]? = some f → e.2.2.2 ≤ f.2.2.2) ∧ ∀ (e f : eT), s.1[q]? = some f → e ∈ s.1 → e.2.2.2 ≤ f.2.2.2 + 1
theorem bGo_met (h38 : ∀ Q c, c38 (st Q c) = st Q c) (hm : most ≤ 600) : ∀ (f q : Nat) (s : bS), q + f = 601 → s.1.length ≤ most → bMq s q → (∀ i e, i < q → s.1[i]? = some e → e.2.2.2 < n0 → ∀ k, k < 13 → cn e.1 k = true → ∃ x ∈ s.1, x.1 = st e.1 k ∧ x.2.2.2 ≤ e.2.2.2 + 1) → (bGo cn st bd true most n0 f q s).2.2 = false → ∀ e ∈ (bGo cn st bd true most n0 f q s).1, e.2.2.2 < n0 → ∀ k, k < 13 → cn e.1 k = true → ∃ x ∈ (bGo cn st bd true most n0 f q s).1, x.1 = st e.1 k ∧ x.2.2.2 ≤ e.2.2.2 + 1 := by
  intro f
  induction f with
  | zero =>
    intro q s h1 h2 h3 h4 h5 e he hd k hk hc
    obtain ⟨i, hi⟩ := List.mem_iff_getElem?.mp he
    have hi' : s.1[i]? = some e := hi
    have := (List.getElem?_eq_some_iff.mp hi').1
    exact h4 i e (by omega) hi' hd k hk hc
  | succ f ih =>
    intro q s h1 h2 h3 h4 h5
    rcases hq : s.1[q]? with _ | e0
    · have eq : bGo cn st bd true most n0 (f + 1) q s = s := by
        unfold bGo
        rw [hq]
      rw [eq] at h5 ⊢
      intro e he hd k hk hc
      obtain ⟨i, hi⟩ := List.mem_iff_getElem?.mp he
      have l1 := (List.getElem?_eq_some_iff.mp hi).1
      have l2 := List.getElem?_eq_none_iff.mp hq
      exact h4 i e (by omega) hi hd k hk hc
    · have ov : ¬ bOv true s = true := fun w => by
        have eq : bGo cn st bd true most n0 (f + 1) q s = s := by
          unfold bGo
          rw [hq]
          show (if bOv true s = true then s else _) = s
          rw [if_pos w]
        rw [eq] at h5
        unfold bOv at w
        rw [h5] at w
        cases w
      by_cases hd0 : e0.2.2.2 < n0
      · have eq : bGo cn st bd true most n0 (f + 1) q s = bGo cn st bd true most n0 f (q + 1) (bIn cn st bd true most q e0.1 e0.2.2.2 13 0 s) := by
          show (match s.1[q]? with | none => s | some e => if bOv true s = true then s else if e.2.2.2 < n0 then _ else _) = _
          rw [hq]
          show (if bOv true s = true then s else if e0.2.2.2 < n0 then _ else _) = _
          rw [if_neg ov, if_pos hd0]
        rw [eq] at h5 ⊢
        obtain ⟨t, ht, htd⟩ := bIn_app (cn := cn) (st := st) (bd := bd) (wh := true) (most := most) (q := q) (d := e0.2.2.2) (P := e0.1) (r := 13) (c := 0) (s := s)
        have h22 : (bIn cn st bd true most q e0.1 e0.2.2.2 13 0 s).2.2 = false := by
          cases u : (bIn cn st bd true most q e0.1 e0.2.2.2 13 0 s).2.2
          · rfl
          · rw [bGo_22 u] at h5; cases h5
        have hle : ∀ e ∈ s.1, e.2.2.2 ≤ e0.2.2.2 + 1 := fun e he => h3.2.2 e e0 hq he
        have met := bIn_met (bd := bd) (most := most) (q := q) (d := e0.2.2.2) (P := e0.1) h38 (r := 13) (c := 0) (s := s) h22 h3.1 hle
        have m38 : ∀ e ∈ (bIn cn st bd true most q e0.1 e0.2.2.2 13 0 s).1, c38 e.1 = e.1 := by
          have go : ∀ (r c : Nat) (s : bS), (∀ e ∈ s.1, c38 e.1 = e.1) → ∀ e ∈ (bIn cn st bd true most q e0.1 e0.2.2.2 r c s).1, c38 e.1 = e.1 := by
            intro r
            induction r with
            | zero => intro c s h; exact h
            | succ r ih2 =>
              intro c s h
              have hc' : ∀ e ∈ (bC cn st bd most q e0.1 e0.2.2.2 c s).1, c38 e.1 = e.1 := fun e he => by
                rcases bC_mem he with a | ⟨a, -⟩
                · exact h e a
                · rw [a]; exact h38 _ c
              unfold bIn
              split
              · exact hc'
              · exact ih2 (c + 1) _ hc'
          exact go 13 0 s h3.1
        have gl : ∀ i, i < s.1.length → (s.1 ++ t)[i]? = s.1[i]? := fun i hi => List.getElem?_append_left hi
        have lq := (List.getElem?_eq_some_iff.mp hq).1
        have srt : ∀ (i j : Nat) (e f : eT), i ≤ j → (s.1 ++ t)[i]? = some e → (s.1 ++ t)[j]? = some f → e.2.2.2 ≤ f.2.2.2 := by
          intro i j e f hij hi hj
          by_cases a : j < s.1.length
          · rw [gl j a] at hj
            rw [gl i (by omega)] at hi
            exact h3.2.1 i j e f hij hi hj
          · have fd : f.2.2.2 = e0.2.2.2 + 1 := by
              rw [List.getElem?_append_right (by omega)] at hj
              exact htd f (List.mem_of_getElem? hj)
            by_cases b : i < s.1.length
            · rw [gl i b] at hi
              rw [fd]; exact hle e (List.mem_of_getElem? hi)
            · rw [List.getElem?_append_right (by omega)] at hi
              rw [fd, htd e (List.mem_of_getElem? hi)]
              exact Nat.le_refl _
        have len2 : (bIn cn st bd true most q e0.1 e0.2.2.2 13 0 s).1.length ≤ most := by
          have go : ∀ (r c : Nat) (s : bS), s.1.length ≤ most → (bIn cn st bd true most q e0.1 e0.2.2.2 r c s).1.length ≤ most := by
            intro r
            induction r with
            | zero => intro c s h; exact h
            | succ r ih2 =>
              intro c s h
              have hc' : (bC cn st bd most q e0.1 e0.2.2.2 c s).1.length ≤ most := by
                unfold bC
                split
                · split
                  · exact h
                  · split
                    · exact h
                    · rw [List.length_append]; simp only [List.length_cons, List.length_nil]; omega
                · exact h
              unfold bIn
              split
              · exact hc'
              · exact ih2 (c + 1) _ hc'
          exact go 13 0 s h2
        refine ih (q + 1) _ (by omega) len2 ⟨m38, by rw [ht]; exact srt, fun e f hf he => ?_⟩ (fun i e hi he hd k hk hc => ?_) h5
        · rw [ht] at hf he
          have m1 := srt q (q + 1) e0 f (by omega) (by rw [gl q lq]; exact hq) hf
          rcases List.mem_append.mp he with he | he
          · have := hle e he; omega
          · have := htd e he; omega
        · by_cases z : i = q
          · subst z
            rw [ht, gl i lq, hq] at he
            cases he
            exact met k (by omega) (by omega) hc
          · rw [ht, gl i (by omega)] at he
            obtain ⟨x, a, b, b2⟩ := h4 i e (by omega) he hd k hk hc
            exact ⟨x, bIn_sub a, b, b2⟩
      · have eq : bGo cn st bd true most n0 (f + 1) q s = bGo cn st bd true most n0 f (q + 1) s := by
          show (match s.1[q]? with | none => s | some e => if bOv true s = true then s else if e.2.2.2 < n0 then _ else _) = _
          rw [hq]
          show (if bOv true s = true then s else if e0.2.2.2 < n0 then _ else _) = _
          rw [if_neg ov, if_neg hd0]
        rw [eq] at h5 ⊢
        refine ih (q + 1) s (by omega) h2 ⟨h3.1, h3.2.1, fun e f hf he => ?_⟩ (fun i e hi he hd k hk hc => ?_) h5
        · have := h3.2.1 q (q + 1) e0 f (by omega) hq hf
          have := h3.2.2 e e0 hq he
          omega
        · by_cases z : i = q
          · subst z
            rw [hq] at he
            cases he
            exact absurd hd hd0
          · exact h4 i e (by omega) he hd k hk hc
/-- all that rows of at most n0 happenings reach is met -/
theorem bRs_met {B : Nat → Int32} (h38 : ∀ Q c, c38 (st Q c) = st Q c) (hB : c38 B = B) (h1 : 1 ≤ most) (hm : most ≤ 600) (h : (bRs cn st bd B true most n0).2.2 = false) : (∃ x ∈ (bRs cn st bd B true most n0).1, x.1 = B ∧ x.2.2.2 ≤ 0) ∧ ∀ e ∈ (bRs cn st bd B true most n0).1, e.2.2.2 < n0 → ∀ k, k < 13 → cn e.1 k = true → ∃ x ∈ (bRs cn st bd B true most n0).1, x.1 = st e.1 k ∧ x.2.2.2 ≤ e.2.2.2 + 1 := by
  have hs : bMq (bSt bd B) 0 := by
    refine ⟨fun e he => ?_, fun i j e f hij hi hj => ?_, fun e f hf he => ?_⟩
    · rw [List.mem_singleton.mp he]; exact hB
    · have := List.mem_singleton.mp (List.mem_of_getElem? hi)
      rw [this]; exact Nat.zero_le _
    · rw [List.mem_singleton.mp he]; exact Nat.zero_le _
  have fst : ∀ (f q : Nat) (s : bS) (e : eT), e ∈ s.1 → e ∈ (bGo cn st bd true most n0 f q s).1 := by
    intro f
    induction f with
    | zero => intro q s e h; exact h
    | succ f ih =>
      intro q s e h
      unfold bGo
      split
      · exact h
      · split
        · exact h
        · split
          · exact ih _ _ _ (bIn_sub h)
          · exact ih _ _ _ h
  refine ⟨⟨(B, -1, -1, 0), fst 601 0 _ _ (List.mem_singleton.mpr rfl), rfl, Nat.le_refl _⟩, ?_⟩
  exact bGo_met h38 hm 601 0 (bSt bd B) (by omega) h1 hs (fun i e hi => absurd hi (by omega)) h
end BF
