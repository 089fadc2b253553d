/-! SETS OF FORMS THAT WORK ALIKE are safe alike. -/
section CG
variable {cn cn2 : (Nat → Int32) → Nat → Bool} {st st2 : (Nat → Int32) → Nat → Nat → Int32} {bd : (Nat → Int32) → Bool} {most n0 : Nat} {Inv : (Nat → Int32) → Prop}
def cgH (cn cn2 : (Nat → Int32) → Nat → Bool) (st st2 : (Nat → Int32) → Nat → Nat → Int32) (Inv : (Nat → Int32) → Prop) : Prop := ∀ P, Inv P → ∀ c, c < 13 → cn P c = cn2 P c ∧ (cn P c = true → st P c = st2 P c ∧ Inv (st P c))
theorem bC_cg {s : bS} {q d c : Nat} {P : Nat → Int32} (h : cgH cn cn2 st st2 Inv) (hP : Inv P) (hc : c < 13) (hs : ∀ e ∈ s.1, Inv e.1) : bC cn st bd most q P d c s = bC cn2 st2 bd most q P d c s ∧ ∀ e ∈ (bC cn st bd most q P d c s).1, Inv e.1 := by
  obtain ⟨h1, h2⟩ := h P hP c hc
  refine ⟨?_, fun e he => ?_⟩
  · unfold bC
    rw [← h1]
    by_cases z : cn P c = true
    · rw [if_pos z, if_pos z, (h2 z).1]
    · rw [if_neg z, if_neg z]
  · rcases bC_mem he with a | ⟨a, b, -⟩
    · exact hs e a
    · rw [a]; exact (h2 b).2
theorem bIn_cg {wh : Bool} {q d : Nat} {P : Nat → Int32} (h : cgH cn cn2 st st2 Inv) (hP : Inv P) : ∀ {r c : Nat} {s : bS}, c + r ≤ 13 → (∀ e ∈ s.1, Inv e.1) → bIn cn st bd wh most q P d r c s = bIn cn2 st2 bd wh most q P d r c s ∧ ∀ e ∈ (bIn cn st bd wh most q P d r c s).1, Inv e.1
  | 0, _, _, _, hs => ⟨rfl, hs⟩
  | r + 1, c, s, hc, hs => by
    obtain ⟨e1, e2⟩ := bC_cg (bd := bd) (most := most) (q := q) (d := d) h hP (show c < 13 by omega) hs
    obtain ⟨f1, f2⟩ := bIn_cg h hP (r := r) (c := c + 1) (by omega) e2
    unfold bIn
    rw [← e1]
    by_cases z : bOv wh (bC cn st bd most q P d c s) = true
    · rw [if_pos z, if_pos z]; exact ⟨rfl, e2⟩
    · rw [if_neg z, if_neg z]; exact ⟨f1, f2⟩
theorem bGo_cg {wh : Bool} (h : cgH cn cn2 st st2 Inv) : ∀ {f q : Nat} {s : bS}, (∀ e ∈ s.1, Inv e.1) → bGo cn st bd wh most n0 f q s = bGo cn2 st2 bd wh most n0 f q s ∧ ∀ e ∈ (bGo cn st bd wh most n0 f q s).1, Inv e.1
  | 0, _, _, hs => ⟨rfl, hs⟩
  | f + 1, q, s, hs => by
    unfold bGo
    rcases hq : s.1[q]? with _ | e0
    · exact ⟨rfl, hs⟩
    · show (if bOv wh s = true then s else if e0.2.2.2 < n0 then bGo cn st bd wh most n0 f (q + 1) (bIn cn st bd wh most q e0.1 e0.2.2.2 13 0 s) else bGo cn st bd wh most n0 f (q + 1) s) = (if bOv wh s = true then s else if e0.2.2.2 < n0 then bGo cn2 st2 bd wh most n0 f (q + 1) (bIn cn2 st2 bd wh most q e0.1 e0.2.2.2 13 0 s) else bGo cn2 st2 bd wh most n0 f (q + 1) s) ∧ ∀ e ∈ (if bOv wh s = true then s else if e0.2.2.2 < n0 then bGo cn st bd wh most n0 f (q + 1) (bIn cn st bd wh most q e0.1 e0.2.2.2 13 0 s) else bGo cn st bd wh most n0 f (q + 1) s).1, Inv e.1
      by_cases z : bOv wh s = true
      · rw [if_pos z, if_pos z]; exact ⟨rfl, hs⟩
      · rw [if_neg z, if_neg z]
        by_cases y : e0.2.2.2 < n0
        · rw [if_pos y, if_pos y]
          obtain ⟨e1, e2⟩ := bIn_cg (wh := wh) (bd := bd) (most := most) (q := q) (d := e0.2.2.2) h (hs e0 (List.mem_of_getElem? hq)) (r := 13) (c := 0) (by omega) hs
          rw [← e1]
          exact bGo_cg h e2
        · rw [if_neg y, if_neg y]
          exact bGo_cg h hs
theorem bRs_cg {wh : Bool} {B : Nat → Int32} (h : cgH cn cn2 st st2 Inv) (hB : Inv B) : bRs cn st bd B wh most n0 = bRs cn2 st2 bd B wh most n0 ∧ ∀ e ∈ (bRs cn st bd B wh most n0).1, Inv e.1 := by
  unfold bRs
  refine bGo_cg h (fun e he => ?_)
  rw [List.mem_singleton.mp he]; exact hB
theorem aRch_cg {gd : (Nat → Int32) → Bool} (h : cgH cn cn2 st st2 Inv) : ∀ {k : Nat} {P : Nat → Int32}, Inv P → aRch cn st gd k P = aRch cn2 st2 gd k P
  | 0, _, _ => rfl
  | k + 1, P, hP => by
    rw [Bool.eq_iff_iff, rch_s, rch_s]
    refine or_congr Iff.rfl ⟨?_, ?_⟩
    · rintro ⟨c, a, b, d⟩
      obtain ⟨h1, h2⟩ := h P hP c a
      exact ⟨c, a, by rw [← h1]; exact b, by rw [← (h2 b).1, ← aRch_cg h (h2 b).2]; exact d⟩
    · rintro ⟨c, a, b, d⟩
      obtain ⟨h1, h2⟩ := h P hP c a
      have b' : cn P c = true := by rw [h1]; exact b
      exact ⟨c, a, b', by rw [aRch_cg h (h2 b').2, (h2 b').1]; exact d⟩
theorem aStk_cg {gd : (Nat → Int32) → Bool} {k : Nat} (h : cgH cn cn2 st st2 Inv) : ∀ {L : List eT}, (∀ e ∈ L, Inv e.1) → aStk cn st gd k L = aStk cn2 st2 gd k L
  | [], _ => rfl
  | e :: r, hL => by
    show (if aRch cn st gd k e.1 = true then 0 else 1) + aStk cn st gd k r = (if aRch cn2 st2 gd k e.1 = true then 0 else 1) + aStk cn2 st2 gd k r
    rw [aRch_cg h (hL e List.mem_cons_self), aStk_cg h (fun x hx => hL x (List.mem_cons_of_mem _ hx))]
end CG
/-- is it safe? -/
def aSafe (S0 : Nat → Int32) (ar0 : jSc) (m : Nat) (g : pG) (most n0 k : Nat) : Bool := !(aRs S0 ar0 m g true most n0).2.2 && (aRs S0 ar0 m g true most n0).2.1.isNone && decide (aStk (aCan ar0 m) (aSt S0 ar0) (aGd g) k (aRs S0 ar0 m g true most n0).1 = 0)
/-- what a set works, on the lines that are asked -/
def wAl (g : pG) (m : Nat) (A1 A2 : jSc) : Prop := rA A1 A2 ∧ ∀ l, l < 4 → bt (o_ak g.1 0) l = true → m_fr A2 m 2 (nI l) = m_fr A1 m 2 (nI l) ∧ m_fr A2 m 1 (nI l) = m_fr A1 m 1 (nI l) ∧ ∀ t, t < 8 → m_b1 A2 (nI t) (nI l) 0 m = m_b1 A1 (nI t) (nI l) 0 m
section SA
variable {S0 : Nat → Int32} {A1 A2 : jSc} {sc car : jSc} {mr : Nat → Nat} {pr n p m : Nat} {tx : Nat → Int32} {g : pG} {P : Nat → Int32} {c most n0 k : Nat}
def aIv (g : pG) (P : Nat → Int32) : Prop := pW P ∧ c38 P = P ∧ zW (o_ak g.1 0) P
theorem aCan_al (hE : cE pr n tx g p m S0 A1 sc car mr) (h : wAl g m A1 A2) (hP : aIv g P) (hc : c < 13) : aCan A1 m P c = aCan A2 m P c := by
  have f1 : fG A1 m := hE.1.2.2.2.2.2.2.1
  have f2 : fG A2 m := ⟨f1.1, fun i hi => by rw [h.1 104 (by decide)]; exact f1.2 i hi⟩
  unfold aCan
  by_cases c8 : c = 8
  · rw [if_pos c8, if_pos c8]
  · rw [if_neg c8, if_neg c8]
    by_cases g8 : 8 < c
    · rw [if_pos g8, if_pos g8]
    · rw [if_neg g8, if_neg g8]
      have e : m_ba A1 (nI c) P 0 m = m_ba A2 (nI c) P 0 m := by
        rw [Bool.eq_iff_iff, m_ba_b1 f1 m 0 (by omega), m_ba_b1 f2 m 0 (by omega)]
        constructor
        · rintro ⟨l, a, b, d⟩
          have ak : bt (o_ak g.1 0) l = true := by
            cases u : bt (o_ak g.1 0) l
            · rw [hP.2.2 l a u] at d; exact absurd (by decide) d
            · rfl
          exact ⟨l, a, by rw [(h.2 l a ak).2.2 c (by omega)]; exact b, d⟩
        · rintro ⟨l, a, b, d⟩
          have ak : bt (o_ak g.1 0) l = true := by
            cases u : bt (o_ak g.1 0) l
            · rw [hP.2.2 l a u] at d; exact absurd (by decide) d
            · rfl
          exact ⟨l, a, by rw [← (h.2 l a ak).2.2 c (by omega)]; exact b, d⟩
      rw [e]
theorem aSt_al (hE : cE pr n tx g p m S0 A1 sc car mr) (h : wAl g m A1 A2) (hP : aIv g P) (hc : c < 13) (hcan : aCan A1 m P c = true) : aSt S0 A1 P c = aSt S0 A2 P c ∧ aIv g (aSt S0 A1 P c) := by
  obtain ⟨⟨C, hC⟩, h38, hz⟩ := hP
  obtain ⟨q1, q2⟩ := aCan_89 hcan
  obtain ⟨v, v2, S9, S8, B1, B2, t1, t2, t3, t4⟩ := r_52al (S := S0) (A1 := va_up A1 13 P) (A2 := va_up A2 13 P) (x := -1) (C := C) (m := m) (gRf_f hE.1.1 (rowF_va (Q := P))) hE.1.2.2.1 hE.1.2.2.2.2.1 hE.1.2.2.2.2.2.1 hE.1.2.2.2.2.2.2.1.1 hE.2.1 hc (by rw [va_up_self]; exact hC) (by rw [va_up_self]; exact q1) (by rw [va_up_self]; exact q2) (rA_va h.1) (fun l hl hb => by rw [m_frv, m_frv]; exact (h.2 l hl hb).1) (fun l hl hb => by rw [m_frv, m_frv]; exact (h.2 l hl hb).2.1) (by rw [va_up_self]; exact hz)
  have e1 : aSt S0 A1 P c = c38 (B1 13) := by unfold aSt; rw [t1]
  have e2 : aSt S0 A2 P c = c38 (B2 13) := by unfold aSt; rw [t2]
  refine ⟨by rw [e1, e2, t3 13 (by decide)], pW_st hE.1 hE.2.1 ⟨C, hC⟩ hc hcan, c38_t, ?_⟩
  rw [e1]
  exact zW_c t4 (fun k _ hk => c38_k (by omega))
theorem aB0_al (hE : cE pr n tx g p m S0 A1 sc car mr) (h : wAl g m A1 A2) : aB0 S0 A1 = aB0 S0 A2 ∧ aIv g (aB0 S0 A1) := by
  obtain ⟨S9, S8, B1, B2, t1, t2, t3, t4⟩ := r_49al (S := S0) (A1 := A1) (A2 := A2) (m := m) hE.1.1 hE.1.2.2.1 hE.1.2.2.2.2.1 hE.1.2.2.2.2.2.1 hE.1.2.2.2.2.2.2.1.1 h.1 (fun l hl hb => (h.2 l hl hb).1)
  have e1 : aB0 S0 A1 = c38 (B1 13) := by unfold aB0; rw [t1]
  have e2 : aB0 S0 A2 = c38 (B2 13) := by unfold aB0; rw [t2]
  refine ⟨by rw [e1, e2, t3 13 (by decide)], pW_B0 hE.1, c38_B, ?_⟩
  rw [e1]
  exact zW_c t4 (fun k _ hk => c38_k (by omega))
theorem safe_al (hE : cE pr n tx g p m S0 A1 sc car mr) (h : wAl g m A1 A2) : aSafe S0 A1 m g most n0 k = aSafe S0 A2 m g most n0 k := by
  have hc : cgH (aCan A1 m) (aCan A2 m) (aSt S0 A1) (aSt S0 A2) (aIv g) := fun P hP c hc => ⟨aCan_al hE h hP hc, fun hcan => aSt_al hE h hP hc hcan⟩
  obtain ⟨b1, b2⟩ := aB0_al hE h
  obtain ⟨e1, e2⟩ := bRs_cg (bd := aBad g) (wh := true) (most := most) (n0 := n0) hc b2
  have e3 : aRs S0 A1 m g true most n0 = aRs S0 A2 m g true most n0 := by
    unfold aRs
    rw [e1, b1]
  have e4 : aStk (aCan A1 m) (aSt S0 A1) (aGd g) k (aRs S0 A1 m g true most n0).1 = aStk (aCan A2 m) (aSt S0 A2) (aGd g) k (aRs S0 A1 m g true most n0).1 := aStk_cg hc e2
  unfold aSafe
  rw [← e3, e4]
/-- a row that spoils: then the set is not safe -/
theorem bad_row (hE : cE pr n tx g p m S0 A1 sc car mr) (h1 : 1 ≤ most) (hm : most ≤ 600) {cs : List Nat} (hl : cs.length ≤ n0) (hc : ∀ c ∈ cs, c < 13) (hb : aBad g (aRow S0 A1 m cs (aB0 S0 A1)) = true) : aSafe S0 A1 m g most n0 k = false := by
  cases sp : (aRs S0 A1 m g true most n0).2.2
  · obtain ⟨m1, m2⟩ := bRs_met (cn := aCan A1 m) (st := aSt S0 A1) (bd := aBad g) (B := aB0 S0 A1) (n0 := n0) (fun Q c => c38_t) c38_B h1 hm sp
    have go : ∀ (r pre : List Nat) (P : Nat → Int32), (∀ c ∈ r, c < 13) → pre.length + r.length ≤ n0 → (∃ x ∈ (aRs S0 A1 m g true most n0).1, x.1 = P ∧ x.2.2.2 ≤ pre.length) → ∃ x ∈ (aRs S0 A1 m g true most n0).1, x.1 = aRow S0 A1 m r P := by
      intro r
      induction r with
      | nil => intro pre P _ _ ⟨x, a, b, _⟩; exact ⟨x, a, b⟩
      | cons c r ih =>
        intro pre P hc hlen ⟨x, a, b, d⟩
        simp only [List.length_cons] at hlen
        rw [aRow_cons]
        refine ih (pre ++ [c]) _ (fun y hy => hc y (List.mem_cons_of_mem _ hy)) (by simp only [List.length_append, List.length_cons, List.length_nil]; omega) ?_
        by_cases z : aCan A1 m P c = true
        · rw [aAg_y z]
          obtain ⟨y, a2, b2, d2⟩ := m2 x a (by omega) c (hc c List.mem_cons_self) (by rw [b]; exact z)
          exact ⟨y, a2, by rw [b2, b], by simp only [List.length_append, List.length_cons, List.length_nil]; omega⟩
        · rw [aAg_n z]
          exact ⟨x, a, b, by simp only [List.length_append]; omega⟩
    obtain ⟨x, a, b⟩ := go cs [] (aB0 S0 A1) hc (by simp only [List.length_nil]; omega) m1
    have fb : bFb (aBad g) (aRs S0 A1 m g true most n0) := bRs_fb
    unfold aSafe
    rcases ho : (aRs S0 A1 m g true most n0).2.1 with _ | i
    · have := fb.1 ho x a
      rw [b, hb] at this
      cases this
    · rw [Option.isNone_some, Bool.and_false, Bool.false_and]
  · unfold aSafe
    rw [sp, Bool.not_true, Bool.false_and, Bool.false_and]
end SA
