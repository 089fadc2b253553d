/-! WHAT IS KEPT OF A SEARCH, and taken again. -/
/-- behind a search: its entries, and the pages B met beyond its rows -/
def kPS (cn : (Nat → Int32) → Nat → Bool) (st : (Nat → Int32) → Nat → Nat → Int32) (wh : Bool) (s : bS) (B : List (Nat → Int32)) (sc car : jSc) : Prop := hM (s.1.map (fun e => e.1) ++ B) sc car ∧ s.1.length ≤ 600 ∧ (∀ i e, s.1[i]? = some e → car 789 i = e.2.1 ∧ car 790 i = e.2.2.1) ∧ (∀ i P, (s.1.map (fun e => e.1) ++ B)[i]? = some P → pW P ∧ (car 792 i = 0 ∨ (car 792 i = 1 ∧ ∀ c, c < 13 → nxE cn st (s.1.map (fun e => e.1) ++ B) i P car c))) ∧ sc 773 13 = fi1 s.2.1 ∧ sc 773 1 = (if s.2.2 = true then 1 else 0) ∧ (sc 773 15 = if wh = true then 1 else 0) ∧ sc 773 0 = nI s.1.length
theorem kPS_of {cn : (Nat → Int32) → Nat → Bool} {st : (Nat → Int32) → Nat → Nat → Int32} {most : Nat} {wh : Bool} {s : bS} {sc car : jSc} (h : cBs cn st most wh s sc car) (h0 : sc 773 0 = nI s.1.length) : kPS cn st wh s [] sc car := by
  obtain ⟨h1, h2, h3, h4, h5, h6, h7, h8, h9⟩ := h
  refine ⟨by rw [List.append_nil]; exact h1, by omega, fun i e he => ⟨(h4 i e he).1, (h4 i e he).2.1⟩, fun i P hP => ?_, h5, h7, h9, h0⟩
  rw [List.append_nil] at hP ⊢
  rw [List.getElem?_map] at hP
  rcases he : s.1[i]? with _ | e
  · rw [he] at hP; cases hP
  · rw [he] at hP
    cases hP
    exact (h4 i e he).2.2
theorem bOk_le {n0 k : Nat} {s : bS} (h : bOk n0 s) (hk : n0 ≤ k) : bOk k s := ⟨fun i e he => ⟨Nat.le_trans (h.1 i e he).1 hk, (h.1 i e he).2⟩, h.2⟩
/-- the search that is kept is the one asked for -/
def cKy (S0 : Nat → Int32) (ar0 : jSc) (m : Nat) (g : pG) (sc car : jSc) : Prop := (∃ L, hM L sc car) ∧ (sc 773 16 = -1 ∨ ∃ wh most n0 B, 1 ≤ most ∧ most ≤ 600 ∧ n0 ≤ 8 ∧ sc 773 16 = nI (n0 * 1024 + most) ∧ kPS (aCan ar0 m) (aSt S0 ar0) wh (aRs S0 ar0 m g wh most n0) B sc car)
section KY
variable {S0 : Nat → Int32} {ar0 : jSc} {sc car : jSc} {mr : Nat → Nat} {al : jAl} {pr n p m : Nat} {tx : Nat → Int32} {g : pG} {most nn0 : Nat}
theorem kPS_an {wh : Bool} {B : List (Nat → Int32)} (hn : nn0 ≤ 8) (h : kPS (aCan ar0 m) (aSt S0 ar0) wh (aRs S0 ar0 m g wh most nn0) B sc car) : cAn (aRs S0 ar0 m g false most nn0) sc car := by
  obtain ⟨h1, h2, h3, h4, h5, h6, h7, h8⟩ := h
  have ok : bOk 8 (aRs S0 ar0 m g false most nn0) := bOk_le bRs_ok hn
  rcases wh with _ | _
  · exact ⟨h3, ok, h2, h5, fun _ => h6⟩
  · have rl : bRl (aRs S0 ar0 m g false most nn0) (aRs S0 ar0 m g true most nn0) := bRs_rl
    rcases rl with ⟨a, b⟩ | ⟨i, a1, a2, a3, t, a4⟩
    · rw [a] at ok ⊢
      exact ⟨h3, ok, h2, h5, fun _ => h6⟩
    · refine ⟨fun i e he => h3 i e ?_, ok, ?_, by rw [h5, a1, a2], fun z => by rw [a1] at z; cases z⟩
      · rw [a4, List.getElem?_append_left (List.getElem?_eq_some_iff.mp he).1]
        exact he
      · rw [a4, List.length_append] at h2
        omega
theorem c_goes {w : Bool} (hE : cE pr n tx g p m S0 ar0 sc car mr) (hK : cKy S0 ar0 m g sc car) (h1 : 1 ≤ most) (h6 : most ≤ 600) (hn : nn0 ≤ 8) :
    ∃ sc2 car2 wh B, xF_285 (nI nn0) (nI most) (if w = true then 1 else 0) sc mr car al = some (sc2, mr, car2, al) ∧ (w = true → wh = true) ∧ kPS (aCan ar0 m) (aSt S0 ar0) wh (aRs S0 ar0 m g wh most nn0) B sc2 car2 ∧ sc2 773 16 = nI (nn0 * 1024 + most) ∧ uY sc car sc2 car2 := by
  have ek : nI nn0 * (1024 : Int32) + nI most = nI (nn0 * 1024 + most) := by rw [show (1024 : Int32) = nI 1024 from rfl, nI_mul, nI_add]
  have new : ∃ sc2 car2 wh B, xF_285_30 (nI nn0) (nI most) (if w = true then 1 else 0) (nI (nn0 * 1024 + most)) sc mr car al = some (sc2, mr, car2, al) ∧ (w = true → wh = true) ∧ kPS (aCan ar0 m) (aSt S0 ar0) wh (aRs S0 ar0 m g wh most nn0) B sc2 car2 ∧ sc2 773 16 = nI (nn0 * 1024 + most) ∧ uY sc car sc2 car2 := by
    obtain ⟨L, hL⟩ := hK.1
    obtain ⟨sc2, car2, e1, e2, e3, e4, e5⟩ := c_30 (al := al) (wh := w) (key := nI (nn0 * 1024 + most)) hE hL h1 h6 hn
    exact ⟨sc2, car2, w, [], e1, fun h => h, kPS_of e2 e3, e4, e5⟩
  unfold xF_285
  rw [ek]
  by_cases z : nI (nn0 * 1024 + most) = sc 773 16
  · rw [if_pos z]
    rcases hK.2 with y | ⟨wh, most', n0', B, a1, a2, a3, a4, a5⟩
    · rw [y] at z
      exact absurd z (nI_nm (by omega))
    · rw [a4] at z
      have q : nn0 * 1024 + most = n0' * 1024 + most' := (nI_eq (by omega) (by omega)).mp z
      have q1 : nn0 = n0' := by omega
      have q2 : most = most' := by omega
      subst q1 q2
      rw [a5.2.2.2.2.2.2.1]
      rcases wh with _ | _
      · rw [if_pos (show (if false = true then (1 : Int32) else 0) = 0 by decide)]
        rcases w with _ | _
        · rw [if_pos (show (if false = true then (1 : Int32) else 0) = 0 by decide)]
          exact ⟨sc, car, false, B, rfl, fun h => h, a5, a4, fun _ _ _ _ _ => rfl, fun _ _ _ => rfl, hE.2.2⟩
        · rw [if_neg (show ¬ (if true = true then (1 : Int32) else 0) = 0 by decide)]
          exact new
      · rw [if_neg (show ¬ (if true = true then (1 : Int32) else 0) = 0 by decide)]
        exact ⟨sc, car, true, B, rfl, fun _ => rfl, a5, a4, fun _ _ _ _ _ => rfl, fun _ _ _ => rfl, hE.2.2⟩
  · rw [if_neg z]
    exact new
theorem cKy_of {wh : Bool} {B : List (Nat → Int32)} (h1 : 1 ≤ most) (h6 : most ≤ 600) (hn : nn0 ≤ 8) (h : kPS (aCan ar0 m) (aSt S0 ar0) wh (aRs S0 ar0 m g wh most nn0) B sc car) (hk : sc 773 16 = nI (nn0 * 1024 + most)) : cKy S0 ar0 m g sc car := ⟨⟨_, h.1⟩, Or.inr ⟨wh, most, nn0, B, h1, h6, hn, hk, h⟩⟩
theorem c_rows (h1 : 1 ≤ most) (h6 : most ≤ 600) (hn : nn0 ≤ 8) : xF_357 (nI nn0) (nI most) sc mr car al = some (sc, mr, car, al) := by
  unfold xF_357
  rw [if_neg (nI_pos (by omega)), if_neg (show ¬ (8 : Int32) < nI nn0 from nI_nlt (a := 8) (by omega) (by decide)), if_neg (show ¬ nI most < (1 : Int32) from nI_nlt (b := 1) (by omega) (by omega))]
  first
  | rw [if_neg (show ¬ (600 : Int32) < nI most from nI_nlt (a := 600) (by omega) (by decide))]
  | rw [if_pos (show nI most ≤ (600 : Int32) from nI_le (b := 600) (by omega) (by decide))]
theorem c_worst (hE : cE pr n tx g p m S0 ar0 sc car mr) (hK : cKy S0 ar0 m g sc car) (h1 : 1 ≤ most) (h6 : most ≤ 600) (hn : nn0 ≤ 8) :
    ∃ sc2 car2, xF_333 (nI nn0) (nI most) sc mr car al = some (aDp (aRs S0 ar0 m g false most nn0), sc2, mr, car2, al) ∧ cKy S0 ar0 m g sc2 car2 ∧ uY sc car sc2 car2 := by
  obtain ⟨sc2, car2, wh, B, e1, -, e3, e4, e5⟩ := c_goes (al := al) (w := false) hE hK h1 h6 hn
  have e1 : xF_285 (nI nn0) (nI most) 0 sc mr car al = _ := e1
  unfold xF_333
  rw [c_rows h1 h6 hn, ob4, e1, ob4, c_ans (kPS_an hn e3), ob5]
  exact ⟨sc2, car2, rfl, cKy_of h1 h6 hn e3 e4, e5⟩
theorem c_stp {k : Int32} (hE : cE pr n tx g p m S0 ar0 sc car mr) (hK : cKy S0 ar0 m g sc car) (h1 : 1 ≤ most) (h6 : most ≤ 600) (hn : nn0 ≤ 8) :
    ∃ sc2 car2, xF_334 (nI nn0) (nI most) k sc mr car al = some (aCd (aRs S0 ar0 m g false most nn0) k, sc2, mr, car2, al) ∧ cKy S0 ar0 m g sc2 car2 ∧ uY sc car sc2 car2 := by
  obtain ⟨sc2, car2, wh, B, e1, -, e3, e4, e5⟩ := c_goes (al := al) (w := false) hE hK h1 h6 hn
  have e1 : xF_285 (nI nn0) (nI most) 0 sc mr car al = _ := e1
  unfold xF_334
  rw [c_rows h1 h6 hn, ob4, e1, ob4, c_cod (kPS_an hn e3), ob5]
  exact ⟨sc2, car2, rfl, cKy_of h1 h6 hn e3 e4, e5⟩
theorem c_pgs (hE : cE pr n tx g p m S0 ar0 sc car mr) (hK : cKy S0 ar0 m g sc car) (h1 : 1 ≤ most) (h6 : most ≤ 600) (hn : nn0 ≤ 8) :
    ∃ sc2 car2, xF_335 (nI nn0) (nI most) sc mr car al = some (if (aRs S0 ar0 m g true most nn0).2.2 = true then -2 else nI (aRs S0 ar0 m g true most nn0).1.length, sc2, mr, car2, al) ∧ cKy S0 ar0 m g sc2 car2 ∧ uY sc car sc2 car2 := by
  obtain ⟨sc2, car2, wh, B, e1, e2, e3, e4, e5⟩ := c_goes (al := al) (w := true) hE hK h1 h6 hn
  have e2 := e2 rfl
  subst e2
  have e1 : xF_285 (nI nn0) (nI most) 1 sc mr car al = _ := e1
  unfold xF_335
  rw [c_rows h1 h6 hn, ob4, e1, ob4, e3.2.2.2.2.2.1, e3.2.2.2.2.2.2.2]
  refine ⟨sc2, car2, ?_, cKy_of h1 h6 hn e3 e4, e5⟩
  rcases (aRs S0 ar0 m g true most nn0).2.2 with _ | _ <;> rfl
theorem cKy_c {sc2 car2 : jSc} (h : cKy S0 ar0 m g sc car) (e1 : sc2 773 = sc 773) (e2 : sc2 774 = sc 774) (e3 : ∀ b, (775 ≤ b ∧ b ≤ 777) ∨ (789 ≤ b ∧ b ≤ 792) → car2 b = car b) : cKy S0 ar0 m g sc2 car2 := by
  obtain ⟨⟨L, hL⟩, h2⟩ := h
  refine ⟨⟨L, hM_c hL (by rw [e2]) (fun b u v => e3 b (by omega))⟩, ?_⟩
  rw [e1]
  rcases h2 with z | ⟨wh, most, n0, B, a1, a2, a3, a4, a5⟩
  · exact Or.inl z
  · refine Or.inr ⟨wh, most, n0, B, a1, a2, a3, a4, ?_⟩
    obtain ⟨b1, b2, b3, b4, b5, b6, b7, b8⟩ := a5
    refine ⟨hM_c b1 (by rw [e2]) (fun b u v => e3 b (by omega)), b2, ?_, ?_, by rw [e1]; exact b5, by rw [e1]; exact b6, by rw [e1]; exact b7, by rw [e1]; exact b8⟩
    · rw [e3 789 (by omega), e3 790 (by omega)]; exact b3
    · intro i P hP
      obtain ⟨c1, c2⟩ := b4 i P hP
      rw [e3 792 (by omega)]
      refine ⟨c1, ?_⟩
      rcases c2 with z | ⟨z, w⟩
      · exact Or.inl z
      · exact Or.inr ⟨z, fun c hc => nxE_c (w c hc) (by rw [e3 791 (by omega)]) (fun _ _ x => x)⟩
end KY
