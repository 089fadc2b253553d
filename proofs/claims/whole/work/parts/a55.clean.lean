/-! IS A SEARCH CLEAN? (ClickOrders' isClean; a row that spoilt is tried first) -/
section CK
variable {cn : (Nat → Int32) → Nat → Bool} {st : (Nat → Int32) → Nat → Nat → Int32} {bd : (Nat → Int32) → Bool} {wh : Bool} {most n0 : Nat}
def bCk (s : bS) : Prop := ∀ e ∈ s.1, 1 ≤ e.2.2.2 → ∃ c, c < 13 ∧ e.2.2.1 = nI c
theorem bC_ck {s : bS} {q d c : Nat} {P : Nat → Int32} (hc : c < 13) (h : bCk s) : bCk (bC cn st bd most q P d c s) := by
  unfold bC
  split
  · split
    · exact h
    · split
      · exact h
      · intro e he h1
        rcases List.mem_append.mp he with he | he
        · exact h e he h1
        · rw [List.mem_singleton.mp he]; exact ⟨c, hc, rfl⟩
  · exact h
theorem bIn_ck {q d : Nat} {P : Nat → Int32} : ∀ {r c : Nat} {s : bS}, c + r ≤ 13 → bCk s → bCk (bIn cn st bd wh most q P d r c s)
  | 0, _, _, _, h => h
  | r + 1, c, s, hc, h => by
    unfold bIn
    split
    · exact bC_ck (by omega) h
    · exact bIn_ck (by omega) (bC_ck (by omega) h)
theorem bGo_ck : ∀ {f q : Nat} {s : bS}, bCk s → bCk (bGo cn st bd wh most n0 f q s)
  | 0, _, _, h => h
  | f + 1, q, s, h => by
    unfold bGo
    split
    · exact h
    · split
      · exact h
      · split
        · exact bGo_ck (bIn_ck (by omega) h)
        · exact bGo_ck h
theorem bRs_ck {B : Nat → Int32} : bCk (bRs cn st bd B wh most n0) := by
  unfold bRs
  refine bGo_ck (fun e he h1 => ?_)
  rw [List.mem_singleton.mp he] at h1
  exact absurd h1 (show ¬ 1 ≤ 0 by decide)
theorem anc_d {s : bS} (h : bOk n0 s) (h6 : s.1.length ≤ 600) {kk : Nat} : ∀ (t i : Nat) (f : eT), s.1[i]? = some f → f.2.2.2 = kk + 1 + t → ∃ f2, s.1[bAnc s.1 t i]? = some f2 ∧ f2.2.2.2 = kk + 1
  | 0, i, f, hf, hd => ⟨f, hf, hd⟩
  | t + 1, i, f, hf, hd => by
    obtain ⟨-, h1⟩ := h.1 i f hf
    rcases h1 with ⟨-, a⟩ | ⟨j, f', a, b, c, d⟩
    · omega
    · have jl := (List.getElem?_eq_some_iff.mp c).1
      have ep : bPar s.1 i = j := by
        unfold bPar
        rw [hf]
        show iN f.2.1 = j
        rw [b, iN_nI (by omega)]
      show ∃ f2, s.1[bAnc s.1 t (bPar s.1 i)]? = some f2 ∧ _
      rw [ep]
      exact anc_d h h6 t j f' c (by omega)
theorem aCd_c {s : bS} (h : bOk n0 s) (h6 : s.1.length ≤ 600) (hc : bCk s) {i kk : Nat} {e : eT} (hi : s.2.1 = some i) (he : s.1[i]? = some e) (hk : kk < e.2.2.2) (hn : n0 ≤ 8) : ∃ c, c < 13 ∧ aCd s (nI kk) = nI c := by
  have d8 := (h.1 i e he).1
  obtain ⟨f2, a, b⟩ := anc_d h h6 (kk := kk) (e.2.2.2 - 1 - kk) i e he (by omega)
  obtain ⟨c, c1, c2⟩ := hc f2 (List.mem_of_getElem? a) (by omega)
  refine ⟨c, c1, ?_⟩
  have eu : aCd s (nI kk) = if nI kk < 0 ∨ nI e.2.2.2 ≤ nI kk then -1 else bCd s.1 (bAnc s.1 (e.2.2.2 - 1 - iN (nI kk)) i) := by
    unfold aCd
    rw [hi]
    show (match s.1[i]? with | some e => _ | none => _) = _
    rw [he]
  rw [eu, if_neg (fun z => z.elim (nI_pos (by omega)) (nI_ge (by omega) (by omega))), iN_nI (by omega)]
  unfold bCd
  rw [a]
  exact c2
end CK
/-- the row that spoilt, as it is kept -/
def bRw (n0 : Nat) (sc car : jSc) : Prop := sc 773 18 = -1 ∨ ∃ cs : List Nat, cs.length ≤ n0 ∧ sc 773 18 = nI cs.length ∧ rl (car 795) 0 cs ∧ ∀ c ∈ cs, c < 13
/-- what is left -/
def uQz (sc car sc2 car2 : jSc) : Prop := (∀ a k, ¬ (a = 757 ∧ 3 ≤ k ∧ k ≤ 9) → a ≠ 773 → ¬ (a = 774 ∧ (k = 0 ∨ k = 4 ∨ k = 5)) → sc2 a k = sc a k) ∧ (∀ b, b ≠ 758 → ¬ (775 ≤ b ∧ b ≤ 795) → car2 b = car b) ∧ sc2 757 5 = 0
theorem uQz_tr {a b a2 b2 a3 b3 : jSc} (h : uQz a b a2 b2) (h2 : uQz a2 b2 a3 b3) : uQz a b a3 b3 := ⟨fun x k u v w => (h2.1 x k u v w).trans (h.1 x k u v w), fun x u v => (h2.2.1 x u v).trans (h.2.1 x u v), h2.2.2⟩
theorem uQz_Y {a b a2 b2 : jSc} (h : uY a b a2 b2) : uQz a b a2 b2 := ⟨fun x k u v w => h.1 x k u (fun z => v z.1) w, fun x u v => h.2.1 x u (by omega), h.2.2⟩
theorem uQz_H {a b a2 b2 : jSc} (h : cH 780 a b a2 b2) : uQz a b a2 b2 := ⟨fun x k u _ _ => h.1 x k u, fun x u v => h.2.1 x u (by omega), h.2.2⟩
section CL2
variable {S0 : Nat → Int32} {ar0 : jSc} {mr : Nat → Nat} {al : jAl} {pr n p m : Nat} {tx : Nat → Int32} {g : pG} {most n0 : Nat}
theorem cE_uQz {sc car sc2 car2 : jSc} (h : cE pr n tx g p m S0 ar0 sc car mr) (k : uQz sc car sc2 car2) : cE pr n tx g p m S0 ar0 sc2 car2 mr := cE_lo h (fun a ha => funext fun j => k.1 a j (by omega) (by omega) (by omega)) (fun q hq => k.2.1 q (by omega) (by omega)) (k.2.2.trans h.2.2.symm)
/-- spoilsAgain -/
theorem c_spa : ∀ (cs : List Nat) (q nn : Nat) (sc car : jSc) (P : Nat → Int32), cE pr n tx g p m S0 ar0 sc car mr → (∀ c ∈ cs, c < 13) → q + cs.length ≤ 8 → cs.length < nn → sc 773 18 = nI (q + cs.length) → rl (car 795) q cs → pgR P (car 781) → ∃ sc2 car2, xF_290_13 nn (nI q) sc mr car al = some (if aBad g (aRow S0 ar0 m cs P) = true then 1 else 0, sc2, mr, car2, al) ∧ cH 780 sc car sc2 car2 := by
  intro cs
  induction cs with
  | nil =>
    intro q nn sc car P hE _ h1 h2 h3 _ hR
    obtain ⟨nn, rfl⟩ : ∃ i, nn = i + 1 := ⟨nn - 1, by simp at h2; omega⟩
    simp only [List.length_nil, Nat.add_zero] at h1 h3
    obtain ⟨sc2, car2, e1, -, e3⟩ := cE_bad (al := al) (pp := 780) hE (by decide) hR
    rw [xF_290_13]
    rw [h3, if_pos ((nI_leI (by omega) (by omega)).mpr (Nat.le_refl _)), e1, ob5]
    refine ⟨sc2, car2, ?_, e3⟩
    by_cases z : aBad g P = true
    · rw [if_pos z, if_pos (Or.inr rfl), show aRow S0 ar0 m [] P = P from rfl, if_pos z]
    · rw [if_neg z, if_pos (Or.inl rfl), show aRow S0 ar0 m [] P = P from rfl, if_neg z]
  | cons c r ih =>
    intro q nn sc car P hE hc h1 h2 h3 hr hR
    simp only [List.length_cons] at h1 h2 h3
    obtain ⟨nn, rfl⟩ : ∃ i, nn = i + 1 := ⟨nn - 1, by omega⟩
    have c13 := hc c List.mem_cons_self
    have bq : iB (nI q) 8 := iB_nI (by omega) (by decide)
    have h3' : sc 773 18 = nI (q + 1 + r.length) := by rw [h3, show q + (r.length + 1) = q + 1 + r.length by omega]
    rw [xF_290_13]
    rw [h3, if_neg (nI_ge (by omega) (by omega)), if_pos bq, iN_nI (by omega), hr.1, cE_may (pp := 780) hE hR c13, ob5, nI_1, aRow_cons]
    by_cases y : aCan ar0 m P c = true
    · obtain ⟨v, sc2, car2, e1, e2, e3⟩ := cE_step (al := al) (pp := 780) hE (by decide) hR c13 y
      rw [if_pos y, if_neg (by decide), if_pos bq, hr.1, e1, ob5, aAg_y y]
      obtain ⟨sc8, car8, f1, f2⟩ := ih (q + 1) nn sc2 car2 _ (cE_H (by decide) hE e3) (fun x hx => hc x (List.mem_cons_of_mem _ hx)) (by omega) (by omega) ((e3.1 773 18 (by decide)).trans h3') (by rw [e3.2.1 795 (by decide) (by decide)]; exact hr.2) e2
      exact ⟨sc8, car8, f1, cH_tr e3 f2⟩
    · rw [if_neg y, if_pos rfl, aAg_n y]
      exact ih (q + 1) nn sc car _ hE (fun x hx => hc x (List.mem_cons_of_mem _ hx)) (by omega) (by omega) h3' hr.2 hR
/-- isClean, past the row that spoilt -/
theorem c_cl16 {sc car : jSc} {k : Nat} (hE : cE pr n tx g p m S0 ar0 sc car mr) (hL : ∃ L, hM L sc car) (hW : bRw n0 sc car) (h1 : 1 ≤ most) (h6 : most ≤ 600) (hn : n0 ≤ 8) : ∃ b sc2 car2, xF_289_16 (nI n0) (nI most) sc mr car al = some (b, sc2, mr, car2, al) ∧ bRw n0 sc2 car2 ∧ uQz sc car sc2 car2 ∧ (∃ L, hM L sc2 car2) ∧ ((b = 0 ∧ aSafe S0 ar0 m g most n0 k = false) ∨ (b = 1 ∧ (aRs S0 ar0 m g true most n0).2.2 = false ∧ (aRs S0 ar0 m g true most n0).2.1 = none ∧ ∃ B wh, kPS (aCan ar0 m) (aSt S0 ar0) wh (aRs S0 ar0 m g true most n0) B sc2 car2)) := by
  have hK : cKy S0 ar0 m g (j_u2 sc 773 16 (-1)) car := by
    obtain ⟨L, hL⟩ := hL
    exact ⟨⟨L, by
      have : ∀ L, hM L sc car → hM L (j_u2 sc 773 16 (-1)) car := fun L h => by
        have e : j_u2 sc 773 16 (-1) 774 = sc 774 := j_u2_row _ _ _ _ (by decide)
        exact hM_c h (by rw [e]) (fun _ _ _ => rfl)
      exact this L hL⟩, Or.inl u2_eq⟩
  have hE1 : cE pr n tx g p m S0 ar0 (j_u2 sc 773 16 (-1)) car mr := cE_lo hE (fun a ha => j_u2_row _ _ _ _ (by omega)) (fun _ _ => rfl) (u2_na (by decide))
  obtain ⟨sc2, car2, wh, B, e1, -, e3, e4, e5⟩ := c_goes (al := al) (w := false) hE1 hK h1 h6 hn
  have e1 : xF_285 (nI n0) (nI most) 0 (j_u2 sc 773 16 (-1)) mr car al = some (sc2, mr, car2, al) := e1
  have an := kPS_an hn e3
  have Y2 : uQz sc car sc2 car2 := by
    have := uQz_Y e5
    exact ⟨fun a k u v w => (this.1 a k u v w).trans (u2_na v), this.2.1, this.2.2⟩
  have w18 : sc2 773 18 = sc 773 18 := (e5.1 773 18 (by omega) (by omega) (by omega)).trans (u2_nk (by decide))
  have r795 : car2 795 = car 795 := e5.2.1 795 (by decide) (by omega)
  have W2 : bRw n0 sc2 car2 := by
    unfold bRw
    rw [w18, r795]; exact hW
  have hL2 : ∃ L, hM L sc2 car2 := ⟨_, e3.1⟩
  have rr := bRs_rl (cn := aCan ar0 m) (st := aSt S0 ar0) (bd := aBad g) (most := most) (n0 := n0) (B := aB0 S0 ar0)
  unfold xF_289_16 xF_283
  rw [ob4, e1, ob4, an.2.2.2.1]
  rcases ho : (aRs S0 ar0 m g false most n0).2.1 with _ | i
  · rw [if_pos (show fi1 none < (0 : Int32) by decide), if_neg (show ¬ (0 : Int32) ≤ fi1 none by decide)]
    have eq : aRs S0 ar0 m g false most n0 = aRs S0 ar0 m g true most n0 ∧ (aRs S0 ar0 m g true most n0).2.1 = none := by
      rcases rr with r | ⟨i, r, -⟩
      · exact r
      · have : (aRs S0 ar0 m g false most n0).2.1 = some i := r
        rw [ho] at this; cases this
    rw [an.2.2.2.2 ho, eq.1]
    have ew : aRs S0 ar0 m g wh most n0 = aRs S0 ar0 m g true most n0 := by
      cases wh
      · exact eq.1
      · rfl
    rw [ew] at e3
    rcases sp : (aRs S0 ar0 m g true most n0).2.2 with _ | _
    · rw [if_pos (show (if false = true then (1 : Int32) else 0) = 0 by decide)]
      exact ⟨1, sc2, car2, rfl, W2, Y2, hL2, Or.inr ⟨rfl, rfl, eq.2, B, wh, e3⟩⟩
    · rw [if_neg (show ¬ (if true = true then (1 : Int32) else 0) = 0 by decide)]
      refine ⟨0, sc2, car2, rfl, W2, Y2, hL2, Or.inl ⟨rfl, ?_⟩⟩
      unfold aSafe
      rw [sp, Bool.not_true, Bool.false_and, Bool.false_and]
  · have un : aSafe S0 ar0 m g most n0 k = false := by
      have : (aRs S0 ar0 m g true most n0).2.1.isNone = false := by
        rcases rr with ⟨r1, r2⟩ | ⟨i', r1, r2, -⟩
        · have : aRs S0 ar0 m g false most n0 = aRs S0 ar0 m g true most n0 := r1
          rw [← this, ho]; rfl
        · have : (aRs S0 ar0 m g true most n0).2.1 = some i' := r2
          rw [this]; rfl
      unfold aSafe
      rw [this, Bool.and_false, Bool.false_and]
    have ok : bOk n0 (aRs S0 ar0 m g false most n0) := bRs_ok
    have ck : bCk (aRs S0 ar0 m g false most n0) := bRs_ck
    have l6 := an.2.2.1
    have il := ok.2 i ho
    obtain ⟨e, he⟩ : ∃ e, (aRs S0 ar0 m g false most n0).1[i]? = some e := ⟨_, List.getElem?_eq_getElem il⟩
    have d8 := (ok.1 i e he).1
    rw [if_neg (show ¬ fi1 (some i) < (0 : Int32) from nI_pos (n := i) (by omega))]
    have dep := c_dep (mr := mr) (al := al) an e.2.2.2 i oF 0 0 e he rfl (by omega) (by unfold oF; omega)
    have dep : xF_292 (fi1 (some i)) sc2 mr car2 al = some ((0 : Int32) + nI e.2.2.2, sc2, mr, car2, al) := dep
    rw [dep, ob5, Int32.zero_add]
    have an3 : ∀ c3 : jSc, (∀ b, b ≠ 795 → c3 b = car2 b) → cAn (aRs S0 ar0 m g false most n0) (j_u2 sc2 773 18 (nI e.2.2.2)) c3 := fun c3 h => ⟨fun j f hf => by rw [h 789 (by decide), h 790 (by decide)]; exact an.1 j f hf, an.2.1, l6, by rw [u2_nk (by decide)]; exact an.2.2.2.1, fun hh => by rw [u2_nk (by decide)]; exact an.2.2.2.2 hh⟩
    have go : ∀ (r q nn : Nat) (cs : List Nat) (c3 : jSc), q + r = e.2.2.2 → r < nn → cs.length = q → (∀ c ∈ cs, c < 13) → rl (c3 795) 0 cs → (∀ b, b ≠ 795 → c3 b = car2 b) → ∃ c9 cs9, xF_289_48 nn (nI q) (j_u2 sc2 773 18 (nI e.2.2.2)) mr c3 al = some (0, j_u2 sc2 773 18 (nI e.2.2.2), mr, c9, al) ∧ (cs9 : List Nat).length = e.2.2.2 ∧ (∀ c ∈ cs9, c < 13) ∧ rl (c9 795) 0 cs9 ∧ ∀ b, b ≠ 795 → c9 b = car2 b := by
      intro r
      induction r with
      | zero =>
        intro q nn cs c3 a1 a2 a3 a4 a5 a6
        obtain ⟨nn, rfl⟩ : ∃ j, nn = j + 1 := ⟨nn - 1, by omega⟩
        rw [xF_289_48]
        rw [u2_eq, if_pos (nI_le (by omega) (by omega)), u2_nk (by decide), an.2.2.2.1, ho, if_pos (show (0 : Int32) ≤ fi1 (some i) from nI_le (a := 0) (b := i) (by omega) (by omega))]
        exact ⟨c3, cs, rfl, by omega, a4, a5, a6⟩
      | succ r ih =>
        intro q nn cs c3 a1 a2 a3 a4 a5 a6
        obtain ⟨nn, rfl⟩ : ∃ j, nn = j + 1 := ⟨nn - 1, by omega⟩
        obtain ⟨c, c1, c2⟩ := aCd_c ok l6 ck ho he (show q < e.2.2.2 by omega) hn
        rw [xF_289_48]
        rw [u2_eq, if_neg (nI_ge (by omega) (by omega)), c_cod (an3 c3 a6), ob5, if_pos (iB_nI (show q < 8 by omega) (by decide)), iN_nI (by omega), nI_1, c2]
        refine ih (q + 1) nn (cs ++ [c]) _ (by omega) (by omega) (by simp only [List.length_append, List.length_cons, List.length_nil]; omega) (fun x hx => ?_) ?_ (fun b hb => (j_u2_row _ _ _ _ hb).trans (a6 b hb))
        · rcases List.mem_append.mp hx with hx | hx
          · exact a4 x hx
          · rw [List.mem_singleton.mp hx]; exact c1
        · rw [rl_app]
          refine ⟨rl_c a5 (fun j _ hj => u2_nk (by omega)), ?_, trivial⟩
          rw [Nat.zero_add, a3, u2_eq]
    obtain ⟨c9, cs9, g1, g2, g3, g4, g5⟩ := go e.2.2.2 0 oF [] car2 (by omega) (by unfold oF; omega) rfl (fun x hx => by cases hx) trivial (fun _ _ => rfl)
    rw [show nI 0 = (0 : Int32) from rfl] at g1
    refine ⟨0, _, c9, g1, Or.inr ⟨cs9, by omega, by rw [u2_eq, g2], g4, g3⟩, ⟨fun a k u v w => (u2_na v).trans (Y2.1 a k u v w), fun b u v => (g5 b (by omega)).trans (Y2.2.1 b u v), (u2_na (by decide)).trans Y2.2.2⟩, ?_, Or.inl ⟨rfl, un⟩⟩
    obtain ⟨L, hL⟩ := hL2
    exact ⟨L, hM_c hL (by rw [j_u2_row _ _ _ _ (by decide)]) (fun b hb _ => g5 b (by omega))⟩
/-- isClean -/
theorem c_clean {sc car : jSc} {k : Nat} (hE : cE pr n tx g p m S0 ar0 sc car mr) (hL : ∃ L, hM L sc car) (hW : bRw n0 sc car) (h1 : 1 ≤ most) (h6 : most ≤ 600) (hn : n0 ≤ 8) : ∃ b sc2 car2, xF_289 (nI n0) (nI most) sc mr car al = some (b, sc2, mr, car2, al) ∧ bRw n0 sc2 car2 ∧ uQz sc car sc2 car2 ∧ (∃ L, hM L sc2 car2) ∧ ((b = 0 ∧ aSafe S0 ar0 m g most n0 k = false) ∨ (b = 1 ∧ (aRs S0 ar0 m g true most n0).2.2 = false ∧ (aRs S0 ar0 m g true most n0).2.1 = none ∧ ∃ B wh, kPS (aCan ar0 m) (aSt S0 ar0) wh (aRs S0 ar0 m g true most n0) B sc2 car2)) := by
  unfold xF_289
  rcases hW with z | ⟨cs, a, b, c, d⟩
  · rw [if_pos (show sc 773 18 < 0 by rw [z]; decide)]
    exact c_cl16 hE hL (Or.inl z) h1 h6 hn
  · rw [if_neg (show ¬ sc 773 18 < 0 by rw [b]; exact nI_pos (by omega))]
    unfold xF_290
    obtain ⟨sc2, car2, e1, e2, e3⟩ := cE_beg (al := al) (pp := 780) hE (by decide)
    obtain ⟨sc3, car3, f1, f2⟩ := c_spa (al := al) cs 0 oF sc2 car2 _ (cE_H (by decide) hE e3) d (by omega) (by unfold oF; omega) (by rw [e3.1 773 18 (by decide), b, Nat.zero_add]) (by rw [e3.2.1 795 (by decide) (by decide)]; exact c) e2
    rw [show nI 0 = (0 : Int32) from rfl] at f1
    rw [e1, ob4, f1, ob5]
    have H3 := cH_tr e3 f2
    have U3 := uQz_H H3
    have hL3 : ∃ L, hM L sc3 car3 := by
      obtain ⟨L, hL⟩ := hL
      exact ⟨L, hM_c hL (H3.1 774 0 (by decide)) (fun b h1 h2 => H3.2.1 b (by omega) (by omega))⟩
    have W3 : bRw n0 sc3 car3 := Or.inr ⟨cs, a, by rw [H3.1 773 18 (by decide)]; exact b, by rw [H3.2.1 795 (by decide) (by decide)]; exact c, d⟩
    by_cases z : aBad g (aRow S0 ar0 m cs (aB0 S0 ar0)) = true
    · rw [if_pos z, if_neg (show ¬ (1 : Int32) = 0 by decide)]
      exact ⟨0, sc3, car3, rfl, W3, U3, hL3, Or.inl ⟨rfl, bad_row hE h1 h6 a d z⟩⟩
    · rw [if_neg z, if_pos rfl]
      obtain ⟨b', sc4, car4, g1, g2, g3, g4, g5⟩ := c_cl16 (al := al) (k := k) (cE_uQz hE U3) hL3 W3 h1 h6 hn
      exact ⟨b', sc4, car4, g1, g2, uQz_tr U3 g3, g4, g5⟩
end CL2
