/-! THE REFERENCE'S SEARCH is the search. -/
def sp1 (wh : Bool) (o : Option Nat) : Int32 := if wh = true then -1 else match o with
  | none => -1
  | some i => nI i
def rBs (wh : Bool) (s : bS) (S : Nat → Int32) (ar : jSc) : Prop := rB s.1 S ar ∧ S 49 = sp1 wh s.2.1 ∧ S 50 = if s.2.2 = true then 1 else 0
theorem rBs_H {wh : Bool} {s : bS} {S S9 : Nat → Int32} {ar ar9 : jSc} (h : rBs wh s S ar) (k : rH S ar S9 ar9) : rBs wh s S9 ar9 := ⟨rB_H h.1 k, (k.1.1 49 (by decide)).trans h.2.1, (k.1.1 50 (by decide)).trans h.2.2⟩
theorem bOv_f {wh : Bool} {s : bS} (h : ¬ bOv wh s = true) : s.2.2 = false ∧ (wh = false → s.2.1 = none) := by
  unfold bOv at h
  obtain ⟨E, o, b⟩ := s
  cases b <;> cases wh <;> cases o <;> simp_all
section RX
variable {S0 : Nat → Int32} {ar0 : jSc} {sc car : jSc} {mr : Nat → Nat} {pr n p m : Nat} {tx : Nat → Int32} {g : pG}
theorem r_inn (hE : cE pr n tx g p m S0 ar0 sc car mr) {k44 : Int32 → Int32 → Int32 → Int32 → (Nat → Int32) → jSc → Option ((Nat → Int32) × jSc)} {wh : Bool} {nn0 most q : Nat} {e : eT} (hm : most ≤ 600) (hq : q < 600) (hn0 : nn0 ≤ 8) (hd : e.2.2.2 < nn0) : ∀ (r c nn : Nat) (s : bS) (S : Nat → Int32) (ar : jSc), c + r = 13 → r < nn → rBs wh s S ar → ¬ bOv wh s = true → s.1[q]? = some e → s.1.length ≤ most → stS S0 S → stA ar0 ar →
    ∃ S9 ar9, rF_87_64 k44 nn (nI nn0) (nI most) (if wh = true then 0 else 1) (nI q) (nI c) S ar = (if bOv wh (bIn (aCan ar0 m) (aSt S0 ar0) (aBad g) wh most q e.1 e.2.2.2 r c s) = true then some (S9, ar9) else k44 (nI nn0) (nI most) (if wh = true then 0 else 1) (nI (q + 1)) S9 ar9) ∧ rBs wh (bIn (aCan ar0 m) (aSt S0 ar0) (aBad g) wh most q e.1 e.2.2.2 r c s) S9 ar9 ∧ (bIn (aCan ar0 m) (aSt S0 ar0) (aBad g) wh most q e.1 e.2.2.2 r c s).1.length ≤ most ∧ vX S ar S9 ar9 := by
  intro r
  induction r with
  | zero =>
    intro c nn s S ar h1 h2 hB hO he hl hS hA
    obtain ⟨nn, rfl⟩ : ∃ j, nn = j + 1 := ⟨nn - 1, by omega⟩
    have l : (13 : Int32) ≤ nI c ↔ 13 ≤ c := nI_leI (by decide) (by omega)
    unfold rF_87_64 bIn
    rw [if_pos (l.mpr (by omega)), nI_1]
    exact ⟨S, ar, (if_neg hO).symm, hB, hl, vX_rf S ar⟩
  | succ r ih =>
    intro c nn s S ar h1 h2 hB hO he hl hS hA
    obtain ⟨nn, rfl⟩ : ∃ j, nn = j + 1 := ⟨nn - 1, by omega⟩
    have l : (13 : Int32) ≤ nI c ↔ 13 ≤ c := nI_leI (by decide) (by omega)
    have ln : nI nn0 ≤ nI e.2.2.2 ↔ nn0 ≤ e.2.2.2 := nI_leI (by omega) (by omega)
    obtain ⟨b1, b2, b3, b4, b5, b6, b7⟩ := hB.1.2.2 q e he
    have l6 := hB.1.2.1
    unfold rF_87_64 bIn
    rw [if_neg (fun z => absurd (l.mp z) (by omega)), if_pos (iB_nI hq (by decide)), iN_nI (by omega), b4, if_neg (fun z => absurd (ln.mp z) (by omega)), if_pos (iB_nI hq (by decide)), r_load (by decide) (by omega), ob2]
    generalize hA1 : va_up ar 13 (fun k => if k < 38 then ar (108 + q) k else ar 13 k) = ar1
    have r1 : rN ar ar1 := fun b hb => by rw [← hA1, va_up_ne _ _ hb]
    have p1 : c38 (ar1 13) = e.1 := by
      rw [← b5, ← hA1, va_up_self]
      exact c38_e (fun k hk => by rw [if_pos hk]; exact b1 k hk)
    have H1 : rH S ar S ar1 := ⟨rF8_rf S, r1⟩
    have W1 : rW S0 ar0 S ar1 e.1 := ⟨hS, stA_tr hA (stA_13 r1), p1, b6⟩
    have B1 := rBs_H hB H1
    rw [rW_can hE W1 (show c < 13 by omega), ob3]
    -- on with the next code
    have next : ∀ s2 S2 ar2, bC (aCan ar0 m) (aSt S0 ar0) (aBad g) most q e.1 e.2.2.2 c s = s2 → rBs wh s2 S2 ar2 → ¬ bOv wh s2 = true → s2.1[q]? = some e → s2.1.length ≤ most → stS S0 S2 → stA ar0 ar2 → vX S ar S2 ar2 →
        ∃ S9 ar9, rF_87_64 k44 nn (nI nn0) (nI most) (if wh = true then 0 else 1) (nI q) (nI c + 1) S2 ar2 = (if bOv wh (if bOv wh (bC (aCan ar0 m) (aSt S0 ar0) (aBad g) most q e.1 e.2.2.2 c s) = true then bC (aCan ar0 m) (aSt S0 ar0) (aBad g) most q e.1 e.2.2.2 c s else bIn (aCan ar0 m) (aSt S0 ar0) (aBad g) wh most q e.1 e.2.2.2 r (c + 1) (bC (aCan ar0 m) (aSt S0 ar0) (aBad g) most q e.1 e.2.2.2 c s)) = true then some (S9, ar9) else k44 (nI nn0) (nI most) (if wh = true then 0 else 1) (nI (q + 1)) S9 ar9) ∧ rBs wh (if bOv wh (bC (aCan ar0 m) (aSt S0 ar0) (aBad g) most q e.1 e.2.2.2 c s) = true then bC (aCan ar0 m) (aSt S0 ar0) (aBad g) most q e.1 e.2.2.2 c s else bIn (aCan ar0 m) (aSt S0 ar0) (aBad g) wh most q e.1 e.2.2.2 r (c + 1) (bC (aCan ar0 m) (aSt S0 ar0) (aBad g) most q e.1 e.2.2.2 c s)) S9 ar9 ∧ (if bOv wh (bC (aCan ar0 m) (aSt S0 ar0) (aBad g) most q e.1 e.2.2.2 c s) = true then bC (aCan ar0 m) (aSt S0 ar0) (aBad g) most q e.1 e.2.2.2 c s else bIn (aCan ar0 m) (aSt S0 ar0) (aBad g) wh most q e.1 e.2.2.2 r (c + 1) (bC (aCan ar0 m) (aSt S0 ar0) (aBad g) most q e.1 e.2.2.2 c s)).1.length ≤ most ∧ vX S ar S9 ar9 := by
      intro s2 S2 ar2 hs hb ho hi hl2 hs2 ha2 hx
      rw [hs, if_neg ho, nI_1]
      obtain ⟨S9, ar9, e1, e2, e3, e4⟩ := ih (c + 1) nn s2 S2 ar2 (by omega) (by omega) hb ho hi hl2 hs2 ha2
      exact ⟨S9, ar9, e1, e2, e3, vX_tr hx e4⟩
    by_cases z : aCan ar0 m e.1 c = true
    · obtain ⟨v, S2, ar2, e1, W2, H2⟩ := rW_step hE W1 (show c < 13 by omega) z
      rw [if_pos z, if_neg (by decide), e1, ob3]
      have H12 := rH_tr H1 H2
      have B2 := rBs_H hB H12
      obtain ⟨v2, f1, f2⟩ := r_metb B2.1 W2.2.2.1
      rw [f1, ob3]
      by_cases y : bI s.1 (aSt S0 ar0 e.1 c) = true
      · rw [if_neg (fun w => f2.mp w y)]
        exact next s S2 ar2 (by unfold bC; rw [if_pos z, if_pos y]) B2 hO he hl W2.1 W2.2.1 (vX_H H12)
      · rw [if_pos (f2.mpr y), B2.1.1]
        have lm : nI s.1.length = nI most ↔ s.1.length = most := nI_eq (by omega) (by omega)
        obtain ⟨o1, o2⟩ := bOv_f hO
        by_cases x : s.1.length = most
        · rw [if_pos (lm.mpr x)]
          have eC : bC (aCan ar0 m) (aSt S0 ar0) (aBad g) most q e.1 e.2.2.2 c s = (s.1, s.2.1, true) := by unfold bC; rw [if_pos z, if_neg y, if_pos x]
          have oC : bOv wh (s.1, s.2.1, true) = true := by unfold bOv; rfl
          rw [eC, if_pos oC]
          refine ⟨_, _, (if_pos oC).symm, ⟨rB_c B2.1 (up_n (by decide)) (fun _ _ => rfl), (up_n (by decide)).trans B2.2.1, by rw [up_0]; rfl⟩, hl, vX_tr (vX_H H12) (vX_u (by decide))⟩
        · rw [if_neg (fun w => x (lm.mp w))]
          have eC : bC (aCan ar0 m) (aSt S0 ar0) (aBad g) most q e.1 e.2.2.2 c s = (s.1 ++ [(aSt S0 ar0 e.1 c, nI q, nI c, e.2.2.2 + 1)], (if s.2.1 = none ∧ aBad g (aSt S0 ar0 e.1 c) = true then some s.1.length else s.2.1), s.2.2) := by unfold bC; rw [if_pos z, if_neg y, if_neg x]
          obtain ⟨ar3, g1, g2, g3, g4⟩ := r_meets (x1 := nI q) (x2 := nI c) (d := e.2.2.2 + 1) B2.1 W2.2.2.1 W2.2.2.2 (by omega) (by omega) (Or.inr ⟨q, e, rfl, he, rfl⟩)
          rw [g1, ob2]
          have X3 := vX_tr (vX_H H12) g3
          have S3 := stS_X hS X3
          have A3 := stA_X hA X3
          have il : q < s.1.length := (List.getElem?_eq_some_iff.mp he).1
          have he3 : (s.1 ++ [(aSt S0 ar0 e.1 c, nI q, nI c, e.2.2.2 + 1)])[q]? = some e := by rw [List.getElem?_append_left il]; exact he
          have l3 : (s.1 ++ [(aSt S0 ar0 e.1 c, nI q, nI c, e.2.2.2 + 1)]).length ≤ most := by rw [List.length_append]; simp; omega
          have k49 : upd S2 48 (nI (s.1.length + 1)) 49 = sp1 wh s.2.1 := (up_n (by decide)).trans B2.2.1
          have k50 : upd S2 48 (nI (s.1.length + 1)) 50 = if s.2.2 = true then 1 else 0 := (up_n (by decide)).trans B2.2.2
          rcases wh with _ | _
          · -- ends
            have o2 := o2 rfl
            rw [if_neg (show ¬ (if false = true then (0 : Int32) else 1) = 0 by decide)]
            have W3 : rW S0 ar0 (upd S2 48 (nI (s.1.length + 1))) ar3 (aSt S0 ar0 e.1 c) := ⟨S3, A3, by rw [g4]; exact W2.2.2.1, W2.2.2.2⟩
            obtain ⟨S4, d1, W4, H4⟩ := rW_bad hE W3
            have B4 := rB_H g2 H4
            rw [d1, ob3]
            by_cases w : aBad g (aSt S0 ar0 e.1 c) = true
            · rw [if_pos ⟨o2, w⟩] at eC
              have oC : bOv false (s.1 ++ [(aSt S0 ar0 e.1 c, nI q, nI c, e.2.2.2 + 1)], some s.1.length, s.2.2) = true := by unfold bOv; simp
              rw [if_pos w, if_neg (by decide), eC, if_pos oC]
              refine ⟨_, _, (if_pos oC).symm, ⟨rB_c B4 (up_n (by decide)) (fun _ _ => rfl), ?_, ?_⟩, l3, vX_tr X3 (vX_tr (vX_H H4) (vX_u (by decide)))⟩
              · rw [up_0, H4.1.1 48 (by decide), up_0, nI_p1 (by omega)]
                rfl
              · exact (up_n (by decide)).trans ((H4.1.1 50 (by decide)).trans k50)
            · rw [if_neg (fun c => w c.2)] at eC
              rw [if_neg w, if_pos rfl]
              refine next _ S4 ar3 eC ⟨B4, (H4.1.1 49 (by decide)).trans k49, (H4.1.1 50 (by decide)).trans k50⟩ ?_ he3 l3 W4.1 W4.2.1 (vX_tr X3 (vX_H H4))
              unfold bOv
              rw [o1, o2]
              decide
          · rw [if_pos (show (if true = true then (0 : Int32) else 1) = 0 by decide)]
            refine next _ _ ar3 eC ⟨g2, ?_, k50⟩ ?_ he3 l3 S3 A3 X3
            · rw [k49]; rfl
            · unfold bOv
              rw [o1]
              simp
    · rw [if_neg z, if_pos rfl]
      exact next s S ar1 (by unfold bC; rw [if_neg z]) B1 hO he hl hS W1.2.1 (vX_H H1)
theorem bGo_ov {cn : (Nat → Int32) → Nat → Bool} {st : (Nat → Int32) → Nat → Nat → Int32} {bd : (Nat → Int32) → Bool} {wh : Bool} {most n0 : Nat} {s : bS} (h : bOv wh s = true) : ∀ f q, bGo cn st bd wh most n0 f q s = s
  | 0, _ => rfl
  | f + 1, q => by
    unfold bGo
    split
    · rfl
    · rw [if_pos h]
theorem r_go (hE : cE pr n tx g p m S0 ar0 sc car mr) {wh : Bool} {nn0 most : Nat} (hm : most ≤ 600) (hn0 : nn0 ≤ 8) : ∀ (f q nn : Nat) (s : bS) (S : Nat → Int32) (ar : jSc), q + f = 601 → f < nn → rBs wh s S ar → ¬ bOv wh s = true → s.1.length ≤ most → stS S0 S → stA ar0 ar →
    ∃ S9 ar9, rF_87_44 nn (nI nn0) (nI most) (if wh = true then 0 else 1) (nI q) S ar = some (S9, ar9) ∧ rBs wh (bGo (aCan ar0 m) (aSt S0 ar0) (aBad g) wh most nn0 f q s) S9 ar9 ∧ vX S ar S9 ar9 := by
  intro f
  induction f with
  | zero =>
    intro q nn s S ar h1 h2 hB hO hl hS hA
    obtain ⟨nn, rfl⟩ : ∃ j, nn = j + 1 := ⟨nn - 1, by omega⟩
    unfold rF_87_44 bGo
    rw [hB.1.1, if_pos ((nI_leI (by omega) (by omega)).mpr (by omega))]
    exact ⟨S, ar, rfl, hB, vX_rf S ar⟩
  | succ f ih =>
    intro q nn s S ar h1 h2 hB hO hl hS hA
    obtain ⟨nn, rfl⟩ : ∃ j, nn = j + 1 := ⟨nn - 1, by omega⟩
    have l : nI s.1.length ≤ nI q ↔ s.1.length ≤ q := nI_leI (by omega) (by omega)
    have h49 : S 49 = -1 := by
      rw [hB.2.1]
      unfold sp1
      rcases wh with _ | _
      · rw [(bOv_f hO).2 rfl]; rfl
      · rfl
    unfold rF_87_44 bGo
    rw [hB.1.1]
    rcases he : s.1[q]? with _ | e
    · rw [if_pos (l.mpr (List.getElem?_eq_none_iff.mp he))]
      exact ⟨S, ar, rfl, hB, vX_rf S ar⟩
    · have il : q < s.1.length := (List.getElem?_eq_some_iff.mp he).1
      rw [if_neg (fun z => absurd (l.mp z) (by omega)), if_pos h49]
      show ∃ S9 ar9, _ ∧ rBs wh (if bOv wh s = true then s else _) S9 ar9 ∧ _
      rw [if_neg hO]
      by_cases d : e.2.2.2 < nn0
      · rw [if_pos d]
        obtain ⟨S9, ar9, e1, e2, e3, e4⟩ := r_inn hE (k44 := fun x1_ x2_ x3_ x4_ S_ ar_ => rF_87_44 nn x1_ x2_ x3_ x4_ S_ ar_) hm (show q < 600 by omega) hn0 d 13 0 oF s S ar (by omega) (by unfold oF; omega) hB hO he hl hS hA
        have e1 : rF_87_64 (fun x1_ x2_ x3_ x4_ S_ ar_ => rF_87_44 nn x1_ x2_ x3_ x4_ S_ ar_) oF (nI nn0) (nI most) (if wh = true then 0 else 1) (nI q) (0 : Int32) S ar = _ := e1
        rw [e1]
        by_cases o : bOv wh (bIn (aCan ar0 m) (aSt S0 ar0) (aBad g) wh most q e.1 e.2.2.2 13 0 s) = true
        · rw [if_pos o, bGo_ov o]
          exact ⟨S9, ar9, rfl, e2, e4⟩
        · rw [if_neg o]
          obtain ⟨S8, ar8, f1, f2, f3⟩ := ih (q + 1) nn _ S9 ar9 (by omega) (by omega) e2 o e3 (stS_X hS e4) (stA_X hA e4)
          exact ⟨S8, ar8, f1, f2, vX_tr e4 f3⟩
      · rw [if_neg d]
        obtain ⟨b1, b2, b3, b4, b5, b6, b7⟩ := hB.1.2.2 q e he
        have ln : nI nn0 ≤ nI e.2.2.2 ↔ nn0 ≤ e.2.2.2 := nI_leI (by omega) (by omega)
        obtain ⟨S8, ar8, f1, f2, f3⟩ := ih (q + 1) nn s S ar (by omega) (by omega) hB hO hl hS hA
        refine ⟨S8, ar8, ?_, f2, f3⟩
        rw [← f1]
        show rF_87_64 _ 10000 _ _ _ _ _ _ _ = _
        unfold rF_87_64
        rw [if_neg (by decide), if_pos (iB_nI (show q < 600 by omega) (by decide)), iN_nI (show q < 2 ^ 31 by omega), b4, if_pos (ln.mpr (by omega)), nI_1]
/-- the search, as it stands for a program and forms -/
def aRs (S0 : Nat → Int32) (ar0 : jSc) (m : Nat) (g : pG) (wh : Bool) (most nn0 : Nat) : bS := bRs (aCan ar0 m) (aSt S0 ar0) (aBad g) (aB0 S0 ar0) wh most nn0
theorem r_expl (hE : cE pr n tx g p m S0 ar0 sc car mr) {wh : Bool} {nn0 most : Nat} {S : Nat → Int32} {ar : jSc} (h1 : 1 ≤ most) (hm : most ≤ 600) (hn0 : nn0 ≤ 8) (hS : stS S0 S) (hA : stA ar0 ar) :
    ∃ S9 ar9, rF_87 (nI nn0) (nI most) (if wh = true then 0 else 1) S ar = some (S9, ar9) ∧ rBs wh (aRs S0 ar0 m g wh most nn0) S9 ar9 ∧ vX S ar S9 ar9 := by
  generalize hS1 : upd (upd (upd S 48 (0 : Int32)) 49 (-1 : Int32)) 50 (0 : Int32) = S1
  have X1 : vX S ar S1 ar := by
    rw [← hS1]
    exact vX_tr (vX_tr (vX_u (by decide)) (vX_u (by decide))) (vX_u (by decide))
  have z48 : S1 48 = 0 := by rw [← hS1, up_n (by decide), up_n (by decide), up_0]
  have z49 : S1 49 = -1 := by rw [← hS1, up_n (by decide), up_0]
  have z50 : S1 50 = 0 := by rw [← hS1, up_0]
  obtain ⟨S2, ar2, e1, W2, H2⟩ := rW_beg hE (stS_X hS X1) (stA_X hA X1)
  have B2 : rB [] S2 ar2 := ⟨(H2.1.1 48 (by decide)).trans z48, by simp, by simp⟩
  obtain ⟨ar3, g1, g2, g3, g4⟩ := r_meets (x1 := -1) (x2 := -1) (d := 0) B2 W2.2.2.1 W2.2.2.2 (by simp) (by omega) (Or.inl ⟨rfl, rfl⟩)
  have X3 := vX_tr X1 (vX_tr (vX_H H2) g3)
  have S3 := stS_X hS X3
  have A3 := stA_X hA X3
  have k49 : upd S2 48 (nI (([] : List eT).length + 1)) 49 = -1 := (up_n (by decide)).trans ((H2.1.1 49 (by decide)).trans z49)
  have k50 : upd S2 48 (nI (([] : List eT).length + 1)) 50 = 0 := (up_n (by decide)).trans ((H2.1.1 50 (by decide)).trans z50)
  have l1 : ([((aB0 S0 ar0, -1, -1, 0) : eT)]).length ≤ most := by simpa using h1
  unfold rF_87 aRs bRs bSt
  rw [hS1, e1, ob2, g1, ob2]
  rcases wh with _ | _
  · rw [if_neg (show ¬ (if false = true then (0 : Int32) else 1) = 0 by decide)]
    have W3 : rW S0 ar0 (upd S2 48 (nI (([] : List eT).length + 1))) ar3 (aB0 S0 ar0) := ⟨S3, A3, by rw [g4]; exact W2.2.2.1, W2.2.2.2⟩
    obtain ⟨S4, d1, W4, H4⟩ := rW_bad hE W3
    have B4 := rB_H g2 H4
    rw [d1, ob3]
    by_cases w : aBad g (aB0 S0 ar0) = true
    · rw [if_pos w, if_neg (by decide), if_pos w, bGo_ov (by unfold bOv; simp)]
      refine ⟨upd S4 49 0, ar3, ?_, ⟨rB_c B4 (up_n (by decide)) (fun _ _ => rfl), by rw [up_0]; rfl, (up_n (by decide)).trans ((H4.1.1 50 (by decide)).trans k50)⟩, vX_tr X3 (vX_tr (vX_H H4) (vX_u (by decide)))⟩
      show rF_87_44 10000 _ _ _ _ _ _ = _
      unfold rF_87_44
      rw [up_0, if_neg (show ¬ (0 : Int32) = -1 by decide)]
      split <;> rfl
    · rw [if_neg w, if_pos rfl, if_neg w]
      obtain ⟨S8, ar8, f1, f2, f3⟩ := r_go hE (wh := false) hm hn0 601 0 oF ([(aB0 S0 ar0, -1, -1, 0)], none, false) S4 ar3 (by omega) (by unfold oF; omega) ⟨B4, (H4.1.1 49 (by decide)).trans k49, (H4.1.1 50 (by decide)).trans k50⟩ (by unfold bOv; simp) l1 W4.1 W4.2.1
      exact ⟨S8, ar8, f1, f2, vX_tr X3 (vX_tr (vX_H H4) f3)⟩
  · rw [if_pos (show (if true = true then (0 : Int32) else 1) = 0 by decide)]
    obtain ⟨S8, ar8, f1, f2, f3⟩ := r_go hE (wh := true) hm hn0 601 0 oF ([(aB0 S0 ar0, -1, -1, 0)], (if aBad g (aB0 S0 ar0) = true then some 0 else none), false) _ ar3 (by omega) (by unfold oF; omega) ⟨g2, k49, k50⟩ (by unfold bOv; simp) l1 S3 A3
    exact ⟨S8, ar8, f1, f2, vX_tr X3 f3⟩
end RX
