/-! THE REFERENCE's answers from searches; pages from which a place is reached. -/
def aRch (cn : (Nat → Int32) → Nat → Bool) (st : (Nat → Int32) → Nat → Nat → Int32) (gd : (Nat → Int32) → Bool) : Nat → (Nat → Int32) → Bool
  | 0, P => gd P
  | k + 1, P => gd P || (List.range 13).any (fun c => cn P c && aRch cn st gd k (st P c))
def aStk (cn : (Nat → Int32) → Nat → Bool) (st : (Nat → Int32) → Nat → Nat → Int32) (gd : (Nat → Int32) → Bool) (k : Nat) : List eT → Nat
  | [] => 0
  | e :: r => (if aRch cn st gd k e.1 = true then 0 else 1) + aStk cn st gd k r
section RA
variable {S0 : Nat → Int32} {ar0 : jSc} {sc car : jSc} {mr : Nat → Nat} {pr n p m : Nat} {tx : Nat → Int32} {g : pG} {S : Nat → Int32} {ar : jSc} {nn0 most : Nat}
theorem r_88 (h1 : 1 ≤ most) (h6 : most ≤ 600) (hn : nn0 ≤ 8) : rF_88 (nI nn0) (nI most) S ar = some (1, S, ar) := by
  unfold rF_88 rF_4
  rw [if_neg (nI_pos (by omega)), if_neg (show ¬ (8 : Int32) < nI nn0 from nI_nlt (a := 8) (by omega) (by decide)), ob3, if_neg (by decide), if_neg (show ¬ nI most < (1 : Int32) from nI_nlt (b := 1) (by omega) (by omega)), if_neg (show ¬ (600 : Int32) < nI most from nI_nlt (a := 600) (by omega) (by decide)), ob3, if_neg (by decide)]
theorem r_ok (S : Nat → Int32) (ar : jSc) {y : Int32} : rF_3 0 y (upd S 0 0) ar = some (0, upd S 0 0, ar) := by
  unfold rF_3
  rw [if_pos rfl, up_0, if_pos rfl]
theorem up_16 {T : Nat → Int32} (h : T 16 = 0) : upd T 16 0 = T := by
  funext k
  by_cases z : k = 16
  · subst z; rw [up_0]; exact h.symm
  · rw [up_n z]
theorem stS_0 (hS : stS S0 S) : stS S0 (upd S 0 0) := stS_tr hS ⟨up_n (by decide), up_n (by decide), up_n (by decide)⟩
theorem r_worst (hE : cE pr n tx g p m S0 ar0 sc car mr) (h16 : S0 16 = 0) (h1 : 1 ≤ most) (h6 : most ≤ 600) (hn : nn0 ≤ 8) (hS : stS S0 S) (hA : stA ar0 ar) :
    ∃ S9 ar9, rF_89 (nI nn0) (nI most) S ar = some (aDp (aRs S0 ar0 m g false most nn0), S9, ar9) ∧ vX (upd S 0 0) ar S9 ar9 := by
  unfold rF_89
  rw [r_88 h1 h6 hn, ob3, if_neg (by decide)]
  unfold rF_89_20
  rw [r_ok, ob3, if_pos rfl, up_16 ((stS_0 hS).1.trans h16)]
  obtain ⟨S9, ar9, e1, e2, e3⟩ := r_expl hE (wh := false) h1 h6 hn (stS_0 hS) hA
  have e1 : rF_87 (nI nn0) (nI most) 1 (upd S 0 0) ar = some (S9, ar9) := e1
  rw [e1, ob2, e2.2.1, e2.2.2]
  refine ⟨S9, ar9, ?_, e3⟩
  have ok : bOk nn0 (aRs S0 ar0 m g false most nn0) := bRs_ok
  unfold aDp
  rcases ho : (aRs S0 ar0 m g false most nn0).2.1 with _ | i
  · rw [if_pos (show sp1 false none = -1 from rfl)]
    rcases (aRs S0 ar0 m g false most nn0).2.2 with _ | _ <;> rfl
  · have il := ok.2 i ho
    have l6 := e2.1.2.1
    obtain ⟨e, he⟩ : ∃ e, (aRs S0 ar0 m g false most nn0).1[i]? = some e := ⟨_, List.getElem?_eq_getElem il⟩
    have q : sp1 false (some i) = nI i := rfl
    rw [q, if_neg (nI_nm (by omega)), if_pos (iB_nI (show i < 600 by omega) (by decide)), iN_nI (by omega), (e2.1.2.2 i e he).2.2.2.1]
    show some (nI e.2.2.2, S9, ar9) = some ((match (aRs S0 ar0 m g false most nn0).1[i]? with | some e => nI e.2.2.2 | none => 0), S9, ar9)
    rw [he]
theorem r_stp {k : Int32} (hE : cE pr n tx g p m S0 ar0 sc car mr) (h16 : S0 16 = 0) (h1 : 1 ≤ most) (h6 : most ≤ 600) (hn : nn0 ≤ 8) (hS : stS S0 S) (hA : stA ar0 ar) :
    ∃ S9 ar9, rF_90 (nI nn0) (nI most) k S ar = some (aCd (aRs S0 ar0 m g false most nn0) k, S9, ar9) ∧ vX (upd S 0 0) ar S9 ar9 := by
  unfold rF_90
  rw [r_88 h1 h6 hn, ob3, if_neg (by decide)]
  unfold rF_90_20
  rw [r_ok, ob3, if_pos rfl, up_16 ((stS_0 hS).1.trans h16)]
  obtain ⟨S9, ar9, e1, e2, e3⟩ := r_expl hE (wh := false) h1 h6 hn (stS_0 hS) hA
  have e1 : rF_87 (nI nn0) (nI most) 1 (upd S 0 0) ar = some (S9, ar9) := e1
  rw [e1, ob2, e2.2.1]
  refine ⟨S9, ar9, ?_, e3⟩
  have ok : bOk nn0 (aRs S0 ar0 m g false most nn0) := bRs_ok
  unfold aCd
  rcases ho : (aRs S0 ar0 m g false most nn0).2.1 with _ | i
  · rw [if_pos (show sp1 false none = -1 from rfl)]
  · have il := ok.2 i ho
    have l6 := e2.1.2.1
    obtain ⟨e, he⟩ : ∃ e, (aRs S0 ar0 m g false most nn0).1[i]? = some e := ⟨_, List.getElem?_eq_getElem il⟩
    have d8 := (ok.1 i e he).1
    have q : sp1 false (some i) = nI i := rfl
    rw [q, if_neg (nI_nm (by omega)), if_pos (iB_nI (show i < 600 by omega) (by decide)), iN_nI (by omega), (e2.1.2.2 i e he).2.2.2.1]
    show _ = some ((match (aRs S0 ar0 m g false most nn0).1[i]? with | some e => if k < 0 ∨ nI e.2.2.2 ≤ k then -1 else bCd (aRs S0 ar0 m g false most nn0).1 (bAnc (aRs S0 ar0 m g false most nn0).1 (e.2.2.2 - 1 - iN k) i) | none => -1), S9, ar9)
    rw [he]
    show _ = some ((if k < 0 ∨ nI e.2.2.2 ≤ k then -1 else bCd (aRs S0 ar0 m g false most nn0).1 (bAnc (aRs S0 ar0 m g false most nn0).1 (e.2.2.2 - 1 - iN k) i)), S9, ar9)
    unfold rF_4
    by_cases z : k < 0
    · rw [if_pos z, ob3, if_pos rfl, if_pos (Or.inl z)]
    · obtain ⟨kk, k1, rfl⟩ := nI_of z
      rw [if_neg z, iN_nI k1]
      by_cases y : kk < e.2.2.2
      · rw [nI_p1 (by omega), if_neg (nI_nlt (by omega) (by omega)), ob3, if_neg (by decide), if_neg (fun w => w.elim z (fun w => absurd w (nI_ge y (by omega)))), e2.2.1, ho, q]
        have go : ∀ t i nn f, (aRs S0 ar0 m g false most nn0).1[i]? = some f → f.2.2.2 = kk + 1 + t → t < nn → rF_90_76 nn (nI kk) (nI i) S9 ar9 = some (bCd (aRs S0 ar0 m g false most nn0).1 (bAnc (aRs S0 ar0 m g false most nn0).1 t i), S9, ar9) := by
          intro t
          induction t with
          | zero =>
            intro i nn f hf h1 h2
            obtain ⟨nn, rfl⟩ : ∃ j, nn = j + 1 := ⟨nn - 1, by omega⟩
            have il := (List.getElem?_eq_some_iff.mp hf).1
            unfold rF_90_76
            rw [if_pos (iB_nI (show i < 600 by omega) (by decide)), iN_nI (by omega), (e2.1.2.2 i f hf).2.2.2.1, nI_1, if_pos (nI_le (by omega) (by omega)), if_pos (iB_nI (show i < 600 by omega) (by decide)), (e2.1.2.2 i f hf).2.2.1]
            unfold bAnc bCd
            rw [hf]
          | succ t ih =>
            intro i nn f hf h1 h2
            obtain ⟨nn, rfl⟩ : ∃ j, nn = j + 1 := ⟨nn - 1, by omega⟩
            have il := (List.getElem?_eq_some_iff.mp hf).1
            have f8 := (ok.1 i f hf).1
            obtain ⟨j, f2, j1, j2, j3, j4⟩ : ∃ j g', j < i ∧ f.2.1 = nI j ∧ (aRs S0 ar0 m g false most nn0).1[j]? = some g' ∧ f.2.2.2 = g'.2.2.2 + 1 := by
              rcases (ok.1 i f hf).2 with ⟨-, a⟩ | a
              · omega
              · exact a
            unfold rF_90_76
            rw [if_pos (iB_nI (show i < 600 by omega) (by decide)), iN_nI (by omega), (e2.1.2.2 i f hf).2.2.2.1, nI_1, if_neg (nI_ge (by omega) (by omega)), if_pos (iB_nI (show i < 600 by omega) (by decide)), (e2.1.2.2 i f hf).2.1, j2, ih j nn f2 j3 (by omega) (by omega)]
            show _ = some (bCd _ (bAnc _ t (bPar (aRs S0 ar0 m g false most nn0).1 i)), _)
            unfold bPar
            rw [hf]
            show _ = some (bCd _ (bAnc _ t (iN f.2.1)), _)
            rw [j2, iN_nI (by omega)]
        exact go (e.2.2.2 - 1 - kk) i oF e he (by omega) (by unfold oF; omega)
      · have y2 : nI e.2.2.2 - (1 : Int32) < nI kk := by
          by_cases w : e.2.2.2 = 0
          · rw [w]
            have := nI_pos' (n := kk) k1
            exact Int32.lt_of_lt_of_le (by decide) this
          · rw [nI_p1 (by omega)]; exact nI_lt (by omega) k1
        rw [if_pos y2, ob3, if_pos rfl, if_pos (Or.inr (nI_le (by omega) k1))]
theorem r_pgs (hE : cE pr n tx g p m S0 ar0 sc car mr) (h16 : S0 16 = 0) (h1 : 1 ≤ most) (h6 : most ≤ 600) (hn : nn0 ≤ 8) (hS : stS S0 S) (hA : stA ar0 ar) :
    ∃ S9 ar9, rF_91 (nI nn0) (nI most) S ar = some (if (aRs S0 ar0 m g true most nn0).2.2 = true then -2 else nI (aRs S0 ar0 m g true most nn0).1.length, S9, ar9) ∧ vX (upd S 0 0) ar S9 ar9 := by
  unfold rF_91
  rw [r_88 h1 h6 hn, ob3, if_neg (by decide)]
  unfold rF_91_20
  rw [r_ok, ob3, if_pos rfl, up_16 ((stS_0 hS).1.trans h16)]
  obtain ⟨S9, ar9, e1, e2, e3⟩ := r_expl hE (wh := true) h1 h6 hn (stS_0 hS) hA
  have e1 : rF_87 (nI nn0) (nI most) 0 (upd S 0 0) ar = some (S9, ar9) := e1
  rw [e1, ob2, e2.2.2, e2.1.1]
  refine ⟨S9, ar9, ?_, e3⟩
  rcases (aRs S0 ar0 m g true most nn0).2.2 with _ | _ <;> rfl
/-- what reaching leaves: rows behind the depth -/
def vD (d : Nat) (S : Nat → Int32) (ar : jSc) (S9 : Nat → Int32) (ar9 : jSc) : Prop := rF8 S S9 ∧ ∀ b, b ≠ 13 → ¬ (730 + d < b ∧ b ≤ 733) → ar9 b = ar b
theorem vD_tr {d : Nat} {S S2 S3 : Nat → Int32} {a a2 a3 : jSc} (h : vD d S a S2 a2) (h2 : vD d S2 a2 S3 a3) : vD d S a S3 a3 := ⟨rF8_tr h.1 h2.1, fun b x y => (h2.2 b x y).trans (h.2 b x y)⟩
theorem vD_H {d : Nat} {S S2 : Nat → Int32} {a a2 : jSc} (h : rH S a S2 a2) : vD d S a S2 a2 := ⟨h.1, fun b x _ => h.2 b x⟩
theorem vD_s {d : Nat} {S S2 : Nat → Int32} {a a2 : jSc} (h : vD (d + 1) S a S2 a2) : vD d S a S2 a2 := ⟨h.1, fun b x y => h.2 b x (by omega)⟩
theorem stS_D {d : Nat} {S9 : Nat → Int32} {ar9 : jSc} (h : stS S0 S) (k : vD d S ar S9 ar9) : stS S0 S9 := stS_tr h (stS_7 k.1.1)
theorem stA_D {d : Nat} {S9 : Nat → Int32} {ar9 : jSc} (h : stA ar0 ar) (k : vD d S ar S9 ar9) : stA ar0 ar9 := stA_tr h (fun b hb => k.2 b (by omega) (by omega))
/-- a row of the reference is loaded -/
theorem rW_load {b : Nat} {P : Nat → Int32} (hb : b ≠ 13) (hS : stS S0 S) (hA : stA ar0 ar) (hr : ∀ k, k < 38 → ar b k = P k) (h38 : c38 P = P) (hW : pW P) : ∃ ar9, rF_55 b 38 S ar = some (S, ar9) ∧ rW S0 ar0 S ar9 P ∧ rH S ar S ar9 := by
  have r1 : rN ar (va_up ar 13 (fun k => if k < 38 then ar b k else ar 13 k)) := fun b hb => va_up_ne _ _ hb
  refine ⟨_, r_load (by decide) hb, ⟨hS, stA_tr hA (stA_13 r1), ?_, hW⟩, rF8_rf S, r1⟩
  rw [va_up_self, ← h38]
  exact c38_e (fun k hk => by rw [if_pos hk]; exact hr k hk)
theorem any_s {f : Nat → Bool} {c r : Nat} : (List.range' c (r + 1)).any f = (f c || (List.range' (c + 1) r).any f) := by
  rw [List.range'_succ, List.any_cons]
theorem r_rch (hE : cE pr n tx g p m S0 ar0 sc car mr) : ∀ (k d fu : Nat) (S : Nat → Int32) (ar : jSc) (P : Nat → Int32), d + k ≤ 3 → k < fu → (∀ j, j < 38 → ar (730 + d) j = P j) → c38 P = P → pW P → stS S0 S → stA ar0 ar →
    ∃ S9 ar9, rG_92 fu (nI d) (nI k) S ar = some (if aRch (aCan ar0 m) (aSt S0 ar0) (aGd g) k P = true then 1 else 0, S9, ar9) ∧ vD d S ar S9 ar9 := by
  intro k
  induction k with
  | zero =>
    intro d fu S ar P hd hf hr h38 hW hS hA
    obtain ⟨fu, rfl⟩ : ∃ j, fu = j + 1 := ⟨fu - 1, by omega⟩
    obtain ⟨ar1, e1, W1, H1⟩ := rW_load (b := 730 + d) (by omega) hS hA hr h38 hW
    obtain ⟨S2, e2, W2, H2⟩ := rW_good hE W1
    show ∃ S9 ar9, rF_92 (rG_92 fu) (nI d) (nI 0) S ar = _ ∧ _
    unfold rF_92
    rw [if_pos (iB_nI (show d < 4 by omega) (by decide)), iN_nI (by omega), e1, ob2, hS.1, hE.1.2.2.2.2.1, if_pos (iB_nI hE.1.1.1 (by decide)), iN_nI (by have := hE.1.1.1; omega), e2, ob3]
    show ∃ S9 ar9, _ = some (if aGd g P = true then 1 else 0, S9, ar9) ∧ _
    by_cases z : aGd g P = true
    · rw [if_pos z, if_neg (by decide)]
      exact ⟨S2, ar1, rfl, vD_H (rH_tr H1 H2)⟩
    · rw [if_neg z, if_pos rfl]
      refine ⟨S2, ar1, ?_, vD_H (rH_tr H1 H2)⟩
      show rF_92_31 _ (9999 + 1) _ _ _ _ _ = _
      unfold rF_92_31
      rw [if_neg (by decide), if_pos (by decide)]
  | succ k ih =>
    intro d fu S ar P hd hf hr h38 hW hS hA
    obtain ⟨fu, rfl⟩ : ∃ j, fu = j + 1 := ⟨fu - 1, by omega⟩
    obtain ⟨ar1, e1, W1, H1⟩ := rW_load (b := 730 + d) (by omega) hS hA hr h38 hW
    obtain ⟨S2, e2, W2, H2⟩ := rW_good hE W1
    show ∃ S9 ar9, rF_92 (rG_92 fu) (nI d) (nI (k + 1)) S ar = _ ∧ _
    unfold rF_92
    rw [if_pos (iB_nI (show d < 4 by omega) (by decide)), iN_nI (by omega), e1, ob2, hS.1, hE.1.2.2.2.2.1, if_pos (iB_nI hE.1.1.1 (by decide)), iN_nI (by have := hE.1.1.1; omega), e2, ob3]
    have er : aRch (aCan ar0 m) (aSt S0 ar0) (aGd g) (k + 1) P = (aGd g P || (List.range' 0 13).any (fun c => aCan ar0 m P c && aRch (aCan ar0 m) (aSt S0 ar0) (aGd g) k (aSt S0 ar0 P c))) := by
      rw [← List.range_eq_range']
      rfl
    rw [er]
    by_cases z : aGd g P = true
    · rw [if_pos z, if_neg (by decide), z, Bool.true_or, if_pos rfl]
      exact ⟨S2, ar1, rfl, vD_H (rH_tr H1 H2)⟩
    · have z' : aGd g P = false := by simpa using z
      rw [if_neg z, if_pos rfl, z', Bool.false_or]
      have go : ∀ r c nn S ar, c + r = 13 → r < nn → (∀ j, j < 38 → ar (730 + d) j = P j) → stS S0 S → stA ar0 ar → ∃ S9 ar9, rF_92_31 (rG_92 fu) nn (nI d) (nI (k + 1)) (nI c) S ar = some (if (List.range' c r).any (fun c => aCan ar0 m P c && aRch (aCan ar0 m) (aSt S0 ar0) (aGd g) k (aSt S0 ar0 P c)) = true then 1 else 0, S9, ar9) ∧ vD d S ar S9 ar9 := by
        intro r
        induction r with
        | zero =>
          intro c nn S ar h1 h2 hr hS hA
          obtain ⟨nn, rfl⟩ : ∃ j, nn = j + 1 := ⟨nn - 1, by omega⟩
          unfold rF_92_31
          rw [if_pos (show (13 : Int32) ≤ nI c from nI_le (a := 13) (by omega) (by omega))]
          exact ⟨S, ar, rfl, rF8_rf S, fun _ _ _ => rfl⟩
        | succ r ihr =>
          intro c nn S ar h1 h2 hr hS hA
          obtain ⟨nn, rfl⟩ : ∃ j, nn = j + 1 := ⟨nn - 1, by omega⟩
          obtain ⟨ar1, e1, W1, H1⟩ := rW_load (b := 730 + d) (by omega) hS hA hr h38 hW
          have r1 : ∀ j, j < 38 → ar1 (730 + d) j = P j := fun j hj => by rw [H1.2 (730 + d) (by omega)]; exact hr j hj
          unfold rF_92_31
          rw [if_neg (show ¬ (13 : Int32) ≤ nI c from nI_ge (b := 13) (by omega) (by decide)), if_neg (nI_nle (by omega) (by omega)), if_pos (iB_nI (show d < 4 by omega) (by decide)), iN_nI (by omega), e1, ob2, rW_can hE W1 (show c < 13 by omega), ob3, any_s, nI_1]
          by_cases y : aCan ar0 m P c = true
          · obtain ⟨v, S3, ar3, e3, W3, H3⟩ := rW_step hE W1 (show c < 13 by omega) y
            have H13 := rH_tr H1 H3
            rw [if_pos y, if_neg (by decide), e3, ob3, nI_1, if_pos (iB_nI (show d + 1 < 4 by omega) (by decide)), iN_nI (by omega), r_keep (by decide) (by omega), ob2, show nI (k + 1) - (1 : Int32) = nI k from nI_pred k]
            generalize hA4 : va_up ar3 (730 + (d + 1)) (fun j => if j < 38 then ar3 13 j else ar3 (730 + (d + 1)) j) = ar4
            have D4 : vD d S ar S3 ar4 := ⟨H13.1, fun b x w => by rw [← hA4, va_up_ne _ _ (by omega)]; exact H13.2 b x⟩
            obtain ⟨S5, ar5, f1, f2⟩ := ih (d + 1) fu S3 ar4 _ (by omega) (by omega) (fun j hj => by rw [← hA4, va_up_self, if_pos hj, ← W3.2.2.1]; exact (c38_k hj).symm) c38_t W3.2.2.2 (stS_D hS D4) (stA_D hA D4)
            have D5 := vD_tr D4 (vD_s f2)
            rw [f1, ob3]
            by_cases x : aRch (aCan ar0 m) (aSt S0 ar0) (aGd g) k (aSt S0 ar0 P c) = true
            · rw [if_pos x, if_neg (by decide), y, x, Bool.true_and, Bool.true_or, if_pos rfl]
              exact ⟨S5, ar5, rfl, D5⟩
            · have x' : aRch (aCan ar0 m) (aSt S0 ar0) (aGd g) k (aSt S0 ar0 P c) = false := by simpa using x
              rw [if_neg x, if_pos rfl, x', Bool.and_false, Bool.false_or]
              obtain ⟨S6, ar6, g1, g2⟩ := ihr (c + 1) nn S5 ar5 (by omega) (by omega) (fun j hj => by rw [D5.2 (730 + d) (by omega) (by omega)]; exact hr j hj) (stS_D hS D5) (stA_D hA D5)
              exact ⟨S6, ar6, g1, vD_tr D5 g2⟩
          · have y' : aCan ar0 m P c = false := by simpa using y
            rw [if_neg y, if_pos rfl, y', Bool.false_and, Bool.false_or]
            obtain ⟨S6, ar6, g1, g2⟩ := ihr (c + 1) nn S ar1 (by omega) (by omega) r1 hS W1.2.1
            exact ⟨S6, ar6, g1, vD_tr (vD_H H1) g2⟩
      obtain ⟨S6, ar6, g1, g2⟩ := go 13 0 oF S2 ar1 (by omega) (by unfold oF; omega) (fun j hj => by rw [H1.2 (730 + d) (by omega)]; exact hr j hj) W2.1 W2.2.1
      exact ⟨S6, ar6, g1, vD_tr (vD_H (rH_tr H1 H2)) g2⟩
/-- what searching and reaching leave -/
def vZ (S : Nat → Int32) (ar : jSc) (S9 : Nat → Int32) (ar9 : jSc) : Prop := (∀ k, (k < 3 ∨ (8 ≤ k ∧ k ≤ 16) ∨ (18 ≤ k ∧ k ≤ 21) ∨ 29 ≤ k) → ¬ (48 ≤ k ∧ k ≤ 50) → S9 k = S k) ∧ ∀ b, b ≠ 13 → ¬ (108 ≤ b ∧ b ≤ 710) → ¬ (730 ≤ b ∧ b ≤ 733) → ar9 b = ar b
theorem vZ_X {S S9 : Nat → Int32} {ar ar9 : jSc} (h : vX S ar S9 ar9) : vZ S ar S9 ar9 := ⟨h.1, fun b x y _ => h.2 b x y⟩
theorem vZ_tr {S S2 S3 : Nat → Int32} {a a2 a3 : jSc} (h : vZ S a S2 a2) (h2 : vZ S2 a2 S3 a3) : vZ S a S3 a3 := ⟨fun k x y => (h2.1 k x y).trans (h.1 k x y), fun b x y z => (h2.2 b x y z).trans (h.2 b x y z)⟩
theorem stS_Z {S9 : Nat → Int32} {ar9 : jSc} (h : stS S0 S) (k : vZ S ar S9 ar9) : stS S0 S9 := stS_tr h ⟨k.1 16 (by omega) (by omega), k.1 38 (by omega) (by omega), k.1 29 (by omega) (by omega)⟩
theorem stA_Z {S9 : Nat → Int32} {ar9 : jSc} (h : stA ar0 ar) (k : vZ S ar S9 ar9) : stA ar0 ar9 := stA_tr h (fun b hb => k.2 b (by omega) (by omega) (by omega))
def vK (S : Nat → Int32) (ar : jSc) (S9 : Nat → Int32) (ar9 : jSc) : Prop := rF8 S S9 ∧ ∀ b, b ≠ 13 → ¬ (730 ≤ b ∧ b ≤ 733) → ar9 b = ar b
theorem r_stk (hE : cE pr n tx g p m S0 ar0 sc car mr) {k : Nat} (hk : k ≤ 3) {E : List eT} : ∀ (r pre : List eT) (nn : Nat) (x2 : Int32) (S : Nat → Int32) (ar : jSc), E = pre ++ r → r.length < nn → rB E S ar → stS S0 S → stA ar0 ar →
    ∃ S9 ar9, rF_93_4 nn (nI k) x2 (nI pre.length) S ar = some (x2 + nI (aStk (aCan ar0 m) (aSt S0 ar0) (aGd g) k r), S9, ar9) ∧ vK S ar S9 ar9 := by
  intro r
  induction r with
  | nil =>
    intro pre nn x2 S ar hEq hn hB hS hA
    obtain ⟨nn, rfl⟩ : ∃ j, nn = j + 1 := ⟨nn - 1, by simp at hn; omega⟩
    have l6 := hB.2.1
    rw [List.append_nil] at hEq
    subst hEq
    unfold rF_93_4
    rw [hB.1, if_pos (nI_le (Nat.le_refl _) (by omega))]
    refine ⟨S, ar, ?_, rF8_rf S, fun _ _ _ => rfl⟩
    show _ = some (x2 + 0, S, ar)
    rw [Int32.add_zero]
  | cons e r ih =>
    intro pre nn x2 S ar hEq hn hB hS hA
    simp only [List.length_cons] at hn
    obtain ⟨nn, rfl⟩ : ∃ j, nn = j + 1 := ⟨nn - 1, by omega⟩
    have l6 := hB.2.1
    have hl : E.length = pre.length + (r.length + 1) := by rw [hEq, List.length_append, List.length_cons]
    have he : E[pre.length]? = some e := by rw [hEq, List.getElem?_append_right (Nat.le_refl _)]; simp
    obtain ⟨b1, b2, b3, b4, b5, b6, b7⟩ := hB.2.2 _ e he
    unfold rF_93_4
    rw [hB.1, if_neg (nI_ge (by omega) (by omega))]
    generalize hk4 : (fun x1_ x2_ x3_ S_ ar_ => rF_93_4 nn x1_ x2_ x3_ S_ ar_) = k4
    have cp : ∀ t j mm ar1, j + t = 38 → t < mm → (∀ b, b ≠ 730 → ar1 b = ar b) → (∀ i, i < j → ar1 730 i = e.1 i) → ∃ ar2, rF_93_15 k4 mm (nI k) x2 (nI pre.length) (nI j) S ar1 = rF_93_15 k4 1 (nI k) x2 (nI pre.length) (nI 38) S ar2 ∧ (∀ b, b ≠ 730 → ar2 b = ar b) ∧ ∀ i, i < 38 → ar2 730 i = e.1 i := by
      intro t
      induction t with
      | zero =>
        intro j mm ar1 h1 h2 h3 h4
        obtain ⟨mm, rfl⟩ : ∃ j, mm = j + 1 := ⟨mm - 1, by omega⟩
        have j38 : j = 38 := by omega
        subst j38
        refine ⟨ar1, ?_, h3, h4⟩
        unfold rF_93_15
        rfl
      | succ t iht =>
        intro j mm ar1 h1 h2 h3 h4
        obtain ⟨mm, rfl⟩ : ∃ j, mm = j + 1 := ⟨mm - 1, by omega⟩
        obtain ⟨ar2, f1, f2, f3⟩ := iht (j + 1) mm (j_u2 ar1 730 j (ar1 (108 + pre.length) j)) (by omega) (by omega) (fun b hb => (j_u2_row _ _ _ _ hb).trans (h3 b hb)) (fun i hi => by
          by_cases c : i = j
          · subst c; rw [u2_eq, h3 (108 + pre.length) (by omega)]; exact b1 i (by omega)
          · rw [u2_nk c]; exact h4 i (by omega))
        refine ⟨ar2, ?_, f2, f3⟩
        rw [← f1]
        conv => lhs; unfold rF_93_15
        rw [if_neg (show ¬ (38 : Int32) ≤ nI j from nI_ge (b := 38) (by omega) (by decide)), if_pos (iB_nI (show pre.length < 600 by omega) (by decide)), if_pos (iB_nI (show j < 38 by omega) (by decide)), if_pos (iB_nI (show j < 38 by omega) (by decide)), nI_1, iN_nI (by omega), iN_nI (by omega)]
    obtain ⟨ar2, f1, f2, f3⟩ := cp 38 0 oF ar (by omega) (by unfold oF; omega) (fun _ _ => rfl) (fun i hi => absurd hi (by omega))
    have f1 : rF_93_15 k4 oF (nI k) x2 (nI pre.length) (0 : Int32) S ar = _ := f1
    obtain ⟨S3, ar3, g1, g2⟩ := r_rch hE k 0 40 S ar2 e.1 (by omega) (by omega) f3 b5 b6 hS (stA_tr hA (fun b hb => f2 b (by omega)))
    have K3 : vK S ar S3 ar3 := ⟨g2.1, fun b x y => (g2.2 b x (by omega)).trans (f2 b (by omega))⟩
    have B3 : rB E S3 ar3 := by
      refine ⟨(K3.1.1 48 (by decide)).trans hB.1, hB.2.1, fun i f hf => ?_⟩
      have il := (List.getElem?_eq_some_iff.mp hf).1
      rw [K3.2 (108 + i) (by omega) (by omega), K3.2 708 (by decide) (by decide), K3.2 709 (by decide) (by decide), K3.2 710 (by decide) (by decide)]
      exact hB.2.2 i f hf
    have S3' : stS S0 S3 := stS_tr hS (stS_7 K3.1.1)
    have A3' : stA ar0 ar3 := stA_tr hA (fun b hb => K3.2 b (by omega) (by omega))
    rw [f1]
    unfold rF_93_15
    rw [if_pos (show (38 : Int32) ≤ nI 38 by decide)]
    have g1 : rG_92 40 (0 : Int32) (nI k) S ar2 = _ := g1
    rw [g1, ob3, ← hk4]
    have e1 : (pre ++ [e]).length = pre.length + 1 := by simp
    show ∃ S9 ar9, _ = some (x2 + nI ((if aRch (aCan ar0 m) (aSt S0 ar0) (aGd g) k e.1 = true then 0 else 1) + aStk (aCan ar0 m) (aSt S0 ar0) (aGd g) k r), S9, ar9) ∧ _
    by_cases z : aRch (aCan ar0 m) (aSt S0 ar0) (aGd g) k e.1 = true
    · obtain ⟨S9, ar9, d1, d2⟩ := ih (pre ++ [e]) nn x2 S3 ar3 (by rw [hEq]; simp) (by omega) B3 S3' A3'
      rw [e1] at d1
      simp only [if_pos z, if_neg (show ¬ (1 : Int32) = 0 by decide), Int32.add_zero, nI_1, Nat.zero_add]
      exact ⟨S9, ar9, d1, rF8_tr K3.1 d2.1, fun b x y => (d2.2 b x y).trans (K3.2 b x y)⟩
    · obtain ⟨S9, ar9, d1, d2⟩ := ih (pre ++ [e]) nn (x2 + 1) S3 ar3 (by rw [hEq]; simp) (by omega) B3 S3' A3'
      rw [e1] at d1
      simp only [if_neg z, if_true, nI_1]
      refine ⟨S9, ar9, ?_, rF8_tr K3.1 d2.1, fun b x y => (d2.2 b x y).trans (K3.2 b x y)⟩
      rw [d1, ← nI_add]
      show some (x2 + 1 + _, _) = some (x2 + (1 + _), _)
      rw [Int32.add_assoc]
theorem r_stuck {k : Nat} (hk : k ≤ 3) (hE : cE pr n tx g p m S0 ar0 sc car mr) (h16 : S0 16 = 0) (h1 : 1 ≤ most) (h6 : most ≤ 600) (hn : nn0 ≤ 8) (hS : stS S0 S) (hA : stA ar0 ar) :
    ∃ S9 ar9, rF_94 (nI nn0) (nI k) (nI most) S ar = some (if (aRs S0 ar0 m g true most nn0).2.2 = true then -2 else nI (aStk (aCan ar0 m) (aSt S0 ar0) (aGd g) k (aRs S0 ar0 m g true most nn0).1), S9, ar9) ∧ vZ (upd S 0 0) ar S9 ar9 := by
  unfold rF_94
  rw [r_88 h1 h6 hn, ob3, if_neg (by decide)]
  unfold rF_4
  rw [if_neg (nI_pos (by omega)), if_neg (show ¬ (3 : Int32) < nI k from nI_nlt (a := 3) (by omega) (by decide)), ob3, if_neg (by decide)]
  unfold rF_94_29
  rw [r_ok, ob3, if_pos rfl, up_16 ((stS_0 hS).1.trans h16)]
  obtain ⟨S9, ar9, e1, e2, e3⟩ := r_expl hE (wh := true) h1 h6 hn (stS_0 hS) hA
  have e1 : rF_87 (nI nn0) (nI most) 0 (upd S 0 0) ar = some (S9, ar9) := e1
  rw [e1, ob2, e2.2.2]
  rcases hb : (aRs S0 ar0 m g true most nn0).2.2 with _ | _
  · rw [if_pos (show (if false = true then (1 : Int32) else 0) = 0 by decide)]
    have l6 := e2.1.2.1
    obtain ⟨S8, ar8, f1, f2⟩ := r_stk hE hk (aRs S0 ar0 m g true most nn0).1 [] oF 0 S9 ar9 rfl (by unfold oF; omega) e2.1 (stS_X (stS_0 hS) e3) (stA_X hA e3)
    unfold rF_93
    have f1 : rF_93_4 oF (nI k) (0 : Int32) (0 : Int32) S9 ar9 = _ := f1
    rw [f1, ob3]
    refine ⟨S8, ar8, ?_, vZ_tr (vZ_X e3) ⟨fun j x _ => rF8_k.mp f2.1 j x, fun b x _ z => f2.2 b x z⟩⟩
    rw [Int32.zero_add]
    rfl
  · rw [if_neg (show ¬ (if true = true then (1 : Int32) else 0) = 0 by decide)]
    exact ⟨S9, ar9, rfl, vZ_X e3⟩
end RA
