/-! ClickOrders: the hand does an order. -/
def hFs (sc sc2 : jSc) : Prop := ∀ a k, ¬ (a = 757 ∧ (k = 3 ∨ k = 4 ∨ k = 5 ∨ k = 6 ∨ k = 9)) → sc2 a k = sc a k
def hFa (pp : Nat) (car car2 : jSc) : Prop := ∀ b, b ≠ 758 → b ≠ pp + 1 → car2 b = car b
theorem hFs_rf (sc : jSc) : hFs sc sc := fun _ _ _ => rfl
theorem hFa_rf (pp : Nat) (car : jSc) : hFa pp car car := fun _ _ _ => rfl
theorem hFs_tr {a b c : jSc} (h : hFs a b) (h2 : hFs b c) : hFs a c := fun x k w => (h2 x k w).trans (h x k w)
theorem hFa_tr {pp : Nat} {a b c : jSc} (h : hFa pp a b) (h2 : hFa pp b c) : hFa pp a c := fun x v w => (h2 x v w).trans (h x v w)
theorem hFs_u {sc f : jSc} {k0 : Nat} {x : Int32} (hk : k0 = 3 ∨ k0 = 4 ∨ k0 = 5 ∨ k0 = 6 ∨ k0 = 9) (h : hFs sc f) : hFs sc (j_u2 f 757 k0 x) := by
  intro a k hn
  by_cases e : a = 757
  · rw [u2_nk (fun z => hn ⟨e, by omega⟩)]; exact h a k hn
  · rw [u2_na e]; exact h a k hn
theorem hFa_u {pp k0 : Nat} {car f : jSc} {x : Int32} (h : hFa pp car f) : hFa pp car (j_u2 f (pp + 1) k0 x) := fun b h1 h2 => (j_u2_row _ _ _ _ h2).trans (h b h1 h2)
/-- what the hand and the reference share while orders work on the page pp -/
def hI (cb : Bool) (c27 c28 : Int32) (S : Nat → Int32) (ar : jSc) (pp : Nat) (sc car : jSc) : Prop :=
  pgR (ar 13) (car (pp + 1)) ∧ (cb = true → pgA (ar 13) (car (pp + 1))) ∧ S 27 = c27 ||| sc 757 3 ∧ S 28 = c28 ||| sc 757 4 ∧ sc 757 7 = S 25 ∧ sc 757 8 = S 26 ∧ ∀ l, l < 4 → bt (sc 736 8) l = m_fr ar (iN (S 38)) 2 (nI l)
/-- the windows: what is stale for the one that works, and for the other -/
def hWn (o0 : Nat → Bool) (d57 : Int32) (S : Nat → Int32) (ar sc : jSc) : Prop := (S 29 = -1 ∧ sc 757 5 = 0 ∧ S 57 = d57) ∨ ∃ w, w < 2 ∧ S 29 = nI w ∧ S 57 = d57 + sc 757 6 ∧ (∀ k, k < 4 → bt (sc 757 5) k = decide (ar 716 k = nI (1 - w) ∧ ar (718 + w) k = 0)) ∧ ∀ k, k < 4 → decide (ar 716 k = nI w ∧ ar (719 - w) k = 0) = (o0 k || bt (sc 757 4) (16 + k))
theorem m_fr_c {ar ar2 : jSc} (h1 : ar2 106 = ar 106) (h2 : ar2 102 = ar 102) (h3 : ar2 104 = ar 104) {m : Nat} {k l : Int32} : m_fr ar2 m k l = m_fr ar m k l := by
  have go : ∀ c i, m_fa ar2 k l i c = m_fa ar k l i c := by
    intro c
    induction c with
    | zero => intro i; rfl
    | succ c ih => intro i; rw [m_fa_s, m_fa_s, ih, h1, h2, h3]
  exact go m 0
section HD
variable {cb : Bool} {c27 c28 : Int32} {S S2 : Nat → Int32} {ar ar2 : jSc} {pp : Nat} {sc car sc2 car2 : jSc} {mr : Nat → Nat} {al : jAl} {o0 : Nat → Bool} {d57 : Int32}
theorem hI_s (h : hI cb c27 c28 S ar pp sc car) (hS : ∀ k, k ≠ 24 → k ≠ 28 → k ≠ 57 → S2 k = S k) (hR : rowF ar ar2) (hF : hFs sc sc2) (h3 : sc2 757 3 = sc 757 3) (h4 : S2 28 = c28 ||| sc2 757 4) (hp : pgR (ar2 13) (car2 (pp + 1))) (ha : cb = true → pgA (ar2 13) (car2 (pp + 1))) : hI cb c27 c28 S2 ar2 pp sc2 car2 := by
  obtain ⟨-, -, a3, a4, a5, a6, a7⟩ := h
  refine ⟨hp, ha, by rw [hS 27 (by decide) (by decide) (by decide), h3]; exact a3, h4, ?_, ?_, fun l hl => ?_⟩
  · rw [hF 757 7 (by decide), hS 25 (by decide) (by decide) (by decide)]; exact a5
  · rw [hF 757 8 (by decide), hS 26 (by decide) (by decide) (by decide)]; exact a6
  · rw [hF 736 8 (by decide), hS 38 (by decide) (by decide) (by decide), m_fr_c (hR 106 rfl rfl rfl rfl) (hR 102 rfl rfl rfl rfl) (hR 104 rfl rfl rfl rfl)]
    exact a7 l hl
theorem hW_s (h : hWn o0 d57 S ar sc) (h57 : S2 57 = S 57) (h29 : S2 29 = S 29) (h1 : ar2 716 = ar 716) (h2 : ar2 718 = ar 718) (h3 : ar2 719 = ar 719) (h5 : sc2 757 5 = sc 757 5) (h6 : sc2 757 6 = sc 757 6) (h4 : ∀ k, k < 4 → bt (sc2 757 4) (16 + k) = bt (sc 757 4) (16 + k)) : hWn o0 d57 S2 ar2 sc2 := by
  rcases h with ⟨a1, a2, a3⟩ | ⟨w, a1, a2, a3, a4, a5⟩
  · exact Or.inl ⟨h29.trans a1, h5.trans a2, h57.trans a3⟩
  · have r : ∀ j, j = 718 ∨ j = 719 → ar2 j = ar j := fun j hj => by rcases hj with rfl | rfl <;> assumption
    refine Or.inr ⟨w, a1, h29.trans a2, by rw [h57, h6]; exact a3, fun k hk => ?_, fun k hk => ?_⟩
    · rw [h5, h1, r (718 + w) (by omega)]; exact a4 k hk
    · rw [h1, r (719 - w) (by omega), h4 k hk]; exact a5 k hk
/-- what the hand does with the order o says the reference's effect -/
def hDo (cb : Bool) (c27 c28 : Int32) (o0 : Nat → Bool) (d57 : Int32) (pp : Nat) (sc car : jSc) (mr : Nat → Nat) (al : jAl) (x : Option (Int32 × jSc × (Nat → Nat) × jSc × jAl)) (S : Nat → Int32) (e : Int32 × Int32 × Int32 × jSc) : Prop :=
  ∃ r sc2 car2, x = some (r, sc2, mr, car2, al) ∧ ((r = 1 ∧ e.2.1 = 0 ∧ hI cb c27 c28 (sE S e) e.2.2.2 pp sc2 car2) ∨ (r = 0 ∧ e.2.1 = 1 ∧ hI cb c27 c28 (sE S e) e.2.2.2 pp sc2 (j_u2 car2 (pp + 1) 14 1))) ∧ hWn o0 d57 (sE S e) e.2.2.2 sc2 ∧ sc2 757 9 = nI 0 ∧ hFs sc sc2 ∧ hFa pp car car2
theorem sE_o {e : Int32 × Int32 × Int32 × jSc} {k : Nat} (h1 : k ≠ 24) (h2 : k ≠ 28) (h3 : k ≠ 57) : sE S e k = S k := sE_k (by simpa using h2) (by simpa using h1) (by simpa using h3)
theorem wb_or {d : Nat} {b x : Int32} (h : S 28 = c28 ||| sc 757 4) : m_wb S b = c28 ||| (sc 757 4 ||| (1 <<< (b &&& 31))) := by
  unfold m_wb
  rw [h, or_as]
/-- set -/
theorem h_18 {m v : Int32} (hm : o_mk 18 m) (h24 : S 24 = 0) (hi : hI cb c27 c28 S ar pp sc car) (hw : hWn o0 d57 S ar sc) (hpp : pp ≠ 757) (h9 : sc 757 9 = nI 1) (hs : h_st car [v]) : hDo cb c27 c28 o0 d57 pp sc car mr al (xF_216 pp 18 m sc mr car al) S (m_ef 18 m v S ar) := by
  obtain ⟨d, hd, rfl⟩ := hm
  have ee : m_ef 18 (nI d) v S ar = (m_wb S (nI d), S 24, S 57, j_u2 ar 13 d v) := by
    show (m_wb S (nI d), S 24, S 57, j_u2 ar 13 (iN (nI d)) v) = _
    rw [iN_nI (by omega)]
  have i1 := ix_c d (by omega)
  have fs : hFs sc (j_u2 (j_u2 sc 757 4 (sc 757 4 ||| (1 <<< (nI d &&& 31)))) 757 9 (nI 0)) := hFs_u (by decide) (hFs_u (by decide) (hFs_rf sc))
  rw [ee]
  refine ⟨1, j_u2 (j_u2 sc 757 4 (sc 757 4 ||| (1 <<< (nI d &&& 31)))) 757 9 (nI 0), j_u2 car (pp + 1) d v, ?_, Or.inl ⟨rfl, h24, ?_⟩, ?_, u2_eq, fs, hFa_u (hFa_rf pp car)⟩
  · unfold xF_216
    rw [if_pos rfl, h_pop (st := []) (x := v) ((u2_nk (by decide)).trans h9) (by decide) hs, ob5, if_pos (iB_nI (by omega) (by decide)), iN_nI (by omega)]
    rfl
  · refine hI_s hi (fun k a b c => sE_o a b c) (rowF_u (Or.inl rfl)) fs (by rw [u2_nk (by decide), u2_nk (by decide)]) ?_ ?_ (fun hcb => ?_)
    · rw [u2_nk (by decide), u2_eq]
      show m_wb S (nI d) = _
      rw [wb_or (d := 0) (x := 0) hi.2.2.2.1]
    · show pgR (j_u2 ar 13 d v 13) (j_u2 car (pp + 1) d v (pp + 1))
      rw [u2_up, u2_up]
      exact pgR_lo hi.1 (by omega) (by omega)
    · show pgA (j_u2 ar 13 d v 13) (j_u2 car (pp + 1) d v (pp + 1))
      rw [u2_up, u2_up]
      exact pgA_lo (hi.2.1 hcb) (by omega) (by omega)
  · show hWn o0 d57 (sE S _) (j_u2 ar 13 d v) _
    refine hW_s hw rfl rfl (j_u2_row _ _ _ _ (by decide)) (j_u2_row _ _ _ _ (by decide)) (j_u2_row _ _ _ _ (by decide)) (by rw [u2_nk (by decide), u2_nk (by decide)]) (by rw [u2_nk (by decide), u2_nk (by decide)]) (fun k hk => ?_)
    rw [u2_nk (by decide), u2_eq, bt_or (by omega) (by omega)]
    simp [show ¬ 16 + k = d by omega]
/-- show, hide, grey, live -/
theorem h_th {m v : Int32} {o : Nat} (ho : 19 ≤ o ∧ o ≤ 22) (hm : o_mk o m) (h24 : S 24 = 0) (hi : hI cb c27 c28 S ar pp sc car) (hw : hWn o0 d57 S ar sc) (h9 : sc 757 9 = nI 0) : hDo cb c27 c28 o0 d57 pp sc car mr al (xF_216 pp (nI o) m sc mr car al) S (m_ef o m v S ar) := by
  have hm : ∃ d, d < 8 ∧ m = nI d := by
    unfold o_mk at hm
    rw [if_pos (by omega)] at hm
    exact hm
  obtain ⟨d, hd, rfl⟩ := hm
  have key : ∀ (j : Nat) (x : Int32), j < 10 → 8 ≤ j → (xF_216 pp (nI o) (nI d) sc mr car al = some ((1 : Int32), j_u2 sc 757 4 (sc 757 4 ||| (1 <<< ((8 + nI d) &&& 31))), mr, j_u2 car (pp + 1) j x, al)) → m_ef o (nI d) v S ar = (m_wb S (8 + nI d), S 24, S 57, j_u2 ar 13 j x) → hDo cb c27 c28 o0 d57 pp sc car mr al (xF_216 pp (nI o) (nI d) sc mr car al) S (m_ef o (nI d) v S ar) := by
    intro j x hj hj2 e1 e2
    have i1 := ix_c j (by omega)
    have fs : hFs sc (j_u2 sc 757 4 (sc 757 4 ||| (1 <<< ((8 + nI d) &&& 31)))) := hFs_u (by decide) (hFs_rf sc)
    rw [e2]
    refine ⟨1, _, _, e1, Or.inl ⟨rfl, h24, ?_⟩, ?_, (u2_nk (by decide)).trans h9, fs, hFa_u (hFa_rf pp car)⟩
    · refine hI_s hi (fun k a b c => sE_o a b c) (rowF_u (Or.inl rfl)) fs (by rw [u2_nk (by decide)]) ?_ ?_ (fun hcb => ?_)
      · rw [u2_eq]
        show m_wb S (8 + nI d) = _
        rw [wb_or (d := 0) (x := 0) hi.2.2.2.1]
      · show pgR (j_u2 ar 13 j x 13) (j_u2 car (pp + 1) j x (pp + 1))
        rw [u2_up, u2_up]
        exact pgR_lo hi.1 (by omega) (by omega)
      · show pgA (j_u2 ar 13 j x 13) (j_u2 car (pp + 1) j x (pp + 1))
        rw [u2_up, u2_up]
        exact pgA_lo (hi.2.1 hcb) (by omega) (by omega)
    · show hWn o0 d57 (sE S _) (j_u2 ar 13 j x) _
      refine hW_s hw rfl rfl (j_u2_row _ _ _ _ (by decide)) (j_u2_row _ _ _ _ (by decide)) (j_u2_row _ _ _ _ (by decide)) (by rw [u2_nk (by decide)]) (by rw [u2_nk (by decide)]) (fun k hk => ?_)
      have e8 : (8 : Int32) + nI d = nI (8 + d) := nI_add 8 d
      rw [u2_eq, e8, bt_or (by omega) (by omega)]
      simp [show ¬ 16 + k = 8 + d by omega]
  have c8 : car (pp + 1) 8 = ar 13 8 := hi.1.1 8 (by decide)
  have c9 : car (pp + 1) 9 = ar 13 9 := hi.1.1 9 (by decide)
  rcases (show o = 19 ∨ o = 20 ∨ o = 21 ∨ o = 22 by omega) with rfl | rfl | rfl | rfl
  · refine key 8 (ar 13 8 ||| (1 <<< (nI d &&& 31))) (by decide) (by decide) ?_ rfl
    unfold xF_216 xF_217
    rw [if_neg (by decide), if_pos (by decide), if_pos (by decide), ob4, sh8 d hd, c8]
  · refine key 8 (ar 13 8 &&& ((1 <<< (nI d &&& 31)) ^^^ (-1))) (by decide) (by decide) ?_ rfl
    unfold xF_216 xF_217
    rw [if_neg (by decide), if_neg (by decide), if_pos (by decide), if_neg (by decide), if_pos (by decide), ob4, sh8 d hd, c8]
  · refine key 9 (ar 13 9 ||| (1 <<< (nI d &&& 31))) (by decide) (by decide) ?_ rfl
    unfold xF_216 xF_217
    rw [if_neg (by decide), if_neg (by decide), if_neg (by decide), if_pos (by decide), if_neg (by decide), if_neg (by decide), if_pos (by decide), ob4, sh8 d hd, c9]
  · refine key 9 (ar 13 9 &&& ((1 <<< (nI d &&& 31)) ^^^ (-1))) (by decide) (by decide) ?_ rfl
    unfold xF_216 xF_217
    rw [if_neg (by decide), if_neg (by decide), if_neg (by decide), if_neg (by decide), if_pos (by decide), if_neg (by decide), if_neg (by decide), if_neg (by decide), ob4, sh8 d hd, c9]
/-- where the handler ends: the page failed -/
theorem h_fl {sc3 : jSc} {e : Int32 × Int32 × Int32 × jSc} {x : Option (Int32 × jSc × (Nat → Nat) × jSc × jAl)} (hx : x = some (0, sc3, mr, car, al)) (he : e = (S 28, 1, S 57, j_u2 ar 13 37 1)) (hf : hFs sc sc3) (h3 : ∀ k, k = 3 ∨ k = 4 ∨ k = 5 ∨ k = 6 → sc3 757 k = sc 757 k) (h9 : sc3 757 9 = nI 0) (hi : hI cb c27 c28 S ar pp sc car) (hw : hWn o0 d57 S ar sc) : hDo cb c27 c28 o0 d57 pp sc car mr al x S e := by
  subst he
  refine ⟨0, sc3, car, hx, Or.inr ⟨rfl, rfl, ?_⟩, ?_, h9, hf, hFa_rf pp car⟩
  · refine hI_s hi (fun k a b c => sE_o a b c) (rowF_u (Or.inl rfl)) hf (h3 3 (by decide)) ?_ ?_ (fun hcb => ?_)
    · rw [h3 4 (by decide)]; exact hi.2.2.2.1
    · show pgR (j_u2 ar 13 37 1 13) (j_u2 car (pp + 1) 14 1 (pp + 1))
      rw [u2_up, u2_up]
      exact pgR_br hi.1
    · show pgA (j_u2 ar 13 37 1 13) (j_u2 car (pp + 1) 14 1 (pp + 1))
      rw [u2_up, u2_up]
      exact pgA_lo (hi.2.1 hcb) (by decide) (by decide)
  · show hWn o0 d57 (sE S _) (j_u2 ar 13 37 1) _
    exact hW_s hw rfl rfl (j_u2_row _ _ _ _ (by decide)) (j_u2_row _ _ _ _ (by decide)) (j_u2_row _ _ _ _ (by decide)) (h3 5 (by decide)) (h3 6 (by decide)) (fun k hk => by rw [h3 4 (by decide)])
theorem h_27 {m v : Int32} (hi : hI cb c27 c28 S ar pp sc car) (hw : hWn o0 d57 S ar sc) (h9 : sc 757 9 = nI 0) : hDo cb c27 c28 o0 d57 pp sc car mr al (xF_216 pp 27 m sc mr car al) S (m_ef 27 m v S ar) :=
  h_fl (sc3 := sc) rfl rfl (hFs_rf sc) (fun _ _ => rfl) h9 hi hw
/-- a clock -/
theorem h_23 {m v : Int32} (hm : o_mk 23 m) (h24 : S 24 = 0) (hi : hI cb c27 c28 S ar pp sc car) (hw : hWn o0 d57 S ar sc) (h9 : sc 757 9 = nI 0) : hDo cb c27 c28 o0 d57 pp sc car mr al (xF_216 pp 23 m sc mr car al) S (m_ef 23 m v S ar) := by
  obtain ⟨d, h, hd, hh, rfl⟩ := hm
  obtain ⟨n, hn, en⟩ := hi.1.2.2.1.2
  have c19 : car (pp + 1) 19 = nI n := (hi.1.1 19 (by decide)).trans en
  have e3 : nI n = (3 : Int32) ↔ n = 3 := nI_eq (by omega) (by decide)
  have l3 : nI n < (3 : Int32) ↔ n < 3 := nI_ltI (by omega) (by decide)
  have e32 : (32 : Int32) + nI n = nI (32 + n) := nI_add 32 n
  have e47 : (47 : Int32) + nI n = nI (47 + n) := nI_add 47 n
  have ex : xF_216 pp 23 (nI (d * 1000 + h)) sc mr car al = o_b5 (xF_239 pp (nI (d * 1000 + h)) (sc 757 8) sc mr car al) (fun v a b c d => if v = 0 ∨ v = 1 then some (v, a, b, c, d) else none) := rfl
  have em : m_ef 23 (nI (d * 1000 + h)) v S ar = (if ar 13 26 = 3 then (S 28, 1, S 57, j_u2 ar 13 37 1) else (S 28, S 24, S 57, j_u2 (j_u2 (j_u2 (j_u2 ar 13 (27 + iN (ar 13 26)) (nI (iN (nI (d * 1000 + h)) / 1000))) 13 (30 + iN (ar 13 26)) (nI (iN (nI (d * 1000 + h)) % 1000))) 13 (50 + iN (ar 13 26)) (S 26)) 13 26 (ar 13 26 + 1))) := rfl
  rw [en, iN_nI (by omega), iN_nI (by omega), show (d * 1000 + h) / 1000 = d by omega, show (d * 1000 + h) % 1000 = h by omega, nI_1] at em
  unfold xF_239 at ex
  rw [c19, if_neg (nI_pos (by omega))] at ex
  by_cases c : n = 3
  · rw [if_neg (fun z => absurd (l3.mp z) (by omega)), ob5, if_pos (by decide)] at ex
    rw [if_pos (e3.mpr c)] at em
    exact h_fl (sc3 := sc) ex em (hFs_rf sc) (fun _ _ => rfl) h9 hi hw
  · rw [if_pos (l3.mpr (by omega)), e32, e47, if_pos (iB_nI (by omega) (by decide)), if_pos (iB_nI (by omega) (by decide)), ob5, if_pos (by decide), iN_nI (by omega), iN_nI (by omega), nI_1] at ex
    rw [if_neg (fun z => c (e3.mp z))] at em
    rw [em]
    have e8 := hi.2.2.2.2.2.1
    refine ⟨1, _, _, ex, Or.inl ⟨rfl, h24, ?_⟩, ?_, h9, hFs_rf sc, hFa_u (hFa_u (hFa_u (hFa_rf pp car)))⟩
    · refine hI_s hi (fun k a b c => sE_o a b c) (rowF_tr (rowF_tr (rowF_tr (rowF_u (Or.inl rfl)) (rowF_u (Or.inl rfl))) (rowF_u (Or.inl rfl))) (rowF_u (Or.inl rfl))) (hFs_rf sc) rfl hi.2.2.2.1 ?_ (fun hcb => ?_)
      · show pgR (j_u2 (j_u2 (j_u2 (j_u2 ar 13 _ _) 13 _ _) 13 _ _) 13 26 _ 13) _
        rw [u2_up, u2_up, u2_up, u2_up, u2_up, u2_up, u2_up, e8]
        exact pgR_ck hi.1 en (by omega) hd hh
      · show pgA (j_u2 (j_u2 (j_u2 (j_u2 ar 13 _ _) 13 _ _) 13 _ _) 13 26 _ 13) _
        rw [u2_up, u2_up, u2_up, u2_up, u2_up, u2_up, u2_up, e8]
        exact pgA_ck (hi.2.1 hcb) en (by omega)
    · have r : ∀ b, b ≠ 13 → (j_u2 (j_u2 (j_u2 (j_u2 ar 13 (27 + n) (nI d)) 13 (30 + n) (nI h)) 13 (50 + n) (S 26)) 13 26 (nI (n + 1))) b = ar b := fun b hb => by rw [j_u2_row _ _ _ _ hb, j_u2_row _ _ _ _ hb, j_u2_row _ _ _ _ hb, j_u2_row _ _ _ _ hb]
      show hWn o0 d57 (sE S _) (j_u2 (j_u2 (j_u2 (j_u2 ar 13 (27 + n) (nI d)) 13 (30 + n) (nI h)) 13 (50 + n) (S 26)) 13 26 (nI (n + 1))) _
      exact hW_s hw rfl rfl (r _ (by decide)) (r _ (by decide)) (r _ (by decide)) rfl rfl (fun _ _ => rfl)
/-- the page's own emptying of a line -/
theorem h_em {l : Nat} (hl : l < 4) : ∃ car2, xF_236 pp (nI l) sc mr car al = some (sc, mr, car2, al) ∧ car2 (pp + 1) = cQ (car (pp + 1)) l ∧ ∀ b, b ≠ pp + 1 → car2 b = car b := by
  have e15 : (15 : Int32) + nI l = nI (15 + l) := nI_add 15 l
  have e20 : ∀ k : Nat, (20 : Int32) + nI l * 3 + nI k = nI (20 + 3 * l + k) := fun k => by
    rw [show (20 : Int32) = nI 20 from rfl, show (3 : Int32) = nI 3 from rfl, nI_mul, nI_add, nI_add, Nat.mul_comm l 3]
  have st : ∀ (k nn : Nat) (car : jSc), k < 3 → xF_236_6 (nn + 1) pp (nI l) (nI l * 3) (nI k) sc mr car al = xF_236_6 nn pp (nI l) (nI l * 3) (nI (k + 1)) sc mr (j_u2 car (pp + 1) (20 + 3 * l + k) 0) al := by
    intro k nn car hk
    conv => lhs; unfold xF_236_6
    have c3 : (3 : Int32) ≤ nI k ↔ 3 ≤ k := nI_leI (by decide) (by omega)
    rw [if_neg (fun z => absurd (c3.mp z) (by omega)), e20, if_pos (iB_nI (by omega) (by decide)), iN_nI (by omega), nI_1]
  have fin : ∀ (nn : Nat) (car : jSc), xF_236_6 (nn + 1) pp (nI l) (nI l * 3) (nI 3) sc mr car al = some (sc, mr, j_u2 car (pp + 1) (15 + l) 0, al) := by
    intro nn car
    unfold xF_236_6
    rw [if_pos (show (3 : Int32) ≤ nI 3 from by decide), e15, if_pos (iB_nI (by omega) (by decide)), iN_nI (by omega)]
  refine ⟨j_u2 (j_u2 (j_u2 (j_u2 car (pp + 1) (20 + 3 * l + 0) 0) (pp + 1) (20 + 3 * l + 1) 0) (pp + 1) (20 + 3 * l + 2) 0) (pp + 1) (15 + l) 0, ?_, ?_, fun b hb => ?_⟩
  · unfold xF_236
    show xF_236_6 (9996 + 1 + 1 + 1 + 1) pp (nI l) (nI l * 3) (nI 0) sc mr car al = _
    rw [st 0 _ _ (by decide), st 1 _ _ (by decide), st 2 _ _ (by decide), fin]
  · rw [u2_up, u2_up, u2_up, u2_up]
    unfold cQ
    rw [show 20 + 3 * l + 0 = 20 + 3 * l by omega, show 20 + 3 * l + 1 = 21 + 3 * l by omega, show 20 + 3 * l + 2 = 22 + 3 * l by omega]
  · rw [j_u2_row _ _ _ _ hb, j_u2_row _ _ _ _ hb, j_u2_row _ _ _ _ hb, j_u2_row _ _ _ _ hb]
/-- stop -/
theorem h_25 {m v : Int32} (hm : o_mk 25 m) (h24 : S 24 = 0) (hi : hI cb c27 c28 S ar pp sc car) (hw : hWn o0 d57 S ar sc) (h9 : sc 757 9 = nI 0) : hDo cb c27 c28 o0 d57 pp sc car mr al (xF_216 pp 25 m sc mr car al) S (m_ef 25 m v S ar) := by
  obtain ⟨l, hl, rfl⟩ := hm
  have ee : m_ef 25 (nI l) v S ar = (m_wb S (20 + nI l), S 24, S 57, eP ar l) := by
    show (m_wb S (20 + nI l), S 24, S 57, eP ar (iN (nI l))) = _
    rw [iN_nI (by omega)]
  have rr : ∀ b, b ≠ 13 → eP ar l b = ar b := fun b hb => by
    unfold eP
    rw [j_u2_row _ _ _ _ hb, j_u2_row _ _ _ _ hb, j_u2_row _ _ _ _ hb, j_u2_row _ _ _ _ hb, j_u2_row _ _ _ _ hb, j_u2_row _ _ _ _ hb, j_u2_row _ _ _ _ hb]
  have rF : rowF ar (eP ar l) := fun b h _ _ _ => rr b (by simpa using h)
  have fs : hFs sc (j_u2 sc 757 4 (sc 757 4 ||| (1 <<< ((20 + nI l) &&& 31)))) := hFs_u (by decide) (hFs_rf sc)
  obtain ⟨car2, x1, x2, x3⟩ := h_em (pp := pp) (sc := j_u2 sc 757 4 (sc 757 4 ||| (1 <<< ((20 + nI l) &&& 31)))) (car := car) (mr := mr) (al := al) hl
  have ex : xF_216 pp 25 (nI l) sc mr car al = some ((1 : Int32), j_u2 sc 757 4 (sc 757 4 ||| (1 <<< ((20 + nI l) &&& 31))), mr, car2, al) := by
    show o_b4 (xF_236 pp (nI l) _ mr car al) _ = _
    rw [x1, ob4]
  rw [ee]
  refine ⟨1, _, _, ex, Or.inl ⟨rfl, h24, ?_⟩, ?_, (u2_nk (by decide)).trans h9, fs, fun b _ hb => x3 b hb⟩
  · refine hI_s hi (fun k a b c => sE_o a b c) rF fs (by rw [u2_nk (by decide)]) ?_ ?_ (fun hcb => ?_)
    · rw [u2_eq]
      show m_wb S (20 + nI l) = _
      rw [wb_or (d := 0) (x := 0) hi.2.2.2.1]
    · show pgR (eP ar l 13) _
      rw [x2, eP_row]; exact pgR_em hi.1 hl
    · show pgA (eP ar l 13) _
      rw [x2, eP_row]; exact pgA_em (hi.2.1 hcb) hl
  · show hWn o0 d57 (sE S _) (eP ar l) _
    refine hW_s hw rfl rfl (rr _ (by decide)) (rr _ (by decide)) (rr _ (by decide)) (by rw [u2_nk (by decide)]) (by rw [u2_nk (by decide)]) (fun k hk => ?_)
    have e8 : (20 : Int32) + nI l = nI (20 + l) := nI_add 20 l
    rw [u2_eq, e8, bt_or (by omega) (by omega)]
    simp [show ¬ 16 + k = 20 + l by omega]
/-- ask, behind what a form emptied -/
theorem h_24a {l : Nat} {v : Int32} {e : Int32 × Int32 × Int32 × jSc} (hl : l < 4) (h24 : S 24 = 0) (hi : hI cb c27 c28 S ar pp sc car) (hw : hWn o0 d57 S ar sc) (h9 : sc 757 9 = nI 1) (hs : h_st car [v])
    (he : e = (if ar 13 (10 + l) = 3 then (S 28, 1, S 57, j_u2 ar 13 37 1) else (m_wb S (20 + nI l), S 24, S 57, j_u2 (j_u2 (j_u2 ar 13 (14 + 3 * l + iN (ar 13 (10 + l))) v) 13 (38 + 3 * l + iN (ar 13 (10 + l))) (S 26)) 13 (10 + l) (ar 13 (10 + l) + 1)))) : hDo cb c27 c28 o0 d57 pp sc car mr al (xF_216_109 pp (nI l) sc mr car al) S e := by
  obtain ⟨n, hn, en⟩ := hi.1.2.2.1.1 l hl
  have c15 : car (pp + 1) (15 + l) = nI n := (pgR_i hi.1 hl).trans en
  have e3 : nI n = (3 : Int32) ↔ n = 3 := nI_eq (by omega) (by decide)
  have l3 : nI n < (3 : Int32) ↔ n < 3 := nI_ltI (by omega) (by decide)
  have e15 : (15 : Int32) + nI l = nI (15 + l) := nI_add 15 l
  have e20 : (20 : Int32) + (nI l * 3 + nI n) = nI (20 + 3 * l + n) := by
    rw [show (20 : Int32) = nI 20 from rfl, show (3 : Int32) = nI 3 from rfl, nI_mul, nI_add, nI_add, Nat.mul_comm l 3, Nat.add_assoc]
  have e35 : (35 : Int32) + (nI l * 3 + nI n) = nI (35 + 3 * l + n) := by
    rw [show (35 : Int32) = nI 35 from rfl, show (3 : Int32) = nI 3 from rfl, nI_mul, nI_add, nI_add, Nat.mul_comm l 3, Nat.add_assoc]
  rw [en, iN_nI (by omega), nI_1] at he
  have f9 : hFs sc (j_u2 sc 757 9 (nI 0)) := hFs_u (by decide) (hFs_rf sc)
  have ex : xF_216_109 pp (nI l) sc mr car al = xF_216_109 pp (nI l) sc mr car al := rfl
  conv at ex => rhs; unfold xF_216_109 xF_235
  rw [h_pop (st := []) (x := v) h9 (by decide) hs, ob5, e15, if_pos (iB_nI (by omega) (by decide)), iN_nI (by omega), c15, if_neg (nI_pos (by omega))] at ex
  by_cases c : n = 3
  · rw [if_neg (fun z => absurd (l3.mp z) (by omega)), ob5, if_pos rfl] at ex
    rw [if_pos (e3.mpr c)] at he
    exact h_fl (sc3 := j_u2 sc 757 9 (nI 0)) ex he f9 (fun k hk => u2_nk (by omega)) u2_eq hi hw
  · rw [if_pos (l3.mpr (by omega)), e20, e35, if_pos (iB_nI (by omega) (by decide)), if_pos (iB_nI (by omega) (by decide)), if_pos (iB_nI (by omega) (by decide)), ob5, if_neg (by decide), iN_nI (by omega), iN_nI (by omega), nI_1] at ex
    rw [if_neg (fun z => c (e3.mp z))] at he
    have e8 : j_u2 sc 757 9 (nI ([] : List Int32).length) 757 8 = S 26 := (u2_nk (by decide)).trans hi.2.2.2.2.2.1
    have e4 : j_u2 sc 757 9 (nI ([] : List Int32).length) 757 4 = sc 757 4 := u2_nk (by decide)
    rw [e8, e4] at ex
    subst he
    have fs : hFs sc (j_u2 (j_u2 sc 757 9 (nI ([] : List Int32).length)) 757 4 (sc 757 4 ||| (1 <<< ((20 + nI l) &&& 31)))) := hFs_u (by decide) f9
    refine ⟨1, _, _, ex, Or.inl ⟨rfl, h24, ?_⟩, ?_, (u2_nk (by decide)).trans u2_eq, fs, hFa_u (hFa_u (hFa_u (hFa_rf pp car)))⟩
    · refine hI_s hi (fun k a b c => sE_o a b c) (rowF_tr (rowF_tr (rowF_u (Or.inl rfl)) (rowF_u (Or.inl rfl))) (rowF_u (Or.inl rfl))) fs (by rw [u2_nk (by decide), u2_nk (by decide)]) ?_ ?_ (fun hcb => ?_)
      · rw [u2_eq]
        show m_wb S (20 + nI l) = _
        rw [wb_or (d := 0) (x := 0) hi.2.2.2.1]
      · show pgR (j_u2 (j_u2 (j_u2 ar 13 _ _) 13 _ _) 13 _ _ 13) _
        rw [u2_up, u2_up, u2_up, u2_up, u2_up, u2_up]
        exact pgR_an hi.1 hl en (by omega)
      · show pgA (j_u2 (j_u2 (j_u2 ar 13 _ _) 13 _ _) 13 _ _ 13) _
        rw [u2_up, u2_up, u2_up, u2_up, u2_up, u2_up]
        exact pgA_an (hi.2.1 hcb) hl en (by omega)
    · have r : ∀ b, b ≠ 13 → (j_u2 (j_u2 (j_u2 ar 13 (14 + 3 * l + n) v) 13 (38 + 3 * l + n) (S 26)) 13 (10 + l) (nI (n + 1))) b = ar b := fun b hb => by rw [j_u2_row _ _ _ _ hb, j_u2_row _ _ _ _ hb, j_u2_row _ _ _ _ hb]
      show hWn o0 d57 (sE S _) (j_u2 (j_u2 (j_u2 ar 13 (14 + 3 * l + n) v) 13 (38 + 3 * l + n) (S 26)) 13 (10 + l) (nI (n + 1))) _
      refine hW_s hw rfl rfl (r _ (by decide)) (r _ (by decide)) (r _ (by decide)) (by rw [u2_nk (by decide), u2_nk (by decide)]) (by rw [u2_nk (by decide), u2_nk (by decide)]) (fun k hk => ?_)
      have e8 : (20 : Int32) + nI l = nI (20 + l) := nI_add 20 l
      rw [u2_eq, e8, bt_or (by omega) (by omega)]
      simp [show ¬ 16 + k = 20 + l by omega]
/-- ask -/
theorem h_24 {m v : Int32} (hm : o_mk 24 m) (hpp : pp ≠ 757) (h24 : S 24 = 0) (hi : hI cb c27 c28 S ar pp sc car) (hw : hWn o0 d57 S ar sc) (h9 : sc 757 9 = nI 1) (hs : h_st car [v]) : hDo cb c27 c28 o0 d57 pp sc car mr al (xF_216 pp 24 m sc mr car al) S (m_ef 24 m v S ar) := by
  obtain ⟨l, hl, rfl⟩ := hm
  have e2 : iN (nI l) = l := iN_nI (by omega)
  have em : m_ef 24 (nI l) v S ar = m_ef 24 (nI l) v S ar := rfl
  conv at em => rhs; unfold m_ef
  simp only [show ¬ (24 : Nat) = 18 by decide, show ¬ (24 : Nat) = 19 by decide, show ¬ (24 : Nat) = 20 by decide, show ¬ (24 : Nat) = 21 by decide, show ¬ (24 : Nat) = 22 by decide, show ¬ (24 : Nat) = 23 by decide, if_false, if_true, e2] at em
  have ex : xF_216 pp 24 (nI l) sc mr car al = (if ((sc 736 8 >>> (nI l &&& 31)) &&& 1) = 0 then xF_216_109 pp (nI l) sc mr car al else o_b4 (xF_236 pp (nI l) sc mr car al) (fun a b c d => xF_216_109 pp (nI l) a b c d)) := rfl
  have hb := hi.2.2.2.2.2.2 l hl
  by_cases c : m_fr ar (iN (S 38)) 2 (nI l) = true
  · rw [c] at hb
    rw [if_neg (fun z => by rw [bt_s0 (by omega), hb] at z; cases z)] at ex
    obtain ⟨car2, x1, x2, x3⟩ := h_em (pp := pp) (sc := sc) (car := car) (mr := mr) (al := al) hl
    rw [x1, ob4] at ex
    rw [if_pos c] at em
    have rr : ∀ b, b ≠ 13 → eP ar l b = ar b := fun b hb => by
      unfold eP
      rw [j_u2_row _ _ _ _ hb, j_u2_row _ _ _ _ hb, j_u2_row _ _ _ _ hb, j_u2_row _ _ _ _ hb, j_u2_row _ _ _ _ hb, j_u2_row _ _ _ _ hb, j_u2_row _ _ _ _ hb]
    have rF : rowF ar (eP ar l) := fun b h _ _ _ => rr b (by simpa using h)
    have hi2 : hI cb c27 c28 S (eP ar l) pp sc car2 := hI_s hi (fun _ _ _ _ => rfl) rF (hFs_rf sc) rfl hi.2.2.2.1 (by rw [x2, eP_row]; exact pgR_em hi.1 hl) (fun hcb => by rw [x2, eP_row]; exact pgA_em (hi.2.1 hcb) hl)
    have hw2 : hWn o0 d57 S (eP ar l) sc := hW_s hw rfl rfl (rr _ (by decide)) (rr _ (by decide)) (rr _ (by decide)) rfl rfl (fun _ _ => rfl)
    obtain ⟨r, sc3, car3, y1, y2, y3, y4, y5, y6⟩ := h_24a (mr := mr) (al := al) hl h24 hi2 hw2 h9 (h_st_row (x3 758 (fun z => hpp (by omega))) _ hs) em
    exact ⟨r, sc3, car3, ex.trans y1, y2, y3, y4, y5, hFa_tr (fun b _ hb => x3 b hb) y6⟩
  · have hb2 : bt (sc 736 8) l = false := by rw [hb]; simpa using c
    rw [if_pos ((bt_s0 (by omega)).mpr hb2)] at ex
    rw [if_neg c] at em
    rw [ex]
    exact h_24a hl h24 hi hw h9 hs em
end HD
