/-! TWO WINDOWS as an abstract state, and what a happening makes of it. -/
abbrev wSt := (Nat → Int32) × (Nat → Int32) × (Nat → Bool) × (Nat → Bool)
def wS (ar : jSc) : wSt := (c38 (ar 714), c38 (ar 715), fun k => decide (k < 4) && decide (ar 716 k = 1 ∧ ar 718 k = 0), fun k => decide (k < 4) && decide (ar 716 k = 0 ∧ ar 719 k = 0))
theorem wS_e {ar ar2 : jSc} (h1 : c38 (ar2 714) = c38 (ar 714)) (h2 : c38 (ar2 715) = c38 (ar 715)) (h3 : ∀ k, k < 4 → (ar2 716 k = 1 ∧ ar2 718 k = 0 ↔ ar 716 k = 1 ∧ ar 718 k = 0) ∧ (ar2 716 k = 0 ∧ ar2 719 k = 0 ↔ ar 716 k = 0 ∧ ar 719 k = 0)) : wS ar2 = wS ar := by
  unfold wS
  rw [h1, h2]
  congr 1
  congr 1
  congr 1
  · funext k
    by_cases z : k < 4
    · simp only [(h3 k z).1]
    · rw [decide_eq_false z, Bool.false_and, Bool.false_and]
  · funext k
    by_cases z : k < 4
    · simp only [(h3 k z).2]
    · rw [decide_eq_false z, Bool.false_and, Bool.false_and]
theorem wRel_det {b : Nat} {ar ar2 car : jSc} (h : wRel b ar car) (h2 : wRel b ar2 car) : wS ar2 = wS ar := by
  refine wS_e (pgR_det h2.1 h.1) (pgR_det h2.2.1 h.2.1) (fun k hk => ⟨?_, ?_⟩)
  · have a := h.2.2.1 k hk
    rw [h2.2.2.1 k hk] at a
    exact decide_eq_decide.mp a
  · have a := h.2.2.2.1 k hk
    rw [h2.2.2.2.1 k hk] at a
    exact decide_eq_decide.mp a
/-- a memory of the reference that holds the state -/
def wMem (ar0 : jSc) (st : wSt) : jSc := va_up (va_up (va_up (va_up (va_up ar0 714 st.1) 715 st.2.1) 716 (fun k => if st.2.2.1 k = true then 1 else if st.2.2.2 k = true then 0 else -1)) 718 (fun _ => 0)) 719 (fun _ => 0)
theorem wM_714 {ar0 : jSc} {st : wSt} : wMem ar0 st 714 = st.1 := by
  unfold wMem
  rw [va_up_ne _ _ (by decide), va_up_ne _ _ (by decide), va_up_ne _ _ (by decide), va_up_ne _ _ (by decide), va_up_self]
theorem wM_715 {ar0 : jSc} {st : wSt} : wMem ar0 st 715 = st.2.1 := by
  unfold wMem
  rw [va_up_ne _ _ (by decide), va_up_ne _ _ (by decide), va_up_ne _ _ (by decide), va_up_self]
theorem wM_716 {ar0 : jSc} {st : wSt} : wMem ar0 st 716 = (fun k => if st.2.2.1 k = true then 1 else if st.2.2.2 k = true then 0 else -1) := by
  unfold wMem
  rw [va_up_ne _ _ (by decide), va_up_ne _ _ (by decide), va_up_self]
theorem wM_718 {ar0 : jSc} {st : wSt} : wMem ar0 st 718 = (fun _ => 0) := by
  unfold wMem
  rw [va_up_ne _ _ (by decide), va_up_self]
theorem wM_719 {ar0 : jSc} {st : wSt} : wMem ar0 st 719 = (fun _ => 0) := by
  unfold wMem
  rw [va_up_self]
theorem wM_st {ar0 : jSc} {st : wSt} : stA ar0 (wMem ar0 st) := fun b hb => by
  unfold wMem
  rw [va_up_ne _ _ (by omega), va_up_ne _ _ (by omega), va_up_ne _ _ (by omega), va_up_ne _ _ (by omega), va_up_ne _ _ (by omega)]
theorem wRel_mem {b : Nat} {ar0 ar car : jSc} (h : wRel b ar car) : wRel b (wMem ar0 (wS ar)) car := by
  refine ⟨by rw [wM_714]; exact pgR_38 h.1, by rw [wM_715]; exact pgR_38 h.2.1, fun k hk => ?_, fun k hk => ?_, fun k hk => ?_⟩
  · rw [h.2.2.1 k hk, wM_716, wM_718]
    show decide (ar 716 k = 1 ∧ ar 718 k = 0) = decide ((if (decide (k < 4) && decide (ar 716 k = 1 ∧ ar 718 k = 0)) = true then (1 : Int32) else if (decide (k < 4) && decide (ar 716 k = 0 ∧ ar 719 k = 0)) = true then 0 else -1) = 1 ∧ (0 : Int32) = 0)
    rw [decide_eq_true hk, Bool.true_and, Bool.true_and]
    by_cases z : ar 716 k = 1 ∧ ar 718 k = 0
    · rw [decide_eq_true z, if_pos rfl]; rfl
    · rw [decide_eq_false z, if_neg (by decide)]
      by_cases y : ar 716 k = 0 ∧ ar 719 k = 0
      · rw [decide_eq_true y, if_pos rfl]; rfl
      · rw [decide_eq_false y, if_neg (by decide)]; rfl
  · rw [h.2.2.2.1 k hk, wM_716, wM_719]
    show decide (ar 716 k = 0 ∧ ar 719 k = 0) = decide ((if (decide (k < 4) && decide (ar 716 k = 1 ∧ ar 718 k = 0)) = true then (1 : Int32) else if (decide (k < 4) && decide (ar 716 k = 0 ∧ ar 719 k = 0)) = true then 0 else -1) = 0 ∧ (0 : Int32) = 0)
    rw [decide_eq_true hk, Bool.true_and, Bool.true_and]
    by_cases z : ar 716 k = 1 ∧ ar 718 k = 0
    · rw [decide_eq_true z, if_pos rfl, decide_eq_false (show ¬ (ar 716 k = 0 ∧ ar 719 k = 0) from fun y => by rw [z.1] at y; exact absurd y.1 (by decide))]; rfl
    · rw [decide_eq_false z, if_neg (show ¬ false = true by decide)]
      by_cases y : ar 716 k = 0 ∧ ar 719 k = 0
      · rw [decide_eq_true y, if_pos rfl]; rfl
      · rw [decide_eq_false y, if_neg (by decide)]; rfl
  · rw [wM_714, wM_715]
    show c38 (ar 714) (33 + k) = c38 (ar 715) (33 + k)
    rw [c38_k (by omega), c38_k (by omega)]
    exact h.2.2.2.2 k hk
/-- what the happening c in the window w makes of the state, and how many words are lost -/
def wNx (S0 : Nat → Int32) (ar0 : jSc) (st : wSt) (w c : Nat) : wSt × Int32 := match rF_110 (nI w) (nI c) S0 (wMem ar0 st) with
  | some (_, S9, ar9) => (wS ar9, S9 57 - S0 57)
  | none => (st, 0)
def wPg (st : wSt) (w : Nat) : Nat → Int32 := if w = 0 then st.1 else st.2.1
/-- ClickOrders holds the state in its windows from b on -/
def cWs (b : Nat) (st : wSt) (car : jSc) : Prop := ∃ ar, wS ar = st ∧ wRel b ar car
/-- the reference holds the state -/
def rWs (st : wSt) (ar : jSc) : Prop := wS ar = st ∧ pW (ar 714) ∧ pW (ar 715) ∧ wFe ar
theorem b4_of (z : Nat → Bool) : ∃ x : Int32, ∀ k, k < 4 → bt x k = z k := by
  refine ⟨(if z 0 = true then 1 else 0) ||| (if z 1 = true then 2 else 0) ||| (if z 2 = true then 4 else 0) ||| (if z 3 = true then 8 else 0), fun k hk => ?_⟩
  rcases (show k = 0 ∨ k = 1 ∨ k = 2 ∨ k = 3 by omega) with rfl | rfl | rfl | rfl
  all_goals
    cases z 0 <;> cases z 1 <;> cases z 2 <;> cases z 3 <;> rfl
section WA
variable {S0 : Nat → Int32} {ar0 : jSc} {S : Nat → Int32} {ar : jSc} {sc car : jSc} {mr : Nat → Nat} {al : jAl} {pr n p m b : Nat} {tx : Nat → Int32} {g : pG} {st : wSt}
/-- some memory of ClickOrders holds the state -/
theorem rWs_c (hE : cE pr n tx g p m S0 ar0 sc car mr) (h : rWs st ar) : ∃ car2, cE pr n tx g p m S0 ar0 sc car2 mr ∧ wRel 0 ar car2 := by
  obtain ⟨-, ⟨C, hC⟩, ⟨D, hD⟩, hf⟩ := h
  obtain ⟨x, hx⟩ := b4_of (fun k => decide (ar 716 k = 1 ∧ ar 718 k = 0))
  obtain ⟨y, hy⟩ := b4_of (fun k => decide (ar 716 k = 0 ∧ ar 719 k = 0))
  refine ⟨va_up (va_up (va_up car 800 C) 802 D) 798 (fun k => if k = 0 then x else y), cE_lo hE (fun _ _ => rfl) (fun q hq => by rw [va_up_ne _ _ (by omega), va_up_ne _ _ (by omega), va_up_ne _ _ (by omega)]) rfl, ?_, ?_, fun k hk => ?_, fun k hk => ?_, hf⟩
  · show pgR (ar 714) (va_up _ _ _ 800)
    rw [va_up_ne _ _ (by decide), va_up_ne _ _ (by decide), va_up_self]; exact hC
  · show pgR (ar 715) (va_up _ _ _ 802)
    rw [va_up_ne _ _ (by decide), va_up_self]; exact hD
  · rw [va_up_self]; exact hx k hk
  · rw [va_up_self]; exact hy k hk
theorem wPg_c {w c : Nat} (hw : w < 2) (hf : fG ar0 m) (hA : stA ar0 ar) (hst : wS ar = st) (hc : c < 13) : aCan ar m (ar (714 + w)) c = aCan ar0 m (wPg st w) c := by
  refine aCan_c hA hf (fun k hk => ?_) hc
  rw [← hst]
  rcases (show w = 0 ∨ w = 1 by omega) with rfl | rfl
  · show ar 714 k = c38 (ar 714) k
    rw [c38_k hk]
  · show ar 715 k = c38 (ar 715) k
    rw [c38_k hk]
/-- both sides, at once -/
theorem w_both {w c : Nat} (hE : cE pr n tx g p m S0 ar0 sc car mr) (h16 : S0 16 = 0) (hS : stS S0 S) (hA : stA ar0 ar) (hst : wS ar = st) (hR : wRel b ar car) (hw : w < 2) (hb : b ≤ 8) (hc : c < 13) (hcan : aCan ar0 m (wPg st w) c = true) :
    ∃ S9 ar9 sc2 car2, rF_110 (nI w) (nI c) S ar = some (1, S9, ar9) ∧ xF_249 (nI b) (nI w) (nI c) sc mr car al = some ((wNx S0 ar0 st w c).2, sc2, mr, car2, al) ∧ S9 57 = S 57 + (wNx S0 ar0 st w c).2 ∧ wS ar9 = (wNx S0 ar0 st w c).1 ∧ wRel b ar9 car2 ∧ wFr S ar S9 ar9 ∧ wCf b sc car sc2 car2 := by
  have hf := hE.1.2.2.2.2.2.2.1
  obtain ⟨v, S9, ar9, sc2, car2, e1, e2, e3, e4, e5, e6⟩ := h_move (al := al) (sR_st hE.1 hS hA) (hS.1.trans h16) (hS.2.2.trans hE.2.1) hw hb hc hR (by rw [wPg_c hw hf hA hst hc]; exact hcan)
  have hM := wRel_mem (ar0 := ar0) hR
  rw [hst] at hM
  have hSM : wS (wMem ar0 st) = st := by
    have := wRel_det hR hM
    rw [this, hst]
  obtain ⟨v', S8, ar8, sc3, car3, f1, f2, f3, f4, f5, f6⟩ := h_move (al := al) (sR_st hE.1 (stS_rf S0) (wM_st (st := st))) h16 hE.2.1 hw hb hc hM (by rw [wPg_c hw hf wM_st hSM hc]; exact hcan)
  rw [e2] at f2
  cases f2
  have en : wNx S0 ar0 st w c = (wS ar8, S8 57 - S0 57) := by
    unfold wNx
    rw [f1]
  have ev : S8 57 - S0 57 = v := by
    rw [f3, Int32.add_comm, Int32.add_sub_cancel]
  rw [en, ev]
  exact ⟨S9, ar9, sc2, car2, e1, e2, e3, wRel_det f4 e4, e4, e5, e6⟩
/-- the reference: comesTo -/
theorem r_mv {w c : Nat} (hE : cE pr n tx g p m S0 ar0 sc car mr) (h16 : S0 16 = 0) (hS : stS S0 S) (hA : stA ar0 ar) (h : rWs st ar) (hw : w < 2) (hc : c < 13) (hcan : aCan ar0 m (wPg st w) c = true) :
    ∃ S9 ar9, rF_110 (nI w) (nI c) S ar = some (1, S9, ar9) ∧ S9 57 = S 57 + (wNx S0 ar0 st w c).2 ∧ rWs (wNx S0 ar0 st w c).1 ar9 ∧ wFr S ar S9 ar9 := by
  obtain ⟨car2, hE2, hR⟩ := rWs_c hE h
  obtain ⟨S9, ar9, sc3, car3, e1, e2, e3, e4, e5, e6, e7⟩ := w_both (al := fun _ _ => 0) hE2 h16 hS hA h.1 hR hw (by omega) hc hcan
  exact ⟨S9, ar9, e1, e3, ⟨e4, ⟨_, e5.1⟩, ⟨_, e5.2.1⟩, e5.2.2.2.2⟩, e6⟩
theorem r_mv0 {w c : Nat} (hE : cE pr n tx g p m S0 ar0 sc car mr) (h16 : S0 16 = 0) (hS : stS S0 S) (hA : stA ar0 ar) (h : rWs st ar) (hw : w < 2) (hc : c < 13) (hcan : ¬ aCan ar0 m (wPg st w) c = true) :
    ∃ ar9, rF_110 (nI w) (nI c) S ar = some (0, S, ar9) ∧ ∀ q, q ≠ 13 → ar9 q = ar q := by
  have hf := hE.1.2.2.2.2.2.2.1
  have pS : pW (ar (714 + w)) := by
    rcases (show w = 0 ∨ w = 1 by omega) with rfl | rfl
    · exact h.2.1
    · exact h.2.2.1
  obtain ⟨C, hC⟩ := pS
  unfold rF_110
  rw [if_pos (iB_nI hw (by decide)), up_16 (hS.1.trans h16), iN_nI (by omega), r_load (by decide) (by omega), ob2]
  generalize hA1 : va_up ar 13 (fun k => if k < 53 then ar (714 + w) k else ar 13 k) = ar1
  have n1 : ∀ q, q ≠ 13 → ar1 q = ar q := fun q hq => by rw [← hA1, va_up_ne _ _ hq]
  have p1 : ∀ k, k < 53 → ar1 13 k = ar (714 + w) k := fun k hk => by rw [← hA1, va_up_self, if_pos hk]
  have R1 : pgR (ar1 13) C := pgR_P hC (fun k hk => p1 k (by omega))
  have s1 := sR_st hE.1 hS (stA_tr hA (stA_13 n1))
  have can1 : aCan ar1 m (ar1 13) c = aCan ar0 m (wPg st w) c := by
    rw [aCan_c (ar := ar) (P := ar (714 + w)) (stA_13 n1) (sR_st hE.1 hS hA).2.2.2.2.2.2.1 (fun k hk => p1 k (by omega)) hc]
    exact wPg_c hw hf hA h.1 hc
  rw [r_can (m := m) s1.2.2.2.2.2.1 s1.2.2.2.2.2.2.1 hc R1.2.2.1, ob3, can1, if_neg hcan, if_pos rfl]
  exact ⟨ar1, rfl, n1⟩
/-- ClickOrders: moves -/
theorem c_mv {w c : Nat} (hE : cE pr n tx g p m S0 ar0 sc car mr) (h16 : S0 16 = 0) (h : cWs b st car) (hw : w < 2) (hb : b ≤ 8) (hc : c < 13) (hcan : aCan ar0 m (wPg st w) c = true) :
    ∃ sc2 car2, xF_249 (nI b) (nI w) (nI c) sc mr car al = some ((wNx S0 ar0 st w c).2, sc2, mr, car2, al) ∧ cWs b (wNx S0 ar0 st w c).1 car2 ∧ wCf b sc car sc2 car2 := by
  obtain ⟨ar, hst, hR⟩ := h
  have hM := wRel_mem (ar0 := ar0) hR
  have hSM : wS (wMem ar0 (wS ar)) = wS ar := wRel_det hR hM
  rw [hst] at hM hSM
  obtain ⟨S9, ar9, sc2, car2, e1, e2, e3, e4, e5, e6, e7⟩ := w_both (al := al) hE h16 (stS_rf S0) wM_st hSM hM hw hb hc hcan
  exact ⟨sc2, car2, e2, ⟨ar9, e4, e5⟩, e7⟩
theorem cWs_pg {w : Nat} (h : cWs b st car) (hw : w < 2) : pgR (wPg st w) (car (800 + 2 * (b + w))) := by
  obtain ⟨ar, hst, hR⟩ := h
  rw [← hst]
  rcases (show w = 0 ∨ w = 1 by omega) with rfl | rfl
  · exact pgR_38 hR.1
  · exact pgR_38 hR.2.1
/-- a press without a handler, in a window -/
theorem c_idw {pp c q : Nat} {P : Nat → Int32} (hE : cE pr n tx g p m S0 ar0 sc car mr) {X : jSc} (hi : aIdl g c = true) (hR : pgR P (car (pp + 1))) (hpp : 759 ≤ pp) (hq : q ≤ 3) (h26 : P 26 = nI q) : ∃ sc2, xF_209 pp (nI c) (-1) X mr car al = some (-1, sc2, mr, va_up car (pp + 1) (ageC (car (pp + 1)) q), al) ∧ sc2 757 4 = 0 ∧ sc2 757 5 = X 757 5 ∧ sc2 757 6 = X 757 6 := by
  obtain ⟨c8, hx⟩ := aIdl_i hi
  have l8 : (8 : Int32) ≤ nI c ↔ 8 ≤ c := nI_leI (by decide) (by omega)
  have e1 : (1 : Int32) + nI c = nI (1 + c) := nI_add 1 c
  have c19 : car (pp + 1) 19 = nI q := (hR.1 19 (by decide)).trans h26
  have hp := x_pr_ne hE.1.2.1.1
  unfold xF_209 xF_212
  rw [ob4, c_soon (P := P) (n := q) hR hq h26, ob5, c_age hq c19, ob4, if_neg (fun w => absurd (l8.mp w) (by omega)), hE.1.2.2.2.1, if_pos hE.1.2.1.1, e1, if_pos (iB_nI (by omega) (by decide)), iN_nI (by omega), va_up_ne _ _ (show p + 3 ≠ pp + 1 by omega), (cE_at hE (show 1 + c < 17 by omega)).1 hx, h_norun, ob4]
  refine ⟨_, rfl, ?_, ?_, ?_⟩
  · rw [u2_nk (by decide), u2_nk (by decide), u2_nk (by decide), u2_nk (by decide), u2_eq]
  · rw [u2_nk (by decide), u2_nk (by decide), u2_nk (by decide), u2_nk (by decide), u2_nk (by decide), u2_nk (by decide)]
  · rw [u2_nk (by decide), u2_nk (by decide), u2_nk (by decide), u2_nk (by decide), u2_nk (by decide), u2_nk (by decide)]
theorem c_idm {w c q : Nat} (hE : cE pr n tx g p m S0 ar0 sc car mr) (hi : aIdl g c = true) (h : cWs b st car) (hw : w < 2) (hb : b ≤ 8) (hq : q ≤ 3) (h26 : wPg st w 26 = nI q) : ∃ car2 sc2, (∀ al : jAl, xF_249 (nI b) (nI w) (nI c) sc mr car al = some (0, sc2, mr, car2, al)) ∧ car2 (800 + 2 * (b + w)) = ageC (car (800 + 2 * (b + w))) q ∧ (∀ k, k < 50 → car2 (800 + 2 * (b + (1 - w))) k = if 10 ≤ k ∧ k < 14 then car (800 + 2 * (b + w)) k else car (800 + 2 * (b + (1 - w))) k) ∧ car2 798 (b + w) = car 798 (b + w) ∧ car2 798 (b + (1 - w)) = car 798 (b + (1 - w)) := by
  have e1 : nI b + nI w = nI (b + w) := nI_add b w
  have e2 : nI b + (1 : Int32) - nI w = nI (b + (1 - w)) := by rw [nI_1, nI_sub (by omega), show b + 1 - w = b + (1 - w) by omega]
  have b1 : iB (nI (b + w)) 10 := iB_nI (by omega) (by decide)
  have b2 : iB (nI (b + (1 - w))) 10 := iB_nI (by omega) (by decide)
  have hR := cWs_pg h hw
  have c8 := (aIdl_i hi).1
  generalize hX : j_u2 (j_u2 sc 757 5 (car 798 (b + w))) 757 6 (0 : Int32) = X
  have X5 : X 757 5 = car 798 (b + w) := by rw [← hX, u2_nk (by decide), u2_eq]
  have X6 : X 757 6 = 0 := by rw [← hX, u2_eq]
  have hR' : pgR (wPg st w) (car (799 + 2 * (b + w) + 1)) := by rw [show 799 + 2 * (b + w) + 1 = 800 + 2 * (b + w) by omega]; exact hR
  obtain ⟨sc2, f1, f4, f5, f6⟩ := c_idw (al := fun _ _ => 0) (pp := 799 + 2 * (b + w)) (X := X) hE hi hR' (by omega) hq h26
  have key : ∀ al : jAl, xF_209 (799 + 2 * (b + w)) (nI c) (-1) X mr car al = some (-1, sc2, mr, va_up car (799 + 2 * (b + w) + 1) (ageC (car (799 + 2 * (b + w) + 1)) q), al) := by
    intro al
    have l8 : (8 : Int32) ≤ nI c ↔ 8 ≤ c := nI_leI (by decide) (by omega)
    have e1 : (1 : Int32) + nI c = nI (1 + c) := nI_add 1 c
    have c19 : car (799 + 2 * (b + w) + 1) 19 = nI q := (hR'.1 19 (by decide)).trans h26
    have hp := x_pr_ne hE.1.2.1.1
    unfold xF_209 xF_212 at f1 ⊢
    rw [ob4, c_soon (P := wPg st w) (n := q) hR' hq h26, ob5, c_age hq c19, ob4, if_neg (fun w => absurd (l8.mp w) (by omega)), hE.1.2.2.2.1, if_pos hE.1.2.1.1, e1, if_pos (iB_nI (by omega) (by decide)), iN_nI (by omega), va_up_ne _ _ (show p + 3 ≠ 799 + 2 * (b + w) + 1 by omega), (cE_at hE (show 1 + c < 17 by omega)).1 (aIdl_i hi).2, h_norun, ob4] at f1 ⊢
    cases f1
    rfl
  obtain ⟨car2, k1, k2, k3, k4, k5, k6⟩ := c_74 (sc := sc2) (car := va_up car (799 + 2 * (b + w) + 1) (ageC (car (799 + 2 * (b + w) + 1)) q)) (mr := mr) (al := fun _ _ => 0) hw hb
  have k1' : ∀ al : jAl, xF_249_74 (nI b) (nI w) (799 + 2 * (b + w)) (799 + 2 * (b + (1 - w))) sc2 mr (va_up car (799 + 2 * (b + w) + 1) (ageC (car (799 + 2 * (b + w) + 1)) q)) al = some (sc2 757 6, j_u2 sc2 757 5 0, mr, car2, al) := by
    intro al
    unfold xF_249_74 at k1 ⊢
    rw [e1, e2, if_pos b1, if_pos b2, if_pos b2] at k1 ⊢
    cases k1
    rfl
  have g798 : (va_up car (799 + 2 * (b + w) + 1) (ageC (car (799 + 2 * (b + w) + 1)) q)) 798 = car 798 := va_up_ne _ _ (by omega)
  refine ⟨car2, j_u2 sc2 757 5 0, fun al => ?_, ?_, fun k hk => ?_, ?_, ?_⟩
  · unfold xF_249
    rw [e1, e2, if_pos b1, if_pos b2, if_pos b1, if_neg (show ¬ nI c = (-1 : Int32) from nI_nm (by omega)), iN_nI (by omega), iN_nI (by omega), hX, key al, ob5, k1' al, f6, X6]
  · rw [k6 _ (by omega) (by omega), show 800 + 2 * (b + w) = 799 + 2 * (b + w) + 1 by omega, va_up_self]
  · rw [k4 k hk]
    by_cases z : 10 ≤ k ∧ k < 14
    · rw [if_pos z, if_pos z, show 800 + 2 * (b + w) = 799 + 2 * (b + w) + 1 by omega, va_up_self, ageC_o (by omega)]
    · rw [if_neg z, if_neg z, va_up_ne _ _ (by omega)]
  · rw [k2, f5, X5]
  · rw [k3, g798, f4]
    rw [show ((0 : Int32) >>> ((16 : Int32) &&& 31)) &&& 15 = 0 by decide, Int32.or_zero]
end WA
