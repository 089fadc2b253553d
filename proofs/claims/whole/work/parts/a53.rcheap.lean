/-! THE CHEAPEST SET, in the reference. -/
section RS
variable {S0 : Nat → Int32} {ar0 : jSc} {S : Nat → Int32} {ar : jSc} {sc car : jSc} {mr : Nat → Nat} {al : jAl} {pr n p m : Nat} {tx : Nat → Int32} {g : pG} {most n0 k s : Nat}
/-- isSafe -/
theorem r_safe (hE : cE pr n tx g p m S0 ar0 sc car mr) (hk : k ≤ 3) (h1 : 1 ≤ most) (h6 : most ≤ 600) (hn : n0 ≤ 8) (hS : stS S0 S) (hA : stA ar0 ar) : ∃ S9 ar9, rF_104 (nI n0) (nI k) (nI most) S ar = some (if aSafe S0 ar0 m g most n0 k = true then 1 else 0, S9, ar9) ∧ vZ S ar S9 ar9 := by
  obtain ⟨S1, ar1, e1, e2, e3⟩ := r_expl hE (wh := true) h1 h6 hn hS hA
  have e1 : rF_87 (nI n0) (nI most) 0 S ar = some (S1, ar1) := e1
  have fb : bFb (aBad g) (aRs S0 ar0 m g true most n0) := bRs_fb
  unfold rF_104
  rw [e1, ob2, e2.2.2]
  generalize hs : aRs S0 ar0 m g true most n0 = s at e2 fb
  have eS : aSafe S0 ar0 m g most n0 k = (!s.2.2 && s.2.1.isNone && decide (aStk (aCan ar0 m) (aSt S0 ar0) (aGd g) k s.1 = 0)) := by unfold aSafe; rw [hs]
  rw [eS]
  rcases sp : s.2.2 with _ | _
  · rw [if_pos (show (if false = true then (1 : Int32) else 0) = 0 by decide), Bool.not_false, Bool.true_and]
    have l6 := e2.1.2.1
    have go : ∀ (r pre : List eT) (nn : Nat) (S2 : Nat → Int32) (ar2 : jSc), s.1 = pre ++ r → r.length < nn → rB s.1 S2 ar2 → stS S0 S2 → stA ar0 ar2 → vZ S ar S2 ar2 → (∀ e ∈ pre, aBad g e.1 = false) → ∃ S9 ar9, rF_104_19 nn (nI k) (nI pre.length) S2 ar2 = some (if (s.2.1.isNone && decide (aStk (aCan ar0 m) (aSt S0 ar0) (aGd g) k s.1 = 0)) = true then 1 else 0, S9, ar9) ∧ vZ S ar S9 ar9 := by
      intro r
      induction r with
      | nil =>
        intro pre nn S2 ar2 hl h2 hB hS2 hA2 hV hb
        obtain ⟨nn, rfl⟩ : ∃ j, nn = j + 1 := ⟨nn - 1, by simp at h2; omega⟩
        have pl : pre.length = s.1.length := by rw [hl, List.append_nil]
        have nb : s.2.1 = none := by
          rcases ho : s.2.1 with _ | i
          · rfl
          · obtain ⟨e, a, b⟩ := fb.2 i ho
            have := List.mem_of_getElem? a
            rw [hl, List.append_nil] at this
            rw [hb e this] at b; cases b
        rw [rF_104_19]
        rw [hB.1, pl, if_pos (nI_le (Nat.le_refl _) (by omega))]
        obtain ⟨S8, ar8, f1, f2⟩ := r_stk hE hk (E := s.1) s.1 [] oF 0 S2 ar2 rfl (by unfold oF; omega) hB hS2 hA2
        have f1 : rF_93_4 oF (nI k) (0 : Int32) (0 : Int32) S2 ar2 = _ := f1
        unfold rF_93
        rw [f1, ob3, Int32.zero_add, nb, Option.isNone_none, Bool.true_and]
        have vz : vZ S ar S8 ar8 := vZ_tr hV ⟨fun j x _ => rF8_k.mp f2.1 j x, fun b x _ z => f2.2 b x z⟩
        have le := aStk_le (cn := aCan ar0 m) (st := aSt S0 ar0) (gd := aGd g) (k := k) s.1
        by_cases z : aStk (aCan ar0 m) (aSt S0 ar0) (aGd g) k s.1 = 0
        · rw [z, if_pos (show nI 0 = (0 : Int32) from rfl), decide_eq_true rfl, if_pos rfl]
          exact ⟨S8, ar8, rfl, vz⟩
        · rw [if_neg (show ¬ nI _ = (0 : Int32) from fun y => z ((nI_eq (b := 0) (by omega) (by decide)).mp y)), decide_eq_false z, if_neg (by decide)]
          exact ⟨S8, ar8, rfl, vz⟩
      | cons e r ih =>
        intro pre nn S2 ar2 hl h2 hB hS2 hA2 hV hb
        simp only [List.length_cons] at h2
        obtain ⟨nn, rfl⟩ : ∃ j, nn = j + 1 := ⟨nn - 1, by omega⟩
        have ll : s.1.length = pre.length + (r.length + 1) := by rw [hl]; simp
        have he : s.1[pre.length]? = some e := by rw [hl, List.getElem?_append_right (Nat.le_refl _), Nat.sub_self]; rfl
        obtain ⟨p1, -, -, -, p5, p6, -⟩ := hB.2.2 pre.length e he
        rw [rF_104_19]
        rw [hB.1, if_neg (nI_ge (by omega) (by omega)), if_pos (iB_nI (show pre.length < 600 by omega) (by decide)), iN_nI (by omega)]
        obtain ⟨ar3, l1, l2, l3⟩ := rW_load (b := 108 + pre.length) (by omega) hS2 hA2 p1 p5 p6
        rw [l1, ob2]
        obtain ⟨S4, b1, b2, b3⟩ := rW_bad hE l2
        rw [b1, ob3, nI_1]
        have R4 := rH_tr l3 b3
        have v4 : vZ S ar S4 ar3 := vZ_tr hV (vZ_X (vX_H R4))
        by_cases z : aBad g e.1 = true
        · rw [if_pos z, if_neg (show ¬ (1 : Int32) = 0 by decide)]
          have nb : s.2.1.isNone = false := by
            rcases ho : s.2.1 with _ | i
            · have := fb.1 ho e (List.mem_of_getElem? he)
              rw [z] at this; cases this
            · rfl
          rw [nb, Bool.false_and, if_neg (by decide)]
          exact ⟨S4, ar3, rfl, v4⟩
        · rw [if_neg z, if_pos rfl]
          have := ih (pre ++ [e]) nn S4 ar3 (by rw [hl]; simp) (by omega) (rB_H hB R4) (stS_Z hS2 (vZ_X (vX_H R4))) (stA_Z hA2 (vZ_X (vX_H R4))) v4 (fun x hx => by
            rcases List.mem_append.mp hx with hx | hx
            · exact hb x hx
            · rw [List.mem_singleton.mp hx]; simpa using z)
          rw [show (pre ++ [e]).length = pre.length + 1 by simp] at this
          exact this
    have := go s.1 [] oF S1 ar1 rfl (by unfold oF; omega) e2.1 (stS_X hS e3) (stA_X hA e3) (vZ_X e3) (fun e he => by cases he)
    rw [show nI ([] : List eT).length = (0 : Int32) from rfl] at this
    exact this
  · rw [if_neg (show ¬ (if true = true then (1 : Int32) else 0) = 0 by decide), Bool.not_true, Bool.false_and, Bool.false_and, if_neg (by decide)]
    exact ⟨S1, ar1, rfl, vZ_X e3⟩
/-- a memory of ClickOrders with the set t on -/
theorem cE_set (hE : cE pr n tx g p m S0 ar0 sc car mr) (hM : fM m ar0 sc car) {t : Nat} (ht : t < 2 ^ m) : ∃ sc2 car2, cE pr n tx g p m S0 (arT ar0 m t) sc2 car2 mr := by
  obtain ⟨sc2, car2, e1, e2, e3, e4, e5⟩ := c_turns (mr := mr) (al := fun _ _ => 0) hM ht
  obtain ⟨⟨h1, ⟨c1, ⟨c2, c2b⟩, c3, c4, c5⟩, h3, h4, h5, h6, h7⟩, h29, h5'⟩ := hE
  have hp := x_pr_ne c1
  refine ⟨sc2, car2, ⟨⟨h1.1, h1.2.1, by rw [arT_o (by decide)]; exact h1.2.2.1, fun q hq => by rw [arT_o (by have := h1.1; omega)]; exact h1.2.2.2.1 q hq, h1.2.2.2.2.1, h1.2.2.2.2.2.1, fun e he => by rw [arT_o (by have := h1.1; omega)]; exact h1.2.2.2.2.2.2.1 e he, by rw [arT_o (by decide)]; exact h1.2.2.2.2.2.2.2.1, by rw [arT_o (by decide)]; exact h1.2.2.2.2.2.2.2.2⟩, ⟨c1, ⟨by rw [e4 p 3 (by omega)]; exact c2, fun i hi => by rw [e5 (p + 1) (by omega), e5 (p + 2) (by omega)]; exact c2b i hi⟩, fun e he => by rw [e5 (p + 3) (by omega)]; exact c3 e he, by rw [e4 p 7 (by omega)]; exact c4, by rw [e4 p 8 (by omega)]; exact c5⟩, h3, h4, h5, h6, e2⟩, h29, by rw [e4 757 5 (by omega)]; exact h5'⟩
/-- the reference's memory, but for which forms are on -/
def rX (ar0 : jSc) (m : Nat) (ar : jSc) : Prop := (∀ b, ((b < 13 ∧ b ≠ 1 ∧ b ≠ 12) ∨ (102 ≤ b ∧ b ≤ 105)) → ar b = ar0 b) ∧ ∀ i, m ≤ i → ar 106 i = ar0 106 i
theorem rX_T {t : Nat} (h : rX ar0 m ar) : stA (arT ar0 m t) (arT ar m t) := fun b hb => by
  by_cases z : b = 106
  · subst z
    funext i
    unfold arT
    rw [va_up_self, va_up_self]
    by_cases y : i < m
    · rw [if_pos y, if_pos y]
    · rw [if_neg y, if_neg y]; exact h.2 i (by omega)
  · rw [arT_o z, arT_o z]; exact h.1 b (by omega)
theorem rX_c {ar2 : jSc} (h : rX ar0 m ar) (e : ∀ b, ((b < 13 ∧ b ≠ 1 ∧ b ≠ 12) ∨ (102 ≤ b ∧ b ≤ 106)) → ar2 b = ar b) : rX ar0 m ar2 := ⟨fun b hb => (e b (by omega)).trans (h.1 b hb), fun i hi => by rw [e 106 (by omega)]; exact h.2 i hi⟩
theorem rX_t {t : Nat} (h : rX ar0 m ar) : rX ar0 m (arT ar m t) := ⟨fun b hb => by rw [arT_o (by omega)]; exact h.1 b hb, fun i hi => by
  unfold arT
  rw [va_up_self, if_neg (by omega)]; exact h.2 i hi⟩
/-- the best of the sets ahead of t -/
def bSet (ar : jSc) (m : Nat) (sf : Nat → Bool) (t : Nat) (v : Int32) : Prop := (v = -1 ∧ ∀ q, q < t → sf q = false) ∨ ∃ b, b < t ∧ v = nI b ∧ sf b = true ∧ ∀ q, q < t → sf q = true → rk ar m b ≤ rk ar m q
theorem bits_m : ∀ m, m < 7 → ∀ s, s < 2 ^ m → ∀ i, i < 32 → m ≤ i → bt (nI s) i = false := by decide +kernel
theorem aPc_c {ar2 : jSc} (h : ar2 105 = ar 105) {t : Nat} : ∀ c i, aPc ar2 t i c = aPc ar t i c := by
  intro c
  induction c with
  | zero => intro i; rfl
  | succ c ih =>
    intro i
    show (if bt (nI t) i = true then iN (ar2 105 i) else 0) + aPc ar2 t (i + 1) c = (if bt (nI t) i = true then iN (ar 105 i) else 0) + aPc ar t (i + 1) c
    rw [ih, h]
theorem rk_c {ar2 : jSc} (h : ar2 105 = ar 105) {t : Nat} : rk ar2 m t = rk ar m t := by
  unfold rk
  rw [aPc_c h]
def aAns (ar : jSc) (m : Nat) (v what : Int32) : Int32 := if v = -1 then -1 else if what = 0 then v else nI (aPc ar (iN v) 0 m)
/-- cheapest -/
theorem r_cheap (hE : cE pr n tx g p m S0 ar0 sc car mr) (h16 : S0 16 = 0) (hM : fM m ar0 sc car) (hO : fO m s ar0 sc) (hk : k ≤ 3) (h1 : 1 ≤ most) (h6 : most ≤ 600) (hn : n0 ≤ 8) (hS : stS S0 S) (hA : stA ar0 ar) {wt : Nat} (hwt : wt < 2) : ∃ v S9 ar9, rF_108 (nI n0) (nI k) (nI most) (nI wt) S ar = some (aAns ar0 m v (nI wt), S9, ar9) ∧ bSet ar0 m (fun t => aSafe S0 (arT ar0 m t) m g most n0 k) (2 ^ m) v ∧ vZ (upd S 0 0) ar S9 ar9 := by
  have hm := hM.1
  have p64 := p2_64 hm
  have hS1 := stS_0 hS
  have hp : ∀ i, i < m → ∃ q, q ≤ 100 ∧ ar0 105 i = nI q := fun i hi => by
    obtain ⟨-, -, -, q, a, b, -⟩ := hM.2.2 i hi
    exact ⟨q, a, b⟩
  have X0 : rX ar0 m ar := ⟨fun b hb => hA b (by omega), fun i _ => by rw [hA 106 (by omega)]⟩
  have S38 : ∀ S1 : Nat → Int32, stS S0 S1 → S1 38 = nI m := fun S1 h => h.2.1.trans hE.1.2.2.2.2.2.1
  have S16 : ∀ S1 : Nat → Int32, stS S0 S1 → S1 16 = 0 := fun S1 h => h.1.trans h16
  have ro : ∀ a : jSc, rX ar0 m a → ∀ i, i < m → ∃ q, q ≤ 100 ∧ a 105 i = nI q := fun a ha i hi => by rw [ha.1 105 (by omega)]; exact hp i hi
  -- the loop
  have go : ∀ (r t nn : Nat) (v : Int32) (S1 : Nat → Int32) (a1 : jSc), t + r = 2 ^ m → r < nn → stS S0 S1 → rX ar0 m a1 → bSet ar0 m (fun t => aSafe S0 (arT ar0 m t) m g most n0 k) t v → (∀ q, (q < 3 ∨ (8 ≤ q ∧ q ≤ 16) ∨ (18 ≤ q ∧ q ≤ 21) ∨ 29 ≤ q) → ¬ (48 ≤ q ∧ q ≤ 50) → S1 q = upd S 0 0 q) → (∀ b, b ≠ 13 → b ≠ 106 → ¬ (108 ≤ b ∧ b ≤ 710) → ¬ (730 ≤ b ∧ b ≤ 733) → a1 b = ar b) → ∃ v9 S9 ar9, rF_108_103 nn (nI n0) (nI k) (nI most) (nI wt) (nI s) v (nI t) S1 a1 = some (aAns ar0 m v9 (nI wt), S9, ar9) ∧ bSet ar0 m (fun t => aSafe S0 (arT ar0 m t) m g most n0 k) (2 ^ m) v9 ∧ vZ (upd S 0 0) ar S9 ar9 := by
    intro r
    induction r with
    | zero =>
      intro t nn v S1 a1 h1' h2 hS1 hX hB hfS hfA
      obtain ⟨nn, rfl⟩ : ∃ j, nn = j + 1 := ⟨nn - 1, by omega⟩
      have et : t = 2 ^ m := by omega
      rw [rF_108_103]
      rw [S38 S1 hS1, sh_m m (by omega), if_pos (nI_le (by omega) (by omega)), r_turns hm (S38 S1 hS1), ob2]
      have vz : vZ (upd S 0 0) ar S1 (arT a1 m s) := by
        refine ⟨hfS, fun b u1 u2 u3 => ?_⟩
        by_cases z : b = 106
        · subst z
          funext i
          rw [hA 106 (by omega)]
          by_cases y : i < m
          · rw [arT_i y, hO.2.2 i y]
          · unfold arT
            rw [va_up_self, if_neg y, hX.2 i (by omega)]
        · rw [arT_o z]; exact hfA b u1 z u2 u3
      rw [et] at hB
      refine ⟨v, S1, arT a1 m s, ?_, hB, vz⟩
      unfold aAns
      rcases hB with ⟨a, -⟩ | ⟨b, b1, b2, -⟩
      · rw [if_pos a, if_pos a, a]
      · have nv : ¬ v = -1 := by rw [b2]; exact nI_nm (by omega)
        simp only [if_neg nv]
        rcases (show wt = 0 ∨ wt = 1 by omega) with rfl | rfl
        · rw [if_pos (show nI 0 = (0 : Int32) from rfl), if_pos (show nI 0 = (0 : Int32) from rfl)]
        · rw [if_neg (show ¬ nI 1 = (0 : Int32) by decide), if_neg (show ¬ nI 1 = (0 : Int32) by decide), b2, r_price hm (S38 S1 hS1) (ro _ (rX_t hX)), ob3, iN_nI (by omega), aPc_c (ar := ar0) (by rw [arT_o (by decide)]; exact hX.1 105 (by omega))]
    | succ r ih =>
      intro t nn v S1 a1 h1' h2 hS1 hX hB hfS hfA
      obtain ⟨nn, rfl⟩ : ∃ j, nn = j + 1 := ⟨nn - 1, by omega⟩
      -- the set is tried
      have tried : (∀ b, v = nI b → b < t → rk ar0 m t < rk ar0 m b) → ∃ v9 S9 ar9, rF_108_134 (fun x1_ x2_ x3_ x4_ x5_ x6_ x7_ S_ ar_ => rF_108_103 nn x1_ x2_ x3_ x4_ x5_ x6_ x7_ S_ ar_) (nI n0) (nI k) (nI most) (nI wt) (nI s) v (nI t) S1 a1 = some (aAns ar0 m v9 (nI wt), S9, ar9) ∧ bSet ar0 m (fun t => aSafe S0 (arT ar0 m t) m g most n0 k) (2 ^ m) v9 ∧ vZ (upd S 0 0) ar S9 ar9 := by
        intro hlt
        obtain ⟨sc2, car2, hE2⟩ := cE_set hE hM (show t < 2 ^ m by omega)
        obtain ⟨S2, ar2, e1, e2⟩ := r_safe hE2 hk h1 h6 hn hS1 (rX_T hX)
        unfold rF_108_134
        rw [r_turns hm (S38 S1 hS1), ob2, e1, ob3, nI_1]
        have hS2 := stS_Z hS1 e2
        have hX2 : rX ar0 m ar2 := rX_c (rX_t (t := t) hX) (fun b hb => e2.2 b (by omega) (by omega) (by omega))
        have fS2 : ∀ q, (q < 3 ∨ (8 ≤ q ∧ q ≤ 16) ∨ (18 ≤ q ∧ q ≤ 21) ∨ 29 ≤ q) → ¬ (48 ≤ q ∧ q ≤ 50) → S2 q = upd S 0 0 q := fun q u1 u2 => (e2.1 q u1 u2).trans (hfS q u1 u2)
        have fA2 : ∀ b, b ≠ 13 → b ≠ 106 → ¬ (108 ≤ b ∧ b ≤ 710) → ¬ (730 ≤ b ∧ b ≤ 733) → ar2 b = ar b := fun b u1 u2 u3 u4 => by rw [e2.2 b u1 u3 u4, arT_o u2]; exact hfA b u1 u2 u3 u4
        by_cases z : aSafe S0 (arT ar0 m t) m g most n0 k = true
        · rw [if_pos z, if_neg (show ¬ (1 : Int32) = 0 by decide)]
          refine ih (t + 1) nn (nI t) S2 ar2 (by omega) (by omega) hS2 hX2 (Or.inr ⟨t, by omega, rfl, z, fun q hq hs => ?_⟩) fS2 fA2
          by_cases y : q = t
          · subst y; exact Nat.le_refl _
          · rcases hB with ⟨a, b⟩ | ⟨b, b1, b2, b3, b4⟩
            · rw [b q (by omega)] at hs; cases hs
            · have := b4 q (by omega) hs
              have := hlt b b2 b1
              omega
        · rw [if_neg z, if_pos rfl]
          refine ih (t + 1) nn v S2 ar2 (by omega) (by omega) hS2 hX2 ?_ fS2 fA2
          rcases hB with ⟨a, b⟩ | ⟨b, b1, b2, b3, b4⟩
          · refine Or.inl ⟨a, fun q hq => ?_⟩
            by_cases y : q = t
            · subst y; simpa using z
            · exact b q (by omega)
          · refine Or.inr ⟨b, by omega, b2, b3, fun q hq hs => ?_⟩
            by_cases y : q = t
            · subst y; exact absurd hs z
            · exact b4 q (by omega) hs
      rw [rF_108_103]
      rw [S38 S1 hS1, sh_m m (by omega), if_neg (nI_ge (by omega) (by omega))]
      rcases hB with ⟨a, b⟩ | ⟨b, b1, b2, b3, b4⟩
      · rw [if_pos a]
        exact tried (fun b e _ => by rw [a] at e; exact absurd e.symm (nI_nm (by omega)))
      · rw [if_neg (by rw [b2]; exact nI_nm (by omega)), b2, r_ah hm (S38 S1 hS1) (ro a1 hX), ob3, rk_c (ar := ar0) (hX.1 105 (by omega)), rk_c (ar := ar0) (hX.1 105 (by omega)), nI_1]
        by_cases z : rk ar0 m t < rk ar0 m b
        · rw [if_pos z, if_neg (show ¬ (1 : Int32) = 0 by decide), ← b2]
          exact tried (fun b' e _ => by
            rw [b2] at e
            have := (nI_eq (by omega) (by omega)).mp e
            rw [← this]; exact z)
        · rw [if_neg z, if_pos rfl]
          refine ih (t + 1) nn (nI b) S1 a1 (by omega) (by omega) hS1 hX (Or.inr ⟨b, by omega, rfl, b3, fun q hq hs => ?_⟩) hfS hfA
          by_cases y : q = t
          · subst y; omega
          · exact b4 q (by omega) hs
  -- which are on
  have were : ∀ (r i nn : Nat) (x5 : Int32), i + r = m → r < nn → (∀ q, q < 32 → bt x5 q = (decide (q < i) && bt (nI s) q)) → rF_108_57 nn (nI n0) (nI k) (nI most) (nI wt) x5 (-1) (nI i) (upd S 0 0) ar = rF_108_103 oF (nI n0) (nI k) (nI most) (nI wt) (nI s) (-1) 0 (upd S 0 0) ar := by
    intro r
    induction r with
    | zero =>
      intro i nn x5 h1' h2 h3
      obtain ⟨nn, rfl⟩ : ∃ j, nn = j + 1 := ⟨nn - 1, by omega⟩
      have e5 : x5 = nI s := by
        apply b_ext
        intro q hq
        rw [h3 q hq]
        by_cases z : q < i
        · rw [decide_eq_true z, Bool.true_and]
        · rw [decide_eq_false z, Bool.false_and, bits_m m (by omega) s hO.1 q hq (by omega)]
      rw [rF_108_57]
      rw [S38 _ hS1, if_pos (nI_le (by omega) (by omega)), e5, up_16 (S16 _ hS1)]
    | succ r ih =>
      intro i nn x5 h1' h2 h3
      obtain ⟨nn, rfl⟩ : ∃ j, nn = j + 1 := ⟨nn - 1, by omega⟩
      have e6 : ar 106 i = if bt (nI s) i = true then 1 else 0 := by rw [hA 106 (by omega)]; exact hO.2.2 i (by omega)
      rw [rF_108_57]
      rw [S38 _ hS1, if_neg (nI_ge (by omega) (by omega)), if_pos (iB_nI (show i < 6 by omega) (by decide)), iN_nI (by omega), e6, nI_1]
      by_cases z : bt (nI s) i = true
      · rw [if_pos z, if_neg (show ¬ (1 : Int32) = 0 by decide)]
        refine ih (i + 1) nn _ (by omega) (by omega) (fun q hq => ?_)
        rw [bt_or (by omega) hq, h3 q hq]
        by_cases y : q = i
        · subst y; rw [z]; simp
        · rw [decide_eq_false y, Bool.or_false]
          by_cases x : q < i
          · rw [decide_eq_true x, decide_eq_true (show q < i + 1 by omega)]
          · rw [decide_eq_false x, decide_eq_false (show ¬ q < i + 1 by omega)]
      · rw [if_neg z, if_pos rfl, Int32.or_zero]
        refine ih (i + 1) nn _ (by omega) (by omega) (fun q hq => ?_)
        rw [h3 q hq]
        by_cases y : q = i
        · subst y
          have zf : bt (nI s) q = false := by simpa using z
          rw [zf, Bool.and_false, Bool.and_false]
        · by_cases x : q < i
          · rw [decide_eq_true x, decide_eq_true (show q < i + 1 by omega)]
          · rw [decide_eq_false x, decide_eq_false (show ¬ q < i + 1 by omega)]
  have r4a : rF_4 (nI k) 0 3 (upd S 0 0) ar = some (1, upd S 0 0, ar) := by
    unfold rF_4
    rw [if_neg (nI_pos (by omega)), if_neg (show ¬ (3 : Int32) < nI k from nI_nlt (a := 3) (by omega) (by decide))]
  have r4b : rF_4 (nI wt) 0 1 (upd S 0 0) ar = some (1, upd S 0 0, ar) := by
    unfold rF_4
    rw [if_neg (nI_pos (by omega)), if_neg (show ¬ (1 : Int32) < nI wt from nI_nlt (a := 1) (by omega) (by decide))]
  have w0 := were m 0 oF 0 (by omega) (by unfold oF; omega) (fun q _ => by rw [b_0, decide_eq_false (by omega), Bool.false_and])
  rw [show nI 0 = (0 : Int32) from rfl] at w0
  have g0 := go (2 ^ m) 0 oF (-1) (upd S 0 0) ar (by omega) (by unfold oF; omega) hS1 X0 (Or.inl ⟨rfl, fun q hq => absurd hq (by omega)⟩) (fun _ _ _ => rfl) (fun _ _ _ _ _ => rfl)
  rw [show nI 0 = (0 : Int32) from rfl] at g0
  unfold rF_108
  rw [r_88 h1 h6 hn, ob3, if_neg (show ¬ (1 : Int32) = 0 by decide), r4a, ob3, if_neg (show ¬ (1 : Int32) = 0 by decide), r4b, ob3, if_neg (show ¬ (1 : Int32) = 0 by decide), r_ok, ob3, if_pos rfl, w0]
  exact g0
end RS
