/-! ClickOrders: what the reader's methods leave. -/
/-- the program p holds the orders os from L on -/
def c_sg (ar : jSc) (p : Nat) : Nat → oL → Prop
  | _, [] => True
  | L, o :: r => ar (p + 1) L = nI o.1 ∧ ar (p + 2) L = o.2 ∧ c_sg ar p (L + 1) r
/-- the lines asked -/
def o_ak (os : oL) (a : Int32) : Int32 := os.foldl (fun (a : Int32) (o : Nat × Int32) => a ||| (if o.1 = 24 then (1 : Int32) <<< (o.2 &&& 31) else 0)) a
theorem c_sg_app {ar : jSc} {p : Nat} : ∀ {os1 : oL} {L : Nat} {os2 : oL}, c_sg ar p L (os1 ++ os2) ↔ c_sg ar p L os1 ∧ c_sg ar p (L + os1.length) os2
  | [], L, os2 => by simp [c_sg]
  | o :: r, L, os2 => by
    simp only [List.cons_append, c_sg, List.length_cons]
    rw [c_sg_app (os1 := r), show L + (r.length + 1) = L + 1 + r.length by omega, and_assoc, and_assoc]
theorem c_sg_mono {ar ar2 : jSc} {p : Nat} : ∀ (os : oL) (L : Nat), c_sg ar p L os → (∀ j, j < L + os.length → ar2 (p + 1) j = ar (p + 1) j ∧ ar2 (p + 2) j = ar (p + 2) j) → c_sg ar2 p L os
  | [], _, _, _ => trivial
  | o :: r, L, h, hj => by
    simp only [List.length_cons] at hj
    exact ⟨(hj L (by omega)).1.trans h.1, (hj L (by omega)).2.trans h.2.1, c_sg_mono r (L + 1) h.2.2 (fun j hlt => hj j (by omega))⟩
/-- from (sc, ar) to (sc2, ar2): os was added to p behind L, the cursor moved, nothing else -/
def cT (p : Nat) (sc ar : jSc) (L : Nat) (os : oL) (sc2 ar2 : jSc) : Prop :=
  sc2 p 3 = nI (L + os.length) ∧ sc2 p 6 = o_ak os (sc p 6) ∧ (∀ a k, ¬ (a = 756 ∧ k = 2) → ¬ (a = p ∧ (k = 3 ∨ k = 6)) → sc2 a k = sc a k) ∧ c_sg ar2 p L os ∧ (∀ j, j < L → ar2 (p + 1) j = ar (p + 1) j ∧ ar2 (p + 2) j = ar (p + 2) j) ∧ ∀ b, b ≠ p + 1 → b ≠ p + 2 → ar2 b = ar b
/-- the reader stands at q without a fault, o open, L orders in p -/
def cK (n : Nat) (tx : Nat → Int32) (p : Nat) (sc ar : jSc) (q o L : Nat) : Prop := c_TX sc ar n tx ∧ sc 756 2 = nI q ∧ sc 756 3 = nI o ∧ sc 756 4 = 0 ∧ sc p 3 = nI L ∧ q ≤ n ∧ L ≤ q
/-- the fault kd at pl was found; the cursor stands at the end -/
def cB (n p : Nat) (sc ar : jSc) (kd pl : Nat) (sc2 ar2 : jSc) : Prop :=
  ((1 ≤ kd ∧ kd ≤ 4) ∧ pl ≤ n) ∧ sc2 756 4 = nI kd ∧ sc2 756 6 = nI pl ∧ sc2 756 2 = nI n ∧ (∃ L, L ≤ 700 ∧ sc2 p 3 = nI L) ∧ (∀ a k, ¬ (a = 756 ∧ (k = 2 ∨ k = 4 ∨ k = 6)) → ¬ (a = p ∧ (k = 3 ∨ k = 6)) → sc2 a k = sc a k) ∧ ∀ b, b ≠ p + 1 → b ≠ p + 2 → ar2 b = ar b
def cZ (n : Nat) (tx : Nat → Int32) (sc ar : jSc) : Prop := c_TX sc ar n tx ∧ sc 756 2 = nI n ∧ ¬ sc 756 4 = 0
theorem cA_n {sc : jSc} {q a k : Nat} (h : a ≠ 756) : cA sc q a k = sc a k := u2_na h
theorem cA_k {sc : jSc} {q a k : Nat} (h : k ≠ 2) : cA sc q a k = sc a k := u2_nk h
section CR
variable {tx : Nat → Int32} {n p : Nat} {sc ar sc1 ar1 sc2 ar2 : jSc} {mr : Nat → Nat} {al : jAl} {L q o kd pl : Nat} {os os1 os2 : oL}
theorem x_pr_ne (h : x_pr p = true) : p = 744 ∨ p = 748 ∨ p = 752 := by
  simp only [x_pr, Bool.or_eq_true, beq_iff_eq] at h
  rcases h with (h | h) | h
  · exact Or.inl h
  · exact Or.inr (Or.inl h)
  · exact Or.inr (Or.inr h)
theorem cT_tr (h1 : cT p sc ar L os1 sc1 ar1) (h2 : cT p sc1 ar1 (L + os1.length) os2 sc2 ar2) : cT p sc ar L (os1 ++ os2) sc2 ar2 := by
  obtain ⟨a1, a2, a3, a4, a5, a6⟩ := h1
  obtain ⟨b1, b2, b3, b4, b5, b6⟩ := h2
  refine ⟨by rw [b1, List.length_append]; congr 1; omega, by rw [b2, a2]; unfold o_ak; rw [List.foldl_append], fun a k x y => (b3 a k x y).trans (a3 a k x y), c_sg_app.mpr ⟨c_sg_mono os1 L a4 b5, b4⟩, fun j hj => ?_, fun b x y => (b6 b x y).trans (a6 b x y)⟩
  have e1 := b5 j (by omega)
  have e2 := a5 j hj
  exact ⟨e1.1.trans e2.1, e1.2.trans e2.2⟩
theorem cT_nil (hp : x_pr p = true) (hL : sc p 3 = nI L) : cT p sc ar L [] (cA sc q) ar := by
  have := x_pr_ne hp
  refine ⟨by rw [cA_n (by omega)]; exact hL, cA_n (by omega), fun a k x _ => ?_, trivial, fun _ _ => ⟨rfl, rfl⟩, fun _ _ _ => rfl⟩
  by_cases e : a = 756
  · exact u2_nk (fun z => x ⟨e, z⟩)
  · exact u2_na e
theorem cT_add {m : Int32} {od : Nat} (hp : x_pr p = true) (hL : sc p 3 = nI L) (hl7 : L < 700) (hod : od < 100) : ∃ sc2 ar2, xF_252 p (nI od) m sc mr ar al = some (nI L, sc2, mr, ar2, al) ∧ sc2 756 2 = sc 756 2 ∧ cT p sc ar L [(od, m)] sc2 ar2 := by
  have hne := x_pr_ne hp
  refine ⟨_, _, (c_adds hod hL).1 hl7, by unfold cDs; rw [u2_na (by omega), u2_na (by omega)], ?_⟩
  unfold cDs
  refine ⟨by rw [u2_eq, hL, nI_1]; rfl, by rw [u2_nk (by decide), u2_eq]; rfl, fun a k x y => ?_, ⟨?_, ?_, trivial⟩, fun j hj => ⟨?_, ?_⟩, fun b x y => ?_⟩
  · by_cases e : a = p
    · rw [u2_nk (fun z => y ⟨e, Or.inl z⟩), u2_nk (fun z => y ⟨e, Or.inr z⟩)]
    · rw [u2_na e, u2_na e]
  · rw [u2_na (by omega), u2_eq]
  · exact u2_eq
  · rw [u2_na (by omega), u2_nk (by omega)]
  · rw [u2_nk (by omega), u2_na (by omega)]
  · rw [j_u2_row _ _ _ _ y, j_u2_row _ _ _ _ x]
theorem c_TX_T (hp : x_pr p = true) (h : c_TX sc ar n tx) (hT : cT p sc ar L os sc2 ar2) : c_TX sc2 ar2 n tx := by
  have := x_pr_ne hp
  exact c_TX_S h (hT.2.2.1 756 1 (by omega) (by omega)) (hT.2.2.2.2.2 735 (by omega) (by omega))
theorem cK_T (hp : x_pr p = true) (hK : cK n tx p sc ar q o L) (hT : cT p sc ar L os sc2 ar2) {q2 : Nat} (h2 : sc2 756 2 = nI q2) (hq2 : q2 ≤ n) (hl : q + os.length ≤ q2) : cK n tx p sc2 ar2 q2 o (L + os.length) := by
  obtain ⟨k1, k2, k3, k4, k5, k6, k7⟩ := hK
  have := x_pr_ne hp
  exact ⟨c_TX_T hp k1 hT, h2, (hT.2.2.1 756 3 (by omega) (by omega)).trans k3, (hT.2.2.1 756 4 (by omega) (by omega)).trans k4, hT.1, hq2, by omega⟩
theorem cT_open {x : Int32} (hp : x_pr p = true) (h : cT p (j_u2 sc 756 3 x) ar L os sc1 ar1) : cT p sc ar L os (j_u2 sc1 756 3 (sc 756 3)) ar1 := by
  have := x_pr_ne hp
  obtain ⟨a1, a2, a3, a4, a5, a6⟩ := h
  rw [u2_na (show p ≠ 756 by omega)] at a2
  refine ⟨by rw [u2_na (show p ≠ 756 by omega)]; exact a1, by rw [u2_na (show p ≠ 756 by omega)]; exact a2, fun a k x y => ?_, a4, a5, a6⟩
  by_cases e : a = 756 ∧ k = 3
  · obtain ⟨rfl, rfl⟩ := e
    exact u2_eq
  · have := a3 a k x y
    by_cases e1 : a = 756
    · rw [u2_nk (fun z => e ⟨e1, z⟩)] at this ⊢
      exact this
    · rw [u2_na e1] at this ⊢
      exact this
theorem cB_open {x : Int32} (hp : x_pr p = true) (h : cB n p (j_u2 sc 756 3 x) ar kd pl sc1 ar1) : cB n p sc ar kd pl (j_u2 sc1 756 3 (sc 756 3)) ar1 := by
  have := x_pr_ne hp
  obtain ⟨a1, a2, a3, a4, ⟨L2, a5, a6⟩, a7, a8⟩ := h
  refine ⟨a1, by rw [u2_nk (by decide)]; exact a2, by rw [u2_nk (by decide)]; exact a3, by rw [u2_nk (by decide)]; exact a4, ⟨L2, a5, by rw [u2_na (show p ≠ 756 by omega)]; exact a6⟩, fun a k x y => ?_, a8⟩
  by_cases e : a = 756 ∧ k = 3
  · obtain ⟨rfl, rfl⟩ := e
    exact u2_eq
  · have := a7 a k x y
    by_cases e1 : a = 756
    · rw [u2_nk (fun z => e ⟨e1, z⟩)] at this ⊢
      exact this
    · rw [u2_na e1] at this ⊢
      exact this
theorem cB_T (hT : cT p sc ar L os sc1 ar1) (hB : cB n p sc1 ar1 kd pl sc2 ar2) : cB n p sc ar kd pl sc2 ar2 := by
  obtain ⟨a1, a2, a3, a4, a5, a7, a8⟩ := hB
  exact ⟨a1, a2, a3, a4, a5, fun a k x y => (a7 a k x y).trans (hT.2.2.1 a k (fun z => x ⟨z.1, Or.inl z.2⟩) y), fun b x y => (a8 b x y).trans (hT.2.2.2.2.2 b x y)⟩
theorem cB_Z (hp : x_pr p = true) (h : c_TX sc ar n tx) (hB : cB n p sc ar kd pl sc2 ar2) : cZ n tx sc2 ar2 := by
  have := x_pr_ne hp
  obtain ⟨a1, a2, a3, a4, a5, a7, a8⟩ := hB
  refine ⟨c_TX_S h (a7 756 1 (by omega) (by omega)) (a8 735 (by omega) (by omega)), a4, ?_⟩
  rw [a2]
  exact nI_ne0 (by omega) (by omega)
theorem cB_F (hp : x_pr p = true) (hK : cK n tx p sc ar q o L) {q2 : Nat} (hk : 1 ≤ kd ∧ kd ≤ 4) (hpl : pl ≤ n) (hn : n ≤ 600) : cB n p sc ar kd pl (cF (cA sc q2) kd pl) ar := by
  have := x_pr_ne hp
  obtain ⟨k1, k2, k3, k4, k5, k6, k7⟩ := hK
  unfold cF
  rw [if_pos (show cA sc q2 756 4 = 0 from (u2_nk (by decide)).trans k4)]
  refine ⟨⟨hk, hpl⟩, by rw [u2_nk (by decide), u2_nk (by decide), u2_eq], by rw [u2_nk (by decide), u2_eq], by rw [u2_eq, cA_k (by decide)]; exact k1.2.1, ⟨L, by omega, ?_⟩, fun a k x y => ?_, fun _ _ _ => rfl⟩
  · rw [u2_na (by omega), u2_na (by omega), u2_na (by omega), cA_n (by omega)]
    exact k5
  · by_cases e : a = 756
    · rw [u2_nk (fun z => x ⟨e, Or.inl z⟩), u2_nk (fun z => x ⟨e, Or.inr (Or.inr z)⟩), u2_nk (fun z => x ⟨e, Or.inr (Or.inl z)⟩), cA_k (fun z => x ⟨e, Or.inl z⟩)]
    · rw [u2_na e, u2_na e, u2_na e, cA_n e]
theorem cB_add {m : Int32} {od : Nat} (hp : x_pr p = true) (hB : cB n p sc ar kd pl sc2 ar2) (hod : od < 100) : ∃ v sc3 ar3, xF_252 p (nI od) m sc2 mr ar2 al = some (v, sc3, mr, ar3, al) ∧ cB n p sc ar kd pl sc3 ar3 := by
  have hne := x_pr_ne hp
  obtain ⟨a1, a2, a3, a4, ⟨L2, a5, a6⟩, a7, a8⟩ := hB
  by_cases c : L2 < 700
  · obtain ⟨sc3, ar3, e1, e2, b1, b2, b3, b4, b5, b6⟩ := cT_add (mr := mr) (al := al) (ar := ar2) (m := m) hp a6 c hod
    refine ⟨_, sc3, ar3, e1, a1, (b3 756 4 (by omega) (by omega)).trans a2, (b3 756 6 (by omega) (by omega)).trans a3, e2.trans a4, ⟨L2 + 1, by omega, b1⟩, fun a k x y => (b3 a k (fun z => x ⟨z.1, Or.inl z.2⟩) y).trans (a7 a k x y), fun b x y => (b6 b x y).trans (a8 b x y)⟩
  · exact ⟨_, sc2, ar2, (c_adds hod a6).2 (by omega) (by omega), a1, a2, a3, a4, ⟨L2, a5, a6⟩, a7, a8⟩
theorem cZ_F (h : cZ n tx sc ar) {q2 : Nat} : cF sc kd q2 = sc := by
  obtain ⟨h1, h2, h3⟩ := h
  unfold cF
  rw [if_neg h3, h1.2.1, ← h2]
  exact u2_3
theorem cZ_nb (h : cZ n tx sc ar) : x_nb tx n = n ∧ cA sc n = sc := by
  have b := x_nb_ok h.1.1 n
  exact ⟨by omega, cA_i h.2.1⟩
theorem cZ_tx (h : cZ n tx sc ar) : tx n = -1 := h.1.1.2.1 n (Nat.le_refl n)
theorem cZ_is (h : cZ n tx sc ar) {w : List Nat} (hw : 0 < w.length) : ¬ x_is tx n w := by
  intro z
  have b := x_we_ok h.1.1 n
  have e : x_we tx n = n := by omega
  have := z.1
  omega
theorem cZ_skips (h : cZ n tx sc ar) : xF_273 sc mr ar al = some (sc, mr, ar, al) := by
  obtain ⟨e1, e2⟩ := cZ_nb h
  have := c_skips (mr := mr) (al := al) h.1 (Nat.le_refl n)
  rw [e1, e2] at this
  exact this
theorem cZ_sign (h : cZ n tx sc ar) {c : Int32} (hc : ¬ c = -1) : xF_270 c sc mr ar al = some (0, sc, mr, ar, al) := by
  obtain ⟨e1, e2⟩ := cZ_nb h
  have := c_sign (mr := mr) (al := al) h.1 (Nat.le_refl n) hc
  have c1 : ¬ tx n = c := by rw [cZ_tx h]; exact fun z => hc z.symm
  rw [e1, if_neg c1, if_neg c1, e2] at this
  exact this
theorem cZ_needs (h : cZ n tx sc ar) {c : Int32} (hc : ¬ c = -1) : xF_271 c sc mr ar al = some (sc, mr, ar, al) := by
  obtain ⟨e1, e2⟩ := cZ_nb h
  have := c_needs (mr := mr) (al := al) h.1 (Nat.le_refl n) hc
  have c1 : ¬ tx n = c := by rw [cZ_tx h]; exact fun z => hc z.symm
  rw [e1, if_neg c1, e2, cZ_F h] at this
  exact this
theorem cZ_word (h : cZ n tx sc ar) {s : Nat} {w : List Nat} (hs : x_sw s w) (hw : 0 < w.length) : xF_269 s sc mr ar al = some (0, sc, mr, ar, al) := by
  obtain ⟨e1, e2⟩ := cZ_nb h
  have := c_word (mr := mr) (al := al) h.1 (Nat.le_refl n) hs
  rw [e1, if_neg (cZ_is h hw), if_neg (cZ_is h hw), e2] at this
  exact this
theorem cZ_letter (h : cZ n tx sc ar) : xF_268 sc mr ar al = some (-1, sc, mr, ar, al) := by
  obtain ⟨e1, e2⟩ := cZ_nb h
  have := c_letter (mr := mr) (al := al) h.1 (Nat.le_refl n)
  have hl : x_le tx n = none := if_neg (fun z => absurd z.1.1 (by rw [cZ_tx h]; decide))
  rw [e1, e2, hl] at this
  exact this
theorem cZ_digit (h : cZ n tx sc ar) : xF_274 (sc 756 2) sc mr ar al = some (0, sc, mr, ar, al) := by
  rw [h.2.1, c_isDigit h.1 (by have := h.1.1.1; omega), if_neg (by rw [cZ_tx h]; decide)]
theorem cZ_open (h : cZ n tx sc ar) {at_ : Nat} : xF_265 (nI at_) sc mr ar al = some (0, sc, mr, ar, al) := by
  unfold xF_265
  rw [if_neg h.2.2, show (3 : Int32) = nI 3 from rfl, c_faults, ob4, cZ_F h, if_neg h.2.2]
  split <;> rfl
theorem c_open (hK : cK n tx p sc ar q o L) (ho : o < 6) {at_ : Int32} {q2 : Nat} : xF_265 at_ (cA sc q2) mr ar al = some (1, j_u2 (cA sc q2) 756 3 (nI (o + 1)), mr, ar, al) := by
  obtain ⟨k1, k2, k3, k4, k5, k6, k7⟩ := hK
  unfold xF_265
  have e3 : cA sc q2 756 3 = nI o := (u2_nk (by decide)).trans k3
  have e4 : cA sc q2 756 4 = 0 := (u2_nk (by decide)).trans k4
  have e6 : nI o < (6 : Int32) := nI_lt (b := 6) ho (by decide)
  rw [e3, if_pos e6, if_pos e4, nI_1]
theorem c_open6 (hK : cK n tx p sc ar q 6 L) {at_ q2 : Nat} : xF_265 (nI at_) (cA sc q2) mr ar al = some (0, cF (cA sc q2) 3 at_, mr, ar, al) := by
  obtain ⟨k1, k2, k3, k4, k5, k6, k7⟩ := hK
  unfold xF_265
  have e3 : cA sc q2 756 3 = nI 6 := (u2_nk (by decide)).trans k3
  have e4 : cF (cA sc q2) 3 at_ 756 4 = nI 3 := by
    unfold cF
    rw [if_pos (show cA sc q2 756 4 = 0 from (u2_nk (by decide)).trans k4), u2_nk (by decide), u2_nk (by decide), u2_eq]
  rw [e3, if_neg (by decide), show (3 : Int32) = nI 3 from rfl, c_faults, ob4, e4, if_neg (by decide)]
end CR
