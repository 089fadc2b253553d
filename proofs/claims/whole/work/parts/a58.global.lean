/-! THE GLOBAL RELATION of the reference and ClickOrders, between calls. -/
def gSt (S0 : Nat → Int32) (ar0 : jSc) (n : Nat) (tx : Nat → Int32) (g : pG) (p m s : Nat) (S : Nat → Int32) (ar sc car : jSc) (mr : Nat → Nat) : Prop := cE 0 n tx g p m S0 ar0 sc car mr ∧ S0 16 = 0 ∧ stS S0 S ∧ stA ar0 ar ∧ fM m ar0 sc car ∧ fO m s ar0 sc
def gRun (S0 : Nat → Int32) (ar0 : jSc) (m nr : Nat) (S : Nat → Int32) (ar sc car : jSc) (al : jAl) : Prop := tK nr S ar sc car al ∧ tB nr ar ∧ tY S0 ar0 m nr ar sc car al
def gTold (cs : List Nat) (S : Nat → Int32) (ar sc car : jSc) : Prop := tRf S ar cs ∧ tCl sc car cs
def gWi (S0 : Nat → Int32) (ar0 : jSc) (m : Nat) (S : Nat → Int32) (ar sc car : jSc) : Prop := wRel 0 ar car ∧ S 57 = sc 796 1 ∧ cFw S0 ar0 m sc
/-- how many events have a handler -/
def hCn (row : Nat → Int32) : Nat → Nat
  | 0 => 0
  | e + 1 => hCn row e + (if row e = -1 then 0 else 1)
def gPr (g : pG) (p : Nat) (ar sc : jSc) : Prop := sc p 6 = o_ak g.1 0 ∧ sc p 4 = ar 9 0 ∧ sc p 5 = nI (hCn (ar 6) 17)
def gOld (ar sc car : jSc) (mr : Nat → Nat) : Prop := x_pr (mr 0) = true ∧ x_pr (mr 1) = true ∧ x_pr (mr 2) = true ∧ mr 0 ≠ mr 1 ∧ mr 0 ≠ mr 2 ∧ mr 1 ≠ mr 2 ∧ mr 3 = mr 0 ∧ ∃ n1 tx1 g1, gRf 1 n1 tx1 g1 ar ∧ gCl (mr 1) g1 sc car ∧ wfG g1
def gTp (S : Nat → Int32) (ar sc car : jSc) : Prop := ∃ tp, tp ≤ 600 ∧ S 1 = nI tp ∧ sc 734 11 = nI tp ∧ (∀ k, k < tp → car 735 k = ar 1 k) ∧ (∀ k, k < 600 → ∃ b, b < 256 ∧ ar 1 k = nI b) ∧ S 2 = sc 734 12
def GR (S : Nat → Int32) (ar sc car : jSc) (mr : Nat → Nat) (al : jAl) : Prop := ∃ (S0 : Nat → Int32) (ar0 : jSc) (n : Nat) (tx : Nat → Int32) (g : pG) (p m s nr : Nat) (cs : List Nat), gSt S0 ar0 n tx g p m s S ar sc car mr ∧ gRun S0 ar0 m nr S ar sc car al ∧ gTold cs S ar sc car ∧ cKy S0 ar0 m g sc car ∧ gWi S0 ar0 m S ar sc car ∧ cSt S0 ar0 m g sc ∧ gPr g p ar sc ∧ gOld ar sc car mr ∧ gTp S ar sc car
/-! What each piece rests on. -/
/-- the programs and forms of ClickOrders are as they were -/
def kPc (sc car sc2 car2 : jSc) : Prop := (∀ a, x_pr a = true → sc2 a = sc a ∧ car2 (a + 1) = car (a + 1) ∧ car2 (a + 2) = car (a + 2) ∧ car2 (a + 3) = car (a + 3)) ∧ (∀ k, 5 ≤ k → k ≤ 8 → sc2 736 k = sc 736 k) ∧ (∀ b, 737 ≤ b → b ≤ 741 → car2 b = car b) ∧ sc2 757 5 = 0
def kSr (S : Nat → Int32) (ar : jSc) (S2 : Nat → Int32) (ar2 : jSc) : Prop := stS S S2 ∧ stA ar ar2
def kRn (S : Nat → Int32) (ar sc car : jSc) (al : jAl) (S2 : Nat → Int32) (ar2 sc2 car2 : jSc) (al2 : jAl) : Prop := S2 31 = S 31 ∧ (∀ b, (14 ≤ b ∧ b ≤ 18) ∨ (20 ≤ b ∧ b ≤ 60) → ar2 b = ar b) ∧ sc2 759 5 = sc 759 5 ∧ sc2 759 14 = sc 759 14 ∧ (∀ b, (761 ≤ b ∧ b ≤ 765) ∨ b = 769 ∨ b = 770 ∨ b = 772 → car2 b = car b) ∧ al2 768 = al 768
def kTd (S : Nat → Int32) (ar sc car : jSc) (S2 : Nat → Int32) (ar2 sc2 car2 : jSc) : Prop := S2 51 = S 51 ∧ ar2 711 = ar 711 ∧ sc2 819 1 = sc 819 1 ∧ car2 820 = car 820
def kKy (sc car sc2 car2 : jSc) : Prop := sc2 773 = sc 773 ∧ sc2 774 = sc 774 ∧ ∀ b, (775 ≤ b ∧ b ≤ 777) ∨ (789 ≤ b ∧ b ≤ 792) → car2 b = car b
def kWi (S : Nat → Int32) (ar sc car : jSc) (S2 : Nat → Int32) (ar2 sc2 car2 : jSc) : Prop := S2 57 = S 57 ∧ (∀ b, 714 ≤ b → b ≤ 719 → ar2 b = ar b) ∧ sc2 796 1 = sc 796 1 ∧ sc2 796 4 = sc 796 4 ∧ sc2 796 5 = sc 796 5 ∧ car2 798 0 = car 798 0 ∧ car2 798 1 = car 798 1 ∧ car2 800 = car 800 ∧ car2 802 = car 802
def kTp (S : Nat → Int32) (ar sc car : jSc) (S2 : Nat → Int32) (ar2 sc2 car2 : jSc) : Prop := S2 1 = S 1 ∧ S2 2 = S 2 ∧ ar2 1 = ar 1 ∧ sc2 734 11 = sc 734 11 ∧ sc2 734 12 = sc 734 12 ∧ car2 735 = car 735
section GK
variable {S0 : Nat → Int32} {ar0 : jSc} {S S2 : Nat → Int32} {ar ar2 : jSc} {sc car sc2 car2 : jSc} {mr : Nat → Nat} {al al2 : jAl} {pr n p m s nr : Nat} {tx : Nat → Int32} {g : pG} {cs : List Nat}
theorem gCl_k (h : gCl p g sc car) (k : kPc sc car sc2 car2) : gCl p g sc2 car2 := by
  obtain ⟨c1, ⟨c2, c2b⟩, c3, c4, c5⟩ := h
  obtain ⟨k1, k2, k3, k4⟩ := k.1 p c1
  exact ⟨c1, ⟨by rw [k1]; exact c2, fun i hi => by rw [k2, k3]; exact c2b i hi⟩, fun e he => by rw [k4]; exact c3 e he, by rw [k1]; exact c4, by rw [k1]; exact c5⟩
theorem cE_k (h : cE pr n tx g p m S0 ar0 sc car mr) (k : kPc sc car sc2 car2) : cE pr n tx g p m S0 ar0 sc2 car2 mr := by
  obtain ⟨⟨h1, h2, h3, h4, h5, h6, h7⟩, h29, -⟩ := h
  exact ⟨⟨h1, gCl_k h2 k, h3, h4, h5, h6, h7.1, fun l hl => by rw [k.2.1 8 (by omega) (by omega)]; exact h7.2.1 l hl, fun l hl => by rw [k.2.1 7 (by omega) (by omega)]; exact h7.2.2.1 l hl, fun t l ht hl => by rw [k.2.2.1 741 (by omega) (by omega)]; exact h7.2.2.2 t l ht hl⟩, h29, k.2.2.2⟩
theorem fM_k (h : fM m ar0 sc car) (k : kPc sc car sc2 car2) : fM m ar0 sc2 car2 := ⟨h.1, (k.2.1 5 (by omega) (by omega)).trans h.2.1, fun i hi => by rw [k.2.2.1 737 (by omega) (by omega), k.2.2.1 738 (by omega) (by omega), k.2.2.1 739 (by omega) (by omega), k.2.2.1 740 (by omega) (by omega)]; exact h.2.2 i hi⟩
theorem gSt_k (h : gSt S0 ar0 n tx g p m s S ar sc car mr) (k : kPc sc car sc2 car2) (r : kSr S ar S2 ar2) : gSt S0 ar0 n tx g p m s S2 ar2 sc2 car2 mr := ⟨cE_k h.1 k, h.2.1, stS_tr h.2.2.1 r.1, stA_tr h.2.2.2.1 r.2, fM_k h.2.2.2.2.1 k, h.2.2.2.2.2.1, (k.2.1 6 (by omega) (by omega)).trans h.2.2.2.2.2.2.1, h.2.2.2.2.2.2.2⟩
theorem tK_k (h : tK nr S ar sc car al) (k : kRn S ar sc car al S2 ar2 sc2 car2 al2) : tK nr S2 ar2 sc2 car2 al2 := by
  obtain ⟨h1, h2, h3, h4, h5, h6, h7, h8⟩ := h
  obtain ⟨k1, k2, k3, k4, k5, k6⟩ := k
  refine ⟨h1, k1.trans h2, k3.trans h3, by rw [k2 14 (by omega), k5 761 (by omega)]; exact h4, by rw [k2 14 (by omega), k5 761 (by omega)]; exact h5, fun i hi => ?_, fun q hq => ?_, fun j hj q hq => ?_⟩
  · rw [k2 15 (by omega), k2 16 (by omega), k2 17 (by omega), k2 18 (by omega), k5 762 (by omega), k5 763 (by omega), k5 764 (by omega), k5 765 (by omega)]; exact h6 i hi
  · rw [k2 (20 + q) (by omega), k5 769 (by omega), k5 770 (by omega)]; exact h7 q hq
  · rw [k6, h8 j hj q hq]
    have e : ∀ i, i < j → aDr ar2 i j = aDr ar i j := fun i hi => aDr_c (fun z _ => by rw [k2 15 (by omega)]) (by rw [k2 16 (by omega)]) (fun z hz => k2 (20 + z) (by omega)) hi
    constructor
    · rintro ⟨i, a, b, c⟩
      exact ⟨i, a, by rw [e i a]; exact b, c⟩
    · rintro ⟨i, a, b, c⟩
      exact ⟨i, a, by rw [e i a] at b; exact b, c⟩
theorem tW_k (k : kRn S ar sc car al S2 ar2 sc2 car2 al2) : tW al2 = tW al := by
  unfold tW
  rw [k.2.2.2.2.2]
theorem tY_k (hn : nr ≤ 40) (h : tY S0 ar0 m nr ar sc car al) (k : kRn S ar sc car al S2 ar2 sc2 car2 al2) : tY S0 ar0 m nr ar2 sc2 car2 al2 := by
  have kk := k
  obtain ⟨k1, k2, k3, k4, k5, k6⟩ := k
  unfold tY
  rw [k4, tW_k kk]
  rcases h with h | ⟨h1, h2⟩
  · exact Or.inl h
  · refine Or.inr ⟨h1, fun z hz => ?_⟩
    rw [k5 772 (by omega), h2 z hz]
    have ec : crO (aX ar2 (tW al)) nr 0 nr = crO (aX ar (tW al)) nr 0 nr := crO_c (by omega) (fun p q _ _ => aX_c (k2 17 (by omega)) (k2 18 (by omega)))
    have ef : (fun q : Nat × Nat => aTu S0 ar0 m ar2 (tW al) nr q.1 q.2) = fun q => aTu S0 ar0 m ar (tW al) nr q.1 q.2 := by
      funext q
      have e15 : ar2 15 = ar 15 := k2 15 (by omega)
      have e14 : ar2 14 = ar 14 := k2 14 (by omega)
      have e1 : ∀ l, cds ar2 l = cds ar l := fun l => by unfold cds; rw [e15]
      have es : ∀ (cs : List Nat) (P : Nat → Int32), aStg S0 ar0 m (fun s => ar2 (20 + s)) nr cs P = aStg S0 ar0 m (fun s => ar (20 + s)) nr cs P := by
        intro cs
        induction cs with
        | nil => intro P; rfl
        | cons c cs ih =>
          intro P
          rw [aStg_cons, aStg_cons, ih, ih, aSB_c (T := fun s => ar (20 + s)) (T2 := fun s => ar2 (20 + s)) (Q := aSt S0 ar0 P c) (Q2 := aSt S0 ar0 P c) (fun s hs k _ => by rw [k2 (20 + s) (by omega)]) (fun _ _ => rfl)]
      unfold aTu aTn
      rw [e1, e1, e15, e14, es]
    rw [ec, ef]
theorem gRun_k (h : gRun S0 ar0 m nr S ar sc car al) (k : kRn S ar sc car al S2 ar2 sc2 car2 al2) : gRun S0 ar0 m nr S2 ar2 sc2 car2 al2 := ⟨tK_k h.1 k, fun i hi => by rw [k.2.1 18 (by omega)]; exact h.2.1 i hi, tY_k h.1.1 h.2.2 k⟩
theorem gTold_k (h : gTold cs S ar sc car) (k : kTd S ar sc car S2 ar2 sc2 car2) : gTold cs S2 ar2 sc2 car2 := ⟨⟨k.1.trans h.1.1, by rw [k.2.1]; exact h.1.2.1, h.1.2.2⟩, ⟨k.2.2.1.trans h.2.1, by rw [k.2.2.2]; exact h.2.2.1, h.2.2.2⟩⟩
theorem cKy_k (h : cKy S0 ar0 m g sc car) (k : kKy sc car sc2 car2) : cKy S0 ar0 m g sc2 car2 := cKy_c h k.1 k.2.1 k.2.2
theorem gWi_k (h : gWi S0 ar0 m S ar sc car) (k : kWi S ar sc car S2 ar2 sc2 car2) : gWi S0 ar0 m S2 ar2 sc2 car2 := by
  obtain ⟨⟨h1, h2, h3, h4, h5⟩, h6, h7⟩ := h
  obtain ⟨k1, k2, k3, k4, k5, k6, k7, k8, k9⟩ := k
  refine ⟨⟨?_, ?_, fun i hi => ?_, fun i hi => ?_, fun i hi => ?_⟩, by rw [k1, k3]; exact h6, ?_⟩
  · rw [k2 714 (by omega) (by omega)]
    show pgR (ar 714) (car2 800)
    rw [k8]; exact h1
  · rw [k2 715 (by omega) (by omega)]
    show pgR (ar 715) (car2 802)
    rw [k9]; exact h2
  · rw [k2 716 (by omega) (by omega), k2 (718 + 0) (by omega) (by omega), k6]; exact h3 i hi
  · rw [k2 716 (by omega) (by omega), k2 (718 + 1) (by omega) (by omega)]
    show bt (car2 798 1) i = _
    rw [k7]; exact h4 i hi
  · rw [k2 714 (by omega) (by omega), k2 715 (by omega) (by omega)]; exact h5 i hi
  · unfold cFw
    rw [k4, k5]; exact h7
theorem cSt_k (h : cSt S0 ar0 m g sc) (h1 : sc2 734 13 = sc 734 13) (h2 : sc2 734 14 = sc 734 14) : cSt S0 ar0 m g sc2 := by
  unfold cSt
  rw [h1, h2]; exact h
theorem gPr_k (h : gPr g p ar sc) (hp : x_pr p = true) (k : kPc sc car sc2 car2) (r : kSr S ar S2 ar2) : gPr g p ar2 sc2 := by
  unfold gPr
  rw [(k.1 p hp).1, r.2 9 (by omega), r.2 6 (by omega)]; exact h
theorem gOld_k (h : gOld ar sc car mr) (k : kPc sc car sc2 car2) (r : kSr S ar S2 ar2) : gOld ar2 sc2 car2 mr := by
  obtain ⟨h1, h2, h3, h4, h5, h6, h7, n1, tx1, g1, h8, h9, h10⟩ := h
  exact ⟨h1, h2, h3, h4, h5, h6, h7, n1, tx1, g1, gRf_st h8 (fun b hb => r.2 b hb), gCl_k h9 k, h10⟩
theorem gTp_k (h : gTp S ar sc car) (k : kTp S ar sc car S2 ar2 sc2 car2) : gTp S2 ar2 sc2 car2 := by
  obtain ⟨tp, h1, h2, h3, h4, h6, h5⟩ := h
  obtain ⟨k1, k2, k3, k4, k5, k6⟩ := k
  exact ⟨tp, h1, k1.trans h2, k4.trans h3, fun i hi => by rw [k3, k6]; exact h4 i hi, fun i hi => by rw [k3]; exact h6 i hi, by rw [k2, k5]; exact h5⟩
/-- all that is kept, if nothing of it is touched -/
theorem GR_k (h : GR S ar sc car mr al) (k1 : kPc sc car sc2 car2) (k2 : kSr S ar S2 ar2) (k3 : kRn S ar sc car al S2 ar2 sc2 car2 al2) (k4 : kTd S ar sc car S2 ar2 sc2 car2) (k5 : kKy sc car sc2 car2) (k6 : kWi S ar sc car S2 ar2 sc2 car2) (k7 : kTp S ar sc car S2 ar2 sc2 car2) (k8 : sc2 734 13 = sc 734 13) (k9 : sc2 734 14 = sc 734 14) : GR S2 ar2 sc2 car2 mr al2 := by
  obtain ⟨S0, ar0, n, tx, g, p, m, s, nr, cs, h1, h2, h3, h4, h5, h6, h7, h8, h9⟩ := h
  exact ⟨S0, ar0, n, tx, g, p, m, s, nr, cs, gSt_k h1 k1 k2, gRun_k h2 k3, gTold_k h3 k4, cKy_k h4 k5, gWi_k h5 k6, cSt_k h6 k8 k9, gPr_k h7 h1.1.1.2.1.1 k1 k2, gOld_k h8 k1 k2, gTp_k h9 k7⟩
end GK
