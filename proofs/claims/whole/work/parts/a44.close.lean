/-! WORDS LOST: how the windows begin, and the search in ClickOrders. -/
def wB0 (S0 : Nat → Int32) (ar0 : jSc) : wSt × Int32 := match rF_109 S0 ar0 with
  | some (S9, ar9) => (wS ar9, S9 57)
  | none => (wS ar0, 0)
section CL
variable {S0 : Nat → Int32} {ar0 : jSc} {S : Nat → Int32} {ar : jSc} {sc car : jSc} {mr : Nat → Nat} {al : jAl} {pr n p m b : Nat} {tx : Nat → Int32} {g : pG} {st : wSt}
/-- both windows begin, on both sides -/
theorem w_win (hE : cE pr n tx g p m S0 ar0 sc car mr) (h16 : S0 16 = 0) (hS : stS S0 S) (hA : stA ar0 ar) (hb : b ≤ 8) :
    ∃ S9 ar9 sc2 car2, rF_109 S ar = some (S9, ar9) ∧ xF_248 (nI b) sc mr car al = some ((wB0 S0 ar0).2, sc2, mr, car2, al) ∧ S9 57 = (wB0 S0 ar0).2 ∧ wS ar9 = (wB0 S0 ar0).1 ∧ wRel b ar9 car2 ∧ wFr S ar S9 ar9 ∧ wCf b sc car sc2 car2 ∧ ∃ j, j ≤ 1200 ∧ (wB0 S0 ar0).2 = nI j := by
  obtain ⟨v, S9, ar9, sc2, car2, e1, e2, e3, e4, e5, e6, e7⟩ := h_win (al := al) (b := b) (sR_st hE.1 hS hA) (hS.1.trans h16) (hS.2.2.trans hE.2.1) hb
  obtain ⟨v', S8, ar8, sc3, car3, f1, f2, f3, f4, f5, f6, f7⟩ := h_win (al := al) (b := b) hE.1 h16 hE.2.1 hb
  rw [e2] at f2
  obtain ⟨rfl, rfl, rfl⟩ := o5_in f2
  have en : wB0 S0 ar0 = (wS ar8, S8 57) := by
    unfold wB0
    rw [f1]
  rw [en, f3]
  exact ⟨S9, ar9, sc2, car2, e1, e2, e3, wRel_det f4 e4, e4, e5, e6, e7⟩
theorem r_win (hE : cE pr n tx g p m S0 ar0 sc car mr) (h16 : S0 16 = 0) (hS : stS S0 S) (hA : stA ar0 ar) :
    ∃ S9 ar9, rF_109 S ar = some (S9, ar9) ∧ S9 57 = (wB0 S0 ar0).2 ∧ rWs (wB0 S0 ar0).1 ar9 ∧ wFr S ar S9 ar9 := by
  obtain ⟨S9, ar9, sc2, car2, e1, e2, e3, e4, e5, e6, e7, -⟩ := w_win (al := fun _ _ => 0) (b := 0) hE h16 hS hA (by omega)
  exact ⟨S9, ar9, e1, e3, ⟨e4, ⟨_, e5.1⟩, ⟨_, e5.2.1⟩, e5.2.2.2.2⟩, e6⟩
theorem c_win (hE : cE pr n tx g p m S0 ar0 sc car mr) (h16 : S0 16 = 0) (hb : b ≤ 8) :
    ∃ sc2 car2, xF_248 (nI b) sc mr car al = some ((wB0 S0 ar0).2, sc2, mr, car2, al) ∧ cWs b (wB0 S0 ar0).1 car2 ∧ wCf b sc car sc2 car2 := by
  obtain ⟨S9, ar9, sc2, car2, e1, e2, e3, e4, e5, e6, e7, -⟩ := w_win (al := al) hE h16 (stS_rf S0) (stA_rf ar0) hb
  exact ⟨sc2, car2, e2, ⟨ar9, e4, e5⟩, e7⟩
/-- what ClickOrders' search leaves: the windows from b + 2 on -/
def cLf (b : Nat) (sc car sc2 car2 : jSc) : Prop := (∀ a k, ¬ (a = 757 ∧ 3 ≤ k ∧ k ≤ 9) → sc2 a k = sc a k) ∧ (∀ q, q ≠ 758 → q ≠ 798 → ¬ (804 + 2 * b ≤ q ∧ q ≤ 818) → car2 q = car q) ∧ (∀ k, k < b + 2 → car2 798 k = car 798 k) ∧ sc2 757 5 = 0
theorem cLf_tr {a a2 a3 c c2 c3 : jSc} (h : cLf b a c a2 c2) (h2 : cLf b a2 c2 a3 c3) : cLf b a c a3 c3 := ⟨fun x k u => (h2.1 x k u).trans (h.1 x k u), fun q u v w => (h2.2.1 q u v w).trans (h.2.1 q u v w), fun k u => (h2.2.2.1 k u).trans (h.2.2.1 k u), h2.2.2.2⟩
theorem cE_Lf {sc2 car2 : jSc} (h : cE pr n tx g p m S0 ar0 sc car mr) (k : cLf b sc car sc2 car2) : cE pr n tx g p m S0 ar0 sc2 car2 mr := cE_lo h (fun a ha => funext fun j => k.1 a j (by omega)) (fun q hq => k.2.1 q (by omega) (by omega) (by omega)) (k.2.2.2.trans h.2.2.symm)
theorem cWs_L {sc2 car2 : jSc} (h : cWs b st car) (k : cLf b sc car sc2 car2) : cWs b st car2 := cWs_cg h (fun i _ => by rw [k.2.1 _ (by omega) (by omega) (by omega)]) (fun i _ => by rw [k.2.1 _ (by omega) (by omega) (by omega)]) (k.2.2.1 b (by omega)) (k.2.2.1 (b + 1) (by omega))
theorem cLf_u {a a2 c c2 : jSc} (hb : b + 2 ≤ 8) (h : cLf (b + 2) a c a2 c2) : cLf b a c a2 c2 := ⟨h.1, fun q u v w => h.2.1 q u v (by omega), fun k u => h.2.2.1 k (by omega), h.2.2.2⟩
/-- the windows are copied -/
theorem c_copy2 (hb : b + 3 < 10) (h : cWs b st car) : ∃ car2, (∀ sc : jSc, ∀ al : jAl, xF_226 (799 + 2 * (b + 2)) (799 + 2 * b) sc mr car al = some (sc, mr, car2, al)) ∧ (∀ k, k < 50 → car2 (800 + 2 * (b + 2)) k = car (800 + 2 * b) k) ∧ ∀ q, q ≠ 800 + 2 * (b + 2) → car2 q = car q := by
  refine ⟨_, fun sc al => rfl, fun k hk => ?_, fun q hq => va_up_ne _ _ (by omega)⟩
  rw [show 800 + 2 * (b + 2) = 799 + 2 * (b + 2) + 1 by omega, va_up_self, cpy_in (show iN (0 : Int32) ≤ k from Nat.zero_le _) (show k < iN (0 : Int32) + iN (50 : Int32) by rw [show iN (0 : Int32) = 0 from rfl, show iN (50 : Int32) = 50 from rfl]; omega), show 799 + 2 * b + 1 = 800 + 2 * b by omega, show iN (0 : Int32) + (k - iN (0 : Int32)) = k by rw [show iN (0 : Int32) = 0 from rfl]; omega]
end CL
