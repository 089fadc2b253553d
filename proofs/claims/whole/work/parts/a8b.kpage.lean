/-! THE CONSTRUCTORS (4): those that make pages. -/
/-- a page at kO N, its cells at kO (N + 1) -/
def kPgm (g : jM) (N : Nat) : jM := va_up (va_up g (kO N) (.inr (3, [.ref (kO (N + 1))]))) (kO (N + 1)) (.inl (0, (50, .inl fun _ => 0)))
theorem kPg_nf {g : jM} {N a : Nat} {A : va_E} (hN : N + 1 < 824) (h0 : a ≠ kO N) (h1 : a ≠ kO (N + 1)) : va_up (va_up (va_up (va_up g a A) (kO N) (.inr (3, [.null]))) (kO (N + 1)) (.inl (0, (50, .inl fun _ => 0)))) (kO N) (.inr (3, [.ref (kO (N + 1))])) = va_up (kPgm g N) a A := by
  have hne : kO N ≠ kO (N + 1) := fun z => by
    have := kO_inj (by omega) hN z
    omega
  unfold kPgm
  funext i
  unfold va_up
  by_cases z1 : i = kO N
  · subst z1
    simp [hne, Ne.symm h0]
  · by_cases z2 : i = kO (N + 1)
    · subst z2
      simp [Ne.symm hne, Ne.symm h1]
    · simp [z1, z2]
section KPG
variable {G : kG} {B0 : Nat} {co : Nat → Option Instr} {fl : Nat → Option (Nat × Nat × Nat)} {cn : Nat → Option Int32} {own : String} {cc : ByteArray} {mx k n pc pc2 : Nat} {lv : jV} {N a ci : Nat} {g : jM} {fs fs2 : List Value} {r : List Value}
/-- new Page() on the stack -/
theorem kU_pg {xn xi : Nat} {A : va_E} (hC : kD G B0 co fl cn own cc mx) (hPg : kPg G) (hN : N + 2 < 824) (ha : a ∈ kOl N) (c1 : co pc = some (.new xn)) (c2 : co (pc + 3) = some .dup) (c3 : co (pc + 4) = some (.invokespecial xi)) (w1 : Cond.classLink own xn "ClickOrders$Page" ∈ gB) (w2 : Cond.instantiable "ClickOrders$Page" 1 ∈ gB) (w3 : Cond.initialized "ClickOrders$Page" ∈ gB) (w4 : Cond.methodLinkNest own xi (⟨"ClickOrders$Page", "<init>", "()V"⟩ : MethodName) "ClickOrders" ∈ kNe) (w5 : Cond.instanceMethod (⟨"ClickOrders$Page", "<init>", "()V"⟩ : MethodName) ∈ gB) (w6 : Cond.code (⟨"ClickOrders$Page", "<init>", "()V"⟩ : MethodName) prog_5_method_1_code 1 none ∈ gB) (hz : Nat.ble ((Value.ref (kO N) :: r).map fun v => v.category).sum 8 = true) (hRo : kRo G 2 40) (hR : kRu G (k + 2) (n + 51)) (hp : pc + 7 = pc2) (h : kU G B0 (k + 2) (n + 51) pc2 lv (.ref (kO N) :: r) (N + 2) (va_up (kPgm g N) a A)) : kU G B0 k n pc lv r N (va_up g a A) := by
  subst hp
  have h0 : a ≠ kO N := fun z => kOl_ni (N := N) (by omega) (by rw [← z]; exact ha)
  have h1 : a ≠ kO (N + 1) := fun z => kOl_ni (N := N + 1) (by omega) (by rw [← z]; exact kOl_le 1 ha)
  refine kU_new (ci := 3) (C := "ClickOrders$Page") (Tt := cT_3) (M := 1) (ty0 := cY_3) (fs := [.null]) hC (by omega) c1 rfl w1 w2 w3 cB_3 cP_3 (fun j hj => by
    have : j = 0 := by omega
    subst this
    rfl) (fun _ => rfl) (kRu_le hR (by omega) (by omega)) ?_
  refine kU_st hC (by omega) c2 rfl (by simp only [j_step]; rfl) ?_
  refine kU_initN (N' := N + 1 + 1) (na := 0) (as := []) (a := kO N) (rest := .ref (kO N) :: r) hC (Or.inl hPg) c3 (fun l => ki_3 l (N := N + 1) (a := kO N) (by omega) (by rw [kOl_s]; simp) (by simp [va_up])) w4 w5 w3 w6 rfl rfl (by decide) (by omega) (by omega) rfl hz (kRo_le hRo (by omega) (by omega)) (kRu_le hR (by omega) (by omega)) ?_
  rw [kPg_nf (by omega) h0 h1]
  have e1 : k + 1 + (N + 1 + 1 - (N + 1)) = k + 2 := by omega
  have e2 : n + 1 + 50 = n + 51 := by omega
  rw [e1, e2]
  exact h
/-- this.x = new Page(), x final -/
theorem kU_pgF {x kk xn xi : Nat} (hC : kD G B0 co fl cn own cc mx) (hPg : kPg G) (hN : N + 2 < 824) (ha : a ∈ kOl N) (l0 : lv 0 = some (.ref a)) (c0 : co pc = some (.aload_n 0)) (c1 : co (pc + 1) = some (.new xn)) (c2 : co (pc + 4) = some .dup) (c3 : co (pc + 5) = some (.invokespecial xi)) (w1 : Cond.classLink own xn "ClickOrders$Page" ∈ gB) (w2 : Cond.instantiable "ClickOrders$Page" 1 ∈ gB) (w3 : Cond.initialized "ClickOrders$Page" ∈ gB) (w4 : Cond.methodLinkNest own xi (⟨"ClickOrders$Page", "<init>", "()V"⟩ : MethodName) "ClickOrders" ∈ kNe) (w5 : Cond.instanceMethod (⟨"ClickOrders$Page", "<init>", "()V"⟩ : MethodName) ∈ gB) (w6 : Cond.code (⟨"ClickOrders$Page", "<init>", "()V"⟩ : MethodName) prog_5_method_1_code 1 none ∈ gB) (hRo : kRo G 2 40) (hR : kRu G (k + 2) (n + 51)) (c4 : co (pc + 8) = some (.putfield x)) (hf : fl x = some (ci, kk, 9)) (hk : Nat.blt kk fs.length = true) (hfin : ∀ (C : String) (Tt : u_T) (M : Nat), gcl[ci]? = some (C, Tt, M) → (Tt kk).2.2.2 = true ∧ (Tt kk).1 = own ∧ ∃ ty, parseFieldDescriptor (Tt kk).2.2.1 = some ty ∧ ∀ q : Nat, narrow ty (.ref q) = .ref q ∧ fits ty (.ref q) = true) (hfs : fs.set kk (.ref (kO N)) = fs2) (hp : pc + 11 = pc2) (h : kU G B0 (k + 2) (n + 51) pc2 lv [] (N + 2) (va_up (kPgm g N) a (.inr (ci, fs2)))) : kU G B0 k n pc lv [] N (va_up g a (.inr (ci, fs))) := by
  subst hfs
  subst hp
  refine kU_st hC (by omega) c0 rfl (by simp only [j_step, show lv ((0 : Fin 4) : Nat) = some (.ref a) from l0]; rfl) ?_
  refine kU_pg hC hPg hN ha c1 c2 c3 w1 w2 w3 w4 w5 w6 rfl hRo hR rfl ?_
  refine kU_putF hC hPg (by omega) (kk := kk) c4 hf (knf_ob (kOl_le 2 ha)) (Nat.le_of_ble_eq_true hk) (fun C Tt M h => ?_) ?_
  · obtain ⟨e1, e2, ty, e3, e4⟩ := hfin C Tt M h
    exact ⟨e1, e2, ty, e3, fun ad => e4 (ad (kO N))⟩
  · rw [va_us]
    exact h
end KPG
