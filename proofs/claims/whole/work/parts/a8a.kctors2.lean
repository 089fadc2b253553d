/-! THE CONSTRUCTORS (3): those that call no other. -/
theorem kOl_le {N a : Nat} (i : Nat) (h : a ∈ kOl N) : a ∈ kOl (N + i) := by
  obtain ⟨j, h1, h2⟩ := kOl_in.mp h
  exact kOl_in.mpr ⟨j, by omega, h2⟩
section KRF
variable {G : kG} {B0 : Nat} {co : Nat → Option Instr} {fl : Nat → Option (Nat × Nat × Nat)} {cn : Nat → Option Int32} {own : String} {cc : ByteArray} {mx k n pc pc2 : Nat} {lv : jV} {N a ci : Nat} {g : jM} {fs fs2 : List Value}
theorem kU_rfF {x kk b : Nat} {q : Fin 4} (hC : kD G B0 co fl cn own cc mx) (hPg : kPg G) (hN : N ≤ 824) (ha : a ∈ kOl N) (l0 : lv 0 = some (.ref a)) (lq : lv (q : Nat) = some (.ref b)) (c0 : co pc = some (.aload_n 0)) (c1 : co (pc + 1) = some (.aload_n q)) (c2 : co (pc + 2) = some (.putfield x)) (hf : fl x = some (ci, kk, 9)) (hk : Nat.blt kk fs.length = true) (hfin : ∀ (C : String) (Tt : u_T) (M : Nat), gcl[ci]? = some (C, Tt, M) → (Tt kk).2.2.2 = true ∧ (Tt kk).1 = own ∧ ∃ ty, parseFieldDescriptor (Tt kk).2.2.1 = some ty ∧ ∀ q : Nat, narrow ty (.ref q) = .ref q ∧ fits ty (.ref q) = true) (hfs : fs.set kk (.ref b) = fs2) (hp : pc + 5 = pc2) (h : kU G B0 k n pc2 lv [] N (va_up g a (.inr (ci, fs2)))) : kU G B0 k n pc lv [] N (va_up g a (.inr (ci, fs))) := by
  subst hfs
  subst hp
  refine kU_st hC hN c0 rfl (by simp only [j_step, show lv ((0 : Fin 4) : Nat) = some (.ref a) from l0]; rfl) ?_
  refine kU_st hC hN c1 rfl (by simp only [j_step, lq]; rfl) ?_
  refine kU_putF hC hPg hN (kk := kk) c2 hf (knf_ob ha) (Nat.le_of_ble_eq_true hk) (fun C Tt M h => ?_) ?_
  · obtain ⟨e1, e2, ty, e3, e4⟩ := hfin C Tt M h
    exact ⟨e1, e2, ty, e3, fun ad => e4 (ad b)⟩
  · rw [va_us]
    exact h
theorem kU_rf2 {x kk b : Nat} {q : Fin 4} (hC : kD G B0 co fl cn own cc mx) (hN : N ≤ 824) (ha : a ∈ kOl N) (l0 : lv 0 = some (.ref a)) (lq : lv (q : Nat) = some (.ref b)) (c0 : co pc = some (.aload_n 0)) (c1 : co (pc + 1) = some (.aload_n q)) (c2 : co (pc + 2) = some (.putfield x)) (hf : fl x = some (ci, kk, 2)) (hk : Nat.blt kk fs.length = true) (hfs : fs.set kk (.ref b) = fs2) (hp : pc + 5 = pc2) (h : kU G B0 k n pc2 lv [] N (va_up g a (.inr (ci, fs2)))) : kU G B0 k n pc lv [] N (va_up g a (.inr (ci, fs))) := by
  subst hfs
  subst hp
  refine kU_st hC hN c0 rfl (by simp only [j_step, show lv ((0 : Fin 4) : Nat) = some (.ref a) from l0]; rfl) ?_
  refine kU_st hC hN c1 rfl (by simp only [j_step, lq]; rfl) ?_
  refine kU_st hC hN c2 rfl (by
    simp only [j_step, hf, knf_ob ha]
    rw [if_pos ⟨Nat.le_of_ble_eq_true hk, rfl⟩, va_us]) h
end KRF
set_option maxHeartbeats 4000000 in
theorem ki_0 (l : Launch) {N a : Nat} {f : jM} (hN : N + 7 ≤ 824) (ha : a ∈ kOl N) (hf : f a = .inr (0, [.null, .null, .null, .null, .null, .int 0, .int 0, .int 0, .int 0, .null, .null, .int 0])) : kIm l (⟨"ClickOrders$Forms", "<init>", "()V"⟩ : MethodName) prog_2_method_1_code 1 1 20 [.ref a] N (N + 7) 160 f (va_up (va_up (va_up (va_up (va_up (va_up (va_up (va_up f (kO (N)) (.inl (0, (6, .inl fun _ => 0)))) (kO (N + 1)) (.inl (0, (6, .inl fun _ => 0)))) (kO (N + 2)) (.inl (0, (6, .inl fun _ => 0)))) (kO (N + 3)) (.inl (0, (6, .inl fun _ => 0)))) (kO (N + 4)) (.inl (0, (8, .inl fun _ => 0)))) (kO (N + 5)) (.inl (0, (64, .inl fun _ => 0)))) (kO (N + 6)) (.inl (1, (64, .inr (.inl fun _ => 0))))) a (.inr (0, [.ref (kO (N)), .ref (kO (N + 1)), .ref (kO (N + 2)), .ref (kO (N + 3)), .ref (kO (N + 4)), .int 0, .int 0, .int 0, .int 0, .ref (kO (N + 5)), .ref (kO (N + 6)), .int 0]))) := by
  refine k_ctor (co := kci_0) (fl := fun x => j_lk xf_0 x) (cn := fun x => j_lk xk_0 x) (by decide) rfl (Nat.le_of_ble_eq_true rfl) kdi_0 (fun x q h => xf_all_0 (x, q) (j_lk_mem h)) (fun x v h => xk_all_0 (x, v) (j_lk_mem h)) (fun G B0 hB => ?_)
  obtain ⟨hC, hPg, hRo, hRu, hE⟩ := hB
  conv => arg 9; rw [show f = va_up f a (.inr (0, [.null, .null, .null, .null, .null, .int 0, .int 0, .int 0, .int 0, .null, .null, .int 0])) from va_ui hf]
  refine kU_st hC (by omega) (i := .aload_n 0) rfl rfl rfl ?_
  refine kU_objI hC hRo rfl ko_l0 ko_1 ko_2 rfl ?_
  refine kU_arr (kk := 0) (t := 0) (M := 6) (v := 6) (ty := .int) (fty := .int) (a0 := (6, .inl fun _ => 0)) hC hPg (by omega) (kOl_le 0 ha) rfl rfl rfl rfl (fun _ _ => rfl) rfl rfl kn_i (fun _ _ => rfl) kra_i (fun _ => rfl) (fun _ => rfl) (by decide) (by decide) (by decide) (kRu_le hRu (by omega) (by omega)) rfl rfl rfl (fun C Tt M h => by cases h; exact ⟨rfl, rfl, rfl⟩) rfl rfl ?_
  refine kU_arr (kk := 1) (t := 0) (M := 6) (v := 6) (ty := .int) (fty := .int) (a0 := (6, .inl fun _ => 0)) hC hPg (by omega) (kOl_le 1 ha) rfl rfl rfl rfl (fun _ _ => rfl) rfl rfl kn_i (fun _ _ => rfl) kra_i (fun _ => rfl) (fun _ => rfl) (by decide) (by decide) (by decide) (kRu_le hRu (by omega) (by omega)) rfl rfl rfl (fun C Tt M h => by cases h; exact ⟨rfl, rfl, rfl⟩) rfl rfl ?_
  refine kU_arr (kk := 2) (t := 0) (M := 6) (v := 6) (ty := .int) (fty := .int) (a0 := (6, .inl fun _ => 0)) hC hPg (by omega) (kOl_le 2 ha) rfl rfl rfl rfl (fun _ _ => rfl) rfl rfl kn_i (fun _ _ => rfl) kra_i (fun _ => rfl) (fun _ => rfl) (by decide) (by decide) (by decide) (kRu_le hRu (by omega) (by omega)) rfl rfl rfl (fun C Tt M h => by cases h; exact ⟨rfl, rfl, rfl⟩) rfl rfl ?_
  refine kU_arr (kk := 3) (t := 0) (M := 6) (v := 6) (ty := .int) (fty := .int) (a0 := (6, .inl fun _ => 0)) hC hPg (by omega) (kOl_le 3 ha) rfl rfl rfl rfl (fun _ _ => rfl) rfl rfl kn_i (fun _ _ => rfl) kra_i (fun _ => rfl) (fun _ => rfl) (by decide) (by decide) (by decide) (kRu_le hRu (by omega) (by omega)) rfl rfl rfl (fun C Tt M h => by cases h; exact ⟨rfl, rfl, rfl⟩) rfl rfl ?_
  refine kU_arr (kk := 4) (t := 0) (M := 8) (v := 8) (ty := .int) (fty := .int) (a0 := (8, .inl fun _ => 0)) hC hPg (by omega) (kOl_le 4 ha) rfl rfl rfl rfl (fun _ _ => rfl) rfl rfl kn_i (fun _ _ => rfl) kra_i (fun _ => rfl) (fun _ => rfl) (by decide) (by decide) (by decide) (kRu_le hRu (by omega) (by omega)) rfl rfl rfl (fun C Tt M h => by cases h; exact ⟨rfl, rfl, rfl⟩) rfl rfl ?_
  refine kU_num (kk := 5) (t := 0) (v := 0) hC (by omega) (kOl_le 5 ha) rfl rfl rfl rfl (fun _ _ => rfl) rfl rfl rfl rfl rfl rfl ?_
  refine kU_num (kk := 6) (t := 0) (v := 0) hC (by omega) (kOl_le 5 ha) rfl rfl rfl rfl (fun _ _ => rfl) rfl rfl rfl rfl rfl rfl ?_
  refine kU_num (kk := 7) (t := 0) (v := 0) hC (by omega) (kOl_le 5 ha) rfl rfl rfl rfl (fun _ _ => rfl) rfl rfl rfl rfl rfl rfl ?_
  refine kU_num (kk := 8) (t := 0) (v := 0) hC (by omega) (kOl_le 5 ha) rfl rfl rfl rfl (fun _ _ => rfl) rfl rfl rfl rfl rfl rfl ?_
  refine kU_arr (kk := 9) (t := 0) (M := 64) (v := 64) (ty := .int) (fty := .int) (a0 := (64, .inl fun _ => 0)) hC hPg (by omega) (kOl_le 5 ha) rfl rfl rfl rfl (fun _ _ => rfl) rfl rfl kn_i (fun _ _ => rfl) kra_i (fun _ => rfl) (fun _ => rfl) (by decide) (by decide) (by decide) (kRu_le hRu (by omega) (by omega)) rfl rfl rfl (fun C Tt M h => by cases h; exact ⟨rfl, rfl, rfl⟩) rfl rfl ?_
  refine kU_arr (kk := 10) (t := 1) (M := 64) (v := 64) (ty := .long) (fty := .long) (a0 := (64, .inr (.inl fun _ => 0))) hC hPg (by omega) (kOl_le 6 ha) rfl rfl rfl rfl (fun _ _ => rfl) rfl rfl kn_l (fun _ _ => rfl) kra_l (fun _ => rfl) (fun _ => rfl) (by decide) (by decide) (by decide) (kRu_le hRu (by omega) (by omega)) rfl rfl rfl (fun C Tt M h => by cases h; exact ⟨rfl, rfl, rfl⟩) rfl rfl ?_
  refine kU_num (kk := 11) (t := 0) (v := 0) hC (by omega) (kOl_le 7 ha) rfl rfl rfl rfl (fun _ _ => rfl) rfl rfl rfl rfl rfl rfl ?_
  exact kU_end hC rfl hE (by omega) (by omega)
set_option maxHeartbeats 4000000 in
theorem ki_2 (l : Launch) {N a : Nat} {f : jM} (hN : N + 3 ≤ 824) (ha : a ∈ kOl N) (hf : f a = .inr (2, [.int 0, .null, .null, .null, .int 0, .int 0])) : kIm l (⟨"ClickOrders$Met", "<init>", "()V"⟩ : MethodName) prog_4_method_1_code 1 1 20 [.ref a] N (N + 3) 81920 f (va_up (va_up (va_up (va_up f (kO (N)) (.inl (0, (71680, .inl fun _ => 0)))) (kO (N + 1)) (.inl (0, (8192, .inl fun _ => 0)))) (kO (N + 2)) (.inl (0, (2048, .inl fun _ => 0)))) a (.inr (2, [.int 0, .ref (kO (N)), .ref (kO (N + 1)), .ref (kO (N + 2)), .int 0, .int 35]))) := by
  refine k_ctor (co := kci_2) (fl := fun x => j_lk xf_2 x) (cn := fun x => j_lk xk_2 x) (by decide) rfl (Nat.le_of_ble_eq_true rfl) kdi_2 (fun x q h => xf_all_2 (x, q) (j_lk_mem h)) (fun x v h => xk_all_2 (x, v) (j_lk_mem h)) (fun G B0 hB => ?_)
  obtain ⟨hC, hPg, hRo, hRu, hE⟩ := hB
  conv => arg 9; rw [show f = va_up f a (.inr (2, [.int 0, .null, .null, .null, .int 0, .int 0])) from va_ui hf]
  refine kU_st hC (by omega) (i := .aload_n 0) rfl rfl rfl ?_
  refine kU_objI hC hRo rfl ko_l2 ko_1 ko_2 rfl ?_
  refine kU_num (kk := 0) (t := 0) (v := 0) hC (by omega) (kOl_le 0 ha) rfl rfl rfl rfl (fun _ _ => rfl) rfl rfl rfl rfl rfl rfl ?_
  refine kU_arr (kk := 1) (t := 0) (M := 71680) (v := 71680) (ty := .int) (fty := .int) (a0 := (71680, .inl fun _ => 0)) hC hPg (by omega) (kOl_le 0 ha) rfl rfl rfl rfl (fun _ _ => rfl) rfl rfl kn_i (fun _ _ => rfl) kra_i (fun _ => rfl) (fun _ => rfl) (by decide) (by decide) (by decide) (kRu_le hRu (by omega) (by omega)) rfl rfl rfl (fun C Tt M h => by cases h; exact ⟨rfl, rfl, rfl⟩) rfl rfl ?_
  refine kU_arr (kk := 2) (t := 0) (M := 8192) (v := 8192) (ty := .int) (fty := .int) (a0 := (8192, .inl fun _ => 0)) hC hPg (by omega) (kOl_le 1 ha) rfl rfl rfl rfl (fun _ _ => rfl) rfl rfl kn_i (fun _ _ => rfl) kra_i (fun _ => rfl) (fun _ => rfl) (by decide) (by decide) (by decide) (kRu_le hRu (by omega) (by omega)) rfl rfl rfl (fun C Tt M h => by cases h; exact ⟨rfl, rfl, rfl⟩) rfl rfl ?_
  refine kU_arr (kk := 3) (t := 0) (M := 2048) (v := 2048) (ty := .int) (fty := .int) (a0 := (2048, .inl fun _ => 0)) hC hPg (by omega) (kOl_le 2 ha) rfl rfl rfl rfl (fun _ _ => rfl) rfl rfl kn_i (fun _ _ => rfl) kra_i (fun _ => rfl) (fun _ => rfl) (by decide) (by decide) (by decide) (kRu_le hRu (by omega) (by omega)) rfl rfl rfl (fun C Tt M h => by cases h; exact ⟨rfl, rfl, rfl⟩) rfl rfl ?_
  refine kU_num (kk := 4) (t := 0) (v := 0) hC (by omega) (kOl_le 3 ha) rfl rfl rfl rfl (fun _ _ => rfl) rfl rfl rfl rfl rfl rfl ?_
  refine kU_num (kk := 5) (t := 0) (v := 35) hC (by omega) (kOl_le 3 ha) rfl rfl rfl rfl (fun _ _ => rfl) rfl rfl rfl rfl rfl rfl ?_
  exact kU_end hC rfl hE (by omega) (by omega)
set_option maxHeartbeats 4000000 in
theorem ki_6 (l : Launch) {N a b1 b2 : Nat} {f : jM} (hN : N + 0 ≤ 824) (ha : a ∈ kOl N) (hf : f a = .inr (6, [.null, .int 0, .int 0, .int 0, .int 0, .null, .int 0])) : kIm l (⟨"ClickOrders$Reader", "<init>", "([ILClickOrders$Program;)V"⟩ : MethodName) prog_8_method_1_code 3 1 20 [.ref a, .ref b1, .ref b2] N (N + 0) 0 f (va_up f a (.inr (6, [.ref b1, .int 0, .int 0, .int 0, .int 0, .ref b2, .int (-1)]))) := by
  refine k_ctor (co := kci_6) (fl := fun x => j_lk xf_6 x) (cn := fun x => j_lk xk_6 x) (by decide) rfl (Nat.le_of_ble_eq_true rfl) kdi_6 (fun x q h => xf_all_6 (x, q) (j_lk_mem h)) (fun x v h => xk_all_6 (x, v) (j_lk_mem h)) (fun G B0 hB => ?_)
  obtain ⟨hC, hPg, hRo, hRu, hE⟩ := hB
  conv => arg 9; rw [show f = va_up f a (.inr (6, [.null, .int 0, .int 0, .int 0, .int 0, .null, .int 0])) from va_ui hf]
  refine kU_st hC (by omega) (i := .aload_n 0) rfl rfl rfl ?_
  refine kU_objI hC hRo rfl ko_l6 ko_1 ko_2 rfl ?_
  refine kU_num (kk := 1) (t := 0) (v := 0) hC (by omega) (kOl_le 0 ha) rfl rfl rfl rfl (fun _ _ => rfl) rfl rfl rfl rfl rfl rfl ?_
  refine kU_num (kk := 2) (t := 0) (v := 0) hC (by omega) (kOl_le 0 ha) rfl rfl rfl rfl (fun _ _ => rfl) rfl rfl rfl rfl rfl rfl ?_
  refine kU_num (kk := 3) (t := 0) (v := 0) hC (by omega) (kOl_le 0 ha) rfl rfl rfl rfl (fun _ _ => rfl) rfl rfl rfl rfl rfl rfl ?_
  refine kU_num (kk := 4) (t := 0) (v := 0) hC (by omega) (kOl_le 0 ha) rfl rfl rfl rfl (fun _ _ => rfl) rfl rfl rfl rfl rfl rfl ?_
  refine kU_num (kk := 6) (t := 0) (v := (-1)) hC (by omega) (kOl_le 0 ha) rfl rfl rfl rfl (fun _ _ => rfl) rfl rfl rfl rfl rfl rfl ?_
  refine kU_rfF (kk := 0) (b := b1) (q := 1) hC hPg (by omega) (kOl_le 0 ha) rfl rfl rfl rfl rfl rfl rfl (fun C Tt M h => by cases h; exact ⟨rfl, rfl, _, rfl, fun _ => ⟨rfl, rfl⟩⟩) rfl rfl ?_
  refine kU_rf2 (kk := 5) (b := b2) (q := 2) hC (by omega) (kOl_le 0 ha) rfl rfl rfl rfl rfl rfl rfl rfl rfl ?_
  exact kU_end hC rfl hE (by omega) (by omega)
set_option maxHeartbeats 4000000 in
theorem ki_1 (l : Launch) {N a b1 b2 : Nat} {f : jM} (hN : N + 1 ≤ 824) (ha : a ∈ kOl N) (hf : f a = .inr (1, [.null, .null, .null, .int 0, .int 0, .int 0, .int 0, .int 0, .int 0, .int 0])) : kIm l (⟨"ClickOrders$Hand", "<init>", "(LClickOrders$Forms;LClickOrders$Program;)V"⟩ : MethodName) prog_3_method_1_code 3 1 20 [.ref a, .ref b1, .ref b2] N (N + 1) 64 f (va_up (va_up f (kO (N)) (.inl (0, (64, .inl fun _ => 0)))) a (.inr (1, [.ref b1, .ref (kO (N)), .ref b2, .int 0, .int 0, .int 0, .int 0, .int 0, .int (-1), .int 0]))) := by
  refine k_ctor (co := kci_1) (fl := fun x => j_lk xf_1 x) (cn := fun x => j_lk xk_1 x) (by decide) rfl (Nat.le_of_ble_eq_true rfl) kdi_1 (fun x q h => xf_all_1 (x, q) (j_lk_mem h)) (fun x v h => xk_all_1 (x, v) (j_lk_mem h)) (fun G B0 hB => ?_)
  obtain ⟨hC, hPg, hRo, hRu, hE⟩ := hB
  conv => arg 9; rw [show f = va_up f a (.inr (1, [.null, .null, .null, .int 0, .int 0, .int 0, .int 0, .int 0, .int 0, .int 0])) from va_ui hf]
  refine kU_st hC (by omega) (i := .aload_n 0) rfl rfl rfl ?_
  refine kU_objI hC hRo rfl ko_l1 ko_1 ko_2 rfl ?_
  refine kU_arr (kk := 1) (t := 0) (M := 64) (v := 64) (ty := .int) (fty := .int) (a0 := (64, .inl fun _ => 0)) hC hPg (by omega) (kOl_le 0 ha) rfl rfl rfl rfl (fun _ _ => rfl) rfl rfl kn_i (fun _ _ => rfl) kra_i (fun _ => rfl) (fun _ => rfl) (by decide) (by decide) (by decide) (kRu_le hRu (by omega) (by omega)) rfl rfl rfl (fun C Tt M h => by cases h; exact ⟨rfl, rfl, rfl⟩) rfl rfl ?_
  refine kU_num (kk := 3) (t := 0) (v := 0) hC (by omega) (kOl_le 1 ha) rfl rfl rfl rfl (fun _ _ => rfl) rfl rfl rfl rfl rfl rfl ?_
  refine kU_num (kk := 4) (t := 0) (v := 0) hC (by omega) (kOl_le 1 ha) rfl rfl rfl rfl (fun _ _ => rfl) rfl rfl rfl rfl rfl rfl ?_
  refine kU_num (kk := 5) (t := 0) (v := 0) hC (by omega) (kOl_le 1 ha) rfl rfl rfl rfl (fun _ _ => rfl) rfl rfl rfl rfl rfl rfl ?_
  refine kU_num (kk := 6) (t := 0) (v := 0) hC (by omega) (kOl_le 1 ha) rfl rfl rfl rfl (fun _ _ => rfl) rfl rfl rfl rfl rfl rfl ?_
  refine kU_num (kk := 7) (t := 0) (v := 0) hC (by omega) (kOl_le 1 ha) rfl rfl rfl rfl (fun _ _ => rfl) rfl rfl rfl rfl rfl rfl ?_
  refine kU_num (kk := 8) (t := 0) (v := (-1)) hC (by omega) (kOl_le 1 ha) rfl rfl rfl rfl (fun _ _ => rfl) rfl rfl rfl rfl rfl rfl ?_
  refine kU_num (kk := 9) (t := 0) (v := 0) hC (by omega) (kOl_le 1 ha) rfl rfl rfl rfl (fun _ _ => rfl) rfl rfl rfl rfl rfl rfl ?_
  refine kU_rfF (kk := 0) (b := b1) (q := 1) hC hPg (by omega) (kOl_le 1 ha) rfl rfl rfl rfl rfl rfl rfl (fun C Tt M h => by cases h; exact ⟨rfl, rfl, _, rfl, fun _ => ⟨rfl, rfl⟩⟩) rfl rfl ?_
  refine kU_rf2 (kk := 2) (b := b2) (q := 2) hC (by omega) (kOl_le 1 ha) rfl rfl rfl rfl rfl rfl rfl rfl rfl ?_
  exact kU_end hC rfl hE (by omega) (by omega)
