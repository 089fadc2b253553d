/-! THE CONSTRUCTORS (13): ClickOrdersModel. -/
theorem jlay_c {L : jL} {sc : jSc} {rf : jRf} {ar1 ar2 : jSc} {al : jAl} {a : Nat} (h : ar1 a = ar2 a) : j_lay L sc rf ar1 al a = j_lay L sc rf ar2 al a := by
  unfold j_lay
  rw [h]
theorem kO_r {m : Nat} (h1 : 89 ≤ m) (h2 : m < 823) : kO m = m - 89 := by
  unfold kO
  rw [if_neg (by omega), if_pos h2]
/-- the rows of a row of rows -/
theorem krr {g : Nat → Option Nat} {a N R : Nat} (h : ∀ i, g i = if i < R then some (a + 1 + i) else none) (hN : N = a + 89) (hb : N + R < 823) : ∀ i, g i = if i < R then some (kO (N + 1 + i)) else none := by
  intro i
  rw [h i]
  by_cases z : i < R
  · rw [if_pos z, if_pos z, kO_r (by omega) (by omega)]
    congr 1
    omega
  · rw [if_neg z, if_neg z]
theorem kro {sc : jSc} {rf : jRf} {car : jSc} {al : jAl} {e : va_E} {a N R t K : Nat} (hs : ∀ i, i < R → r_sh (a + 1 + i) = .inr (t, K)) (ht : t = 0 ∨ t = 2) (hN : N = a + 89) (hb : N + R < 823) : ∀ i, i < R → va_up (j_lay kL sc rf (kAr kz_r0 car) al) 0 e (kO (N + 1 + i)) = .inl (t, (K, .inl fun _ => 0)) := by
  intro i hi
  have e1 : kO (N + 1 + i) = a + 1 + i := by
    rw [kO_r (by omega) (by omega)]
    omega
  rw [e1, va_up_ne _ _ (by omega), jl_r ((kL_r (by omega)).trans (hs i hi)), kAr_r (by omega)]
  unfold kEnt
  rw [if_neg (by omega), if_pos ht]
  rfl
theorem fM1_1 : va_up (fun _ => (0 : Int32)) (iN 0) (-1) = fM1 1 := by
  rw [← fM1_0]
  exact fM1_u
theorem kov {f : jM} {e x y : va_E} {a : Nat} (h1 : a ≠ 10) (h2 : a ≠ 11) : va_up (va_up (va_up f 10 x) 11 y) 0 e a = va_up f 0 e a := by
  unfold va_up
  rw [if_neg h2, if_neg h1]
theorem lh_8_6 : Jvm.Cond.classLink "ClickOrdersModel" (19 : Nat) "[[I" ∈ gB := tb_8 (i := 6) (by decide +kernel) (by decide +kernel)
theorem lh_8_8 : Jvm.Cond.classLink "ClickOrdersModel" (66 : Nat) "[[Z" ∈ gB := tb_8 (i := 8) (by decide +kernel) (by decide +kernel)
theorem ksh_2 : ∀ i, i < 2 → r_sh (2 + 1 + i) = .inr (0, 600) := by decide +kernel
theorem ksh_5 : ∀ i, i < 2 → r_sh (5 + 1 + i) = .inr (0, 17) := by decide +kernel
theorem ksh_19 : ∀ i, i < 41 → r_sh (19 + 1 + i) = .inr (0, 10) := by decide +kernel
theorem ksh_61 : ∀ i, i < 40 → r_sh (61 + 1 + i) = .inr (2, 40) := by decide +kernel
theorem ksh_107 : ∀ i, i < 600 → r_sh (107 + 1 + i) = .inr (0, 38) := by decide +kernel
theorem ksh_713 : ∀ i, i < 2 → r_sh (713 + 1 + i) = .inr (0, 53) := by decide +kernel
theorem ksh_717 : ∀ i, i < 2 → r_sh (717 + 1 + i) = .inr (2, 4) := by decide +kernel
theorem ksh_720 : ∀ i, i < 8 → r_sh (720 + 1 + i) = .inr (0, 89) := by decide +kernel
theorem ksh_729 : ∀ i, i < 4 → r_sh (729 + 1 + i) = .inr (0, 38) := by decide +kernel
set_option maxHeartbeats 8000000 in
set_option maxRecDepth 20000 in
theorem ki_11 (l : Launch) (hm : kMna) {sc2 ar2 ra1 ra2 : jSc} {S1 S2 : Nat → Int32} (h58 : rF_58 kz_S kz_ra = some (S1, ra1)) (h109 : rF_109 S1 ra1 = some (S2, ra2)) : kIm l (⟨"ClickOrdersModel", "<init>", "()V"⟩ : MethodName) prog_13_method_1_code 3 133 5389 [.ref 0] 90 823 30528 (va_up (j_lay kL (kSc kz_S sc2) (x_mk kz_mr kz_rf) (kAr kz_r0 ar2) kz_al) 0 (.inr (11, [.int 0, .int 0, .int 0, .int 0, .int 0, .int 0, .int 0, .int 0, .int 0, .null, .null, .null, .null, .null, .null, .null, .int 0, .int 0, .int 0, .int 0, .null, .null, .int 0, .int 0, .int 0, .int 0, .int 0, .int 0, .int 0, .int 0, .null, .int 0, .null, .null, .null, .null, .null, .null, .int 0, .null, .null, .null, .null, .null, .null, .null, .null, .null, .int 0, .int 0, .int 0, .int 0, .null, .null, .null, .null, .null, .int 0, .null, .null]))) (j_lay kL (kSc S2 sc2) (x_mk kz_mr kz_rf) (kAr ra2 ar2) kz_al) := by
  refine k_ctor (co := kci_11) (fl := fun x => r_fl x) (cn := fun x => r_cn x) (by decide) rfl (Nat.le_of_ble_eq_true rfl) kdi_11 (fun x q h => rf_all (x, q) (j_lk_mem h)) (fun x v h => rk_all (x, v) (j_lk_mem h)) (fun G B0 hB => ?_)
  obtain ⟨hC, hPg, hRo, hRu, hE⟩ := hB
  refine kU_lv (lv2 := l_at [some (.ref 0), none, none]) (fun j v hj => by
    match j, hj with
    | 0, hj => exact hj
    | 1, hj => cases hj
    | 2, hj => cases hj
    | j + 3, hj => cases hj) ?_
  refine kU_al (b := 0) hC (by omega) rfl rfl rfl ?_
  refine kU_objI hC (kRo_le hRo (by omega) (by omega)) rfl ko_l11 ko_1 ko_2 rfl ?_
  refine kU_al (b := 0) hC (by omega) rfl rfl rfl ?_
  refine kU_int (v := (-1)) hC (by omega) rfl rfl (fun _ _ => rfl) ?_
  refine kU_pf (a := 0) (kk := 2) (t := 0) (f2 := (va_up (j_lay kL (kSc kz_S sc2) (x_mk kz_mr kz_rf) (kAr kz_r0 ar2) kz_al) 0 (.inr (11, [.int 0, .int 0, .int (-1), .int 0, .int 0, .int 0, .int 0, .int 0, .int 0, .null, .null, .null, .null, .null, .null, .null, .int 0, .int 0, .int 0, .int 0, .null, .null, .int 0, .int 0, .int 0, .int 0, .int 0, .int 0, .int 0, .int 0, .null, .int 0, .null, .null, .null, .null, .null, .null, .int 0, .null, .null, .null, .null, .null, .null, .null, .null, .null, .int 0, .int 0, .int 0, .int 0, .null, .null, .null, .null, .null, .int 0, .null, .null])))) hC (by omega) rfl rfl (kMem 89 rfl rfl) rfl rfl rfl va_us rfl ?_
  refine kU_al (b := 0) hC (by omega) rfl rfl rfl ?_
  refine kU_int (v := 600) hC (by omega) rfl rfl (fun _ _ => rfl) ?_
  refine kU_na (t := 0) (M := 600) (ty := .int) (a0 := (600, .inl fun _ => 0)) hC (by omega) rfl rfl kn_i (fun _ _ => rfl) kra_i (fun _ => rfl) (fun _ => rfl) (by decide) (by decide) (by decide) rfl (kRu_le hRu (by omega) (by omega)) rfl ?_
  refine kU_pf9 (a := 0) (kk := 9) (f2 := (va_up (j_lay kL (kSc kz_S sc2) (x_mk kz_mr kz_rf) (kAr kz_r0 ar2) kz_al) 0 (.inr (11, [.int 0, .int 0, .int (-1), .int 0, .int 0, .int 0, .int 0, .int 0, .int 0, .ref 1, .null, .null, .null, .null, .null, .null, .int 0, .int 0, .int 0, .int 0, .null, .null, .int 0, .int 0, .int 0, .int 0, .int 0, .int 0, .int 0, .int 0, .null, .int 0, .null, .null, .null, .null, .null, .null, .int 0, .null, .null, .null, .null, .null, .null, .null, .null, .null, .int 0, .int 0, .int 0, .int 0, .null, .null, .null, .null, .null, .int 0, .null, .null])))) hC hPg (by omega) rfl rfl (kMem 89 rfl rfl) rfl rfl (fun C Tt M h => by cases h; exact ⟨rfl, rfl, _, rfl, fun _ => ⟨rfl, rfl⟩⟩) va_us rfl ?_
  refine kU_al (b := 0) hC (by omega) rfl rfl rfl ?_
  refine kU_int (v := 2) hC (by omega) rfl rfl (fun _ _ => rfl) ?_
  refine kU_int (v := 600) hC (by omega) rfl rfl (fun _ _ => rfl) ?_
  refine kU_mna (t := 4) (ti := 0) (N' := 2) (K' := 600) (ty := .int) (z := (600, .inl fun _ => 0)) (g := kL.2.1 2) hm hC hPg (by decide) rfl lh_8_6 kn_i (fun U h => h.2.1) (fun _ _ => rfl) (fun _ _ => rfl) (fun _ _ h => h) (fun _ _ h => h) (by decide) (by decide) (by decide) (by decide) (by decide) (by decide) (by decide) rfl rfl (fun _ => rfl) (fun _ => rfl) rfl (krr (a := 2) (fun i => rfl) (by decide) (by decide)) (kro (sc := kSc kz_S sc2) (rf := x_mk kz_mr kz_rf) (car := ar2) (al := kz_al) ksh_2 (by decide) (by decide) (by decide)) (kRu_le hRu (by omega) (by omega)) rfl ?_
  refine kU_pf9 (a := 0) (kk := 10) (f2 := (va_up (j_lay kL (kSc kz_S sc2) (x_mk kz_mr kz_rf) (kAr kz_r0 ar2) kz_al) 0 (.inr (11, [.int 0, .int 0, .int (-1), .int 0, .int 0, .int 0, .int 0, .int 0, .int 0, .ref 1, .ref 2, .null, .null, .null, .null, .null, .int 0, .int 0, .int 0, .int 0, .null, .null, .int 0, .int 0, .int 0, .int 0, .int 0, .int 0, .int 0, .int 0, .null, .int 0, .null, .null, .null, .null, .null, .null, .int 0, .null, .null, .null, .null, .null, .null, .null, .null, .null, .int 0, .int 0, .int 0, .int 0, .null, .null, .null, .null, .null, .int 0, .null, .null])))) hC hPg (by omega) rfl rfl (kMem 89 rfl rfl) rfl rfl (fun C Tt M h => by cases h; exact ⟨rfl, rfl, _, rfl, fun _ => ⟨rfl, rfl⟩⟩) va_us rfl ?_
  refine kU_al (b := 0) hC (by omega) rfl rfl rfl ?_
  refine kU_int (v := 2) hC (by omega) rfl rfl (fun _ _ => rfl) ?_
  refine kU_int (v := 17) hC (by omega) rfl rfl (fun _ _ => rfl) ?_
  refine kU_mna (t := 4) (ti := 0) (N' := 2) (K' := 17) (ty := .int) (z := (17, .inl fun _ => 0)) (g := kL.2.1 5) hm hC hPg (by decide) rfl lh_8_6 kn_i (fun U h => h.2.1) (fun _ _ => rfl) (fun _ _ => rfl) (fun _ _ h => h) (fun _ _ h => h) (by decide) (by decide) (by decide) (by decide) (by decide) (by decide) (by decide) rfl rfl (fun _ => rfl) (fun _ => rfl) rfl (krr (a := 5) (fun i => rfl) (by decide) (by decide)) (kro (sc := kSc kz_S sc2) (rf := x_mk kz_mr kz_rf) (car := ar2) (al := kz_al) ksh_5 (by decide) (by decide) (by decide)) (kRu_le hRu (by omega) (by omega)) rfl ?_
  refine kU_pf9 (a := 0) (kk := 11) (f2 := (va_up (j_lay kL (kSc kz_S sc2) (x_mk kz_mr kz_rf) (kAr kz_r0 ar2) kz_al) 0 (.inr (11, [.int 0, .int 0, .int (-1), .int 0, .int 0, .int 0, .int 0, .int 0, .int 0, .ref 1, .ref 2, .ref 5, .null, .null, .null, .null, .int 0, .int 0, .int 0, .int 0, .null, .null, .int 0, .int 0, .int 0, .int 0, .int 0, .int 0, .int 0, .int 0, .null, .int 0, .null, .null, .null, .null, .null, .null, .int 0, .null, .null, .null, .null, .null, .null, .null, .null, .null, .int 0, .int 0, .int 0, .int 0, .null, .null, .null, .null, .null, .int 0, .null, .null])))) hC hPg (by omega) rfl rfl (kMem 89 rfl rfl) rfl rfl (fun C Tt M h => by cases h; exact ⟨rfl, rfl, _, rfl, fun _ => ⟨rfl, rfl⟩⟩) va_us rfl ?_
  refine kU_al (b := 0) hC (by omega) rfl rfl rfl ?_
  refine kU_int (v := 2) hC (by omega) rfl rfl (fun _ _ => rfl) ?_
  refine kU_na (t := 0) (M := 2) (ty := .int) (a0 := (2, .inl fun _ => 0)) hC (by omega) rfl rfl kn_i (fun _ _ => rfl) kra_i (fun _ => rfl) (fun _ => rfl) (by decide) (by decide) (by decide) rfl (kRu_le hRu (by omega) (by omega)) rfl ?_
  refine kU_pf9 (a := 0) (kk := 12) (f2 := (va_up (j_lay kL (kSc kz_S sc2) (x_mk kz_mr kz_rf) (kAr kz_r0 ar2) kz_al) 0 (.inr (11, [.int 0, .int 0, .int (-1), .int 0, .int 0, .int 0, .int 0, .int 0, .int 0, .ref 1, .ref 2, .ref 5, .ref 8, .null, .null, .null, .int 0, .int 0, .int 0, .int 0, .null, .null, .int 0, .int 0, .int 0, .int 0, .int 0, .int 0, .int 0, .int 0, .null, .int 0, .null, .null, .null, .null, .null, .null, .int 0, .null, .null, .null, .null, .null, .null, .null, .null, .null, .int 0, .int 0, .int 0, .int 0, .null, .null, .null, .null, .null, .int 0, .null, .null])))) hC hPg (by omega) rfl rfl (kMem 89 rfl rfl) rfl rfl (fun C Tt M h => by cases h; exact ⟨rfl, rfl, _, rfl, fun _ => ⟨rfl, rfl⟩⟩) va_us rfl ?_
  refine kU_al (b := 0) hC (by omega) rfl rfl rfl ?_
  refine kU_int (v := 2) hC (by omega) rfl rfl (fun _ _ => rfl) ?_
  refine kU_na (t := 0) (M := 2) (ty := .int) (a0 := (2, .inl fun _ => 0)) hC (by omega) rfl rfl kn_i (fun _ _ => rfl) kra_i (fun _ => rfl) (fun _ => rfl) (by decide) (by decide) (by decide) rfl (kRu_le hRu (by omega) (by omega)) rfl ?_
  refine kU_pf9 (a := 0) (kk := 13) (f2 := (va_up (j_lay kL (kSc kz_S sc2) (x_mk kz_mr kz_rf) (kAr kz_r0 ar2) kz_al) 0 (.inr (11, [.int 0, .int 0, .int (-1), .int 0, .int 0, .int 0, .int 0, .int 0, .int 0, .ref 1, .ref 2, .ref 5, .ref 8, .ref 9, .null, .null, .int 0, .int 0, .int 0, .int 0, .null, .null, .int 0, .int 0, .int 0, .int 0, .int 0, .int 0, .int 0, .int 0, .null, .int 0, .null, .null, .null, .null, .null, .null, .int 0, .null, .null, .null, .null, .null, .null, .null, .null, .null, .int 0, .int 0, .int 0, .int 0, .null, .null, .null, .null, .null, .int 0, .null, .null])))) hC hPg (by omega) rfl rfl (kMem 89 rfl rfl) rfl rfl (fun C Tt M h => by cases h; exact ⟨rfl, rfl, _, rfl, fun _ => ⟨rfl, rfl⟩⟩) va_us rfl ?_
  refine kU_al (b := 0) hC (by omega) rfl rfl rfl ?_
  refine kU_int (v := 2) hC (by omega) rfl rfl (fun _ _ => rfl) ?_
  refine kU_na (t := 0) (M := 2) (ty := .int) (a0 := (2, .inl fun _ => 0)) hC (by omega) rfl rfl kn_i (fun _ _ => rfl) kra_i (fun _ => rfl) (fun _ => rfl) (by decide) (by decide) (by decide) rfl (kRu_le hRu (by omega) (by omega)) rfl ?_
  refine kU_dup hC (by omega) rfl rfl rfl ?_
  refine kU_int (v := 0) hC (by omega) rfl rfl (fun _ _ => rfl) ?_
  refine kU_int (v := (-1)) hC (by omega) rfl rfl (fun _ _ => rfl) ?_
  refine kU_ia (a := 10) (M := 2) (g := fun _ => 0) (f2 := va_up (va_up (j_lay kL (kSc kz_S sc2) (x_mk kz_mr kz_rf) (kAr kz_r0 ar2) kz_al) 10 (.inl (0, (2, .inl (fM1 1))))) 0 (.inr (11, [.int 0, .int 0, .int (-1), .int 0, .int 0, .int 0, .int 0, .int 0, .int 0, .ref 1, .ref 2, .ref 5, .ref 8, .ref 9, .null, .null, .int 0, .int 0, .int 0, .int 0, .null, .null, .int 0, .int 0, .int 0, .int 0, .int 0, .int 0, .int 0, .int 0, .null, .int 0, .null, .null, .null, .null, .null, .null, .int 0, .null, .null, .null, .null, .null, .null, .null, .null, .null, .int 0, .int 0, .int 0, .int 0, .null, .null, .null, .null, .null, .int 0, .null, .null]))) hC (by omega) rfl (kMem 99 rfl rfl) rfl (by decide) ((va_uc (by decide)).trans (by rw [show va_up (fun _ => (0 : Int32)) (iN 0) (-1) = fM1 1 from fM1_1])) rfl ?_
  refine kU_dup hC (by omega) rfl rfl rfl ?_
  refine kU_int (v := 1) hC (by omega) rfl rfl (fun _ _ => rfl) ?_
  refine kU_int (v := (-1)) hC (by omega) rfl rfl (fun _ _ => rfl) ?_
  refine kU_ia (a := 10) (M := 2) (g := fM1 1) (f2 := (va_up (va_up (j_lay kL (kSc kz_S sc2) (x_mk kz_mr kz_rf) (kAr kz_r0 ar2) kz_al) 10 (.inl (0, (2, .inl (fM1 2))))) 0 (.inr (11, [.int 0, .int 0, .int (-1), .int 0, .int 0, .int 0, .int 0, .int 0, .int 0, .ref 1, .ref 2, .ref 5, .ref 8, .ref 9, .null, .null, .int 0, .int 0, .int 0, .int 0, .null, .null, .int 0, .int 0, .int 0, .int 0, .int 0, .int 0, .int 0, .int 0, .null, .int 0, .null, .null, .null, .null, .null, .null, .int 0, .null, .null, .null, .null, .null, .null, .null, .null, .null, .int 0, .int 0, .int 0, .int 0, .null, .null, .null, .null, .null, .int 0, .null, .null])))) hC (by omega) rfl (kMem 99 rfl rfl) rfl (by decide) ((va_u3 (by decide)).trans (by rw [show va_up (fM1 1) (iN 1) (-1) = fM1 2 from fM1_u])) rfl ?_
  refine kU_pf9 (a := 0) (kk := 14) (f2 := (va_up (va_up (j_lay kL (kSc kz_S sc2) (x_mk kz_mr kz_rf) (kAr kz_r0 ar2) kz_al) 10 (.inl (0, (2, .inl (fM1 2))))) 0 (.inr (11, [.int 0, .int 0, .int (-1), .int 0, .int 0, .int 0, .int 0, .int 0, .int 0, .ref 1, .ref 2, .ref 5, .ref 8, .ref 9, .ref 10, .null, .int 0, .int 0, .int 0, .int 0, .null, .null, .int 0, .int 0, .int 0, .int 0, .int 0, .int 0, .int 0, .int 0, .null, .int 0, .null, .null, .null, .null, .null, .null, .int 0, .null, .null, .null, .null, .null, .null, .null, .null, .null, .int 0, .int 0, .int 0, .int 0, .null, .null, .null, .null, .null, .int 0, .null, .null])))) hC hPg (by omega) rfl rfl (kMem 89 rfl rfl) rfl rfl (fun C Tt M h => by cases h; exact ⟨rfl, rfl, _, rfl, fun _ => ⟨rfl, rfl⟩⟩) va_us rfl ?_
  refine kU_al (b := 0) hC (by omega) rfl rfl rfl ?_
  refine kU_int (v := 2) hC (by omega) rfl rfl (fun _ _ => rfl) ?_
  refine kU_na (t := 0) (M := 2) (ty := .int) (a0 := (2, .inl fun _ => 0)) hC (by omega) rfl rfl kn_i (fun _ _ => rfl) kra_i (fun _ => rfl) (fun _ => rfl) (by decide) (by decide) (by decide) rfl (kRu_le hRu (by omega) (by omega)) rfl ?_
  refine kU_dup hC (by omega) rfl rfl rfl ?_
  refine kU_int (v := 0) hC (by omega) rfl rfl (fun _ _ => rfl) ?_
  refine kU_int (v := (-1)) hC (by omega) rfl rfl (fun _ _ => rfl) ?_
  refine kU_ia (a := 11) (M := 2) (g := fun _ => 0) (f2 := va_up (va_up (va_up (j_lay kL (kSc kz_S sc2) (x_mk kz_mr kz_rf) (kAr kz_r0 ar2) kz_al) 10 (.inl (0, (2, .inl (fM1 2))))) 11 (.inl (0, (2, .inl (fM1 1))))) 0 (.inr (11, [.int 0, .int 0, .int (-1), .int 0, .int 0, .int 0, .int 0, .int 0, .int 0, .ref 1, .ref 2, .ref 5, .ref 8, .ref 9, .ref 10, .null, .int 0, .int 0, .int 0, .int 0, .null, .null, .int 0, .int 0, .int 0, .int 0, .int 0, .int 0, .int 0, .int 0, .null, .int 0, .null, .null, .null, .null, .null, .null, .int 0, .null, .null, .null, .null, .null, .null, .null, .null, .null, .int 0, .int 0, .int 0, .int 0, .null, .null, .null, .null, .null, .int 0, .null, .null]))) hC (by omega) rfl (kMem 100 rfl rfl) rfl (by decide) ((va_uc (by decide)).trans (by rw [show va_up (fun _ => (0 : Int32)) (iN 0) (-1) = fM1 1 from fM1_1])) rfl ?_
  refine kU_dup hC (by omega) rfl rfl rfl ?_
  refine kU_int (v := 1) hC (by omega) rfl rfl (fun _ _ => rfl) ?_
  refine kU_int (v := (-1)) hC (by omega) rfl rfl (fun _ _ => rfl) ?_
  refine kU_ia (a := 11) (M := 2) (g := fM1 1) (f2 := (va_up (va_up (va_up (j_lay kL (kSc kz_S sc2) (x_mk kz_mr kz_rf) (kAr kz_r0 ar2) kz_al) 10 (.inl (0, (2, .inl (fM1 2))))) 11 (.inl (0, (2, .inl (fM1 2))))) 0 (.inr (11, [.int 0, .int 0, .int (-1), .int 0, .int 0, .int 0, .int 0, .int 0, .int 0, .ref 1, .ref 2, .ref 5, .ref 8, .ref 9, .ref 10, .null, .int 0, .int 0, .int 0, .int 0, .null, .null, .int 0, .int 0, .int 0, .int 0, .int 0, .int 0, .int 0, .int 0, .null, .int 0, .null, .null, .null, .null, .null, .null, .int 0, .null, .null, .null, .null, .null, .null, .null, .null, .null, .int 0, .int 0, .int 0, .int 0, .null, .null, .null, .null, .null, .int 0, .null, .null])))) hC (by omega) rfl (kMem 100 rfl rfl) rfl (by decide) ((va_u3 (by decide)).trans (by rw [show va_up (fM1 1) (iN 1) (-1) = fM1 2 from fM1_u])) rfl ?_
  refine kU_pf9 (a := 0) (kk := 15) (f2 := (va_up (va_up (va_up (j_lay kL (kSc kz_S sc2) (x_mk kz_mr kz_rf) (kAr kz_r0 ar2) kz_al) 10 (.inl (0, (2, .inl (fM1 2))))) 11 (.inl (0, (2, .inl (fM1 2))))) 0 (.inr (11, [.int 0, .int 0, .int (-1), .int 0, .int 0, .int 0, .int 0, .int 0, .int 0, .ref 1, .ref 2, .ref 5, .ref 8, .ref 9, .ref 10, .ref 11, .int 0, .int 0, .int 0, .int 0, .null, .null, .int 0, .int 0, .int 0, .int 0, .int 0, .int 0, .int 0, .int 0, .null, .int 0, .null, .null, .null, .null, .null, .null, .int 0, .null, .null, .null, .null, .null, .null, .null, .null, .null, .int 0, .int 0, .int 0, .int 0, .null, .null, .null, .null, .null, .int 0, .null, .null])))) hC hPg (by omega) rfl rfl (kMem 89 rfl rfl) rfl rfl (fun C Tt M h => by cases h; exact ⟨rfl, rfl, _, rfl, fun _ => ⟨rfl, rfl⟩⟩) va_us rfl ?_
  refine kU_al (b := 0) hC (by omega) rfl rfl rfl ?_
  refine kU_int (v := 17) hC (by omega) rfl rfl (fun _ _ => rfl) ?_
  refine kU_na (t := 0) (M := 17) (ty := .int) (a0 := (17, .inl fun _ => 0)) hC (by omega) rfl rfl kn_i (fun _ _ => rfl) kra_i (fun _ => rfl) (fun _ => rfl) (by decide) (by decide) (by decide) rfl (kRu_le hRu (by omega) (by omega)) rfl ?_
  refine kU_pf9 (a := 0) (kk := 20) (f2 := (va_up (va_up (va_up (j_lay kL (kSc kz_S sc2) (x_mk kz_mr kz_rf) (kAr kz_r0 ar2) kz_al) 10 (.inl (0, (2, .inl (fM1 2))))) 11 (.inl (0, (2, .inl (fM1 2))))) 0 (.inr (11, [.int 0, .int 0, .int (-1), .int 0, .int 0, .int 0, .int 0, .int 0, .int 0, .ref 1, .ref 2, .ref 5, .ref 8, .ref 9, .ref 10, .ref 11, .int 0, .int 0, .int 0, .int 0, .ref 12, .null, .int 0, .int 0, .int 0, .int 0, .int 0, .int 0, .int 0, .int 0, .null, .int 0, .null, .null, .null, .null, .null, .null, .int 0, .null, .null, .null, .null, .null, .null, .null, .null, .null, .int 0, .int 0, .int 0, .int 0, .null, .null, .null, .null, .null, .int 0, .null, .null])))) hC hPg (by omega) rfl rfl (kMem 89 rfl rfl) rfl rfl (fun C Tt M h => by cases h; exact ⟨rfl, rfl, _, rfl, fun _ => ⟨rfl, rfl⟩⟩) va_us rfl ?_
  refine kU_al (b := 0) hC (by omega) rfl rfl rfl ?_
  refine kU_int (v := 53) hC (by omega) rfl rfl (fun _ _ => rfl) ?_
  refine kU_na (t := 0) (M := 53) (ty := .int) (a0 := (53, .inl fun _ => 0)) hC (by omega) rfl rfl kn_i (fun _ _ => rfl) kra_i (fun _ => rfl) (fun _ => rfl) (by decide) (by decide) (by decide) rfl (kRu_le hRu (by omega) (by omega)) rfl ?_
  refine kU_pf9 (a := 0) (kk := 21) (f2 := (va_up (va_up (va_up (j_lay kL (kSc kz_S sc2) (x_mk kz_mr kz_rf) (kAr kz_r0 ar2) kz_al) 10 (.inl (0, (2, .inl (fM1 2))))) 11 (.inl (0, (2, .inl (fM1 2))))) 0 (.inr (11, [.int 0, .int 0, .int (-1), .int 0, .int 0, .int 0, .int 0, .int 0, .int 0, .ref 1, .ref 2, .ref 5, .ref 8, .ref 9, .ref 10, .ref 11, .int 0, .int 0, .int 0, .int 0, .ref 12, .ref 13, .int 0, .int 0, .int 0, .int 0, .int 0, .int 0, .int 0, .int 0, .null, .int 0, .null, .null, .null, .null, .null, .null, .int 0, .null, .null, .null, .null, .null, .null, .null, .null, .null, .int 0, .int 0, .int 0, .int 0, .null, .null, .null, .null, .null, .int 0, .null, .null])))) hC hPg (by omega) rfl rfl (kMem 89 rfl rfl) rfl rfl (fun C Tt M h => by cases h; exact ⟨rfl, rfl, _, rfl, fun _ => ⟨rfl, rfl⟩⟩) va_us rfl ?_
  refine kU_al (b := 0) hC (by omega) rfl rfl rfl ?_
  refine kU_int (v := (-1)) hC (by omega) rfl rfl (fun _ _ => rfl) ?_
  refine kU_pf (a := 0) (kk := 29) (t := 0) (f2 := (va_up (va_up (va_up (j_lay kL (kSc kz_S sc2) (x_mk kz_mr kz_rf) (kAr kz_r0 ar2) kz_al) 10 (.inl (0, (2, .inl (fM1 2))))) 11 (.inl (0, (2, .inl (fM1 2))))) 0 (.inr (11, [.int 0, .int 0, .int (-1), .int 0, .int 0, .int 0, .int 0, .int 0, .int 0, .ref 1, .ref 2, .ref 5, .ref 8, .ref 9, .ref 10, .ref 11, .int 0, .int 0, .int 0, .int 0, .ref 12, .ref 13, .int 0, .int 0, .int 0, .int 0, .int 0, .int 0, .int 0, .int (-1), .null, .int 0, .null, .null, .null, .null, .null, .null, .int 0, .null, .null, .null, .null, .null, .null, .null, .null, .null, .int 0, .int 0, .int 0, .int 0, .null, .null, .null, .null, .null, .int 0, .null, .null])))) hC (by omega) rfl rfl (kMem 89 rfl rfl) rfl rfl rfl va_us rfl ?_
  refine kU_al (b := 0) hC (by omega) rfl rfl rfl ?_
  refine kU_int (v := 53) hC (by omega) rfl rfl (fun _ _ => rfl) ?_
  refine kU_na (t := 0) (M := 53) (ty := .int) (a0 := (53, .inl fun _ => 0)) hC (by omega) rfl rfl kn_i (fun _ _ => rfl) kra_i (fun _ => rfl) (fun _ => rfl) (by decide) (by decide) (by decide) rfl (kRu_le hRu (by omega) (by omega)) rfl ?_
  refine kU_pf9 (a := 0) (kk := 30) (f2 := (va_up (va_up (va_up (j_lay kL (kSc kz_S sc2) (x_mk kz_mr kz_rf) (kAr kz_r0 ar2) kz_al) 10 (.inl (0, (2, .inl (fM1 2))))) 11 (.inl (0, (2, .inl (fM1 2))))) 0 (.inr (11, [.int 0, .int 0, .int (-1), .int 0, .int 0, .int 0, .int 0, .int 0, .int 0, .ref 1, .ref 2, .ref 5, .ref 8, .ref 9, .ref 10, .ref 11, .int 0, .int 0, .int 0, .int 0, .ref 12, .ref 13, .int 0, .int 0, .int 0, .int 0, .int 0, .int 0, .int 0, .int (-1), .ref 14, .int 0, .null, .null, .null, .null, .null, .null, .int 0, .null, .null, .null, .null, .null, .null, .null, .null, .null, .int 0, .int 0, .int 0, .int 0, .null, .null, .null, .null, .null, .int 0, .null, .null])))) hC hPg (by omega) rfl rfl (kMem 89 rfl rfl) rfl rfl (fun C Tt M h => by cases h; exact ⟨rfl, rfl, _, rfl, fun _ => ⟨rfl, rfl⟩⟩) va_us rfl ?_
  refine kU_al (b := 0) hC (by omega) rfl rfl rfl ?_
  refine kU_int (v := 40) hC (by omega) rfl rfl (fun _ _ => rfl) ?_
  refine kU_na (t := 0) (M := 40) (ty := .int) (a0 := (40, .inl fun _ => 0)) hC (by omega) rfl rfl kn_i (fun _ _ => rfl) kra_i (fun _ => rfl) (fun _ => rfl) (by decide) (by decide) (by decide) rfl (kRu_le hRu (by omega) (by omega)) rfl ?_
  refine kU_pf9 (a := 0) (kk := 32) (f2 := (va_up (va_up (va_up (j_lay kL (kSc kz_S sc2) (x_mk kz_mr kz_rf) (kAr kz_r0 ar2) kz_al) 10 (.inl (0, (2, .inl (fM1 2))))) 11 (.inl (0, (2, .inl (fM1 2))))) 0 (.inr (11, [.int 0, .int 0, .int (-1), .int 0, .int 0, .int 0, .int 0, .int 0, .int 0, .ref 1, .ref 2, .ref 5, .ref 8, .ref 9, .ref 10, .ref 11, .int 0, .int 0, .int 0, .int 0, .ref 12, .ref 13, .int 0, .int 0, .int 0, .int 0, .int 0, .int 0, .int 0, .int (-1), .ref 14, .int 0, .ref 15, .null, .null, .null, .null, .null, .int 0, .null, .null, .null, .null, .null, .null, .null, .null, .null, .int 0, .int 0, .int 0, .int 0, .null, .null, .null, .null, .null, .int 0, .null, .null])))) hC hPg (by omega) rfl rfl (kMem 89 rfl rfl) rfl rfl (fun C Tt M h => by cases h; exact ⟨rfl, rfl, _, rfl, fun _ => ⟨rfl, rfl⟩⟩) va_us rfl ?_
  refine kU_al (b := 0) hC (by omega) rfl rfl rfl ?_
  refine kU_int (v := 40) hC (by omega) rfl rfl (fun _ _ => rfl) ?_
  refine kU_na (t := 0) (M := 40) (ty := .int) (a0 := (40, .inl fun _ => 0)) hC (by omega) rfl rfl kn_i (fun _ _ => rfl) kra_i (fun _ => rfl) (fun _ => rfl) (by decide) (by decide) (by decide) rfl (kRu_le hRu (by omega) (by omega)) rfl ?_
  refine kU_pf9 (a := 0) (kk := 33) (f2 := (va_up (va_up (va_up (j_lay kL (kSc kz_S sc2) (x_mk kz_mr kz_rf) (kAr kz_r0 ar2) kz_al) 10 (.inl (0, (2, .inl (fM1 2))))) 11 (.inl (0, (2, .inl (fM1 2))))) 0 (.inr (11, [.int 0, .int 0, .int (-1), .int 0, .int 0, .int 0, .int 0, .int 0, .int 0, .ref 1, .ref 2, .ref 5, .ref 8, .ref 9, .ref 10, .ref 11, .int 0, .int 0, .int 0, .int 0, .ref 12, .ref 13, .int 0, .int 0, .int 0, .int 0, .int 0, .int 0, .int 0, .int (-1), .ref 14, .int 0, .ref 15, .ref 16, .null, .null, .null, .null, .int 0, .null, .null, .null, .null, .null, .null, .null, .null, .null, .int 0, .int 0, .int 0, .int 0, .null, .null, .null, .null, .null, .int 0, .null, .null])))) hC hPg (by omega) rfl rfl (kMem 89 rfl rfl) rfl rfl (fun C Tt M h => by cases h; exact ⟨rfl, rfl, _, rfl, fun _ => ⟨rfl, rfl⟩⟩) va_us rfl ?_
  refine kU_al (b := 0) hC (by omega) rfl rfl rfl ?_
  refine kU_int (v := 40) hC (by omega) rfl rfl (fun _ _ => rfl) ?_
  refine kU_na (t := 0) (M := 40) (ty := .int) (a0 := (40, .inl fun _ => 0)) hC (by omega) rfl rfl kn_i (fun _ _ => rfl) kra_i (fun _ => rfl) (fun _ => rfl) (by decide) (by decide) (by decide) rfl (kRu_le hRu (by omega) (by omega)) rfl ?_
  refine kU_pf9 (a := 0) (kk := 34) (f2 := (va_up (va_up (va_up (j_lay kL (kSc kz_S sc2) (x_mk kz_mr kz_rf) (kAr kz_r0 ar2) kz_al) 10 (.inl (0, (2, .inl (fM1 2))))) 11 (.inl (0, (2, .inl (fM1 2))))) 0 (.inr (11, [.int 0, .int 0, .int (-1), .int 0, .int 0, .int 0, .int 0, .int 0, .int 0, .ref 1, .ref 2, .ref 5, .ref 8, .ref 9, .ref 10, .ref 11, .int 0, .int 0, .int 0, .int 0, .ref 12, .ref 13, .int 0, .int 0, .int 0, .int 0, .int 0, .int 0, .int 0, .int (-1), .ref 14, .int 0, .ref 15, .ref 16, .ref 17, .null, .null, .null, .int 0, .null, .null, .null, .null, .null, .null, .null, .null, .null, .int 0, .int 0, .int 0, .int 0, .null, .null, .null, .null, .null, .int 0, .null, .null])))) hC hPg (by omega) rfl rfl (kMem 89 rfl rfl) rfl rfl (fun C Tt M h => by cases h; exact ⟨rfl, rfl, _, rfl, fun _ => ⟨rfl, rfl⟩⟩) va_us rfl ?_
  refine kU_al (b := 0) hC (by omega) rfl rfl rfl ?_
  refine kU_int (v := 40) hC (by omega) rfl rfl (fun _ _ => rfl) ?_
  refine kU_na (t := 0) (M := 40) (ty := .int) (a0 := (40, .inl fun _ => 0)) hC (by omega) rfl rfl kn_i (fun _ _ => rfl) kra_i (fun _ => rfl) (fun _ => rfl) (by decide) (by decide) (by decide) rfl (kRu_le hRu (by omega) (by omega)) rfl ?_
  refine kU_pf9 (a := 0) (kk := 35) (f2 := (va_up (va_up (va_up (j_lay kL (kSc kz_S sc2) (x_mk kz_mr kz_rf) (kAr kz_r0 ar2) kz_al) 10 (.inl (0, (2, .inl (fM1 2))))) 11 (.inl (0, (2, .inl (fM1 2))))) 0 (.inr (11, [.int 0, .int 0, .int (-1), .int 0, .int 0, .int 0, .int 0, .int 0, .int 0, .ref 1, .ref 2, .ref 5, .ref 8, .ref 9, .ref 10, .ref 11, .int 0, .int 0, .int 0, .int 0, .ref 12, .ref 13, .int 0, .int 0, .int 0, .int 0, .int 0, .int 0, .int 0, .int (-1), .ref 14, .int 0, .ref 15, .ref 16, .ref 17, .ref 18, .null, .null, .int 0, .null, .null, .null, .null, .null, .null, .null, .null, .null, .int 0, .int 0, .int 0, .int 0, .null, .null, .null, .null, .null, .int 0, .null, .null])))) hC hPg (by omega) rfl rfl (kMem 89 rfl rfl) rfl rfl (fun C Tt M h => by cases h; exact ⟨rfl, rfl, _, rfl, fun _ => ⟨rfl, rfl⟩⟩) va_us rfl ?_
  refine kU_al (b := 0) hC (by omega) rfl rfl rfl ?_
  refine kU_int (v := 41) hC (by omega) rfl rfl (fun _ _ => rfl) ?_
  refine kU_int (v := 10) hC (by omega) rfl rfl (fun _ _ => rfl) ?_
  refine kU_mna (t := 4) (ti := 0) (N' := 41) (K' := 10) (ty := .int) (z := (10, .inl fun _ => 0)) (g := kL.2.1 19) hm hC hPg (by decide) rfl lh_8_6 kn_i (fun U h => h.2.1) (fun _ _ => rfl) (fun _ _ => rfl) (fun _ _ h => h) (fun _ _ h => h) (by decide) (by decide) (by decide) (by decide) (by decide) (by decide) (by decide) rfl rfl (fun _ => rfl) (fun _ => rfl) rfl (krr (a := 19) (fun i => rfl) (by decide) (by decide)) (fun i hi => (kov (a := kO (108 + 1 + i)) (fun z => by rw [kO_r (by omega) (by omega)] at z; omega) (fun z => by rw [kO_r (by omega) (by omega)] at z; omega)).trans (kro (sc := kSc kz_S sc2) (rf := x_mk kz_mr kz_rf) (car := ar2) (al := kz_al) ksh_19 (by decide) (by decide) (by decide) i hi)) (kRu_le hRu (by omega) (by omega)) rfl ?_
  refine kU_pf9 (a := 0) (kk := 36) (f2 := (va_up (va_up (va_up (j_lay kL (kSc kz_S sc2) (x_mk kz_mr kz_rf) (kAr kz_r0 ar2) kz_al) 10 (.inl (0, (2, .inl (fM1 2))))) 11 (.inl (0, (2, .inl (fM1 2))))) 0 (.inr (11, [.int 0, .int 0, .int (-1), .int 0, .int 0, .int 0, .int 0, .int 0, .int 0, .ref 1, .ref 2, .ref 5, .ref 8, .ref 9, .ref 10, .ref 11, .int 0, .int 0, .int 0, .int 0, .ref 12, .ref 13, .int 0, .int 0, .int 0, .int 0, .int 0, .int 0, .int 0, .int (-1), .ref 14, .int 0, .ref 15, .ref 16, .ref 17, .ref 18, .ref 19, .null, .int 0, .null, .null, .null, .null, .null, .null, .null, .null, .null, .int 0, .int 0, .int 0, .int 0, .null, .null, .null, .null, .null, .int 0, .null, .null])))) hC hPg (by omega) rfl rfl (kMem 89 rfl rfl) rfl rfl (fun C Tt M h => by cases h; exact ⟨rfl, rfl, _, rfl, fun _ => ⟨rfl, rfl⟩⟩) va_us rfl ?_
  refine kU_al (b := 0) hC (by omega) rfl rfl rfl ?_
  refine kU_int (v := 40) hC (by omega) rfl rfl (fun _ _ => rfl) ?_
  refine kU_int (v := 40) hC (by omega) rfl rfl (fun _ _ => rfl) ?_
  refine kU_mna (t := 5) (ti := 2) (N' := 40) (K' := 40) (ty := .boolean) (z := (40, .inl fun _ => 0)) (g := kL.2.1 61) hm hC hPg (by decide) rfl lh_8_8 kn_b (fun U h => h.2.2.1) (fun _ _ => rfl) (fun _ _ => rfl) (fun _ _ h => h) (fun _ _ h => h) (by decide) (by decide) (by decide) (by decide) (by decide) (by decide) (by decide) rfl rfl (fun _ => rfl) (fun _ => rfl) rfl (krr (a := 61) (fun i => rfl) (by decide) (by decide)) (fun i hi => (kov (a := kO (150 + 1 + i)) (fun z => by rw [kO_r (by omega) (by omega)] at z; omega) (fun z => by rw [kO_r (by omega) (by omega)] at z; omega)).trans (kro (sc := kSc kz_S sc2) (rf := x_mk kz_mr kz_rf) (car := ar2) (al := kz_al) ksh_61 (by decide) (by decide) (by decide) i hi)) (kRu_le hRu (by omega) (by omega)) rfl ?_
  refine kU_pf9 (a := 0) (kk := 37) (f2 := (va_up (va_up (va_up (j_lay kL (kSc kz_S sc2) (x_mk kz_mr kz_rf) (kAr kz_r0 ar2) kz_al) 10 (.inl (0, (2, .inl (fM1 2))))) 11 (.inl (0, (2, .inl (fM1 2))))) 0 (.inr (11, [.int 0, .int 0, .int (-1), .int 0, .int 0, .int 0, .int 0, .int 0, .int 0, .ref 1, .ref 2, .ref 5, .ref 8, .ref 9, .ref 10, .ref 11, .int 0, .int 0, .int 0, .int 0, .ref 12, .ref 13, .int 0, .int 0, .int 0, .int 0, .int 0, .int 0, .int 0, .int (-1), .ref 14, .int 0, .ref 15, .ref 16, .ref 17, .ref 18, .ref 19, .ref 61, .int 0, .null, .null, .null, .null, .null, .null, .null, .null, .null, .int 0, .int 0, .int 0, .int 0, .null, .null, .null, .null, .null, .int 0, .null, .null])))) hC hPg (by omega) rfl rfl (kMem 89 rfl rfl) rfl rfl (fun C Tt M h => by cases h; exact ⟨rfl, rfl, _, rfl, fun _ => ⟨rfl, rfl⟩⟩) va_us rfl ?_
  refine kU_al (b := 0) hC (by omega) rfl rfl rfl ?_
  refine kU_int (v := 6) hC (by omega) rfl rfl (fun _ _ => rfl) ?_
  refine kU_na (t := 0) (M := 6) (ty := .int) (a0 := (6, .inl fun _ => 0)) hC (by omega) rfl rfl kn_i (fun _ _ => rfl) kra_i (fun _ => rfl) (fun _ => rfl) (by decide) (by decide) (by decide) rfl (kRu_le hRu (by omega) (by omega)) rfl ?_
  refine kU_pf9 (a := 0) (kk := 39) (f2 := (va_up (va_up (va_up (j_lay kL (kSc kz_S sc2) (x_mk kz_mr kz_rf) (kAr kz_r0 ar2) kz_al) 10 (.inl (0, (2, .inl (fM1 2))))) 11 (.inl (0, (2, .inl (fM1 2))))) 0 (.inr (11, [.int 0, .int 0, .int (-1), .int 0, .int 0, .int 0, .int 0, .int 0, .int 0, .ref 1, .ref 2, .ref 5, .ref 8, .ref 9, .ref 10, .ref 11, .int 0, .int 0, .int 0, .int 0, .ref 12, .ref 13, .int 0, .int 0, .int 0, .int 0, .int 0, .int 0, .int 0, .int (-1), .ref 14, .int 0, .ref 15, .ref 16, .ref 17, .ref 18, .ref 19, .ref 61, .int 0, .ref 102, .null, .null, .null, .null, .null, .null, .null, .null, .int 0, .int 0, .int 0, .int 0, .null, .null, .null, .null, .null, .int 0, .null, .null])))) hC hPg (by omega) rfl rfl (kMem 89 rfl rfl) rfl rfl (fun C Tt M h => by cases h; exact ⟨rfl, rfl, _, rfl, fun _ => ⟨rfl, rfl⟩⟩) va_us rfl ?_
  refine kU_al (b := 0) hC (by omega) rfl rfl rfl ?_
  refine kU_int (v := 6) hC (by omega) rfl rfl (fun _ _ => rfl) ?_
  refine kU_na (t := 0) (M := 6) (ty := .int) (a0 := (6, .inl fun _ => 0)) hC (by omega) rfl rfl kn_i (fun _ _ => rfl) kra_i (fun _ => rfl) (fun _ => rfl) (by decide) (by decide) (by decide) rfl (kRu_le hRu (by omega) (by omega)) rfl ?_
  refine kU_pf9 (a := 0) (kk := 40) (f2 := (va_up (va_up (va_up (j_lay kL (kSc kz_S sc2) (x_mk kz_mr kz_rf) (kAr kz_r0 ar2) kz_al) 10 (.inl (0, (2, .inl (fM1 2))))) 11 (.inl (0, (2, .inl (fM1 2))))) 0 (.inr (11, [.int 0, .int 0, .int (-1), .int 0, .int 0, .int 0, .int 0, .int 0, .int 0, .ref 1, .ref 2, .ref 5, .ref 8, .ref 9, .ref 10, .ref 11, .int 0, .int 0, .int 0, .int 0, .ref 12, .ref 13, .int 0, .int 0, .int 0, .int 0, .int 0, .int 0, .int 0, .int (-1), .ref 14, .int 0, .ref 15, .ref 16, .ref 17, .ref 18, .ref 19, .ref 61, .int 0, .ref 102, .ref 103, .null, .null, .null, .null, .null, .null, .null, .int 0, .int 0, .int 0, .int 0, .null, .null, .null, .null, .null, .int 0, .null, .null])))) hC hPg (by omega) rfl rfl (kMem 89 rfl rfl) rfl rfl (fun C Tt M h => by cases h; exact ⟨rfl, rfl, _, rfl, fun _ => ⟨rfl, rfl⟩⟩) va_us rfl ?_
  refine kU_al (b := 0) hC (by omega) rfl rfl rfl ?_
  refine kU_int (v := 6) hC (by omega) rfl rfl (fun _ _ => rfl) ?_
  refine kU_na (t := 0) (M := 6) (ty := .int) (a0 := (6, .inl fun _ => 0)) hC (by omega) rfl rfl kn_i (fun _ _ => rfl) kra_i (fun _ => rfl) (fun _ => rfl) (by decide) (by decide) (by decide) rfl (kRu_le hRu (by omega) (by omega)) rfl ?_
  refine kU_pf9 (a := 0) (kk := 41) (f2 := (va_up (va_up (va_up (j_lay kL (kSc kz_S sc2) (x_mk kz_mr kz_rf) (kAr kz_r0 ar2) kz_al) 10 (.inl (0, (2, .inl (fM1 2))))) 11 (.inl (0, (2, .inl (fM1 2))))) 0 (.inr (11, [.int 0, .int 0, .int (-1), .int 0, .int 0, .int 0, .int 0, .int 0, .int 0, .ref 1, .ref 2, .ref 5, .ref 8, .ref 9, .ref 10, .ref 11, .int 0, .int 0, .int 0, .int 0, .ref 12, .ref 13, .int 0, .int 0, .int 0, .int 0, .int 0, .int 0, .int 0, .int (-1), .ref 14, .int 0, .ref 15, .ref 16, .ref 17, .ref 18, .ref 19, .ref 61, .int 0, .ref 102, .ref 103, .ref 104, .null, .null, .null, .null, .null, .null, .int 0, .int 0, .int 0, .int 0, .null, .null, .null, .null, .null, .int 0, .null, .null])))) hC hPg (by omega) rfl rfl (kMem 89 rfl rfl) rfl rfl (fun C Tt M h => by cases h; exact ⟨rfl, rfl, _, rfl, fun _ => ⟨rfl, rfl⟩⟩) va_us rfl ?_
  refine kU_al (b := 0) hC (by omega) rfl rfl rfl ?_
  refine kU_int (v := 6) hC (by omega) rfl rfl (fun _ _ => rfl) ?_
  refine kU_na (t := 0) (M := 6) (ty := .int) (a0 := (6, .inl fun _ => 0)) hC (by omega) rfl rfl kn_i (fun _ _ => rfl) kra_i (fun _ => rfl) (fun _ => rfl) (by decide) (by decide) (by decide) rfl (kRu_le hRu (by omega) (by omega)) rfl ?_
  refine kU_pf9 (a := 0) (kk := 42) (f2 := (va_up (va_up (va_up (j_lay kL (kSc kz_S sc2) (x_mk kz_mr kz_rf) (kAr kz_r0 ar2) kz_al) 10 (.inl (0, (2, .inl (fM1 2))))) 11 (.inl (0, (2, .inl (fM1 2))))) 0 (.inr (11, [.int 0, .int 0, .int (-1), .int 0, .int 0, .int 0, .int 0, .int 0, .int 0, .ref 1, .ref 2, .ref 5, .ref 8, .ref 9, .ref 10, .ref 11, .int 0, .int 0, .int 0, .int 0, .ref 12, .ref 13, .int 0, .int 0, .int 0, .int 0, .int 0, .int 0, .int 0, .int (-1), .ref 14, .int 0, .ref 15, .ref 16, .ref 17, .ref 18, .ref 19, .ref 61, .int 0, .ref 102, .ref 103, .ref 104, .ref 105, .null, .null, .null, .null, .null, .int 0, .int 0, .int 0, .int 0, .null, .null, .null, .null, .null, .int 0, .null, .null])))) hC hPg (by omega) rfl rfl (kMem 89 rfl rfl) rfl rfl (fun C Tt M h => by cases h; exact ⟨rfl, rfl, _, rfl, fun _ => ⟨rfl, rfl⟩⟩) va_us rfl ?_
  refine kU_al (b := 0) hC (by omega) rfl rfl rfl ?_
  refine kU_int (v := 6) hC (by omega) rfl rfl (fun _ _ => rfl) ?_
  refine kU_na (t := 2) (M := 6) (ty := .boolean) (a0 := (6, .inl fun _ => 0)) hC (by omega) rfl rfl kn_b (fun _ _ => rfl) kra_b (fun _ => rfl) (fun _ => rfl) (by decide) (by decide) (by decide) rfl (kRu_le hRu (by omega) (by omega)) rfl ?_
  refine kU_pf9 (a := 0) (kk := 43) (f2 := (va_up (va_up (va_up (j_lay kL (kSc kz_S sc2) (x_mk kz_mr kz_rf) (kAr kz_r0 ar2) kz_al) 10 (.inl (0, (2, .inl (fM1 2))))) 11 (.inl (0, (2, .inl (fM1 2))))) 0 (.inr (11, [.int 0, .int 0, .int (-1), .int 0, .int 0, .int 0, .int 0, .int 0, .int 0, .ref 1, .ref 2, .ref 5, .ref 8, .ref 9, .ref 10, .ref 11, .int 0, .int 0, .int 0, .int 0, .ref 12, .ref 13, .int 0, .int 0, .int 0, .int 0, .int 0, .int 0, .int 0, .int (-1), .ref 14, .int 0, .ref 15, .ref 16, .ref 17, .ref 18, .ref 19, .ref 61, .int 0, .ref 102, .ref 103, .ref 104, .ref 105, .ref 106, .null, .null, .null, .null, .int 0, .int 0, .int 0, .int 0, .null, .null, .null, .null, .null, .int 0, .null, .null])))) hC hPg (by omega) rfl rfl (kMem 89 rfl rfl) rfl rfl (fun C Tt M h => by cases h; exact ⟨rfl, rfl, _, rfl, fun _ => ⟨rfl, rfl⟩⟩) va_us rfl ?_
  refine kU_al (b := 0) hC (by omega) rfl rfl rfl ?_
  refine kU_int (v := 600) hC (by omega) rfl rfl (fun _ _ => rfl) ?_
  refine kU_int (v := 38) hC (by omega) rfl rfl (fun _ _ => rfl) ?_
  refine kU_mna (t := 4) (ti := 0) (N' := 600) (K' := 38) (ty := .int) (z := (38, .inl fun _ => 0)) (g := kL.2.1 107) hm hC hPg (by decide) rfl lh_8_6 kn_i (fun U h => h.2.1) (fun _ _ => rfl) (fun _ _ => rfl) (fun _ _ h => h) (fun _ _ h => h) (by decide) (by decide) (by decide) (by decide) (by decide) (by decide) (by decide) rfl rfl (fun _ => rfl) (fun _ => rfl) rfl (krr (a := 107) (fun i => rfl) (by decide) (by decide)) (fun i hi => (kov (a := kO (196 + 1 + i)) (fun z => by rw [kO_r (by omega) (by omega)] at z; omega) (fun z => by rw [kO_r (by omega) (by omega)] at z; omega)).trans (kro (sc := kSc kz_S sc2) (rf := x_mk kz_mr kz_rf) (car := ar2) (al := kz_al) ksh_107 (by decide) (by decide) (by decide) i hi)) (kRu_le hRu (by omega) (by omega)) rfl ?_
  refine kU_pf9 (a := 0) (kk := 44) (f2 := (va_up (va_up (va_up (j_lay kL (kSc kz_S sc2) (x_mk kz_mr kz_rf) (kAr kz_r0 ar2) kz_al) 10 (.inl (0, (2, .inl (fM1 2))))) 11 (.inl (0, (2, .inl (fM1 2))))) 0 (.inr (11, [.int 0, .int 0, .int (-1), .int 0, .int 0, .int 0, .int 0, .int 0, .int 0, .ref 1, .ref 2, .ref 5, .ref 8, .ref 9, .ref 10, .ref 11, .int 0, .int 0, .int 0, .int 0, .ref 12, .ref 13, .int 0, .int 0, .int 0, .int 0, .int 0, .int 0, .int 0, .int (-1), .ref 14, .int 0, .ref 15, .ref 16, .ref 17, .ref 18, .ref 19, .ref 61, .int 0, .ref 102, .ref 103, .ref 104, .ref 105, .ref 106, .ref 107, .null, .null, .null, .int 0, .int 0, .int 0, .int 0, .null, .null, .null, .null, .null, .int 0, .null, .null])))) hC hPg (by omega) rfl rfl (kMem 89 rfl rfl) rfl rfl (fun C Tt M h => by cases h; exact ⟨rfl, rfl, _, rfl, fun _ => ⟨rfl, rfl⟩⟩) va_us rfl ?_
  refine kU_al (b := 0) hC (by omega) rfl rfl rfl ?_
  refine kU_int (v := 600) hC (by omega) rfl rfl (fun _ _ => rfl) ?_
  refine kU_na (t := 0) (M := 600) (ty := .int) (a0 := (600, .inl fun _ => 0)) hC (by omega) rfl rfl kn_i (fun _ _ => rfl) kra_i (fun _ => rfl) (fun _ => rfl) (by decide) (by decide) (by decide) rfl (kRu_le hRu (by omega) (by omega)) rfl ?_
  refine kU_pf9 (a := 0) (kk := 45) (f2 := (va_up (va_up (va_up (j_lay kL (kSc kz_S sc2) (x_mk kz_mr kz_rf) (kAr kz_r0 ar2) kz_al) 10 (.inl (0, (2, .inl (fM1 2))))) 11 (.inl (0, (2, .inl (fM1 2))))) 0 (.inr (11, [.int 0, .int 0, .int (-1), .int 0, .int 0, .int 0, .int 0, .int 0, .int 0, .ref 1, .ref 2, .ref 5, .ref 8, .ref 9, .ref 10, .ref 11, .int 0, .int 0, .int 0, .int 0, .ref 12, .ref 13, .int 0, .int 0, .int 0, .int 0, .int 0, .int 0, .int 0, .int (-1), .ref 14, .int 0, .ref 15, .ref 16, .ref 17, .ref 18, .ref 19, .ref 61, .int 0, .ref 102, .ref 103, .ref 104, .ref 105, .ref 106, .ref 107, .ref 708, .null, .null, .int 0, .int 0, .int 0, .int 0, .null, .null, .null, .null, .null, .int 0, .null, .null])))) hC hPg (by omega) rfl rfl (kMem 89 rfl rfl) rfl rfl (fun C Tt M h => by cases h; exact ⟨rfl, rfl, _, rfl, fun _ => ⟨rfl, rfl⟩⟩) va_us rfl ?_
  refine kU_al (b := 0) hC (by omega) rfl rfl rfl ?_
  refine kU_int (v := 600) hC (by omega) rfl rfl (fun _ _ => rfl) ?_
  refine kU_na (t := 0) (M := 600) (ty := .int) (a0 := (600, .inl fun _ => 0)) hC (by omega) rfl rfl kn_i (fun _ _ => rfl) kra_i (fun _ => rfl) (fun _ => rfl) (by decide) (by decide) (by decide) rfl (kRu_le hRu (by omega) (by omega)) rfl ?_
  refine kU_pf9 (a := 0) (kk := 46) (f2 := (va_up (va_up (va_up (j_lay kL (kSc kz_S sc2) (x_mk kz_mr kz_rf) (kAr kz_r0 ar2) kz_al) 10 (.inl (0, (2, .inl (fM1 2))))) 11 (.inl (0, (2, .inl (fM1 2))))) 0 (.inr (11, [.int 0, .int 0, .int (-1), .int 0, .int 0, .int 0, .int 0, .int 0, .int 0, .ref 1, .ref 2, .ref 5, .ref 8, .ref 9, .ref 10, .ref 11, .int 0, .int 0, .int 0, .int 0, .ref 12, .ref 13, .int 0, .int 0, .int 0, .int 0, .int 0, .int 0, .int 0, .int (-1), .ref 14, .int 0, .ref 15, .ref 16, .ref 17, .ref 18, .ref 19, .ref 61, .int 0, .ref 102, .ref 103, .ref 104, .ref 105, .ref 106, .ref 107, .ref 708, .ref 709, .null, .int 0, .int 0, .int 0, .int 0, .null, .null, .null, .null, .null, .int 0, .null, .null])))) hC hPg (by omega) rfl rfl (kMem 89 rfl rfl) rfl rfl (fun C Tt M h => by cases h; exact ⟨rfl, rfl, _, rfl, fun _ => ⟨rfl, rfl⟩⟩) va_us rfl ?_
  refine kU_al (b := 0) hC (by omega) rfl rfl rfl ?_
  refine kU_int (v := 600) hC (by omega) rfl rfl (fun _ _ => rfl) ?_
  refine kU_na (t := 0) (M := 600) (ty := .int) (a0 := (600, .inl fun _ => 0)) hC (by omega) rfl rfl kn_i (fun _ _ => rfl) kra_i (fun _ => rfl) (fun _ => rfl) (by decide) (by decide) (by decide) rfl (kRu_le hRu (by omega) (by omega)) rfl ?_
  refine kU_pf9 (a := 0) (kk := 47) (f2 := (va_up (va_up (va_up (j_lay kL (kSc kz_S sc2) (x_mk kz_mr kz_rf) (kAr kz_r0 ar2) kz_al) 10 (.inl (0, (2, .inl (fM1 2))))) 11 (.inl (0, (2, .inl (fM1 2))))) 0 (.inr (11, [.int 0, .int 0, .int (-1), .int 0, .int 0, .int 0, .int 0, .int 0, .int 0, .ref 1, .ref 2, .ref 5, .ref 8, .ref 9, .ref 10, .ref 11, .int 0, .int 0, .int 0, .int 0, .ref 12, .ref 13, .int 0, .int 0, .int 0, .int 0, .int 0, .int 0, .int 0, .int (-1), .ref 14, .int 0, .ref 15, .ref 16, .ref 17, .ref 18, .ref 19, .ref 61, .int 0, .ref 102, .ref 103, .ref 104, .ref 105, .ref 106, .ref 107, .ref 708, .ref 709, .ref 710, .int 0, .int 0, .int 0, .int 0, .null, .null, .null, .null, .null, .int 0, .null, .null])))) hC hPg (by omega) rfl rfl (kMem 89 rfl rfl) rfl rfl (fun C Tt M h => by cases h; exact ⟨rfl, rfl, _, rfl, fun _ => ⟨rfl, rfl⟩⟩) va_us rfl ?_
  refine kU_al (b := 0) hC (by omega) rfl rfl rfl ?_
  refine kU_int (v := 40) hC (by omega) rfl rfl (fun _ _ => rfl) ?_
  refine kU_na (t := 0) (M := 40) (ty := .int) (a0 := (40, .inl fun _ => 0)) hC (by omega) rfl rfl kn_i (fun _ _ => rfl) kra_i (fun _ => rfl) (fun _ => rfl) (by decide) (by decide) (by decide) rfl (kRu_le hRu (by omega) (by omega)) rfl ?_
  refine kU_pf9 (a := 0) (kk := 52) (f2 := (va_up (va_up (va_up (j_lay kL (kSc kz_S sc2) (x_mk kz_mr kz_rf) (kAr kz_r0 ar2) kz_al) 10 (.inl (0, (2, .inl (fM1 2))))) 11 (.inl (0, (2, .inl (fM1 2))))) 0 (.inr (11, [.int 0, .int 0, .int (-1), .int 0, .int 0, .int 0, .int 0, .int 0, .int 0, .ref 1, .ref 2, .ref 5, .ref 8, .ref 9, .ref 10, .ref 11, .int 0, .int 0, .int 0, .int 0, .ref 12, .ref 13, .int 0, .int 0, .int 0, .int 0, .int 0, .int 0, .int 0, .int (-1), .ref 14, .int 0, .ref 15, .ref 16, .ref 17, .ref 18, .ref 19, .ref 61, .int 0, .ref 102, .ref 103, .ref 104, .ref 105, .ref 106, .ref 107, .ref 708, .ref 709, .ref 710, .int 0, .int 0, .int 0, .int 0, .ref 711, .null, .null, .null, .null, .int 0, .null, .null])))) hC hPg (by omega) rfl rfl (kMem 89 rfl rfl) rfl rfl (fun C Tt M h => by cases h; exact ⟨rfl, rfl, _, rfl, fun _ => ⟨rfl, rfl⟩⟩) va_us rfl ?_
  refine kU_al (b := 0) hC (by omega) rfl rfl rfl ?_
  refine kU_int (v := 40) hC (by omega) rfl rfl (fun _ _ => rfl) ?_
  refine kU_na (t := 0) (M := 40) (ty := .int) (a0 := (40, .inl fun _ => 0)) hC (by omega) rfl rfl kn_i (fun _ _ => rfl) kra_i (fun _ => rfl) (fun _ => rfl) (by decide) (by decide) (by decide) rfl (kRu_le hRu (by omega) (by omega)) rfl ?_
  refine kU_pf9 (a := 0) (kk := 53) (f2 := (va_up (va_up (va_up (j_lay kL (kSc kz_S sc2) (x_mk kz_mr kz_rf) (kAr kz_r0 ar2) kz_al) 10 (.inl (0, (2, .inl (fM1 2))))) 11 (.inl (0, (2, .inl (fM1 2))))) 0 (.inr (11, [.int 0, .int 0, .int (-1), .int 0, .int 0, .int 0, .int 0, .int 0, .int 0, .ref 1, .ref 2, .ref 5, .ref 8, .ref 9, .ref 10, .ref 11, .int 0, .int 0, .int 0, .int 0, .ref 12, .ref 13, .int 0, .int 0, .int 0, .int 0, .int 0, .int 0, .int 0, .int (-1), .ref 14, .int 0, .ref 15, .ref 16, .ref 17, .ref 18, .ref 19, .ref 61, .int 0, .ref 102, .ref 103, .ref 104, .ref 105, .ref 106, .ref 107, .ref 708, .ref 709, .ref 710, .int 0, .int 0, .int 0, .int 0, .ref 711, .ref 712, .null, .null, .null, .int 0, .null, .null])))) hC hPg (by omega) rfl rfl (kMem 89 rfl rfl) rfl rfl (fun C Tt M h => by cases h; exact ⟨rfl, rfl, _, rfl, fun _ => ⟨rfl, rfl⟩⟩) va_us rfl ?_
  refine kU_al (b := 0) hC (by omega) rfl rfl rfl ?_
  refine kU_int (v := 2) hC (by omega) rfl rfl (fun _ _ => rfl) ?_
  refine kU_int (v := 53) hC (by omega) rfl rfl (fun _ _ => rfl) ?_
  refine kU_mna (t := 4) (ti := 0) (N' := 2) (K' := 53) (ty := .int) (z := (53, .inl fun _ => 0)) (g := kL.2.1 713) hm hC hPg (by decide) rfl lh_8_6 kn_i (fun U h => h.2.1) (fun _ _ => rfl) (fun _ _ => rfl) (fun _ _ h => h) (fun _ _ h => h) (by decide) (by decide) (by decide) (by decide) (by decide) (by decide) (by decide) rfl rfl (fun _ => rfl) (fun _ => rfl) rfl (krr (a := 713) (fun i => rfl) (by decide) (by decide)) (fun i hi => (kov (a := kO (802 + 1 + i)) (fun z => by rw [kO_r (by omega) (by omega)] at z; omega) (fun z => by rw [kO_r (by omega) (by omega)] at z; omega)).trans (kro (sc := kSc kz_S sc2) (rf := x_mk kz_mr kz_rf) (car := ar2) (al := kz_al) ksh_713 (by decide) (by decide) (by decide) i hi)) (kRu_le hRu (by omega) (by omega)) rfl ?_
  refine kU_pf9 (a := 0) (kk := 54) (f2 := (va_up (va_up (va_up (j_lay kL (kSc kz_S sc2) (x_mk kz_mr kz_rf) (kAr kz_r0 ar2) kz_al) 10 (.inl (0, (2, .inl (fM1 2))))) 11 (.inl (0, (2, .inl (fM1 2))))) 0 (.inr (11, [.int 0, .int 0, .int (-1), .int 0, .int 0, .int 0, .int 0, .int 0, .int 0, .ref 1, .ref 2, .ref 5, .ref 8, .ref 9, .ref 10, .ref 11, .int 0, .int 0, .int 0, .int 0, .ref 12, .ref 13, .int 0, .int 0, .int 0, .int 0, .int 0, .int 0, .int 0, .int (-1), .ref 14, .int 0, .ref 15, .ref 16, .ref 17, .ref 18, .ref 19, .ref 61, .int 0, .ref 102, .ref 103, .ref 104, .ref 105, .ref 106, .ref 107, .ref 708, .ref 709, .ref 710, .int 0, .int 0, .int 0, .int 0, .ref 711, .ref 712, .ref 713, .null, .null, .int 0, .null, .null])))) hC hPg (by omega) rfl rfl (kMem 89 rfl rfl) rfl rfl (fun C Tt M h => by cases h; exact ⟨rfl, rfl, _, rfl, fun _ => ⟨rfl, rfl⟩⟩) va_us rfl ?_
  refine kU_al (b := 0) hC (by omega) rfl rfl rfl ?_
  refine kU_int (v := 4) hC (by omega) rfl rfl (fun _ _ => rfl) ?_
  refine kU_na (t := 0) (M := 4) (ty := .int) (a0 := (4, .inl fun _ => 0)) hC (by omega) rfl rfl kn_i (fun _ _ => rfl) kra_i (fun _ => rfl) (fun _ => rfl) (by decide) (by decide) (by decide) rfl (kRu_le hRu (by omega) (by omega)) rfl ?_
  refine kU_pf9 (a := 0) (kk := 55) (f2 := (va_up (va_up (va_up (j_lay kL (kSc kz_S sc2) (x_mk kz_mr kz_rf) (kAr kz_r0 ar2) kz_al) 10 (.inl (0, (2, .inl (fM1 2))))) 11 (.inl (0, (2, .inl (fM1 2))))) 0 (.inr (11, [.int 0, .int 0, .int (-1), .int 0, .int 0, .int 0, .int 0, .int 0, .int 0, .ref 1, .ref 2, .ref 5, .ref 8, .ref 9, .ref 10, .ref 11, .int 0, .int 0, .int 0, .int 0, .ref 12, .ref 13, .int 0, .int 0, .int 0, .int 0, .int 0, .int 0, .int 0, .int (-1), .ref 14, .int 0, .ref 15, .ref 16, .ref 17, .ref 18, .ref 19, .ref 61, .int 0, .ref 102, .ref 103, .ref 104, .ref 105, .ref 106, .ref 107, .ref 708, .ref 709, .ref 710, .int 0, .int 0, .int 0, .int 0, .ref 711, .ref 712, .ref 713, .ref 716, .null, .int 0, .null, .null])))) hC hPg (by omega) rfl rfl (kMem 89 rfl rfl) rfl rfl (fun C Tt M h => by cases h; exact ⟨rfl, rfl, _, rfl, fun _ => ⟨rfl, rfl⟩⟩) va_us rfl ?_
  refine kU_al (b := 0) hC (by omega) rfl rfl rfl ?_
  refine kU_int (v := 2) hC (by omega) rfl rfl (fun _ _ => rfl) ?_
  refine kU_int (v := 4) hC (by omega) rfl rfl (fun _ _ => rfl) ?_
  refine kU_mna (t := 5) (ti := 2) (N' := 2) (K' := 4) (ty := .boolean) (z := (4, .inl fun _ => 0)) (g := kL.2.1 717) hm hC hPg (by decide) rfl lh_8_8 kn_b (fun U h => h.2.2.1) (fun _ _ => rfl) (fun _ _ => rfl) (fun _ _ h => h) (fun _ _ h => h) (by decide) (by decide) (by decide) (by decide) (by decide) (by decide) (by decide) rfl rfl (fun _ => rfl) (fun _ => rfl) rfl (krr (a := 717) (fun i => rfl) (by decide) (by decide)) (fun i hi => (kov (a := kO (806 + 1 + i)) (fun z => by rw [kO_r (by omega) (by omega)] at z; omega) (fun z => by rw [kO_r (by omega) (by omega)] at z; omega)).trans (kro (sc := kSc kz_S sc2) (rf := x_mk kz_mr kz_rf) (car := ar2) (al := kz_al) ksh_717 (by decide) (by decide) (by decide) i hi)) (kRu_le hRu (by omega) (by omega)) rfl ?_
  refine kU_pf9 (a := 0) (kk := 56) (f2 := (va_up (va_up (va_up (j_lay kL (kSc kz_S sc2) (x_mk kz_mr kz_rf) (kAr kz_r0 ar2) kz_al) 10 (.inl (0, (2, .inl (fM1 2))))) 11 (.inl (0, (2, .inl (fM1 2))))) 0 (.inr (11, [.int 0, .int 0, .int (-1), .int 0, .int 0, .int 0, .int 0, .int 0, .int 0, .ref 1, .ref 2, .ref 5, .ref 8, .ref 9, .ref 10, .ref 11, .int 0, .int 0, .int 0, .int 0, .ref 12, .ref 13, .int 0, .int 0, .int 0, .int 0, .int 0, .int 0, .int 0, .int (-1), .ref 14, .int 0, .ref 15, .ref 16, .ref 17, .ref 18, .ref 19, .ref 61, .int 0, .ref 102, .ref 103, .ref 104, .ref 105, .ref 106, .ref 107, .ref 708, .ref 709, .ref 710, .int 0, .int 0, .int 0, .int 0, .ref 711, .ref 712, .ref 713, .ref 716, .ref 717, .int 0, .null, .null])))) hC hPg (by omega) rfl rfl (kMem 89 rfl rfl) rfl rfl (fun C Tt M h => by cases h; exact ⟨rfl, rfl, _, rfl, fun _ => ⟨rfl, rfl⟩⟩) va_us rfl ?_
  refine kU_al (b := 0) hC (by omega) rfl rfl rfl ?_
  refine kU_int (v := 8) hC (by omega) rfl rfl (fun _ _ => rfl) ?_
  refine kU_int (v := 89) hC (by omega) rfl rfl (fun _ _ => rfl) ?_
  refine kU_mna (t := 4) (ti := 0) (N' := 8) (K' := 89) (ty := .int) (z := (89, .inl fun _ => 0)) (g := kL.2.1 720) hm hC hPg (by decide) rfl lh_8_6 kn_i (fun U h => h.2.1) (fun _ _ => rfl) (fun _ _ => rfl) (fun _ _ h => h) (fun _ _ h => h) (by decide) (by decide) (by decide) (by decide) (by decide) (by decide) (by decide) rfl rfl (fun _ => rfl) (fun _ => rfl) rfl (krr (a := 720) (fun i => rfl) (by decide) (by decide)) (fun i hi => (kov (a := kO (809 + 1 + i)) (fun z => by rw [kO_r (by omega) (by omega)] at z; omega) (fun z => by rw [kO_r (by omega) (by omega)] at z; omega)).trans (kro (sc := kSc kz_S sc2) (rf := x_mk kz_mr kz_rf) (car := ar2) (al := kz_al) ksh_720 (by decide) (by decide) (by decide) i hi)) (kRu_le hRu (by omega) (by omega)) rfl ?_
  refine kU_pf9 (a := 0) (kk := 58) (f2 := (va_up (va_up (va_up (j_lay kL (kSc kz_S sc2) (x_mk kz_mr kz_rf) (kAr kz_r0 ar2) kz_al) 10 (.inl (0, (2, .inl (fM1 2))))) 11 (.inl (0, (2, .inl (fM1 2))))) 0 (.inr (11, [.int 0, .int 0, .int (-1), .int 0, .int 0, .int 0, .int 0, .int 0, .int 0, .ref 1, .ref 2, .ref 5, .ref 8, .ref 9, .ref 10, .ref 11, .int 0, .int 0, .int 0, .int 0, .ref 12, .ref 13, .int 0, .int 0, .int 0, .int 0, .int 0, .int 0, .int 0, .int (-1), .ref 14, .int 0, .ref 15, .ref 16, .ref 17, .ref 18, .ref 19, .ref 61, .int 0, .ref 102, .ref 103, .ref 104, .ref 105, .ref 106, .ref 107, .ref 708, .ref 709, .ref 710, .int 0, .int 0, .int 0, .int 0, .ref 711, .ref 712, .ref 713, .ref 716, .ref 717, .int 0, .ref 720, .null])))) hC hPg (by omega) rfl rfl (kMem 89 rfl rfl) rfl rfl (fun C Tt M h => by cases h; exact ⟨rfl, rfl, _, rfl, fun _ => ⟨rfl, rfl⟩⟩) va_us rfl ?_
  refine kU_al (b := 0) hC (by omega) rfl rfl rfl ?_
  refine kU_int (v := 4) hC (by omega) rfl rfl (fun _ _ => rfl) ?_
  refine kU_int (v := 38) hC (by omega) rfl rfl (fun _ _ => rfl) ?_
  refine kU_mna (t := 4) (ti := 0) (N' := 4) (K' := 38) (ty := .int) (z := (38, .inl fun _ => 0)) (g := kL.2.1 729) hm hC hPg (by decide) rfl lh_8_6 kn_i (fun U h => h.2.1) (fun _ _ => rfl) (fun _ _ => rfl) (fun _ _ h => h) (fun _ _ h => h) (by decide) (by decide) (by decide) (by decide) (by decide) (by decide) (by decide) rfl rfl (fun _ => rfl) (fun _ => rfl) rfl (krr (a := 729) (fun i => rfl) (by decide) (by decide)) (fun i hi => (kov (a := kO (818 + 1 + i)) (fun z => by rw [kO_r (by omega) (by omega)] at z; omega) (fun z => by rw [kO_r (by omega) (by omega)] at z; omega)).trans (kro (sc := kSc kz_S sc2) (rf := x_mk kz_mr kz_rf) (car := ar2) (al := kz_al) ksh_729 (by decide) (by decide) (by decide) i hi)) (kRu_le hRu (by omega) (by omega)) rfl ?_
  refine kU_pf9 (a := 0) (kk := 59) (f2 := (va_up (va_up (va_up (j_lay kL (kSc kz_S sc2) (x_mk kz_mr kz_rf) (kAr kz_r0 ar2) kz_al) 10 (.inl (0, (2, .inl (fM1 2))))) 11 (.inl (0, (2, .inl (fM1 2))))) 0 (.inr (11, [.int 0, .int 0, .int (-1), .int 0, .int 0, .int 0, .int 0, .int 0, .int 0, .ref 1, .ref 2, .ref 5, .ref 8, .ref 9, .ref 10, .ref 11, .int 0, .int 0, .int 0, .int 0, .ref 12, .ref 13, .int 0, .int 0, .int 0, .int 0, .int 0, .int 0, .int 0, .int (-1), .ref 14, .int 0, .ref 15, .ref 16, .ref 17, .ref 18, .ref 19, .ref 61, .int 0, .ref 102, .ref 103, .ref 104, .ref 105, .ref 106, .ref 107, .ref 708, .ref 709, .ref 710, .int 0, .int 0, .int 0, .int 0, .ref 711, .ref 712, .ref 713, .ref 716, .ref 717, .int 0, .ref 720, .ref 729])))) hC hPg (by omega) rfl rfl (kMem 89 rfl rfl) rfl rfl (fun C Tt M h => by cases h; exact ⟨rfl, rfl, _, rfl, fun _ => ⟨rfl, rfl⟩⟩) va_us rfl ?_
  refine kU_int (v := 0) hC (by omega) rfl rfl (fun _ _ => rfl) ?_
  refine kU_is (vs := [some (.ref 0), none, none]) (vs2 := [some (.ref 0), some (.int 0), none]) hC (by omega) rfl rfl rfl rfl rfl ?_
  refine kU_il (b := 0) hC (by omega) rfl rfl rfl ?_
  refine kU_int (v := 2) hC (by omega) rfl rfl (fun _ _ => rfl) ?_
  refine kU_ge (t := 353) (pc2 := 324) hC (by omega) rfl rfl (by decide) ?_
  refine kU_int (v := 0) hC (by omega) rfl rfl (fun _ _ => rfl) ?_
  refine kU_is (vs := [some (.ref 0), some (.int 0), none]) (vs2 := [some (.ref 0), some (.int 0), some (.int 0)]) hC (by omega) rfl rfl rfl rfl rfl ?_
  refine kU_il (b := 0) hC (by omega) rfl rfl rfl ?_
  refine kU_int (v := 17) hC (by omega) rfl rfl (fun _ _ => rfl) ?_
  refine kU_ge (t := 347) (pc2 := 332) hC (by omega) rfl rfl (by decide) ?_
  refine kU_al (b := 0) hC (by omega) rfl rfl rfl ?_
  refine kU_gf (a := 0) (ci := 11) (kk := 11) (t := 9) (v := .ref 5) hC (by omega) rfl rfl (kMem 89 rfl rfl) rfl rfl rfl ?_
  refine kU_il (b := 0) hC (by omega) rfl rfl rfl ?_
  refine kU_aa (a := 5) (t := 4) (M := 2) (b := 6) (g := kL.2.1 5) hC (by omega) rfl (kMem 94 rfl rfl) (kMem 89 rfl rfl) rfl (by decide) (by decide) rfl rfl ?_
  refine kU_il (b := 0) hC (by omega) rfl rfl rfl ?_
  refine kU_int (v := (-1)) hC (by omega) rfl rfl (fun _ _ => rfl) ?_
  refine kU_ia (a := 6) (M := 17) (g := fun _ => 0) (f2 := va_up (va_up (va_up (va_up (j_lay kL (kSc kz_S sc2) (x_mk kz_mr kz_rf) (kAr kz_r0 ar2) kz_al) 10 (.inl (0, (2, .inl (fM1 2))))) 11 (.inl (0, (2, .inl (fM1 2))))) 6 (.inl (0, (17, .inl (fM1 1))))) 0 (.inr (11, [.int 0, .int 0, .int (-1), .int 0, .int 0, .int 0, .int 0, .int 0, .int 0, .ref 1, .ref 2, .ref 5, .ref 8, .ref 9, .ref 10, .ref 11, .int 0, .int 0, .int 0, .int 0, .ref 12, .ref 13, .int 0, .int 0, .int 0, .int 0, .int 0, .int 0, .int 0, .int (-1), .ref 14, .int 0, .ref 15, .ref 16, .ref 17, .ref 18, .ref 19, .ref 61, .int 0, .ref 102, .ref 103, .ref 104, .ref 105, .ref 106, .ref 107, .ref 708, .ref 709, .ref 710, .int 0, .int 0, .int 0, .int 0, .ref 711, .ref 712, .ref 713, .ref 716, .ref 717, .int 0, .ref 720, .ref 729]))) hC (by omega) rfl (kMem 95 rfl rfl) rfl (by decide) ((va_uc (by decide)).trans (by rw [show va_up (fun _ => (0 : Int32)) (iN 0) (-1) = fM1 1 from fM1_1])) rfl ?_
  refine kU_ii (vs := [some (.ref 0), some (.int 0), some (.int 0)]) (c := 1) (vs2 := [some (.ref 0), some (.int 0), some (.int 1)]) hC (by omega) rfl rfl rfl rfl rfl rfl rfl ?_
  refine kU_go (pc2 := 326) hC (by omega) rfl rfl ?_
  refine kU_il (b := 1) hC (by omega) rfl rfl rfl ?_
  refine kU_int (v := 17) hC (by omega) rfl rfl (fun _ _ => rfl) ?_
  refine kU_ge (t := 347) (pc2 := 332) hC (by omega) rfl rfl (by decide) ?_
  refine kU_al (b := 0) hC (by omega) rfl rfl rfl ?_
  refine kU_gf (a := 0) (ci := 11) (kk := 11) (t := 9) (v := .ref 5) hC (by omega) rfl rfl (kMem 89 rfl rfl) rfl rfl rfl ?_
  refine kU_il (b := 0) hC (by omega) rfl rfl rfl ?_
  refine kU_aa (a := 5) (t := 4) (M := 2) (b := 6) (g := kL.2.1 5) hC (by omega) rfl (kMem 94 rfl rfl) (kMem 89 rfl rfl) rfl (by decide) (by decide) rfl rfl ?_
  refine kU_il (b := 1) hC (by omega) rfl rfl rfl ?_
  refine kU_int (v := (-1)) hC (by omega) rfl rfl (fun _ _ => rfl) ?_
  refine kU_ia (a := 6) (M := 17) (g := fM1 1) (f2 := (va_up (va_up (va_up (va_up (j_lay kL (kSc kz_S sc2) (x_mk kz_mr kz_rf) (kAr kz_r0 ar2) kz_al) 10 (.inl (0, (2, .inl (fM1 2))))) 11 (.inl (0, (2, .inl (fM1 2))))) 6 (.inl (0, (17, .inl (fM1 2))))) 0 (.inr (11, [.int 0, .int 0, .int (-1), .int 0, .int 0, .int 0, .int 0, .int 0, .int 0, .ref 1, .ref 2, .ref 5, .ref 8, .ref 9, .ref 10, .ref 11, .int 0, .int 0, .int 0, .int 0, .ref 12, .ref 13, .int 0, .int 0, .int 0, .int 0, .int 0, .int 0, .int 0, .int (-1), .ref 14, .int 0, .ref 15, .ref 16, .ref 17, .ref 18, .ref 19, .ref 61, .int 0, .ref 102, .ref 103, .ref 104, .ref 105, .ref 106, .ref 107, .ref 708, .ref 709, .ref 710, .int 0, .int 0, .int 0, .int 0, .ref 711, .ref 712, .ref 713, .ref 716, .ref 717, .int 0, .ref 720, .ref 729])))) hC (by omega) rfl (kMem 95 rfl rfl) rfl (by decide) ((va_u3 (by decide)).trans (by rw [show va_up (fM1 1) (iN 1) (-1) = fM1 2 from fM1_u])) rfl ?_
  refine kU_ii (vs := [some (.ref 0), some (.int 0), some (.int 1)]) (c := 2) (vs2 := [some (.ref 0), some (.int 0), some (.int 2)]) hC (by omega) rfl rfl rfl rfl rfl rfl rfl ?_
  refine kU_go (pc2 := 326) hC (by omega) rfl rfl ?_
  refine kU_il (b := 2) hC (by omega) rfl rfl rfl ?_
  refine kU_int (v := 17) hC (by omega) rfl rfl (fun _ _ => rfl) ?_
  refine kU_ge (t := 347) (pc2 := 332) hC (by omega) rfl rfl (by decide) ?_
  refine kU_al (b := 0) hC (by omega) rfl rfl rfl ?_
  refine kU_gf (a := 0) (ci := 11) (kk := 11) (t := 9) (v := .ref 5) hC (by omega) rfl rfl (kMem 89 rfl rfl) rfl rfl rfl ?_
  refine kU_il (b := 0) hC (by omega) rfl rfl rfl ?_
  refine kU_aa (a := 5) (t := 4) (M := 2) (b := 6) (g := kL.2.1 5) hC (by omega) rfl (kMem 94 rfl rfl) (kMem 89 rfl rfl) rfl (by decide) (by decide) rfl rfl ?_
  refine kU_il (b := 2) hC (by omega) rfl rfl rfl ?_
  refine kU_int (v := (-1)) hC (by omega) rfl rfl (fun _ _ => rfl) ?_
  refine kU_ia (a := 6) (M := 17) (g := fM1 2) (f2 := (va_up (va_up (va_up (va_up (j_lay kL (kSc kz_S sc2) (x_mk kz_mr kz_rf) (kAr kz_r0 ar2) kz_al) 10 (.inl (0, (2, .inl (fM1 2))))) 11 (.inl (0, (2, .inl (fM1 2))))) 6 (.inl (0, (17, .inl (fM1 3))))) 0 (.inr (11, [.int 0, .int 0, .int (-1), .int 0, .int 0, .int 0, .int 0, .int 0, .int 0, .ref 1, .ref 2, .ref 5, .ref 8, .ref 9, .ref 10, .ref 11, .int 0, .int 0, .int 0, .int 0, .ref 12, .ref 13, .int 0, .int 0, .int 0, .int 0, .int 0, .int 0, .int 0, .int (-1), .ref 14, .int 0, .ref 15, .ref 16, .ref 17, .ref 18, .ref 19, .ref 61, .int 0, .ref 102, .ref 103, .ref 104, .ref 105, .ref 106, .ref 107, .ref 708, .ref 709, .ref 710, .int 0, .int 0, .int 0, .int 0, .ref 711, .ref 712, .ref 713, .ref 716, .ref 717, .int 0, .ref 720, .ref 729])))) hC (by omega) rfl (kMem 95 rfl rfl) rfl (by decide) ((va_u3 (by decide)).trans (by rw [show va_up (fM1 2) (iN 2) (-1) = fM1 3 from fM1_u])) rfl ?_
  refine kU_ii (vs := [some (.ref 0), some (.int 0), some (.int 2)]) (c := 3) (vs2 := [some (.ref 0), some (.int 0), some (.int 3)]) hC (by omega) rfl rfl rfl rfl rfl rfl rfl ?_
  refine kU_go (pc2 := 326) hC (by omega) rfl rfl ?_
  refine kU_il (b := 3) hC (by omega) rfl rfl rfl ?_
  refine kU_int (v := 17) hC (by omega) rfl rfl (fun _ _ => rfl) ?_
  refine kU_ge (t := 347) (pc2 := 332) hC (by omega) rfl rfl (by decide) ?_
  refine kU_al (b := 0) hC (by omega) rfl rfl rfl ?_
  refine kU_gf (a := 0) (ci := 11) (kk := 11) (t := 9) (v := .ref 5) hC (by omega) rfl rfl (kMem 89 rfl rfl) rfl rfl rfl ?_
  refine kU_il (b := 0) hC (by omega) rfl rfl rfl ?_
  refine kU_aa (a := 5) (t := 4) (M := 2) (b := 6) (g := kL.2.1 5) hC (by omega) rfl (kMem 94 rfl rfl) (kMem 89 rfl rfl) rfl (by decide) (by decide) rfl rfl ?_
  refine kU_il (b := 3) hC (by omega) rfl rfl rfl ?_
  refine kU_int (v := (-1)) hC (by omega) rfl rfl (fun _ _ => rfl) ?_
  refine kU_ia (a := 6) (M := 17) (g := fM1 3) (f2 := (va_up (va_up (va_up (va_up (j_lay kL (kSc kz_S sc2) (x_mk kz_mr kz_rf) (kAr kz_r0 ar2) kz_al) 10 (.inl (0, (2, .inl (fM1 2))))) 11 (.inl (0, (2, .inl (fM1 2))))) 6 (.inl (0, (17, .inl (fM1 4))))) 0 (.inr (11, [.int 0, .int 0, .int (-1), .int 0, .int 0, .int 0, .int 0, .int 0, .int 0, .ref 1, .ref 2, .ref 5, .ref 8, .ref 9, .ref 10, .ref 11, .int 0, .int 0, .int 0, .int 0, .ref 12, .ref 13, .int 0, .int 0, .int 0, .int 0, .int 0, .int 0, .int 0, .int (-1), .ref 14, .int 0, .ref 15, .ref 16, .ref 17, .ref 18, .ref 19, .ref 61, .int 0, .ref 102, .ref 103, .ref 104, .ref 105, .ref 106, .ref 107, .ref 708, .ref 709, .ref 710, .int 0, .int 0, .int 0, .int 0, .ref 711, .ref 712, .ref 713, .ref 716, .ref 717, .int 0, .ref 720, .ref 729])))) hC (by omega) rfl (kMem 95 rfl rfl) rfl (by decide) ((va_u3 (by decide)).trans (by rw [show va_up (fM1 3) (iN 3) (-1) = fM1 4 from fM1_u])) rfl ?_
  refine kU_ii (vs := [some (.ref 0), some (.int 0), some (.int 3)]) (c := 4) (vs2 := [some (.ref 0), some (.int 0), some (.int 4)]) hC (by omega) rfl rfl rfl rfl rfl rfl rfl ?_
  refine kU_go (pc2 := 326) hC (by omega) rfl rfl ?_
  refine kU_il (b := 4) hC (by omega) rfl rfl rfl ?_
  refine kU_int (v := 17) hC (by omega) rfl rfl (fun _ _ => rfl) ?_
  refine kU_ge (t := 347) (pc2 := 332) hC (by omega) rfl rfl (by decide) ?_
  refine kU_al (b := 0) hC (by omega) rfl rfl rfl ?_
  refine kU_gf (a := 0) (ci := 11) (kk := 11) (t := 9) (v := .ref 5) hC (by omega) rfl rfl (kMem 89 rfl rfl) rfl rfl rfl ?_
  refine kU_il (b := 0) hC (by omega) rfl rfl rfl ?_
  refine kU_aa (a := 5) (t := 4) (M := 2) (b := 6) (g := kL.2.1 5) hC (by omega) rfl (kMem 94 rfl rfl) (kMem 89 rfl rfl) rfl (by decide) (by decide) rfl rfl ?_
  refine kU_il (b := 4) hC (by omega) rfl rfl rfl ?_
  refine kU_int (v := (-1)) hC (by omega) rfl rfl (fun _ _ => rfl) ?_
  refine kU_ia (a := 6) (M := 17) (g := fM1 4) (f2 := (va_up (va_up (va_up (va_up (j_lay kL (kSc kz_S sc2) (x_mk kz_mr kz_rf) (kAr kz_r0 ar2) kz_al) 10 (.inl (0, (2, .inl (fM1 2))))) 11 (.inl (0, (2, .inl (fM1 2))))) 6 (.inl (0, (17, .inl (fM1 5))))) 0 (.inr (11, [.int 0, .int 0, .int (-1), .int 0, .int 0, .int 0, .int 0, .int 0, .int 0, .ref 1, .ref 2, .ref 5, .ref 8, .ref 9, .ref 10, .ref 11, .int 0, .int 0, .int 0, .int 0, .ref 12, .ref 13, .int 0, .int 0, .int 0, .int 0, .int 0, .int 0, .int 0, .int (-1), .ref 14, .int 0, .ref 15, .ref 16, .ref 17, .ref 18, .ref 19, .ref 61, .int 0, .ref 102, .ref 103, .ref 104, .ref 105, .ref 106, .ref 107, .ref 708, .ref 709, .ref 710, .int 0, .int 0, .int 0, .int 0, .ref 711, .ref 712, .ref 713, .ref 716, .ref 717, .int 0, .ref 720, .ref 729])))) hC (by omega) rfl (kMem 95 rfl rfl) rfl (by decide) ((va_u3 (by decide)).trans (by rw [show va_up (fM1 4) (iN 4) (-1) = fM1 5 from fM1_u])) rfl ?_
  refine kU_ii (vs := [some (.ref 0), some (.int 0), some (.int 4)]) (c := 5) (vs2 := [some (.ref 0), some (.int 0), some (.int 5)]) hC (by omega) rfl rfl rfl rfl rfl rfl rfl ?_
  refine kU_go (pc2 := 326) hC (by omega) rfl rfl ?_
  refine kU_il (b := 5) hC (by omega) rfl rfl rfl ?_
  refine kU_int (v := 17) hC (by omega) rfl rfl (fun _ _ => rfl) ?_
  refine kU_ge (t := 347) (pc2 := 332) hC (by omega) rfl rfl (by decide) ?_
  refine kU_al (b := 0) hC (by omega) rfl rfl rfl ?_
  refine kU_gf (a := 0) (ci := 11) (kk := 11) (t := 9) (v := .ref 5) hC (by omega) rfl rfl (kMem 89 rfl rfl) rfl rfl rfl ?_
  refine kU_il (b := 0) hC (by omega) rfl rfl rfl ?_
  refine kU_aa (a := 5) (t := 4) (M := 2) (b := 6) (g := kL.2.1 5) hC (by omega) rfl (kMem 94 rfl rfl) (kMem 89 rfl rfl) rfl (by decide) (by decide) rfl rfl ?_
  refine kU_il (b := 5) hC (by omega) rfl rfl rfl ?_
  refine kU_int (v := (-1)) hC (by omega) rfl rfl (fun _ _ => rfl) ?_
  refine kU_ia (a := 6) (M := 17) (g := fM1 5) (f2 := (va_up (va_up (va_up (va_up (j_lay kL (kSc kz_S sc2) (x_mk kz_mr kz_rf) (kAr kz_r0 ar2) kz_al) 10 (.inl (0, (2, .inl (fM1 2))))) 11 (.inl (0, (2, .inl (fM1 2))))) 6 (.inl (0, (17, .inl (fM1 6))))) 0 (.inr (11, [.int 0, .int 0, .int (-1), .int 0, .int 0, .int 0, .int 0, .int 0, .int 0, .ref 1, .ref 2, .ref 5, .ref 8, .ref 9, .ref 10, .ref 11, .int 0, .int 0, .int 0, .int 0, .ref 12, .ref 13, .int 0, .int 0, .int 0, .int 0, .int 0, .int 0, .int 0, .int (-1), .ref 14, .int 0, .ref 15, .ref 16, .ref 17, .ref 18, .ref 19, .ref 61, .int 0, .ref 102, .ref 103, .ref 104, .ref 105, .ref 106, .ref 107, .ref 708, .ref 709, .ref 710, .int 0, .int 0, .int 0, .int 0, .ref 711, .ref 712, .ref 713, .ref 716, .ref 717, .int 0, .ref 720, .ref 729])))) hC (by omega) rfl (kMem 95 rfl rfl) rfl (by decide) ((va_u3 (by decide)).trans (by rw [show va_up (fM1 5) (iN 5) (-1) = fM1 6 from fM1_u])) rfl ?_
  refine kU_ii (vs := [some (.ref 0), some (.int 0), some (.int 5)]) (c := 6) (vs2 := [some (.ref 0), some (.int 0), some (.int 6)]) hC (by omega) rfl rfl rfl rfl rfl rfl rfl ?_
  refine kU_go (pc2 := 326) hC (by omega) rfl rfl ?_
  refine kU_il (b := 6) hC (by omega) rfl rfl rfl ?_
  refine kU_int (v := 17) hC (by omega) rfl rfl (fun _ _ => rfl) ?_
  refine kU_ge (t := 347) (pc2 := 332) hC (by omega) rfl rfl (by decide) ?_
  refine kU_al (b := 0) hC (by omega) rfl rfl rfl ?_
  refine kU_gf (a := 0) (ci := 11) (kk := 11) (t := 9) (v := .ref 5) hC (by omega) rfl rfl (kMem 89 rfl rfl) rfl rfl rfl ?_
  refine kU_il (b := 0) hC (by omega) rfl rfl rfl ?_
  refine kU_aa (a := 5) (t := 4) (M := 2) (b := 6) (g := kL.2.1 5) hC (by omega) rfl (kMem 94 rfl rfl) (kMem 89 rfl rfl) rfl (by decide) (by decide) rfl rfl ?_
  refine kU_il (b := 6) hC (by omega) rfl rfl rfl ?_
  refine kU_int (v := (-1)) hC (by omega) rfl rfl (fun _ _ => rfl) ?_
  refine kU_ia (a := 6) (M := 17) (g := fM1 6) (f2 := (va_up (va_up (va_up (va_up (j_lay kL (kSc kz_S sc2) (x_mk kz_mr kz_rf) (kAr kz_r0 ar2) kz_al) 10 (.inl (0, (2, .inl (fM1 2))))) 11 (.inl (0, (2, .inl (fM1 2))))) 6 (.inl (0, (17, .inl (fM1 7))))) 0 (.inr (11, [.int 0, .int 0, .int (-1), .int 0, .int 0, .int 0, .int 0, .int 0, .int 0, .ref 1, .ref 2, .ref 5, .ref 8, .ref 9, .ref 10, .ref 11, .int 0, .int 0, .int 0, .int 0, .ref 12, .ref 13, .int 0, .int 0, .int 0, .int 0, .int 0, .int 0, .int 0, .int (-1), .ref 14, .int 0, .ref 15, .ref 16, .ref 17, .ref 18, .ref 19, .ref 61, .int 0, .ref 102, .ref 103, .ref 104, .ref 105, .ref 106, .ref 107, .ref 708, .ref 709, .ref 710, .int 0, .int 0, .int 0, .int 0, .ref 711, .ref 712, .ref 713, .ref 716, .ref 717, .int 0, .ref 720, .ref 729])))) hC (by omega) rfl (kMem 95 rfl rfl) rfl (by decide) ((va_u3 (by decide)).trans (by rw [show va_up (fM1 6) (iN 6) (-1) = fM1 7 from fM1_u])) rfl ?_
  refine kU_ii (vs := [some (.ref 0), some (.int 0), some (.int 6)]) (c := 7) (vs2 := [some (.ref 0), some (.int 0), some (.int 7)]) hC (by omega) rfl rfl rfl rfl rfl rfl rfl ?_
  refine kU_go (pc2 := 326) hC (by omega) rfl rfl ?_
  refine kU_il (b := 7) hC (by omega) rfl rfl rfl ?_
  refine kU_int (v := 17) hC (by omega) rfl rfl (fun _ _ => rfl) ?_
  refine kU_ge (t := 347) (pc2 := 332) hC (by omega) rfl rfl (by decide) ?_
  refine kU_al (b := 0) hC (by omega) rfl rfl rfl ?_
  refine kU_gf (a := 0) (ci := 11) (kk := 11) (t := 9) (v := .ref 5) hC (by omega) rfl rfl (kMem 89 rfl rfl) rfl rfl rfl ?_
  refine kU_il (b := 0) hC (by omega) rfl rfl rfl ?_
  refine kU_aa (a := 5) (t := 4) (M := 2) (b := 6) (g := kL.2.1 5) hC (by omega) rfl (kMem 94 rfl rfl) (kMem 89 rfl rfl) rfl (by decide) (by decide) rfl rfl ?_
  refine kU_il (b := 7) hC (by omega) rfl rfl rfl ?_
  refine kU_int (v := (-1)) hC (by omega) rfl rfl (fun _ _ => rfl) ?_
  refine kU_ia (a := 6) (M := 17) (g := fM1 7) (f2 := (va_up (va_up (va_up (va_up (j_lay kL (kSc kz_S sc2) (x_mk kz_mr kz_rf) (kAr kz_r0 ar2) kz_al) 10 (.inl (0, (2, .inl (fM1 2))))) 11 (.inl (0, (2, .inl (fM1 2))))) 6 (.inl (0, (17, .inl (fM1 8))))) 0 (.inr (11, [.int 0, .int 0, .int (-1), .int 0, .int 0, .int 0, .int 0, .int 0, .int 0, .ref 1, .ref 2, .ref 5, .ref 8, .ref 9, .ref 10, .ref 11, .int 0, .int 0, .int 0, .int 0, .ref 12, .ref 13, .int 0, .int 0, .int 0, .int 0, .int 0, .int 0, .int 0, .int (-1), .ref 14, .int 0, .ref 15, .ref 16, .ref 17, .ref 18, .ref 19, .ref 61, .int 0, .ref 102, .ref 103, .ref 104, .ref 105, .ref 106, .ref 107, .ref 708, .ref 709, .ref 710, .int 0, .int 0, .int 0, .int 0, .ref 711, .ref 712, .ref 713, .ref 716, .ref 717, .int 0, .ref 720, .ref 729])))) hC (by omega) rfl (kMem 95 rfl rfl) rfl (by decide) ((va_u3 (by decide)).trans (by rw [show va_up (fM1 7) (iN 7) (-1) = fM1 8 from fM1_u])) rfl ?_
  refine kU_ii (vs := [some (.ref 0), some (.int 0), some (.int 7)]) (c := 8) (vs2 := [some (.ref 0), some (.int 0), some (.int 8)]) hC (by omega) rfl rfl rfl rfl rfl rfl rfl ?_
  refine kU_go (pc2 := 326) hC (by omega) rfl rfl ?_
  refine kU_il (b := 8) hC (by omega) rfl rfl rfl ?_
  refine kU_int (v := 17) hC (by omega) rfl rfl (fun _ _ => rfl) ?_
  refine kU_ge (t := 347) (pc2 := 332) hC (by omega) rfl rfl (by decide) ?_
  refine kU_al (b := 0) hC (by omega) rfl rfl rfl ?_
  refine kU_gf (a := 0) (ci := 11) (kk := 11) (t := 9) (v := .ref 5) hC (by omega) rfl rfl (kMem 89 rfl rfl) rfl rfl rfl ?_
  refine kU_il (b := 0) hC (by omega) rfl rfl rfl ?_
  refine kU_aa (a := 5) (t := 4) (M := 2) (b := 6) (g := kL.2.1 5) hC (by omega) rfl (kMem 94 rfl rfl) (kMem 89 rfl rfl) rfl (by decide) (by decide) rfl rfl ?_
  refine kU_il (b := 8) hC (by omega) rfl rfl rfl ?_
  refine kU_int (v := (-1)) hC (by omega) rfl rfl (fun _ _ => rfl) ?_
  refine kU_ia (a := 6) (M := 17) (g := fM1 8) (f2 := (va_up (va_up (va_up (va_up (j_lay kL (kSc kz_S sc2) (x_mk kz_mr kz_rf) (kAr kz_r0 ar2) kz_al) 10 (.inl (0, (2, .inl (fM1 2))))) 11 (.inl (0, (2, .inl (fM1 2))))) 6 (.inl (0, (17, .inl (fM1 9))))) 0 (.inr (11, [.int 0, .int 0, .int (-1), .int 0, .int 0, .int 0, .int 0, .int 0, .int 0, .ref 1, .ref 2, .ref 5, .ref 8, .ref 9, .ref 10, .ref 11, .int 0, .int 0, .int 0, .int 0, .ref 12, .ref 13, .int 0, .int 0, .int 0, .int 0, .int 0, .int 0, .int 0, .int (-1), .ref 14, .int 0, .ref 15, .ref 16, .ref 17, .ref 18, .ref 19, .ref 61, .int 0, .ref 102, .ref 103, .ref 104, .ref 105, .ref 106, .ref 107, .ref 708, .ref 709, .ref 710, .int 0, .int 0, .int 0, .int 0, .ref 711, .ref 712, .ref 713, .ref 716, .ref 717, .int 0, .ref 720, .ref 729])))) hC (by omega) rfl (kMem 95 rfl rfl) rfl (by decide) ((va_u3 (by decide)).trans (by rw [show va_up (fM1 8) (iN 8) (-1) = fM1 9 from fM1_u])) rfl ?_
  refine kU_ii (vs := [some (.ref 0), some (.int 0), some (.int 8)]) (c := 9) (vs2 := [some (.ref 0), some (.int 0), some (.int 9)]) hC (by omega) rfl rfl rfl rfl rfl rfl rfl ?_
  refine kU_go (pc2 := 326) hC (by omega) rfl rfl ?_
  refine kU_il (b := 9) hC (by omega) rfl rfl rfl ?_
  refine kU_int (v := 17) hC (by omega) rfl rfl (fun _ _ => rfl) ?_
  refine kU_ge (t := 347) (pc2 := 332) hC (by omega) rfl rfl (by decide) ?_
  refine kU_al (b := 0) hC (by omega) rfl rfl rfl ?_
  refine kU_gf (a := 0) (ci := 11) (kk := 11) (t := 9) (v := .ref 5) hC (by omega) rfl rfl (kMem 89 rfl rfl) rfl rfl rfl ?_
  refine kU_il (b := 0) hC (by omega) rfl rfl rfl ?_
  refine kU_aa (a := 5) (t := 4) (M := 2) (b := 6) (g := kL.2.1 5) hC (by omega) rfl (kMem 94 rfl rfl) (kMem 89 rfl rfl) rfl (by decide) (by decide) rfl rfl ?_
  refine kU_il (b := 9) hC (by omega) rfl rfl rfl ?_
  refine kU_int (v := (-1)) hC (by omega) rfl rfl (fun _ _ => rfl) ?_
  refine kU_ia (a := 6) (M := 17) (g := fM1 9) (f2 := (va_up (va_up (va_up (va_up (j_lay kL (kSc kz_S sc2) (x_mk kz_mr kz_rf) (kAr kz_r0 ar2) kz_al) 10 (.inl (0, (2, .inl (fM1 2))))) 11 (.inl (0, (2, .inl (fM1 2))))) 6 (.inl (0, (17, .inl (fM1 10))))) 0 (.inr (11, [.int 0, .int 0, .int (-1), .int 0, .int 0, .int 0, .int 0, .int 0, .int 0, .ref 1, .ref 2, .ref 5, .ref 8, .ref 9, .ref 10, .ref 11, .int 0, .int 0, .int 0, .int 0, .ref 12, .ref 13, .int 0, .int 0, .int 0, .int 0, .int 0, .int 0, .int 0, .int (-1), .ref 14, .int 0, .ref 15, .ref 16, .ref 17, .ref 18, .ref 19, .ref 61, .int 0, .ref 102, .ref 103, .ref 104, .ref 105, .ref 106, .ref 107, .ref 708, .ref 709, .ref 710, .int 0, .int 0, .int 0, .int 0, .ref 711, .ref 712, .ref 713, .ref 716, .ref 717, .int 0, .ref 720, .ref 729])))) hC (by omega) rfl (kMem 95 rfl rfl) rfl (by decide) ((va_u3 (by decide)).trans (by rw [show va_up (fM1 9) (iN 9) (-1) = fM1 10 from fM1_u])) rfl ?_
  refine kU_ii (vs := [some (.ref 0), some (.int 0), some (.int 9)]) (c := 10) (vs2 := [some (.ref 0), some (.int 0), some (.int 10)]) hC (by omega) rfl rfl rfl rfl rfl rfl rfl ?_
  refine kU_go (pc2 := 326) hC (by omega) rfl rfl ?_
  refine kU_il (b := 10) hC (by omega) rfl rfl rfl ?_
  refine kU_int (v := 17) hC (by omega) rfl rfl (fun _ _ => rfl) ?_
  refine kU_ge (t := 347) (pc2 := 332) hC (by omega) rfl rfl (by decide) ?_
  refine kU_al (b := 0) hC (by omega) rfl rfl rfl ?_
  refine kU_gf (a := 0) (ci := 11) (kk := 11) (t := 9) (v := .ref 5) hC (by omega) rfl rfl (kMem 89 rfl rfl) rfl rfl rfl ?_
  refine kU_il (b := 0) hC (by omega) rfl rfl rfl ?_
  refine kU_aa (a := 5) (t := 4) (M := 2) (b := 6) (g := kL.2.1 5) hC (by omega) rfl (kMem 94 rfl rfl) (kMem 89 rfl rfl) rfl (by decide) (by decide) rfl rfl ?_
  refine kU_il (b := 10) hC (by omega) rfl rfl rfl ?_
  refine kU_int (v := (-1)) hC (by omega) rfl rfl (fun _ _ => rfl) ?_
  refine kU_ia (a := 6) (M := 17) (g := fM1 10) (f2 := (va_up (va_up (va_up (va_up (j_lay kL (kSc kz_S sc2) (x_mk kz_mr kz_rf) (kAr kz_r0 ar2) kz_al) 10 (.inl (0, (2, .inl (fM1 2))))) 11 (.inl (0, (2, .inl (fM1 2))))) 6 (.inl (0, (17, .inl (fM1 11))))) 0 (.inr (11, [.int 0, .int 0, .int (-1), .int 0, .int 0, .int 0, .int 0, .int 0, .int 0, .ref 1, .ref 2, .ref 5, .ref 8, .ref 9, .ref 10, .ref 11, .int 0, .int 0, .int 0, .int 0, .ref 12, .ref 13, .int 0, .int 0, .int 0, .int 0, .int 0, .int 0, .int 0, .int (-1), .ref 14, .int 0, .ref 15, .ref 16, .ref 17, .ref 18, .ref 19, .ref 61, .int 0, .ref 102, .ref 103, .ref 104, .ref 105, .ref 106, .ref 107, .ref 708, .ref 709, .ref 710, .int 0, .int 0, .int 0, .int 0, .ref 711, .ref 712, .ref 713, .ref 716, .ref 717, .int 0, .ref 720, .ref 729])))) hC (by omega) rfl (kMem 95 rfl rfl) rfl (by decide) ((va_u3 (by decide)).trans (by rw [show va_up (fM1 10) (iN 10) (-1) = fM1 11 from fM1_u])) rfl ?_
  refine kU_ii (vs := [some (.ref 0), some (.int 0), some (.int 10)]) (c := 11) (vs2 := [some (.ref 0), some (.int 0), some (.int 11)]) hC (by omega) rfl rfl rfl rfl rfl rfl rfl ?_
  refine kU_go (pc2 := 326) hC (by omega) rfl rfl ?_
  refine kU_il (b := 11) hC (by omega) rfl rfl rfl ?_
  refine kU_int (v := 17) hC (by omega) rfl rfl (fun _ _ => rfl) ?_
  refine kU_ge (t := 347) (pc2 := 332) hC (by omega) rfl rfl (by decide) ?_
  refine kU_al (b := 0) hC (by omega) rfl rfl rfl ?_
  refine kU_gf (a := 0) (ci := 11) (kk := 11) (t := 9) (v := .ref 5) hC (by omega) rfl rfl (kMem 89 rfl rfl) rfl rfl rfl ?_
  refine kU_il (b := 0) hC (by omega) rfl rfl rfl ?_
  refine kU_aa (a := 5) (t := 4) (M := 2) (b := 6) (g := kL.2.1 5) hC (by omega) rfl (kMem 94 rfl rfl) (kMem 89 rfl rfl) rfl (by decide) (by decide) rfl rfl ?_
  refine kU_il (b := 11) hC (by omega) rfl rfl rfl ?_
  refine kU_int (v := (-1)) hC (by omega) rfl rfl (fun _ _ => rfl) ?_
  refine kU_ia (a := 6) (M := 17) (g := fM1 11) (f2 := (va_up (va_up (va_up (va_up (j_lay kL (kSc kz_S sc2) (x_mk kz_mr kz_rf) (kAr kz_r0 ar2) kz_al) 10 (.inl (0, (2, .inl (fM1 2))))) 11 (.inl (0, (2, .inl (fM1 2))))) 6 (.inl (0, (17, .inl (fM1 12))))) 0 (.inr (11, [.int 0, .int 0, .int (-1), .int 0, .int 0, .int 0, .int 0, .int 0, .int 0, .ref 1, .ref 2, .ref 5, .ref 8, .ref 9, .ref 10, .ref 11, .int 0, .int 0, .int 0, .int 0, .ref 12, .ref 13, .int 0, .int 0, .int 0, .int 0, .int 0, .int 0, .int 0, .int (-1), .ref 14, .int 0, .ref 15, .ref 16, .ref 17, .ref 18, .ref 19, .ref 61, .int 0, .ref 102, .ref 103, .ref 104, .ref 105, .ref 106, .ref 107, .ref 708, .ref 709, .ref 710, .int 0, .int 0, .int 0, .int 0, .ref 711, .ref 712, .ref 713, .ref 716, .ref 717, .int 0, .ref 720, .ref 729])))) hC (by omega) rfl (kMem 95 rfl rfl) rfl (by decide) ((va_u3 (by decide)).trans (by rw [show va_up (fM1 11) (iN 11) (-1) = fM1 12 from fM1_u])) rfl ?_
  refine kU_ii (vs := [some (.ref 0), some (.int 0), some (.int 11)]) (c := 12) (vs2 := [some (.ref 0), some (.int 0), some (.int 12)]) hC (by omega) rfl rfl rfl rfl rfl rfl rfl ?_
  refine kU_go (pc2 := 326) hC (by omega) rfl rfl ?_
  refine kU_il (b := 12) hC (by omega) rfl rfl rfl ?_
  refine kU_int (v := 17) hC (by omega) rfl rfl (fun _ _ => rfl) ?_
  refine kU_ge (t := 347) (pc2 := 332) hC (by omega) rfl rfl (by decide) ?_
  refine kU_al (b := 0) hC (by omega) rfl rfl rfl ?_
  refine kU_gf (a := 0) (ci := 11) (kk := 11) (t := 9) (v := .ref 5) hC (by omega) rfl rfl (kMem 89 rfl rfl) rfl rfl rfl ?_
  refine kU_il (b := 0) hC (by omega) rfl rfl rfl ?_
  refine kU_aa (a := 5) (t := 4) (M := 2) (b := 6) (g := kL.2.1 5) hC (by omega) rfl (kMem 94 rfl rfl) (kMem 89 rfl rfl) rfl (by decide) (by decide) rfl rfl ?_
  refine kU_il (b := 12) hC (by omega) rfl rfl rfl ?_
  refine kU_int (v := (-1)) hC (by omega) rfl rfl (fun _ _ => rfl) ?_
  refine kU_ia (a := 6) (M := 17) (g := fM1 12) (f2 := (va_up (va_up (va_up (va_up (j_lay kL (kSc kz_S sc2) (x_mk kz_mr kz_rf) (kAr kz_r0 ar2) kz_al) 10 (.inl (0, (2, .inl (fM1 2))))) 11 (.inl (0, (2, .inl (fM1 2))))) 6 (.inl (0, (17, .inl (fM1 13))))) 0 (.inr (11, [.int 0, .int 0, .int (-1), .int 0, .int 0, .int 0, .int 0, .int 0, .int 0, .ref 1, .ref 2, .ref 5, .ref 8, .ref 9, .ref 10, .ref 11, .int 0, .int 0, .int 0, .int 0, .ref 12, .ref 13, .int 0, .int 0, .int 0, .int 0, .int 0, .int 0, .int 0, .int (-1), .ref 14, .int 0, .ref 15, .ref 16, .ref 17, .ref 18, .ref 19, .ref 61, .int 0, .ref 102, .ref 103, .ref 104, .ref 105, .ref 106, .ref 107, .ref 708, .ref 709, .ref 710, .int 0, .int 0, .int 0, .int 0, .ref 711, .ref 712, .ref 713, .ref 716, .ref 717, .int 0, .ref 720, .ref 729])))) hC (by omega) rfl (kMem 95 rfl rfl) rfl (by decide) ((va_u3 (by decide)).trans (by rw [show va_up (fM1 12) (iN 12) (-1) = fM1 13 from fM1_u])) rfl ?_
  refine kU_ii (vs := [some (.ref 0), some (.int 0), some (.int 12)]) (c := 13) (vs2 := [some (.ref 0), some (.int 0), some (.int 13)]) hC (by omega) rfl rfl rfl rfl rfl rfl rfl ?_
  refine kU_go (pc2 := 326) hC (by omega) rfl rfl ?_
  refine kU_il (b := 13) hC (by omega) rfl rfl rfl ?_
  refine kU_int (v := 17) hC (by omega) rfl rfl (fun _ _ => rfl) ?_
  refine kU_ge (t := 347) (pc2 := 332) hC (by omega) rfl rfl (by decide) ?_
  refine kU_al (b := 0) hC (by omega) rfl rfl rfl ?_
  refine kU_gf (a := 0) (ci := 11) (kk := 11) (t := 9) (v := .ref 5) hC (by omega) rfl rfl (kMem 89 rfl rfl) rfl rfl rfl ?_
  refine kU_il (b := 0) hC (by omega) rfl rfl rfl ?_
  refine kU_aa (a := 5) (t := 4) (M := 2) (b := 6) (g := kL.2.1 5) hC (by omega) rfl (kMem 94 rfl rfl) (kMem 89 rfl rfl) rfl (by decide) (by decide) rfl rfl ?_
  refine kU_il (b := 13) hC (by omega) rfl rfl rfl ?_
  refine kU_int (v := (-1)) hC (by omega) rfl rfl (fun _ _ => rfl) ?_
  refine kU_ia (a := 6) (M := 17) (g := fM1 13) (f2 := (va_up (va_up (va_up (va_up (j_lay kL (kSc kz_S sc2) (x_mk kz_mr kz_rf) (kAr kz_r0 ar2) kz_al) 10 (.inl (0, (2, .inl (fM1 2))))) 11 (.inl (0, (2, .inl (fM1 2))))) 6 (.inl (0, (17, .inl (fM1 14))))) 0 (.inr (11, [.int 0, .int 0, .int (-1), .int 0, .int 0, .int 0, .int 0, .int 0, .int 0, .ref 1, .ref 2, .ref 5, .ref 8, .ref 9, .ref 10, .ref 11, .int 0, .int 0, .int 0, .int 0, .ref 12, .ref 13, .int 0, .int 0, .int 0, .int 0, .int 0, .int 0, .int 0, .int (-1), .ref 14, .int 0, .ref 15, .ref 16, .ref 17, .ref 18, .ref 19, .ref 61, .int 0, .ref 102, .ref 103, .ref 104, .ref 105, .ref 106, .ref 107, .ref 708, .ref 709, .ref 710, .int 0, .int 0, .int 0, .int 0, .ref 711, .ref 712, .ref 713, .ref 716, .ref 717, .int 0, .ref 720, .ref 729])))) hC (by omega) rfl (kMem 95 rfl rfl) rfl (by decide) ((va_u3 (by decide)).trans (by rw [show va_up (fM1 13) (iN 13) (-1) = fM1 14 from fM1_u])) rfl ?_
  refine kU_ii (vs := [some (.ref 0), some (.int 0), some (.int 13)]) (c := 14) (vs2 := [some (.ref 0), some (.int 0), some (.int 14)]) hC (by omega) rfl rfl rfl rfl rfl rfl rfl ?_
  refine kU_go (pc2 := 326) hC (by omega) rfl rfl ?_
  refine kU_il (b := 14) hC (by omega) rfl rfl rfl ?_
  refine kU_int (v := 17) hC (by omega) rfl rfl (fun _ _ => rfl) ?_
  refine kU_ge (t := 347) (pc2 := 332) hC (by omega) rfl rfl (by decide) ?_
  refine kU_al (b := 0) hC (by omega) rfl rfl rfl ?_
  refine kU_gf (a := 0) (ci := 11) (kk := 11) (t := 9) (v := .ref 5) hC (by omega) rfl rfl (kMem 89 rfl rfl) rfl rfl rfl ?_
  refine kU_il (b := 0) hC (by omega) rfl rfl rfl ?_
  refine kU_aa (a := 5) (t := 4) (M := 2) (b := 6) (g := kL.2.1 5) hC (by omega) rfl (kMem 94 rfl rfl) (kMem 89 rfl rfl) rfl (by decide) (by decide) rfl rfl ?_
  refine kU_il (b := 14) hC (by omega) rfl rfl rfl ?_
  refine kU_int (v := (-1)) hC (by omega) rfl rfl (fun _ _ => rfl) ?_
  refine kU_ia (a := 6) (M := 17) (g := fM1 14) (f2 := (va_up (va_up (va_up (va_up (j_lay kL (kSc kz_S sc2) (x_mk kz_mr kz_rf) (kAr kz_r0 ar2) kz_al) 10 (.inl (0, (2, .inl (fM1 2))))) 11 (.inl (0, (2, .inl (fM1 2))))) 6 (.inl (0, (17, .inl (fM1 15))))) 0 (.inr (11, [.int 0, .int 0, .int (-1), .int 0, .int 0, .int 0, .int 0, .int 0, .int 0, .ref 1, .ref 2, .ref 5, .ref 8, .ref 9, .ref 10, .ref 11, .int 0, .int 0, .int 0, .int 0, .ref 12, .ref 13, .int 0, .int 0, .int 0, .int 0, .int 0, .int 0, .int 0, .int (-1), .ref 14, .int 0, .ref 15, .ref 16, .ref 17, .ref 18, .ref 19, .ref 61, .int 0, .ref 102, .ref 103, .ref 104, .ref 105, .ref 106, .ref 107, .ref 708, .ref 709, .ref 710, .int 0, .int 0, .int 0, .int 0, .ref 711, .ref 712, .ref 713, .ref 716, .ref 717, .int 0, .ref 720, .ref 729])))) hC (by omega) rfl (kMem 95 rfl rfl) rfl (by decide) ((va_u3 (by decide)).trans (by rw [show va_up (fM1 14) (iN 14) (-1) = fM1 15 from fM1_u])) rfl ?_
  refine kU_ii (vs := [some (.ref 0), some (.int 0), some (.int 14)]) (c := 15) (vs2 := [some (.ref 0), some (.int 0), some (.int 15)]) hC (by omega) rfl rfl rfl rfl rfl rfl rfl ?_
  refine kU_go (pc2 := 326) hC (by omega) rfl rfl ?_
  refine kU_il (b := 15) hC (by omega) rfl rfl rfl ?_
  refine kU_int (v := 17) hC (by omega) rfl rfl (fun _ _ => rfl) ?_
  refine kU_ge (t := 347) (pc2 := 332) hC (by omega) rfl rfl (by decide) ?_
  refine kU_al (b := 0) hC (by omega) rfl rfl rfl ?_
  refine kU_gf (a := 0) (ci := 11) (kk := 11) (t := 9) (v := .ref 5) hC (by omega) rfl rfl (kMem 89 rfl rfl) rfl rfl rfl ?_
  refine kU_il (b := 0) hC (by omega) rfl rfl rfl ?_
  refine kU_aa (a := 5) (t := 4) (M := 2) (b := 6) (g := kL.2.1 5) hC (by omega) rfl (kMem 94 rfl rfl) (kMem 89 rfl rfl) rfl (by decide) (by decide) rfl rfl ?_
  refine kU_il (b := 15) hC (by omega) rfl rfl rfl ?_
  refine kU_int (v := (-1)) hC (by omega) rfl rfl (fun _ _ => rfl) ?_
  refine kU_ia (a := 6) (M := 17) (g := fM1 15) (f2 := (va_up (va_up (va_up (va_up (j_lay kL (kSc kz_S sc2) (x_mk kz_mr kz_rf) (kAr kz_r0 ar2) kz_al) 10 (.inl (0, (2, .inl (fM1 2))))) 11 (.inl (0, (2, .inl (fM1 2))))) 6 (.inl (0, (17, .inl (fM1 16))))) 0 (.inr (11, [.int 0, .int 0, .int (-1), .int 0, .int 0, .int 0, .int 0, .int 0, .int 0, .ref 1, .ref 2, .ref 5, .ref 8, .ref 9, .ref 10, .ref 11, .int 0, .int 0, .int 0, .int 0, .ref 12, .ref 13, .int 0, .int 0, .int 0, .int 0, .int 0, .int 0, .int 0, .int (-1), .ref 14, .int 0, .ref 15, .ref 16, .ref 17, .ref 18, .ref 19, .ref 61, .int 0, .ref 102, .ref 103, .ref 104, .ref 105, .ref 106, .ref 107, .ref 708, .ref 709, .ref 710, .int 0, .int 0, .int 0, .int 0, .ref 711, .ref 712, .ref 713, .ref 716, .ref 717, .int 0, .ref 720, .ref 729])))) hC (by omega) rfl (kMem 95 rfl rfl) rfl (by decide) ((va_u3 (by decide)).trans (by rw [show va_up (fM1 15) (iN 15) (-1) = fM1 16 from fM1_u])) rfl ?_
  refine kU_ii (vs := [some (.ref 0), some (.int 0), some (.int 15)]) (c := 16) (vs2 := [some (.ref 0), some (.int 0), some (.int 16)]) hC (by omega) rfl rfl rfl rfl rfl rfl rfl ?_
  refine kU_go (pc2 := 326) hC (by omega) rfl rfl ?_
  refine kU_il (b := 16) hC (by omega) rfl rfl rfl ?_
  refine kU_int (v := 17) hC (by omega) rfl rfl (fun _ _ => rfl) ?_
  refine kU_ge (t := 347) (pc2 := 332) hC (by omega) rfl rfl (by decide) ?_
  refine kU_al (b := 0) hC (by omega) rfl rfl rfl ?_
  refine kU_gf (a := 0) (ci := 11) (kk := 11) (t := 9) (v := .ref 5) hC (by omega) rfl rfl (kMem 89 rfl rfl) rfl rfl rfl ?_
  refine kU_il (b := 0) hC (by omega) rfl rfl rfl ?_
  refine kU_aa (a := 5) (t := 4) (M := 2) (b := 6) (g := kL.2.1 5) hC (by omega) rfl (kMem 94 rfl rfl) (kMem 89 rfl rfl) rfl (by decide) (by decide) rfl rfl ?_
  refine kU_il (b := 16) hC (by omega) rfl rfl rfl ?_
  refine kU_int (v := (-1)) hC (by omega) rfl rfl (fun _ _ => rfl) ?_
  refine kU_ia (a := 6) (M := 17) (g := fM1 16) (f2 := (va_up (va_up (va_up (va_up (j_lay kL (kSc kz_S sc2) (x_mk kz_mr kz_rf) (kAr kz_r0 ar2) kz_al) 10 (.inl (0, (2, .inl (fM1 2))))) 11 (.inl (0, (2, .inl (fM1 2))))) 6 (.inl (0, (17, .inl (fM1 17))))) 0 (.inr (11, [.int 0, .int 0, .int (-1), .int 0, .int 0, .int 0, .int 0, .int 0, .int 0, .ref 1, .ref 2, .ref 5, .ref 8, .ref 9, .ref 10, .ref 11, .int 0, .int 0, .int 0, .int 0, .ref 12, .ref 13, .int 0, .int 0, .int 0, .int 0, .int 0, .int 0, .int 0, .int (-1), .ref 14, .int 0, .ref 15, .ref 16, .ref 17, .ref 18, .ref 19, .ref 61, .int 0, .ref 102, .ref 103, .ref 104, .ref 105, .ref 106, .ref 107, .ref 708, .ref 709, .ref 710, .int 0, .int 0, .int 0, .int 0, .ref 711, .ref 712, .ref 713, .ref 716, .ref 717, .int 0, .ref 720, .ref 729])))) hC (by omega) rfl (kMem 95 rfl rfl) rfl (by decide) ((va_u3 (by decide)).trans (by rw [show va_up (fM1 16) (iN 16) (-1) = fM1 17 from fM1_u])) rfl ?_
  refine kU_ii (vs := [some (.ref 0), some (.int 0), some (.int 16)]) (c := 17) (vs2 := [some (.ref 0), some (.int 0), some (.int 17)]) hC (by omega) rfl rfl rfl rfl rfl rfl rfl ?_
  refine kU_go (pc2 := 326) hC (by omega) rfl rfl ?_
  refine kU_il (b := 17) hC (by omega) rfl rfl rfl ?_
  refine kU_int (v := 17) hC (by omega) rfl rfl (fun _ _ => rfl) ?_
  refine kU_ge (t := 347) (pc2 := 347) hC (by omega) rfl rfl (by decide) ?_
  refine kU_ii (vs := [some (.ref 0), some (.int 0), some (.int 17)]) (c := 1) (vs2 := [some (.ref 0), some (.int 1), some (.int 17)]) hC (by omega) rfl rfl rfl rfl rfl rfl rfl ?_
  refine kU_go (pc2 := 319) hC (by omega) rfl rfl ?_
  refine kU_il (b := 1) hC (by omega) rfl rfl rfl ?_
  refine kU_int (v := 2) hC (by omega) rfl rfl (fun _ _ => rfl) ?_
  refine kU_ge (t := 353) (pc2 := 324) hC (by omega) rfl rfl (by decide) ?_
  refine kU_int (v := 0) hC (by omega) rfl rfl (fun _ _ => rfl) ?_
  refine kU_is (vs := [some (.ref 0), some (.int 1), some (.int 17)]) (vs2 := [some (.ref 0), some (.int 1), some (.int 0)]) hC (by omega) rfl rfl rfl rfl rfl ?_
  refine kU_il (b := 0) hC (by omega) rfl rfl rfl ?_
  refine kU_int (v := 17) hC (by omega) rfl rfl (fun _ _ => rfl) ?_
  refine kU_ge (t := 347) (pc2 := 332) hC (by omega) rfl rfl (by decide) ?_
  refine kU_al (b := 0) hC (by omega) rfl rfl rfl ?_
  refine kU_gf (a := 0) (ci := 11) (kk := 11) (t := 9) (v := .ref 5) hC (by omega) rfl rfl (kMem 89 rfl rfl) rfl rfl rfl ?_
  refine kU_il (b := 1) hC (by omega) rfl rfl rfl ?_
  refine kU_aa (a := 5) (t := 4) (M := 2) (b := 7) (g := kL.2.1 5) hC (by omega) rfl (kMem 94 rfl rfl) (kMem 89 rfl rfl) rfl (by decide) (by decide) rfl rfl ?_
  refine kU_il (b := 0) hC (by omega) rfl rfl rfl ?_
  refine kU_int (v := (-1)) hC (by omega) rfl rfl (fun _ _ => rfl) ?_
  refine kU_ia (a := 7) (M := 17) (g := fun _ => 0) (f2 := va_up (va_up (va_up (va_up (va_up (j_lay kL (kSc kz_S sc2) (x_mk kz_mr kz_rf) (kAr kz_r0 ar2) kz_al) 10 (.inl (0, (2, .inl (fM1 2))))) 11 (.inl (0, (2, .inl (fM1 2))))) 6 (.inl (0, (17, .inl (fM1 17))))) 7 (.inl (0, (17, .inl (fM1 1))))) 0 (.inr (11, [.int 0, .int 0, .int (-1), .int 0, .int 0, .int 0, .int 0, .int 0, .int 0, .ref 1, .ref 2, .ref 5, .ref 8, .ref 9, .ref 10, .ref 11, .int 0, .int 0, .int 0, .int 0, .ref 12, .ref 13, .int 0, .int 0, .int 0, .int 0, .int 0, .int 0, .int 0, .int (-1), .ref 14, .int 0, .ref 15, .ref 16, .ref 17, .ref 18, .ref 19, .ref 61, .int 0, .ref 102, .ref 103, .ref 104, .ref 105, .ref 106, .ref 107, .ref 708, .ref 709, .ref 710, .int 0, .int 0, .int 0, .int 0, .ref 711, .ref 712, .ref 713, .ref 716, .ref 717, .int 0, .ref 720, .ref 729]))) hC (by omega) rfl (kMem 96 rfl rfl) rfl (by decide) ((va_uc (by decide)).trans (by rw [show va_up (fun _ => (0 : Int32)) (iN 0) (-1) = fM1 1 from fM1_1])) rfl ?_
  refine kU_ii (vs := [some (.ref 0), some (.int 1), some (.int 0)]) (c := 1) (vs2 := [some (.ref 0), some (.int 1), some (.int 1)]) hC (by omega) rfl rfl rfl rfl rfl rfl rfl ?_
  refine kU_go (pc2 := 326) hC (by omega) rfl rfl ?_
  refine kU_il (b := 1) hC (by omega) rfl rfl rfl ?_
  refine kU_int (v := 17) hC (by omega) rfl rfl (fun _ _ => rfl) ?_
  refine kU_ge (t := 347) (pc2 := 332) hC (by omega) rfl rfl (by decide) ?_
  refine kU_al (b := 0) hC (by omega) rfl rfl rfl ?_
  refine kU_gf (a := 0) (ci := 11) (kk := 11) (t := 9) (v := .ref 5) hC (by omega) rfl rfl (kMem 89 rfl rfl) rfl rfl rfl ?_
  refine kU_il (b := 1) hC (by omega) rfl rfl rfl ?_
  refine kU_aa (a := 5) (t := 4) (M := 2) (b := 7) (g := kL.2.1 5) hC (by omega) rfl (kMem 94 rfl rfl) (kMem 89 rfl rfl) rfl (by decide) (by decide) rfl rfl ?_
  refine kU_il (b := 1) hC (by omega) rfl rfl rfl ?_
  refine kU_int (v := (-1)) hC (by omega) rfl rfl (fun _ _ => rfl) ?_
  refine kU_ia (a := 7) (M := 17) (g := fM1 1) (f2 := (va_up (va_up (va_up (va_up (va_up (j_lay kL (kSc kz_S sc2) (x_mk kz_mr kz_rf) (kAr kz_r0 ar2) kz_al) 10 (.inl (0, (2, .inl (fM1 2))))) 11 (.inl (0, (2, .inl (fM1 2))))) 6 (.inl (0, (17, .inl (fM1 17))))) 7 (.inl (0, (17, .inl (fM1 2))))) 0 (.inr (11, [.int 0, .int 0, .int (-1), .int 0, .int 0, .int 0, .int 0, .int 0, .int 0, .ref 1, .ref 2, .ref 5, .ref 8, .ref 9, .ref 10, .ref 11, .int 0, .int 0, .int 0, .int 0, .ref 12, .ref 13, .int 0, .int 0, .int 0, .int 0, .int 0, .int 0, .int 0, .int (-1), .ref 14, .int 0, .ref 15, .ref 16, .ref 17, .ref 18, .ref 19, .ref 61, .int 0, .ref 102, .ref 103, .ref 104, .ref 105, .ref 106, .ref 107, .ref 708, .ref 709, .ref 710, .int 0, .int 0, .int 0, .int 0, .ref 711, .ref 712, .ref 713, .ref 716, .ref 717, .int 0, .ref 720, .ref 729])))) hC (by omega) rfl (kMem 96 rfl rfl) rfl (by decide) ((va_u3 (by decide)).trans (by rw [show va_up (fM1 1) (iN 1) (-1) = fM1 2 from fM1_u])) rfl ?_
  refine kU_ii (vs := [some (.ref 0), some (.int 1), some (.int 1)]) (c := 2) (vs2 := [some (.ref 0), some (.int 1), some (.int 2)]) hC (by omega) rfl rfl rfl rfl rfl rfl rfl ?_
  refine kU_go (pc2 := 326) hC (by omega) rfl rfl ?_
  refine kU_il (b := 2) hC (by omega) rfl rfl rfl ?_
  refine kU_int (v := 17) hC (by omega) rfl rfl (fun _ _ => rfl) ?_
  refine kU_ge (t := 347) (pc2 := 332) hC (by omega) rfl rfl (by decide) ?_
  refine kU_al (b := 0) hC (by omega) rfl rfl rfl ?_
  refine kU_gf (a := 0) (ci := 11) (kk := 11) (t := 9) (v := .ref 5) hC (by omega) rfl rfl (kMem 89 rfl rfl) rfl rfl rfl ?_
  refine kU_il (b := 1) hC (by omega) rfl rfl rfl ?_
  refine kU_aa (a := 5) (t := 4) (M := 2) (b := 7) (g := kL.2.1 5) hC (by omega) rfl (kMem 94 rfl rfl) (kMem 89 rfl rfl) rfl (by decide) (by decide) rfl rfl ?_
  refine kU_il (b := 2) hC (by omega) rfl rfl rfl ?_
  refine kU_int (v := (-1)) hC (by omega) rfl rfl (fun _ _ => rfl) ?_
  refine kU_ia (a := 7) (M := 17) (g := fM1 2) (f2 := (va_up (va_up (va_up (va_up (va_up (j_lay kL (kSc kz_S sc2) (x_mk kz_mr kz_rf) (kAr kz_r0 ar2) kz_al) 10 (.inl (0, (2, .inl (fM1 2))))) 11 (.inl (0, (2, .inl (fM1 2))))) 6 (.inl (0, (17, .inl (fM1 17))))) 7 (.inl (0, (17, .inl (fM1 3))))) 0 (.inr (11, [.int 0, .int 0, .int (-1), .int 0, .int 0, .int 0, .int 0, .int 0, .int 0, .ref 1, .ref 2, .ref 5, .ref 8, .ref 9, .ref 10, .ref 11, .int 0, .int 0, .int 0, .int 0, .ref 12, .ref 13, .int 0, .int 0, .int 0, .int 0, .int 0, .int 0, .int 0, .int (-1), .ref 14, .int 0, .ref 15, .ref 16, .ref 17, .ref 18, .ref 19, .ref 61, .int 0, .ref 102, .ref 103, .ref 104, .ref 105, .ref 106, .ref 107, .ref 708, .ref 709, .ref 710, .int 0, .int 0, .int 0, .int 0, .ref 711, .ref 712, .ref 713, .ref 716, .ref 717, .int 0, .ref 720, .ref 729])))) hC (by omega) rfl (kMem 96 rfl rfl) rfl (by decide) ((va_u3 (by decide)).trans (by rw [show va_up (fM1 2) (iN 2) (-1) = fM1 3 from fM1_u])) rfl ?_
  refine kU_ii (vs := [some (.ref 0), some (.int 1), some (.int 2)]) (c := 3) (vs2 := [some (.ref 0), some (.int 1), some (.int 3)]) hC (by omega) rfl rfl rfl rfl rfl rfl rfl ?_
  refine kU_go (pc2 := 326) hC (by omega) rfl rfl ?_
  refine kU_il (b := 3) hC (by omega) rfl rfl rfl ?_
  refine kU_int (v := 17) hC (by omega) rfl rfl (fun _ _ => rfl) ?_
  refine kU_ge (t := 347) (pc2 := 332) hC (by omega) rfl rfl (by decide) ?_
  refine kU_al (b := 0) hC (by omega) rfl rfl rfl ?_
  refine kU_gf (a := 0) (ci := 11) (kk := 11) (t := 9) (v := .ref 5) hC (by omega) rfl rfl (kMem 89 rfl rfl) rfl rfl rfl ?_
  refine kU_il (b := 1) hC (by omega) rfl rfl rfl ?_
  refine kU_aa (a := 5) (t := 4) (M := 2) (b := 7) (g := kL.2.1 5) hC (by omega) rfl (kMem 94 rfl rfl) (kMem 89 rfl rfl) rfl (by decide) (by decide) rfl rfl ?_
  refine kU_il (b := 3) hC (by omega) rfl rfl rfl ?_
  refine kU_int (v := (-1)) hC (by omega) rfl rfl (fun _ _ => rfl) ?_
  refine kU_ia (a := 7) (M := 17) (g := fM1 3) (f2 := (va_up (va_up (va_up (va_up (va_up (j_lay kL (kSc kz_S sc2) (x_mk kz_mr kz_rf) (kAr kz_r0 ar2) kz_al) 10 (.inl (0, (2, .inl (fM1 2))))) 11 (.inl (0, (2, .inl (fM1 2))))) 6 (.inl (0, (17, .inl (fM1 17))))) 7 (.inl (0, (17, .inl (fM1 4))))) 0 (.inr (11, [.int 0, .int 0, .int (-1), .int 0, .int 0, .int 0, .int 0, .int 0, .int 0, .ref 1, .ref 2, .ref 5, .ref 8, .ref 9, .ref 10, .ref 11, .int 0, .int 0, .int 0, .int 0, .ref 12, .ref 13, .int 0, .int 0, .int 0, .int 0, .int 0, .int 0, .int 0, .int (-1), .ref 14, .int 0, .ref 15, .ref 16, .ref 17, .ref 18, .ref 19, .ref 61, .int 0, .ref 102, .ref 103, .ref 104, .ref 105, .ref 106, .ref 107, .ref 708, .ref 709, .ref 710, .int 0, .int 0, .int 0, .int 0, .ref 711, .ref 712, .ref 713, .ref 716, .ref 717, .int 0, .ref 720, .ref 729])))) hC (by omega) rfl (kMem 96 rfl rfl) rfl (by decide) ((va_u3 (by decide)).trans (by rw [show va_up (fM1 3) (iN 3) (-1) = fM1 4 from fM1_u])) rfl ?_
  refine kU_ii (vs := [some (.ref 0), some (.int 1), some (.int 3)]) (c := 4) (vs2 := [some (.ref 0), some (.int 1), some (.int 4)]) hC (by omega) rfl rfl rfl rfl rfl rfl rfl ?_
  refine kU_go (pc2 := 326) hC (by omega) rfl rfl ?_
  refine kU_il (b := 4) hC (by omega) rfl rfl rfl ?_
  refine kU_int (v := 17) hC (by omega) rfl rfl (fun _ _ => rfl) ?_
  refine kU_ge (t := 347) (pc2 := 332) hC (by omega) rfl rfl (by decide) ?_
  refine kU_al (b := 0) hC (by omega) rfl rfl rfl ?_
  refine kU_gf (a := 0) (ci := 11) (kk := 11) (t := 9) (v := .ref 5) hC (by omega) rfl rfl (kMem 89 rfl rfl) rfl rfl rfl ?_
  refine kU_il (b := 1) hC (by omega) rfl rfl rfl ?_
  refine kU_aa (a := 5) (t := 4) (M := 2) (b := 7) (g := kL.2.1 5) hC (by omega) rfl (kMem 94 rfl rfl) (kMem 89 rfl rfl) rfl (by decide) (by decide) rfl rfl ?_
  refine kU_il (b := 4) hC (by omega) rfl rfl rfl ?_
  refine kU_int (v := (-1)) hC (by omega) rfl rfl (fun _ _ => rfl) ?_
  refine kU_ia (a := 7) (M := 17) (g := fM1 4) (f2 := (va_up (va_up (va_up (va_up (va_up (j_lay kL (kSc kz_S sc2) (x_mk kz_mr kz_rf) (kAr kz_r0 ar2) kz_al) 10 (.inl (0, (2, .inl (fM1 2))))) 11 (.inl (0, (2, .inl (fM1 2))))) 6 (.inl (0, (17, .inl (fM1 17))))) 7 (.inl (0, (17, .inl (fM1 5))))) 0 (.inr (11, [.int 0, .int 0, .int (-1), .int 0, .int 0, .int 0, .int 0, .int 0, .int 0, .ref 1, .ref 2, .ref 5, .ref 8, .ref 9, .ref 10, .ref 11, .int 0, .int 0, .int 0, .int 0, .ref 12, .ref 13, .int 0, .int 0, .int 0, .int 0, .int 0, .int 0, .int 0, .int (-1), .ref 14, .int 0, .ref 15, .ref 16, .ref 17, .ref 18, .ref 19, .ref 61, .int 0, .ref 102, .ref 103, .ref 104, .ref 105, .ref 106, .ref 107, .ref 708, .ref 709, .ref 710, .int 0, .int 0, .int 0, .int 0, .ref 711, .ref 712, .ref 713, .ref 716, .ref 717, .int 0, .ref 720, .ref 729])))) hC (by omega) rfl (kMem 96 rfl rfl) rfl (by decide) ((va_u3 (by decide)).trans (by rw [show va_up (fM1 4) (iN 4) (-1) = fM1 5 from fM1_u])) rfl ?_
  refine kU_ii (vs := [some (.ref 0), some (.int 1), some (.int 4)]) (c := 5) (vs2 := [some (.ref 0), some (.int 1), some (.int 5)]) hC (by omega) rfl rfl rfl rfl rfl rfl rfl ?_
  refine kU_go (pc2 := 326) hC (by omega) rfl rfl ?_
  refine kU_il (b := 5) hC (by omega) rfl rfl rfl ?_
  refine kU_int (v := 17) hC (by omega) rfl rfl (fun _ _ => rfl) ?_
  refine kU_ge (t := 347) (pc2 := 332) hC (by omega) rfl rfl (by decide) ?_
  refine kU_al (b := 0) hC (by omega) rfl rfl rfl ?_
  refine kU_gf (a := 0) (ci := 11) (kk := 11) (t := 9) (v := .ref 5) hC (by omega) rfl rfl (kMem 89 rfl rfl) rfl rfl rfl ?_
  refine kU_il (b := 1) hC (by omega) rfl rfl rfl ?_
  refine kU_aa (a := 5) (t := 4) (M := 2) (b := 7) (g := kL.2.1 5) hC (by omega) rfl (kMem 94 rfl rfl) (kMem 89 rfl rfl) rfl (by decide) (by decide) rfl rfl ?_
  refine kU_il (b := 5) hC (by omega) rfl rfl rfl ?_
  refine kU_int (v := (-1)) hC (by omega) rfl rfl (fun _ _ => rfl) ?_
  refine kU_ia (a := 7) (M := 17) (g := fM1 5) (f2 := (va_up (va_up (va_up (va_up (va_up (j_lay kL (kSc kz_S sc2) (x_mk kz_mr kz_rf) (kAr kz_r0 ar2) kz_al) 10 (.inl (0, (2, .inl (fM1 2))))) 11 (.inl (0, (2, .inl (fM1 2))))) 6 (.inl (0, (17, .inl (fM1 17))))) 7 (.inl (0, (17, .inl (fM1 6))))) 0 (.inr (11, [.int 0, .int 0, .int (-1), .int 0, .int 0, .int 0, .int 0, .int 0, .int 0, .ref 1, .ref 2, .ref 5, .ref 8, .ref 9, .ref 10, .ref 11, .int 0, .int 0, .int 0, .int 0, .ref 12, .ref 13, .int 0, .int 0, .int 0, .int 0, .int 0, .int 0, .int 0, .int (-1), .ref 14, .int 0, .ref 15, .ref 16, .ref 17, .ref 18, .ref 19, .ref 61, .int 0, .ref 102, .ref 103, .ref 104, .ref 105, .ref 106, .ref 107, .ref 708, .ref 709, .ref 710, .int 0, .int 0, .int 0, .int 0, .ref 711, .ref 712, .ref 713, .ref 716, .ref 717, .int 0, .ref 720, .ref 729])))) hC (by omega) rfl (kMem 96 rfl rfl) rfl (by decide) ((va_u3 (by decide)).trans (by rw [show va_up (fM1 5) (iN 5) (-1) = fM1 6 from fM1_u])) rfl ?_
  refine kU_ii (vs := [some (.ref 0), some (.int 1), some (.int 5)]) (c := 6) (vs2 := [some (.ref 0), some (.int 1), some (.int 6)]) hC (by omega) rfl rfl rfl rfl rfl rfl rfl ?_
  refine kU_go (pc2 := 326) hC (by omega) rfl rfl ?_
  refine kU_il (b := 6) hC (by omega) rfl rfl rfl ?_
  refine kU_int (v := 17) hC (by omega) rfl rfl (fun _ _ => rfl) ?_
  refine kU_ge (t := 347) (pc2 := 332) hC (by omega) rfl rfl (by decide) ?_
  refine kU_al (b := 0) hC (by omega) rfl rfl rfl ?_
  refine kU_gf (a := 0) (ci := 11) (kk := 11) (t := 9) (v := .ref 5) hC (by omega) rfl rfl (kMem 89 rfl rfl) rfl rfl rfl ?_
  refine kU_il (b := 1) hC (by omega) rfl rfl rfl ?_
  refine kU_aa (a := 5) (t := 4) (M := 2) (b := 7) (g := kL.2.1 5) hC (by omega) rfl (kMem 94 rfl rfl) (kMem 89 rfl rfl) rfl (by decide) (by decide) rfl rfl ?_
  refine kU_il (b := 6) hC (by omega) rfl rfl rfl ?_
  refine kU_int (v := (-1)) hC (by omega) rfl rfl (fun _ _ => rfl) ?_
  refine kU_ia (a := 7) (M := 17) (g := fM1 6) (f2 := (va_up (va_up (va_up (va_up (va_up (j_lay kL (kSc kz_S sc2) (x_mk kz_mr kz_rf) (kAr kz_r0 ar2) kz_al) 10 (.inl (0, (2, .inl (fM1 2))))) 11 (.inl (0, (2, .inl (fM1 2))))) 6 (.inl (0, (17, .inl (fM1 17))))) 7 (.inl (0, (17, .inl (fM1 7))))) 0 (.inr (11, [.int 0, .int 0, .int (-1), .int 0, .int 0, .int 0, .int 0, .int 0, .int 0, .ref 1, .ref 2, .ref 5, .ref 8, .ref 9, .ref 10, .ref 11, .int 0, .int 0, .int 0, .int 0, .ref 12, .ref 13, .int 0, .int 0, .int 0, .int 0, .int 0, .int 0, .int 0, .int (-1), .ref 14, .int 0, .ref 15, .ref 16, .ref 17, .ref 18, .ref 19, .ref 61, .int 0, .ref 102, .ref 103, .ref 104, .ref 105, .ref 106, .ref 107, .ref 708, .ref 709, .ref 710, .int 0, .int 0, .int 0, .int 0, .ref 711, .ref 712, .ref 713, .ref 716, .ref 717, .int 0, .ref 720, .ref 729])))) hC (by omega) rfl (kMem 96 rfl rfl) rfl (by decide) ((va_u3 (by decide)).trans (by rw [show va_up (fM1 6) (iN 6) (-1) = fM1 7 from fM1_u])) rfl ?_
  refine kU_ii (vs := [some (.ref 0), some (.int 1), some (.int 6)]) (c := 7) (vs2 := [some (.ref 0), some (.int 1), some (.int 7)]) hC (by omega) rfl rfl rfl rfl rfl rfl rfl ?_
  refine kU_go (pc2 := 326) hC (by omega) rfl rfl ?_
  refine kU_il (b := 7) hC (by omega) rfl rfl rfl ?_
  refine kU_int (v := 17) hC (by omega) rfl rfl (fun _ _ => rfl) ?_
  refine kU_ge (t := 347) (pc2 := 332) hC (by omega) rfl rfl (by decide) ?_
  refine kU_al (b := 0) hC (by omega) rfl rfl rfl ?_
  refine kU_gf (a := 0) (ci := 11) (kk := 11) (t := 9) (v := .ref 5) hC (by omega) rfl rfl (kMem 89 rfl rfl) rfl rfl rfl ?_
  refine kU_il (b := 1) hC (by omega) rfl rfl rfl ?_
  refine kU_aa (a := 5) (t := 4) (M := 2) (b := 7) (g := kL.2.1 5) hC (by omega) rfl (kMem 94 rfl rfl) (kMem 89 rfl rfl) rfl (by decide) (by decide) rfl rfl ?_
  refine kU_il (b := 7) hC (by omega) rfl rfl rfl ?_
  refine kU_int (v := (-1)) hC (by omega) rfl rfl (fun _ _ => rfl) ?_
  refine kU_ia (a := 7) (M := 17) (g := fM1 7) (f2 := (va_up (va_up (va_up (va_up (va_up (j_lay kL (kSc kz_S sc2) (x_mk kz_mr kz_rf) (kAr kz_r0 ar2) kz_al) 10 (.inl (0, (2, .inl (fM1 2))))) 11 (.inl (0, (2, .inl (fM1 2))))) 6 (.inl (0, (17, .inl (fM1 17))))) 7 (.inl (0, (17, .inl (fM1 8))))) 0 (.inr (11, [.int 0, .int 0, .int (-1), .int 0, .int 0, .int 0, .int 0, .int 0, .int 0, .ref 1, .ref 2, .ref 5, .ref 8, .ref 9, .ref 10, .ref 11, .int 0, .int 0, .int 0, .int 0, .ref 12, .ref 13, .int 0, .int 0, .int 0, .int 0, .int 0, .int 0, .int 0, .int (-1), .ref 14, .int 0, .ref 15, .ref 16, .ref 17, .ref 18, .ref 19, .ref 61, .int 0, .ref 102, .ref 103, .ref 104, .ref 105, .ref 106, .ref 107, .ref 708, .ref 709, .ref 710, .int 0, .int 0, .int 0, .int 0, .ref 711, .ref 712, .ref 713, .ref 716, .ref 717, .int 0, .ref 720, .ref 729])))) hC (by omega) rfl (kMem 96 rfl rfl) rfl (by decide) ((va_u3 (by decide)).trans (by rw [show va_up (fM1 7) (iN 7) (-1) = fM1 8 from fM1_u])) rfl ?_
  refine kU_ii (vs := [some (.ref 0), some (.int 1), some (.int 7)]) (c := 8) (vs2 := [some (.ref 0), some (.int 1), some (.int 8)]) hC (by omega) rfl rfl rfl rfl rfl rfl rfl ?_
  refine kU_go (pc2 := 326) hC (by omega) rfl rfl ?_
  refine kU_il (b := 8) hC (by omega) rfl rfl rfl ?_
  refine kU_int (v := 17) hC (by omega) rfl rfl (fun _ _ => rfl) ?_
  refine kU_ge (t := 347) (pc2 := 332) hC (by omega) rfl rfl (by decide) ?_
  refine kU_al (b := 0) hC (by omega) rfl rfl rfl ?_
  refine kU_gf (a := 0) (ci := 11) (kk := 11) (t := 9) (v := .ref 5) hC (by omega) rfl rfl (kMem 89 rfl rfl) rfl rfl rfl ?_
  refine kU_il (b := 1) hC (by omega) rfl rfl rfl ?_
  refine kU_aa (a := 5) (t := 4) (M := 2) (b := 7) (g := kL.2.1 5) hC (by omega) rfl (kMem 94 rfl rfl) (kMem 89 rfl rfl) rfl (by decide) (by decide) rfl rfl ?_
  refine kU_il (b := 8) hC (by omega) rfl rfl rfl ?_
  refine kU_int (v := (-1)) hC (by omega) rfl rfl (fun _ _ => rfl) ?_
  refine kU_ia (a := 7) (M := 17) (g := fM1 8) (f2 := (va_up (va_up (va_up (va_up (va_up (j_lay kL (kSc kz_S sc2) (x_mk kz_mr kz_rf) (kAr kz_r0 ar2) kz_al) 10 (.inl (0, (2, .inl (fM1 2))))) 11 (.inl (0, (2, .inl (fM1 2))))) 6 (.inl (0, (17, .inl (fM1 17))))) 7 (.inl (0, (17, .inl (fM1 9))))) 0 (.inr (11, [.int 0, .int 0, .int (-1), .int 0, .int 0, .int 0, .int 0, .int 0, .int 0, .ref 1, .ref 2, .ref 5, .ref 8, .ref 9, .ref 10, .ref 11, .int 0, .int 0, .int 0, .int 0, .ref 12, .ref 13, .int 0, .int 0, .int 0, .int 0, .int 0, .int 0, .int 0, .int (-1), .ref 14, .int 0, .ref 15, .ref 16, .ref 17, .ref 18, .ref 19, .ref 61, .int 0, .ref 102, .ref 103, .ref 104, .ref 105, .ref 106, .ref 107, .ref 708, .ref 709, .ref 710, .int 0, .int 0, .int 0, .int 0, .ref 711, .ref 712, .ref 713, .ref 716, .ref 717, .int 0, .ref 720, .ref 729])))) hC (by omega) rfl (kMem 96 rfl rfl) rfl (by decide) ((va_u3 (by decide)).trans (by rw [show va_up (fM1 8) (iN 8) (-1) = fM1 9 from fM1_u])) rfl ?_
  refine kU_ii (vs := [some (.ref 0), some (.int 1), some (.int 8)]) (c := 9) (vs2 := [some (.ref 0), some (.int 1), some (.int 9)]) hC (by omega) rfl rfl rfl rfl rfl rfl rfl ?_
  refine kU_go (pc2 := 326) hC (by omega) rfl rfl ?_
  refine kU_il (b := 9) hC (by omega) rfl rfl rfl ?_
  refine kU_int (v := 17) hC (by omega) rfl rfl (fun _ _ => rfl) ?_
  refine kU_ge (t := 347) (pc2 := 332) hC (by omega) rfl rfl (by decide) ?_
  refine kU_al (b := 0) hC (by omega) rfl rfl rfl ?_
  refine kU_gf (a := 0) (ci := 11) (kk := 11) (t := 9) (v := .ref 5) hC (by omega) rfl rfl (kMem 89 rfl rfl) rfl rfl rfl ?_
  refine kU_il (b := 1) hC (by omega) rfl rfl rfl ?_
  refine kU_aa (a := 5) (t := 4) (M := 2) (b := 7) (g := kL.2.1 5) hC (by omega) rfl (kMem 94 rfl rfl) (kMem 89 rfl rfl) rfl (by decide) (by decide) rfl rfl ?_
  refine kU_il (b := 9) hC (by omega) rfl rfl rfl ?_
  refine kU_int (v := (-1)) hC (by omega) rfl rfl (fun _ _ => rfl) ?_
  refine kU_ia (a := 7) (M := 17) (g := fM1 9) (f2 := (va_up (va_up (va_up (va_up (va_up (j_lay kL (kSc kz_S sc2) (x_mk kz_mr kz_rf) (kAr kz_r0 ar2) kz_al) 10 (.inl (0, (2, .inl (fM1 2))))) 11 (.inl (0, (2, .inl (fM1 2))))) 6 (.inl (0, (17, .inl (fM1 17))))) 7 (.inl (0, (17, .inl (fM1 10))))) 0 (.inr (11, [.int 0, .int 0, .int (-1), .int 0, .int 0, .int 0, .int 0, .int 0, .int 0, .ref 1, .ref 2, .ref 5, .ref 8, .ref 9, .ref 10, .ref 11, .int 0, .int 0, .int 0, .int 0, .ref 12, .ref 13, .int 0, .int 0, .int 0, .int 0, .int 0, .int 0, .int 0, .int (-1), .ref 14, .int 0, .ref 15, .ref 16, .ref 17, .ref 18, .ref 19, .ref 61, .int 0, .ref 102, .ref 103, .ref 104, .ref 105, .ref 106, .ref 107, .ref 708, .ref 709, .ref 710, .int 0, .int 0, .int 0, .int 0, .ref 711, .ref 712, .ref 713, .ref 716, .ref 717, .int 0, .ref 720, .ref 729])))) hC (by omega) rfl (kMem 96 rfl rfl) rfl (by decide) ((va_u3 (by decide)).trans (by rw [show va_up (fM1 9) (iN 9) (-1) = fM1 10 from fM1_u])) rfl ?_
  refine kU_ii (vs := [some (.ref 0), some (.int 1), some (.int 9)]) (c := 10) (vs2 := [some (.ref 0), some (.int 1), some (.int 10)]) hC (by omega) rfl rfl rfl rfl rfl rfl rfl ?_
  refine kU_go (pc2 := 326) hC (by omega) rfl rfl ?_
  refine kU_il (b := 10) hC (by omega) rfl rfl rfl ?_
  refine kU_int (v := 17) hC (by omega) rfl rfl (fun _ _ => rfl) ?_
  refine kU_ge (t := 347) (pc2 := 332) hC (by omega) rfl rfl (by decide) ?_
  refine kU_al (b := 0) hC (by omega) rfl rfl rfl ?_
  refine kU_gf (a := 0) (ci := 11) (kk := 11) (t := 9) (v := .ref 5) hC (by omega) rfl rfl (kMem 89 rfl rfl) rfl rfl rfl ?_
  refine kU_il (b := 1) hC (by omega) rfl rfl rfl ?_
  refine kU_aa (a := 5) (t := 4) (M := 2) (b := 7) (g := kL.2.1 5) hC (by omega) rfl (kMem 94 rfl rfl) (kMem 89 rfl rfl) rfl (by decide) (by decide) rfl rfl ?_
  refine kU_il (b := 10) hC (by omega) rfl rfl rfl ?_
  refine kU_int (v := (-1)) hC (by omega) rfl rfl (fun _ _ => rfl) ?_
  refine kU_ia (a := 7) (M := 17) (g := fM1 10) (f2 := (va_up (va_up (va_up (va_up (va_up (j_lay kL (kSc kz_S sc2) (x_mk kz_mr kz_rf) (kAr kz_r0 ar2) kz_al) 10 (.inl (0, (2, .inl (fM1 2))))) 11 (.inl (0, (2, .inl (fM1 2))))) 6 (.inl (0, (17, .inl (fM1 17))))) 7 (.inl (0, (17, .inl (fM1 11))))) 0 (.inr (11, [.int 0, .int 0, .int (-1), .int 0, .int 0, .int 0, .int 0, .int 0, .int 0, .ref 1, .ref 2, .ref 5, .ref 8, .ref 9, .ref 10, .ref 11, .int 0, .int 0, .int 0, .int 0, .ref 12, .ref 13, .int 0, .int 0, .int 0, .int 0, .int 0, .int 0, .int 0, .int (-1), .ref 14, .int 0, .ref 15, .ref 16, .ref 17, .ref 18, .ref 19, .ref 61, .int 0, .ref 102, .ref 103, .ref 104, .ref 105, .ref 106, .ref 107, .ref 708, .ref 709, .ref 710, .int 0, .int 0, .int 0, .int 0, .ref 711, .ref 712, .ref 713, .ref 716, .ref 717, .int 0, .ref 720, .ref 729])))) hC (by omega) rfl (kMem 96 rfl rfl) rfl (by decide) ((va_u3 (by decide)).trans (by rw [show va_up (fM1 10) (iN 10) (-1) = fM1 11 from fM1_u])) rfl ?_
  refine kU_ii (vs := [some (.ref 0), some (.int 1), some (.int 10)]) (c := 11) (vs2 := [some (.ref 0), some (.int 1), some (.int 11)]) hC (by omega) rfl rfl rfl rfl rfl rfl rfl ?_
  refine kU_go (pc2 := 326) hC (by omega) rfl rfl ?_
  refine kU_il (b := 11) hC (by omega) rfl rfl rfl ?_
  refine kU_int (v := 17) hC (by omega) rfl rfl (fun _ _ => rfl) ?_
  refine kU_ge (t := 347) (pc2 := 332) hC (by omega) rfl rfl (by decide) ?_
  refine kU_al (b := 0) hC (by omega) rfl rfl rfl ?_
  refine kU_gf (a := 0) (ci := 11) (kk := 11) (t := 9) (v := .ref 5) hC (by omega) rfl rfl (kMem 89 rfl rfl) rfl rfl rfl ?_
  refine kU_il (b := 1) hC (by omega) rfl rfl rfl ?_
  refine kU_aa (a := 5) (t := 4) (M := 2) (b := 7) (g := kL.2.1 5) hC (by omega) rfl (kMem 94 rfl rfl) (kMem 89 rfl rfl) rfl (by decide) (by decide) rfl rfl ?_
  refine kU_il (b := 11) hC (by omega) rfl rfl rfl ?_
  refine kU_int (v := (-1)) hC (by omega) rfl rfl (fun _ _ => rfl) ?_
  refine kU_ia (a := 7) (M := 17) (g := fM1 11) (f2 := (va_up (va_up (va_up (va_up (va_up (j_lay kL (kSc kz_S sc2) (x_mk kz_mr kz_rf) (kAr kz_r0 ar2) kz_al) 10 (.inl (0, (2, .inl (fM1 2))))) 11 (.inl (0, (2, .inl (fM1 2))))) 6 (.inl (0, (17, .inl (fM1 17))))) 7 (.inl (0, (17, .inl (fM1 12))))) 0 (.inr (11, [.int 0, .int 0, .int (-1), .int 0, .int 0, .int 0, .int 0, .int 0, .int 0, .ref 1, .ref 2, .ref 5, .ref 8, .ref 9, .ref 10, .ref 11, .int 0, .int 0, .int 0, .int 0, .ref 12, .ref 13, .int 0, .int 0, .int 0, .int 0, .int 0, .int 0, .int 0, .int (-1), .ref 14, .int 0, .ref 15, .ref 16, .ref 17, .ref 18, .ref 19, .ref 61, .int 0, .ref 102, .ref 103, .ref 104, .ref 105, .ref 106, .ref 107, .ref 708, .ref 709, .ref 710, .int 0, .int 0, .int 0, .int 0, .ref 711, .ref 712, .ref 713, .ref 716, .ref 717, .int 0, .ref 720, .ref 729])))) hC (by omega) rfl (kMem 96 rfl rfl) rfl (by decide) ((va_u3 (by decide)).trans (by rw [show va_up (fM1 11) (iN 11) (-1) = fM1 12 from fM1_u])) rfl ?_
  refine kU_ii (vs := [some (.ref 0), some (.int 1), some (.int 11)]) (c := 12) (vs2 := [some (.ref 0), some (.int 1), some (.int 12)]) hC (by omega) rfl rfl rfl rfl rfl rfl rfl ?_
  refine kU_go (pc2 := 326) hC (by omega) rfl rfl ?_
  refine kU_il (b := 12) hC (by omega) rfl rfl rfl ?_
  refine kU_int (v := 17) hC (by omega) rfl rfl (fun _ _ => rfl) ?_
  refine kU_ge (t := 347) (pc2 := 332) hC (by omega) rfl rfl (by decide) ?_
  refine kU_al (b := 0) hC (by omega) rfl rfl rfl ?_
  refine kU_gf (a := 0) (ci := 11) (kk := 11) (t := 9) (v := .ref 5) hC (by omega) rfl rfl (kMem 89 rfl rfl) rfl rfl rfl ?_
  refine kU_il (b := 1) hC (by omega) rfl rfl rfl ?_
  refine kU_aa (a := 5) (t := 4) (M := 2) (b := 7) (g := kL.2.1 5) hC (by omega) rfl (kMem 94 rfl rfl) (kMem 89 rfl rfl) rfl (by decide) (by decide) rfl rfl ?_
  refine kU_il (b := 12) hC (by omega) rfl rfl rfl ?_
  refine kU_int (v := (-1)) hC (by omega) rfl rfl (fun _ _ => rfl) ?_
  refine kU_ia (a := 7) (M := 17) (g := fM1 12) (f2 := (va_up (va_up (va_up (va_up (va_up (j_lay kL (kSc kz_S sc2) (x_mk kz_mr kz_rf) (kAr kz_r0 ar2) kz_al) 10 (.inl (0, (2, .inl (fM1 2))))) 11 (.inl (0, (2, .inl (fM1 2))))) 6 (.inl (0, (17, .inl (fM1 17))))) 7 (.inl (0, (17, .inl (fM1 13))))) 0 (.inr (11, [.int 0, .int 0, .int (-1), .int 0, .int 0, .int 0, .int 0, .int 0, .int 0, .ref 1, .ref 2, .ref 5, .ref 8, .ref 9, .ref 10, .ref 11, .int 0, .int 0, .int 0, .int 0, .ref 12, .ref 13, .int 0, .int 0, .int 0, .int 0, .int 0, .int 0, .int 0, .int (-1), .ref 14, .int 0, .ref 15, .ref 16, .ref 17, .ref 18, .ref 19, .ref 61, .int 0, .ref 102, .ref 103, .ref 104, .ref 105, .ref 106, .ref 107, .ref 708, .ref 709, .ref 710, .int 0, .int 0, .int 0, .int 0, .ref 711, .ref 712, .ref 713, .ref 716, .ref 717, .int 0, .ref 720, .ref 729])))) hC (by omega) rfl (kMem 96 rfl rfl) rfl (by decide) ((va_u3 (by decide)).trans (by rw [show va_up (fM1 12) (iN 12) (-1) = fM1 13 from fM1_u])) rfl ?_
  refine kU_ii (vs := [some (.ref 0), some (.int 1), some (.int 12)]) (c := 13) (vs2 := [some (.ref 0), some (.int 1), some (.int 13)]) hC (by omega) rfl rfl rfl rfl rfl rfl rfl ?_
  refine kU_go (pc2 := 326) hC (by omega) rfl rfl ?_
  refine kU_il (b := 13) hC (by omega) rfl rfl rfl ?_
  refine kU_int (v := 17) hC (by omega) rfl rfl (fun _ _ => rfl) ?_
  refine kU_ge (t := 347) (pc2 := 332) hC (by omega) rfl rfl (by decide) ?_
  refine kU_al (b := 0) hC (by omega) rfl rfl rfl ?_
  refine kU_gf (a := 0) (ci := 11) (kk := 11) (t := 9) (v := .ref 5) hC (by omega) rfl rfl (kMem 89 rfl rfl) rfl rfl rfl ?_
  refine kU_il (b := 1) hC (by omega) rfl rfl rfl ?_
  refine kU_aa (a := 5) (t := 4) (M := 2) (b := 7) (g := kL.2.1 5) hC (by omega) rfl (kMem 94 rfl rfl) (kMem 89 rfl rfl) rfl (by decide) (by decide) rfl rfl ?_
  refine kU_il (b := 13) hC (by omega) rfl rfl rfl ?_
  refine kU_int (v := (-1)) hC (by omega) rfl rfl (fun _ _ => rfl) ?_
  refine kU_ia (a := 7) (M := 17) (g := fM1 13) (f2 := (va_up (va_up (va_up (va_up (va_up (j_lay kL (kSc kz_S sc2) (x_mk kz_mr kz_rf) (kAr kz_r0 ar2) kz_al) 10 (.inl (0, (2, .inl (fM1 2))))) 11 (.inl (0, (2, .inl (fM1 2))))) 6 (.inl (0, (17, .inl (fM1 17))))) 7 (.inl (0, (17, .inl (fM1 14))))) 0 (.inr (11, [.int 0, .int 0, .int (-1), .int 0, .int 0, .int 0, .int 0, .int 0, .int 0, .ref 1, .ref 2, .ref 5, .ref 8, .ref 9, .ref 10, .ref 11, .int 0, .int 0, .int 0, .int 0, .ref 12, .ref 13, .int 0, .int 0, .int 0, .int 0, .int 0, .int 0, .int 0, .int (-1), .ref 14, .int 0, .ref 15, .ref 16, .ref 17, .ref 18, .ref 19, .ref 61, .int 0, .ref 102, .ref 103, .ref 104, .ref 105, .ref 106, .ref 107, .ref 708, .ref 709, .ref 710, .int 0, .int 0, .int 0, .int 0, .ref 711, .ref 712, .ref 713, .ref 716, .ref 717, .int 0, .ref 720, .ref 729])))) hC (by omega) rfl (kMem 96 rfl rfl) rfl (by decide) ((va_u3 (by decide)).trans (by rw [show va_up (fM1 13) (iN 13) (-1) = fM1 14 from fM1_u])) rfl ?_
  refine kU_ii (vs := [some (.ref 0), some (.int 1), some (.int 13)]) (c := 14) (vs2 := [some (.ref 0), some (.int 1), some (.int 14)]) hC (by omega) rfl rfl rfl rfl rfl rfl rfl ?_
  refine kU_go (pc2 := 326) hC (by omega) rfl rfl ?_
  refine kU_il (b := 14) hC (by omega) rfl rfl rfl ?_
  refine kU_int (v := 17) hC (by omega) rfl rfl (fun _ _ => rfl) ?_
  refine kU_ge (t := 347) (pc2 := 332) hC (by omega) rfl rfl (by decide) ?_
  refine kU_al (b := 0) hC (by omega) rfl rfl rfl ?_
  refine kU_gf (a := 0) (ci := 11) (kk := 11) (t := 9) (v := .ref 5) hC (by omega) rfl rfl (kMem 89 rfl rfl) rfl rfl rfl ?_
  refine kU_il (b := 1) hC (by omega) rfl rfl rfl ?_
  refine kU_aa (a := 5) (t := 4) (M := 2) (b := 7) (g := kL.2.1 5) hC (by omega) rfl (kMem 94 rfl rfl) (kMem 89 rfl rfl) rfl (by decide) (by decide) rfl rfl ?_
  refine kU_il (b := 14) hC (by omega) rfl rfl rfl ?_
  refine kU_int (v := (-1)) hC (by omega) rfl rfl (fun _ _ => rfl) ?_
  refine kU_ia (a := 7) (M := 17) (g := fM1 14) (f2 := (va_up (va_up (va_up (va_up (va_up (j_lay kL (kSc kz_S sc2) (x_mk kz_mr kz_rf) (kAr kz_r0 ar2) kz_al) 10 (.inl (0, (2, .inl (fM1 2))))) 11 (.inl (0, (2, .inl (fM1 2))))) 6 (.inl (0, (17, .inl (fM1 17))))) 7 (.inl (0, (17, .inl (fM1 15))))) 0 (.inr (11, [.int 0, .int 0, .int (-1), .int 0, .int 0, .int 0, .int 0, .int 0, .int 0, .ref 1, .ref 2, .ref 5, .ref 8, .ref 9, .ref 10, .ref 11, .int 0, .int 0, .int 0, .int 0, .ref 12, .ref 13, .int 0, .int 0, .int 0, .int 0, .int 0, .int 0, .int 0, .int (-1), .ref 14, .int 0, .ref 15, .ref 16, .ref 17, .ref 18, .ref 19, .ref 61, .int 0, .ref 102, .ref 103, .ref 104, .ref 105, .ref 106, .ref 107, .ref 708, .ref 709, .ref 710, .int 0, .int 0, .int 0, .int 0, .ref 711, .ref 712, .ref 713, .ref 716, .ref 717, .int 0, .ref 720, .ref 729])))) hC (by omega) rfl (kMem 96 rfl rfl) rfl (by decide) ((va_u3 (by decide)).trans (by rw [show va_up (fM1 14) (iN 14) (-1) = fM1 15 from fM1_u])) rfl ?_
  refine kU_ii (vs := [some (.ref 0), some (.int 1), some (.int 14)]) (c := 15) (vs2 := [some (.ref 0), some (.int 1), some (.int 15)]) hC (by omega) rfl rfl rfl rfl rfl rfl rfl ?_
  refine kU_go (pc2 := 326) hC (by omega) rfl rfl ?_
  refine kU_il (b := 15) hC (by omega) rfl rfl rfl ?_
  refine kU_int (v := 17) hC (by omega) rfl rfl (fun _ _ => rfl) ?_
  refine kU_ge (t := 347) (pc2 := 332) hC (by omega) rfl rfl (by decide) ?_
  refine kU_al (b := 0) hC (by omega) rfl rfl rfl ?_
  refine kU_gf (a := 0) (ci := 11) (kk := 11) (t := 9) (v := .ref 5) hC (by omega) rfl rfl (kMem 89 rfl rfl) rfl rfl rfl ?_
  refine kU_il (b := 1) hC (by omega) rfl rfl rfl ?_
  refine kU_aa (a := 5) (t := 4) (M := 2) (b := 7) (g := kL.2.1 5) hC (by omega) rfl (kMem 94 rfl rfl) (kMem 89 rfl rfl) rfl (by decide) (by decide) rfl rfl ?_
  refine kU_il (b := 15) hC (by omega) rfl rfl rfl ?_
  refine kU_int (v := (-1)) hC (by omega) rfl rfl (fun _ _ => rfl) ?_
  refine kU_ia (a := 7) (M := 17) (g := fM1 15) (f2 := (va_up (va_up (va_up (va_up (va_up (j_lay kL (kSc kz_S sc2) (x_mk kz_mr kz_rf) (kAr kz_r0 ar2) kz_al) 10 (.inl (0, (2, .inl (fM1 2))))) 11 (.inl (0, (2, .inl (fM1 2))))) 6 (.inl (0, (17, .inl (fM1 17))))) 7 (.inl (0, (17, .inl (fM1 16))))) 0 (.inr (11, [.int 0, .int 0, .int (-1), .int 0, .int 0, .int 0, .int 0, .int 0, .int 0, .ref 1, .ref 2, .ref 5, .ref 8, .ref 9, .ref 10, .ref 11, .int 0, .int 0, .int 0, .int 0, .ref 12, .ref 13, .int 0, .int 0, .int 0, .int 0, .int 0, .int 0, .int 0, .int (-1), .ref 14, .int 0, .ref 15, .ref 16, .ref 17, .ref 18, .ref 19, .ref 61, .int 0, .ref 102, .ref 103, .ref 104, .ref 105, .ref 106, .ref 107, .ref 708, .ref 709, .ref 710, .int 0, .int 0, .int 0, .int 0, .ref 711, .ref 712, .ref 713, .ref 716, .ref 717, .int 0, .ref 720, .ref 729])))) hC (by omega) rfl (kMem 96 rfl rfl) rfl (by decide) ((va_u3 (by decide)).trans (by rw [show va_up (fM1 15) (iN 15) (-1) = fM1 16 from fM1_u])) rfl ?_
  refine kU_ii (vs := [some (.ref 0), some (.int 1), some (.int 15)]) (c := 16) (vs2 := [some (.ref 0), some (.int 1), some (.int 16)]) hC (by omega) rfl rfl rfl rfl rfl rfl rfl ?_
  refine kU_go (pc2 := 326) hC (by omega) rfl rfl ?_
  refine kU_il (b := 16) hC (by omega) rfl rfl rfl ?_
  refine kU_int (v := 17) hC (by omega) rfl rfl (fun _ _ => rfl) ?_
  refine kU_ge (t := 347) (pc2 := 332) hC (by omega) rfl rfl (by decide) ?_
  refine kU_al (b := 0) hC (by omega) rfl rfl rfl ?_
  refine kU_gf (a := 0) (ci := 11) (kk := 11) (t := 9) (v := .ref 5) hC (by omega) rfl rfl (kMem 89 rfl rfl) rfl rfl rfl ?_
  refine kU_il (b := 1) hC (by omega) rfl rfl rfl ?_
  refine kU_aa (a := 5) (t := 4) (M := 2) (b := 7) (g := kL.2.1 5) hC (by omega) rfl (kMem 94 rfl rfl) (kMem 89 rfl rfl) rfl (by decide) (by decide) rfl rfl ?_
  refine kU_il (b := 16) hC (by omega) rfl rfl rfl ?_
  refine kU_int (v := (-1)) hC (by omega) rfl rfl (fun _ _ => rfl) ?_
  refine kU_ia (a := 7) (M := 17) (g := fM1 16) (f2 := (va_up (va_up (va_up (va_up (va_up (j_lay kL (kSc kz_S sc2) (x_mk kz_mr kz_rf) (kAr kz_r0 ar2) kz_al) 10 (.inl (0, (2, .inl (fM1 2))))) 11 (.inl (0, (2, .inl (fM1 2))))) 6 (.inl (0, (17, .inl (fM1 17))))) 7 (.inl (0, (17, .inl (fM1 17))))) 0 (.inr (11, [.int 0, .int 0, .int (-1), .int 0, .int 0, .int 0, .int 0, .int 0, .int 0, .ref 1, .ref 2, .ref 5, .ref 8, .ref 9, .ref 10, .ref 11, .int 0, .int 0, .int 0, .int 0, .ref 12, .ref 13, .int 0, .int 0, .int 0, .int 0, .int 0, .int 0, .int 0, .int (-1), .ref 14, .int 0, .ref 15, .ref 16, .ref 17, .ref 18, .ref 19, .ref 61, .int 0, .ref 102, .ref 103, .ref 104, .ref 105, .ref 106, .ref 107, .ref 708, .ref 709, .ref 710, .int 0, .int 0, .int 0, .int 0, .ref 711, .ref 712, .ref 713, .ref 716, .ref 717, .int 0, .ref 720, .ref 729])))) hC (by omega) rfl (kMem 96 rfl rfl) rfl (by decide) ((va_u3 (by decide)).trans (by rw [show va_up (fM1 16) (iN 16) (-1) = fM1 17 from fM1_u])) rfl ?_
  refine kU_ii (vs := [some (.ref 0), some (.int 1), some (.int 16)]) (c := 17) (vs2 := [some (.ref 0), some (.int 1), some (.int 17)]) hC (by omega) rfl rfl rfl rfl rfl rfl rfl ?_
  refine kU_go (pc2 := 326) hC (by omega) rfl rfl ?_
  refine kU_il (b := 17) hC (by omega) rfl rfl rfl ?_
  refine kU_int (v := 17) hC (by omega) rfl rfl (fun _ _ => rfl) ?_
  refine kU_ge (t := 347) (pc2 := 347) hC (by omega) rfl rfl (by decide) ?_
  refine kU_ii (vs := [some (.ref 0), some (.int 1), some (.int 17)]) (c := 2) (vs2 := [some (.ref 0), some (.int 2), some (.int 17)]) hC (by omega) rfl rfl rfl rfl rfl rfl rfl ?_
  refine kU_go (pc2 := 319) hC (by omega) rfl rfl ?_
  refine kU_il (b := 2) hC (by omega) rfl rfl rfl ?_
  refine kU_int (v := 2) hC (by omega) rfl rfl (fun _ _ => rfl) ?_
  refine kU_ge (t := 353) (pc2 := 353) hC (by omega) rfl rfl (by decide) ?_
  refine kU_eq (f2 := (j_lay kL (kSc kz_S sc2) (x_mk kz_mr kz_rf) (kAr kz_ra ar2) kz_al)) ?_ ?_
  · funext i
    by_cases h0 : i = 0
    · subst h0
      rfl
    by_cases h7 : i = 7
    · subst h7
      rfl
    by_cases h6 : i = 6
    · subst h6
      rfl
    by_cases h11 : i = 11
    · subst h11
      rfl
    by_cases h10 : i = 10
    · subst h10
      rfl
    have kra_e : kAr kz_r0 ar2 i = kAr kz_ra ar2 i := by
      unfold kAr kz_ra kz_r0
      by_cases h : i < 734
      · rw [if_pos h, if_pos h, if_neg (by omega), if_neg (by omega)]
      · rw [if_neg h, if_neg h]
    exact (if_neg h0).trans ((if_neg h7).trans ((if_neg h6).trans ((if_neg h11).trans ((if_neg h10).trans (jlay_c kra_e)))))
  obtain ⟨NN1, rNN1⟩ := gW_r9 (sc0 := fun _ _ => 0) (scv := sc2) (carv := ar2) ((rt_58 (X := gRX) gRX_LK rfl (rf := x_mk kz_mr kz_rf) (x_mk_0 rfl) (d := 0)) (fun _ _ => 0) kz_al _ kz_S kz_ra S1 ra1 h58 ⟨rfl, rfl, rfl, rfl, rfl⟩)
  obtain ⟨NN2, rNN2⟩ := gW_r9 (sc0 := fun _ _ => 0) (scv := sc2) (carv := ar2) ((rt_109 (X := gRX) gRX_LK rfl (rf := x_mk kz_mr kz_rf) (x_mk_0 rfl) (d := 1)) (fun _ _ => 0) kz_al _ S1 ra1 S2 ra2 h109 ⟨rfl, rfl, rfl, rfl, rfl⟩)
  refine kU_al (b := 0) hC (by omega) rfl rfl rfl ?_
  refine kU_callV (q := 58) (na := 0) (a := 0) (mq := 2) (d := 128) (args0 := [.ref 0]) (rest := []) (fs := j_fs kL (kSc kz_S sc2) (x_mk kz_mr kz_rf) 11 0) hC (by omega) rfl (rm_120 g_me_r) rfl rfl rfl (kf_at (kMem 89 rfl rfl) (jl_l rfl)) rfl rfl (kRo_le hRo (by omega) (by omega)) (kRu_le hRu (by omega) (by omega)) rNN1 rfl ?_
  refine kU_al (b := 0) hC (by omega) rfl rfl rfl ?_
  refine kU_callV (q := 109) (na := 0) (a := 0) (mq := 2) (d := 128) (args0 := [.ref 0]) (rest := []) (fs := j_fs kL (kSc S1 sc2) (x_mk kz_mr kz_rf) 11 0) hC (by omega) rfl (rm_123 g_me_r) rfl rfl rfl (kf_at (kMem 89 rfl rfl) (jl_l rfl)) rfl rfl (kRo_le hRo (by omega) (by omega)) (kRu_le hRu (by omega) (by omega)) rNN2 rfl ?_
  exact kU_end hC rfl hE (by omega) (by omega)
