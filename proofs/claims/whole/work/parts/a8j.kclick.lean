/-! THE CONSTRUCTORS (12): ClickOrders. -/
theorem kAl_s (al : jAl) : kAl al al = al := by
  funext a
  unfold kAl
  split <;> rfl
theorem lg_1_39 : Jvm.Cond.classLink "ClickOrders" (13 : Nat) "ClickOrders$Forms" ∈ gB := tb_1 (i := 39) (by decide +kernel) (by decide +kernel)
theorem lg_1_40 : Jvm.Cond.instantiable "ClickOrders$Forms" (12 : Nat) ∈ gB := tb_1 (i := 40) (by decide +kernel) (by decide +kernel)
theorem lg_1_42 : Jvm.Cond.instanceMethod ({ cls := "ClickOrders$Forms", name := "<init>", desc := "()V" } : Jvm.MethodName) ∈ gB := tb_1 (i := 42) (by decide +kernel) (by decide +kernel)
theorem lg_1_43 : Jvm.Cond.code ({ cls := "ClickOrders$Forms", name := "<init>", desc := "()V" } : Jvm.MethodName) prog_2_method_1_code (1 : Nat) (Option.none : Option Jvm.ClassFile.FieldType) ∈ gB := tb_1 (i := 43) (by decide +kernel) (by decide +kernel)
theorem lg_1_89 : Jvm.Cond.classLink "ClickOrders" (20 : Nat) "ClickOrders$Program" ∈ gB := tb_1 (i := 89) (by decide +kernel) (by decide +kernel)
theorem lg_1_90 : Jvm.Cond.instantiable "ClickOrders$Program" (9 : Nat) ∈ gB := tb_1 (i := 90) (by decide +kernel) (by decide +kernel)
theorem lg_1_91 : Jvm.Cond.methodLink "ClickOrders" (22 : Nat) ({ cls := "ClickOrders$Program", name := "<init>", desc := "()V" } : Jvm.MethodName) ∈ gB := tb_1 (i := 91) (by decide +kernel) (by decide +kernel)
theorem lg_1_92 : Jvm.Cond.instanceMethod ({ cls := "ClickOrders$Program", name := "<init>", desc := "()V" } : Jvm.MethodName) ∈ gB := tb_1 (i := 92) (by decide +kernel) (by decide +kernel)
theorem lg_1_93 : Jvm.Cond.code ({ cls := "ClickOrders$Program", name := "<init>", desc := "()V" } : Jvm.MethodName) prog_7_method_1_code (1 : Nat) (Option.none : Option Jvm.ClassFile.FieldType) ∈ gB := tb_1 (i := 93) (by decide +kernel) (by decide +kernel)
theorem lg_1_142 : Jvm.Cond.classLink "ClickOrders" (33 : Nat) "ClickOrders$Reader" ∈ gB := tb_1 (i := 142) (by decide +kernel) (by decide +kernel)
theorem lg_1_143 : Jvm.Cond.instantiable "ClickOrders$Reader" (7 : Nat) ∈ gB := tb_1 (i := 143) (by decide +kernel) (by decide +kernel)
theorem lg_1_144 : Jvm.Cond.methodLink "ClickOrders" (35 : Nat) ({ cls := "ClickOrders$Reader", name := "<init>", desc := "([ILClickOrders$Program;)V" } : Jvm.MethodName) ∈ gB := tb_1 (i := 144) (by decide +kernel) (by decide +kernel)
theorem lg_1_145 : Jvm.Cond.instanceMethod ({ cls := "ClickOrders$Reader", name := "<init>", desc := "([ILClickOrders$Program;)V" } : Jvm.MethodName) ∈ gB := tb_1 (i := 145) (by decide +kernel) (by decide +kernel)
theorem lg_1_146 : Jvm.Cond.code ({ cls := "ClickOrders$Reader", name := "<init>", desc := "([ILClickOrders$Program;)V" } : Jvm.MethodName) prog_8_method_1_code (3 : Nat) (Option.none : Option Jvm.ClassFile.FieldType) ∈ gB := tb_1 (i := 146) (by decide +kernel) (by decide +kernel)
theorem lg_1_171 : Jvm.Cond.classLink "ClickOrders" (42 : Nat) "ClickOrders$Hand" ∈ gB := tb_1 (i := 171) (by decide +kernel) (by decide +kernel)
theorem lg_1_172 : Jvm.Cond.instantiable "ClickOrders$Hand" (10 : Nat) ∈ gB := tb_1 (i := 172) (by decide +kernel) (by decide +kernel)
theorem lg_1_173 : Jvm.Cond.methodLink "ClickOrders" (44 : Nat) ({ cls := "ClickOrders$Hand", name := "<init>", desc := "(LClickOrders$Forms;LClickOrders$Program;)V" } : Jvm.MethodName) ∈ gB := tb_1 (i := 173) (by decide +kernel) (by decide +kernel)
theorem lg_1_174 : Jvm.Cond.instanceMethod ({ cls := "ClickOrders$Hand", name := "<init>", desc := "(LClickOrders$Forms;LClickOrders$Program;)V" } : Jvm.MethodName) ∈ gB := tb_1 (i := 174) (by decide +kernel) (by decide +kernel)
theorem lg_1_175 : Jvm.Cond.code ({ cls := "ClickOrders$Hand", name := "<init>", desc := "(LClickOrders$Forms;LClickOrders$Program;)V" } : Jvm.MethodName) prog_3_method_1_code (3 : Nat) (Option.none : Option Jvm.ClassFile.FieldType) ∈ gB := tb_1 (i := 175) (by decide +kernel) (by decide +kernel)
theorem lg_1_216 : Jvm.Cond.classLink "ClickOrders" (51 : Nat) "ClickOrders$Track" ∈ gB := tb_1 (i := 216) (by decide +kernel) (by decide +kernel)
theorem lg_1_217 : Jvm.Cond.instantiable "ClickOrders$Track" (15 : Nat) ∈ gB := tb_1 (i := 217) (by decide +kernel) (by decide +kernel)
theorem lg_1_218 : Jvm.Cond.methodLink "ClickOrders" (53 : Nat) ({ cls := "ClickOrders$Track", name := "<init>", desc := "(LClickOrders$Hand;)V" } : Jvm.MethodName) ∈ gB := tb_1 (i := 218) (by decide +kernel) (by decide +kernel)
theorem lg_1_219 : Jvm.Cond.instanceMethod ({ cls := "ClickOrders$Track", name := "<init>", desc := "(LClickOrders$Hand;)V" } : Jvm.MethodName) ∈ gB := tb_1 (i := 219) (by decide +kernel) (by decide +kernel)
theorem lg_1_220 : Jvm.Cond.code ({ cls := "ClickOrders$Track", name := "<init>", desc := "(LClickOrders$Hand;)V" } : Jvm.MethodName) prog_11_method_1_code (2 : Nat) (Option.none : Option Jvm.ClassFile.FieldType) ∈ gB := tb_1 (i := 220) (by decide +kernel) (by decide +kernel)
theorem lg_2_49 : Jvm.Cond.classLink "ClickOrders" (60 : Nat) "ClickOrders$Search" ∈ gB := tb_2 (i := 49) (by decide +kernel) (by decide +kernel)
theorem lg_2_50 : Jvm.Cond.instantiable "ClickOrders$Search" (19 : Nat) ∈ gB := tb_2 (i := 50) (by decide +kernel) (by decide +kernel)
theorem lg_2_51 : Jvm.Cond.methodLink "ClickOrders" (62 : Nat) ({ cls := "ClickOrders$Search", name := "<init>", desc := "(LClickOrders$Hand;)V" } : Jvm.MethodName) ∈ gB := tb_2 (i := 51) (by decide +kernel) (by decide +kernel)
theorem lg_2_52 : Jvm.Cond.instanceMethod ({ cls := "ClickOrders$Search", name := "<init>", desc := "(LClickOrders$Hand;)V" } : Jvm.MethodName) ∈ gB := tb_2 (i := 52) (by decide +kernel) (by decide +kernel)
theorem lg_2_53 : Jvm.Cond.code ({ cls := "ClickOrders$Search", name := "<init>", desc := "(LClickOrders$Hand;)V" } : Jvm.MethodName) prog_10_method_1_code (2 : Nat) (Option.none : Option Jvm.ClassFile.FieldType) ∈ gB := tb_2 (i := 53) (by decide +kernel) (by decide +kernel)
theorem lg_2_146 : Jvm.Cond.classLink "ClickOrders" (67 : Nat) "ClickOrders$Pair" ∈ gB := tb_2 (i := 146) (by decide +kernel) (by decide +kernel)
theorem lg_2_147 : Jvm.Cond.instantiable "ClickOrders$Pair" (6 : Nat) ∈ gB := tb_2 (i := 147) (by decide +kernel) (by decide +kernel)
theorem lg_2_148 : Jvm.Cond.methodLink "ClickOrders" (69 : Nat) ({ cls := "ClickOrders$Pair", name := "<init>", desc := "(LClickOrders$Hand;)V" } : Jvm.MethodName) ∈ gB := tb_2 (i := 148) (by decide +kernel) (by decide +kernel)
theorem lg_2_149 : Jvm.Cond.instanceMethod ({ cls := "ClickOrders$Pair", name := "<init>", desc := "(LClickOrders$Hand;)V" } : Jvm.MethodName) ∈ gB := tb_2 (i := 149) (by decide +kernel) (by decide +kernel)
theorem lg_2_150 : Jvm.Cond.code ({ cls := "ClickOrders$Pair", name := "<init>", desc := "(LClickOrders$Hand;)V" } : Jvm.MethodName) prog_6_method_1_code (3 : Nat) (Option.none : Option Jvm.ClassFile.FieldType) ∈ gB := tb_2 (i := 150) (by decide +kernel) (by decide +kernel)
theorem lg_2_175 : Jvm.Cond.classLink "ClickOrders" (74 : Nat) "ClickOrders$Row" ∈ gB := tb_2 (i := 175) (by decide +kernel) (by decide +kernel)
theorem lg_2_176 : Jvm.Cond.instantiable "ClickOrders$Row" (4 : Nat) ∈ gB := tb_2 (i := 176) (by decide +kernel) (by decide +kernel)
theorem lg_2_177 : Jvm.Cond.methodLink "ClickOrders" (76 : Nat) ({ cls := "ClickOrders$Row", name := "<init>", desc := "(LClickOrders$Hand;)V" } : Jvm.MethodName) ∈ gB := tb_2 (i := 177) (by decide +kernel) (by decide +kernel)
theorem lg_2_178 : Jvm.Cond.instanceMethod ({ cls := "ClickOrders$Row", name := "<init>", desc := "(LClickOrders$Hand;)V" } : Jvm.MethodName) ∈ gB := tb_2 (i := 178) (by decide +kernel) (by decide +kernel)
theorem lg_2_179 : Jvm.Cond.code ({ cls := "ClickOrders$Row", name := "<init>", desc := "(LClickOrders$Hand;)V" } : Jvm.MethodName) prog_9_method_1_code (2 : Nat) (Option.none : Option Jvm.ClassFile.FieldType) ∈ gB := tb_2 (i := 179) (by decide +kernel) (by decide +kernel)
theorem kdf_0 : ∀ j, j < 12 → defaultValue (cY_0 j) = vp_V [.null, .null, .null, .null, .null, .int 0, .int 0, .int 0, .int 0, .null, .null, .int 0] j := fun j hj => by
  match j, hj with
  | 0, _ => rfl
  | 1, _ => rfl
  | 2, _ => rfl
  | 3, _ => rfl
  | 4, _ => rfl
  | 5, _ => rfl
  | 6, _ => rfl
  | 7, _ => rfl
  | 8, _ => rfl
  | 9, _ => rfl
  | 10, _ => rfl
  | 11, _ => rfl
  | j + 12, h => exact absurd h (by omega)
theorem kdf_1 : ∀ j, j < 10 → defaultValue (cY_1 j) = vp_V [.null, .null, .null, .int 0, .int 0, .int 0, .int 0, .int 0, .int 0, .int 0] j := fun j hj => by
  match j, hj with
  | 0, _ => rfl
  | 1, _ => rfl
  | 2, _ => rfl
  | 3, _ => rfl
  | 4, _ => rfl
  | 5, _ => rfl
  | 6, _ => rfl
  | 7, _ => rfl
  | 8, _ => rfl
  | 9, _ => rfl
  | j + 10, h => exact absurd h (by omega)
theorem kdf_4 : ∀ j, j < 6 → defaultValue (cY_4 j) = vp_V [.null, .int 0, .null, .null, .int 0, .int 0] j := fun j hj => by
  match j, hj with
  | 0, _ => rfl
  | 1, _ => rfl
  | 2, _ => rfl
  | 3, _ => rfl
  | 4, _ => rfl
  | 5, _ => rfl
  | j + 6, h => exact absurd h (by omega)
theorem kdf_5 : ∀ j, j < 9 → defaultValue (cY_5 j) = vp_V [.null, .null, .null, .int 0, .int 0, .int 0, .int 0, .int 0, .int 0] j := fun j hj => by
  match j, hj with
  | 0, _ => rfl
  | 1, _ => rfl
  | 2, _ => rfl
  | 3, _ => rfl
  | 4, _ => rfl
  | 5, _ => rfl
  | 6, _ => rfl
  | 7, _ => rfl
  | 8, _ => rfl
  | j + 9, h => exact absurd h (by omega)
theorem kdf_6 : ∀ j, j < 7 → defaultValue (cY_6 j) = vp_V [.null, .int 0, .int 0, .int 0, .int 0, .null, .int 0] j := fun j hj => by
  match j, hj with
  | 0, _ => rfl
  | 1, _ => rfl
  | 2, _ => rfl
  | 3, _ => rfl
  | 4, _ => rfl
  | 5, _ => rfl
  | 6, _ => rfl
  | j + 7, h => exact absurd h (by omega)
theorem kdf_7 : ∀ j, j < 4 → defaultValue (cY_7 j) = vp_V [.null, .int 0, .null, .null] j := fun j hj => by
  match j, hj with
  | 0, _ => rfl
  | 1, _ => rfl
  | 2, _ => rfl
  | 3, _ => rfl
  | j + 4, h => exact absurd h (by omega)
theorem kdf_8 : ∀ j, j < 19 → defaultValue (cY_8 j) = vp_V [.int 0, .int 0, .null, .null, .null, .null, .null, .null, .null, .null, .null, .null, .null, .int 0, .int 0, .int 0, .int 0, .null, .int 0] j := fun j hj => by
  match j, hj with
  | 0, _ => rfl
  | 1, _ => rfl
  | 2, _ => rfl
  | 3, _ => rfl
  | 4, _ => rfl
  | 5, _ => rfl
  | 6, _ => rfl
  | 7, _ => rfl
  | 8, _ => rfl
  | 9, _ => rfl
  | 10, _ => rfl
  | 11, _ => rfl
  | 12, _ => rfl
  | 13, _ => rfl
  | 14, _ => rfl
  | 15, _ => rfl
  | 16, _ => rfl
  | 17, _ => rfl
  | 18, _ => rfl
  | j + 19, h => exact absurd h (by omega)
theorem kdf_9 : ∀ j, j < 15 → defaultValue (cY_9 j) = vp_V [.null, .null, .null, .null, .null, .int 0, .null, .null, .null, .null, .null, .null, .int 0, .null, .int 0] j := fun j hj => by
  match j, hj with
  | 0, _ => rfl
  | 1, _ => rfl
  | 2, _ => rfl
  | 3, _ => rfl
  | 4, _ => rfl
  | 5, _ => rfl
  | 6, _ => rfl
  | 7, _ => rfl
  | 8, _ => rfl
  | 9, _ => rfl
  | 10, _ => rfl
  | 11, _ => rfl
  | 12, _ => rfl
  | 13, _ => rfl
  | 14, _ => rfl
  | j + 15, h => exact absurd h (by omega)
set_option maxHeartbeats 8000000 in
set_option maxRecDepth 20000 in
theorem ki_10 (l : Launch) {sc1 ar1 sc2 ar2 : jSc} (h298 : xF_298 kz_sc kz_mr kz_ar kz_al = some (sc1, kz_mr, ar1, kz_al)) (h244 : xF_244 sc1 kz_mr ar1 kz_al = some (sc2, kz_mr, ar2, kz_al)) : kIm l (⟨"ClickOrders", "<init>", "()V"⟩ : MethodName) prog_1_method_1_code 1 25 961 [.ref 734] 1 89 123114 (va_up kF 734 (.inr (10, [.null, .null, .null, .null, .null, .null, .null, .null, .null, .null, .null, .int 0, .int 0, .int 0, .int 0]))) (j_lay kL (kSc kz_S sc2) (x_mk kz_mr kz_rf) (kAr kz_r0 ar2) kz_al) := by
  refine k_ctor (co := kci_10) (fl := fun x => j_lk xf_10 x) (cn := fun x => j_lk xk_10 x) (by decide) rfl (Nat.le_of_ble_eq_true rfl) kdi_10 (fun x q h => xf_all_10 (x, q) (j_lk_mem h)) (fun x v h => xk_all_10 (x, v) (j_lk_mem h)) (fun G B0 hB => ?_)
  obtain ⟨hC, hPg, hRo, hRu, hE⟩ := hB
  refine kU_lv (lv2 := l_at [some (.ref 734)]) (fun j v hj => by
    match j, hj with
    | 0, hj => exact hj
    | j + 1, hj => cases hj) ?_
  refine kU_al (b := 734) hC (by omega) rfl rfl rfl ?_
  refine kU_objI hC (kRo_le hRo (by omega) (by omega)) rfl ko_l10 ko_1 ko_2 rfl ?_
  refine kU_al (b := 734) hC (by omega) rfl rfl rfl ?_
  refine kU_int (v := 600) hC (by omega) rfl rfl (fun _ _ => rfl) ?_
  refine kU_na (t := 0) (M := 600) (ty := .int) (a0 := (600, .inl fun _ => 0)) hC (by omega) rfl rfl kn_i (fun _ _ => rfl) kra_i (fun _ => rfl) (fun _ => rfl) (by decide) (by decide) (by decide) rfl (kRu_le hRu (by omega) (by omega)) rfl ?_
  refine kU_pf9 (a := 734) (kk := 0) (f2 := (va_up kF 734 (.inr (10, [.ref 735, .null, .null, .null, .null, .null, .null, .null, .null, .null, .null, .int 0, .int 0, .int 0, .int 0])))) hC hPg (by omega) rfl rfl (kMem 0 rfl rfl) rfl rfl (fun C Tt M h => by cases h; exact ⟨rfl, rfl, _, rfl, fun _ => ⟨rfl, rfl⟩⟩) va_us rfl ?_
  refine kU_al (b := 734) hC (by omega) rfl rfl rfl ?_
  refine kU_new (ci := 0) (C := "ClickOrders$Forms") (Tt := cT_0) (M := 12) (ty0 := cY_0) (fs := [.null, .null, .null, .null, .null, .int 0, .int 0, .int 0, .int 0, .null, .null, .int 0]) hC (by omega) rfl rfl lg_1_39 lg_1_40 bw_1_2 cB_0 cP_0 (fun j hj => kdf_0 j hj) (fun _ => rfl) (kRu_le hRu (by omega) (by omega)) ?_
  refine kU_dup hC (by omega) rfl rfl rfl ?_
  refine kU_initN (N := 3) (N' := 10) (na := 0) (as := []) (a := 736) (rest := .ref 736 :: [.ref 734]) (fr := 1) (lo := 20) (sl := 160) hC (Or.inl hPg) rfl (fun l => ki_0 l (N := 3) (a := 736) (by decide) (kMem 2 rfl rfl) rfl) (by simp [kNe]) lg_1_42 bw_1_2 lg_1_43 rfl rfl (by decide) (by decide) (by decide) rfl rfl (kRo_le hRo (by omega) (by omega)) (kRu_le hRu (by omega) (by omega)) ?_
  refine kU_eq (f2 := (va_up kF 734 (.inr (10, [.ref 735, .null, .null, .null, .null, .null, .null, .null, .null, .null, .null, .int 0, .int 0, .int 0, .int 0])))) ?_ ?_
  · funext i
    by_cases h736 : i = 736
    · subst h736
      rfl
    by_cases h743 : i = 743
    · subst h743
      rfl
    by_cases h742 : i = 742
    · subst h742
      rfl
    by_cases h741 : i = 741
    · subst h741
      rfl
    by_cases h740 : i = 740
    · subst h740
      rfl
    by_cases h739 : i = 739
    · subst h739
      rfl
    by_cases h738 : i = 738
    · subst h738
      rfl
    by_cases h737 : i = 737
    · subst h737
      rfl
    exact (if_neg h736).trans ((if_neg h743).trans ((if_neg h742).trans ((if_neg h741).trans ((if_neg h740).trans ((if_neg h739).trans ((if_neg h738).trans ((if_neg h737).trans ((if_neg h736).trans (rfl)))))))))
  refine kU_pf9 (a := 734) (kk := 1) (f2 := (va_up kF 734 (.inr (10, [.ref 735, .ref 736, .null, .null, .null, .null, .null, .null, .null, .null, .null, .int 0, .int 0, .int 0, .int 0])))) hC hPg (by omega) rfl rfl (kMem 0 rfl rfl) rfl rfl (fun C Tt M h => by cases h; exact ⟨rfl, rfl, _, rfl, fun _ => ⟨rfl, rfl⟩⟩) va_us rfl ?_
  refine kU_al (b := 734) hC (by omega) rfl rfl rfl ?_
  refine kU_new (ci := 5) (C := "ClickOrders$Program") (Tt := cT_5) (M := 9) (ty0 := cY_5) (fs := [.null, .null, .null, .int 0, .int 0, .int 0, .int 0, .int 0, .int 0]) hC (by omega) rfl rfl lg_1_89 lg_1_90 bw_1_3 cB_5 cP_5 (fun j hj => kdf_5 j hj) (fun _ => rfl) (kRu_le hRu (by omega) (by omega)) ?_
  refine kU_dup hC (by omega) rfl rfl rfl ?_
  refine kU_init (N := 11) (N' := 14) (na := 0) (as := []) (a := 744) (rest := .ref 744 :: [.ref 734]) (fr := 6) (lo := 200) (sl := 1417) hC (Or.inl hPg) rfl (fun l => ki_5 l (N := 11) (a := 744) (by decide) (kMem 10 rfl rfl) rfl) lg_1_91 lg_1_92 bw_1_3 lg_1_93 rfl rfl (by decide) (by decide) (by decide) rfl rfl (kRo_le hRo (by omega) (by omega)) (kRu_le hRu (by omega) (by omega)) ?_
  refine kU_eq (f2 := (va_up kF 734 (.inr (10, [.ref 735, .ref 736, .null, .null, .null, .null, .null, .null, .null, .null, .null, .int 0, .int 0, .int 0, .int 0])))) ?_ ?_
  · funext i
    by_cases h744 : i = 744
    · subst h744
      rfl
    by_cases h747 : i = 747
    · subst h747
      rfl
    by_cases h746 : i = 746
    · subst h746
      rfl
    by_cases h745 : i = 745
    · subst h745
      rfl
    exact (if_neg h744).trans ((if_neg h747).trans ((if_neg h746).trans ((if_neg h745).trans ((if_neg h744).trans (rfl)))))
  refine kU_pf (a := 734) (kk := 2) (t := 2) (f2 := (va_up kF 734 (.inr (10, [.ref 735, .ref 736, .ref 744, .null, .null, .null, .null, .null, .null, .null, .null, .int 0, .int 0, .int 0, .int 0])))) hC (by omega) rfl rfl (kMem 0 rfl rfl) rfl rfl rfl va_us rfl ?_
  refine kU_al (b := 734) hC (by omega) rfl rfl rfl ?_
  refine kU_new (ci := 5) (C := "ClickOrders$Program") (Tt := cT_5) (M := 9) (ty0 := cY_5) (fs := [.null, .null, .null, .int 0, .int 0, .int 0, .int 0, .int 0, .int 0]) hC (by omega) rfl rfl lg_1_89 lg_1_90 bw_1_3 cB_5 cP_5 (fun j hj => kdf_5 j hj) (fun _ => rfl) (kRu_le hRu (by omega) (by omega)) ?_
  refine kU_dup hC (by omega) rfl rfl rfl ?_
  refine kU_init (N := 15) (N' := 18) (na := 0) (as := []) (a := 748) (rest := .ref 748 :: [.ref 734]) (fr := 6) (lo := 200) (sl := 1417) hC (Or.inl hPg) rfl (fun l => ki_5 l (N := 15) (a := 748) (by decide) (kMem 14 rfl rfl) rfl) lg_1_91 lg_1_92 bw_1_3 lg_1_93 rfl rfl (by decide) (by decide) (by decide) rfl rfl (kRo_le hRo (by omega) (by omega)) (kRu_le hRu (by omega) (by omega)) ?_
  refine kU_eq (f2 := (va_up kF 734 (.inr (10, [.ref 735, .ref 736, .ref 744, .null, .null, .null, .null, .null, .null, .null, .null, .int 0, .int 0, .int 0, .int 0])))) ?_ ?_
  · funext i
    by_cases h748 : i = 748
    · subst h748
      rfl
    by_cases h751 : i = 751
    · subst h751
      rfl
    by_cases h750 : i = 750
    · subst h750
      rfl
    by_cases h749 : i = 749
    · subst h749
      rfl
    exact (if_neg h748).trans ((if_neg h751).trans ((if_neg h750).trans ((if_neg h749).trans ((if_neg h748).trans (rfl)))))
  refine kU_pf (a := 734) (kk := 3) (t := 2) (f2 := (va_up kF 734 (.inr (10, [.ref 735, .ref 736, .ref 744, .ref 748, .null, .null, .null, .null, .null, .null, .null, .int 0, .int 0, .int 0, .int 0])))) hC (by omega) rfl rfl (kMem 0 rfl rfl) rfl rfl rfl va_us rfl ?_
  refine kU_al (b := 734) hC (by omega) rfl rfl rfl ?_
  refine kU_new (ci := 5) (C := "ClickOrders$Program") (Tt := cT_5) (M := 9) (ty0 := cY_5) (fs := [.null, .null, .null, .int 0, .int 0, .int 0, .int 0, .int 0, .int 0]) hC (by omega) rfl rfl lg_1_89 lg_1_90 bw_1_3 cB_5 cP_5 (fun j hj => kdf_5 j hj) (fun _ => rfl) (kRu_le hRu (by omega) (by omega)) ?_
  refine kU_dup hC (by omega) rfl rfl rfl ?_
  refine kU_init (N := 19) (N' := 22) (na := 0) (as := []) (a := 752) (rest := .ref 752 :: [.ref 734]) (fr := 6) (lo := 200) (sl := 1417) hC (Or.inl hPg) rfl (fun l => ki_5 l (N := 19) (a := 752) (by decide) (kMem 18 rfl rfl) rfl) lg_1_91 lg_1_92 bw_1_3 lg_1_93 rfl rfl (by decide) (by decide) (by decide) rfl rfl (kRo_le hRo (by omega) (by omega)) (kRu_le hRu (by omega) (by omega)) ?_
  refine kU_eq (f2 := (va_up kF 734 (.inr (10, [.ref 735, .ref 736, .ref 744, .ref 748, .null, .null, .null, .null, .null, .null, .null, .int 0, .int 0, .int 0, .int 0])))) ?_ ?_
  · funext i
    by_cases h752 : i = 752
    · subst h752
      rfl
    by_cases h755 : i = 755
    · subst h755
      rfl
    by_cases h754 : i = 754
    · subst h754
      rfl
    by_cases h753 : i = 753
    · subst h753
      rfl
    exact (if_neg h752).trans ((if_neg h755).trans ((if_neg h754).trans ((if_neg h753).trans ((if_neg h752).trans (rfl)))))
  refine kU_pf (a := 734) (kk := 4) (t := 2) (f2 := (va_up kF 734 (.inr (10, [.ref 735, .ref 736, .ref 744, .ref 748, .ref 752, .null, .null, .null, .null, .null, .null, .int 0, .int 0, .int 0, .int 0])))) hC (by omega) rfl rfl (kMem 0 rfl rfl) rfl rfl rfl va_us rfl ?_
  refine kU_al (b := 734) hC (by omega) rfl rfl rfl ?_
  refine kU_new (ci := 6) (C := "ClickOrders$Reader") (Tt := cT_6) (M := 7) (ty0 := cY_6) (fs := [.null, .int 0, .int 0, .int 0, .int 0, .null, .int 0]) hC (by omega) rfl rfl lg_1_142 lg_1_143 bw_1_5 cB_6 cP_6 (fun j hj => kdf_6 j hj) (fun _ => rfl) (kRu_le hRu (by omega) (by omega)) ?_
  refine kU_dup hC (by omega) rfl rfl rfl ?_
  refine kU_al (b := 734) hC (by omega) rfl rfl rfl ?_
  refine kU_gf (a := 734) (ci := 10) (kk := 0) (t := 9) (v := .ref 735) hC (by omega) rfl rfl (kMem 0 rfl rfl) rfl rfl rfl ?_
  refine kU_al (b := 734) hC (by omega) rfl rfl rfl ?_
  refine kU_gf (a := 734) (ci := 10) (kk := 4) (t := 2) (v := .ref 752) hC (by omega) rfl rfl (kMem 0 rfl rfl) rfl rfl rfl ?_
  refine kU_init (N := 23) (N' := 23) (na := 2) (as := [.ref 735, .ref 752]) (a := 756) (rest := .ref 756 :: [.ref 734]) (fr := 1) (lo := 20) (sl := 0) hC (Or.inl hPg) rfl (fun l => ki_6 l (N := 23) (a := 756) (by decide) (kMem 22 rfl rfl) rfl) lg_1_144 lg_1_145 bw_1_5 lg_1_146 rfl rfl (by decide) (by decide) (by decide) rfl rfl (kRo_le hRo (by omega) (by omega)) (kRu_le hRu (by omega) (by omega)) ?_
  refine kU_eq (f2 := (va_up kF 734 (.inr (10, [.ref 735, .ref 736, .ref 744, .ref 748, .ref 752, .null, .null, .null, .null, .null, .null, .int 0, .int 0, .int 0, .int 0])))) ?_ ?_
  · funext i
    by_cases h756 : i = 756
    · subst h756
      rfl
    exact (if_neg h756).trans ((if_neg h756).trans (rfl))
  refine kU_pf9 (a := 734) (kk := 5) (f2 := (va_up kF 734 (.inr (10, [.ref 735, .ref 736, .ref 744, .ref 748, .ref 752, .ref 756, .null, .null, .null, .null, .null, .int 0, .int 0, .int 0, .int 0])))) hC hPg (by omega) rfl rfl (kMem 0 rfl rfl) rfl rfl (fun C Tt M h => by cases h; exact ⟨rfl, rfl, _, rfl, fun _ => ⟨rfl, rfl⟩⟩) va_us rfl ?_
  refine kU_al (b := 734) hC (by omega) rfl rfl rfl ?_
  refine kU_new (ci := 1) (C := "ClickOrders$Hand") (Tt := cT_1) (M := 10) (ty0 := cY_1) (fs := [.null, .null, .null, .int 0, .int 0, .int 0, .int 0, .int 0, .int 0, .int 0]) hC (by omega) rfl rfl lg_1_171 lg_1_172 bw_1_6 cB_1 cP_1 (fun j hj => kdf_1 j hj) (fun _ => rfl) (kRu_le hRu (by omega) (by omega)) ?_
  refine kU_dup hC (by omega) rfl rfl rfl ?_
  refine kU_al (b := 734) hC (by omega) rfl rfl rfl ?_
  refine kU_gf (a := 734) (ci := 10) (kk := 1) (t := 9) (v := .ref 736) hC (by omega) rfl rfl (kMem 0 rfl rfl) rfl rfl rfl ?_
  refine kU_al (b := 734) hC (by omega) rfl rfl rfl ?_
  refine kU_gf (a := 734) (ci := 10) (kk := 2) (t := 2) (v := .ref 744) hC (by omega) rfl rfl (kMem 0 rfl rfl) rfl rfl rfl ?_
  refine kU_init (N := 24) (N' := 25) (na := 2) (as := [.ref 736, .ref 744]) (a := 757) (rest := .ref 757 :: [.ref 734]) (fr := 1) (lo := 20) (sl := 64) hC (Or.inl hPg) rfl (fun l => ki_1 l (N := 24) (a := 757) (by decide) (kMem 23 rfl rfl) rfl) lg_1_173 lg_1_174 bw_1_6 lg_1_175 rfl rfl (by decide) (by decide) (by decide) rfl rfl (kRo_le hRo (by omega) (by omega)) (kRu_le hRu (by omega) (by omega)) ?_
  refine kU_eq (f2 := (va_up kF 734 (.inr (10, [.ref 735, .ref 736, .ref 744, .ref 748, .ref 752, .ref 756, .null, .null, .null, .null, .null, .int 0, .int 0, .int 0, .int 0])))) ?_ ?_
  · funext i
    by_cases h757 : i = 757
    · subst h757
      rfl
    by_cases h758 : i = 758
    · subst h758
      rfl
    exact (if_neg h757).trans ((if_neg h758).trans ((if_neg h757).trans (rfl)))
  refine kU_pf9 (a := 734) (kk := 6) (f2 := (va_up kF 734 (.inr (10, [.ref 735, .ref 736, .ref 744, .ref 748, .ref 752, .ref 756, .ref 757, .null, .null, .null, .null, .int 0, .int 0, .int 0, .int 0])))) hC hPg (by omega) rfl rfl (kMem 0 rfl rfl) rfl rfl (fun C Tt M h => by cases h; exact ⟨rfl, rfl, _, rfl, fun _ => ⟨rfl, rfl⟩⟩) va_us rfl ?_
  refine kU_al (b := 734) hC (by omega) rfl rfl rfl ?_
  refine kU_new (ci := 9) (C := "ClickOrders$Track") (Tt := cT_9) (M := 15) (ty0 := cY_9) (fs := [.null, .null, .null, .null, .null, .int 0, .null, .null, .null, .null, .null, .null, .int 0, .null, .int 0]) hC (by omega) rfl rfl lg_1_216 lg_1_217 bw_1_7 cB_9 cP_9 (fun j hj => kdf_9 j hj) (fun _ => rfl) (kRu_le hRu (by omega) (by omega)) ?_
  refine kU_dup hC (by omega) rfl rfl rfl ?_
  refine kU_al (b := 734) hC (by omega) rfl rfl rfl ?_
  refine kU_gf (a := 734) (ci := 10) (kk := 6) (t := 9) (v := .ref 757) hC (by omega) rfl rfl (kMem 0 rfl rfl) rfl rfl rfl ?_
  refine kU_init (N := 26) (N' := 39) (na := 1) (as := [.ref 757]) (a := 759) (rest := .ref 759 :: [.ref 734]) (fr := 2) (lo := 40) (sl := 1158) hC (Or.inl hPg) rfl (fun l => ki_9 l (N := 26) (a := 759) (by decide) (kMem 25 rfl rfl) rfl) lg_1_218 lg_1_219 bw_1_7 lg_1_220 rfl rfl (by decide) (by decide) (by decide) rfl rfl (kRo_le hRo (by omega) (by omega)) (kRu_le hRu (by omega) (by omega)) ?_
  refine kU_eq (f2 := (va_up kF 734 (.inr (10, [.ref 735, .ref 736, .ref 744, .ref 748, .ref 752, .ref 756, .ref 757, .null, .null, .null, .null, .int 0, .int 0, .int 0, .int 0])))) ?_ ?_
  · funext i
    by_cases h759 : i = 759
    · subst h759
      rfl
    by_cases h772 : i = 772
    · subst h772
      rfl
    by_cases h771 : i = 771
    · subst h771
      rfl
    by_cases h770 : i = 770
    · subst h770
      rfl
    by_cases h769 : i = 769
    · subst h769
      rfl
    by_cases h768 : i = 768
    · subst h768
      rfl
    by_cases h767 : i = 767
    · subst h767
      rfl
    by_cases h766 : i = 766
    · subst h766
      rfl
    by_cases h765 : i = 765
    · subst h765
      rfl
    by_cases h764 : i = 764
    · subst h764
      rfl
    by_cases h763 : i = 763
    · subst h763
      rfl
    by_cases h762 : i = 762
    · subst h762
      rfl
    by_cases h761 : i = 761
    · subst h761
      rfl
    by_cases h760 : i = 760
    · subst h760
      rfl
    exact (if_neg h759).trans ((if_neg h772).trans ((if_neg h771).trans ((if_neg h770).trans ((if_neg h769).trans ((if_neg h768).trans ((if_neg h767).trans ((if_neg h766).trans ((if_neg h765).trans ((if_neg h764).trans ((if_neg h763).trans ((if_neg h762).trans ((if_neg h761).trans ((if_neg h760).trans ((if_neg h759).trans (rfl)))))))))))))))
  refine kU_pf9 (a := 734) (kk := 7) (f2 := (va_up kF 734 (.inr (10, [.ref 735, .ref 736, .ref 744, .ref 748, .ref 752, .ref 756, .ref 757, .ref 759, .null, .null, .null, .int 0, .int 0, .int 0, .int 0])))) hC hPg (by omega) rfl rfl (kMem 0 rfl rfl) rfl rfl (fun C Tt M h => by cases h; exact ⟨rfl, rfl, _, rfl, fun _ => ⟨rfl, rfl⟩⟩) va_us rfl ?_
  refine kU_al (b := 734) hC (by omega) rfl rfl rfl ?_
  refine kU_new (ci := 8) (C := "ClickOrders$Search") (Tt := cT_8) (M := 19) (ty0 := cY_8) (fs := [.int 0, .int 0, .null, .null, .null, .null, .null, .null, .null, .null, .null, .null, .null, .int 0, .int 0, .int 0, .int 0, .null, .int 0]) hC (by omega) rfl rfl lg_2_49 lg_2_50 bw_1_9 cB_8 cP_8 (fun j hj => kdf_8 j hj) (fun _ => rfl) (kRu_le hRu (by omega) (by omega)) ?_
  refine kU_dup hC (by omega) rfl rfl rfl ?_
  refine kU_al (b := 734) hC (by omega) rfl rfl rfl ?_
  refine kU_gf (a := 734) (ci := 10) (kk := 6) (t := 9) (v := .ref 757) hC (by omega) rfl rfl (kMem 0 rfl rfl) rfl rfl rfl ?_
  refine kU_init (N := 40) (N' := 62) (na := 1) (as := [.ref 757]) (a := 773) (rest := .ref 773 :: [.ref 734]) (fr := 2) (lo := 40) (sl := 116160) hC (Or.inl hPg) rfl (fun l => ki_8 l (e := .inr (10, [.ref 735, .ref 736, .ref 744, .ref 748, .ref 752, .ref 756, .ref 757, .ref 759, .null, .null, .null, .int 0, .int 0, .int 0, .int 0]))) lg_2_51 lg_2_52 bw_1_9 lg_2_53 rfl rfl (by decide) (by decide) (by decide) rfl rfl (kRo_le hRo (by omega) (by omega)) (kRu_le hRu (by omega) (by omega)) ?_
  refine kU_pf9 (a := 734) (kk := 8) (f2 := (va_up kF 734 (.inr (10, [.ref 735, .ref 736, .ref 744, .ref 748, .ref 752, .ref 756, .ref 757, .ref 759, .ref 773, .null, .null, .int 0, .int 0, .int 0, .int 0])))) hC hPg (by omega) rfl rfl (kMem 0 rfl rfl) rfl rfl (fun C Tt M h => by cases h; exact ⟨rfl, rfl, _, rfl, fun _ => ⟨rfl, rfl⟩⟩) va_us rfl ?_
  refine kU_al (b := 734) hC (by omega) rfl rfl rfl ?_
  refine kU_new (ci := 4) (C := "ClickOrders$Pair") (Tt := cT_4) (M := 6) (ty0 := cY_4) (fs := [.null, .int 0, .null, .null, .int 0, .int 0]) hC (by omega) rfl rfl lg_2_146 lg_2_147 bw_1_11 cB_4 cP_4 (fun j hj => kdf_4 j hj) (fun _ => rfl) (kRu_le hRu (by omega) (by omega)) ?_
  refine kU_dup hC (by omega) rfl rfl rfl ?_
  refine kU_al (b := 734) hC (by omega) rfl rfl rfl ?_
  refine kU_gf (a := 734) (ci := 10) (kk := 6) (t := 9) (v := .ref 757) hC (by omega) rfl rfl (kMem 0 rfl rfl) rfl rfl rfl ?_
  refine kU_init (N := 63) (N' := 85) (na := 1) (as := [.ref 757]) (a := 796) (rest := .ref 796 :: [.ref 734]) (fr := 2) (lo := 40) (sl := 530) hC (Or.inl hPg) rfl (fun l => ki_4 l (e := .inr (10, [.ref 735, .ref 736, .ref 744, .ref 748, .ref 752, .ref 756, .ref 757, .ref 759, .ref 773, .null, .null, .int 0, .int 0, .int 0, .int 0]))) lg_2_148 lg_2_149 bw_1_11 lg_2_150 rfl rfl (by decide) (by decide) (by decide) rfl rfl (kRo_le hRo (by omega) (by omega)) (kRu_le hRu (by omega) (by omega)) ?_
  refine kU_pf9 (a := 734) (kk := 9) (f2 := (va_up kF 734 (.inr (10, [.ref 735, .ref 736, .ref 744, .ref 748, .ref 752, .ref 756, .ref 757, .ref 759, .ref 773, .ref 796, .null, .int 0, .int 0, .int 0, .int 0])))) hC hPg (by omega) rfl rfl (kMem 0 rfl rfl) rfl rfl (fun C Tt M h => by cases h; exact ⟨rfl, rfl, _, rfl, fun _ => ⟨rfl, rfl⟩⟩) va_us rfl ?_
  refine kU_al (b := 734) hC (by omega) rfl rfl rfl ?_
  refine kU_new (ci := 7) (C := "ClickOrders$Row") (Tt := cT_7) (M := 4) (ty0 := cY_7) (fs := [.null, .int 0, .null, .null]) hC (by omega) rfl rfl lg_2_175 lg_2_176 bw_1_12 cB_7 cP_7 (fun j hj => kdf_7 j hj) (fun _ => rfl) (kRu_le hRu (by omega) (by omega)) ?_
  refine kU_dup hC (by omega) rfl rfl rfl ?_
  refine kU_al (b := 734) hC (by omega) rfl rfl rfl ?_
  refine kU_gf (a := 734) (ci := 10) (kk := 6) (t := 9) (v := .ref 757) hC (by omega) rfl rfl (kMem 0 rfl rfl) rfl rfl rfl ?_
  refine kU_init (N := 86) (N' := 89) (na := 1) (as := [.ref 757]) (a := 819) (rest := .ref 819 :: [.ref 734]) (fr := 2) (lo := 40) (sl := 91) hC (Or.inl hPg) rfl (fun l => ki_7 l (N := 86) (a := 819) (by decide) (kMem 85 rfl rfl) rfl) lg_2_177 lg_2_178 bw_1_12 lg_2_179 rfl rfl (by decide) (by decide) (by decide) rfl rfl (kRo_le hRo (by omega) (by omega)) (kRu_le hRu (by omega) (by omega)) ?_
  refine kU_eq (f2 := (va_up kF 734 (.inr (10, [.ref 735, .ref 736, .ref 744, .ref 748, .ref 752, .ref 756, .ref 757, .ref 759, .ref 773, .ref 796, .null, .int 0, .int 0, .int 0, .int 0])))) ?_ ?_
  · funext i
    by_cases h819 : i = 819
    · subst h819
      rfl
    by_cases h822 : i = 822
    · subst h822
      rfl
    by_cases h821 : i = 821
    · subst h821
      rfl
    by_cases h820 : i = 820
    · subst h820
      rfl
    exact (if_neg h819).trans ((if_neg h822).trans ((if_neg h821).trans ((if_neg h820).trans ((if_neg h819).trans (rfl)))))
  refine kU_pf9 (a := 734) (kk := 10) (f2 := (va_up kF 734 (.inr (10, [.ref 735, .ref 736, .ref 744, .ref 748, .ref 752, .ref 756, .ref 757, .ref 759, .ref 773, .ref 796, .ref 819, .int 0, .int 0, .int 0, .int 0])))) hC hPg (by omega) rfl rfl (kMem 0 rfl rfl) rfl rfl (fun C Tt M h => by cases h; exact ⟨rfl, rfl, _, rfl, fun _ => ⟨rfl, rfl⟩⟩) va_us rfl ?_
  refine kU_al (b := 734) hC (by omega) rfl rfl rfl ?_
  refine kU_int (v := 0) hC (by omega) rfl rfl (fun _ _ => rfl) ?_
  refine kU_pf (a := 734) (kk := 11) (t := 0) (f2 := (va_up kF 734 (.inr (10, [.ref 735, .ref 736, .ref 744, .ref 748, .ref 752, .ref 756, .ref 757, .ref 759, .ref 773, .ref 796, .ref 819, .int 0, .int 0, .int 0, .int 0])))) hC (by omega) rfl rfl (kMem 0 rfl rfl) rfl rfl rfl va_us rfl ?_
  refine kU_al (b := 734) hC (by omega) rfl rfl rfl ?_
  refine kU_int (v := (-1)) hC (by omega) rfl rfl (fun _ _ => rfl) ?_
  refine kU_pf (a := 734) (kk := 12) (t := 0) (f2 := (va_up kF 734 (.inr (10, [.ref 735, .ref 736, .ref 744, .ref 748, .ref 752, .ref 756, .ref 757, .ref 759, .ref 773, .ref 796, .ref 819, .int 0, .int (-1), .int 0, .int 0])))) hC (by omega) rfl rfl (kMem 0 rfl rfl) rfl rfl rfl va_us rfl ?_
  refine kU_al (b := 734) hC (by omega) rfl rfl rfl ?_
  refine kU_int (v := (-1)) hC (by omega) rfl rfl (fun _ _ => rfl) ?_
  refine kU_pf (a := 734) (kk := 13) (t := 0) (f2 := (va_up kF 734 (.inr (10, [.ref 735, .ref 736, .ref 744, .ref 748, .ref 752, .ref 756, .ref 757, .ref 759, .ref 773, .ref 796, .ref 819, .int 0, .int (-1), .int (-1), .int 0])))) hC (by omega) rfl rfl (kMem 0 rfl rfl) rfl rfl rfl va_us rfl ?_
  refine kU_al (b := 734) hC (by omega) rfl rfl rfl ?_
  refine kU_int (v := (-1)) hC (by omega) rfl rfl (fun _ _ => rfl) ?_
  refine kU_pf (a := 734) (kk := 14) (t := 0) (f2 := (va_up kF 734 (.inr (10, [.ref 735, .ref 736, .ref 744, .ref 748, .ref 752, .ref 756, .ref 757, .ref 759, .ref 773, .ref 796, .ref 819, .int 0, .int (-1), .int (-1), .int (-1)])))) hC (by omega) rfl rfl (kMem 0 rfl rfl) rfl rfl rfl va_us rfl ?_
  refine kU_eq (f2 := kF) (va_ui kb_734).symm ?_
  obtain ⟨NN1, r1⟩ := gW_c9 (S := kz_S) (arv := kz_r0) (fun a ha => x_mk_lt ha) ((xt_298 (b := false) (rf := kz_rf) (d := 15)) _ kz_sc kz_mr kz_ar kz_al sc1 kz_mr ar1 kz_al h298 ⟨rfl, rfl, rfl, rfl, rfl⟩)
  obtain ⟨NN2, r2⟩ := gW_c9 (S := kz_S) (arv := kz_r0) (fun a ha => x_mk_lt ha) ((xt_244 (b := false) (rf := kz_rf) (d := 13)) _ sc1 kz_mr ar1 kz_al sc2 kz_mr ar2 kz_al h244 ⟨rfl, rfl, rfl, rfl, rfl⟩)
  rw [kAl_s] at r1 r2
  refine kU_al (b := 734) hC (by omega) rfl rfl rfl ?_
  refine kU_gf (a := 734) (ci := 10) (kk := 7) (t := 9) (v := .ref 759) (fs := [.ref 735, .ref 736, .ref 744, .ref 748, .ref 752, .ref 756, .ref 757, .ref 759, .ref 773, .ref 796, .ref 819, .int 0, .int (-1), .int (-1), .int (-1)]) hC (by omega) rfl rfl (kMem 0 rfl rfl) kb_734 rfl rfl ?_
  refine kU_callV (q := 298) (na := 0) (a := 759) (mq := 1) (d := 20) (args0 := [.ref 759]) (rest := []) (fs := [.ref 760, .ref 762, .ref 763, .ref 764, .ref 765, .int 0, .ref 757, .ref 766, .ref 768, .ref 769, .ref 770, .ref 771, .int 0, .ref 772, .int 0]) hC (by omega) rfl (xm_10_94 g_me_x) rfl rfl rfl (kf_at (kMem 25 rfl rfl) rfl) yx_298 rfl (kRo_le hRo (by omega) (by omega)) (kRu_le hRu (by omega) (by omega)) r1 rfl ?_
  refine kU_al (b := 734) hC (by omega) rfl rfl rfl ?_
  refine kU_gf (a := 734) (ci := 10) (kk := 9) (t := 9) (v := .ref 796) (fs := j_fs kL (kSc kz_S sc1) (x_mk kz_mr kz_rf) 10 734) hC (by omega) rfl rfl (kMem 0 rfl rfl) (jl_l rfl) rfl rfl ?_
  refine kU_callV (q := 244) (na := 0) (a := 796) (mq := 1) (d := 20) (args0 := [.ref 796]) (rest := []) (fs := j_fs kL (kSc kz_S sc1) (x_mk kz_mr kz_rf) 4 796) hC (by omega) rfl (xm_10_97 g_me_x) rfl rfl rfl (kf_at (kMem 62 rfl rfl) (jl_l rfl)) yx_244 rfl (kRo_le hRo (by omega) (by omega)) (kRu_le hRu (by omega) (by omega)) r2 rfl ?_
  exact kU_end hC rfl hE (by omega) (by omega)
