/-! THE CONSTRUCTORS (11): Search, Pair. -/
theorem kar_at {N a t M : Nat} {f : jM} {g : Nat → Option Nat} (h1 : a ∈ kOl N) (h2 : f a = .inl (t, (M, .inr (.inr (.inr (.inr g)))))) : j_ar (kOl N) f a = some (t, M, g) := by
  unfold j_ar
  rw [if_pos h1, h2]
/-- the first i references of the row at a -/
def kpG (a i : Nat) : Nat → Option Nat := fun k => if k < i then x_rr a k else none
theorem kpG_0 {a : Nat} : kpG a 0 = fun _ => none := by
  funext k
  simp [kpG]
theorem kpG_s {a i b : Nat} (h : x_rr a i = some b) : va_up (kpG a i) i (some b) = kpG a (i + 1) := by
  funext k
  unfold va_up kpG
  by_cases h1 : k = i
  · subst h1
    simp [h]
  · have h2 : (k < i + 1) = (k < i) := by
      apply propext
      omega
    simp only [h1, h2, if_false]
theorem kpG_782 : kpG 782 3 = kL.2.1 782 := by
  funext k
  show (if k < 3 then x_rr 782 k else none) = x_rr 782 k
  by_cases h : k < 3
  · rw [if_pos h]
  · rw [if_neg h]
    unfold x_rr
    simp [show ¬ k = 0 by omega, show ¬ k = 1 by omega, show ¬ k = 2 by omega]
theorem kpG_797 : kpG 797 10 = kL.2.1 797 := by
  funext k
  show (if k < 10 then x_rr 797 k else none) = x_rr 797 k
  by_cases h : k < 10
  · rw [if_pos h]
  · rw [if_neg h]
    unfold x_rr
    simp [show ¬ k = 0 by omega, show ¬ k = 1 by omega, show ¬ k = 2 by omega, show ¬ k = 3 by omega, show ¬ k = 4 by omega, show ¬ k = 5 by omega, show ¬ k = 6 by omega, show ¬ k = 7 by omega, show ¬ k = 8 by omega, show ¬ k = 9 by omega]
theorem lf_2_55 : Jvm.Cond.classLink "ClickOrders$Search" (19 : Nat) "ClickOrders$Met" ∈ gB := tb_2 (i := 55) (by decide +kernel) (by decide +kernel)
theorem lf_2_56 : Jvm.Cond.instantiable "ClickOrders$Met" (6 : Nat) ∈ gB := tb_2 (i := 56) (by decide +kernel) (by decide +kernel)
theorem lf_2_58 : Jvm.Cond.instanceMethod ({ cls := "ClickOrders$Met", name := "<init>", desc := "()V" } : Jvm.MethodName) ∈ gB := tb_2 (i := 58) (by decide +kernel) (by decide +kernel)
theorem lf_2_59 : Jvm.Cond.code ({ cls := "ClickOrders$Met", name := "<init>", desc := "()V" } : Jvm.MethodName) prog_4_method_1_code (1 : Nat) (Option.none : Option Jvm.ClassFile.FieldType) ∈ gB := tb_2 (i := 59) (by decide +kernel) (by decide +kernel)
theorem lf_2_82 : Jvm.Cond.classLink "ClickOrders$Search" (26 : Nat) "ClickOrders$Page" ∈ gB := tb_2 (i := 82) (by decide +kernel) (by decide +kernel)
theorem lf_2_152 : Jvm.Cond.classLink "ClickOrders$Pair" (11 : Nat) "ClickOrders$Page" ∈ gB := tb_2 (i := 152) (by decide +kernel) (by decide +kernel)
theorem kdf_2 : ∀ j, j < 6 → defaultValue (cY_2 j) = vp_V [.int 0, .null, .null, .null, .int 0, .int 0] j := fun j hj => by
  match j, hj with
  | 0, _ => rfl
  | 1, _ => rfl
  | 2, _ => rfl
  | 3, _ => rfl
  | 4, _ => rfl
  | 5, _ => rfl
  | j + 6, h => exact absurd h (by omega)
set_option maxHeartbeats 8000000 in
set_option maxRecDepth 20000 in
theorem ki_8 (l : Launch) {e : va_E} : kIm l (⟨"ClickOrders$Search", "<init>", "(LClickOrders$Hand;)V"⟩ : MethodName) prog_10_method_1_code 2 2 40 [.ref 773, .ref 757] 40 62 116160 (va_up (va_up kF 734 e) 773 (.inr (8, [.int 0, .int 0, .null, .null, .null, .null, .null, .null, .null, .null, .null, .null, .null, .int 0, .int 0, .int 0, .int 0, .null, .int 0]))) (va_up kF 734 e) := by
  refine k_ctor (co := kci_8) (fl := fun x => j_lk xf_8 x) (cn := fun x => j_lk xk_8 x) (by decide) rfl (Nat.le_of_ble_eq_true rfl) kdi_8 (fun x q h => xf_all_8 (x, q) (j_lk_mem h)) (fun x v h => xk_all_8 (x, v) (j_lk_mem h)) (fun G B0 hB => ?_)
  obtain ⟨hC, hPg, hRo, hRu, hE⟩ := hB
  refine kU_lv (lv2 := l_at [some (.ref 773), some (.ref 757)]) (fun j v hj => by
    match j, hj with
    | 0, hj => exact hj
    | 1, hj => exact hj
    | j + 2, hj => cases hj) ?_
  refine kU_al (b := 773) hC (by omega) rfl rfl rfl ?_
  refine kU_objI hC (kRo_le hRo (by omega) (by omega)) rfl ko_l8 ko_1 ko_2 rfl ?_
  refine kU_al (b := 773) hC (by omega) rfl rfl rfl ?_
  refine kU_int (v := 0) hC (by omega) rfl rfl (fun _ _ => rfl) ?_
  refine kU_pf (a := 773) (kk := 0) (t := 0) (f2 := (va_up (va_up kF 734 e) 773 (.inr (8, [.int 0, .int 0, .null, .null, .null, .null, .null, .null, .null, .null, .null, .null, .null, .int 0, .int 0, .int 0, .int 0, .null, .int 0])))) hC (by omega) rfl rfl (kMem 39 rfl rfl) rfl rfl rfl va_us rfl ?_
  refine kU_al (b := 773) hC (by omega) rfl rfl rfl ?_
  refine kU_int (v := 0) hC (by omega) rfl rfl (fun _ _ => rfl) ?_
  refine kU_pf (a := 773) (kk := 1) (t := 1) (f2 := (va_up (va_up kF 734 e) 773 (.inr (8, [.int 0, .int 0, .null, .null, .null, .null, .null, .null, .null, .null, .null, .null, .null, .int 0, .int 0, .int 0, .int 0, .null, .int 0])))) hC (by omega) rfl rfl (kMem 39 rfl rfl) rfl rfl rfl va_us rfl ?_
  refine kU_al (b := 773) hC (by omega) rfl rfl rfl ?_
  refine kU_new (ci := 2) (C := "ClickOrders$Met") (Tt := cT_2) (M := 6) (ty0 := cY_2) (fs := [.int 0, .null, .null, .null, .int 0, .int 0]) hC (by omega) rfl rfl lf_2_55 lf_2_56 bw_1_10 cB_2 cP_2 (fun j hj => kdf_2 j hj) (fun _ => rfl) (kRu_le hRu (by omega) (by omega)) ?_
  refine kU_dup hC (by omega) rfl rfl rfl ?_
  refine kU_initN (N := 41) (N' := 44) (na := 0) (as := []) (a := 774) (rest := .ref 774 :: [.ref 773]) (fr := 1) (lo := 20) (sl := 81920) hC (Or.inl hPg) rfl (fun l => ki_2 l (N := 41) (a := 774) (by decide) (kMem 40 rfl rfl) rfl) (by simp [kNe]) lf_2_58 bw_1_10 lf_2_59 rfl rfl (by decide) (by decide) (by decide) rfl rfl (kRo_le hRo (by omega) (by omega)) (kRu_le hRu (by omega) (by omega)) ?_
  refine kU_eq (f2 := (va_up (va_up kF 734 e) 773 (.inr (8, [.int 0, .int 0, .null, .null, .null, .null, .null, .null, .null, .null, .null, .null, .null, .int 0, .int 0, .int 0, .int 0, .null, .int 0])))) ?_ ?_
  · funext i
    by_cases h774 : i = 774
    · subst h774
      rfl
    by_cases h777 : i = 777
    · subst h777
      rfl
    by_cases h776 : i = 776
    · subst h776
      rfl
    by_cases h775 : i = 775
    · subst h775
      rfl
    exact (if_neg h774).trans ((if_neg h777).trans ((if_neg h776).trans ((if_neg h775).trans ((if_neg h774).trans (rfl)))))
  refine kU_pf9 (a := 773) (kk := 3) (f2 := (va_up (va_up kF 734 e) 773 (.inr (8, [.int 0, .int 0, .null, .ref 774, .null, .null, .null, .null, .null, .null, .null, .null, .null, .int 0, .int 0, .int 0, .int 0, .null, .int 0])))) hC hPg (by omega) rfl rfl (kMem 39 rfl rfl) rfl rfl (fun C Tt M h => by cases h; exact ⟨rfl, rfl, _, rfl, fun _ => ⟨rfl, rfl⟩⟩) va_us rfl ?_
  refine kU_al (b := 773) hC (by omega) rfl rfl rfl ?_
  refine kU_pgP (a := 773) (N := 44) hC hPg (by omega) (kMem 39 rfl rfl) rfl rfl rfl lf_2_82 ld_1_223 bw_1_8 (by simp [kNe]) ld_1_225 ld_1_226 rfl (kRo_le hRo (by omega) (by omega)) (kRu_le hRu (by omega) (by omega)) rfl rfl rfl ?_
  refine kU_pf9 (a := 773) (kk := 4) (f2 := (va_up (va_up kF 734 e) 773 (.inr (8, [.int 0, .int 0, .null, .ref 774, .ref 778, .null, .null, .null, .null, .null, .null, .null, .null, .int 0, .int 0, .int 0, .int 0, .null, .int 0])))) hC hPg (by omega) rfl rfl (kMem 39 rfl rfl) rfl rfl (fun C Tt M h => by cases h; exact ⟨rfl, rfl, _, rfl, fun _ => ⟨rfl, rfl⟩⟩) va_us rfl ?_
  refine kU_al (b := 773) hC (by omega) rfl rfl rfl ?_
  refine kU_pgP (a := 773) (N := 46) hC hPg (by omega) (kMem 39 rfl rfl) rfl rfl rfl lf_2_82 ld_1_223 bw_1_8 (by simp [kNe]) ld_1_225 ld_1_226 rfl (kRo_le hRo (by omega) (by omega)) (kRu_le hRu (by omega) (by omega)) rfl rfl rfl ?_
  refine kU_pf9 (a := 773) (kk := 5) (f2 := (va_up (va_up kF 734 e) 773 (.inr (8, [.int 0, .int 0, .null, .ref 774, .ref 778, .ref 780, .null, .null, .null, .null, .null, .null, .null, .int 0, .int 0, .int 0, .int 0, .null, .int 0])))) hC hPg (by omega) rfl rfl (kMem 39 rfl rfl) rfl rfl (fun C Tt M h => by cases h; exact ⟨rfl, rfl, _, rfl, fun _ => ⟨rfl, rfl⟩⟩) va_us rfl ?_
  refine kU_al (b := 773) hC (by omega) rfl rfl rfl ?_
  refine kU_int (v := 3) hC (by omega) rfl rfl (fun _ _ => rfl) ?_
  refine kU_anew (M := 3) hC hPg (by omega) rfl lf_2_82 (by decide) (by decide) (by decide) (kRu_le hRu (by omega) (by omega)) ?_
  refine kU_eq (f2 := (va_up (va_up (va_up kF 734 e) 782 (.inl (3, (3, .inr (.inr (.inr (.inr (kpG 782 0)))))))) 773 (.inr (8, [.int 0, .int 0, .null, .ref 774, .ref 778, .ref 780, .null, .null, .null, .null, .null, .null, .null, .int 0, .int 0, .int 0, .int 0, .null, .int 0])))) ((va_uc (by decide)).trans (by rw [kpG_0]; rfl)) ?_
  refine kU_dup hC (by omega) rfl rfl rfl ?_
  refine kU_int (v := 0) hC (by omega) rfl rfl (fun _ _ => rfl) ?_
  refine kU_pgP (a := 773) (N := 49) hC hPg (by omega) (kMem 39 rfl rfl) rfl rfl rfl lf_2_82 ld_1_223 bw_1_8 (by simp [kNe]) ld_1_225 ld_1_226 rfl (kRo_le hRo (by omega) (by omega)) (kRu_le hRu (by omega) (by omega)) rfl rfl rfl ?_
  refine kU_aast (a := 782) (v := 783) (M := 3) (x := 0) (g := kpG 782 0) hC hPg (by omega) rfl (kar_at (kMem 48 rfl rfl) rfl) (kf_at (kMem 49 rfl rfl) rfl) (by decide) ?_
  refine kU_eq (f2 := (va_up (va_up (va_up kF 734 e) 782 (.inl (3, (3, .inr (.inr (.inr (.inr (kpG 782 1)))))))) 773 (.inr (8, [.int 0, .int 0, .null, .ref 774, .ref 778, .ref 780, .null, .null, .null, .null, .null, .null, .null, .int 0, .int 0, .int 0, .int 0, .null, .int 0])))) ((va_u3 (by decide)).trans (by rw [show va_up (kpG 782 0) (iN 0) (some 783) = kpG 782 1 from kpG_s (by decide)])) ?_
  refine kU_dup hC (by omega) rfl rfl rfl ?_
  refine kU_int (v := 1) hC (by omega) rfl rfl (fun _ _ => rfl) ?_
  refine kU_pgP (a := 773) (N := 51) hC hPg (by omega) (kMem 39 rfl rfl) rfl rfl rfl lf_2_82 ld_1_223 bw_1_8 (by simp [kNe]) ld_1_225 ld_1_226 rfl (kRo_le hRo (by omega) (by omega)) (kRu_le hRu (by omega) (by omega)) rfl rfl rfl ?_
  refine kU_aast (a := 782) (v := 785) (M := 3) (x := 1) (g := kpG 782 1) hC hPg (by omega) rfl (kar_at (kMem 48 rfl rfl) rfl) (kf_at (kMem 51 rfl rfl) rfl) (by decide) ?_
  refine kU_eq (f2 := (va_up (va_up (va_up kF 734 e) 782 (.inl (3, (3, .inr (.inr (.inr (.inr (kpG 782 2)))))))) 773 (.inr (8, [.int 0, .int 0, .null, .ref 774, .ref 778, .ref 780, .null, .null, .null, .null, .null, .null, .null, .int 0, .int 0, .int 0, .int 0, .null, .int 0])))) ((va_u3 (by decide)).trans (by rw [show va_up (kpG 782 1) (iN 1) (some 785) = kpG 782 2 from kpG_s (by decide)])) ?_
  refine kU_dup hC (by omega) rfl rfl rfl ?_
  refine kU_int (v := 2) hC (by omega) rfl rfl (fun _ _ => rfl) ?_
  refine kU_pgP (a := 773) (N := 53) hC hPg (by omega) (kMem 39 rfl rfl) rfl rfl rfl lf_2_82 ld_1_223 bw_1_8 (by simp [kNe]) ld_1_225 ld_1_226 rfl (kRo_le hRo (by omega) (by omega)) (kRu_le hRu (by omega) (by omega)) rfl rfl rfl ?_
  refine kU_aast (a := 782) (v := 787) (M := 3) (x := 2) (g := kpG 782 2) hC hPg (by omega) rfl (kar_at (kMem 48 rfl rfl) rfl) (kf_at (kMem 53 rfl rfl) rfl) (by decide) ?_
  refine kU_eq (f2 := (va_up (va_up (va_up kF 734 e) 782 (.inl (3, (3, .inr (.inr (.inr (.inr (kpG 782 3)))))))) 773 (.inr (8, [.int 0, .int 0, .null, .ref 774, .ref 778, .ref 780, .null, .null, .null, .null, .null, .null, .null, .int 0, .int 0, .int 0, .int 0, .null, .int 0])))) ((va_u3 (by decide)).trans (by rw [show va_up (kpG 782 2) (iN 2) (some 787) = kpG 782 3 from kpG_s (by decide)])) ?_
  refine kU_eq (f2 := (va_up (va_up kF 734 e) 773 (.inr (8, [.int 0, .int 0, .null, .ref 774, .ref 778, .ref 780, .null, .null, .null, .null, .null, .null, .null, .int 0, .int 0, .int 0, .int 0, .null, .int 0])))) (by rw [kpG_782, ← va_ui (kb_782 : (va_up kF 734 e) 782 = _)]) ?_
  refine kU_pf9 (a := 773) (kk := 6) (f2 := (va_up (va_up kF 734 e) 773 (.inr (8, [.int 0, .int 0, .null, .ref 774, .ref 778, .ref 780, .ref 782, .null, .null, .null, .null, .null, .null, .int 0, .int 0, .int 0, .int 0, .null, .int 0])))) hC hPg (by omega) rfl rfl (kMem 39 rfl rfl) rfl rfl (fun C Tt M h => by cases h; exact ⟨rfl, rfl, _, rfl, fun _ => ⟨rfl, rfl⟩⟩) va_us rfl ?_
  refine kU_al (b := 773) hC (by omega) rfl rfl rfl ?_
  refine kU_int (v := 600) hC (by omega) rfl rfl (fun _ _ => rfl) ?_
  refine kU_na (t := 0) (M := 600) (ty := .int) (a0 := (600, .inl fun _ => 0)) hC (by omega) rfl rfl kn_i (fun _ _ => rfl) kra_i (fun _ => rfl) (fun _ => rfl) (by decide) (by decide) (by decide) rfl (kRu_le hRu (by omega) (by omega)) rfl ?_
  refine kU_pf9 (a := 773) (kk := 7) (f2 := (va_up (va_up kF 734 e) 773 (.inr (8, [.int 0, .int 0, .null, .ref 774, .ref 778, .ref 780, .ref 782, .ref 789, .null, .null, .null, .null, .null, .int 0, .int 0, .int 0, .int 0, .null, .int 0])))) hC hPg (by omega) rfl rfl (kMem 39 rfl rfl) rfl rfl (fun C Tt M h => by cases h; exact ⟨rfl, rfl, _, rfl, fun _ => ⟨rfl, rfl⟩⟩) va_us rfl ?_
  refine kU_al (b := 773) hC (by omega) rfl rfl rfl ?_
  refine kU_int (v := 600) hC (by omega) rfl rfl (fun _ _ => rfl) ?_
  refine kU_na (t := 0) (M := 600) (ty := .int) (a0 := (600, .inl fun _ => 0)) hC (by omega) rfl rfl kn_i (fun _ _ => rfl) kra_i (fun _ => rfl) (fun _ => rfl) (by decide) (by decide) (by decide) rfl (kRu_le hRu (by omega) (by omega)) rfl ?_
  refine kU_pf9 (a := 773) (kk := 8) (f2 := (va_up (va_up kF 734 e) 773 (.inr (8, [.int 0, .int 0, .null, .ref 774, .ref 778, .ref 780, .ref 782, .ref 789, .ref 790, .null, .null, .null, .null, .int 0, .int 0, .int 0, .int 0, .null, .int 0])))) hC hPg (by omega) rfl rfl (kMem 39 rfl rfl) rfl rfl (fun C Tt M h => by cases h; exact ⟨rfl, rfl, _, rfl, fun _ => ⟨rfl, rfl⟩⟩) va_us rfl ?_
  refine kU_al (b := 773) hC (by omega) rfl rfl rfl ?_
  refine kU_int (v := 26624) hC (by omega) rfl rfl (fun _ _ => rfl) ?_
  refine kU_na (t := 0) (M := 26624) (ty := .int) (a0 := (26624, .inl fun _ => 0)) hC (by omega) rfl rfl kn_i (fun _ _ => rfl) kra_i (fun _ => rfl) (fun _ => rfl) (by decide) (by decide) (by decide) rfl (kRu_le hRu (by omega) (by omega)) rfl ?_
  refine kU_pf9 (a := 773) (kk := 9) (f2 := (va_up (va_up kF 734 e) 773 (.inr (8, [.int 0, .int 0, .null, .ref 774, .ref 778, .ref 780, .ref 782, .ref 789, .ref 790, .ref 791, .null, .null, .null, .int 0, .int 0, .int 0, .int 0, .null, .int 0])))) hC hPg (by omega) rfl rfl (kMem 39 rfl rfl) rfl rfl (fun C Tt M h => by cases h; exact ⟨rfl, rfl, _, rfl, fun _ => ⟨rfl, rfl⟩⟩) va_us rfl ?_
  refine kU_al (b := 773) hC (by omega) rfl rfl rfl ?_
  refine kU_int (v := 2048) hC (by omega) rfl rfl (fun _ _ => rfl) ?_
  refine kU_na (t := 2) (M := 2048) (ty := .boolean) (a0 := (2048, .inl fun _ => 0)) hC (by omega) rfl rfl kn_b (fun _ _ => rfl) kra_b (fun _ => rfl) (fun _ => rfl) (by decide) (by decide) (by decide) rfl (kRu_le hRu (by omega) (by omega)) rfl ?_
  refine kU_pf9 (a := 773) (kk := 10) (f2 := (va_up (va_up kF 734 e) 773 (.inr (8, [.int 0, .int 0, .null, .ref 774, .ref 778, .ref 780, .ref 782, .ref 789, .ref 790, .ref 791, .ref 792, .null, .null, .int 0, .int 0, .int 0, .int 0, .null, .int 0])))) hC hPg (by omega) rfl rfl (kMem 39 rfl rfl) rfl rfl (fun C Tt M h => by cases h; exact ⟨rfl, rfl, _, rfl, fun _ => ⟨rfl, rfl⟩⟩) va_us rfl ?_
  refine kU_al (b := 773) hC (by omega) rfl rfl rfl ?_
  refine kU_int (v := 2048) hC (by omega) rfl rfl (fun _ _ => rfl) ?_
  refine kU_na (t := 0) (M := 2048) (ty := .int) (a0 := (2048, .inl fun _ => 0)) hC (by omega) rfl rfl kn_i (fun _ _ => rfl) kra_i (fun _ => rfl) (fun _ => rfl) (by decide) (by decide) (by decide) rfl (kRu_le hRu (by omega) (by omega)) rfl ?_
  refine kU_pf9 (a := 773) (kk := 11) (f2 := (va_up (va_up kF 734 e) 773 (.inr (8, [.int 0, .int 0, .null, .ref 774, .ref 778, .ref 780, .ref 782, .ref 789, .ref 790, .ref 791, .ref 792, .ref 793, .null, .int 0, .int 0, .int 0, .int 0, .null, .int 0])))) hC hPg (by omega) rfl rfl (kMem 39 rfl rfl) rfl rfl (fun C Tt M h => by cases h; exact ⟨rfl, rfl, _, rfl, fun _ => ⟨rfl, rfl⟩⟩) va_us rfl ?_
  refine kU_al (b := 773) hC (by omega) rfl rfl rfl ?_
  refine kU_int (v := 2048) hC (by omega) rfl rfl (fun _ _ => rfl) ?_
  refine kU_na (t := 0) (M := 2048) (ty := .int) (a0 := (2048, .inl fun _ => 0)) hC (by omega) rfl rfl kn_i (fun _ _ => rfl) kra_i (fun _ => rfl) (fun _ => rfl) (by decide) (by decide) (by decide) rfl (kRu_le hRu (by omega) (by omega)) rfl ?_
  refine kU_pf9 (a := 773) (kk := 12) (f2 := (va_up (va_up kF 734 e) 773 (.inr (8, [.int 0, .int 0, .null, .ref 774, .ref 778, .ref 780, .ref 782, .ref 789, .ref 790, .ref 791, .ref 792, .ref 793, .ref 794, .int 0, .int 0, .int 0, .int 0, .null, .int 0])))) hC hPg (by omega) rfl rfl (kMem 39 rfl rfl) rfl rfl (fun C Tt M h => by cases h; exact ⟨rfl, rfl, _, rfl, fun _ => ⟨rfl, rfl⟩⟩) va_us rfl ?_
  refine kU_al (b := 773) hC (by omega) rfl rfl rfl ?_
  refine kU_int (v := (-1)) hC (by omega) rfl rfl (fun _ _ => rfl) ?_
  refine kU_pf (a := 773) (kk := 13) (t := 0) (f2 := (va_up (va_up kF 734 e) 773 (.inr (8, [.int 0, .int 0, .null, .ref 774, .ref 778, .ref 780, .ref 782, .ref 789, .ref 790, .ref 791, .ref 792, .ref 793, .ref 794, .int (-1), .int 0, .int 0, .int 0, .null, .int 0])))) hC (by omega) rfl rfl (kMem 39 rfl rfl) rfl rfl rfl va_us rfl ?_
  refine kU_al (b := 773) hC (by omega) rfl rfl rfl ?_
  refine kU_int (v := 0) hC (by omega) rfl rfl (fun _ _ => rfl) ?_
  refine kU_pf (a := 773) (kk := 14) (t := 0) (f2 := (va_up (va_up kF 734 e) 773 (.inr (8, [.int 0, .int 0, .null, .ref 774, .ref 778, .ref 780, .ref 782, .ref 789, .ref 790, .ref 791, .ref 792, .ref 793, .ref 794, .int (-1), .int 0, .int 0, .int 0, .null, .int 0])))) hC (by omega) rfl rfl (kMem 39 rfl rfl) rfl rfl rfl va_us rfl ?_
  refine kU_al (b := 773) hC (by omega) rfl rfl rfl ?_
  refine kU_int (v := 0) hC (by omega) rfl rfl (fun _ _ => rfl) ?_
  refine kU_pf (a := 773) (kk := 15) (t := 1) (f2 := (va_up (va_up kF 734 e) 773 (.inr (8, [.int 0, .int 0, .null, .ref 774, .ref 778, .ref 780, .ref 782, .ref 789, .ref 790, .ref 791, .ref 792, .ref 793, .ref 794, .int (-1), .int 0, .int 0, .int 0, .null, .int 0])))) hC (by omega) rfl rfl (kMem 39 rfl rfl) rfl rfl rfl va_us rfl ?_
  refine kU_al (b := 773) hC (by omega) rfl rfl rfl ?_
  refine kU_int (v := (-1)) hC (by omega) rfl rfl (fun _ _ => rfl) ?_
  refine kU_pf (a := 773) (kk := 16) (t := 0) (f2 := (va_up (va_up kF 734 e) 773 (.inr (8, [.int 0, .int 0, .null, .ref 774, .ref 778, .ref 780, .ref 782, .ref 789, .ref 790, .ref 791, .ref 792, .ref 793, .ref 794, .int (-1), .int 0, .int 0, .int (-1), .null, .int 0])))) hC (by omega) rfl rfl (kMem 39 rfl rfl) rfl rfl rfl va_us rfl ?_
  refine kU_al (b := 773) hC (by omega) rfl rfl rfl ?_
  refine kU_int (v := 8) hC (by omega) rfl rfl (fun _ _ => rfl) ?_
  refine kU_na (t := 0) (M := 8) (ty := .int) (a0 := (8, .inl fun _ => 0)) hC (by omega) rfl rfl kn_i (fun _ _ => rfl) kra_i (fun _ => rfl) (fun _ => rfl) (by decide) (by decide) (by decide) rfl (kRu_le hRu (by omega) (by omega)) rfl ?_
  refine kU_pf9 (a := 773) (kk := 17) (f2 := (va_up (va_up kF 734 e) 773 (.inr (8, [.int 0, .int 0, .null, .ref 774, .ref 778, .ref 780, .ref 782, .ref 789, .ref 790, .ref 791, .ref 792, .ref 793, .ref 794, .int (-1), .int 0, .int 0, .int (-1), .ref 795, .int 0])))) hC hPg (by omega) rfl rfl (kMem 39 rfl rfl) rfl rfl (fun C Tt M h => by cases h; exact ⟨rfl, rfl, _, rfl, fun _ => ⟨rfl, rfl⟩⟩) va_us rfl ?_
  refine kU_al (b := 773) hC (by omega) rfl rfl rfl ?_
  refine kU_int (v := (-1)) hC (by omega) rfl rfl (fun _ _ => rfl) ?_
  refine kU_pf (a := 773) (kk := 18) (t := 0) (f2 := (va_up (va_up kF 734 e) 773 (.inr (8, [.int 0, .int 0, .null, .ref 774, .ref 778, .ref 780, .ref 782, .ref 789, .ref 790, .ref 791, .ref 792, .ref 793, .ref 794, .int (-1), .int 0, .int 0, .int (-1), .ref 795, .int (-1)])))) hC (by omega) rfl rfl (kMem 39 rfl rfl) rfl rfl rfl va_us rfl ?_
  refine kU_al (b := 773) hC (by omega) rfl rfl rfl ?_
  refine kU_al (b := 757) hC (by omega) rfl rfl rfl ?_
  refine kU_pf9 (a := 773) (kk := 2) (f2 := (va_up (va_up kF 734 e) 773 (.inr (8, [.int 0, .int 0, .ref 757, .ref 774, .ref 778, .ref 780, .ref 782, .ref 789, .ref 790, .ref 791, .ref 792, .ref 793, .ref 794, .int (-1), .int 0, .int 0, .int (-1), .ref 795, .int (-1)])))) hC hPg (by omega) rfl rfl (kMem 39 rfl rfl) rfl rfl (fun C Tt M h => by cases h; exact ⟨rfl, rfl, _, rfl, fun _ => ⟨rfl, rfl⟩⟩) va_us rfl ?_
  refine kU_eq (f2 := (va_up kF 734 e)) (va_ui kb_773).symm ?_
  exact kU_end hC rfl hE (by omega) (by omega)
set_option maxHeartbeats 8000000 in
set_option maxRecDepth 20000 in
theorem ki_4 (l : Launch) {e : va_E} : kIm l (⟨"ClickOrders$Pair", "<init>", "(LClickOrders$Hand;)V"⟩ : MethodName) prog_6_method_1_code 3 2 40 [.ref 796, .ref 757] 63 85 530 (va_up (va_up kF 734 e) 796 (.inr (4, [.null, .int 0, .null, .null, .int 0, .int 0]))) (va_up kF 734 e) := by
  refine k_ctor (co := kci_4) (fl := fun x => j_lk xf_4 x) (cn := fun x => j_lk xk_4 x) (by decide) rfl (Nat.le_of_ble_eq_true rfl) kdi_4 (fun x q h => xf_all_4 (x, q) (j_lk_mem h)) (fun x v h => xk_all_4 (x, v) (j_lk_mem h)) (fun G B0 hB => ?_)
  obtain ⟨hC, hPg, hRo, hRu, hE⟩ := hB
  refine kU_lv (lv2 := l_at [some (.ref 796), some (.ref 757), none]) (fun j v hj => by
    match j, hj with
    | 0, hj => exact hj
    | 1, hj => exact hj
    | 2, hj => cases hj
    | j + 3, hj => cases hj) ?_
  refine kU_al (b := 796) hC (by omega) rfl rfl rfl ?_
  refine kU_objI hC (kRo_le hRo (by omega) (by omega)) rfl ko_l4 ko_1 ko_2 rfl ?_
  refine kU_al (b := 796) hC (by omega) rfl rfl rfl ?_
  refine kU_int (v := 10) hC (by omega) rfl rfl (fun _ _ => rfl) ?_
  refine kU_anew (M := 10) hC hPg (by omega) rfl lf_2_152 (by decide) (by decide) (by decide) (kRu_le hRu (by omega) (by omega)) ?_
  refine kU_eq (f2 := (va_up (va_up (va_up kF 734 e) 797 (.inl (3, (10, .inr (.inr (.inr (.inr (kpG 797 0)))))))) 796 (.inr (4, [.null, .int 0, .null, .null, .int 0, .int 0])))) ((va_uc (by decide)).trans (by rw [kpG_0]; rfl)) ?_
  refine kU_pf9 (a := 796) (kk := 0) (f2 := (va_up (va_up (va_up kF 734 e) 797 (.inl (3, (10, .inr (.inr (.inr (.inr (kpG 797 0)))))))) 796 (.inr (4, [.ref 797, .int 0, .null, .null, .int 0, .int 0])))) hC hPg (by omega) rfl rfl (kMem 62 rfl rfl) rfl rfl (fun C Tt M h => by cases h; exact ⟨rfl, rfl, _, rfl, fun _ => ⟨rfl, rfl⟩⟩) va_us rfl ?_
  refine kU_al (b := 796) hC (by omega) rfl rfl rfl ?_
  refine kU_int (v := 0) hC (by omega) rfl rfl (fun _ _ => rfl) ?_
  refine kU_pf (a := 796) (kk := 1) (t := 0) (f2 := (va_up (va_up (va_up kF 734 e) 797 (.inl (3, (10, .inr (.inr (.inr (.inr (kpG 797 0)))))))) 796 (.inr (4, [.ref 797, .int 0, .null, .null, .int 0, .int 0])))) hC (by omega) rfl rfl (kMem 62 rfl rfl) rfl rfl rfl va_us rfl ?_
  refine kU_al (b := 796) hC (by omega) rfl rfl rfl ?_
  refine kU_int (v := 10) hC (by omega) rfl rfl (fun _ _ => rfl) ?_
  refine kU_na (t := 0) (M := 10) (ty := .int) (a0 := (10, .inl fun _ => 0)) hC (by omega) rfl rfl kn_i (fun _ _ => rfl) kra_i (fun _ => rfl) (fun _ => rfl) (by decide) (by decide) (by decide) rfl (kRu_le hRu (by omega) (by omega)) rfl ?_
  refine kU_pf9 (a := 796) (kk := 3) (f2 := (va_up (va_up (va_up kF 734 e) 797 (.inl (3, (10, .inr (.inr (.inr (.inr (kpG 797 0)))))))) 796 (.inr (4, [.ref 797, .int 0, .null, .ref 798, .int 0, .int 0])))) hC hPg (by omega) rfl rfl (kMem 62 rfl rfl) rfl rfl (fun C Tt M h => by cases h; exact ⟨rfl, rfl, _, rfl, fun _ => ⟨rfl, rfl⟩⟩) va_us rfl ?_
  refine kU_al (b := 796) hC (by omega) rfl rfl rfl ?_
  refine kU_int (v := (-1)) hC (by omega) rfl rfl (fun _ _ => rfl) ?_
  refine kU_pf (a := 796) (kk := 4) (t := 0) (f2 := (va_up (va_up (va_up kF 734 e) 797 (.inl (3, (10, .inr (.inr (.inr (.inr (kpG 797 0)))))))) 796 (.inr (4, [.ref 797, .int 0, .null, .ref 798, .int (-1), .int 0])))) hC (by omega) rfl rfl (kMem 62 rfl rfl) rfl rfl rfl va_us rfl ?_
  refine kU_al (b := 796) hC (by omega) rfl rfl rfl ?_
  refine kU_int (v := (-1)) hC (by omega) rfl rfl (fun _ _ => rfl) ?_
  refine kU_pf (a := 796) (kk := 5) (t := 0) (f2 := (va_up (va_up (va_up kF 734 e) 797 (.inl (3, (10, .inr (.inr (.inr (.inr (kpG 797 0)))))))) 796 (.inr (4, [.ref 797, .int 0, .null, .ref 798, .int (-1), .int (-1)])))) hC (by omega) rfl rfl (kMem 62 rfl rfl) rfl rfl rfl va_us rfl ?_
  refine kU_al (b := 796) hC (by omega) rfl rfl rfl ?_
  refine kU_al (b := 757) hC (by omega) rfl rfl rfl ?_
  refine kU_pf9 (a := 796) (kk := 2) (f2 := (va_up (va_up (va_up kF 734 e) 797 (.inl (3, (10, .inr (.inr (.inr (.inr (kpG 797 0)))))))) 796 (.inr (4, [.ref 797, .int 0, .ref 757, .ref 798, .int (-1), .int (-1)])))) hC hPg (by omega) rfl rfl (kMem 62 rfl rfl) rfl rfl (fun C Tt M h => by cases h; exact ⟨rfl, rfl, _, rfl, fun _ => ⟨rfl, rfl⟩⟩) va_us rfl ?_
  refine kU_int (v := 0) hC (by omega) rfl rfl (fun _ _ => rfl) ?_
  refine kU_is (vs := [some (.ref 796), some (.ref 757), none]) (vs2 := [some (.ref 796), some (.ref 757), some (.int 0)]) hC (by omega) rfl rfl rfl rfl rfl ?_
  refine kU_il (b := 0) hC (by omega) rfl rfl rfl ?_
  refine kU_int (v := 10) hC (by omega) rfl rfl (fun _ _ => rfl) ?_
  refine kU_ge (t := 68) (pc2 := 49) hC (by omega) rfl rfl (by decide) ?_
  refine kU_al (b := 796) hC (by omega) rfl rfl rfl ?_
  refine kU_gf (a := 796) (ci := 4) (kk := 0) (t := 9) (v := .ref 797) hC (by omega) rfl rfl (kMem 62 rfl rfl) rfl rfl rfl ?_
  refine kU_il (b := 0) hC (by omega) rfl rfl rfl ?_
  refine kU_pgP (a := 796) (N := 65) hC hPg (by omega) (kMem 62 rfl rfl) rfl rfl rfl lf_2_152 ld_1_223 bw_1_8 (by simp [kNe]) ld_1_225 ld_1_226 rfl (kRo_le hRo (by omega) (by omega)) (kRu_le hRu (by omega) (by omega)) rfl rfl rfl ?_
  refine kU_aast (a := 797) (v := 799) (M := 10) (x := 0) (g := kpG 797 0) hC hPg (by omega) rfl (kar_at (kMem 63 rfl rfl) rfl) (kf_at (kMem 65 rfl rfl) rfl) (by decide) ?_
  refine kU_eq (f2 := (va_up (va_up (va_up kF 734 e) 797 (.inl (3, (10, .inr (.inr (.inr (.inr (kpG 797 1)))))))) 796 (.inr (4, [.ref 797, .int 0, .ref 757, .ref 798, .int (-1), .int (-1)])))) ((va_u3 (by decide)).trans (by rw [show va_up (kpG 797 0) (iN 0) (some 799) = kpG 797 1 from kpG_s (by decide)])) ?_
  refine kU_ii (vs := [some (.ref 796), some (.ref 757), some (.int 0)]) (c := 1) (vs2 := [some (.ref 796), some (.ref 757), some (.int 1)]) hC (by omega) rfl rfl rfl rfl rfl rfl rfl ?_
  refine kU_go (pc2 := 43) hC (by omega) rfl rfl ?_
  refine kU_il (b := 1) hC (by omega) rfl rfl rfl ?_
  refine kU_int (v := 10) hC (by omega) rfl rfl (fun _ _ => rfl) ?_
  refine kU_ge (t := 68) (pc2 := 49) hC (by omega) rfl rfl (by decide) ?_
  refine kU_al (b := 796) hC (by omega) rfl rfl rfl ?_
  refine kU_gf (a := 796) (ci := 4) (kk := 0) (t := 9) (v := .ref 797) hC (by omega) rfl rfl (kMem 62 rfl rfl) rfl rfl rfl ?_
  refine kU_il (b := 1) hC (by omega) rfl rfl rfl ?_
  refine kU_pgP (a := 796) (N := 67) hC hPg (by omega) (kMem 62 rfl rfl) rfl rfl rfl lf_2_152 ld_1_223 bw_1_8 (by simp [kNe]) ld_1_225 ld_1_226 rfl (kRo_le hRo (by omega) (by omega)) (kRu_le hRu (by omega) (by omega)) rfl rfl rfl ?_
  refine kU_aast (a := 797) (v := 801) (M := 10) (x := 1) (g := kpG 797 1) hC hPg (by omega) rfl (kar_at (kMem 63 rfl rfl) rfl) (kf_at (kMem 67 rfl rfl) rfl) (by decide) ?_
  refine kU_eq (f2 := (va_up (va_up (va_up kF 734 e) 797 (.inl (3, (10, .inr (.inr (.inr (.inr (kpG 797 2)))))))) 796 (.inr (4, [.ref 797, .int 0, .ref 757, .ref 798, .int (-1), .int (-1)])))) ((va_u3 (by decide)).trans (by rw [show va_up (kpG 797 1) (iN 1) (some 801) = kpG 797 2 from kpG_s (by decide)])) ?_
  refine kU_ii (vs := [some (.ref 796), some (.ref 757), some (.int 1)]) (c := 2) (vs2 := [some (.ref 796), some (.ref 757), some (.int 2)]) hC (by omega) rfl rfl rfl rfl rfl rfl rfl ?_
  refine kU_go (pc2 := 43) hC (by omega) rfl rfl ?_
  refine kU_il (b := 2) hC (by omega) rfl rfl rfl ?_
  refine kU_int (v := 10) hC (by omega) rfl rfl (fun _ _ => rfl) ?_
  refine kU_ge (t := 68) (pc2 := 49) hC (by omega) rfl rfl (by decide) ?_
  refine kU_al (b := 796) hC (by omega) rfl rfl rfl ?_
  refine kU_gf (a := 796) (ci := 4) (kk := 0) (t := 9) (v := .ref 797) hC (by omega) rfl rfl (kMem 62 rfl rfl) rfl rfl rfl ?_
  refine kU_il (b := 2) hC (by omega) rfl rfl rfl ?_
  refine kU_pgP (a := 796) (N := 69) hC hPg (by omega) (kMem 62 rfl rfl) rfl rfl rfl lf_2_152 ld_1_223 bw_1_8 (by simp [kNe]) ld_1_225 ld_1_226 rfl (kRo_le hRo (by omega) (by omega)) (kRu_le hRu (by omega) (by omega)) rfl rfl rfl ?_
  refine kU_aast (a := 797) (v := 803) (M := 10) (x := 2) (g := kpG 797 2) hC hPg (by omega) rfl (kar_at (kMem 63 rfl rfl) rfl) (kf_at (kMem 69 rfl rfl) rfl) (by decide) ?_
  refine kU_eq (f2 := (va_up (va_up (va_up kF 734 e) 797 (.inl (3, (10, .inr (.inr (.inr (.inr (kpG 797 3)))))))) 796 (.inr (4, [.ref 797, .int 0, .ref 757, .ref 798, .int (-1), .int (-1)])))) ((va_u3 (by decide)).trans (by rw [show va_up (kpG 797 2) (iN 2) (some 803) = kpG 797 3 from kpG_s (by decide)])) ?_
  refine kU_ii (vs := [some (.ref 796), some (.ref 757), some (.int 2)]) (c := 3) (vs2 := [some (.ref 796), some (.ref 757), some (.int 3)]) hC (by omega) rfl rfl rfl rfl rfl rfl rfl ?_
  refine kU_go (pc2 := 43) hC (by omega) rfl rfl ?_
  refine kU_il (b := 3) hC (by omega) rfl rfl rfl ?_
  refine kU_int (v := 10) hC (by omega) rfl rfl (fun _ _ => rfl) ?_
  refine kU_ge (t := 68) (pc2 := 49) hC (by omega) rfl rfl (by decide) ?_
  refine kU_al (b := 796) hC (by omega) rfl rfl rfl ?_
  refine kU_gf (a := 796) (ci := 4) (kk := 0) (t := 9) (v := .ref 797) hC (by omega) rfl rfl (kMem 62 rfl rfl) rfl rfl rfl ?_
  refine kU_il (b := 3) hC (by omega) rfl rfl rfl ?_
  refine kU_pgP (a := 796) (N := 71) hC hPg (by omega) (kMem 62 rfl rfl) rfl rfl rfl lf_2_152 ld_1_223 bw_1_8 (by simp [kNe]) ld_1_225 ld_1_226 rfl (kRo_le hRo (by omega) (by omega)) (kRu_le hRu (by omega) (by omega)) rfl rfl rfl ?_
  refine kU_aast (a := 797) (v := 805) (M := 10) (x := 3) (g := kpG 797 3) hC hPg (by omega) rfl (kar_at (kMem 63 rfl rfl) rfl) (kf_at (kMem 71 rfl rfl) rfl) (by decide) ?_
  refine kU_eq (f2 := (va_up (va_up (va_up kF 734 e) 797 (.inl (3, (10, .inr (.inr (.inr (.inr (kpG 797 4)))))))) 796 (.inr (4, [.ref 797, .int 0, .ref 757, .ref 798, .int (-1), .int (-1)])))) ((va_u3 (by decide)).trans (by rw [show va_up (kpG 797 3) (iN 3) (some 805) = kpG 797 4 from kpG_s (by decide)])) ?_
  refine kU_ii (vs := [some (.ref 796), some (.ref 757), some (.int 3)]) (c := 4) (vs2 := [some (.ref 796), some (.ref 757), some (.int 4)]) hC (by omega) rfl rfl rfl rfl rfl rfl rfl ?_
  refine kU_go (pc2 := 43) hC (by omega) rfl rfl ?_
  refine kU_il (b := 4) hC (by omega) rfl rfl rfl ?_
  refine kU_int (v := 10) hC (by omega) rfl rfl (fun _ _ => rfl) ?_
  refine kU_ge (t := 68) (pc2 := 49) hC (by omega) rfl rfl (by decide) ?_
  refine kU_al (b := 796) hC (by omega) rfl rfl rfl ?_
  refine kU_gf (a := 796) (ci := 4) (kk := 0) (t := 9) (v := .ref 797) hC (by omega) rfl rfl (kMem 62 rfl rfl) rfl rfl rfl ?_
  refine kU_il (b := 4) hC (by omega) rfl rfl rfl ?_
  refine kU_pgP (a := 796) (N := 73) hC hPg (by omega) (kMem 62 rfl rfl) rfl rfl rfl lf_2_152 ld_1_223 bw_1_8 (by simp [kNe]) ld_1_225 ld_1_226 rfl (kRo_le hRo (by omega) (by omega)) (kRu_le hRu (by omega) (by omega)) rfl rfl rfl ?_
  refine kU_aast (a := 797) (v := 807) (M := 10) (x := 4) (g := kpG 797 4) hC hPg (by omega) rfl (kar_at (kMem 63 rfl rfl) rfl) (kf_at (kMem 73 rfl rfl) rfl) (by decide) ?_
  refine kU_eq (f2 := (va_up (va_up (va_up kF 734 e) 797 (.inl (3, (10, .inr (.inr (.inr (.inr (kpG 797 5)))))))) 796 (.inr (4, [.ref 797, .int 0, .ref 757, .ref 798, .int (-1), .int (-1)])))) ((va_u3 (by decide)).trans (by rw [show va_up (kpG 797 4) (iN 4) (some 807) = kpG 797 5 from kpG_s (by decide)])) ?_
  refine kU_ii (vs := [some (.ref 796), some (.ref 757), some (.int 4)]) (c := 5) (vs2 := [some (.ref 796), some (.ref 757), some (.int 5)]) hC (by omega) rfl rfl rfl rfl rfl rfl rfl ?_
  refine kU_go (pc2 := 43) hC (by omega) rfl rfl ?_
  refine kU_il (b := 5) hC (by omega) rfl rfl rfl ?_
  refine kU_int (v := 10) hC (by omega) rfl rfl (fun _ _ => rfl) ?_
  refine kU_ge (t := 68) (pc2 := 49) hC (by omega) rfl rfl (by decide) ?_
  refine kU_al (b := 796) hC (by omega) rfl rfl rfl ?_
  refine kU_gf (a := 796) (ci := 4) (kk := 0) (t := 9) (v := .ref 797) hC (by omega) rfl rfl (kMem 62 rfl rfl) rfl rfl rfl ?_
  refine kU_il (b := 5) hC (by omega) rfl rfl rfl ?_
  refine kU_pgP (a := 796) (N := 75) hC hPg (by omega) (kMem 62 rfl rfl) rfl rfl rfl lf_2_152 ld_1_223 bw_1_8 (by simp [kNe]) ld_1_225 ld_1_226 rfl (kRo_le hRo (by omega) (by omega)) (kRu_le hRu (by omega) (by omega)) rfl rfl rfl ?_
  refine kU_aast (a := 797) (v := 809) (M := 10) (x := 5) (g := kpG 797 5) hC hPg (by omega) rfl (kar_at (kMem 63 rfl rfl) rfl) (kf_at (kMem 75 rfl rfl) rfl) (by decide) ?_
  refine kU_eq (f2 := (va_up (va_up (va_up kF 734 e) 797 (.inl (3, (10, .inr (.inr (.inr (.inr (kpG 797 6)))))))) 796 (.inr (4, [.ref 797, .int 0, .ref 757, .ref 798, .int (-1), .int (-1)])))) ((va_u3 (by decide)).trans (by rw [show va_up (kpG 797 5) (iN 5) (some 809) = kpG 797 6 from kpG_s (by decide)])) ?_
  refine kU_ii (vs := [some (.ref 796), some (.ref 757), some (.int 5)]) (c := 6) (vs2 := [some (.ref 796), some (.ref 757), some (.int 6)]) hC (by omega) rfl rfl rfl rfl rfl rfl rfl ?_
  refine kU_go (pc2 := 43) hC (by omega) rfl rfl ?_
  refine kU_il (b := 6) hC (by omega) rfl rfl rfl ?_
  refine kU_int (v := 10) hC (by omega) rfl rfl (fun _ _ => rfl) ?_
  refine kU_ge (t := 68) (pc2 := 49) hC (by omega) rfl rfl (by decide) ?_
  refine kU_al (b := 796) hC (by omega) rfl rfl rfl ?_
  refine kU_gf (a := 796) (ci := 4) (kk := 0) (t := 9) (v := .ref 797) hC (by omega) rfl rfl (kMem 62 rfl rfl) rfl rfl rfl ?_
  refine kU_il (b := 6) hC (by omega) rfl rfl rfl ?_
  refine kU_pgP (a := 796) (N := 77) hC hPg (by omega) (kMem 62 rfl rfl) rfl rfl rfl lf_2_152 ld_1_223 bw_1_8 (by simp [kNe]) ld_1_225 ld_1_226 rfl (kRo_le hRo (by omega) (by omega)) (kRu_le hRu (by omega) (by omega)) rfl rfl rfl ?_
  refine kU_aast (a := 797) (v := 811) (M := 10) (x := 6) (g := kpG 797 6) hC hPg (by omega) rfl (kar_at (kMem 63 rfl rfl) rfl) (kf_at (kMem 77 rfl rfl) rfl) (by decide) ?_
  refine kU_eq (f2 := (va_up (va_up (va_up kF 734 e) 797 (.inl (3, (10, .inr (.inr (.inr (.inr (kpG 797 7)))))))) 796 (.inr (4, [.ref 797, .int 0, .ref 757, .ref 798, .int (-1), .int (-1)])))) ((va_u3 (by decide)).trans (by rw [show va_up (kpG 797 6) (iN 6) (some 811) = kpG 797 7 from kpG_s (by decide)])) ?_
  refine kU_ii (vs := [some (.ref 796), some (.ref 757), some (.int 6)]) (c := 7) (vs2 := [some (.ref 796), some (.ref 757), some (.int 7)]) hC (by omega) rfl rfl rfl rfl rfl rfl rfl ?_
  refine kU_go (pc2 := 43) hC (by omega) rfl rfl ?_
  refine kU_il (b := 7) hC (by omega) rfl rfl rfl ?_
  refine kU_int (v := 10) hC (by omega) rfl rfl (fun _ _ => rfl) ?_
  refine kU_ge (t := 68) (pc2 := 49) hC (by omega) rfl rfl (by decide) ?_
  refine kU_al (b := 796) hC (by omega) rfl rfl rfl ?_
  refine kU_gf (a := 796) (ci := 4) (kk := 0) (t := 9) (v := .ref 797) hC (by omega) rfl rfl (kMem 62 rfl rfl) rfl rfl rfl ?_
  refine kU_il (b := 7) hC (by omega) rfl rfl rfl ?_
  refine kU_pgP (a := 796) (N := 79) hC hPg (by omega) (kMem 62 rfl rfl) rfl rfl rfl lf_2_152 ld_1_223 bw_1_8 (by simp [kNe]) ld_1_225 ld_1_226 rfl (kRo_le hRo (by omega) (by omega)) (kRu_le hRu (by omega) (by omega)) rfl rfl rfl ?_
  refine kU_aast (a := 797) (v := 813) (M := 10) (x := 7) (g := kpG 797 7) hC hPg (by omega) rfl (kar_at (kMem 63 rfl rfl) rfl) (kf_at (kMem 79 rfl rfl) rfl) (by decide) ?_
  refine kU_eq (f2 := (va_up (va_up (va_up kF 734 e) 797 (.inl (3, (10, .inr (.inr (.inr (.inr (kpG 797 8)))))))) 796 (.inr (4, [.ref 797, .int 0, .ref 757, .ref 798, .int (-1), .int (-1)])))) ((va_u3 (by decide)).trans (by rw [show va_up (kpG 797 7) (iN 7) (some 813) = kpG 797 8 from kpG_s (by decide)])) ?_
  refine kU_ii (vs := [some (.ref 796), some (.ref 757), some (.int 7)]) (c := 8) (vs2 := [some (.ref 796), some (.ref 757), some (.int 8)]) hC (by omega) rfl rfl rfl rfl rfl rfl rfl ?_
  refine kU_go (pc2 := 43) hC (by omega) rfl rfl ?_
  refine kU_il (b := 8) hC (by omega) rfl rfl rfl ?_
  refine kU_int (v := 10) hC (by omega) rfl rfl (fun _ _ => rfl) ?_
  refine kU_ge (t := 68) (pc2 := 49) hC (by omega) rfl rfl (by decide) ?_
  refine kU_al (b := 796) hC (by omega) rfl rfl rfl ?_
  refine kU_gf (a := 796) (ci := 4) (kk := 0) (t := 9) (v := .ref 797) hC (by omega) rfl rfl (kMem 62 rfl rfl) rfl rfl rfl ?_
  refine kU_il (b := 8) hC (by omega) rfl rfl rfl ?_
  refine kU_pgP (a := 796) (N := 81) hC hPg (by omega) (kMem 62 rfl rfl) rfl rfl rfl lf_2_152 ld_1_223 bw_1_8 (by simp [kNe]) ld_1_225 ld_1_226 rfl (kRo_le hRo (by omega) (by omega)) (kRu_le hRu (by omega) (by omega)) rfl rfl rfl ?_
  refine kU_aast (a := 797) (v := 815) (M := 10) (x := 8) (g := kpG 797 8) hC hPg (by omega) rfl (kar_at (kMem 63 rfl rfl) rfl) (kf_at (kMem 81 rfl rfl) rfl) (by decide) ?_
  refine kU_eq (f2 := (va_up (va_up (va_up kF 734 e) 797 (.inl (3, (10, .inr (.inr (.inr (.inr (kpG 797 9)))))))) 796 (.inr (4, [.ref 797, .int 0, .ref 757, .ref 798, .int (-1), .int (-1)])))) ((va_u3 (by decide)).trans (by rw [show va_up (kpG 797 8) (iN 8) (some 815) = kpG 797 9 from kpG_s (by decide)])) ?_
  refine kU_ii (vs := [some (.ref 796), some (.ref 757), some (.int 8)]) (c := 9) (vs2 := [some (.ref 796), some (.ref 757), some (.int 9)]) hC (by omega) rfl rfl rfl rfl rfl rfl rfl ?_
  refine kU_go (pc2 := 43) hC (by omega) rfl rfl ?_
  refine kU_il (b := 9) hC (by omega) rfl rfl rfl ?_
  refine kU_int (v := 10) hC (by omega) rfl rfl (fun _ _ => rfl) ?_
  refine kU_ge (t := 68) (pc2 := 49) hC (by omega) rfl rfl (by decide) ?_
  refine kU_al (b := 796) hC (by omega) rfl rfl rfl ?_
  refine kU_gf (a := 796) (ci := 4) (kk := 0) (t := 9) (v := .ref 797) hC (by omega) rfl rfl (kMem 62 rfl rfl) rfl rfl rfl ?_
  refine kU_il (b := 9) hC (by omega) rfl rfl rfl ?_
  refine kU_pgP (a := 796) (N := 83) hC hPg (by omega) (kMem 62 rfl rfl) rfl rfl rfl lf_2_152 ld_1_223 bw_1_8 (by simp [kNe]) ld_1_225 ld_1_226 rfl (kRo_le hRo (by omega) (by omega)) (kRu_le hRu (by omega) (by omega)) rfl rfl rfl ?_
  refine kU_aast (a := 797) (v := 817) (M := 10) (x := 9) (g := kpG 797 9) hC hPg (by omega) rfl (kar_at (kMem 63 rfl rfl) rfl) (kf_at (kMem 83 rfl rfl) rfl) (by decide) ?_
  refine kU_eq (f2 := (va_up (va_up (va_up kF 734 e) 797 (.inl (3, (10, .inr (.inr (.inr (.inr (kpG 797 10)))))))) 796 (.inr (4, [.ref 797, .int 0, .ref 757, .ref 798, .int (-1), .int (-1)])))) ((va_u3 (by decide)).trans (by rw [show va_up (kpG 797 9) (iN 9) (some 817) = kpG 797 10 from kpG_s (by decide)])) ?_
  refine kU_eq (f2 := (va_up (va_up kF 734 e) 796 (.inr (4, [.ref 797, .int 0, .ref 757, .ref 798, .int (-1), .int (-1)])))) (by rw [kpG_797, ← va_ui (kb_797 : (va_up kF 734 e) 797 = _)]) ?_
  refine kU_ii (vs := [some (.ref 796), some (.ref 757), some (.int 9)]) (c := 10) (vs2 := [some (.ref 796), some (.ref 757), some (.int 10)]) hC (by omega) rfl rfl rfl rfl rfl rfl rfl ?_
  refine kU_go (pc2 := 43) hC (by omega) rfl rfl ?_
  refine kU_il (b := 10) hC (by omega) rfl rfl rfl ?_
  refine kU_int (v := 10) hC (by omega) rfl rfl (fun _ _ => rfl) ?_
  refine kU_ge (t := 68) (pc2 := 68) hC (by omega) rfl rfl (by decide) ?_
  refine kU_eq (f2 := (va_up kF 734 e)) (va_ui kb_796).symm ?_
  exact kU_end hC rfl hE (by omega) (by omega)
