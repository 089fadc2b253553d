/-! THROWS: what the tables say of the places where ClickOrders throws. -/
theorem th_l0 : Jvm.Cond.classLink "ClickOrders" (102 : Nat) "java/lang/IllegalArgumentException" ∈ gB := tb_4 (i := 25) (by decide +kernel) (by decide +kernel)
theorem th_i0 : Jvm.Cond.initialized "java/lang/IllegalArgumentException" ∈ gB := tb_1 (i := 19) (by decide +kernel) (by decide +kernel)
theorem th_t0 : ∀ w ∈ (vx_at0 "ClickOrders" 104 (eN 0) eUp).filter goodWord, w ∈ lw_tbl := by decide +kernel
theorem th_g0 : ∀ w ∈ (vx_at0 "ClickOrders" 104 (eN 0) eUp).filter goodWord, w ∈ gB := fun w h => List.mem_filter.mpr ⟨th_t0 w h, (List.mem_filter.mp h).2⟩
theorem th_b0 : ∀ w ∈ (vx_at0 "ClickOrders" 104 (eN 0) eUp).filter (fun w => !goodWord w), w ∈ eG := by decide +kernel
theorem th_l1 : Jvm.Cond.classLink "ClickOrders" (312 : Nat) "java/lang/IndexOutOfBoundsException" ∈ gB := tb_5 (i := 87) (by decide +kernel) (by decide +kernel)
theorem th_i1 : Jvm.Cond.initialized "java/lang/IndexOutOfBoundsException" ∈ gB := tb_1 (i := 24) (by decide +kernel) (by decide +kernel)
theorem th_t1 : ∀ w ∈ (vx_at0 "ClickOrders" 314 (eN 1) eUp).filter goodWord, w ∈ lw_tbl := by decide +kernel
theorem th_g1 : ∀ w ∈ (vx_at0 "ClickOrders" 314 (eN 1) eUp).filter goodWord, w ∈ gB := fun w h => List.mem_filter.mpr ⟨th_t1 w h, (List.mem_filter.mp h).2⟩
theorem th_b1 : ∀ w ∈ (vx_at0 "ClickOrders" 314 (eN 1) eUp).filter (fun w => !goodWord w), w ∈ eG := by decide +kernel
theorem th_l2 : Jvm.Cond.classLink "ClickOrders" (315 : Nat) "java/util/NoSuchElementException" ∈ gB := tb_5 (i := 137) (by decide +kernel) (by decide +kernel)
theorem th_i2 : Jvm.Cond.initialized "java/util/NoSuchElementException" ∈ gB := tb_1 (i := 25) (by decide +kernel) (by decide +kernel)
theorem th_t2 : ∀ w ∈ (vx_at0 "ClickOrders" 317 (eN 2) eUp).filter goodWord, w ∈ lw_tbl := by decide +kernel
theorem th_g2 : ∀ w ∈ (vx_at0 "ClickOrders" 317 (eN 2) eUp).filter goodWord, w ∈ gB := fun w h => List.mem_filter.mpr ⟨th_t2 w h, (List.mem_filter.mp h).2⟩
theorem th_b2 : ∀ w ∈ (vx_at0 "ClickOrders" 317 (eN 2) eUp).filter (fun w => !goodWord w), w ∈ eG := by decide +kernel
def j_THq (B : List Cond) (me : jMe) (q : Nat × Nat × Nat) : Prop := ∀ (y : MethodName) (cc : ByteArray) (maxL : Nat) (ret : Option FieldType), me q.1 = some (y, cc, maxL, ret) → Bundle.fit (eN q.2.2) = true ∧ ∃ ik ic : Nat, decode cc q.2.1 = .ok (.new ik, 3) ∧ decode cc (q.2.1 + 3) = .ok (.dup, 1) ∧ decode cc (q.2.1 + 4) = .ok (.invokespecial ic, 3) ∧ decode cc (q.2.1 + 7) = .ok (.athrow, 1) ∧ Jvm.Cond.classLink y.cls ik (eN q.2.2) ∈ B ∧ Jvm.Cond.initialized (eN q.2.2) ∈ B ∧ (∀ w ∈ (vx_at0 y.cls ic (eN q.2.2) eUp).filter goodWord, w ∈ B) ∧ ∀ w ∈ (vx_at0 y.cls ic (eN q.2.2) eUp).filter (fun w => !goodWord w), w ∈ eG
theorem xth_314 : j_THq gB g_me (314, 12, 0) := by
  intro y cc maxL ret h
  have h1 := g_me_x (314, (⟨"ClickOrders", "program", "(I)I"⟩ : MethodName), prog_1_method_3_code, 4, (some .int)) (List.mem_of_getElem? (i := 114) rfl)
  have h2 := Option.some.inj (h1.symm.trans h)
  simp only [Prod.mk.injEq] at h2
  obtain ⟨rfl, rfl, -, -⟩ := h2
  exact ⟨by decide +kernel, 102, 104, by decide +kernel, by decide +kernel, by decide +kernel, by decide +kernel, th_l0, th_i0, th_g0, th_b0⟩
theorem xth_326 : j_THq gB g_me (326, 76, 0) := by
  intro y cc maxL ret h
  have h1 := g_me_x (326, (⟨"ClickOrders", "happening", "(II)I"⟩ : MethodName), prog_1_method_15_code, 3, (some .int)) (List.mem_of_getElem? (i := 126) rfl)
  have h2 := Option.some.inj (h1.symm.trans h)
  simp only [Prod.mk.injEq] at h2
  obtain ⟨rfl, rfl, -, -⟩ := h2
  exact ⟨by decide +kernel, 102, 104, by decide +kernel, by decide +kernel, by decide +kernel, by decide +kernel, th_l0, th_i0, th_g0, th_b0⟩
theorem xth_332 : j_THq gB g_me (332, 9, 0) := by
  intro y cc maxL ret h
  have h1 := g_me_x (332, (⟨"ClickOrders", "sorts", "(I)I"⟩ : MethodName), prog_1_method_21_code, 2, (some .int)) (List.mem_of_getElem? (i := 132) rfl)
  have h2 := Option.some.inj (h1.symm.trans h)
  simp only [Prod.mk.injEq] at h2
  obtain ⟨rfl, rfl, -, -⟩ := h2
  exact ⟨by decide +kernel, 102, 104, by decide +kernel, by decide +kernel, by decide +kernel, by decide +kernel, th_l0, th_i0, th_g0, th_b0⟩
theorem xth_342 : j_THq gB g_me (342, 80, 0) := by
  intro y cc maxL ret h
  have h1 := g_me_x (342, (⟨"ClickOrders", "form", "(IIII)I"⟩ : MethodName), prog_1_method_31_code, 8, (some .int)) (List.mem_of_getElem? (i := 142) rfl)
  have h2 := Option.some.inj (h1.symm.trans h)
  simp only [Prod.mk.injEq] at h2
  obtain ⟨rfl, rfl, -, -⟩ := h2
  exact ⟨by decide +kernel, 102, 104, by decide +kernel, by decide +kernel, by decide +kernel, by decide +kernel, th_l0, th_i0, th_g0, th_b0⟩
theorem xth_344 : j_THq gB g_me (344, 22, 0) := by
  intro y cc maxL ret h
  have h1 := g_me_x (344, (⟨"ClickOrders", "cheapest", "(IIII)I"⟩ : MethodName), prog_1_method_33_code, 9, (some .int)) (List.mem_of_getElem? (i := 144) rfl)
  have h2 := Option.some.inj (h1.symm.trans h)
  simp only [Prod.mk.injEq] at h2
  obtain ⟨rfl, rfl, -, -⟩ := h2
  exact ⟨by decide +kernel, 102, 104, by decide +kernel, by decide +kernel, by decide +kernel, by decide +kernel, th_l0, th_i0, th_g0, th_b0⟩
theorem xth_346 : j_THq gB g_me (346, 14, 0) := by
  intro y cc maxL ret h
  have h1 := g_me_x (346, (⟨"ClickOrders", "comes", "(II)I"⟩ : MethodName), prog_1_method_35_code, 3, (some .int)) (List.mem_of_getElem? (i := 146) rfl)
  have h2 := Option.some.inj (h1.symm.trans h)
  simp only [Prod.mk.injEq] at h2
  obtain ⟨rfl, rfl, -, -⟩ := h2
  exact ⟨by decide +kernel, 102, 104, by decide +kernel, by decide +kernel, by decide +kernel, by decide +kernel, th_l0, th_i0, th_g0, th_b0⟩
theorem xth_347 : j_THq gB g_me (347, 16, 0) := by
  intro y cc maxL ret h
  have h1 := g_me_x (347, (⟨"ClickOrders", "shows", "(II)I"⟩ : MethodName), prog_1_method_36_code, 3, (some .int)) (List.mem_of_getElem? (i := 147) rfl)
  have h2 := Option.some.inj (h1.symm.trans h)
  simp only [Prod.mk.injEq] at h2
  obtain ⟨rfl, rfl, -, -⟩ := h2
  exact ⟨by decide +kernel, 102, 104, by decide +kernel, by decide +kernel, by decide +kernel, by decide +kernel, th_l0, th_i0, th_g0, th_b0⟩
theorem xth_354 : j_THq gB g_me (354, 10, 0) := by
  intro y cc maxL ret h
  have h1 := g_me_x (354, (⟨"ClickOrders", "checkCode", "(I)V"⟩ : MethodName), prog_1_method_43_code, 2, none) (List.mem_of_getElem? (i := 154) rfl)
  have h2 := Option.some.inj (h1.symm.trans h)
  simp only [Prod.mk.injEq] at h2
  obtain ⟨rfl, rfl, -, -⟩ := h2
  exact ⟨by decide +kernel, 102, 104, by decide +kernel, by decide +kernel, by decide +kernel, by decide +kernel, th_l0, th_i0, th_g0, th_b0⟩
theorem xth_355 : j_THq gB g_me (355, 9, 1) := by
  intro y cc maxL ret h
  have h1 := g_me_x (355, (⟨"ClickOrders", "checkIndex", "(II)V"⟩ : MethodName), prog_1_method_44_code, 3, none) (List.mem_of_getElem? (i := 155) rfl)
  have h2 := Option.some.inj (h1.symm.trans h)
  simp only [Prod.mk.injEq] at h2
  obtain ⟨rfl, rfl, -, -⟩ := h2
  exact ⟨by decide +kernel, 312, 314, by decide +kernel, by decide +kernel, by decide +kernel, by decide +kernel, th_l1, th_i1, th_g1, th_b1⟩
theorem xth_356 : j_THq gB g_me (356, 15, 2) := by
  intro y cc maxL ret h
  have h1 := g_me_x (356, (⟨"ClickOrders", "checkHappening", "(I)V"⟩ : MethodName), prog_1_method_45_code, 2, none) (List.mem_of_getElem? (i := 156) rfl)
  have h2 := Option.some.inj (h1.symm.trans h)
  simp only [Prod.mk.injEq] at h2
  obtain ⟨rfl, rfl, -, -⟩ := h2
  exact ⟨by decide +kernel, 315, 317, by decide +kernel, by decide +kernel, by decide +kernel, by decide +kernel, th_l2, th_i2, th_g2, th_b2⟩
theorem xth_357 : j_THq gB g_me (357, 22, 0) := by
  intro y cc maxL ret h
  have h1 := g_me_x (357, (⟨"ClickOrders", "checkRows", "(II)V"⟩ : MethodName), prog_1_method_46_code, 3, none) (List.mem_of_getElem? (i := 157) rfl)
  have h2 := Option.some.inj (h1.symm.trans h)
  simp only [Prod.mk.injEq] at h2
  obtain ⟨rfl, rfl, -, -⟩ := h2
  exact ⟨by decide +kernel, 102, 104, by decide +kernel, by decide +kernel, by decide +kernel, by decide +kernel, th_l0, th_i0, th_g0, th_b0⟩
theorem xth_358 : j_THq gB g_me (358, 9, 0) := by
  intro y cc maxL ret h
  have h1 := g_me_x (358, (⟨"ClickOrders", "checkMore", "(I)V"⟩ : MethodName), prog_1_method_47_code, 2, none) (List.mem_of_getElem? (i := 158) rfl)
  have h2 := Option.some.inj (h1.symm.trans h)
  simp only [Prod.mk.injEq] at h2
  obtain ⟨rfl, rfl, -, -⟩ := h2
  exact ⟨by decide +kernel, 102, 104, by decide +kernel, by decide +kernel, by decide +kernel, by decide +kernel, th_l0, th_i0, th_g0, th_b0⟩
theorem xth_all : ∀ q ∈ x_thL, j_THq gB g_me q := List.forall_mem_cons.mpr ⟨xth_314, List.forall_mem_cons.mpr ⟨xth_326, List.forall_mem_cons.mpr ⟨xth_332, List.forall_mem_cons.mpr ⟨xth_342, List.forall_mem_cons.mpr ⟨xth_344, List.forall_mem_cons.mpr ⟨xth_346, List.forall_mem_cons.mpr ⟨xth_347, List.forall_mem_cons.mpr ⟨xth_354, List.forall_mem_cons.mpr ⟨xth_355, List.forall_mem_cons.mpr ⟨xth_356, List.forall_mem_cons.mpr ⟨xth_357, List.forall_mem_cons.mpr ⟨xth_358, fun _ h => absurd h List.not_mem_nil⟩⟩⟩⟩⟩⟩⟩⟩⟩⟩⟩⟩
theorem x_TH : j_TH gB x_th g_me := by
  intro mid pc E h
  unfold x_th at h
  split at h
  · rename_i q hq
    cases h
    have h1 := List.find?_some hq
    have h2 := List.mem_of_find?_eq_some hq
    simp only [Bool.and_eq_true, beq_iff_eq] at h1
    obtain ⟨rfl, rfl⟩ := h1
    exact xth_all q h2
  · cases h
