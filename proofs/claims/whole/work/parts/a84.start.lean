/-! THE START: literals, array classes, classes, exceptions' statics. -/
def k_tm (i : Nat) : Term := .string "ClickOrders$Reader" (z_ix i)
def k_W : List Cond := flatC (Jvm.Cond.and given_1 narrow_1)
def kp (i : Nat) : Nat := ([385, 300, 342, 291, 365, 406, 399, 326, 430, 318, 373, 413, 334, 422, 392, 267, 379, 438, 282, 357, 310, 273, 349] : List Nat).getD i 0
theorem kw_1p : ∀ i, i < 23 → k_W[kp i]? = some (Cond.exactly (k_tm i) "java/lang/String") := by decide +kernel
theorem kw_2p : ∀ i, i < 23 → k_W[kp i + 1]? = some (Cond.eq (.field (k_tm i) "java/lang/String" "coder" "B") (.int 0)) := by decide +kernel
theorem kw_3p : ∀ i, i < 23 → k_W[kp i + 2]? = some (Cond.arrayOf (.field (k_tm i) "java/lang/String" "value" "[B") .byte) := by decide +kernel
theorem kw_4p : ∀ i, i < 23 → k_W[kp i + 3]? = some (Cond.eq (.length (.field (k_tm i) "java/lang/String" "value" "[B")) (.int (Int32.ofNat (x_sn i)))) := by decide +kernel
theorem kw_5p : ∀ i, i < 23 → ∀ j, j < x_sn i → k_W[kp i + 4 + j]? = some (Cond.eq (.elem (.field (k_tm i) "java/lang/String" "value" "[B") (.int (Int32.ofNat j))) (.int (x_sc i j))) := by decide +kernel
theorem kw_1 (i : Nat) (h : i < 23) : Cond.exactly (k_tm i) "java/lang/String" ∈ k_W := List.mem_of_getElem? (kw_1p i h)
theorem kw_2 (i : Nat) (h : i < 23) : Cond.eq (.field (k_tm i) "java/lang/String" "coder" "B") (.int 0) ∈ k_W := List.mem_of_getElem? (kw_2p i h)
theorem kw_3 (i : Nat) (h : i < 23) : Cond.arrayOf (.field (k_tm i) "java/lang/String" "value" "[B") .byte ∈ k_W := List.mem_of_getElem? (kw_3p i h)
theorem kw_4 (i : Nat) (h : i < 23) : Cond.eq (.length (.field (k_tm i) "java/lang/String" "value" "[B")) (.int (Int32.ofNat (x_sn i))) ∈ k_W := List.mem_of_getElem? (kw_4p i h)
theorem kw_5 (i : Nat) (h : i < 23) (j : Nat) (hj : j < x_sn i) : Cond.eq (.elem (.field (k_tm i) "java/lang/String" "value" "[B") (.int (Int32.ofNat j))) (.int (x_sc i j)) ∈ k_W := List.mem_of_getElem? (kw_5p i h j hj)
theorem kw_6 : ∀ i, i < 23 → Cond.stringRef "ClickOrders$Reader" (z_ix i) (z_tx i) ∈ lw_tbl := by decide +kernel
theorem kw_7 : Cond.eq (.static "java/lang/String" "COMPACT_STRINGS" "Z") (.int 1) ∈ k_W := by decide +kernel
theorem kw_8 : Cond.isRef (.static "jdk/internal/util/Preconditions" "SIOOBE_FORMATTER" "Ljava/util/function/BiFunction;") ∈ k_W := by decide +kernel
theorem kw_9 : Cond.laysStatic "java/lang/String" "COMPACT_STRINGS" "Z" ∈ lw_tbl := by decide +kernel
theorem kw_10 : Cond.laysStatic "jdk/internal/util/Preconditions" "SIOOBE_FORMATTER" "Ljava/util/function/BiFunction;" ∈ lw_tbl := by decide +kernel
theorem kw_11 : Cond.initialized "java/lang/String" ∈ lw_tbl := by decide +kernel
theorem kw_12 : Cond.initialized "jdk/internal/util/Preconditions" ∈ lw_tbl := by decide +kernel
theorem kw_13 : Cond.isRef (.static Bundle.tN "UNASSIGNED_STACK" Bundle.steD) ∈ k_W := by decide +kernel
theorem kw_14 : Cond.isRef (.static Bundle.tN "SUPPRESSED_SENTINEL" Bundle.listD) ∈ k_W := by decide +kernel
theorem kw_15 : Cond.laysStatic Bundle.tN "UNASSIGNED_STACK" Bundle.steD ∈ lw_tbl := by decide +kernel
theorem kw_16 : Cond.laysStatic Bundle.tN "SUPPRESSED_SENTINEL" Bundle.listD ∈ lw_tbl := by decide +kernel
theorem kw_17 : Cond.initialized Bundle.tN ∈ lw_tbl := by decide +kernel
theorem kw_18 : ∀ w ∈ eG, w ∈ lw_tbl := by decide +kernel
theorem kw_19 : Cond.not (.castable (eN 0) (eN 2)) ∈ k_W := by decide +kernel
theorem kw_20 : Cond.not (.castable (eN 0) (eN 1)) ∈ k_W := by decide +kernel
theorem kw_21 : Cond.arrayClass .int ∈ lw_tbl ∧ Cond.arrayClass .long ∈ lw_tbl ∧ Cond.arrayClass .boolean ∈ lw_tbl ∧ Cond.arrayOver (.object "ClickOrders$Page") ∈ lw_tbl ∧ Cond.arrayOver (.array .int) ∈ lw_tbl ∧ Cond.arrayOver (.array .boolean) ∈ lw_tbl := by decide +kernel
theorem kw_22 : Cond.instantiable "ClickOrders$Forms" 12 ∈ lw_tbl ∧ Cond.instantiable "ClickOrders$Hand" 10 ∈ lw_tbl ∧ Cond.instantiable "ClickOrders$Met" 6 ∈ lw_tbl ∧ Cond.instantiable "ClickOrders$Page" 1 ∈ lw_tbl ∧ Cond.instantiable "ClickOrders$Pair" 6 ∈ lw_tbl ∧ Cond.instantiable "ClickOrders$Program" 9 ∈ lw_tbl ∧ Cond.instantiable "ClickOrders$Reader" 7 ∈ lw_tbl ∧ Cond.instantiable "ClickOrders$Row" 4 ∈ lw_tbl ∧ Cond.instantiable "ClickOrders$Search" 19 ∈ lw_tbl ∧ Cond.instantiable "ClickOrders$Track" 15 ∈ lw_tbl ∧ Cond.instantiable "ClickOrders" 15 ∈ lw_tbl ∧ Cond.instantiable "ClickOrdersModel" 60 ∈ lw_tbl := by decide +kernel
def kA0 (s : State) : Nat → Prop := fun q => s.heap.size ≤ q
theorem k_str {args : Array Value} {s : State} (hg : ∀ w ∈ k_W, w.before args s = true) (hts : ∀ w ∈ lw_tbl, w.before args s = true) : ∃ adS : Nat → Nat, ∀ i, i < 23 → vk_R "ClickOrders$Reader" (z_ix i) (z_tx i) (adS i) s ∧ ∃ t, z_T (adS i) t (x_sn i) (x_sc i) (kA0 s) s s.heap := by
  have hA : ∀ a : Nat, a < s.heap.size → ¬ kA0 s a := fun a h z => absurd z (Nat.not_le.mpr h)
  have h0 : ∀ i : Nat, ∃ q : Nat, i < 23 → vk_R "ClickOrders$Reader" (z_ix i) (z_tx i) q s ∧ ∃ t, z_T q t (x_sn i) (x_sc i) (kA0 s) s s.heap := by
    intro i
    by_cases hi : i < 23
    · obtain ⟨a, c, cA, kA, q1, q2, q3, q4, q5, q6, -⟩ := Cond.exactly_spec (args := args) (first := s) (o := none) (s := s) (idx := []) (t := k_tm i) (cls := "java/lang/String") (hg _ (kw_1 i hi))
      obtain ⟨t, ht, hT⟩ := va_Tof (f := fun j => .int (x_sc i j)) (A := kA0 s) (by have := z_small i hi; omega) (hg _ (kw_3 i hi)) (va_eqt (hg _ (kw_4 i hi))) (fun j hj => va_eqt (hg _ (kw_5 i hi j hj))) hA
      exact ⟨a, fun _ => ⟨vk_R.of (hts _ (kw_6 i hi)) q1, t, ⟨cA, q3, q5, by rw [q6]; exact q2, hA a (Array.getElem?_eq_some_iff.mp q3).1⟩, vk_OFof q1 (va_eqt (hg _ (kw_2 i hi))) hA, vk_OFof q1 ht hA, hT, va_Zof (hts _ kw_9) (hts _ kw_11) (va_eqt (hg _ kw_7)) hA, va_Zqof (hts _ kw_10) (hts _ kw_12) (hg _ kw_8) hA⟩⟩
    · exact ⟨0, fun h => absurd h hi⟩
  obtain ⟨ad, had⟩ := Classical.axiomOfChoice h0
  exact ⟨ad, had⟩
theorem k_zu {args : Array Value} {s : State} (hg : ∀ w ∈ k_W, w.before args s = true) (hts : ∀ w ∈ lw_tbl, w.before args s = true) : z_U (kA0 s) s s.heap ∧ kNc s := by
  have hA : ∀ a : Nat, a < s.heap.size → ¬ kA0 s a := fun a h z => absurd z (Nat.not_le.mpr h)
  exact ⟨⟨vx_Zqof (hts _ kw_15) (hts _ kw_17) (hg _ kw_13) hA, vx_Zqof (hts _ kw_16) (hts _ kw_17) (hg _ kw_14) hA, fun w hw => va_Nw.of (eG_t w hw) (hts _ (kw_18 w hw))⟩, va_Nc.of (hg _ kw_19), va_Nc.of (hg _ kw_20)⟩
theorem k_ar {s : State} {ty : FieldType} {cA : ClassId} {kA : Class} {comp : ClassId} (h1 : s.vm.classes[cA]? = some kA) (h2 : kA.kind = .array comp ty) : ArrOfT s cA ty := fun _ _ => ⟨(fun q hq => by cases hq), kA, h1, comp, h2⟩
theorem k_K {args : Array Value} {s : State} (hts : ∀ w ∈ lw_tbl, w.before args s = true) : ∃ (D : va_G) (cy : Nat → ClassId), va_K D gcl (j_cy "ClickOrders$Page" cy kN) s := by
  have hc : ∀ c : Nat, ∃ q : ClassId × (Nat → Nat), ∀ r, gcl[c]? = some r → u_Kn s r.1 r.2.1 r.2.2 q.1 q.2 := by
    intro c
    by_cases hc : c < 12
    · cases hr : gcl[c]? with
      | none => exact ⟨(default, fun _ => 0), fun r h => by cases h⟩
      | some r =>
        have h3 : ∃ (cC : ClassId) (iS : Nat → Nat), u_Kn s r.1 r.2.1 r.2.2 cC iS := by
          obtain ⟨i0, i1, i2, i3, i4, i5, i6, i7, i8, i9, i10, i11⟩ := kw_22
          match c, hc with
          | 0, _ => cases hr; exact u_known hts cL_0 (hts _ i0)
          | 1, _ => cases hr; exact u_known hts cL_1 (hts _ i1)
          | 2, _ => cases hr; exact u_known hts cL_2 (hts _ i2)
          | 3, _ => cases hr; exact u_known hts cL_3 (hts _ i3)
          | 4, _ => cases hr; exact u_known hts cL_4 (hts _ i4)
          | 5, _ => cases hr; exact u_known hts cL_5 (hts _ i5)
          | 6, _ => cases hr; exact u_known hts cL_6 (hts _ i6)
          | 7, _ => cases hr; exact u_known hts cL_7 (hts _ i7)
          | 8, _ => cases hr; exact u_known hts cL_8 (hts _ i8)
          | 9, _ => cases hr; exact u_known hts cL_9 (hts _ i9)
          | 10, _ => cases hr; exact u_known hts cL_10 (hts _ i10)
          | 11, _ => cases hr; exact u_known hts cL_11 (hts _ i11)
          | c + 12, h => exact absurd h (by omega)
        obtain ⟨cC, iS, h2⟩ := h3
        exact ⟨(cC, iS), fun r' h => by cases h; exact h2⟩
    · refine ⟨(default, fun _ => 0), fun r h => ?_⟩
      have := (List.getElem?_eq_some_iff.mp h).1
      exact absurd (show c < 12 from this) hc
  obtain ⟨dd, hdd⟩ := Classical.axiomOfChoice hc
  obtain ⟨w1, w2, w3, w4, w5, w6⟩ := kw_21
  obtain ⟨c0, k0, m0, a1, a2, a3⟩ := Cond.arrayClass_spec (hts _ w1)
  obtain ⟨c1, k1, m1, b1, b2, b3⟩ := Cond.arrayClass_spec (hts _ w2)
  obtain ⟨c2, k2, m2, d1, d2, d3⟩ := Cond.arrayClass_spec (hts _ w3)
  obtain ⟨m3, c3, k3, e1, e2, e3, e4, e5⟩ := Cond.arrayOver_spec (hts _ w4)
  obtain ⟨m4, c4, k4, f1, f2, f3, f4, f5⟩ := arrayOverA_spec (hts _ w5)
  obtain ⟨m5, c5, k5, g1, g2, g3, g4, g5⟩ := arrayOverA_spec (hts _ w6)
  refine ⟨(fun c => (dd c).1, fun c => (dd c).2), fun t => match t with | 0 => c0 | 1 => c1 | 2 => c2 | 3 => c3 | 4 => c4 | _ => c5, fun c q hq => hdd c q hq, fun k q hq => ?_⟩
  have h0 : 0 ∈ kN := by
    show 0 ∈ g_n (gX true)
    rw [gn_t]
    exact g_all_in (by decide)
  unfold j_cy at hq
  rw [if_pos h0] at hq
  match k, hq with
  | 0, hq => cases hq; exact ⟨k_ar a2 a3, a1⟩
  | 1, hq => cases hq; exact ⟨k_ar b2 b3, b1⟩
  | 2, hq => cases hq; exact ⟨k_ar d2 d3, d1⟩
  | 3, hq => cases hq; exact ⟨k_ar e3 e4, k3, m3, e3, e4, e1, e5⟩
  | 4, hq => cases hq; exact ⟨k_ar f3 f4, f5⟩
  | 5, hq => cases hq; exact ⟨k_ar g3 g4, g5⟩
  | k + 6, hq => cases hq
