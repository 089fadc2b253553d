/-! THE HELPERS' contracts: kh_<name> (the call answers), kx_<name>_<k> (it throws, k is answered). -/
theorem kB_T {G : kG} {co : Nat → Option Instr} {own : String} {cc : ByteArray} {mx d : Nat} {v : Int32} {hh : List (Nat × Nat × Nat × Nat)} {sc : jSc} {rf : jRf} {ar : jSc} {al : jAl} (hB : kB G co own cc mx d v hh sc rf ar al) {pc E : Nat} {pre : List ExceptionTableEntry} {z : ExceptionTableEntry} {suf : List ExceptionTableEntry} (hE : E < 3) (hs : tableOf hh = pre ++ z :: suf) (hpre : ∀ y ∈ pre, E = 0 ∧ y.catchType ≠ 0 ∧ ∃ nm : String, Cond.classLink own y.catchType nm ∈ gB ∧ (nm = eN 2 ∨ nm = eN 1)) (hcov : covers z pc = true) (h0 : z.catchType ≠ 0) (hlk : Cond.classLink own z.catchType (eN E) ∈ gB) : kT G own pc E pre z suf := by
  obtain ⟨p, l, e, R, s, m, args, below, meth, c, Q, D, pg, ad, cy, A⟩ := G
  obtain ⟨-, -, -, h1, h2, h3⟩ := hB
  refine ⟨h1, hE, h2.trans hs, fun y hy => ?_, hcov, h0, hlk⟩
  obtain ⟨a1, a2, nm, a3, a4⟩ := hpre y hy
  subst a1
  rcases a4 with rfl | rfl
  · exact Or.inr ⟨a2, _, a3, h3.1⟩
  · exact Or.inr ⟨a2, _, a3, h3.2⟩
section KHS
variable {l : Launch} {rf rf2 : jRf} {sc sc2 : jSc} {mr mr2 : Nat → Nat} {ar ar2 : jSc} {al al2 : jAl} {v : Int32}
set_option maxHeartbeats 2000000 in
theorem kh_can (hl0 : l.stackTraces = false) (hO : kL.1 823 = .inr (1, 1)) {x1 : Int32} (h : kCl 317 [.ref 734, .int x1] sc rf ar al (some (.int v)) sc2 rf2 ar2 al2) : kHm l (⟨"ClickOrdersLaw", "can", "(LClickOrders;I[J)I"⟩ : MethodName) method_4_code 4 [(0, 16, 19, 13)] 170 [.ref 734, .int x1, .ref 823] (j_lay kL sc rf ar al) 0 (j_lay kL sc2 rf2 ar2 (j_u2 al2 823 (iN 0) (if v = 0 then (0 : Int64) else 1))) := by
  refine k_help (m0 := 1) hl0 (by decide) (Nat.le_of_ble_eq_true rfl) rfl kd_can (fun G hB => ?_)
  have hB0 := hB
  obtain ⟨hC, hR, hQ, -⟩ := hB
  show kW G 0 0 0 [some (.ref 734), some (.int x1), some (.ref 823), none] [] sc rf ar al
  refine kl_aload_n hC rfl rfl rfl ?_
  refine kl_iconst hC rfl ci_0 rfl ?_
  refine kl_aload_n hC rfl rfl rfl ?_
  refine kl_iload_n hC rfl rfl rfl ?_
  refine kl_call hC rfl kk_15 rfl rfl rfl ys_734 yx_317 rfl rfl hR (gW_mono h (fun r9 s9 f9 a9 l9 e9 => ?_))
  rw [e9.1, e9.2.1, e9.2.2.1, e9.2.2.2.1, e9.2.2.2.2]
  show kW G 0 0 7 [some (.ref 734), some (.int x1), some (.ref 823), none] [.int v, .int 0, .ref 823] sc2 rf2 ar2 al2
  refine kl_if_eq hC rfl rfl rfl (fun c1 => ?_) (fun c1 => ?_)
  · have e9 : (if v = 0 then (0 : Int64) else 1) = 0 := if_pos c1
    rw [e9] at hQ
    refine kl_lconst hC rfl rfl ?_
    refine kl_lastore hC rfl hO (by decide) rfl ?_
    refine kl_goto hC rfl rfl ?_
    refine kl_widen (k' := 1) (n' := 6) (by omega) (by omega) ?_
    refine kl_iconst hC rfl ci_0 rfl ?_
    exact kl_ireturn hC rfl hQ
  · have e9 : (if v = 0 then (0 : Int64) else 1) = 1 := if_neg c1
    rw [e9] at hQ
    refine kl_lconst hC rfl rfl ?_
    refine kl_goto hC rfl rfl ?_
    refine kl_lastore hC rfl hO (by decide) rfl ?_
    refine kl_goto hC rfl rfl ?_
    refine kl_widen (k' := 1) (n' := 6) (by omega) (by omega) ?_
    refine kl_iconst hC rfl ci_0 rfl ?_
    exact kl_ireturn hC rfl hQ
set_option maxHeartbeats 2000000 in
theorem kx_can_1 (hcat : kCatch) (hl0 : l.stackTraces = false) {x1 : Int32} (h : xE true rf 317 170 [.ref 734, .int x1] sc mr ar al 0) : kHm l (⟨"ClickOrdersLaw", "can", "(LClickOrders;I[J)I"⟩ : MethodName) method_4_code 4 [(0, 16, 19, 13)] 170 [.ref 734, .int x1, .ref 823] (j_lay kL sc (x_mk mr rf) ar al) 1 (j_lay kL sc (x_mk mr rf) ar al) := by
  refine k_help (m0 := 1) hl0 (by decide) (Nat.le_of_ble_eq_true rfl) rfl kd_can (fun G hB => ?_)
  have hB0 := hB
  obtain ⟨hC, hR, hQ, -⟩ := hB
  show kW G 0 0 0 [some (.ref 734), some (.int x1), some (.ref 823), none] [] sc (x_mk mr rf) ar al
  refine kl_aload_n hC rfl rfl rfl ?_
  refine kl_iconst hC rfl ci_0 rfl ?_
  refine kl_aload_n hC rfl rfl rfl ?_
  refine kl_iload_n hC rfl rfl rfl ?_
  exact kl_callX hcat hC rfl kk_15 rfl rfl rfl ys_734 yx_317 rfl hR (pre := []) (z := ⟨0, 16, 19, 13⟩) (suf := []) (kB_T (E := 0) hB0 (by decide) rfl (fun _ h => absurd h List.not_mem_nil) (by decide) (by decide) kcl_13) h (kl_hand hC (Or.inl ⟨3, rfl, rfl, rfl⟩) rfl rfl ci_1 rfl hQ)
set_option maxHeartbeats 2000000 in
theorem kh_cheapest (hl0 : l.stackTraces = false) (hO : kL.1 823 = .inr (1, 1)) {x1 x2 x3 x4 : Int32} (h : kCl 344 [.ref 734, .int x1, .int x2, .int x3, .int x4] sc rf ar al (some (.int v)) sc2 rf2 ar2 al2) : kHm l (⟨"ClickOrdersLaw", "cheapest", "(LClickOrders;IIII[J)I"⟩ : MethodName) method_22_code 7 [(0, 14, 17, 13)] 170 [.ref 734, .int x1, .int x2, .int x3, .int x4, .ref 823] (j_lay kL sc rf ar al) 0 (j_lay kL sc2 rf2 ar2 (j_u2 al2 823 (iN 0) v.toInt64)) := by
  refine k_help (m0 := 1) hl0 (by decide) (Nat.le_of_ble_eq_true rfl) rfl kd_cheapest (fun G hB => ?_)
  have hB0 := hB
  obtain ⟨hC, hR, hQ, -⟩ := hB
  show kW G 0 0 0 [some (.ref 734), some (.int x1), some (.int x2), some (.int x3), some (.int x4), some (.ref 823), none] [] sc rf ar al
  refine kl_aload hC rfl rfl rfl ?_
  refine kl_iconst hC rfl ci_0 rfl ?_
  refine kl_aload_n hC rfl rfl rfl ?_
  refine kl_iload_n hC rfl rfl rfl ?_
  refine kl_iload_n hC rfl rfl rfl ?_
  refine kl_iload_n hC rfl rfl rfl ?_
  refine kl_iload hC rfl rfl rfl ?_
  refine kl_call hC rfl kk_79 rfl rfl rfl ys_734 yx_344 rfl rfl hR (gW_mono h (fun r9 s9 f9 a9 l9 e9 => ?_))
  rw [e9.1, e9.2.1, e9.2.2.1, e9.2.2.2.1, e9.2.2.2.2]
  show kW G 0 0 12 [some (.ref 734), some (.int x1), some (.int x2), some (.int x3), some (.int x4), some (.ref 823), none] [.int v, .int 0, .ref 823] sc2 rf2 ar2 al2
  refine kl_i2l hC rfl rfl ?_
  refine kl_lastore hC rfl hO (by decide) rfl ?_
  refine kl_goto hC rfl rfl ?_
  refine kl_widen (k' := 1) (n' := 6) (by omega) (by omega) ?_
  refine kl_iconst hC rfl ci_0 rfl ?_
  exact kl_ireturn hC rfl hQ
set_option maxHeartbeats 2000000 in
theorem kx_cheapest_1 (hcat : kCatch) (hl0 : l.stackTraces = false) {x1 x2 x3 x4 : Int32} (h : xE true rf 344 170 [.ref 734, .int x1, .int x2, .int x3, .int x4] sc mr ar al 0) : kHm l (⟨"ClickOrdersLaw", "cheapest", "(LClickOrders;IIII[J)I"⟩ : MethodName) method_22_code 7 [(0, 14, 17, 13)] 170 [.ref 734, .int x1, .int x2, .int x3, .int x4, .ref 823] (j_lay kL sc (x_mk mr rf) ar al) 1 (j_lay kL sc (x_mk mr rf) ar al) := by
  refine k_help (m0 := 1) hl0 (by decide) (Nat.le_of_ble_eq_true rfl) rfl kd_cheapest (fun G hB => ?_)
  have hB0 := hB
  obtain ⟨hC, hR, hQ, -⟩ := hB
  show kW G 0 0 0 [some (.ref 734), some (.int x1), some (.int x2), some (.int x3), some (.int x4), some (.ref 823), none] [] sc (x_mk mr rf) ar al
  refine kl_aload hC rfl rfl rfl ?_
  refine kl_iconst hC rfl ci_0 rfl ?_
  refine kl_aload_n hC rfl rfl rfl ?_
  refine kl_iload_n hC rfl rfl rfl ?_
  refine kl_iload_n hC rfl rfl rfl ?_
  refine kl_iload_n hC rfl rfl rfl ?_
  refine kl_iload hC rfl rfl rfl ?_
  exact kl_callX hcat hC rfl kk_79 rfl rfl rfl ys_734 yx_344 rfl hR (pre := []) (z := ⟨0, 14, 17, 13⟩) (suf := []) (kB_T (E := 0) hB0 (by decide) rfl (fun _ h => absurd h List.not_mem_nil) (by decide) (by decide) kcl_13) h (kl_hand hC (Or.inr ⟨rfl, rfl⟩) rfl rfl ci_1 rfl hQ)
set_option maxHeartbeats 2000000 in
theorem kh_come (hl0 : l.stackTraces = false) (hO : kL.1 823 = .inr (1, 1)) {x1 : Int32} (h : kCl 318 [.ref 734, .int x1] sc rf ar al (some (.int v)) sc2 rf2 ar2 al2) : kHm l (⟨"ClickOrdersLaw", "come", "(LClickOrders;I[J)I"⟩ : MethodName) method_5_code 4 [(0, 9, 12, 13)] 170 [.ref 734, .int x1, .ref 823] (j_lay kL sc rf ar al) 0 (j_lay kL sc2 rf2 ar2 (j_u2 al2 823 (iN 0) v.toInt64)) := by
  refine k_help (m0 := 1) hl0 (by decide) (Nat.le_of_ble_eq_true rfl) rfl kd_come (fun G hB => ?_)
  have hB0 := hB
  obtain ⟨hC, hR, hQ, -⟩ := hB
  show kW G 0 0 0 [some (.ref 734), some (.int x1), some (.ref 823), none] [] sc rf ar al
  refine kl_aload_n hC rfl rfl rfl ?_
  refine kl_iconst hC rfl ci_0 rfl ?_
  refine kl_aload_n hC rfl rfl rfl ?_
  refine kl_iload_n hC rfl rfl rfl ?_
  refine kl_call hC rfl kk_19 rfl rfl rfl ys_734 yx_318 rfl rfl hR (gW_mono h (fun r9 s9 f9 a9 l9 e9 => ?_))
  rw [e9.1, e9.2.1, e9.2.2.1, e9.2.2.2.1, e9.2.2.2.2]
  show kW G 0 0 7 [some (.ref 734), some (.int x1), some (.ref 823), none] [.int v, .int 0, .ref 823] sc2 rf2 ar2 al2
  refine kl_i2l hC rfl rfl ?_
  refine kl_lastore hC rfl hO (by decide) rfl ?_
  refine kl_goto hC rfl rfl ?_
  refine kl_widen (k' := 1) (n' := 6) (by omega) (by omega) ?_
  refine kl_iconst hC rfl ci_0 rfl ?_
  exact kl_ireturn hC rfl hQ
set_option maxHeartbeats 2000000 in
theorem kx_come_1 (hcat : kCatch) (hl0 : l.stackTraces = false) {x1 : Int32} (h : xE true rf 318 170 [.ref 734, .int x1] sc mr ar al 0) : kHm l (⟨"ClickOrdersLaw", "come", "(LClickOrders;I[J)I"⟩ : MethodName) method_5_code 4 [(0, 9, 12, 13)] 170 [.ref 734, .int x1, .ref 823] (j_lay kL sc (x_mk mr rf) ar al) 1 (j_lay kL sc (x_mk mr rf) ar al) := by
  refine k_help (m0 := 1) hl0 (by decide) (Nat.le_of_ble_eq_true rfl) rfl kd_come (fun G hB => ?_)
  have hB0 := hB
  obtain ⟨hC, hR, hQ, -⟩ := hB
  show kW G 0 0 0 [some (.ref 734), some (.int x1), some (.ref 823), none] [] sc (x_mk mr rf) ar al
  refine kl_aload_n hC rfl rfl rfl ?_
  refine kl_iconst hC rfl ci_0 rfl ?_
  refine kl_aload_n hC rfl rfl rfl ?_
  refine kl_iload_n hC rfl rfl rfl ?_
  exact kl_callX hcat hC rfl kk_19 rfl rfl rfl ys_734 yx_318 rfl hR (pre := []) (z := ⟨0, 9, 12, 13⟩) (suf := []) (kB_T (E := 0) hB0 (by decide) rfl (fun _ h => absurd h List.not_mem_nil) (by decide) (by decide) kcl_13) h (kl_hand hC (Or.inl ⟨3, rfl, rfl, rfl⟩) rfl rfl ci_1 rfl hQ)
set_option maxHeartbeats 2000000 in
theorem kh_comes (hl0 : l.stackTraces = false) (hO : kL.1 823 = .inr (1, 1)) {x1 x2 : Int32} (h : kCl 346 [.ref 734, .int x1, .int x2] sc rf ar al (some (.int v)) sc2 rf2 ar2 al2) : kHm l (⟨"ClickOrdersLaw", "comes", "(LClickOrders;II[J)I"⟩ : MethodName) method_23_code 5 [(0, 10, 13, 13)] 170 [.ref 734, .int x1, .int x2, .ref 823] (j_lay kL sc rf ar al) 0 (j_lay kL sc2 rf2 ar2 (j_u2 al2 823 (iN 0) v.toInt64)) := by
  refine k_help (m0 := 1) hl0 (by decide) (Nat.le_of_ble_eq_true rfl) rfl kd_comes (fun G hB => ?_)
  have hB0 := hB
  obtain ⟨hC, hR, hQ, -⟩ := hB
  show kW G 0 0 0 [some (.ref 734), some (.int x1), some (.int x2), some (.ref 823), none] [] sc rf ar al
  refine kl_aload_n hC rfl rfl rfl ?_
  refine kl_iconst hC rfl ci_0 rfl ?_
  refine kl_aload_n hC rfl rfl rfl ?_
  refine kl_iload_n hC rfl rfl rfl ?_
  refine kl_iload_n hC rfl rfl rfl ?_
  refine kl_call hC rfl kk_82 rfl rfl rfl ys_734 yx_346 rfl rfl hR (gW_mono h (fun r9 s9 f9 a9 l9 e9 => ?_))
  rw [e9.1, e9.2.1, e9.2.2.1, e9.2.2.2.1, e9.2.2.2.2]
  show kW G 0 0 8 [some (.ref 734), some (.int x1), some (.int x2), some (.ref 823), none] [.int v, .int 0, .ref 823] sc2 rf2 ar2 al2
  refine kl_i2l hC rfl rfl ?_
  refine kl_lastore hC rfl hO (by decide) rfl ?_
  refine kl_goto hC rfl rfl ?_
  refine kl_widen (k' := 1) (n' := 6) (by omega) (by omega) ?_
  refine kl_iconst hC rfl ci_0 rfl ?_
  exact kl_ireturn hC rfl hQ
set_option maxHeartbeats 2000000 in
theorem kx_comes_1 (hcat : kCatch) (hl0 : l.stackTraces = false) {x1 x2 : Int32} (h : xE true rf 346 170 [.ref 734, .int x1, .int x2] sc mr ar al 0) : kHm l (⟨"ClickOrdersLaw", "comes", "(LClickOrders;II[J)I"⟩ : MethodName) method_23_code 5 [(0, 10, 13, 13)] 170 [.ref 734, .int x1, .int x2, .ref 823] (j_lay kL sc (x_mk mr rf) ar al) 1 (j_lay kL sc (x_mk mr rf) ar al) := by
  refine k_help (m0 := 1) hl0 (by decide) (Nat.le_of_ble_eq_true rfl) rfl kd_comes (fun G hB => ?_)
  have hB0 := hB
  obtain ⟨hC, hR, hQ, -⟩ := hB
  show kW G 0 0 0 [some (.ref 734), some (.int x1), some (.int x2), some (.ref 823), none] [] sc (x_mk mr rf) ar al
  refine kl_aload_n hC rfl rfl rfl ?_
  refine kl_iconst hC rfl ci_0 rfl ?_
  refine kl_aload_n hC rfl rfl rfl ?_
  refine kl_iload_n hC rfl rfl rfl ?_
  refine kl_iload_n hC rfl rfl rfl ?_
  exact kl_callX hcat hC rfl kk_82 rfl rfl rfl ys_734 yx_346 rfl hR (pre := []) (z := ⟨0, 10, 13, 13⟩) (suf := []) (kB_T (E := 0) hB0 (by decide) rfl (fun _ h => absurd h List.not_mem_nil) (by decide) (by decide) kcl_13) h (kl_hand hC (Or.inr ⟨rfl, rfl⟩) rfl rfl ci_1 rfl hQ)
set_option maxHeartbeats 2000000 in
theorem kh_far (hl0 : l.stackTraces = false) (hO : kL.1 823 = .inr (1, 1)) {x1 : Int32} (h : kCl 321 [.ref 734, .int x1] sc rf ar al (some (.int v)) sc2 rf2 ar2 al2) : kHm l (⟨"ClickOrdersLaw", "far", "(LClickOrders;I[J)I"⟩ : MethodName) method_8_code 4 [(0, 9, 12, 25)] 170 [.ref 734, .int x1, .ref 823] (j_lay kL sc rf ar al) 0 (j_lay kL sc2 rf2 ar2 (j_u2 al2 823 (iN 0) v.toInt64)) := by
  refine k_help (m0 := 1) hl0 (by decide) (Nat.le_of_ble_eq_true rfl) rfl kd_far (fun G hB => ?_)
  have hB0 := hB
  obtain ⟨hC, hR, hQ, -⟩ := hB
  show kW G 0 0 0 [some (.ref 734), some (.int x1), some (.ref 823), none] [] sc rf ar al
  refine kl_aload_n hC rfl rfl rfl ?_
  refine kl_iconst hC rfl ci_0 rfl ?_
  refine kl_aload_n hC rfl rfl rfl ?_
  refine kl_iload_n hC rfl rfl rfl ?_
  refine kl_call hC rfl kk_30 rfl rfl rfl ys_734 yx_321 rfl rfl hR (gW_mono h (fun r9 s9 f9 a9 l9 e9 => ?_))
  rw [e9.1, e9.2.1, e9.2.2.1, e9.2.2.2.1, e9.2.2.2.2]
  show kW G 0 0 7 [some (.ref 734), some (.int x1), some (.ref 823), none] [.int v, .int 0, .ref 823] sc2 rf2 ar2 al2
  refine kl_i2l hC rfl rfl ?_
  refine kl_lastore hC rfl hO (by decide) rfl ?_
  refine kl_goto hC rfl rfl ?_
  refine kl_widen (k' := 1) (n' := 6) (by omega) (by omega) ?_
  refine kl_iconst hC rfl ci_0 rfl ?_
  exact kl_ireturn hC rfl hQ
set_option maxHeartbeats 2000000 in
theorem kx_far_1 (hcat : kCatch) (hl0 : l.stackTraces = false) {x1 : Int32} (h : xE true rf 321 170 [.ref 734, .int x1] sc mr ar al 1) : kHm l (⟨"ClickOrdersLaw", "far", "(LClickOrders;I[J)I"⟩ : MethodName) method_8_code 4 [(0, 9, 12, 25)] 170 [.ref 734, .int x1, .ref 823] (j_lay kL sc (x_mk mr rf) ar al) 1 (j_lay kL sc (x_mk mr rf) ar al) := by
  refine k_help (m0 := 1) hl0 (by decide) (Nat.le_of_ble_eq_true rfl) rfl kd_far (fun G hB => ?_)
  have hB0 := hB
  obtain ⟨hC, hR, hQ, -⟩ := hB
  show kW G 0 0 0 [some (.ref 734), some (.int x1), some (.ref 823), none] [] sc (x_mk mr rf) ar al
  refine kl_aload_n hC rfl rfl rfl ?_
  refine kl_iconst hC rfl ci_0 rfl ?_
  refine kl_aload_n hC rfl rfl rfl ?_
  refine kl_iload_n hC rfl rfl rfl ?_
  exact kl_callX hcat hC rfl kk_30 rfl rfl rfl ys_734 yx_321 rfl hR (pre := []) (z := ⟨0, 9, 12, 25⟩) (suf := []) (kB_T (E := 1) hB0 (by decide) rfl (fun _ h => absurd h List.not_mem_nil) (by decide) (by decide) kcl_25) h (kl_hand hC (Or.inl ⟨3, rfl, rfl, rfl⟩) rfl rfl ci_1 rfl hQ)
set_option maxHeartbeats 2000000 in
theorem kh_form (hl0 : l.stackTraces = false) (hO : kL.1 823 = .inr (1, 1)) {x1 x2 x3 x4 : Int32} (h : kCl 342 [.ref 734, .int x1, .int x2, .int x3, .int x4] sc rf ar al (some (.int v)) sc2 rf2 ar2 al2) : kHm l (⟨"ClickOrdersLaw", "form", "(LClickOrders;IIII[J)I"⟩ : MethodName) method_20_code 7 [(0, 14, 17, 13)] 170 [.ref 734, .int x1, .int x2, .int x3, .int x4, .ref 823] (j_lay kL sc rf ar al) 0 (j_lay kL sc2 rf2 ar2 (j_u2 al2 823 (iN 0) v.toInt64)) := by
  refine k_help (m0 := 1) hl0 (by decide) (Nat.le_of_ble_eq_true rfl) rfl kd_form (fun G hB => ?_)
  have hB0 := hB
  obtain ⟨hC, hR, hQ, -⟩ := hB
  show kW G 0 0 0 [some (.ref 734), some (.int x1), some (.int x2), some (.int x3), some (.int x4), some (.ref 823), none] [] sc rf ar al
  refine kl_aload hC rfl rfl rfl ?_
  refine kl_iconst hC rfl ci_0 rfl ?_
  refine kl_aload_n hC rfl rfl rfl ?_
  refine kl_iload_n hC rfl rfl rfl ?_
  refine kl_iload_n hC rfl rfl rfl ?_
  refine kl_iload_n hC rfl rfl rfl ?_
  refine kl_iload hC rfl rfl rfl ?_
  refine kl_call hC rfl kk_71 rfl rfl rfl ys_734 yx_342 rfl rfl hR (gW_mono h (fun r9 s9 f9 a9 l9 e9 => ?_))
  rw [e9.1, e9.2.1, e9.2.2.1, e9.2.2.2.1, e9.2.2.2.2]
  show kW G 0 0 12 [some (.ref 734), some (.int x1), some (.int x2), some (.int x3), some (.int x4), some (.ref 823), none] [.int v, .int 0, .ref 823] sc2 rf2 ar2 al2
  refine kl_i2l hC rfl rfl ?_
  refine kl_lastore hC rfl hO (by decide) rfl ?_
  refine kl_goto hC rfl rfl ?_
  refine kl_widen (k' := 1) (n' := 6) (by omega) (by omega) ?_
  refine kl_iconst hC rfl ci_0 rfl ?_
  exact kl_ireturn hC rfl hQ
set_option maxHeartbeats 2000000 in
theorem kx_form_1 (hcat : kCatch) (hl0 : l.stackTraces = false) {x1 x2 x3 x4 : Int32} (h : xE true rf 342 170 [.ref 734, .int x1, .int x2, .int x3, .int x4] sc mr ar al 0) : kHm l (⟨"ClickOrdersLaw", "form", "(LClickOrders;IIII[J)I"⟩ : MethodName) method_20_code 7 [(0, 14, 17, 13)] 170 [.ref 734, .int x1, .int x2, .int x3, .int x4, .ref 823] (j_lay kL sc (x_mk mr rf) ar al) 1 (j_lay kL sc (x_mk mr rf) ar al) := by
  refine k_help (m0 := 1) hl0 (by decide) (Nat.le_of_ble_eq_true rfl) rfl kd_form (fun G hB => ?_)
  have hB0 := hB
  obtain ⟨hC, hR, hQ, -⟩ := hB
  show kW G 0 0 0 [some (.ref 734), some (.int x1), some (.int x2), some (.int x3), some (.int x4), some (.ref 823), none] [] sc (x_mk mr rf) ar al
  refine kl_aload hC rfl rfl rfl ?_
  refine kl_iconst hC rfl ci_0 rfl ?_
  refine kl_aload_n hC rfl rfl rfl ?_
  refine kl_iload_n hC rfl rfl rfl ?_
  refine kl_iload_n hC rfl rfl rfl ?_
  refine kl_iload_n hC rfl rfl rfl ?_
  refine kl_iload hC rfl rfl rfl ?_
  exact kl_callX hcat hC rfl kk_71 rfl rfl rfl ys_734 yx_342 rfl hR (pre := []) (z := ⟨0, 14, 17, 13⟩) (suf := []) (kB_T (E := 0) hB0 (by decide) rfl (fun _ h => absurd h List.not_mem_nil) (by decide) (by decide) kcl_13) h (kl_hand hC (Or.inr ⟨rfl, rfl⟩) rfl rfl ci_1 rfl hQ)
set_option maxHeartbeats 2000000 in
theorem kh_happening (hl0 : l.stackTraces = false) (hO : kL.1 823 = .inr (1, 1)) {x1 x2 : Int32} (h : kCl 326 [.ref 734, .int x1, .int x2] sc rf ar al (some (.int v)) sc2 rf2 ar2 al2) : kHm l (⟨"ClickOrdersLaw", "happening", "(LClickOrders;II[J)I"⟩ : MethodName) method_10_code 5 [(0, 10, 13, 40), (0, 10, 17, 13)] 170 [.ref 734, .int x1, .int x2, .ref 823] (j_lay kL sc rf ar al) 0 (j_lay kL sc2 rf2 ar2 (j_u2 al2 823 (iN 0) v.toInt64)) := by
  refine k_help (m0 := 1) hl0 (by decide) (Nat.le_of_ble_eq_true rfl) rfl kd_happening (fun G hB => ?_)
  have hB0 := hB
  obtain ⟨hC, hR, hQ, -⟩ := hB
  show kW G 0 0 0 [some (.ref 734), some (.int x1), some (.int x2), some (.ref 823), none] [] sc rf ar al
  refine kl_aload_n hC rfl rfl rfl ?_
  refine kl_iconst hC rfl ci_0 rfl ?_
  refine kl_aload_n hC rfl rfl rfl ?_
  refine kl_iload_n hC rfl rfl rfl ?_
  refine kl_iload_n hC rfl rfl rfl ?_
  refine kl_call hC rfl kk_37 rfl rfl rfl ys_734 yx_326 rfl rfl hR (gW_mono h (fun r9 s9 f9 a9 l9 e9 => ?_))
  rw [e9.1, e9.2.1, e9.2.2.1, e9.2.2.2.1, e9.2.2.2.2]
  show kW G 0 0 8 [some (.ref 734), some (.int x1), some (.int x2), some (.ref 823), none] [.int v, .int 0, .ref 823] sc2 rf2 ar2 al2
  refine kl_i2l hC rfl rfl ?_
  refine kl_lastore hC rfl hO (by decide) rfl ?_
  refine kl_goto hC rfl rfl ?_
  refine kl_widen (k' := 1) (n' := 6) (by omega) (by omega) ?_
  refine kl_iconst hC rfl ci_0 rfl ?_
  exact kl_ireturn hC rfl hQ
set_option maxHeartbeats 2000000 in
theorem kx_happening_1 (hcat : kCatch) (hl0 : l.stackTraces = false) {x1 x2 : Int32} (h : xE true rf 326 170 [.ref 734, .int x1, .int x2] sc mr ar al 2) : kHm l (⟨"ClickOrdersLaw", "happening", "(LClickOrders;II[J)I"⟩ : MethodName) method_10_code 5 [(0, 10, 13, 40), (0, 10, 17, 13)] 170 [.ref 734, .int x1, .int x2, .ref 823] (j_lay kL sc (x_mk mr rf) ar al) 1 (j_lay kL sc (x_mk mr rf) ar al) := by
  refine k_help (m0 := 1) hl0 (by decide) (Nat.le_of_ble_eq_true rfl) rfl kd_happening (fun G hB => ?_)
  have hB0 := hB
  obtain ⟨hC, hR, hQ, -⟩ := hB
  show kW G 0 0 0 [some (.ref 734), some (.int x1), some (.int x2), some (.ref 823), none] [] sc (x_mk mr rf) ar al
  refine kl_aload_n hC rfl rfl rfl ?_
  refine kl_iconst hC rfl ci_0 rfl ?_
  refine kl_aload_n hC rfl rfl rfl ?_
  refine kl_iload_n hC rfl rfl rfl ?_
  refine kl_iload_n hC rfl rfl rfl ?_
  exact kl_callX hcat hC rfl kk_37 rfl rfl rfl ys_734 yx_326 rfl hR (pre := []) (z := ⟨0, 10, 13, 40⟩) (suf := [⟨0, 10, 17, 13⟩]) (kB_T (E := 2) hB0 (by decide) rfl (fun _ h => absurd h List.not_mem_nil) (by decide) (by decide) kcl_40) h (kl_hand hC (Or.inr ⟨rfl, rfl⟩) rfl rfl ci_1 rfl hQ)
set_option maxHeartbeats 2000000 in
theorem kx_happening_2 (hcat : kCatch) (hl0 : l.stackTraces = false) {x1 x2 : Int32} (h : xE true rf 326 170 [.ref 734, .int x1, .int x2] sc mr ar al 0) : kHm l (⟨"ClickOrdersLaw", "happening", "(LClickOrders;II[J)I"⟩ : MethodName) method_10_code 5 [(0, 10, 13, 40), (0, 10, 17, 13)] 170 [.ref 734, .int x1, .int x2, .ref 823] (j_lay kL sc (x_mk mr rf) ar al) 2 (j_lay kL sc (x_mk mr rf) ar al) := by
  refine k_help (m0 := 1) hl0 (by decide) (Nat.le_of_ble_eq_true rfl) rfl kd_happening (fun G hB => ?_)
  have hB0 := hB
  obtain ⟨hC, hR, hQ, -⟩ := hB
  show kW G 0 0 0 [some (.ref 734), some (.int x1), some (.int x2), some (.ref 823), none] [] sc (x_mk mr rf) ar al
  refine kl_aload_n hC rfl rfl rfl ?_
  refine kl_iconst hC rfl ci_0 rfl ?_
  refine kl_aload_n hC rfl rfl rfl ?_
  refine kl_iload_n hC rfl rfl rfl ?_
  refine kl_iload_n hC rfl rfl rfl ?_
  exact kl_callX hcat hC rfl kk_37 rfl rfl rfl ys_734 yx_326 rfl hR (pre := [⟨0, 10, 13, 40⟩]) (z := ⟨0, 10, 17, 13⟩) (suf := []) (kB_T (E := 0) hB0 (by decide) rfl (fun y hy => by rw [List.mem_singleton.mp hy]; exact ⟨rfl, (by decide), _, kcl_40, Or.inl rfl⟩) (by decide) (by decide) kcl_13) h (kl_hand hC (Or.inr ⟨rfl, rfl⟩) rfl rfl ci_2 rfl hQ)
set_option maxHeartbeats 2000000 in
theorem kh_line (hl0 : l.stackTraces = false) (hO : kL.1 823 = .inr (1, 1)) {x1 x2 : Int32} (h : kCl 322 [.ref 734, .int x1, .int x2] sc rf ar al (some (.int v)) sc2 rf2 ar2 al2) : kHm l (⟨"ClickOrdersLaw", "line", "(LClickOrders;II[J)I"⟩ : MethodName) method_9_code 5 [(0, 10, 13, 25)] 170 [.ref 734, .int x1, .int x2, .ref 823] (j_lay kL sc rf ar al) 0 (j_lay kL sc2 rf2 ar2 (j_u2 al2 823 (iN 0) v.toInt64)) := by
  refine k_help (m0 := 1) hl0 (by decide) (Nat.le_of_ble_eq_true rfl) rfl kd_line (fun G hB => ?_)
  have hB0 := hB
  obtain ⟨hC, hR, hQ, -⟩ := hB
  show kW G 0 0 0 [some (.ref 734), some (.int x1), some (.int x2), some (.ref 823), none] [] sc rf ar al
  refine kl_aload_n hC rfl rfl rfl ?_
  refine kl_iconst hC rfl ci_0 rfl ?_
  refine kl_aload_n hC rfl rfl rfl ?_
  refine kl_iload_n hC rfl rfl rfl ?_
  refine kl_iload_n hC rfl rfl rfl ?_
  refine kl_call hC rfl kk_33 rfl rfl rfl ys_734 yx_322 rfl rfl hR (gW_mono h (fun r9 s9 f9 a9 l9 e9 => ?_))
  rw [e9.1, e9.2.1, e9.2.2.1, e9.2.2.2.1, e9.2.2.2.2]
  show kW G 0 0 8 [some (.ref 734), some (.int x1), some (.int x2), some (.ref 823), none] [.int v, .int 0, .ref 823] sc2 rf2 ar2 al2
  refine kl_i2l hC rfl rfl ?_
  refine kl_lastore hC rfl hO (by decide) rfl ?_
  refine kl_goto hC rfl rfl ?_
  refine kl_widen (k' := 1) (n' := 6) (by omega) (by omega) ?_
  refine kl_iconst hC rfl ci_0 rfl ?_
  exact kl_ireturn hC rfl hQ
set_option maxHeartbeats 2000000 in
theorem kx_line_1 (hcat : kCatch) (hl0 : l.stackTraces = false) {x1 x2 : Int32} (h : xE true rf 322 170 [.ref 734, .int x1, .int x2] sc mr ar al 1) : kHm l (⟨"ClickOrdersLaw", "line", "(LClickOrders;II[J)I"⟩ : MethodName) method_9_code 5 [(0, 10, 13, 25)] 170 [.ref 734, .int x1, .int x2, .ref 823] (j_lay kL sc (x_mk mr rf) ar al) 1 (j_lay kL sc (x_mk mr rf) ar al) := by
  refine k_help (m0 := 1) hl0 (by decide) (Nat.le_of_ble_eq_true rfl) rfl kd_line (fun G hB => ?_)
  have hB0 := hB
  obtain ⟨hC, hR, hQ, -⟩ := hB
  show kW G 0 0 0 [some (.ref 734), some (.int x1), some (.int x2), some (.ref 823), none] [] sc (x_mk mr rf) ar al
  refine kl_aload_n hC rfl rfl rfl ?_
  refine kl_iconst hC rfl ci_0 rfl ?_
  refine kl_aload_n hC rfl rfl rfl ?_
  refine kl_iload_n hC rfl rfl rfl ?_
  refine kl_iload_n hC rfl rfl rfl ?_
  exact kl_callX hcat hC rfl kk_33 rfl rfl rfl ys_734 yx_322 rfl hR (pre := []) (z := ⟨0, 10, 13, 25⟩) (suf := []) (kB_T (E := 1) hB0 (by decide) rfl (fun _ h => absurd h List.not_mem_nil) (by decide) (by decide) kcl_25) h (kl_hand hC (Or.inr ⟨rfl, rfl⟩) rfl rfl ci_1 rfl hQ)
set_option maxHeartbeats 2000000 in
theorem kh_lost (hl0 : l.stackTraces = false) (hO : kL.1 823 = .inr (1, 1)) {x1 : Int32} (h : kCl 348 [.ref 734, .int x1] sc rf ar al (some (.int v)) sc2 rf2 ar2 al2) : kHm l (⟨"ClickOrdersLaw", "lost", "(LClickOrders;I[J)I"⟩ : MethodName) method_25_code 4 [(0, 9, 12, 13)] 170 [.ref 734, .int x1, .ref 823] (j_lay kL sc rf ar al) 0 (j_lay kL sc2 rf2 ar2 (j_u2 al2 823 (iN 0) v.toInt64)) := by
  refine k_help (m0 := 1) hl0 (by decide) (Nat.le_of_ble_eq_true rfl) rfl kd_lost (fun G hB => ?_)
  have hB0 := hB
  obtain ⟨hC, hR, hQ, -⟩ := hB
  show kW G 0 0 0 [some (.ref 734), some (.int x1), some (.ref 823), none] [] sc rf ar al
  refine kl_aload_n hC rfl rfl rfl ?_
  refine kl_iconst hC rfl ci_0 rfl ?_
  refine kl_aload_n hC rfl rfl rfl ?_
  refine kl_iload_n hC rfl rfl rfl ?_
  refine kl_call hC rfl kk_88 rfl rfl rfl ys_734 yx_348 rfl rfl hR (gW_mono h (fun r9 s9 f9 a9 l9 e9 => ?_))
  rw [e9.1, e9.2.1, e9.2.2.1, e9.2.2.2.1, e9.2.2.2.2]
  show kW G 0 0 7 [some (.ref 734), some (.int x1), some (.ref 823), none] [.int v, .int 0, .ref 823] sc2 rf2 ar2 al2
  refine kl_i2l hC rfl rfl ?_
  refine kl_lastore hC rfl hO (by decide) rfl ?_
  refine kl_goto hC rfl rfl ?_
  refine kl_widen (k' := 1) (n' := 6) (by omega) (by omega) ?_
  refine kl_iconst hC rfl ci_0 rfl ?_
  exact kl_ireturn hC rfl hQ
set_option maxHeartbeats 2000000 in
theorem kx_lost_1 (hcat : kCatch) (hl0 : l.stackTraces = false) {x1 : Int32} (h : xE true rf 348 170 [.ref 734, .int x1] sc mr ar al 0) : kHm l (⟨"ClickOrdersLaw", "lost", "(LClickOrders;I[J)I"⟩ : MethodName) method_25_code 4 [(0, 9, 12, 13)] 170 [.ref 734, .int x1, .ref 823] (j_lay kL sc (x_mk mr rf) ar al) 1 (j_lay kL sc (x_mk mr rf) ar al) := by
  refine k_help (m0 := 1) hl0 (by decide) (Nat.le_of_ble_eq_true rfl) rfl kd_lost (fun G hB => ?_)
  have hB0 := hB
  obtain ⟨hC, hR, hQ, -⟩ := hB
  show kW G 0 0 0 [some (.ref 734), some (.int x1), some (.ref 823), none] [] sc (x_mk mr rf) ar al
  refine kl_aload_n hC rfl rfl rfl ?_
  refine kl_iconst hC rfl ci_0 rfl ?_
  refine kl_aload_n hC rfl rfl rfl ?_
  refine kl_iload_n hC rfl rfl rfl ?_
  exact kl_callX hcat hC rfl kk_88 rfl rfl rfl ys_734 yx_348 rfl hR (pre := []) (z := ⟨0, 9, 12, 13⟩) (suf := []) (kB_T (E := 0) hB0 (by decide) rfl (fun _ h => absurd h List.not_mem_nil) (by decide) (by decide) kcl_13) h (kl_hand hC (Or.inl ⟨3, rfl, rfl, rfl⟩) rfl rfl ci_1 rfl hQ)
set_option maxHeartbeats 2000000 in
theorem kh_name (hl0 : l.stackTraces = false) (hO : kL.1 823 = .inr (1, 1)) {x1 : Int32} (h : kCl 319 [.ref 734, .int x1] sc rf ar al (some (.int v)) sc2 rf2 ar2 al2) : kHm l (⟨"ClickOrdersLaw", "name", "(LClickOrders;I[J)I"⟩ : MethodName) method_6_code 4 [(0, 9, 12, 25)] 170 [.ref 734, .int x1, .ref 823] (j_lay kL sc rf ar al) 0 (j_lay kL sc2 rf2 ar2 (j_u2 al2 823 (iN 0) v.toInt64)) := by
  refine k_help (m0 := 1) hl0 (by decide) (Nat.le_of_ble_eq_true rfl) rfl kd_name (fun G hB => ?_)
  have hB0 := hB
  obtain ⟨hC, hR, hQ, -⟩ := hB
  show kW G 0 0 0 [some (.ref 734), some (.int x1), some (.ref 823), none] [] sc rf ar al
  refine kl_aload_n hC rfl rfl rfl ?_
  refine kl_iconst hC rfl ci_0 rfl ?_
  refine kl_aload_n hC rfl rfl rfl ?_
  refine kl_iload_n hC rfl rfl rfl ?_
  refine kl_call hC rfl kk_22 rfl rfl rfl ys_734 yx_319 rfl rfl hR (gW_mono h (fun r9 s9 f9 a9 l9 e9 => ?_))
  rw [e9.1, e9.2.1, e9.2.2.1, e9.2.2.2.1, e9.2.2.2.2]
  show kW G 0 0 7 [some (.ref 734), some (.int x1), some (.ref 823), none] [.int v, .int 0, .ref 823] sc2 rf2 ar2 al2
  refine kl_i2l hC rfl rfl ?_
  refine kl_lastore hC rfl hO (by decide) rfl ?_
  refine kl_goto hC rfl rfl ?_
  refine kl_widen (k' := 1) (n' := 6) (by omega) (by omega) ?_
  refine kl_iconst hC rfl ci_0 rfl ?_
  exact kl_ireturn hC rfl hQ
set_option maxHeartbeats 2000000 in
theorem kx_name_1 (hcat : kCatch) (hl0 : l.stackTraces = false) {x1 : Int32} (h : xE true rf 319 170 [.ref 734, .int x1] sc mr ar al 1) : kHm l (⟨"ClickOrdersLaw", "name", "(LClickOrders;I[J)I"⟩ : MethodName) method_6_code 4 [(0, 9, 12, 25)] 170 [.ref 734, .int x1, .ref 823] (j_lay kL sc (x_mk mr rf) ar al) 1 (j_lay kL sc (x_mk mr rf) ar al) := by
  refine k_help (m0 := 1) hl0 (by decide) (Nat.le_of_ble_eq_true rfl) rfl kd_name (fun G hB => ?_)
  have hB0 := hB
  obtain ⟨hC, hR, hQ, -⟩ := hB
  show kW G 0 0 0 [some (.ref 734), some (.int x1), some (.ref 823), none] [] sc (x_mk mr rf) ar al
  refine kl_aload_n hC rfl rfl rfl ?_
  refine kl_iconst hC rfl ci_0 rfl ?_
  refine kl_aload_n hC rfl rfl rfl ?_
  refine kl_iload_n hC rfl rfl rfl ?_
  exact kl_callX hcat hC rfl kk_22 rfl rfl rfl ys_734 yx_319 rfl hR (pre := []) (z := ⟨0, 9, 12, 25⟩) (suf := []) (kB_T (E := 1) hB0 (by decide) rfl (fun _ h => absurd h List.not_mem_nil) (by decide) (by decide) kcl_25) h (kl_hand hC (Or.inl ⟨3, rfl, rfl, rfl⟩) rfl rfl ci_1 rfl hQ)
set_option maxHeartbeats 2000000 in
theorem kh_newer (hl0 : l.stackTraces = false) (hO : kL.1 823 = .inr (1, 1)) {x1 x2 : Int32} (h : kCl 349 [.ref 734, .int x1, .int x2] sc rf ar al (some (.int v)) sc2 rf2 ar2 al2) : kHm l (⟨"ClickOrdersLaw", "newer", "(LClickOrders;II[J)I"⟩ : MethodName) method_26_code 5 [(0, 10, 13, 13)] 170 [.ref 734, .int x1, .int x2, .ref 823] (j_lay kL sc rf ar al) 0 (j_lay kL sc2 rf2 ar2 (j_u2 al2 823 (iN 0) v.toInt64)) := by
  refine k_help (m0 := 1) hl0 (by decide) (Nat.le_of_ble_eq_true rfl) rfl kd_newer (fun G hB => ?_)
  have hB0 := hB
  obtain ⟨hC, hR, hQ, -⟩ := hB
  show kW G 0 0 0 [some (.ref 734), some (.int x1), some (.int x2), some (.ref 823), none] [] sc rf ar al
  refine kl_aload_n hC rfl rfl rfl ?_
  refine kl_iconst hC rfl ci_0 rfl ?_
  refine kl_aload_n hC rfl rfl rfl ?_
  refine kl_iload_n hC rfl rfl rfl ?_
  refine kl_iload_n hC rfl rfl rfl ?_
  refine kl_call hC rfl kk_91 rfl rfl rfl ys_734 yx_349 rfl rfl hR (gW_mono h (fun r9 s9 f9 a9 l9 e9 => ?_))
  rw [e9.1, e9.2.1, e9.2.2.1, e9.2.2.2.1, e9.2.2.2.2]
  show kW G 0 0 8 [some (.ref 734), some (.int x1), some (.int x2), some (.ref 823), none] [.int v, .int 0, .ref 823] sc2 rf2 ar2 al2
  refine kl_i2l hC rfl rfl ?_
  refine kl_lastore hC rfl hO (by decide) rfl ?_
  refine kl_goto hC rfl rfl ?_
  refine kl_widen (k' := 1) (n' := 6) (by omega) (by omega) ?_
  refine kl_iconst hC rfl ci_0 rfl ?_
  exact kl_ireturn hC rfl hQ
set_option maxHeartbeats 2000000 in
theorem kx_newer_1 (hcat : kCatch) (hl0 : l.stackTraces = false) {x1 x2 : Int32} (h : xE true rf 349 170 [.ref 734, .int x1, .int x2] sc mr ar al 0) : kHm l (⟨"ClickOrdersLaw", "newer", "(LClickOrders;II[J)I"⟩ : MethodName) method_26_code 5 [(0, 10, 13, 13)] 170 [.ref 734, .int x1, .int x2, .ref 823] (j_lay kL sc (x_mk mr rf) ar al) 1 (j_lay kL sc (x_mk mr rf) ar al) := by
  refine k_help (m0 := 1) hl0 (by decide) (Nat.le_of_ble_eq_true rfl) rfl kd_newer (fun G hB => ?_)
  have hB0 := hB
  obtain ⟨hC, hR, hQ, -⟩ := hB
  show kW G 0 0 0 [some (.ref 734), some (.int x1), some (.int x2), some (.ref 823), none] [] sc (x_mk mr rf) ar al
  refine kl_aload_n hC rfl rfl rfl ?_
  refine kl_iconst hC rfl ci_0 rfl ?_
  refine kl_aload_n hC rfl rfl rfl ?_
  refine kl_iload_n hC rfl rfl rfl ?_
  refine kl_iload_n hC rfl rfl rfl ?_
  exact kl_callX hcat hC rfl kk_91 rfl rfl rfl ys_734 yx_349 rfl hR (pre := []) (z := ⟨0, 10, 13, 13⟩) (suf := []) (kB_T (E := 0) hB0 (by decide) rfl (fun _ h => absurd h List.not_mem_nil) (by decide) (by decide) kcl_13) h (kl_hand hC (Or.inr ⟨rfl, rfl⟩) rfl rfl ci_1 rfl hQ)
set_option maxHeartbeats 2000000 in
theorem kh_ordered (hl0 : l.stackTraces = false) (hO : kL.1 823 = .inr (1, 1)) {x1 x2 : Int32} (h : kCl 327 [.ref 734, .int x1, .int x2] sc rf ar al (some (.int v)) sc2 rf2 ar2 al2) : kHm l (⟨"ClickOrdersLaw", "ordered", "(LClickOrders;II[J)I"⟩ : MethodName) method_11_code 5 [(0, 17, 20, 40)] 170 [.ref 734, .int x1, .int x2, .ref 823] (j_lay kL sc rf ar al) 0 (j_lay kL sc2 rf2 ar2 (j_u2 al2 823 (iN 0) (if v = 0 then (0 : Int64) else 1))) := by
  refine k_help (m0 := 1) hl0 (by decide) (Nat.le_of_ble_eq_true rfl) rfl kd_ordered (fun G hB => ?_)
  have hB0 := hB
  obtain ⟨hC, hR, hQ, -⟩ := hB
  show kW G 0 0 0 [some (.ref 734), some (.int x1), some (.int x2), some (.ref 823), none] [] sc rf ar al
  refine kl_aload_n hC rfl rfl rfl ?_
  refine kl_iconst hC rfl ci_0 rfl ?_
  refine kl_aload_n hC rfl rfl rfl ?_
  refine kl_iload_n hC rfl rfl rfl ?_
  refine kl_iload_n hC rfl rfl rfl ?_
  refine kl_call hC rfl kk_42 rfl rfl rfl ys_734 yx_327 rfl rfl hR (gW_mono h (fun r9 s9 f9 a9 l9 e9 => ?_))
  rw [e9.1, e9.2.1, e9.2.2.1, e9.2.2.2.1, e9.2.2.2.2]
  show kW G 0 0 8 [some (.ref 734), some (.int x1), some (.int x2), some (.ref 823), none] [.int v, .int 0, .ref 823] sc2 rf2 ar2 al2
  refine kl_if_eq hC rfl rfl rfl (fun c1 => ?_) (fun c1 => ?_)
  · have e9 : (if v = 0 then (0 : Int64) else 1) = 0 := if_pos c1
    rw [e9] at hQ
    refine kl_lconst hC rfl rfl ?_
    refine kl_lastore hC rfl hO (by decide) rfl ?_
    refine kl_goto hC rfl rfl ?_
    refine kl_widen (k' := 1) (n' := 6) (by omega) (by omega) ?_
    refine kl_iconst hC rfl ci_0 rfl ?_
    exact kl_ireturn hC rfl hQ
  · have e9 : (if v = 0 then (0 : Int64) else 1) = 1 := if_neg c1
    rw [e9] at hQ
    refine kl_lconst hC rfl rfl ?_
    refine kl_goto hC rfl rfl ?_
    refine kl_lastore hC rfl hO (by decide) rfl ?_
    refine kl_goto hC rfl rfl ?_
    refine kl_widen (k' := 1) (n' := 6) (by omega) (by omega) ?_
    refine kl_iconst hC rfl ci_0 rfl ?_
    exact kl_ireturn hC rfl hQ
set_option maxHeartbeats 2000000 in
theorem kx_ordered_1 (hcat : kCatch) (hl0 : l.stackTraces = false) {x1 x2 : Int32} (h : xE true rf 327 170 [.ref 734, .int x1, .int x2] sc mr ar al 2) : kHm l (⟨"ClickOrdersLaw", "ordered", "(LClickOrders;II[J)I"⟩ : MethodName) method_11_code 5 [(0, 17, 20, 40)] 170 [.ref 734, .int x1, .int x2, .ref 823] (j_lay kL sc (x_mk mr rf) ar al) 1 (j_lay kL sc (x_mk mr rf) ar al) := by
  refine k_help (m0 := 1) hl0 (by decide) (Nat.le_of_ble_eq_true rfl) rfl kd_ordered (fun G hB => ?_)
  have hB0 := hB
  obtain ⟨hC, hR, hQ, -⟩ := hB
  show kW G 0 0 0 [some (.ref 734), some (.int x1), some (.int x2), some (.ref 823), none] [] sc (x_mk mr rf) ar al
  refine kl_aload_n hC rfl rfl rfl ?_
  refine kl_iconst hC rfl ci_0 rfl ?_
  refine kl_aload_n hC rfl rfl rfl ?_
  refine kl_iload_n hC rfl rfl rfl ?_
  refine kl_iload_n hC rfl rfl rfl ?_
  exact kl_callX hcat hC rfl kk_42 rfl rfl rfl ys_734 yx_327 rfl hR (pre := []) (z := ⟨0, 17, 20, 40⟩) (suf := []) (kB_T (E := 2) hB0 (by decide) rfl (fun _ h => absurd h List.not_mem_nil) (by decide) (by decide) kcl_40) h (kl_hand hC (Or.inr ⟨rfl, rfl⟩) rfl rfl ci_1 rfl hQ)
set_option maxHeartbeats 2000000 in
theorem kh_pages (hl0 : l.stackTraces = false) (hO : kL.1 823 = .inr (1, 1)) {x1 x2 : Int32} (h : kCl 335 [.ref 734, .int x1, .int x2] sc rf ar al (some (.int v)) sc2 rf2 ar2 al2) : kHm l (⟨"ClickOrdersLaw", "pages", "(LClickOrders;II[J)I"⟩ : MethodName) method_17_code 5 [(0, 10, 13, 13)] 170 [.ref 734, .int x1, .int x2, .ref 823] (j_lay kL sc rf ar al) 0 (j_lay kL sc2 rf2 ar2 (j_u2 al2 823 (iN 0) v.toInt64)) := by
  refine k_help (m0 := 1) hl0 (by decide) (Nat.le_of_ble_eq_true rfl) rfl kd_pages (fun G hB => ?_)
  have hB0 := hB
  obtain ⟨hC, hR, hQ, -⟩ := hB
  show kW G 0 0 0 [some (.ref 734), some (.int x1), some (.int x2), some (.ref 823), none] [] sc rf ar al
  refine kl_aload_n hC rfl rfl rfl ?_
  refine kl_iconst hC rfl ci_0 rfl ?_
  refine kl_aload_n hC rfl rfl rfl ?_
  refine kl_iload_n hC rfl rfl rfl ?_
  refine kl_iload_n hC rfl rfl rfl ?_
  refine kl_call hC rfl kk_62 rfl rfl rfl ys_734 yx_335 rfl rfl hR (gW_mono h (fun r9 s9 f9 a9 l9 e9 => ?_))
  rw [e9.1, e9.2.1, e9.2.2.1, e9.2.2.2.1, e9.2.2.2.2]
  show kW G 0 0 8 [some (.ref 734), some (.int x1), some (.int x2), some (.ref 823), none] [.int v, .int 0, .ref 823] sc2 rf2 ar2 al2
  refine kl_i2l hC rfl rfl ?_
  refine kl_lastore hC rfl hO (by decide) rfl ?_
  refine kl_goto hC rfl rfl ?_
  refine kl_widen (k' := 1) (n' := 6) (by omega) (by omega) ?_
  refine kl_iconst hC rfl ci_0 rfl ?_
  exact kl_ireturn hC rfl hQ
set_option maxHeartbeats 2000000 in
theorem kx_pages_1 (hcat : kCatch) (hl0 : l.stackTraces = false) {x1 x2 : Int32} (h : xE true rf 335 170 [.ref 734, .int x1, .int x2] sc mr ar al 0) : kHm l (⟨"ClickOrdersLaw", "pages", "(LClickOrders;II[J)I"⟩ : MethodName) method_17_code 5 [(0, 10, 13, 13)] 170 [.ref 734, .int x1, .int x2, .ref 823] (j_lay kL sc (x_mk mr rf) ar al) 1 (j_lay kL sc (x_mk mr rf) ar al) := by
  refine k_help (m0 := 1) hl0 (by decide) (Nat.le_of_ble_eq_true rfl) rfl kd_pages (fun G hB => ?_)
  have hB0 := hB
  obtain ⟨hC, hR, hQ, -⟩ := hB
  show kW G 0 0 0 [some (.ref 734), some (.int x1), some (.int x2), some (.ref 823), none] [] sc (x_mk mr rf) ar al
  refine kl_aload_n hC rfl rfl rfl ?_
  refine kl_iconst hC rfl ci_0 rfl ?_
  refine kl_aload_n hC rfl rfl rfl ?_
  refine kl_iload_n hC rfl rfl rfl ?_
  refine kl_iload_n hC rfl rfl rfl ?_
  exact kl_callX hcat hC rfl kk_62 rfl rfl rfl ys_734 yx_335 rfl hR (pre := []) (z := ⟨0, 10, 13, 13⟩) (suf := []) (kB_T (E := 0) hB0 (by decide) rfl (fun _ h => absurd h List.not_mem_nil) (by decide) (by decide) kcl_13) h (kl_hand hC (Or.inr ⟨rfl, rfl⟩) rfl rfl ci_1 rfl hQ)
set_option maxHeartbeats 2000000 in
theorem kh_program (hl0 : l.stackTraces = false) (hO : kL.1 823 = .inr (1, 1)) {x1 : Int32} (h : kCl 314 [.ref 734, .int x1] sc rf ar al (some (.int v)) sc2 rf2 ar2 al2) : kHm l (⟨"ClickOrdersLaw", "program", "(LClickOrders;I[J)I"⟩ : MethodName) method_3_code 4 [(0, 9, 12, 13)] 170 [.ref 734, .int x1, .ref 823] (j_lay kL sc rf ar al) 0 (j_lay kL sc2 rf2 ar2 (j_u2 al2 823 (iN 0) v.toInt64)) := by
  refine k_help (m0 := 1) hl0 (by decide) (Nat.le_of_ble_eq_true rfl) rfl kd_program (fun G hB => ?_)
  have hB0 := hB
  obtain ⟨hC, hR, hQ, -⟩ := hB
  show kW G 0 0 0 [some (.ref 734), some (.int x1), some (.ref 823), none] [] sc rf ar al
  refine kl_aload_n hC rfl rfl rfl ?_
  refine kl_iconst hC rfl ci_0 rfl ?_
  refine kl_aload_n hC rfl rfl rfl ?_
  refine kl_iload_n hC rfl rfl rfl ?_
  refine kl_call hC rfl kk_7 rfl rfl rfl ys_734 yx_314 rfl rfl hR (gW_mono h (fun r9 s9 f9 a9 l9 e9 => ?_))
  rw [e9.1, e9.2.1, e9.2.2.1, e9.2.2.2.1, e9.2.2.2.2]
  show kW G 0 0 7 [some (.ref 734), some (.int x1), some (.ref 823), none] [.int v, .int 0, .ref 823] sc2 rf2 ar2 al2
  refine kl_i2l hC rfl rfl ?_
  refine kl_lastore hC rfl hO (by decide) rfl ?_
  refine kl_goto hC rfl rfl ?_
  refine kl_widen (k' := 1) (n' := 6) (by omega) (by omega) ?_
  refine kl_iconst hC rfl ci_0 rfl ?_
  exact kl_ireturn hC rfl hQ
set_option maxHeartbeats 2000000 in
theorem kx_program_1 (hcat : kCatch) (hl0 : l.stackTraces = false) {x1 : Int32} (h : xE true rf 314 170 [.ref 734, .int x1] sc mr ar al 0) : kHm l (⟨"ClickOrdersLaw", "program", "(LClickOrders;I[J)I"⟩ : MethodName) method_3_code 4 [(0, 9, 12, 13)] 170 [.ref 734, .int x1, .ref 823] (j_lay kL sc (x_mk mr rf) ar al) 1 (j_lay kL sc (x_mk mr rf) ar al) := by
  refine k_help (m0 := 1) hl0 (by decide) (Nat.le_of_ble_eq_true rfl) rfl kd_program (fun G hB => ?_)
  have hB0 := hB
  obtain ⟨hC, hR, hQ, -⟩ := hB
  show kW G 0 0 0 [some (.ref 734), some (.int x1), some (.ref 823), none] [] sc (x_mk mr rf) ar al
  refine kl_aload_n hC rfl rfl rfl ?_
  refine kl_iconst hC rfl ci_0 rfl ?_
  refine kl_aload_n hC rfl rfl rfl ?_
  refine kl_iload_n hC rfl rfl rfl ?_
  exact kl_callX hcat hC rfl kk_7 rfl rfl rfl ys_734 yx_314 rfl hR (pre := []) (z := ⟨0, 9, 12, 13⟩) (suf := []) (kB_T (E := 0) hB0 (by decide) rfl (fun _ h => absurd h List.not_mem_nil) (by decide) (by decide) kcl_13) h (kl_hand hC (Or.inl ⟨3, rfl, rfl, rfl⟩) rfl rfl ci_1 rfl hQ)
set_option maxHeartbeats 2000000 in
theorem kh_shows (hl0 : l.stackTraces = false) (hO : kL.1 823 = .inr (1, 1)) {x1 x2 : Int32} (h : kCl 347 [.ref 734, .int x1, .int x2] sc rf ar al (some (.int v)) sc2 rf2 ar2 al2) : kHm l (⟨"ClickOrdersLaw", "shows", "(LClickOrders;II[J)I"⟩ : MethodName) method_24_code 5 [(0, 10, 13, 25), (0, 10, 17, 13)] 170 [.ref 734, .int x1, .int x2, .ref 823] (j_lay kL sc rf ar al) 0 (j_lay kL sc2 rf2 ar2 (j_u2 al2 823 (iN 0) v.toInt64)) := by
  refine k_help (m0 := 1) hl0 (by decide) (Nat.le_of_ble_eq_true rfl) rfl kd_shows (fun G hB => ?_)
  have hB0 := hB
  obtain ⟨hC, hR, hQ, -⟩ := hB
  show kW G 0 0 0 [some (.ref 734), some (.int x1), some (.int x2), some (.ref 823), none] [] sc rf ar al
  refine kl_aload_n hC rfl rfl rfl ?_
  refine kl_iconst hC rfl ci_0 rfl ?_
  refine kl_aload_n hC rfl rfl rfl ?_
  refine kl_iload_n hC rfl rfl rfl ?_
  refine kl_iload_n hC rfl rfl rfl ?_
  refine kl_call hC rfl kk_85 rfl rfl rfl ys_734 yx_347 rfl rfl hR (gW_mono h (fun r9 s9 f9 a9 l9 e9 => ?_))
  rw [e9.1, e9.2.1, e9.2.2.1, e9.2.2.2.1, e9.2.2.2.2]
  show kW G 0 0 8 [some (.ref 734), some (.int x1), some (.int x2), some (.ref 823), none] [.int v, .int 0, .ref 823] sc2 rf2 ar2 al2
  refine kl_i2l hC rfl rfl ?_
  refine kl_lastore hC rfl hO (by decide) rfl ?_
  refine kl_goto hC rfl rfl ?_
  refine kl_widen (k' := 1) (n' := 6) (by omega) (by omega) ?_
  refine kl_iconst hC rfl ci_0 rfl ?_
  exact kl_ireturn hC rfl hQ
set_option maxHeartbeats 2000000 in
theorem kx_shows_1 (hcat : kCatch) (hl0 : l.stackTraces = false) {x1 x2 : Int32} (h : xE true rf 347 170 [.ref 734, .int x1, .int x2] sc mr ar al 1) : kHm l (⟨"ClickOrdersLaw", "shows", "(LClickOrders;II[J)I"⟩ : MethodName) method_24_code 5 [(0, 10, 13, 25), (0, 10, 17, 13)] 170 [.ref 734, .int x1, .int x2, .ref 823] (j_lay kL sc (x_mk mr rf) ar al) 1 (j_lay kL sc (x_mk mr rf) ar al) := by
  refine k_help (m0 := 1) hl0 (by decide) (Nat.le_of_ble_eq_true rfl) rfl kd_shows (fun G hB => ?_)
  have hB0 := hB
  obtain ⟨hC, hR, hQ, -⟩ := hB
  show kW G 0 0 0 [some (.ref 734), some (.int x1), some (.int x2), some (.ref 823), none] [] sc (x_mk mr rf) ar al
  refine kl_aload_n hC rfl rfl rfl ?_
  refine kl_iconst hC rfl ci_0 rfl ?_
  refine kl_aload_n hC rfl rfl rfl ?_
  refine kl_iload_n hC rfl rfl rfl ?_
  refine kl_iload_n hC rfl rfl rfl ?_
  exact kl_callX hcat hC rfl kk_85 rfl rfl rfl ys_734 yx_347 rfl hR (pre := []) (z := ⟨0, 10, 13, 25⟩) (suf := [⟨0, 10, 17, 13⟩]) (kB_T (E := 1) hB0 (by decide) rfl (fun _ h => absurd h List.not_mem_nil) (by decide) (by decide) kcl_25) h (kl_hand hC (Or.inr ⟨rfl, rfl⟩) rfl rfl ci_1 rfl hQ)
set_option maxHeartbeats 2000000 in
theorem kx_shows_2 (hcat : kCatch) (hl0 : l.stackTraces = false) {x1 x2 : Int32} (h : xE true rf 347 170 [.ref 734, .int x1, .int x2] sc mr ar al 0) : kHm l (⟨"ClickOrdersLaw", "shows", "(LClickOrders;II[J)I"⟩ : MethodName) method_24_code 5 [(0, 10, 13, 25), (0, 10, 17, 13)] 170 [.ref 734, .int x1, .int x2, .ref 823] (j_lay kL sc (x_mk mr rf) ar al) 2 (j_lay kL sc (x_mk mr rf) ar al) := by
  refine k_help (m0 := 1) hl0 (by decide) (Nat.le_of_ble_eq_true rfl) rfl kd_shows (fun G hB => ?_)
  have hB0 := hB
  obtain ⟨hC, hR, hQ, -⟩ := hB
  show kW G 0 0 0 [some (.ref 734), some (.int x1), some (.int x2), some (.ref 823), none] [] sc (x_mk mr rf) ar al
  refine kl_aload_n hC rfl rfl rfl ?_
  refine kl_iconst hC rfl ci_0 rfl ?_
  refine kl_aload_n hC rfl rfl rfl ?_
  refine kl_iload_n hC rfl rfl rfl ?_
  refine kl_iload_n hC rfl rfl rfl ?_
  exact kl_callX hcat hC rfl kk_85 rfl rfl rfl ys_734 yx_347 rfl hR (pre := [⟨0, 10, 13, 25⟩]) (z := ⟨0, 10, 17, 13⟩) (suf := []) (kB_T (E := 0) hB0 (by decide) rfl (fun y hy => by rw [List.mem_singleton.mp hy]; exact ⟨rfl, (by decide), _, kcl_25, Or.inr rfl⟩) (by decide) (by decide) kcl_13) h (kl_hand hC (Or.inr ⟨rfl, rfl⟩) rfl rfl ci_2 rfl hQ)
set_option maxHeartbeats 2000000 in
theorem kh_sorts (hl0 : l.stackTraces = false) (hO : kL.1 823 = .inr (1, 1)) {x1 : Int32} (h : kCl 332 [.ref 734, .int x1] sc rf ar al (some (.int v)) sc2 rf2 ar2 al2) : kHm l (⟨"ClickOrdersLaw", "sorts", "(LClickOrders;I[J)I"⟩ : MethodName) method_14_code 4 [(0, 9, 12, 13)] 170 [.ref 734, .int x1, .ref 823] (j_lay kL sc rf ar al) 0 (j_lay kL sc2 rf2 ar2 (j_u2 al2 823 (iN 0) v.toInt64)) := by
  refine k_help (m0 := 1) hl0 (by decide) (Nat.le_of_ble_eq_true rfl) rfl kd_sorts (fun G hB => ?_)
  have hB0 := hB
  obtain ⟨hC, hR, hQ, -⟩ := hB
  show kW G 0 0 0 [some (.ref 734), some (.int x1), some (.ref 823), none] [] sc rf ar al
  refine kl_aload_n hC rfl rfl rfl ?_
  refine kl_iconst hC rfl ci_0 rfl ?_
  refine kl_aload_n hC rfl rfl rfl ?_
  refine kl_iload_n hC rfl rfl rfl ?_
  refine kl_call hC rfl kk_52 rfl rfl rfl ys_734 yx_332 rfl rfl hR (gW_mono h (fun r9 s9 f9 a9 l9 e9 => ?_))
  rw [e9.1, e9.2.1, e9.2.2.1, e9.2.2.2.1, e9.2.2.2.2]
  show kW G 0 0 7 [some (.ref 734), some (.int x1), some (.ref 823), none] [.int v, .int 0, .ref 823] sc2 rf2 ar2 al2
  refine kl_i2l hC rfl rfl ?_
  refine kl_lastore hC rfl hO (by decide) rfl ?_
  refine kl_goto hC rfl rfl ?_
  refine kl_widen (k' := 1) (n' := 6) (by omega) (by omega) ?_
  refine kl_iconst hC rfl ci_0 rfl ?_
  exact kl_ireturn hC rfl hQ
set_option maxHeartbeats 2000000 in
theorem kx_sorts_1 (hcat : kCatch) (hl0 : l.stackTraces = false) {x1 : Int32} (h : xE true rf 332 170 [.ref 734, .int x1] sc mr ar al 0) : kHm l (⟨"ClickOrdersLaw", "sorts", "(LClickOrders;I[J)I"⟩ : MethodName) method_14_code 4 [(0, 9, 12, 13)] 170 [.ref 734, .int x1, .ref 823] (j_lay kL sc (x_mk mr rf) ar al) 1 (j_lay kL sc (x_mk mr rf) ar al) := by
  refine k_help (m0 := 1) hl0 (by decide) (Nat.le_of_ble_eq_true rfl) rfl kd_sorts (fun G hB => ?_)
  have hB0 := hB
  obtain ⟨hC, hR, hQ, -⟩ := hB
  show kW G 0 0 0 [some (.ref 734), some (.int x1), some (.ref 823), none] [] sc (x_mk mr rf) ar al
  refine kl_aload_n hC rfl rfl rfl ?_
  refine kl_iconst hC rfl ci_0 rfl ?_
  refine kl_aload_n hC rfl rfl rfl ?_
  refine kl_iload_n hC rfl rfl rfl ?_
  exact kl_callX hcat hC rfl kk_52 rfl rfl rfl ys_734 yx_332 rfl hR (pre := []) (z := ⟨0, 9, 12, 13⟩) (suf := []) (kB_T (E := 0) hB0 (by decide) rfl (fun _ h => absurd h List.not_mem_nil) (by decide) (by decide) kcl_13) h (kl_hand hC (Or.inl ⟨3, rfl, rfl, rfl⟩) rfl rfl ci_1 rfl hQ)
set_option maxHeartbeats 2000000 in
theorem kh_step (hl0 : l.stackTraces = false) (hO : kL.1 823 = .inr (1, 1)) {x1 x2 x3 : Int32} (h : kCl 334 [.ref 734, .int x1, .int x2, .int x3] sc rf ar al (some (.int v)) sc2 rf2 ar2 al2) : kHm l (⟨"ClickOrdersLaw", "step", "(LClickOrders;III[J)I"⟩ : MethodName) method_16_code 6 [(0, 12, 15, 13)] 170 [.ref 734, .int x1, .int x2, .int x3, .ref 823] (j_lay kL sc rf ar al) 0 (j_lay kL sc2 rf2 ar2 (j_u2 al2 823 (iN 0) v.toInt64)) := by
  refine k_help (m0 := 1) hl0 (by decide) (Nat.le_of_ble_eq_true rfl) rfl kd_step (fun G hB => ?_)
  have hB0 := hB
  obtain ⟨hC, hR, hQ, -⟩ := hB
  show kW G 0 0 0 [some (.ref 734), some (.int x1), some (.int x2), some (.int x3), some (.ref 823), none] [] sc rf ar al
  refine kl_aload hC rfl rfl rfl ?_
  refine kl_iconst hC rfl ci_0 rfl ?_
  refine kl_aload_n hC rfl rfl rfl ?_
  refine kl_iload_n hC rfl rfl rfl ?_
  refine kl_iload_n hC rfl rfl rfl ?_
  refine kl_iload_n hC rfl rfl rfl ?_
  refine kl_call hC rfl kk_58 rfl rfl rfl ys_734 yx_334 rfl rfl hR (gW_mono h (fun r9 s9 f9 a9 l9 e9 => ?_))
  rw [e9.1, e9.2.1, e9.2.2.1, e9.2.2.2.1, e9.2.2.2.2]
  show kW G 0 0 10 [some (.ref 734), some (.int x1), some (.int x2), some (.int x3), some (.ref 823), none] [.int v, .int 0, .ref 823] sc2 rf2 ar2 al2
  refine kl_i2l hC rfl rfl ?_
  refine kl_lastore hC rfl hO (by decide) rfl ?_
  refine kl_goto hC rfl rfl ?_
  refine kl_widen (k' := 1) (n' := 6) (by omega) (by omega) ?_
  refine kl_iconst hC rfl ci_0 rfl ?_
  exact kl_ireturn hC rfl hQ
set_option maxHeartbeats 2000000 in
theorem kx_step_1 (hcat : kCatch) (hl0 : l.stackTraces = false) {x1 x2 x3 : Int32} (h : xE true rf 334 170 [.ref 734, .int x1, .int x2, .int x3] sc mr ar al 0) : kHm l (⟨"ClickOrdersLaw", "step", "(LClickOrders;III[J)I"⟩ : MethodName) method_16_code 6 [(0, 12, 15, 13)] 170 [.ref 734, .int x1, .int x2, .int x3, .ref 823] (j_lay kL sc (x_mk mr rf) ar al) 1 (j_lay kL sc (x_mk mr rf) ar al) := by
  refine k_help (m0 := 1) hl0 (by decide) (Nat.le_of_ble_eq_true rfl) rfl kd_step (fun G hB => ?_)
  have hB0 := hB
  obtain ⟨hC, hR, hQ, -⟩ := hB
  show kW G 0 0 0 [some (.ref 734), some (.int x1), some (.int x2), some (.int x3), some (.ref 823), none] [] sc (x_mk mr rf) ar al
  refine kl_aload hC rfl rfl rfl ?_
  refine kl_iconst hC rfl ci_0 rfl ?_
  refine kl_aload_n hC rfl rfl rfl ?_
  refine kl_iload_n hC rfl rfl rfl ?_
  refine kl_iload_n hC rfl rfl rfl ?_
  refine kl_iload_n hC rfl rfl rfl ?_
  exact kl_callX hcat hC rfl kk_58 rfl rfl rfl ys_734 yx_334 rfl hR (pre := []) (z := ⟨0, 12, 15, 13⟩) (suf := []) (kB_T (E := 0) hB0 (by decide) rfl (fun _ h => absurd h List.not_mem_nil) (by decide) (by decide) kcl_13) h (kl_hand hC (Or.inr ⟨rfl, rfl⟩) rfl rfl ci_1 rfl hQ)
set_option maxHeartbeats 2000000 in
theorem kh_stuck (hl0 : l.stackTraces = false) (hO : kL.1 823 = .inr (1, 1)) {x1 x2 x3 : Int32} (h : kCl 336 [.ref 734, .int x1, .int x2, .int x3] sc rf ar al (some (.int v)) sc2 rf2 ar2 al2) : kHm l (⟨"ClickOrdersLaw", "stuck", "(LClickOrders;III[J)I"⟩ : MethodName) method_18_code 6 [(0, 12, 15, 13)] 170 [.ref 734, .int x1, .int x2, .int x3, .ref 823] (j_lay kL sc rf ar al) 0 (j_lay kL sc2 rf2 ar2 (j_u2 al2 823 (iN 0) v.toInt64)) := by
  refine k_help (m0 := 1) hl0 (by decide) (Nat.le_of_ble_eq_true rfl) rfl kd_stuck (fun G hB => ?_)
  have hB0 := hB
  obtain ⟨hC, hR, hQ, -⟩ := hB
  show kW G 0 0 0 [some (.ref 734), some (.int x1), some (.int x2), some (.int x3), some (.ref 823), none] [] sc rf ar al
  refine kl_aload hC rfl rfl rfl ?_
  refine kl_iconst hC rfl ci_0 rfl ?_
  refine kl_aload_n hC rfl rfl rfl ?_
  refine kl_iload_n hC rfl rfl rfl ?_
  refine kl_iload_n hC rfl rfl rfl ?_
  refine kl_iload_n hC rfl rfl rfl ?_
  refine kl_call hC rfl kk_65 rfl rfl rfl ys_734 yx_336 rfl rfl hR (gW_mono h (fun r9 s9 f9 a9 l9 e9 => ?_))
  rw [e9.1, e9.2.1, e9.2.2.1, e9.2.2.2.1, e9.2.2.2.2]
  show kW G 0 0 10 [some (.ref 734), some (.int x1), some (.int x2), some (.int x3), some (.ref 823), none] [.int v, .int 0, .ref 823] sc2 rf2 ar2 al2
  refine kl_i2l hC rfl rfl ?_
  refine kl_lastore hC rfl hO (by decide) rfl ?_
  refine kl_goto hC rfl rfl ?_
  refine kl_widen (k' := 1) (n' := 6) (by omega) (by omega) ?_
  refine kl_iconst hC rfl ci_0 rfl ?_
  exact kl_ireturn hC rfl hQ
set_option maxHeartbeats 2000000 in
theorem kx_stuck_1 (hcat : kCatch) (hl0 : l.stackTraces = false) {x1 x2 x3 : Int32} (h : xE true rf 336 170 [.ref 734, .int x1, .int x2, .int x3] sc mr ar al 0) : kHm l (⟨"ClickOrdersLaw", "stuck", "(LClickOrders;III[J)I"⟩ : MethodName) method_18_code 6 [(0, 12, 15, 13)] 170 [.ref 734, .int x1, .int x2, .int x3, .ref 823] (j_lay kL sc (x_mk mr rf) ar al) 1 (j_lay kL sc (x_mk mr rf) ar al) := by
  refine k_help (m0 := 1) hl0 (by decide) (Nat.le_of_ble_eq_true rfl) rfl kd_stuck (fun G hB => ?_)
  have hB0 := hB
  obtain ⟨hC, hR, hQ, -⟩ := hB
  show kW G 0 0 0 [some (.ref 734), some (.int x1), some (.int x2), some (.int x3), some (.ref 823), none] [] sc (x_mk mr rf) ar al
  refine kl_aload hC rfl rfl rfl ?_
  refine kl_iconst hC rfl ci_0 rfl ?_
  refine kl_aload_n hC rfl rfl rfl ?_
  refine kl_iload_n hC rfl rfl rfl ?_
  refine kl_iload_n hC rfl rfl rfl ?_
  refine kl_iload_n hC rfl rfl rfl ?_
  exact kl_callX hcat hC rfl kk_65 rfl rfl rfl ys_734 yx_336 rfl hR (pre := []) (z := ⟨0, 12, 15, 13⟩) (suf := []) (kB_T (E := 0) hB0 (by decide) rfl (fun _ h => absurd h List.not_mem_nil) (by decide) (by decide) kcl_13) h (kl_hand hC (Or.inr ⟨rfl, rfl⟩) rfl rfl ci_1 rfl hQ)
set_option maxHeartbeats 2000000 in
theorem kh_tell (hl0 : l.stackTraces = false) (hO : kL.1 823 = .inr (1, 1)) {x1 : Int32} (h : kCl 337 [.ref 734, .int x1] sc rf ar al (some (.int v)) sc2 rf2 ar2 al2) : kHm l (⟨"ClickOrdersLaw", "tell", "(LClickOrders;I[J)I"⟩ : MethodName) method_19_code 4 [(0, 9, 12, 13)] 170 [.ref 734, .int x1, .ref 823] (j_lay kL sc rf ar al) 0 (j_lay kL sc2 rf2 ar2 (j_u2 al2 823 (iN 0) v.toInt64)) := by
  refine k_help (m0 := 1) hl0 (by decide) (Nat.le_of_ble_eq_true rfl) rfl kd_tell (fun G hB => ?_)
  have hB0 := hB
  obtain ⟨hC, hR, hQ, -⟩ := hB
  show kW G 0 0 0 [some (.ref 734), some (.int x1), some (.ref 823), none] [] sc rf ar al
  refine kl_aload_n hC rfl rfl rfl ?_
  refine kl_iconst hC rfl ci_0 rfl ?_
  refine kl_aload_n hC rfl rfl rfl ?_
  refine kl_iload_n hC rfl rfl rfl ?_
  refine kl_call hC rfl kk_68 rfl rfl rfl ys_734 yx_337 rfl rfl hR (gW_mono h (fun r9 s9 f9 a9 l9 e9 => ?_))
  rw [e9.1, e9.2.1, e9.2.2.1, e9.2.2.2.1, e9.2.2.2.2]
  show kW G 0 0 7 [some (.ref 734), some (.int x1), some (.ref 823), none] [.int v, .int 0, .ref 823] sc2 rf2 ar2 al2
  refine kl_i2l hC rfl rfl ?_
  refine kl_lastore hC rfl hO (by decide) rfl ?_
  refine kl_goto hC rfl rfl ?_
  refine kl_widen (k' := 1) (n' := 6) (by omega) (by omega) ?_
  refine kl_iconst hC rfl ci_0 rfl ?_
  exact kl_ireturn hC rfl hQ
set_option maxHeartbeats 2000000 in
theorem kx_tell_1 (hcat : kCatch) (hl0 : l.stackTraces = false) {x1 : Int32} (h : xE true rf 337 170 [.ref 734, .int x1] sc mr ar al 0) : kHm l (⟨"ClickOrdersLaw", "tell", "(LClickOrders;I[J)I"⟩ : MethodName) method_19_code 4 [(0, 9, 12, 13)] 170 [.ref 734, .int x1, .ref 823] (j_lay kL sc (x_mk mr rf) ar al) 1 (j_lay kL sc (x_mk mr rf) ar al) := by
  refine k_help (m0 := 1) hl0 (by decide) (Nat.le_of_ble_eq_true rfl) rfl kd_tell (fun G hB => ?_)
  have hB0 := hB
  obtain ⟨hC, hR, hQ, -⟩ := hB
  show kW G 0 0 0 [some (.ref 734), some (.int x1), some (.ref 823), none] [] sc (x_mk mr rf) ar al
  refine kl_aload_n hC rfl rfl rfl ?_
  refine kl_iconst hC rfl ci_0 rfl ?_
  refine kl_aload_n hC rfl rfl rfl ?_
  refine kl_iload_n hC rfl rfl rfl ?_
  exact kl_callX hcat hC rfl kk_68 rfl rfl rfl ys_734 yx_337 rfl hR (pre := []) (z := ⟨0, 9, 12, 13⟩) (suf := []) (kB_T (E := 0) hB0 (by decide) rfl (fun _ h => absurd h List.not_mem_nil) (by decide) (by decide) kcl_13) h (kl_hand hC (Or.inl ⟨3, rfl, rfl, rfl⟩) rfl rfl ci_1 rfl hQ)
set_option maxHeartbeats 2000000 in
theorem kh_thing (hl0 : l.stackTraces = false) (hO : kL.1 823 = .inr (1, 1)) {x1 : Int32} (h : kCl 320 [.ref 734, .int x1] sc rf ar al (some (.int v)) sc2 rf2 ar2 al2) : kHm l (⟨"ClickOrdersLaw", "thing", "(LClickOrders;I[J)I"⟩ : MethodName) method_7_code 4 [(0, 9, 12, 25)] 170 [.ref 734, .int x1, .ref 823] (j_lay kL sc rf ar al) 0 (j_lay kL sc2 rf2 ar2 (j_u2 al2 823 (iN 0) v.toInt64)) := by
  refine k_help (m0 := 1) hl0 (by decide) (Nat.le_of_ble_eq_true rfl) rfl kd_thing (fun G hB => ?_)
  have hB0 := hB
  obtain ⟨hC, hR, hQ, -⟩ := hB
  show kW G 0 0 0 [some (.ref 734), some (.int x1), some (.ref 823), none] [] sc rf ar al
  refine kl_aload_n hC rfl rfl rfl ?_
  refine kl_iconst hC rfl ci_0 rfl ?_
  refine kl_aload_n hC rfl rfl rfl ?_
  refine kl_iload_n hC rfl rfl rfl ?_
  refine kl_call hC rfl kk_27 rfl rfl rfl ys_734 yx_320 rfl rfl hR (gW_mono h (fun r9 s9 f9 a9 l9 e9 => ?_))
  rw [e9.1, e9.2.1, e9.2.2.1, e9.2.2.2.1, e9.2.2.2.2]
  show kW G 0 0 7 [some (.ref 734), some (.int x1), some (.ref 823), none] [.int v, .int 0, .ref 823] sc2 rf2 ar2 al2
  refine kl_i2l hC rfl rfl ?_
  refine kl_lastore hC rfl hO (by decide) rfl ?_
  refine kl_goto hC rfl rfl ?_
  refine kl_widen (k' := 1) (n' := 6) (by omega) (by omega) ?_
  refine kl_iconst hC rfl ci_0 rfl ?_
  exact kl_ireturn hC rfl hQ
set_option maxHeartbeats 2000000 in
theorem kx_thing_1 (hcat : kCatch) (hl0 : l.stackTraces = false) {x1 : Int32} (h : xE true rf 320 170 [.ref 734, .int x1] sc mr ar al 1) : kHm l (⟨"ClickOrdersLaw", "thing", "(LClickOrders;I[J)I"⟩ : MethodName) method_7_code 4 [(0, 9, 12, 25)] 170 [.ref 734, .int x1, .ref 823] (j_lay kL sc (x_mk mr rf) ar al) 1 (j_lay kL sc (x_mk mr rf) ar al) := by
  refine k_help (m0 := 1) hl0 (by decide) (Nat.le_of_ble_eq_true rfl) rfl kd_thing (fun G hB => ?_)
  have hB0 := hB
  obtain ⟨hC, hR, hQ, -⟩ := hB
  show kW G 0 0 0 [some (.ref 734), some (.int x1), some (.ref 823), none] [] sc (x_mk mr rf) ar al
  refine kl_aload_n hC rfl rfl rfl ?_
  refine kl_iconst hC rfl ci_0 rfl ?_
  refine kl_aload_n hC rfl rfl rfl ?_
  refine kl_iload_n hC rfl rfl rfl ?_
  exact kl_callX hcat hC rfl kk_27 rfl rfl rfl ys_734 yx_320 rfl hR (pre := []) (z := ⟨0, 9, 12, 25⟩) (suf := []) (kB_T (E := 1) hB0 (by decide) rfl (fun _ h => absurd h List.not_mem_nil) (by decide) (by decide) kcl_25) h (kl_hand hC (Or.inl ⟨3, rfl, rfl, rfl⟩) rfl rfl ci_1 rfl hQ)
set_option maxHeartbeats 2000000 in
theorem kh_turn (hl0 : l.stackTraces = false) (hO : kL.1 823 = .inr (1, 1)) {x1 x2 : Int32} (h : kCl 331 [.ref 734, .int x1, .int x2] sc rf ar al (some (.int v)) sc2 rf2 ar2 al2) : kHm l (⟨"ClickOrdersLaw", "turn", "(LClickOrders;II[J)I"⟩ : MethodName) method_13_code 5 [(0, 10, 13, 40)] 170 [.ref 734, .int x1, .int x2, .ref 823] (j_lay kL sc rf ar al) 0 (j_lay kL sc2 rf2 ar2 (j_u2 al2 823 (iN 0) v.toInt64)) := by
  refine k_help (m0 := 1) hl0 (by decide) (Nat.le_of_ble_eq_true rfl) rfl kd_turn (fun G hB => ?_)
  have hB0 := hB
  obtain ⟨hC, hR, hQ, -⟩ := hB
  show kW G 0 0 0 [some (.ref 734), some (.int x1), some (.int x2), some (.ref 823), none] [] sc rf ar al
  refine kl_aload_n hC rfl rfl rfl ?_
  refine kl_iconst hC rfl ci_0 rfl ?_
  refine kl_aload_n hC rfl rfl rfl ?_
  refine kl_iload_n hC rfl rfl rfl ?_
  refine kl_iload_n hC rfl rfl rfl ?_
  refine kl_call hC rfl kk_49 rfl rfl rfl ys_734 yx_331 rfl rfl hR (gW_mono h (fun r9 s9 f9 a9 l9 e9 => ?_))
  rw [e9.1, e9.2.1, e9.2.2.1, e9.2.2.2.1, e9.2.2.2.2]
  show kW G 0 0 8 [some (.ref 734), some (.int x1), some (.int x2), some (.ref 823), none] [.int v, .int 0, .ref 823] sc2 rf2 ar2 al2
  refine kl_i2l hC rfl rfl ?_
  refine kl_lastore hC rfl hO (by decide) rfl ?_
  refine kl_goto hC rfl rfl ?_
  refine kl_widen (k' := 1) (n' := 6) (by omega) (by omega) ?_
  refine kl_iconst hC rfl ci_0 rfl ?_
  exact kl_ireturn hC rfl hQ
set_option maxHeartbeats 2000000 in
theorem kx_turn_1 (hcat : kCatch) (hl0 : l.stackTraces = false) {x1 x2 : Int32} (h : xE true rf 331 170 [.ref 734, .int x1, .int x2] sc mr ar al 2) : kHm l (⟨"ClickOrdersLaw", "turn", "(LClickOrders;II[J)I"⟩ : MethodName) method_13_code 5 [(0, 10, 13, 40)] 170 [.ref 734, .int x1, .int x2, .ref 823] (j_lay kL sc (x_mk mr rf) ar al) 1 (j_lay kL sc (x_mk mr rf) ar al) := by
  refine k_help (m0 := 1) hl0 (by decide) (Nat.le_of_ble_eq_true rfl) rfl kd_turn (fun G hB => ?_)
  have hB0 := hB
  obtain ⟨hC, hR, hQ, -⟩ := hB
  show kW G 0 0 0 [some (.ref 734), some (.int x1), some (.int x2), some (.ref 823), none] [] sc (x_mk mr rf) ar al
  refine kl_aload_n hC rfl rfl rfl ?_
  refine kl_iconst hC rfl ci_0 rfl ?_
  refine kl_aload_n hC rfl rfl rfl ?_
  refine kl_iload_n hC rfl rfl rfl ?_
  refine kl_iload_n hC rfl rfl rfl ?_
  exact kl_callX hcat hC rfl kk_49 rfl rfl rfl ys_734 yx_331 rfl hR (pre := []) (z := ⟨0, 10, 13, 40⟩) (suf := []) (kB_T (E := 2) hB0 (by decide) rfl (fun _ h => absurd h List.not_mem_nil) (by decide) (by decide) kcl_40) h (kl_hand hC (Or.inr ⟨rfl, rfl⟩) rfl rfl ci_1 rfl hQ)
set_option maxHeartbeats 2000000 in
theorem kh_use (hl0 : l.stackTraces = false) (hO : kL.1 823 = .inr (1, 1)) {x1 x2 : Int32} (h : kCl 343 [.ref 734, .int x1, .int x2] sc rf ar al (some (.int v)) sc2 rf2 ar2 al2) : kHm l (⟨"ClickOrdersLaw", "use", "(LClickOrders;IZ[J)I"⟩ : MethodName) method_21_code 5 [(0, 17, 20, 25)] 170 [.ref 734, .int x1, .int x2, .ref 823] (j_lay kL sc rf ar al) 0 (j_lay kL sc2 rf2 ar2 (j_u2 al2 823 (iN 0) (if v = 0 then (0 : Int64) else 1))) := by
  refine k_help (m0 := 1) hl0 (by decide) (Nat.le_of_ble_eq_true rfl) rfl kd_use (fun G hB => ?_)
  have hB0 := hB
  obtain ⟨hC, hR, hQ, -⟩ := hB
  show kW G 0 0 0 [some (.ref 734), some (.int x1), some (.int x2), some (.ref 823), none] [] sc rf ar al
  refine kl_aload_n hC rfl rfl rfl ?_
  refine kl_iconst hC rfl ci_0 rfl ?_
  refine kl_aload_n hC rfl rfl rfl ?_
  refine kl_iload_n hC rfl rfl rfl ?_
  refine kl_iload_n hC rfl rfl rfl ?_
  refine kl_call hC rfl kk_75 rfl rfl rfl ys_734 yx_343 rfl rfl hR (gW_mono h (fun r9 s9 f9 a9 l9 e9 => ?_))
  rw [e9.1, e9.2.1, e9.2.2.1, e9.2.2.2.1, e9.2.2.2.2]
  show kW G 0 0 8 [some (.ref 734), some (.int x1), some (.int x2), some (.ref 823), none] [.int v, .int 0, .ref 823] sc2 rf2 ar2 al2
  refine kl_if_eq hC rfl rfl rfl (fun c1 => ?_) (fun c1 => ?_)
  · have e9 : (if v = 0 then (0 : Int64) else 1) = 0 := if_pos c1
    rw [e9] at hQ
    refine kl_lconst hC rfl rfl ?_
    refine kl_lastore hC rfl hO (by decide) rfl ?_
    refine kl_goto hC rfl rfl ?_
    refine kl_widen (k' := 1) (n' := 6) (by omega) (by omega) ?_
    refine kl_iconst hC rfl ci_0 rfl ?_
    exact kl_ireturn hC rfl hQ
  · have e9 : (if v = 0 then (0 : Int64) else 1) = 1 := if_neg c1
    rw [e9] at hQ
    refine kl_lconst hC rfl rfl ?_
    refine kl_goto hC rfl rfl ?_
    refine kl_lastore hC rfl hO (by decide) rfl ?_
    refine kl_goto hC rfl rfl ?_
    refine kl_widen (k' := 1) (n' := 6) (by omega) (by omega) ?_
    refine kl_iconst hC rfl ci_0 rfl ?_
    exact kl_ireturn hC rfl hQ
set_option maxHeartbeats 2000000 in
theorem kx_use_1 (hcat : kCatch) (hl0 : l.stackTraces = false) {x1 x2 : Int32} (h : xE true rf 343 170 [.ref 734, .int x1, .int x2] sc mr ar al 1) : kHm l (⟨"ClickOrdersLaw", "use", "(LClickOrders;IZ[J)I"⟩ : MethodName) method_21_code 5 [(0, 17, 20, 25)] 170 [.ref 734, .int x1, .int x2, .ref 823] (j_lay kL sc (x_mk mr rf) ar al) 1 (j_lay kL sc (x_mk mr rf) ar al) := by
  refine k_help (m0 := 1) hl0 (by decide) (Nat.le_of_ble_eq_true rfl) rfl kd_use (fun G hB => ?_)
  have hB0 := hB
  obtain ⟨hC, hR, hQ, -⟩ := hB
  show kW G 0 0 0 [some (.ref 734), some (.int x1), some (.int x2), some (.ref 823), none] [] sc (x_mk mr rf) ar al
  refine kl_aload_n hC rfl rfl rfl ?_
  refine kl_iconst hC rfl ci_0 rfl ?_
  refine kl_aload_n hC rfl rfl rfl ?_
  refine kl_iload_n hC rfl rfl rfl ?_
  refine kl_iload_n hC rfl rfl rfl ?_
  exact kl_callX hcat hC rfl kk_75 rfl rfl rfl ys_734 yx_343 rfl hR (pre := []) (z := ⟨0, 17, 20, 25⟩) (suf := []) (kB_T (E := 1) hB0 (by decide) rfl (fun _ h => absurd h List.not_mem_nil) (by decide) (by decide) kcl_25) h (kl_hand hC (Or.inr ⟨rfl, rfl⟩) rfl rfl ci_1 rfl hQ)
set_option maxHeartbeats 2000000 in
theorem kh_why (hl0 : l.stackTraces = false) (hO : kL.1 823 = .inr (1, 1)) {x1 x2 : Int32} (h : kCl 330 [.ref 734, .int x1, .int x2] sc rf ar al (some (.int v)) sc2 rf2 ar2 al2) : kHm l (⟨"ClickOrdersLaw", "why", "(LClickOrders;II[J)I"⟩ : MethodName) method_12_code 5 [(0, 10, 13, 40)] 170 [.ref 734, .int x1, .int x2, .ref 823] (j_lay kL sc rf ar al) 0 (j_lay kL sc2 rf2 ar2 (j_u2 al2 823 (iN 0) v.toInt64)) := by
  refine k_help (m0 := 1) hl0 (by decide) (Nat.le_of_ble_eq_true rfl) rfl kd_why (fun G hB => ?_)
  have hB0 := hB
  obtain ⟨hC, hR, hQ, -⟩ := hB
  show kW G 0 0 0 [some (.ref 734), some (.int x1), some (.int x2), some (.ref 823), none] [] sc rf ar al
  refine kl_aload_n hC rfl rfl rfl ?_
  refine kl_iconst hC rfl ci_0 rfl ?_
  refine kl_aload_n hC rfl rfl rfl ?_
  refine kl_iload_n hC rfl rfl rfl ?_
  refine kl_iload_n hC rfl rfl rfl ?_
  refine kl_call hC rfl kk_46 rfl rfl rfl ys_734 yx_330 rfl rfl hR (gW_mono h (fun r9 s9 f9 a9 l9 e9 => ?_))
  rw [e9.1, e9.2.1, e9.2.2.1, e9.2.2.2.1, e9.2.2.2.2]
  show kW G 0 0 8 [some (.ref 734), some (.int x1), some (.int x2), some (.ref 823), none] [.int v, .int 0, .ref 823] sc2 rf2 ar2 al2
  refine kl_i2l hC rfl rfl ?_
  refine kl_lastore hC rfl hO (by decide) rfl ?_
  refine kl_goto hC rfl rfl ?_
  refine kl_widen (k' := 1) (n' := 6) (by omega) (by omega) ?_
  refine kl_iconst hC rfl ci_0 rfl ?_
  exact kl_ireturn hC rfl hQ
set_option maxHeartbeats 2000000 in
theorem kx_why_1 (hcat : kCatch) (hl0 : l.stackTraces = false) {x1 x2 : Int32} (h : xE true rf 330 170 [.ref 734, .int x1, .int x2] sc mr ar al 2) : kHm l (⟨"ClickOrdersLaw", "why", "(LClickOrders;II[J)I"⟩ : MethodName) method_12_code 5 [(0, 10, 13, 40)] 170 [.ref 734, .int x1, .int x2, .ref 823] (j_lay kL sc (x_mk mr rf) ar al) 1 (j_lay kL sc (x_mk mr rf) ar al) := by
  refine k_help (m0 := 1) hl0 (by decide) (Nat.le_of_ble_eq_true rfl) rfl kd_why (fun G hB => ?_)
  have hB0 := hB
  obtain ⟨hC, hR, hQ, -⟩ := hB
  show kW G 0 0 0 [some (.ref 734), some (.int x1), some (.int x2), some (.ref 823), none] [] sc (x_mk mr rf) ar al
  refine kl_aload_n hC rfl rfl rfl ?_
  refine kl_iconst hC rfl ci_0 rfl ?_
  refine kl_aload_n hC rfl rfl rfl ?_
  refine kl_iload_n hC rfl rfl rfl ?_
  refine kl_iload_n hC rfl rfl rfl ?_
  exact kl_callX hcat hC rfl kk_46 rfl rfl rfl ys_734 yx_330 rfl hR (pre := []) (z := ⟨0, 10, 13, 40⟩) (suf := []) (kB_T (E := 2) hB0 (by decide) rfl (fun _ h => absurd h List.not_mem_nil) (by decide) (by decide) kcl_40) h (kl_hand hC (Or.inr ⟨rfl, rfl⟩) rfl rfl ci_1 rfl hQ)
set_option maxHeartbeats 2000000 in
theorem kh_worst (hl0 : l.stackTraces = false) (hO : kL.1 823 = .inr (1, 1)) {x1 x2 : Int32} (h : kCl 333 [.ref 734, .int x1, .int x2] sc rf ar al (some (.int v)) sc2 rf2 ar2 al2) : kHm l (⟨"ClickOrdersLaw", "worst", "(LClickOrders;II[J)I"⟩ : MethodName) method_15_code 5 [(0, 10, 13, 13)] 170 [.ref 734, .int x1, .int x2, .ref 823] (j_lay kL sc rf ar al) 0 (j_lay kL sc2 rf2 ar2 (j_u2 al2 823 (iN 0) v.toInt64)) := by
  refine k_help (m0 := 1) hl0 (by decide) (Nat.le_of_ble_eq_true rfl) rfl kd_worst (fun G hB => ?_)
  have hB0 := hB
  obtain ⟨hC, hR, hQ, -⟩ := hB
  show kW G 0 0 0 [some (.ref 734), some (.int x1), some (.int x2), some (.ref 823), none] [] sc rf ar al
  refine kl_aload_n hC rfl rfl rfl ?_
  refine kl_iconst hC rfl ci_0 rfl ?_
  refine kl_aload_n hC rfl rfl rfl ?_
  refine kl_iload_n hC rfl rfl rfl ?_
  refine kl_iload_n hC rfl rfl rfl ?_
  refine kl_call hC rfl kk_55 rfl rfl rfl ys_734 yx_333 rfl rfl hR (gW_mono h (fun r9 s9 f9 a9 l9 e9 => ?_))
  rw [e9.1, e9.2.1, e9.2.2.1, e9.2.2.2.1, e9.2.2.2.2]
  show kW G 0 0 8 [some (.ref 734), some (.int x1), some (.int x2), some (.ref 823), none] [.int v, .int 0, .ref 823] sc2 rf2 ar2 al2
  refine kl_i2l hC rfl rfl ?_
  refine kl_lastore hC rfl hO (by decide) rfl ?_
  refine kl_goto hC rfl rfl ?_
  refine kl_widen (k' := 1) (n' := 6) (by omega) (by omega) ?_
  refine kl_iconst hC rfl ci_0 rfl ?_
  exact kl_ireturn hC rfl hQ
set_option maxHeartbeats 2000000 in
theorem kx_worst_1 (hcat : kCatch) (hl0 : l.stackTraces = false) {x1 x2 : Int32} (h : xE true rf 333 170 [.ref 734, .int x1, .int x2] sc mr ar al 0) : kHm l (⟨"ClickOrdersLaw", "worst", "(LClickOrders;II[J)I"⟩ : MethodName) method_15_code 5 [(0, 10, 13, 13)] 170 [.ref 734, .int x1, .int x2, .ref 823] (j_lay kL sc (x_mk mr rf) ar al) 1 (j_lay kL sc (x_mk mr rf) ar al) := by
  refine k_help (m0 := 1) hl0 (by decide) (Nat.le_of_ble_eq_true rfl) rfl kd_worst (fun G hB => ?_)
  have hB0 := hB
  obtain ⟨hC, hR, hQ, -⟩ := hB
  show kW G 0 0 0 [some (.ref 734), some (.int x1), some (.int x2), some (.ref 823), none] [] sc (x_mk mr rf) ar al
  refine kl_aload_n hC rfl rfl rfl ?_
  refine kl_iconst hC rfl ci_0 rfl ?_
  refine kl_aload_n hC rfl rfl rfl ?_
  refine kl_iload_n hC rfl rfl rfl ?_
  refine kl_iload_n hC rfl rfl rfl ?_
  exact kl_callX hcat hC rfl kk_55 rfl rfl rfl ys_734 yx_333 rfl hR (pre := []) (z := ⟨0, 10, 13, 13⟩) (suf := []) (kB_T (E := 0) hB0 (by decide) rfl (fun _ h => absurd h List.not_mem_nil) (by decide) (by decide) kcl_13) h (kl_hand hC (Or.inr ⟨rfl, rfl⟩) rfl rfl ci_1 rfl hQ)
end KHS
