/-! THE LAW, from its entry to its end. -/
set_option maxHeartbeats 8000000 in
set_option maxRecDepth 20000 in
theorem k_start (hcat : kCatch) (hm : kMna) {p : Program} {e : Env} {s : State} {m : MethodId} {below : List Frame} {meth : Method} {c : Code} (l : Launch) (hl : l.stackTraces = false) {b L : Nat} {xs : Nat → Int32} (hL : L ≤ 3072) (C0 : lw_At p s m meth c b L xs) : W p l e room_1 s m #[Value.ref b] below meth c s.heap [] 0 0 (lw_Z below #[Value.ref b] s) (entryFrame m ([Value.ref b] : List Value).toArray 7) := by
  obtain ⟨h1, h2, h3, h4, h5, h6, h7, h8, h9, h10⟩ := C0
  have hg : ∀ w ∈ k_W, w.before #[Value.ref b] s = true := flat_of_before _ h10
  obtain ⟨adS, hS9⟩ := k_str hg h6
  obtain ⟨hU, hN9⟩ := k_zu hg h6
  obtain ⟨D, cy, hK⟩ := k_K h6
  obtain ⟨sc1, ar1, sc2, ar2, S1, ra1, S2, ra2, q1, q2, q3, q4, hG⟩ := k_GR0
  have hgB : ∀ w ∈ gB, w.before #[Value.ref b] s = true := fun w hw => h6 w (List.mem_filter.mp hw).1
  obtain ⟨w1, w2, w3, w4, w5, w6⟩ := kw_21
  have hAO : kAO s := ⟨va_AO.of (h6 _ w4), h6 _ w5, h6 _ w6, fun w hw => va_Nw.of (kNe_t w hw) (h6 _ (kNe_w w hw))⟩
  have hZ : z_K (k_ad s.heap.size b adS) (kA0 s) s s.heap := fun i hi => by
    rw [k_ad_l hi]
    exact hS9 i hi
  have hC : kD (p, l, e, room_1, s, m, #[Value.ref b], below, meth, c, lw_Z below #[Value.ref b] s, D, "ClickOrders$Page", k_ad s.heap.size b adS, cy, kA0 s) s.heap.size kc_law (fun _ => none) (fun _ => none) "ClickOrdersLaw" code 7 := ⟨h1, h2, h4, h9, h5, hgB, hK, hZ, fun q hq => hq, kd_law, fun x q h => (by cases h), fun x v h => (by cases h), fun j hj => k_ad_O hj, Nat.le_refl _⟩
  have hC2 : kC (p, l, e, room_1, s, m, #[Value.ref b], below, meth, c, lw_Z below #[Value.ref b] s, D, "ClickOrders$Page", k_ad s.heap.size b adS, cy, kA0 s) kc_law "ClickOrdersLaw" code 7 := ⟨h1, h2, h4, h9, h5, hgB, hK, hZ, hU, fun q hq => hq, kd_law⟩
  have hPl : kPl (p, l, e, room_1, s, m, #[Value.ref b], below, meth, c, lw_Z below #[Value.ref b] s, D, "ClickOrders$Page", k_ad s.heap.size b adS, cy, kA0 s) := ⟨rfl, hAO⟩
  have hRu : ∀ k n : Nat, k ≤ 601024 → n ≤ 7293033 → kRu (p, l, e, room_1, s, m, #[Value.ref b], below, meth, c, lw_Z below #[Value.ref b] s, D, "ClickOrders$Page", k_ad s.heap.size b adS, cy, kA0 s) k n := fun k n z1 z2 => ⟨z1, z2⟩
  have hRo : ∀ k n : Nat, k ≤ 2048 → n ≤ 84000 → kRo (p, l, e, room_1, s, m, #[Value.ref b], below, meth, c, lw_Z below #[Value.ref b] s, D, "ClickOrders$Page", k_ad s.heap.size b adS, cy, kA0 s) k n := fun k n z1 z2 => ⟨z1, z2⟩
  have hRm : ∀ k n : Nat, k + 1 ≤ 601024 → n + 6 ≤ 7293033 → kRm (p, l, e, room_1, s, m, #[Value.ref b], below, meth, c, lw_Z below #[Value.ref b] s, D, "ClickOrders$Page", k_ad s.heap.size b adS, cy, kA0 s) 171 k n := fun k n z1 z2 => ⟨(by decide : 171 + 7 ≤ 2048), (by decide : 41 * (171 + 1) + 100 ≤ 84000), z1, z2⟩
  have hPr : kPr (p, l, e, room_1, s, m, #[Value.ref b], below, meth, c, lw_Z below #[Value.ref b] s, D, "ClickOrders$Page", k_ad s.heap.size b adS, cy, kA0 s) L xs := ⟨hC2, ⟨by rw [k_ad_s]; exact h7, by rw [k_ad_s]; exact h8, by rw [k_ad_s]; exact Nat.not_le.mpr h8⟩, hN9, hl⟩
  have fin : ∀ (k n : Nat) (vs : List (Option Value)) (sc : jSc) (rf : jRf) (ar : jSc) (al : jAl), kRm (p, l, e, room_1, s, m, #[Value.ref b], below, meth, c, lw_Z below #[Value.ref b] s, D, "ClickOrders$Page", k_ad s.heap.size b adS, cy, kA0 s) 171 k n → kW (p, l, e, room_1, s, m, #[Value.ref b], below, meth, c, lw_Z below #[Value.ref b] s, D, "ClickOrders$Page", k_ad s.heap.size b adS, cy, kA0 s) k n 2137 vs [] sc rf ar al := by
    intro k n vs sc rf ar al hR
    refine kl_iconst hC2 rfl ci_1 rfl ?_
    intro lv hv H locs ls hP hD hS hl
    obtain ⟨-, -, r3, r4⟩ := hR
    refine W.widen (k := 601024) (n := 7293033) (Nat.le_of_succ_le r3) (Nat.le_trans (Nat.le_add_right _ _) r4) ?_
    refine va_forget (fun q hq => hS.2.2 q hq) ?_
    exact lw_ret h1 h2 h3 h9 (kd_law 2138 .ireturn rfl)
  have main : kU (p, l, e, room_1, s, m, #[Value.ref b], below, meth, c, lw_Z below #[Value.ref b] s, D, "ClickOrders$Page", k_ad s.heap.size b adS, cy, kA0 s) s.heap.size 0 0 0 (l_at [some (.ref 999), none, none, none, none, none, none]) [] 0 kF := by
    refine kU_new (ci := 10) (C := "ClickOrders") (Tt := cT_10) (M := 15) (ty0 := cY_10) (fs := [.null, .null, .null, .null, .null, .null, .null, .null, .null, .null, .null, .int 0, .int 0, .int 0, .int 0]) hC (by omega) rfl rfl lm_1_31 lm_1_32 bw_1_1 cB_10 cP_10 (fun j hj => kdf_10 j hj) (fun _ => rfl) (hRu _ _ (by omega) (by omega)) ?_
    refine kU_dup hC (by omega) rfl rfl rfl ?_
    refine kU_init (N := 1) (N' := 89) (na := 0) (as := []) (a := 734) (rest := [.ref 734]) (fr := 25) (lo := 961) (sl := 123114) hC (Or.inr hPl) rfl (fun l => ki_10 l q1 q2) lm_1_33 lm_1_34 bw_1_1 lm_1_35 rfl rfl (by decide) (by decide) (by decide) rfl rfl (hRo _ _ (by decide) (by decide)) (hRu _ _ (by omega) (by omega)) ?_
    refine kU_as (vs := [some (.ref 999), none, none, none, none, none, none]) (vs2 := [some (.ref 999), some (.ref 734), none, none, none, none, none]) hC (by omega) rfl rfl rfl rfl rfl ?_
    refine kU_new (ci := 11) (C := "ClickOrdersModel") (Tt := cT_11) (M := 60) (ty0 := cY_11) (fs := [.int 0, .int 0, .int 0, .int 0, .int 0, .int 0, .int 0, .int 0, .int 0, .null, .null, .null, .null, .null, .null, .null, .int 0, .int 0, .int 0, .int 0, .null, .null, .int 0, .int 0, .int 0, .int 0, .int 0, .int 0, .int 0, .int 0, .null, .int 0, .null, .null, .null, .null, .null, .null, .int 0, .null, .null, .null, .null, .null, .null, .null, .null, .null, .int 0, .int 0, .int 0, .int 0, .null, .null, .null, .null, .null, .int 0, .null, .null]) hC (by omega) rfl rfl lm_8_0 lm_8_1 bw_1_15 cB_11 cP_11 (fun j hj => kdf_11 j hj) (fun _ => rfl) (hRu _ _ (by omega) (by omega)) ?_
    refine kU_dup hC (by omega) rfl rfl rfl ?_
    refine kU_init (N := 90) (N' := 823) (na := 0) (as := []) (a := 0) (rest := [.ref 0]) (fr := 133) (lo := 5389) (sl := 30528) hC (Or.inr hPl) rfl (fun l => ki_11 l hm q3 q4) lm_8_2 lm_8_3 bw_1_15 lm_8_4 rfl rfl (by decide) (by decide) (by decide) rfl rfl (hRo _ _ (by decide) (by decide)) (hRu _ _ (by omega) (by omega)) ?_
    refine kU_as (vs := [some (.ref 999), some (.ref 734), none, none, none, none, none]) (vs2 := [some (.ref 999), some (.ref 734), some (.ref 0), none, none, none, none]) hC (by omega) rfl rfl rfl rfl rfl ?_
    refine kU_int (v := 1) hC (by omega) rfl rfl (fun _ _ => rfl) ?_
    refine kU_na (t := 1) (M := 1) (ty := .long) (a0 := (1, .inr (.inl fun _ => 0))) hC (by omega) rfl rfl kn_l (fun _ _ => rfl) kra_l (fun _ => rfl) (fun _ => rfl) (by decide) (by decide) (by decide) rfl (hRu _ _ (by omega) (by omega)) rfl ?_
    refine kU_as (b := 823) (vs := [some (.ref 999), some (.ref 734), some (.ref 0), none, none, none, none]) (vs2 := [some (.ref 999), some (.ref 734), some (.ref 0), some (.ref 823), none, none, none]) hC (by omega) rfl rfl rfl rfl rfl ?_
    refine kU_int (v := 0) hC (by omega) rfl rfl (fun _ _ => rfl) ?_
    refine kU_is4 (vs := [some (.ref 999), some (.ref 734), some (.ref 0), some (.ref 823), none, none, none]) (vs2 := [some (.ref 999), some (.ref 734), some (.ref 0), some (.ref 823), some (.int (nI 0)), none, none]) hC (by omega) rfl rfl rfl rfl rfl ?_
    refine kU_kW (G := (p, l, e, room_1, s, m, #[Value.ref b], below, meth, c, lw_Z below #[Value.ref b] s, D, "ClickOrders$Page", k_ad s.heap.size b adS, cy, kA0 s)) (B0 := s.heap.size) hC ?_
    exact k_loop (rf0 := kz_rf) hcat hPr rfl rfl hL fin 512 0 _ _ _ _ _ _ (by omega) (by omega) (hRm _ _ (by omega) (by omega)) ⟨S2, ra2, sc2, ar2, kz_mr, hG, rfl, rfl, rfl⟩
  have hlv := lv_entry (([.ref 999] : List Value).map (j_tv (k_ad s.heap.size b adS))) (n := 7) (by rw [j_sl_len]; decide)
  have hlv := j_av_has hlv
  have hb : ([.ref 999] : List Value).map (j_tv (k_ad s.heap.size b adS)) = [Value.ref b] := by
    show [Value.ref (k_ad s.heap.size b adS 999)] = _
    rw [k_ad_s]
  rw [hb] at hlv
  have main2 : kU (p, l, e, room_1, s, m, #[Value.ref b], below, meth, c, lw_Z below #[Value.ref b] s, D, "ClickOrders$Page", k_ad s.heap.size b adS, cy, kA0 s) s.heap.size 0 0 0 (j_av [.ref 999]) [] 0 kF := kU_lv (fun j v hj => by
    match j, hj with
    | 0, hj => exact hj
    | 1, hj => cases hj
    | 2, hj => cases hj
    | 3, hj => cases hj
    | 4, hj => cases hj
    | 5, hj => cases hj
    | 6, hj => cases hj
    | j + 7, hj => cases hj) main
  rw [lg_entry_eq]
  exact main2 rfl s.heap [] _ (fun k q h => (by cases h)) ⟨fun i j p q h => (by cases h), fun k q h => (by cases h)⟩ va_S.rf (by rw [h4]; exact hlv)
