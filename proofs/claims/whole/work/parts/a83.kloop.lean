/-! THE LAW's loop. -/
theorem kl_end {i L : Nat} (hL : L ≤ 3072) (hi : i ≤ 4000) (h : ¬ i + 6 ≤ L) : nI L - (6 : Int32) < nI i := by
  by_cases h6 : 6 ≤ L
  · rw [show (6 : Int32) = nI 6 from rfl, nI_sub h6]
    exact nI_lt (by omega) (by omega)
  · have h5 : L = 0 ∨ L = 1 ∨ L = 2 ∨ L = 3 ∨ L = 4 ∨ L = 5 := by omega
    have h0 : nI L - (6 : Int32) < 0 := by rcases h5 with rfl | rfl | rfl | rfl | rfl | rfl <;> decide
    rw [Int32.lt_iff_toInt_lt] at h0 ⊢
    rw [nI_toInt (by omega)]
    have : ((0 : Int32)).toInt = 0 := rfl
    omega
theorem kl_more {i L : Nat} (hL : L ≤ 3072) (h : i + 6 ≤ L) : ¬ nI L - (6 : Int32) < nI i := by
  rw [show (6 : Int32) = nI 6 from rfl, nI_sub (by omega)]
  exact fun z => absurd (nI_le (a := i) (b := L - 6) (by omega) (by omega)) (Int32.not_le.mpr z)
set_option maxHeartbeats 4000000 in
set_option maxRecDepth 100000 in
theorem k_body {G : kG} {L k n i : Nat} {xs : Nat → Int32} {rf0 : jRf} {sc : jSc} {rf : jRf} {ar : jSc} {al : jAl} (hcat : kCatch) (hP : kPr G L xs) (hO : kL.1 823 = .inr (1, 1)) (hrf0 : rf0 0 = r_rf) (hi : i + 6 ≤ L) (hL : L ≤ 3072) (hR : kRm G 171 (k + 1) (n + 6)) (hJ : kJ rf0 sc rf ar al) (K : ∀ (sc' : jSc) (rf' : jRf) (ar' : jSc) (al' : jAl), kJ rf0 sc' rf' ar' al' → kW G (k + 1) (n + 6) 2131 [some (.ref 999), some (.ref 734), some (.ref 0), some (.ref 823), some (.int (nI i)), none, none] [] sc' rf' ar' al') : kW G k n 33 [some (.ref 999), some (.ref 734), some (.ref 0), some (.ref 823), some (.int (nI i)), none, none] [] sc rf ar al := by
  have hP0 := hP
  obtain ⟨hC, hS9, hM, hLt⟩ := hP
  refine kl_aload_n hC rfl rfl rfl ?_
  refine kl_iload hC rfl rfl rfl ?_
  refine kl_sld hC hS9 rfl ?_ rfl ?_
  · intro z
    rcases z with z | z
    · exact absurd z (nI_pos (by omega))
    · have z2 : L ≤ iN (nI i) := z
      rw [iN_nI (by omega)] at z2
      omega
  refine kl_bipush hC rfl cb_63 rfl ?_
  refine kl_iand hC rfl rfl ?_
  refine kl_tsw (td := 2131) hC rfl rfl rfl (fun _ => ?_) (fun j o hj hx => ?_)
  · exact kl_widen (k' := k + 1) (n' := n + 6) (by omega) (by omega) (K _ _ _ _ hJ)
  · have hlt : j < 38 := (Array.getElem?_eq_some_iff.mp hj).1
    clear hx
    match j, hlt, hj with
    | 0, _, hj => exact ⟨208, by rw [← Option.some.inj hj]; rfl, kc_0 hcat hP0 hO hrf0 hi hL hR hJ K⟩
    | 1, _, hj => exact ⟨281, by rw [← Option.some.inj hj]; rfl, kc_1 hcat hP0 hO hrf0 hi hL hR hJ K⟩
    | 2, _, hj => exact ⟨337, by rw [← Option.some.inj hj]; rfl, kc_2 hcat hP0 hO hrf0 hi hL hR hJ K⟩
    | 3, _, hj => exact ⟨350, by rw [← Option.some.inj hj]; rfl, kc_3 hcat hP0 hO hrf0 hi hL hR hJ K⟩
    | 4, _, hj => exact ⟨363, by rw [← Option.some.inj hj]; rfl, kc_4 hcat hP0 hO hrf0 hi hL hR hJ K⟩
    | 5, _, hj => exact ⟨426, by rw [← Option.some.inj hj]; rfl, kc_5 hcat hP0 hO hrf0 hi hL hR hJ K⟩
    | 6, _, hj => exact ⟨482, by rw [← Option.some.inj hj]; rfl, kc_6 hcat hP0 hO hrf0 hi hL hR hJ K⟩
    | 7, _, hj => exact ⟨538, by rw [← Option.some.inj hj]; rfl, kc_7 hcat hP0 hO hrf0 hi hL hR hJ K⟩
    | 8, _, hj => exact ⟨594, by rw [← Option.some.inj hj]; rfl, kc_8 hcat hP0 hO hrf0 hi hL hR hJ K⟩
    | 9, _, hj => exact ⟨650, by rw [← Option.some.inj hj]; rfl, kc_9 hcat hP0 hO hrf0 hi hL hR hJ K⟩
    | 10, _, hj => exact ⟨718, by rw [← Option.some.inj hj]; rfl, kc_10 hcat hP0 hO hrf0 hi hL hR hJ K⟩
    | 11, _, hj => exact ⟨743, by rw [← Option.some.inj hj]; rfl, kc_11 hcat hP0 hO hrf0 hi hL hR hJ K⟩
    | 12, _, hj => exact ⟨756, by rw [← Option.some.inj hj]; rfl, kc_12 hcat hP0 hO hrf0 hi hL hR hJ K⟩
    | 13, _, hj => exact ⟨769, by rw [← Option.some.inj hj]; rfl, kc_13 hcat hP0 hO hrf0 hi hL hR hJ K⟩
    | 14, _, hj => exact ⟨837, by rw [← Option.some.inj hj]; rfl, kc_14 hcat hP0 hO hrf0 hi hL hR hJ K⟩
    | 15, _, hj => exact ⟨912, by rw [← Option.some.inj hj]; rfl, kc_15 hcat hP0 hO hrf0 hi hL hR hJ K⟩
    | 16, _, hj => exact ⟨925, by rw [← Option.some.inj hj]; rfl, kc_16 hcat hP0 hO hrf0 hi hL hR hJ K⟩
    | 17, _, hj => exact ⟨950, by rw [← Option.some.inj hj]; rfl, kc_17 hcat hP0 hO hrf0 hi hL hR hJ K⟩
    | 18, _, hj => exact ⟨1018, by rw [← Option.some.inj hj]; rfl, kc_18 hcat hP0 hO hrf0 hi hL hR hJ K⟩
    | 19, _, hj => exact ⟨1086, by rw [← Option.some.inj hj]; rfl, kc_19 hcat hP0 hO hrf0 hi hL hR hJ K⟩
    | 20, _, hj => exact ⟨1142, by rw [← Option.some.inj hj]; rfl, kc_20 hcat hP0 hO hrf0 hi hL hR hJ K⟩
    | 21, _, hj => exact ⟨1210, by rw [← Option.some.inj hj]; rfl, kc_21 hcat hP0 hO hrf0 hi hL hR hJ K⟩
    | 22, _, hj => exact ⟨1290, by rw [← Option.some.inj hj]; rfl, kc_22 hcat hP0 hO hrf0 hi hL hR hJ K⟩
    | 23, _, hj => exact ⟨1358, by rw [← Option.some.inj hj]; rfl, kc_23 hcat hP0 hO hrf0 hi hL hR hJ K⟩
    | 24, _, hj => exact ⟨1438, by rw [← Option.some.inj hj]; rfl, kc_24 hcat hP0 hO hrf0 hi hL hR hJ K⟩
    | 25, _, hj => exact ⟨1494, by rw [← Option.some.inj hj]; rfl, kc_25 hcat hP0 hO hrf0 hi hL hR hJ K⟩
    | 26, _, hj => exact ⟨1507, by rw [← Option.some.inj hj]; rfl, kc_26 hcat hP0 hO hrf0 hi hL hR hJ K⟩
    | 27, _, hj => exact ⟨1520, by rw [← Option.some.inj hj]; rfl, kc_27 hcat hP0 hO hrf0 hi hL hR hJ K⟩
    | 28, _, hj => exact ⟨1533, by rw [← Option.some.inj hj]; rfl, kc_28 hcat hP0 hO hrf0 hi hL hR hJ K⟩
    | 29, _, hj => exact ⟨1558, by rw [← Option.some.inj hj]; rfl, kc_29 hcat hP0 hO hrf0 hi hL hR hJ K⟩
    | 30, _, hj => exact ⟨1650, by rw [← Option.some.inj hj]; rfl, kc_30 hcat hP0 hO hrf0 hi hL hR hJ K⟩
    | 31, _, hj => exact ⟨1741, by rw [← Option.some.inj hj]; rfl, kc_31 hcat hP0 hO hrf0 hi hL hR hJ K⟩
    | 32, _, hj => exact ⟨1833, by rw [← Option.some.inj hj]; rfl, kc_32 hcat hP0 hO hrf0 hi hL hR hJ K⟩
    | 33, _, hj => exact ⟨1846, by rw [← Option.some.inj hj]; rfl, kc_33 hcat hP0 hO hrf0 hi hL hR hJ K⟩
    | 34, _, hj => exact ⟨1914, by rw [← Option.some.inj hj]; rfl, kc_34 hcat hP0 hO hrf0 hi hL hR hJ K⟩
    | 35, _, hj => exact ⟨1982, by rw [← Option.some.inj hj]; rfl, kc_35 hcat hP0 hO hrf0 hi hL hR hJ K⟩
    | 36, _, hj => exact ⟨2038, by rw [← Option.some.inj hj]; rfl, kc_36 hcat hP0 hO hrf0 hi hL hR hJ K⟩
    | 37, _, hj => exact ⟨2106, by rw [← Option.some.inj hj]; rfl, kc_37 hcat hP0 hO hrf0 hi hL hR hJ K⟩
    | j + 38, h, _ => exact absurd h (by omega)
set_option maxHeartbeats 4000000 in
theorem k_loop {G : kG} {L : Nat} {xs : Nat → Int32} {rf0 : jRf} (hcat : kCatch) (hP : kPr G L xs) (hO : kL.1 823 = .inr (1, 1)) (hrf0 : rf0 0 = r_rf) (hL : L ≤ 3072)
    (fin : ∀ (k n : Nat) (vs : List (Option Value)) (sc : jSc) (rf : jRf) (ar : jSc) (al : jAl), kRm G 171 k n → kW G k n 2137 vs [] sc rf ar al) :
    ∀ (T i k n : Nat) (sc : jSc) (rf : jRf) (ar : jSc) (al : jAl), L ≤ i + 6 * T + 5 → i ≤ L + 6 → kRm G 171 (k + T + 1) (n + 6 * T + 6) → kJ rf0 sc rf ar al → kW G k n 23 [some (.ref 999), some (.ref 734), some (.ref 0), some (.ref 823), some (.int (nI i)), none, none] [] sc rf ar al := by
  intro T
  have hP0 := hP
  obtain ⟨hC, hS9, hM, hLt⟩ := hP
  have head : ∀ (i k n : Nat) (sc : jSc) (rf : jRf) (ar : jSc) (al : jAl), i ≤ L + 6 → (¬ i + 6 ≤ L → kW G k n 2137 [some (.ref 999), some (.ref 734), some (.ref 0), some (.ref 823), some (.int (nI i)), none, none] [] sc rf ar al) → (i + 6 ≤ L → kW G k n 33 [some (.ref 999), some (.ref 734), some (.ref 0), some (.ref 823), some (.int (nI i)), none, none] [] sc rf ar al) → kW G k n 23 [some (.ref 999), some (.ref 734), some (.ref 0), some (.ref 823), some (.int (nI i)), none, none] [] sc rf ar al := by
    intro i k n sc rf ar al hi h1 h2
    refine kl_iload hC rfl rfl rfl ?_
    refine kl_aload_n hC rfl rfl rfl ?_
    refine kl_slen hC hS9 rfl rfl ?_
    refine kl_bipush hC rfl cb_6 rfl ?_
    refine kl_isub hC rfl rfl ?_
    refine kl_ic_gt hC rfl rfl rfl (fun c => ?_) (fun c => ?_)
    · refine h1 (fun z => kl_more hL z c)
    · exact h2 (Classical.byContradiction fun z => c (kl_end hL (by omega) z))
  induction T with
  | zero =>
    intro i k n sc rf ar al h1 h2 hR hJ
    exact head i k n sc rf ar al h2 (fun _ => fin k n _ sc rf ar al (kRm_le hR (by omega) (by omega) (by omega))) (fun z => absurd z (by omega))
  | succ T ih =>
    intro i k n sc rf ar al h1 h2 hR hJ
    refine head i k n sc rf ar al h2 (fun _ => fin k n _ sc rf ar al (kRm_le hR (by omega) (by omega) (by omega))) (fun hi => ?_)
    refine k_body hcat hP0 hO hrf0 hi hL (kRm_le hR (by omega) (by omega) (by omega)) hJ (fun sc' rf' ar' al' hJ' => ?_)
    refine kl_iinc (v := nI i) (c := 6) hC rfl rfl rfl rfl rfl rfl rfl ?_
    refine kl_goto hC rfl rfl ?_
    have e : nI i + 6 = nI (i + 6) := (Int32.ofNat_add i 6).symm
    show kW G (k + 1) (n + 6) 23 [some (.ref 999), some (.ref 734), some (.ref 0), some (.ref 823), some (.int (nI i + 6)), none, none] [] sc' rf' ar' al'
    rw [e]
    exact ih (i + 6) (k + 1) (n + 6) sc' rf' ar' al' (by omega) (by omega) (kRm_le hR (by omega) (by omega) (by omega)) hJ' 
