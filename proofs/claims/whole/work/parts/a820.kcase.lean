/-! THE LAW's cases. -/
theorem kl_b01 (x : Int32) : (if x = 0 then (0 : Int32) else 1) = 0 ∨ (if x = 0 then (0 : Int32) else 1) = 1 := by
  by_cases h : x = 0
  · exact Or.inl (if_pos h)
  · exact Or.inr (if_neg h)
set_option maxHeartbeats 4000000 in
theorem kc_0 {G : kG} {L k n i : Nat} {xs : Nat → Int32} {rf0 : jRf} {sc : jSc} {rf : jRf} {ar : jSc} {al : jAl} (hcat : kCatch) (hP : kPr G L xs) (hO : kL.1 823 = .inr (1, 1)) (hrf0 : rf0 0 = r_rf) (hi : i + 6 ≤ L) (hL : L ≤ 3072) (hR : kRm G 171 (k + 1) (n + 6)) (hJ : kJ rf0 sc rf ar al) (K : ∀ (sc' : jSc) (rf' : jRf) (ar' : jSc) (al' : jAl), kJ rf0 sc' rf' ar' al' → kW G (k + 1) (n + 6) 2131 [some (.ref 999), some (.ref 734), some (.ref 0), some (.ref 823), some (.int (nI i)), none, none] [] sc' rf' ar' al') : kW G k n 208 [some (.ref 999), some (.ref 734), some (.ref 0), some (.ref 823), some (.int (nI i)), none, none] [] sc rf ar al := by
  obtain ⟨hC, hS9, hM, hLt⟩ := hP
  obtain ⟨S, arv, scv, carv, mr, hG, rfl, rfl, rfl⟩ := hJ
  have hR1 := kRm_le (d' := 170) (k' := k + 1) (n' := n + 6) hR (by omega) (by omega) (by omega)
  have hR0 := kRm_le (d' := 171) (k' := k) (n' := n) hR (by omega) (by omega) (by omega)
  have hq : qA (rF_5 (xs (i + 1)) (xs (i + 2)) (xs (i + 3)) (xs (i + 4)) (xs (i + 5)) S arv) (xF_313 (xs (i + 1)) (xs (i + 2)) (xs (i + 3)) (xs (i + 4)) (xs (i + 5)) scv mr carv al) := by
    first
    | exact q_feed hG
    | (obtain ⟨S0, ar0, n0, tx, g, p, m, s, nr, cs, hx⟩ := hG; exact q_feed hx)
  obtain ⟨v, S2, ar2, sc2, mr2, car2, al2, e1, e0, e2, hG2⟩ := hq
  obtain ⟨al3, hcl, hG3⟩ : ∃ al3 : jAl, kCl 313 [.ref 734, .int (xs (i + 1)), .int (xs (i + 2)), .int (xs (i + 3)), .int (xs (i + 4)), .int (xs (i + 5))] (kSc S scv) (x_mk mr rf0) (kAr arv carv) al (some (.int v)) (kSc S sc2) (x_mk mr2 rf0) (kAr arv car2) al3 ∧ GR S2 ar2 sc2 car2 mr2 al3 := ⟨_, (gW_cls (fun a ha => x_mk_lt ha) ((xt_313 (b := false) (rf := rf0) (d := 168)) _ (xs (i + 1)) (xs (i + 2)) (xs (i + 3)) (xs (i + 4)) (xs (i + 5)) scv mr carv al v sc2 mr2 car2 al2 e2 ⟨rfl, rfl, rfl, rfl, rfl⟩)), GR_al hG2 (kAl_n (by decide))⟩
  refine kl_widen (k' := k + 1) (n' := n + 6) (by omega) (by omega) ?_
  refine kl_aload_n hC rfl rfl rfl ?_
  refine kl_arg 1 hC hS9 rfl rfl rfl rfl rfl (by decide) rfl rfl rfl hi hL rfl ?_
  refine kl_arg 2 hC hS9 rfl rfl rfl rfl rfl (by decide) rfl rfl rfl hi hL rfl ?_
  refine kl_arg 3 hC hS9 rfl rfl rfl rfl rfl (by decide) rfl rfl rfl hi hL rfl ?_
  refine kl_arg 4 hC hS9 rfl rfl rfl rfl rfl (by decide) rfl rfl rfl hi hL rfl ?_
  refine kl_arg 5 hC hS9 rfl rfl rfl rfl rfl (by decide) rfl rfl rfl hi hL rfl ?_
  refine kl_call hC rfl kk_98 rfl rfl rfl ys_734 yx_313 rfl rfl hR1 (gW_mono hcl (fun r9 s9 f9 a9 l9 e9 => ?_))
  rw [e9.1, e9.2.1, e9.2.2.1, e9.2.2.2.1, e9.2.2.2.2]
  show kW G (k + 1) (n + 6) 242 [some (.ref 999), some (.ref 734), some (.ref 0), some (.ref 823), some (.int (nI i)), none, none] [.int v] (kSc S sc2) (x_mk mr2 rf0) (kAr arv car2) al3
  refine kl_aload_n hC rfl rfl rfl ?_
  refine kl_arg 1 hC hS9 rfl rfl rfl rfl rfl (by decide) rfl rfl rfl hi hL rfl ?_
  refine kl_arg 2 hC hS9 rfl rfl rfl rfl rfl (by decide) rfl rfl rfl hi hL rfl ?_
  refine kl_arg 3 hC hS9 rfl rfl rfl rfl rfl (by decide) rfl rfl rfl hi hL rfl ?_
  refine kl_arg 4 hC hS9 rfl rfl rfl rfl rfl (by decide) rfl rfl rfl hi hL rfl ?_
  refine kl_arg 5 hC hS9 rfl rfl rfl rfl rfl (by decide) rfl rfl rfl hi hL rfl ?_
  refine kl_call hC rfl kk_102 rfl rfl rfl kL_0 rfl rfl rfl hR1 (gW_mono (gW_ref (sc0 := fun _ _ => 0) ((rt_5 (X := gRX) gRX_LK rfl (rf := x_mk mr2 rf0) (x_mk_0 hrf0) (d := 169)) (fun _ _ => 0) (al3) _ (xs (i + 1)) (xs (i + 2)) (xs (i + 3)) (xs (i + 4)) (xs (i + 5)) S arv v S2 ar2 e1 ⟨rfl, rfl, rfl, rfl, rfl⟩)) (fun r9 s9 f9 a9 l9 e9 => ?_))
  rw [e9.1, e9.2.1, e9.2.2.1, e9.2.2.2.1, e9.2.2.2.2]
  show kW G (k + 1) (n + 6) 276 [some (.ref 999), some (.ref 734), some (.ref 0), some (.ref 823), some (.int (nI i)), none, none] [.int v, .int v] (kSc S2 sc2) (x_mk mr2 rf0) (kAr ar2 car2) al3
  refine kl_ic_eq hC rfl rfl rfl (fun _ => ?_) (fun c => absurd rfl c)
  exact K _ _ _ _ ⟨S2, ar2, sc2, car2, mr2, hG3, rfl, rfl, rfl⟩
set_option maxHeartbeats 4000000 in
theorem kc_1 {G : kG} {L k n i : Nat} {xs : Nat → Int32} {rf0 : jRf} {sc : jSc} {rf : jRf} {ar : jSc} {al : jAl} (hcat : kCatch) (hP : kPr G L xs) (hO : kL.1 823 = .inr (1, 1)) (hrf0 : rf0 0 = r_rf) (hi : i + 6 ≤ L) (hL : L ≤ 3072) (hR : kRm G 171 (k + 1) (n + 6)) (hJ : kJ rf0 sc rf ar al) (K : ∀ (sc' : jSc) (rf' : jRf) (ar' : jSc) (al' : jAl), kJ rf0 sc' rf' ar' al' → kW G (k + 1) (n + 6) 2131 [some (.ref 999), some (.ref 734), some (.ref 0), some (.ref 823), some (.int (nI i)), none, none] [] sc' rf' ar' al') : kW G k n 281 [some (.ref 999), some (.ref 734), some (.ref 0), some (.ref 823), some (.int (nI i)), none, none] [] sc rf ar al := by
  obtain ⟨hC, hS9, hM, hLt⟩ := hP
  obtain ⟨S, arv, scv, carv, mr, hG, rfl, rfl, rfl⟩ := hJ
  have hR1 := kRm_le (d' := 170) (k' := k + 1) (n' := n + 6) hR (by omega) (by omega) (by omega)
  have hR0 := kRm_le (d' := 171) (k' := k) (n' := n) hR (by omega) (by omega) (by omega)
  rcases d_program (rf0 := rf0) (x := (xs (i + 1))) hG with ⟨v, S2, ar2, sc2, mr2, car2, al2, e1, e0, e2, hG2⟩ | ⟨⟨v, S2, ar2, e1, e0, hG2⟩, he⟩
  · skip
    obtain ⟨al3, hcl, hG3⟩ : ∃ al3 : jAl, kCl 314 [.ref 734, .int (xs (i + 1))] (kSc S scv) (x_mk mr rf0) (kAr arv carv) al (some (.int v)) (kSc S sc2) (x_mk mr2 rf0) (kAr arv car2) al3 ∧ GR S2 ar2 sc2 car2 mr2 al3 := ⟨_, (gW_cls (fun a ha => x_mk_lt ha) ((xt_314 (b := false) (rf := rf0) (d := 45)) _ (xs (i + 1)) scv mr carv al v sc2 mr2 car2 al2 e2 ⟨rfl, rfl, rfl, rfl, rfl⟩)), GR_al hG2 (kAl_n (by decide))⟩
    refine kl_aload_n hC rfl rfl rfl ?_
    refine kl_arg 1 hC hS9 rfl rfl rfl rfl rfl (by decide) rfl rfl rfl hi hL rfl ?_
    refine kl_aload_n hC rfl rfl rfl ?_
    refine kl_callH hC rfl kk_103 rfl rfl rfl rfl rfl hR0 hM (kMl_of hLt (fun l hl => kh_program (l := l) hl hO hcl)) ?_
    show kW G (k + 1) (n + 6) 292 [some (.ref 999), some (.ref 734), some (.ref 0), some (.ref 823), some (.int (nI i)), none, none] [.int 0] (kSc S sc2) (x_mk mr2 rf0) (kAr arv car2) (j_u2 al3 823 (iN 0) v.toInt64)
    refine kl_istore hC rfl rfl rfl rfl rfl ?_
    refine kl_aload_n hC rfl rfl rfl ?_
    refine kl_arg 1 hC hS9 rfl rfl rfl rfl rfl (by decide) rfl rfl rfl hi hL rfl ?_
    refine kl_call hC rfl kk_108 rfl rfl rfl kL_0 rfl rfl rfl hR1 (gW_mono (gW_ref (sc0 := fun _ _ => 0) ((rt_42 (X := gRX) gRX_LK rfl (rf := x_mk mr2 rf0) (x_mk_0 hrf0) (d := 41)) (fun _ _ => 0) ((j_u2 al3 823 (iN 0) v.toInt64)) _ (xs (i + 1)) S arv v S2 ar2 e1 ⟨rfl, rfl, rfl, rfl, rfl⟩)) (fun r9 s9 f9 a9 l9 e9 => ?_))
    rw [e9.1, e9.2.1, e9.2.2.1, e9.2.2.2.1, e9.2.2.2.2]
    show kW G (k + 1) (n + 6) 304 [some (.ref 999), some (.ref 734), some (.ref 0), some (.ref 823), some (.int (nI i)), some (.int 0), none] [.int v] (kSc S2 sc2) (x_mk mr2 rf0) (kAr ar2 car2) (j_u2 al3 823 (iN 0) v.toInt64)
    refine kl_istore hC rfl rfl rfl rfl rfl ?_
    refine kl_aload_n hC rfl rfl rfl ?_
    refine kl_call hC rfl kk_109 rfl rfl rfl kL_0 rfl rfl rfl hR1 (gW_mono (gW_ref (sc0 := fun _ _ => 0) ((rt_2 (X := gRX) gRX_LK rfl (rf := x_mk mr2 rf0) (x_mk_0 hrf0) (d := 169)) (fun _ _ => 0) ((j_u2 al3 823 (iN 0) v.toInt64)) _ S2 ar2 (S2 0) S2 ar2 rfl ⟨rfl, rfl, rfl, rfl, rfl⟩)) (fun r9 s9 f9 a9 l9 e9 => ?_))
    rw [e9.1, e9.2.1, e9.2.2.1, e9.2.2.2.1, e9.2.2.2.2, e0]
    show kW G (k + 1) (n + 6) 310 [some (.ref 999), some (.ref 734), some (.ref 0), some (.ref 823), some (.int (nI i)), some (.int 0), some (.int v)] [.int 0] (kSc S2 sc2) (x_mk mr2 rf0) (kAr ar2 car2) (j_u2 al3 823 (iN 0) v.toInt64)
    refine kl_iload hC rfl rfl rfl ?_
    refine kl_ic_eq hC rfl rfl rfl (fun _ => ?_) (fun c => absurd rfl c)
    refine kl_iload hC rfl rfl rfl ?_
    refine kl_if_ne hC rfl rfl rfl (fun _ => ?_) (fun c => absurd rfl c)
    refine kl_aload_n hC rfl rfl rfl ?_
    refine kl_iconst hC rfl ci_0 rfl ?_
    refine kl_laload hC rfl hO (by decide) k_o1 rfl ?_
    refine kl_iload hC rfl rfl rfl ?_
    refine kl_i2l hC rfl rfl ?_
    refine kl_lcmp hC rfl rfl ?_
    refine kl_if_eq hC rfl rfl rfl (fun _ => ?_) (fun c => absurd ((lg_cmp_eq _ _).mpr rfl) c)
    refine kl_goto hC rfl rfl ?_
    refine kW_weak (vs := [some (.ref 999), some (.ref 734), some (.ref 0), some (.ref 823), some (.int (nI i)), none, none]) ⟨rfl, rfl, rfl, rfl, rfl, trivial⟩ (K _ _ _ _ ⟨S2, ar2, sc2, car2, mr2, GR_al hG3 k_o2, rfl, rfl, rfl⟩)
  · skip
    refine kl_aload_n hC rfl rfl rfl ?_
    refine kl_arg 1 hC hS9 rfl rfl rfl rfl rfl (by decide) rfl rfl rfl hi hL rfl ?_
    refine kl_aload_n hC rfl rfl rfl ?_
    refine kl_callH hC rfl kk_103 rfl rfl rfl rfl rfl hR0 hM (kMl_of hLt (fun l hl => kx_program_1 (l := l) hcat hl he)) ?_
    show kW G (k + 1) (n + 6) 292 [some (.ref 999), some (.ref 734), some (.ref 0), some (.ref 823), some (.int (nI i)), none, none] [.int 1] (kSc S scv) (x_mk mr rf0) (kAr arv carv) al
    refine kl_istore hC rfl rfl rfl rfl rfl ?_
    refine kl_aload_n hC rfl rfl rfl ?_
    refine kl_arg 1 hC hS9 rfl rfl rfl rfl rfl (by decide) rfl rfl rfl hi hL rfl ?_
    refine kl_call hC rfl kk_108 rfl rfl rfl kL_0 rfl rfl rfl hR1 (gW_mono (gW_ref (sc0 := fun _ _ => 0) ((rt_42 (X := gRX) gRX_LK rfl (rf := x_mk mr rf0) (x_mk_0 hrf0) (d := 41)) (fun _ _ => 0) (al) _ (xs (i + 1)) S arv v S2 ar2 e1 ⟨rfl, rfl, rfl, rfl, rfl⟩)) (fun r9 s9 f9 a9 l9 e9 => ?_))
    rw [e9.1, e9.2.1, e9.2.2.1, e9.2.2.2.1, e9.2.2.2.2]
    show kW G (k + 1) (n + 6) 304 [some (.ref 999), some (.ref 734), some (.ref 0), some (.ref 823), some (.int (nI i)), some (.int 1), none] [.int v] (kSc S2 scv) (x_mk mr rf0) (kAr ar2 carv) al
    refine kl_istore hC rfl rfl rfl rfl rfl ?_
    refine kl_aload_n hC rfl rfl rfl ?_
    refine kl_call hC rfl kk_109 rfl rfl rfl kL_0 rfl rfl rfl hR1 (gW_mono (gW_ref (sc0 := fun _ _ => 0) ((rt_2 (X := gRX) gRX_LK rfl (rf := x_mk mr rf0) (x_mk_0 hrf0) (d := 169)) (fun _ _ => 0) (al) _ S2 ar2 (S2 0) S2 ar2 rfl ⟨rfl, rfl, rfl, rfl, rfl⟩)) (fun r9 s9 f9 a9 l9 e9 => ?_))
    rw [e9.1, e9.2.1, e9.2.2.1, e9.2.2.2.1, e9.2.2.2.2, e0]
    show kW G (k + 1) (n + 6) 310 [some (.ref 999), some (.ref 734), some (.ref 0), some (.ref 823), some (.int (nI i)), some (.int 1), some (.int v)] [.int 1] (kSc S2 scv) (x_mk mr rf0) (kAr ar2 carv) al
    refine kl_iload hC rfl rfl rfl ?_
    refine kl_ic_eq hC rfl rfl rfl (fun _ => ?_) (fun c => absurd rfl c)
    refine kl_iload hC rfl rfl rfl ?_
    refine kl_if_ne hC rfl rfl rfl (fun c => absurd c (by decide)) (fun _ => ?_)
    refine kl_goto hC rfl rfl ?_
    refine kW_weak (vs := [some (.ref 999), some (.ref 734), some (.ref 0), some (.ref 823), some (.int (nI i)), none, none]) ⟨rfl, rfl, rfl, rfl, rfl, trivial⟩ (K _ _ _ _ ⟨S2, ar2, scv, carv, mr, hG2, rfl, rfl, rfl⟩)
set_option maxHeartbeats 4000000 in
theorem kc_2 {G : kG} {L k n i : Nat} {xs : Nat → Int32} {rf0 : jRf} {sc : jSc} {rf : jRf} {ar : jSc} {al : jAl} (hcat : kCatch) (hP : kPr G L xs) (hO : kL.1 823 = .inr (1, 1)) (hrf0 : rf0 0 = r_rf) (hi : i + 6 ≤ L) (hL : L ≤ 3072) (hR : kRm G 171 (k + 1) (n + 6)) (hJ : kJ rf0 sc rf ar al) (K : ∀ (sc' : jSc) (rf' : jRf) (ar' : jSc) (al' : jAl), kJ rf0 sc' rf' ar' al' → kW G (k + 1) (n + 6) 2131 [some (.ref 999), some (.ref 734), some (.ref 0), some (.ref 823), some (.int (nI i)), none, none] [] sc' rf' ar' al') : kW G k n 337 [some (.ref 999), some (.ref 734), some (.ref 0), some (.ref 823), some (.int (nI i)), none, none] [] sc rf ar al := by
  obtain ⟨hC, hS9, hM, hLt⟩ := hP
  obtain ⟨S, arv, scv, carv, mr, hG, rfl, rfl, rfl⟩ := hJ
  have hR1 := kRm_le (d' := 170) (k' := k + 1) (n' := n + 6) hR (by omega) (by omega) (by omega)
  have hR0 := kRm_le (d' := 171) (k' := k) (n' := n) hR (by omega) (by omega) (by omega)
  have hq : qA (rF_44 S arv) (xF_315 scv mr carv al) := by
    first
    | exact q_fault hG
    | (obtain ⟨S0, ar0, n0, tx, g, p, m, s, nr, cs, hx⟩ := hG; exact q_fault hx)
  obtain ⟨v, S2, ar2, sc2, mr2, car2, al2, e1, e0, e2, hG2⟩ := hq
  obtain ⟨al3, hcl, hG3⟩ : ∃ al3 : jAl, kCl 315 [.ref 734] (kSc S scv) (x_mk mr rf0) (kAr arv carv) al (some (.int v)) (kSc S sc2) (x_mk mr2 rf0) (kAr arv car2) al3 ∧ GR S2 ar2 sc2 car2 mr2 al3 := ⟨_, (gW_cls (fun a ha => x_mk_lt ha) ((xt_315 (b := false) (rf := rf0) (d := 169)) _ scv mr carv al v sc2 mr2 car2 al2 e2 ⟨rfl, rfl, rfl, rfl, rfl⟩)), GR_al hG2 (kAl_n (by decide))⟩
  refine kl_widen (k' := k + 1) (n' := n + 6) (by omega) (by omega) ?_
  refine kl_aload_n hC rfl rfl rfl ?_
  refine kl_call hC rfl kk_113 rfl rfl rfl ys_734 yx_315 rfl rfl hR1 (gW_mono hcl (fun r9 s9 f9 a9 l9 e9 => ?_))
  rw [e9.1, e9.2.1, e9.2.2.1, e9.2.2.2.1, e9.2.2.2.2]
  show kW G (k + 1) (n + 6) 341 [some (.ref 999), some (.ref 734), some (.ref 0), some (.ref 823), some (.int (nI i)), none, none] [.int v] (kSc S sc2) (x_mk mr2 rf0) (kAr arv car2) al3
  refine kl_aload_n hC rfl rfl rfl ?_
  refine kl_call hC rfl kk_116 rfl rfl rfl kL_0 rfl rfl rfl hR1 (gW_mono (gW_ref (sc0 := fun _ _ => 0) ((rt_44 (X := gRX) gRX_LK rfl (rf := x_mk mr2 rf0) (x_mk_0 hrf0) (d := 169)) (fun _ _ => 0) (al3) _ S arv v S2 ar2 e1 ⟨rfl, rfl, rfl, rfl, rfl⟩)) (fun r9 s9 f9 a9 l9 e9 => ?_))
  rw [e9.1, e9.2.1, e9.2.2.1, e9.2.2.2.1, e9.2.2.2.2]
  show kW G (k + 1) (n + 6) 345 [some (.ref 999), some (.ref 734), some (.ref 0), some (.ref 823), some (.int (nI i)), none, none] [.int v, .int v] (kSc S2 sc2) (x_mk mr2 rf0) (kAr ar2 car2) al3
  refine kl_ic_eq hC rfl rfl rfl (fun _ => ?_) (fun c => absurd rfl c)
  exact K _ _ _ _ ⟨S2, ar2, sc2, car2, mr2, hG3, rfl, rfl, rfl⟩
set_option maxHeartbeats 4000000 in
theorem kc_3 {G : kG} {L k n i : Nat} {xs : Nat → Int32} {rf0 : jRf} {sc : jSc} {rf : jRf} {ar : jSc} {al : jAl} (hcat : kCatch) (hP : kPr G L xs) (hO : kL.1 823 = .inr (1, 1)) (hrf0 : rf0 0 = r_rf) (hi : i + 6 ≤ L) (hL : L ≤ 3072) (hR : kRm G 171 (k + 1) (n + 6)) (hJ : kJ rf0 sc rf ar al) (K : ∀ (sc' : jSc) (rf' : jRf) (ar' : jSc) (al' : jAl), kJ rf0 sc' rf' ar' al' → kW G (k + 1) (n + 6) 2131 [some (.ref 999), some (.ref 734), some (.ref 0), some (.ref 823), some (.int (nI i)), none, none] [] sc' rf' ar' al') : kW G k n 350 [some (.ref 999), some (.ref 734), some (.ref 0), some (.ref 823), some (.int (nI i)), none, none] [] sc rf ar al := by
  obtain ⟨hC, hS9, hM, hLt⟩ := hP
  obtain ⟨S, arv, scv, carv, mr, hG, rfl, rfl, rfl⟩ := hJ
  have hR1 := kRm_le (d' := 170) (k' := k + 1) (n' := n + 6) hR (by omega) (by omega) (by omega)
  have hR0 := kRm_le (d' := 171) (k' := k) (n' := n) hR (by omega) (by omega) (by omega)
  have hq : qA (rF_59 S arv) (xF_316 scv mr carv al) := by
    first
    | exact q_begin hG
    | (obtain ⟨S0, ar0, n0, tx, g, p, m, s, nr, cs, hx⟩ := hG; exact q_begin hx)
  obtain ⟨v, S2, ar2, sc2, mr2, car2, al2, e1, e0, e2, hG2⟩ := hq
  obtain ⟨al3, hcl, hG3⟩ : ∃ al3 : jAl, kCl 316 [.ref 734] (kSc S scv) (x_mk mr rf0) (kAr arv carv) al (some (.int v)) (kSc S sc2) (x_mk mr2 rf0) (kAr arv car2) al3 ∧ GR S2 ar2 sc2 car2 mr2 al3 := ⟨_, (gW_cls (fun a ha => x_mk_lt ha) ((xt_316 (b := false) (rf := rf0) (d := 164)) _ scv mr carv al v sc2 mr2 car2 al2 e2 ⟨rfl, rfl, rfl, rfl, rfl⟩)), GR_al hG2 (kAl_n (by decide))⟩
  refine kl_widen (k' := k + 1) (n' := n + 6) (by omega) (by omega) ?_
  refine kl_aload_n hC rfl rfl rfl ?_
  refine kl_call hC rfl kk_117 rfl rfl rfl ys_734 yx_316 rfl rfl hR1 (gW_mono hcl (fun r9 s9 f9 a9 l9 e9 => ?_))
  rw [e9.1, e9.2.1, e9.2.2.1, e9.2.2.2.1, e9.2.2.2.2]
  show kW G (k + 1) (n + 6) 354 [some (.ref 999), some (.ref 734), some (.ref 0), some (.ref 823), some (.int (nI i)), none, none] [.int v] (kSc S sc2) (x_mk mr2 rf0) (kAr arv car2) al3
  refine kl_aload_n hC rfl rfl rfl ?_
  refine kl_call hC rfl kk_120 rfl rfl rfl kL_0 rfl rfl rfl hR1 (gW_mono (gW_ref (sc0 := fun _ _ => 0) ((rt_59 (X := gRX) gRX_LK rfl (rf := x_mk mr2 rf0) (x_mk_0 hrf0) (d := 41)) (fun _ _ => 0) (al3) _ S arv v S2 ar2 e1 ⟨rfl, rfl, rfl, rfl, rfl⟩)) (fun r9 s9 f9 a9 l9 e9 => ?_))
  rw [e9.1, e9.2.1, e9.2.2.1, e9.2.2.2.1, e9.2.2.2.2]
  show kW G (k + 1) (n + 6) 358 [some (.ref 999), some (.ref 734), some (.ref 0), some (.ref 823), some (.int (nI i)), none, none] [.int v, .int v] (kSc S2 sc2) (x_mk mr2 rf0) (kAr ar2 car2) al3
  refine kl_ic_eq hC rfl rfl rfl (fun _ => ?_) (fun c => absurd rfl c)
  exact K _ _ _ _ ⟨S2, ar2, sc2, car2, mr2, hG3, rfl, rfl, rfl⟩
set_option maxHeartbeats 4000000 in
theorem kc_4 {G : kG} {L k n i : Nat} {xs : Nat → Int32} {rf0 : jRf} {sc : jSc} {rf : jRf} {ar : jSc} {al : jAl} (hcat : kCatch) (hP : kPr G L xs) (hO : kL.1 823 = .inr (1, 1)) (hrf0 : rf0 0 = r_rf) (hi : i + 6 ≤ L) (hL : L ≤ 3072) (hR : kRm G 171 (k + 1) (n + 6)) (hJ : kJ rf0 sc rf ar al) (K : ∀ (sc' : jSc) (rf' : jRf) (ar' : jSc) (al' : jAl), kJ rf0 sc' rf' ar' al' → kW G (k + 1) (n + 6) 2131 [some (.ref 999), some (.ref 734), some (.ref 0), some (.ref 823), some (.int (nI i)), none, none] [] sc' rf' ar' al') : kW G k n 363 [some (.ref 999), some (.ref 734), some (.ref 0), some (.ref 823), some (.int (nI i)), none, none] [] sc rf ar al := by
  obtain ⟨hC, hS9, hM, hLt⟩ := hP
  obtain ⟨S, arv, scv, carv, mr, hG, rfl, rfl, rfl⟩ := hJ
  have hR1 := kRm_le (d' := 170) (k' := k + 1) (n' := n + 6) hR (by omega) (by omega) (by omega)
  have hR0 := kRm_le (d' := 171) (k' := k) (n' := n) hR (by omega) (by omega) (by omega)
  rcases d_can (rf0 := rf0) (x := (xs (i + 1))) hG with ⟨v, S2, ar2, sc2, mr2, car2, al2, e1, e0, e2, hG2⟩ | ⟨⟨v, S2, ar2, e1, e0, hG2⟩, he⟩
  · skip
    obtain ⟨al3, hcl, hG3⟩ : ∃ al3 : jAl, kCl 317 [.ref 734, .int (xs (i + 1))] (kSc S scv) (x_mk mr rf0) (kAr arv carv) al (some (.int v)) (kSc S sc2) (x_mk mr2 rf0) (kAr arv car2) al3 ∧ GR S2 ar2 sc2 car2 mr2 al3 := ⟨_, (gW_cls (fun a ha => x_mk_lt ha) ((xt_317 (b := false) (rf := rf0) (d := 167)) _ (xs (i + 1)) scv mr carv al v sc2 mr2 car2 al2 e2 ⟨rfl, rfl, rfl, rfl, rfl⟩)), GR_al hG2 (kAl_n (by decide))⟩
    refine kl_aload_n hC rfl rfl rfl ?_
    refine kl_arg 1 hC hS9 rfl rfl rfl rfl rfl (by decide) rfl rfl rfl hi hL rfl ?_
    refine kl_aload_n hC rfl rfl rfl ?_
    refine kl_callH hC rfl kk_121 rfl rfl rfl rfl rfl hR0 hM (kMl_of hLt (fun l hl => kh_can (l := l) hl hO hcl)) ?_
    show kW G (k + 1) (n + 6) 374 [some (.ref 999), some (.ref 734), some (.ref 0), some (.ref 823), some (.int (nI i)), none, none] [.int 0] (kSc S sc2) (x_mk mr2 rf0) (kAr arv car2) (j_u2 al3 823 (iN 0) (if v = 0 then (0 : Int64) else 1))
    refine kl_istore hC rfl rfl rfl rfl rfl ?_
    refine kl_aload_n hC rfl rfl rfl ?_
    refine kl_arg 1 hC hS9 rfl rfl rfl rfl rfl (by decide) rfl rfl rfl hi hL rfl ?_
    refine kl_call hC rfl kk_123 rfl rfl rfl kL_0 rfl rfl rfl hR1 (gW_mono (gW_ref (sc0 := fun _ _ => 0) ((rt_60 (X := gRX) gRX_LK rfl (rf := x_mk mr2 rf0) (x_mk_0 hrf0) (d := 168)) (fun _ _ => 0) ((j_u2 al3 823 (iN 0) (if v = 0 then (0 : Int64) else 1))) _ (xs (i + 1)) S arv v S2 ar2 e1 ⟨rfl, rfl, rfl, rfl, rfl⟩)) (fun r9 s9 f9 a9 l9 e9 => ?_))
    rw [e9.1, e9.2.1, e9.2.2.1, e9.2.2.2.1, e9.2.2.2.2]
    show kW G (k + 1) (n + 6) 386 [some (.ref 999), some (.ref 734), some (.ref 0), some (.ref 823), some (.int (nI i)), some (.int 0), none] [.int v] (kSc S2 sc2) (x_mk mr2 rf0) (kAr ar2 car2) (j_u2 al3 823 (iN 0) (if v = 0 then (0 : Int64) else 1))
    refine kl_istore hC rfl rfl rfl rfl rfl ?_
    refine kl_aload_n hC rfl rfl rfl ?_
    refine kl_call hC rfl kk_109 rfl rfl rfl kL_0 rfl rfl rfl hR1 (gW_mono (gW_ref (sc0 := fun _ _ => 0) ((rt_2 (X := gRX) gRX_LK rfl (rf := x_mk mr2 rf0) (x_mk_0 hrf0) (d := 169)) (fun _ _ => 0) ((j_u2 al3 823 (iN 0) (if v = 0 then (0 : Int64) else 1))) _ S2 ar2 (S2 0) S2 ar2 rfl ⟨rfl, rfl, rfl, rfl, rfl⟩)) (fun r9 s9 f9 a9 l9 e9 => ?_))
    rw [e9.1, e9.2.1, e9.2.2.1, e9.2.2.2.1, e9.2.2.2.2, e0]
    show kW G (k + 1) (n + 6) 392 [some (.ref 999), some (.ref 734), some (.ref 0), some (.ref 823), some (.int (nI i)), some (.int 0), some (.int v)] [.int 0] (kSc S2 sc2) (x_mk mr2 rf0) (kAr ar2 car2) (j_u2 al3 823 (iN 0) (if v = 0 then (0 : Int64) else 1))
    refine kl_iload hC rfl rfl rfl ?_
    refine kl_ic_eq hC rfl rfl rfl (fun _ => ?_) (fun c => absurd rfl c)
    refine kl_iload hC rfl rfl rfl ?_
    refine kl_if_ne hC rfl rfl rfl (fun _ => ?_) (fun c => absurd rfl c)
    refine kl_aload_n hC rfl rfl rfl ?_
    refine kl_iconst hC rfl ci_0 rfl ?_
    refine kl_laload hC rfl hO (by decide) k_o1 rfl ?_
    refine kl_iload hC rfl rfl rfl ?_
    refine kl_if_eq hC rfl rfl rfl (fun c1 => ?_) (fun c1 => ?_)
    · refine kl_lconst hC rfl rfl ?_
      refine kl_lcmp hC rfl rfl ?_
      refine kl_if_eq hC rfl rfl rfl (fun _ => ?_) (fun c => absurd ((lg_cmp_eq _ _).mpr (if_pos c1)) c)
      refine kl_goto hC rfl rfl ?_
      refine kW_weak (vs := [some (.ref 999), some (.ref 734), some (.ref 0), some (.ref 823), some (.int (nI i)), none, none]) ⟨rfl, rfl, rfl, rfl, rfl, trivial⟩ (K _ _ _ _ ⟨S2, ar2, sc2, car2, mr2, GR_al hG3 k_o2, rfl, rfl, rfl⟩)
    · refine kl_lconst hC rfl rfl ?_
      refine kl_goto hC rfl rfl ?_
      refine kl_lcmp hC rfl rfl ?_
      refine kl_if_eq hC rfl rfl rfl (fun _ => ?_) (fun c => absurd ((lg_cmp_eq _ _).mpr (if_neg c1)) c)
      refine kl_goto hC rfl rfl ?_
      refine kW_weak (vs := [some (.ref 999), some (.ref 734), some (.ref 0), some (.ref 823), some (.int (nI i)), none, none]) ⟨rfl, rfl, rfl, rfl, rfl, trivial⟩ (K _ _ _ _ ⟨S2, ar2, sc2, car2, mr2, GR_al hG3 k_o2, rfl, rfl, rfl⟩)
  · skip
    refine kl_aload_n hC rfl rfl rfl ?_
    refine kl_arg 1 hC hS9 rfl rfl rfl rfl rfl (by decide) rfl rfl rfl hi hL rfl ?_
    refine kl_aload_n hC rfl rfl rfl ?_
    refine kl_callH hC rfl kk_121 rfl rfl rfl rfl rfl hR0 hM (kMl_of hLt (fun l hl => kx_can_1 (l := l) hcat hl he)) ?_
    show kW G (k + 1) (n + 6) 374 [some (.ref 999), some (.ref 734), some (.ref 0), some (.ref 823), some (.int (nI i)), none, none] [.int 1] (kSc S scv) (x_mk mr rf0) (kAr arv carv) al
    refine kl_istore hC rfl rfl rfl rfl rfl ?_
    refine kl_aload_n hC rfl rfl rfl ?_
    refine kl_arg 1 hC hS9 rfl rfl rfl rfl rfl (by decide) rfl rfl rfl hi hL rfl ?_
    refine kl_call hC rfl kk_123 rfl rfl rfl kL_0 rfl rfl rfl hR1 (gW_mono (gW_ref (sc0 := fun _ _ => 0) ((rt_60 (X := gRX) gRX_LK rfl (rf := x_mk mr rf0) (x_mk_0 hrf0) (d := 168)) (fun _ _ => 0) (al) _ (xs (i + 1)) S arv v S2 ar2 e1 ⟨rfl, rfl, rfl, rfl, rfl⟩)) (fun r9 s9 f9 a9 l9 e9 => ?_))
    rw [e9.1, e9.2.1, e9.2.2.1, e9.2.2.2.1, e9.2.2.2.2]
    show kW G (k + 1) (n + 6) 386 [some (.ref 999), some (.ref 734), some (.ref 0), some (.ref 823), some (.int (nI i)), some (.int 1), none] [.int v] (kSc S2 scv) (x_mk mr rf0) (kAr ar2 carv) al
    refine kl_istore hC rfl rfl rfl rfl rfl ?_
    refine kl_aload_n hC rfl rfl rfl ?_
    refine kl_call hC rfl kk_109 rfl rfl rfl kL_0 rfl rfl rfl hR1 (gW_mono (gW_ref (sc0 := fun _ _ => 0) ((rt_2 (X := gRX) gRX_LK rfl (rf := x_mk mr rf0) (x_mk_0 hrf0) (d := 169)) (fun _ _ => 0) (al) _ S2 ar2 (S2 0) S2 ar2 rfl ⟨rfl, rfl, rfl, rfl, rfl⟩)) (fun r9 s9 f9 a9 l9 e9 => ?_))
    rw [e9.1, e9.2.1, e9.2.2.1, e9.2.2.2.1, e9.2.2.2.2, e0]
    show kW G (k + 1) (n + 6) 392 [some (.ref 999), some (.ref 734), some (.ref 0), some (.ref 823), some (.int (nI i)), some (.int 1), some (.int v)] [.int 1] (kSc S2 scv) (x_mk mr rf0) (kAr ar2 carv) al
    refine kl_iload hC rfl rfl rfl ?_
    refine kl_ic_eq hC rfl rfl rfl (fun _ => ?_) (fun c => absurd rfl c)
    refine kl_iload hC rfl rfl rfl ?_
    refine kl_if_ne hC rfl rfl rfl (fun c => absurd c (by decide)) (fun _ => ?_)
    refine kl_goto hC rfl rfl ?_
    refine kW_weak (vs := [some (.ref 999), some (.ref 734), some (.ref 0), some (.ref 823), some (.int (nI i)), none, none]) ⟨rfl, rfl, rfl, rfl, rfl, trivial⟩ (K _ _ _ _ ⟨S2, ar2, scv, carv, mr, hG2, rfl, rfl, rfl⟩)
set_option maxHeartbeats 4000000 in
theorem kc_5 {G : kG} {L k n i : Nat} {xs : Nat → Int32} {rf0 : jRf} {sc : jSc} {rf : jRf} {ar : jSc} {al : jAl} (hcat : kCatch) (hP : kPr G L xs) (hO : kL.1 823 = .inr (1, 1)) (hrf0 : rf0 0 = r_rf) (hi : i + 6 ≤ L) (hL : L ≤ 3072) (hR : kRm G 171 (k + 1) (n + 6)) (hJ : kJ rf0 sc rf ar al) (K : ∀ (sc' : jSc) (rf' : jRf) (ar' : jSc) (al' : jAl), kJ rf0 sc' rf' ar' al' → kW G (k + 1) (n + 6) 2131 [some (.ref 999), some (.ref 734), some (.ref 0), some (.ref 823), some (.int (nI i)), none, none] [] sc' rf' ar' al') : kW G k n 426 [some (.ref 999), some (.ref 734), some (.ref 0), some (.ref 823), some (.int (nI i)), none, none] [] sc rf ar al := by
  obtain ⟨hC, hS9, hM, hLt⟩ := hP
  obtain ⟨S, arv, scv, carv, mr, hG, rfl, rfl, rfl⟩ := hJ
  have hR1 := kRm_le (d' := 170) (k' := k + 1) (n' := n + 6) hR (by omega) (by omega) (by omega)
  have hR0 := kRm_le (d' := 171) (k' := k) (n' := n) hR (by omega) (by omega) (by omega)
  rcases d_come (rf0 := rf0) (x := (xs (i + 1))) hG with ⟨v, S2, ar2, sc2, mr2, car2, al2, e1, e0, e2, hG2⟩ | ⟨⟨v, S2, ar2, e1, e0, hG2⟩, he⟩
  · skip
    obtain ⟨al3, hcl, hG3⟩ : ∃ al3 : jAl, kCl 318 [.ref 734, .int (xs (i + 1))] (kSc S scv) (x_mk mr rf0) (kAr arv carv) al (some (.int v)) (kSc S sc2) (x_mk mr2 rf0) (kAr arv car2) al3 ∧ GR S2 ar2 sc2 car2 mr2 al3 := ⟨_, (gW_cls (fun a ha => x_mk_lt ha) ((xt_318 (b := false) (rf := rf0) (d := 164)) _ (xs (i + 1)) scv mr carv al v sc2 mr2 car2 al2 e2 ⟨rfl, rfl, rfl, rfl, rfl⟩)), GR_al hG2 (kAl_n (by decide))⟩
    refine kl_aload_n hC rfl rfl rfl ?_
    refine kl_arg 1 hC hS9 rfl rfl rfl rfl rfl (by decide) rfl rfl rfl hi hL rfl ?_
    refine kl_aload_n hC rfl rfl rfl ?_
    refine kl_callH hC rfl kk_124 rfl rfl rfl rfl rfl hR0 hM (kMl_of hLt (fun l hl => kh_come (l := l) hl hO hcl)) ?_
    show kW G (k + 1) (n + 6) 437 [some (.ref 999), some (.ref 734), some (.ref 0), some (.ref 823), some (.int (nI i)), none, none] [.int 0] (kSc S sc2) (x_mk mr2 rf0) (kAr arv car2) (j_u2 al3 823 (iN 0) v.toInt64)
    refine kl_istore hC rfl rfl rfl rfl rfl ?_
    refine kl_aload_n hC rfl rfl rfl ?_
    refine kl_arg 1 hC hS9 rfl rfl rfl rfl rfl (by decide) rfl rfl rfl hi hL rfl ?_
    refine kl_call hC rfl kk_126 rfl rfl rfl kL_0 rfl rfl rfl hR1 (gW_mono (gW_ref (sc0 := fun _ _ => 0) ((rt_61 (X := gRX) gRX_LK rfl (rf := x_mk mr2 rf0) (x_mk_0 hrf0) (d := 43)) (fun _ _ => 0) ((j_u2 al3 823 (iN 0) v.toInt64)) _ (xs (i + 1)) S arv v S2 ar2 e1 ⟨rfl, rfl, rfl, rfl, rfl⟩)) (fun r9 s9 f9 a9 l9 e9 => ?_))
    rw [e9.1, e9.2.1, e9.2.2.1, e9.2.2.2.1, e9.2.2.2.2]
    show kW G (k + 1) (n + 6) 449 [some (.ref 999), some (.ref 734), some (.ref 0), some (.ref 823), some (.int (nI i)), some (.int 0), none] [.int v] (kSc S2 sc2) (x_mk mr2 rf0) (kAr ar2 car2) (j_u2 al3 823 (iN 0) v.toInt64)
    refine kl_istore hC rfl rfl rfl rfl rfl ?_
    refine kl_aload_n hC rfl rfl rfl ?_
    refine kl_call hC rfl kk_109 rfl rfl rfl kL_0 rfl rfl rfl hR1 (gW_mono (gW_ref (sc0 := fun _ _ => 0) ((rt_2 (X := gRX) gRX_LK rfl (rf := x_mk mr2 rf0) (x_mk_0 hrf0) (d := 169)) (fun _ _ => 0) ((j_u2 al3 823 (iN 0) v.toInt64)) _ S2 ar2 (S2 0) S2 ar2 rfl ⟨rfl, rfl, rfl, rfl, rfl⟩)) (fun r9 s9 f9 a9 l9 e9 => ?_))
    rw [e9.1, e9.2.1, e9.2.2.1, e9.2.2.2.1, e9.2.2.2.2, e0]
    show kW G (k + 1) (n + 6) 455 [some (.ref 999), some (.ref 734), some (.ref 0), some (.ref 823), some (.int (nI i)), some (.int 0), some (.int v)] [.int 0] (kSc S2 sc2) (x_mk mr2 rf0) (kAr ar2 car2) (j_u2 al3 823 (iN 0) v.toInt64)
    refine kl_iload hC rfl rfl rfl ?_
    refine kl_ic_eq hC rfl rfl rfl (fun _ => ?_) (fun c => absurd rfl c)
    refine kl_iload hC rfl rfl rfl ?_
    refine kl_if_ne hC rfl rfl rfl (fun _ => ?_) (fun c => absurd rfl c)
    refine kl_aload_n hC rfl rfl rfl ?_
    refine kl_iconst hC rfl ci_0 rfl ?_
    refine kl_laload hC rfl hO (by decide) k_o1 rfl ?_
    refine kl_iload hC rfl rfl rfl ?_
    refine kl_i2l hC rfl rfl ?_
    refine kl_lcmp hC rfl rfl ?_
    refine kl_if_eq hC rfl rfl rfl (fun _ => ?_) (fun c => absurd ((lg_cmp_eq _ _).mpr rfl) c)
    refine kl_goto hC rfl rfl ?_
    refine kW_weak (vs := [some (.ref 999), some (.ref 734), some (.ref 0), some (.ref 823), some (.int (nI i)), none, none]) ⟨rfl, rfl, rfl, rfl, rfl, trivial⟩ (K _ _ _ _ ⟨S2, ar2, sc2, car2, mr2, GR_al hG3 k_o2, rfl, rfl, rfl⟩)
  · skip
    refine kl_aload_n hC rfl rfl rfl ?_
    refine kl_arg 1 hC hS9 rfl rfl rfl rfl rfl (by decide) rfl rfl rfl hi hL rfl ?_
    refine kl_aload_n hC rfl rfl rfl ?_
    refine kl_callH hC rfl kk_124 rfl rfl rfl rfl rfl hR0 hM (kMl_of hLt (fun l hl => kx_come_1 (l := l) hcat hl he)) ?_
    show kW G (k + 1) (n + 6) 437 [some (.ref 999), some (.ref 734), some (.ref 0), some (.ref 823), some (.int (nI i)), none, none] [.int 1] (kSc S scv) (x_mk mr rf0) (kAr arv carv) al
    refine kl_istore hC rfl rfl rfl rfl rfl ?_
    refine kl_aload_n hC rfl rfl rfl ?_
    refine kl_arg 1 hC hS9 rfl rfl rfl rfl rfl (by decide) rfl rfl rfl hi hL rfl ?_
    refine kl_call hC rfl kk_126 rfl rfl rfl kL_0 rfl rfl rfl hR1 (gW_mono (gW_ref (sc0 := fun _ _ => 0) ((rt_61 (X := gRX) gRX_LK rfl (rf := x_mk mr rf0) (x_mk_0 hrf0) (d := 43)) (fun _ _ => 0) (al) _ (xs (i + 1)) S arv v S2 ar2 e1 ⟨rfl, rfl, rfl, rfl, rfl⟩)) (fun r9 s9 f9 a9 l9 e9 => ?_))
    rw [e9.1, e9.2.1, e9.2.2.1, e9.2.2.2.1, e9.2.2.2.2]
    show kW G (k + 1) (n + 6) 449 [some (.ref 999), some (.ref 734), some (.ref 0), some (.ref 823), some (.int (nI i)), some (.int 1), none] [.int v] (kSc S2 scv) (x_mk mr rf0) (kAr ar2 carv) al
    refine kl_istore hC rfl rfl rfl rfl rfl ?_
    refine kl_aload_n hC rfl rfl rfl ?_
    refine kl_call hC rfl kk_109 rfl rfl rfl kL_0 rfl rfl rfl hR1 (gW_mono (gW_ref (sc0 := fun _ _ => 0) ((rt_2 (X := gRX) gRX_LK rfl (rf := x_mk mr rf0) (x_mk_0 hrf0) (d := 169)) (fun _ _ => 0) (al) _ S2 ar2 (S2 0) S2 ar2 rfl ⟨rfl, rfl, rfl, rfl, rfl⟩)) (fun r9 s9 f9 a9 l9 e9 => ?_))
    rw [e9.1, e9.2.1, e9.2.2.1, e9.2.2.2.1, e9.2.2.2.2, e0]
    show kW G (k + 1) (n + 6) 455 [some (.ref 999), some (.ref 734), some (.ref 0), some (.ref 823), some (.int (nI i)), some (.int 1), some (.int v)] [.int 1] (kSc S2 scv) (x_mk mr rf0) (kAr ar2 carv) al
    refine kl_iload hC rfl rfl rfl ?_
    refine kl_ic_eq hC rfl rfl rfl (fun _ => ?_) (fun c => absurd rfl c)
    refine kl_iload hC rfl rfl rfl ?_
    refine kl_if_ne hC rfl rfl rfl (fun c => absurd c (by decide)) (fun _ => ?_)
    refine kl_goto hC rfl rfl ?_
    refine kW_weak (vs := [some (.ref 999), some (.ref 734), some (.ref 0), some (.ref 823), some (.int (nI i)), none, none]) ⟨rfl, rfl, rfl, rfl, rfl, trivial⟩ (K _ _ _ _ ⟨S2, ar2, scv, carv, mr, hG2, rfl, rfl, rfl⟩)
set_option maxHeartbeats 4000000 in
theorem kc_6 {G : kG} {L k n i : Nat} {xs : Nat → Int32} {rf0 : jRf} {sc : jSc} {rf : jRf} {ar : jSc} {al : jAl} (hcat : kCatch) (hP : kPr G L xs) (hO : kL.1 823 = .inr (1, 1)) (hrf0 : rf0 0 = r_rf) (hi : i + 6 ≤ L) (hL : L ≤ 3072) (hR : kRm G 171 (k + 1) (n + 6)) (hJ : kJ rf0 sc rf ar al) (K : ∀ (sc' : jSc) (rf' : jRf) (ar' : jSc) (al' : jAl), kJ rf0 sc' rf' ar' al' → kW G (k + 1) (n + 6) 2131 [some (.ref 999), some (.ref 734), some (.ref 0), some (.ref 823), some (.int (nI i)), none, none] [] sc' rf' ar' al') : kW G k n 482 [some (.ref 999), some (.ref 734), some (.ref 0), some (.ref 823), some (.int (nI i)), none, none] [] sc rf ar al := by
  obtain ⟨hC, hS9, hM, hLt⟩ := hP
  obtain ⟨S, arv, scv, carv, mr, hG, rfl, rfl, rfl⟩ := hJ
  have hR1 := kRm_le (d' := 170) (k' := k + 1) (n' := n + 6) hR (by omega) (by omega) (by omega)
  have hR0 := kRm_le (d' := 171) (k' := k) (n' := n) hR (by omega) (by omega) (by omega)
  rcases d_name (rf0 := rf0) (x := (xs (i + 1))) hG with ⟨v, S2, ar2, sc2, mr2, car2, al2, e1, e0, e2, hG2⟩ | ⟨⟨v, S2, ar2, e1, e0, hG2⟩, he⟩
  · skip
    obtain ⟨al3, hcl, hG3⟩ : ∃ al3 : jAl, kCl 319 [.ref 734, .int (xs (i + 1))] (kSc S scv) (x_mk mr rf0) (kAr arv carv) al (some (.int v)) (kSc S sc2) (x_mk mr2 rf0) (kAr arv car2) al3 ∧ GR S2 ar2 sc2 car2 mr2 al3 := ⟨_, (gW_cls (fun a ha => x_mk_lt ha) ((xt_319 (b := false) (rf := rf0) (d := 168)) _ (xs (i + 1)) scv mr carv al v sc2 mr2 car2 al2 e2 ⟨rfl, rfl, rfl, rfl, rfl⟩)), GR_al hG2 (kAl_n (by decide))⟩
    refine kl_aload_n hC rfl rfl rfl ?_
    refine kl_arg 1 hC hS9 rfl rfl rfl rfl rfl (by decide) rfl rfl rfl hi hL rfl ?_
    refine kl_aload_n hC rfl rfl rfl ?_
    refine kl_callH hC rfl kk_127 rfl rfl rfl rfl rfl hR0 hM (kMl_of hLt (fun l hl => kh_name (l := l) hl hO hcl)) ?_
    show kW G (k + 1) (n + 6) 493 [some (.ref 999), some (.ref 734), some (.ref 0), some (.ref 823), some (.int (nI i)), none, none] [.int 0] (kSc S sc2) (x_mk mr2 rf0) (kAr arv car2) (j_u2 al3 823 (iN 0) v.toInt64)
    refine kl_istore hC rfl rfl rfl rfl rfl ?_
    refine kl_aload_n hC rfl rfl rfl ?_
    refine kl_arg 1 hC hS9 rfl rfl rfl rfl rfl (by decide) rfl rfl rfl hi hL rfl ?_
    refine kl_call hC rfl kk_129 rfl rfl rfl kL_0 rfl rfl rfl hR1 (gW_mono (gW_ref (sc0 := fun _ _ => 0) ((rt_62 (X := gRX) gRX_LK rfl (rf := x_mk mr2 rf0) (x_mk_0 hrf0) (d := 168)) (fun _ _ => 0) ((j_u2 al3 823 (iN 0) v.toInt64)) _ (xs (i + 1)) S arv v S2 ar2 e1 ⟨rfl, rfl, rfl, rfl, rfl⟩)) (fun r9 s9 f9 a9 l9 e9 => ?_))
    rw [e9.1, e9.2.1, e9.2.2.1, e9.2.2.2.1, e9.2.2.2.2]
    show kW G (k + 1) (n + 6) 505 [some (.ref 999), some (.ref 734), some (.ref 0), some (.ref 823), some (.int (nI i)), some (.int 0), none] [.int v] (kSc S2 sc2) (x_mk mr2 rf0) (kAr ar2 car2) (j_u2 al3 823 (iN 0) v.toInt64)
    refine kl_istore hC rfl rfl rfl rfl rfl ?_
    refine kl_aload_n hC rfl rfl rfl ?_
    refine kl_call hC rfl kk_109 rfl rfl rfl kL_0 rfl rfl rfl hR1 (gW_mono (gW_ref (sc0 := fun _ _ => 0) ((rt_2 (X := gRX) gRX_LK rfl (rf := x_mk mr2 rf0) (x_mk_0 hrf0) (d := 169)) (fun _ _ => 0) ((j_u2 al3 823 (iN 0) v.toInt64)) _ S2 ar2 (S2 0) S2 ar2 rfl ⟨rfl, rfl, rfl, rfl, rfl⟩)) (fun r9 s9 f9 a9 l9 e9 => ?_))
    rw [e9.1, e9.2.1, e9.2.2.1, e9.2.2.2.1, e9.2.2.2.2, e0]
    show kW G (k + 1) (n + 6) 511 [some (.ref 999), some (.ref 734), some (.ref 0), some (.ref 823), some (.int (nI i)), some (.int 0), some (.int v)] [.int 0] (kSc S2 sc2) (x_mk mr2 rf0) (kAr ar2 car2) (j_u2 al3 823 (iN 0) v.toInt64)
    refine kl_iload hC rfl rfl rfl ?_
    refine kl_ic_eq hC rfl rfl rfl (fun _ => ?_) (fun c => absurd rfl c)
    refine kl_iload hC rfl rfl rfl ?_
    refine kl_if_ne hC rfl rfl rfl (fun _ => ?_) (fun c => absurd rfl c)
    refine kl_aload_n hC rfl rfl rfl ?_
    refine kl_iconst hC rfl ci_0 rfl ?_
    refine kl_laload hC rfl hO (by decide) k_o1 rfl ?_
    refine kl_iload hC rfl rfl rfl ?_
    refine kl_i2l hC rfl rfl ?_
    refine kl_lcmp hC rfl rfl ?_
    refine kl_if_eq hC rfl rfl rfl (fun _ => ?_) (fun c => absurd ((lg_cmp_eq _ _).mpr rfl) c)
    refine kl_goto hC rfl rfl ?_
    refine kW_weak (vs := [some (.ref 999), some (.ref 734), some (.ref 0), some (.ref 823), some (.int (nI i)), none, none]) ⟨rfl, rfl, rfl, rfl, rfl, trivial⟩ (K _ _ _ _ ⟨S2, ar2, sc2, car2, mr2, GR_al hG3 k_o2, rfl, rfl, rfl⟩)
  · skip
    refine kl_aload_n hC rfl rfl rfl ?_
    refine kl_arg 1 hC hS9 rfl rfl rfl rfl rfl (by decide) rfl rfl rfl hi hL rfl ?_
    refine kl_aload_n hC rfl rfl rfl ?_
    refine kl_callH hC rfl kk_127 rfl rfl rfl rfl rfl hR0 hM (kMl_of hLt (fun l hl => kx_name_1 (l := l) hcat hl he)) ?_
    show kW G (k + 1) (n + 6) 493 [some (.ref 999), some (.ref 734), some (.ref 0), some (.ref 823), some (.int (nI i)), none, none] [.int 1] (kSc S scv) (x_mk mr rf0) (kAr arv carv) al
    refine kl_istore hC rfl rfl rfl rfl rfl ?_
    refine kl_aload_n hC rfl rfl rfl ?_
    refine kl_arg 1 hC hS9 rfl rfl rfl rfl rfl (by decide) rfl rfl rfl hi hL rfl ?_
    refine kl_call hC rfl kk_129 rfl rfl rfl kL_0 rfl rfl rfl hR1 (gW_mono (gW_ref (sc0 := fun _ _ => 0) ((rt_62 (X := gRX) gRX_LK rfl (rf := x_mk mr rf0) (x_mk_0 hrf0) (d := 168)) (fun _ _ => 0) (al) _ (xs (i + 1)) S arv v S2 ar2 e1 ⟨rfl, rfl, rfl, rfl, rfl⟩)) (fun r9 s9 f9 a9 l9 e9 => ?_))
    rw [e9.1, e9.2.1, e9.2.2.1, e9.2.2.2.1, e9.2.2.2.2]
    show kW G (k + 1) (n + 6) 505 [some (.ref 999), some (.ref 734), some (.ref 0), some (.ref 823), some (.int (nI i)), some (.int 1), none] [.int v] (kSc S2 scv) (x_mk mr rf0) (kAr ar2 carv) al
    refine kl_istore hC rfl rfl rfl rfl rfl ?_
    refine kl_aload_n hC rfl rfl rfl ?_
    refine kl_call hC rfl kk_109 rfl rfl rfl kL_0 rfl rfl rfl hR1 (gW_mono (gW_ref (sc0 := fun _ _ => 0) ((rt_2 (X := gRX) gRX_LK rfl (rf := x_mk mr rf0) (x_mk_0 hrf0) (d := 169)) (fun _ _ => 0) (al) _ S2 ar2 (S2 0) S2 ar2 rfl ⟨rfl, rfl, rfl, rfl, rfl⟩)) (fun r9 s9 f9 a9 l9 e9 => ?_))
    rw [e9.1, e9.2.1, e9.2.2.1, e9.2.2.2.1, e9.2.2.2.2, e0]
    show kW G (k + 1) (n + 6) 511 [some (.ref 999), some (.ref 734), some (.ref 0), some (.ref 823), some (.int (nI i)), some (.int 1), some (.int v)] [.int 1] (kSc S2 scv) (x_mk mr rf0) (kAr ar2 carv) al
    refine kl_iload hC rfl rfl rfl ?_
    refine kl_ic_eq hC rfl rfl rfl (fun _ => ?_) (fun c => absurd rfl c)
    refine kl_iload hC rfl rfl rfl ?_
    refine kl_if_ne hC rfl rfl rfl (fun c => absurd c (by decide)) (fun _ => ?_)
    refine kl_goto hC rfl rfl ?_
    refine kW_weak (vs := [some (.ref 999), some (.ref 734), some (.ref 0), some (.ref 823), some (.int (nI i)), none, none]) ⟨rfl, rfl, rfl, rfl, rfl, trivial⟩ (K _ _ _ _ ⟨S2, ar2, scv, carv, mr, hG2, rfl, rfl, rfl⟩)
set_option maxHeartbeats 4000000 in
theorem kc_7 {G : kG} {L k n i : Nat} {xs : Nat → Int32} {rf0 : jRf} {sc : jSc} {rf : jRf} {ar : jSc} {al : jAl} (hcat : kCatch) (hP : kPr G L xs) (hO : kL.1 823 = .inr (1, 1)) (hrf0 : rf0 0 = r_rf) (hi : i + 6 ≤ L) (hL : L ≤ 3072) (hR : kRm G 171 (k + 1) (n + 6)) (hJ : kJ rf0 sc rf ar al) (K : ∀ (sc' : jSc) (rf' : jRf) (ar' : jSc) (al' : jAl), kJ rf0 sc' rf' ar' al' → kW G (k + 1) (n + 6) 2131 [some (.ref 999), some (.ref 734), some (.ref 0), some (.ref 823), some (.int (nI i)), none, none] [] sc' rf' ar' al') : kW G k n 538 [some (.ref 999), some (.ref 734), some (.ref 0), some (.ref 823), some (.int (nI i)), none, none] [] sc rf ar al := by
  obtain ⟨hC, hS9, hM, hLt⟩ := hP
  obtain ⟨S, arv, scv, carv, mr, hG, rfl, rfl, rfl⟩ := hJ
  have hR1 := kRm_le (d' := 170) (k' := k + 1) (n' := n + 6) hR (by omega) (by omega) (by omega)
  have hR0 := kRm_le (d' := 171) (k' := k) (n' := n) hR (by omega) (by omega) (by omega)
  rcases d_thing (rf0 := rf0) (x := (xs (i + 1))) hG with ⟨v, S2, ar2, sc2, mr2, car2, al2, e1, e0, e2, hG2⟩ | ⟨⟨v, S2, ar2, e1, e0, hG2⟩, he⟩
  · skip
    obtain ⟨al3, hcl, hG3⟩ : ∃ al3 : jAl, kCl 320 [.ref 734, .int (xs (i + 1))] (kSc S scv) (x_mk mr rf0) (kAr arv carv) al (some (.int v)) (kSc S sc2) (x_mk mr2 rf0) (kAr arv car2) al3 ∧ GR S2 ar2 sc2 car2 mr2 al3 := ⟨_, (gW_cls (fun a ha => x_mk_lt ha) ((xt_320 (b := false) (rf := rf0) (d := 168)) _ (xs (i + 1)) scv mr carv al v sc2 mr2 car2 al2 e2 ⟨rfl, rfl, rfl, rfl, rfl⟩)), GR_al hG2 (kAl_n (by decide))⟩
    refine kl_aload_n hC rfl rfl rfl ?_
    refine kl_arg 1 hC hS9 rfl rfl rfl rfl rfl (by decide) rfl rfl rfl hi hL rfl ?_
    refine kl_aload_n hC rfl rfl rfl ?_
    refine kl_callH hC rfl kk_130 rfl rfl rfl rfl rfl hR0 hM (kMl_of hLt (fun l hl => kh_thing (l := l) hl hO hcl)) ?_
    show kW G (k + 1) (n + 6) 549 [some (.ref 999), some (.ref 734), some (.ref 0), some (.ref 823), some (.int (nI i)), none, none] [.int 0] (kSc S sc2) (x_mk mr2 rf0) (kAr arv car2) (j_u2 al3 823 (iN 0) v.toInt64)
    refine kl_istore hC rfl rfl rfl rfl rfl ?_
    refine kl_aload_n hC rfl rfl rfl ?_
    refine kl_arg 1 hC hS9 rfl rfl rfl rfl rfl (by decide) rfl rfl rfl hi hL rfl ?_
    refine kl_call hC rfl kk_132 rfl rfl rfl kL_0 rfl rfl rfl hR1 (gW_mono (gW_ref (sc0 := fun _ _ => 0) ((rt_63 (X := gRX) gRX_LK rfl (rf := x_mk mr2 rf0) (x_mk_0 hrf0) (d := 168)) (fun _ _ => 0) ((j_u2 al3 823 (iN 0) v.toInt64)) _ (xs (i + 1)) S arv v S2 ar2 e1 ⟨rfl, rfl, rfl, rfl, rfl⟩)) (fun r9 s9 f9 a9 l9 e9 => ?_))
    rw [e9.1, e9.2.1, e9.2.2.1, e9.2.2.2.1, e9.2.2.2.2]
    show kW G (k + 1) (n + 6) 561 [some (.ref 999), some (.ref 734), some (.ref 0), some (.ref 823), some (.int (nI i)), some (.int 0), none] [.int v] (kSc S2 sc2) (x_mk mr2 rf0) (kAr ar2 car2) (j_u2 al3 823 (iN 0) v.toInt64)
    refine kl_istore hC rfl rfl rfl rfl rfl ?_
    refine kl_aload_n hC rfl rfl rfl ?_
    refine kl_call hC rfl kk_109 rfl rfl rfl kL_0 rfl rfl rfl hR1 (gW_mono (gW_ref (sc0 := fun _ _ => 0) ((rt_2 (X := gRX) gRX_LK rfl (rf := x_mk mr2 rf0) (x_mk_0 hrf0) (d := 169)) (fun _ _ => 0) ((j_u2 al3 823 (iN 0) v.toInt64)) _ S2 ar2 (S2 0) S2 ar2 rfl ⟨rfl, rfl, rfl, rfl, rfl⟩)) (fun r9 s9 f9 a9 l9 e9 => ?_))
    rw [e9.1, e9.2.1, e9.2.2.1, e9.2.2.2.1, e9.2.2.2.2, e0]
    show kW G (k + 1) (n + 6) 567 [some (.ref 999), some (.ref 734), some (.ref 0), some (.ref 823), some (.int (nI i)), some (.int 0), some (.int v)] [.int 0] (kSc S2 sc2) (x_mk mr2 rf0) (kAr ar2 car2) (j_u2 al3 823 (iN 0) v.toInt64)
    refine kl_iload hC rfl rfl rfl ?_
    refine kl_ic_eq hC rfl rfl rfl (fun _ => ?_) (fun c => absurd rfl c)
    refine kl_iload hC rfl rfl rfl ?_
    refine kl_if_ne hC rfl rfl rfl (fun _ => ?_) (fun c => absurd rfl c)
    refine kl_aload_n hC rfl rfl rfl ?_
    refine kl_iconst hC rfl ci_0 rfl ?_
    refine kl_laload hC rfl hO (by decide) k_o1 rfl ?_
    refine kl_iload hC rfl rfl rfl ?_
    refine kl_i2l hC rfl rfl ?_
    refine kl_lcmp hC rfl rfl ?_
    refine kl_if_eq hC rfl rfl rfl (fun _ => ?_) (fun c => absurd ((lg_cmp_eq _ _).mpr rfl) c)
    refine kl_goto hC rfl rfl ?_
    refine kW_weak (vs := [some (.ref 999), some (.ref 734), some (.ref 0), some (.ref 823), some (.int (nI i)), none, none]) ⟨rfl, rfl, rfl, rfl, rfl, trivial⟩ (K _ _ _ _ ⟨S2, ar2, sc2, car2, mr2, GR_al hG3 k_o2, rfl, rfl, rfl⟩)
  · skip
    refine kl_aload_n hC rfl rfl rfl ?_
    refine kl_arg 1 hC hS9 rfl rfl rfl rfl rfl (by decide) rfl rfl rfl hi hL rfl ?_
    refine kl_aload_n hC rfl rfl rfl ?_
    refine kl_callH hC rfl kk_130 rfl rfl rfl rfl rfl hR0 hM (kMl_of hLt (fun l hl => kx_thing_1 (l := l) hcat hl he)) ?_
    show kW G (k + 1) (n + 6) 549 [some (.ref 999), some (.ref 734), some (.ref 0), some (.ref 823), some (.int (nI i)), none, none] [.int 1] (kSc S scv) (x_mk mr rf0) (kAr arv carv) al
    refine kl_istore hC rfl rfl rfl rfl rfl ?_
    refine kl_aload_n hC rfl rfl rfl ?_
    refine kl_arg 1 hC hS9 rfl rfl rfl rfl rfl (by decide) rfl rfl rfl hi hL rfl ?_
    refine kl_call hC rfl kk_132 rfl rfl rfl kL_0 rfl rfl rfl hR1 (gW_mono (gW_ref (sc0 := fun _ _ => 0) ((rt_63 (X := gRX) gRX_LK rfl (rf := x_mk mr rf0) (x_mk_0 hrf0) (d := 168)) (fun _ _ => 0) (al) _ (xs (i + 1)) S arv v S2 ar2 e1 ⟨rfl, rfl, rfl, rfl, rfl⟩)) (fun r9 s9 f9 a9 l9 e9 => ?_))
    rw [e9.1, e9.2.1, e9.2.2.1, e9.2.2.2.1, e9.2.2.2.2]
    show kW G (k + 1) (n + 6) 561 [some (.ref 999), some (.ref 734), some (.ref 0), some (.ref 823), some (.int (nI i)), some (.int 1), none] [.int v] (kSc S2 scv) (x_mk mr rf0) (kAr ar2 carv) al
    refine kl_istore hC rfl rfl rfl rfl rfl ?_
    refine kl_aload_n hC rfl rfl rfl ?_
    refine kl_call hC rfl kk_109 rfl rfl rfl kL_0 rfl rfl rfl hR1 (gW_mono (gW_ref (sc0 := fun _ _ => 0) ((rt_2 (X := gRX) gRX_LK rfl (rf := x_mk mr rf0) (x_mk_0 hrf0) (d := 169)) (fun _ _ => 0) (al) _ S2 ar2 (S2 0) S2 ar2 rfl ⟨rfl, rfl, rfl, rfl, rfl⟩)) (fun r9 s9 f9 a9 l9 e9 => ?_))
    rw [e9.1, e9.2.1, e9.2.2.1, e9.2.2.2.1, e9.2.2.2.2, e0]
    show kW G (k + 1) (n + 6) 567 [some (.ref 999), some (.ref 734), some (.ref 0), some (.ref 823), some (.int (nI i)), some (.int 1), some (.int v)] [.int 1] (kSc S2 scv) (x_mk mr rf0) (kAr ar2 carv) al
    refine kl_iload hC rfl rfl rfl ?_
    refine kl_ic_eq hC rfl rfl rfl (fun _ => ?_) (fun c => absurd rfl c)
    refine kl_iload hC rfl rfl rfl ?_
    refine kl_if_ne hC rfl rfl rfl (fun c => absurd c (by decide)) (fun _ => ?_)
    refine kl_goto hC rfl rfl ?_
    refine kW_weak (vs := [some (.ref 999), some (.ref 734), some (.ref 0), some (.ref 823), some (.int (nI i)), none, none]) ⟨rfl, rfl, rfl, rfl, rfl, trivial⟩ (K _ _ _ _ ⟨S2, ar2, scv, carv, mr, hG2, rfl, rfl, rfl⟩)
set_option maxHeartbeats 4000000 in
theorem kc_8 {G : kG} {L k n i : Nat} {xs : Nat → Int32} {rf0 : jRf} {sc : jSc} {rf : jRf} {ar : jSc} {al : jAl} (hcat : kCatch) (hP : kPr G L xs) (hO : kL.1 823 = .inr (1, 1)) (hrf0 : rf0 0 = r_rf) (hi : i + 6 ≤ L) (hL : L ≤ 3072) (hR : kRm G 171 (k + 1) (n + 6)) (hJ : kJ rf0 sc rf ar al) (K : ∀ (sc' : jSc) (rf' : jRf) (ar' : jSc) (al' : jAl), kJ rf0 sc' rf' ar' al' → kW G (k + 1) (n + 6) 2131 [some (.ref 999), some (.ref 734), some (.ref 0), some (.ref 823), some (.int (nI i)), none, none] [] sc' rf' ar' al') : kW G k n 594 [some (.ref 999), some (.ref 734), some (.ref 0), some (.ref 823), some (.int (nI i)), none, none] [] sc rf ar al := by
  obtain ⟨hC, hS9, hM, hLt⟩ := hP
  obtain ⟨S, arv, scv, carv, mr, hG, rfl, rfl, rfl⟩ := hJ
  have hR1 := kRm_le (d' := 170) (k' := k + 1) (n' := n + 6) hR (by omega) (by omega) (by omega)
  have hR0 := kRm_le (d' := 171) (k' := k) (n' := n) hR (by omega) (by omega) (by omega)
  rcases d_far (rf0 := rf0) (x := (xs (i + 1))) hG with ⟨v, S2, ar2, sc2, mr2, car2, al2, e1, e0, e2, hG2⟩ | ⟨⟨v, S2, ar2, e1, e0, hG2⟩, he⟩
  · skip
    obtain ⟨al3, hcl, hG3⟩ : ∃ al3 : jAl, kCl 321 [.ref 734, .int (xs (i + 1))] (kSc S scv) (x_mk mr rf0) (kAr arv carv) al (some (.int v)) (kSc S sc2) (x_mk mr2 rf0) (kAr arv car2) al3 ∧ GR S2 ar2 sc2 car2 mr2 al3 := ⟨_, (gW_cls (fun a ha => x_mk_lt ha) ((xt_321 (b := false) (rf := rf0) (d := 168)) _ (xs (i + 1)) scv mr carv al v sc2 mr2 car2 al2 e2 ⟨rfl, rfl, rfl, rfl, rfl⟩)), GR_al hG2 (kAl_n (by decide))⟩
    refine kl_aload_n hC rfl rfl rfl ?_
    refine kl_arg 1 hC hS9 rfl rfl rfl rfl rfl (by decide) rfl rfl rfl hi hL rfl ?_
    refine kl_aload_n hC rfl rfl rfl ?_
    refine kl_callH hC rfl kk_133 rfl rfl rfl rfl rfl hR0 hM (kMl_of hLt (fun l hl => kh_far (l := l) hl hO hcl)) ?_
    show kW G (k + 1) (n + 6) 605 [some (.ref 999), some (.ref 734), some (.ref 0), some (.ref 823), some (.int (nI i)), none, none] [.int 0] (kSc S sc2) (x_mk mr2 rf0) (kAr arv car2) (j_u2 al3 823 (iN 0) v.toInt64)
    refine kl_istore hC rfl rfl rfl rfl rfl ?_
    refine kl_aload_n hC rfl rfl rfl ?_
    refine kl_arg 1 hC hS9 rfl rfl rfl rfl rfl (by decide) rfl rfl rfl hi hL rfl ?_
    refine kl_call hC rfl kk_135 rfl rfl rfl kL_0 rfl rfl rfl hR1 (gW_mono (gW_ref (sc0 := fun _ _ => 0) ((rt_64 (X := gRX) gRX_LK rfl (rf := x_mk mr2 rf0) (x_mk_0 hrf0) (d := 168)) (fun _ _ => 0) ((j_u2 al3 823 (iN 0) v.toInt64)) _ (xs (i + 1)) S arv v S2 ar2 e1 ⟨rfl, rfl, rfl, rfl, rfl⟩)) (fun r9 s9 f9 a9 l9 e9 => ?_))
    rw [e9.1, e9.2.1, e9.2.2.1, e9.2.2.2.1, e9.2.2.2.2]
    show kW G (k + 1) (n + 6) 617 [some (.ref 999), some (.ref 734), some (.ref 0), some (.ref 823), some (.int (nI i)), some (.int 0), none] [.int v] (kSc S2 sc2) (x_mk mr2 rf0) (kAr ar2 car2) (j_u2 al3 823 (iN 0) v.toInt64)
    refine kl_istore hC rfl rfl rfl rfl rfl ?_
    refine kl_aload_n hC rfl rfl rfl ?_
    refine kl_call hC rfl kk_109 rfl rfl rfl kL_0 rfl rfl rfl hR1 (gW_mono (gW_ref (sc0 := fun _ _ => 0) ((rt_2 (X := gRX) gRX_LK rfl (rf := x_mk mr2 rf0) (x_mk_0 hrf0) (d := 169)) (fun _ _ => 0) ((j_u2 al3 823 (iN 0) v.toInt64)) _ S2 ar2 (S2 0) S2 ar2 rfl ⟨rfl, rfl, rfl, rfl, rfl⟩)) (fun r9 s9 f9 a9 l9 e9 => ?_))
    rw [e9.1, e9.2.1, e9.2.2.1, e9.2.2.2.1, e9.2.2.2.2, e0]
    show kW G (k + 1) (n + 6) 623 [some (.ref 999), some (.ref 734), some (.ref 0), some (.ref 823), some (.int (nI i)), some (.int 0), some (.int v)] [.int 0] (kSc S2 sc2) (x_mk mr2 rf0) (kAr ar2 car2) (j_u2 al3 823 (iN 0) v.toInt64)
    refine kl_iload hC rfl rfl rfl ?_
    refine kl_ic_eq hC rfl rfl rfl (fun _ => ?_) (fun c => absurd rfl c)
    refine kl_iload hC rfl rfl rfl ?_
    refine kl_if_ne hC rfl rfl rfl (fun _ => ?_) (fun c => absurd rfl c)
    refine kl_aload_n hC rfl rfl rfl ?_
    refine kl_iconst hC rfl ci_0 rfl ?_
    refine kl_laload hC rfl hO (by decide) k_o1 rfl ?_
    refine kl_iload hC rfl rfl rfl ?_
    refine kl_i2l hC rfl rfl ?_
    refine kl_lcmp hC rfl rfl ?_
    refine kl_if_eq hC rfl rfl rfl (fun _ => ?_) (fun c => absurd ((lg_cmp_eq _ _).mpr rfl) c)
    refine kl_goto hC rfl rfl ?_
    refine kW_weak (vs := [some (.ref 999), some (.ref 734), some (.ref 0), some (.ref 823), some (.int (nI i)), none, none]) ⟨rfl, rfl, rfl, rfl, rfl, trivial⟩ (K _ _ _ _ ⟨S2, ar2, sc2, car2, mr2, GR_al hG3 k_o2, rfl, rfl, rfl⟩)
  · skip
    refine kl_aload_n hC rfl rfl rfl ?_
    refine kl_arg 1 hC hS9 rfl rfl rfl rfl rfl (by decide) rfl rfl rfl hi hL rfl ?_
    refine kl_aload_n hC rfl rfl rfl ?_
    refine kl_callH hC rfl kk_133 rfl rfl rfl rfl rfl hR0 hM (kMl_of hLt (fun l hl => kx_far_1 (l := l) hcat hl he)) ?_
    show kW G (k + 1) (n + 6) 605 [some (.ref 999), some (.ref 734), some (.ref 0), some (.ref 823), some (.int (nI i)), none, none] [.int 1] (kSc S scv) (x_mk mr rf0) (kAr arv carv) al
    refine kl_istore hC rfl rfl rfl rfl rfl ?_
    refine kl_aload_n hC rfl rfl rfl ?_
    refine kl_arg 1 hC hS9 rfl rfl rfl rfl rfl (by decide) rfl rfl rfl hi hL rfl ?_
    refine kl_call hC rfl kk_135 rfl rfl rfl kL_0 rfl rfl rfl hR1 (gW_mono (gW_ref (sc0 := fun _ _ => 0) ((rt_64 (X := gRX) gRX_LK rfl (rf := x_mk mr rf0) (x_mk_0 hrf0) (d := 168)) (fun _ _ => 0) (al) _ (xs (i + 1)) S arv v S2 ar2 e1 ⟨rfl, rfl, rfl, rfl, rfl⟩)) (fun r9 s9 f9 a9 l9 e9 => ?_))
    rw [e9.1, e9.2.1, e9.2.2.1, e9.2.2.2.1, e9.2.2.2.2]
    show kW G (k + 1) (n + 6) 617 [some (.ref 999), some (.ref 734), some (.ref 0), some (.ref 823), some (.int (nI i)), some (.int 1), none] [.int v] (kSc S2 scv) (x_mk mr rf0) (kAr ar2 carv) al
    refine kl_istore hC rfl rfl rfl rfl rfl ?_
    refine kl_aload_n hC rfl rfl rfl ?_
    refine kl_call hC rfl kk_109 rfl rfl rfl kL_0 rfl rfl rfl hR1 (gW_mono (gW_ref (sc0 := fun _ _ => 0) ((rt_2 (X := gRX) gRX_LK rfl (rf := x_mk mr rf0) (x_mk_0 hrf0) (d := 169)) (fun _ _ => 0) (al) _ S2 ar2 (S2 0) S2 ar2 rfl ⟨rfl, rfl, rfl, rfl, rfl⟩)) (fun r9 s9 f9 a9 l9 e9 => ?_))
    rw [e9.1, e9.2.1, e9.2.2.1, e9.2.2.2.1, e9.2.2.2.2, e0]
    show kW G (k + 1) (n + 6) 623 [some (.ref 999), some (.ref 734), some (.ref 0), some (.ref 823), some (.int (nI i)), some (.int 1), some (.int v)] [.int 1] (kSc S2 scv) (x_mk mr rf0) (kAr ar2 carv) al
    refine kl_iload hC rfl rfl rfl ?_
    refine kl_ic_eq hC rfl rfl rfl (fun _ => ?_) (fun c => absurd rfl c)
    refine kl_iload hC rfl rfl rfl ?_
    refine kl_if_ne hC rfl rfl rfl (fun c => absurd c (by decide)) (fun _ => ?_)
    refine kl_goto hC rfl rfl ?_
    refine kW_weak (vs := [some (.ref 999), some (.ref 734), some (.ref 0), some (.ref 823), some (.int (nI i)), none, none]) ⟨rfl, rfl, rfl, rfl, rfl, trivial⟩ (K _ _ _ _ ⟨S2, ar2, scv, carv, mr, hG2, rfl, rfl, rfl⟩)
set_option maxHeartbeats 4000000 in
theorem kc_9 {G : kG} {L k n i : Nat} {xs : Nat → Int32} {rf0 : jRf} {sc : jSc} {rf : jRf} {ar : jSc} {al : jAl} (hcat : kCatch) (hP : kPr G L xs) (hO : kL.1 823 = .inr (1, 1)) (hrf0 : rf0 0 = r_rf) (hi : i + 6 ≤ L) (hL : L ≤ 3072) (hR : kRm G 171 (k + 1) (n + 6)) (hJ : kJ rf0 sc rf ar al) (K : ∀ (sc' : jSc) (rf' : jRf) (ar' : jSc) (al' : jAl), kJ rf0 sc' rf' ar' al' → kW G (k + 1) (n + 6) 2131 [some (.ref 999), some (.ref 734), some (.ref 0), some (.ref 823), some (.int (nI i)), none, none] [] sc' rf' ar' al') : kW G k n 650 [some (.ref 999), some (.ref 734), some (.ref 0), some (.ref 823), some (.int (nI i)), none, none] [] sc rf ar al := by
  obtain ⟨hC, hS9, hM, hLt⟩ := hP
  obtain ⟨S, arv, scv, carv, mr, hG, rfl, rfl, rfl⟩ := hJ
  have hR1 := kRm_le (d' := 170) (k' := k + 1) (n' := n + 6) hR (by omega) (by omega) (by omega)
  have hR0 := kRm_le (d' := 171) (k' := k) (n' := n) hR (by omega) (by omega) (by omega)
  rcases d_line (rf0 := rf0) (x := (xs (i + 1))) (y := (xs (i + 2))) hG with ⟨v, S2, ar2, sc2, mr2, car2, al2, e1, e0, e2, hG2⟩ | ⟨⟨v, S2, ar2, e1, e0, hG2⟩, he⟩
  · skip
    obtain ⟨al3, hcl, hG3⟩ : ∃ al3 : jAl, kCl 322 [.ref 734, .int (xs (i + 1)), .int (xs (i + 2))] (kSc S scv) (x_mk mr rf0) (kAr arv carv) al (some (.int v)) (kSc S sc2) (x_mk mr2 rf0) (kAr arv car2) al3 ∧ GR S2 ar2 sc2 car2 mr2 al3 := ⟨_, (gW_cls (fun a ha => x_mk_lt ha) ((xt_322 (b := false) (rf := rf0) (d := 168)) _ (xs (i + 1)) (xs (i + 2)) scv mr carv al v sc2 mr2 car2 al2 e2 ⟨rfl, rfl, rfl, rfl, rfl⟩)), GR_al hG2 (kAl_n (by decide))⟩
    refine kl_aload_n hC rfl rfl rfl ?_
    refine kl_arg 1 hC hS9 rfl rfl rfl rfl rfl (by decide) rfl rfl rfl hi hL rfl ?_
    refine kl_arg 2 hC hS9 rfl rfl rfl rfl rfl (by decide) rfl rfl rfl hi hL rfl ?_
    refine kl_aload_n hC rfl rfl rfl ?_
    refine kl_callH hC rfl kk_136 rfl rfl rfl rfl rfl hR0 hM (kMl_of hLt (fun l hl => kh_line (l := l) hl hO hcl)) ?_
    show kW G (k + 1) (n + 6) 667 [some (.ref 999), some (.ref 734), some (.ref 0), some (.ref 823), some (.int (nI i)), none, none] [.int 0] (kSc S sc2) (x_mk mr2 rf0) (kAr arv car2) (j_u2 al3 823 (iN 0) v.toInt64)
    refine kl_istore hC rfl rfl rfl rfl rfl ?_
    refine kl_aload_n hC rfl rfl rfl ?_
    refine kl_arg 1 hC hS9 rfl rfl rfl rfl rfl (by decide) rfl rfl rfl hi hL rfl ?_
    refine kl_arg 2 hC hS9 rfl rfl rfl rfl rfl (by decide) rfl rfl rfl hi hL rfl ?_
    refine kl_call hC rfl kk_139 rfl rfl rfl kL_0 rfl rfl rfl hR1 (gW_mono (gW_ref (sc0 := fun _ _ => 0) ((rt_65 (X := gRX) gRX_LK rfl (rf := x_mk mr2 rf0) (x_mk_0 hrf0) (d := 168)) (fun _ _ => 0) ((j_u2 al3 823 (iN 0) v.toInt64)) _ (xs (i + 1)) (xs (i + 2)) S arv v S2 ar2 e1 ⟨rfl, rfl, rfl, rfl, rfl⟩)) (fun r9 s9 f9 a9 l9 e9 => ?_))
    rw [e9.1, e9.2.1, e9.2.2.1, e9.2.2.2.1, e9.2.2.2.2]
    show kW G (k + 1) (n + 6) 685 [some (.ref 999), some (.ref 734), some (.ref 0), some (.ref 823), some (.int (nI i)), some (.int 0), none] [.int v] (kSc S2 sc2) (x_mk mr2 rf0) (kAr ar2 car2) (j_u2 al3 823 (iN 0) v.toInt64)
    refine kl_istore hC rfl rfl rfl rfl rfl ?_
    refine kl_aload_n hC rfl rfl rfl ?_
    refine kl_call hC rfl kk_109 rfl rfl rfl kL_0 rfl rfl rfl hR1 (gW_mono (gW_ref (sc0 := fun _ _ => 0) ((rt_2 (X := gRX) gRX_LK rfl (rf := x_mk mr2 rf0) (x_mk_0 hrf0) (d := 169)) (fun _ _ => 0) ((j_u2 al3 823 (iN 0) v.toInt64)) _ S2 ar2 (S2 0) S2 ar2 rfl ⟨rfl, rfl, rfl, rfl, rfl⟩)) (fun r9 s9 f9 a9 l9 e9 => ?_))
    rw [e9.1, e9.2.1, e9.2.2.1, e9.2.2.2.1, e9.2.2.2.2, e0]
    show kW G (k + 1) (n + 6) 691 [some (.ref 999), some (.ref 734), some (.ref 0), some (.ref 823), some (.int (nI i)), some (.int 0), some (.int v)] [.int 0] (kSc S2 sc2) (x_mk mr2 rf0) (kAr ar2 car2) (j_u2 al3 823 (iN 0) v.toInt64)
    refine kl_iload hC rfl rfl rfl ?_
    refine kl_ic_eq hC rfl rfl rfl (fun _ => ?_) (fun c => absurd rfl c)
    refine kl_iload hC rfl rfl rfl ?_
    refine kl_if_ne hC rfl rfl rfl (fun _ => ?_) (fun c => absurd rfl c)
    refine kl_aload_n hC rfl rfl rfl ?_
    refine kl_iconst hC rfl ci_0 rfl ?_
    refine kl_laload hC rfl hO (by decide) k_o1 rfl ?_
    refine kl_iload hC rfl rfl rfl ?_
    refine kl_i2l hC rfl rfl ?_
    refine kl_lcmp hC rfl rfl ?_
    refine kl_if_eq hC rfl rfl rfl (fun _ => ?_) (fun c => absurd ((lg_cmp_eq _ _).mpr rfl) c)
    refine kl_goto hC rfl rfl ?_
    refine kW_weak (vs := [some (.ref 999), some (.ref 734), some (.ref 0), some (.ref 823), some (.int (nI i)), none, none]) ⟨rfl, rfl, rfl, rfl, rfl, trivial⟩ (K _ _ _ _ ⟨S2, ar2, sc2, car2, mr2, GR_al hG3 k_o2, rfl, rfl, rfl⟩)
  · skip
    refine kl_aload_n hC rfl rfl rfl ?_
    refine kl_arg 1 hC hS9 rfl rfl rfl rfl rfl (by decide) rfl rfl rfl hi hL rfl ?_
    refine kl_arg 2 hC hS9 rfl rfl rfl rfl rfl (by decide) rfl rfl rfl hi hL rfl ?_
    refine kl_aload_n hC rfl rfl rfl ?_
    refine kl_callH hC rfl kk_136 rfl rfl rfl rfl rfl hR0 hM (kMl_of hLt (fun l hl => kx_line_1 (l := l) hcat hl he)) ?_
    show kW G (k + 1) (n + 6) 667 [some (.ref 999), some (.ref 734), some (.ref 0), some (.ref 823), some (.int (nI i)), none, none] [.int 1] (kSc S scv) (x_mk mr rf0) (kAr arv carv) al
    refine kl_istore hC rfl rfl rfl rfl rfl ?_
    refine kl_aload_n hC rfl rfl rfl ?_
    refine kl_arg 1 hC hS9 rfl rfl rfl rfl rfl (by decide) rfl rfl rfl hi hL rfl ?_
    refine kl_arg 2 hC hS9 rfl rfl rfl rfl rfl (by decide) rfl rfl rfl hi hL rfl ?_
    refine kl_call hC rfl kk_139 rfl rfl rfl kL_0 rfl rfl rfl hR1 (gW_mono (gW_ref (sc0 := fun _ _ => 0) ((rt_65 (X := gRX) gRX_LK rfl (rf := x_mk mr rf0) (x_mk_0 hrf0) (d := 168)) (fun _ _ => 0) (al) _ (xs (i + 1)) (xs (i + 2)) S arv v S2 ar2 e1 ⟨rfl, rfl, rfl, rfl, rfl⟩)) (fun r9 s9 f9 a9 l9 e9 => ?_))
    rw [e9.1, e9.2.1, e9.2.2.1, e9.2.2.2.1, e9.2.2.2.2]
    show kW G (k + 1) (n + 6) 685 [some (.ref 999), some (.ref 734), some (.ref 0), some (.ref 823), some (.int (nI i)), some (.int 1), none] [.int v] (kSc S2 scv) (x_mk mr rf0) (kAr ar2 carv) al
    refine kl_istore hC rfl rfl rfl rfl rfl ?_
    refine kl_aload_n hC rfl rfl rfl ?_
    refine kl_call hC rfl kk_109 rfl rfl rfl kL_0 rfl rfl rfl hR1 (gW_mono (gW_ref (sc0 := fun _ _ => 0) ((rt_2 (X := gRX) gRX_LK rfl (rf := x_mk mr rf0) (x_mk_0 hrf0) (d := 169)) (fun _ _ => 0) (al) _ S2 ar2 (S2 0) S2 ar2 rfl ⟨rfl, rfl, rfl, rfl, rfl⟩)) (fun r9 s9 f9 a9 l9 e9 => ?_))
    rw [e9.1, e9.2.1, e9.2.2.1, e9.2.2.2.1, e9.2.2.2.2, e0]
    show kW G (k + 1) (n + 6) 691 [some (.ref 999), some (.ref 734), some (.ref 0), some (.ref 823), some (.int (nI i)), some (.int 1), some (.int v)] [.int 1] (kSc S2 scv) (x_mk mr rf0) (kAr ar2 carv) al
    refine kl_iload hC rfl rfl rfl ?_
    refine kl_ic_eq hC rfl rfl rfl (fun _ => ?_) (fun c => absurd rfl c)
    refine kl_iload hC rfl rfl rfl ?_
    refine kl_if_ne hC rfl rfl rfl (fun c => absurd c (by decide)) (fun _ => ?_)
    refine kl_goto hC rfl rfl ?_
    refine kW_weak (vs := [some (.ref 999), some (.ref 734), some (.ref 0), some (.ref 823), some (.int (nI i)), none, none]) ⟨rfl, rfl, rfl, rfl, rfl, trivial⟩ (K _ _ _ _ ⟨S2, ar2, scv, carv, mr, hG2, rfl, rfl, rfl⟩)
