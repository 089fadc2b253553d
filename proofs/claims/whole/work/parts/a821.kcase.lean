/-! THE LAW's cases. -/
set_option maxHeartbeats 4000000 in
theorem kc_10 {G : kG} {L k n i : Nat} {xs : Nat → Int32} {rf0 : jRf} {sc : jSc} {rf : jRf} {ar : jSc} {al : jAl} (hcat : kCatch) (hP : kPr G L xs) (hO : kL.1 823 = .inr (1, 1)) (hrf0 : rf0 0 = r_rf) (hi : i + 6 ≤ L) (hL : L ≤ 3072) (hR : kRm G 171 (k + 1) (n + 6)) (hJ : kJ rf0 sc rf ar al) (K : ∀ (sc' : jSc) (rf' : jRf) (ar' : jSc) (al' : jAl), kJ rf0 sc' rf' ar' al' → kW G (k + 1) (n + 6) 2131 [some (.ref 999), some (.ref 734), some (.ref 0), some (.ref 823), some (.int (nI i)), none, none] [] sc' rf' ar' al') : kW G k n 718 [some (.ref 999), some (.ref 734), some (.ref 0), some (.ref 823), some (.int (nI i)), none, none] [] sc rf ar al := by
  obtain ⟨hC, hS9, hM, hLt⟩ := hP
  obtain ⟨S, arv, scv, carv, mr, hG, rfl, rfl, rfl⟩ := hJ
  have hR1 := kRm_le (d' := 170) (k' := k + 1) (n' := n + 6) hR (by omega) (by omega) (by omega)
  have hR0 := kRm_le (d' := 171) (k' := k) (n' := n) hR (by omega) (by omega) (by omega)
  have hq : qA (rF_66 (xs (i + 1)) S arv) (xF_323 (xs (i + 1)) scv mr carv al) := by
    first
    | exact q_clock hG
    | (obtain ⟨S0, ar0, n0, tx, g, p, m, s, nr, cs, hx⟩ := hG; exact q_clock hx)
  obtain ⟨v, S2, ar2, sc2, mr2, car2, al2, e1, e0, e2, hG2⟩ := hq
  obtain ⟨al3, hcl, hG3⟩ : ∃ al3 : jAl, kCl 323 [.ref 734, .int (xs (i + 1))] (kSc S scv) (x_mk mr rf0) (kAr arv carv) al (some (.int v)) (kSc S sc2) (x_mk mr2 rf0) (kAr arv car2) al3 ∧ GR S2 ar2 sc2 car2 mr2 al3 := ⟨_, (gW_cls (fun a ha => x_mk_lt ha) ((xt_323 (b := false) (rf := rf0) (d := 168)) _ (xs (i + 1)) scv mr carv al v sc2 mr2 car2 al2 e2 ⟨rfl, rfl, rfl, rfl, rfl⟩)), GR_al hG2 (kAl_n (by decide))⟩
  refine kl_widen (k' := k + 1) (n' := n + 6) (by omega) (by omega) ?_
  refine kl_aload_n hC rfl rfl rfl ?_
  refine kl_arg 1 hC hS9 rfl rfl rfl rfl rfl (by decide) rfl rfl rfl hi hL rfl ?_
  refine kl_call hC rfl kk_140 rfl rfl rfl ys_734 yx_323 rfl rfl hR1 (gW_mono hcl (fun r9 s9 f9 a9 l9 e9 => ?_))
  rw [e9.1, e9.2.1, e9.2.2.1, e9.2.2.2.1, e9.2.2.2.2]
  show kW G (k + 1) (n + 6) 728 [some (.ref 999), some (.ref 734), some (.ref 0), some (.ref 823), some (.int (nI i)), none, none] [.int v] (kSc S sc2) (x_mk mr2 rf0) (kAr arv car2) al3
  refine kl_aload_n hC rfl rfl rfl ?_
  refine kl_arg 1 hC hS9 rfl rfl rfl rfl rfl (by decide) rfl rfl rfl hi hL rfl ?_
  refine kl_call hC rfl kk_143 rfl rfl rfl kL_0 rfl rfl rfl hR1 (gW_mono (gW_ref (sc0 := fun _ _ => 0) ((rt_66 (X := gRX) gRX_LK rfl (rf := x_mk mr2 rf0) (x_mk_0 hrf0) (d := 169)) (fun _ _ => 0) (al3) _ (xs (i + 1)) S arv v S2 ar2 e1 ⟨rfl, rfl, rfl, rfl, rfl⟩)) (fun r9 s9 f9 a9 l9 e9 => ?_))
  rw [e9.1, e9.2.1, e9.2.2.1, e9.2.2.2.1, e9.2.2.2.2]
  show kW G (k + 1) (n + 6) 738 [some (.ref 999), some (.ref 734), some (.ref 0), some (.ref 823), some (.int (nI i)), none, none] [.int v, .int v] (kSc S2 sc2) (x_mk mr2 rf0) (kAr ar2 car2) al3
  refine kl_ic_eq hC rfl rfl rfl (fun _ => ?_) (fun c => absurd rfl c)
  exact K _ _ _ _ ⟨S2, ar2, sc2, car2, mr2, hG3, rfl, rfl, rfl⟩
set_option maxHeartbeats 4000000 in
theorem kc_11 {G : kG} {L k n i : Nat} {xs : Nat → Int32} {rf0 : jRf} {sc : jSc} {rf : jRf} {ar : jSc} {al : jAl} (hcat : kCatch) (hP : kPr G L xs) (hO : kL.1 823 = .inr (1, 1)) (hrf0 : rf0 0 = r_rf) (hi : i + 6 ≤ L) (hL : L ≤ 3072) (hR : kRm G 171 (k + 1) (n + 6)) (hJ : kJ rf0 sc rf ar al) (K : ∀ (sc' : jSc) (rf' : jRf) (ar' : jSc) (al' : jAl), kJ rf0 sc' rf' ar' al' → kW G (k + 1) (n + 6) 2131 [some (.ref 999), some (.ref 734), some (.ref 0), some (.ref 823), some (.int (nI i)), none, none] [] sc' rf' ar' al') : kW G k n 743 [some (.ref 999), some (.ref 734), some (.ref 0), some (.ref 823), some (.int (nI i)), none, none] [] sc rf ar al := by
  obtain ⟨hC, hS9, hM, hLt⟩ := hP
  obtain ⟨S, arv, scv, carv, mr, hG, rfl, rfl, rfl⟩ := hJ
  have hR1 := kRm_le (d' := 170) (k' := k + 1) (n' := n + 6) hR (by omega) (by omega) (by omega)
  have hR0 := kRm_le (d' := 171) (k' := k) (n' := n) hR (by omega) (by omega) (by omega)
  have hq : qA (rF_67 S arv) (xF_324 scv mr carv al) := by
    first
    | exact q_failed hG
    | (obtain ⟨S0, ar0, n0, tx, g, p, m, s, nr, cs, hx⟩ := hG; exact q_failed hx)
  obtain ⟨v, S2, ar2, sc2, mr2, car2, al2, e1, e0, e2, hG2⟩ := hq
  obtain ⟨al3, hcl, hG3⟩ : ∃ al3 : jAl, kCl 324 [.ref 734] (kSc S scv) (x_mk mr rf0) (kAr arv carv) al (some (.int v)) (kSc S sc2) (x_mk mr2 rf0) (kAr arv car2) al3 ∧ GR S2 ar2 sc2 car2 mr2 al3 := ⟨_, (gW_cls (fun a ha => x_mk_lt ha) ((xt_324 (b := false) (rf := rf0) (d := 168)) _ scv mr carv al v sc2 mr2 car2 al2 e2 ⟨rfl, rfl, rfl, rfl, rfl⟩)), GR_al hG2 (kAl_n (by decide))⟩
  refine kl_widen (k' := k + 1) (n' := n + 6) (by omega) (by omega) ?_
  refine kl_aload_n hC rfl rfl rfl ?_
  refine kl_call hC rfl kk_144 rfl rfl rfl ys_734 yx_324 rfl rfl hR1 (gW_mono hcl (fun r9 s9 f9 a9 l9 e9 => ?_))
  rw [e9.1, e9.2.1, e9.2.2.1, e9.2.2.2.1, e9.2.2.2.2]
  show kW G (k + 1) (n + 6) 747 [some (.ref 999), some (.ref 734), some (.ref 0), some (.ref 823), some (.int (nI i)), none, none] [.int v] (kSc S sc2) (x_mk mr2 rf0) (kAr arv car2) al3
  refine kl_aload_n hC rfl rfl rfl ?_
  refine kl_call hC rfl kk_148 rfl rfl rfl kL_0 rfl rfl rfl hR1 (gW_mono (gW_ref (sc0 := fun _ _ => 0) ((rt_67 (X := gRX) gRX_LK rfl (rf := x_mk mr2 rf0) (x_mk_0 hrf0) (d := 169)) (fun _ _ => 0) (al3) _ S arv v S2 ar2 e1 ⟨rfl, rfl, rfl, rfl, rfl⟩)) (fun r9 s9 f9 a9 l9 e9 => ?_))
  rw [e9.1, e9.2.1, e9.2.2.1, e9.2.2.2.1, e9.2.2.2.2]
  show kW G (k + 1) (n + 6) 751 [some (.ref 999), some (.ref 734), some (.ref 0), some (.ref 823), some (.int (nI i)), none, none] [.int v, .int v] (kSc S2 sc2) (x_mk mr2 rf0) (kAr ar2 car2) al3
  refine kl_ic_eq hC rfl rfl rfl (fun _ => ?_) (fun c => absurd rfl c)
  exact K _ _ _ _ ⟨S2, ar2, sc2, car2, mr2, hG3, rfl, rfl, rfl⟩
set_option maxHeartbeats 4000000 in
theorem kc_12 {G : kG} {L k n i : Nat} {xs : Nat → Int32} {rf0 : jRf} {sc : jSc} {rf : jRf} {ar : jSc} {al : jAl} (hcat : kCatch) (hP : kPr G L xs) (hO : kL.1 823 = .inr (1, 1)) (hrf0 : rf0 0 = r_rf) (hi : i + 6 ≤ L) (hL : L ≤ 3072) (hR : kRm G 171 (k + 1) (n + 6)) (hJ : kJ rf0 sc rf ar al) (K : ∀ (sc' : jSc) (rf' : jRf) (ar' : jSc) (al' : jAl), kJ rf0 sc' rf' ar' al' → kW G (k + 1) (n + 6) 2131 [some (.ref 999), some (.ref 734), some (.ref 0), some (.ref 823), some (.int (nI i)), none, none] [] sc' rf' ar' al') : kW G k n 756 [some (.ref 999), some (.ref 734), some (.ref 0), some (.ref 823), some (.int (nI i)), none, none] [] sc rf ar al := by
  obtain ⟨hC, hS9, hM, hLt⟩ := hP
  obtain ⟨S, arv, scv, carv, mr, hG, rfl, rfl, rfl⟩ := hJ
  have hR1 := kRm_le (d' := 170) (k' := k + 1) (n' := n + 6) hR (by omega) (by omega) (by omega)
  have hR0 := kRm_le (d' := 171) (k' := k) (n' := n) hR (by omega) (by omega) (by omega)
  have hq : qA (rF_68 S arv) (xF_325 scv mr carv al) := by
    first
    | exact q_spoilt hG
    | (obtain ⟨S0, ar0, n0, tx, g, p, m, s, nr, cs, hx⟩ := hG; exact q_spoilt hx)
  obtain ⟨v, S2, ar2, sc2, mr2, car2, al2, e1, e0, e2, hG2⟩ := hq
  obtain ⟨al3, hcl, hG3⟩ : ∃ al3 : jAl, kCl 325 [.ref 734] (kSc S scv) (x_mk mr rf0) (kAr arv carv) al (some (.int v)) (kSc S sc2) (x_mk mr2 rf0) (kAr arv car2) al3 ∧ GR S2 ar2 sc2 car2 mr2 al3 := ⟨_, (gW_cls (fun a ha => x_mk_lt ha) ((xt_325 (b := false) (rf := rf0) (d := 165)) _ scv mr carv al v sc2 mr2 car2 al2 e2 ⟨rfl, rfl, rfl, rfl, rfl⟩)), GR_al hG2 (kAl_n (by decide))⟩
  refine kl_widen (k' := k + 1) (n' := n + 6) (by omega) (by omega) ?_
  refine kl_aload_n hC rfl rfl rfl ?_
  refine kl_call hC rfl kk_149 rfl rfl rfl ys_734 yx_325 rfl rfl hR1 (gW_mono hcl (fun r9 s9 f9 a9 l9 e9 => ?_))
  rw [e9.1, e9.2.1, e9.2.2.1, e9.2.2.2.1, e9.2.2.2.2]
  show kW G (k + 1) (n + 6) 760 [some (.ref 999), some (.ref 734), some (.ref 0), some (.ref 823), some (.int (nI i)), none, none] [.int v] (kSc S sc2) (x_mk mr2 rf0) (kAr arv car2) al3
  refine kl_aload_n hC rfl rfl rfl ?_
  refine kl_call hC rfl kk_152 rfl rfl rfl kL_0 rfl rfl rfl hR1 (gW_mono (gW_ref (sc0 := fun _ _ => 0) ((rt_68 (X := gRX) gRX_LK rfl (rf := x_mk mr2 rf0) (x_mk_0 hrf0) (d := 83)) (fun _ _ => 0) (al3) _ S arv v S2 ar2 e1 ⟨rfl, rfl, rfl, rfl, rfl⟩)) (fun r9 s9 f9 a9 l9 e9 => ?_))
  rw [e9.1, e9.2.1, e9.2.2.1, e9.2.2.2.1, e9.2.2.2.2]
  show kW G (k + 1) (n + 6) 764 [some (.ref 999), some (.ref 734), some (.ref 0), some (.ref 823), some (.int (nI i)), none, none] [.int v, .int v] (kSc S2 sc2) (x_mk mr2 rf0) (kAr ar2 car2) al3
  refine kl_ic_eq hC rfl rfl rfl (fun _ => ?_) (fun c => absurd rfl c)
  exact K _ _ _ _ ⟨S2, ar2, sc2, car2, mr2, hG3, rfl, rfl, rfl⟩
set_option maxHeartbeats 4000000 in
theorem kc_13 {G : kG} {L k n i : Nat} {xs : Nat → Int32} {rf0 : jRf} {sc : jSc} {rf : jRf} {ar : jSc} {al : jAl} (hcat : kCatch) (hP : kPr G L xs) (hO : kL.1 823 = .inr (1, 1)) (hrf0 : rf0 0 = r_rf) (hi : i + 6 ≤ L) (hL : L ≤ 3072) (hR : kRm G 171 (k + 1) (n + 6)) (hJ : kJ rf0 sc rf ar al) (K : ∀ (sc' : jSc) (rf' : jRf) (ar' : jSc) (al' : jAl), kJ rf0 sc' rf' ar' al' → kW G (k + 1) (n + 6) 2131 [some (.ref 999), some (.ref 734), some (.ref 0), some (.ref 823), some (.int (nI i)), none, none] [] sc' rf' ar' al') : kW G k n 769 [some (.ref 999), some (.ref 734), some (.ref 0), some (.ref 823), some (.int (nI i)), none, none] [] sc rf ar al := by
  obtain ⟨hC, hS9, hM, hLt⟩ := hP
  obtain ⟨S, arv, scv, carv, mr, hG, rfl, rfl, rfl⟩ := hJ
  have hR1 := kRm_le (d' := 170) (k' := k + 1) (n' := n + 6) hR (by omega) (by omega) (by omega)
  have hR0 := kRm_le (d' := 171) (k' := k) (n' := n) hR (by omega) (by omega) (by omega)
  rcases d_happening (rf0 := rf0) (x := (xs (i + 1))) (y := (xs (i + 2))) hG with ⟨v, S2, ar2, sc2, mr2, car2, al2, e1, e0, e2, hG2⟩ | ⟨⟨v, S2, ar2, e1, e0, hG2⟩, he⟩ | ⟨⟨v, S2, ar2, e1, e0, hG2⟩, he⟩
  · skip
    obtain ⟨al3, hcl, hG3⟩ : ∃ al3 : jAl, kCl 326 [.ref 734, .int (xs (i + 1)), .int (xs (i + 2))] (kSc S scv) (x_mk mr rf0) (kAr arv carv) al (some (.int v)) (kSc S sc2) (x_mk mr2 rf0) (kAr arv car2) al3 ∧ GR S2 ar2 sc2 car2 mr2 al3 := ⟨_, (gW_cls (fun a ha => x_mk_lt ha) ((xt_326 (b := false) (rf := rf0) (d := 168)) _ (xs (i + 1)) (xs (i + 2)) scv mr carv al v sc2 mr2 car2 al2 e2 ⟨rfl, rfl, rfl, rfl, rfl⟩)), GR_al hG2 (kAl_n (by decide))⟩
    refine kl_aload_n hC rfl rfl rfl ?_
    refine kl_arg 1 hC hS9 rfl rfl rfl rfl rfl (by decide) rfl rfl rfl hi hL rfl ?_
    refine kl_arg 2 hC hS9 rfl rfl rfl rfl rfl (by decide) rfl rfl rfl hi hL rfl ?_
    refine kl_aload_n hC rfl rfl rfl ?_
    refine kl_callH hC rfl kk_153 rfl rfl rfl rfl rfl hR0 hM (kMl_of hLt (fun l hl => kh_happening (l := l) hl hO hcl)) ?_
    show kW G (k + 1) (n + 6) 786 [some (.ref 999), some (.ref 734), some (.ref 0), some (.ref 823), some (.int (nI i)), none, none] [.int 0] (kSc S sc2) (x_mk mr2 rf0) (kAr arv car2) (j_u2 al3 823 (iN 0) v.toInt64)
    refine kl_istore hC rfl rfl rfl rfl rfl ?_
    refine kl_aload_n hC rfl rfl rfl ?_
    refine kl_arg 1 hC hS9 rfl rfl rfl rfl rfl (by decide) rfl rfl rfl hi hL rfl ?_
    refine kl_arg 2 hC hS9 rfl rfl rfl rfl rfl (by decide) rfl rfl rfl hi hL rfl ?_
    refine kl_call hC rfl kk_155 rfl rfl rfl kL_0 rfl rfl rfl hR1 (gW_mono (gW_ref (sc0 := fun _ _ => 0) ((rt_70 (X := gRX) gRX_LK rfl (rf := x_mk mr2 rf0) (x_mk_0 hrf0) (d := 167)) (fun _ _ => 0) ((j_u2 al3 823 (iN 0) v.toInt64)) _ (xs (i + 1)) (xs (i + 2)) S arv v S2 ar2 e1 ⟨rfl, rfl, rfl, rfl, rfl⟩)) (fun r9 s9 f9 a9 l9 e9 => ?_))
    rw [e9.1, e9.2.1, e9.2.2.1, e9.2.2.2.1, e9.2.2.2.2]
    show kW G (k + 1) (n + 6) 804 [some (.ref 999), some (.ref 734), some (.ref 0), some (.ref 823), some (.int (nI i)), some (.int 0), none] [.int v] (kSc S2 sc2) (x_mk mr2 rf0) (kAr ar2 car2) (j_u2 al3 823 (iN 0) v.toInt64)
    refine kl_istore hC rfl rfl rfl rfl rfl ?_
    refine kl_aload_n hC rfl rfl rfl ?_
    refine kl_call hC rfl kk_109 rfl rfl rfl kL_0 rfl rfl rfl hR1 (gW_mono (gW_ref (sc0 := fun _ _ => 0) ((rt_2 (X := gRX) gRX_LK rfl (rf := x_mk mr2 rf0) (x_mk_0 hrf0) (d := 169)) (fun _ _ => 0) ((j_u2 al3 823 (iN 0) v.toInt64)) _ S2 ar2 (S2 0) S2 ar2 rfl ⟨rfl, rfl, rfl, rfl, rfl⟩)) (fun r9 s9 f9 a9 l9 e9 => ?_))
    rw [e9.1, e9.2.1, e9.2.2.1, e9.2.2.2.1, e9.2.2.2.2, e0]
    show kW G (k + 1) (n + 6) 810 [some (.ref 999), some (.ref 734), some (.ref 0), some (.ref 823), some (.int (nI i)), some (.int 0), some (.int v)] [.int 0] (kSc S2 sc2) (x_mk mr2 rf0) (kAr ar2 car2) (j_u2 al3 823 (iN 0) v.toInt64)
    refine kl_iload hC rfl rfl rfl ?_
    refine kl_ic_eq hC rfl rfl rfl (fun _ => ?_) (fun c => absurd rfl c)
    refine kl_iload hC rfl rfl rfl ?_
    refine kl_if_ne hC rfl rfl rfl (fun _ => ?_) (fun c => absurd rfl c)
    refine kl_aload_n hC rfl rfl rfl ?_
    refine kl_iconst hC rfl ci_0 rfl ?_
    refine kl_laload hC rfl hO (by decide) k_o1 rfl ?_
    refine kl_iload hC rfl rfl rfl ?_
    refine kl_i2l hC rfl rfl ?_
    refine kl_lcmp hC rfl rfl ?_
    refine kl_if_eq hC rfl rfl rfl (fun _ => ?_) (fun c => absurd ((lg_cmp_eq _ _).mpr rfl) c)
    refine kl_goto hC rfl rfl ?_
    refine kW_weak (vs := [some (.ref 999), some (.ref 734), some (.ref 0), some (.ref 823), some (.int (nI i)), none, none]) ⟨rfl, rfl, rfl, rfl, rfl, trivial⟩ (K _ _ _ _ ⟨S2, ar2, sc2, car2, mr2, GR_al hG3 k_o2, rfl, rfl, rfl⟩)
  · skip
    refine kl_aload_n hC rfl rfl rfl ?_
    refine kl_arg 1 hC hS9 rfl rfl rfl rfl rfl (by decide) rfl rfl rfl hi hL rfl ?_
    refine kl_arg 2 hC hS9 rfl rfl rfl rfl rfl (by decide) rfl rfl rfl hi hL rfl ?_
    refine kl_aload_n hC rfl rfl rfl ?_
    refine kl_callH hC rfl kk_153 rfl rfl rfl rfl rfl hR0 hM (kMl_of hLt (fun l hl => kx_happening_1 (l := l) hcat hl he)) ?_
    show kW G (k + 1) (n + 6) 786 [some (.ref 999), some (.ref 734), some (.ref 0), some (.ref 823), some (.int (nI i)), none, none] [.int 1] (kSc S scv) (x_mk mr rf0) (kAr arv carv) al
    refine kl_istore hC rfl rfl rfl rfl rfl ?_
    refine kl_aload_n hC rfl rfl rfl ?_
    refine kl_arg 1 hC hS9 rfl rfl rfl rfl rfl (by decide) rfl rfl rfl hi hL rfl ?_
    refine kl_arg 2 hC hS9 rfl rfl rfl rfl rfl (by decide) rfl rfl rfl hi hL rfl ?_
    refine kl_call hC rfl kk_155 rfl rfl rfl kL_0 rfl rfl rfl hR1 (gW_mono (gW_ref (sc0 := fun _ _ => 0) ((rt_70 (X := gRX) gRX_LK rfl (rf := x_mk mr rf0) (x_mk_0 hrf0) (d := 167)) (fun _ _ => 0) (al) _ (xs (i + 1)) (xs (i + 2)) S arv v S2 ar2 e1 ⟨rfl, rfl, rfl, rfl, rfl⟩)) (fun r9 s9 f9 a9 l9 e9 => ?_))
    rw [e9.1, e9.2.1, e9.2.2.1, e9.2.2.2.1, e9.2.2.2.2]
    show kW G (k + 1) (n + 6) 804 [some (.ref 999), some (.ref 734), some (.ref 0), some (.ref 823), some (.int (nI i)), some (.int 1), none] [.int v] (kSc S2 scv) (x_mk mr rf0) (kAr ar2 carv) al
    refine kl_istore hC rfl rfl rfl rfl rfl ?_
    refine kl_aload_n hC rfl rfl rfl ?_
    refine kl_call hC rfl kk_109 rfl rfl rfl kL_0 rfl rfl rfl hR1 (gW_mono (gW_ref (sc0 := fun _ _ => 0) ((rt_2 (X := gRX) gRX_LK rfl (rf := x_mk mr rf0) (x_mk_0 hrf0) (d := 169)) (fun _ _ => 0) (al) _ S2 ar2 (S2 0) S2 ar2 rfl ⟨rfl, rfl, rfl, rfl, rfl⟩)) (fun r9 s9 f9 a9 l9 e9 => ?_))
    rw [e9.1, e9.2.1, e9.2.2.1, e9.2.2.2.1, e9.2.2.2.2, e0]
    show kW G (k + 1) (n + 6) 810 [some (.ref 999), some (.ref 734), some (.ref 0), some (.ref 823), some (.int (nI i)), some (.int 1), some (.int v)] [.int 1] (kSc S2 scv) (x_mk mr rf0) (kAr ar2 carv) al
    refine kl_iload hC rfl rfl rfl ?_
    refine kl_ic_eq hC rfl rfl rfl (fun _ => ?_) (fun c => absurd rfl c)
    refine kl_iload hC rfl rfl rfl ?_
    refine kl_if_ne hC rfl rfl rfl (fun c => absurd c (by decide)) (fun _ => ?_)
    refine kl_goto hC rfl rfl ?_
    refine kW_weak (vs := [some (.ref 999), some (.ref 734), some (.ref 0), some (.ref 823), some (.int (nI i)), none, none]) ⟨rfl, rfl, rfl, rfl, rfl, trivial⟩ (K _ _ _ _ ⟨S2, ar2, scv, carv, mr, hG2, rfl, rfl, rfl⟩)
  · skip
    refine kl_aload_n hC rfl rfl rfl ?_
    refine kl_arg 1 hC hS9 rfl rfl rfl rfl rfl (by decide) rfl rfl rfl hi hL rfl ?_
    refine kl_arg 2 hC hS9 rfl rfl rfl rfl rfl (by decide) rfl rfl rfl hi hL rfl ?_
    refine kl_aload_n hC rfl rfl rfl ?_
    refine kl_callH hC rfl kk_153 rfl rfl rfl rfl rfl hR0 hM (kMl_of hLt (fun l hl => kx_happening_2 (l := l) hcat hl he)) ?_
    show kW G (k + 1) (n + 6) 786 [some (.ref 999), some (.ref 734), some (.ref 0), some (.ref 823), some (.int (nI i)), none, none] [.int 2] (kSc S scv) (x_mk mr rf0) (kAr arv carv) al
    refine kl_istore hC rfl rfl rfl rfl rfl ?_
    refine kl_aload_n hC rfl rfl rfl ?_
    refine kl_arg 1 hC hS9 rfl rfl rfl rfl rfl (by decide) rfl rfl rfl hi hL rfl ?_
    refine kl_arg 2 hC hS9 rfl rfl rfl rfl rfl (by decide) rfl rfl rfl hi hL rfl ?_
    refine kl_call hC rfl kk_155 rfl rfl rfl kL_0 rfl rfl rfl hR1 (gW_mono (gW_ref (sc0 := fun _ _ => 0) ((rt_70 (X := gRX) gRX_LK rfl (rf := x_mk mr rf0) (x_mk_0 hrf0) (d := 167)) (fun _ _ => 0) (al) _ (xs (i + 1)) (xs (i + 2)) S arv v S2 ar2 e1 ⟨rfl, rfl, rfl, rfl, rfl⟩)) (fun r9 s9 f9 a9 l9 e9 => ?_))
    rw [e9.1, e9.2.1, e9.2.2.1, e9.2.2.2.1, e9.2.2.2.2]
    show kW G (k + 1) (n + 6) 804 [some (.ref 999), some (.ref 734), some (.ref 0), some (.ref 823), some (.int (nI i)), some (.int 2), none] [.int v] (kSc S2 scv) (x_mk mr rf0) (kAr ar2 carv) al
    refine kl_istore hC rfl rfl rfl rfl rfl ?_
    refine kl_aload_n hC rfl rfl rfl ?_
    refine kl_call hC rfl kk_109 rfl rfl rfl kL_0 rfl rfl rfl hR1 (gW_mono (gW_ref (sc0 := fun _ _ => 0) ((rt_2 (X := gRX) gRX_LK rfl (rf := x_mk mr rf0) (x_mk_0 hrf0) (d := 169)) (fun _ _ => 0) (al) _ S2 ar2 (S2 0) S2 ar2 rfl ⟨rfl, rfl, rfl, rfl, rfl⟩)) (fun r9 s9 f9 a9 l9 e9 => ?_))
    rw [e9.1, e9.2.1, e9.2.2.1, e9.2.2.2.1, e9.2.2.2.2, e0]
    show kW G (k + 1) (n + 6) 810 [some (.ref 999), some (.ref 734), some (.ref 0), some (.ref 823), some (.int (nI i)), some (.int 2), some (.int v)] [.int 2] (kSc S2 scv) (x_mk mr rf0) (kAr ar2 carv) al
    refine kl_iload hC rfl rfl rfl ?_
    refine kl_ic_eq hC rfl rfl rfl (fun _ => ?_) (fun c => absurd rfl c)
    refine kl_iload hC rfl rfl rfl ?_
    refine kl_if_ne hC rfl rfl rfl (fun c => absurd c (by decide)) (fun _ => ?_)
    refine kl_goto hC rfl rfl ?_
    refine kW_weak (vs := [some (.ref 999), some (.ref 734), some (.ref 0), some (.ref 823), some (.int (nI i)), none, none]) ⟨rfl, rfl, rfl, rfl, rfl, trivial⟩ (K _ _ _ _ ⟨S2, ar2, scv, carv, mr, hG2, rfl, rfl, rfl⟩)
set_option maxHeartbeats 4000000 in
theorem kc_14 {G : kG} {L k n i : Nat} {xs : Nat → Int32} {rf0 : jRf} {sc : jSc} {rf : jRf} {ar : jSc} {al : jAl} (hcat : kCatch) (hP : kPr G L xs) (hO : kL.1 823 = .inr (1, 1)) (hrf0 : rf0 0 = r_rf) (hi : i + 6 ≤ L) (hL : L ≤ 3072) (hR : kRm G 171 (k + 1) (n + 6)) (hJ : kJ rf0 sc rf ar al) (K : ∀ (sc' : jSc) (rf' : jRf) (ar' : jSc) (al' : jAl), kJ rf0 sc' rf' ar' al' → kW G (k + 1) (n + 6) 2131 [some (.ref 999), some (.ref 734), some (.ref 0), some (.ref 823), some (.int (nI i)), none, none] [] sc' rf' ar' al') : kW G k n 837 [some (.ref 999), some (.ref 734), some (.ref 0), some (.ref 823), some (.int (nI i)), none, none] [] sc rf ar al := by
  obtain ⟨hC, hS9, hM, hLt⟩ := hP
  obtain ⟨S, arv, scv, carv, mr, hG, rfl, rfl, rfl⟩ := hJ
  have hR1 := kRm_le (d' := 170) (k' := k + 1) (n' := n + 6) hR (by omega) (by omega) (by omega)
  have hR0 := kRm_le (d' := 171) (k' := k) (n' := n) hR (by omega) (by omega) (by omega)
  rcases d_ordered (rf0 := rf0) (x := (xs (i + 1))) (y := (xs (i + 2))) hG with ⟨v, S2, ar2, sc2, mr2, car2, al2, e1, e0, e2, hG2⟩ | ⟨⟨v, S2, ar2, e1, e0, hG2⟩, he⟩
  · skip
    obtain ⟨al3, hcl, hG3⟩ : ∃ al3 : jAl, kCl 327 [.ref 734, .int (xs (i + 1)), .int (xs (i + 2))] (kSc S scv) (x_mk mr rf0) (kAr arv carv) al (some (.int v)) (kSc S sc2) (x_mk mr2 rf0) (kAr arv car2) al3 ∧ GR S2 ar2 sc2 car2 mr2 al3 := ⟨_, (gW_cls (fun a ha => x_mk_lt ha) ((xt_327 (b := false) (rf := rf0) (d := 168)) _ (xs (i + 1)) (xs (i + 2)) scv mr carv al v sc2 mr2 car2 al2 e2 ⟨rfl, rfl, rfl, rfl, rfl⟩)), GR_al hG2 (kAl_n (by decide))⟩
    refine kl_aload_n hC rfl rfl rfl ?_
    refine kl_arg 1 hC hS9 rfl rfl rfl rfl rfl (by decide) rfl rfl rfl hi hL rfl ?_
    refine kl_arg 2 hC hS9 rfl rfl rfl rfl rfl (by decide) rfl rfl rfl hi hL rfl ?_
    refine kl_aload_n hC rfl rfl rfl ?_
    refine kl_callH hC rfl kk_156 rfl rfl rfl rfl rfl hR0 hM (kMl_of hLt (fun l hl => kh_ordered (l := l) hl hO hcl)) ?_
    show kW G (k + 1) (n + 6) 854 [some (.ref 999), some (.ref 734), some (.ref 0), some (.ref 823), some (.int (nI i)), none, none] [.int 0] (kSc S sc2) (x_mk mr2 rf0) (kAr arv car2) (j_u2 al3 823 (iN 0) (if v = 0 then (0 : Int64) else 1))
    refine kl_istore hC rfl rfl rfl rfl rfl ?_
    refine kl_aload_n hC rfl rfl rfl ?_
    refine kl_arg 1 hC hS9 rfl rfl rfl rfl rfl (by decide) rfl rfl rfl hi hL rfl ?_
    refine kl_arg 2 hC hS9 rfl rfl rfl rfl rfl (by decide) rfl rfl rfl hi hL rfl ?_
    refine kl_call hC rfl kk_158 rfl rfl rfl kL_0 rfl rfl rfl hR1 (gW_mono (gW_ref (sc0 := fun _ _ => 0) ((rt_73 (X := gRX) gRX_LK rfl (rf := x_mk mr2 rf0) (x_mk_0 hrf0) (d := 167)) (fun _ _ => 0) ((j_u2 al3 823 (iN 0) (if v = 0 then (0 : Int64) else 1))) _ (xs (i + 1)) (xs (i + 2)) S arv v S2 ar2 e1 ⟨rfl, rfl, rfl, rfl, rfl⟩)) (fun r9 s9 f9 a9 l9 e9 => ?_))
    rw [e9.1, e9.2.1, e9.2.2.1, e9.2.2.2.1, e9.2.2.2.2]
    show kW G (k + 1) (n + 6) 872 [some (.ref 999), some (.ref 734), some (.ref 0), some (.ref 823), some (.int (nI i)), some (.int 0), none] [.int v] (kSc S2 sc2) (x_mk mr2 rf0) (kAr ar2 car2) (j_u2 al3 823 (iN 0) (if v = 0 then (0 : Int64) else 1))
    refine kl_istore hC rfl rfl rfl rfl rfl ?_
    refine kl_aload_n hC rfl rfl rfl ?_
    refine kl_call hC rfl kk_109 rfl rfl rfl kL_0 rfl rfl rfl hR1 (gW_mono (gW_ref (sc0 := fun _ _ => 0) ((rt_2 (X := gRX) gRX_LK rfl (rf := x_mk mr2 rf0) (x_mk_0 hrf0) (d := 169)) (fun _ _ => 0) ((j_u2 al3 823 (iN 0) (if v = 0 then (0 : Int64) else 1))) _ S2 ar2 (S2 0) S2 ar2 rfl ⟨rfl, rfl, rfl, rfl, rfl⟩)) (fun r9 s9 f9 a9 l9 e9 => ?_))
    rw [e9.1, e9.2.1, e9.2.2.1, e9.2.2.2.1, e9.2.2.2.2, e0]
    show kW G (k + 1) (n + 6) 878 [some (.ref 999), some (.ref 734), some (.ref 0), some (.ref 823), some (.int (nI i)), some (.int 0), some (.int v)] [.int 0] (kSc S2 sc2) (x_mk mr2 rf0) (kAr ar2 car2) (j_u2 al3 823 (iN 0) (if v = 0 then (0 : Int64) else 1))
    refine kl_iload hC rfl rfl rfl ?_
    refine kl_ic_eq hC rfl rfl rfl (fun _ => ?_) (fun c => absurd rfl c)
    refine kl_iload hC rfl rfl rfl ?_
    refine kl_if_ne hC rfl rfl rfl (fun _ => ?_) (fun c => absurd rfl c)
    refine kl_aload_n hC rfl rfl rfl ?_
    refine kl_iconst hC rfl ci_0 rfl ?_
    refine kl_laload hC rfl hO (by decide) k_o1 rfl ?_
    refine kl_iload hC rfl rfl rfl ?_
    refine kl_if_eq hC rfl rfl rfl (fun c1 => ?_) (fun c1 => ?_)
    · refine kl_lconst hC rfl rfl ?_
      refine kl_lcmp hC rfl rfl ?_
      refine kl_if_eq hC rfl rfl rfl (fun _ => ?_) (fun c => absurd ((lg_cmp_eq _ _).mpr (if_pos c1)) c)
      refine kl_goto hC rfl rfl ?_
      refine kW_weak (vs := [some (.ref 999), some (.ref 734), some (.ref 0), some (.ref 823), some (.int (nI i)), none, none]) ⟨rfl, rfl, rfl, rfl, rfl, trivial⟩ (K _ _ _ _ ⟨S2, ar2, sc2, car2, mr2, GR_al hG3 k_o2, rfl, rfl, rfl⟩)
    · refine kl_lconst hC rfl rfl ?_
      refine kl_goto hC rfl rfl ?_
      refine kl_lcmp hC rfl rfl ?_
      refine kl_if_eq hC rfl rfl rfl (fun _ => ?_) (fun c => absurd ((lg_cmp_eq _ _).mpr (if_neg c1)) c)
      refine kl_goto hC rfl rfl ?_
      refine kW_weak (vs := [some (.ref 999), some (.ref 734), some (.ref 0), some (.ref 823), some (.int (nI i)), none, none]) ⟨rfl, rfl, rfl, rfl, rfl, trivial⟩ (K _ _ _ _ ⟨S2, ar2, sc2, car2, mr2, GR_al hG3 k_o2, rfl, rfl, rfl⟩)
  · skip
    refine kl_aload_n hC rfl rfl rfl ?_
    refine kl_arg 1 hC hS9 rfl rfl rfl rfl rfl (by decide) rfl rfl rfl hi hL rfl ?_
    refine kl_arg 2 hC hS9 rfl rfl rfl rfl rfl (by decide) rfl rfl rfl hi hL rfl ?_
    refine kl_aload_n hC rfl rfl rfl ?_
    refine kl_callH hC rfl kk_156 rfl rfl rfl rfl rfl hR0 hM (kMl_of hLt (fun l hl => kx_ordered_1 (l := l) hcat hl he)) ?_
    show kW G (k + 1) (n + 6) 854 [some (.ref 999), some (.ref 734), some (.ref 0), some (.ref 823), some (.int (nI i)), none, none] [.int 1] (kSc S scv) (x_mk mr rf0) (kAr arv carv) al
    refine kl_istore hC rfl rfl rfl rfl rfl ?_
    refine kl_aload_n hC rfl rfl rfl ?_
    refine kl_arg 1 hC hS9 rfl rfl rfl rfl rfl (by decide) rfl rfl rfl hi hL rfl ?_
    refine kl_arg 2 hC hS9 rfl rfl rfl rfl rfl (by decide) rfl rfl rfl hi hL rfl ?_
    refine kl_call hC rfl kk_158 rfl rfl rfl kL_0 rfl rfl rfl hR1 (gW_mono (gW_ref (sc0 := fun _ _ => 0) ((rt_73 (X := gRX) gRX_LK rfl (rf := x_mk mr rf0) (x_mk_0 hrf0) (d := 167)) (fun _ _ => 0) (al) _ (xs (i + 1)) (xs (i + 2)) S arv v S2 ar2 e1 ⟨rfl, rfl, rfl, rfl, rfl⟩)) (fun r9 s9 f9 a9 l9 e9 => ?_))
    rw [e9.1, e9.2.1, e9.2.2.1, e9.2.2.2.1, e9.2.2.2.2]
    show kW G (k + 1) (n + 6) 872 [some (.ref 999), some (.ref 734), some (.ref 0), some (.ref 823), some (.int (nI i)), some (.int 1), none] [.int v] (kSc S2 scv) (x_mk mr rf0) (kAr ar2 carv) al
    refine kl_istore hC rfl rfl rfl rfl rfl ?_
    refine kl_aload_n hC rfl rfl rfl ?_
    refine kl_call hC rfl kk_109 rfl rfl rfl kL_0 rfl rfl rfl hR1 (gW_mono (gW_ref (sc0 := fun _ _ => 0) ((rt_2 (X := gRX) gRX_LK rfl (rf := x_mk mr rf0) (x_mk_0 hrf0) (d := 169)) (fun _ _ => 0) (al) _ S2 ar2 (S2 0) S2 ar2 rfl ⟨rfl, rfl, rfl, rfl, rfl⟩)) (fun r9 s9 f9 a9 l9 e9 => ?_))
    rw [e9.1, e9.2.1, e9.2.2.1, e9.2.2.2.1, e9.2.2.2.2, e0]
    show kW G (k + 1) (n + 6) 878 [some (.ref 999), some (.ref 734), some (.ref 0), some (.ref 823), some (.int (nI i)), some (.int 1), some (.int v)] [.int 1] (kSc S2 scv) (x_mk mr rf0) (kAr ar2 carv) al
    refine kl_iload hC rfl rfl rfl ?_
    refine kl_ic_eq hC rfl rfl rfl (fun _ => ?_) (fun c => absurd rfl c)
    refine kl_iload hC rfl rfl rfl ?_
    refine kl_if_ne hC rfl rfl rfl (fun c => absurd c (by decide)) (fun _ => ?_)
    refine kl_goto hC rfl rfl ?_
    refine kW_weak (vs := [some (.ref 999), some (.ref 734), some (.ref 0), some (.ref 823), some (.int (nI i)), none, none]) ⟨rfl, rfl, rfl, rfl, rfl, trivial⟩ (K _ _ _ _ ⟨S2, ar2, scv, carv, mr, hG2, rfl, rfl, rfl⟩)
set_option maxHeartbeats 4000000 in
theorem kc_15 {G : kG} {L k n i : Nat} {xs : Nat → Int32} {rf0 : jRf} {sc : jSc} {rf : jRf} {ar : jSc} {al : jAl} (hcat : kCatch) (hP : kPr G L xs) (hO : kL.1 823 = .inr (1, 1)) (hrf0 : rf0 0 = r_rf) (hi : i + 6 ≤ L) (hL : L ≤ 3072) (hR : kRm G 171 (k + 1) (n + 6)) (hJ : kJ rf0 sc rf ar al) (K : ∀ (sc' : jSc) (rf' : jRf) (ar' : jSc) (al' : jAl), kJ rf0 sc' rf' ar' al' → kW G (k + 1) (n + 6) 2131 [some (.ref 999), some (.ref 734), some (.ref 0), some (.ref 823), some (.int (nI i)), none, none] [] sc' rf' ar' al') : kW G k n 912 [some (.ref 999), some (.ref 734), some (.ref 0), some (.ref 823), some (.int (nI i)), none, none] [] sc rf ar al := by
  obtain ⟨hC, hS9, hM, hLt⟩ := hP
  obtain ⟨S, arv, scv, carv, mr, hG, rfl, rfl, rfl⟩ := hJ
  have hR1 := kRm_le (d' := 170) (k' := k + 1) (n' := n + 6) hR (by omega) (by omega) (by omega)
  have hR0 := kRm_le (d' := 171) (k' := k) (n' := n) hR (by omega) (by omega) (by omega)
  have hq : qA (rF_76 S arv) (xF_328 scv mr carv al) := by
    first
    | exact q_crossings hG
    | (obtain ⟨S0, ar0, n0, tx, g, p, m, s, nr, cs, hx⟩ := hG; exact q_crossings hx)
  obtain ⟨v, S2, ar2, sc2, mr2, car2, al2, e1, e0, e2, hG2⟩ := hq
  obtain ⟨al3, hcl, hG3⟩ : ∃ al3 : jAl, kCl 328 [.ref 734] (kSc S scv) (x_mk mr rf0) (kAr arv carv) al (some (.int v)) (kSc S sc2) (x_mk mr2 rf0) (kAr arv car2) al3 ∧ GR S2 ar2 sc2 car2 mr2 al3 := ⟨_, (gW_cls (fun a ha => x_mk_lt ha) ((xt_328 (b := false) (rf := rf0) (d := 166)) _ scv mr carv al v sc2 mr2 car2 al2 e2 ⟨rfl, rfl, rfl, rfl, rfl⟩)), GR_al hG2 (kAl_n (by decide))⟩
  refine kl_widen (k' := k + 1) (n' := n + 6) (by omega) (by omega) ?_
  refine kl_aload_n hC rfl rfl rfl ?_
  refine kl_call hC rfl kk_159 rfl rfl rfl ys_734 yx_328 rfl rfl hR1 (gW_mono hcl (fun r9 s9 f9 a9 l9 e9 => ?_))
  rw [e9.1, e9.2.1, e9.2.2.1, e9.2.2.2.1, e9.2.2.2.2]
  show kW G (k + 1) (n + 6) 916 [some (.ref 999), some (.ref 734), some (.ref 0), some (.ref 823), some (.int (nI i)), none, none] [.int v] (kSc S sc2) (x_mk mr2 rf0) (kAr arv car2) al3
  refine kl_aload_n hC rfl rfl rfl ?_
  refine kl_call hC rfl kk_162 rfl rfl rfl kL_0 rfl rfl rfl hR1 (gW_mono (gW_ref (sc0 := fun _ _ => 0) ((rt_76 (X := gRX) gRX_LK rfl (rf := x_mk mr2 rf0) (x_mk_0 hrf0) (d := 166)) (fun _ _ => 0) (al3) _ S arv v S2 ar2 e1 ⟨rfl, rfl, rfl, rfl, rfl⟩)) (fun r9 s9 f9 a9 l9 e9 => ?_))
  rw [e9.1, e9.2.1, e9.2.2.1, e9.2.2.2.1, e9.2.2.2.2]
  show kW G (k + 1) (n + 6) 920 [some (.ref 999), some (.ref 734), some (.ref 0), some (.ref 823), some (.int (nI i)), none, none] [.int v, .int v] (kSc S2 sc2) (x_mk mr2 rf0) (kAr ar2 car2) al3
  refine kl_ic_eq hC rfl rfl rfl (fun _ => ?_) (fun c => absurd rfl c)
  exact K _ _ _ _ ⟨S2, ar2, sc2, car2, mr2, hG3, rfl, rfl, rfl⟩
set_option maxHeartbeats 4000000 in
theorem kc_16 {G : kG} {L k n i : Nat} {xs : Nat → Int32} {rf0 : jRf} {sc : jSc} {rf : jRf} {ar : jSc} {al : jAl} (hcat : kCatch) (hP : kPr G L xs) (hO : kL.1 823 = .inr (1, 1)) (hrf0 : rf0 0 = r_rf) (hi : i + 6 ≤ L) (hL : L ≤ 3072) (hR : kRm G 171 (k + 1) (n + 6)) (hJ : kJ rf0 sc rf ar al) (K : ∀ (sc' : jSc) (rf' : jRf) (ar' : jSc) (al' : jAl), kJ rf0 sc' rf' ar' al' → kW G (k + 1) (n + 6) 2131 [some (.ref 999), some (.ref 734), some (.ref 0), some (.ref 823), some (.int (nI i)), none, none] [] sc' rf' ar' al') : kW G k n 925 [some (.ref 999), some (.ref 734), some (.ref 0), some (.ref 823), some (.int (nI i)), none, none] [] sc rf ar al := by
  obtain ⟨hC, hS9, hM, hLt⟩ := hP
  obtain ⟨S, arv, scv, carv, mr, hG, rfl, rfl, rfl⟩ := hJ
  have hR1 := kRm_le (d' := 170) (k' := k + 1) (n' := n + 6) hR (by omega) (by omega) (by omega)
  have hR0 := kRm_le (d' := 171) (k' := k) (n' := n) hR (by omega) (by omega) (by omega)
  have hq : qA (rF_77 (xs (i + 1)) S arv) (xF_329 (xs (i + 1)) scv mr carv al) := by
    first
    | exact q_crossing hG
    | (obtain ⟨S0, ar0, n0, tx, g, p, m, s, nr, cs, hx⟩ := hG; exact q_crossing hx)
  obtain ⟨v, S2, ar2, sc2, mr2, car2, al2, e1, e0, e2, hG2⟩ := hq
  obtain ⟨al3, hcl, hG3⟩ : ∃ al3 : jAl, kCl 329 [.ref 734, .int (xs (i + 1))] (kSc S scv) (x_mk mr rf0) (kAr arv carv) al (some (.int v)) (kSc S sc2) (x_mk mr2 rf0) (kAr arv car2) al3 ∧ GR S2 ar2 sc2 car2 mr2 al3 := ⟨_, (gW_cls (fun a ha => x_mk_lt ha) ((xt_329 (b := false) (rf := rf0) (d := 166)) _ (xs (i + 1)) scv mr carv al v sc2 mr2 car2 al2 e2 ⟨rfl, rfl, rfl, rfl, rfl⟩)), GR_al hG2 (kAl_n (by decide))⟩
  refine kl_widen (k' := k + 1) (n' := n + 6) (by omega) (by omega) ?_
  refine kl_aload_n hC rfl rfl rfl ?_
  refine kl_arg 1 hC hS9 rfl rfl rfl rfl rfl (by decide) rfl rfl rfl hi hL rfl ?_
  refine kl_call hC rfl kk_163 rfl rfl rfl ys_734 yx_329 rfl rfl hR1 (gW_mono hcl (fun r9 s9 f9 a9 l9 e9 => ?_))
  rw [e9.1, e9.2.1, e9.2.2.1, e9.2.2.2.1, e9.2.2.2.2]
  show kW G (k + 1) (n + 6) 935 [some (.ref 999), some (.ref 734), some (.ref 0), some (.ref 823), some (.int (nI i)), none, none] [.int v] (kSc S sc2) (x_mk mr2 rf0) (kAr arv car2) al3
  refine kl_aload_n hC rfl rfl rfl ?_
  refine kl_arg 1 hC hS9 rfl rfl rfl rfl rfl (by decide) rfl rfl rfl hi hL rfl ?_
  refine kl_call hC rfl kk_166 rfl rfl rfl kL_0 rfl rfl rfl hR1 (gW_mono (gW_ref (sc0 := fun _ _ => 0) ((rt_77 (X := gRX) gRX_LK rfl (rf := x_mk mr2 rf0) (x_mk_0 hrf0) (d := 166)) (fun _ _ => 0) (al3) _ (xs (i + 1)) S arv v S2 ar2 e1 ⟨rfl, rfl, rfl, rfl, rfl⟩)) (fun r9 s9 f9 a9 l9 e9 => ?_))
  rw [e9.1, e9.2.1, e9.2.2.1, e9.2.2.2.1, e9.2.2.2.2]
  show kW G (k + 1) (n + 6) 945 [some (.ref 999), some (.ref 734), some (.ref 0), some (.ref 823), some (.int (nI i)), none, none] [.int v, .int v] (kSc S2 sc2) (x_mk mr2 rf0) (kAr ar2 car2) al3
  refine kl_ic_eq hC rfl rfl rfl (fun _ => ?_) (fun c => absurd rfl c)
  exact K _ _ _ _ ⟨S2, ar2, sc2, car2, mr2, hG3, rfl, rfl, rfl⟩
set_option maxHeartbeats 4000000 in
theorem kc_17 {G : kG} {L k n i : Nat} {xs : Nat → Int32} {rf0 : jRf} {sc : jSc} {rf : jRf} {ar : jSc} {al : jAl} (hcat : kCatch) (hP : kPr G L xs) (hO : kL.1 823 = .inr (1, 1)) (hrf0 : rf0 0 = r_rf) (hi : i + 6 ≤ L) (hL : L ≤ 3072) (hR : kRm G 171 (k + 1) (n + 6)) (hJ : kJ rf0 sc rf ar al) (K : ∀ (sc' : jSc) (rf' : jRf) (ar' : jSc) (al' : jAl), kJ rf0 sc' rf' ar' al' → kW G (k + 1) (n + 6) 2131 [some (.ref 999), some (.ref 734), some (.ref 0), some (.ref 823), some (.int (nI i)), none, none] [] sc' rf' ar' al') : kW G k n 950 [some (.ref 999), some (.ref 734), some (.ref 0), some (.ref 823), some (.int (nI i)), none, none] [] sc rf ar al := by
  obtain ⟨hC, hS9, hM, hLt⟩ := hP
  obtain ⟨S, arv, scv, carv, mr, hG, rfl, rfl, rfl⟩ := hJ
  have hR1 := kRm_le (d' := 170) (k' := k + 1) (n' := n + 6) hR (by omega) (by omega) (by omega)
  have hR0 := kRm_le (d' := 171) (k' := k) (n' := n) hR (by omega) (by omega) (by omega)
  rcases d_why (rf0 := rf0) (x := (xs (i + 1))) (y := (xs (i + 2))) hG with ⟨v, S2, ar2, sc2, mr2, car2, al2, e1, e0, e2, hG2⟩ | ⟨⟨v, S2, ar2, e1, e0, hG2⟩, he⟩
  · skip
    obtain ⟨al3, hcl, hG3⟩ : ∃ al3 : jAl, kCl 330 [.ref 734, .int (xs (i + 1)), .int (xs (i + 2))] (kSc S scv) (x_mk mr rf0) (kAr arv carv) al (some (.int v)) (kSc S sc2) (x_mk mr2 rf0) (kAr arv car2) al3 ∧ GR S2 ar2 sc2 car2 mr2 al3 := ⟨_, (gW_cls (fun a ha => x_mk_lt ha) ((xt_330 (b := false) (rf := rf0) (d := 167)) _ (xs (i + 1)) (xs (i + 2)) scv mr carv al v sc2 mr2 car2 al2 e2 ⟨rfl, rfl, rfl, rfl, rfl⟩)), GR_al hG2 (kAl_n (by decide))⟩
    refine kl_aload_n hC rfl rfl rfl ?_
    refine kl_arg 1 hC hS9 rfl rfl rfl rfl rfl (by decide) rfl rfl rfl hi hL rfl ?_
    refine kl_arg 2 hC hS9 rfl rfl rfl rfl rfl (by decide) rfl rfl rfl hi hL rfl ?_
    refine kl_aload_n hC rfl rfl rfl ?_
    refine kl_callH hC rfl kk_167 rfl rfl rfl rfl rfl hR0 hM (kMl_of hLt (fun l hl => kh_why (l := l) hl hO hcl)) ?_
    show kW G (k + 1) (n + 6) 967 [some (.ref 999), some (.ref 734), some (.ref 0), some (.ref 823), some (.int (nI i)), none, none] [.int 0] (kSc S sc2) (x_mk mr2 rf0) (kAr arv car2) (j_u2 al3 823 (iN 0) v.toInt64)
    refine kl_istore hC rfl rfl rfl rfl rfl ?_
    refine kl_aload_n hC rfl rfl rfl ?_
    refine kl_arg 1 hC hS9 rfl rfl rfl rfl rfl (by decide) rfl rfl rfl hi hL rfl ?_
    refine kl_arg 2 hC hS9 rfl rfl rfl rfl rfl (by decide) rfl rfl rfl hi hL rfl ?_
    refine kl_call hC rfl kk_169 rfl rfl rfl kL_0 rfl rfl rfl hR1 (gW_mono (gW_ref (sc0 := fun _ _ => 0) ((rt_78 (X := gRX) gRX_LK rfl (rf := x_mk mr2 rf0) (x_mk_0 hrf0) (d := 167)) (fun _ _ => 0) ((j_u2 al3 823 (iN 0) v.toInt64)) _ (xs (i + 1)) (xs (i + 2)) S arv v S2 ar2 e1 ⟨rfl, rfl, rfl, rfl, rfl⟩)) (fun r9 s9 f9 a9 l9 e9 => ?_))
    rw [e9.1, e9.2.1, e9.2.2.1, e9.2.2.2.1, e9.2.2.2.2]
    show kW G (k + 1) (n + 6) 985 [some (.ref 999), some (.ref 734), some (.ref 0), some (.ref 823), some (.int (nI i)), some (.int 0), none] [.int v] (kSc S2 sc2) (x_mk mr2 rf0) (kAr ar2 car2) (j_u2 al3 823 (iN 0) v.toInt64)
    refine kl_istore hC rfl rfl rfl rfl rfl ?_
    refine kl_aload_n hC rfl rfl rfl ?_
    refine kl_call hC rfl kk_109 rfl rfl rfl kL_0 rfl rfl rfl hR1 (gW_mono (gW_ref (sc0 := fun _ _ => 0) ((rt_2 (X := gRX) gRX_LK rfl (rf := x_mk mr2 rf0) (x_mk_0 hrf0) (d := 169)) (fun _ _ => 0) ((j_u2 al3 823 (iN 0) v.toInt64)) _ S2 ar2 (S2 0) S2 ar2 rfl ⟨rfl, rfl, rfl, rfl, rfl⟩)) (fun r9 s9 f9 a9 l9 e9 => ?_))
    rw [e9.1, e9.2.1, e9.2.2.1, e9.2.2.2.1, e9.2.2.2.2, e0]
    show kW G (k + 1) (n + 6) 991 [some (.ref 999), some (.ref 734), some (.ref 0), some (.ref 823), some (.int (nI i)), some (.int 0), some (.int v)] [.int 0] (kSc S2 sc2) (x_mk mr2 rf0) (kAr ar2 car2) (j_u2 al3 823 (iN 0) v.toInt64)
    refine kl_iload hC rfl rfl rfl ?_
    refine kl_ic_eq hC rfl rfl rfl (fun _ => ?_) (fun c => absurd rfl c)
    refine kl_iload hC rfl rfl rfl ?_
    refine kl_if_ne hC rfl rfl rfl (fun _ => ?_) (fun c => absurd rfl c)
    refine kl_aload_n hC rfl rfl rfl ?_
    refine kl_iconst hC rfl ci_0 rfl ?_
    refine kl_laload hC rfl hO (by decide) k_o1 rfl ?_
    refine kl_iload hC rfl rfl rfl ?_
    refine kl_i2l hC rfl rfl ?_
    refine kl_lcmp hC rfl rfl ?_
    refine kl_if_eq hC rfl rfl rfl (fun _ => ?_) (fun c => absurd ((lg_cmp_eq _ _).mpr rfl) c)
    refine kl_goto hC rfl rfl ?_
    refine kW_weak (vs := [some (.ref 999), some (.ref 734), some (.ref 0), some (.ref 823), some (.int (nI i)), none, none]) ⟨rfl, rfl, rfl, rfl, rfl, trivial⟩ (K _ _ _ _ ⟨S2, ar2, sc2, car2, mr2, GR_al hG3 k_o2, rfl, rfl, rfl⟩)
  · skip
    refine kl_aload_n hC rfl rfl rfl ?_
    refine kl_arg 1 hC hS9 rfl rfl rfl rfl rfl (by decide) rfl rfl rfl hi hL rfl ?_
    refine kl_arg 2 hC hS9 rfl rfl rfl rfl rfl (by decide) rfl rfl rfl hi hL rfl ?_
    refine kl_aload_n hC rfl rfl rfl ?_
    refine kl_callH hC rfl kk_167 rfl rfl rfl rfl rfl hR0 hM (kMl_of hLt (fun l hl => kx_why_1 (l := l) hcat hl he)) ?_
    show kW G (k + 1) (n + 6) 967 [some (.ref 999), some (.ref 734), some (.ref 0), some (.ref 823), some (.int (nI i)), none, none] [.int 1] (kSc S scv) (x_mk mr rf0) (kAr arv carv) al
    refine kl_istore hC rfl rfl rfl rfl rfl ?_
    refine kl_aload_n hC rfl rfl rfl ?_
    refine kl_arg 1 hC hS9 rfl rfl rfl rfl rfl (by decide) rfl rfl rfl hi hL rfl ?_
    refine kl_arg 2 hC hS9 rfl rfl rfl rfl rfl (by decide) rfl rfl rfl hi hL rfl ?_
    refine kl_call hC rfl kk_169 rfl rfl rfl kL_0 rfl rfl rfl hR1 (gW_mono (gW_ref (sc0 := fun _ _ => 0) ((rt_78 (X := gRX) gRX_LK rfl (rf := x_mk mr rf0) (x_mk_0 hrf0) (d := 167)) (fun _ _ => 0) (al) _ (xs (i + 1)) (xs (i + 2)) S arv v S2 ar2 e1 ⟨rfl, rfl, rfl, rfl, rfl⟩)) (fun r9 s9 f9 a9 l9 e9 => ?_))
    rw [e9.1, e9.2.1, e9.2.2.1, e9.2.2.2.1, e9.2.2.2.2]
    show kW G (k + 1) (n + 6) 985 [some (.ref 999), some (.ref 734), some (.ref 0), some (.ref 823), some (.int (nI i)), some (.int 1), none] [.int v] (kSc S2 scv) (x_mk mr rf0) (kAr ar2 carv) al
    refine kl_istore hC rfl rfl rfl rfl rfl ?_
    refine kl_aload_n hC rfl rfl rfl ?_
    refine kl_call hC rfl kk_109 rfl rfl rfl kL_0 rfl rfl rfl hR1 (gW_mono (gW_ref (sc0 := fun _ _ => 0) ((rt_2 (X := gRX) gRX_LK rfl (rf := x_mk mr rf0) (x_mk_0 hrf0) (d := 169)) (fun _ _ => 0) (al) _ S2 ar2 (S2 0) S2 ar2 rfl ⟨rfl, rfl, rfl, rfl, rfl⟩)) (fun r9 s9 f9 a9 l9 e9 => ?_))
    rw [e9.1, e9.2.1, e9.2.2.1, e9.2.2.2.1, e9.2.2.2.2, e0]
    show kW G (k + 1) (n + 6) 991 [some (.ref 999), some (.ref 734), some (.ref 0), some (.ref 823), some (.int (nI i)), some (.int 1), some (.int v)] [.int 1] (kSc S2 scv) (x_mk mr rf0) (kAr ar2 carv) al
    refine kl_iload hC rfl rfl rfl ?_
    refine kl_ic_eq hC rfl rfl rfl (fun _ => ?_) (fun c => absurd rfl c)
    refine kl_iload hC rfl rfl rfl ?_
    refine kl_if_ne hC rfl rfl rfl (fun c => absurd c (by decide)) (fun _ => ?_)
    refine kl_goto hC rfl rfl ?_
    refine kW_weak (vs := [some (.ref 999), some (.ref 734), some (.ref 0), some (.ref 823), some (.int (nI i)), none, none]) ⟨rfl, rfl, rfl, rfl, rfl, trivial⟩ (K _ _ _ _ ⟨S2, ar2, scv, carv, mr, hG2, rfl, rfl, rfl⟩)
set_option maxHeartbeats 4000000 in
theorem kc_18 {G : kG} {L k n i : Nat} {xs : Nat → Int32} {rf0 : jRf} {sc : jSc} {rf : jRf} {ar : jSc} {al : jAl} (hcat : kCatch) (hP : kPr G L xs) (hO : kL.1 823 = .inr (1, 1)) (hrf0 : rf0 0 = r_rf) (hi : i + 6 ≤ L) (hL : L ≤ 3072) (hR : kRm G 171 (k + 1) (n + 6)) (hJ : kJ rf0 sc rf ar al) (K : ∀ (sc' : jSc) (rf' : jRf) (ar' : jSc) (al' : jAl), kJ rf0 sc' rf' ar' al' → kW G (k + 1) (n + 6) 2131 [some (.ref 999), some (.ref 734), some (.ref 0), some (.ref 823), some (.int (nI i)), none, none] [] sc' rf' ar' al') : kW G k n 1018 [some (.ref 999), some (.ref 734), some (.ref 0), some (.ref 823), some (.int (nI i)), none, none] [] sc rf ar al := by
  obtain ⟨hC, hS9, hM, hLt⟩ := hP
  obtain ⟨S, arv, scv, carv, mr, hG, rfl, rfl, rfl⟩ := hJ
  have hR1 := kRm_le (d' := 170) (k' := k + 1) (n' := n + 6) hR (by omega) (by omega) (by omega)
  have hR0 := kRm_le (d' := 171) (k' := k) (n' := n) hR (by omega) (by omega) (by omega)
  rcases d_turn (rf0 := rf0) (x := (xs (i + 1))) (y := (xs (i + 2))) hG with ⟨v, S2, ar2, sc2, mr2, car2, al2, e1, e0, e2, hG2⟩ | ⟨⟨v, S2, ar2, e1, e0, hG2⟩, he⟩
  · skip
    obtain ⟨al3, hcl, hG3⟩ : ∃ al3 : jAl, kCl 331 [.ref 734, .int (xs (i + 1)), .int (xs (i + 2))] (kSc S scv) (x_mk mr rf0) (kAr arv carv) al (some (.int v)) (kSc S sc2) (x_mk mr2 rf0) (kAr arv car2) al3 ∧ GR S2 ar2 sc2 car2 mr2 al3 := ⟨_, (gW_cls (fun a ha => x_mk_lt ha) ((xt_331 (b := false) (rf := rf0) (d := 163)) _ (xs (i + 1)) (xs (i + 2)) scv mr carv al v sc2 mr2 car2 al2 e2 ⟨rfl, rfl, rfl, rfl, rfl⟩)), GR_al hG2 (kAl_n (by decide))⟩
    refine kl_aload_n hC rfl rfl rfl ?_
    refine kl_arg 1 hC hS9 rfl rfl rfl rfl rfl (by decide) rfl rfl rfl hi hL rfl ?_
    refine kl_arg 2 hC hS9 rfl rfl rfl rfl rfl (by decide) rfl rfl rfl hi hL rfl ?_
    refine kl_aload_n hC rfl rfl rfl ?_
    refine kl_callH hC rfl kk_170 rfl rfl rfl rfl rfl hR0 hM (kMl_of hLt (fun l hl => kh_turn (l := l) hl hO hcl)) ?_
    show kW G (k + 1) (n + 6) 1035 [some (.ref 999), some (.ref 734), some (.ref 0), some (.ref 823), some (.int (nI i)), none, none] [.int 0] (kSc S sc2) (x_mk mr2 rf0) (kAr arv car2) (j_u2 al3 823 (iN 0) v.toInt64)
    refine kl_istore hC rfl rfl rfl rfl rfl ?_
    refine kl_aload_n hC rfl rfl rfl ?_
    refine kl_arg 1 hC hS9 rfl rfl rfl rfl rfl (by decide) rfl rfl rfl hi hL rfl ?_
    refine kl_arg 2 hC hS9 rfl rfl rfl rfl rfl (by decide) rfl rfl rfl hi hL rfl ?_
    refine kl_call hC rfl kk_172 rfl rfl rfl kL_0 rfl rfl rfl hR1 (gW_mono (gW_ref (sc0 := fun _ _ => 0) ((rt_83 (X := gRX) gRX_LK rfl (rf := x_mk mr2 rf0) (x_mk_0 hrf0) (d := 41)) (fun _ _ => 0) ((j_u2 al3 823 (iN 0) v.toInt64)) _ (xs (i + 1)) (xs (i + 2)) S arv v S2 ar2 e1 ⟨rfl, rfl, rfl, rfl, rfl⟩)) (fun r9 s9 f9 a9 l9 e9 => ?_))
    rw [e9.1, e9.2.1, e9.2.2.1, e9.2.2.2.1, e9.2.2.2.2]
    show kW G (k + 1) (n + 6) 1053 [some (.ref 999), some (.ref 734), some (.ref 0), some (.ref 823), some (.int (nI i)), some (.int 0), none] [.int v] (kSc S2 sc2) (x_mk mr2 rf0) (kAr ar2 car2) (j_u2 al3 823 (iN 0) v.toInt64)
    refine kl_istore hC rfl rfl rfl rfl rfl ?_
    refine kl_aload_n hC rfl rfl rfl ?_
    refine kl_call hC rfl kk_109 rfl rfl rfl kL_0 rfl rfl rfl hR1 (gW_mono (gW_ref (sc0 := fun _ _ => 0) ((rt_2 (X := gRX) gRX_LK rfl (rf := x_mk mr2 rf0) (x_mk_0 hrf0) (d := 169)) (fun _ _ => 0) ((j_u2 al3 823 (iN 0) v.toInt64)) _ S2 ar2 (S2 0) S2 ar2 rfl ⟨rfl, rfl, rfl, rfl, rfl⟩)) (fun r9 s9 f9 a9 l9 e9 => ?_))
    rw [e9.1, e9.2.1, e9.2.2.1, e9.2.2.2.1, e9.2.2.2.2, e0]
    show kW G (k + 1) (n + 6) 1059 [some (.ref 999), some (.ref 734), some (.ref 0), some (.ref 823), some (.int (nI i)), some (.int 0), some (.int v)] [.int 0] (kSc S2 sc2) (x_mk mr2 rf0) (kAr ar2 car2) (j_u2 al3 823 (iN 0) v.toInt64)
    refine kl_iload hC rfl rfl rfl ?_
    refine kl_ic_eq hC rfl rfl rfl (fun _ => ?_) (fun c => absurd rfl c)
    refine kl_iload hC rfl rfl rfl ?_
    refine kl_if_ne hC rfl rfl rfl (fun _ => ?_) (fun c => absurd rfl c)
    refine kl_aload_n hC rfl rfl rfl ?_
    refine kl_iconst hC rfl ci_0 rfl ?_
    refine kl_laload hC rfl hO (by decide) k_o1 rfl ?_
    refine kl_iload hC rfl rfl rfl ?_
    refine kl_i2l hC rfl rfl ?_
    refine kl_lcmp hC rfl rfl ?_
    refine kl_if_eq hC rfl rfl rfl (fun _ => ?_) (fun c => absurd ((lg_cmp_eq _ _).mpr rfl) c)
    refine kl_goto hC rfl rfl ?_
    refine kW_weak (vs := [some (.ref 999), some (.ref 734), some (.ref 0), some (.ref 823), some (.int (nI i)), none, none]) ⟨rfl, rfl, rfl, rfl, rfl, trivial⟩ (K _ _ _ _ ⟨S2, ar2, sc2, car2, mr2, GR_al hG3 k_o2, rfl, rfl, rfl⟩)
  · skip
    refine kl_aload_n hC rfl rfl rfl ?_
    refine kl_arg 1 hC hS9 rfl rfl rfl rfl rfl (by decide) rfl rfl rfl hi hL rfl ?_
    refine kl_arg 2 hC hS9 rfl rfl rfl rfl rfl (by decide) rfl rfl rfl hi hL rfl ?_
    refine kl_aload_n hC rfl rfl rfl ?_
    refine kl_callH hC rfl kk_170 rfl rfl rfl rfl rfl hR0 hM (kMl_of hLt (fun l hl => kx_turn_1 (l := l) hcat hl he)) ?_
    show kW G (k + 1) (n + 6) 1035 [some (.ref 999), some (.ref 734), some (.ref 0), some (.ref 823), some (.int (nI i)), none, none] [.int 1] (kSc S scv) (x_mk mr rf0) (kAr arv carv) al
    refine kl_istore hC rfl rfl rfl rfl rfl ?_
    refine kl_aload_n hC rfl rfl rfl ?_
    refine kl_arg 1 hC hS9 rfl rfl rfl rfl rfl (by decide) rfl rfl rfl hi hL rfl ?_
    refine kl_arg 2 hC hS9 rfl rfl rfl rfl rfl (by decide) rfl rfl rfl hi hL rfl ?_
    refine kl_call hC rfl kk_172 rfl rfl rfl kL_0 rfl rfl rfl hR1 (gW_mono (gW_ref (sc0 := fun _ _ => 0) ((rt_83 (X := gRX) gRX_LK rfl (rf := x_mk mr rf0) (x_mk_0 hrf0) (d := 41)) (fun _ _ => 0) (al) _ (xs (i + 1)) (xs (i + 2)) S arv v S2 ar2 e1 ⟨rfl, rfl, rfl, rfl, rfl⟩)) (fun r9 s9 f9 a9 l9 e9 => ?_))
    rw [e9.1, e9.2.1, e9.2.2.1, e9.2.2.2.1, e9.2.2.2.2]
    show kW G (k + 1) (n + 6) 1053 [some (.ref 999), some (.ref 734), some (.ref 0), some (.ref 823), some (.int (nI i)), some (.int 1), none] [.int v] (kSc S2 scv) (x_mk mr rf0) (kAr ar2 carv) al
    refine kl_istore hC rfl rfl rfl rfl rfl ?_
    refine kl_aload_n hC rfl rfl rfl ?_
    refine kl_call hC rfl kk_109 rfl rfl rfl kL_0 rfl rfl rfl hR1 (gW_mono (gW_ref (sc0 := fun _ _ => 0) ((rt_2 (X := gRX) gRX_LK rfl (rf := x_mk mr rf0) (x_mk_0 hrf0) (d := 169)) (fun _ _ => 0) (al) _ S2 ar2 (S2 0) S2 ar2 rfl ⟨rfl, rfl, rfl, rfl, rfl⟩)) (fun r9 s9 f9 a9 l9 e9 => ?_))
    rw [e9.1, e9.2.1, e9.2.2.1, e9.2.2.2.1, e9.2.2.2.2, e0]
    show kW G (k + 1) (n + 6) 1059 [some (.ref 999), some (.ref 734), some (.ref 0), some (.ref 823), some (.int (nI i)), some (.int 1), some (.int v)] [.int 1] (kSc S2 scv) (x_mk mr rf0) (kAr ar2 carv) al
    refine kl_iload hC rfl rfl rfl ?_
    refine kl_ic_eq hC rfl rfl rfl (fun _ => ?_) (fun c => absurd rfl c)
    refine kl_iload hC rfl rfl rfl ?_
    refine kl_if_ne hC rfl rfl rfl (fun c => absurd c (by decide)) (fun _ => ?_)
    refine kl_goto hC rfl rfl ?_
    refine kW_weak (vs := [some (.ref 999), some (.ref 734), some (.ref 0), some (.ref 823), some (.int (nI i)), none, none]) ⟨rfl, rfl, rfl, rfl, rfl, trivial⟩ (K _ _ _ _ ⟨S2, ar2, scv, carv, mr, hG2, rfl, rfl, rfl⟩)
set_option maxHeartbeats 4000000 in
theorem kc_19 {G : kG} {L k n i : Nat} {xs : Nat → Int32} {rf0 : jRf} {sc : jSc} {rf : jRf} {ar : jSc} {al : jAl} (hcat : kCatch) (hP : kPr G L xs) (hO : kL.1 823 = .inr (1, 1)) (hrf0 : rf0 0 = r_rf) (hi : i + 6 ≤ L) (hL : L ≤ 3072) (hR : kRm G 171 (k + 1) (n + 6)) (hJ : kJ rf0 sc rf ar al) (K : ∀ (sc' : jSc) (rf' : jRf) (ar' : jSc) (al' : jAl), kJ rf0 sc' rf' ar' al' → kW G (k + 1) (n + 6) 2131 [some (.ref 999), some (.ref 734), some (.ref 0), some (.ref 823), some (.int (nI i)), none, none] [] sc' rf' ar' al') : kW G k n 1086 [some (.ref 999), some (.ref 734), some (.ref 0), some (.ref 823), some (.int (nI i)), none, none] [] sc rf ar al := by
  obtain ⟨hC, hS9, hM, hLt⟩ := hP
  obtain ⟨S, arv, scv, carv, mr, hG, rfl, rfl, rfl⟩ := hJ
  have hR1 := kRm_le (d' := 170) (k' := k + 1) (n' := n + 6) hR (by omega) (by omega) (by omega)
  have hR0 := kRm_le (d' := 171) (k' := k) (n' := n) hR (by omega) (by omega) (by omega)
  rcases d_sorts (rf0 := rf0) (x := (xs (i + 1))) hG with ⟨v, S2, ar2, sc2, mr2, car2, al2, e1, e0, e2, hG2⟩ | ⟨⟨v, S2, ar2, e1, e0, hG2⟩, he⟩
  · skip
    obtain ⟨al3, hcl, hG3⟩ : ∃ al3 : jAl, kCl 332 [.ref 734, .int (xs (i + 1))] (kSc S scv) (x_mk mr rf0) (kAr arv carv) al (some (.int v)) (kSc S sc2) (x_mk mr2 rf0) (kAr arv car2) al3 ∧ GR S2 ar2 sc2 car2 mr2 al3 := ⟨_, (gW_cls (fun a ha => x_mk_lt ha) ((xt_332 (b := false) (rf := rf0) (d := 162)) _ (xs (i + 1)) scv mr carv al v sc2 mr2 car2 al2 e2 ⟨rfl, rfl, rfl, rfl, rfl⟩)), GR_al hG2 (kAl_n (by decide))⟩
    refine kl_aload_n hC rfl rfl rfl ?_
    refine kl_arg 1 hC hS9 rfl rfl rfl rfl rfl (by decide) rfl rfl rfl hi hL rfl ?_
    refine kl_aload_n hC rfl rfl rfl ?_
    refine kl_callH hC rfl kk_173 rfl rfl rfl rfl rfl hR0 hM (kMl_of hLt (fun l hl => kh_sorts (l := l) hl hO hcl)) ?_
    show kW G (k + 1) (n + 6) 1097 [some (.ref 999), some (.ref 734), some (.ref 0), some (.ref 823), some (.int (nI i)), none, none] [.int 0] (kSc S sc2) (x_mk mr2 rf0) (kAr arv car2) (j_u2 al3 823 (iN 0) v.toInt64)
    refine kl_istore hC rfl rfl rfl rfl rfl ?_
    refine kl_aload_n hC rfl rfl rfl ?_
    refine kl_arg 1 hC hS9 rfl rfl rfl rfl rfl (by decide) rfl rfl rfl hi hL rfl ?_
    refine kl_call hC rfl kk_175 rfl rfl rfl kL_0 rfl rfl rfl hR1 (gW_mono (gW_ref (sc0 := fun _ _ => 0) ((rt_84 (X := gRX) gRX_LK rfl (rf := x_mk mr2 rf0) (x_mk_0 hrf0) (d := 41)) (fun _ _ => 0) ((j_u2 al3 823 (iN 0) v.toInt64)) _ (xs (i + 1)) S arv v S2 ar2 e1 ⟨rfl, rfl, rfl, rfl, rfl⟩)) (fun r9 s9 f9 a9 l9 e9 => ?_))
    rw [e9.1, e9.2.1, e9.2.2.1, e9.2.2.2.1, e9.2.2.2.2]
    show kW G (k + 1) (n + 6) 1109 [some (.ref 999), some (.ref 734), some (.ref 0), some (.ref 823), some (.int (nI i)), some (.int 0), none] [.int v] (kSc S2 sc2) (x_mk mr2 rf0) (kAr ar2 car2) (j_u2 al3 823 (iN 0) v.toInt64)
    refine kl_istore hC rfl rfl rfl rfl rfl ?_
    refine kl_aload_n hC rfl rfl rfl ?_
    refine kl_call hC rfl kk_109 rfl rfl rfl kL_0 rfl rfl rfl hR1 (gW_mono (gW_ref (sc0 := fun _ _ => 0) ((rt_2 (X := gRX) gRX_LK rfl (rf := x_mk mr2 rf0) (x_mk_0 hrf0) (d := 169)) (fun _ _ => 0) ((j_u2 al3 823 (iN 0) v.toInt64)) _ S2 ar2 (S2 0) S2 ar2 rfl ⟨rfl, rfl, rfl, rfl, rfl⟩)) (fun r9 s9 f9 a9 l9 e9 => ?_))
    rw [e9.1, e9.2.1, e9.2.2.1, e9.2.2.2.1, e9.2.2.2.2, e0]
    show kW G (k + 1) (n + 6) 1115 [some (.ref 999), some (.ref 734), some (.ref 0), some (.ref 823), some (.int (nI i)), some (.int 0), some (.int v)] [.int 0] (kSc S2 sc2) (x_mk mr2 rf0) (kAr ar2 car2) (j_u2 al3 823 (iN 0) v.toInt64)
    refine kl_iload hC rfl rfl rfl ?_
    refine kl_ic_eq hC rfl rfl rfl (fun _ => ?_) (fun c => absurd rfl c)
    refine kl_iload hC rfl rfl rfl ?_
    refine kl_if_ne hC rfl rfl rfl (fun _ => ?_) (fun c => absurd rfl c)
    refine kl_aload_n hC rfl rfl rfl ?_
    refine kl_iconst hC rfl ci_0 rfl ?_
    refine kl_laload hC rfl hO (by decide) k_o1 rfl ?_
    refine kl_iload hC rfl rfl rfl ?_
    refine kl_i2l hC rfl rfl ?_
    refine kl_lcmp hC rfl rfl ?_
    refine kl_if_eq hC rfl rfl rfl (fun _ => ?_) (fun c => absurd ((lg_cmp_eq _ _).mpr rfl) c)
    refine kl_goto hC rfl rfl ?_
    refine kW_weak (vs := [some (.ref 999), some (.ref 734), some (.ref 0), some (.ref 823), some (.int (nI i)), none, none]) ⟨rfl, rfl, rfl, rfl, rfl, trivial⟩ (K _ _ _ _ ⟨S2, ar2, sc2, car2, mr2, GR_al hG3 k_o2, rfl, rfl, rfl⟩)
  · skip
    refine kl_aload_n hC rfl rfl rfl ?_
    refine kl_arg 1 hC hS9 rfl rfl rfl rfl rfl (by decide) rfl rfl rfl hi hL rfl ?_
    refine kl_aload_n hC rfl rfl rfl ?_
    refine kl_callH hC rfl kk_173 rfl rfl rfl rfl rfl hR0 hM (kMl_of hLt (fun l hl => kx_sorts_1 (l := l) hcat hl he)) ?_
    show kW G (k + 1) (n + 6) 1097 [some (.ref 999), some (.ref 734), some (.ref 0), some (.ref 823), some (.int (nI i)), none, none] [.int 1] (kSc S scv) (x_mk mr rf0) (kAr arv carv) al
    refine kl_istore hC rfl rfl rfl rfl rfl ?_
    refine kl_aload_n hC rfl rfl rfl ?_
    refine kl_arg 1 hC hS9 rfl rfl rfl rfl rfl (by decide) rfl rfl rfl hi hL rfl ?_
    refine kl_call hC rfl kk_175 rfl rfl rfl kL_0 rfl rfl rfl hR1 (gW_mono (gW_ref (sc0 := fun _ _ => 0) ((rt_84 (X := gRX) gRX_LK rfl (rf := x_mk mr rf0) (x_mk_0 hrf0) (d := 41)) (fun _ _ => 0) (al) _ (xs (i + 1)) S arv v S2 ar2 e1 ⟨rfl, rfl, rfl, rfl, rfl⟩)) (fun r9 s9 f9 a9 l9 e9 => ?_))
    rw [e9.1, e9.2.1, e9.2.2.1, e9.2.2.2.1, e9.2.2.2.2]
    show kW G (k + 1) (n + 6) 1109 [some (.ref 999), some (.ref 734), some (.ref 0), some (.ref 823), some (.int (nI i)), some (.int 1), none] [.int v] (kSc S2 scv) (x_mk mr rf0) (kAr ar2 carv) al
    refine kl_istore hC rfl rfl rfl rfl rfl ?_
    refine kl_aload_n hC rfl rfl rfl ?_
    refine kl_call hC rfl kk_109 rfl rfl rfl kL_0 rfl rfl rfl hR1 (gW_mono (gW_ref (sc0 := fun _ _ => 0) ((rt_2 (X := gRX) gRX_LK rfl (rf := x_mk mr rf0) (x_mk_0 hrf0) (d := 169)) (fun _ _ => 0) (al) _ S2 ar2 (S2 0) S2 ar2 rfl ⟨rfl, rfl, rfl, rfl, rfl⟩)) (fun r9 s9 f9 a9 l9 e9 => ?_))
    rw [e9.1, e9.2.1, e9.2.2.1, e9.2.2.2.1, e9.2.2.2.2, e0]
    show kW G (k + 1) (n + 6) 1115 [some (.ref 999), some (.ref 734), some (.ref 0), some (.ref 823), some (.int (nI i)), some (.int 1), some (.int v)] [.int 1] (kSc S2 scv) (x_mk mr rf0) (kAr ar2 carv) al
    refine kl_iload hC rfl rfl rfl ?_
    refine kl_ic_eq hC rfl rfl rfl (fun _ => ?_) (fun c => absurd rfl c)
    refine kl_iload hC rfl rfl rfl ?_
    refine kl_if_ne hC rfl rfl rfl (fun c => absurd c (by decide)) (fun _ => ?_)
    refine kl_goto hC rfl rfl ?_
    refine kW_weak (vs := [some (.ref 999), some (.ref 734), some (.ref 0), some (.ref 823), some (.int (nI i)), none, none]) ⟨rfl, rfl, rfl, rfl, rfl, trivial⟩ (K _ _ _ _ ⟨S2, ar2, scv, carv, mr, hG2, rfl, rfl, rfl⟩)
