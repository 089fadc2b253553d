/-! THE LAW's cases. -/
set_option maxHeartbeats 4000000 in
theorem kc_20 {G : kG} {L k n i : Nat} {xs : Nat → Int32} {rf0 : jRf} {sc : jSc} {rf : jRf} {ar : jSc} {al : jAl} (hcat : kCatch) (hP : kPr G L xs) (hO : kL.1 823 = .inr (1, 1)) (hrf0 : rf0 0 = r_rf) (hi : i + 6 ≤ L) (hL : L ≤ 3072) (hR : kRm G 171 (k + 1) (n + 6)) (hJ : kJ rf0 sc rf ar al) (K : ∀ (sc' : jSc) (rf' : jRf) (ar' : jSc) (al' : jAl), kJ rf0 sc' rf' ar' al' → kW G (k + 1) (n + 6) 2131 [some (.ref 999), some (.ref 734), some (.ref 0), some (.ref 823), some (.int (nI i)), none, none] [] sc' rf' ar' al') : kW G k n 1142 [some (.ref 999), some (.ref 734), some (.ref 0), some (.ref 823), some (.int (nI i)), none, none] [] sc rf ar al := by
  obtain ⟨hC, hS9, hM, hLt⟩ := hP
  obtain ⟨S, arv, scv, carv, mr, hG, rfl, rfl, rfl⟩ := hJ
  have hR1 := kRm_le (d' := 170) (k' := k + 1) (n' := n + 6) hR (by omega) (by omega) (by omega)
  have hR0 := kRm_le (d' := 171) (k' := k) (n' := n) hR (by omega) (by omega) (by omega)
  rcases d_worst (rf0 := rf0) (x := (xs (i + 1))) (y := (xs (i + 2))) hG with ⟨v, S2, ar2, sc2, mr2, car2, al2, e1, e0, e2, hG2⟩ | ⟨⟨v, S2, ar2, e1, e0, hG2⟩, he⟩
  · skip
    obtain ⟨al3, hcl, hG3⟩ : ∃ al3 : jAl, kCl 333 [.ref 734, .int (xs (i + 1)), .int (xs (i + 2))] (kSc S scv) (x_mk mr rf0) (kAr arv carv) al (some (.int v)) (kSc S sc2) (x_mk mr2 rf0) (kAr arv car2) al3 ∧ GR S2 ar2 sc2 car2 mr2 al3 := ⟨_, (gW_cls (fun a ha => x_mk_lt ha) ((xt_333 (b := false) (rf := rf0) (d := 163)) _ (xs (i + 1)) (xs (i + 2)) scv mr carv al v sc2 mr2 car2 al2 e2 ⟨rfl, rfl, rfl, rfl, rfl⟩)), GR_al hG2 (kAl_n (by decide))⟩
    refine kl_aload_n hC rfl rfl rfl ?_
    refine kl_arg 1 hC hS9 rfl rfl rfl rfl rfl (by decide) rfl rfl rfl hi hL rfl ?_
    refine kl_arg 2 hC hS9 rfl rfl rfl rfl rfl (by decide) rfl rfl rfl hi hL rfl ?_
    refine kl_aload_n hC rfl rfl rfl ?_
    refine kl_callH hC rfl kk_176 rfl rfl rfl rfl rfl hR0 hM (kMl_of hLt (fun l hl => kh_worst (l := l) hl hO hcl)) ?_
    show kW G (k + 1) (n + 6) 1159 [some (.ref 999), some (.ref 734), some (.ref 0), some (.ref 823), some (.int (nI i)), none, none] [.int 0] (kSc S sc2) (x_mk mr2 rf0) (kAr arv car2) (j_u2 al3 823 (iN 0) v.toInt64)
    refine kl_istore hC rfl rfl rfl rfl rfl ?_
    refine kl_aload_n hC rfl rfl rfl ?_
    refine kl_arg 1 hC hS9 rfl rfl rfl rfl rfl (by decide) rfl rfl rfl hi hL rfl ?_
    refine kl_arg 2 hC hS9 rfl rfl rfl rfl rfl (by decide) rfl rfl rfl hi hL rfl ?_
    refine kl_call hC rfl kk_178 rfl rfl rfl kL_0 rfl rfl rfl hR1 (gW_mono (gW_ref (sc0 := fun _ _ => 0) ((rt_89 (X := gRX) gRX_LK rfl (rf := x_mk mr2 rf0) (x_mk_0 hrf0) (d := 41)) (fun _ _ => 0) ((j_u2 al3 823 (iN 0) v.toInt64)) _ (xs (i + 1)) (xs (i + 2)) S arv v S2 ar2 e1 ⟨rfl, rfl, rfl, rfl, rfl⟩)) (fun r9 s9 f9 a9 l9 e9 => ?_))
    rw [e9.1, e9.2.1, e9.2.2.1, e9.2.2.2.1, e9.2.2.2.2]
    show kW G (k + 1) (n + 6) 1177 [some (.ref 999), some (.ref 734), some (.ref 0), some (.ref 823), some (.int (nI i)), some (.int 0), none] [.int v] (kSc S2 sc2) (x_mk mr2 rf0) (kAr ar2 car2) (j_u2 al3 823 (iN 0) v.toInt64)
    refine kl_istore hC rfl rfl rfl rfl rfl ?_
    refine kl_aload_n hC rfl rfl rfl ?_
    refine kl_call hC rfl kk_109 rfl rfl rfl kL_0 rfl rfl rfl hR1 (gW_mono (gW_ref (sc0 := fun _ _ => 0) ((rt_2 (X := gRX) gRX_LK rfl (rf := x_mk mr2 rf0) (x_mk_0 hrf0) (d := 169)) (fun _ _ => 0) ((j_u2 al3 823 (iN 0) v.toInt64)) _ S2 ar2 (S2 0) S2 ar2 rfl ⟨rfl, rfl, rfl, rfl, rfl⟩)) (fun r9 s9 f9 a9 l9 e9 => ?_))
    rw [e9.1, e9.2.1, e9.2.2.1, e9.2.2.2.1, e9.2.2.2.2, e0]
    show kW G (k + 1) (n + 6) 1183 [some (.ref 999), some (.ref 734), some (.ref 0), some (.ref 823), some (.int (nI i)), some (.int 0), some (.int v)] [.int 0] (kSc S2 sc2) (x_mk mr2 rf0) (kAr ar2 car2) (j_u2 al3 823 (iN 0) v.toInt64)
    refine kl_iload hC rfl rfl rfl ?_
    refine kl_ic_eq hC rfl rfl rfl (fun _ => ?_) (fun c => absurd rfl c)
    refine kl_iload hC rfl rfl rfl ?_
    refine kl_if_ne hC rfl rfl rfl (fun _ => ?_) (fun c => absurd rfl c)
    refine kl_aload_n hC rfl rfl rfl ?_
    refine kl_iconst hC rfl ci_0 rfl ?_
    refine kl_laload hC rfl hO (by decide) k_o1 rfl ?_
    refine kl_iload hC rfl rfl rfl ?_
    refine kl_i2l hC rfl rfl ?_
    refine kl_lcmp hC rfl rfl ?_
    refine kl_if_eq hC rfl rfl rfl (fun _ => ?_) (fun c => absurd ((lg_cmp_eq _ _).mpr rfl) c)
    refine kl_goto hC rfl rfl ?_
    refine kW_weak (vs := [some (.ref 999), some (.ref 734), some (.ref 0), some (.ref 823), some (.int (nI i)), none, none]) ⟨rfl, rfl, rfl, rfl, rfl, trivial⟩ (K _ _ _ _ ⟨S2, ar2, sc2, car2, mr2, GR_al hG3 k_o2, rfl, rfl, rfl⟩)
  · skip
    refine kl_aload_n hC rfl rfl rfl ?_
    refine kl_arg 1 hC hS9 rfl rfl rfl rfl rfl (by decide) rfl rfl rfl hi hL rfl ?_
    refine kl_arg 2 hC hS9 rfl rfl rfl rfl rfl (by decide) rfl rfl rfl hi hL rfl ?_
    refine kl_aload_n hC rfl rfl rfl ?_
    refine kl_callH hC rfl kk_176 rfl rfl rfl rfl rfl hR0 hM (kMl_of hLt (fun l hl => kx_worst_1 (l := l) hcat hl he)) ?_
    show kW G (k + 1) (n + 6) 1159 [some (.ref 999), some (.ref 734), some (.ref 0), some (.ref 823), some (.int (nI i)), none, none] [.int 1] (kSc S scv) (x_mk mr rf0) (kAr arv carv) al
    refine kl_istore hC rfl rfl rfl rfl rfl ?_
    refine kl_aload_n hC rfl rfl rfl ?_
    refine kl_arg 1 hC hS9 rfl rfl rfl rfl rfl (by decide) rfl rfl rfl hi hL rfl ?_
    refine kl_arg 2 hC hS9 rfl rfl rfl rfl rfl (by decide) rfl rfl rfl hi hL rfl ?_
    refine kl_call hC rfl kk_178 rfl rfl rfl kL_0 rfl rfl rfl hR1 (gW_mono (gW_ref (sc0 := fun _ _ => 0) ((rt_89 (X := gRX) gRX_LK rfl (rf := x_mk mr rf0) (x_mk_0 hrf0) (d := 41)) (fun _ _ => 0) (al) _ (xs (i + 1)) (xs (i + 2)) S arv v S2 ar2 e1 ⟨rfl, rfl, rfl, rfl, rfl⟩)) (fun r9 s9 f9 a9 l9 e9 => ?_))
    rw [e9.1, e9.2.1, e9.2.2.1, e9.2.2.2.1, e9.2.2.2.2]
    show kW G (k + 1) (n + 6) 1177 [some (.ref 999), some (.ref 734), some (.ref 0), some (.ref 823), some (.int (nI i)), some (.int 1), none] [.int v] (kSc S2 scv) (x_mk mr rf0) (kAr ar2 carv) al
    refine kl_istore hC rfl rfl rfl rfl rfl ?_
    refine kl_aload_n hC rfl rfl rfl ?_
    refine kl_call hC rfl kk_109 rfl rfl rfl kL_0 rfl rfl rfl hR1 (gW_mono (gW_ref (sc0 := fun _ _ => 0) ((rt_2 (X := gRX) gRX_LK rfl (rf := x_mk mr rf0) (x_mk_0 hrf0) (d := 169)) (fun _ _ => 0) (al) _ S2 ar2 (S2 0) S2 ar2 rfl ⟨rfl, rfl, rfl, rfl, rfl⟩)) (fun r9 s9 f9 a9 l9 e9 => ?_))
    rw [e9.1, e9.2.1, e9.2.2.1, e9.2.2.2.1, e9.2.2.2.2, e0]
    show kW G (k + 1) (n + 6) 1183 [some (.ref 999), some (.ref 734), some (.ref 0), some (.ref 823), some (.int (nI i)), some (.int 1), some (.int v)] [.int 1] (kSc S2 scv) (x_mk mr rf0) (kAr ar2 carv) al
    refine kl_iload hC rfl rfl rfl ?_
    refine kl_ic_eq hC rfl rfl rfl (fun _ => ?_) (fun c => absurd rfl c)
    refine kl_iload hC rfl rfl rfl ?_
    refine kl_if_ne hC rfl rfl rfl (fun c => absurd c (by decide)) (fun _ => ?_)
    refine kl_goto hC rfl rfl ?_
    refine kW_weak (vs := [some (.ref 999), some (.ref 734), some (.ref 0), some (.ref 823), some (.int (nI i)), none, none]) ⟨rfl, rfl, rfl, rfl, rfl, trivial⟩ (K _ _ _ _ ⟨S2, ar2, scv, carv, mr, hG2, rfl, rfl, rfl⟩)
set_option maxHeartbeats 4000000 in
theorem kc_21 {G : kG} {L k n i : Nat} {xs : Nat → Int32} {rf0 : jRf} {sc : jSc} {rf : jRf} {ar : jSc} {al : jAl} (hcat : kCatch) (hP : kPr G L xs) (hO : kL.1 823 = .inr (1, 1)) (hrf0 : rf0 0 = r_rf) (hi : i + 6 ≤ L) (hL : L ≤ 3072) (hR : kRm G 171 (k + 1) (n + 6)) (hJ : kJ rf0 sc rf ar al) (K : ∀ (sc' : jSc) (rf' : jRf) (ar' : jSc) (al' : jAl), kJ rf0 sc' rf' ar' al' → kW G (k + 1) (n + 6) 2131 [some (.ref 999), some (.ref 734), some (.ref 0), some (.ref 823), some (.int (nI i)), none, none] [] sc' rf' ar' al') : kW G k n 1210 [some (.ref 999), some (.ref 734), some (.ref 0), some (.ref 823), some (.int (nI i)), none, none] [] sc rf ar al := by
  obtain ⟨hC, hS9, hM, hLt⟩ := hP
  obtain ⟨S, arv, scv, carv, mr, hG, rfl, rfl, rfl⟩ := hJ
  have hR1 := kRm_le (d' := 170) (k' := k + 1) (n' := n + 6) hR (by omega) (by omega) (by omega)
  have hR0 := kRm_le (d' := 171) (k' := k) (n' := n) hR (by omega) (by omega) (by omega)
  rcases d_step (rf0 := rf0) (x := (xs (i + 1))) (y := (xs (i + 2))) (z := (xs (i + 3))) hG with ⟨v, S2, ar2, sc2, mr2, car2, al2, e1, e0, e2, hG2⟩ | ⟨⟨v, S2, ar2, e1, e0, hG2⟩, he⟩
  · skip
    obtain ⟨al3, hcl, hG3⟩ : ∃ al3 : jAl, kCl 334 [.ref 734, .int (xs (i + 1)), .int (xs (i + 2)), .int (xs (i + 3))] (kSc S scv) (x_mk mr rf0) (kAr arv carv) al (some (.int v)) (kSc S sc2) (x_mk mr2 rf0) (kAr arv car2) al3 ∧ GR S2 ar2 sc2 car2 mr2 al3 := ⟨_, (gW_cls (fun a ha => x_mk_lt ha) ((xt_334 (b := false) (rf := rf0) (d := 163)) _ (xs (i + 1)) (xs (i + 2)) (xs (i + 3)) scv mr carv al v sc2 mr2 car2 al2 e2 ⟨rfl, rfl, rfl, rfl, rfl⟩)), GR_al hG2 (kAl_n (by decide))⟩
    refine kl_aload_n hC rfl rfl rfl ?_
    refine kl_arg 1 hC hS9 rfl rfl rfl rfl rfl (by decide) rfl rfl rfl hi hL rfl ?_
    refine kl_arg 2 hC hS9 rfl rfl rfl rfl rfl (by decide) rfl rfl rfl hi hL rfl ?_
    refine kl_arg 3 hC hS9 rfl rfl rfl rfl rfl (by decide) rfl rfl rfl hi hL rfl ?_
    refine kl_aload_n hC rfl rfl rfl ?_
    refine kl_callH hC rfl kk_179 rfl rfl rfl rfl rfl hR0 hM (kMl_of hLt (fun l hl => kh_step (l := l) hl hO hcl)) ?_
    show kW G (k + 1) (n + 6) 1233 [some (.ref 999), some (.ref 734), some (.ref 0), some (.ref 823), some (.int (nI i)), none, none] [.int 0] (kSc S sc2) (x_mk mr2 rf0) (kAr arv car2) (j_u2 al3 823 (iN 0) v.toInt64)
    refine kl_istore hC rfl rfl rfl rfl rfl ?_
    refine kl_aload_n hC rfl rfl rfl ?_
    refine kl_arg 1 hC hS9 rfl rfl rfl rfl rfl (by decide) rfl rfl rfl hi hL rfl ?_
    refine kl_arg 2 hC hS9 rfl rfl rfl rfl rfl (by decide) rfl rfl rfl hi hL rfl ?_
    refine kl_arg 3 hC hS9 rfl rfl rfl rfl rfl (by decide) rfl rfl rfl hi hL rfl ?_
    refine kl_call hC rfl kk_182 rfl rfl rfl kL_0 rfl rfl rfl hR1 (gW_mono (gW_ref (sc0 := fun _ _ => 0) ((rt_90 (X := gRX) gRX_LK rfl (rf := x_mk mr2 rf0) (x_mk_0 hrf0) (d := 41)) (fun _ _ => 0) ((j_u2 al3 823 (iN 0) v.toInt64)) _ (xs (i + 1)) (xs (i + 2)) (xs (i + 3)) S arv v S2 ar2 e1 ⟨rfl, rfl, rfl, rfl, rfl⟩)) (fun r9 s9 f9 a9 l9 e9 => ?_))
    rw [e9.1, e9.2.1, e9.2.2.1, e9.2.2.2.1, e9.2.2.2.2]
    show kW G (k + 1) (n + 6) 1257 [some (.ref 999), some (.ref 734), some (.ref 0), some (.ref 823), some (.int (nI i)), some (.int 0), none] [.int v] (kSc S2 sc2) (x_mk mr2 rf0) (kAr ar2 car2) (j_u2 al3 823 (iN 0) v.toInt64)
    refine kl_istore hC rfl rfl rfl rfl rfl ?_
    refine kl_aload_n hC rfl rfl rfl ?_
    refine kl_call hC rfl kk_109 rfl rfl rfl kL_0 rfl rfl rfl hR1 (gW_mono (gW_ref (sc0 := fun _ _ => 0) ((rt_2 (X := gRX) gRX_LK rfl (rf := x_mk mr2 rf0) (x_mk_0 hrf0) (d := 169)) (fun _ _ => 0) ((j_u2 al3 823 (iN 0) v.toInt64)) _ S2 ar2 (S2 0) S2 ar2 rfl ⟨rfl, rfl, rfl, rfl, rfl⟩)) (fun r9 s9 f9 a9 l9 e9 => ?_))
    rw [e9.1, e9.2.1, e9.2.2.1, e9.2.2.2.1, e9.2.2.2.2, e0]
    show kW G (k + 1) (n + 6) 1263 [some (.ref 999), some (.ref 734), some (.ref 0), some (.ref 823), some (.int (nI i)), some (.int 0), some (.int v)] [.int 0] (kSc S2 sc2) (x_mk mr2 rf0) (kAr ar2 car2) (j_u2 al3 823 (iN 0) v.toInt64)
    refine kl_iload hC rfl rfl rfl ?_
    refine kl_ic_eq hC rfl rfl rfl (fun _ => ?_) (fun c => absurd rfl c)
    refine kl_iload hC rfl rfl rfl ?_
    refine kl_if_ne hC rfl rfl rfl (fun _ => ?_) (fun c => absurd rfl c)
    refine kl_aload_n hC rfl rfl rfl ?_
    refine kl_iconst hC rfl ci_0 rfl ?_
    refine kl_laload hC rfl hO (by decide) k_o1 rfl ?_
    refine kl_iload hC rfl rfl rfl ?_
    refine kl_i2l hC rfl rfl ?_
    refine kl_lcmp hC rfl rfl ?_
    refine kl_if_eq hC rfl rfl rfl (fun _ => ?_) (fun c => absurd ((lg_cmp_eq _ _).mpr rfl) c)
    refine kl_goto hC rfl rfl ?_
    refine kW_weak (vs := [some (.ref 999), some (.ref 734), some (.ref 0), some (.ref 823), some (.int (nI i)), none, none]) ⟨rfl, rfl, rfl, rfl, rfl, trivial⟩ (K _ _ _ _ ⟨S2, ar2, sc2, car2, mr2, GR_al hG3 k_o2, rfl, rfl, rfl⟩)
  · skip
    refine kl_aload_n hC rfl rfl rfl ?_
    refine kl_arg 1 hC hS9 rfl rfl rfl rfl rfl (by decide) rfl rfl rfl hi hL rfl ?_
    refine kl_arg 2 hC hS9 rfl rfl rfl rfl rfl (by decide) rfl rfl rfl hi hL rfl ?_
    refine kl_arg 3 hC hS9 rfl rfl rfl rfl rfl (by decide) rfl rfl rfl hi hL rfl ?_
    refine kl_aload_n hC rfl rfl rfl ?_
    refine kl_callH hC rfl kk_179 rfl rfl rfl rfl rfl hR0 hM (kMl_of hLt (fun l hl => kx_step_1 (l := l) hcat hl he)) ?_
    show kW G (k + 1) (n + 6) 1233 [some (.ref 999), some (.ref 734), some (.ref 0), some (.ref 823), some (.int (nI i)), none, none] [.int 1] (kSc S scv) (x_mk mr rf0) (kAr arv carv) al
    refine kl_istore hC rfl rfl rfl rfl rfl ?_
    refine kl_aload_n hC rfl rfl rfl ?_
    refine kl_arg 1 hC hS9 rfl rfl rfl rfl rfl (by decide) rfl rfl rfl hi hL rfl ?_
    refine kl_arg 2 hC hS9 rfl rfl rfl rfl rfl (by decide) rfl rfl rfl hi hL rfl ?_
    refine kl_arg 3 hC hS9 rfl rfl rfl rfl rfl (by decide) rfl rfl rfl hi hL rfl ?_
    refine kl_call hC rfl kk_182 rfl rfl rfl kL_0 rfl rfl rfl hR1 (gW_mono (gW_ref (sc0 := fun _ _ => 0) ((rt_90 (X := gRX) gRX_LK rfl (rf := x_mk mr rf0) (x_mk_0 hrf0) (d := 41)) (fun _ _ => 0) (al) _ (xs (i + 1)) (xs (i + 2)) (xs (i + 3)) S arv v S2 ar2 e1 ⟨rfl, rfl, rfl, rfl, rfl⟩)) (fun r9 s9 f9 a9 l9 e9 => ?_))
    rw [e9.1, e9.2.1, e9.2.2.1, e9.2.2.2.1, e9.2.2.2.2]
    show kW G (k + 1) (n + 6) 1257 [some (.ref 999), some (.ref 734), some (.ref 0), some (.ref 823), some (.int (nI i)), some (.int 1), none] [.int v] (kSc S2 scv) (x_mk mr rf0) (kAr ar2 carv) al
    refine kl_istore hC rfl rfl rfl rfl rfl ?_
    refine kl_aload_n hC rfl rfl rfl ?_
    refine kl_call hC rfl kk_109 rfl rfl rfl kL_0 rfl rfl rfl hR1 (gW_mono (gW_ref (sc0 := fun _ _ => 0) ((rt_2 (X := gRX) gRX_LK rfl (rf := x_mk mr rf0) (x_mk_0 hrf0) (d := 169)) (fun _ _ => 0) (al) _ S2 ar2 (S2 0) S2 ar2 rfl ⟨rfl, rfl, rfl, rfl, rfl⟩)) (fun r9 s9 f9 a9 l9 e9 => ?_))
    rw [e9.1, e9.2.1, e9.2.2.1, e9.2.2.2.1, e9.2.2.2.2, e0]
    show kW G (k + 1) (n + 6) 1263 [some (.ref 999), some (.ref 734), some (.ref 0), some (.ref 823), some (.int (nI i)), some (.int 1), some (.int v)] [.int 1] (kSc S2 scv) (x_mk mr rf0) (kAr ar2 carv) al
    refine kl_iload hC rfl rfl rfl ?_
    refine kl_ic_eq hC rfl rfl rfl (fun _ => ?_) (fun c => absurd rfl c)
    refine kl_iload hC rfl rfl rfl ?_
    refine kl_if_ne hC rfl rfl rfl (fun c => absurd c (by decide)) (fun _ => ?_)
    refine kl_goto hC rfl rfl ?_
    refine kW_weak (vs := [some (.ref 999), some (.ref 734), some (.ref 0), some (.ref 823), some (.int (nI i)), none, none]) ⟨rfl, rfl, rfl, rfl, rfl, trivial⟩ (K _ _ _ _ ⟨S2, ar2, scv, carv, mr, hG2, rfl, rfl, rfl⟩)
set_option maxHeartbeats 4000000 in
theorem kc_22 {G : kG} {L k n i : Nat} {xs : Nat → Int32} {rf0 : jRf} {sc : jSc} {rf : jRf} {ar : jSc} {al : jAl} (hcat : kCatch) (hP : kPr G L xs) (hO : kL.1 823 = .inr (1, 1)) (hrf0 : rf0 0 = r_rf) (hi : i + 6 ≤ L) (hL : L ≤ 3072) (hR : kRm G 171 (k + 1) (n + 6)) (hJ : kJ rf0 sc rf ar al) (K : ∀ (sc' : jSc) (rf' : jRf) (ar' : jSc) (al' : jAl), kJ rf0 sc' rf' ar' al' → kW G (k + 1) (n + 6) 2131 [some (.ref 999), some (.ref 734), some (.ref 0), some (.ref 823), some (.int (nI i)), none, none] [] sc' rf' ar' al') : kW G k n 1290 [some (.ref 999), some (.ref 734), some (.ref 0), some (.ref 823), some (.int (nI i)), none, none] [] sc rf ar al := by
  obtain ⟨hC, hS9, hM, hLt⟩ := hP
  obtain ⟨S, arv, scv, carv, mr, hG, rfl, rfl, rfl⟩ := hJ
  have hR1 := kRm_le (d' := 170) (k' := k + 1) (n' := n + 6) hR (by omega) (by omega) (by omega)
  have hR0 := kRm_le (d' := 171) (k' := k) (n' := n) hR (by omega) (by omega) (by omega)
  rcases d_pages (rf0 := rf0) (x := (xs (i + 1))) (y := (xs (i + 2))) hG with ⟨v, S2, ar2, sc2, mr2, car2, al2, e1, e0, e2, hG2⟩ | ⟨⟨v, S2, ar2, e1, e0, hG2⟩, he⟩
  · skip
    obtain ⟨al3, hcl, hG3⟩ : ∃ al3 : jAl, kCl 335 [.ref 734, .int (xs (i + 1)), .int (xs (i + 2))] (kSc S scv) (x_mk mr rf0) (kAr arv carv) al (some (.int v)) (kSc S sc2) (x_mk mr2 rf0) (kAr arv car2) al3 ∧ GR S2 ar2 sc2 car2 mr2 al3 := ⟨_, (gW_cls (fun a ha => x_mk_lt ha) ((xt_335 (b := false) (rf := rf0) (d := 163)) _ (xs (i + 1)) (xs (i + 2)) scv mr carv al v sc2 mr2 car2 al2 e2 ⟨rfl, rfl, rfl, rfl, rfl⟩)), GR_al hG2 (kAl_n (by decide))⟩
    refine kl_aload_n hC rfl rfl rfl ?_
    refine kl_arg 1 hC hS9 rfl rfl rfl rfl rfl (by decide) rfl rfl rfl hi hL rfl ?_
    refine kl_arg 2 hC hS9 rfl rfl rfl rfl rfl (by decide) rfl rfl rfl hi hL rfl ?_
    refine kl_aload_n hC rfl rfl rfl ?_
    refine kl_callH hC rfl kk_183 rfl rfl rfl rfl rfl hR0 hM (kMl_of hLt (fun l hl => kh_pages (l := l) hl hO hcl)) ?_
    show kW G (k + 1) (n + 6) 1307 [some (.ref 999), some (.ref 734), some (.ref 0), some (.ref 823), some (.int (nI i)), none, none] [.int 0] (kSc S sc2) (x_mk mr2 rf0) (kAr arv car2) (j_u2 al3 823 (iN 0) v.toInt64)
    refine kl_istore hC rfl rfl rfl rfl rfl ?_
    refine kl_aload_n hC rfl rfl rfl ?_
    refine kl_arg 1 hC hS9 rfl rfl rfl rfl rfl (by decide) rfl rfl rfl hi hL rfl ?_
    refine kl_arg 2 hC hS9 rfl rfl rfl rfl rfl (by decide) rfl rfl rfl hi hL rfl ?_
    refine kl_call hC rfl kk_185 rfl rfl rfl kL_0 rfl rfl rfl hR1 (gW_mono (gW_ref (sc0 := fun _ _ => 0) ((rt_91 (X := gRX) gRX_LK rfl (rf := x_mk mr2 rf0) (x_mk_0 hrf0) (d := 41)) (fun _ _ => 0) ((j_u2 al3 823 (iN 0) v.toInt64)) _ (xs (i + 1)) (xs (i + 2)) S arv v S2 ar2 e1 ⟨rfl, rfl, rfl, rfl, rfl⟩)) (fun r9 s9 f9 a9 l9 e9 => ?_))
    rw [e9.1, e9.2.1, e9.2.2.1, e9.2.2.2.1, e9.2.2.2.2]
    show kW G (k + 1) (n + 6) 1325 [some (.ref 999), some (.ref 734), some (.ref 0), some (.ref 823), some (.int (nI i)), some (.int 0), none] [.int v] (kSc S2 sc2) (x_mk mr2 rf0) (kAr ar2 car2) (j_u2 al3 823 (iN 0) v.toInt64)
    refine kl_istore hC rfl rfl rfl rfl rfl ?_
    refine kl_aload_n hC rfl rfl rfl ?_
    refine kl_call hC rfl kk_109 rfl rfl rfl kL_0 rfl rfl rfl hR1 (gW_mono (gW_ref (sc0 := fun _ _ => 0) ((rt_2 (X := gRX) gRX_LK rfl (rf := x_mk mr2 rf0) (x_mk_0 hrf0) (d := 169)) (fun _ _ => 0) ((j_u2 al3 823 (iN 0) v.toInt64)) _ S2 ar2 (S2 0) S2 ar2 rfl ⟨rfl, rfl, rfl, rfl, rfl⟩)) (fun r9 s9 f9 a9 l9 e9 => ?_))
    rw [e9.1, e9.2.1, e9.2.2.1, e9.2.2.2.1, e9.2.2.2.2, e0]
    show kW G (k + 1) (n + 6) 1331 [some (.ref 999), some (.ref 734), some (.ref 0), some (.ref 823), some (.int (nI i)), some (.int 0), some (.int v)] [.int 0] (kSc S2 sc2) (x_mk mr2 rf0) (kAr ar2 car2) (j_u2 al3 823 (iN 0) v.toInt64)
    refine kl_iload hC rfl rfl rfl ?_
    refine kl_ic_eq hC rfl rfl rfl (fun _ => ?_) (fun c => absurd rfl c)
    refine kl_iload hC rfl rfl rfl ?_
    refine kl_if_ne hC rfl rfl rfl (fun _ => ?_) (fun c => absurd rfl c)
    refine kl_aload_n hC rfl rfl rfl ?_
    refine kl_iconst hC rfl ci_0 rfl ?_
    refine kl_laload hC rfl hO (by decide) k_o1 rfl ?_
    refine kl_iload hC rfl rfl rfl ?_
    refine kl_i2l hC rfl rfl ?_
    refine kl_lcmp hC rfl rfl ?_
    refine kl_if_eq hC rfl rfl rfl (fun _ => ?_) (fun c => absurd ((lg_cmp_eq _ _).mpr rfl) c)
    refine kl_goto hC rfl rfl ?_
    refine kW_weak (vs := [some (.ref 999), some (.ref 734), some (.ref 0), some (.ref 823), some (.int (nI i)), none, none]) ⟨rfl, rfl, rfl, rfl, rfl, trivial⟩ (K _ _ _ _ ⟨S2, ar2, sc2, car2, mr2, GR_al hG3 k_o2, rfl, rfl, rfl⟩)
  · skip
    refine kl_aload_n hC rfl rfl rfl ?_
    refine kl_arg 1 hC hS9 rfl rfl rfl rfl rfl (by decide) rfl rfl rfl hi hL rfl ?_
    refine kl_arg 2 hC hS9 rfl rfl rfl rfl rfl (by decide) rfl rfl rfl hi hL rfl ?_
    refine kl_aload_n hC rfl rfl rfl ?_
    refine kl_callH hC rfl kk_183 rfl rfl rfl rfl rfl hR0 hM (kMl_of hLt (fun l hl => kx_pages_1 (l := l) hcat hl he)) ?_
    show kW G (k + 1) (n + 6) 1307 [some (.ref 999), some (.ref 734), some (.ref 0), some (.ref 823), some (.int (nI i)), none, none] [.int 1] (kSc S scv) (x_mk mr rf0) (kAr arv carv) al
    refine kl_istore hC rfl rfl rfl rfl rfl ?_
    refine kl_aload_n hC rfl rfl rfl ?_
    refine kl_arg 1 hC hS9 rfl rfl rfl rfl rfl (by decide) rfl rfl rfl hi hL rfl ?_
    refine kl_arg 2 hC hS9 rfl rfl rfl rfl rfl (by decide) rfl rfl rfl hi hL rfl ?_
    refine kl_call hC rfl kk_185 rfl rfl rfl kL_0 rfl rfl rfl hR1 (gW_mono (gW_ref (sc0 := fun _ _ => 0) ((rt_91 (X := gRX) gRX_LK rfl (rf := x_mk mr rf0) (x_mk_0 hrf0) (d := 41)) (fun _ _ => 0) (al) _ (xs (i + 1)) (xs (i + 2)) S arv v S2 ar2 e1 ⟨rfl, rfl, rfl, rfl, rfl⟩)) (fun r9 s9 f9 a9 l9 e9 => ?_))
    rw [e9.1, e9.2.1, e9.2.2.1, e9.2.2.2.1, e9.2.2.2.2]
    show kW G (k + 1) (n + 6) 1325 [some (.ref 999), some (.ref 734), some (.ref 0), some (.ref 823), some (.int (nI i)), some (.int 1), none] [.int v] (kSc S2 scv) (x_mk mr rf0) (kAr ar2 carv) al
    refine kl_istore hC rfl rfl rfl rfl rfl ?_
    refine kl_aload_n hC rfl rfl rfl ?_
    refine kl_call hC rfl kk_109 rfl rfl rfl kL_0 rfl rfl rfl hR1 (gW_mono (gW_ref (sc0 := fun _ _ => 0) ((rt_2 (X := gRX) gRX_LK rfl (rf := x_mk mr rf0) (x_mk_0 hrf0) (d := 169)) (fun _ _ => 0) (al) _ S2 ar2 (S2 0) S2 ar2 rfl ⟨rfl, rfl, rfl, rfl, rfl⟩)) (fun r9 s9 f9 a9 l9 e9 => ?_))
    rw [e9.1, e9.2.1, e9.2.2.1, e9.2.2.2.1, e9.2.2.2.2, e0]
    show kW G (k + 1) (n + 6) 1331 [some (.ref 999), some (.ref 734), some (.ref 0), some (.ref 823), some (.int (nI i)), some (.int 1), some (.int v)] [.int 1] (kSc S2 scv) (x_mk mr rf0) (kAr ar2 carv) al
    refine kl_iload hC rfl rfl rfl ?_
    refine kl_ic_eq hC rfl rfl rfl (fun _ => ?_) (fun c => absurd rfl c)
    refine kl_iload hC rfl rfl rfl ?_
    refine kl_if_ne hC rfl rfl rfl (fun c => absurd c (by decide)) (fun _ => ?_)
    refine kl_goto hC rfl rfl ?_
    refine kW_weak (vs := [some (.ref 999), some (.ref 734), some (.ref 0), some (.ref 823), some (.int (nI i)), none, none]) ⟨rfl, rfl, rfl, rfl, rfl, trivial⟩ (K _ _ _ _ ⟨S2, ar2, scv, carv, mr, hG2, rfl, rfl, rfl⟩)
set_option maxHeartbeats 4000000 in
theorem kc_23 {G : kG} {L k n i : Nat} {xs : Nat → Int32} {rf0 : jRf} {sc : jSc} {rf : jRf} {ar : jSc} {al : jAl} (hcat : kCatch) (hP : kPr G L xs) (hO : kL.1 823 = .inr (1, 1)) (hrf0 : rf0 0 = r_rf) (hi : i + 6 ≤ L) (hL : L ≤ 3072) (hR : kRm G 171 (k + 1) (n + 6)) (hJ : kJ rf0 sc rf ar al) (K : ∀ (sc' : jSc) (rf' : jRf) (ar' : jSc) (al' : jAl), kJ rf0 sc' rf' ar' al' → kW G (k + 1) (n + 6) 2131 [some (.ref 999), some (.ref 734), some (.ref 0), some (.ref 823), some (.int (nI i)), none, none] [] sc' rf' ar' al') : kW G k n 1358 [some (.ref 999), some (.ref 734), some (.ref 0), some (.ref 823), some (.int (nI i)), none, none] [] sc rf ar al := by
  obtain ⟨hC, hS9, hM, hLt⟩ := hP
  obtain ⟨S, arv, scv, carv, mr, hG, rfl, rfl, rfl⟩ := hJ
  have hR1 := kRm_le (d' := 170) (k' := k + 1) (n' := n + 6) hR (by omega) (by omega) (by omega)
  have hR0 := kRm_le (d' := 171) (k' := k) (n' := n) hR (by omega) (by omega) (by omega)
  rcases d_stuck (rf0 := rf0) (x := (xs (i + 1))) (y := (xs (i + 2))) (z := (xs (i + 3))) hG with ⟨v, S2, ar2, sc2, mr2, car2, al2, e1, e0, e2, hG2⟩ | ⟨⟨v, S2, ar2, e1, e0, hG2⟩, he⟩
  · skip
    obtain ⟨al3, hcl, hG3⟩ : ∃ al3 : jAl, kCl 336 [.ref 734, .int (xs (i + 1)), .int (xs (i + 2)), .int (xs (i + 3))] (kSc S scv) (x_mk mr rf0) (kAr arv carv) al (some (.int v)) (kSc S sc2) (x_mk mr2 rf0) (kAr arv car2) al3 ∧ GR S2 ar2 sc2 car2 mr2 al3 := ⟨_, (gW_cls (fun a ha => x_mk_lt ha) ((xt_336 (b := false) (rf := rf0) (d := 84)) _ (xs (i + 1)) (xs (i + 2)) (xs (i + 3)) scv mr carv al v sc2 mr2 car2 al2 e2 ⟨rfl, rfl, rfl, rfl, rfl⟩)), GR_al hG2 (kAl_n (by decide))⟩
    refine kl_aload_n hC rfl rfl rfl ?_
    refine kl_arg 1 hC hS9 rfl rfl rfl rfl rfl (by decide) rfl rfl rfl hi hL rfl ?_
    refine kl_arg 2 hC hS9 rfl rfl rfl rfl rfl (by decide) rfl rfl rfl hi hL rfl ?_
    refine kl_arg 3 hC hS9 rfl rfl rfl rfl rfl (by decide) rfl rfl rfl hi hL rfl ?_
    refine kl_aload_n hC rfl rfl rfl ?_
    refine kl_callH hC rfl kk_186 rfl rfl rfl rfl rfl hR0 hM (kMl_of hLt (fun l hl => kh_stuck (l := l) hl hO hcl)) ?_
    show kW G (k + 1) (n + 6) 1381 [some (.ref 999), some (.ref 734), some (.ref 0), some (.ref 823), some (.int (nI i)), none, none] [.int 0] (kSc S sc2) (x_mk mr2 rf0) (kAr arv car2) (j_u2 al3 823 (iN 0) v.toInt64)
    refine kl_istore hC rfl rfl rfl rfl rfl ?_
    refine kl_aload_n hC rfl rfl rfl ?_
    refine kl_arg 1 hC hS9 rfl rfl rfl rfl rfl (by decide) rfl rfl rfl hi hL rfl ?_
    refine kl_arg 2 hC hS9 rfl rfl rfl rfl rfl (by decide) rfl rfl rfl hi hL rfl ?_
    refine kl_arg 3 hC hS9 rfl rfl rfl rfl rfl (by decide) rfl rfl rfl hi hL rfl ?_
    refine kl_call hC rfl kk_188 rfl rfl rfl kL_0 rfl rfl rfl hR1 (gW_mono (gW_ref (sc0 := fun _ _ => 0) ((rt_94 (X := gRX) gRX_LK rfl (rf := x_mk mr2 rf0) (x_mk_0 hrf0) (d := 2)) (fun _ _ => 0) ((j_u2 al3 823 (iN 0) v.toInt64)) _ (xs (i + 1)) (xs (i + 2)) (xs (i + 3)) S arv v S2 ar2 e1 ⟨rfl, rfl, rfl, rfl, rfl⟩)) (fun r9 s9 f9 a9 l9 e9 => ?_))
    rw [e9.1, e9.2.1, e9.2.2.1, e9.2.2.2.1, e9.2.2.2.2]
    show kW G (k + 1) (n + 6) 1405 [some (.ref 999), some (.ref 734), some (.ref 0), some (.ref 823), some (.int (nI i)), some (.int 0), none] [.int v] (kSc S2 sc2) (x_mk mr2 rf0) (kAr ar2 car2) (j_u2 al3 823 (iN 0) v.toInt64)
    refine kl_istore hC rfl rfl rfl rfl rfl ?_
    refine kl_aload_n hC rfl rfl rfl ?_
    refine kl_call hC rfl kk_109 rfl rfl rfl kL_0 rfl rfl rfl hR1 (gW_mono (gW_ref (sc0 := fun _ _ => 0) ((rt_2 (X := gRX) gRX_LK rfl (rf := x_mk mr2 rf0) (x_mk_0 hrf0) (d := 169)) (fun _ _ => 0) ((j_u2 al3 823 (iN 0) v.toInt64)) _ S2 ar2 (S2 0) S2 ar2 rfl ⟨rfl, rfl, rfl, rfl, rfl⟩)) (fun r9 s9 f9 a9 l9 e9 => ?_))
    rw [e9.1, e9.2.1, e9.2.2.1, e9.2.2.2.1, e9.2.2.2.2, e0]
    show kW G (k + 1) (n + 6) 1411 [some (.ref 999), some (.ref 734), some (.ref 0), some (.ref 823), some (.int (nI i)), some (.int 0), some (.int v)] [.int 0] (kSc S2 sc2) (x_mk mr2 rf0) (kAr ar2 car2) (j_u2 al3 823 (iN 0) v.toInt64)
    refine kl_iload hC rfl rfl rfl ?_
    refine kl_ic_eq hC rfl rfl rfl (fun _ => ?_) (fun c => absurd rfl c)
    refine kl_iload hC rfl rfl rfl ?_
    refine kl_if_ne hC rfl rfl rfl (fun _ => ?_) (fun c => absurd rfl c)
    refine kl_aload_n hC rfl rfl rfl ?_
    refine kl_iconst hC rfl ci_0 rfl ?_
    refine kl_laload hC rfl hO (by decide) k_o1 rfl ?_
    refine kl_iload hC rfl rfl rfl ?_
    refine kl_i2l hC rfl rfl ?_
    refine kl_lcmp hC rfl rfl ?_
    refine kl_if_eq hC rfl rfl rfl (fun _ => ?_) (fun c => absurd ((lg_cmp_eq _ _).mpr rfl) c)
    refine kl_goto hC rfl rfl ?_
    refine kW_weak (vs := [some (.ref 999), some (.ref 734), some (.ref 0), some (.ref 823), some (.int (nI i)), none, none]) ⟨rfl, rfl, rfl, rfl, rfl, trivial⟩ (K _ _ _ _ ⟨S2, ar2, sc2, car2, mr2, GR_al hG3 k_o2, rfl, rfl, rfl⟩)
  · skip
    refine kl_aload_n hC rfl rfl rfl ?_
    refine kl_arg 1 hC hS9 rfl rfl rfl rfl rfl (by decide) rfl rfl rfl hi hL rfl ?_
    refine kl_arg 2 hC hS9 rfl rfl rfl rfl rfl (by decide) rfl rfl rfl hi hL rfl ?_
    refine kl_arg 3 hC hS9 rfl rfl rfl rfl rfl (by decide) rfl rfl rfl hi hL rfl ?_
    refine kl_aload_n hC rfl rfl rfl ?_
    refine kl_callH hC rfl kk_186 rfl rfl rfl rfl rfl hR0 hM (kMl_of hLt (fun l hl => kx_stuck_1 (l := l) hcat hl he)) ?_
    show kW G (k + 1) (n + 6) 1381 [some (.ref 999), some (.ref 734), some (.ref 0), some (.ref 823), some (.int (nI i)), none, none] [.int 1] (kSc S scv) (x_mk mr rf0) (kAr arv carv) al
    refine kl_istore hC rfl rfl rfl rfl rfl ?_
    refine kl_aload_n hC rfl rfl rfl ?_
    refine kl_arg 1 hC hS9 rfl rfl rfl rfl rfl (by decide) rfl rfl rfl hi hL rfl ?_
    refine kl_arg 2 hC hS9 rfl rfl rfl rfl rfl (by decide) rfl rfl rfl hi hL rfl ?_
    refine kl_arg 3 hC hS9 rfl rfl rfl rfl rfl (by decide) rfl rfl rfl hi hL rfl ?_
    refine kl_call hC rfl kk_188 rfl rfl rfl kL_0 rfl rfl rfl hR1 (gW_mono (gW_ref (sc0 := fun _ _ => 0) ((rt_94 (X := gRX) gRX_LK rfl (rf := x_mk mr rf0) (x_mk_0 hrf0) (d := 2)) (fun _ _ => 0) (al) _ (xs (i + 1)) (xs (i + 2)) (xs (i + 3)) S arv v S2 ar2 e1 ⟨rfl, rfl, rfl, rfl, rfl⟩)) (fun r9 s9 f9 a9 l9 e9 => ?_))
    rw [e9.1, e9.2.1, e9.2.2.1, e9.2.2.2.1, e9.2.2.2.2]
    show kW G (k + 1) (n + 6) 1405 [some (.ref 999), some (.ref 734), some (.ref 0), some (.ref 823), some (.int (nI i)), some (.int 1), none] [.int v] (kSc S2 scv) (x_mk mr rf0) (kAr ar2 carv) al
    refine kl_istore hC rfl rfl rfl rfl rfl ?_
    refine kl_aload_n hC rfl rfl rfl ?_
    refine kl_call hC rfl kk_109 rfl rfl rfl kL_0 rfl rfl rfl hR1 (gW_mono (gW_ref (sc0 := fun _ _ => 0) ((rt_2 (X := gRX) gRX_LK rfl (rf := x_mk mr rf0) (x_mk_0 hrf0) (d := 169)) (fun _ _ => 0) (al) _ S2 ar2 (S2 0) S2 ar2 rfl ⟨rfl, rfl, rfl, rfl, rfl⟩)) (fun r9 s9 f9 a9 l9 e9 => ?_))
    rw [e9.1, e9.2.1, e9.2.2.1, e9.2.2.2.1, e9.2.2.2.2, e0]
    show kW G (k + 1) (n + 6) 1411 [some (.ref 999), some (.ref 734), some (.ref 0), some (.ref 823), some (.int (nI i)), some (.int 1), some (.int v)] [.int 1] (kSc S2 scv) (x_mk mr rf0) (kAr ar2 carv) al
    refine kl_iload hC rfl rfl rfl ?_
    refine kl_ic_eq hC rfl rfl rfl (fun _ => ?_) (fun c => absurd rfl c)
    refine kl_iload hC rfl rfl rfl ?_
    refine kl_if_ne hC rfl rfl rfl (fun c => absurd c (by decide)) (fun _ => ?_)
    refine kl_goto hC rfl rfl ?_
    refine kW_weak (vs := [some (.ref 999), some (.ref 734), some (.ref 0), some (.ref 823), some (.int (nI i)), none, none]) ⟨rfl, rfl, rfl, rfl, rfl, trivial⟩ (K _ _ _ _ ⟨S2, ar2, scv, carv, mr, hG2, rfl, rfl, rfl⟩)
set_option maxHeartbeats 4000000 in
theorem kc_24 {G : kG} {L k n i : Nat} {xs : Nat → Int32} {rf0 : jRf} {sc : jSc} {rf : jRf} {ar : jSc} {al : jAl} (hcat : kCatch) (hP : kPr G L xs) (hO : kL.1 823 = .inr (1, 1)) (hrf0 : rf0 0 = r_rf) (hi : i + 6 ≤ L) (hL : L ≤ 3072) (hR : kRm G 171 (k + 1) (n + 6)) (hJ : kJ rf0 sc rf ar al) (K : ∀ (sc' : jSc) (rf' : jRf) (ar' : jSc) (al' : jAl), kJ rf0 sc' rf' ar' al' → kW G (k + 1) (n + 6) 2131 [some (.ref 999), some (.ref 734), some (.ref 0), some (.ref 823), some (.int (nI i)), none, none] [] sc' rf' ar' al') : kW G k n 1438 [some (.ref 999), some (.ref 734), some (.ref 0), some (.ref 823), some (.int (nI i)), none, none] [] sc rf ar al := by
  obtain ⟨hC, hS9, hM, hLt⟩ := hP
  obtain ⟨S, arv, scv, carv, mr, hG, rfl, rfl, rfl⟩ := hJ
  have hR1 := kRm_le (d' := 170) (k' := k + 1) (n' := n + 6) hR (by omega) (by omega) (by omega)
  have hR0 := kRm_le (d' := 171) (k' := k) (n' := n) hR (by omega) (by omega) (by omega)
  rcases d_tell (rf0 := rf0) (x := (xs (i + 1))) hG with ⟨v, S2, ar2, sc2, mr2, car2, al2, e1, e0, e2, hG2⟩ | ⟨⟨v, S2, ar2, e1, e0, hG2⟩, he⟩
  · skip
    obtain ⟨al3, hcl, hG3⟩ : ∃ al3 : jAl, kCl 337 [.ref 734, .int (xs (i + 1))] (kSc S scv) (x_mk mr rf0) (kAr arv carv) al (some (.int v)) (kSc S sc2) (x_mk mr2 rf0) (kAr arv car2) al3 ∧ GR S2 ar2 sc2 car2 mr2 al3 := ⟨_, (gW_cls (fun a ha => x_mk_lt ha) ((xt_337 (b := false) (rf := rf0) (d := 168)) _ (xs (i + 1)) scv mr carv al v sc2 mr2 car2 al2 e2 ⟨rfl, rfl, rfl, rfl, rfl⟩)), GR_al hG2 (kAl_n (by decide))⟩
    refine kl_aload_n hC rfl rfl rfl ?_
    refine kl_arg 1 hC hS9 rfl rfl rfl rfl rfl (by decide) rfl rfl rfl hi hL rfl ?_
    refine kl_aload_n hC rfl rfl rfl ?_
    refine kl_callH hC rfl kk_189 rfl rfl rfl rfl rfl hR0 hM (kMl_of hLt (fun l hl => kh_tell (l := l) hl hO hcl)) ?_
    show kW G (k + 1) (n + 6) 1449 [some (.ref 999), some (.ref 734), some (.ref 0), some (.ref 823), some (.int (nI i)), none, none] [.int 0] (kSc S sc2) (x_mk mr2 rf0) (kAr arv car2) (j_u2 al3 823 (iN 0) v.toInt64)
    refine kl_istore hC rfl rfl rfl rfl rfl ?_
    refine kl_aload_n hC rfl rfl rfl ?_
    refine kl_arg 1 hC hS9 rfl rfl rfl rfl rfl (by decide) rfl rfl rfl hi hL rfl ?_
    refine kl_call hC rfl kk_191 rfl rfl rfl kL_0 rfl rfl rfl hR1 (gW_mono (gW_ref (sc0 := fun _ _ => 0) ((rt_95 (X := gRX) gRX_LK rfl (rf := x_mk mr2 rf0) (x_mk_0 hrf0) (d := 168)) (fun _ _ => 0) ((j_u2 al3 823 (iN 0) v.toInt64)) _ (xs (i + 1)) S arv v S2 ar2 e1 ⟨rfl, rfl, rfl, rfl, rfl⟩)) (fun r9 s9 f9 a9 l9 e9 => ?_))
    rw [e9.1, e9.2.1, e9.2.2.1, e9.2.2.2.1, e9.2.2.2.2]
    show kW G (k + 1) (n + 6) 1461 [some (.ref 999), some (.ref 734), some (.ref 0), some (.ref 823), some (.int (nI i)), some (.int 0), none] [.int v] (kSc S2 sc2) (x_mk mr2 rf0) (kAr ar2 car2) (j_u2 al3 823 (iN 0) v.toInt64)
    refine kl_istore hC rfl rfl rfl rfl rfl ?_
    refine kl_aload_n hC rfl rfl rfl ?_
    refine kl_call hC rfl kk_109 rfl rfl rfl kL_0 rfl rfl rfl hR1 (gW_mono (gW_ref (sc0 := fun _ _ => 0) ((rt_2 (X := gRX) gRX_LK rfl (rf := x_mk mr2 rf0) (x_mk_0 hrf0) (d := 169)) (fun _ _ => 0) ((j_u2 al3 823 (iN 0) v.toInt64)) _ S2 ar2 (S2 0) S2 ar2 rfl ⟨rfl, rfl, rfl, rfl, rfl⟩)) (fun r9 s9 f9 a9 l9 e9 => ?_))
    rw [e9.1, e9.2.1, e9.2.2.1, e9.2.2.2.1, e9.2.2.2.2, e0]
    show kW G (k + 1) (n + 6) 1467 [some (.ref 999), some (.ref 734), some (.ref 0), some (.ref 823), some (.int (nI i)), some (.int 0), some (.int v)] [.int 0] (kSc S2 sc2) (x_mk mr2 rf0) (kAr ar2 car2) (j_u2 al3 823 (iN 0) v.toInt64)
    refine kl_iload hC rfl rfl rfl ?_
    refine kl_ic_eq hC rfl rfl rfl (fun _ => ?_) (fun c => absurd rfl c)
    refine kl_iload hC rfl rfl rfl ?_
    refine kl_if_ne hC rfl rfl rfl (fun _ => ?_) (fun c => absurd rfl c)
    refine kl_aload_n hC rfl rfl rfl ?_
    refine kl_iconst hC rfl ci_0 rfl ?_
    refine kl_laload hC rfl hO (by decide) k_o1 rfl ?_
    refine kl_iload hC rfl rfl rfl ?_
    refine kl_i2l hC rfl rfl ?_
    refine kl_lcmp hC rfl rfl ?_
    refine kl_if_eq hC rfl rfl rfl (fun _ => ?_) (fun c => absurd ((lg_cmp_eq _ _).mpr rfl) c)
    refine kl_goto hC rfl rfl ?_
    refine kW_weak (vs := [some (.ref 999), some (.ref 734), some (.ref 0), some (.ref 823), some (.int (nI i)), none, none]) ⟨rfl, rfl, rfl, rfl, rfl, trivial⟩ (K _ _ _ _ ⟨S2, ar2, sc2, car2, mr2, GR_al hG3 k_o2, rfl, rfl, rfl⟩)
  · skip
    refine kl_aload_n hC rfl rfl rfl ?_
    refine kl_arg 1 hC hS9 rfl rfl rfl rfl rfl (by decide) rfl rfl rfl hi hL rfl ?_
    refine kl_aload_n hC rfl rfl rfl ?_
    refine kl_callH hC rfl kk_189 rfl rfl rfl rfl rfl hR0 hM (kMl_of hLt (fun l hl => kx_tell_1 (l := l) hcat hl he)) ?_
    show kW G (k + 1) (n + 6) 1449 [some (.ref 999), some (.ref 734), some (.ref 0), some (.ref 823), some (.int (nI i)), none, none] [.int 1] (kSc S scv) (x_mk mr rf0) (kAr arv carv) al
    refine kl_istore hC rfl rfl rfl rfl rfl ?_
    refine kl_aload_n hC rfl rfl rfl ?_
    refine kl_arg 1 hC hS9 rfl rfl rfl rfl rfl (by decide) rfl rfl rfl hi hL rfl ?_
    refine kl_call hC rfl kk_191 rfl rfl rfl kL_0 rfl rfl rfl hR1 (gW_mono (gW_ref (sc0 := fun _ _ => 0) ((rt_95 (X := gRX) gRX_LK rfl (rf := x_mk mr rf0) (x_mk_0 hrf0) (d := 168)) (fun _ _ => 0) (al) _ (xs (i + 1)) S arv v S2 ar2 e1 ⟨rfl, rfl, rfl, rfl, rfl⟩)) (fun r9 s9 f9 a9 l9 e9 => ?_))
    rw [e9.1, e9.2.1, e9.2.2.1, e9.2.2.2.1, e9.2.2.2.2]
    show kW G (k + 1) (n + 6) 1461 [some (.ref 999), some (.ref 734), some (.ref 0), some (.ref 823), some (.int (nI i)), some (.int 1), none] [.int v] (kSc S2 scv) (x_mk mr rf0) (kAr ar2 carv) al
    refine kl_istore hC rfl rfl rfl rfl rfl ?_
    refine kl_aload_n hC rfl rfl rfl ?_
    refine kl_call hC rfl kk_109 rfl rfl rfl kL_0 rfl rfl rfl hR1 (gW_mono (gW_ref (sc0 := fun _ _ => 0) ((rt_2 (X := gRX) gRX_LK rfl (rf := x_mk mr rf0) (x_mk_0 hrf0) (d := 169)) (fun _ _ => 0) (al) _ S2 ar2 (S2 0) S2 ar2 rfl ⟨rfl, rfl, rfl, rfl, rfl⟩)) (fun r9 s9 f9 a9 l9 e9 => ?_))
    rw [e9.1, e9.2.1, e9.2.2.1, e9.2.2.2.1, e9.2.2.2.2, e0]
    show kW G (k + 1) (n + 6) 1467 [some (.ref 999), some (.ref 734), some (.ref 0), some (.ref 823), some (.int (nI i)), some (.int 1), some (.int v)] [.int 1] (kSc S2 scv) (x_mk mr rf0) (kAr ar2 carv) al
    refine kl_iload hC rfl rfl rfl ?_
    refine kl_ic_eq hC rfl rfl rfl (fun _ => ?_) (fun c => absurd rfl c)
    refine kl_iload hC rfl rfl rfl ?_
    refine kl_if_ne hC rfl rfl rfl (fun c => absurd c (by decide)) (fun _ => ?_)
    refine kl_goto hC rfl rfl ?_
    refine kW_weak (vs := [some (.ref 999), some (.ref 734), some (.ref 0), some (.ref 823), some (.int (nI i)), none, none]) ⟨rfl, rfl, rfl, rfl, rfl, trivial⟩ (K _ _ _ _ ⟨S2, ar2, scv, carv, mr, hG2, rfl, rfl, rfl⟩)
set_option maxHeartbeats 4000000 in
theorem kc_25 {G : kG} {L k n i : Nat} {xs : Nat → Int32} {rf0 : jRf} {sc : jSc} {rf : jRf} {ar : jSc} {al : jAl} (hcat : kCatch) (hP : kPr G L xs) (hO : kL.1 823 = .inr (1, 1)) (hrf0 : rf0 0 = r_rf) (hi : i + 6 ≤ L) (hL : L ≤ 3072) (hR : kRm G 171 (k + 1) (n + 6)) (hJ : kJ rf0 sc rf ar al) (K : ∀ (sc' : jSc) (rf' : jRf) (ar' : jSc) (al' : jAl), kJ rf0 sc' rf' ar' al' → kW G (k + 1) (n + 6) 2131 [some (.ref 999), some (.ref 734), some (.ref 0), some (.ref 823), some (.int (nI i)), none, none] [] sc' rf' ar' al') : kW G k n 1494 [some (.ref 999), some (.ref 734), some (.ref 0), some (.ref 823), some (.int (nI i)), none, none] [] sc rf ar al := by
  obtain ⟨hC, hS9, hM, hLt⟩ := hP
  obtain ⟨S, arv, scv, carv, mr, hG, rfl, rfl, rfl⟩ := hJ
  have hR1 := kRm_le (d' := 170) (k' := k + 1) (n' := n + 6) hR (by omega) (by omega) (by omega)
  have hR0 := kRm_le (d' := 171) (k' := k) (n' := n) hR (by omega) (by omega) (by omega)
  have hq : qA (rF_96 S arv) (xF_338 scv mr carv al) := by
    first
    | exact q_clear hG
    | (obtain ⟨S0, ar0, n0, tx, g, p, m, s, nr, cs, hx⟩ := hG; exact q_clear hx)
  obtain ⟨v, S2, ar2, sc2, mr2, car2, al2, e1, e0, e2, hG2⟩ := hq
  obtain ⟨al3, hcl, hG3⟩ : ∃ al3 : jAl, kCl 338 [.ref 734] (kSc S scv) (x_mk mr rf0) (kAr arv carv) al (some (.int v)) (kSc S sc2) (x_mk mr2 rf0) (kAr arv car2) al3 ∧ GR S2 ar2 sc2 car2 mr2 al3 := ⟨_, (gW_cls (fun a ha => x_mk_lt ha) ((xt_338 (b := false) (rf := rf0) (d := 169)) _ scv mr carv al v sc2 mr2 car2 al2 e2 ⟨rfl, rfl, rfl, rfl, rfl⟩)), GR_al hG2 (kAl_n (by decide))⟩
  refine kl_widen (k' := k + 1) (n' := n + 6) (by omega) (by omega) ?_
  refine kl_aload_n hC rfl rfl rfl ?_
  refine kl_call hC rfl kk_192 rfl rfl rfl ys_734 yx_338 rfl rfl hR1 (gW_mono hcl (fun r9 s9 f9 a9 l9 e9 => ?_))
  rw [e9.1, e9.2.1, e9.2.2.1, e9.2.2.2.1, e9.2.2.2.2]
  show kW G (k + 1) (n + 6) 1498 [some (.ref 999), some (.ref 734), some (.ref 0), some (.ref 823), some (.int (nI i)), none, none] [.int v] (kSc S sc2) (x_mk mr2 rf0) (kAr arv car2) al3
  refine kl_aload_n hC rfl rfl rfl ?_
  refine kl_call hC rfl kk_195 rfl rfl rfl kL_0 rfl rfl rfl hR1 (gW_mono (gW_ref (sc0 := fun _ _ => 0) ((rt_96 (X := gRX) gRX_LK rfl (rf := x_mk mr2 rf0) (x_mk_0 hrf0) (d := 169)) (fun _ _ => 0) (al3) _ S arv v S2 ar2 e1 ⟨rfl, rfl, rfl, rfl, rfl⟩)) (fun r9 s9 f9 a9 l9 e9 => ?_))
  rw [e9.1, e9.2.1, e9.2.2.1, e9.2.2.2.1, e9.2.2.2.2]
  show kW G (k + 1) (n + 6) 1502 [some (.ref 999), some (.ref 734), some (.ref 0), some (.ref 823), some (.int (nI i)), none, none] [.int v, .int v] (kSc S2 sc2) (x_mk mr2 rf0) (kAr ar2 car2) al3
  refine kl_ic_eq hC rfl rfl rfl (fun _ => ?_) (fun c => absurd rfl c)
  exact K _ _ _ _ ⟨S2, ar2, sc2, car2, mr2, hG3, rfl, rfl, rfl⟩
set_option maxHeartbeats 4000000 in
theorem kc_26 {G : kG} {L k n i : Nat} {xs : Nat → Int32} {rf0 : jRf} {sc : jSc} {rf : jRf} {ar : jSc} {al : jAl} (hcat : kCatch) (hP : kPr G L xs) (hO : kL.1 823 = .inr (1, 1)) (hrf0 : rf0 0 = r_rf) (hi : i + 6 ≤ L) (hL : L ≤ 3072) (hR : kRm G 171 (k + 1) (n + 6)) (hJ : kJ rf0 sc rf ar al) (K : ∀ (sc' : jSc) (rf' : jRf) (ar' : jSc) (al' : jAl), kJ rf0 sc' rf' ar' al' → kW G (k + 1) (n + 6) 2131 [some (.ref 999), some (.ref 734), some (.ref 0), some (.ref 823), some (.int (nI i)), none, none] [] sc' rf' ar' al') : kW G k n 1507 [some (.ref 999), some (.ref 734), some (.ref 0), some (.ref 823), some (.int (nI i)), none, none] [] sc rf ar al := by
  obtain ⟨hC, hS9, hM, hLt⟩ := hP
  obtain ⟨S, arv, scv, carv, mr, hG, rfl, rfl, rfl⟩ := hJ
  have hR1 := kRm_le (d' := 170) (k' := k + 1) (n' := n + 6) hR (by omega) (by omega) (by omega)
  have hR0 := kRm_le (d' := 171) (k' := k) (n' := n) hR (by omega) (by omega) (by omega)
  have hq : qA (rF_97 S arv) (xF_339 scv mr carv al) := by
    first
    | exact q_record hG
    | (obtain ⟨S0, ar0, n0, tx, g, p, m, s, nr, cs, hx⟩ := hG; exact q_record hx)
  obtain ⟨v, S2, ar2, sc2, mr2, car2, al2, e1, e0, e2, hG2⟩ := hq
  obtain ⟨al3, hcl, hG3⟩ : ∃ al3 : jAl, kCl 339 [.ref 734] (kSc S scv) (x_mk mr rf0) (kAr arv carv) al (some (.int v)) (kSc S sc2) (x_mk mr2 rf0) (kAr arv car2) al3 ∧ GR S2 ar2 sc2 car2 mr2 al3 := ⟨_, (gW_cls (fun a ha => x_mk_lt ha) ((xt_339 (b := false) (rf := rf0) (d := 164)) _ scv mr carv al v sc2 mr2 car2 al2 e2 ⟨rfl, rfl, rfl, rfl, rfl⟩)), GR_al hG2 (kAl_n (by decide))⟩
  refine kl_widen (k' := k + 1) (n' := n + 6) (by omega) (by omega) ?_
  refine kl_aload_n hC rfl rfl rfl ?_
  refine kl_call hC rfl kk_196 rfl rfl rfl ys_734 yx_339 rfl rfl hR1 (gW_mono hcl (fun r9 s9 f9 a9 l9 e9 => ?_))
  rw [e9.1, e9.2.1, e9.2.2.1, e9.2.2.2.1, e9.2.2.2.2]
  show kW G (k + 1) (n + 6) 1511 [some (.ref 999), some (.ref 734), some (.ref 0), some (.ref 823), some (.int (nI i)), none, none] [.int v] (kSc S sc2) (x_mk mr2 rf0) (kAr arv car2) al3
  refine kl_aload_n hC rfl rfl rfl ?_
  refine kl_call hC rfl kk_199 rfl rfl rfl kL_0 rfl rfl rfl hR1 (gW_mono (gW_ref (sc0 := fun _ _ => 0) ((rt_97 (X := gRX) gRX_LK rfl (rf := x_mk mr2 rf0) (x_mk_0 hrf0) (d := 42)) (fun _ _ => 0) (al3) _ S arv v S2 ar2 e1 ⟨rfl, rfl, rfl, rfl, rfl⟩)) (fun r9 s9 f9 a9 l9 e9 => ?_))
  rw [e9.1, e9.2.1, e9.2.2.1, e9.2.2.2.1, e9.2.2.2.2]
  show kW G (k + 1) (n + 6) 1515 [some (.ref 999), some (.ref 734), some (.ref 0), some (.ref 823), some (.int (nI i)), none, none] [.int v, .int v] (kSc S2 sc2) (x_mk mr2 rf0) (kAr ar2 car2) al3
  refine kl_ic_eq hC rfl rfl rfl (fun _ => ?_) (fun c => absurd rfl c)
  exact K _ _ _ _ ⟨S2, ar2, sc2, car2, mr2, hG3, rfl, rfl, rfl⟩
set_option maxHeartbeats 4000000 in
theorem kc_27 {G : kG} {L k n i : Nat} {xs : Nat → Int32} {rf0 : jRf} {sc : jSc} {rf : jRf} {ar : jSc} {al : jAl} (hcat : kCatch) (hP : kPr G L xs) (hO : kL.1 823 = .inr (1, 1)) (hrf0 : rf0 0 = r_rf) (hi : i + 6 ≤ L) (hL : L ≤ 3072) (hR : kRm G 171 (k + 1) (n + 6)) (hJ : kJ rf0 sc rf ar al) (K : ∀ (sc' : jSc) (rf' : jRf) (ar' : jSc) (al' : jAl), kJ rf0 sc' rf' ar' al' → kW G (k + 1) (n + 6) 2131 [some (.ref 999), some (.ref 734), some (.ref 0), some (.ref 823), some (.int (nI i)), none, none] [] sc' rf' ar' al') : kW G k n 1520 [some (.ref 999), some (.ref 734), some (.ref 0), some (.ref 823), some (.int (nI i)), none, none] [] sc rf ar al := by
  obtain ⟨hC, hS9, hM, hLt⟩ := hP
  obtain ⟨S, arv, scv, carv, mr, hG, rfl, rfl, rfl⟩ := hJ
  have hR1 := kRm_le (d' := 170) (k' := k + 1) (n' := n + 6) hR (by omega) (by omega) (by omega)
  have hR0 := kRm_le (d' := 171) (k' := k) (n' := n) hR (by omega) (by omega) (by omega)
  have hq : qA (rF_99 S arv) (xF_340 scv mr carv al) := by
    first
    | exact q_cut hG
    | (obtain ⟨S0, ar0, n0, tx, g, p, m, s, nr, cs, hx⟩ := hG; exact q_cut hx)
  obtain ⟨v, S2, ar2, sc2, mr2, car2, al2, e1, e0, e2, hG2⟩ := hq
  obtain ⟨al3, hcl, hG3⟩ : ∃ al3 : jAl, kCl 340 [.ref 734] (kSc S scv) (x_mk mr rf0) (kAr arv carv) al (some (.int v)) (kSc S sc2) (x_mk mr2 rf0) (kAr arv car2) al3 ∧ GR S2 ar2 sc2 car2 mr2 al3 := ⟨_, (gW_cls (fun a ha => x_mk_lt ha) ((xt_340 (b := false) (rf := rf0) (d := 162)) _ scv mr carv al v sc2 mr2 car2 al2 e2 ⟨rfl, rfl, rfl, rfl, rfl⟩)), GR_al hG2 (kAl_n (by decide))⟩
  refine kl_widen (k' := k + 1) (n' := n + 6) (by omega) (by omega) ?_
  refine kl_aload_n hC rfl rfl rfl ?_
  refine kl_call hC rfl kk_200 rfl rfl rfl ys_734 yx_340 rfl rfl hR1 (gW_mono hcl (fun r9 s9 f9 a9 l9 e9 => ?_))
  rw [e9.1, e9.2.1, e9.2.2.1, e9.2.2.2.1, e9.2.2.2.2]
  show kW G (k + 1) (n + 6) 1524 [some (.ref 999), some (.ref 734), some (.ref 0), some (.ref 823), some (.int (nI i)), none, none] [.int v] (kSc S sc2) (x_mk mr2 rf0) (kAr arv car2) al3
  refine kl_aload_n hC rfl rfl rfl ?_
  refine kl_call hC rfl kk_203 rfl rfl rfl kL_0 rfl rfl rfl hR1 (gW_mono (gW_ref (sc0 := fun _ _ => 0) ((rt_99 (X := gRX) gRX_LK rfl (rf := x_mk mr2 rf0) (x_mk_0 hrf0) (d := 41)) (fun _ _ => 0) (al3) _ S arv v S2 ar2 e1 ⟨rfl, rfl, rfl, rfl, rfl⟩)) (fun r9 s9 f9 a9 l9 e9 => ?_))
  rw [e9.1, e9.2.1, e9.2.2.1, e9.2.2.2.1, e9.2.2.2.2]
  show kW G (k + 1) (n + 6) 1528 [some (.ref 999), some (.ref 734), some (.ref 0), some (.ref 823), some (.int (nI i)), none, none] [.int v, .int v] (kSc S2 sc2) (x_mk mr2 rf0) (kAr ar2 car2) al3
  refine kl_ic_eq hC rfl rfl rfl (fun _ => ?_) (fun c => absurd rfl c)
  exact K _ _ _ _ ⟨S2, ar2, sc2, car2, mr2, hG3, rfl, rfl, rfl⟩
set_option maxHeartbeats 4000000 in
theorem kc_28 {G : kG} {L k n i : Nat} {xs : Nat → Int32} {rf0 : jRf} {sc : jSc} {rf : jRf} {ar : jSc} {al : jAl} (hcat : kCatch) (hP : kPr G L xs) (hO : kL.1 823 = .inr (1, 1)) (hrf0 : rf0 0 = r_rf) (hi : i + 6 ≤ L) (hL : L ≤ 3072) (hR : kRm G 171 (k + 1) (n + 6)) (hJ : kJ rf0 sc rf ar al) (K : ∀ (sc' : jSc) (rf' : jRf) (ar' : jSc) (al' : jAl), kJ rf0 sc' rf' ar' al' → kW G (k + 1) (n + 6) 2131 [some (.ref 999), some (.ref 734), some (.ref 0), some (.ref 823), some (.int (nI i)), none, none] [] sc' rf' ar' al') : kW G k n 1533 [some (.ref 999), some (.ref 734), some (.ref 0), some (.ref 823), some (.int (nI i)), none, none] [] sc rf ar al := by
  obtain ⟨hC, hS9, hM, hLt⟩ := hP
  obtain ⟨S, arv, scv, carv, mr, hG, rfl, rfl, rfl⟩ := hJ
  have hR1 := kRm_le (d' := 170) (k' := k + 1) (n' := n + 6) hR (by omega) (by omega) (by omega)
  have hR0 := kRm_le (d' := 171) (k' := k) (n' := n) hR (by omega) (by omega) (by omega)
  have hq : qA (rF_100 (xs (i + 1)) S arv) (xF_341 (xs (i + 1)) scv mr carv al) := by
    first
    | exact q_told hG
    | (obtain ⟨S0, ar0, n0, tx, g, p, m, s, nr, cs, hx⟩ := hG; exact q_told hx)
  obtain ⟨v, S2, ar2, sc2, mr2, car2, al2, e1, e0, e2, hG2⟩ := hq
  obtain ⟨al3, hcl, hG3⟩ : ∃ al3 : jAl, kCl 341 [.ref 734, .int (xs (i + 1))] (kSc S scv) (x_mk mr rf0) (kAr arv carv) al (some (.int v)) (kSc S sc2) (x_mk mr2 rf0) (kAr arv car2) al3 ∧ GR S2 ar2 sc2 car2 mr2 al3 := ⟨_, (gW_cls (fun a ha => x_mk_lt ha) ((xt_341 (b := false) (rf := rf0) (d := 169)) _ (xs (i + 1)) scv mr carv al v sc2 mr2 car2 al2 e2 ⟨rfl, rfl, rfl, rfl, rfl⟩)), GR_al hG2 (kAl_n (by decide))⟩
  refine kl_widen (k' := k + 1) (n' := n + 6) (by omega) (by omega) ?_
  refine kl_aload_n hC rfl rfl rfl ?_
  refine kl_arg 1 hC hS9 rfl rfl rfl rfl rfl (by decide) rfl rfl rfl hi hL rfl ?_
  refine kl_call hC rfl kk_204 rfl rfl rfl ys_734 yx_341 rfl rfl hR1 (gW_mono hcl (fun r9 s9 f9 a9 l9 e9 => ?_))
  rw [e9.1, e9.2.1, e9.2.2.1, e9.2.2.2.1, e9.2.2.2.2]
  show kW G (k + 1) (n + 6) 1543 [some (.ref 999), some (.ref 734), some (.ref 0), some (.ref 823), some (.int (nI i)), none, none] [.int v] (kSc S sc2) (x_mk mr2 rf0) (kAr arv car2) al3
  refine kl_aload_n hC rfl rfl rfl ?_
  refine kl_arg 1 hC hS9 rfl rfl rfl rfl rfl (by decide) rfl rfl rfl hi hL rfl ?_
  refine kl_call hC rfl kk_207 rfl rfl rfl kL_0 rfl rfl rfl hR1 (gW_mono (gW_ref (sc0 := fun _ _ => 0) ((rt_100 (X := gRX) gRX_LK rfl (rf := x_mk mr2 rf0) (x_mk_0 hrf0) (d := 168)) (fun _ _ => 0) (al3) _ (xs (i + 1)) S arv v S2 ar2 e1 ⟨rfl, rfl, rfl, rfl, rfl⟩)) (fun r9 s9 f9 a9 l9 e9 => ?_))
  rw [e9.1, e9.2.1, e9.2.2.1, e9.2.2.2.1, e9.2.2.2.2]
  show kW G (k + 1) (n + 6) 1553 [some (.ref 999), some (.ref 734), some (.ref 0), some (.ref 823), some (.int (nI i)), none, none] [.int v, .int v] (kSc S2 sc2) (x_mk mr2 rf0) (kAr ar2 car2) al3
  refine kl_ic_eq hC rfl rfl rfl (fun _ => ?_) (fun c => absurd rfl c)
  exact K _ _ _ _ ⟨S2, ar2, sc2, car2, mr2, hG3, rfl, rfl, rfl⟩
set_option maxHeartbeats 4000000 in
theorem kc_29 {G : kG} {L k n i : Nat} {xs : Nat → Int32} {rf0 : jRf} {sc : jSc} {rf : jRf} {ar : jSc} {al : jAl} (hcat : kCatch) (hP : kPr G L xs) (hO : kL.1 823 = .inr (1, 1)) (hrf0 : rf0 0 = r_rf) (hi : i + 6 ≤ L) (hL : L ≤ 3072) (hR : kRm G 171 (k + 1) (n + 6)) (hJ : kJ rf0 sc rf ar al) (K : ∀ (sc' : jSc) (rf' : jRf) (ar' : jSc) (al' : jAl), kJ rf0 sc' rf' ar' al' → kW G (k + 1) (n + 6) 2131 [some (.ref 999), some (.ref 734), some (.ref 0), some (.ref 823), some (.int (nI i)), none, none] [] sc' rf' ar' al') : kW G k n 1558 [some (.ref 999), some (.ref 734), some (.ref 0), some (.ref 823), some (.int (nI i)), none, none] [] sc rf ar al := by
  obtain ⟨hC, hS9, hM, hLt⟩ := hP
  obtain ⟨S, arv, scv, carv, mr, hG, rfl, rfl, rfl⟩ := hJ
  have hR1 := kRm_le (d' := 170) (k' := k + 1) (n' := n + 6) hR (by omega) (by omega) (by omega)
  have hR0 := kRm_le (d' := 171) (k' := k) (n' := n) hR (by omega) (by omega) (by omega)
  rcases d_form (rf0 := rf0) (x := (xs (i + 1))) (y := (xs (i + 2))) (z := (xs (i + 3))) (w := (xs (i + 4))) hG with ⟨v, S2, ar2, sc2, mr2, car2, al2, e1, e0, e2, hG2⟩ | ⟨⟨v, S2, ar2, e1, e0, hG2⟩, he⟩
  · skip
    obtain ⟨al3, hcl, hG3⟩ : ∃ al3 : jAl, kCl 342 [.ref 734, .int (xs (i + 1)), .int (xs (i + 2)), .int (xs (i + 3)), .int (xs (i + 4))] (kSc S scv) (x_mk mr rf0) (kAr arv carv) al (some (.int v)) (kSc S sc2) (x_mk mr2 rf0) (kAr arv car2) al3 ∧ GR S2 ar2 sc2 car2 mr2 al3 := ⟨_, (gW_cls (fun a ha => x_mk_lt ha) ((xt_342 (b := false) (rf := rf0) (d := 166)) _ (xs (i + 1)) (xs (i + 2)) (xs (i + 3)) (xs (i + 4)) scv mr carv al v sc2 mr2 car2 al2 e2 ⟨rfl, rfl, rfl, rfl, rfl⟩)), GR_al hG2 (kAl_n (by decide))⟩
    refine kl_aload_n hC rfl rfl rfl ?_
    refine kl_arg 1 hC hS9 rfl rfl rfl rfl rfl (by decide) rfl rfl rfl hi hL rfl ?_
    refine kl_arg 2 hC hS9 rfl rfl rfl rfl rfl (by decide) rfl rfl rfl hi hL rfl ?_
    refine kl_arg 3 hC hS9 rfl rfl rfl rfl rfl (by decide) rfl rfl rfl hi hL rfl ?_
    refine kl_arg 4 hC hS9 rfl rfl rfl rfl rfl (by decide) rfl rfl rfl hi hL rfl ?_
    refine kl_aload_n hC rfl rfl rfl ?_
    refine kl_callH hC rfl kk_208 rfl rfl rfl rfl rfl hR0 hM (kMl_of hLt (fun l hl => kh_form (l := l) hl hO hcl)) ?_
    show kW G (k + 1) (n + 6) 1587 [some (.ref 999), some (.ref 734), some (.ref 0), some (.ref 823), some (.int (nI i)), none, none] [.int 0] (kSc S sc2) (x_mk mr2 rf0) (kAr arv car2) (j_u2 al3 823 (iN 0) v.toInt64)
    refine kl_istore hC rfl rfl rfl rfl rfl ?_
    refine kl_aload_n hC rfl rfl rfl ?_
    refine kl_arg 1 hC hS9 rfl rfl rfl rfl rfl (by decide) rfl rfl rfl hi hL rfl ?_
    refine kl_arg 2 hC hS9 rfl rfl rfl rfl rfl (by decide) rfl rfl rfl hi hL rfl ?_
    refine kl_arg 3 hC hS9 rfl rfl rfl rfl rfl (by decide) rfl rfl rfl hi hL rfl ?_
    refine kl_arg 4 hC hS9 rfl rfl rfl rfl rfl (by decide) rfl rfl rfl hi hL rfl ?_
    refine kl_call hC rfl kk_211 rfl rfl rfl kL_0 rfl rfl rfl hR1 (gW_mono (gW_ref (sc0 := fun _ _ => 0) ((rt_101 (X := gRX) gRX_LK rfl (rf := x_mk mr2 rf0) (x_mk_0 hrf0) (d := 168)) (fun _ _ => 0) ((j_u2 al3 823 (iN 0) v.toInt64)) _ (xs (i + 1)) (xs (i + 2)) (xs (i + 3)) (xs (i + 4)) S arv v S2 ar2 e1 ⟨rfl, rfl, rfl, rfl, rfl⟩)) (fun r9 s9 f9 a9 l9 e9 => ?_))
    rw [e9.1, e9.2.1, e9.2.2.1, e9.2.2.2.1, e9.2.2.2.2]
    show kW G (k + 1) (n + 6) 1617 [some (.ref 999), some (.ref 734), some (.ref 0), some (.ref 823), some (.int (nI i)), some (.int 0), none] [.int v] (kSc S2 sc2) (x_mk mr2 rf0) (kAr ar2 car2) (j_u2 al3 823 (iN 0) v.toInt64)
    refine kl_istore hC rfl rfl rfl rfl rfl ?_
    refine kl_aload_n hC rfl rfl rfl ?_
    refine kl_call hC rfl kk_109 rfl rfl rfl kL_0 rfl rfl rfl hR1 (gW_mono (gW_ref (sc0 := fun _ _ => 0) ((rt_2 (X := gRX) gRX_LK rfl (rf := x_mk mr2 rf0) (x_mk_0 hrf0) (d := 169)) (fun _ _ => 0) ((j_u2 al3 823 (iN 0) v.toInt64)) _ S2 ar2 (S2 0) S2 ar2 rfl ⟨rfl, rfl, rfl, rfl, rfl⟩)) (fun r9 s9 f9 a9 l9 e9 => ?_))
    rw [e9.1, e9.2.1, e9.2.2.1, e9.2.2.2.1, e9.2.2.2.2, e0]
    show kW G (k + 1) (n + 6) 1623 [some (.ref 999), some (.ref 734), some (.ref 0), some (.ref 823), some (.int (nI i)), some (.int 0), some (.int v)] [.int 0] (kSc S2 sc2) (x_mk mr2 rf0) (kAr ar2 car2) (j_u2 al3 823 (iN 0) v.toInt64)
    refine kl_iload hC rfl rfl rfl ?_
    refine kl_ic_eq hC rfl rfl rfl (fun _ => ?_) (fun c => absurd rfl c)
    refine kl_iload hC rfl rfl rfl ?_
    refine kl_if_ne hC rfl rfl rfl (fun _ => ?_) (fun c => absurd rfl c)
    refine kl_aload_n hC rfl rfl rfl ?_
    refine kl_iconst hC rfl ci_0 rfl ?_
    refine kl_laload hC rfl hO (by decide) k_o1 rfl ?_
    refine kl_iload hC rfl rfl rfl ?_
    refine kl_i2l hC rfl rfl ?_
    refine kl_lcmp hC rfl rfl ?_
    refine kl_if_eq hC rfl rfl rfl (fun _ => ?_) (fun c => absurd ((lg_cmp_eq _ _).mpr rfl) c)
    refine kl_goto hC rfl rfl ?_
    refine kW_weak (vs := [some (.ref 999), some (.ref 734), some (.ref 0), some (.ref 823), some (.int (nI i)), none, none]) ⟨rfl, rfl, rfl, rfl, rfl, trivial⟩ (K _ _ _ _ ⟨S2, ar2, sc2, car2, mr2, GR_al hG3 k_o2, rfl, rfl, rfl⟩)
  · skip
    refine kl_aload_n hC rfl rfl rfl ?_
    refine kl_arg 1 hC hS9 rfl rfl rfl rfl rfl (by decide) rfl rfl rfl hi hL rfl ?_
    refine kl_arg 2 hC hS9 rfl rfl rfl rfl rfl (by decide) rfl rfl rfl hi hL rfl ?_
    refine kl_arg 3 hC hS9 rfl rfl rfl rfl rfl (by decide) rfl rfl rfl hi hL rfl ?_
    refine kl_arg 4 hC hS9 rfl rfl rfl rfl rfl (by decide) rfl rfl rfl hi hL rfl ?_
    refine kl_aload_n hC rfl rfl rfl ?_
    refine kl_callH hC rfl kk_208 rfl rfl rfl rfl rfl hR0 hM (kMl_of hLt (fun l hl => kx_form_1 (l := l) hcat hl he)) ?_
    show kW G (k + 1) (n + 6) 1587 [some (.ref 999), some (.ref 734), some (.ref 0), some (.ref 823), some (.int (nI i)), none, none] [.int 1] (kSc S scv) (x_mk mr rf0) (kAr arv carv) al
    refine kl_istore hC rfl rfl rfl rfl rfl ?_
    refine kl_aload_n hC rfl rfl rfl ?_
    refine kl_arg 1 hC hS9 rfl rfl rfl rfl rfl (by decide) rfl rfl rfl hi hL rfl ?_
    refine kl_arg 2 hC hS9 rfl rfl rfl rfl rfl (by decide) rfl rfl rfl hi hL rfl ?_
    refine kl_arg 3 hC hS9 rfl rfl rfl rfl rfl (by decide) rfl rfl rfl hi hL rfl ?_
    refine kl_arg 4 hC hS9 rfl rfl rfl rfl rfl (by decide) rfl rfl rfl hi hL rfl ?_
    refine kl_call hC rfl kk_211 rfl rfl rfl kL_0 rfl rfl rfl hR1 (gW_mono (gW_ref (sc0 := fun _ _ => 0) ((rt_101 (X := gRX) gRX_LK rfl (rf := x_mk mr rf0) (x_mk_0 hrf0) (d := 168)) (fun _ _ => 0) (al) _ (xs (i + 1)) (xs (i + 2)) (xs (i + 3)) (xs (i + 4)) S arv v S2 ar2 e1 ⟨rfl, rfl, rfl, rfl, rfl⟩)) (fun r9 s9 f9 a9 l9 e9 => ?_))
    rw [e9.1, e9.2.1, e9.2.2.1, e9.2.2.2.1, e9.2.2.2.2]
    show kW G (k + 1) (n + 6) 1617 [some (.ref 999), some (.ref 734), some (.ref 0), some (.ref 823), some (.int (nI i)), some (.int 1), none] [.int v] (kSc S2 scv) (x_mk mr rf0) (kAr ar2 carv) al
    refine kl_istore hC rfl rfl rfl rfl rfl ?_
    refine kl_aload_n hC rfl rfl rfl ?_
    refine kl_call hC rfl kk_109 rfl rfl rfl kL_0 rfl rfl rfl hR1 (gW_mono (gW_ref (sc0 := fun _ _ => 0) ((rt_2 (X := gRX) gRX_LK rfl (rf := x_mk mr rf0) (x_mk_0 hrf0) (d := 169)) (fun _ _ => 0) (al) _ S2 ar2 (S2 0) S2 ar2 rfl ⟨rfl, rfl, rfl, rfl, rfl⟩)) (fun r9 s9 f9 a9 l9 e9 => ?_))
    rw [e9.1, e9.2.1, e9.2.2.1, e9.2.2.2.1, e9.2.2.2.2, e0]
    show kW G (k + 1) (n + 6) 1623 [some (.ref 999), some (.ref 734), some (.ref 0), some (.ref 823), some (.int (nI i)), some (.int 1), some (.int v)] [.int 1] (kSc S2 scv) (x_mk mr rf0) (kAr ar2 carv) al
    refine kl_iload hC rfl rfl rfl ?_
    refine kl_ic_eq hC rfl rfl rfl (fun _ => ?_) (fun c => absurd rfl c)
    refine kl_iload hC rfl rfl rfl ?_
    refine kl_if_ne hC rfl rfl rfl (fun c => absurd c (by decide)) (fun _ => ?_)
    refine kl_goto hC rfl rfl ?_
    refine kW_weak (vs := [some (.ref 999), some (.ref 734), some (.ref 0), some (.ref 823), some (.int (nI i)), none, none]) ⟨rfl, rfl, rfl, rfl, rfl, trivial⟩ (K _ _ _ _ ⟨S2, ar2, scv, carv, mr, hG2, rfl, rfl, rfl⟩)
