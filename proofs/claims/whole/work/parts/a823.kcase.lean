/-! THE LAW's cases. -/
set_option maxHeartbeats 4000000 in
theorem kc_30 {G : kG} {L k n i : Nat} {xs : Nat → Int32} {rf0 : jRf} {sc : jSc} {rf : jRf} {ar : jSc} {al : jAl} (hcat : kCatch) (hP : kPr G L xs) (hO : kL.1 823 = .inr (1, 1)) (hrf0 : rf0 0 = r_rf) (hi : i + 6 ≤ L) (hL : L ≤ 3072) (hR : kRm G 171 (k + 1) (n + 6)) (hJ : kJ rf0 sc rf ar al) (K : ∀ (sc' : jSc) (rf' : jRf) (ar' : jSc) (al' : jAl), kJ rf0 sc' rf' ar' al' → kW G (k + 1) (n + 6) 2131 [some (.ref 999), some (.ref 734), some (.ref 0), some (.ref 823), some (.int (nI i)), none, none] [] sc' rf' ar' al') : kW G k n 1650 [some (.ref 999), some (.ref 734), some (.ref 0), some (.ref 823), some (.int (nI i)), none, none] [] sc rf ar al := by
  obtain ⟨hC, hS9, hM, hLt⟩ := hP
  obtain ⟨S, arv, scv, carv, mr, hG, rfl, rfl, rfl⟩ := hJ
  have hR1 := kRm_le (d' := 170) (k' := k + 1) (n' := n + 6) hR (by omega) (by omega) (by omega)
  have hR0 := kRm_le (d' := 171) (k' := k) (n' := n) hR (by omega) (by omega) (by omega)
  rcases d_use (rf0 := rf0) (x := (xs (i + 1))) (y := (if xs (i + 2) = 0 then (0 : Int32) else 1)) (kl_b01 _) hG with ⟨v, S2, ar2, sc2, mr2, car2, al2, e1, e0, e2, hG2⟩ | ⟨⟨v, S2, ar2, e1, e0, hG2⟩, he⟩
  · skip
    obtain ⟨al3, hcl, hG3⟩ : ∃ al3 : jAl, kCl 343 [.ref 734, .int (xs (i + 1)), .int (if xs (i + 2) = 0 then (0 : Int32) else 1)] (kSc S scv) (x_mk mr rf0) (kAr arv carv) al (some (.int v)) (kSc S sc2) (x_mk mr2 rf0) (kAr arv car2) al3 ∧ GR S2 ar2 sc2 car2 mr2 al3 := ⟨_, (gW_cls (fun a ha => x_mk_lt ha) ((xt_343 (b := false) (rf := rf0) (d := 167)) _ (xs (i + 1)) (if xs (i + 2) = 0 then (0 : Int32) else 1) scv mr carv al v sc2 mr2 car2 al2 e2 ⟨rfl, rfl, rfl, rfl, rfl⟩)), GR_al hG2 (kAl_n (by decide))⟩
    refine kl_aload_n hC rfl rfl rfl ?_
    refine kl_arg 1 hC hS9 rfl rfl rfl rfl rfl (by decide) rfl rfl rfl hi hL rfl ?_
    refine kl_arg 2 hC hS9 rfl rfl rfl rfl rfl (by decide) rfl rfl rfl hi hL rfl ?_
    refine kl_nz hC rfl rfl rfl rfl rfl rfl rfl ?_
    refine kl_aload_n hC rfl rfl rfl ?_
    refine kl_callH hC rfl kk_212 rfl rfl rfl rfl rfl hR0 hM (kMl_of hLt (fun l hl => kh_use (l := l) hl hO hcl)) ?_
    show kW G (k + 1) (n + 6) 1675 [some (.ref 999), some (.ref 734), some (.ref 0), some (.ref 823), some (.int (nI i)), none, none] [.int 0] (kSc S sc2) (x_mk mr2 rf0) (kAr arv car2) (j_u2 al3 823 (iN 0) (if v = 0 then (0 : Int64) else 1))
    refine kl_istore hC rfl rfl rfl rfl rfl ?_
    refine kl_aload_n hC rfl rfl rfl ?_
    refine kl_arg 1 hC hS9 rfl rfl rfl rfl rfl (by decide) rfl rfl rfl hi hL rfl ?_
    refine kl_arg 2 hC hS9 rfl rfl rfl rfl rfl (by decide) rfl rfl rfl hi hL rfl ?_
    refine kl_nz hC rfl rfl rfl rfl rfl rfl rfl ?_
    refine kl_call hC rfl kk_215 rfl rfl rfl kL_0 rfl rfl rfl hR1 (gW_mono (gW_ref (sc0 := fun _ _ => 0) ((rt_102 (X := gRX) gRX_LK rfl (rf := x_mk mr2 rf0) (x_mk_0 hrf0) (d := 168)) (fun _ _ => 0) ((j_u2 al3 823 (iN 0) (if v = 0 then (0 : Int64) else 1))) _ (xs (i + 1)) (if xs (i + 2) = 0 then (0 : Int32) else 1) S arv v S2 ar2 e1 ⟨rfl, rfl, rfl, rfl, rfl⟩)) (fun r9 s9 f9 a9 l9 e9 => ?_))
    rw [e9.1, e9.2.1, e9.2.2.1, e9.2.2.2.1, e9.2.2.2.2]
    show kW G (k + 1) (n + 6) 1701 [some (.ref 999), some (.ref 734), some (.ref 0), some (.ref 823), some (.int (nI i)), some (.int 0), none] [.int v] (kSc S2 sc2) (x_mk mr2 rf0) (kAr ar2 car2) (j_u2 al3 823 (iN 0) (if v = 0 then (0 : Int64) else 1))
    refine kl_istore hC rfl rfl rfl rfl rfl ?_
    refine kl_aload_n hC rfl rfl rfl ?_
    refine kl_call hC rfl kk_109 rfl rfl rfl kL_0 rfl rfl rfl hR1 (gW_mono (gW_ref (sc0 := fun _ _ => 0) ((rt_2 (X := gRX) gRX_LK rfl (rf := x_mk mr2 rf0) (x_mk_0 hrf0) (d := 169)) (fun _ _ => 0) ((j_u2 al3 823 (iN 0) (if v = 0 then (0 : Int64) else 1))) _ S2 ar2 (S2 0) S2 ar2 rfl ⟨rfl, rfl, rfl, rfl, rfl⟩)) (fun r9 s9 f9 a9 l9 e9 => ?_))
    rw [e9.1, e9.2.1, e9.2.2.1, e9.2.2.2.1, e9.2.2.2.2, e0]
    show kW G (k + 1) (n + 6) 1707 [some (.ref 999), some (.ref 734), some (.ref 0), some (.ref 823), some (.int (nI i)), some (.int 0), some (.int v)] [.int 0] (kSc S2 sc2) (x_mk mr2 rf0) (kAr ar2 car2) (j_u2 al3 823 (iN 0) (if v = 0 then (0 : Int64) else 1))
    refine kl_iload hC rfl rfl rfl ?_
    refine kl_ic_eq hC rfl rfl rfl (fun _ => ?_) (fun c => absurd rfl c)
    refine kl_iload hC rfl rfl rfl ?_
    refine kl_if_ne hC rfl rfl rfl (fun _ => ?_) (fun c => absurd rfl c)
    refine kl_aload_n hC rfl rfl rfl ?_
    refine kl_iconst hC rfl ci_0 rfl ?_
    refine kl_laload hC rfl hO (by decide) k_o1 rfl ?_
    refine kl_iload hC rfl rfl rfl ?_
    refine kl_if_eq hC rfl rfl rfl (fun c1 => ?_) (fun c1 => ?_)
    · refine kl_lconst hC rfl rfl ?_
      refine kl_lcmp hC rfl rfl ?_
      refine kl_if_eq hC rfl rfl rfl (fun _ => ?_) (fun c => absurd ((lg_cmp_eq _ _).mpr (if_pos c1)) c)
      refine kl_goto hC rfl rfl ?_
      refine kW_weak (vs := [some (.ref 999), some (.ref 734), some (.ref 0), some (.ref 823), some (.int (nI i)), none, none]) ⟨rfl, rfl, rfl, rfl, rfl, trivial⟩ (K _ _ _ _ ⟨S2, ar2, sc2, car2, mr2, GR_al hG3 k_o2, rfl, rfl, rfl⟩)
    · refine kl_lconst hC rfl rfl ?_
      refine kl_goto hC rfl rfl ?_
      refine kl_lcmp hC rfl rfl ?_
      refine kl_if_eq hC rfl rfl rfl (fun _ => ?_) (fun c => absurd ((lg_cmp_eq _ _).mpr (if_neg c1)) c)
      refine kl_goto hC rfl rfl ?_
      refine kW_weak (vs := [some (.ref 999), some (.ref 734), some (.ref 0), some (.ref 823), some (.int (nI i)), none, none]) ⟨rfl, rfl, rfl, rfl, rfl, trivial⟩ (K _ _ _ _ ⟨S2, ar2, sc2, car2, mr2, GR_al hG3 k_o2, rfl, rfl, rfl⟩)
  · skip
    refine kl_aload_n hC rfl rfl rfl ?_
    refine kl_arg 1 hC hS9 rfl rfl rfl rfl rfl (by decide) rfl rfl rfl hi hL rfl ?_
    refine kl_arg 2 hC hS9 rfl rfl rfl rfl rfl (by decide) rfl rfl rfl hi hL rfl ?_
    refine kl_nz hC rfl rfl rfl rfl rfl rfl rfl ?_
    refine kl_aload_n hC rfl rfl rfl ?_
    refine kl_callH hC rfl kk_212 rfl rfl rfl rfl rfl hR0 hM (kMl_of hLt (fun l hl => kx_use_1 (l := l) hcat hl he)) ?_
    show kW G (k + 1) (n + 6) 1675 [some (.ref 999), some (.ref 734), some (.ref 0), some (.ref 823), some (.int (nI i)), none, none] [.int 1] (kSc S scv) (x_mk mr rf0) (kAr arv carv) al
    refine kl_istore hC rfl rfl rfl rfl rfl ?_
    refine kl_aload_n hC rfl rfl rfl ?_
    refine kl_arg 1 hC hS9 rfl rfl rfl rfl rfl (by decide) rfl rfl rfl hi hL rfl ?_
    refine kl_arg 2 hC hS9 rfl rfl rfl rfl rfl (by decide) rfl rfl rfl hi hL rfl ?_
    refine kl_nz hC rfl rfl rfl rfl rfl rfl rfl ?_
    refine kl_call hC rfl kk_215 rfl rfl rfl kL_0 rfl rfl rfl hR1 (gW_mono (gW_ref (sc0 := fun _ _ => 0) ((rt_102 (X := gRX) gRX_LK rfl (rf := x_mk mr rf0) (x_mk_0 hrf0) (d := 168)) (fun _ _ => 0) (al) _ (xs (i + 1)) (if xs (i + 2) = 0 then (0 : Int32) else 1) S arv v S2 ar2 e1 ⟨rfl, rfl, rfl, rfl, rfl⟩)) (fun r9 s9 f9 a9 l9 e9 => ?_))
    rw [e9.1, e9.2.1, e9.2.2.1, e9.2.2.2.1, e9.2.2.2.2]
    show kW G (k + 1) (n + 6) 1701 [some (.ref 999), some (.ref 734), some (.ref 0), some (.ref 823), some (.int (nI i)), some (.int 1), none] [.int v] (kSc S2 scv) (x_mk mr rf0) (kAr ar2 carv) al
    refine kl_istore hC rfl rfl rfl rfl rfl ?_
    refine kl_aload_n hC rfl rfl rfl ?_
    refine kl_call hC rfl kk_109 rfl rfl rfl kL_0 rfl rfl rfl hR1 (gW_mono (gW_ref (sc0 := fun _ _ => 0) ((rt_2 (X := gRX) gRX_LK rfl (rf := x_mk mr rf0) (x_mk_0 hrf0) (d := 169)) (fun _ _ => 0) (al) _ S2 ar2 (S2 0) S2 ar2 rfl ⟨rfl, rfl, rfl, rfl, rfl⟩)) (fun r9 s9 f9 a9 l9 e9 => ?_))
    rw [e9.1, e9.2.1, e9.2.2.1, e9.2.2.2.1, e9.2.2.2.2, e0]
    show kW G (k + 1) (n + 6) 1707 [some (.ref 999), some (.ref 734), some (.ref 0), some (.ref 823), some (.int (nI i)), some (.int 1), some (.int v)] [.int 1] (kSc S2 scv) (x_mk mr rf0) (kAr ar2 carv) al
    refine kl_iload hC rfl rfl rfl ?_
    refine kl_ic_eq hC rfl rfl rfl (fun _ => ?_) (fun c => absurd rfl c)
    refine kl_iload hC rfl rfl rfl ?_
    refine kl_if_ne hC rfl rfl rfl (fun c => absurd c (by decide)) (fun _ => ?_)
    refine kl_goto hC rfl rfl ?_
    refine kW_weak (vs := [some (.ref 999), some (.ref 734), some (.ref 0), some (.ref 823), some (.int (nI i)), none, none]) ⟨rfl, rfl, rfl, rfl, rfl, trivial⟩ (K _ _ _ _ ⟨S2, ar2, scv, carv, mr, hG2, rfl, rfl, rfl⟩)
set_option maxHeartbeats 4000000 in
theorem kc_31 {G : kG} {L k n i : Nat} {xs : Nat → Int32} {rf0 : jRf} {sc : jSc} {rf : jRf} {ar : jSc} {al : jAl} (hcat : kCatch) (hP : kPr G L xs) (hO : kL.1 823 = .inr (1, 1)) (hrf0 : rf0 0 = r_rf) (hi : i + 6 ≤ L) (hL : L ≤ 3072) (hR : kRm G 171 (k + 1) (n + 6)) (hJ : kJ rf0 sc rf ar al) (K : ∀ (sc' : jSc) (rf' : jRf) (ar' : jSc) (al' : jAl), kJ rf0 sc' rf' ar' al' → kW G (k + 1) (n + 6) 2131 [some (.ref 999), some (.ref 734), some (.ref 0), some (.ref 823), some (.int (nI i)), none, none] [] sc' rf' ar' al') : kW G k n 1741 [some (.ref 999), some (.ref 734), some (.ref 0), some (.ref 823), some (.int (nI i)), none, none] [] sc rf ar al := by
  obtain ⟨hC, hS9, hM, hLt⟩ := hP
  obtain ⟨S, arv, scv, carv, mr, hG, rfl, rfl, rfl⟩ := hJ
  have hR1 := kRm_le (d' := 170) (k' := k + 1) (n' := n + 6) hR (by omega) (by omega) (by omega)
  have hR0 := kRm_le (d' := 171) (k' := k) (n' := n) hR (by omega) (by omega) (by omega)
  rcases d_cheapest (rf0 := rf0) (x := (xs (i + 1))) (y := (xs (i + 2))) (z := (xs (i + 3))) (w := (xs (i + 4))) hG with ⟨v, S2, ar2, sc2, mr2, car2, al2, e1, e0, e2, hG2⟩ | ⟨⟨v, S2, ar2, e1, e0, hG2⟩, he⟩
  · skip
    obtain ⟨al3, hcl, hG3⟩ : ∃ al3 : jAl, kCl 344 [.ref 734, .int (xs (i + 1)), .int (xs (i + 2)), .int (xs (i + 3)), .int (xs (i + 4))] (kSc S scv) (x_mk mr rf0) (kAr arv carv) al (some (.int v)) (kSc S sc2) (x_mk mr2 rf0) (kAr arv car2) al3 ∧ GR S2 ar2 sc2 car2 mr2 al3 := ⟨_, (gW_cls (fun a ha => x_mk_lt ha) ((xt_344 (b := false) (rf := rf0) (d := 84)) _ (xs (i + 1)) (xs (i + 2)) (xs (i + 3)) (xs (i + 4)) scv mr carv al v sc2 mr2 car2 al2 e2 ⟨rfl, rfl, rfl, rfl, rfl⟩)), GR_al hG2 (kAl_n (by decide))⟩
    refine kl_aload_n hC rfl rfl rfl ?_
    refine kl_arg 1 hC hS9 rfl rfl rfl rfl rfl (by decide) rfl rfl rfl hi hL rfl ?_
    refine kl_arg 2 hC hS9 rfl rfl rfl rfl rfl (by decide) rfl rfl rfl hi hL rfl ?_
    refine kl_arg 3 hC hS9 rfl rfl rfl rfl rfl (by decide) rfl rfl rfl hi hL rfl ?_
    refine kl_arg 4 hC hS9 rfl rfl rfl rfl rfl (by decide) rfl rfl rfl hi hL rfl ?_
    refine kl_aload_n hC rfl rfl rfl ?_
    refine kl_callH hC rfl kk_216 rfl rfl rfl rfl rfl hR0 hM (kMl_of hLt (fun l hl => kh_cheapest (l := l) hl hO hcl)) ?_
    show kW G (k + 1) (n + 6) 1770 [some (.ref 999), some (.ref 734), some (.ref 0), some (.ref 823), some (.int (nI i)), none, none] [.int 0] (kSc S sc2) (x_mk mr2 rf0) (kAr arv car2) (j_u2 al3 823 (iN 0) v.toInt64)
    refine kl_istore hC rfl rfl rfl rfl rfl ?_
    refine kl_aload_n hC rfl rfl rfl ?_
    refine kl_arg 1 hC hS9 rfl rfl rfl rfl rfl (by decide) rfl rfl rfl hi hL rfl ?_
    refine kl_arg 2 hC hS9 rfl rfl rfl rfl rfl (by decide) rfl rfl rfl hi hL rfl ?_
    refine kl_arg 3 hC hS9 rfl rfl rfl rfl rfl (by decide) rfl rfl rfl hi hL rfl ?_
    refine kl_arg 4 hC hS9 rfl rfl rfl rfl rfl (by decide) rfl rfl rfl hi hL rfl ?_
    refine kl_call hC rfl kk_218 rfl rfl rfl kL_0 rfl rfl rfl hR1 (gW_mono (gW_ref (sc0 := fun _ _ => 0) ((rt_108 (X := gRX) gRX_LK rfl (rf := x_mk mr2 rf0) (x_mk_0 hrf0) (d := 1)) (fun _ _ => 0) ((j_u2 al3 823 (iN 0) v.toInt64)) _ (xs (i + 1)) (xs (i + 2)) (xs (i + 3)) (xs (i + 4)) S arv v S2 ar2 e1 ⟨rfl, rfl, rfl, rfl, rfl⟩)) (fun r9 s9 f9 a9 l9 e9 => ?_))
    rw [e9.1, e9.2.1, e9.2.2.1, e9.2.2.2.1, e9.2.2.2.2]
    show kW G (k + 1) (n + 6) 1800 [some (.ref 999), some (.ref 734), some (.ref 0), some (.ref 823), some (.int (nI i)), some (.int 0), none] [.int v] (kSc S2 sc2) (x_mk mr2 rf0) (kAr ar2 car2) (j_u2 al3 823 (iN 0) v.toInt64)
    refine kl_istore hC rfl rfl rfl rfl rfl ?_
    refine kl_aload_n hC rfl rfl rfl ?_
    refine kl_call hC rfl kk_109 rfl rfl rfl kL_0 rfl rfl rfl hR1 (gW_mono (gW_ref (sc0 := fun _ _ => 0) ((rt_2 (X := gRX) gRX_LK rfl (rf := x_mk mr2 rf0) (x_mk_0 hrf0) (d := 169)) (fun _ _ => 0) ((j_u2 al3 823 (iN 0) v.toInt64)) _ S2 ar2 (S2 0) S2 ar2 rfl ⟨rfl, rfl, rfl, rfl, rfl⟩)) (fun r9 s9 f9 a9 l9 e9 => ?_))
    rw [e9.1, e9.2.1, e9.2.2.1, e9.2.2.2.1, e9.2.2.2.2, e0]
    show kW G (k + 1) (n + 6) 1806 [some (.ref 999), some (.ref 734), some (.ref 0), some (.ref 823), some (.int (nI i)), some (.int 0), some (.int v)] [.int 0] (kSc S2 sc2) (x_mk mr2 rf0) (kAr ar2 car2) (j_u2 al3 823 (iN 0) v.toInt64)
    refine kl_iload hC rfl rfl rfl ?_
    refine kl_ic_eq hC rfl rfl rfl (fun _ => ?_) (fun c => absurd rfl c)
    refine kl_iload hC rfl rfl rfl ?_
    refine kl_if_ne hC rfl rfl rfl (fun _ => ?_) (fun c => absurd rfl c)
    refine kl_aload_n hC rfl rfl rfl ?_
    refine kl_iconst hC rfl ci_0 rfl ?_
    refine kl_laload hC rfl hO (by decide) k_o1 rfl ?_
    refine kl_iload hC rfl rfl rfl ?_
    refine kl_i2l hC rfl rfl ?_
    refine kl_lcmp hC rfl rfl ?_
    refine kl_if_eq hC rfl rfl rfl (fun _ => ?_) (fun c => absurd ((lg_cmp_eq _ _).mpr rfl) c)
    refine kl_goto hC rfl rfl ?_
    refine kW_weak (vs := [some (.ref 999), some (.ref 734), some (.ref 0), some (.ref 823), some (.int (nI i)), none, none]) ⟨rfl, rfl, rfl, rfl, rfl, trivial⟩ (K _ _ _ _ ⟨S2, ar2, sc2, car2, mr2, GR_al hG3 k_o2, rfl, rfl, rfl⟩)
  · skip
    refine kl_aload_n hC rfl rfl rfl ?_
    refine kl_arg 1 hC hS9 rfl rfl rfl rfl rfl (by decide) rfl rfl rfl hi hL rfl ?_
    refine kl_arg 2 hC hS9 rfl rfl rfl rfl rfl (by decide) rfl rfl rfl hi hL rfl ?_
    refine kl_arg 3 hC hS9 rfl rfl rfl rfl rfl (by decide) rfl rfl rfl hi hL rfl ?_
    refine kl_arg 4 hC hS9 rfl rfl rfl rfl rfl (by decide) rfl rfl rfl hi hL rfl ?_
    refine kl_aload_n hC rfl rfl rfl ?_
    refine kl_callH hC rfl kk_216 rfl rfl rfl rfl rfl hR0 hM (kMl_of hLt (fun l hl => kx_cheapest_1 (l := l) hcat hl he)) ?_
    show kW G (k + 1) (n + 6) 1770 [some (.ref 999), some (.ref 734), some (.ref 0), some (.ref 823), some (.int (nI i)), none, none] [.int 1] (kSc S scv) (x_mk mr rf0) (kAr arv carv) al
    refine kl_istore hC rfl rfl rfl rfl rfl ?_
    refine kl_aload_n hC rfl rfl rfl ?_
    refine kl_arg 1 hC hS9 rfl rfl rfl rfl rfl (by decide) rfl rfl rfl hi hL rfl ?_
    refine kl_arg 2 hC hS9 rfl rfl rfl rfl rfl (by decide) rfl rfl rfl hi hL rfl ?_
    refine kl_arg 3 hC hS9 rfl rfl rfl rfl rfl (by decide) rfl rfl rfl hi hL rfl ?_
    refine kl_arg 4 hC hS9 rfl rfl rfl rfl rfl (by decide) rfl rfl rfl hi hL rfl ?_
    refine kl_call hC rfl kk_218 rfl rfl rfl kL_0 rfl rfl rfl hR1 (gW_mono (gW_ref (sc0 := fun _ _ => 0) ((rt_108 (X := gRX) gRX_LK rfl (rf := x_mk mr rf0) (x_mk_0 hrf0) (d := 1)) (fun _ _ => 0) (al) _ (xs (i + 1)) (xs (i + 2)) (xs (i + 3)) (xs (i + 4)) S arv v S2 ar2 e1 ⟨rfl, rfl, rfl, rfl, rfl⟩)) (fun r9 s9 f9 a9 l9 e9 => ?_))
    rw [e9.1, e9.2.1, e9.2.2.1, e9.2.2.2.1, e9.2.2.2.2]
    show kW G (k + 1) (n + 6) 1800 [some (.ref 999), some (.ref 734), some (.ref 0), some (.ref 823), some (.int (nI i)), some (.int 1), none] [.int v] (kSc S2 scv) (x_mk mr rf0) (kAr ar2 carv) al
    refine kl_istore hC rfl rfl rfl rfl rfl ?_
    refine kl_aload_n hC rfl rfl rfl ?_
    refine kl_call hC rfl kk_109 rfl rfl rfl kL_0 rfl rfl rfl hR1 (gW_mono (gW_ref (sc0 := fun _ _ => 0) ((rt_2 (X := gRX) gRX_LK rfl (rf := x_mk mr rf0) (x_mk_0 hrf0) (d := 169)) (fun _ _ => 0) (al) _ S2 ar2 (S2 0) S2 ar2 rfl ⟨rfl, rfl, rfl, rfl, rfl⟩)) (fun r9 s9 f9 a9 l9 e9 => ?_))
    rw [e9.1, e9.2.1, e9.2.2.1, e9.2.2.2.1, e9.2.2.2.2, e0]
    show kW G (k + 1) (n + 6) 1806 [some (.ref 999), some (.ref 734), some (.ref 0), some (.ref 823), some (.int (nI i)), some (.int 1), some (.int v)] [.int 1] (kSc S2 scv) (x_mk mr rf0) (kAr ar2 carv) al
    refine kl_iload hC rfl rfl rfl ?_
    refine kl_ic_eq hC rfl rfl rfl (fun _ => ?_) (fun c => absurd rfl c)
    refine kl_iload hC rfl rfl rfl ?_
    refine kl_if_ne hC rfl rfl rfl (fun c => absurd c (by decide)) (fun _ => ?_)
    refine kl_goto hC rfl rfl ?_
    refine kW_weak (vs := [some (.ref 999), some (.ref 734), some (.ref 0), some (.ref 823), some (.int (nI i)), none, none]) ⟨rfl, rfl, rfl, rfl, rfl, trivial⟩ (K _ _ _ _ ⟨S2, ar2, scv, carv, mr, hG2, rfl, rfl, rfl⟩)
set_option maxHeartbeats 4000000 in
theorem kc_32 {G : kG} {L k n i : Nat} {xs : Nat → Int32} {rf0 : jRf} {sc : jSc} {rf : jRf} {ar : jSc} {al : jAl} (hcat : kCatch) (hP : kPr G L xs) (hO : kL.1 823 = .inr (1, 1)) (hrf0 : rf0 0 = r_rf) (hi : i + 6 ≤ L) (hL : L ≤ 3072) (hR : kRm G 171 (k + 1) (n + 6)) (hJ : kJ rf0 sc rf ar al) (K : ∀ (sc' : jSc) (rf' : jRf) (ar' : jSc) (al' : jAl), kJ rf0 sc' rf' ar' al' → kW G (k + 1) (n + 6) 2131 [some (.ref 999), some (.ref 734), some (.ref 0), some (.ref 823), some (.int (nI i)), none, none] [] sc' rf' ar' al') : kW G k n 1833 [some (.ref 999), some (.ref 734), some (.ref 0), some (.ref 823), some (.int (nI i)), none, none] [] sc rf ar al := by
  obtain ⟨hC, hS9, hM, hLt⟩ := hP
  obtain ⟨S, arv, scv, carv, mr, hG, rfl, rfl, rfl⟩ := hJ
  have hR1 := kRm_le (d' := 170) (k' := k + 1) (n' := n + 6) hR (by omega) (by omega) (by omega)
  have hR0 := kRm_le (d' := 171) (k' := k) (n' := n) hR (by omega) (by omega) (by omega)
  have hq : qA (rF_111 S arv) (xF_345 scv mr carv al) := by
    first
    | exact q_windows hG
    | (obtain ⟨S0, ar0, n0, tx, g, p, m, s, nr, cs, hx⟩ := hG; exact q_windows hx)
  obtain ⟨v, S2, ar2, sc2, mr2, car2, al2, e1, e0, e2, hG2⟩ := hq
  obtain ⟨al3, hcl, hG3⟩ : ∃ al3 : jAl, kCl 345 [.ref 734] (kSc S scv) (x_mk mr rf0) (kAr arv carv) al (some (.int v)) (kSc S sc2) (x_mk mr2 rf0) (kAr arv car2) al3 ∧ GR S2 ar2 sc2 car2 mr2 al3 := ⟨_, (gW_cls (fun a ha => x_mk_lt ha) ((xt_345 (b := false) (rf := rf0) (d := 162)) _ scv mr carv al v sc2 mr2 car2 al2 e2 ⟨rfl, rfl, rfl, rfl, rfl⟩)), GR_al hG2 (kAl_n (by decide))⟩
  refine kl_widen (k' := k + 1) (n' := n + 6) (by omega) (by omega) ?_
  refine kl_aload_n hC rfl rfl rfl ?_
  refine kl_call hC rfl kk_219 rfl rfl rfl ys_734 yx_345 rfl rfl hR1 (gW_mono hcl (fun r9 s9 f9 a9 l9 e9 => ?_))
  rw [e9.1, e9.2.1, e9.2.2.1, e9.2.2.2.1, e9.2.2.2.2]
  show kW G (k + 1) (n + 6) 1837 [some (.ref 999), some (.ref 734), some (.ref 0), some (.ref 823), some (.int (nI i)), none, none] [.int v] (kSc S sc2) (x_mk mr2 rf0) (kAr arv car2) al3
  refine kl_aload_n hC rfl rfl rfl ?_
  refine kl_call hC rfl kk_222 rfl rfl rfl kL_0 rfl rfl rfl hR1 (gW_mono (gW_ref (sc0 := fun _ _ => 0) ((rt_111 (X := gRX) gRX_LK rfl (rf := x_mk mr2 rf0) (x_mk_0 hrf0) (d := 42)) (fun _ _ => 0) (al3) _ S arv v S2 ar2 e1 ⟨rfl, rfl, rfl, rfl, rfl⟩)) (fun r9 s9 f9 a9 l9 e9 => ?_))
  rw [e9.1, e9.2.1, e9.2.2.1, e9.2.2.2.1, e9.2.2.2.2]
  show kW G (k + 1) (n + 6) 1841 [some (.ref 999), some (.ref 734), some (.ref 0), some (.ref 823), some (.int (nI i)), none, none] [.int v, .int v] (kSc S2 sc2) (x_mk mr2 rf0) (kAr ar2 car2) al3
  refine kl_ic_eq hC rfl rfl rfl (fun _ => ?_) (fun c => absurd rfl c)
  exact K _ _ _ _ ⟨S2, ar2, sc2, car2, mr2, hG3, rfl, rfl, rfl⟩
set_option maxHeartbeats 4000000 in
theorem kc_33 {G : kG} {L k n i : Nat} {xs : Nat → Int32} {rf0 : jRf} {sc : jSc} {rf : jRf} {ar : jSc} {al : jAl} (hcat : kCatch) (hP : kPr G L xs) (hO : kL.1 823 = .inr (1, 1)) (hrf0 : rf0 0 = r_rf) (hi : i + 6 ≤ L) (hL : L ≤ 3072) (hR : kRm G 171 (k + 1) (n + 6)) (hJ : kJ rf0 sc rf ar al) (K : ∀ (sc' : jSc) (rf' : jRf) (ar' : jSc) (al' : jAl), kJ rf0 sc' rf' ar' al' → kW G (k + 1) (n + 6) 2131 [some (.ref 999), some (.ref 734), some (.ref 0), some (.ref 823), some (.int (nI i)), none, none] [] sc' rf' ar' al') : kW G k n 1846 [some (.ref 999), some (.ref 734), some (.ref 0), some (.ref 823), some (.int (nI i)), none, none] [] sc rf ar al := by
  obtain ⟨hC, hS9, hM, hLt⟩ := hP
  obtain ⟨S, arv, scv, carv, mr, hG, rfl, rfl, rfl⟩ := hJ
  have hR1 := kRm_le (d' := 170) (k' := k + 1) (n' := n + 6) hR (by omega) (by omega) (by omega)
  have hR0 := kRm_le (d' := 171) (k' := k) (n' := n) hR (by omega) (by omega) (by omega)
  rcases d_comes (rf0 := rf0) (x := (xs (i + 1))) (y := (xs (i + 2))) hG with ⟨v, S2, ar2, sc2, mr2, car2, al2, e1, e0, e2, hG2⟩ | ⟨⟨v, S2, ar2, e1, e0, hG2⟩, he⟩
  · skip
    obtain ⟨al3, hcl, hG3⟩ : ∃ al3 : jAl, kCl 346 [.ref 734, .int (xs (i + 1)), .int (xs (i + 2))] (kSc S scv) (x_mk mr rf0) (kAr arv carv) al (some (.int v)) (kSc S sc2) (x_mk mr2 rf0) (kAr arv car2) al3 ∧ GR S2 ar2 sc2 car2 mr2 al3 := ⟨_, (gW_cls (fun a ha => x_mk_lt ha) ((xt_346 (b := false) (rf := rf0) (d := 163)) _ (xs (i + 1)) (xs (i + 2)) scv mr carv al v sc2 mr2 car2 al2 e2 ⟨rfl, rfl, rfl, rfl, rfl⟩)), GR_al hG2 (kAl_n (by decide))⟩
    refine kl_aload_n hC rfl rfl rfl ?_
    refine kl_arg 1 hC hS9 rfl rfl rfl rfl rfl (by decide) rfl rfl rfl hi hL rfl ?_
    refine kl_arg 2 hC hS9 rfl rfl rfl rfl rfl (by decide) rfl rfl rfl hi hL rfl ?_
    refine kl_aload_n hC rfl rfl rfl ?_
    refine kl_callH hC rfl kk_223 rfl rfl rfl rfl rfl hR0 hM (kMl_of hLt (fun l hl => kh_comes (l := l) hl hO hcl)) ?_
    show kW G (k + 1) (n + 6) 1863 [some (.ref 999), some (.ref 734), some (.ref 0), some (.ref 823), some (.int (nI i)), none, none] [.int 0] (kSc S sc2) (x_mk mr2 rf0) (kAr arv car2) (j_u2 al3 823 (iN 0) v.toInt64)
    refine kl_istore hC rfl rfl rfl rfl rfl ?_
    refine kl_aload_n hC rfl rfl rfl ?_
    refine kl_arg 1 hC hS9 rfl rfl rfl rfl rfl (by decide) rfl rfl rfl hi hL rfl ?_
    refine kl_arg 2 hC hS9 rfl rfl rfl rfl rfl (by decide) rfl rfl rfl hi hL rfl ?_
    refine kl_call hC rfl kk_225 rfl rfl rfl kL_0 rfl rfl rfl hR1 (gW_mono (gW_ref (sc0 := fun _ _ => 0) ((rt_112 (X := gRX) gRX_LK rfl (rf := x_mk mr2 rf0) (x_mk_0 hrf0) (d := 42)) (fun _ _ => 0) ((j_u2 al3 823 (iN 0) v.toInt64)) _ (xs (i + 1)) (xs (i + 2)) S arv v S2 ar2 e1 ⟨rfl, rfl, rfl, rfl, rfl⟩)) (fun r9 s9 f9 a9 l9 e9 => ?_))
    rw [e9.1, e9.2.1, e9.2.2.1, e9.2.2.2.1, e9.2.2.2.2]
    show kW G (k + 1) (n + 6) 1881 [some (.ref 999), some (.ref 734), some (.ref 0), some (.ref 823), some (.int (nI i)), some (.int 0), none] [.int v] (kSc S2 sc2) (x_mk mr2 rf0) (kAr ar2 car2) (j_u2 al3 823 (iN 0) v.toInt64)
    refine kl_istore hC rfl rfl rfl rfl rfl ?_
    refine kl_aload_n hC rfl rfl rfl ?_
    refine kl_call hC rfl kk_109 rfl rfl rfl kL_0 rfl rfl rfl hR1 (gW_mono (gW_ref (sc0 := fun _ _ => 0) ((rt_2 (X := gRX) gRX_LK rfl (rf := x_mk mr2 rf0) (x_mk_0 hrf0) (d := 169)) (fun _ _ => 0) ((j_u2 al3 823 (iN 0) v.toInt64)) _ S2 ar2 (S2 0) S2 ar2 rfl ⟨rfl, rfl, rfl, rfl, rfl⟩)) (fun r9 s9 f9 a9 l9 e9 => ?_))
    rw [e9.1, e9.2.1, e9.2.2.1, e9.2.2.2.1, e9.2.2.2.2, e0]
    show kW G (k + 1) (n + 6) 1887 [some (.ref 999), some (.ref 734), some (.ref 0), some (.ref 823), some (.int (nI i)), some (.int 0), some (.int v)] [.int 0] (kSc S2 sc2) (x_mk mr2 rf0) (kAr ar2 car2) (j_u2 al3 823 (iN 0) v.toInt64)
    refine kl_iload hC rfl rfl rfl ?_
    refine kl_ic_eq hC rfl rfl rfl (fun _ => ?_) (fun c => absurd rfl c)
    refine kl_iload hC rfl rfl rfl ?_
    refine kl_if_ne hC rfl rfl rfl (fun _ => ?_) (fun c => absurd rfl c)
    refine kl_aload_n hC rfl rfl rfl ?_
    refine kl_iconst hC rfl ci_0 rfl ?_
    refine kl_laload hC rfl hO (by decide) k_o1 rfl ?_
    refine kl_iload hC rfl rfl rfl ?_
    refine kl_i2l hC rfl rfl ?_
    refine kl_lcmp hC rfl rfl ?_
    refine kl_if_eq hC rfl rfl rfl (fun _ => ?_) (fun c => absurd ((lg_cmp_eq _ _).mpr rfl) c)
    refine kl_goto hC rfl rfl ?_
    refine kW_weak (vs := [some (.ref 999), some (.ref 734), some (.ref 0), some (.ref 823), some (.int (nI i)), none, none]) ⟨rfl, rfl, rfl, rfl, rfl, trivial⟩ (K _ _ _ _ ⟨S2, ar2, sc2, car2, mr2, GR_al hG3 k_o2, rfl, rfl, rfl⟩)
  · skip
    refine kl_aload_n hC rfl rfl rfl ?_
    refine kl_arg 1 hC hS9 rfl rfl rfl rfl rfl (by decide) rfl rfl rfl hi hL rfl ?_
    refine kl_arg 2 hC hS9 rfl rfl rfl rfl rfl (by decide) rfl rfl rfl hi hL rfl ?_
    refine kl_aload_n hC rfl rfl rfl ?_
    refine kl_callH hC rfl kk_223 rfl rfl rfl rfl rfl hR0 hM (kMl_of hLt (fun l hl => kx_comes_1 (l := l) hcat hl he)) ?_
    show kW G (k + 1) (n + 6) 1863 [some (.ref 999), some (.ref 734), some (.ref 0), some (.ref 823), some (.int (nI i)), none, none] [.int 1] (kSc S scv) (x_mk mr rf0) (kAr arv carv) al
    refine kl_istore hC rfl rfl rfl rfl rfl ?_
    refine kl_aload_n hC rfl rfl rfl ?_
    refine kl_arg 1 hC hS9 rfl rfl rfl rfl rfl (by decide) rfl rfl rfl hi hL rfl ?_
    refine kl_arg 2 hC hS9 rfl rfl rfl rfl rfl (by decide) rfl rfl rfl hi hL rfl ?_
    refine kl_call hC rfl kk_225 rfl rfl rfl kL_0 rfl rfl rfl hR1 (gW_mono (gW_ref (sc0 := fun _ _ => 0) ((rt_112 (X := gRX) gRX_LK rfl (rf := x_mk mr rf0) (x_mk_0 hrf0) (d := 42)) (fun _ _ => 0) (al) _ (xs (i + 1)) (xs (i + 2)) S arv v S2 ar2 e1 ⟨rfl, rfl, rfl, rfl, rfl⟩)) (fun r9 s9 f9 a9 l9 e9 => ?_))
    rw [e9.1, e9.2.1, e9.2.2.1, e9.2.2.2.1, e9.2.2.2.2]
    show kW G (k + 1) (n + 6) 1881 [some (.ref 999), some (.ref 734), some (.ref 0), some (.ref 823), some (.int (nI i)), some (.int 1), none] [.int v] (kSc S2 scv) (x_mk mr rf0) (kAr ar2 carv) al
    refine kl_istore hC rfl rfl rfl rfl rfl ?_
    refine kl_aload_n hC rfl rfl rfl ?_
    refine kl_call hC rfl kk_109 rfl rfl rfl kL_0 rfl rfl rfl hR1 (gW_mono (gW_ref (sc0 := fun _ _ => 0) ((rt_2 (X := gRX) gRX_LK rfl (rf := x_mk mr rf0) (x_mk_0 hrf0) (d := 169)) (fun _ _ => 0) (al) _ S2 ar2 (S2 0) S2 ar2 rfl ⟨rfl, rfl, rfl, rfl, rfl⟩)) (fun r9 s9 f9 a9 l9 e9 => ?_))
    rw [e9.1, e9.2.1, e9.2.2.1, e9.2.2.2.1, e9.2.2.2.2, e0]
    show kW G (k + 1) (n + 6) 1887 [some (.ref 999), some (.ref 734), some (.ref 0), some (.ref 823), some (.int (nI i)), some (.int 1), some (.int v)] [.int 1] (kSc S2 scv) (x_mk mr rf0) (kAr ar2 carv) al
    refine kl_iload hC rfl rfl rfl ?_
    refine kl_ic_eq hC rfl rfl rfl (fun _ => ?_) (fun c => absurd rfl c)
    refine kl_iload hC rfl rfl rfl ?_
    refine kl_if_ne hC rfl rfl rfl (fun c => absurd c (by decide)) (fun _ => ?_)
    refine kl_goto hC rfl rfl ?_
    refine kW_weak (vs := [some (.ref 999), some (.ref 734), some (.ref 0), some (.ref 823), some (.int (nI i)), none, none]) ⟨rfl, rfl, rfl, rfl, rfl, trivial⟩ (K _ _ _ _ ⟨S2, ar2, scv, carv, mr, hG2, rfl, rfl, rfl⟩)
set_option maxHeartbeats 4000000 in
theorem kc_34 {G : kG} {L k n i : Nat} {xs : Nat → Int32} {rf0 : jRf} {sc : jSc} {rf : jRf} {ar : jSc} {al : jAl} (hcat : kCatch) (hP : kPr G L xs) (hO : kL.1 823 = .inr (1, 1)) (hrf0 : rf0 0 = r_rf) (hi : i + 6 ≤ L) (hL : L ≤ 3072) (hR : kRm G 171 (k + 1) (n + 6)) (hJ : kJ rf0 sc rf ar al) (K : ∀ (sc' : jSc) (rf' : jRf) (ar' : jSc) (al' : jAl), kJ rf0 sc' rf' ar' al' → kW G (k + 1) (n + 6) 2131 [some (.ref 999), some (.ref 734), some (.ref 0), some (.ref 823), some (.int (nI i)), none, none] [] sc' rf' ar' al') : kW G k n 1914 [some (.ref 999), some (.ref 734), some (.ref 0), some (.ref 823), some (.int (nI i)), none, none] [] sc rf ar al := by
  obtain ⟨hC, hS9, hM, hLt⟩ := hP
  obtain ⟨S, arv, scv, carv, mr, hG, rfl, rfl, rfl⟩ := hJ
  have hR1 := kRm_le (d' := 170) (k' := k + 1) (n' := n + 6) hR (by omega) (by omega) (by omega)
  have hR0 := kRm_le (d' := 171) (k' := k) (n' := n) hR (by omega) (by omega) (by omega)
  rcases d_shows (rf0 := rf0) (x := (xs (i + 1))) (y := (xs (i + 2))) hG with ⟨v, S2, ar2, sc2, mr2, car2, al2, e1, e0, e2, hG2⟩ | ⟨⟨v, S2, ar2, e1, e0, hG2⟩, he⟩ | ⟨⟨v, S2, ar2, e1, e0, hG2⟩, he⟩
  · skip
    obtain ⟨al3, hcl, hG3⟩ : ∃ al3 : jAl, kCl 347 [.ref 734, .int (xs (i + 1)), .int (xs (i + 2))] (kSc S scv) (x_mk mr rf0) (kAr arv carv) al (some (.int v)) (kSc S sc2) (x_mk mr2 rf0) (kAr arv car2) al3 ∧ GR S2 ar2 sc2 car2 mr2 al3 := ⟨_, (gW_cls (fun a ha => x_mk_lt ha) ((xt_347 (b := false) (rf := rf0) (d := 168)) _ (xs (i + 1)) (xs (i + 2)) scv mr carv al v sc2 mr2 car2 al2 e2 ⟨rfl, rfl, rfl, rfl, rfl⟩)), GR_al hG2 (kAl_n (by decide))⟩
    refine kl_aload_n hC rfl rfl rfl ?_
    refine kl_arg 1 hC hS9 rfl rfl rfl rfl rfl (by decide) rfl rfl rfl hi hL rfl ?_
    refine kl_arg 2 hC hS9 rfl rfl rfl rfl rfl (by decide) rfl rfl rfl hi hL rfl ?_
    refine kl_aload_n hC rfl rfl rfl ?_
    refine kl_callH hC rfl kk_226 rfl rfl rfl rfl rfl hR0 hM (kMl_of hLt (fun l hl => kh_shows (l := l) hl hO hcl)) ?_
    show kW G (k + 1) (n + 6) 1931 [some (.ref 999), some (.ref 734), some (.ref 0), some (.ref 823), some (.int (nI i)), none, none] [.int 0] (kSc S sc2) (x_mk mr2 rf0) (kAr arv car2) (j_u2 al3 823 (iN 0) v.toInt64)
    refine kl_istore hC rfl rfl rfl rfl rfl ?_
    refine kl_aload_n hC rfl rfl rfl ?_
    refine kl_arg 1 hC hS9 rfl rfl rfl rfl rfl (by decide) rfl rfl rfl hi hL rfl ?_
    refine kl_arg 2 hC hS9 rfl rfl rfl rfl rfl (by decide) rfl rfl rfl hi hL rfl ?_
    refine kl_call hC rfl kk_228 rfl rfl rfl kL_0 rfl rfl rfl hR1 (gW_mono (gW_ref (sc0 := fun _ _ => 0) ((rt_113 (X := gRX) gRX_LK rfl (rf := x_mk mr2 rf0) (x_mk_0 hrf0) (d := 168)) (fun _ _ => 0) ((j_u2 al3 823 (iN 0) v.toInt64)) _ (xs (i + 1)) (xs (i + 2)) S arv v S2 ar2 e1 ⟨rfl, rfl, rfl, rfl, rfl⟩)) (fun r9 s9 f9 a9 l9 e9 => ?_))
    rw [e9.1, e9.2.1, e9.2.2.1, e9.2.2.2.1, e9.2.2.2.2]
    show kW G (k + 1) (n + 6) 1949 [some (.ref 999), some (.ref 734), some (.ref 0), some (.ref 823), some (.int (nI i)), some (.int 0), none] [.int v] (kSc S2 sc2) (x_mk mr2 rf0) (kAr ar2 car2) (j_u2 al3 823 (iN 0) v.toInt64)
    refine kl_istore hC rfl rfl rfl rfl rfl ?_
    refine kl_aload_n hC rfl rfl rfl ?_
    refine kl_call hC rfl kk_109 rfl rfl rfl kL_0 rfl rfl rfl hR1 (gW_mono (gW_ref (sc0 := fun _ _ => 0) ((rt_2 (X := gRX) gRX_LK rfl (rf := x_mk mr2 rf0) (x_mk_0 hrf0) (d := 169)) (fun _ _ => 0) ((j_u2 al3 823 (iN 0) v.toInt64)) _ S2 ar2 (S2 0) S2 ar2 rfl ⟨rfl, rfl, rfl, rfl, rfl⟩)) (fun r9 s9 f9 a9 l9 e9 => ?_))
    rw [e9.1, e9.2.1, e9.2.2.1, e9.2.2.2.1, e9.2.2.2.2, e0]
    show kW G (k + 1) (n + 6) 1955 [some (.ref 999), some (.ref 734), some (.ref 0), some (.ref 823), some (.int (nI i)), some (.int 0), some (.int v)] [.int 0] (kSc S2 sc2) (x_mk mr2 rf0) (kAr ar2 car2) (j_u2 al3 823 (iN 0) v.toInt64)
    refine kl_iload hC rfl rfl rfl ?_
    refine kl_ic_eq hC rfl rfl rfl (fun _ => ?_) (fun c => absurd rfl c)
    refine kl_iload hC rfl rfl rfl ?_
    refine kl_if_ne hC rfl rfl rfl (fun _ => ?_) (fun c => absurd rfl c)
    refine kl_aload_n hC rfl rfl rfl ?_
    refine kl_iconst hC rfl ci_0 rfl ?_
    refine kl_laload hC rfl hO (by decide) k_o1 rfl ?_
    refine kl_iload hC rfl rfl rfl ?_
    refine kl_i2l hC rfl rfl ?_
    refine kl_lcmp hC rfl rfl ?_
    refine kl_if_eq hC rfl rfl rfl (fun _ => ?_) (fun c => absurd ((lg_cmp_eq _ _).mpr rfl) c)
    refine kl_goto hC rfl rfl ?_
    refine kW_weak (vs := [some (.ref 999), some (.ref 734), some (.ref 0), some (.ref 823), some (.int (nI i)), none, none]) ⟨rfl, rfl, rfl, rfl, rfl, trivial⟩ (K _ _ _ _ ⟨S2, ar2, sc2, car2, mr2, GR_al hG3 k_o2, rfl, rfl, rfl⟩)
  · skip
    refine kl_aload_n hC rfl rfl rfl ?_
    refine kl_arg 1 hC hS9 rfl rfl rfl rfl rfl (by decide) rfl rfl rfl hi hL rfl ?_
    refine kl_arg 2 hC hS9 rfl rfl rfl rfl rfl (by decide) rfl rfl rfl hi hL rfl ?_
    refine kl_aload_n hC rfl rfl rfl ?_
    refine kl_callH hC rfl kk_226 rfl rfl rfl rfl rfl hR0 hM (kMl_of hLt (fun l hl => kx_shows_1 (l := l) hcat hl he)) ?_
    show kW G (k + 1) (n + 6) 1931 [some (.ref 999), some (.ref 734), some (.ref 0), some (.ref 823), some (.int (nI i)), none, none] [.int 1] (kSc S scv) (x_mk mr rf0) (kAr arv carv) al
    refine kl_istore hC rfl rfl rfl rfl rfl ?_
    refine kl_aload_n hC rfl rfl rfl ?_
    refine kl_arg 1 hC hS9 rfl rfl rfl rfl rfl (by decide) rfl rfl rfl hi hL rfl ?_
    refine kl_arg 2 hC hS9 rfl rfl rfl rfl rfl (by decide) rfl rfl rfl hi hL rfl ?_
    refine kl_call hC rfl kk_228 rfl rfl rfl kL_0 rfl rfl rfl hR1 (gW_mono (gW_ref (sc0 := fun _ _ => 0) ((rt_113 (X := gRX) gRX_LK rfl (rf := x_mk mr rf0) (x_mk_0 hrf0) (d := 168)) (fun _ _ => 0) (al) _ (xs (i + 1)) (xs (i + 2)) S arv v S2 ar2 e1 ⟨rfl, rfl, rfl, rfl, rfl⟩)) (fun r9 s9 f9 a9 l9 e9 => ?_))
    rw [e9.1, e9.2.1, e9.2.2.1, e9.2.2.2.1, e9.2.2.2.2]
    show kW G (k + 1) (n + 6) 1949 [some (.ref 999), some (.ref 734), some (.ref 0), some (.ref 823), some (.int (nI i)), some (.int 1), none] [.int v] (kSc S2 scv) (x_mk mr rf0) (kAr ar2 carv) al
    refine kl_istore hC rfl rfl rfl rfl rfl ?_
    refine kl_aload_n hC rfl rfl rfl ?_
    refine kl_call hC rfl kk_109 rfl rfl rfl kL_0 rfl rfl rfl hR1 (gW_mono (gW_ref (sc0 := fun _ _ => 0) ((rt_2 (X := gRX) gRX_LK rfl (rf := x_mk mr rf0) (x_mk_0 hrf0) (d := 169)) (fun _ _ => 0) (al) _ S2 ar2 (S2 0) S2 ar2 rfl ⟨rfl, rfl, rfl, rfl, rfl⟩)) (fun r9 s9 f9 a9 l9 e9 => ?_))
    rw [e9.1, e9.2.1, e9.2.2.1, e9.2.2.2.1, e9.2.2.2.2, e0]
    show kW G (k + 1) (n + 6) 1955 [some (.ref 999), some (.ref 734), some (.ref 0), some (.ref 823), some (.int (nI i)), some (.int 1), some (.int v)] [.int 1] (kSc S2 scv) (x_mk mr rf0) (kAr ar2 carv) al
    refine kl_iload hC rfl rfl rfl ?_
    refine kl_ic_eq hC rfl rfl rfl (fun _ => ?_) (fun c => absurd rfl c)
    refine kl_iload hC rfl rfl rfl ?_
    refine kl_if_ne hC rfl rfl rfl (fun c => absurd c (by decide)) (fun _ => ?_)
    refine kl_goto hC rfl rfl ?_
    refine kW_weak (vs := [some (.ref 999), some (.ref 734), some (.ref 0), some (.ref 823), some (.int (nI i)), none, none]) ⟨rfl, rfl, rfl, rfl, rfl, trivial⟩ (K _ _ _ _ ⟨S2, ar2, scv, carv, mr, hG2, rfl, rfl, rfl⟩)
  · skip
    refine kl_aload_n hC rfl rfl rfl ?_
    refine kl_arg 1 hC hS9 rfl rfl rfl rfl rfl (by decide) rfl rfl rfl hi hL rfl ?_
    refine kl_arg 2 hC hS9 rfl rfl rfl rfl rfl (by decide) rfl rfl rfl hi hL rfl ?_
    refine kl_aload_n hC rfl rfl rfl ?_
    refine kl_callH hC rfl kk_226 rfl rfl rfl rfl rfl hR0 hM (kMl_of hLt (fun l hl => kx_shows_2 (l := l) hcat hl he)) ?_
    show kW G (k + 1) (n + 6) 1931 [some (.ref 999), some (.ref 734), some (.ref 0), some (.ref 823), some (.int (nI i)), none, none] [.int 2] (kSc S scv) (x_mk mr rf0) (kAr arv carv) al
    refine kl_istore hC rfl rfl rfl rfl rfl ?_
    refine kl_aload_n hC rfl rfl rfl ?_
    refine kl_arg 1 hC hS9 rfl rfl rfl rfl rfl (by decide) rfl rfl rfl hi hL rfl ?_
    refine kl_arg 2 hC hS9 rfl rfl rfl rfl rfl (by decide) rfl rfl rfl hi hL rfl ?_
    refine kl_call hC rfl kk_228 rfl rfl rfl kL_0 rfl rfl rfl hR1 (gW_mono (gW_ref (sc0 := fun _ _ => 0) ((rt_113 (X := gRX) gRX_LK rfl (rf := x_mk mr rf0) (x_mk_0 hrf0) (d := 168)) (fun _ _ => 0) (al) _ (xs (i + 1)) (xs (i + 2)) S arv v S2 ar2 e1 ⟨rfl, rfl, rfl, rfl, rfl⟩)) (fun r9 s9 f9 a9 l9 e9 => ?_))
    rw [e9.1, e9.2.1, e9.2.2.1, e9.2.2.2.1, e9.2.2.2.2]
    show kW G (k + 1) (n + 6) 1949 [some (.ref 999), some (.ref 734), some (.ref 0), some (.ref 823), some (.int (nI i)), some (.int 2), none] [.int v] (kSc S2 scv) (x_mk mr rf0) (kAr ar2 carv) al
    refine kl_istore hC rfl rfl rfl rfl rfl ?_
    refine kl_aload_n hC rfl rfl rfl ?_
    refine kl_call hC rfl kk_109 rfl rfl rfl kL_0 rfl rfl rfl hR1 (gW_mono (gW_ref (sc0 := fun _ _ => 0) ((rt_2 (X := gRX) gRX_LK rfl (rf := x_mk mr rf0) (x_mk_0 hrf0) (d := 169)) (fun _ _ => 0) (al) _ S2 ar2 (S2 0) S2 ar2 rfl ⟨rfl, rfl, rfl, rfl, rfl⟩)) (fun r9 s9 f9 a9 l9 e9 => ?_))
    rw [e9.1, e9.2.1, e9.2.2.1, e9.2.2.2.1, e9.2.2.2.2, e0]
    show kW G (k + 1) (n + 6) 1955 [some (.ref 999), some (.ref 734), some (.ref 0), some (.ref 823), some (.int (nI i)), some (.int 2), some (.int v)] [.int 2] (kSc S2 scv) (x_mk mr rf0) (kAr ar2 carv) al
    refine kl_iload hC rfl rfl rfl ?_
    refine kl_ic_eq hC rfl rfl rfl (fun _ => ?_) (fun c => absurd rfl c)
    refine kl_iload hC rfl rfl rfl ?_
    refine kl_if_ne hC rfl rfl rfl (fun c => absurd c (by decide)) (fun _ => ?_)
    refine kl_goto hC rfl rfl ?_
    refine kW_weak (vs := [some (.ref 999), some (.ref 734), some (.ref 0), some (.ref 823), some (.int (nI i)), none, none]) ⟨rfl, rfl, rfl, rfl, rfl, trivial⟩ (K _ _ _ _ ⟨S2, ar2, scv, carv, mr, hG2, rfl, rfl, rfl⟩)
set_option maxHeartbeats 4000000 in
theorem kc_35 {G : kG} {L k n i : Nat} {xs : Nat → Int32} {rf0 : jRf} {sc : jSc} {rf : jRf} {ar : jSc} {al : jAl} (hcat : kCatch) (hP : kPr G L xs) (hO : kL.1 823 = .inr (1, 1)) (hrf0 : rf0 0 = r_rf) (hi : i + 6 ≤ L) (hL : L ≤ 3072) (hR : kRm G 171 (k + 1) (n + 6)) (hJ : kJ rf0 sc rf ar al) (K : ∀ (sc' : jSc) (rf' : jRf) (ar' : jSc) (al' : jAl), kJ rf0 sc' rf' ar' al' → kW G (k + 1) (n + 6) 2131 [some (.ref 999), some (.ref 734), some (.ref 0), some (.ref 823), some (.int (nI i)), none, none] [] sc' rf' ar' al') : kW G k n 1982 [some (.ref 999), some (.ref 734), some (.ref 0), some (.ref 823), some (.int (nI i)), none, none] [] sc rf ar al := by
  obtain ⟨hC, hS9, hM, hLt⟩ := hP
  obtain ⟨S, arv, scv, carv, mr, hG, rfl, rfl, rfl⟩ := hJ
  have hR1 := kRm_le (d' := 170) (k' := k + 1) (n' := n + 6) hR (by omega) (by omega) (by omega)
  have hR0 := kRm_le (d' := 171) (k' := k) (n' := n) hR (by omega) (by omega) (by omega)
  rcases d_lost (rf0 := rf0) (x := (xs (i + 1))) hG with ⟨v, S2, ar2, sc2, mr2, car2, al2, e1, e0, e2, hG2⟩ | ⟨⟨v, S2, ar2, e1, e0, hG2⟩, he⟩
  · skip
    obtain ⟨al3, hcl, hG3⟩ : ∃ al3 : jAl, kCl 348 [.ref 734, .int (xs (i + 1))] (kSc S scv) (x_mk mr rf0) (kAr arv carv) al (some (.int v)) (kSc S sc2) (x_mk mr2 rf0) (kAr arv car2) al3 ∧ GR S2 ar2 sc2 car2 mr2 al3 := ⟨_, (gW_cls (fun a ha => x_mk_lt ha) ((xt_348 (b := false) (rf := rf0) (d := 123)) _ (xs (i + 1)) scv mr carv al v sc2 mr2 car2 al2 e2 ⟨rfl, rfl, rfl, rfl, rfl⟩)), GR_al hG2 (kAl_n (by decide))⟩
    refine kl_aload_n hC rfl rfl rfl ?_
    refine kl_arg 1 hC hS9 rfl rfl rfl rfl rfl (by decide) rfl rfl rfl hi hL rfl ?_
    refine kl_aload_n hC rfl rfl rfl ?_
    refine kl_callH hC rfl kk_229 rfl rfl rfl rfl rfl hR0 hM (kMl_of hLt (fun l hl => kh_lost (l := l) hl hO hcl)) ?_
    show kW G (k + 1) (n + 6) 1993 [some (.ref 999), some (.ref 734), some (.ref 0), some (.ref 823), some (.int (nI i)), none, none] [.int 0] (kSc S sc2) (x_mk mr2 rf0) (kAr arv car2) (j_u2 al3 823 (iN 0) v.toInt64)
    refine kl_istore hC rfl rfl rfl rfl rfl ?_
    refine kl_aload_n hC rfl rfl rfl ?_
    refine kl_arg 1 hC hS9 rfl rfl rfl rfl rfl (by decide) rfl rfl rfl hi hL rfl ?_
    refine kl_call hC rfl kk_231 rfl rfl rfl kL_0 rfl rfl rfl hR1 (gW_mono (gW_ref (sc0 := fun _ _ => 0) ((rt_117 (X := gRX) gRX_LK rfl (rf := x_mk mr2 rf0) (x_mk_0 hrf0) (d := 2)) (fun _ _ => 0) ((j_u2 al3 823 (iN 0) v.toInt64)) _ (xs (i + 1)) S arv v S2 ar2 e1 ⟨rfl, rfl, rfl, rfl, rfl⟩)) (fun r9 s9 f9 a9 l9 e9 => ?_))
    rw [e9.1, e9.2.1, e9.2.2.1, e9.2.2.2.1, e9.2.2.2.2]
    show kW G (k + 1) (n + 6) 2005 [some (.ref 999), some (.ref 734), some (.ref 0), some (.ref 823), some (.int (nI i)), some (.int 0), none] [.int v] (kSc S2 sc2) (x_mk mr2 rf0) (kAr ar2 car2) (j_u2 al3 823 (iN 0) v.toInt64)
    refine kl_istore hC rfl rfl rfl rfl rfl ?_
    refine kl_aload_n hC rfl rfl rfl ?_
    refine kl_call hC rfl kk_109 rfl rfl rfl kL_0 rfl rfl rfl hR1 (gW_mono (gW_ref (sc0 := fun _ _ => 0) ((rt_2 (X := gRX) gRX_LK rfl (rf := x_mk mr2 rf0) (x_mk_0 hrf0) (d := 169)) (fun _ _ => 0) ((j_u2 al3 823 (iN 0) v.toInt64)) _ S2 ar2 (S2 0) S2 ar2 rfl ⟨rfl, rfl, rfl, rfl, rfl⟩)) (fun r9 s9 f9 a9 l9 e9 => ?_))
    rw [e9.1, e9.2.1, e9.2.2.1, e9.2.2.2.1, e9.2.2.2.2, e0]
    show kW G (k + 1) (n + 6) 2011 [some (.ref 999), some (.ref 734), some (.ref 0), some (.ref 823), some (.int (nI i)), some (.int 0), some (.int v)] [.int 0] (kSc S2 sc2) (x_mk mr2 rf0) (kAr ar2 car2) (j_u2 al3 823 (iN 0) v.toInt64)
    refine kl_iload hC rfl rfl rfl ?_
    refine kl_ic_eq hC rfl rfl rfl (fun _ => ?_) (fun c => absurd rfl c)
    refine kl_iload hC rfl rfl rfl ?_
    refine kl_if_ne hC rfl rfl rfl (fun _ => ?_) (fun c => absurd rfl c)
    refine kl_aload_n hC rfl rfl rfl ?_
    refine kl_iconst hC rfl ci_0 rfl ?_
    refine kl_laload hC rfl hO (by decide) k_o1 rfl ?_
    refine kl_iload hC rfl rfl rfl ?_
    refine kl_i2l hC rfl rfl ?_
    refine kl_lcmp hC rfl rfl ?_
    refine kl_if_eq hC rfl rfl rfl (fun _ => ?_) (fun c => absurd ((lg_cmp_eq _ _).mpr rfl) c)
    refine kl_goto hC rfl rfl ?_
    refine kW_weak (vs := [some (.ref 999), some (.ref 734), some (.ref 0), some (.ref 823), some (.int (nI i)), none, none]) ⟨rfl, rfl, rfl, rfl, rfl, trivial⟩ (K _ _ _ _ ⟨S2, ar2, sc2, car2, mr2, GR_al hG3 k_o2, rfl, rfl, rfl⟩)
  · skip
    refine kl_aload_n hC rfl rfl rfl ?_
    refine kl_arg 1 hC hS9 rfl rfl rfl rfl rfl (by decide) rfl rfl rfl hi hL rfl ?_
    refine kl_aload_n hC rfl rfl rfl ?_
    refine kl_callH hC rfl kk_229 rfl rfl rfl rfl rfl hR0 hM (kMl_of hLt (fun l hl => kx_lost_1 (l := l) hcat hl he)) ?_
    show kW G (k + 1) (n + 6) 1993 [some (.ref 999), some (.ref 734), some (.ref 0), some (.ref 823), some (.int (nI i)), none, none] [.int 1] (kSc S scv) (x_mk mr rf0) (kAr arv carv) al
    refine kl_istore hC rfl rfl rfl rfl rfl ?_
    refine kl_aload_n hC rfl rfl rfl ?_
    refine kl_arg 1 hC hS9 rfl rfl rfl rfl rfl (by decide) rfl rfl rfl hi hL rfl ?_
    refine kl_call hC rfl kk_231 rfl rfl rfl kL_0 rfl rfl rfl hR1 (gW_mono (gW_ref (sc0 := fun _ _ => 0) ((rt_117 (X := gRX) gRX_LK rfl (rf := x_mk mr rf0) (x_mk_0 hrf0) (d := 2)) (fun _ _ => 0) (al) _ (xs (i + 1)) S arv v S2 ar2 e1 ⟨rfl, rfl, rfl, rfl, rfl⟩)) (fun r9 s9 f9 a9 l9 e9 => ?_))
    rw [e9.1, e9.2.1, e9.2.2.1, e9.2.2.2.1, e9.2.2.2.2]
    show kW G (k + 1) (n + 6) 2005 [some (.ref 999), some (.ref 734), some (.ref 0), some (.ref 823), some (.int (nI i)), some (.int 1), none] [.int v] (kSc S2 scv) (x_mk mr rf0) (kAr ar2 carv) al
    refine kl_istore hC rfl rfl rfl rfl rfl ?_
    refine kl_aload_n hC rfl rfl rfl ?_
    refine kl_call hC rfl kk_109 rfl rfl rfl kL_0 rfl rfl rfl hR1 (gW_mono (gW_ref (sc0 := fun _ _ => 0) ((rt_2 (X := gRX) gRX_LK rfl (rf := x_mk mr rf0) (x_mk_0 hrf0) (d := 169)) (fun _ _ => 0) (al) _ S2 ar2 (S2 0) S2 ar2 rfl ⟨rfl, rfl, rfl, rfl, rfl⟩)) (fun r9 s9 f9 a9 l9 e9 => ?_))
    rw [e9.1, e9.2.1, e9.2.2.1, e9.2.2.2.1, e9.2.2.2.2, e0]
    show kW G (k + 1) (n + 6) 2011 [some (.ref 999), some (.ref 734), some (.ref 0), some (.ref 823), some (.int (nI i)), some (.int 1), some (.int v)] [.int 1] (kSc S2 scv) (x_mk mr rf0) (kAr ar2 carv) al
    refine kl_iload hC rfl rfl rfl ?_
    refine kl_ic_eq hC rfl rfl rfl (fun _ => ?_) (fun c => absurd rfl c)
    refine kl_iload hC rfl rfl rfl ?_
    refine kl_if_ne hC rfl rfl rfl (fun c => absurd c (by decide)) (fun _ => ?_)
    refine kl_goto hC rfl rfl ?_
    refine kW_weak (vs := [some (.ref 999), some (.ref 734), some (.ref 0), some (.ref 823), some (.int (nI i)), none, none]) ⟨rfl, rfl, rfl, rfl, rfl, trivial⟩ (K _ _ _ _ ⟨S2, ar2, scv, carv, mr, hG2, rfl, rfl, rfl⟩)
set_option maxHeartbeats 4000000 in
theorem kc_36 {G : kG} {L k n i : Nat} {xs : Nat → Int32} {rf0 : jRf} {sc : jSc} {rf : jRf} {ar : jSc} {al : jAl} (hcat : kCatch) (hP : kPr G L xs) (hO : kL.1 823 = .inr (1, 1)) (hrf0 : rf0 0 = r_rf) (hi : i + 6 ≤ L) (hL : L ≤ 3072) (hR : kRm G 171 (k + 1) (n + 6)) (hJ : kJ rf0 sc rf ar al) (K : ∀ (sc' : jSc) (rf' : jRf) (ar' : jSc) (al' : jAl), kJ rf0 sc' rf' ar' al' → kW G (k + 1) (n + 6) 2131 [some (.ref 999), some (.ref 734), some (.ref 0), some (.ref 823), some (.int (nI i)), none, none] [] sc' rf' ar' al') : kW G k n 2038 [some (.ref 999), some (.ref 734), some (.ref 0), some (.ref 823), some (.int (nI i)), none, none] [] sc rf ar al := by
  obtain ⟨hC, hS9, hM, hLt⟩ := hP
  obtain ⟨S, arv, scv, carv, mr, hG, rfl, rfl, rfl⟩ := hJ
  have hR1 := kRm_le (d' := 170) (k' := k + 1) (n' := n + 6) hR (by omega) (by omega) (by omega)
  have hR0 := kRm_le (d' := 171) (k' := k) (n' := n) hR (by omega) (by omega) (by omega)
  rcases d_newer (rf0 := rf0) (x := (xs (i + 1))) (y := (xs (i + 2))) hG with ⟨v, S2, ar2, sc2, mr2, car2, al2, e1, e0, e2, hG2⟩ | ⟨⟨v, S2, ar2, e1, e0, hG2⟩, he⟩
  · skip
    obtain ⟨al3, hcl, hG3⟩ : ∃ al3 : jAl, kCl 349 [.ref 734, .int (xs (i + 1)), .int (xs (i + 2))] (kSc S scv) (x_mk mr rf0) (kAr arv carv) al (some (.int v)) (kSc S sc2) (x_mk mr2 rf0) (kAr arv car2) al3 ∧ GR S2 ar2 sc2 car2 mr2 al3 := ⟨_, (gW_cls (fun a ha => x_mk_lt ha) ((xt_349 (b := false) (rf := rf0) (d := 163)) _ (xs (i + 1)) (xs (i + 2)) scv mr carv al v sc2 mr2 car2 al2 e2 ⟨rfl, rfl, rfl, rfl, rfl⟩)), GR_al hG2 (kAl_n (by decide))⟩
    refine kl_aload_n hC rfl rfl rfl ?_
    refine kl_arg 1 hC hS9 rfl rfl rfl rfl rfl (by decide) rfl rfl rfl hi hL rfl ?_
    refine kl_arg 2 hC hS9 rfl rfl rfl rfl rfl (by decide) rfl rfl rfl hi hL rfl ?_
    refine kl_aload_n hC rfl rfl rfl ?_
    refine kl_callH hC rfl kk_232 rfl rfl rfl rfl rfl hR0 hM (kMl_of hLt (fun l hl => kh_newer (l := l) hl hO hcl)) ?_
    show kW G (k + 1) (n + 6) 2055 [some (.ref 999), some (.ref 734), some (.ref 0), some (.ref 823), some (.int (nI i)), none, none] [.int 0] (kSc S sc2) (x_mk mr2 rf0) (kAr arv car2) (j_u2 al3 823 (iN 0) v.toInt64)
    refine kl_istore hC rfl rfl rfl rfl rfl ?_
    refine kl_aload_n hC rfl rfl rfl ?_
    refine kl_arg 1 hC hS9 rfl rfl rfl rfl rfl (by decide) rfl rfl rfl hi hL rfl ?_
    refine kl_arg 2 hC hS9 rfl rfl rfl rfl rfl (by decide) rfl rfl rfl hi hL rfl ?_
    refine kl_call hC rfl kk_234 rfl rfl rfl kL_0 rfl rfl rfl hR1 (gW_mono (gW_ref (sc0 := fun _ _ => 0) ((rt_118 (X := gRX) gRX_LK rfl (rf := x_mk mr2 rf0) (x_mk_0 hrf0) (d := 41)) (fun _ _ => 0) ((j_u2 al3 823 (iN 0) v.toInt64)) _ (xs (i + 1)) (xs (i + 2)) S arv v S2 ar2 e1 ⟨rfl, rfl, rfl, rfl, rfl⟩)) (fun r9 s9 f9 a9 l9 e9 => ?_))
    rw [e9.1, e9.2.1, e9.2.2.1, e9.2.2.2.1, e9.2.2.2.2]
    show kW G (k + 1) (n + 6) 2073 [some (.ref 999), some (.ref 734), some (.ref 0), some (.ref 823), some (.int (nI i)), some (.int 0), none] [.int v] (kSc S2 sc2) (x_mk mr2 rf0) (kAr ar2 car2) (j_u2 al3 823 (iN 0) v.toInt64)
    refine kl_istore hC rfl rfl rfl rfl rfl ?_
    refine kl_aload_n hC rfl rfl rfl ?_
    refine kl_call hC rfl kk_109 rfl rfl rfl kL_0 rfl rfl rfl hR1 (gW_mono (gW_ref (sc0 := fun _ _ => 0) ((rt_2 (X := gRX) gRX_LK rfl (rf := x_mk mr2 rf0) (x_mk_0 hrf0) (d := 169)) (fun _ _ => 0) ((j_u2 al3 823 (iN 0) v.toInt64)) _ S2 ar2 (S2 0) S2 ar2 rfl ⟨rfl, rfl, rfl, rfl, rfl⟩)) (fun r9 s9 f9 a9 l9 e9 => ?_))
    rw [e9.1, e9.2.1, e9.2.2.1, e9.2.2.2.1, e9.2.2.2.2, e0]
    show kW G (k + 1) (n + 6) 2079 [some (.ref 999), some (.ref 734), some (.ref 0), some (.ref 823), some (.int (nI i)), some (.int 0), some (.int v)] [.int 0] (kSc S2 sc2) (x_mk mr2 rf0) (kAr ar2 car2) (j_u2 al3 823 (iN 0) v.toInt64)
    refine kl_iload hC rfl rfl rfl ?_
    refine kl_ic_eq hC rfl rfl rfl (fun _ => ?_) (fun c => absurd rfl c)
    refine kl_iload hC rfl rfl rfl ?_
    refine kl_if_ne hC rfl rfl rfl (fun _ => ?_) (fun c => absurd rfl c)
    refine kl_aload_n hC rfl rfl rfl ?_
    refine kl_iconst hC rfl ci_0 rfl ?_
    refine kl_laload hC rfl hO (by decide) k_o1 rfl ?_
    refine kl_iload hC rfl rfl rfl ?_
    refine kl_i2l hC rfl rfl ?_
    refine kl_lcmp hC rfl rfl ?_
    refine kl_if_eq hC rfl rfl rfl (fun _ => ?_) (fun c => absurd ((lg_cmp_eq _ _).mpr rfl) c)
    refine kl_goto hC rfl rfl ?_
    refine kW_weak (vs := [some (.ref 999), some (.ref 734), some (.ref 0), some (.ref 823), some (.int (nI i)), none, none]) ⟨rfl, rfl, rfl, rfl, rfl, trivial⟩ (K _ _ _ _ ⟨S2, ar2, sc2, car2, mr2, GR_al hG3 k_o2, rfl, rfl, rfl⟩)
  · skip
    refine kl_aload_n hC rfl rfl rfl ?_
    refine kl_arg 1 hC hS9 rfl rfl rfl rfl rfl (by decide) rfl rfl rfl hi hL rfl ?_
    refine kl_arg 2 hC hS9 rfl rfl rfl rfl rfl (by decide) rfl rfl rfl hi hL rfl ?_
    refine kl_aload_n hC rfl rfl rfl ?_
    refine kl_callH hC rfl kk_232 rfl rfl rfl rfl rfl hR0 hM (kMl_of hLt (fun l hl => kx_newer_1 (l := l) hcat hl he)) ?_
    show kW G (k + 1) (n + 6) 2055 [some (.ref 999), some (.ref 734), some (.ref 0), some (.ref 823), some (.int (nI i)), none, none] [.int 1] (kSc S scv) (x_mk mr rf0) (kAr arv carv) al
    refine kl_istore hC rfl rfl rfl rfl rfl ?_
    refine kl_aload_n hC rfl rfl rfl ?_
    refine kl_arg 1 hC hS9 rfl rfl rfl rfl rfl (by decide) rfl rfl rfl hi hL rfl ?_
    refine kl_arg 2 hC hS9 rfl rfl rfl rfl rfl (by decide) rfl rfl rfl hi hL rfl ?_
    refine kl_call hC rfl kk_234 rfl rfl rfl kL_0 rfl rfl rfl hR1 (gW_mono (gW_ref (sc0 := fun _ _ => 0) ((rt_118 (X := gRX) gRX_LK rfl (rf := x_mk mr rf0) (x_mk_0 hrf0) (d := 41)) (fun _ _ => 0) (al) _ (xs (i + 1)) (xs (i + 2)) S arv v S2 ar2 e1 ⟨rfl, rfl, rfl, rfl, rfl⟩)) (fun r9 s9 f9 a9 l9 e9 => ?_))
    rw [e9.1, e9.2.1, e9.2.2.1, e9.2.2.2.1, e9.2.2.2.2]
    show kW G (k + 1) (n + 6) 2073 [some (.ref 999), some (.ref 734), some (.ref 0), some (.ref 823), some (.int (nI i)), some (.int 1), none] [.int v] (kSc S2 scv) (x_mk mr rf0) (kAr ar2 carv) al
    refine kl_istore hC rfl rfl rfl rfl rfl ?_
    refine kl_aload_n hC rfl rfl rfl ?_
    refine kl_call hC rfl kk_109 rfl rfl rfl kL_0 rfl rfl rfl hR1 (gW_mono (gW_ref (sc0 := fun _ _ => 0) ((rt_2 (X := gRX) gRX_LK rfl (rf := x_mk mr rf0) (x_mk_0 hrf0) (d := 169)) (fun _ _ => 0) (al) _ S2 ar2 (S2 0) S2 ar2 rfl ⟨rfl, rfl, rfl, rfl, rfl⟩)) (fun r9 s9 f9 a9 l9 e9 => ?_))
    rw [e9.1, e9.2.1, e9.2.2.1, e9.2.2.2.1, e9.2.2.2.2, e0]
    show kW G (k + 1) (n + 6) 2079 [some (.ref 999), some (.ref 734), some (.ref 0), some (.ref 823), some (.int (nI i)), some (.int 1), some (.int v)] [.int 1] (kSc S2 scv) (x_mk mr rf0) (kAr ar2 carv) al
    refine kl_iload hC rfl rfl rfl ?_
    refine kl_ic_eq hC rfl rfl rfl (fun _ => ?_) (fun c => absurd rfl c)
    refine kl_iload hC rfl rfl rfl ?_
    refine kl_if_ne hC rfl rfl rfl (fun c => absurd c (by decide)) (fun _ => ?_)
    refine kl_goto hC rfl rfl ?_
    refine kW_weak (vs := [some (.ref 999), some (.ref 734), some (.ref 0), some (.ref 823), some (.int (nI i)), none, none]) ⟨rfl, rfl, rfl, rfl, rfl, trivial⟩ (K _ _ _ _ ⟨S2, ar2, scv, carv, mr, hG2, rfl, rfl, rfl⟩)
set_option maxHeartbeats 4000000 in
theorem kc_37 {G : kG} {L k n i : Nat} {xs : Nat → Int32} {rf0 : jRf} {sc : jSc} {rf : jRf} {ar : jSc} {al : jAl} (hcat : kCatch) (hP : kPr G L xs) (hO : kL.1 823 = .inr (1, 1)) (hrf0 : rf0 0 = r_rf) (hi : i + 6 ≤ L) (hL : L ≤ 3072) (hR : kRm G 171 (k + 1) (n + 6)) (hJ : kJ rf0 sc rf ar al) (K : ∀ (sc' : jSc) (rf' : jRf) (ar' : jSc) (al' : jAl), kJ rf0 sc' rf' ar' al' → kW G (k + 1) (n + 6) 2131 [some (.ref 999), some (.ref 734), some (.ref 0), some (.ref 823), some (.int (nI i)), none, none] [] sc' rf' ar' al') : kW G k n 2106 [some (.ref 999), some (.ref 734), some (.ref 0), some (.ref 823), some (.int (nI i)), none, none] [] sc rf ar al := by
  obtain ⟨hC, hS9, hM, hLt⟩ := hP
  obtain ⟨S, arv, scv, carv, mr, hG, rfl, rfl, rfl⟩ := hJ
  have hR1 := kRm_le (d' := 170) (k' := k + 1) (n' := n + 6) hR (by omega) (by omega) (by omega)
  have hR0 := kRm_le (d' := 171) (k' := k) (n' := n) hR (by omega) (by omega) (by omega)
  have hq : qA (rF_119 (xs (i + 1)) S arv) (xF_350 (xs (i + 1)) scv mr carv al) := by
    first
    | exact q_count hG
    | (obtain ⟨S0, ar0, n0, tx, g, p, m, s, nr, cs, hx⟩ := hG; exact q_count hx)
  obtain ⟨v, S2, ar2, sc2, mr2, car2, al2, e1, e0, e2, hG2⟩ := hq
  obtain ⟨al3, hcl, hG3⟩ : ∃ al3 : jAl, kCl 350 [.ref 734, .int (xs (i + 1))] (kSc S scv) (x_mk mr rf0) (kAr arv carv) al (some (.int v)) (kSc S sc2) (x_mk mr2 rf0) (kAr arv car2) al3 ∧ GR S2 ar2 sc2 car2 mr2 al3 := ⟨_, (gW_cls (fun a ha => x_mk_lt ha) ((xt_350 (b := false) (rf := rf0) (d := 168)) _ (xs (i + 1)) scv mr carv al v sc2 mr2 car2 al2 e2 ⟨rfl, rfl, rfl, rfl, rfl⟩)), GR_al hG2 (kAl_n (by decide))⟩
  refine kl_widen (k' := k + 1) (n' := n + 6) (by omega) (by omega) ?_
  refine kl_aload_n hC rfl rfl rfl ?_
  refine kl_arg 1 hC hS9 rfl rfl rfl rfl rfl (by decide) rfl rfl rfl hi hL rfl ?_
  refine kl_call hC rfl kk_235 rfl rfl rfl ys_734 yx_350 rfl rfl hR1 (gW_mono hcl (fun r9 s9 f9 a9 l9 e9 => ?_))
  rw [e9.1, e9.2.1, e9.2.2.1, e9.2.2.2.1, e9.2.2.2.2]
  show kW G (k + 1) (n + 6) 2116 [some (.ref 999), some (.ref 734), some (.ref 0), some (.ref 823), some (.int (nI i)), none, none] [.int v] (kSc S sc2) (x_mk mr2 rf0) (kAr arv car2) al3
  refine kl_aload_n hC rfl rfl rfl ?_
  refine kl_arg 1 hC hS9 rfl rfl rfl rfl rfl (by decide) rfl rfl rfl hi hL rfl ?_
  refine kl_call hC rfl kk_238 rfl rfl rfl kL_0 rfl rfl rfl hR1 (gW_mono (gW_ref (sc0 := fun _ _ => 0) ((rt_119 (X := gRX) gRX_LK rfl (rf := x_mk mr2 rf0) (x_mk_0 hrf0) (d := 169)) (fun _ _ => 0) (al3) _ (xs (i + 1)) S arv v S2 ar2 e1 ⟨rfl, rfl, rfl, rfl, rfl⟩)) (fun r9 s9 f9 a9 l9 e9 => ?_))
  rw [e9.1, e9.2.1, e9.2.2.1, e9.2.2.2.1, e9.2.2.2.2]
  show kW G (k + 1) (n + 6) 2126 [some (.ref 999), some (.ref 734), some (.ref 0), some (.ref 823), some (.int (nI i)), none, none] [.int v, .int v] (kSc S2 sc2) (x_mk mr2 rf0) (kAr ar2 car2) al3
  refine kl_ic_eq hC rfl rfl rfl (fun _ => ?_) (fun c => absurd rfl c)
  exact K _ _ _ _ ⟨S2, ar2, sc2, car2, mr2, hG3, rfl, rfl, rfl⟩
