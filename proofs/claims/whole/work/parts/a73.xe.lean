/-! THROWS of ClickOrders methods: xe_<method>, the memory stays. -/
theorem eI0 : ((0 : Int32)).toInt = 0 := rfl
theorem eI1 : ((1 : Int32)).toInt = 1 := rfl
theorem eI3 : ((3 : Int32)).toInt = 3 := rfl
theorem eI4 : ((4 : Int32)).toInt = 4 := rfl
theorem eI5 : ((5 : Int32)).toInt = 5 := rfl
theorem eI8 : ((8 : Int32)).toInt = 8 := rfl
theorem eI13 : ((13 : Int32)).toInt = 13 := rfl
theorem eI100 : ((100 : Int32)).toInt = 100 := rfl
theorem eI600 : ((600 : Int32)).toInt = 600 := rfl
def xE (b : Bool) (rf : jRf) (mid d : Nat) (args : List Value) (sc : jSc) (mr : Nat → Nat) (ar : jSc) (al : jAl) (E : Nat) : Prop := gT (gX b) mid d 0 (j_av args) [] sc (x_mk mr rf) ar al (E, j_lay (g_L (gX b)) sc (x_mk mr rf) ar al)
section XE
variable {b : Bool} {rf : jRf} {d : Nat} {sc : jSc} {mr : Nat → Nat} {ar : jSc} {al : jAl}
set_option maxHeartbeats 2000000 in
theorem xe_354 {x1 : Int32} (H : ¬ (0 ≤ x1 ∧ x1 < 13)) : xE b rf 354 (d + 1) [.ref 734, .int x1] sc mr ar al 0 := by
  refine gt_entry (m := 0) rfl ?_
  show gM (gX b) 354 (d + 1) 0 [some (.ref 734), some (.int x1)] [] sc (x_mk mr rf) ar al _
  refine gt_iload_n (gX_LK b) y_354_0 rfl rfl ?_
  refine gt_if_lt (gX_LK b) y_354_1 rfl rfl (fun c1 => ?_) (fun c1 => ?_)
  · skip
    exact gt_th rfl
  · skip
    refine gt_iload_n (gX_LK b) y_354_4 rfl rfl ?_
    refine gt_bipush (gX_LK b) y_354_5 cb_13 rfl ?_
    refine gt_ic_lt (gX_LK b) y_354_7 rfl rfl (fun c2 => ?_) (fun c2 => ?_)
    · skip
      exact H.elim (by simp only [Int32.lt_iff_toInt_lt, Int32.le_iff_toInt_le, eI0, eI1, eI3, eI4, eI5, eI8, eI13, eI100, eI600] at *; omega)
    · skip
      exact gt_th rfl
set_option maxHeartbeats 2000000 in
theorem xe_355 {x1 x2 : Int32} (H : ¬ (0 ≤ x1 ∧ x1 < x2)) : xE b rf 355 (d + 1) [.ref 734, .int x1, .int x2] sc mr ar al 1 := by
  refine gt_entry (m := 0) rfl ?_
  show gM (gX b) 355 (d + 1) 0 [some (.ref 734), some (.int x1), some (.int x2)] [] sc (x_mk mr rf) ar al _
  refine gt_iload_n (gX_LK b) y_355_0 rfl rfl ?_
  refine gt_if_lt (gX_LK b) y_355_1 rfl rfl (fun c1 => ?_) (fun c1 => ?_)
  · skip
    exact gt_th rfl
  · skip
    refine gt_iload_n (gX_LK b) y_355_4 rfl rfl ?_
    refine gt_iload_n (gX_LK b) y_355_5 rfl rfl ?_
    refine gt_ic_lt (gX_LK b) y_355_6 rfl rfl (fun c2 => ?_) (fun c2 => ?_)
    · skip
      exact H.elim (by simp only [Int32.lt_iff_toInt_lt, Int32.le_iff_toInt_le, eI0, eI1, eI3, eI4, eI5, eI8, eI13, eI100, eI600] at *; omega)
    · skip
      exact gt_th rfl
set_option maxHeartbeats 2000000 in
theorem xe_356 {x1 : Int32} (H : ¬ (0 ≤ x1 ∧ x1 < sc 759 5)) : xE b rf 356 (d + 1) [.ref 734, .int x1] sc mr ar al 2 := by
  refine gt_entry (m := 0) rfl ?_
  show gM (gX b) 356 (d + 1) 0 [some (.ref 734), some (.int x1)] [] sc (x_mk mr rf) ar al _
  refine gt_iload_n (gX_LK b) y_356_0 rfl rfl ?_
  refine gt_if_lt (gX_LK b) y_356_1 rfl rfl (fun c1 => ?_) (fun c1 => ?_)
  · skip
    exact gt_th rfl
  · skip
    refine gt_iload_n (gX_LK b) y_356_4 rfl rfl ?_
    refine gt_aload_n (gX_LK b) y_356_5 rfl rfl ?_
    refine gt_getA (b := 759) (gX_LK b) y_356_6 yf_356_56 ys_734 rfl rfl rfl rfl ?_
    refine gt_get (gX_LK b) y_356_9 yf_356_121 ys_759 rfl rfl rfl rfl ?_
    refine gt_ic_lt (gX_LK b) y_356_12 rfl rfl (fun c2 => ?_) (fun c2 => ?_)
    · skip
      exact H.elim (by simp only [Int32.lt_iff_toInt_lt, Int32.le_iff_toInt_le, eI0, eI1, eI3, eI4, eI5, eI8, eI13, eI100, eI600] at *; omega)
    · skip
      exact gt_th rfl
set_option maxHeartbeats 2000000 in
theorem xe_357 {x1 x2 : Int32} (H : ¬ (0 ≤ x1 ∧ x1 ≤ 8 ∧ 1 ≤ x2 ∧ x2 ≤ 600)) : xE b rf 357 (d + 1) [.ref 734, .int x1, .int x2] sc mr ar al 0 := by
  refine gt_entry (m := 0) rfl ?_
  show gM (gX b) 357 (d + 1) 0 [some (.ref 734), some (.int x1), some (.int x2)] [] sc (x_mk mr rf) ar al _
  refine gt_iload_n (gX_LK b) y_357_0 rfl rfl ?_
  refine gt_if_lt (gX_LK b) y_357_1 rfl rfl (fun c1 => ?_) (fun c1 => ?_)
  · skip
    exact gt_th rfl
  · skip
    refine gt_iload_n (gX_LK b) y_357_4 rfl rfl ?_
    refine gt_bipush (gX_LK b) y_357_5 cb_8 rfl ?_
    refine gt_ic_gt (gX_LK b) y_357_7 rfl rfl (fun c2 => ?_) (fun c2 => ?_)
    · skip
      exact gt_th rfl
    · skip
      refine gt_iload_n (gX_LK b) y_357_10 rfl rfl ?_
      refine gt_iconst (gX_LK b) y_357_11 ci_1 rfl ?_
      refine gt_ic_lt (gX_LK b) y_357_12 rfl rfl (fun c3 => ?_) (fun c3 => ?_)
      · skip
        exact gt_th rfl
      · skip
        refine gt_iload_n (gX_LK b) y_357_15 rfl rfl ?_
        refine gt_sipush (gX_LK b) y_357_16 cs_600 rfl ?_
        refine gt_ic_le (gX_LK b) y_357_19 rfl rfl (fun c4 => ?_) (fun c4 => ?_)
        · skip
          exact H.elim (by simp only [Int32.lt_iff_toInt_lt, Int32.le_iff_toInt_le, eI0, eI1, eI3, eI4, eI5, eI8, eI13, eI100, eI600] at *; omega)
        · skip
          exact gt_th rfl
set_option maxHeartbeats 2000000 in
theorem xe_358 {x1 : Int32} (H : ¬ (0 ≤ x1 ∧ x1 ≤ 3)) : xE b rf 358 (d + 1) [.ref 734, .int x1] sc mr ar al 0 := by
  refine gt_entry (m := 0) rfl ?_
  show gM (gX b) 358 (d + 1) 0 [some (.ref 734), some (.int x1)] [] sc (x_mk mr rf) ar al _
  refine gt_iload_n (gX_LK b) y_358_0 rfl rfl ?_
  refine gt_if_lt (gX_LK b) y_358_1 rfl rfl (fun c1 => ?_) (fun c1 => ?_)
  · skip
    exact gt_th rfl
  · skip
    refine gt_iload_n (gX_LK b) y_358_4 rfl rfl ?_
    refine gt_iconst (gX_LK b) y_358_5 ci_3 rfl ?_
    refine gt_ic_le (gX_LK b) y_358_6 rfl rfl (fun c2 => ?_) (fun c2 => ?_)
    · skip
      exact H.elim (by simp only [Int32.lt_iff_toInt_lt, Int32.le_iff_toInt_le, eI0, eI1, eI3, eI4, eI5, eI8, eI13, eI100, eI600] at *; omega)
    · skip
      exact gt_th rfl
set_option maxHeartbeats 2000000 in
theorem xe_317 {x1 : Int32} (H : ¬ (0 ≤ x1 ∧ x1 < 13)) : xE b rf 317 (d + 2) [.ref 734, .int x1] sc mr ar al 0 := by
  refine gt_entry (m := 0) rfl ?_
  show gM (gX b) 317 (d + 2) 0 [some (.ref 734), some (.int x1)] [] sc (x_mk mr rf) ar al _
  refine gt_aload_n (gX_LK b) y_317_0 rfl rfl ?_
  refine gt_iload_n (gX_LK b) y_317_1 rfl rfl ?_
  exact gt_callT (gX_LK b) y_317_2 ym_317_124 rfl rfl rfl ys_734 yx_354 rfl (xe_354 H)
set_option maxHeartbeats 2000000 in
theorem xe_318 {x1 : Int32} (H : ¬ (0 ≤ x1 ∧ x1 < 13)) : xE b rf 318 (d + 2) [.ref 734, .int x1] sc mr ar al 0 := by
  refine gt_entry (m := 0) rfl ?_
  show gM (gX b) 318 (d + 2) 0 [some (.ref 734), some (.int x1)] [] sc (x_mk mr rf) ar al _
  refine gt_aload_n (gX_LK b) y_318_0 rfl rfl ?_
  refine gt_iload_n (gX_LK b) y_318_1 rfl rfl ?_
  exact gt_callT (gX_LK b) y_318_2 ym_318_124 rfl rfl rfl ys_734 yx_354 rfl (xe_354 H)
set_option maxHeartbeats 2000000 in
theorem xe_337 {x1 : Int32} (H : ¬ (0 ≤ x1 ∧ x1 < 13)) : xE b rf 337 (d + 2) [.ref 734, .int x1] sc mr ar al 0 := by
  refine gt_entry (m := 0) rfl ?_
  show gM (gX b) 337 (d + 2) 0 [some (.ref 734), some (.int x1)] [] sc (x_mk mr rf) ar al _
  refine gt_aload_n (gX_LK b) y_337_0 rfl rfl ?_
  refine gt_iload_n (gX_LK b) y_337_1 rfl rfl ?_
  exact gt_callT (gX_LK b) y_337_2 ym_337_124 rfl rfl rfl ys_734 yx_354 rfl (xe_354 H)
set_option maxHeartbeats 2000000 in
theorem xe_319 {x1 : Int32} (H : ¬ (0 ≤ x1 ∧ x1 < 8)) : xE b rf 319 (d + 2) [.ref 734, .int x1] sc mr ar al 1 := by
  refine gt_entry (m := 0) rfl ?_
  show gM (gX b) 319 (d + 2) 0 [some (.ref 734), some (.int x1)] [] sc (x_mk mr rf) ar al _
  refine gt_aload_n (gX_LK b) y_319_0 rfl rfl ?_
  refine gt_iload_n (gX_LK b) y_319_1 rfl rfl ?_
  refine gt_bipush (gX_LK b) y_319_2 cb_8 rfl ?_
  exact gt_callT (gX_LK b) y_319_4 ym_319_139 rfl rfl rfl ys_734 yx_355 rfl (xe_355 H)
set_option maxHeartbeats 2000000 in
theorem xe_320 {x1 : Int32} (H : ¬ (0 ≤ x1 ∧ x1 < 8)) : xE b rf 320 (d + 2) [.ref 734, .int x1] sc mr ar al 1 := by
  refine gt_entry (m := 2) rfl ?_
  show gM (gX b) 320 (d + 2) 0 [some (.ref 734), some (.int x1), none, none] [] sc (x_mk mr rf) ar al _
  refine gt_aload_n (gX_LK b) y_320_0 rfl rfl ?_
  refine gt_iload_n (gX_LK b) y_320_1 rfl rfl ?_
  refine gt_bipush (gX_LK b) y_320_2 cb_8 rfl ?_
  exact gt_callT (gX_LK b) y_320_4 ym_320_139 rfl rfl rfl ys_734 yx_355 rfl (xe_355 H)
set_option maxHeartbeats 2000000 in
theorem xe_321 {x1 : Int32} (H : ¬ (0 ≤ x1 ∧ x1 < 4)) : xE b rf 321 (d + 2) [.ref 734, .int x1] sc mr ar al 1 := by
  refine gt_entry (m := 0) rfl ?_
  show gM (gX b) 321 (d + 2) 0 [some (.ref 734), some (.int x1)] [] sc (x_mk mr rf) ar al _
  refine gt_aload_n (gX_LK b) y_321_0 rfl rfl ?_
  refine gt_iload_n (gX_LK b) y_321_1 rfl rfl ?_
  refine gt_iconst (gX_LK b) y_321_2 ci_4 rfl ?_
  exact gt_callT (gX_LK b) y_321_3 ym_321_139 rfl rfl rfl ys_734 yx_355 rfl (xe_355 H)
set_option maxHeartbeats 2000000 in
theorem xe_322 {x1 x2 : Int32} (H : ¬ (0 ≤ x1 ∧ x1 < 4)) : xE b rf 322 (d + 2) [.ref 734, .int x1, .int x2] sc mr ar al 1 := by
  refine gt_entry (m := 1) rfl ?_
  show gM (gX b) 322 (d + 2) 0 [some (.ref 734), some (.int x1), some (.int x2), none] [] sc (x_mk mr rf) ar al _
  refine gt_aload_n (gX_LK b) y_322_0 rfl rfl ?_
  refine gt_iload_n (gX_LK b) y_322_1 rfl rfl ?_
  refine gt_iconst (gX_LK b) y_322_2 ci_4 rfl ?_
  exact gt_callT (gX_LK b) y_322_3 ym_322_139 rfl rfl rfl ys_734 yx_355 rfl (xe_355 H)
set_option maxHeartbeats 2000000 in
theorem xe_326 {x1 x2 : Int32} (H : ¬ (0 ≤ x1 ∧ x1 < sc 759 5)) : xE b rf 326 (d + 2) [.ref 734, .int x1, .int x2] sc mr ar al 2 := by
  refine gt_entry (m := 0) rfl ?_
  show gM (gX b) 326 (d + 2) 0 [some (.ref 734), some (.int x1), some (.int x2)] [] sc (x_mk mr rf) ar al _
  refine gt_aload_n (gX_LK b) y_326_0 rfl rfl ?_
  refine gt_iload_n (gX_LK b) y_326_1 rfl rfl ?_
  exact gt_callT (gX_LK b) y_326_2 ym_326_167 rfl rfl rfl ys_734 yx_356 rfl (xe_356 H)
set_option maxHeartbeats 2000000 in
theorem xe_327 {x1 x2 : Int32} (H : ¬ (0 ≤ x1 ∧ x1 < sc 759 5)) : xE b rf 327 (d + 2) [.ref 734, .int x1, .int x2] sc mr ar al 2 := by
  refine gt_entry (m := 0) rfl ?_
  show gM (gX b) 327 (d + 2) 0 [some (.ref 734), some (.int x1), some (.int x2)] [] sc (x_mk mr rf) ar al _
  refine gt_aload_n (gX_LK b) y_327_0 rfl rfl ?_
  refine gt_iload_n (gX_LK b) y_327_1 rfl rfl ?_
  exact gt_callT (gX_LK b) y_327_2 ym_327_167 rfl rfl rfl ys_734 yx_356 rfl (xe_356 H)
set_option maxHeartbeats 2000000 in
theorem xe_330 {x1 x2 : Int32} (H : ¬ (0 ≤ x1 ∧ x1 < sc 759 5)) : xE b rf 330 (d + 2) [.ref 734, .int x1, .int x2] sc mr ar al 2 := by
  refine gt_entry (m := 1) rfl ?_
  show gM (gX b) 330 (d + 2) 0 [some (.ref 734), some (.int x1), some (.int x2), none] [] sc (x_mk mr rf) ar al _
  refine gt_aload_n (gX_LK b) y_330_0 rfl rfl ?_
  refine gt_iload_n (gX_LK b) y_330_1 rfl rfl ?_
  exact gt_callT (gX_LK b) y_330_2 ym_330_167 rfl rfl rfl ys_734 yx_356 rfl (xe_356 H)
set_option maxHeartbeats 2000000 in
theorem xe_331 {x1 x2 : Int32} (H : ¬ (0 ≤ x1 ∧ x1 < sc 759 5)) : xE b rf 331 (d + 2) [.ref 734, .int x1, .int x2] sc mr ar al 2 := by
  refine gt_entry (m := 2) rfl ?_
  show gM (gX b) 331 (d + 2) 0 [some (.ref 734), some (.int x1), some (.int x2), none, none] [] sc (x_mk mr rf) ar al _
  refine gt_aload_n (gX_LK b) y_331_0 rfl rfl ?_
  refine gt_iload_n (gX_LK b) y_331_1 rfl rfl ?_
  exact gt_callT (gX_LK b) y_331_2 ym_331_167 rfl rfl rfl ys_734 yx_356 rfl (xe_356 H)
set_option maxHeartbeats 2000000 in
theorem xe_327b {x1 x2 : Int32} (h1 : xF_356 x1 sc mr ar al = some (sc, mr, ar, al)) (H : ¬ (0 ≤ x2 ∧ x2 < sc 759 5)) : xE b rf 327 (d + 2) [.ref 734, .int x1, .int x2] sc mr ar al 2 := by
  refine gt_entry (m := 0) rfl ?_
  show gM (gX b) 327 (d + 2) 0 [some (.ref 734), some (.int x1), some (.int x2)] [] sc (x_mk mr rf) ar al _
  refine gt_aload_n (gX_LK b) y_327_0 rfl rfl ?_
  refine gt_iload_n (gX_LK b) y_327_1 rfl rfl ?_
  refine gt_callR (gX_LK b) y_327_2 ym_327_167 rfl rfl rfl ys_734 yx_356 rfl rfl (xt_356 (fun _ _ _ _ _ => _) x1 sc mr ar al sc mr ar al h1 ⟨rfl, rfl, rfl, rfl, rfl⟩) ?_
  refine gt_aload_n (gX_LK b) y_327_5 rfl rfl ?_
  refine gt_iload_n (gX_LK b) y_327_6 rfl rfl ?_
  exact gt_callT (gX_LK b) y_327_7 ym_327_167 rfl rfl rfl ys_734 yx_356 rfl (xe_356 H)
set_option maxHeartbeats 2000000 in
theorem xe_330b {x1 x2 : Int32} (h1 : xF_356 x1 sc mr ar al = some (sc, mr, ar, al)) (H : ¬ (0 ≤ x2 ∧ x2 < sc 759 5)) : xE b rf 330 (d + 2) [.ref 734, .int x1, .int x2] sc mr ar al 2 := by
  refine gt_entry (m := 1) rfl ?_
  show gM (gX b) 330 (d + 2) 0 [some (.ref 734), some (.int x1), some (.int x2), none] [] sc (x_mk mr rf) ar al _
  refine gt_aload_n (gX_LK b) y_330_0 rfl rfl ?_
  refine gt_iload_n (gX_LK b) y_330_1 rfl rfl ?_
  refine gt_callR (gX_LK b) y_330_2 ym_330_167 rfl rfl rfl ys_734 yx_356 rfl rfl (xt_356 (fun _ _ _ _ _ => _) x1 sc mr ar al sc mr ar al h1 ⟨rfl, rfl, rfl, rfl, rfl⟩) ?_
  refine gt_aload_n (gX_LK b) y_330_5 rfl rfl ?_
  refine gt_iload_n (gX_LK b) y_330_6 rfl rfl ?_
  exact gt_callT (gX_LK b) y_330_7 ym_330_167 rfl rfl rfl ys_734 yx_356 rfl (xe_356 H)
set_option maxHeartbeats 2000000 in
theorem xe_331b {x1 x2 : Int32} (h1 : xF_356 x1 sc mr ar al = some (sc, mr, ar, al)) (H : ¬ (0 ≤ x2 ∧ x2 < sc 759 5)) : xE b rf 331 (d + 2) [.ref 734, .int x1, .int x2] sc mr ar al 2 := by
  refine gt_entry (m := 2) rfl ?_
  show gM (gX b) 331 (d + 2) 0 [some (.ref 734), some (.int x1), some (.int x2), none, none] [] sc (x_mk mr rf) ar al _
  refine gt_aload_n (gX_LK b) y_331_0 rfl rfl ?_
  refine gt_iload_n (gX_LK b) y_331_1 rfl rfl ?_
  refine gt_callR (gX_LK b) y_331_2 ym_331_167 rfl rfl rfl ys_734 yx_356 rfl rfl (xt_356 (fun _ _ _ _ _ => _) x1 sc mr ar al sc mr ar al h1 ⟨rfl, rfl, rfl, rfl, rfl⟩) ?_
  refine gt_aload_n (gX_LK b) y_331_5 rfl rfl ?_
  refine gt_iload_n (gX_LK b) y_331_6 rfl rfl ?_
  exact gt_callT (gX_LK b) y_331_7 ym_331_167 rfl rfl rfl ys_734 yx_356 rfl (xe_356 H)
set_option maxHeartbeats 2000000 in
theorem xe_326b {x1 x2 : Int32} (h1 : xF_356 x1 sc mr ar al = some (sc, mr, ar, al)) (H : ¬ (0 ≤ x2.toInt ∧ x2.toInt < 4)) : xE b rf 326 (d + 2) [.ref 734, .int x1, .int x2] sc mr ar al 0 := by
  refine gt_entry (m := 0) rfl ?_
  show gM (gX b) 326 (d + 2) 0 [some (.ref 734), some (.int x1), some (.int x2)] [] sc (x_mk mr rf) ar al _
  refine gt_aload_n (gX_LK b) y_326_0 rfl rfl ?_
  refine gt_iload_n (gX_LK b) y_326_1 rfl rfl ?_
  refine gt_callR (gX_LK b) y_326_2 ym_326_167 rfl rfl rfl ys_734 yx_356 rfl rfl (xt_356 (fun _ _ _ _ _ => _) x1 sc mr ar al sc mr ar al h1 ⟨rfl, rfl, rfl, rfl, rfl⟩) ?_
  refine gt_iload_n (gX_LK b) y_326_5 rfl rfl ?_
  refine gt_tsw (gX_LK b) y_326_6 rfl rfl (fun c9 => ?_) (fun j o e9 c9 => ?_)
  · skip
    exact gt_th rfl
  · exfalso
    have e8 : j < 4 := (Array.getElem?_eq_some_iff.mp e9).1
    exact H.elim (by omega)
set_option maxHeartbeats 2000000 in
theorem xe_332 {x1 : Int32} (H : ¬ (0 ≤ x1 ∧ x1 < 5)) : xE b rf 332 (d + 1) [.ref 734, .int x1] sc mr ar al 0 := by
  refine gt_entry (m := 0) rfl ?_
  show gM (gX b) 332 (d + 1) 0 [some (.ref 734), some (.int x1)] [] sc (x_mk mr rf) ar al _
  refine gt_iload_n (gX_LK b) y_332_0 rfl rfl ?_
  refine gt_if_lt (gX_LK b) y_332_1 rfl rfl (fun c1 => ?_) (fun c1 => ?_)
  · skip
    exact gt_th rfl
  · skip
    refine gt_iload_n (gX_LK b) y_332_4 rfl rfl ?_
    refine gt_iconst (gX_LK b) y_332_5 ci_5 rfl ?_
    refine gt_ic_lt (gX_LK b) y_332_6 rfl rfl (fun c2 => ?_) (fun c2 => ?_)
    · skip
      refine gt_aload_n (gX_LK b) y_332_17 rfl rfl ?_
      refine gt_getA (b := 759) (gX_LK b) y_332_18 yf_332_56 ys_734 rfl rfl rfl rfl ?_
      refine gt_iload_n (gX_LK b) y_332_21 rfl rfl ?_
      exact H.elim (by simp only [Int32.lt_iff_toInt_lt, Int32.le_iff_toInt_le, eI0, eI1, eI3, eI4, eI5, eI8, eI13, eI100, eI600] at *; omega)
    · skip
      exact gt_th rfl
set_option maxHeartbeats 2000000 in
theorem xe_333 {x1 x2 : Int32} (H : ¬ (0 ≤ x1 ∧ x1 ≤ 8 ∧ 1 ≤ x2 ∧ x2 ≤ 600)) : xE b rf 333 (d + 2) [.ref 734, .int x1, .int x2] sc mr ar al 0 := by
  refine gt_entry (m := 0) rfl ?_
  show gM (gX b) 333 (d + 2) 0 [some (.ref 734), some (.int x1), some (.int x2)] [] sc (x_mk mr rf) ar al _
  refine gt_aload_n (gX_LK b) y_333_0 rfl rfl ?_
  refine gt_iload_n (gX_LK b) y_333_1 rfl rfl ?_
  refine gt_iload_n (gX_LK b) y_333_2 rfl rfl ?_
  exact gt_callT (gX_LK b) y_333_3 ym_333_214 rfl rfl rfl ys_734 yx_357 rfl (xe_357 H)
set_option maxHeartbeats 2000000 in
theorem xe_334 {x1 x2 x3 : Int32} (H : ¬ (0 ≤ x1 ∧ x1 ≤ 8 ∧ 1 ≤ x2 ∧ x2 ≤ 600)) : xE b rf 334 (d + 2) [.ref 734, .int x1, .int x2, .int x3] sc mr ar al 0 := by
  refine gt_entry (m := 0) rfl ?_
  show gM (gX b) 334 (d + 2) 0 [some (.ref 734), some (.int x1), some (.int x2), some (.int x3)] [] sc (x_mk mr rf) ar al _
  refine gt_aload_n (gX_LK b) y_334_0 rfl rfl ?_
  refine gt_iload_n (gX_LK b) y_334_1 rfl rfl ?_
  refine gt_iload_n (gX_LK b) y_334_2 rfl rfl ?_
  exact gt_callT (gX_LK b) y_334_3 ym_334_214 rfl rfl rfl ys_734 yx_357 rfl (xe_357 H)
set_option maxHeartbeats 2000000 in
theorem xe_335 {x1 x2 : Int32} (H : ¬ (0 ≤ x1 ∧ x1 ≤ 8 ∧ 1 ≤ x2 ∧ x2 ≤ 600)) : xE b rf 335 (d + 2) [.ref 734, .int x1, .int x2] sc mr ar al 0 := by
  refine gt_entry (m := 0) rfl ?_
  show gM (gX b) 335 (d + 2) 0 [some (.ref 734), some (.int x1), some (.int x2)] [] sc (x_mk mr rf) ar al _
  refine gt_aload_n (gX_LK b) y_335_0 rfl rfl ?_
  refine gt_iload_n (gX_LK b) y_335_1 rfl rfl ?_
  refine gt_iload_n (gX_LK b) y_335_2 rfl rfl ?_
  exact gt_callT (gX_LK b) y_335_3 ym_335_214 rfl rfl rfl ys_734 yx_357 rfl (xe_357 H)
set_option maxHeartbeats 2000000 in
theorem xe_349 {x1 x2 : Int32} (H : ¬ (0 ≤ x1 ∧ x1 ≤ 8 ∧ 1 ≤ x2 ∧ x2 ≤ 600)) : xE b rf 349 (d + 2) [.ref 734, .int x1, .int x2] sc mr ar al 0 := by
  refine gt_entry (m := 1) rfl ?_
  show gM (gX b) 349 (d + 2) 0 [some (.ref 734), some (.int x1), some (.int x2), none] [] sc (x_mk mr rf) ar al _
  refine gt_aload_n (gX_LK b) y_349_0 rfl rfl ?_
  refine gt_iload_n (gX_LK b) y_349_1 rfl rfl ?_
  refine gt_iload_n (gX_LK b) y_349_2 rfl rfl ?_
  exact gt_callT (gX_LK b) y_349_3 ym_349_214 rfl rfl rfl ys_734 yx_357 rfl (xe_357 H)
set_option maxHeartbeats 2000000 in
theorem xe_336 {x1 x2 x3 : Int32} (H : ¬ (0 ≤ x1 ∧ x1 ≤ 8 ∧ 1 ≤ x3 ∧ x3 ≤ 600)) : xE b rf 336 (d + 2) [.ref 734, .int x1, .int x2, .int x3] sc mr ar al 0 := by
  refine gt_entry (m := 0) rfl ?_
  show gM (gX b) 336 (d + 2) 0 [some (.ref 734), some (.int x1), some (.int x2), some (.int x3)] [] sc (x_mk mr rf) ar al _
  refine gt_aload_n (gX_LK b) y_336_0 rfl rfl ?_
  refine gt_iload_n (gX_LK b) y_336_1 rfl rfl ?_
  refine gt_iload_n (gX_LK b) y_336_2 rfl rfl ?_
  exact gt_callT (gX_LK b) y_336_3 ym_336_214 rfl rfl rfl ys_734 yx_357 rfl (xe_357 H)
set_option maxHeartbeats 2000000 in
theorem xe_336b {x1 x2 x3 : Int32} (h1 : xF_357 x1 x3 sc mr ar al = some (sc, mr, ar, al)) (H : ¬ (0 ≤ x2 ∧ x2 ≤ 3)) : xE b rf 336 (d + 2) [.ref 734, .int x1, .int x2, .int x3] sc mr ar al 0 := by
  refine gt_entry (m := 0) rfl ?_
  show gM (gX b) 336 (d + 2) 0 [some (.ref 734), some (.int x1), some (.int x2), some (.int x3)] [] sc (x_mk mr rf) ar al _
  refine gt_aload_n (gX_LK b) y_336_0 rfl rfl ?_
  refine gt_iload_n (gX_LK b) y_336_1 rfl rfl ?_
  refine gt_iload_n (gX_LK b) y_336_2 rfl rfl ?_
  refine gt_callR (gX_LK b) y_336_3 ym_336_214 rfl rfl rfl ys_734 yx_357 rfl rfl (xt_357 (fun _ _ _ _ _ => _) x1 x3 sc mr ar al sc mr ar al h1 ⟨rfl, rfl, rfl, rfl, rfl⟩) ?_
  refine gt_aload_n (gX_LK b) y_336_6 rfl rfl ?_
  refine gt_iload_n (gX_LK b) y_336_7 rfl rfl ?_
  exact gt_callT (gX_LK b) y_336_8 ym_336_234 rfl rfl rfl ys_734 yx_358 rfl (xe_358 H)
set_option maxHeartbeats 2000000 in
theorem xe_344 {x1 x2 x3 x4 : Int32} (H : ¬ (0 ≤ x1 ∧ x1 ≤ 8 ∧ 1 ≤ x3 ∧ x3 ≤ 600)) : xE b rf 344 (d + 2) [.ref 734, .int x1, .int x2, .int x3, .int x4] sc mr ar al 0 := by
  refine gt_entry (m := 4) rfl ?_
  show gM (gX b) 344 (d + 2) 0 [some (.ref 734), some (.int x1), some (.int x2), some (.int x3), some (.int x4), none, none, none, none] [] sc (x_mk mr rf) ar al _
  refine gt_aload_n (gX_LK b) y_344_0 rfl rfl ?_
  refine gt_iload_n (gX_LK b) y_344_1 rfl rfl ?_
  refine gt_iload_n (gX_LK b) y_344_2 rfl rfl ?_
  exact gt_callT (gX_LK b) y_344_3 ym_344_214 rfl rfl rfl ys_734 yx_357 rfl (xe_357 H)
set_option maxHeartbeats 2000000 in
theorem xe_344b {x1 x2 x3 x4 : Int32} (h1 : xF_357 x1 x3 sc mr ar al = some (sc, mr, ar, al)) (H : ¬ (0 ≤ x2 ∧ x2 ≤ 3)) : xE b rf 344 (d + 2) [.ref 734, .int x1, .int x2, .int x3, .int x4] sc mr ar al 0 := by
  refine gt_entry (m := 4) rfl ?_
  show gM (gX b) 344 (d + 2) 0 [some (.ref 734), some (.int x1), some (.int x2), some (.int x3), some (.int x4), none, none, none, none] [] sc (x_mk mr rf) ar al _
  refine gt_aload_n (gX_LK b) y_344_0 rfl rfl ?_
  refine gt_iload_n (gX_LK b) y_344_1 rfl rfl ?_
  refine gt_iload_n (gX_LK b) y_344_2 rfl rfl ?_
  refine gt_callR (gX_LK b) y_344_3 ym_344_214 rfl rfl rfl ys_734 yx_357 rfl rfl (xt_357 (fun _ _ _ _ _ => _) x1 x3 sc mr ar al sc mr ar al h1 ⟨rfl, rfl, rfl, rfl, rfl⟩) ?_
  refine gt_aload_n (gX_LK b) y_344_6 rfl rfl ?_
  refine gt_iload_n (gX_LK b) y_344_7 rfl rfl ?_
  exact gt_callT (gX_LK b) y_344_8 ym_344_234 rfl rfl rfl ys_734 yx_358 rfl (xe_358 H)
set_option maxHeartbeats 2000000 in
theorem xe_344c {x1 x2 x3 x4 : Int32} (h1 : xF_357 x1 x3 sc mr ar al = some (sc, mr, ar, al)) (h2 : xF_358 x2 sc mr ar al = some (sc, mr, ar, al)) (H : ¬ (0 ≤ x4 ∧ x4 ≤ 1)) : xE b rf 344 (d + 2) [.ref 734, .int x1, .int x2, .int x3, .int x4] sc mr ar al 0 := by
  refine gt_entry (m := 4) rfl ?_
  show gM (gX b) 344 (d + 2) 0 [some (.ref 734), some (.int x1), some (.int x2), some (.int x3), some (.int x4), none, none, none, none] [] sc (x_mk mr rf) ar al _
  refine gt_aload_n (gX_LK b) y_344_0 rfl rfl ?_
  refine gt_iload_n (gX_LK b) y_344_1 rfl rfl ?_
  refine gt_iload_n (gX_LK b) y_344_2 rfl rfl ?_
  refine gt_callR (gX_LK b) y_344_3 ym_344_214 rfl rfl rfl ys_734 yx_357 rfl rfl (xt_357 (fun _ _ _ _ _ => _) x1 x3 sc mr ar al sc mr ar al h1 ⟨rfl, rfl, rfl, rfl, rfl⟩) ?_
  refine gt_aload_n (gX_LK b) y_344_6 rfl rfl ?_
  refine gt_iload_n (gX_LK b) y_344_7 rfl rfl ?_
  refine gt_callR (gX_LK b) y_344_8 ym_344_234 rfl rfl rfl ys_734 yx_358 rfl rfl (xt_358 (fun _ _ _ _ _ => _) x2 sc mr ar al sc mr ar al h2 ⟨rfl, rfl, rfl, rfl, rfl⟩) ?_
  refine gt_iload (gX_LK b) y_344_11 rfl rfl ?_
  refine gt_if_lt (gX_LK b) y_344_13 rfl rfl (fun c1 => ?_) (fun c1 => ?_)
  · skip
    exact gt_th rfl
  · skip
    refine gt_iload (gX_LK b) y_344_16 rfl rfl ?_
    refine gt_iconst (gX_LK b) y_344_18 ci_1 rfl ?_
    refine gt_ic_le (gX_LK b) y_344_19 rfl rfl (fun c2 => ?_) (fun c2 => ?_)
    · skip
      refine gt_iload_n (gX_LK b) y_344_30 rfl rfl ?_
      refine gt_iconst (gX_LK b) y_344_31 ci_4 rfl ?_
      exact H.elim (by simp only [Int32.lt_iff_toInt_lt, Int32.le_iff_toInt_le, eI0, eI1, eI3, eI4, eI5, eI8, eI13, eI100, eI600] at *; omega)
    · skip
      exact gt_th rfl
set_option maxHeartbeats 2000000 in
theorem xe_343 {x1 x2 : Int32} (H : ¬ (0 ≤ x1 ∧ x1 < sc 736 5)) : xE b rf 343 (d + 2) [.ref 734, .int x1, .int x2] sc mr ar al 1 := by
  refine gt_entry (m := 2) rfl ?_
  show gM (gX b) 343 (d + 2) 0 [some (.ref 734), some (.int x1), some (.int x2), none, none] [] sc (x_mk mr rf) ar al _
  refine gt_aload_n (gX_LK b) y_343_0 rfl rfl ?_
  refine gt_iload_n (gX_LK b) y_343_1 rfl rfl ?_
  refine gt_aload_n (gX_LK b) y_343_2 rfl rfl ?_
  refine gt_getA (b := 736) (gX_LK b) y_343_3 yf_343_16 ys_734 rfl rfl rfl rfl ?_
  refine gt_get (gX_LK b) y_343_6 yf_343_252 ys_736 rfl rfl rfl rfl ?_
  exact gt_callT (gX_LK b) y_343_9 ym_343_139 rfl rfl rfl ys_734 yx_355 rfl (xe_355 H)
set_option maxHeartbeats 2000000 in
theorem xe_346 {x1 x2 : Int32} (H : ¬ (0 ≤ x2 ∧ x2 < 13)) : xE b rf 346 (d + 2) [.ref 734, .int x1, .int x2] sc mr ar al 0 := by
  refine gt_entry (m := 0) rfl ?_
  show gM (gX b) 346 (d + 2) 0 [some (.ref 734), some (.int x1), some (.int x2)] [] sc (x_mk mr rf) ar al _
  refine gt_aload_n (gX_LK b) y_346_0 rfl rfl ?_
  refine gt_iload_n (gX_LK b) y_346_1 rfl rfl ?_
  exact gt_callT (gX_LK b) y_346_2 ym_346_124 rfl rfl rfl ys_734 yx_354 rfl (xe_354 H)
set_option maxHeartbeats 2000000 in
theorem xe_346b {x1 x2 : Int32} (h1 : xF_354 x2 sc mr ar al = some (sc, mr, ar, al)) (H : ¬ (0 ≤ x1 ∧ x1 ≤ 1)) : xE b rf 346 (d + 2) [.ref 734, .int x1, .int x2] sc mr ar al 0 := by
  refine gt_entry (m := 0) rfl ?_
  show gM (gX b) 346 (d + 2) 0 [some (.ref 734), some (.int x1), some (.int x2)] [] sc (x_mk mr rf) ar al _
  refine gt_aload_n (gX_LK b) y_346_0 rfl rfl ?_
  refine gt_iload_n (gX_LK b) y_346_1 rfl rfl ?_
  refine gt_callR (gX_LK b) y_346_2 ym_346_124 rfl rfl rfl ys_734 yx_354 rfl rfl (xt_354 (fun _ _ _ _ _ => _) x2 sc mr ar al sc mr ar al h1 ⟨rfl, rfl, rfl, rfl, rfl⟩) ?_
  refine gt_iload_n (gX_LK b) y_346_5 rfl rfl ?_
  refine gt_if_lt (gX_LK b) y_346_6 rfl rfl (fun c1 => ?_) (fun c1 => ?_)
  · skip
    exact gt_th rfl
  · skip
    refine gt_iload_n (gX_LK b) y_346_9 rfl rfl ?_
    refine gt_iconst (gX_LK b) y_346_10 ci_1 rfl ?_
    refine gt_ic_le (gX_LK b) y_346_11 rfl rfl (fun c2 => ?_) (fun c2 => ?_)
    · skip
      refine gt_aload_n (gX_LK b) y_346_22 rfl rfl ?_
      refine gt_getA (b := 796) (gX_LK b) y_346_23 yf_346_70 ys_734 rfl rfl rfl rfl ?_
      refine gt_iload_n (gX_LK b) y_346_26 rfl rfl ?_
      refine gt_iload_n (gX_LK b) y_346_27 rfl rfl ?_
      exact H.elim (by simp only [Int32.lt_iff_toInt_lt, Int32.le_iff_toInt_le, eI0, eI1, eI3, eI4, eI5, eI8, eI13, eI100, eI600] at *; omega)
    · skip
      exact gt_th rfl
set_option maxHeartbeats 2000000 in
theorem xe_347 {x1 x2 : Int32} (H : ¬ (0 ≤ x2 ∧ x2 < 8)) : xE b rf 347 (d + 2) [.ref 734, .int x1, .int x2] sc mr ar al 1 := by
  refine gt_entry (m := 0) rfl ?_
  show gM (gX b) 347 (d + 2) 0 [some (.ref 734), some (.int x1), some (.int x2)] [] sc (x_mk mr rf) ar al _
  refine gt_aload_n (gX_LK b) y_347_0 rfl rfl ?_
  refine gt_iload_n (gX_LK b) y_347_1 rfl rfl ?_
  refine gt_bipush (gX_LK b) y_347_2 cb_8 rfl ?_
  exact gt_callT (gX_LK b) y_347_4 ym_347_139 rfl rfl rfl ys_734 yx_355 rfl (xe_355 H)
set_option maxHeartbeats 2000000 in
theorem xe_347b {x1 x2 : Int32} (h1 : xF_355 x2 8 sc mr ar al = some (sc, mr, ar, al)) (H : ¬ (0 ≤ x1 ∧ x1 ≤ 1)) : xE b rf 347 (d + 2) [.ref 734, .int x1, .int x2] sc mr ar al 0 := by
  refine gt_entry (m := 0) rfl ?_
  show gM (gX b) 347 (d + 2) 0 [some (.ref 734), some (.int x1), some (.int x2)] [] sc (x_mk mr rf) ar al _
  refine gt_aload_n (gX_LK b) y_347_0 rfl rfl ?_
  refine gt_iload_n (gX_LK b) y_347_1 rfl rfl ?_
  refine gt_bipush (gX_LK b) y_347_2 cb_8 rfl ?_
  refine gt_callR (gX_LK b) y_347_4 ym_347_139 rfl rfl rfl ys_734 yx_355 rfl rfl (xt_355 (fun _ _ _ _ _ => _) x2 (8 : Int32) sc mr ar al sc mr ar al h1 ⟨rfl, rfl, rfl, rfl, rfl⟩) ?_
  refine gt_iload_n (gX_LK b) y_347_7 rfl rfl ?_
  refine gt_if_lt (gX_LK b) y_347_8 rfl rfl (fun c1 => ?_) (fun c1 => ?_)
  · skip
    exact gt_th rfl
  · skip
    refine gt_iload_n (gX_LK b) y_347_11 rfl rfl ?_
    refine gt_iconst (gX_LK b) y_347_12 ci_1 rfl ?_
    refine gt_ic_le (gX_LK b) y_347_13 rfl rfl (fun c2 => ?_) (fun c2 => ?_)
    · skip
      refine gt_aload_n (gX_LK b) y_347_24 rfl rfl ?_
      refine gt_getA (b := 796) (gX_LK b) y_347_25 yf_347_70 ys_734 rfl rfl rfl rfl ?_
      refine gt_getA (b := 797) (gX_LK b) y_347_28 yf_347_293 ys_796 rfl rfl rfl rfl ?_
      refine gt_iload_n (gX_LK b) y_347_31 rfl rfl ?_
      exact H.elim (by simp only [Int32.lt_iff_toInt_lt, Int32.le_iff_toInt_le, eI0, eI1, eI3, eI4, eI5, eI8, eI13, eI100, eI600] at *; omega)
    · skip
      exact gt_th rfl
set_option maxHeartbeats 2000000 in
theorem xe_348 {x1 : Int32} (H : ¬ (0 ≤ x1 ∧ x1 ≤ 3)) : xE b rf 348 (d + 2) [.ref 734, .int x1] sc mr ar al 0 := by
  refine gt_entry (m := 0) rfl ?_
  show gM (gX b) 348 (d + 2) 0 [some (.ref 734), some (.int x1)] [] sc (x_mk mr rf) ar al _
  refine gt_aload_n (gX_LK b) y_348_0 rfl rfl ?_
  refine gt_iload_n (gX_LK b) y_348_1 rfl rfl ?_
  exact gt_callT (gX_LK b) y_348_2 ym_348_234 rfl rfl rfl ys_734 yx_358 rfl (xe_358 H)
set_option maxHeartbeats 2000000 in
theorem xe_342 {x1 x2 x3 x4 : Int32} (H : ¬ (0 ≤ x1 ∧ x1 < 3 ∧ (x1 = 0 → 0 ≤ x2 ∧ x2 < 8) ∧ 0 ≤ x3 ∧ x3 < 4 ∧ 0 ≤ x4 ∧ x4 ≤ 100)) : xE b rf 342 (d + 1) [.ref 734, .int x1, .int x2, .int x3, .int x4] sc mr ar al 0 := by
  refine gt_entry (m := 3) rfl ?_
  show gM (gX b) 342 (d + 1) 0 [some (.ref 734), some (.int x1), some (.int x2), some (.int x3), some (.int x4), none, none, none] [] sc (x_mk mr rf) ar al _
  refine gt_iload_n (gX_LK b) y_342_0 rfl rfl ?_
  refine gt_if_lt (gX_LK b) y_342_1 rfl rfl (fun c1 => ?_) (fun c1 => ?_)
  · skip
    refine gt_iconst (gX_LK b) y_342_13 ci_0 rfl ?_
    refine gt_istore (gX_LK b) y_342_14 rfl rfl rfl rfl ?_
    refine gt_iload_n (gX_LK b) y_342_16 rfl rfl ?_
    refine gt_if_ne (gX_LK b) y_342_17 rfl rfl (fun c2 => ?_) (fun c2 => ?_)
    · skip
      refine gt_iload_n (gX_LK b) y_342_20 rfl rfl ?_
      refine gt_if_lt (gX_LK b) y_342_21 rfl rfl (fun c3 => ?_) (fun c3 => ?_)
      · skip
        refine gt_iconst (gX_LK b) y_342_34 ci_0 rfl ?_
        refine gt_istore (gX_LK b) y_342_35 rfl rfl rfl rfl ?_
        refine gt_iload_n (gX_LK b) y_342_37 rfl rfl ?_
        refine gt_if_lt (gX_LK b) y_342_38 rfl rfl (fun c4 => ?_) (fun c4 => ?_)
        · skip
          refine gt_iconst (gX_LK b) y_342_50 ci_0 rfl ?_
          refine gt_istore (gX_LK b) y_342_51 rfl rfl rfl rfl ?_
          refine gt_iload (gX_LK b) y_342_53 rfl rfl ?_
          refine gt_if_eq (gX_LK b) y_342_55 rfl rfl (fun c5 => ?_) (fun c5 => ?_)
          · skip
            exact gt_th rfl
          · exact absurd c5 (by decide)
        · skip
          refine gt_iload_n (gX_LK b) y_342_41 rfl rfl ?_
          refine gt_iconst (gX_LK b) y_342_42 ci_4 rfl ?_
          refine gt_ic_ge (gX_LK b) y_342_43 rfl rfl (fun c6 => ?_) (fun c6 => ?_)
          · skip
            refine gt_iconst (gX_LK b) y_342_50 ci_0 rfl ?_
            refine gt_istore (gX_LK b) y_342_51 rfl rfl rfl rfl ?_
            refine gt_iload (gX_LK b) y_342_53 rfl rfl ?_
            refine gt_if_eq (gX_LK b) y_342_55 rfl rfl (fun c7 => ?_) (fun c7 => ?_)
            · skip
              exact gt_th rfl
            · exact absurd c7 (by decide)
          · skip
            refine gt_iconst (gX_LK b) y_342_46 ci_1 rfl ?_
            refine gt_goto (gX_LK b) y_342_47 rfl ?_
            refine gt_istore (gX_LK b) y_342_51 rfl rfl rfl rfl ?_
            refine gt_iload (gX_LK b) y_342_53 rfl rfl ?_
            refine gt_if_eq (gX_LK b) y_342_55 rfl rfl (fun c8 => ?_) (fun c8 => ?_)
            · skip
              exact gt_th rfl
            · exact absurd c8 (by decide)
      · skip
        refine gt_iload_n (gX_LK b) y_342_24 rfl rfl ?_
        refine gt_bipush (gX_LK b) y_342_25 cb_8 rfl ?_
        refine gt_ic_ge (gX_LK b) y_342_27 rfl rfl (fun c9 => ?_) (fun c9 => ?_)
        · skip
          refine gt_iconst (gX_LK b) y_342_34 ci_0 rfl ?_
          refine gt_istore (gX_LK b) y_342_35 rfl rfl rfl rfl ?_
          refine gt_iload_n (gX_LK b) y_342_37 rfl rfl ?_
          refine gt_if_lt (gX_LK b) y_342_38 rfl rfl (fun c10 => ?_) (fun c10 => ?_)
          · skip
            refine gt_iconst (gX_LK b) y_342_50 ci_0 rfl ?_
            refine gt_istore (gX_LK b) y_342_51 rfl rfl rfl rfl ?_
            refine gt_iload (gX_LK b) y_342_53 rfl rfl ?_
            refine gt_if_eq (gX_LK b) y_342_55 rfl rfl (fun c11 => ?_) (fun c11 => ?_)
            · skip
              exact gt_th rfl
            · exact absurd c11 (by decide)
          · skip
            refine gt_iload_n (gX_LK b) y_342_41 rfl rfl ?_
            refine gt_iconst (gX_LK b) y_342_42 ci_4 rfl ?_
            refine gt_ic_ge (gX_LK b) y_342_43 rfl rfl (fun c12 => ?_) (fun c12 => ?_)
            · skip
              refine gt_iconst (gX_LK b) y_342_50 ci_0 rfl ?_
              refine gt_istore (gX_LK b) y_342_51 rfl rfl rfl rfl ?_
              refine gt_iload (gX_LK b) y_342_53 rfl rfl ?_
              refine gt_if_eq (gX_LK b) y_342_55 rfl rfl (fun c13 => ?_) (fun c13 => ?_)
              · skip
                exact gt_th rfl
              · exact absurd c13 (by decide)
            · skip
              refine gt_iconst (gX_LK b) y_342_46 ci_1 rfl ?_
              refine gt_goto (gX_LK b) y_342_47 rfl ?_
              refine gt_istore (gX_LK b) y_342_51 rfl rfl rfl rfl ?_
              refine gt_iload (gX_LK b) y_342_53 rfl rfl ?_
              refine gt_if_eq (gX_LK b) y_342_55 rfl rfl (fun c14 => ?_) (fun c14 => ?_)
              · skip
                exact gt_th rfl
              · exact absurd c14 (by decide)
        · skip
          refine gt_iconst (gX_LK b) y_342_30 ci_1 rfl ?_
          refine gt_goto (gX_LK b) y_342_31 rfl ?_
          refine gt_istore (gX_LK b) y_342_35 rfl rfl rfl rfl ?_
          refine gt_iload_n (gX_LK b) y_342_37 rfl rfl ?_
          refine gt_if_lt (gX_LK b) y_342_38 rfl rfl (fun c15 => ?_) (fun c15 => ?_)
          · skip
            refine gt_iconst (gX_LK b) y_342_50 ci_0 rfl ?_
            refine gt_istore (gX_LK b) y_342_51 rfl rfl rfl rfl ?_
            refine gt_iload (gX_LK b) y_342_53 rfl rfl ?_
            refine gt_if_eq (gX_LK b) y_342_55 rfl rfl (fun c16 => ?_) (fun c16 => ?_)
            · skip
              exact gt_th rfl
            · exact absurd c16 (by decide)
          · skip
            refine gt_iload_n (gX_LK b) y_342_41 rfl rfl ?_
            refine gt_iconst (gX_LK b) y_342_42 ci_4 rfl ?_
            refine gt_ic_ge (gX_LK b) y_342_43 rfl rfl (fun c17 => ?_) (fun c17 => ?_)
            · skip
              refine gt_iconst (gX_LK b) y_342_50 ci_0 rfl ?_
              refine gt_istore (gX_LK b) y_342_51 rfl rfl rfl rfl ?_
              refine gt_iload (gX_LK b) y_342_53 rfl rfl ?_
              refine gt_if_eq (gX_LK b) y_342_55 rfl rfl (fun c18 => ?_) (fun c18 => ?_)
              · skip
                exact gt_th rfl
              · exact absurd c18 (by decide)
            · skip
              refine gt_iconst (gX_LK b) y_342_46 ci_1 rfl ?_
              refine gt_goto (gX_LK b) y_342_47 rfl ?_
              refine gt_istore (gX_LK b) y_342_51 rfl rfl rfl rfl ?_
              refine gt_iload (gX_LK b) y_342_53 rfl rfl ?_
              refine gt_if_eq (gX_LK b) y_342_55 rfl rfl (fun c19 => ?_) (fun c19 => ?_)
              · skip
                exact gt_th rfl
              · exact absurd c19 (by decide)
    · skip
      refine gt_iconst (gX_LK b) y_342_30 ci_1 rfl ?_
      refine gt_goto (gX_LK b) y_342_31 rfl ?_
      refine gt_istore (gX_LK b) y_342_35 rfl rfl rfl rfl ?_
      refine gt_iload_n (gX_LK b) y_342_37 rfl rfl ?_
      refine gt_if_lt (gX_LK b) y_342_38 rfl rfl (fun c20 => ?_) (fun c20 => ?_)
      · skip
        refine gt_iconst (gX_LK b) y_342_50 ci_0 rfl ?_
        refine gt_istore (gX_LK b) y_342_51 rfl rfl rfl rfl ?_
        refine gt_iload (gX_LK b) y_342_53 rfl rfl ?_
        refine gt_if_eq (gX_LK b) y_342_55 rfl rfl (fun c21 => ?_) (fun c21 => ?_)
        · skip
          exact gt_th rfl
        · exact absurd c21 (by decide)
      · skip
        refine gt_iload_n (gX_LK b) y_342_41 rfl rfl ?_
        refine gt_iconst (gX_LK b) y_342_42 ci_4 rfl ?_
        refine gt_ic_ge (gX_LK b) y_342_43 rfl rfl (fun c22 => ?_) (fun c22 => ?_)
        · skip
          refine gt_iconst (gX_LK b) y_342_50 ci_0 rfl ?_
          refine gt_istore (gX_LK b) y_342_51 rfl rfl rfl rfl ?_
          refine gt_iload (gX_LK b) y_342_53 rfl rfl ?_
          refine gt_if_eq (gX_LK b) y_342_55 rfl rfl (fun c23 => ?_) (fun c23 => ?_)
          · skip
            exact gt_th rfl
          · exact absurd c23 (by decide)
        · skip
          refine gt_iconst (gX_LK b) y_342_46 ci_1 rfl ?_
          refine gt_goto (gX_LK b) y_342_47 rfl ?_
          refine gt_istore (gX_LK b) y_342_51 rfl rfl rfl rfl ?_
          refine gt_iload (gX_LK b) y_342_53 rfl rfl ?_
          refine gt_if_eq (gX_LK b) y_342_55 rfl rfl (fun c24 => ?_) (fun c24 => ?_)
          · skip
            exact gt_th rfl
          · exact absurd c24 (by decide)
  · skip
    refine gt_iload_n (gX_LK b) y_342_4 rfl rfl ?_
    refine gt_iconst (gX_LK b) y_342_5 ci_3 rfl ?_
    refine gt_ic_ge (gX_LK b) y_342_6 rfl rfl (fun c25 => ?_) (fun c25 => ?_)
    · skip
      refine gt_iconst (gX_LK b) y_342_13 ci_0 rfl ?_
      refine gt_istore (gX_LK b) y_342_14 rfl rfl rfl rfl ?_
      refine gt_iload_n (gX_LK b) y_342_16 rfl rfl ?_
      refine gt_if_ne (gX_LK b) y_342_17 rfl rfl (fun c26 => ?_) (fun c26 => ?_)
      · skip
        refine gt_iload_n (gX_LK b) y_342_20 rfl rfl ?_
        refine gt_if_lt (gX_LK b) y_342_21 rfl rfl (fun c27 => ?_) (fun c27 => ?_)
        · skip
          refine gt_iconst (gX_LK b) y_342_34 ci_0 rfl ?_
          refine gt_istore (gX_LK b) y_342_35 rfl rfl rfl rfl ?_
          refine gt_iload_n (gX_LK b) y_342_37 rfl rfl ?_
          refine gt_if_lt (gX_LK b) y_342_38 rfl rfl (fun c28 => ?_) (fun c28 => ?_)
          · skip
            refine gt_iconst (gX_LK b) y_342_50 ci_0 rfl ?_
            refine gt_istore (gX_LK b) y_342_51 rfl rfl rfl rfl ?_
            refine gt_iload (gX_LK b) y_342_53 rfl rfl ?_
            refine gt_if_eq (gX_LK b) y_342_55 rfl rfl (fun c29 => ?_) (fun c29 => ?_)
            · skip
              exact gt_th rfl
            · exact absurd c29 (by decide)
          · skip
            refine gt_iload_n (gX_LK b) y_342_41 rfl rfl ?_
            refine gt_iconst (gX_LK b) y_342_42 ci_4 rfl ?_
            refine gt_ic_ge (gX_LK b) y_342_43 rfl rfl (fun c30 => ?_) (fun c30 => ?_)
            · skip
              refine gt_iconst (gX_LK b) y_342_50 ci_0 rfl ?_
              refine gt_istore (gX_LK b) y_342_51 rfl rfl rfl rfl ?_
              refine gt_iload (gX_LK b) y_342_53 rfl rfl ?_
              refine gt_if_eq (gX_LK b) y_342_55 rfl rfl (fun c31 => ?_) (fun c31 => ?_)
              · skip
                exact gt_th rfl
              · exact absurd c31 (by decide)
            · skip
              refine gt_iconst (gX_LK b) y_342_46 ci_1 rfl ?_
              refine gt_goto (gX_LK b) y_342_47 rfl ?_
              refine gt_istore (gX_LK b) y_342_51 rfl rfl rfl rfl ?_
              refine gt_iload (gX_LK b) y_342_53 rfl rfl ?_
              refine gt_if_eq (gX_LK b) y_342_55 rfl rfl (fun c32 => ?_) (fun c32 => ?_)
              · skip
                exact gt_th rfl
              · exact absurd c32 (by decide)
        · skip
          refine gt_iload_n (gX_LK b) y_342_24 rfl rfl ?_
          refine gt_bipush (gX_LK b) y_342_25 cb_8 rfl ?_
          refine gt_ic_ge (gX_LK b) y_342_27 rfl rfl (fun c33 => ?_) (fun c33 => ?_)
          · skip
            refine gt_iconst (gX_LK b) y_342_34 ci_0 rfl ?_
            refine gt_istore (gX_LK b) y_342_35 rfl rfl rfl rfl ?_
            refine gt_iload_n (gX_LK b) y_342_37 rfl rfl ?_
            refine gt_if_lt (gX_LK b) y_342_38 rfl rfl (fun c34 => ?_) (fun c34 => ?_)
            · skip
              refine gt_iconst (gX_LK b) y_342_50 ci_0 rfl ?_
              refine gt_istore (gX_LK b) y_342_51 rfl rfl rfl rfl ?_
              refine gt_iload (gX_LK b) y_342_53 rfl rfl ?_
              refine gt_if_eq (gX_LK b) y_342_55 rfl rfl (fun c35 => ?_) (fun c35 => ?_)
              · skip
                exact gt_th rfl
              · exact absurd c35 (by decide)
            · skip
              refine gt_iload_n (gX_LK b) y_342_41 rfl rfl ?_
              refine gt_iconst (gX_LK b) y_342_42 ci_4 rfl ?_
              refine gt_ic_ge (gX_LK b) y_342_43 rfl rfl (fun c36 => ?_) (fun c36 => ?_)
              · skip
                refine gt_iconst (gX_LK b) y_342_50 ci_0 rfl ?_
                refine gt_istore (gX_LK b) y_342_51 rfl rfl rfl rfl ?_
                refine gt_iload (gX_LK b) y_342_53 rfl rfl ?_
                refine gt_if_eq (gX_LK b) y_342_55 rfl rfl (fun c37 => ?_) (fun c37 => ?_)
                · skip
                  exact gt_th rfl
                · exact absurd c37 (by decide)
              · skip
                refine gt_iconst (gX_LK b) y_342_46 ci_1 rfl ?_
                refine gt_goto (gX_LK b) y_342_47 rfl ?_
                refine gt_istore (gX_LK b) y_342_51 rfl rfl rfl rfl ?_
                refine gt_iload (gX_LK b) y_342_53 rfl rfl ?_
                refine gt_if_eq (gX_LK b) y_342_55 rfl rfl (fun c38 => ?_) (fun c38 => ?_)
                · skip
                  exact gt_th rfl
                · exact absurd c38 (by decide)
          · skip
            refine gt_iconst (gX_LK b) y_342_30 ci_1 rfl ?_
            refine gt_goto (gX_LK b) y_342_31 rfl ?_
            refine gt_istore (gX_LK b) y_342_35 rfl rfl rfl rfl ?_
            refine gt_iload_n (gX_LK b) y_342_37 rfl rfl ?_
            refine gt_if_lt (gX_LK b) y_342_38 rfl rfl (fun c39 => ?_) (fun c39 => ?_)
            · skip
              refine gt_iconst (gX_LK b) y_342_50 ci_0 rfl ?_
              refine gt_istore (gX_LK b) y_342_51 rfl rfl rfl rfl ?_
              refine gt_iload (gX_LK b) y_342_53 rfl rfl ?_
              refine gt_if_eq (gX_LK b) y_342_55 rfl rfl (fun c40 => ?_) (fun c40 => ?_)
              · skip
                exact gt_th rfl
              · exact absurd c40 (by decide)
            · skip
              refine gt_iload_n (gX_LK b) y_342_41 rfl rfl ?_
              refine gt_iconst (gX_LK b) y_342_42 ci_4 rfl ?_
              refine gt_ic_ge (gX_LK b) y_342_43 rfl rfl (fun c41 => ?_) (fun c41 => ?_)
              · skip
                refine gt_iconst (gX_LK b) y_342_50 ci_0 rfl ?_
                refine gt_istore (gX_LK b) y_342_51 rfl rfl rfl rfl ?_
                refine gt_iload (gX_LK b) y_342_53 rfl rfl ?_
                refine gt_if_eq (gX_LK b) y_342_55 rfl rfl (fun c42 => ?_) (fun c42 => ?_)
                · skip
                  exact gt_th rfl
                · exact absurd c42 (by decide)
              · skip
                refine gt_iconst (gX_LK b) y_342_46 ci_1 rfl ?_
                refine gt_goto (gX_LK b) y_342_47 rfl ?_
                refine gt_istore (gX_LK b) y_342_51 rfl rfl rfl rfl ?_
                refine gt_iload (gX_LK b) y_342_53 rfl rfl ?_
                refine gt_if_eq (gX_LK b) y_342_55 rfl rfl (fun c43 => ?_) (fun c43 => ?_)
                · skip
                  exact gt_th rfl
                · exact absurd c43 (by decide)
      · skip
        refine gt_iconst (gX_LK b) y_342_30 ci_1 rfl ?_
        refine gt_goto (gX_LK b) y_342_31 rfl ?_
        refine gt_istore (gX_LK b) y_342_35 rfl rfl rfl rfl ?_
        refine gt_iload_n (gX_LK b) y_342_37 rfl rfl ?_
        refine gt_if_lt (gX_LK b) y_342_38 rfl rfl (fun c44 => ?_) (fun c44 => ?_)
        · skip
          refine gt_iconst (gX_LK b) y_342_50 ci_0 rfl ?_
          refine gt_istore (gX_LK b) y_342_51 rfl rfl rfl rfl ?_
          refine gt_iload (gX_LK b) y_342_53 rfl rfl ?_
          refine gt_if_eq (gX_LK b) y_342_55 rfl rfl (fun c45 => ?_) (fun c45 => ?_)
          · skip
            exact gt_th rfl
          · exact absurd c45 (by decide)
        · skip
          refine gt_iload_n (gX_LK b) y_342_41 rfl rfl ?_
          refine gt_iconst (gX_LK b) y_342_42 ci_4 rfl ?_
          refine gt_ic_ge (gX_LK b) y_342_43 rfl rfl (fun c46 => ?_) (fun c46 => ?_)
          · skip
            refine gt_iconst (gX_LK b) y_342_50 ci_0 rfl ?_
            refine gt_istore (gX_LK b) y_342_51 rfl rfl rfl rfl ?_
            refine gt_iload (gX_LK b) y_342_53 rfl rfl ?_
            refine gt_if_eq (gX_LK b) y_342_55 rfl rfl (fun c47 => ?_) (fun c47 => ?_)
            · skip
              exact gt_th rfl
            · exact absurd c47 (by decide)
          · skip
            refine gt_iconst (gX_LK b) y_342_46 ci_1 rfl ?_
            refine gt_goto (gX_LK b) y_342_47 rfl ?_
            refine gt_istore (gX_LK b) y_342_51 rfl rfl rfl rfl ?_
            refine gt_iload (gX_LK b) y_342_53 rfl rfl ?_
            refine gt_if_eq (gX_LK b) y_342_55 rfl rfl (fun c48 => ?_) (fun c48 => ?_)
            · skip
              exact gt_th rfl
            · exact absurd c48 (by decide)
    · skip
      refine gt_iconst (gX_LK b) y_342_9 ci_1 rfl ?_
      refine gt_goto (gX_LK b) y_342_10 rfl ?_
      refine gt_istore (gX_LK b) y_342_14 rfl rfl rfl rfl ?_
      refine gt_iload_n (gX_LK b) y_342_16 rfl rfl ?_
      refine gt_if_ne (gX_LK b) y_342_17 rfl rfl (fun c49 => ?_) (fun c49 => ?_)
      · skip
        refine gt_iload_n (gX_LK b) y_342_20 rfl rfl ?_
        refine gt_if_lt (gX_LK b) y_342_21 rfl rfl (fun c50 => ?_) (fun c50 => ?_)
        · skip
          refine gt_iconst (gX_LK b) y_342_34 ci_0 rfl ?_
          refine gt_istore (gX_LK b) y_342_35 rfl rfl rfl rfl ?_
          refine gt_iload_n (gX_LK b) y_342_37 rfl rfl ?_
          refine gt_if_lt (gX_LK b) y_342_38 rfl rfl (fun c51 => ?_) (fun c51 => ?_)
          · skip
            refine gt_iconst (gX_LK b) y_342_50 ci_0 rfl ?_
            refine gt_istore (gX_LK b) y_342_51 rfl rfl rfl rfl ?_
            refine gt_iload (gX_LK b) y_342_53 rfl rfl ?_
            refine gt_if_eq (gX_LK b) y_342_55 rfl rfl (fun c52 => ?_) (fun c52 => ?_)
            · exact absurd c52 (by decide)
            · skip
              refine gt_iload (gX_LK b) y_342_58 rfl rfl ?_
              refine gt_if_eq (gX_LK b) y_342_60 rfl rfl (fun c53 => ?_) (fun c53 => ?_)
              · skip
                exact gt_th rfl
              · exact absurd c53 (by decide)
          · skip
            refine gt_iload_n (gX_LK b) y_342_41 rfl rfl ?_
            refine gt_iconst (gX_LK b) y_342_42 ci_4 rfl ?_
            refine gt_ic_ge (gX_LK b) y_342_43 rfl rfl (fun c54 => ?_) (fun c54 => ?_)
            · skip
              refine gt_iconst (gX_LK b) y_342_50 ci_0 rfl ?_
              refine gt_istore (gX_LK b) y_342_51 rfl rfl rfl rfl ?_
              refine gt_iload (gX_LK b) y_342_53 rfl rfl ?_
              refine gt_if_eq (gX_LK b) y_342_55 rfl rfl (fun c55 => ?_) (fun c55 => ?_)
              · exact absurd c55 (by decide)
              · skip
                refine gt_iload (gX_LK b) y_342_58 rfl rfl ?_
                refine gt_if_eq (gX_LK b) y_342_60 rfl rfl (fun c56 => ?_) (fun c56 => ?_)
                · skip
                  exact gt_th rfl
                · exact absurd c56 (by decide)
            · skip
              refine gt_iconst (gX_LK b) y_342_46 ci_1 rfl ?_
              refine gt_goto (gX_LK b) y_342_47 rfl ?_
              refine gt_istore (gX_LK b) y_342_51 rfl rfl rfl rfl ?_
              refine gt_iload (gX_LK b) y_342_53 rfl rfl ?_
              refine gt_if_eq (gX_LK b) y_342_55 rfl rfl (fun c57 => ?_) (fun c57 => ?_)
              · exact absurd c57 (by decide)
              · skip
                refine gt_iload (gX_LK b) y_342_58 rfl rfl ?_
                refine gt_if_eq (gX_LK b) y_342_60 rfl rfl (fun c58 => ?_) (fun c58 => ?_)
                · skip
                  exact gt_th rfl
                · exact absurd c58 (by decide)
        · skip
          refine gt_iload_n (gX_LK b) y_342_24 rfl rfl ?_
          refine gt_bipush (gX_LK b) y_342_25 cb_8 rfl ?_
          refine gt_ic_ge (gX_LK b) y_342_27 rfl rfl (fun c59 => ?_) (fun c59 => ?_)
          · skip
            refine gt_iconst (gX_LK b) y_342_34 ci_0 rfl ?_
            refine gt_istore (gX_LK b) y_342_35 rfl rfl rfl rfl ?_
            refine gt_iload_n (gX_LK b) y_342_37 rfl rfl ?_
            refine gt_if_lt (gX_LK b) y_342_38 rfl rfl (fun c60 => ?_) (fun c60 => ?_)
            · skip
              refine gt_iconst (gX_LK b) y_342_50 ci_0 rfl ?_
              refine gt_istore (gX_LK b) y_342_51 rfl rfl rfl rfl ?_
              refine gt_iload (gX_LK b) y_342_53 rfl rfl ?_
              refine gt_if_eq (gX_LK b) y_342_55 rfl rfl (fun c61 => ?_) (fun c61 => ?_)
              · exact absurd c61 (by decide)
              · skip
                refine gt_iload (gX_LK b) y_342_58 rfl rfl ?_
                refine gt_if_eq (gX_LK b) y_342_60 rfl rfl (fun c62 => ?_) (fun c62 => ?_)
                · skip
                  exact gt_th rfl
                · exact absurd c62 (by decide)
            · skip
              refine gt_iload_n (gX_LK b) y_342_41 rfl rfl ?_
              refine gt_iconst (gX_LK b) y_342_42 ci_4 rfl ?_
              refine gt_ic_ge (gX_LK b) y_342_43 rfl rfl (fun c63 => ?_) (fun c63 => ?_)
              · skip
                refine gt_iconst (gX_LK b) y_342_50 ci_0 rfl ?_
                refine gt_istore (gX_LK b) y_342_51 rfl rfl rfl rfl ?_
                refine gt_iload (gX_LK b) y_342_53 rfl rfl ?_
                refine gt_if_eq (gX_LK b) y_342_55 rfl rfl (fun c64 => ?_) (fun c64 => ?_)
                · exact absurd c64 (by decide)
                · skip
                  refine gt_iload (gX_LK b) y_342_58 rfl rfl ?_
                  refine gt_if_eq (gX_LK b) y_342_60 rfl rfl (fun c65 => ?_) (fun c65 => ?_)
                  · skip
                    exact gt_th rfl
                  · exact absurd c65 (by decide)
              · skip
                refine gt_iconst (gX_LK b) y_342_46 ci_1 rfl ?_
                refine gt_goto (gX_LK b) y_342_47 rfl ?_
                refine gt_istore (gX_LK b) y_342_51 rfl rfl rfl rfl ?_
                refine gt_iload (gX_LK b) y_342_53 rfl rfl ?_
                refine gt_if_eq (gX_LK b) y_342_55 rfl rfl (fun c66 => ?_) (fun c66 => ?_)
                · exact absurd c66 (by decide)
                · skip
                  refine gt_iload (gX_LK b) y_342_58 rfl rfl ?_
                  refine gt_if_eq (gX_LK b) y_342_60 rfl rfl (fun c67 => ?_) (fun c67 => ?_)
                  · skip
                    exact gt_th rfl
                  · exact absurd c67 (by decide)
          · skip
            refine gt_iconst (gX_LK b) y_342_30 ci_1 rfl ?_
            refine gt_goto (gX_LK b) y_342_31 rfl ?_
            refine gt_istore (gX_LK b) y_342_35 rfl rfl rfl rfl ?_
            refine gt_iload_n (gX_LK b) y_342_37 rfl rfl ?_
            refine gt_if_lt (gX_LK b) y_342_38 rfl rfl (fun c68 => ?_) (fun c68 => ?_)
            · skip
              refine gt_iconst (gX_LK b) y_342_50 ci_0 rfl ?_
              refine gt_istore (gX_LK b) y_342_51 rfl rfl rfl rfl ?_
              refine gt_iload (gX_LK b) y_342_53 rfl rfl ?_
              refine gt_if_eq (gX_LK b) y_342_55 rfl rfl (fun c69 => ?_) (fun c69 => ?_)
              · exact absurd c69 (by decide)
              · skip
                refine gt_iload (gX_LK b) y_342_58 rfl rfl ?_
                refine gt_if_eq (gX_LK b) y_342_60 rfl rfl (fun c70 => ?_) (fun c70 => ?_)
                · exact absurd c70 (by decide)
                · skip
                  refine gt_iload (gX_LK b) y_342_63 rfl rfl ?_
                  refine gt_if_eq (gX_LK b) y_342_65 rfl rfl (fun c71 => ?_) (fun c71 => ?_)
                  · skip
                    exact gt_th rfl
                  · exact absurd c71 (by decide)
            · skip
              refine gt_iload_n (gX_LK b) y_342_41 rfl rfl ?_
              refine gt_iconst (gX_LK b) y_342_42 ci_4 rfl ?_
              refine gt_ic_ge (gX_LK b) y_342_43 rfl rfl (fun c72 => ?_) (fun c72 => ?_)
              · skip
                refine gt_iconst (gX_LK b) y_342_50 ci_0 rfl ?_
                refine gt_istore (gX_LK b) y_342_51 rfl rfl rfl rfl ?_
                refine gt_iload (gX_LK b) y_342_53 rfl rfl ?_
                refine gt_if_eq (gX_LK b) y_342_55 rfl rfl (fun c73 => ?_) (fun c73 => ?_)
                · exact absurd c73 (by decide)
                · skip
                  refine gt_iload (gX_LK b) y_342_58 rfl rfl ?_
                  refine gt_if_eq (gX_LK b) y_342_60 rfl rfl (fun c74 => ?_) (fun c74 => ?_)
                  · exact absurd c74 (by decide)
                  · skip
                    refine gt_iload (gX_LK b) y_342_63 rfl rfl ?_
                    refine gt_if_eq (gX_LK b) y_342_65 rfl rfl (fun c75 => ?_) (fun c75 => ?_)
                    · skip
                      exact gt_th rfl
                    · exact absurd c75 (by decide)
              · skip
                refine gt_iconst (gX_LK b) y_342_46 ci_1 rfl ?_
                refine gt_goto (gX_LK b) y_342_47 rfl ?_
                refine gt_istore (gX_LK b) y_342_51 rfl rfl rfl rfl ?_
                refine gt_iload (gX_LK b) y_342_53 rfl rfl ?_
                refine gt_if_eq (gX_LK b) y_342_55 rfl rfl (fun c76 => ?_) (fun c76 => ?_)
                · exact absurd c76 (by decide)
                · skip
                  refine gt_iload (gX_LK b) y_342_58 rfl rfl ?_
                  refine gt_if_eq (gX_LK b) y_342_60 rfl rfl (fun c77 => ?_) (fun c77 => ?_)
                  · exact absurd c77 (by decide)
                  · skip
                    refine gt_iload (gX_LK b) y_342_63 rfl rfl ?_
                    refine gt_if_eq (gX_LK b) y_342_65 rfl rfl (fun c78 => ?_) (fun c78 => ?_)
                    · exact absurd c78 (by decide)
                    · skip
                      refine gt_iload (gX_LK b) y_342_68 rfl rfl ?_
                      refine gt_if_lt (gX_LK b) y_342_70 rfl rfl (fun c79 => ?_) (fun c79 => ?_)
                      · skip
                        exact gt_th rfl
                      · skip
                        refine gt_iload (gX_LK b) y_342_73 rfl rfl ?_
                        refine gt_bipush (gX_LK b) y_342_75 cb_100 rfl ?_
                        refine gt_ic_le (gX_LK b) y_342_77 rfl rfl (fun c80 => ?_) (fun c80 => ?_)
                        · skip
                          refine gt_aload_n (gX_LK b) y_342_88 rfl rfl ?_
                          exact H.elim (by simp only [← Int32.toInt_inj, Int32.lt_iff_toInt_lt, Int32.le_iff_toInt_le, eI0, eI1, eI3, eI4, eI5, eI8, eI13, eI100, eI600] at *; omega)
                        · skip
                          exact gt_th rfl
      · skip
        refine gt_iconst (gX_LK b) y_342_30 ci_1 rfl ?_
        refine gt_goto (gX_LK b) y_342_31 rfl ?_
        refine gt_istore (gX_LK b) y_342_35 rfl rfl rfl rfl ?_
        refine gt_iload_n (gX_LK b) y_342_37 rfl rfl ?_
        refine gt_if_lt (gX_LK b) y_342_38 rfl rfl (fun c81 => ?_) (fun c81 => ?_)
        · skip
          refine gt_iconst (gX_LK b) y_342_50 ci_0 rfl ?_
          refine gt_istore (gX_LK b) y_342_51 rfl rfl rfl rfl ?_
          refine gt_iload (gX_LK b) y_342_53 rfl rfl ?_
          refine gt_if_eq (gX_LK b) y_342_55 rfl rfl (fun c82 => ?_) (fun c82 => ?_)
          · exact absurd c82 (by decide)
          · skip
            refine gt_iload (gX_LK b) y_342_58 rfl rfl ?_
            refine gt_if_eq (gX_LK b) y_342_60 rfl rfl (fun c83 => ?_) (fun c83 => ?_)
            · exact absurd c83 (by decide)
            · skip
              refine gt_iload (gX_LK b) y_342_63 rfl rfl ?_
              refine gt_if_eq (gX_LK b) y_342_65 rfl rfl (fun c84 => ?_) (fun c84 => ?_)
              · skip
                exact gt_th rfl
              · exact absurd c84 (by decide)
        · skip
          refine gt_iload_n (gX_LK b) y_342_41 rfl rfl ?_
          refine gt_iconst (gX_LK b) y_342_42 ci_4 rfl ?_
          refine gt_ic_ge (gX_LK b) y_342_43 rfl rfl (fun c85 => ?_) (fun c85 => ?_)
          · skip
            refine gt_iconst (gX_LK b) y_342_50 ci_0 rfl ?_
            refine gt_istore (gX_LK b) y_342_51 rfl rfl rfl rfl ?_
            refine gt_iload (gX_LK b) y_342_53 rfl rfl ?_
            refine gt_if_eq (gX_LK b) y_342_55 rfl rfl (fun c86 => ?_) (fun c86 => ?_)
            · exact absurd c86 (by decide)
            · skip
              refine gt_iload (gX_LK b) y_342_58 rfl rfl ?_
              refine gt_if_eq (gX_LK b) y_342_60 rfl rfl (fun c87 => ?_) (fun c87 => ?_)
              · exact absurd c87 (by decide)
              · skip
                refine gt_iload (gX_LK b) y_342_63 rfl rfl ?_
                refine gt_if_eq (gX_LK b) y_342_65 rfl rfl (fun c88 => ?_) (fun c88 => ?_)
                · skip
                  exact gt_th rfl
                · exact absurd c88 (by decide)
          · skip
            refine gt_iconst (gX_LK b) y_342_46 ci_1 rfl ?_
            refine gt_goto (gX_LK b) y_342_47 rfl ?_
            refine gt_istore (gX_LK b) y_342_51 rfl rfl rfl rfl ?_
            refine gt_iload (gX_LK b) y_342_53 rfl rfl ?_
            refine gt_if_eq (gX_LK b) y_342_55 rfl rfl (fun c89 => ?_) (fun c89 => ?_)
            · exact absurd c89 (by decide)
            · skip
              refine gt_iload (gX_LK b) y_342_58 rfl rfl ?_
              refine gt_if_eq (gX_LK b) y_342_60 rfl rfl (fun c90 => ?_) (fun c90 => ?_)
              · exact absurd c90 (by decide)
              · skip
                refine gt_iload (gX_LK b) y_342_63 rfl rfl ?_
                refine gt_if_eq (gX_LK b) y_342_65 rfl rfl (fun c91 => ?_) (fun c91 => ?_)
                · exact absurd c91 (by decide)
                · skip
                  refine gt_iload (gX_LK b) y_342_68 rfl rfl ?_
                  refine gt_if_lt (gX_LK b) y_342_70 rfl rfl (fun c92 => ?_) (fun c92 => ?_)
                  · skip
                    exact gt_th rfl
                  · skip
                    refine gt_iload (gX_LK b) y_342_73 rfl rfl ?_
                    refine gt_bipush (gX_LK b) y_342_75 cb_100 rfl ?_
                    refine gt_ic_le (gX_LK b) y_342_77 rfl rfl (fun c93 => ?_) (fun c93 => ?_)
                    · skip
                      refine gt_aload_n (gX_LK b) y_342_88 rfl rfl ?_
                      exact H.elim (by simp only [← Int32.toInt_inj, Int32.lt_iff_toInt_lt, Int32.le_iff_toInt_le, eI0, eI1, eI3, eI4, eI5, eI8, eI13, eI100, eI600] at *; omega)
                    · skip
                      exact gt_th rfl
set_option maxHeartbeats 2000000 in
theorem xe_314 {x1 : Int32} (H : ¬ (0 ≤ x1 ∧ x1 ≤ sc 734 11)) : xE b rf 314 (d + 1) [.ref 734, .int x1] sc mr ar al 0 := by
  refine gt_entry (m := 2) rfl ?_
  show gM (gX b) 314 (d + 1) 0 [some (.ref 734), some (.int x1), none, none] [] sc (x_mk mr rf) ar al _
  refine gt_iload_n (gX_LK b) y_314_0 rfl rfl ?_
  refine gt_if_lt (gX_LK b) y_314_1 rfl rfl (fun c1 => ?_) (fun c1 => ?_)
  · skip
    exact gt_th rfl
  · skip
    refine gt_iload_n (gX_LK b) y_314_4 rfl rfl ?_
    refine gt_aload_n (gX_LK b) y_314_5 rfl rfl ?_
    refine gt_get (gX_LK b) y_314_6 yf_314_81 ys_734 rfl rfl rfl rfl ?_
    refine gt_ic_le (gX_LK b) y_314_9 rfl rfl (fun c2 => ?_) (fun c2 => ?_)
    · skip
      refine gt_aload_n (gX_LK b) y_314_20 rfl rfl ?_
      refine gt_getA (b := 756) (gX_LK b) y_314_21 yf_314_38 ys_734 rfl rfl rfl rfl ?_
      refine gt_iload_n (gX_LK b) y_314_24 rfl rfl ?_
      refine gt_aload_n (gX_LK b) y_314_25 rfl rfl ?_
      exact H.elim (by simp only [Int32.lt_iff_toInt_lt, Int32.le_iff_toInt_le, eI0, eI1, eI3, eI4, eI5, eI8, eI13, eI100, eI600] at *; omega)
    · skip
      exact gt_th rfl
end XE
