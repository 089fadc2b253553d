/-! ONE MEMORY of both: the reference's cells (S, ar) below 734, ClickOrders' (sc, car) from 734 on; a run of one of them leaves the other's. -/
def kSc (S : Nat → Int32) (sc : jSc) : jSc := fun a => if a < 734 then S else sc a
def kAr (ar car : jSc) : jSc := fun b => if b < 734 then ar b else car b
theorem kSc_r {S : Nat → Int32} {sc : jSc} {a : Nat} (h : a < 734) : kSc S sc a = S := if_pos h
theorem kSc_c {S : Nat → Int32} {sc : jSc} {a : Nat} (h : 734 ≤ a) : kSc S sc a = sc a := if_neg (by omega)
theorem kAr_r {ar car : jSc} {a : Nat} (h : a < 734) : kAr ar car a = ar a := if_pos h
theorem kAr_c {ar car : jSc} {a : Nat} (h : 734 ≤ a) : kAr ar car a = car a := if_neg (by omega)
/-- a call of method q with vs, at this memory, answers r and leaves that memory -/
def kCl (q : Nat) (vs : List Value) (sc : jSc) (rf : jRf) (ar : jSc) (al : jAl) (r : Option Value) (sc2 : jSc) (rf2 : jRf) (ar2 : jSc) (al2 : jAl) : Prop := gW (gX true) q 170 0 (j_av vs) [] sc rf ar al (fun r' sc' rf' ar' al' => r' = r ∧ sc' = sc2 ∧ rf' = rf2 ∧ ar' = ar2 ∧ al' = al2)
def kRl : List Nat := List.range 734
theorem kRl_in {a : Nat} : a ∈ kRl ↔ a < 734 := by unfold kRl; exact List.mem_range
/-- the reference's tables alone -/
def gRX : jX := (x_co, x_fl, x_cn, x_ml, x_mx, x_rt, ((fun _ => .inr (9, 0)), x_rr, x_nf, x_fk), kRl, x_nt, r_sh)
theorem kt_co (b : Bool) : g_co (gX b) = fun m x => if m < 200 then r_co m x else x_co m x := rfl
theorem kr_co : g_co gRX = fun m x => if m < 200 then r_co m x else x_co m x := rfl
theorem kt_fl (b : Bool) : g_fl (gX b) = fun m x => if m < 200 then r_fl x else x_fl m x := rfl
theorem kr_fl : g_fl gRX = fun m x => if m < 200 then r_fl x else x_fl m x := rfl
theorem kt_cn (b : Bool) : g_cn (gX b) = fun m x => if m < 200 then r_cn x else x_cn m x := rfl
theorem kr_cn : g_cn gRX = fun m x => if m < 200 then r_cn x else x_cn m x := rfl
theorem kt_ml (b : Bool) : g_ml (gX b) = fun m x => if m < 200 then r_ml x else x_ml m x := rfl
theorem kr_ml : g_ml gRX = fun m x => if m < 200 then r_ml x else x_ml m x := rfl
theorem kt_mx (b : Bool) : g_mx (gX b) = fun m => if m < 200 then r_mx m else x_mx m := rfl
theorem kr_mx : g_mx gRX = fun m => if m < 200 then r_mx m else x_mx m := rfl
theorem kt_rt (b : Bool) : g_rt (gX b) = fun m => if m < 200 then r_rt m else x_rt m := rfl
theorem kr_rt : g_rt gRX = fun m => if m < 200 then r_rt m else x_rt m := rfl
theorem kt_nt (b : Bool) : g_nt (gX b) = fun m x => if m < 200 then 0 else x_nt m x := rfl
theorem kr_nt : g_nt gRX = fun m x => if m < 200 then 0 else x_nt m x := rfl
theorem kt_run {n0 : List Nat} {N mid d pc : Nat} {lv : jV} {st : List Value} {f : jM} {o : Option (Option Value × jM)} (h : j_run n0 (g_co (gX false)) (g_fl (gX false)) (g_cn (gX false)) (g_nt (gX false)) (g_ml (gX false)) (g_mx (gX false)) (g_rt (gX false)) N mid d pc lv st f = o) : j_run n0 (g_co (gX true)) (g_fl (gX true)) (g_cn (gX true)) (g_nt (gX true)) (g_ml (gX true)) (g_mx (gX true)) (g_rt (gX true)) N mid d pc lv st f = o := by
  rw [kt_co, kt_fl, kt_cn, kt_nt, kt_ml, kt_mx, kt_rt] at h ⊢
  exact h
theorem kr_run {n0 : List Nat} {N mid d pc : Nat} {lv : jV} {st : List Value} {f : jM} {o : Option (Option Value × jM)} (h : j_run n0 (g_co gRX) (g_fl gRX) (g_cn gRX) (g_nt gRX) (g_ml gRX) (g_mx gRX) (g_rt gRX) N mid d pc lv st f = o) : j_run n0 (g_co (gX true)) (g_fl (gX true)) (g_cn (gX true)) (g_nt (gX true)) (g_ml (gX true)) (g_mx (gX true)) (g_rt (gX true)) N mid d pc lv st f = o := by
  rw [kr_co, kr_fl, kr_cn, kr_nt, kr_ml, kr_mx, kr_rt] at h
  rw [kt_co, kt_fl, kt_cn, kt_nt, kt_ml, kt_mx, kt_rt]
  exact h
def kEnt (g : Nat → Option Nat) (t n : Nat) (i : Nat → Int32) (lg : Nat → Int64) : va_E := if t = 1 then .inl (1, (n, .inr (.inl lg))) else if t = 0 ∨ t = 2 then .inl (t, (n, .inl i)) else .inl (t, (n, .inr (.inr (.inr (.inr g)))))
theorem kEnt_1 {g : Nat → Option Nat} {t n : Nat} {i : Nat → Int32} {l1 l2 : Nat → Int64} (h : ¬ t = 1) : kEnt g t n i l1 = kEnt g t n i l2 := by
  unfold kEnt
  rw [if_neg h, if_neg h]
theorem kEnt_6 {g : Nat → Option Nat} {t n : Nat} {i1 i2 : Nat → Int32} {l1 l2 : Nat → Int64} (h : 6 ≤ t) : kEnt g t n i1 l1 = kEnt g t n i2 l2 := by
  unfold kEnt
  rw [if_neg (by omega), if_neg (by omega), if_neg (by omega), if_neg (by omega)]
theorem jl_r {L : jL} {sc : jSc} {rf : jRf} {ar : jSc} {al : jAl} {a t n : Nat} (h : L.1 a = .inr (t, n)) : j_lay L sc rf ar al a = kEnt (L.2.1 a) t n (ar a) (al a) := by
  unfold j_lay
  rw [h]
  rfl
theorem jl_l {L : jL} {sc : jSc} {rf : jRf} {ar : jSc} {al : jAl} {a ci : Nat} (h : L.1 a = .inl ci) : j_lay L sc rf ar al a = .inr (ci, j_fs L sc rf ci a) := by
  unfold j_lay
  rw [h]
theorem kL21 (b : Bool) : (g_L (gX b)).2.1 = fun a i => if a < r_n then r_rr a i else x_rr a i := rfl
theorem kL21r : (g_L gRX).2.1 = fun a i => if a < r_n then r_rr a i else x_rr a i := rfl
theorem kL22 (b : Bool) : (g_L (gX b)).2.2 = (fun c => if c = 11 then 60 else x_nf c, fun c k => if c = 11 then r_fk k else x_fk c k) := rfl
theorem kL22r : (g_L gRX).2.2 = (fun c => if c = 11 then 60 else x_nf c, fun c k => if c = 11 then r_fk k else x_fk c k) := rfl
theorem jfs_e {L1 L2 : jL} {s1 s2 : jSc} {rf1 rf2 : jRf} {ci a : Nat} (h : L1.2.2 = L2.2.2) (hs : s1 a = s2 a) (hr : rf1 a = rf2 a) : j_fs L1 s1 rf1 ci a = j_fs L2 s2 rf2 ci a := by
  unfold j_fs
  rw [h, hs, hr]
theorem r_nl : (List.range 734).all (fun a => match r_sh a with
  | .inl _ => decide (a = 0)
  | .inr (t, _) => decide (¬ t = 1)) = true := by decide +kernel
theorem r_sh_t {a : Nat} (h : a < 734) : (∀ ci, r_sh a = .inl ci → a = 0) ∧ ∀ t n, r_sh a = .inr (t, n) → ¬ t = 1 := by
  have h1 := List.all_eq_true.mp r_nl a (List.mem_range.mpr h)
  refine ⟨fun ci e => ?_, fun t n e => ?_⟩
  · rw [e] at h1
    exact of_decide_eq_true h1
  · rw [e] at h1
    exact of_decide_eq_true h1
theorem kL_r {a : Nat} (h : a < 734) : kL.1 a = r_sh a := (if_pos h : kL.1 a = g_rs (gX true) a)
theorem kL_c {a : Nat} (h : 734 ≤ a) : kL.1 a = x_sb true a := if_neg (show ¬ a < 734 by omega)
theorem kLf_c {a : Nat} (h : 734 ≤ a) : (g_L (gX false)).1 a = x_sb false a := if_neg (show ¬ a < 734 by omega)
theorem klay_c {S : Nat → Int32} {ar scv carv : jSc} {rf : jRf} {al al' : jAl} {a : Nat} (h : 734 ≤ a) (h2 : a < 823) (ha : al' a = al a) : j_lay (g_L (gX false)) scv rf carv al a = j_lay kL (kSc S scv) rf (kAr ar carv) al' a := by
  have e1 : (g_L (gX false)).1 a = x_sh a := (kLf_c h).trans (x_sb_n (by omega))
  have e2 : kL.1 a = x_sh a := (kL_c h).trans (x_sb_n (by omega))
  cases hx : x_sh a with
  | inl ci =>
    rw [jl_l (e1.trans hx), jl_l (e2.trans hx), jfs_e ((kL22 false).trans (kL22 true).symm) (kSc_c h).symm rfl]
  | inr q =>
    obtain ⟨t, n⟩ := q
    rw [jl_r (e1.trans hx), jl_r (e2.trans hx), kAr_c h, kL21 false, show kL.2.1 = _ from kL21 true, ha]
/-- al2 but for the law's own row -/
def kAl (al al2 : jAl) : jAl := fun a => if a = 823 then al a else al2 a
theorem kAl_n {al al2 : jAl} {a : Nat} (h : ¬ a = 823) : kAl al al2 a = al2 a := if_neg h
/-- the reference's cells don't hang on ClickOrders' -/
theorem klay_r {S : Nat → Int32} {ar sc1 sc2 c1 c2 : jSc} {rf1 rf2 : jRf} {al1 al2 : jAl} {a : Nat} (h : a < 734) (hrf : rf1 a = rf2 a) : j_lay kL (kSc S sc1) rf1 (kAr ar c1) al1 a = j_lay kL (kSc S sc2) rf2 (kAr ar c2) al2 a := by
  have ht := (r_sh_t h).2
  cases hx : r_sh a with
  | inl ci =>
    rw [jl_l ((kL_r h).trans hx), jl_l ((kL_r h).trans hx), jfs_e rfl ((kSc_r h).trans (kSc_r h).symm) hrf]
  | inr q =>
    obtain ⟨t, n⟩ := q
    rw [jl_r ((kL_r h).trans hx), jl_r ((kL_r h).trans hx), kAr_r h, kAr_r h]
    exact kEnt_1 (ht t n hx)
theorem k_cls_in : ∀ a ∈ g_n (gX false), a ∈ kN := by
  intro a h
  rw [gn_f] at h
  show a ∈ g_n (gX true)
  rw [gn_t]
  obtain ⟨i, hi, rfl⟩ := List.mem_map.mp h
  have := List.mem_range.mp hi
  exact List.mem_range.mpr (by omega)
theorem k_cls_ge {a : Nat} (h : a ∈ g_n (gX false)) : 734 ≤ a := by
  rw [gn_f] at h
  obtain ⟨i, hi, rfl⟩ := List.mem_map.mp h
  omega
theorem k_cls_lt {a : Nat} (h : a ∈ g_n (gX false)) : a < 823 := by
  rw [gn_f] at h
  obtain ⟨i, hi, rfl⟩ := List.mem_map.mp h
  have := List.mem_range.mp hi
  omega
theorem k_out {a : Nat} (h : ¬ a ∈ g_n (gX false)) : a < 734 ∨ a = 823 ∨ (∀ ci, ¬ kL.1 a = .inl ci) ∧ ∀ t n, kL.1 a = .inr (t, n) → 6 ≤ t := by
  by_cases h1 : a < 734
  · exact Or.inl h1
  by_cases h9 : a = 823
  · exact Or.inr (Or.inl h9)
  · refine Or.inr (Or.inr ?_)
    have h2 : ¬ a ∈ kN := fun z => h (by
      have z : a ∈ g_n (gX true) := z
      rw [gn_t] at z
      rw [gn_f]
      have := List.mem_range.mp z
      exact g_cls_in (by omega) (by omega))
    have h3 := gX_LK true a
    refine ⟨fun ci e => h2 (h3 (by rw [e]; trivial)), fun t n e => Nat.not_lt.mp fun z => h2 (h3 (by rw [e]; exact z))⟩
theorem gW_cls {S : Nat → Int32} {arv scv scv2 carv carv2 : jSc} {rf rf2 : jRf} {al al2 : jAl} {q d : Nat} {lv : jV} {r0 : Option Value} (hrf : ∀ a, a < 734 → rf2 a = rf a) (h : gW (gX false) q d 0 lv [] scv rf carv al (fun r sc' rf' ar' al' => r = r0 ∧ sc' = scv2 ∧ rf' = rf2 ∧ ar' = carv2 ∧ al' = al2)) : gW (gX true) q d 0 lv [] (kSc S scv) rf (kAr arv carv) al (fun r sc' rf' ar' al' => r = r0 ∧ sc' = kSc S scv2 ∧ rf' = rf2 ∧ ar' = kAr arv carv2 ∧ al' = kAl al al2) := by
  obtain ⟨N, r, sc', rf', ar', al', hrun, e1, e2, e3, e4, e5⟩ := h
  rw [e1, e2, e3, e4, e5] at hrun
  have hr := kt_run (j_run_fr (g := j_lay kL (kSc S scv) rf (kAr arv carv) al) k_cls_in N q d 0 lv [] _ _ _ hrun)
  have f1 : km (g_n (gX false)) (j_lay kL (kSc S scv) rf (kAr arv carv) al) (j_lay (g_L (gX false)) scv rf carv al) = j_lay kL (kSc S scv) rf (kAr arv carv) al := by
    funext a
    by_cases ha : a ∈ g_n (gX false)
    · rw [km_in ha]
      exact klay_c (k_cls_ge ha) (k_cls_lt ha) rfl
    · exact if_neg ha
  have f2 : km (g_n (gX false)) (j_lay kL (kSc S scv) rf (kAr arv carv) al) (j_lay (g_L (gX false)) scv2 rf2 carv2 al2) = j_lay kL (kSc S scv2) rf2 (kAr arv carv2) (kAl al al2) := by
    funext a
    by_cases ha : a ∈ g_n (gX false)
    · rw [km_in ha]
      exact klay_c (k_cls_ge ha) (k_cls_lt ha) (kAl_n (by have := k_cls_lt ha; omega))
    · refine (if_neg ha : km (g_n (gX false)) _ _ a = _).trans ?_
      rcases k_out ha with h1 | rfl | ⟨h1, h2⟩
      · exact klay_r h1 (hrf a h1).symm
      · have hx : kL.1 823 = .inr (1, 1) := (kL_c (by decide)).trans rfl
        rw [jl_r hx, jl_r hx]
        unfold kEnt kAl
        rw [if_pos rfl, if_pos rfl, if_pos rfl]
      · cases hx : kL.1 a with
        | inl ci => exact absurd hx (h1 ci)
        | inr z =>
          obtain ⟨t, n⟩ := z
          rw [jl_r hx, jl_r hx]
          exact kEnt_6 (h2 t n hx)
  rw [f1, f2] at hr
  exact ⟨N, r0, _, _, _, _, hr, rfl, rfl, rfl, rfl, rfl⟩
theorem gn_r : g_n gRX = kRl := by
  unfold g_n gRX
  dsimp only
theorem gRX_r {a : Nat} (h : a < 734) : (g_L gRX).1 a = r_sh a := (if_pos h : (g_L gRX).1 a = g_rs gRX a)
theorem gRX_LK : j_LK (g_n gRX) (g_L gRX) := by
  intro a h
  by_cases h1 : a < 734
  · rw [gn_r]
    exact kRl_in.mpr h1
  · have e : (g_L gRX).1 a = .inr (9, 0) := if_neg h1
    rw [e] at h
    exact absurd h (show ¬ (9 : Nat) < 6 by decide)
theorem gW_ref {S S2 : Nat → Int32} {arv arv2 sc0 scv carv : jSc} {rf : jRf} {al : jAl} {q d : Nat} {lv : jV} {r0 : Option Value} (h : gW gRX q d 0 lv [] (va_up sc0 0 S) rf arv al (fun r sc' rf' ar' al' => r = r0 ∧ sc' = va_up sc0 0 S2 ∧ rf' = rf ∧ ar' = arv2 ∧ al' = al)) : gW (gX true) q d 0 lv [] (kSc S scv) rf (kAr arv carv) al (fun r sc' rf' ar' al' => r = r0 ∧ sc' = kSc S2 scv ∧ rf' = rf ∧ ar' = kAr arv2 carv ∧ al' = al) := by
  obtain ⟨N, r, sc', rf', ar', al', hrun, e1, e2, e3, e4, e5⟩ := h
  rw [e1, e2, e3, e4, e5] at hrun
  have hin : ∀ a ∈ g_n gRX, a ∈ kN := fun a h => by
    show a ∈ g_n (gX true)
    rw [gn_t]
    rw [gn_r] at h
    have := kRl_in.mp h
    exact List.mem_range.mpr (by omega)
  have hr := kr_run (j_run_fr (g := j_lay kL (kSc S scv) rf (kAr arv carv) al) hin N q d 0 lv [] _ _ _ hrun)
  have key : ∀ (T : Nat → Int32) (au : jSc), km (g_n gRX) (j_lay kL (kSc S scv) rf (kAr arv carv) al) (j_lay (g_L gRX) (va_up sc0 0 T) rf au al) = j_lay kL (kSc T scv) rf (kAr au carv) al := by
    intro T au
    funext a
    by_cases ha : a < 734
    · rw [km_in (show a ∈ g_n gRX by rw [gn_r]; exact kRl_in.mpr ha)]
      obtain ⟨h0, ht⟩ := r_sh_t ha
      cases hx : r_sh a with
      | inl ci =>
        have e0 := h0 ci hx
        subst e0
        rw [jl_l ((gRX_r ha).trans hx), jl_l ((kL_r ha).trans hx), jfs_e (kL22r.trans (kL22 true).symm) ((if_pos rfl : va_up sc0 0 T 0 = T).trans (kSc_r ha).symm) rfl]
      | inr z =>
        obtain ⟨t, n⟩ := z
        rw [jl_r ((gRX_r ha).trans hx), jl_r ((kL_r ha).trans hx), kAr_r ha, kL21r, show kL.2.1 = _ from kL21 true]
    · have hn : ¬ a ∈ g_n gRX := fun z => ha (by rw [gn_r] at z; exact kRl_in.mp z)
      refine (if_neg hn : km (g_n gRX) _ _ a = _).trans ?_
      have ha : 734 ≤ a := by omega
      cases hx : x_sb true a with
      | inl ci =>
        rw [jl_l ((kL_c ha).trans hx), jl_l ((kL_c ha).trans hx), jfs_e rfl ((kSc_c ha).trans (kSc_c ha).symm) rfl]
      | inr z =>
        obtain ⟨t, n⟩ := z
        rw [jl_r ((kL_c ha).trans hx), jl_r ((kL_c ha).trans hx), kAr_c ha, kAr_c ha]
  rw [key, key] at hr
  exact ⟨N, r0, _, _, _, _, hr, rfl, rfl, rfl, rfl, rfl⟩
theorem x_mk_at {mr : Nat → Nat} {rf : jRf} {a k : Nat} (h : a < 734) : x_mk mr rf a k = rf a k := by
  unfold x_mk
  rw [if_neg (fun z => by omega), if_neg (fun z => by omega), if_neg (fun z => by omega), if_neg (fun z => by omega), if_neg (fun z => by omega), if_pos h]
theorem x_mk_lt {mr mr2 : Nat → Nat} {rf : jRf} {a : Nat} (h : a < 734) : x_mk mr2 rf a = x_mk mr rf a := by
  funext k
  rw [x_mk_at h, x_mk_at h]
theorem x_mk_0 {mr : Nat → Nat} {rf : jRf} (h : rf 0 = r_rf) : x_mk mr rf 0 = r_rf := by
  funext k
  rw [x_mk_at (by omega), h]
