/-! CALLS: newer, form, use. -/
theorem use_x : ∀ i, i < 6 → ∀ s, s < 64 → nI s ^^^ ((1 : Int32) <<< (nI i &&& 31)) = nI (s ^^^ 2 ^ i) := by decide +kernel
theorem use_l : ∀ m, m < 7 → ∀ i, i < m → ∀ s, s < 2 ^ m → s ^^^ 2 ^ i < 2 ^ m := by decide +kernel
theorem use_b : ∀ i, i < 6 → ∀ s, s < 64 → ∀ j, j < 6 → bt (nI (s ^^^ 2 ^ i)) j = (bt (nI s) j != decide (j = i)) := by decide +kernel
theorem use_t : ∀ i, i < 6 → ∀ s, s < 64 → (nI s &&& ((1 : Int32) <<< (nI i &&& 31)) = 0 ↔ bt (nI s) i = false) := by decide +kernel
section CF
variable {S S2 : Nat → Int32} {ar ar2 : jSc} {sc car sc2 car2 : jSc} {mr : Nat → Nat} {al al2 : jAl} {S0 : Nat → Int32} {ar0 : jSc} {n p m s nr : Nat} {tx : Nat → Int32} {g : pG} {cs : List Nat}
theorem dp_none {t : bS} (h : t.2.1 = none) : aDp t = -1 ∨ aDp t = -2 := by
  unfold aDp
  rw [h]
  by_cases z : t.2.2 = true
  · exact Or.inr (if_pos z)
  · exact Or.inl (if_neg z)
theorem dp_some {t : bS} {i : Nat} (ok : bOk 8 t) (h : t.2.1 = some i) : ∃ e, t.1[i]? = some e ∧ aDp t = nI e.2.2.2 ∧ e.2.2.2 ≤ 8 := by
  have il := ok.2 i h
  obtain ⟨e, he⟩ : ∃ e, t.1[i]? = some e := ⟨t.1[i], List.getElem?_eq_getElem il⟩
  refine ⟨e, he, ?_, (ok.1 i e he).1⟩
  unfold aDp
  rw [h]
  show (match t.1[i]? with | some e => nI e.2.2.2 | none => 0) = nI e.2.2.2
  rw [he]
theorem gRf_lo {pr : Nat} (h : gRf pr n tx g ar) (e : ∀ b, b < 13 → ar2 b = ar b) : gRf pr n tx g ar2 := by
  obtain ⟨h1, h2, h3, h4, h5, h6, h7, h8, h9⟩ := h
  exact ⟨h1, h2, by rw [e 8 (by omega)]; exact h3, fun q hq => by rw [e (3 + pr) (by omega)]; exact h4 q hq, h5, h6, fun k hk => by rw [e (6 + pr) (by omega)]; exact h7 k hk, by rw [e 10 (by omega)]; exact h8, by rw [e 11 (by omega)]; exact h9⟩
theorem gCl_lo (h : gCl p g sc car) (e1 : ∀ a k, 744 ≤ a → a ≤ 752 → sc2 a k = sc a k) (e2 : ∀ b, 745 ≤ b → b ≤ 755 → car2 b = car b) : gCl p g sc2 car2 := by
  obtain ⟨x1, ⟨x2, x2b⟩, x3, x4, x5⟩ := h
  have hb := x_pr_in x1
  exact ⟨x1, ⟨by rw [e1 p 3 hb.1 hb.2]; exact x2, fun i hi => by rw [e2 (p + 1) (by omega) (by omega), e2 (p + 2) (by omega) (by omega)]; exact x2b i hi⟩, fun e he => by rw [e2 (p + 3) (by omega) (by omega)]; exact x3 e he, by rw [e1 p 7 hb.1 hb.2]; exact x4, by rw [e1 p 8 hb.1 hb.2]; exact x5⟩
theorem fC0_tr {sc3 car3 : jSc} {al3 : jAl} (h : fC0 sc car al sc2 car2 al2) (k : fC0 sc2 car2 al2 sc3 car3 al3) : fC0 sc car al sc3 car3 al3 := ⟨fun a j h1 h2 h3 h4 => (k.1 a j h1 h2 h3 h4).trans (h.1 a j h1 h2 h3 h4), fun b h1 h2 h3 h4 h5 h6 h7 => (k.2.1 b h1 h2 h3 h4 h5 h6 h7).trans (h.2.1 b h1 h2 h3 h4 h5 h6 h7), fun j hj => (k.2.2.1 j hj).trans (h.2.2.1 j hj), k.2.2.2.1, k.2.2.2.2.trans h.2.2.2.2⟩
theorem fC0_73 {v : Int32} (h5 : sc 757 5 = 0) : fC0 sc car al (j_u2 sc 773 16 v) car al := ⟨fun a j h1 h2 h3 h4 => if_neg (by omega), fun _ _ _ _ _ _ _ _ => rfl, fun _ _ => rfl, (if_neg (by omega)).trans h5, rfl⟩
theorem hM_73 {L : List (Nat → Int32)} {v : Int32} (h : hM L sc car) : hM L (j_u2 sc 773 16 v) car := ⟨(if_neg (by omega)).trans h.1, h.2⟩
theorem q_newer {nn0 most : Nat} (h : GX S0 ar0 n tx g p m s nr cs S ar sc car mr al) (hn : nn0 ≤ 8) (h1 : 1 ≤ most) (h6 : most ≤ 600) : qA (rF_118 (nI nn0) (nI most) S ar) (xF_349 (nI nn0) (nI most) sc mr car al) := by
  have h' := GX_0 h 0
  obtain ⟨o1, o2, o3, o4, o5, o6, o7, n1, tx1, g1, o8, o9, o10⟩ := h.2.2.2.2.2.2.2.1
  have hA := GX_A h
  have hS' := GX_S h'
  have hE := GX_E h
  -- the two programs
  have E1 : cE 1 n1 tx1 g1 (mr 1) m (upd S0 16 1) ar0 sc car (va_up mr 3 (mr 1)) := ⟨⟨gRf_st o8 (fun b hb => (hA b hb).symm), o9, o10, va_up_self _ _ _, up_0, (up_n (by decide)).trans hE.1.2.2.2.2.2.1, hE.1.2.2.2.2.2.2⟩, (up_n (by decide)).trans hE.2.1, hE.2.2⟩
  generalize hA0 : aRs S0 ar0 m g false most nn0 = A0
  generalize hA1 : aRs (upd S0 16 1) ar0 m g1 false most nn0 = A1
  have ok0 : bOk 8 A0 := by rw [← hA0]; exact bOk_le bRs_ok hn
  have ok1 : bOk 8 A1 := by rw [← hA1]; exact bOk_le bRs_ok hn
  -- the reference
  obtain ⟨S1, ar1, e1, e2, e3⟩ := r_expl hE (wh := false) h1 h6 hn hS' hA
  have e1 : rF_87 (nI nn0) (nI most) 1 (upd S 0 0) ar = some (S1, ar1) := e1
  have sS1 : stS (upd S0 16 1) (upd S1 16 1) := ⟨up_0.trans up_0.symm, (up_n (by decide)).trans (((vZ_X e3).1 38 (by omega) (by omega)).trans (hS'.2.1.trans (up_n (by decide)).symm)), (up_n (by decide)).trans (((vZ_X e3).1 29 (by omega) (by omega)).trans (hS'.2.2.trans (up_n (by decide)).symm))⟩
  have sA1 : stA ar0 ar1 := stA_Z hA (vZ_X e3)
  obtain ⟨S3, ar3, f1, f2, f3⟩ := r_expl E1 (wh := false) h1 h6 hn sS1 sA1
  have f1 : rF_87 (nI nn0) (nI most) 1 (upd S1 16 1) ar1 = some (S3, ar3) := f1
  rw [hA0] at e2
  rw [hA1] at f2
  have R : rF_118 (nI nn0) (nI most) S ar = (if S1 49 = (-1 : Int32) then rF_118_62 (nI nn0) (nI most) (-1) S1 ar1 else (if iB (S1 49) 600 then rF_118_62 (nI nn0) (nI most) (ar1 710 (iN (S1 49))) S1 ar1 else none)) := by
    unfold rF_118
    rw [r_88 h1 h6 hn, ob3, if_neg (by decide)]
    unfold rF_118_20
    rw [q_ck0, ob3, if_pos rfl, up0_16 h, e1, ob2]
  have r9a : fR9 (upd S 0 0) ar S1 ar1 := fR9_X (vZ_X e3)
  have r9b : fR9 (upd S 0 0) ar (upd S3 16 0) ar3 := by
    have q := fR9_X (vZ_X f3)
    refine ⟨fun k hk => ?_, fun b b1 b2 b3 b4 b5 => (q.2 b b1 b2 b3 b4 b5).trans (r9a.2 b b1 b2 b3 b4 b5)⟩
    by_cases z : k = 16
    · subst z
      rw [up_0]
      exact ((GX_S16 h')).symm
    · rw [up_n z, q.1 k hk, up_n z]
      exact r9a.1 k hk
  have s0a : S1 0 = 0 := (vZ_0 (vZ_X e3)).trans q_b0
  have s0b : (upd S3 16 0) 0 = 0 := (up_n (by decide)).trans ((vZ_0 (vZ_X f3)).trans ((up_n (by decide)).trans s0a))
  -- ClickOrders
  obtain ⟨⟨L, hL⟩, -⟩ := h.2.2.2.1
  have E1' : cE 1 n1 tx1 g1 (mr 1) m (upd S0 16 1) ar0 (j_u2 sc 773 16 (-1)) car (va_up mr 3 (mr 1)) := cE_lo E1 (fun a ha => j_u2_row _ _ _ _ (by omega)) (fun _ _ => rfl) (if_neg (by omega))
  obtain ⟨sc3, car3, wh, B, c1, -, c3, c4, c5⟩ := c_goes (al := al) (w := false) E1' ⟨⟨L, hM_73 hL⟩, Or.inl u2_eq⟩ h1 h6 hn
  have c1 : xF_285 (nI nn0) (nI most) 0 (j_u2 sc 773 16 (-1)) (va_up mr 3 (mr 1)) car al = some (sc3, va_up mr 3 (mr 1), car3, al) := c1
  have a1 : xF_286 sc3 (va_up mr 3 (mr 1)) car3 al = some (aDp A1, sc3, va_up mr 3 (mr 1), car3, al) := by rw [← hA1]; exact c_ans (kPS_an hn c3)
  have mb : va_up (va_up mr 3 (mr 1)) 3 (va_up mr 3 (mr 1) 0) = mr := by
    funext k
    by_cases z : k = 3
    · subst z
      rw [va_up_self, va_up_ne _ _ (by decide)]
      exact o7.symm
    · rw [va_up_ne _ _ z, va_up_ne _ _ z]
  have m10 : va_up mr 3 (mr 1) 0 = mr 0 := va_up_ne _ _ (by decide)
  have U1 : fC0 sc car al (j_u2 sc3 773 16 (-1)) car3 al := fC0_tr (fC0_tr (fC0_73 (GX_5 h)) (fC0_Y c5)) (fC0_73 c5.2.2)
  have E0 : cE 0 n tx g p m S0 ar0 (j_u2 sc3 773 16 (-1)) car3 mr := cE_k hE (fC0_Pc U1)
  have K0 : cKy S0 ar0 m g (j_u2 sc3 773 16 (-1)) car3 := ⟨⟨_, hM_73 c3.1⟩, Or.inl u2_eq⟩
  obtain ⟨sc4, car4, wh2, B2, d1, -, d3, d4, d5⟩ := c_goes (al := al) (w := false) E0 K0 h1 h6 hn
  have d1 : xF_285 (nI nn0) (nI most) 0 (j_u2 sc3 773 16 (-1)) mr car3 al = some (sc4, mr, car4, al) := d1
  have a0 : xF_286 sc4 mr car4 al = some (aDp A0, sc4, mr, car4, al) := by rw [← hA0]; exact c_ans (kPS_an hn d3)
  have C : xF_349 (nI nn0) (nI most) sc mr car al = (if aDp A1 < 0 then some ((if aDp A0 < (-1 : Int32) then (-1 : Int32) else aDp A0), sc4, mr, car4, al) else some (-1, j_u2 sc3 773 16 (-1), mr, car3, al)) := by
    unfold xF_349 xF_283
    rw [c_rows h1 h6 hn, ob4, if_pos o2, ob4, c1, ob4, a1, ob5, m10, if_pos o1, ob4]
    rw [show va_up (va_up mr 3 (mr 1)) 3 (mr 0) = mr from by rw [← m10]; exact mb, d1, ob4, a0, ob5]
  have U2 : fC0 sc car al sc4 car4 al := fC0_tr U1 (fC0_Y d5)
  have GA : ∀ {S9 : Nat → Int32} {ar9 : jSc}, fR9 (upd S 0 0) ar S9 ar9 → GR S9 ar9 (j_u2 sc3 773 16 (-1)) car3 mr al := fun r => GX_R (GX_ky h' r U1 K0)
  have GB : ∀ {S9 : Nat → Int32} {ar9 : jSc}, fR9 (upd S 0 0) ar S9 ar9 → GR S9 ar9 sc4 car4 mr al := fun r => GX_R (GX_ky h' r U2 (cKy_of h1 h6 hn d3 d4))
  rcases x1 : A1.2.1 with _ | i1
  · have n1' : aDp A1 < 0 := by rcases dp_none x1 with z | z <;> rw [z] <;> decide
    rw [if_pos n1'] at C
    have g49 : S3 49 = -1 := by rw [f2.2.1, x1]; rfl
    rcases x0 : A0.2.1 with _ | i0
    · have v0 : (if aDp A0 < (-1 : Int32) then (-1 : Int32) else aDp A0) = -1 := by rcases dp_none x0 with z | z <;> rw [z] <;> decide
      rw [v0] at C
      refine ⟨-1, S1, ar1, sc4, mr, car4, al, ?_, s0a, C, GB r9a⟩
      rw [R, if_pos (by rw [e2.2.1, x0]; rfl)]
      unfold rF_118_62
      rw [if_pos rfl]
    · obtain ⟨e, w1, w2, w3⟩ := dp_some ok0 x0
      have il := ok0.2 i0 x0
      have l6 := e2.1.2.1
      have v0 : (if aDp A0 < (-1 : Int32) then (-1 : Int32) else aDp A0) = nI e.2.2.2 := by
        rw [w2, if_neg]
        rw [Int32.lt_iff_toInt_lt, nI_toInt (by omega)]
        have : (-1 : Int32).toInt = -1 := rfl
        omega
      rw [v0] at C
      refine ⟨nI e.2.2.2, upd S3 16 0, ar3, sc4, mr, car4, al, ?_, s0b, C, GB r9b⟩
      have q49 : S1 49 = nI i0 := by rw [e2.2.1, x0]; rfl
      rw [R, q49, if_neg (nI_nm (by omega)), if_pos (iB_nI (show i0 < 600 by omega) (by decide)), iN_nI (by omega), (e2.1.2.2 i0 e w1).2.2.2.1]
      unfold rF_118_62
      rw [if_neg (nI_nm (by omega)), f1, ob2, g49, if_pos rfl]
  · obtain ⟨e', w1', w2', w3'⟩ := dp_some ok1 x1
    have il' := ok1.2 i1 x1
    have l6' := f2.1.2.1
    have n1' : ¬ aDp A1 < 0 := by rw [w2']; exact nI_pos (by omega)
    rw [if_neg n1'] at C
    have g49 : S3 49 = nI i1 := by rw [f2.2.1, x1]; rfl
    rcases x0 : A0.2.1 with _ | i0
    · refine ⟨-1, S1, ar1, _, mr, car3, al, ?_, s0a, C, GA r9a⟩
      rw [R, if_pos (by rw [e2.2.1, x0]; rfl)]
      unfold rF_118_62
      rw [if_pos rfl]
    · obtain ⟨e, w1, w2, w3⟩ := dp_some ok0 x0
      have il := ok0.2 i0 x0
      have l6 := e2.1.2.1
      refine ⟨-1, upd S3 16 0, ar3, _, mr, car3, al, ?_, s0b, C, GA r9b⟩
      have q49 : S1 49 = nI i0 := by rw [e2.2.1, x0]; rfl
      rw [R, q49, if_neg (nI_nm (by omega)), if_pos (iB_nI (show i0 < 600 by omega) (by decide)), iN_nI (by omega), (e2.1.2.2 i0 e w1).2.2.2.1]
      unfold rF_118_62
      rw [if_neg (nI_nm (by omega)), f1, ob2, g49, if_neg (nI_nm (by omega))]
theorem q_newer_t {x y : Int32} (h : GR S ar sc car mr al) (hx : nRw x y) : qT 1 sc car mr al (rF_118 x y S ar) := by
  refine ⟨0, upd (upd S 0 0) 0 1, ar, ?_, q_b0, GR_0 (GR_0 h 0) 1⟩
  unfold rF_118
  rw [q_88 hx, ob3, if_pos rfl]
  unfold rF_118_20
  rw [q_bad (by decide), ob3, if_neg (by decide)]
/-! forms -/
def scG (sc : jSc) : jSc := j_u2 (j_u2 (j_u2 (j_u2 sc 773 16 (-1)) 796 4 (-1)) 796 5 (-1)) 759 14 0
theorem c_353 : xF_353 sc mr car al = some (scG sc, mr, car, al) := by
  unfold xF_353 xF_283 xF_246 xF_305
  rw [ob4, ob4, ob4]
  rfl
theorem c_352 : xF_352 sc mr car al = some (scG (j_u2 sc 734 13 (-1)), mr, car, al) := by
  unfold xF_352
  rw [c_353, ob4]
theorem scG_o {a k : Nat} (h1 : ¬ (a = 773 ∧ k = 16)) (h2 : ¬ (a = 796 ∧ (k = 4 ∨ k = 5))) (h3 : ¬ (a = 759 ∧ k = 14)) : scG sc a k = sc a k := by
  unfold scG j_u2
  rw [if_neg h3, if_neg (by omega), if_neg (by omega), if_neg h1]
theorem scG_16 : scG sc 773 16 = -1 := rfl
theorem scG_4 : scG sc 796 4 = -1 := rfl
theorem scG_5 : scG sc 796 5 = -1 := rfl
theorem scG_14 : scG sc 759 14 = 0 := rfl
/-- what of the run stays if only the tally is forgotten -/
theorem gRun_14 {S0' : Nat → Int32} {ar0' : jSc} {m' : Nat} (h : gRun S0 ar0 m nr S ar sc car al) (z14 : sc2 759 14 = 0) (k31 : S2 31 = S 31) (kr : ∀ b, (14 ≤ b ∧ b ≤ 18) ∨ (20 ≤ b ∧ b ≤ 60) → ar2 b = ar b) (k5 : sc2 759 5 = sc 759 5) (kc : ∀ b, (761 ≤ b ∧ b ≤ 765) ∨ b = 769 ∨ b = 770 ∨ b = 772 → car2 b = car b) : gRun S0' ar0' m' nr S2 ar2 sc2 car2 al := by
  have q : kRn S ar sc car al S2 ar2 (j_u2 sc2 759 14 (sc 759 14)) car2 al := ⟨k31, kr, (if_neg (by omega)).trans k5, u2_eq, kc, rfl⟩
  obtain ⟨h1, h2, h3, h4⟩ := tK_k h.1 q
  exact ⟨⟨h1, h2, k5.trans h.1.2.2.1, h4⟩, fun i hi => by rw [kr 18 (by omega)]; exact h.2.1 i hi, Or.inl z14⟩
theorem GX_frm {S0' : Nat → Int32} {ar0' : jSc} {m' s' : Nat} (h : GX S0 ar0 n tx g p m s nr cs S ar sc car mr al) (k1 : gSt S0' ar0' n tx g p m' s' S2 ar2 sc2 car2 mr) (r1 : ∀ k, (k = 1 ∨ k = 2 ∨ k = 31 ∨ k = 51 ∨ k = 57) → S2 k = S k) (r2 : ∀ b, ¬ (102 ≤ b ∧ b ≤ 106) → ar2 b = ar b) (c1 : ∀ a k, a ≠ 736 → ¬ (a = 734 ∧ k = 13) → ¬ (a = 773 ∧ k = 16) → ¬ (a = 796 ∧ (k = 4 ∨ k = 5)) → ¬ (a = 759 ∧ k = 14) → sc2 a k = sc a k) (c2 : ∀ b, ¬ (737 ≤ b ∧ b ≤ 741) → car2 b = car b) (z16 : sc2 773 16 = -1) (z4 : sc2 796 4 = -1) (z5 : sc2 796 5 = -1) (z14 : sc2 759 14 = 0) (k6 : cSt S0' ar0' m' g sc2) : GX S0' ar0' n tx g p m' s' nr cs S2 ar2 sc2 car2 mr al := by
  obtain ⟨h1, h2, h3, h4, h5, h6, h7, h8, h9⟩ := h
  have hpr := x_pr_in h1.1.1.2.1.1
  have cc : ∀ a k, (a < 734 ∨ (737 ≤ a ∧ a ≤ 758) ∨ (760 ≤ a ∧ a ≤ 772) ∨ (774 ≤ a ∧ a ≤ 795) ∨ 797 ≤ a) → sc2 a k = sc a k := fun a k ha => c1 a k (by omega) (by omega) (by omega) (by omega) (by omega)
  obtain ⟨⟨L, hL⟩, -⟩ := h4
  obtain ⟨⟨w1, w2, w3, w4, w5⟩, w6, -⟩ := h5
  obtain ⟨o1, o2, o3, o4, o5, o6, o7, n1, tx1, g1, o8, o9, o10⟩ := h8
  have hL2 : hM L sc2 car2 := by
    obtain ⟨x1, x2, x3, x4, x5, x6⟩ := hL
    have e775 := c2 775 (by omega)
    have e776 := c2 776 (by omega)
    have e777 := c2 777 (by omega)
    exact ⟨(cc 774 0 (by omega)).trans x1, x2, x3, by rw [e775]; exact x4, x5, by rw [e776, e777]; exact x6⟩
  refine ⟨k1, gRun_14 h2 z14 (r1 31 (by omega)) (fun b hb => r2 b (by omega)) (c1 759 5 (by omega) (by omega) (by omega) (by omega) (by omega)) (fun b hb => c2 b (by omega)), gTold_k h3 ⟨r1 51 (by omega), r2 711 (by omega), cc 819 1 (by omega), c2 820 (by omega)⟩, ⟨⟨L, hL2⟩, Or.inl z16⟩, ⟨⟨?_, ?_, fun i hi => ?_, fun i hi => ?_, fun i hi => ?_⟩, ?_, ⟨0, by omega, by rw [z5]; decide, Or.inl ⟨z4, fun d hd => absurd hd (by omega)⟩⟩⟩, k6, ⟨(cc p 6 (by omega)).trans h7.1, ?_, ?_⟩, ⟨o1, o2, o3, o4, o5, o6, o7, n1, tx1, g1, gRf_lo o8 (fun b hb => r2 b (by omega)), gCl_lo o9 (fun a k _ _ => cc a k (by omega)) (fun b _ _ => c2 b (by omega)), o10⟩, gTp_k h9 ⟨r1 1 (by omega), r1 2 (by omega), r2 1 (by omega), c1 734 11 (by omega) (by omega) (by omega) (by omega) (by omega), c1 734 12 (by omega) (by omega) (by omega) (by omega) (by omega), c2 735 (by omega)⟩⟩
  · rw [r2 714 (by omega)]
    show pgR (ar 714) (car2 800)
    rw [c2 800 (by omega)]; exact w1
  · rw [r2 715 (by omega)]
    show pgR (ar 715) (car2 802)
    rw [c2 802 (by omega)]; exact w2
  · rw [r2 716 (by omega), r2 (718 + 0) (by omega), c2 798 (by omega)]; exact w3 i hi
  · rw [r2 716 (by omega), r2 (718 + 1) (by omega), c2 798 (by omega)]; exact w4 i hi
  · rw [r2 714 (by omega), r2 715 (by omega)]; exact w5 i hi
  · rw [r1 57 (by omega), c1 796 1 (by omega) (by omega) (by omega) (by omega) (by omega)]; exact w6
  · rw [cc p 4 (by omega), r2 9 (by omega)]; exact h7.2.1
  · rw [cc p 5 (by omega), r2 6 (by omega)]; exact h7.2.2
def aF (ar : jSc) (m : Nat) (x1 x2 x3 x4 : Int32) : jSc := j_u2 (j_u2 (j_u2 (j_u2 (j_u2 ar 102 m x1) 103 m x2) 104 m x3) 105 m x4) 106 m 0
theorem aF_j {x1 x2 x3 x4 : Int32} {b j : Nat} (h : j ≠ m) : aF ar m x1 x2 x3 x4 b j = ar b j := by
  unfold aF j_u2
  rw [if_neg (by omega), if_neg (by omega), if_neg (by omega), if_neg (by omega), if_neg (by omega)]
theorem aF_b {x1 x2 x3 x4 : Int32} {b : Nat} (h : ¬ (102 ≤ b ∧ b ≤ 106)) : aF ar m x1 x2 x3 x4 b = ar b := by
  funext j
  unfold aF j_u2
  rw [if_neg (by omega), if_neg (by omega), if_neg (by omega), if_neg (by omega), if_neg (by omega)]
theorem aF_A {x1 x2 x3 x4 : Int32} (hA : stA ar0 ar) : stA (aF ar0 m x1 x2 x3 x4) (aF ar m x1 x2 x3 x4) := fun b hb => by
  funext j
  unfold aF j_u2
  rw [hA b hb]
theorem aF_106 {x1 x2 x3 x4 : Int32} : aF ar m x1 x2 x3 x4 106 m = 0 := if_pos ⟨rfl, rfl⟩
theorem aF_102 {x1 x2 x3 x4 : Int32} : aF ar m x1 x2 x3 x4 102 m = x1 := by
  unfold aF
  rw [j_u2_row _ _ _ _ (by decide), j_u2_row _ _ _ _ (by decide), j_u2_row _ _ _ _ (by decide), j_u2_row _ _ _ _ (by decide), u2_eq]
theorem aF_103 {x1 x2 x3 x4 : Int32} : aF ar m x1 x2 x3 x4 103 m = x2 := by
  unfold aF
  rw [j_u2_row _ _ _ _ (by decide), j_u2_row _ _ _ _ (by decide), j_u2_row _ _ _ _ (by decide), u2_eq]
theorem aF_104 {x1 x2 x3 x4 : Int32} : aF ar m x1 x2 x3 x4 104 m = x3 := by
  unfold aF
  rw [j_u2_row _ _ _ _ (by decide), j_u2_row _ _ _ _ (by decide), u2_eq]
theorem aF_105 {x1 x2 x3 x4 : Int32} : aF ar m x1 x2 x3 x4 105 m = x4 := by
  unfold aF
  rw [j_u2_row _ _ _ _ (by decide), u2_eq]
theorem cF_737 {a b c d : Int32} : (j_u2 (j_u2 (j_u2 (j_u2 car 737 m a) 738 m b) 739 m c) 740 m d) 737 m = a := by
  rw [j_u2_row _ _ _ _ (by decide), j_u2_row _ _ _ _ (by decide), j_u2_row _ _ _ _ (by decide), u2_eq]
theorem cF_738 {a b c d : Int32} : (j_u2 (j_u2 (j_u2 (j_u2 car 737 m a) 738 m b) 739 m c) 740 m d) 738 m = b := by
  rw [j_u2_row _ _ _ _ (by decide), j_u2_row _ _ _ _ (by decide), u2_eq]
theorem cF_739 {a b c d : Int32} : (j_u2 (j_u2 (j_u2 (j_u2 car 737 m a) 738 m b) 739 m c) 740 m d) 739 m = c := by
  rw [j_u2_row _ _ _ _ (by decide), u2_eq]
theorem aF_fa {x1 x2 x3 x4 k l : Int32} : m_fr (aF ar m x1 x2 x3 x4) (m + 1) k l = m_fr ar m k l := by
  rw [Bool.eq_iff_iff]
  unfold m_fr
  rw [m_fa_i, m_fa_i]
  constructor
  · rintro ⟨j, j1, j2, j3, j4, j5⟩
    have hj : j ≠ m := by
      rintro rfl
      exact j3 aF_106
    rw [aF_j hj] at j3 j4 j5
    exact ⟨j, j1, by omega, j3, j4, j5⟩
  · rintro ⟨j, j1, j2, j3, j4, j5⟩
    exact ⟨j, j1, by omega, by rw [aF_j (by omega)]; exact j3, by rw [aF_j (by omega)]; exact j4, by rw [aF_j (by omega)]; exact j5⟩
theorem aF_b1 {x1 x2 x3 x4 t l : Int32} : m_b1 (aF ar m x1 x2 x3 x4) t l 0 (m + 1) = m_b1 ar t l 0 m := by
  rw [Bool.eq_iff_iff, m_b1_i, m_b1_i]
  constructor
  · rintro ⟨j, j1, j2, j3, j4, j5, j6⟩
    have hj : j ≠ m := by
      rintro rfl
      exact j3 aF_106
    rw [aF_j hj] at j3 j4 j5 j6
    exact ⟨j, j1, by omega, j3, j4, j5, j6⟩
  · rintro ⟨j, j1, j2, j3, j4, j5, j6⟩
    exact ⟨j, j1, by omega, by rw [aF_j (by omega)]; exact j3, by rw [aF_j (by omega)]; exact j4, by rw [aF_j (by omega)]; exact j5, by rw [aF_j (by omega)]; exact j6⟩
theorem q_form {kd l q : Nat} {x2 : Int32} (h : GX S0 ar0 n tx g p m s nr cs S ar sc car mr al) (hk : kd < 3) (ht : kd = 0 → ∃ t, t < 8 ∧ x2 = nI t) (hl : l < 4) (hq : q ≤ 100) : qA (rF_101 (nI kd) x2 (nI l) (nI q) S ar) (xF_342 (nI kd) x2 (nI l) (nI q) sc mr car al) := by
  have h' := GX_0 h 0
  have hM := h.1.2.2.2.2.1
  have hO := h.1.2.2.2.2.2
  have hE := GX_E h
  have hm := hM.1
  have h38 : (upd S 0 0) 38 = nI m := (GX_S h').2.1.trans hE.1.2.2.2.2.2.1
  have R0 : rF_101_29 (nI kd) x2 (nI l) (nI q) (upd S 0 0) ar = rF_101_54 (nI kd) x2 (nI l) (nI q) 0 (upd S 0 0) ar := by
    unfold rF_101_29
    rw [show rF_4 (nI l) 0 3 (upd S 0 0) ar = some (1, upd S 0 0, ar) from q_inn (N := 3) (by omega) (by decide), ob3, if_neg (by decide), show rF_4 (nI q) 0 100 (upd S 0 0) ar = some (1, upd S 0 0, ar) from q_inn (N := 100) (by omega) (by decide), ob3, if_neg (by decide)]
  have R : rF_101 (nI kd) x2 (nI l) (nI q) S ar = rF_101_54 (nI kd) x2 (nI l) (nI q) 0 (upd S 0 0) ar := by
    unfold rF_101
    rw [show rF_4 (nI kd) 0 2 (upd S 0 0) ar = some (1, upd S 0 0, ar) from q_inn (N := 2) (by omega) (by decide), ob3, if_neg (by decide)]
    by_cases z : kd = 0
    · obtain ⟨t, ht8, rfl⟩ := ht z
      subst z
      rw [if_pos (show nI 0 = 0 from rfl), show rF_4 (nI t) 0 7 (upd S 0 0) ar = some (1, upd S 0 0, ar) from q_inn (N := 7) (by omega) (by decide), ob3, if_neg (by decide), R0]
    · rw [if_neg (show ¬ nI kd = (0 : Int32) from fun y => z ((nI_eq (b := 0) (by omega) (by decide)).mp y)), R0]
  have c51 : xF_342_51 (nI kd) x2 (nI l) (nI q) 1 1 1 sc mr car al = (o_b5 (xF_200 (nI kd) x2 (nI l) (nI q) (scG (j_u2 sc 734 13 (-1))) mr car al) (fun ve7 sce7 mre7 are7 ale7 => some (ve7, sce7, mre7, are7, ale7))) := by
    unfold xF_342_51
    rw [if_neg (by decide), if_neg (by decide), if_neg (by decide), if_neg (nI_pos (by omega)), if_pos (show nI q ≤ (100 : Int32) from nI_le (b := 100) (by omega) (by decide)), c_352, ob4]
  have c30 : xF_342_30 (nI kd) x2 (nI l) (nI q) 1 sc mr car al = xF_342_51 (nI kd) x2 (nI l) (nI q) 1 1 1 sc mr car al := by
    unfold xF_342_30
    rw [if_neg (nI_pos (by omega)), if_neg (show ¬ (4 : Int32) ≤ nI l from nI_ge (b := 4) (by omega) (by decide))]
  have C : xF_342 (nI kd) x2 (nI l) (nI q) sc mr car al = (o_b5 (xF_200 (nI kd) x2 (nI l) (nI q) (scG (j_u2 sc 734 13 (-1))) mr car al) (fun ve7 sce7 mre7 are7 ale7 => some (ve7, sce7, mre7, are7, ale7))) := by
    unfold xF_342
    rw [if_neg (nI_pos (by omega)), if_neg (show ¬ (3 : Int32) ≤ nI kd from nI_ge (b := 3) (by omega) (by decide))]
    unfold xF_342_14
    by_cases z : kd = 0
    · obtain ⟨t, ht8, rfl⟩ := ht z
      subst z
      rw [if_pos (show nI 0 = 0 from rfl), if_neg (nI_pos (by omega)), if_neg (show ¬ (8 : Int32) ≤ nI t from nI_ge (b := 8) (by omega) (by decide)), c30, c51]
    · rw [if_neg (show ¬ nI kd = (0 : Int32) from fun y => z ((nI_eq (b := 0) (by omega) (by decide)).mp y)), c30, c51]
  have o13 : ∀ a k, ¬ (a = 734 ∧ k = 13) → ¬ (a = 773 ∧ k = 16) → ¬ (a = 796 ∧ (k = 4 ∨ k = 5)) → ¬ (a = 759 ∧ k = 14) → scG (j_u2 sc 734 13 (-1)) a k = sc a k := fun a k z1 z2 z3 z4 => (scG_o z2 z3 z4).trans (if_neg z1)
  have c5 : scG (j_u2 sc 734 13 (-1)) 736 5 = nI m := (o13 736 5 (by omega) (by omega) (by omega) (by omega)).trans hM.2.1
  have cs13 : ∀ {S9 : Nat → Int32} {ar9 : jSc} {m9 : Nat} {sc9 : jSc}, sc9 734 13 = -1 → cSt S9 ar9 m9 g sc9 := fun z => Or.inl z
  by_cases h6 : m = 6
  · refine ⟨-1, upd S 0 0, ar, scG (j_u2 sc 734 13 (-1)), mr, car, al, ?_, q_b0, ?_, GX_R (GX_frm h' (s' := s) (m' := m) (S0' := S0) (ar0' := ar0) ⟨⟨⟨h'.1.1.1.1, gCl_lo hE.1.2.1 (fun a k z1 z2 => o13 a k (by omega) (by omega) (by omega) (by omega)) (fun _ _ _ => rfl), hE.1.2.2.1, hE.1.2.2.2.1, hE.1.2.2.2.2.1, hE.1.2.2.2.2.2.1, ?_⟩, hE.2.1, (o13 757 5 (by omega) (by omega) (by omega) (by omega)).trans hE.2.2⟩, GX_16 h, GX_S h', GX_A h, ⟨hM.1, c5, hM.2.2⟩, ⟨hO.1, (o13 736 6 (by omega) (by omega) (by omega) (by omega)).trans hO.2.1, hO.2.2⟩⟩ (fun _ _ => rfl) (fun _ _ => rfl) (fun a k _ z2 z3 z4 z5 => o13 a k z2 z3 z4 z5) (fun _ _ => rfl) scG_16 scG_4 scG_5 scG_14 (Or.inl ((scG_o (by omega) (by omega) (by omega)).trans u2_eq)))⟩
    · rw [R]
      unfold rF_101_54
      rw [q_ck0, ob3, if_pos rfl, h38, if_pos (by rw [h6]; rfl)]
    · rw [C]
      unfold xF_200
      rw [c5, if_neg (by rw [h6]; decide), ob5]
    · obtain ⟨f1, f2, f3, f4⟩ := hE.1.2.2.2.2.2.2
      exact ⟨f1, fun i hi => by rw [o13 736 8 (by omega) (by omega) (by omega) (by omega)]; exact f2 i hi, fun i hi => by rw [o13 736 7 (by omega) (by omega) (by omega) (by omega)]; exact f3 i hi, f4⟩
  · have m6 : m < 6 := by omega
    have RR : rF_101 (nI kd) x2 (nI l) (nI q) S ar = some (nI m, upd (upd S 0 0) 38 (nI (m + 1)), aF ar m (nI kd) x2 (nI l) (nI q)) := by
      rw [R]
      unfold rF_101_54
      rw [q_ck0, ob3, if_pos rfl, h38, if_neg (show ¬ nI m = (6 : Int32) from fun z => h6 ((nI_eq (b := 6) (by omega) (by decide)).mp z)), if_pos (iB_nI m6 (by decide)), if_pos (iB_nI m6 (by decide)), if_pos (iB_nI m6 (by decide)), if_pos (iB_nI m6 (by decide)), if_pos (iB_nI m6 (by decide)), iN_nI (by omega), nI_1, nI_pred]
      rfl
    generalize hy : (if nI kd = 0 then x2 else (0 : Int32)) = y0
    have CC : xF_342 (nI kd) x2 (nI l) (nI q) sc mr car al = some (nI m, j_u2 (scG (j_u2 sc 734 13 (-1))) 736 5 (nI (m + 1)), mr, j_u2 (j_u2 (j_u2 (j_u2 car 737 m (nI kd)) 738 m y0) 739 m (nI l)) 740 m (nI q), al) := by
      rw [C]
      unfold xF_200
      rw [c5, if_pos (show nI m < (6 : Int32) from nI_lt (b := 6) m6 (by decide)), if_pos (iB_nI m6 (by decide)), iN_nI (by omega)]
      have q38 : ∀ y, xF_200_38 (nI l) (nI q) y (nI m) (scG (j_u2 sc 734 13 (-1))) mr (j_u2 car 737 m (nI kd)) al = some (nI m, j_u2 (scG (j_u2 sc 734 13 (-1))) 736 5 (nI (m + 1)), mr, j_u2 (j_u2 (j_u2 (j_u2 car 737 m (nI kd)) 738 m y) 739 m (nI l)) 740 m (nI q), al) := fun y => by
        unfold xF_200_38
        rw [c5, if_pos (iB_nI m6 (by decide)), if_pos (iB_nI m6 (by decide)), if_pos (iB_nI m6 (by decide)), iN_nI (by omega), nI_1, nI_pred]
      by_cases z : nI kd = 0
      · rw [if_pos z] at hy
        rw [if_pos z, q38, ob5, hy]
      · rw [if_neg z] at hy
        rw [if_neg z, q38, ob5, hy]
    have cb : ∀ b j, j ≠ m → (j_u2 (j_u2 (j_u2 (j_u2 car 737 m (nI kd)) 738 m y0) 739 m (nI l)) 740 m (nI q)) b j = car b j := fun b j hj => by
      unfold j_u2
      rw [if_neg (by omega), if_neg (by omega), if_neg (by omega), if_neg (by omega)]
    have cbb : ∀ b, ¬ (737 ≤ b ∧ b ≤ 740) → (j_u2 (j_u2 (j_u2 (j_u2 car 737 m (nI kd)) 738 m y0) 739 m (nI l)) 740 m (nI q)) b = car b := fun b hb => by
      rw [j_u2_row _ _ _ _ (by omega), j_u2_row _ _ _ _ (by omega), j_u2_row _ _ _ _ (by omega), j_u2_row _ _ _ _ (by omega)]
    have o5 : ∀ a k, ¬ (a = 736 ∧ k = 5) → ¬ (a = 734 ∧ k = 13) → ¬ (a = 773 ∧ k = 16) → ¬ (a = 796 ∧ (k = 4 ∨ k = 5)) → ¬ (a = 759 ∧ k = 14) → (j_u2 (scG (j_u2 sc 734 13 (-1))) 736 5 (nI (m + 1))) a k = sc a k := fun a k z0 z1 z2 z3 z4 => (if_neg z0).trans (o13 a k z1 z2 z3 z4)
    have bm : bt (nI s) m = false := bits_m m (by omega) s hO.1 m (by omega) (Nat.le_refl m)
    have hA := GX_A h
    obtain ⟨⟨fg1, fg2⟩, f2, f3, f4⟩ := hE.1.2.2.2.2.2.2
    refine ⟨nI m, _, _, _, mr, _, al, RR, (up_n (by decide)).trans q_b0, CC, GX_R (GX_frm h' (s' := s) (m' := m + 1) (S0' := upd S0 38 (nI (m + 1))) (ar0' := aF ar0 m (nI kd) x2 (nI l) (nI q)) ⟨⟨⟨gRf_lo hE.1.1 (fun b hb => aF_b (by omega)), gCl_lo hE.1.2.1 (fun a k z1 z2 => o5 a k (by omega) (by omega) (by omega) (by omega) (by omega)) (fun b z1 z2 => cbb b (by omega)), hE.1.2.2.1, hE.1.2.2.2.1, (up_n (by decide)).trans hE.1.2.2.2.2.1, up_0, ⟨⟨by omega, fun i hi => ?_⟩, fun i hi => ?_, fun i hi => ?_, fun t i ht hi => ?_⟩⟩, (up_n (by decide)).trans hE.2.1, (o5 757 5 (by omega) (by omega) (by omega) (by omega) (by omega)).trans hE.2.2⟩, (up_n (by decide)).trans (GX_16 h), ⟨(up_n (by decide)).trans ((GX_S h').1.trans (up_n (by decide)).symm), up_0.trans up_0.symm, (up_n (by decide)).trans ((GX_S h').2.2.trans (up_n (by decide)).symm)⟩, aF_A hA, ⟨by omega, u2_eq, fun i hi => ?_⟩, ⟨by rw [Nat.pow_succ]; have := hO.1; omega, (o5 736 6 (by omega) (by omega) (by omega) (by omega) (by omega)).trans hO.2.1, fun i hi => ?_⟩⟩ (fun k hk => up_n (by omega)) (fun b hb => aF_b hb) (fun a k z1 z2 z3 z4 z5 => o5 a k (by omega) z2 z3 z4 z5) (fun b hb => cbb b (by omega)) ((if_neg (by omega)).trans scG_16) ((if_neg (by omega)).trans scG_4) ((if_neg (by omega)).trans scG_5) ((if_neg (by omega)).trans scG_14) (Or.inl ((if_neg (by omega)).trans ((scG_o (by omega) (by omega) (by omega)).trans u2_eq))))⟩
    · by_cases z : i = m
      · subst z
        exact ⟨l, hl, aF_104⟩
      · rw [aF_j z]; exact fg2 i (by omega)
    · rw [o5 736 8 (by omega) (by omega) (by omega) (by omega) (by omega), aF_fa]; exact f2 i hi
    · rw [o5 736 7 (by omega) (by omega) (by omega) (by omega) (by omega), aF_fa]; exact f3 i hi
    · rw [cbb 741 (by omega), aF_b1]; exact f4 t i ht hi
    · by_cases z : i = m
      · subst z
        refine ⟨⟨kd, hk, aF_102, cF_737⟩, fun z0 => ?_, ⟨l, hl, aF_104, cF_739⟩, q, hq, aF_105, u2_eq⟩
        rw [aF_102] at z0
        have z1 : kd = 0 := (nI_eq (b := 0) (by omega) (by decide)).mp z0
        obtain ⟨t, ht8, rfl⟩ := ht z1
        rw [if_pos z0] at hy
        exact ⟨t, ht8, aF_103, cF_738.trans hy.symm⟩
      · rw [aF_j z, aF_j z, aF_j z, aF_j z, cb _ _ z, cb _ _ z, cb _ _ z, cb _ _ z]
        exact hM.2.2 i (by omega)
    · by_cases z : i = m
      · subst z
        rw [aF_106, bm]; rfl
      · rw [aF_j z]; exact hO.2.2 i (by omega)
/-- what form refuses -/
def nFm (x1 x2 x3 x4 : Int32) : Prop := (x1 < 0 ∨ ¬ x1 < nI 3) ∨ (∃ k, k < 3 ∧ x1 = nI k) ∧ ((x1 = 0 ∧ (x2 < 0 ∨ ¬ x2 < nI 8)) ∨ ((x1 = 0 → ∃ t, t < 8 ∧ x2 = nI t) ∧ ((x3 < 0 ∨ ¬ x3 < nI 4) ∨ (∃ l, l < 4 ∧ x3 = nI l) ∧ (x4 < 0 ∨ ¬ x4 < nI 101))))
theorem q_form_d (x1 x2 x3 x4 : Int32) : (∃ kd l q, kd < 3 ∧ (kd = 0 → ∃ t, t < 8 ∧ x2 = nI t) ∧ l < 4 ∧ q ≤ 100 ∧ x1 = nI kd ∧ x3 = nI l ∧ x4 = nI q) ∨ nFm x1 x2 x3 x4 := by
  rcases q_dec 3 (by decide) x1 with ⟨kd, hk, rfl⟩ | h
  · have key : (nI kd = 0 → ∃ t, t < 8 ∧ x2 = nI t) → ((∃ kd2 l2 q2, kd2 < 3 ∧ (kd2 = 0 → ∃ t, t < 8 ∧ x2 = nI t) ∧ l2 < 4 ∧ q2 ≤ 100 ∧ nI kd = nI kd2 ∧ x3 = nI l2 ∧ x4 = nI q2) ∨ nFm (nI kd) x2 x3 x4) := fun ht => by
      rcases q_dec 4 (by decide) x3 with ⟨l, hl, rfl⟩ | h
      · rcases q_dec 101 (by decide) x4 with ⟨q, hq, rfl⟩ | h
        · exact Or.inl ⟨kd, l, q, hk, fun z => ht (by rw [z]; rfl), hl, by omega, rfl, rfl, rfl⟩
        · exact Or.inr (Or.inr ⟨⟨kd, hk, rfl⟩, Or.inr ⟨ht, Or.inr ⟨⟨l, hl, rfl⟩, h⟩⟩⟩)
      · exact Or.inr (Or.inr ⟨⟨kd, hk, rfl⟩, Or.inr ⟨ht, Or.inl h⟩⟩)
    by_cases z : nI kd = 0
    · rcases q_dec 8 (by decide) x2 with ⟨t, ht, rfl⟩ | h
      · exact key (fun _ => ⟨t, ht, rfl⟩)
      · exact Or.inr (Or.inr ⟨⟨kd, hk, rfl⟩, Or.inl ⟨z, h⟩⟩)
    · exact key (fun y => absurd y z)
  · exact Or.inr (Or.inl h)
theorem q_form_t {x1 x2 x3 x4 : Int32} (h : GR S ar sc car mr al) (hx : nFm x1 x2 x3 x4) : qT 1 sc car mr al (rF_101 x1 x2 x3 x4 S ar) := by
  refine ⟨0, upd (upd S 0 0) 0 1, ar, ?_, q_b0, GR_0 (GR_0 h 0) 1⟩
  have f : rF_101_54 x1 x2 x3 x4 1 (upd S 0 0) ar = some (0, upd (upd S 0 0) 0 1, ar) := by
    unfold rF_101_54
    rw [q_bad (by decide), ob3, if_neg (by decide)]
  unfold rF_101
  rcases hx with hx | ⟨⟨k, hk, rfl⟩, ⟨z, hx⟩ | ⟨ht, hx⟩⟩
  · rw [q_out (hi := 2) (q_gt (N := 2) (by decide) hx), ob3, if_pos rfl]; exact f
  · rw [show rF_4 (nI k) 0 2 (upd S 0 0) ar = some (1, upd S 0 0, ar) from q_inn (N := 2) (by omega) (by decide), ob3, if_neg (by decide), if_pos z, q_out (hi := 7) (q_gt (N := 7) (by decide) hx), ob3, if_pos rfl]; exact f
  · have f29 : rF_101_29 (nI k) x2 x3 x4 (upd S 0 0) ar = some (0, upd (upd S 0 0) 0 1, ar) := by
      unfold rF_101_29
      rcases hx with hx | ⟨⟨l, hl, rfl⟩, hx⟩
      · rw [q_out (hi := 3) (q_gt (N := 3) (by decide) hx), ob3, if_pos rfl]; exact f
      · rw [show rF_4 (nI l) 0 3 (upd S 0 0) ar = some (1, upd S 0 0, ar) from q_inn (N := 3) (by omega) (by decide), ob3, if_neg (by decide), q_out (hi := 100) (q_gt (N := 100) (by decide) hx), ob3, if_pos rfl]; exact f
    rw [show rF_4 (nI k) 0 2 (upd S 0 0) ar = some (1, upd S 0 0, ar) from q_inn (N := 2) (by omega) (by decide), ob3, if_neg (by decide)]
    by_cases z : nI k = 0
    · obtain ⟨t, ht8, rfl⟩ := ht z
      rw [if_pos z, show rF_4 (nI t) 0 7 (upd S 0 0) ar = some (1, upd S 0 0, ar) from q_inn (N := 7) (by omega) (by decide), ob3, if_neg (by decide)]; exact f29
    · rw [if_neg z]; exact f29
theorem arT_T {t q : Nat} : arT (arT ar m t) m q = arT ar m q := by
  funext b
  by_cases z : b = 106
  · subst z
    funext j
    by_cases hj : j < m
    · rw [arT_i hj, arT_i hj]
    · unfold arT
      rw [va_up_self, va_up_self, va_up_self, if_neg hj, if_neg hj, if_neg hj]
  · rw [arT_o z, arT_o z, arT_o z]
theorem q_use {i : Nat} {y : Int32} (h : GX S0 ar0 n tx g p m s nr cs S ar sc car mr al) (hi : i < m) (hy : y = 0 ∨ y = 1) : qA (rF_102 (nI i) y S ar) (xF_343 (nI i) y sc mr car al) := by
  have h' := GX_0 h 0
  have hM := h.1.2.2.2.2.1
  have hO := h.1.2.2.2.2.2
  have hE := GX_E h
  have hA := GX_A h
  have hm := hM.1
  have p64 : (2 : Nat) ^ m ≤ 64 := Nat.pow_le_pow_right (n := 2) (by decide) hm
  have s64 : s < 64 := Nat.lt_of_lt_of_le hO.1 p64
  have h38 : S 38 = nI m := (GX_S h).2.1.trans hE.1.2.2.2.2.2.1
  have e106 : ar 106 = ar0 106 := hA 106 (by omega)
  have ei : ar 106 i = if bt (nI s) i = true then 1 else 0 := by rw [e106]; exact hO.2.2 i hi
  have i01 : ar 106 i = 0 ∨ ar 106 i = 1 := by rw [ei]; exact iv_b
  have R : rF_102 (nI i) y S ar = some (ar 106 i, upd S 0 0, j_u2 ar 106 i y) := by
    obtain ⟨m', rfl⟩ : ∃ j, m = j + 1 := ⟨m - 1, by omega⟩
    unfold rF_102
    rw [h38, nI_pred, q_inn (by omega) (by omega), ob3, if_neg (by decide)]
    unfold rF_102_25
    rw [q_ck0, ob3, if_pos rfl, if_pos (iB_nI (by omega) (by decide)), if_pos (iB_nI (by omega) (by decide)), if_pos hy, iN_nI (by omega), if_pos i01]
  have C : xF_343 (nI i) y sc mr car al = xF_343_33 y ((1 : Int32) <<< (nI i &&& 31)) (ar 106 i) sc mr car al := by
    unfold xF_343
    rw [hM.2.1, c_355 hi (by omega), ob4, hO.2.1, ei]
    have t := use_t i (by omega) s s64
    by_cases z : bt (nI s) i = true
    · rw [if_neg (fun w => by rw [t.mp w] at z; cases z), if_pos z]
    · rw [if_pos (t.mpr (by simpa using z)), if_neg z]
  by_cases z : ar 106 i = y
  · have ez : j_u2 ar 106 i y = ar := by
      funext b j
      unfold j_u2
      by_cases w : b = 106 ∧ j = i
      · rw [if_pos w, w.1, w.2]; exact z.symm
      · rw [if_neg w]
    refine ⟨ar 106 i, upd S 0 0, ar, sc, mr, car, al, by rw [R, ez], q_b0, ?_, GX_R h'⟩
    rw [C]
    unfold xF_343_33
    rw [if_pos z, if_pos i01]
  · have sx : s ^^^ 2 ^ i < 2 ^ m := use_l m (by omega) i hi s hO.1
    obtain ⟨sc2, car2, e1, e2, e3, e4, e5⟩ := c_turns (mr := mr) (al := al) hM sx
    have CC : xF_343 (nI i) y sc mr car al = some (ar 106 i, scG sc2, mr, car2, al) := by
      rw [C]
      unfold xF_343_33
      rw [if_neg z, hO.2.1, use_x i (by omega) s s64, e1, ob4, c_353, ob4, if_pos i01]
    have g4 : ∀ a k, ¬ (a = 736 ∧ 6 ≤ k ∧ k ≤ 8) → ¬ (a = 773 ∧ k = 16) → ¬ (a = 796 ∧ (k = 4 ∨ k = 5)) → ¬ (a = 759 ∧ k = 14) → scG sc2 a k = sc a k := fun a k z1 z2 z3 z4 => (scG_o z2 z3 z4).trans (e4 a k z1)
    have yb : y = if bt (nI (s ^^^ 2 ^ i)) i = true then 1 else 0 := by
      rw [use_b i (by omega) s s64 i (by omega)]
      rw [ei] at z
      rcases hb : bt (nI s) i with _ | _
      · rw [hb] at z
        rw [show (if (false != decide (i = i)) = true then (1 : Int32) else 0) = 1 by rw [decide_eq_true rfl]; rfl]
        rcases hy with rfl | rfl
        · exact absurd rfl z
        · rfl
      · rw [hb] at z
        rw [show (if (true != decide (i = i)) = true then (1 : Int32) else 0) = 0 by rw [decide_eq_true rfl]; rfl]
        rcases hy with rfl | rfl
        · rfl
        · exact absurd rfl z
    have hA2 : stA (arT ar0 m (s ^^^ 2 ^ i)) (j_u2 ar 106 i y) := fun b hb => by
      by_cases w : b = 106
      · subst w
        funext j
        by_cases w2 : j = i
        · subst w2
          rw [u2_eq, arT_i hi]; exact yb
        · rw [u2_nk w2, e106]
          by_cases w3 : j < m
          · rw [arT_i w3, use_b i (by omega) s s64 j (by omega), hO.2.2 j w3, decide_eq_false w2]
            cases bt (nI s) j <;> rfl
          · unfold arT
            rw [va_up_self, if_neg w3]
      · rw [j_u2_row _ _ _ _ w, arT_o w]; exact hA b hb
    have hE2 : cE 0 n tx g p m S0 (arT ar0 m (s ^^^ 2 ^ i)) sc2 car2 mr := cE_turn (fun _ _ => rfl) hE e2 e4 e5
    have hE3 : cE 0 n tx g p m S0 (arT ar0 m (s ^^^ 2 ^ i)) (scG sc2) car2 mr := by
      obtain ⟨⟨q1, q2, q3, q4, q5, q6, q7, q8, q9, q10⟩, q11, q12⟩ := hE2
      exact ⟨⟨q1, gCl_lo q2 (fun a k _ _ => scG_o (by omega) (by omega) (by omega)) (fun _ _ _ => rfl), q3, q4, q5, q6, q7, fun l hl => by rw [scG_o (by omega) (by omega) (by omega)]; exact q8 l hl, fun l hl => by rw [scG_o (by omega) (by omega) (by omega)]; exact q9 l hl, q10⟩, q11, (scG_o (by omega) (by omega) (by omega)).trans q12⟩
    have hC : cSt S0 (arT ar0 m (s ^^^ 2 ^ i)) m g (scG sc2) := by
      have hC0 := h.2.2.2.2.2.1
      unfold cSt at hC0 ⊢
      rw [g4 734 13 (by omega) (by omega) (by omega) (by omega), g4 734 14 (by omega) (by omega) (by omega) (by omega)]
      rcases hC0 with w | ⟨n0, k, most, w1, w2, w3, w4, w5, w6⟩
      · exact Or.inl w
      · refine Or.inr ⟨n0, k, most, w1, w2, w3, w4, w5, ?_⟩
        have e : (fun t => aSafe S0 (arT (arT ar0 m (s ^^^ 2 ^ i)) m t) m g most n0 k) = fun t => aSafe S0 (arT ar0 m t) m g most n0 k := by
          funext t
          rw [arT_T]
        rw [e]
        have r : ∀ b, rk (arT ar0 m (s ^^^ 2 ^ i)) m b = rk ar0 m b := fun b => rk_c (arT_o (by omega))
        rcases w6 with w6 | ⟨b, v1, v2, v3, v4⟩
        · exact Or.inl w6
        · exact Or.inr ⟨b, v1, v2, v3, fun q a1 a2 => by rw [r, r]; exact v4 q a1 a2⟩
    refine ⟨ar 106 i, upd S 0 0, j_u2 ar 106 i y, scG sc2, mr, car2, al, R, q_b0, CC, GX_R (GX_frm h' (s' := s ^^^ 2 ^ i) (m' := m) (S0' := S0) (ar0' := arT ar0 m (s ^^^ 2 ^ i)) ⟨hE3, GX_16 h, GX_S h', hA2, ⟨hM.1, (g4 736 5 (by omega) (by omega) (by omega) (by omega)).trans hM.2.1, fun j hj => ?_⟩, ⟨sx, (scG_o (by omega) (by omega) (by omega)).trans e3, fun j hj => arT_i hj⟩⟩ (fun _ _ => rfl) (fun b hb => j_u2_row _ _ _ _ (by omega)) (fun a k z1 z2 z3 z4 z5 => g4 a k (by omega) z3 z4 z5) (fun b hb => e5 b (by omega)) scG_16 scG_4 scG_5 scG_14 hC)⟩
    rw [e5 737 (by omega), e5 738 (by omega), e5 739 (by omega), e5 740 (by omega), arT_o (by omega), arT_o (by omega), arT_o (by omega), arT_o (by omega)]
    exact hM.2.2 j hj
theorem q_use_t {x y : Int32} (h : GX S0 ar0 n tx g p m s nr cs S ar sc car mr al) (hx : x < 0 ∨ ¬ x < nI m) : qT 1 sc car mr al (rF_102 x y S ar) := by
  have h' := GX_0 h 0
  have h38 : S 38 = nI m := (GX_S h).2.1.trans (GX_E h).1.2.2.2.2.2.1
  have hm := h.1.2.2.2.2.1.1
  refine ⟨0, upd (upd S 0 0) 0 1, ar, ?_, q_b0, GX_R (GX_0 h' 1)⟩
  unfold rF_102
  rw [h38, q_out (q_gt1 (by omega) hx), ob3, if_pos rfl]
  unfold rF_102_25
  rw [q_bad (by decide), ob3, if_neg (by decide)]
end CF
