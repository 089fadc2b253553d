/-! ClickOrders: the reader's steps but if. -/
def cR (n p : Nat) (mr : Nat → Nat) (sc ar : jSc) (al : jAl) (L : Nat) (X : Option (jSc × (Nat → Nat) × jSc × jAl)) (r : oR) : Prop :=
  (∀ os q2, r = .inr (os, q2) → q2 ≤ n ∧ ∃ sc2 ar2, X = some (sc2, mr, ar2, al) ∧ sc2 756 2 = nI q2 ∧ cT p sc ar L os sc2 ar2) ∧
  (∀ kd pl, r = .inl (kd, pl) → ∃ sc2 ar2, X = some (sc2, mr, ar2, al) ∧ cB n p sc ar kd pl sc2 ar2)
def c_tl (x3 x4 : Int32) : xVn := fun a b c d => if x_pr (b 4) = true then o_b5 (xF_252 (b 4) x3 x4 a b c d) (fun _ a b c d => o_b4 (xF_271 59 a b c d) (fun a b c d => some (a, b, c, d))) else none
def c_vt (x3 x4 : Int32) : xVn := fun a b c d => o_b4 (xG_263 40 0 a b c d) (fun a b c d => c_tl x3 x4 a b c d)
def c_nt (x3 x4 : Int32) : xVn := fun a b c d => o_b5 (xF_267 a b c d) (fun v a b c d => c_tl x3 (x4 * 1000 + v) a b c d)
section CST
variable {tx : Nat → Int32} {n p : Nat} {mr : Nat → Nat} {sc ar : jSc} {al : jAl} {o L q0 : Nat}
theorem c_168 {g : xVn} {x3 x4 : Int32} : xF_259_168 g x3 x4 = if x3 = 23 then c_nt x3 x4 else if x3 = 18 then c_vt x3 x4 else if x3 = 24 then c_vt x3 x4 else if x3 = 26 then c_vt x3 x4 else c_tl x3 x4 := by
  funext a b c d
  unfold xF_259_168 c_nt c_vt c_tl
  split
  · rfl
  · split
    · rfl
    · split
      · rfl
      · split
        · rfl
        · rfl
theorem cR_e {X : Option (jSc × (Nat → Nat) × jSc × jAl)} {kd pl : Nat} (h : ∃ sc2 ar2, X = some (sc2, mr, ar2, al) ∧ cB n p sc ar kd pl sc2 ar2) : cR n p mr sc ar al L X (.inl (kd, pl)) := by
  refine ⟨fun os q2 hpp => (by cases hpp), fun kd1 pl1 hpp => ?_⟩
  cases hpp
  exact h
theorem o4_id (x : Option (jSc × (Nat → Nat) × jSc × jAl)) : (o_b4 x (fun a b c d => some (a, b, c, d))) = x := by
  rcases x with _ | ⟨a, b, c, d⟩ <;> rfl
theorem c_tlB (hp : x_pr p = true) (hmr : mr 4 = p) {od : Nat} {m : Int32} (hod : od < 100) : cPB n tx p mr (c_tl (nI od) m) := by
  intro sc ar sc1 ar1 al kd pl hT hB
  obtain ⟨v, sc3, ar3, f1, f2⟩ := cB_add (mr := mr) (al := al) (m := m) (od := od) hp hB hod
  refine ⟨sc3, ar3, ?_, f2⟩
  unfold c_tl
  rw [hmr, if_pos hp, f1, ob5, o4_id, cZ_needs (cB_Z hp hT f2) (by decide)]
theorem c_vtB (hp : x_pr p = true) (hmr : mr 4 = p) {od : Nat} {m : Int32} (hod : od < 100) (hVF : cPF n tx mr (xG_263 40 0)) : cPB n tx p mr (c_vt (nI od) m) := by
  intro sc ar sc1 ar1 al kd pl hT hB
  obtain ⟨sc3, ar3, f1, f2⟩ := c_tlB (m := m) hp hmr hod sc ar sc1 ar1 al kd pl hT hB
  refine ⟨sc3, ar3, ?_, f2⟩
  unfold c_vt
  rw [hVF _ _ _ (cB_Z hp hT hB), ob4, f1]
theorem cZ_number {sc ar : jSc} {al : jAl} (h : cZ n tx sc ar) : xF_267 sc mr ar al = some (0, sc, mr, ar, al) := by
  obtain ⟨e1, e2⟩ := cZ_nb h
  have := c_number (mr := mr) (al := al) h.1 (Nat.le_refl n)
  rw [e1, e2, if_neg (by rw [cZ_tx h]; decide), cZ_F h] at this
  exact this
theorem c_ntB (hp : x_pr p = true) (hmr : mr 4 = p) {od : Nat} {m : Int32} (hod : od < 100) : cPB n tx p mr (c_nt (nI od) m) := by
  intro sc ar sc1 ar1 al kd pl hT hB
  obtain ⟨sc3, ar3, f1, f2⟩ := c_tlB (m := m * 1000 + 0) hp hmr hod sc ar sc1 ar1 al kd pl hT hB
  refine ⟨sc3, ar3, ?_, f2⟩
  unfold c_nt
  rw [cZ_number (cB_Z hp hT hB), ob5, f1]
theorem c_168B {g : xVn} (hp : x_pr p = true) (hmr : mr 4 = p) {od : Nat} {m : Int32} (hod : od < 100) (hVF : cPF n tx mr (xG_263 40 0)) : cPB n tx p mr (xF_259_168 g (nI od) m) := by
  rw [c_168]
  split
  · exact c_ntB hp hmr hod
  · split
    · exact c_vtB hp hmr hod hVF
    · split
      · exact c_vtB hp hmr hod hVF
      · split
        · exact c_vtB hp hmr hod hVF
        · exact c_tlB hp hmr hod
theorem c_tlR {sc1 ar1 : jSc} {os : oL} {q1 od : Nat} {m : Int32} (hp : x_pr p = true) (hmr : mr 4 = p) (hn : n ≤ 600) (hK0 : cK n tx p sc ar q0 o L) (hT : cT p sc ar L os sc1 ar1) (hc : sc1 756 2 = nI q1) (hq1 : q1 ≤ n) (hl : q0 + os.length + 1 ≤ q1) (hod : od < 100) : cR n p mr sc ar al L (c_tl (nI od) m sc1 mr ar1 al) (p_sg tx q1 59 (fun q4 => .inr (os ++ [(od, m)], q4))) := by
  have hL := hK0.2.2.2.2.2.2
  have hx := hK0.1.1
  obtain ⟨sc3, ar3, f1, f2, f3⟩ := cT_add (mr := mr) (al := al) (ar := ar1) (m := m) (od := od) hp hT.1 (by omega) hod
  have t := cT_tr hT f3
  have hc3 := f2.trans hc
  have hK3 := cK_T hp hK0 t hc3 hq1 (by simp only [List.length_append, List.length_cons, List.length_nil]; omega)
  have nd := c_needs (mr := mr) (al := al) (c := 59) hK3.1 hq1 (by decide)
  rw [cA_i hc3] at nd
  unfold c_tl
  rw [hmr, if_pos hp, f1, ob5, o4_id, nd]
  unfold p_sg
  by_cases c : tx (x_nb tx q1) = 59
  · have k2 := lt_n hx (q := x_nb tx q1) (by rw [c]; decide)
    rw [if_pos c, if_pos c]
    refine ⟨fun os2 q2 hpp => ?_, fun kd1 pl1 hpp => (by cases hpp)⟩
    cases hpp
    have t2 := cT_tr t (cT_nil (q := x_nb tx q1 + 1) (ar := ar3) hp t.1)
    rw [List.append_nil] at t2
    exact ⟨by omega, _, _, rfl, cA_2, t2⟩
  · rw [if_neg c, if_neg c]
    exact cR_e ⟨_, _, rfl, cB_T t (cB_F hp hK3 (by omega) (x_nb_le hx hq1) hn)⟩
theorem c_vtR {V : Nat → oR} {w od : Nat} {m : Int32} (hp : x_pr p = true) (hmr : mr 4 = p) (hn : n ≤ 600) (hK0 : cK n tx p sc ar q0 o L) (hV : cPV n tx p mr o (xG_263 40 0) V) (hVl : p_ln V) (hw : q0 + 1 ≤ w) (hwn : w ≤ n) (hod : od < 100) : cR n p mr sc ar al L (c_vt (nI od) m (cA sc w) mr ar al) (p_bd (V w) (fun os q3 => p_sg tx q3 59 (fun q4 => .inr (os ++ [(od, m)], q4)))) := by
  have hK1 := cK_A (q2 := w) hp hK0 (by omega) hwn
  have t0 := cT_nil (q := w) (ar := ar) hp hK0.2.2.2.2.1
  obtain ⟨u1, u2⟩ := hV _ _ al _ _ hK1
  unfold c_vt
  rcases p1 : V w with ⟨kd1, pl1⟩ | ⟨os1, q2⟩
  · obtain ⟨sc2, ar2, a2, a3⟩ := u2 _ _ p1
    have a3 := cB_T t0 a3
    obtain ⟨sc3, ar3, f1, f2⟩ := c_tlB (m := m) hp hmr hod sc ar sc2 ar2 al _ _ hK0.1 a3
    exact cR_e ⟨sc3, ar3, by rw [a2, ob4, f1], f2⟩
  · obtain ⟨a1, sc2, ar2, a2, a3, a4⟩ := u1 _ _ p1
    have l1 := hVl _ _ _ p1
    have t1 := cT_tr t0 a4
    rw [List.nil_append] at t1
    rw [a2, ob4]
    exact c_tlR hp hmr hn hK0 t1 a3 a1 (by omega) hod
theorem c_sgR {k : xVn} {kk : Nat → oR} {w : Nat} {c : Int32} (hp : x_pr p = true) (hn : n ≤ 600) (hK0 : cK n tx p sc ar q0 o L) (hw : q0 ≤ w) (hwn : w ≤ n) (hc : ¬ c = -1) (hB : cPB n tx p mr k) (hk : x_nb tx w + 1 ≤ n → cR n p mr sc ar al L (k (cA sc (x_nb tx w + 1)) mr ar al) (kk (x_nb tx w + 1))) : cR n p mr sc ar al L (o_b4 (xF_271 c (cA sc w) mr ar al) (fun a b c d => k a b c d)) (p_sg tx w c kk) := by
  have hx := hK0.1.1
  rw [c_needs hK0.1 hwn hc, ob4]
  unfold p_sg
  by_cases e : tx (x_nb tx w) = c
  · have k2 := lt_n hx (q := x_nb tx w) (by rw [e]; exact hc)
    rw [if_pos e, if_pos e]
    exact hk k2
  · rw [if_neg e, if_neg e]
    exact cR_e (hB sc ar _ ar al _ _ hK0.1 (cB_F hp hK0 (by omega) (x_nb_le hx hwn) hn))
theorem c_dgR {k : Int32 → xVn} {kk : Nat → Nat → oR} {w most : Nat} (hp : x_pr p = true) (hn : n ≤ 600) (hK0 : cK n tx p sc ar q0 o L) (hwn : w ≤ n) (hm : most ≤ 8) (hB : ∀ v, cPB n tx p mr (k v)) (hk : ∀ d, d ≤ most → x_nb tx w + 1 ≤ n → cR n p mr sc ar al L (k (nI d) (cA sc (x_nb tx w + 1)) mr ar al) (kk d (x_nb tx w + 1))) : cR n p mr sc ar al L (o_b5 (xF_266 (nI (most + 1)) (cA sc w) mr ar al) (fun v a b c d => k v a b c d)) (p_dg tx w most kk) := by
  have hx := hK0.1.1
  have b2 := x_nb_le hx hwn
  obtain ⟨d1, d2, d3⟩ := c_digit (mr := mr) (al := al) (most := most) hK0.1 hwn hm
  unfold p_dg
  by_cases k1 : x_dg (tx (x_nb tx w))
  · rw [if_neg (fun z => z k1)]
    by_cases k2 : x_dg (tx (x_nb tx w + 1)) ∨ most < iN (tx (x_nb tx w)) - 48
    · rw [if_pos k2, d2 k1 k2, ob5]
      exact cR_e (hB 0 sc ar _ ar al _ _ hK0.1 (cB_F hp hK0 (by omega) b2 hn))
    · rw [if_neg k2]
      obtain ⟨d4, d5⟩ := d3 k1 k2
      rw [d5, ob5]
      exact hk _ (by omega) d4
  · rw [if_pos k1, d1 k1, ob5]
    exact cR_e (hB 0 sc ar _ ar al _ _ hK0.1 (cB_F hp hK0 (by omega) b2 hn))
theorem c_ntR {w d : Nat} (hp : x_pr p = true) (hmr : mr 4 = p) (hn : n ≤ 600) (hK0 : cK n tx p sc ar q0 o L) (hw : q0 + 1 ≤ w) (hwn : w ≤ n) (hd : d ≤ 3) : cR n p mr sc ar al L (c_nt (nI 23) (nI d) (cA sc w) mr ar al) (p_nm tx w (fun h q3 => p_sg tx q3 59 (fun q4 => .inr ([(23, nI (d * 1000 + h))], q4)))) := by
  have hx := hK0.1.1
  have b0 := (x_nb_ok hx w).1
  have b2 := x_nb_le hx hwn
  unfold c_nt p_nm
  rw [c_number hK0.1 hwn]
  by_cases k1 : x_dg (tx (x_nb tx w))
  · rw [if_pos k1, if_neg (show ¬ ¬ x_dg (tx (x_nb tx w)) from fun z => z k1)]
    by_cases k2 : x_nu tx (x_nb tx w) ≤ 999
    · rw [if_pos k2, if_pos k2, ob5]
      have d3 := x_de_lt hx k1
      have e : nI d * 1000 + nI (x_nu tx (x_nb tx w)) = nI (d * 1000 + x_nu tx (x_nb tx w)) := by rw [show (1000 : Int32) = nI 1000 from rfl, nI_mul, nI_add]
      rw [e]
      exact c_tlR (os := []) hp hmr hn hK0 (cT_nil hp hK0.2.2.2.2.1) cA_2 d3.2 (by simp only [List.length_nil]; omega) (by decide)
    · rw [if_neg k2, if_neg k2, ob5]
      exact cR_e (c_tlB hp hmr (by decide) sc ar _ ar al _ _ hK0.1 (cB_F hp hK0 (by omega) b2 hn))
  · rw [if_pos k1, if_neg k1, ob5]
    exact cR_e (c_tlB hp hmr (by decide) sc ar _ ar al _ _ hK0.1 (cB_F hp hK0 (by omega) b2 hn))
/-- a step that is no if, its word read -/
def c_go (g : xVn) (y x2 : Int32) : xVn := fun a b c d =>
  if y = 18 then o_b4 (xF_271 61 a b c d) (fun a b c d => xF_259_168 g y x2 a b c d) else if y = 27 then xF_259_168 g y x2 a b c d else if 22 < y then o_b5 (xF_266 4 a b c d) (fun v a b c d => xF_259_168 g y v a b c d) else o_b5 (xF_266 8 a b c d) (fun v a b c d => xF_259_168 g y v a b c d)
theorem c_s1 {g : xVn} {V : Nat → oR} {q1 w kd : Nat} {x2 : Int32} (hp : x_pr p = true) (hmr : mr 4 = p) (hn : n ≤ 600) (hK0 : cK n tx p sc ar q0 o L) (hV : cPV n tx p mr o (xG_263 40 0) V) (hVF : cPF n tx mr (xG_263 40 0)) (hVl : p_ln V) (hw : q0 + 1 ≤ w) (hwn : w ≤ n) (hkd : kd ≤ 9) (hw0 : kd = 0 → w = q1 + 1 ∧ x2 = nI (iN (tx q1) - 97)) (hw1 : ¬ kd = 0 → w = x_we tx q1) (h9 : kd = 9 → x2 = -1) : cR n p mr sc ar al L (c_go g (nI (18 + kd)) x2 (cA sc w) mr ar al) (p_s1 V tx kd q1) := by
  have hx := hK0.1.1
  have b0 := (x_nb_ok hx w).1
  have B : ∀ v, cPB n tx p mr (xF_259_168 g (nI (18 + kd)) v) := fun v => c_168B hp hmr (by omega) hVF
  have t0 : ∀ w, cT p sc ar L [] (cA sc w) ar := fun w => cT_nil hp hK0.2.2.2.2.1
  unfold c_go p_s1
  by_cases k0 : kd = 0
  · subst k0
    obtain ⟨rfl, rfl⟩ := hw0 rfl
    rw [if_pos (by decide), if_pos rfl]
    refine c_sgR hp hn hK0 (by omega) hwn (by decide) (B _) (fun h => ?_)
    rw [c_168, if_neg (by decide), if_pos (by decide)]
    exact c_vtR hp hmr hn hK0 hV hVl (by omega) h (by decide)
  · have hw1 := hw1 k0
    subst hw1
    rw [if_neg k0]
    rcases (show kd = 1 ∨ kd = 2 ∨ kd = 3 ∨ kd = 4 ∨ kd = 5 ∨ kd = 6 ∨ kd = 7 ∨ kd = 8 ∨ kd = 9 by omega) with rfl | rfl | rfl | rfl | rfl | rfl | rfl | rfl | rfl
    · rw [if_neg (by decide), if_neg (by decide), if_neg (by decide), if_pos (by decide)]
      refine c_dgR (most := 7) hp hn hK0 hwn (by decide) B (fun d hd h => ?_)
      rw [c_168, if_neg (by decide), if_neg (by decide), if_neg (by decide), if_neg (by decide)]
      exact c_tlR hp hmr hn hK0 (t0 _) cA_2 h (by simp only [List.length_nil]; omega) (by decide)
    · rw [if_neg (by decide), if_neg (by decide), if_neg (by decide), if_pos (by decide)]
      refine c_dgR (most := 7) hp hn hK0 hwn (by decide) B (fun d hd h => ?_)
      rw [c_168, if_neg (by decide), if_neg (by decide), if_neg (by decide), if_neg (by decide)]
      exact c_tlR hp hmr hn hK0 (t0 _) cA_2 h (by simp only [List.length_nil]; omega) (by decide)
    · rw [if_neg (by decide), if_neg (by decide), if_neg (by decide), if_pos (by decide)]
      refine c_dgR (most := 7) hp hn hK0 hwn (by decide) B (fun d hd h => ?_)
      rw [c_168, if_neg (by decide), if_neg (by decide), if_neg (by decide), if_neg (by decide)]
      exact c_tlR hp hmr hn hK0 (t0 _) cA_2 h (by simp only [List.length_nil]; omega) (by decide)
    · rw [if_neg (by decide), if_neg (by decide), if_neg (by decide), if_pos (by decide)]
      refine c_dgR (most := 7) hp hn hK0 hwn (by decide) B (fun d hd h => ?_)
      rw [c_168, if_neg (by decide), if_neg (by decide), if_neg (by decide), if_neg (by decide)]
      exact c_tlR hp hmr hn hK0 (t0 _) cA_2 h (by simp only [List.length_nil]; omega) (by decide)
    · rw [if_neg (by decide), if_neg (by decide), if_pos (by decide), if_neg (by decide), if_pos rfl]
      refine c_dgR (most := 3) hp hn hK0 hwn (by decide) B (fun d hd h => ?_)
      rw [c_168, if_pos (by decide)]
      exact c_ntR hp hmr hn hK0 (by omega) h hd
    · rw [if_neg (by decide), if_neg (by decide), if_pos (by decide), if_neg (by decide), if_neg (by decide), if_neg (by decide), if_neg (by decide)]
      refine c_dgR (most := 3) hp hn hK0 hwn (by decide) B (fun d hd h => ?_)
      rw [c_168, if_neg (by decide), if_neg (by decide), if_pos (by decide)]
      exact c_vtR hp hmr hn hK0 hV hVl (by omega) h (by decide)
    · rw [if_neg (by decide), if_neg (by decide), if_pos (by decide), if_neg (by decide), if_neg (by decide), if_pos rfl]
      refine c_dgR (most := 3) hp hn hK0 hwn (by decide) B (fun d hd h => ?_)
      rw [c_168, if_neg (by decide), if_neg (by decide), if_neg (by decide), if_neg (by decide)]
      exact c_tlR hp hmr hn hK0 (t0 _) cA_2 h (by simp only [List.length_nil]; omega) (by decide)
    · rw [if_neg (by decide), if_neg (by decide), if_pos (by decide), if_neg (by decide), if_neg (by decide), if_neg (by decide), if_neg (by decide)]
      refine c_dgR (most := 3) hp hn hK0 hwn (by decide) B (fun d hd h => ?_)
      rw [c_168, if_neg (by decide), if_neg (by decide), if_neg (by decide), if_pos (by decide)]
      exact c_vtR hp hmr hn hK0 hV hVl (by omega) h (by decide)
    · rw [if_neg (by decide), if_pos (by decide), if_neg (by decide), if_neg (by decide), if_neg (by decide), if_pos rfl, h9 rfl]
      rw [c_168, if_neg (by decide), if_neg (by decide), if_neg (by decide), if_neg (by decide)]
      exact c_tlR hp hmr hn hK0 (t0 _) cA_2 hwn (by simp only [List.length_nil]; omega) (by decide)
end CST
