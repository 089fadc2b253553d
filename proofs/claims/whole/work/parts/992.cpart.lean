/-! ClickOrders: what the reader has read of a program. -/
def hN (h : Nat → Option (Nat × Nat)) : Nat → Nat
  | 0 => 0
  | k + 1 => hN h k + (if h k = none then 0 else 1)
theorem hN_set {h : Nat → Option (Nat × Nat)} {e : Nat} {x : Nat × Nat} (he : h e = none) : ∀ k, hN (fun j => if j = e then some x else h j) k = hN h k + (if e < k then 1 else 0)
  | 0 => by simp [hN]
  | k + 1 => by
    simp only [hN, hN_set he k]
    by_cases c : k = e
    · subst c
      simp [he]
    · by_cases c2 : e < k
      · simp [c, c2, show e < k + 1 by omega]
        omega
      · simp [c, c2, show ¬ e < k + 1 by omega]
def c_at : Option (Nat × Nat) → Int32
  | none => -1
  | some x => nI x.2
def cG (n : Nat) (tx : Nat → Int32) (p : Nat) (sc ar : jSc) (q : Nat) (g : pG) : Prop :=
  cK n tx p sc ar q 0 g.1.length ∧ c_sg ar p 0 g.1 ∧ sc p 6 = o_ak g.1 0 ∧ (sc p 4 = nI g.2.2.2.2 ∧ g.2.2.2.2 ≤ 60) ∧ (∀ e, e < 17 → ar (p + 3) e = c_at (g.2.1 e)) ∧ sc p 5 = nI (hN g.2.1 17) ∧ sc p 7 = c_at g.2.2.1 ∧ sc p 8 = c_at g.2.2.2.1 ∧ (∀ e x, g.2.1 e = some x → x.2 ≤ n) ∧ sc 756 6 = -1
/-- what reading may change -/
def cFr (p : Nat) (sc ar sc2 ar2 : jSc) : Prop := (∀ a k, ¬ (a = 756 ∧ (k = 2 ∨ k = 4 ∨ k = 6)) → ¬ (a = p ∧ 3 ≤ k ∧ k ≤ 8) → sc2 a k = sc a k) ∧ ∀ b, b ≠ p + 1 → b ≠ p + 2 → b ≠ p + 3 → ar2 b = ar b
/-- a fault found by the reader -/
def cFB (n : Nat) (kd pl : Nat) (sc2 : jSc) : Prop := ((1 ≤ kd ∧ kd ≤ 4) ∧ pl ≤ n) ∧ sc2 756 4 = nI kd ∧ sc2 756 6 = nI pl ∧ sc2 756 2 = nI n
section CG
variable {tx : Nat → Int32} {n p : Nat} {sc ar sc1 ar1 sc2 ar2 : jSc} {mr : Nat → Nat} {al : jAl} {q : Nat} {g : pG}
theorem cFr_tr (h1 : cFr p sc ar sc1 ar1) (h2 : cFr p sc1 ar1 sc2 ar2) : cFr p sc ar sc2 ar2 := ⟨fun a k x y => (h2.1 a k x y).trans (h1.1 a k x y), fun b x y z => (h2.2 b x y z).trans (h1.2 b x y z)⟩
theorem cFr_T {L : Nat} {os : oL} (h : cT p sc ar L os sc2 ar2) : cFr p sc ar sc2 ar2 := ⟨fun a k x y => h.2.2.1 a k (fun z => x ⟨z.1, Or.inl z.2⟩) (fun z => y ⟨z.1, by omega⟩), fun b x y _ => h.2.2.2.2.2 b x y⟩
theorem cFr_B {kd pl : Nat} (h : cB n p sc ar kd pl sc2 ar2) : cFr p sc ar sc2 ar2 := ⟨fun a k x y => h.2.2.2.2.2.1 a k x (fun z => y ⟨z.1, by omega⟩), fun b x y _ => h.2.2.2.2.2.2 b x y⟩
theorem cFB_B {kd pl : Nat} (h : cB n p sc ar kd pl sc2 ar2) : cFB n kd pl sc2 := ⟨h.1, h.2.1, h.2.2.1, h.2.2.2.1⟩
theorem cFr_p {k : Nat} {x : Int32} (hk : 3 ≤ k ∧ k ≤ 8) : cFr p sc ar (j_u2 sc p k x) ar := ⟨fun a j _ y => by
  by_cases e : a = p
  · exact u2_nk (fun z => y ⟨e, by omega⟩)
  · exact u2_na e, fun _ _ _ _ => rfl⟩
theorem cFr_r {k : Nat} {x : Int32} : cFr p sc ar sc (j_u2 ar (p + 3) k x) := ⟨fun _ _ _ _ => rfl, fun b _ _ z => j_u2_row _ _ _ _ z⟩
theorem cFr_c {w : Nat} : cFr p sc ar (cA sc w) ar := ⟨fun a j x _ => by
  by_cases e : a = 756
  · exact u2_nk (fun z => x ⟨e, Or.inl z⟩)
  · exact u2_na e, fun _ _ _ _ => rfl⟩
theorem cG_A {w : Nat} (hp : x_pr p = true) (h : cG n tx p sc ar q g) (h1 : q ≤ w) (h2 : w ≤ n) : cG n tx p (cA sc w) ar w g := by
  have := x_pr_ne hp
  obtain ⟨a1, a2, a3, a4, a5, a6, a7, a8, a9⟩ := h
  have e : ∀ k, cA sc w p k = sc p k := fun k => cA_n (by omega)
  exact ⟨cK_A hp a1 h1 h2, a2, (e 6).trans a3, ⟨(e 4).trans a4.1, a4.2⟩, a5, (e 5).trans a6, (e 7).trans a7, (e 8).trans a8, a9.1, (cA_k (by decide)).trans a9.2⟩
theorem cK_p {o L k : Nat} {x : Int32} (hp : x_pr p = true) (hk : ¬ k = 3) (hK : cK n tx p sc ar q o L) : cK n tx p (j_u2 sc p k x) ar q o L := by
  have hne := x_pr_ne hp
  obtain ⟨k1, k2, k3, k4, k5, k6, k7⟩ := hK
  exact ⟨c_TX_S k1 (u2_na (by omega)) rfl, (u2_na (by omega)).trans k2, (u2_na (by omega)).trans k3, (u2_na (by omega)).trans k4, (u2_nk (by omega)).trans k5, k6, k7⟩
theorem cGs4 {c : Nat} (hp : x_pr p = true) (h : cG n tx p sc ar q g) (hc : c ≤ 60) : cG n tx p (j_u2 sc p 4 (nI c)) ar q (g.1, g.2.1, g.2.2.1, g.2.2.2.1, c) := by
  have hne := x_pr_ne hp
  obtain ⟨a1, a2, a3, a4, a5, a6, a7, a8, a9⟩ := h
  exact ⟨cK_p hp (by decide) a1, a2, (u2_nk (by decide)).trans a3, ⟨u2_eq, hc⟩, a5, (u2_nk (by decide)).trans a6, (u2_nk (by decide)).trans a7, (u2_nk (by decide)).trans a8, a9.1, (u2_na (by omega)).trans a9.2⟩
theorem cGs7 {x : Nat} (hp : x_pr p = true) (h : cG n tx p sc ar q g) : cG n tx p (j_u2 sc p 7 (sc p 3)) ar q (g.1, g.2.1, some (x, g.1.length), g.2.2.2.1, g.2.2.2.2) := by
  have hne := x_pr_ne hp
  obtain ⟨a1, a2, a3, a4, a5, a6, a7, a8, a9⟩ := h
  exact ⟨cK_p hp (by decide) a1, a2, (u2_nk (by decide)).trans a3, ⟨(u2_nk (by decide)).trans a4.1, a4.2⟩, a5, (u2_nk (by decide)).trans a6, u2_eq.trans a1.2.2.2.2.1, (u2_nk (by decide)).trans a8, a9.1, (u2_na (by omega)).trans a9.2⟩
theorem cGs8 {x : Nat} (hp : x_pr p = true) (h : cG n tx p sc ar q g) : cG n tx p (j_u2 sc p 8 (sc p 3)) ar q (g.1, g.2.1, g.2.2.1, some (x, g.1.length), g.2.2.2.2) := by
  have hne := x_pr_ne hp
  obtain ⟨a1, a2, a3, a4, a5, a6, a7, a8, a9⟩ := h
  exact ⟨cK_p hp (by decide) a1, a2, (u2_nk (by decide)).trans a3, ⟨(u2_nk (by decide)).trans a4.1, a4.2⟩, a5, (u2_nk (by decide)).trans a6, (u2_nk (by decide)).trans a7, u2_eq.trans a1.2.2.2.2.1, a9.1, (u2_na (by omega)).trans a9.2⟩
theorem cG_h {e x : Nat} (hp : x_pr p = true) (h : cG n tx p sc ar q g) (he : e < 17) (hn : g.2.1 e = none) : cG n tx p (j_u2 sc p 5 (sc p 5 + 1)) (j_u2 ar (p + 3) e (sc p 3)) q (g.1, (fun j => if j = e then some (x, g.1.length) else g.2.1 j), g.2.2.1, g.2.2.2.1, g.2.2.2.2) := by
  have hne := x_pr_ne hp
  obtain ⟨a1, a2, a3, a4, a5, a6, a7, a8, a9⟩ := h
  obtain ⟨k1, k2, k3, k4, k5, k6, k7⟩ := cK_p (k := 5) (x := sc p 5 + 1) hp (by decide) a1
  refine ⟨⟨c_TX_S k1 rfl (j_u2_row _ _ _ _ (by omega)), k2, k3, k4, k5, k6, k7⟩, ?_, (u2_nk (by decide)).trans a3, ⟨(u2_nk (by decide)).trans a4.1, a4.2⟩, fun j hj => ?_, ?_, (u2_nk (by decide)).trans a7, (u2_nk (by decide)).trans a8, fun j y hy => ?_, (u2_na (by omega)).trans a9.2⟩
  · exact c_sg_mono _ _ a2 (fun j _ => ⟨by rw [u2_na (by omega)], by rw [u2_na (by omega)]⟩)
  · by_cases c : j = e
    · subst c
      rw [u2_eq]
      show sc p 3 = c_at (if j = j then some (x, g.1.length) else g.2.1 j)
      rw [if_pos rfl]
      exact a1.2.2.2.2.1
    · rw [u2_nk c]
      show ar (p + 3) j = c_at (if j = e then some (x, g.1.length) else g.2.1 j)
      rw [if_neg c]
      exact a5 j hj
  · rw [u2_eq, a6, nI_1]
    show nI (hN g.2.1 17 + 1) = nI (hN (fun j => if j = e then some (x, g.1.length) else g.2.1 j) 17)
    rw [hN_set hn, if_pos he]
  · have hy : (if j = e then some (x, g.1.length) else g.2.1 j) = some y := hy
    by_cases c : j = e
    · rw [if_pos c] at hy
      cases hy
      exact Nat.le_trans k7 k6
    · rw [if_neg c] at hy
      exact a9.1 j y hy
theorem cG_T {seg : oL} {q2 : Nat} (hp : x_pr p = true) (h : cG n tx p sc ar q g) (t : cT p sc ar g.1.length seg sc2 ar2) (hc : sc2 756 2 = nI q2) (hq : q2 ≤ n) (hl : q + seg.length ≤ q2) : cG n tx p sc2 ar2 q2 (g.1 ++ seg, g.2) := by
  have hne := x_pr_ne hp
  obtain ⟨a1, a2, a3, a4, a5, a6, a7, a8, a9⟩ := h
  have fr : ∀ k, ¬ k = 3 → ¬ k = 6 → sc2 p k = sc p k := fun k x y => t.2.2.1 p k (by omega) (by omega)
  refine ⟨?_, ?_, ?_, ⟨(fr 4 (by decide) (by decide)).trans a4.1, a4.2⟩, fun e he => ?_, (fr 5 (by decide) (by decide)).trans a6, (fr 7 (by decide) (by decide)).trans a7, (fr 8 (by decide) (by decide)).trans a8, a9.1, (t.2.2.1 756 6 (by omega) (by omega)).trans a9.2⟩
  · have := cK_T hp a1 t hc hq hl
    rw [← List.length_append] at this
    exact this
  · refine c_sg_app.mpr ⟨c_sg_mono _ _ a2 (fun j hj => t.2.2.2.2.1 j (by omega)), ?_⟩
    rw [Nat.zero_add]
    exact t.2.2.2.1
  · rw [t.2.1, a3]
    unfold o_ak
    rw [List.foldl_append]
  · rw [t.2.2.2.2.2 (p + 3) (by omega) (by omega)]
    exact a5 e he
/-- a condition to its end -/
theorem c_fiR {C : Nat → oR} {w L q0 : Nat} (hp : x_pr p = true) (hmr : mr 4 = p) (hn : n ≤ 600) (hK0 : cK n tx p sc ar q0 0 L) (hC : cPV n tx p mr 0 (xG_261 40 0) C) (hCl : p_ln C) (hw : q0 + 1 ≤ w) (hwn : w ≤ n) : cR n p mr sc ar al L (xF_256 (cA sc w) mr ar al) (p_bd (C w) (fun os q3 => p_sg tx q3 59 (fun q4 => .inr (os ++ [(16, 0)], q4)))) := by
  have ex : xF_256 (cA sc w) mr ar al = o_b4 (xG_261 40 0 (cA sc w) mr ar al) (fun a b c d => c_tl (nI 16) 0 a b c d) := rfl
  rw [ex]
  have hK1 := cK_A (q2 := w) hp hK0 (by omega) hwn
  have t0 := cT_nil (q := w) (ar := ar) hp hK0.2.2.2.2.1
  obtain ⟨u1, u2⟩ := hC _ _ al _ _ hK1
  rcases p1 : C w with ⟨kd1, pl1⟩ | ⟨os1, q2⟩
  · obtain ⟨sc2, ar2, a2, a3⟩ := u2 _ _ p1
    have a3 := cB_T t0 a3
    obtain ⟨sc3, ar3, f1, f2⟩ := c_tlB (m := 0) (od := 16) hp hmr (by decide) sc ar sc2 ar2 al _ _ hK0.1 a3
    exact cR_e ⟨sc3, ar3, by rw [a2, ob4, f1], f2⟩
  · obtain ⟨a1, sc2, ar2, a2, a3, a4⟩ := u1 _ _ p1
    have l1 := hCl _ _ _ p1
    have t1 := cT_tr t0 a4
    rw [List.nil_append] at t1
    rw [a2, ob4]
    exact c_tlR hp hmr hn hK0 t1 a3 a1 (by omega) (by decide)
theorem cB_p5 {kd pl : Nat} {A : jSc} {x : Int32} (hp : x_pr p = true) (hB : cB n p sc ar kd pl sc2 ar2) : cB n p (j_u2 sc p 5 x) A kd pl (j_u2 sc2 p 5 x) A := by
  have hne := x_pr_ne hp
  obtain ⟨a1, a2, a3, a4, ⟨L2, a5, a6⟩, a7, a8⟩ := hB
  refine ⟨a1, (u2_na (by omega)).trans a2, (u2_na (by omega)).trans a3, (u2_na (by omega)).trans a4, ⟨L2, a5, (u2_nk (by decide)).trans a6⟩, fun a k y z => ?_, fun _ _ _ => rfl⟩
  by_cases e : a = p ∧ k = 5
  · obtain ⟨rfl, rfl⟩ := e
    rw [u2_eq, u2_eq]
  · by_cases e1 : a = p
    · rw [u2_nk (fun w => e ⟨e1, w⟩), u2_nk (fun w => e ⟨e1, w⟩)]
      exact a7 a k y z
    · rw [u2_na e1, u2_na e1]
      exact a7 a k y z
theorem c_hd {Q : Nat} (hp : x_pr p = true) (hmr : mr 4 = p) (hn : n ≤ 600) (hG : cG n tx p sc ar q g) (hQ : Q ≤ n) :
    (∀ e q2, p_ev tx q = .inr (e, q2) → g.2.1 e = none → tx (x_nb tx q2) = 123 → ∀ seg q4 c4, p_hb tx 700 (x_nb tx q2 + 1) g.1.length g.2.2.2.2 = .inr (seg, q4, c4) → q < q4 ∧ q4 ≤ n ∧ ∃ sc2 ar2, xF_257 (nI Q) sc mr ar al = some (sc2, mr, ar2, al) ∧ cG n tx p sc2 ar2 q4 (g.1 ++ seg, (fun j => if j = e then some (x_nb tx q2 + 1, g.1.length) else g.2.1 j), g.2.2.1, g.2.2.2.1, c4) ∧ cFr p sc ar sc2 ar2) ∧
    (∀ kd pl, (p_ev tx q = .inl (kd, pl) ∨ ∃ e q2, p_ev tx q = .inr (e, q2) ∧ ((¬ g.2.1 e = none ∧ (kd, pl) = (4, Q)) ∨ (g.2.1 e = none ∧ ((¬ tx (x_nb tx q2) = 123 ∧ (kd, pl) = (1, x_nb tx q2)) ∨ (tx (x_nb tx q2) = 123 ∧ p_hb tx 700 (x_nb tx q2 + 1) g.1.length g.2.2.2.2 = .inl (kd, pl)))))) → ∃ sc2 ar2, xF_257 (nI Q) sc mr ar al = some (sc2, mr, ar2, al) ∧ cFB n kd pl sc2 ∧ cFr p sc ar sc2 ar2) := by
  have hne := x_pr_ne hp
  have hK := hG.1
  have hT := hK.1
  have hq := hK.2.2.2.2.2.1
  have hLq := hK.2.2.2.2.2.2
  have ev := c_ev (mr := mr) (al := al) hT hq
  rw [cA_i hK.2.1] at ev
  have ew : xF_257 (nI Q) sc mr ar al = xF_257 (nI Q) sc mr ar al := rfl
  conv at ew => rhs; unfold xF_257
  -- an event found
  have evt : ∀ e q2, p_ev tx q = .inr (e, q2) → e ≤ 16 ∧ q < q2 ∧ q2 ≤ n ∧ xF_257 (nI Q) sc mr ar al = if c_at (g.2.1 e) < 0 then o_b4 (xF_271 123 (cA sc q2) mr ar al) (fun a b c d => if x_pr (b 4) = true then xF_257_69 oF 0 (j_u2 a (b 4) 5 (a (b 4) 5 + 1)) b (j_u2 c (b 4 + 3) e (a (b 4) 3)) d else none) else some (cF (cA sc q2) 4 Q, mr, ar, al) := by
    intro e q2 he
    obtain ⟨e1, e2, e3, e4⟩ := ev.1 e q2 he
    refine ⟨e1, e2, e3, ?_⟩
    have hi : iB (nI e) 17 := iB_nI (by omega) (by decide)
    have h4 : cA sc q2 756 4 = 0 := (cA_k (by decide)).trans hK.2.2.2.1
    rw [ew, e4, ob5, if_pos h4, hmr, if_pos hp, if_pos hi, iN_nI (by omega), hG.2.2.2.2.1 e (by omega), show (4 : Int32) = nI 4 from rfl, c_faults, ob4]
    by_cases c : c_at (g.2.1 e) < 0
    · rw [if_pos c, if_pos c]
      rcases xF_271 123 (cA sc q2) mr ar al with _ | ⟨a, b, c, d⟩
      · rfl
      · rw [ob4, ob4]
        by_cases c3 : x_pr (b 4) = true
        · rw [if_pos c3, if_pos c3, if_pos hi, if_pos c3]
        · rw [if_neg c3, if_neg c3]
    · rw [if_neg c, if_neg c]
  have atn : ∀ e, g.2.1 e = none → c_at (g.2.1 e) < 0 := fun e h => by rw [h]; decide
  have ats : ∀ e, ¬ g.2.1 e = none → ¬ c_at (g.2.1 e) < 0 := fun e h => by
    rcases hx : g.2.1 e with _ | x
    · exact absurd hx h
    · have := hG.2.2.2.2.2.2.2.2.1 e x hx
      exact nI_pos (by omega)
  have hb0 : ∀ e q2, q < q2 → q2 ≤ n → e ≤ 16 → g.2.1 e = none → x_nb tx q2 + 1 ≤ n → cG n tx p (j_u2 (cA sc (x_nb tx q2 + 1)) p 5 (cA sc (x_nb tx q2 + 1) p 5 + 1)) (j_u2 ar (p + 3) e (cA sc (x_nb tx q2 + 1) p 3)) (x_nb tx q2 + 1) (g.1, (fun j => if j = e then some (x_nb tx q2 + 1, g.1.length) else g.2.1 j), g.2.2.1, g.2.2.2.1, g.2.2.2.2) := by
    intro e q2 h1 h2 h3 h4 h5
    have b0 := (x_nb_ok hT.1 q2).1
    exact cG_h hp (cG_A hp hG (by omega) h5) (by omega) h4
  refine ⟨fun e q2 he h0 h123 seg q4 c4 hh => ?_, fun kd pl hv => ?_⟩
  · obtain ⟨e1, e2, e3, e4⟩ := evt e q2 he
    have b0 := (x_nb_ok hT.1 q2).1
    have k2 := lt_n hT.1 (q := x_nb tx q2) (by rw [h123]; decide)
    have G1 := hb0 e q2 e2 e3 e1 h0 (by omega)
    obtain ⟨v1, v2⟩ := c_hb (al := al) (tx := tx) hp hmr hn 700 oF 0 (x_nb tx q2 + 1) g.1.length g.2.2.2.2 _ _ (by omega) (by unfold oF; omega) (by omega) G1.1 G1.2.2.2.1.1 G1.2.2.2.1.2
    obtain ⟨d1, d2, d3, sc2, ar2, d5, d6, d7⟩ := v1 _ _ _ hh
    refine ⟨by omega, d1, sc2, ar2, ?_, cG_T hp (cGs4 hp G1 d3) d7 d6 d1 d2, ?_⟩
    · rw [e4, if_pos (atn e h0), c_needs hT e3 (by decide), if_pos h123, ob4, hmr, if_pos hp]
      exact d5
    · exact cFr_tr cFr_c (cFr_tr (cFr_p (k := 5) (by decide)) (cFr_tr cFr_r (cFr_tr (cFr_p (k := 4) (by decide)) (cFr_T d7))))
  · rcases hv with hv | ⟨e, q2, he, hv⟩
    · obtain ⟨s1, s2, v, q3, s3⟩ := ev.2 kd pl hv
      have B := cB_F (q2 := q3) hp hK s1 s2 hn
      rw [ew, s3, ob5, if_neg (cB_Z hp hT B).2.2]
      exact ⟨_, _, rfl, cFB_B B, cFr_B B⟩
    · obtain ⟨e1, e2, e3, e4⟩ := evt e q2 he
      have b0 := (x_nb_ok hT.1 q2).1
      rcases hv with ⟨h0, hkd⟩ | ⟨h0, ⟨h123, hkd⟩ | ⟨h123, hh⟩⟩
      · cases hkd
        have B := cB_F (kd := 4) (pl := Q) (q2 := q2) hp hK (by omega) hQ hn
        exact ⟨_, _, by rw [e4, if_neg (ats e h0)], cFB_B B, cFr_B B⟩
      · cases hkd
        have B := cB_F (kd := 1) (pl := x_nb tx q2) (q2 := x_nb tx q2) hp hK (by omega) (x_nb_le hT.1 e3) hn
        have B5 := cB_p5 (x := cF (cA sc (x_nb tx q2)) 1 (x_nb tx q2) p 5 + 1) (A := j_u2 ar (p + 3) e (cF (cA sc (x_nb tx q2)) 1 (x_nb tx q2) p 3)) hp B
        have T5 : c_TX (j_u2 sc p 5 (cF (cA sc (x_nb tx q2)) 1 (x_nb tx q2) p 5 + 1)) (j_u2 ar (p + 3) e (cF (cA sc (x_nb tx q2)) 1 (x_nb tx q2) p 3)) n tx := c_TX_S hT (u2_na (by omega)) (j_u2_row _ _ _ _ (by omega))
        obtain ⟨sc3, ar3, f1, f2⟩ := c_hbB (N := 9999) (x3 := 0) (mr := mr) (al := al) hp hmr T5 B5
        refine ⟨sc3, ar3, ?_, cFB_B f2, cFr_tr (cFr_p (k := 5) (by decide)) (cFr_tr cFr_r (cFr_B f2))⟩
        rw [e4, if_pos (atn e h0), c_needs hT e3 (by decide), if_neg h123, ob4, hmr, if_pos hp]
        exact f1
      · have k2 := lt_n hT.1 (q := x_nb tx q2) (by rw [h123]; decide)
        have G1 := hb0 e q2 e2 e3 e1 h0 (by omega)
        obtain ⟨v1, v2⟩ := c_hb (al := al) (tx := tx) hp hmr hn 700 oF 0 (x_nb tx q2 + 1) g.1.length g.2.2.2.2 _ _ (by omega) (by unfold oF; omega) (by omega) G1.1 G1.2.2.2.1.1 G1.2.2.2.1.2
        obtain ⟨c2, sc2, ar2, d5, d7⟩ := v2 _ _ hh
        refine ⟨sc2, ar2, ?_, cFB_B d7, cFr_tr cFr_c (cFr_tr (cFr_p (k := 5) (by decide)) (cFr_tr cFr_r (cFr_tr (cFr_p (k := 4) (by decide)) (cFr_B d7))))⟩
        rw [e4, if_pos (atn e h0), c_needs hT e3 (by decide), if_pos h123, ob4, hmr, if_pos hp]
        exact d5
end CG
