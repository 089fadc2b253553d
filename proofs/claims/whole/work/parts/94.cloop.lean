/-! ClickOrders: the reader's loops. -/
section CL
variable {tx : Nat → Int32} {n p : Nat} {mr : Nat → Nat} {g : Int32 → xVn} {x1 : Int32} {sg : Int32 → Option Nat}
abbrev c_jx (x1 : Int32) (sg : Int32 → Option Nat) : Prop := (x1 = 1 ∧ sg = sg_mul) ∨ (x1 = 0 ∧ sg = sg_add)
theorem c_jx_ok (hx : c_jx x1 sg) {c : Int32} {od : Nat} (h : sg c = some od) : od < 100 ∧ ¬ c = -1 := by
  rcases hx with ⟨rfl, rfl⟩ | ⟨rfl, rfl⟩
  · unfold sg_mul at h
    split at h
    · rename_i e; cases h; rw [e]; decide
    · split at h
      · rename_i e; cases h; rw [e]; decide
      · cases h
  · unfold sg_add at h
    split at h
    · rename_i e; cases h; rw [e]; decide
    · split at h
      · rename_i e; cases h; rw [e]; decide
      · cases h
theorem c_jx_m (hx : c_jx x1 sg) : sg (-1) = none := by
  rcases hx with ⟨rfl, rfl⟩ | ⟨rfl, rfl⟩ <;> decide
def c_jr (sg : Int32 → Option Nat) (y : Int32) (sc : jSc) (q : Nat) (mr : Nat → Nat) (ar : jSc) (al : jAl) : Option (Int32 × jSc × (Nat → Nat) × jSc × jAl) := match sg y with
  | none => some (-1, cA sc q, mr, ar, al)
  | some od => some (nI od, cA sc (q + 1), mr, ar, al)
theorem c_jr_n {y : Int32} {sc : jSc} {q : Nat} {ar : jSc} {al : jAl} (h : sg y = none) : c_jr sg y sc q mr ar al = some (-1, cA sc q, mr, ar, al) := by
  unfold c_jr
  rw [h]
theorem c_jr_s {y : Int32} {sc : jSc} {q od : Nat} {ar : jSc} {al : jAl} (h : sg y = some od) : c_jr sg y sc q mr ar al = some (nI od, cA sc (q + 1), mr, ar, al) := by
  unfold c_jr
  rw [h]
theorem c_j29 (hx : c_jx x1 sg) {sc ar : jSc} {al : jAl} {y : Int32} {q : Nat} : xF_264_29 x1 y (cA sc q) mr ar al = c_jr sg y sc q mr ar al := by
  rcases hx with ⟨rfl, rfl⟩ | ⟨rfl, rfl⟩
  · unfold xF_264_29
    rw [if_pos rfl, cA_2, cA_1]
    by_cases a : y = 42
    · rw [if_pos a, if_neg (by decide), c_jr_s (od := 7) (by rw [a]; decide)]; rfl
    · rw [if_neg a]
      by_cases b : y = 47
      · rw [if_pos b, if_neg (by decide), c_jr_s (od := 8) (by rw [b]; decide)]; rfl
      · rw [if_neg b, if_pos (by decide), c_jr_n (by unfold sg_mul; rw [if_neg a, if_neg b])]
  · unfold xF_264_29
    rw [if_neg (by decide), cA_2, cA_1]
    by_cases a : y = 43
    · rw [if_pos a, if_neg (by decide), c_jr_s (od := 5) (by rw [a]; decide)]; rfl
    · rw [if_neg a]
      by_cases b : y = 45
      · rw [if_pos b, if_neg (by decide), c_jr_s (od := 6) (by rw [b]; decide)]; rfl
      · rw [if_neg b, if_pos (by decide), c_jr_n (by unfold sg_add; rw [if_neg a, if_neg b])]
theorem c_join (hx : c_jx x1 sg) {sc ar : jSc} {al : jAl} {q : Nat} (h : c_TX sc ar n tx) (hq : q ≤ n) : xF_264 x1 (cA sc q) mr ar al = c_jr sg (tx (x_nb tx q)) sc (x_nb tx q) mr ar al := by
  have hn := h.1.1
  have b1 := x_nb_le h.1 hq
  unfold xF_264
  rw [c_skips h hq, ob4, cA_2]
  by_cases c1 : n ≤ x_nb tx q
  · rw [if_pos ((c_len (c_TX_A h) (by omega)).mpr c1), c_j29 hx, h.1.2.1 _ c1, c_jr_n (c_jx_m hx), c_jr_n (by rcases hx with ⟨rfl, rfl⟩ | ⟨rfl, rfl⟩ <;> decide)]
  · obtain ⟨y1, y2⟩ := c_byte h (show x_nb tx q < n by omega)
    rw [if_neg (fun z => c1 ((c_len (c_TX_A h) (by omega)).mp z)), if_pos y1, y2, c_j29 hx]
theorem cZ_join (hx : c_jx x1 sg) {sc ar : jSc} {al : jAl} (h : cZ n tx sc ar) : xF_264 x1 sc mr ar al = some (-1, sc, mr, ar, al) := by
  obtain ⟨e1, e2⟩ := cZ_nb h
  have := c_join (mr := mr) (al := al) hx h.1 (Nat.le_refl n)
  rw [e1, e2, cZ_tx h, c_jr_n (c_jx_m hx), e2] at this
  exact this
theorem c_lpF (hx : c_jx x1 sg) {sc ar : jSc} {al : jAl} (h : cZ n tx sc ar) {N : Nat} {x2 : Int32} : xF_263_14 g (N + 1) x1 x2 sc mr ar al = some (sc, mr, ar, al) := by
  unfold xF_263_14
  split
  · rfl
  · rw [cZ_join hx h, ob5, if_neg (by decide)]
theorem c_lp (hx : c_jx x1 sg) {sc ar : jSc} {al : jAl} {o L q0 : Nat} {u : Nat → oR} (hp : x_pr p = true) (hmr : mr 4 = p) (hn : n ≤ 600) (hK0 : cK n tx p sc ar q0 o L) (hu : cPV n tx p mr o (g (x1 + 1)) u) (hln : p_ln u) :
    ∀ (M N j q : Nat) (os : oL) (sc1 ar1 : jSc), n < M + q → n < N + q → j ≤ q → cT p sc ar L os sc1 ar1 → sc1 756 2 = nI q → q ≤ n → q0 + os.length ≤ q →
    (∀ os2 q2, p_lp u sg tx M os q = .inr (os2, q2) → q2 ≤ n ∧ ∃ sc2 ar2, xF_263_14 g N x1 (nI j) sc1 mr ar1 al = some (sc2, mr, ar2, al) ∧ sc2 756 2 = nI q2 ∧ cT p sc ar L os2 sc2 ar2) ∧
    (∀ kd pl, p_lp u sg tx M os q = .inl (kd, pl) → ∃ sc2 ar2, xF_263_14 g N x1 (nI j) sc1 mr ar1 al = some (sc2, mr, ar2, al) ∧ cB n p sc ar kd pl sc2 ar2) := by
  intro M
  induction M with
  | zero => intro N j q os sc1 ar1 h1 h2 h3 h4 h5 h6 h7; omega
  | succ M ih =>
    intro N j q os sc1 ar1 h1 h2 h3 hT hcur hq hlen
    obtain ⟨N, rfl⟩ : ∃ N', N = N' + 1 := ⟨N - 1, by omega⟩
    have hK := cK_T hp hK0 hT hcur hq hlen
    have hL0 := hK0.2.2.2.2.2.2
    have b0 := (x_nb_ok hK.1.1 q).1
    have b1 := x_nb_le hK.1.1 hq
    have hl : sc1 756 1 ≤ nI j ↔ n ≤ j := c_len hK.1 (by omega)
    have jn := c_join (mr := mr) (al := al) hx hK.1 hq
    rw [cA_i hcur] at jn
    rcases hs : sg (tx (x_nb tx q)) with _ | od
    · rw [c_jr_n hs] at jn
      have ex : xF_263_14 g (N + 1) x1 (nI j) sc1 mr ar1 al = some (cA sc1 (x_nb tx q), mr, ar1, al) := by
        unfold xF_263_14
        by_cases c : n ≤ j
        · rw [if_pos (hl.mpr c), show x_nb tx q = q by omega, cA_i hcur]
        · rw [if_neg (fun z => c (hl.mp z)), jn, ob5, if_neg (by decide)]
      have pe : p_lp u sg tx (M + 1) os q = .inr (os, x_nb tx q) := by
        unfold p_lp
        rw [hs]
      rw [pe]
      refine ⟨fun os2 q2 hpp => ?_, fun kd pl hpp => (by cases hpp)⟩
      cases hpp
      have t := cT_tr hT (cT_nil (q := x_nb tx q) (ar := ar1) hp hT.1)
      rw [List.append_nil] at t
      exact ⟨b1, _, _, ex, cA_2, t⟩
    · obtain ⟨hod, hm1⟩ := c_jx_ok hx hs
      have k2 := lt_n hK.1.1 hm1
      rw [c_jr_s hs] at jn
      have ex : xF_263_14 g (N + 1) x1 (nI j) sc1 mr ar1 al = o_b4 (g (x1 + 1) (cA sc1 (x_nb tx q + 1)) mr ar1 al) (fun a b c d => if x_pr (b 4) = true then o_b5 (xF_252 (b 4) (nI od) 0 a b c d) (fun _ a b c d => xF_263_14 g N x1 (nI j + 1) a b c d) else none) := by
        conv => lhs; unfold xF_263_14
        rw [if_neg (fun z => absurd (hl.mp z) (by omega)), jn, ob5, if_pos (Int32.not_lt.mp (nI_pos (by omega)))]
      have pe : p_lp u sg tx (M + 1) os q = p_bd (u (x_nb tx q + 1)) (fun os2 q2 => p_lp u sg tx M (os ++ os2 ++ [(od, 0)]) q2) := by
        conv => lhs; unfold p_lp
        rw [hs]
      rw [pe, ex]
      have hK1 := cK_A (q2 := x_nb tx q + 1) hp hK (by omega) (by omega)
      obtain ⟨u1, u2⟩ := hu _ _ al _ _ hK1
      have t1 := cT_tr hT (cT_nil (q := x_nb tx q + 1) (ar := ar1) hp hT.1)
      rw [List.append_nil] at t1
      rcases hu1 : u (x_nb tx q + 1) with ⟨kd1, pl1⟩ | ⟨os2, q2⟩
      · refine ⟨fun os2 q2 hpp => (by cases hpp), fun kd pl hpp => ?_⟩
        cases hpp
        obtain ⟨sc2, ar2, a2, a3⟩ := u2 _ _ hu1
        obtain ⟨v, sc3, ar3, e1, e2⟩ := cB_add (mr := mr) (al := al) (m := 0) (od := od) hp (cB_T t1 a3) hod
        obtain ⟨N, rfl⟩ : ∃ N', N = N' + 1 := ⟨N - 1, by omega⟩
        refine ⟨sc3, ar3, ?_, e2⟩
        rw [a2, ob4, hmr, if_pos hp, e1, ob5]
        exact c_lpF hx (cB_Z hp hK0.1 e2)
      · obtain ⟨a1, sc2, ar2, a2, a3, a4⟩ := u1 _ _ hu1
        have l2 := hln _ _ _ hu1
        have t2 := cT_tr t1 a4
        obtain ⟨sc3, ar3, f1, f2, f3⟩ := cT_add (mr := mr) (al := al) (ar := ar2) (m := 0) (od := od) hp t2.1 (by rw [List.length_append]; omega) hod
        have r := ih N (j + 1) q2 (os ++ os2 ++ [(od, 0)]) sc3 ar3 (by omega) (by omega) (by omega) (cT_tr t2 f3) (f2.trans a3) a1 (by simp only [List.length_append, List.length_cons, List.length_nil]; omega)
        rw [a2, ob4, hmr, if_pos hp, f1, ob5, nI_1]
        exact r
theorem c_lv (hx : c_jx x1 sg) {o : Nat} {u : Nat → oR} (hp : x_pr p = true) (hmr : mr 4 = p) (hn : n ≤ 600) (hu : cPV n tx p mr o (g (x1 + 1)) u) (hF : cPF n tx mr (g (x1 + 1))) (hln : p_ln u) : cPV n tx p mr o (xF_263 g x1) (fun q => p_bd (u q) (fun os q2 => p_lp u sg tx 700 os q2)) ∧ cPF n tx mr (xF_263 g x1) := by
  have h2 : ¬ (2 : Int32) ≤ x1 := by rcases hx with ⟨rfl, _⟩ | ⟨rfl, _⟩ <;> decide
  refine ⟨?_, ?_⟩
  · intro sc ar al q L hK
    obtain ⟨u1, u2⟩ := hu sc ar al q L hK
    have ex : xF_263 g x1 sc mr ar al = o_b4 (g (x1 + 1) sc mr ar al) (fun a b c d => xF_263_14 g oF x1 0 a b c d) := by
      unfold xF_263
      rw [if_neg h2]
    rw [ex]
    rcases hu1 : u q with ⟨kd1, pl1⟩ | ⟨os1, q1⟩
    · refine ⟨fun os2 q2 hpp => ?_, fun kd pl hpp => ?_⟩
      · have hpp : p_bd (u q) (fun os q2 => p_lp u sg tx 700 os q2) = .inr (os2, q2) := hpp
        rw [hu1] at hpp
        cases hpp
      · have hpp : p_bd (u q) (fun os q2 => p_lp u sg tx 700 os q2) = .inl (kd, pl) := hpp
        rw [hu1] at hpp
        cases hpp
        obtain ⟨sc2, ar2, a2, a3⟩ := u2 _ _ hu1
        refine ⟨sc2, ar2, ?_, a3⟩
        rw [a2, ob4, show oF = 9999 + 1 from rfl]
        exact c_lpF hx (cB_Z hp hK.1 a3)
    · obtain ⟨a1, sc2, ar2, a2, a3, a4⟩ := u1 _ _ hu1
      rw [a2, ob4]
      have r := c_lp (al := al) hx hp hmr hn hK hu hln 700 oF 0 q1 os1 sc2 ar2 (by omega) (by unfold oF; omega) (by omega) a4 a3 a1 (hln _ _ _ hu1)
      refine ⟨fun os2 q2 hpp => r.1 os2 q2 ?_, fun kd pl hpp => r.2 kd pl ?_⟩
      · have hpp : p_bd (u q) (fun os q2 => p_lp u sg tx 700 os q2) = .inr (os2, q2) := hpp
        rw [hu1] at hpp
        exact hpp
      · have hpp : p_bd (u q) (fun os q2 => p_lp u sg tx 700 os q2) = .inl (kd, pl) := hpp
        rw [hu1] at hpp
        exact hpp
  · intro sc ar al h
    unfold xF_263
    rw [if_neg h2, hF sc ar al h, ob4, show oF = 9999 + 1 from rfl]
    exact c_lpF hx h
theorem ln_pr {V : Option (Nat → oR)} {tx : Nat → Int32} (hV : ∀ p, V = some p → p_ln p) : p_ln (p_pr V tx) := by
  intro q os q2 h
  obtain ⟨o1, q1, h1, h⟩ := p_bd_r h
  exact ln_lp (ln_un hV) _ _ _ _ _ _ (ln_un hV _ _ _ h1) h
theorem c_s0 {o m : Nat} {V : Option (Nat → oR)} (hp : x_pr p = true) (hmr : mr 4 = p) (hn : n ≤ 600) (ho : V = none → o = 6) (hV : ∀ v, V = some v → o < 6 ∧ cPV n tx p mr (o + 1) (xG_263 m 0) v ∧ p_ln v) (hF : ¬ V = none → cPF n tx mr (xG_263 m 0)) : cPV n tx p mr o (xG_263 (m + 3) 0) (p_s0 V tx) ∧ cPF n tx mr (xG_263 (m + 3) 0) := by
  have hl : ∀ v, V = some v → p_ln v := fun v h => (hV v h).2.2
  have a := c_unit (g := xG_263 m) hp hmr hn ho hV hF
  have aF := c_unitF (n := n) (tx := tx) (mr := mr) (g := xG_263 m)
  have b := c_lv (g := xG_263 (m + 1)) (x1 := 1) (sg := sg_mul) (Or.inl ⟨rfl, rfl⟩) hp hmr hn (u := p_un V tx) (o := o) a aF (ln_un hl)
  exact c_lv (g := xG_263 (m + 2)) (x1 := 0) (sg := sg_add) (Or.inr ⟨rfl, rfl⟩) hp hmr hn (u := p_pr V tx) (o := o) b.1 b.2 (ln_pr hl)
/-- the reader's value, where k more brackets may be opened -/
theorem c_su (hp : x_pr p = true) (hmr : mr 4 = p) (hn : n ≤ 600) : ∀ (k m : Nat), k ≤ 6 → 3 * (k + 1) ≤ m → cPV n tx p mr (6 - k) (xG_263 m 0) (p_su tx k) ∧ cPF n tx mr (xG_263 m 0)
  | 0, m, hk, hm => by
    obtain ⟨m, rfl⟩ : ∃ j, m = j + 3 := ⟨m - 3, by omega⟩
    exact c_s0 hp hmr hn (fun _ => rfl) (fun v z => by cases z) (fun z => absurd rfl z)
  | k + 1, m, hk, hm => by
    obtain ⟨m, rfl⟩ : ∃ j, m = j + 3 := ⟨m - 3, by omega⟩
    obtain ⟨h1, h2⟩ := c_su hp hmr hn k m (by omega) (by omega)
    exact c_s0 hp hmr hn (fun z => by cases z) (fun v z => by cases z; exact ⟨by omega, by rw [show 6 - (k + 1) + 1 = 6 - k by omega]; exact h1, ln_su k⟩) (fun _ => h2)
end CL
