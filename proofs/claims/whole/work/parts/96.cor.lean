/-! ClickOrders: the reader's conditions, joined. -/
section CO
variable {tx : Nat → Int32} {n p : Nat} {mr : Nat → Nat} {g : Int32 → xVn} {x1 : Int32} {s od : Nat} {wd : List Nat}
abbrev c_wx (x1 : Int32) (s : Nat) (wd : List Nat) (od : Nat) : Prop := (x1 = 0 ∧ s = 16 ∧ wd = w_or ∧ od = 15) ∨ (x1 = 1 ∧ s = 0 ∧ wd = w_and ∧ od = 14)
theorem c_wx_ok (hx : c_wx x1 s wd od) : x_sw s wd ∧ 0 < wd.length ∧ od < 100 := by
  rcases hx with ⟨_, rfl, rfl, rfl⟩ | ⟨_, rfl, rfl, rfl⟩
  · exact ⟨x_sw_or, by decide, by decide⟩
  · exact ⟨x_sw_and, by decide, by decide⟩
theorem c_wlF (hx : c_wx x1 s wd od) {sc ar : jSc} {al : jAl} (h : cZ n tx sc ar) {N : Nat} {x2 : Int32} : xF_261_26 g (N + 1) x1 s x2 sc mr ar al = some (sc, mr, ar, al) := by
  obtain ⟨h1, h2, h3⟩ := c_wx_ok hx
  unfold xF_261_26
  split
  · rfl
  · rw [cZ_word h h1 h2, ob5, if_pos rfl]
theorem c_wl1 (hx : c_wx x1 s wd od) {sc ar : jSc} {al : jAl} {k : xVn} : (if x1 = 0 then (o_b5 (xF_252 p (15 : Int32) (0 : Int32) sc mr ar al) (fun _ a b c d => k a b c d)) else (o_b5 (xF_252 p (14 : Int32) (0 : Int32) sc mr ar al) (fun _ a b c d => k a b c d))) = o_b5 (xF_252 p (nI od) (0 : Int32) sc mr ar al) (fun _ a b c d => k a b c d) := by
  rcases hx with ⟨rfl, _, _, rfl⟩ | ⟨rfl, _, _, rfl⟩
  · rw [if_pos rfl]; rfl
  · rw [if_neg (by decide)]; rfl
theorem c_wl (hx : c_wx x1 s wd od) {sc ar : jSc} {al : jAl} {o L q0 : Nat} {u : Nat → oR} (hp : x_pr p = true) (hmr : mr 4 = p) (hn : n ≤ 600) (hK0 : cK n tx p sc ar q0 o L) (hu : cPV n tx p mr o (g (x1 + 1)) u) (hln : p_ln u) :
    ∀ (M N j q : Nat) (os : oL) (sc1 ar1 : jSc), n < M + q → n < N + q → j ≤ q → cT p sc ar L os sc1 ar1 → sc1 756 2 = nI q → q ≤ n → q0 + os.length ≤ q →
    (∀ os2 q2, p_wl u wd od tx M os q = .inr (os2, q2) → q2 ≤ n ∧ ∃ sc2 ar2, xF_261_26 g N x1 s (nI j) sc1 mr ar1 al = some (sc2, mr, ar2, al) ∧ sc2 756 2 = nI q2 ∧ cT p sc ar L os2 sc2 ar2) ∧
    (∀ kd pl, p_wl u wd od tx M os q = .inl (kd, pl) → ∃ sc2 ar2, xF_261_26 g N x1 s (nI j) sc1 mr ar1 al = some (sc2, mr, ar2, al) ∧ cB n p sc ar kd pl sc2 ar2) := by
  obtain ⟨hsw, hw0, hod⟩ := c_wx_ok hx
  intro M
  induction M with
  | zero => intro N j q os sc1 ar1 h1 h2 h3 h4 h5 h6 h7; omega
  | succ M ih =>
    intro N j q os sc1 ar1 h1 h2 h3 hT hcur hq hlen
    obtain ⟨N, rfl⟩ : ∃ N', N = N' + 1 := ⟨N - 1, by omega⟩
    have hK := cK_T hp hK0 hT hcur hq hlen
    have hL0 := hK0.2.2.2.2.2.2
    have b0 := (x_nb_ok hK.1.1 q).1
    have b1 := x_nb_le hK.1.1 hq
    have hl : sc1 756 1 ≤ nI j ↔ n ≤ j := c_len hK.1 (by omega)
    have jn := c_word (mr := mr) (al := al) hK.1 hq hsw
    rw [cA_i hcur] at jn
    by_cases hs : x_is tx (x_nb tx q) wd
    · have hwe := x_we_lt hK.1.1 b1
      have ewe := hs.1
      rw [if_pos hs, if_pos hs, ← ewe] at jn
      have ex : xF_261_26 g (N + 1) x1 s (nI j) sc1 mr ar1 al = o_b4 (g (x1 + 1) (cA sc1 (x_we tx (x_nb tx q))) mr ar1 al) (fun a b c d => if x_pr (b 4) = true then o_b5 (xF_252 (b 4) (nI od) 0 a b c d) (fun _ a b c d => xF_261_26 g N x1 s (nI j + 1) a b c d) else none) := by
        conv => lhs; unfold xF_261_26
        rw [if_neg (fun z => absurd (hl.mp z) (by omega)), jn, ob5, if_neg (by decide)]
        rcases g (x1 + 1) (cA sc1 (x_we tx (x_nb tx q))) mr ar1 al with _ | ⟨a, b, c, d⟩
        · rfl
        · rw [ob4, ob4, c_wl1 hx]
      have pe : p_wl u wd od tx (M + 1) os q = p_bd (u (x_we tx (x_nb tx q))) (fun os2 q2 => p_wl u wd od tx M (os ++ os2 ++ [(od, 0)]) q2) := by
        conv => lhs; unfold p_wl
        rw [if_pos hs]
      rw [pe, ex]
      have hK1 := cK_A (q2 := x_we tx (x_nb tx q)) hp hK (by omega) (by omega)
      obtain ⟨u1, u2⟩ := hu _ _ al _ _ hK1
      have t1 := cT_tr hT (cT_nil (q := x_we tx (x_nb tx q)) (ar := ar1) hp hT.1)
      rw [List.append_nil] at t1
      rcases hu1 : u (x_we tx (x_nb tx q)) with ⟨kd1, pl1⟩ | ⟨os2, q2⟩
      · refine ⟨fun os2 q2 hpp => (by cases hpp), fun kd pl hpp => ?_⟩
        cases hpp
        obtain ⟨sc2, ar2, a2, a3⟩ := u2 _ _ hu1
        obtain ⟨v, sc3, ar3, e1, e2⟩ := cB_add (mr := mr) (al := al) (m := 0) (od := od) hp (cB_T t1 a3) hod
        obtain ⟨N, rfl⟩ : ∃ N', N = N' + 1 := ⟨N - 1, by omega⟩
        refine ⟨sc3, ar3, ?_, e2⟩
        rw [a2, ob4, hmr, if_pos hp, e1, ob5]
        exact c_wlF hx (cB_Z hp hK0.1 e2)
      · obtain ⟨a1, sc2, ar2, a2, a3, a4⟩ := u1 _ _ hu1
        have l2 := hln _ _ _ hu1
        have t2 := cT_tr t1 a4
        obtain ⟨sc3, ar3, f1, f2, f3⟩ := cT_add (mr := mr) (al := al) (ar := ar2) (m := 0) (od := od) hp t2.1 (by rw [List.length_append]; omega) hod
        have r := ih N (j + 1) q2 (os ++ os2 ++ [(od, 0)]) sc3 ar3 (by omega) (by omega) (by omega) (cT_tr t2 f3) (f2.trans a3) a1 (by simp only [List.length_append, List.length_cons, List.length_nil]; omega)
        rw [a2, ob4, hmr, if_pos hp, f1, ob5, nI_1]
        exact r
    · rw [if_neg hs, if_neg hs] at jn
      have ex : xF_261_26 g (N + 1) x1 s (nI j) sc1 mr ar1 al = some (cA sc1 (x_nb tx q), mr, ar1, al) := by
        unfold xF_261_26
        by_cases c : n ≤ j
        · rw [if_pos (hl.mpr c), show x_nb tx q = q by omega, cA_i hcur]
        · rw [if_neg (fun z => c (hl.mp z)), jn, ob5, if_pos rfl]
      have pe : p_wl u wd od tx (M + 1) os q = .inr (os, x_nb tx q) := by
        unfold p_wl
        rw [if_neg hs]
      rw [pe]
      refine ⟨fun os2 q2 hpp => ?_, fun kd pl hpp => (by cases hpp)⟩
      cases hpp
      have t := cT_tr hT (cT_nil (q := x_nb tx q) (ar := ar1) hp hT.1)
      rw [List.append_nil] at t
      exact ⟨b1, _, _, ex, cA_2, t⟩
theorem c_lw (hx : c_wx x1 s wd od) {o : Nat} {u : Nat → oR} (hp : x_pr p = true) (hmr : mr 4 = p) (hn : n ≤ 600) (hu : cPV n tx p mr o (g (x1 + 1)) u) (hF : cPB n tx p mr (g (x1 + 1))) (hln : p_ln u) : cPV n tx p mr o (xF_261 g x1) (fun q => p_bd (u q) (fun os q2 => p_wl u wd od tx 700 os q2)) ∧ cPB n tx p mr (xF_261 g x1) := by
  have h2 : ¬ (2 : Int32) ≤ x1 := by rcases hx with ⟨rfl, _⟩ | ⟨rfl, _⟩ <;> decide
  have ex : ∀ (sc ar : jSc) (al : jAl), xF_261 g x1 sc mr ar al = o_b4 (g (x1 + 1) sc mr ar al) (fun a b c d => xF_261_26 g oF x1 s 0 a b c d) := by
    intro sc ar al
    unfold xF_261
    rw [if_neg h2]
    rcases hx with ⟨rfl, rfl, _⟩ | ⟨rfl, rfl, _⟩
    · rfl
    · rfl
  refine ⟨?_, ?_⟩
  · intro sc ar al q L hK
    obtain ⟨u1, u2⟩ := hu sc ar al q L hK
    rw [ex]
    rcases hu1 : u q with ⟨kd1, pl1⟩ | ⟨os1, q1⟩
    · refine ⟨fun os2 q2 hpp => ?_, fun kd pl hpp => ?_⟩
      · have hpp : p_bd (u q) (fun os q2 => p_wl u wd od tx 700 os q2) = .inr (os2, q2) := hpp
        rw [hu1] at hpp
        cases hpp
      · have hpp : p_bd (u q) (fun os q2 => p_wl u wd od tx 700 os q2) = .inl (kd, pl) := hpp
        rw [hu1] at hpp
        cases hpp
        obtain ⟨sc2, ar2, a2, a3⟩ := u2 _ _ hu1
        refine ⟨sc2, ar2, ?_, a3⟩
        rw [a2, ob4, show oF = 9999 + 1 from rfl]
        exact c_wlF hx (cB_Z hp hK.1 a3)
    · obtain ⟨a1, sc2, ar2, a2, a3, a4⟩ := u1 _ _ hu1
      rw [a2, ob4]
      have r := c_wl (al := al) hx hp hmr hn hK hu hln 700 oF 0 q1 os1 sc2 ar2 (by omega) (by unfold oF; omega) (by omega) a4 a3 a1 (hln _ _ _ hu1)
      refine ⟨fun os2 q2 hpp => r.1 os2 q2 ?_, fun kd pl hpp => r.2 kd pl ?_⟩
      · have hpp : p_bd (u q) (fun os q2 => p_wl u wd od tx 700 os q2) = .inr (os2, q2) := hpp
        rw [hu1] at hpp
        exact hpp
      · have hpp : p_bd (u q) (fun os q2 => p_wl u wd od tx 700 os q2) = .inl (kd, pl) := hpp
        rw [hu1] at hpp
        exact hpp
  · intro sc ar sc1 ar1 al kd pl hT hB
    obtain ⟨sc2, ar2, a2, a3⟩ := hF sc ar sc1 ar1 al kd pl hT hB
    refine ⟨sc2, ar2, ?_, a3⟩
    rw [ex, a2, ob4, show oF = 9999 + 1 from rfl]
    exact c_wlF hx (cB_Z hp hT a3)
theorem ln_an {t : Nat → oR} {tx : Nat → Int32} (ht : p_ln t) : p_ln (p_an t tx) := by
  intro q os q2 h
  obtain ⟨o1, q1, h1, h⟩ := p_bd_r h
  exact ln_wl ht (by decide) _ _ _ _ _ _ (ht _ _ _ h1) h
theorem c_or {o m : Nat} {t : Nat → oR} (hp : x_pr p = true) (hmr : mr 4 = p) (hn : n ≤ 600) (ht : cPV n tx p mr o (xG_261 m 2) t) (hB : cPB n tx p mr (xG_261 m 2)) (hl : p_ln t) : cPV n tx p mr o (xG_261 (m + 2) 0) (p_or t tx) ∧ cPB n tx p mr (xG_261 (m + 2) 0) := by
  have b := c_lw (g := xG_261 m) (x1 := 1) (Or.inr ⟨rfl, rfl, rfl, rfl⟩) hp hmr hn (u := t) (o := o) ht hB hl
  exact c_lw (g := xG_261 (m + 1)) (x1 := 0) (Or.inl ⟨rfl, rfl, rfl, rfl⟩) hp hmr hn (u := p_an t tx) (o := o) b.1 b.2 (ln_an hl)
/-- the reader's test, where k more may be opened -/
theorem c_tk (hp : x_pr p = true) (hmr : mr 4 = p) (hn : n ≤ 600) : ∀ (k m : Nat), k ≤ 6 → 3 * k + 1 ≤ m → cPV n tx p mr (6 - k) (xG_261 m 2) (p_tk tx k) ∧ cPB n tx p mr (xG_261 m 2)
  | 0, m, hk, hm => by
    obtain ⟨m, rfl⟩ : ∃ j, m = j + 1 := ⟨m - 1, by omega⟩
    obtain ⟨v1, v2⟩ := c_su (tx := tx) (n := n) hp hmr hn 0 40 (by omega) (by omega)
    exact ⟨c_test hp hmr hn v1 v2 (ln_su 0) (fun _ => rfl) (fun t r z => by cases z), c_testB hp hmr v2⟩
  | k + 1, m, hk, hm => by
    obtain ⟨m, rfl⟩ : ∃ j, m = j + 3 := ⟨m - 3, by omega⟩
    obtain ⟨v1, v2⟩ := c_su (tx := tx) (n := n) hp hmr hn (k + 1) 40 (by omega) (by omega)
    have t1 := c_tk hp hmr hn k (m + 2) (by omega) (by omega)
    have t2 := c_tk hp hmr hn k m (by omega) (by omega)
    have t3 := c_or hp hmr hn t2.1 t2.2 (ln_tk k)
    have e : 6 - (k + 1) + 1 = 6 - k := by omega
    exact ⟨c_test hp hmr hn v1 v2 (ln_su (k + 1)) (fun z => by cases z) (fun t r z => by cases z; rw [e]; exact ⟨by omega, t1.1, t3.1, ln_tk k, ln_or (ln_tk k)⟩), c_testB hp hmr v2⟩
end CO
