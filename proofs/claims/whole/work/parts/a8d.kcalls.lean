/-! THE CONSTRUCTORS (6): a static call of the small machine (Arrays.fill). -/
section KST
variable {G : kG} {B0 : Nat} {co : Nat → Option Instr} {fl : Nat → Option (Nat × Nat × Nat)} {cn : Nat → Option Int32} {own : String} {cc : ByteArray} {mx k n pc pc2 : Nat} {lv : jV} {N : Nat} {f f' : jM}
set_option maxHeartbeats 4000000 in
theorem kU_callS {x q na ci mq d NN : Nat} {st args0 rest : List Value} (hC : kD G B0 co fl cn own cc mx) (hN : N ≤ 824) (hi : co pc = some (.invokestatic x)) (hm : j_ML gcl gB g_me own x (1, q, na, ci)) (ht : (st.take na).reverse = args0) (hd : st.drop na = rest) (hln : Nat.ble na st.length = true) (hq : g_mx (gX true) q = mq) (hz : l_sz rest args0 mq = true) (hRo : kRo G (d + 5) (41 * (d + 1) + 100)) (hR : kRu G k n) (hrun : j_run (kOl N) (g_co (gX true)) (g_fl (gX true)) (g_cn (gX true)) (g_nt (gX true)) (g_ml (gX true)) (g_mx (gX true)) (g_rt (gX true)) NN q d 0 (j_av args0) [] f = some (none, f')) (hp : pc + 3 = pc2) (h : kU G B0 k n pc2 lv rest N f') : kU G B0 k n pc lv st N f := by
  obtain ⟨p, l, e, R, s, m, args, below, meth, c, Q, D, pg, ad, cy, A⟩ := G
  obtain ⟨c1, c2, c3, c4, c5, c6, c7, c8, c9, c10, c11, c12, c13, c14⟩ := hC
  subst ht
  subst hd
  subst hp
  obtain ⟨z1, z2, z3⟩ := l_sz_ok hz
  intro hsz H locs ls hP hD hS hl
  obtain ⟨y1, cc1, maxL1, ret1, g1, g2, g3, g4, g5, g6, g7⟩ := hm
  obtain ⟨hy1, hmx1, -⟩ := (g_MO true).2 q y1 cc1 maxL1 ret1 g1
  have hmq : mq = maxL1 := hq.symm.trans hmx1
  subst hmq
  have hln := Nat.le_of_ble_eq_true hln
  have hMet := j_met (l := l) (D := D) (pg := pg) (ad := ad) (cy := cy) (kOl_nd N hN) (g_MO true) g1 z2 hrun H.size
  have hfree : ∀ q : Nat, va_A (j_ws (kOl N) ad cy f) H.size q → A q := fun q hq => by
    rcases hq with ⟨k9, e9, hk9⟩ | hk9
    · exact hD.2 k9 _ hk9
    · exact c9 q (Nat.le_trans hS.1 hk9)
  have hRm : (jRm d).frames + 1 ≤ R.frames ∧ 8 + (mq + 11) + (jRm d).locals ≤ R.locals := by
    obtain ⟨r1, r2⟩ := hRo
    refine ⟨?_, ?_⟩
    · show d + 4 + 1 ≤ R.frames
      omega
    · show 8 + (mq + 11) + (41 * d + 100) ≤ R.locals
      omega
  have hPre : ∀ (vs : List Value) (U : State), U.heap = H → s.WarmedH U.vm → j_P D gcl pg (kOl N) ad cy H.size vs f (vs.map (j_tv ad)).toArray U := fun vs U hU9 hW => ⟨rfl, by rw [hU9]; exact hP, va_K.moved hW.alike (kKn _ c7), hD.weaken (fun _ _ _ _ => trivial), by rw [hU9], by rw [hU9]; exact ((c8.kept hS.2.1).narrow hfree).warm hW⟩
  have hG : GoodIn gB (va_wsS own x y1 (Jvm.Cond.code y1 cc1 mq ret1 :: gB)) := by
    refine j_good_call gB_good (fun w hw => ?_) g2
    simp only [List.mem_cons, List.not_mem_nil, or_false] at hw
    rcases hw with rfl | rfl | rfl
    · exact g3
    · exact g7 rfl
    · exact g4
  rw [j_drop_take (ad := ad) (st := st) (k := na)]
  intro T hT X
  obtain ⟨v9, st₀, t, T', L, h0, X', hL, e1, e2, ⟨hv9, hp9, hd9, hz9, hk9⟩, st9⟩ := va_runS (As := ((st.take na).reverse).map (j_tv ad)) (rest := (st.drop na).map (j_tv ad)) (g := F0 m pc ls ((((st.take na).reverse).map (j_tv ad)).reverse ++ (st.drop na).map (j_tv ad))) (p := p) (e := e) (R := R) (below := below) (meth := meth) (locs := locs) (cells := k) (slots := n) ⟨c1, c2, c3, c5, c6⟩ hMet (va_cwS na c6 hG rfl rfl rfl g5 hRm) ⟨j_P_blind, hPre _⟩ rfl (by rw [List.length_map, List.length_reverse, List.length_take]; omega) (hl.1.trans c3) rfl (lv_room (by rw [j_catsum]; exact z1)) (c10 pc _ hi) hR T hT X
  cases hv9
  rw [h0] at hz9 hk9
  have k2 := h hsz T'.heap (locs ++ L) ls (by rw [e1]; exact hp9) (hd9.weaken (fun _ q _ h => hfree q.1 h))
    ⟨Nat.le_trans hS.1 (by rw [e1]; exact hz9), fun q h1 h2 => by rw [e1, hk9 q (Nat.lt_of_lt_of_le h1 hS.1) (fun z => h2 (hfree q z))]; exact hS.2.1 q h1 h2, fun q hq => by
      rcases List.mem_append.mp hq with h | h
      · exact hS.2.2 q h
      · exact hfree _ (hL q h)⟩ hl
  obtain ⟨t2, a1, b1⟩ := k2 T' rfl X'
  exact ⟨t2, st9 t2 a1, b1⟩
end KST
