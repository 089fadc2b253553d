/-! CALLS from frames of the law and of its helpers. -/
def kRm (G : kG) (d k n : Nat) : Prop := match G with
  | (p, l, e, R, s, m, args, below, meth, c, Q, D, pg, ad, cy, A) => d + 7 ≤ R.frames ∧ 41 * (d + 1) + 100 ≤ R.locals ∧ k + 1 ≤ R.cells ∧ n + 6 ≤ R.slots
section KCL
variable {G : kG} {co : Nat → Option Instr} {own : String} {cc : ByteArray} {mx k n pc pc' : Nat} {vs : List (Option Value)} {sc : jSc} {rf : jRf} {ar : jSc} {al : jAl}
set_option maxHeartbeats 4000000 in
theorem kl_call {x q na ci a mq d : Nat} {st args0 rest : List Value} (hC : kC G co own cc mx) (hi : co pc = some (.invokevirtual x)) (hm : j_ML gcl gB g_me own x (0, q, na, ci)) (ht : (st.take (na + 1)).reverse = args0) (hd : st.drop (na + 1) = rest) (ha : st[na]? = some (.ref a)) (hs : kL.1 a = .inl ci) (hq : g_mx (gX true) q = mq) (hz : l_sz rest args0 mq = true) (hp : pc + 3 = pc') (hR : kRm G d k n) (h : gW (gX true) q d 0 (j_av args0) [] sc rf ar al (fun r sc' rf' ar' al' => kW G k n pc' vs (l_rs r rest) sc' rf' ar' al')) : kW G k n pc vs st sc rf ar al := by
  obtain ⟨p, l, e, R, s, m, args, below, meth, c, Q, D, pg, ad, cy, A⟩ := G
  obtain ⟨hx, hb, hml, hlocks, hown, hts, hK, hZ, hU, hA, hdec⟩ := hC
  subst ht
  subst hd
  subst hp
  obtain ⟨z1, z2, z3⟩ := l_sz_ok hz
  obtain ⟨N, r, sc1, rf1, ar1, al1, hrun, hk⟩ := h
  intro lv hv H locs ls hP hD hS hl
  obtain ⟨y1, cc1, maxL1, ret1, g1, g2, g3, g4, g5, g6, g7⟩ := hm
  obtain ⟨hy1, hmx1, -⟩ := (g_MO true).2 q y1 cc1 maxL1 ret1 g1
  have hmq : mq = maxL1 := hq.symm.trans hmx1
  subst hmq
  have hMet := j_met (l := l) (D := D) (pg := pg) (ad := ad) (cy := cy) (gX_nd true) (g_MO true) g1 z2 hrun H.size
  have hfree : ∀ q : Nat, va_A (j_ws kN ad cy (j_lay kL sc rf ar al)) H.size q → A q := fun q hq => by
    rcases hq with ⟨k9, e9, hk9⟩ | hk9
    · exact hD.2 k9 _ hk9
    · exact hA q (Nat.le_trans hS.1 hk9)
  have hRm : (jRm d).frames + 1 ≤ R.frames ∧ 8 + (mq + 11) + (jRm d).locals ≤ R.locals := by
    obtain ⟨r1, r2, -, -⟩ := hR
    refine ⟨?_, ?_⟩
    · show d + 4 + 1 ≤ R.frames
      omega
    · show 8 + (mq + 11) + (41 * d + 100) ≤ R.locals
      omega
  have hPre : ∀ (vs : List Value) (U : State), U.heap = H → s.WarmedH U.vm → j_P D gcl pg kN ad cy H.size vs (j_lay kL sc rf ar al) (vs.map (j_tv ad)).toArray U := fun vs U hU9 hW => ⟨rfl, by rw [hU9]; exact hP, va_K.moved hW.alike hK, hD.weaken (fun _ _ _ _ => trivial), by rw [hU9], by rw [hU9]; exact ((hZ.kept hS.2.1).narrow hfree).warm hW⟩
  obtain ⟨⟨T1, Nn, g61⟩, g62, g63⟩ := g6 rfl
  have hG : GoodIn gB (wsV own x y1.cls y1 (Jvm.Cond.code y1 cc1 mq ret1 :: gB)) := by
    refine j_good_call gB_good (fun w hw => ?_) g2
    simp only [List.mem_cons, List.not_mem_nil, or_false] at hw
    rcases hw with rfl | rfl | rfl | rfl
    · exact g3
    · exact g62
    · exact g63
    · exact g4
  obtain ⟨hlt, hfa⟩ := j_ob_ok (j_lay_ob (n0 := kN) (sc := sc) (rf := rf) (ar := ar) (al := al) (gX_LK true) hs)
  obtain ⟨As, s1, s2, s3⟩ := j_recv_split (ad := ad) ha
  obtain ⟨i9, hi9, he⟩ := j_ws_at (ad := ad) (cy := cy) (f := j_lay kL sc rf ar al) hlt
  rw [hfa] at he
  rw [s2] at hMet
  rw [s3]
  intro T hT X
  obtain ⟨v, st₀, t, T', L, h0, X', hL, e1, e2, ⟨hv9, hp9, hd9, hz9, hk9⟩, st9⟩ := va_runV (As := As.map (j_tv ad)) (rest := (st.drop (na + 1)).map (j_tv ad)) (g := F0 m pc ls ((As.map (j_tv ad)).reverse ++ .ref (ad a) :: (st.drop (na + 1)).map (j_tv ad))) (p := p) (e := e) (R := R) (below := below) (meth := meth) (locs := locs) (cells := k) (slots := n) ⟨hx, hb, hml, hown, hts⟩ hMet (cwV na hts hG rfl rfl rfl ⟨rfl, g5⟩ hRm) ⟨j_P_blind, va_recv hK hP g61 he, hPre (.ref a :: As)⟩ rfl (by rw [List.length_map]; exact s1) (hl.1.trans hml) rfl (lv_room (by rw [j_catsum]; exact z1)) (hdec pc _ hi) ⟨by obtain ⟨-, -, r3, -⟩ := hR; omega, by obtain ⟨-, -, -, r4⟩ := hR; omega⟩ T hT X
  cases hv9
  rw [h0] at hz9 hk9
  have e5 : (r.map (j_tv ad)).toList ++ (st.drop (na + 1)).map (j_tv ad) = (l_rs r (st.drop (na + 1))).map (j_tv ad) := by
    rw [← l_rs_ok, List.map_append]
    cases r <;> rfl
  have k2 := hk lv hv T'.heap (locs ++ L) ls (by rw [e1]; exact hp9) (hd9.weaken (fun _ q _ h => hfree q.1 h))
    ⟨Nat.le_trans hS.1 (by rw [e1]; exact hz9), fun q h1 h2 => by rw [e1, hk9 q (Nat.lt_of_lt_of_le h1 hS.1) (fun z => h2 (hfree q z))]; exact hS.2.1 q h1 h2, fun q hq => by
      rcases List.mem_append.mp hq with h | h
      · exact hS.2.2 q h
      · exact hfree _ (hL q h)⟩ hl
  rw [← e5] at k2
  obtain ⟨t2, a1, b1⟩ := k2 T' rfl X'
  exact ⟨t2, st9 t2 a1, b1⟩
end KCL
