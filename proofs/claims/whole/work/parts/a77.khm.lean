/-! CONTRACTS of the law's helpers; their static call; the script's ints. -/
def k_P (D : va_G) (pg : String) (ad : Nat → Nat) (cy : Nat → ClassId) (sz : Nat) (vs : List Value) (f : jM) : Array Value → State → Prop := fun v U => j_PX D gcl pg kN ad cy sz vs f v U ∧ kNc U
theorem k_P_blind {D : va_G} {pg : String} {ad : Nat → Nat} {cy : Nat → ClassId} {sz : Nat} {vs : List Value} {f : jM} : FrameBlind (k_P D pg ad cy sz vs f) := fun a U g mk q => ⟨j_PX_blind a U g mk q.1, va_Nc.moved (u := U) (U := U.calling g mk a) (Vm.Alike.refl U.vm) q.2.1, va_Nc.moved (u := U) (U := U.calling g mk a) (Vm.Alike.refl U.vm) q.2.2⟩
/-- helper y, called with vs at the memory f, answers v and leaves f' -/
def kHm (l : Launch) (y : MethodName) (cc : ByteArray) (mxL : Nat) (hh : List (Nat × Nat × Nat × Nat)) (d : Nat) (vs : List Value) (f : jM) (v : Int32) (f' : jM) : Prop := ∀ (D : va_G) (pg : String) (ad : Nat → Nat) (cy : Nat → ClassId) (sz : Nat), Met l y (Cond.codeWith y cc mxL (some .int) hh :: gB) (jRx (d + 1)) (k_P D pg ad cy sz vs f) (j_Q D gcl kN ad cy (va_A (j_ws kN ad cy f) sz) (some (.int v)) f') 1 6 (va_A (j_ws kN ad cy f) sz)
/-- what a body of a helper stands on -/
def kB (G : kG) (co : Nat → Option Instr) (own : String) (cc : ByteArray) (mx d : Nat) (v : Int32) (hh : List (Nat × Nat × Nat × Nat)) (sc : jSc) (rf : jRf) (ar : jSc) (al : jAl) : Prop := kC G co own cc mx ∧ kRm G d 0 0 ∧ kQ G 1 6 v sc rf ar al ∧ (match G with
  | (p, l, e, R, s, m, args, below, meth, c, Q, D, pg, ad, cy, A) => l.stackTraces = false ∧ c.exceptionTable.toList = tableOf hh ∧ kNc s)
set_option maxHeartbeats 4000000 in
theorem k_help {l : Launch} {y : MethodName} {cc : ByteArray} {mxL d m0 : Nat} {hh : List (Nat × Nat × Nat × Nat)} {co : Nat → Option Instr} {vs : List Value} {v : Int32} {sc sc' : jSc} {rf rf' : jRf} {ar ar' : jSc} {al al' : jAl} (hl0 : l.stackTraces = false) (hy : plainName y.cls = true) (hn : (lg_sl vs).length ≤ mxL) (hc1 : l_c1 vs = true) (hdec : ∀ pc i, co pc = some i → j_dec cc pc i)
    (body : ∀ G : kG, kB G co y.cls cc mxL d v hh sc' rf' ar' al' → kW G 0 0 0 (l_en vs m0) [] sc rf ar al) : kHm l y cc mxL hh d vs (j_lay kL sc rf ar al) v (j_lay kL sc' rf' ar' al') := by
  intro D pg ad cy sz
  refine va_MetW (cc := cc) (maxL := mxL) (ret := some .int) (hh := hh) hy rfl ?_
  intro p e s m args below meth c s₁ Bd hml hv
  obtain ⟨⟨⟨rfl, hP, hK, hD0, rfl, hZ⟩, hU⟩, hN⟩ := hv
  have hts := atoms_spec (ws := Cond.codeWith y cc mxL (some .int) hh :: gB) Bd.pre
  have hl := lv_entry (vs.map (j_tv ad)) (n := mxL) (by rw [j_sl_len]; exact hn)
  rw [lg_entry_eq]
  have hl := j_av_has hl
  have hag : l_ag (l_en vs m0) (j_av vs) := by
    intro k w hw
    have := l_av_go vs m0 0 k w hc1 hw
    unfold j_av
    rw [Nat.zero_add] at this
    rw [this]
  exact body (p, l, e, (headSpec (Cond.codeWith y cc mxL (some .int) hh :: gB) (jRx (d + 1))).room, s, m, _, below, meth, c, _, D, pg, ad, cy, va_A (j_ws kN ad cy (j_lay kL sc rf ar al)) s.heap.size)
    ⟨⟨Bd.exec, Bd.bytes, hml, Bd.notSynchronized, findClass_of_methodNamed Bd.named, fun w hw => hts w (List.mem_cons_of_mem _ hw), hK, hZ, hU, fun q hq => Or.inr hq, hdec⟩, ⟨by show d + 7 ≤ d + 1 + 6; omega, Nat.le_refl _, Nat.le_refl _, Nat.le_refl _⟩, ⟨Bd.returns, rfl⟩, hl0, vx_table (x := y) Bd (hts _ List.mem_cons_self), hN⟩ (j_av vs) hag s.heap [] _ hP hD0.self va_S.rf (by rw [hml]; exact hl)
section KCS
variable {G : kG} {co : Nat → Option Instr} {own : String} {cc : ByteArray} {mx k n pc pc' : Nat} {vs : List (Option Value)} {sc : jSc} {rf : jRf} {ar : jSc} {al : jAl}
def kM (G : kG) : Prop := match G with
  | (p, l, e, R, s, m, args, below, meth, c, Q, D, pg, ad, cy, A) => kNc s
def kMl (G : kG) (y : MethodName) (cc : ByteArray) (mxL : Nat) (hh : List (Nat × Nat × Nat × Nat)) (d : Nat) (vs : List Value) (f : jM) (v : Int32) (f' : jM) : Prop := match G with
  | (p, l, e, R, s, m, args, below, meth, c, Q, D, pg, ad, cy, A) => kHm l y cc mxL hh d vs f v f'
def kLk (own : String) (x : Nat) (y : MethodName) (cc : ByteArray) (mxL na : Nat) (hh : List (Nat × Nat × Nat × Nat)) : Prop := Cond.methodLink own x y ∈ gB ∧ Cond.static y ∈ gB ∧ Cond.initialized y.cls ∈ gB ∧ Cond.codeWith y cc mxL (some .int) hh ∈ gB ∧ (y.cls ≠ "java/lang/invoke/MethodHandle" ∧ y.cls ≠ "java/lang/invoke/VarHandle" ∧ (parseMethodDescriptor y.desc).map (fun d => d.parameters.length) = some na)
set_option maxHeartbeats 4000000 in
theorem kl_callH {x na mxL d : Nat} {y : MethodName} {cb : ByteArray} {hh : List (Nat × Nat × Nat × Nat)} {st args0 rest : List Value} {v : Int32} {sc' : jSc} {rf' : jRf} {ar' : jSc} {al' : jAl} (hC : kC G co own cc mx) (hi : co pc = some (.invokestatic x)) (hw : kLk own x y cb mxL na hh) (ht : (st.take na).reverse = args0) (hd : st.drop na = rest) (hln : Nat.ble na st.length = true) (hz : l_sz rest args0 mxL = true) (hp : pc + 3 = pc') (hR : kRm G (d + 1) k n) (hN : kM G) (hM : kMl G y cb mxL hh d args0 (j_lay kL sc rf ar al) v (j_lay kL sc' rf' ar' al')) (h : kW G (k + 1) (n + 6) pc' vs (.int v :: rest) sc' rf' ar' al') : kW G k n pc vs st sc rf ar al := by
  obtain ⟨p, l, e, R, s, m, args, below, meth, c, Q, D, pg, ad, cy, A⟩ := G
  obtain ⟨hx, hb, hml, hlocks, hown, hts, hK, hZ, hU, hA, hdec⟩ := hC
  subst ht
  subst hd
  subst hp
  obtain ⟨z1, z2, z3⟩ := l_sz_ok hz
  intro lv hv H locs ls hP hD hS hl
  obtain ⟨w1, w2, w3, w4, w5⟩ := hw
  have hMet := hM D pg ad cy H.size
  have hln := Nat.le_of_ble_eq_true hln
  have hfree : ∀ q : Nat, va_A (j_ws kN ad cy (j_lay kL sc rf ar al)) H.size q → A q := fun q hq => by
    rcases hq with ⟨k9, e9, hk9⟩ | hk9
    · exact hD.2 k9 _ hk9
    · exact hA q (Nat.le_trans hS.1 hk9)
  have hRm : (jRx (d + 1)).frames + 1 ≤ R.frames ∧ 8 + (mxL + 11) + (jRx (d + 1)).locals ≤ R.locals := by
    obtain ⟨r1, r2, -, -⟩ := hR
    refine ⟨?_, ?_⟩
    · show d + 1 + 6 + 1 ≤ R.frames
      omega
    · show 8 + (mxL + 11) + (41 * (d + 1) + 100) ≤ R.locals
      omega
  have hPre : ∀ (vs : List Value) (U : State), U.heap = H → s.WarmedH U.vm → k_P D pg ad cy H.size vs (j_lay kL sc rf ar al) (vs.map (j_tv ad)).toArray U := fun vs U hU9 hW => ⟨⟨⟨rfl, by rw [hU9]; exact hP, va_K.moved hW.alike hK, hD.weaken (fun _ _ _ _ => trivial), by rw [hU9], by rw [hU9]; exact ((hZ.kept hS.2.1).narrow hfree).warm hW⟩, by rw [hU9]; exact vx_Zq.moved hW.alike ((hU.1.kept hS.2.1).narrow hfree), by rw [hU9]; exact vx_Zq.moved hW.alike ((hU.2.1.kept hS.2.1).narrow hfree), hU.2.2.warm hW⟩, va_Nc.moved (u := s) hW.alike hN.1, va_Nc.moved (u := s) hW.alike hN.2⟩
  have hG : GoodIn gB (va_wsS own x y (Cond.codeWith y cb mxL (some .int) hh :: gB)) := by
    refine j_good_call gB_good (fun w hw => ?_) w4
    simp only [List.mem_cons, List.not_mem_nil, or_false] at hw
    rcases hw with rfl | rfl | rfl
    · exact w1
    · exact w2
    · exact w3
  rw [j_drop_take (ad := ad) (st := st) (k := na)]
  intro T hT X
  have hf9 : k + 1 ≤ R.cells ∧ n + 6 ≤ R.slots := hR.2.2
  obtain ⟨v9, st₀, t, T', L, h0, X', hL, e1, e2, ⟨hv9, hp9, hd9, hz9, hk9⟩, st9⟩ := vx_runSW (As := ((st.take na).reverse).map (j_tv ad)) (rest := (st.drop na).map (j_tv ad)) (g := F0 m pc ls ((((st.take na).reverse).map (j_tv ad)).reverse ++ (st.drop na).map (j_tv ad))) (p := p) (e := e) (R := R) (below := below) (meth := meth) (locs := locs) (cells := k) (slots := n) ⟨hx, hb, hml, hown, hts⟩ hMet (vx_cwSW na hts hG rfl rfl rfl w5 hRm) ⟨k_P_blind, hPre _⟩ rfl (by rw [List.length_map, List.length_reverse, List.length_take]; omega) (hl.1.trans hml) rfl (lv_room (by rw [j_catsum]; exact z1)) (hdec pc _ hi) hf9 T hT X
  cases hv9
  rw [h0] at hz9 hk9
  have k2 := h lv hv T'.heap (locs ++ L) ls (by rw [e1]; exact hp9) (hd9.weaken (fun _ q _ h => hfree q.1 h))
    ⟨Nat.le_trans hS.1 (by rw [e1]; exact hz9), fun q h1 h2 => by rw [e1, hk9 q (Nat.lt_of_lt_of_le h1 hS.1) (fun z => h2 (hfree q z))]; exact hS.2.1 q h1 h2, fun q hq => by
      rcases List.mem_append.mp hq with h | h
      · exact hS.2.2 q h
      · exact hfree _ (hL q h)⟩ hl
  obtain ⟨t2, a1, b1⟩ := k2 T' rfl X'
  exact ⟨t2, st9 t2 a1, b1⟩
/-- the script: cell 999 stands for it -/
def kS (G : kG) (L : Nat) (xs : Nat → Int32) : Prop := match G with
  | (p, l, e, R, s, m, args, below, meth, c, Q, D, pg, ad, cy, A) => va_X (ad 999) L xs s s.heap ∧ ad 999 < s.heap.size ∧ ¬ A (ad 999)
theorem kl_sld {L : Nat} {xs : Nat → Int32} {i : Int32} {r : List Value} (hC : kC G co own cc mx) (hS9 : kS G L xs) (hi : co pc = some .iaload) (hin : iB i L) (hp : pc + 1 = pc') (h : kW G k n pc' vs (.int (xs (iN i)) :: r) sc rf ar al) : kW G k n pc vs (.int i :: .ref 999 :: r) sc rf ar al := by
  obtain ⟨p, l, e, R, s, m, args, below, meth, c, Q, D, pg, ad, cy, A⟩ := G
  obtain ⟨hx, hb, hml, hlocks, hown, hts, hK, hZ, hU, hA, hdec⟩ := hC
  obtain ⟨x1, x2, x3⟩ := hS9
  subst hp
  intro lv hv H locs ls hP hD hS hl
  exact va_sld hx hb x1 x2 x3 hS hin (hdec pc _ hi) (h lv hv H locs ls hP hD hS hl)
theorem kl_slen {L : Nat} {xs : Nat → Int32} {r : List Value} (hC : kC G co own cc mx) (hS9 : kS G L xs) (hi : co pc = some .arraylength) (hp : pc + 1 = pc') (h : kW G k n pc' vs (.int (Int32.ofNat L) :: r) sc rf ar al) : kW G k n pc vs (.ref 999 :: r) sc rf ar al := by
  obtain ⟨p, l, e, R, s, m, args, below, meth, c, Q, D, pg, ad, cy, A⟩ := G
  obtain ⟨hx, hb, hml, hlocks, hown, hts, hK, hZ, hU, hA, hdec⟩ := hC
  obtain ⟨x1, x2, x3⟩ := hS9
  subst hp
  intro lv hv H locs ls hP hD hS hl
  exact va_slen hx hb x1 x2 x3 hS (hdec pc _ hi) (h lv hv H locs ls hP hD hS hl)
end KCS
