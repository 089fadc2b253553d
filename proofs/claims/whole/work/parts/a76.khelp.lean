/-! HELPERS of the law: calls that throw and are caught, the handler, the way back, the contract of a helper. -/
/-- what vx_catch says (it is proved in the last part) -/
def kCatch : Prop := ∀ (p : Program) (l : Launch) (e : Env) (R : Room) (s : State) (m : MethodId) (args : Array Value) (below : List Frame) (meth : Method) (c : Code) (H : Heap) (locs : List Loc) (cells slots : Nat) (Q : State → Prop) (pc : Nat) (ls : Array Slot) (rest : List Value) (own name E : String) (ce : Cell) (q : Addr) (pre : List ExceptionTableEntry) (x : ExceptionTableEntry) (suf : List ExceptionTableEntry),
  s.vm.findClass own = some m.cls → c.exceptionTable.toList = pre ++ x :: suf → (∀ z ∈ pre, covers z pc = false ∨ (z.catchType ≠ 0 ∧ ∃ nm : String, (Cond.classLink own z.catchType nm).before args s = true ∧ va_Nc E nm s)) → covers x pc = true → x.catchType ≠ 0 → (Cond.classLink own x.catchType name).before args s = true → (Cond.castable E name).before args s = true → H[q]? = some ce → ce.vm = .none → s.vm.findClass E = some ce.cls → W p l e R s m args below meth c H locs cells slots Q (F0 m x.handlerPc ls [.ref q]) → vx_W p l e R s m args below meth c H locs cells slots Q (F0 m pc ls rest) q
def kNc (U : State) : Prop := va_Nc (eN 0) (eN 2) U ∧ va_Nc (eN 0) (eN 1) U
def kT (G : kG) (own : String) (pc E : Nat) (pre : List ExceptionTableEntry) (z : ExceptionTableEntry) (suf : List ExceptionTableEntry) : Prop := match G with
  | (p, l, e, R, s, m, args, below, meth, c, Q, D, pg, ad, cy, A) => l.stackTraces = false ∧ E < 3 ∧ c.exceptionTable.toList = pre ++ z :: suf ∧ (∀ y ∈ pre, covers y pc = false ∨ (y.catchType ≠ 0 ∧ ∃ nm : String, Cond.classLink own y.catchType nm ∈ gB ∧ va_Nc (eN E) nm s)) ∧ covers z pc = true ∧ z.catchType ≠ 0 ∧ Cond.classLink own z.catchType (eN E) ∈ gB
def kHx (G : kG) (k n hpc : Nat) (sc : jSc) (rf : jRf) (ar : jSc) (al : jAl) : Prop := match G with
  | (p, l, e, R, s, m, args, below, meth, c, Q, D, pg, ad, cy, A) => ∀ (H : Heap) (locs : List Loc) (ls : Array Slot) (q9 : Nat), va_P D gcl (j_ws kN ad cy (j_lay kL sc rf ar al)) H → va_D A (j_ws kN ad cy (j_lay kL sc rf ar al)) → va_S A s.heap H locs → ls.size = c.maxLocals → lv_wf ls → W p l e R s m args below meth c H locs k n Q (F0 m hpc ls [.ref q9])
def kQ (G : kG) (k n : Nat) (v : Int32) (sc : jSc) (rf : jRf) (ar : jSc) (al : jAl) : Prop := match G with
  | (p, l, e, R, s, m, args, below, meth, c, Q, D, pg, ad, cy, A) => meth.sig.returnType = some .int ∧ Q = MQ below (j_Q D gcl kN ad cy A (some (.int v)) (j_lay kL sc rf ar al)) args s k n A
section KCX
variable {G : kG} {co : Nat → Option Instr} {own : String} {cc : ByteArray} {mx k n pc pc' : Nat} {vs : List (Option Value)} {sc : jSc} {rf : jRf} {ar : jSc} {al : jAl}
theorem kl_widen {k' n' : Nat} {st : List Value} (h1 : k ≤ k') (h2 : n ≤ n') (h : kW G k' n' pc vs st sc rf ar al) : kW G k n pc vs st sc rf ar al := by
  obtain ⟨p, l, e, R, s, m, args, below, meth, c, Q, D, pg, ad, cy, A⟩ := G
  intro lv hv H locs ls hP hD hS hl
  exact W.widen h1 h2 (h lv hv H locs ls hP hD hS hl)
theorem kl_ireturn {v : Int32} (hC : kC G co own cc mx) (hi : co pc = some .ireturn) (hQ : kQ G k n v sc rf ar al) : kW G k n pc vs [.int v] sc rf ar al := by
  obtain ⟨p, l, e, R, s, m, args, below, meth, c, Q, D, pg, ad, cy, A⟩ := G
  obtain ⟨hx, hb, hml, hlocks, hown, hts, hK, hZ, hU, hA, hdec⟩ := hC
  obtain ⟨hr, hQ⟩ := hQ
  intro lv hv H locs ls hP hD hS hl
  rw [hQ]
  exact W.iret hx hb hr (fun t ht hW => ⟨rfl, by rw [ht]; exact hP, hD, hS.F ht⟩) hS.2.2 (hdec pc _ hi) hlocks
/-- the handler: the thing is put away, v answered -/
theorem kl_hand {hpc r : Nat} {v : Int32} {nn : Int} (hC : kC G co own cc mx) (h1 : (∃ kk : Fin 4, co hpc = some (.astore_n kk) ∧ (kk : Nat) = r ∧ hpc + 1 = pc) ∨ (co hpc = some (.astore r) ∧ hpc + 2 = pc)) (hr : Nat.blt r mx = true) (h2 : co pc = some (.iconst nn)) (hv : Int32.ofInt nn = v) (h3 : co (pc + 1) = some .ireturn) (hQ : kQ G k n v sc rf ar al) : kHx G k n hpc sc rf ar al := by
  have key := kl_ireturn (k := k) (n := n) (vs := []) hC h3 hQ
  obtain ⟨p, l, e, R, s, m, args, below, meth, c, Q, D, pg, ad, cy, A⟩ := G
  obtain ⟨hx, hb, hml, hlocks, hown, hts, hK, hZ, hU, hA, hdec⟩ := hC
  intro H locs ls q9 hP hD hS hs hw
  have hr := Nat.le_of_ble_eq_true hr
  have l0 : lv_has ls mx [] := ⟨hs.trans hml, hw, fun q h => nomatch h⟩
  have fin : ∀ (ls' : Array Slot), lv_has ls' mx [(r, Value.ref q9)] → W p l e R s m args below meth c H locs k n Q (F0 m pc ls' []) := fun ls' hl => lv_iconst hx hb (hdec pc _ h2) hv (key (fun _ => none) (fun _ _ h => by cases h) H locs ls' hP hD hS ⟨hl.1.trans hml.symm, hl.2.1, fun _ _ h => by cases h⟩)
  rcases h1 with ⟨kk, e1, e2, e3⟩ | ⟨e1, e3⟩
  · subst e3
    exact lv_astore_n hx hb (hdec hpc _ e1) e2 l0 hr rfl (fun ls' hl => fin ls' hl)
  · subst e3
    exact lv_astore hx hb (hdec hpc _ e1) l0 hr rfl (fun ls' hl => fin ls' hl)
set_option maxHeartbeats 4000000 in
theorem kl_callX (hcat : kCatch) {x q na ci a mq d E : Nat} {st args0 rest : List Value} (hC : kC G co own cc mx) (hi : co pc = some (.invokevirtual x)) (hm : j_ML gcl gB g_me own x (0, q, na, ci)) (ht : (st.take (na + 1)).reverse = args0) (hd : st.drop (na + 1) = rest) (ha : st[na]? = some (.ref a)) (hs : kL.1 a = .inl ci) (hq : g_mx (gX true) q = mq) (hz : l_sz rest args0 mq = true) (hR : kRm G d k n) {pre : List ExceptionTableEntry} {z : ExceptionTableEntry} {suf : List ExceptionTableEntry} (hX : kT G own pc E pre z suf) (h : gT (gX true) q d 0 (j_av args0) [] sc rf ar al (E, j_lay kL sc rf ar al)) (hk : kHx G (k + 1) (n + 6) z.handlerPc sc rf ar al) : kW G k n pc vs st sc rf ar al := by
  obtain ⟨p, l, e, R, s, m, args, below, meth, c, Q, D, pg, ad, cy, A⟩ := G
  obtain ⟨hx, hb, hml, hlocks, hown, hts, hK, hZ, hU, hA, hdec⟩ := hC
  obtain ⟨hl0, hE3, t1, t2, t3, t4, t5⟩ := hX
  subst ht
  subst hd
  obtain ⟨z1, z2, z3⟩ := l_sz_ok hz
  obtain ⟨N, hrun⟩ := h
  intro lv hv H locs ls hP hD hS hl
  obtain ⟨y1, cc1, maxL1, ret1, g1, g2, g3, g4, g5, g6, g7⟩ := hm
  obtain ⟨hy1, hmx1, -⟩ := (g_MO true).2 q y1 cc1 maxL1 ret1 g1
  have hmq : mq = maxL1 := hq.symm.trans hmx1
  subst hmq
  have hMet := j_metX (l := l) (D := D) (pg := pg) (ad := ad) (cy := cy) hl0 (gX_nd true) (g_MO true) x_TH g1 z2 hrun H.size
  have hfree : ∀ q : Nat, va_A (j_ws kN ad cy (j_lay kL sc rf ar al)) H.size q → A q := fun q hq => by
    rcases hq with ⟨k9, e9, hk9⟩ | hk9
    · exact hD.2 k9 _ hk9
    · exact hA q (Nat.le_trans hS.1 hk9)
  have hRm : (jRx d).frames + 1 ≤ R.frames ∧ 8 + (mq + 11) + (jRx d).locals ≤ R.locals := by
    obtain ⟨r1, r2, -, -⟩ := hR
    refine ⟨?_, ?_⟩
    · show d + 6 + 1 ≤ R.frames
      omega
    · show 8 + (mq + 11) + (41 * d + 100) ≤ R.locals
      omega
  have hPre : ∀ (vs : List Value) (U : State), U.heap = H → s.WarmedH U.vm → j_PX D gcl pg kN ad cy H.size vs (j_lay kL sc rf ar al) (vs.map (j_tv ad)).toArray U := fun vs U hU9 hW => ⟨⟨rfl, by rw [hU9]; exact hP, va_K.moved hW.alike hK, hD.weaken (fun _ _ _ _ => trivial), by rw [hU9], by rw [hU9]; exact ((hZ.kept hS.2.1).narrow hfree).warm hW⟩, by rw [hU9]; exact vx_Zq.moved hW.alike ((hU.1.kept hS.2.1).narrow hfree), by rw [hU9]; exact vx_Zq.moved hW.alike ((hU.2.1.kept hS.2.1).narrow hfree), hU.2.2.warm hW⟩
  obtain ⟨⟨T1, Nn, g61⟩, g62, g63⟩ := g6 rfl
  have hG : GoodIn gB (wsV own x y1.cls y1 (Jvm.Cond.code y1 cc1 mq ret1 :: gB)) := by
    refine j_good_call gB_good (fun w hw => ?_) g2
    simp only [List.mem_cons, List.not_mem_nil, or_false] at hw
    rcases hw with rfl | rfl | rfl | rfl
    · exact g3
    · exact g62
    · exact g63
    · exact g4
  obtain ⟨hlt, hfa⟩ := j_ob_ok (j_lay_ob (n0 := kN) (sc := sc) (rf := rf) (ar := ar) (al := al) (gX_LK true) hs)
  obtain ⟨As, s1, s2, s3⟩ := j_recv_split (ad := ad) ha
  obtain ⟨i9, hi9, he⟩ := j_ws_at (ad := ad) (cy := cy) (f := j_lay kL sc rf ar al) hlt
  rw [hfa] at he
  rw [s2] at hMet
  rw [s3]
  intro T hT X
  have hf9 : k + 1 ≤ R.cells ∧ n + 6 ≤ R.slots := hR.2.2
  rcases vx_runV (As := As.map (j_tv ad)) (rest := (st.drop (na + 1)).map (j_tv ad)) (g := F0 m pc ls ((As.map (j_tv ad)).reverse ++ .ref (ad a) :: (st.drop (na + 1)).map (j_tv ad))) (p := p) (e := e) (R := R) (below := below) (meth := meth) (locs := locs) (cells := k) (slots := n) ⟨hx, hb, hml, hown, hts⟩ hMet (cwV na hts hG rfl rfl rfl ⟨rfl, g5⟩ hRm) ⟨j_PX_blind, va_recv hK hP g61 he, hPre (.ref a :: As)⟩ rfl (by rw [List.length_map]; exact s1) (hl.1.trans hml) rfl (lv_room (by rw [j_catsum]; exact z1)) (hdec pc _ hi) hf9 T hT X with ⟨v, st₀, t, T', L, h0, X', hL, e1, e2, hF, st9⟩ | ⟨q9, st₀, t, T', L, E9, ce, h0, X', hL, e1, e2, ⟨hE, hp, hd', hF⟩, hce, hcv, hcl, st9⟩
  · exact hF.elim
  · subst hE
    obtain ⟨k1, k2, k3⟩ := vx_keep (A0 := A) (H0 := s.heap) h0 e1 hS (fun q _ hq => hfree q hq) hfree hL hF
    have hcast : (Cond.castable (eN E) (eN E)).before args s = true := va_Nw.use rfl (hU.2.2 _ (by
      have : E = 0 ∨ E = 1 ∨ E = 2 := by omega
      rcases this with rfl | rfl | rfl <;> simp [eG]))
    have W' := hcat p l e R s m args below meth c T'.heap (locs ++ L) (k + 1) (n + 6) Q pc ls ((st.drop (na + 1)).map (j_tv ad)) own (eN E) (eN E) ce q9 pre z suf hown t1 (fun y hy => (t2 y hy).imp id (fun ⟨a1, nm, a2, a3⟩ => ⟨a1, nm, hts _ a2, a3⟩)) t3 t4 (hts _ t5) hcast (by rw [e1]; exact hce) hcv hcl (hk T'.heap (locs ++ L) ls q9 (by rw [e1]; exact hp) (hd'.weaken (fun _ q _ h => hfree q.1 h)) k3 hl.1 hl.2.1)
    obtain ⟨t2, a1, b1⟩ := W' T' rfl X'
    exact ⟨t2, st9.trans a1, b1⟩
end KCX
