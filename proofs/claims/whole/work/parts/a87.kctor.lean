/-! MEMORY THAT GROWS (3): the contract of a constructor, its call, its end. -/
def kPl (G : kG) : Prop := match G with
  | (p, l, e, R, s, m, args, below, meth, c, Q, D, pg, ad, cy, A) => pg = "ClickOrders$Page" ∧ kAO s
theorem kAOA.moved {ty : FieldType} {u U : State} (hvm : u.vm.Alike U.vm) (h : kAOA ty u) : kAOA ty U := by
  obtain ⟨comp, c, k, h1, h2, h3, h4, h5⟩ := arrayOverA_spec h
  obtain ⟨k', hk', he⟩ := hvm.2.2 _ _ h3
  have e1 := va_idx_bare u.vm comp
  have e2 := va_idx_bare U.vm comp
  rw [hvm.bare_eq] at e2
  have hi : (U.vm.classes.findIdx? fun (x : Class) => match x.kind with | .array component _ => component == comp | _ => false) = some c := (e2.symm.trans e1).trans h2
  have hkind : k'.kind = .array comp (.array ty) := by rw [he]; exact h4
  have f1 : U.vm.findClass (FieldType.array ty).toString = some comp := by rw [hvm.findClass]; exact h1
  have f2 : U.vm.findClass ("[" ++ (FieldType.array ty).toString) = some c := by rw [hvm.findClass]; exact h5
  unfold kAOA Cond.before Cond.holds
  simp only [Cond.value]
  rw [f1, Option.bind_some]
  refine (congrArg (fun o : Option Nat => (o.bind (fun c => (U.vm.classes[c]?).map fun (k : Class) => match k.kind with | .array _ ty1 => decide (ty1 = FieldType.array ty) && decide (U.vm.findClass ("[" ++ (FieldType.array ty).toString) = some c) | _ => false) == some true)) hi).trans ?_
  simp [hk', hkind, f2]
theorem kNe_t : ∀ w ∈ kNe, w.onTables = true := by
  intro w hw
  simp only [kNe, List.mem_cons, List.not_mem_nil, or_false] at hw
  rcases hw with rfl | rfl | rfl | rfl | rfl | rfl <;> rfl
theorem kAO.same {u U : State} (hv : u.vm = U.vm) (h : kAO u) : kAO U := ⟨va_AO.moved (by rw [hv]; exact Vm.Alike.refl U.vm) h.1, kAOA.moved (by rw [hv]; exact Vm.Alike.refl U.vm) h.2.1, kAOA.moved (by rw [hv]; exact Vm.Alike.refl U.vm) h.2.2.1, fun w hw => va_Nw.same (kNe_t w hw) hv (h.2.2.2 w hw)⟩
theorem kAO.warm {s U : State} (hW : s.WarmedH U.vm) (h : kAO s) : kAO U := ⟨va_AO.moved hW.alike h.1, kAOA.moved hW.alike h.2.1, kAOA.moved hW.alike h.2.2.1, by
  intro w hw
  have h1 := h.2.2.2 w hw
  simp only [kNe, List.mem_cons, List.not_mem_nil, or_false] at hw
  rcases hw with rfl | rfl | rfl | rfl | rfl | rfl <;> exact va_Nw.warmM hW h1⟩
def k_PU (D : va_G) (ad : Nat → Nat) (cy : Nat → ClassId) (sz N : Nat) (vs : List Value) (f : jM) : Array Value → State → Prop := fun v U => v = (vs.map (j_tv ad)).toArray ∧ va_P D gcl (j_ws (kOl N) ad cy f) U.heap ∧ va_K D gcl (j_cy "ClickOrders$Page" cy kN) U ∧ va_D (fun _ => True) (j_ws (kOl N) ad cy f) ∧ U.heap.size = sz ∧ z_K ad (va_A (j_ws (kOl N) ad cy f) sz) U U.heap ∧ kAO U
theorem k_PU_blind {D : va_G} {ad : Nat → Nat} {cy : Nat → ClassId} {sz N : Nat} {vs : List Value} {f : jM} : FrameBlind (k_PU D ad cy sz N vs f) := fun a U g mk q => by
  obtain ⟨q0, q1, q2, q3, q4, q5, q6⟩ := q
  exact ⟨q0, q1, va_K.moved (u := U) (U := U.calling g mk a) (Vm.Alike.refl U.vm) q2, q3, q4, z_K.same (s := U) (U := U.calling g mk a) rfl q5, kAO.same (u := U) (U := U.calling g mk a) rfl q6⟩
def k_QU (D : va_G) (ad : Nat → Nat) (cy : Nat → ClassId) (A : Nat → Prop) (N' : Nat) (f' : jM) : Array Value → State → Outcome → State → Prop := fun _ st oc t => oc = .returned none ∧ va_P D gcl (j_ws (kOl N') ad cy f') t.heap ∧ va_D A (j_ws (kOl N') ad cy f') ∧ va_F A st t
/-- constructor y, called with vs where N cells are there with f, leaves N' cells with f' -/
def kIm (l : Launch) (y : MethodName) (cc : ByteArray) (mxL fr lo : Nat) (vs : List Value) (N N' sl : Nat) (f f' : jM) : Prop := ∀ (D : va_G) (ad : Nat → Nat) (cy : Nat → ClassId) (sz B0 : Nat), (∀ j, j < 824 → ad (kO j) = B0 + j) → sz = B0 + N → Met l y (Cond.code y cc mxL none :: gB) { frames := fr, cells := N' - N, slots := sl, locals := lo } (k_PU D ad cy sz N vs f) (k_QU D ad cy (va_A (j_ws (kOl N) ad cy f) sz) N' f') (N' - N) sl (va_A (j_ws (kOl N) ad cy f) sz)
def kEn (G : kG) (N N' sl : Nat) (f' : jM) : Prop := match G with
  | (p, l, e, R, s, m, args, below, meth, c, Q, D, pg, ad, cy, A) => meth.sig.returnType = none ∧ Q = MQ below (k_QU D ad cy A N' f') args s (N' - N) sl A
def kBu (G : kG) (B0 : Nat) (co : Nat → Option Instr) (fl : Nat → Option (Nat × Nat × Nat)) (cn : Nat → Option Int32) (own : String) (cc : ByteArray) (mx fr lo N N' sl : Nat) (f' : jM) : Prop := kD G B0 co fl cn own cc mx ∧ kPg G ∧ kRo G fr lo ∧ kRu G (N' - N) sl ∧ kEn G N N' sl f'
theorem k_ctor {l : Launch} {y : MethodName} {cc : ByteArray} {mxL fr lo N N' sl : Nat} {vs : List Value} {f f' : jM} {co : Nat → Option Instr} {fl : Nat → Option (Nat × Nat × Nat)} {cn : Nat → Option Int32} (hy : plainName y.cls = true) (hin : y.name = "<init>") (hn : (lg_sl vs).length ≤ mxL) (hdec : ∀ pc i, co pc = some i → j_dec cc pc i) (hfl : ∀ x q, fl x = some q → j_FL gcl gB y.cls x q) (hcn : ∀ x v, cn x = some v → Jvm.Cond.constant y.cls x v ∈ gB)
    (body : ∀ (G : kG) (B0 : Nat), kBu G B0 co fl cn y.cls cc mxL fr lo N N' sl f' → kU G B0 0 0 0 (j_av vs) [] N f) : kIm l y cc mxL fr lo vs N N' sl f f' := by
  intro D ad cy sz B0 had hsz
  refine Met.ofW (cc := cc) (maxL := mxL) (ret := none) hy rfl ?_
  intro p e s m args below meth c s₁ Bd hml hv
  obtain ⟨rfl, hP, hK, hD0, rfl, hZ, hO⟩ := hv
  have hts := atoms_spec (ws := Cond.code y cc mxL none :: gB) Bd.pre
  have hl := lv_entry (vs.map (j_tv ad)) (n := mxL) (by rw [j_sl_len]; exact hn)
  rw [lg_entry_eq]
  have hl := j_av_has hl
  have hnm : meth.name = "<init>" := (name_of_methodNamed Bd.named Bd.method).1.trans hin
  exact body (p, l, e, (headSpec (Cond.code y cc mxL none :: gB) { frames := fr, cells := N' - N, slots := sl, locals := lo }).room, s, m, _, below, meth, c, _, D, "ClickOrders$Page", ad, cy, va_A (j_ws (kOl N) ad cy f) s.heap.size) B0
    ⟨⟨Bd.exec, Bd.bytes, hml, Bd.notSynchronized, findClass_of_methodNamed Bd.named, fun w hw => hts w (List.mem_cons_of_mem _ hw), hK, hZ, fun q hq => Or.inr hq, hdec, hfl, hcn, had, by omega⟩, ⟨rfl, hO, hnm⟩, ⟨Nat.le_refl _, Nat.le_refl _⟩, ⟨Nat.le_refl _, Nat.le_refl _⟩, ⟨Bd.returns, rfl⟩⟩ (by omega) s.heap [] _ hP hD0.self va_S.rf (by rw [hml]; exact hl)
set_option maxHeartbeats 4000000 in
theorem kU_init {G : kG} {B0 : Nat} {co : Nat → Option Instr} {fl : Nat → Option (Nat × Nat × Nat)} {cn : Nat → Option Int32} {own : String} {cc : ByteArray} {mx k n pc : Nat} {lv : jV} {N : Nat} {f : jM} {x na N' sl fr lo mxL : Nat} {y : MethodName} {cb : ByteArray} {st as rest : List Value} {a : Nat} {f' : jM} (hC : kD G B0 co fl cn own cc mx) (hPg : kPg G ∨ kPl G) (hi : co pc = some (.invokespecial x)) (hM : ∀ l : Launch, kIm l y cb mxL fr lo (.ref a :: as) N N' sl f f') (w1 : Cond.methodLink own x y ∈ gB) (w2 : Cond.instanceMethod y ∈ gB) (w3 : Cond.initialized y.cls ∈ gB) (w4 : Cond.code y cb mxL none ∈ gB) (hin : y.name = "<init>") (hna : as.length = na) (hy : y.cls ≠ "java/lang/invoke/MethodHandle" ∧ y.cls ≠ "java/lang/invoke/VarHandle" ∧ (parseMethodDescriptor y.desc).map (fun d => d.parameters.length) = some na) (hNl : N ≤ 824) (hNN : N ≤ N') (hst : st = as.reverse ++ .ref a :: rest) (hz : Nat.ble (rest.map fun v => v.category).sum 8 = true) (hRo : kRo G (fr + 1) (8 + (mxL + 11) + lo)) (hR : kRu G (k + (N' - N)) (n + sl)) (h : kU G B0 (k + (N' - N)) (n + sl) (pc + 3) lv rest N' f') : kU G B0 k n pc lv st N f := by
  obtain ⟨p, l, e, R, s, m, args, below, meth, c, Q, D, pg, ad, cy, A⟩ := G
  obtain ⟨c1, c2, c3, c4, c5, c6, c7, c8, c9, c10, c11, c12, c13, c14⟩ := hC
  have hpo : pg = "ClickOrders$Page" ∧ kAO s := by
    rcases hPg with z | z
    · exact ⟨z.1, z.2.1⟩
    · exact z
  obtain ⟨rfl, hao⟩ := hpo
  subst hst
  intro hsz H locs ls hP hD hS hl T hT X
  subst hT
  have hszT := k_next c14 X hNl hsz c13 hP
  have hfree : ∀ q : Nat, va_A (j_ws (kOl N) ad cy f) T.heap.size q → A q := fun q hq => by
    rcases hq with ⟨k9, e9, hk9⟩ | hk9
    · exact hD.2 k9 _ hk9
    · exact c9 q (Nat.le_trans hS.1 hk9)
  have hMet := hM l D ad cy T.heap.size B0 c13 hszT
  have h8 := Nat.le_of_ble_eq_true hz
  have hG : GoodIn gB (Cond.code y cb mxL none :: gB) := fun w hw => by
    have hm : w ∈ gB := by
      rcases List.mem_cons.mp hw with rfl | h2
      · exact w4
      · exact h2
    exact ⟨hm, good_of_word (gB_good w hm)⟩
  have hm9 : (as.reverse ++ .ref a :: rest).map (j_tv ad) = (as.map (j_tv ad)).reverse ++ .ref (ad a) :: rest.map (j_tv ad) := by
    rw [List.map_append, List.map_reverse]
    rfl
  rw [hm9]
  obtain ⟨v9, st₀, t, T', L, h0, X', hL, e1, e2, ⟨hv9, hp9, hd9, hz9, hk9⟩, st9⟩ := va_runI (As := as.map (j_tv ad)) (rest := rest.map (j_tv ad)) (b := ad a) (g := F0 m pc ls ((as.map (j_tv ad)).reverse ++ .ref (ad a) :: rest.map (j_tv ad))) (p := p) (e := e) (R := R) (below := below) (meth := meth) (locs := locs) (cells := k) (slots := n) ⟨c1, c2, c3, c5, c6⟩ hMet (cwI na c6 hG rfl rfl rfl (c6 _ w3) (c6 _ w1) (c6 _ w2) hin hy ⟨hRo.1, hRo.2⟩) ⟨k_PU_blind, fun U hU9 hW => ⟨rfl, by rw [hU9]; exact hP, va_K.moved hW.alike c7, hD.weaken (fun _ _ _ _ => trivial), by rw [hU9], by rw [hU9]; exact ((c8.kept hS.2.1).narrow hfree).warm hW, kAO.warm hW hao⟩⟩ rfl (by rw [List.length_map]; exact hna) (hl.1.trans c3) rfl (lv_room (by rw [j_catsum]; exact h8)) (c10 pc _ hi) hR T rfl X
  cases hv9
  rw [h0] at hz9 hk9
  have k2 := h (by omega) T'.heap (locs ++ L) ls (by rw [e1]; exact hp9) (hd9.weaken (fun _ q _ h => hfree q.1 h))
    ⟨Nat.le_trans hS.1 (by rw [e1]; exact hz9), fun q h1 h2 => by rw [e1, hk9 q (Nat.lt_of_lt_of_le h1 hS.1) (fun z => h2 (hfree q z))]; exact hS.2.1 q h1 h2, fun q hq => by
      rcases List.mem_append.mp hq with h | h
      · exact hS.2.2 q h
      · exact hfree _ (hL q h)⟩ hl
  obtain ⟨t2, a1, b1⟩ := k2 T' rfl X'
  exact ⟨t2, st9 t2 a1, b1⟩
set_option maxHeartbeats 4000000 in
theorem kU_initN {G : kG} {B0 : Nat} {co : Nat → Option Instr} {fl : Nat → Option (Nat × Nat × Nat)} {cn : Nat → Option Int32} {own : String} {cc : ByteArray} {mx k n pc : Nat} {lv : jV} {N : Nat} {f : jM} {x na N' sl fr lo mxL : Nat} {y : MethodName} {cb : ByteArray} {st as rest : List Value} {a : Nat} {f' : jM} (hC : kD G B0 co fl cn own cc mx) (hPg : kPg G ∨ kPl G) (hi : co pc = some (.invokespecial x)) (hM : ∀ l : Launch, kIm l y cb mxL fr lo (.ref a :: as) N N' sl f f') (w1 : Cond.methodLinkNest own x y "ClickOrders" ∈ kNe) (w2 : Cond.instanceMethod y ∈ gB) (w3 : Cond.initialized y.cls ∈ gB) (w4 : Cond.code y cb mxL none ∈ gB) (hin : y.name = "<init>") (hna : as.length = na) (hy : y.cls ≠ "java/lang/invoke/MethodHandle" ∧ y.cls ≠ "java/lang/invoke/VarHandle" ∧ (parseMethodDescriptor y.desc).map (fun d => d.parameters.length) = some na) (hNl : N ≤ 824) (hNN : N ≤ N') (hst : st = as.reverse ++ .ref a :: rest) (hz : Nat.ble (rest.map fun v => v.category).sum 8 = true) (hRo : kRo G (fr + 1) (8 + (mxL + 11) + lo)) (hR : kRu G (k + (N' - N)) (n + sl)) (h : kU G B0 (k + (N' - N)) (n + sl) (pc + 3) lv rest N' f') : kU G B0 k n pc lv st N f := by
  obtain ⟨p, l, e, R, s, m, args, below, meth, c, Q, D, pg, ad, cy, A⟩ := G
  obtain ⟨c1, c2, c3, c4, c5, c6, c7, c8, c9, c10, c11, c12, c13, c14⟩ := hC
  have hpo : pg = "ClickOrders$Page" ∧ kAO s := by
    rcases hPg with z | z
    · exact ⟨z.1, z.2.1⟩
    · exact z
  obtain ⟨rfl, hao⟩ := hpo
  subst hst
  intro hsz H locs ls hP hD hS hl T hT X
  subst hT
  have hszT := k_next c14 X hNl hsz c13 hP
  have hfree : ∀ q : Nat, va_A (j_ws (kOl N) ad cy f) T.heap.size q → A q := fun q hq => by
    rcases hq with ⟨k9, e9, hk9⟩ | hk9
    · exact hD.2 k9 _ hk9
    · exact c9 q (Nat.le_trans hS.1 hk9)
  have hMet := hM l D ad cy T.heap.size B0 c13 hszT
  have h8 := Nat.le_of_ble_eq_true hz
  have hG : GoodIn gB (Cond.code y cb mxL none :: gB) := fun w hw => by
    have hm : w ∈ gB := by
      rcases List.mem_cons.mp hw with rfl | h2
      · exact w4
      · exact h2
    exact ⟨hm, good_of_word (gB_good w hm)⟩
  have hm9 : (as.reverse ++ .ref a :: rest).map (j_tv ad) = (as.map (j_tv ad)).reverse ++ .ref (ad a) :: rest.map (j_tv ad) := by
    rw [List.map_append, List.map_reverse]
    rfl
  rw [hm9]
  obtain ⟨v9, st₀, t, T', L, h0, X', hL, e1, e2, ⟨hv9, hp9, hd9, hz9, hk9⟩, st9⟩ := va_runIN (host := "ClickOrders") (As := as.map (j_tv ad)) (rest := rest.map (j_tv ad)) (b := ad a) (g := F0 m pc ls ((as.map (j_tv ad)).reverse ++ .ref (ad a) :: rest.map (j_tv ad))) (p := p) (e := e) (R := R) (below := below) (meth := meth) (locs := locs) (cells := k) (slots := n) ⟨c1, c2, c3, c5, c6⟩ hMet ⟨va_cnB na c6 hG rfl rfl rfl (hao.2.2.2 _ w1) (c6 _ w3) hy ⟨hRo.1, hRo.2⟩, hin, c6 _ w2⟩ ⟨k_PU_blind, fun U hU9 hW => ⟨rfl, by rw [hU9]; exact hP, va_K.moved hW.alike c7, hD.weaken (fun _ _ _ _ => trivial), by rw [hU9], by rw [hU9]; exact ((c8.kept hS.2.1).narrow hfree).warm hW, kAO.warm hW hao⟩⟩ rfl (by rw [List.length_map]; exact hna) (hl.1.trans c3) rfl (lv_room (by rw [j_catsum]; exact h8)) (c10 pc _ hi) hR T rfl X
  cases hv9
  rw [h0] at hz9 hk9
  have k2 := h (by omega) T'.heap (locs ++ L) ls (by rw [e1]; exact hp9) (hd9.weaken (fun _ q _ h => hfree q.1 h))
    ⟨Nat.le_trans hS.1 (by rw [e1]; exact hz9), fun q h1 h2 => by rw [e1, hk9 q (Nat.lt_of_lt_of_le h1 hS.1) (fun z => h2 (hfree q z))]; exact hS.2.1 q h1 h2, fun q hq => by
      rcases List.mem_append.mp hq with h | h
      · exact hS.2.2 q h
      · exact hfree _ (hL q h)⟩ hl
  obtain ⟨t2, a1, b1⟩ := k2 T' rfl X'
  exact ⟨t2, st9 t2 a1, b1⟩
section KUV
variable {G : kG} {B0 : Nat} {co : Nat → Option Instr} {fl : Nat → Option (Nat × Nat × Nat)} {cn : Nat → Option Int32} {own : String} {cc : ByteArray} {mx k n pc : Nat} {lv : jV} {r : List Value} {N : Nat} {f : jM}
theorem kU_ret {N0 sl : Nat} (hC : kD G B0 co fl cn own cc mx) (hi : co pc = some .return_) (hE : kEn G N0 N sl f) : kU G B0 (N - N0) sl pc lv [] N f := by
  obtain ⟨p, l, e, R, s, m, args, below, meth, c, Q, D, pg, ad, cy, A⟩ := G
  obtain ⟨c1, c2, c3, c4, c5, c6, c7, c8, c9, c10, c11, c12, c13, c14⟩ := hC
  obtain ⟨hr, rfl⟩ := hE
  intro hsz H locs ls hP hD hS hl
  exact W.vret c1 c2 hr (fun t ht hW => ⟨rfl, by rw [ht]; exact hP, hD, hS.F ht⟩) hS.2.2 (c10 pc _ hi) c4
end KUV
