/-! FRAMES of the law and of its helpers: kV, kW say that the machine, with this memory, these locals and this stack, comes to Q. -/
abbrev kL : jL := g_L (gX true)
abbrev kN : List Nat := g_n (gX true)
abbrev kG := Program × Launch × Env × Room × State × MethodId × Array Value × List Frame × Method × Code × (State → Prop) × va_G × String × (Nat → Nat) × (Nat → ClassId) × (Nat → Prop)
def kC (G : kG) (co : Nat → Option Instr) (own : String) (cc : ByteArray) (mx : Nat) : Prop := match G with
  | (p, l, e, R, s, m, args, below, meth, c, Q, D, pg, ad, cy, A) => p.tables.exec = Jvm.exec ∧ c.code = cc ∧ c.maxLocals = mx ∧ meth.locks = false ∧ s.vm.findClass own = some m.cls ∧ (∀ w ∈ gB, w.before args s = true) ∧ va_K D gcl (j_cy pg cy kN) s ∧ z_K ad A s s.heap ∧ z_U A s s.heap ∧ (∀ q, s.heap.size ≤ q → A q) ∧ (∀ pc i, co pc = some i → j_dec cc pc i)
def kV (G : kG) (k n pc : Nat) (lv : jV) (st : List Value) (sc : jSc) (rf : jRf) (ar : jSc) (al : jAl) : Prop := match G with
  | (p, l, e, R, s, m, args, below, meth, c, Q, D, pg, ad, cy, A) => ∀ (H : Heap) (locs : List Loc) (ls : Array Slot), va_P D gcl (j_ws kN ad cy (j_lay kL sc rf ar al)) H → va_D A (j_ws kN ad cy (j_lay kL sc rf ar al)) → va_S A s.heap H locs → j_has ad ls c.maxLocals lv → W p l e R s m args below meth c H locs k n Q (F0 m pc ls (st.map (j_tv ad)))
def kW (G : kG) (k n pc : Nat) (vs : List (Option Value)) (st : List Value) (sc : jSc) (rf : jRf) (ar : jSc) (al : jAl) : Prop := ∀ lv : jV, l_ag vs lv → kV G k n pc lv st sc rf ar al
section KWS
variable {G : kG} {co : Nat → Option Instr} {own : String} {cc : ByteArray} {mx k n pc pc' : Nat} {vs : List (Option Value)} {r : List Value} {sc : jSc} {rf : jRf} {ar : jSc} {al : jAl}
theorem kV_st (hC : kC G co own cc mx) {lv : jV} {i : Instr} (hi : co pc = some i) (h2 : j_inv i = none) (h : j_tx kL mx (fun _ => none) (fun _ => none) (fun _ => 0) i pc lv r sc rf ar al (fun pc' lv' st' sc' rf' ar' al' => kV G k n pc' lv' st' sc' rf' ar' al')) : kV G k n pc lv r sc rf ar al := by
  obtain ⟨p, l, e, R, s, m, args, below, meth, c, Q, D, pg, ad, cy, A⟩ := G
  obtain ⟨c1, c2, c3, c4, c5, c6, c7, c8, c9, c10, c11⟩ := hC
  obtain ⟨pc', lv', st', sc', rf', ar', al', hs, hk⟩ := j_tx_ok (n0 := kN) (gX_LK true) h
  intro H locs ls hP hD hS hl
  have hl2 : j_has ad ls mx lv := by
    have := hl
    rw [c3] at this
    exact this
  exact j_step_ok (gX_nd true) c1 c2 c5 c6 (fun x q z => by cases z) (fun x q z => by cases z) c7 hP hD c8 hS hl2 (c11 pc i hi) (fun x => j_NX0) c3 (fun z => by obtain ⟨x, rfl | rfl⟩ := z <;> cases h2) hs (fun H' locs' ls' hP' hD' hS' hl' => hk H' locs' ls' hP' hD' hS' (by rw [c3]; exact hl'))
theorem kl_iconst {nn : Int} {v : Int32} (hC : kC G co own cc mx) (hi : co pc = some (.iconst nn)) (hc : Int32.ofInt nn = v) (hp : pc + 1 = pc') (h : kW G k n pc' vs (.int v :: r) sc rf ar al) : kW G k n pc vs (r) sc rf ar al := by
  subst hp
  intro lv hv
  refine kV_st hC hi rfl ?_
  subst hc
  exact h lv hv
theorem kl_bipush {nn : Int} {v : Int32} (hC : kC G co own cc mx) (hi : co pc = some (.bipush nn)) (hc : (Int8.ofInt nn).toInt32 = v) (hp : pc + 2 = pc') (h : kW G k n pc' vs (.int v :: r) sc rf ar al) : kW G k n pc vs (r) sc rf ar al := by
  subst hp
  intro lv hv
  refine kV_st hC hi rfl ?_
  subst hc
  exact h lv hv
theorem kl_sipush {nn : Int} {v : Int32} (hC : kC G co own cc mx) (hi : co pc = some (.sipush nn)) (hc : (Int16.ofInt nn).toInt32 = v) (hp : pc + 3 = pc') (h : kW G k n pc' vs (.int v :: r) sc rf ar al) : kW G k n pc vs (r) sc rf ar al := by
  subst hp
  intro lv hv
  refine kV_st hC hi rfl ?_
  subst hc
  exact h lv hv
theorem kl_lconst {nn : Fin 2} (hC : kC G co own cc mx) (hi : co pc = some (.lconst nn))  (hp : pc + 1 = pc') (h : kW G k n pc' vs (.long (Int64.ofNat (nn : Nat)) :: r) sc rf ar al) : kW G k n pc vs (r) sc rf ar al := by
  subst hp
  intro lv hv
  refine kV_st hC hi rfl ?_
  exact h lv hv
theorem kl_iload_n {kk : Fin 4} {v : Int32} (hC : kC G co own cc mx) (hi : co pc = some (.iload_n kk)) (hl : l_at vs (kk : Nat) = some (.int v)) (hp : pc + 1 = pc') (h : kW G k n pc' vs (.int v :: r) sc rf ar al) : kW G k n pc vs (r) sc rf ar al := by
  subst hp
  intro lv hv
  refine kV_st hC hi rfl ?_
  simp only [j_tx, hv _ _ hl]
  exact h lv hv
theorem kl_iload {kk : Nat} {v : Int32} (hC : kC G co own cc mx) (hi : co pc = some (.iload kk)) (hl : l_at vs kk = some (.int v)) (hp : pc + 2 = pc') (h : kW G k n pc' vs (.int v :: r) sc rf ar al) : kW G k n pc vs (r) sc rf ar al := by
  subst hp
  intro lv hv
  refine kV_st hC hi rfl ?_
  simp only [j_tx, hv _ _ hl]
  exact h lv hv
theorem kl_lload_n {kk : Fin 4} {v : Int64} (hC : kC G co own cc mx) (hi : co pc = some (.lload_n kk)) (hl : l_at vs (kk : Nat) = some (.long v)) (hp : pc + 1 = pc') (h : kW G k n pc' vs (.long v :: r) sc rf ar al) : kW G k n pc vs (r) sc rf ar al := by
  subst hp
  intro lv hv
  refine kV_st hC hi rfl ?_
  simp only [j_tx, hv _ _ hl]
  exact h lv hv
theorem kl_lload {kk : Nat} {v : Int64} (hC : kC G co own cc mx) (hi : co pc = some (.lload kk)) (hl : l_at vs kk = some (.long v)) (hp : pc + 2 = pc') (h : kW G k n pc' vs (.long v :: r) sc rf ar al) : kW G k n pc vs (r) sc rf ar al := by
  subst hp
  intro lv hv
  refine kV_st hC hi rfl ?_
  simp only [j_tx, hv _ _ hl]
  exact h lv hv
theorem kl_aload_n {kk : Fin 4} {v : Nat} (hC : kC G co own cc mx) (hi : co pc = some (.aload_n kk)) (hl : l_at vs (kk : Nat) = some (.ref v)) (hp : pc + 1 = pc') (h : kW G k n pc' vs (.ref v :: r) sc rf ar al) : kW G k n pc vs (r) sc rf ar al := by
  subst hp
  intro lv hv
  refine kV_st hC hi rfl ?_
  simp only [j_tx, hv _ _ hl]
  exact h lv hv
theorem kl_aload {kk : Nat} {v : Nat} (hC : kC G co own cc mx) (hi : co pc = some (.aload kk)) (hl : l_at vs kk = some (.ref v)) (hp : pc + 2 = pc') (h : kW G k n pc' vs (.ref v :: r) sc rf ar al) : kW G k n pc vs (r) sc rf ar al := by
  subst hp
  intro lv hv
  refine kV_st hC hi rfl ?_
  simp only [j_tx, hv _ _ hl]
  exact h lv hv
theorem kl_istore_n {kk : Fin 4} {v : Int32} {vs2 : List (Option Value)} (hC : kC G co own cc mx) (hi : co pc = some (.istore_n kk)) (hm : Nat.blt (kk : Nat) (mx) = true) (ho : l_ok vs (kk : Nat) = true) (he : l_st vs (kk : Nat) (some (.int v)) = vs2) (hp : pc + 1 = pc') (h : kW G k n pc' vs2 (r) sc rf ar al) : kW G k n pc vs (.int v :: r) sc rf ar al := by
  subst hp
  intro lv hv
  refine kV_st hC hi rfl ?_
  subst he
  exact ⟨Nat.le_of_ble_eq_true hm, h _ (l_ag_st hv ho _)⟩
theorem kl_istore {kk : Nat} {v : Int32} {vs2 : List (Option Value)} (hC : kC G co own cc mx) (hi : co pc = some (.istore kk)) (hm : Nat.blt kk (mx) = true) (ho : l_ok vs kk = true) (he : l_st vs kk (some (.int v)) = vs2) (hp : pc + 2 = pc') (h : kW G k n pc' vs2 (r) sc rf ar al) : kW G k n pc vs (.int v :: r) sc rf ar al := by
  subst hp
  intro lv hv
  refine kV_st hC hi rfl ?_
  subst he
  exact ⟨Nat.le_of_ble_eq_true hm, h _ (l_ag_st hv ho _)⟩
theorem kl_astore_n {kk : Fin 4} {v : Nat} {vs2 : List (Option Value)} (hC : kC G co own cc mx) (hi : co pc = some (.astore_n kk)) (hm : Nat.blt (kk : Nat) (mx) = true) (ho : l_ok vs (kk : Nat) = true) (he : l_st vs (kk : Nat) (some (.ref v)) = vs2) (hp : pc + 1 = pc') (h : kW G k n pc' vs2 (r) sc rf ar al) : kW G k n pc vs (.ref v :: r) sc rf ar al := by
  subst hp
  intro lv hv
  refine kV_st hC hi rfl ?_
  subst he
  exact ⟨Nat.le_of_ble_eq_true hm, h _ (l_ag_st hv ho _)⟩
theorem kl_astore {kk : Nat} {v : Nat} {vs2 : List (Option Value)} (hC : kC G co own cc mx) (hi : co pc = some (.astore kk)) (hm : Nat.blt kk (mx) = true) (ho : l_ok vs kk = true) (he : l_st vs kk (some (.ref v)) = vs2) (hp : pc + 2 = pc') (h : kW G k n pc' vs2 (r) sc rf ar al) : kW G k n pc vs (.ref v :: r) sc rf ar al := by
  subst hp
  intro lv hv
  refine kV_st hC hi rfl ?_
  subst he
  exact ⟨Nat.le_of_ble_eq_true hm, h _ (l_ag_st hv ho _)⟩
theorem kl_lstore_n {kk : Fin 4} {v : Int64} {vs2 : List (Option Value)} (hC : kC G co own cc mx) (hi : co pc = some (.lstore_n kk)) (hm : Nat.blt ((kk : Nat) + 1) (mx) = true) (ho : l_ok vs (kk : Nat) = true) (he : l_st (l_st vs ((kk : Nat) + 1) none) (kk : Nat) (some (.long v)) = vs2) (hp : pc + 1 = pc') (h : kW G k n pc' vs2 (r) sc rf ar al) : kW G k n pc vs (.long v :: r) sc rf ar al := by
  subst hp
  intro lv hv
  refine kV_st hC hi rfl ?_
  subst he
  exact ⟨Nat.le_of_ble_eq_true hm, h _ (l_ag_st2 hv ho _)⟩
theorem kl_iinc {kk : Nat} {nn : Int} {v c : Int32} {vs2 : List (Option Value)} (hC : kC G co own cc mx) (hi : co pc = some (.iinc kk nn)) (hl : l_at vs kk = some (.int v)) (hm : Nat.blt kk (mx) = true) (ho : l_ok vs kk = true) (hc : Int32.ofInt nn = c) (he : l_st vs kk (some (.int (v + c))) = vs2) (hp : pc + 3 = pc') (h : kW G k n pc' vs2 (r) sc rf ar al) : kW G k n pc vs (r) sc rf ar al := by
  subst hp
  intro lv hv
  refine kV_st hC hi rfl ?_
  subst hc
  subst he
  simp only [j_tx, hv _ _ hl]
  exact ⟨Nat.le_of_ble_eq_true hm, h _ (l_ag_st hv ho _)⟩
theorem kl_iadd {x y : Int32} (hC : kC G co own cc mx) (hi : co pc = some (.iadd))  (hp : pc + 1 = pc') (h : kW G k n pc' vs (.int (x + y) :: r) sc rf ar al) : kW G k n pc vs (.int y :: .int x :: r) sc rf ar al := by
  subst hp
  intro lv hv
  refine kV_st hC hi rfl ?_
  exact h lv hv
theorem kl_isub {x y : Int32} (hC : kC G co own cc mx) (hi : co pc = some (.isub))  (hp : pc + 1 = pc') (h : kW G k n pc' vs (.int (x - y) :: r) sc rf ar al) : kW G k n pc vs (.int y :: .int x :: r) sc rf ar al := by
  subst hp
  intro lv hv
  refine kV_st hC hi rfl ?_
  exact h lv hv
theorem kl_imul {x y : Int32} (hC : kC G co own cc mx) (hi : co pc = some (.imul))  (hp : pc + 1 = pc') (h : kW G k n pc' vs (.int (x * y) :: r) sc rf ar al) : kW G k n pc vs (.int y :: .int x :: r) sc rf ar al := by
  subst hp
  intro lv hv
  refine kV_st hC hi rfl ?_
  exact h lv hv
theorem kl_iand {x y : Int32} (hC : kC G co own cc mx) (hi : co pc = some (.iand))  (hp : pc + 1 = pc') (h : kW G k n pc' vs (.int (x &&& y) :: r) sc rf ar al) : kW G k n pc vs (.int y :: .int x :: r) sc rf ar al := by
  subst hp
  intro lv hv
  refine kV_st hC hi rfl ?_
  exact h lv hv
theorem kl_ior {x y : Int32} (hC : kC G co own cc mx) (hi : co pc = some (.ior))  (hp : pc + 1 = pc') (h : kW G k n pc' vs (.int (x ||| y) :: r) sc rf ar al) : kW G k n pc vs (.int y :: .int x :: r) sc rf ar al := by
  subst hp
  intro lv hv
  refine kV_st hC hi rfl ?_
  exact h lv hv
theorem kl_i2l {x : Int32} (hC : kC G co own cc mx) (hi : co pc = some (.i2l))  (hp : pc + 1 = pc') (h : kW G k n pc' vs (.long x.toInt64 :: r) sc rf ar al) : kW G k n pc vs (.int x :: r) sc rf ar al := by
  subst hp
  intro lv hv
  refine kV_st hC hi rfl ?_
  exact h lv hv
theorem kl_lcmp {x y : Int64} (hC : kC G co own cc mx) (hi : co pc = some (.lcmp))  (hp : pc + 1 = pc') (h : kW G k n pc' vs (.int (lg_cmp x y) :: r) sc rf ar al) : kW G k n pc vs (.long y :: .long x :: r) sc rf ar al := by
  subst hp
  intro lv hv
  refine kV_st hC hi rfl ?_
  exact h lv hv
theorem kl_dup {v : Value} (hC : kC G co own cc mx) (hi : co pc = some (.dup)) (hc : v.category = 1) (hp : pc + 1 = pc') (h : kW G k n pc' vs (v :: v :: r) sc rf ar al) : kW G k n pc vs (v :: r) sc rf ar al := by
  subst hp
  intro lv hv
  refine kV_st hC hi rfl ?_
  exact ⟨hc, h lv hv⟩
theorem kl_pop {v : Value} (hC : kC G co own cc mx) (hi : co pc = some (.pop)) (hc : v.category = 1) (hp : pc + 1 = pc') (h : kW G k n pc' vs (r) sc rf ar al) : kW G k n pc vs (v :: r) sc rf ar al := by
  subst hp
  intro lv hv
  refine kV_st hC hi rfl ?_
  exact ⟨hc, h lv hv⟩
theorem kl_goto {o : Int} {t : Nat} (hC : kC G co own cc mx) (hi : co pc = some (.goto o)) (hb : j_br pc o = some t) (h : kW G k n t vs r sc rf ar al) : kW G k n pc vs r sc rf ar al := by
  intro lv hv
  refine kV_st hC hi rfl ?_
  simp only [j_tx, hb]
  exact h lv hv
theorem kl_if_eq {x : Int32} {o : Int} {t : Nat} (hC : kC G co own cc mx) (hi : co pc = some (.ifCond .eq o)) (hb : j_br pc o = some t) (hp : pc + 3 = pc') (h1 : x = 0 → kW G k n t vs r sc rf ar al) (h2 : ¬ (x = 0) → kW G k n pc' vs r sc rf ar al) : kW G k n pc vs (.int x :: r) sc rf ar al := by
  subst hp
  intro lv hv
  refine kV_st hC hi rfl ?_
  simp only [j_tx, hb]
  exact ⟨fun z => h1 z lv hv, fun z => h2 z lv hv⟩
theorem kl_if_ne {x : Int32} {o : Int} {t : Nat} (hC : kC G co own cc mx) (hi : co pc = some (.ifCond .ne o)) (hb : j_br pc o = some t) (hp : pc + 3 = pc') (h1 : x = 0 → kW G k n pc' vs r sc rf ar al) (h2 : ¬ x = 0 → kW G k n t vs r sc rf ar al) : kW G k n pc vs (.int x :: r) sc rf ar al := by
  subst hp
  intro lv hv
  refine kV_st hC hi rfl ?_
  simp only [j_tx, hb]
  refine ⟨fun z => h2 z lv hv, fun z => ?_⟩
  by_cases e : x = 0
  · exact h1 e lv hv
  · exact absurd e z
theorem kl_if_lt {x : Int32} {o : Int} {t : Nat} (hC : kC G co own cc mx) (hi : co pc = some (.ifCond .lt o)) (hb : j_br pc o = some t) (hp : pc + 3 = pc') (h1 : x < 0 → kW G k n t vs r sc rf ar al) (h2 : ¬ (x < 0) → kW G k n pc' vs r sc rf ar al) : kW G k n pc vs (.int x :: r) sc rf ar al := by
  subst hp
  intro lv hv
  refine kV_st hC hi rfl ?_
  simp only [j_tx, hb]
  exact ⟨fun z => h1 z lv hv, fun z => h2 z lv hv⟩
theorem kl_if_ge {x : Int32} {o : Int} {t : Nat} (hC : kC G co own cc mx) (hi : co pc = some (.ifCond .ge o)) (hb : j_br pc o = some t) (hp : pc + 3 = pc') (h1 : 0 ≤ x → kW G k n t vs r sc rf ar al) (h2 : ¬ (0 ≤ x) → kW G k n pc' vs r sc rf ar al) : kW G k n pc vs (.int x :: r) sc rf ar al := by
  subst hp
  intro lv hv
  refine kV_st hC hi rfl ?_
  simp only [j_tx, hb]
  exact ⟨fun z => h1 z lv hv, fun z => h2 z lv hv⟩
theorem kl_if_gt {x : Int32} {o : Int} {t : Nat} (hC : kC G co own cc mx) (hi : co pc = some (.ifCond .gt o)) (hb : j_br pc o = some t) (hp : pc + 3 = pc') (h1 : 0 < x → kW G k n t vs r sc rf ar al) (h2 : ¬ (0 < x) → kW G k n pc' vs r sc rf ar al) : kW G k n pc vs (.int x :: r) sc rf ar al := by
  subst hp
  intro lv hv
  refine kV_st hC hi rfl ?_
  simp only [j_tx, hb]
  exact ⟨fun z => h1 z lv hv, fun z => h2 z lv hv⟩
theorem kl_if_le {x : Int32} {o : Int} {t : Nat} (hC : kC G co own cc mx) (hi : co pc = some (.ifCond .le o)) (hb : j_br pc o = some t) (hp : pc + 3 = pc') (h1 : x ≤ 0 → kW G k n t vs r sc rf ar al) (h2 : ¬ (x ≤ 0) → kW G k n pc' vs r sc rf ar al) : kW G k n pc vs (.int x :: r) sc rf ar al := by
  subst hp
  intro lv hv
  refine kV_st hC hi rfl ?_
  simp only [j_tx, hb]
  exact ⟨fun z => h1 z lv hv, fun z => h2 z lv hv⟩
theorem kl_ic_eq {x y : Int32} {o : Int} {t : Nat} (hC : kC G co own cc mx) (hi : co pc = some (.if_icmp .eq o)) (hb : j_br pc o = some t) (hp : pc + 3 = pc') (h1 : x = y → kW G k n t vs r sc rf ar al) (h2 : ¬ (x = y) → kW G k n pc' vs r sc rf ar al) : kW G k n pc vs (.int y :: .int x :: r) sc rf ar al := by
  subst hp
  intro lv hv
  refine kV_st hC hi rfl ?_
  simp only [j_tx, hb]
  exact ⟨fun z => h1 z lv hv, fun z => h2 z lv hv⟩
theorem kl_ic_ne {x y : Int32} {o : Int} {t : Nat} (hC : kC G co own cc mx) (hi : co pc = some (.if_icmp .ne o)) (hb : j_br pc o = some t) (hp : pc + 3 = pc') (h1 : x = y → kW G k n pc' vs r sc rf ar al) (h2 : ¬ x = y → kW G k n t vs r sc rf ar al) : kW G k n pc vs (.int y :: .int x :: r) sc rf ar al := by
  subst hp
  intro lv hv
  refine kV_st hC hi rfl ?_
  simp only [j_tx, hb]
  refine ⟨fun z => h2 z lv hv, fun z => ?_⟩
  by_cases e : x = y
  · exact h1 e lv hv
  · exact absurd e z
theorem kl_ic_lt {x y : Int32} {o : Int} {t : Nat} (hC : kC G co own cc mx) (hi : co pc = some (.if_icmp .lt o)) (hb : j_br pc o = some t) (hp : pc + 3 = pc') (h1 : x < y → kW G k n t vs r sc rf ar al) (h2 : ¬ (x < y) → kW G k n pc' vs r sc rf ar al) : kW G k n pc vs (.int y :: .int x :: r) sc rf ar al := by
  subst hp
  intro lv hv
  refine kV_st hC hi rfl ?_
  simp only [j_tx, hb]
  exact ⟨fun z => h1 z lv hv, fun z => h2 z lv hv⟩
theorem kl_ic_ge {x y : Int32} {o : Int} {t : Nat} (hC : kC G co own cc mx) (hi : co pc = some (.if_icmp .ge o)) (hb : j_br pc o = some t) (hp : pc + 3 = pc') (h1 : y ≤ x → kW G k n t vs r sc rf ar al) (h2 : ¬ (y ≤ x) → kW G k n pc' vs r sc rf ar al) : kW G k n pc vs (.int y :: .int x :: r) sc rf ar al := by
  subst hp
  intro lv hv
  refine kV_st hC hi rfl ?_
  simp only [j_tx, hb]
  exact ⟨fun z => h1 z lv hv, fun z => h2 z lv hv⟩
theorem kl_ic_gt {x y : Int32} {o : Int} {t : Nat} (hC : kC G co own cc mx) (hi : co pc = some (.if_icmp .gt o)) (hb : j_br pc o = some t) (hp : pc + 3 = pc') (h1 : y < x → kW G k n t vs r sc rf ar al) (h2 : ¬ (y < x) → kW G k n pc' vs r sc rf ar al) : kW G k n pc vs (.int y :: .int x :: r) sc rf ar al := by
  subst hp
  intro lv hv
  refine kV_st hC hi rfl ?_
  simp only [j_tx, hb]
  exact ⟨fun z => h1 z lv hv, fun z => h2 z lv hv⟩
theorem kl_ic_le {x y : Int32} {o : Int} {t : Nat} (hC : kC G co own cc mx) (hi : co pc = some (.if_icmp .le o)) (hb : j_br pc o = some t) (hp : pc + 3 = pc') (h1 : x ≤ y → kW G k n t vs r sc rf ar al) (h2 : ¬ (x ≤ y) → kW G k n pc' vs r sc rf ar al) : kW G k n pc vs (.int y :: .int x :: r) sc rf ar al := by
  subst hp
  intro lv hv
  refine kV_st hC hi rfl ?_
  simp only [j_tx, hb]
  exact ⟨fun z => h1 z lv hv, fun z => h2 z lv hv⟩
theorem kl_laload {j : Int32} {a N9 : Nat} {v : Int64} (hC : kC G co own cc mx) (hi : co pc = some (.laload)) (hs : (kL).1 a = .inr (1, N9)) (hb : iB j N9) (he : al a (iN j) = v) (hp : pc + 1 = pc') (h : kW G k n pc' vs (.long v :: r) sc rf ar al) : kW G k n pc vs (.int j :: .ref a :: r) sc rf ar al := by
  subst hp
  intro lv hv
  refine kV_st hC hi rfl ?_
  subst he
  simp only [j_tx, hs]
  exact ⟨hb, h lv hv⟩
theorem kl_lastore {j : Int32} {x : Int64} {a N9 : Nat} (hC : kC G co own cc mx) (hi : co pc = some (.lastore)) (hs : (kL).1 a = .inr (1, N9)) (hb : iB j N9) (hp : pc + 1 = pc') (h : kW G k n pc' vs (r) sc rf ar (j_u2 al a (iN j) x)) : kW G k n pc vs (.long x :: .int j :: .ref a :: r) sc rf ar al := by
  subst hp
  intro lv hv
  refine kV_st hC hi rfl ?_
  simp only [j_tx, hs]
  exact ⟨hb, h lv hv⟩
theorem kl_tsw {x : Int32} {dd lo hh : Int} {os : Array Int} {td : Nat} (hC : kC G co own cc mx) (hi : co pc = some (.tableswitch dd lo hh os)) (hl : hh = lo + os.size - 1) (hb : j_br pc dd = some td) (hd : (∀ j : Nat, j < os.size → ¬ x.toInt = lo + j) → kW G k n td vs r sc rf ar al) (hk : ∀ (j : Nat) (o : Int), os[j]? = some o → x.toInt = lo + j → ∃ t, j_br pc o = some t ∧ kW G k n t vs r sc rf ar al) : kW G k n pc vs (.int x :: r) sc rf ar al := by
  intro lv hv
  refine kV_st hC hi rfl ?_
  simp only [j_tx, hb]
  refine ⟨fun z => hd (fun j hj e => by omega) lv hv, fun z => ?_⟩
  have hj : (x.toInt - lo).toNat < os.size := by omega
  have e1 : os[(x.toInt - lo).toNat]? = some os[(x.toInt - lo).toNat] := Array.getElem?_eq_getElem hj
  obtain ⟨t, h1, h2⟩ := hk _ _ e1 (by omega)
  simp only [e1, h1]
  exact h2 lv hv
end KWS
