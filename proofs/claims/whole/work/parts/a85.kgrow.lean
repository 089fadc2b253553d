/-! MEMORY THAT GROWS: the cells in the order of their making. -/
def kO (j : Nat) : Nat := if j < 89 then 734 + j else if j < 823 then j - 89 else j
def kOl (N : Nat) : List Nat := (List.range N).map kO
theorem kO_inj {i j : Nat} (hi : i < 824) (hj : j < 824) (h : kO i = kO j) : i = j := by
  unfold kO at h
  split at h <;> split at h <;> (try split at h) <;> (try split at h) <;> omega
theorem kOl_s (N : Nat) : kOl (N + 1) = kOl N ++ [kO N] := by
  unfold kOl
  rw [List.range_succ, List.map_append]
  rfl
theorem kOl_in {N a : Nat} : a ∈ kOl N ↔ ∃ j, j < N ∧ kO j = a := by
  unfold kOl
  rw [List.mem_map]
  exact ⟨fun ⟨j, h1, h2⟩ => ⟨j, List.mem_range.mp h1, h2⟩, fun ⟨j, h1, h2⟩ => ⟨j, List.mem_range.mpr h1, h2⟩⟩
theorem kOl_ni {N : Nat} (h : N < 824) : kO N ∉ kOl N := fun z => by
  obtain ⟨j, h1, h2⟩ := kOl_in.mp z
  have := kO_inj (by omega) h h2
  omega
theorem kOl_nd : ∀ N, N ≤ 824 → (kOl N).Nodup
  | 0, _ => List.nodup_nil
  | N + 1, h => by
    rw [kOl_s, List.nodup_append]
    refine ⟨kOl_nd N (by omega), by simp, fun a ha b hb => ?_⟩
    rw [List.mem_singleton.mp hb]
    exact fun z => kOl_ni (N := N) (by omega) (z ▸ ha)
theorem kws_s {ad : Nat → Nat} {cy : Nat → ClassId} {f : jM} {N : Nat} (h : N < 824) (e : va_E) : j_ws (kOl (N + 1)) ad cy (va_up f (kO N) e) = j_ws (kOl N) ad cy f ++ [(ad (kO N), j_tE ad cy e)] := by
  unfold j_ws
  rw [kOl_s, List.map_append]
  congr 1
  · apply List.map_congr_left
    intro a ha
    have hz : a ≠ kO N := fun z => kOl_ni h (by rw [← z]; exact ha)
    rw [va_up_ne _ _ hz]
  · simp [va_up]
/-- a frame in which cells are made: B0 + j is the address of the j-th cell; this frame has made k of the N that are there -/
def kD (G : kG) (B0 : Nat) (co : Nat → Option Instr) (fl : Nat → Option (Nat × Nat × Nat)) (cn : Nat → Option Int32) (own : String) (cc : ByteArray) (mx : Nat) : Prop := match G with
  | (p, l, e, R, s, m, args, below, meth, c, Q, D, pg, ad, cy, A) => p.tables.exec = Jvm.exec ∧ c.code = cc ∧ c.maxLocals = mx ∧ meth.locks = false ∧ s.vm.findClass own = some m.cls ∧ (∀ w ∈ gB, w.before args s = true) ∧ va_K D gcl (j_cy pg cy kN) s ∧ z_K ad A s s.heap ∧ (∀ q, s.heap.size ≤ q → A q) ∧ (∀ pc i, co pc = some i → j_dec cc pc i) ∧ (∀ x q, fl x = some q → j_FL gcl gB own x q) ∧ (∀ x v, cn x = some v → Jvm.Cond.constant own x v ∈ gB) ∧ (∀ j, j < 824 → ad (kO j) = B0 + j) ∧ B0 ≤ s.heap.size
def kU (G : kG) (B0 k n pc : Nat) (lv : jV) (st : List Value) (N : Nat) (f : jM) : Prop := match G with
  | (p, l, e, R, s, m, args, below, meth, c, Q, D, pg, ad, cy, A) => s.heap.size + k = B0 + N → ∀ (H : Heap) (locs : List Loc) (ls : Array Slot), va_P D gcl (j_ws (kOl N) ad cy f) H → va_D A (j_ws (kOl N) ad cy f) → va_S A s.heap H locs → j_has ad ls c.maxLocals lv → W p l e R s m args below meth c H locs k n Q (F0 m pc ls (st.map (j_tv ad)))
def kRu (G : kG) (k n : Nat) : Prop := match G with
  | (p, l, e, R, s, m, args, below, meth, c, Q, D, pg, ad, cy, A) => k ≤ R.cells ∧ n ≤ R.slots
theorem kKn {D : va_G} {pg : String} {cy : Nat → ClassId} {s : State} (n0 : List Nat) (h : va_K D gcl (j_cy pg cy kN) s) : va_K D gcl (j_cy pg cy n0) s := by
  refine ⟨h.1, fun k q hq => h.2 k q ?_⟩
  have h0 : 0 ∈ kN := by
    show 0 ∈ g_n (gX true)
    rw [gn_t]
    exact g_all_in (by decide)
  unfold j_cy at hq ⊢
  rw [if_pos h0]
  by_cases z : 0 ∈ n0
  · rw [if_pos z] at hq
    exact hq
  · rw [if_neg z] at hq
    match k, hq with
    | 0, hq => exact hq
    | 1, hq => exact hq
    | 2, hq => exact hq
    | 3, hq => exact hq
    | k + 4, hq => cases hq
/-- where the next cell comes to lie -/
theorem k_next {p : Program} {l : Launch} {e : Env} {R : Room} {s : State} {m : MethodId} {args : Array Value} {below : List Frame} {meth : Method} {c : Code} {T : State} {locs : List Loc} {k n B0 N : Nat} {D : va_G} {ad : Nat → Nat} {cy : Nat → ClassId} {f : jM} (hB : B0 ≤ s.heap.size) (X : Stand p l e R s m args below meth c T locs k n) (hN : N ≤ 824) (hs : s.heap.size + k = B0 + N) (had : ∀ j, j < 824 → ad (kO j) = B0 + j) (hP : va_P D gcl (j_ws (kOl N) ad cy f) T.heap) : T.heap.size = B0 + N := by
  have h1 : T.heap.size ≤ s.heap.size + k := X.same.2.2.1
  have h2 : s.heap.size ≤ T.heap.size := X.same.2.1
  cases N with
  | zero => omega
  | succ N =>
    obtain ⟨i, hi, he⟩ := j_ws_at (n0 := kOl (N + 1)) (ad := ad) (cy := cy) (f := f) (k := kO N) (kOl_in.mpr ⟨N, by omega, rfl⟩)
    have h3 : ad (kO N) < T.heap.size := (hP i _ he).lt
    rw [had N (by omega)] at h3
    omega
section KUS
variable {G : kG} {B0 : Nat} {co : Nat → Option Instr} {fl : Nat → Option (Nat × Nat × Nat)} {cn : Nat → Option Int32} {own : String} {cc : ByteArray} {mx k n pc : Nat} {lv : jV} {r : List Value} {N : Nat} {f : jM}
theorem kU_st (hC : kD G B0 co fl cn own cc mx) (hN : N ≤ 824) {i : Instr} {st st' : List Value} {pc' : Nat} {lv' : jV} {f' : jM} (hi : co pc = some i) (h2 : j_inv i = none) (hs : j_step (kOl N) mx fl cn (fun _ => 0) i pc lv st f = some (pc', lv', st', f')) (h : kU G B0 k n pc' lv' st' N f') : kU G B0 k n pc lv st N f := by
  obtain ⟨p, l, e, R, s, m, args, below, meth, c, Q, D, pg, ad, cy, A⟩ := G
  obtain ⟨c1, c2, c3, c4, c5, c6, c7, c8, c9, c10, c11, c12, c13, c14⟩ := hC
  intro hsz H locs ls hP hD hS hl
  have hl2 : j_has ad ls mx lv := by
    have := hl
    rw [c3] at this
    exact this
  exact j_step_ok (kOl_nd N hN) c1 c2 c5 c6 c11 c12 (kKn _ c7) hP hD c8 hS hl2 (c10 pc i hi) (fun x => j_NX0) c3 (fun z => by obtain ⟨x, rfl | rfl⟩ := z <;> cases h2) hs (fun H' locs' ls' hP' hD' hS' hl' => h hsz H' locs' ls' hP' hD' hS' (by rw [c3]; exact hl'))
theorem kU_newa (hC : kD G B0 co fl cn own cc mx) (hN : N < 824) {atype : ArrayType} {ty : FieldType} {t M : Nat} {x : Int32} {a0 : vp_A} (hi : co pc = some (.newarray atype)) (hty : newarray.typeOf atype = ty) (hw : Cond.arrayClass ty ∈ gB) (ht : ∀ (pg : String) (cy : Nat → ClassId), (j_cy pg cy kN)[t]? = some (cy t, ty)) (hra : ∀ (U : State) (q : ClassId), va_RA U q ty → U.vm.findClass ("[" ++ ty.toString) = some q) (ha : ∀ cA : ClassId, vp_cell cA a0 = arrV cA M (fun _ => defaultValue ty)) (hat : ∀ ad : Nat → Nat, j_tA ad a0 = a0) (hx : ¬ x < 0) (hM : x.toNatClampNeg = M) (hbytes : M * componentBytes ty ≤ 536870912) (hR : kRu G (k + 1) (n + M)) (h : kU G B0 (k + 1) (n + M) (pc + 2) lv (.ref (kO N) :: r) (N + 1) (va_up f (kO N) (.inl (t, a0)))) : kU G B0 k n pc lv (.int x :: r) N f := by
  obtain ⟨p, l, e, R, s, m, args, below, meth, c, Q, D, pg, ad, cy, A⟩ := G
  obtain ⟨c1, c2, c3, c4, c5, c6, c7, c8, c9, c10, c11, c12, c13, c14⟩ := hC
  subst hty
  intro hsz H locs ls hP hD hS hl T hT X
  subst hT
  have hz := k_next c14 X (by omega) hsz c13 hP
  have hcy := hra s _ (c7.2 t _ (ht pg cy)).2
  refine (va_newaK c1 c2 (c6 _ hw) rfl (c10 pc _ hi) rfl hx hM hbytes hR.1 hR.2 hz fun H1 cA e1 z1 o1 hAr hNm => ?_ : W p l e R s m args below meth c T.heap locs k n Q (F0 m pc ls (.int x :: r.map (j_tv ad)))) T rfl X
  have ec : cA = cy t := Option.some.inj (hNm.symm.trans hcy)
  subst ec
  have hk : ∀ (k : Nat) (x : Nat × va_E), (j_ws (kOl N) ad cy f)[k]? = some x → H1[x.1]? = T.heap[x.1]? := fun k x hx => o1 x.1 (by rw [← hz]; exact (hP k x hx).lt)
  have hadN : ad (kO N) = B0 + N := c13 N (by omega)
  have e9 : j_tE ad cy (.inl (t, a0)) = .inl (cy t, a0) := by
    show Sum.inl (cy t, j_tA ad a0) = _
    rw [hat]
  have := h (by omega) H1 locs ls (by
      rw [kws_s hN, e9, hadN]
      refine (hP.kept hk).app (fun k x hx => ?_)
      have h0 : k < 1 := (List.getElem?_eq_some_iff.mp hx).1
      rw [show k = 0 by omega] at hx
      cases hx
      show H1[B0 + N]? = some (vp_cell _ _)
      rw [ha]
      exact e1) (by
      rw [kws_s hN, e9, hadN]
      exact hD.push hP hz.symm (c9 _ (by have := hS.1; omega))) ⟨by have := hS.1; omega, fun x h1 h2 => (o1 x (by have := hS.1; omega)).trans (hS.2.1 x h1 h2), hS.2.2⟩ hl
  rw [List.map_cons, show j_tv ad (.ref (kO N)) = .ref (B0 + N) by rw [← hadN]; rfl] at this
  exact this
theorem kU_new (hC : kD G B0 co fl cn own cc mx) (hN : N < 824) {index ci : Nat} {C : String} {Tt : u_T} {M : Nat} {ty0 : Nat → FieldType} {fs : List Value} (hi : co pc = some (.new index)) (hc : gcl[ci]? = some (C, Tt, M)) (w1 : Cond.classLink own index C ∈ gB) (w2 : Cond.instantiable C M ∈ gB) (w3 : Cond.initialized C ∈ gB) (w4 : ∀ w ∈ u_ws C Tt M, w ∈ gB) (hty : ∀ k, k < M → parseFieldDescriptor (Tt k).2.2.1 = some (ty0 k)) (hfs : ∀ j, j < M → defaultValue (ty0 j) = vp_V fs j) (hfa : ∀ ad : Nat → Nat, fs.map (j_tv ad) = fs) (hR : kRu G (k + 1) (n + M)) (h : kU G B0 (k + 1) (n + M) (pc + 3) lv (.ref (kO N) :: r) (N + 1) (va_up f (kO N) (.inr (ci, fs)))) : kU G B0 k n pc lv r N f := by
  obtain ⟨p, l, e, R, s, m, args, below, meth, c, Q, D, pg, ad, cy, A⟩ := G
  obtain ⟨c1, c2, c3, c4, c5, c6, c7, c8, c9, c10, c11, c12, c13, c14⟩ := hC
  intro hsz H locs ls hP hD hS hl T hT X
  subst hT
  have hz := k_next c14 X (by omega) hsz c13 hP
  have hKn := c7.1 ci _ hc
  refine (W.newcK c1 c2 c5 (c6 _ w1) (c6 _ w2) (c6 _ w3) rfl (c10 pc _ hi) hR.1 hR.2 hKn.2.1 hz fun H1 kC hkC e1 z1 o1 => ?_ : W p l e R s m args below meth c T.heap locs k n Q (F0 m pc ls (r.map (j_tv ad)))) T rfl X
  have hk : ∀ (k : Nat) (x : Nat × va_E), (j_ws (kOl N) ad cy f)[k]? = some x → H1[x.1]? = T.heap[x.1]? := fun k x hx => o1 x.1 (by rw [← hz]; exact (hP k x hx).lt)
  have hadN : ad (kO N) = B0 + N := c13 N (by omega)
  have e9 : j_tE ad cy (.inr (ci, fs)) = .inr (ci, fs) := by
    show Sum.inr (ci, fs.map (j_tv ad)) = _
    rw [hfa]
  have := h (by omega) H1 locs ls (by
      rw [kws_s hN, e9, hadN]
      refine (hP.kept hk).app (fun k x hx => ?_)
      have h0 : k < 1 := (List.getElem?_eq_some_iff.mp hx).1
      rw [show k = 0 by omega] at hx
      cases hx
      exact ⟨_, hc, (u_born ty0 (fun w hw => c6 w hw) w4 hKn hkC e1 hty).to hfs⟩) (by
      rw [kws_s hN, e9, hadN]
      exact hD.push hP hz.symm (c9 _ (by have := hS.1; omega))) ⟨by have := hS.1; omega, fun x h1 h2 => (o1 x (by have := hS.1; omega)).trans (hS.2.1 x h1 h2), hS.2.2⟩ hl
  rw [List.map_cons, show j_tv ad (.ref (kO N)) = .ref (B0 + N) by rw [← hadN]; rfl] at this
  exact this
end KUS
