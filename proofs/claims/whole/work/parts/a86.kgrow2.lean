/-! MEMORY THAT GROWS (2): rows of pages, finals, pages put into rows, Object's own constructor, the contract of a constructor. -/
def kAOA (ty : FieldType) (U : State) : Prop := (Cond.arrayOver (.array ty)).before #[] U = true
/-- Page's private constructor, as its neighbours name it -/
def kNe : List Cond := [.methodLinkNest "ClickOrders$Track" 11 (⟨"ClickOrders$Page", "<init>", "()V"⟩ : MethodName) "ClickOrders", .methodLinkNest "ClickOrders$Search" 28 (⟨"ClickOrders$Page", "<init>", "()V"⟩ : MethodName) "ClickOrders", .methodLinkNest "ClickOrders$Pair" 35 (⟨"ClickOrders$Page", "<init>", "()V"⟩ : MethodName) "ClickOrders", .methodLinkNest "ClickOrders$Row" 21 (⟨"ClickOrders$Page", "<init>", "()V"⟩ : MethodName) "ClickOrders", .methodLinkNest "ClickOrders$Search" 21 (⟨"ClickOrders$Met", "<init>", "()V"⟩ : MethodName) "ClickOrders", .methodLinkNest "ClickOrders" 15 (⟨"ClickOrders$Forms", "<init>", "()V"⟩ : MethodName) "ClickOrders"]
def kAO (U : State) : Prop := va_AO "ClickOrders$Page" U ∧ kAOA .int U ∧ kAOA .boolean U ∧ ∀ w ∈ kNe, va_Nw w U
def kPg (G : kG) : Prop := match G with
  | (p, l, e, R, s, m, args, below, meth, c, Q, D, pg, ad, cy, A) => pg = "ClickOrders$Page" ∧ kAO s ∧ meth.name = "<init>"
def kRo (G : kG) (fr lo : Nat) : Prop := match G with
  | (p, l, e, R, s, m, args, below, meth, c, Q, D, pg, ad, cy, A) => fr ≤ R.frames ∧ lo ≤ R.locals
section KUT
variable {G : kG} {B0 : Nat} {co : Nat → Option Instr} {fl : Nat → Option (Nat × Nat × Nat)} {cn : Nat → Option Int32} {own : String} {cc : ByteArray} {mx k n pc : Nat} {lv : jV} {r : List Value} {N : Nat} {f : jM}
theorem kU_anew (hC : kD G B0 co fl cn own cc mx) (hPg : kPg G) (hN : N < 824) {index M : Nat} {x : Int32} (hi : co pc = some (.anewarray index)) (w1 : Cond.classLink own index "ClickOrders$Page" ∈ gB) (hx : ¬ x < 0) (hM : x.toNatClampNeg = M) (hbytes : M * 4 ≤ 536870912) (hR : kRu G (k + 1) (n + M)) (h : kU G B0 (k + 1) (n + M) (pc + 3) lv (.ref (kO N) :: r) (N + 1) (va_up f (kO N) (.inl (3, (M, .inr (.inr (.inr (.inr (fun _ => none))))))))) : kU G B0 k n pc lv (.int x :: r) N f := by
  obtain ⟨p, l, e, R, s, m, args, below, meth, c, Q, D, pg, ad, cy, A⟩ := G
  obtain ⟨c1, c2, c3, c4, c5, c6, c7, c8, c9, c10, c11, c12, c13, c14⟩ := hC
  obtain ⟨rfl, hao, -⟩ := hPg
  subst hM
  intro hsz H locs ls hP hD hS hl T hT X
  subst hT
  have hz := k_next c14 X (by omega) hsz c13 hP
  obtain ⟨-, kA0, comp0, q1, q2, q3, q4⟩ := c7.2 3 _ (rfl : (j_cy "ClickOrders$Page" cy kN)[3]? = some (cy 3, .object "ClickOrders$Page"))
  refine (W.anew c1 c2 c5 (c6 _ w1) hao.1.use rfl (c10 pc _ hi) rfl hx hbytes hR.1 hR.2 fun cA kA comp h1 h2 h3 h4 => ?_ : W p l e R s m args below meth c T.heap locs k n Q (F0 m pc ls (.int x :: r.map (j_tv ad)))) T rfl X
  have ec : cA = cy 3 := Option.some.inj (h1.symm.trans q4)
  subst ec
  have hadN : ad (kO N) = B0 + N := c13 N (by omega)
  have e1 : (T.heap.push { cls := cy 3, slots := Array.replicate x.toNatClampNeg .null, vm := .none })[B0 + N]? = some (arrV (cy 3) x.toNatClampNeg (fun _ => .null)) := by
    rw [← hz, arrV_new]
    simp
  have o1 : ∀ q, q < T.heap.size → (T.heap.push { cls := cy 3, slots := Array.replicate x.toNatClampNeg .null, vm := .none })[q]? = T.heap[q]? := fun q hq => by
    rw [Array.getElem?_push_lt hq, Array.getElem?_eq_getElem hq]
  have := h (by omega) _ locs ls (by
      rw [kws_s hN, hadN]
      refine (hP.kept (fun k x hx => o1 x.1 (hP k x hx).lt)).app (fun k x hx => ?_)
      have h0 : k < 1 := (List.getElem?_eq_some_iff.mp hx).1
      rw [show k = 0 by omega] at hx
      cases hx
      exact e1) (by
      rw [kws_s hN, hadN]
      exact hD.push hP hz.symm (c9 _ (by have := hS.1; omega))) ⟨by have := hS.1; rw [Array.size_push]; omega, fun x h1 h2 => (o1 x (by have := hS.1; omega)).trans (hS.2.1 x h1 h2), hS.2.2⟩ hl
  rw [List.map_cons, show j_tv ad (.ref (kO N)) = .ref T.heap.size by rw [hz, ← hadN]; rfl] at this
  exact this
theorem kU_putF (hC : kD G B0 co fl cn own cc mx) (hPg : kPg G) (hN : N ≤ 824) {x ci kk a : Nat} {v : Value} {fs : List Value} (hi : co pc = some (.putfield x)) (hf : fl x = some (ci, kk, 9)) (ho : j_ob (kOl N) f a ci = some fs) (hl0 : kk < fs.length) (hfin : ∀ (C : String) (Tt : u_T) (M : Nat), gcl[ci]? = some (C, Tt, M) → (Tt kk).2.2.2 = true ∧ (Tt kk).1 = own ∧ ∃ ty : FieldType, parseFieldDescriptor (Tt kk).2.2.1 = some ty ∧ ∀ ad : Nat → Nat, narrow ty (j_tv ad v) = j_tv ad v ∧ fits ty (j_tv ad v) = true) (h : kU G B0 k n (pc + 3) lv r N (va_up f a (.inr (ci, fs.set kk v)))) : kU G B0 k n pc lv (v :: .ref a :: r) N f := by
  obtain ⟨p, l, e, R, s, m, args, below, meth, c, Q, D, pg, ad, cy, A⟩ := G
  obtain ⟨c1, c2, c3, c4, c5, c6, c7, c8, c9, c10, c11, c12, c13, c14⟩ := hC
  obtain ⟨-, -, hin⟩ := hPg
  intro hsz H locs ls hP hD hS hl
  obtain ⟨ha, hfa⟩ := j_ob_ok ho
  obtain ⟨C, Tt, M, ty0, h1, h2, h3, h4, h5, h6, -⟩ := c11 _ _ hf
  obtain ⟨f1, f2, ty, f3, f4⟩ := hfin C Tt M h1
  obtain ⟨i9, hi9, he⟩ := j_ws_at (ad := ad) (cy := cy) (f := f) ha
  rw [hfa] at he
  refine va_putF (v := j_tv ad v) c1 c2 c6 h3 ty0 h5 h6 c5 (kKn (kOl N) c7) hP hD hS i9 he h1 kk h2 (c6 _ h4) (fun _ z => z) f1 hin f2 f3 (f4 ad).1 (f4 ad).2 (by rw [List.length_map]; exact hl0) (c10 pc _ hi) (fun H1 locs1 q1 q2 q3 => ?_)
  rw [j_ws_set (kOl_nd N hN) hi9 (.inr (ci, fs.set kk v)) (by simp [j_tE, List.map_set])] at q1 q2
  exact h hsz H1 locs1 ls q1 q2 q3 hl
theorem kU_aast (hC : kD G B0 co fl cn own cc mx) (hPg : kPg G) (hN : N ≤ 824) {a v M : Nat} {x : Int32} {vs : List Value} {g : Nat → Option Nat} (hi : co pc = some .aastore) (ho : j_ar (kOl N) f a = some (3, M, g)) (hv : j_ob (kOl N) f v 3 = some vs) (hin : iB x M) (h : kU G B0 k n (pc + 1) lv r N (va_up f a (.inl (3, (M, .inr (.inr (.inr (.inr (va_up g (iN x) (some v)))))))))) : kU G B0 k n pc lv (.ref v :: .int x :: .ref a :: r) N f := by
  obtain ⟨p, l, e, R, s, m, args, below, meth, c, Q, D, pg, ad, cy, A⟩ := G
  obtain ⟨c1, c2, c3, c4, c5, c6, c7, c8, c9, c10, c11, c12, c13, c14⟩ := hC
  obtain ⟨rfl, hao, -⟩ := hPg
  intro hsz H locs ls hP hD hS hl
  obtain ⟨ha, hfa⟩ := j_ar_ok ho
  obtain ⟨hb, hfb⟩ := j_ob_ok hv
  obtain ⟨i9, hi9, he⟩ := j_ws_at (ad := ad) (cy := cy) (f := f) ha
  obtain ⟨i8, hi8, he8⟩ := j_ws_at (ad := ad) (cy := cy) (f := f) hb
  rw [hfa] at he
  rw [hfb] at he8
  refine va_astq (r := ("ClickOrders$Page", cT_3, 1)) (f := fun i => (g i).map ad) (v := ad v) c1 c2 (kKn (kOl N) c7) hP hD hS i9 3 i8 3 he (rfl : (j_cy "ClickOrders$Page" cy (kOl N))[3]? = some (cy 3, .object "ClickOrders$Page")) he8 (rfl : gcl[3]? = some ("ClickOrders$Page", cT_3, 1)) hin (c10 pc _ hi) (fun H1 locs1 q1 q2 q3 => ?_)
  have e9 : (fun i => (va_up g (iN x) (some v) i).map ad) = va_up (fun i => (g i).map ad) (iN x) (some (ad v)) := by
    funext i
    unfold va_up
    by_cases z : i = iN x
    · simp [z]
    · simp [z]
  rw [j_ws_set (kOl_nd N hN) hi9 (.inl (3, (M, .inr (.inr (.inr (.inr (va_up g (iN x) (some v)))))))) (by
    show Sum.inl (cy 3, (M, Sum.inr (Sum.inr (Sum.inr (Sum.inr (fun i => (va_up g (iN x) (some v) i).map ad)))))) = _
    rw [e9])] at q1 q2
  exact h hsz H1 locs1 ls q1 q2 q3 hl
theorem kU_objI (hC : kD G B0 co fl cn own cc mx) (hRo : kRo G 1 20) {x a : Nat} (hi : co pc = some (.invokespecial x)) (w1 : Cond.methodLink own x Lib.objectInit ∈ gB) (w2 : Cond.instanceMethod Lib.objectInit ∈ gB) (w3 : Cond.code Lib.objectInit ⟨#[0xb1]⟩ 1 none ∈ gB) (hz : Nat.ble (r.map fun v => v.category).sum 8 = true) (h : kU G B0 k n (pc + 3) lv r N f) : kU G B0 k n pc lv (.ref a :: r) N f := by
  obtain ⟨p, l, e, R, s, m, args, below, meth, c, Q, D, pg, ad, cy, A⟩ := G
  obtain ⟨c1, c2, c3, c4, c5, c6, c7, c8, c9, c10, c11, c12, c13, c14⟩ := hC
  intro hsz H locs ls hP hD hS hl
  have h8 := Nat.le_of_ble_eq_true hz
  refine W.objInit c1 c2 c5 (c6 _ w1) (c6 _ w2) (c6 _ w3) (g := F0 m pc ls (.ref (ad a) :: r.map (j_tv ad))) rfl hl.1 rfl (c10 pc _ hi) hRo.1 ?_ (h hsz H locs ls hP hD hS hl)
  have e1 : (F0 m pc ls (.ref (ad a) :: r.map (j_tv ad))).monitorRoom = 0 := rfl
  rw [e1, j_catsum]
  have := hRo.2
  omega
end KUT
