/-! THE CONSTRUCTORS (9): one instruction each, over memory that is written down. -/
theorem kMem {a N : Nat} (j : Nat) (h : Nat.blt j N = true) (e : kO j = a) : a ∈ kOl N := kOl_in.mpr ⟨j, Nat.le_of_ble_eq_true h, e⟩
theorem va_u3 {α : Type} {f : Nat → α} {a b : Nat} {x y z : α} (h : b ≠ a) : va_up (va_up (va_up f a x) b y) a z = va_up (va_up f a z) b y := by
  rw [va_uc h, va_us]
theorem fM1_u {i : Nat} : va_up (fM1 i) i (-1) = fM1 (i + 1) := by
  funext j
  unfold va_up fM1
  by_cases h1 : j = i
  · subst h1
    simp
  · have h2 : (j < i + 1) = (j < i) := by
      apply propext
      omega
    simp only [h1, h2, if_false]
theorem fM1_0 : fM1 0 = fun _ => 0 := by
  funext j
  simp [fM1]
section KIN
variable {G : kG} {B0 : Nat} {co : Nat → Option Instr} {fl : Nat → Option (Nat × Nat × Nat)} {cn : Nat → Option Int32} {own : String} {cc : ByteArray} {mx k n pc pc2 : Nat} {lv : jV} {N a ci : Nat} {f f2 : jM} {fs : List Value} {r : List Value}
theorem kU_eq {st : List Value} (he : f = f2) (h : kU G B0 k n pc lv st N f2) : kU G B0 k n pc lv st N f := by
  rw [he]
  exact h
theorem kU_lv {lv2 : jV} {st : List Value} (he : ∀ j v, lv2 j = some v → lv j = some v) (h : kU G B0 k n pc lv2 st N f) : kU G B0 k n pc lv st N f := by
  obtain ⟨p, l, e, R, s, m, args, below, meth, c, Q, D, pg, ad, cy, A⟩ := G
  intro hsz H locs ls hP hD hS hl
  exact h hsz H locs ls hP hD hS ⟨hl.1, hl.2.1, fun j v hj => hl.2.2 j v (he j v hj)⟩
theorem kU_al {kk : Fin 4} {b : Nat} (hC : kD G B0 co fl cn own cc mx) (hN : N ≤ 824) (c0 : co pc = some (.aload_n kk)) (hl : lv (kk : Nat) = some (.ref b)) (hp : pc + 1 = pc2) (h : kU G B0 k n pc2 lv (.ref b :: r) N f) : kU G B0 k n pc lv r N f := by
  subst hp
  exact kU_st hC hN c0 rfl (by simp only [j_step, hl]) h
theorem kU_il {kk : Fin 4} {b : Int32} (hC : kD G B0 co fl cn own cc mx) (hN : N ≤ 824) (c0 : co pc = some (.iload_n kk)) (hl : lv (kk : Nat) = some (.int b)) (hp : pc + 1 = pc2) (h : kU G B0 k n pc2 lv (.int b :: r) N f) : kU G B0 k n pc lv r N f := by
  subst hp
  exact kU_st hC hN c0 rfl (by simp only [j_step, hl]) h
theorem kU_int {i1 : Instr} {v : Int32} (hC : kD G B0 co fl cn own cc mx) (hN : N ≤ 824) (c1 : co pc = some i1) (h1 : j_inv i1 = none) (s1 : ∀ (F : jM) (st : List Value), j_step (kOl N) mx fl cn (fun _ => 0) i1 pc lv st F = some (pc2, lv, .int v :: st, F)) (h : kU G B0 k n pc2 lv (.int v :: r) N f) : kU G B0 k n pc lv r N f := kU_st hC hN c1 h1 (s1 _ _) h
theorem kU_dup {v : Value} (hC : kD G B0 co fl cn own cc mx) (hN : N ≤ 824) (c0 : co pc = some .dup) (hv : v.category = 1) (hp : pc + 1 = pc2) (h : kU G B0 k n pc2 lv (v :: v :: r) N f) : kU G B0 k n pc lv (v :: r) N f := by
  subst hp
  exact kU_st hC hN c0 rfl (by
    simp only [j_step]
    rw [if_pos hv]) h
theorem kU_gf {x kk t : Nat} {v : Value} (hC : kD G B0 co fl cn own cc mx) (hN : N ≤ 824) (c0 : co pc = some (.getfield x)) (hf : fl x = some (ci, kk, t)) (ha : a ∈ kOl N) (ho : f a = .inr (ci, fs)) (hv : fs[kk]? = some v) (hp : pc + 3 = pc2) (h : kU G B0 k n pc2 lv (v :: r) N f) : kU G B0 k n pc lv (.ref a :: r) N f := by
  subst hp
  exact kU_st hC hN c0 rfl (by simp only [j_step, hf, kf_at ha ho, hv]) h
theorem kU_pf {x kk t : Nat} {v : Value} (hC : kD G B0 co fl cn own cc mx) (hN : N ≤ 824) (c0 : co pc = some (.putfield x)) (hf : fl x = some (ci, kk, t)) (ha : a ∈ kOl N) (ho : f a = .inr (ci, fs)) (hk : Nat.blt kk fs.length = true) (ht : j_pt t v = true) (he : va_up f a (.inr (ci, fs.set kk v)) = f2) (hp : pc + 3 = pc2) (h : kU G B0 k n pc2 lv r N f2) : kU G B0 k n pc lv (v :: .ref a :: r) N f := by
  subst hp
  subst he
  exact kU_st hC hN c0 rfl (by
    simp only [j_step, hf, kf_at ha ho]
    rw [if_pos ⟨Nat.le_of_ble_eq_true hk, ht⟩]) h
theorem kU_pf9 {x kk : Nat} {v : Value} (hC : kD G B0 co fl cn own cc mx) (hPg : kPg G) (hN : N ≤ 824) (c0 : co pc = some (.putfield x)) (hf : fl x = some (ci, kk, 9)) (ha : a ∈ kOl N) (ho : f a = .inr (ci, fs)) (hk : Nat.blt kk fs.length = true) (hfin : ∀ (C : String) (Tt : u_T) (M : Nat), gcl[ci]? = some (C, Tt, M) → (Tt kk).2.2.2 = true ∧ (Tt kk).1 = own ∧ ∃ ty : FieldType, parseFieldDescriptor (Tt kk).2.2.1 = some ty ∧ ∀ ad : Nat → Nat, narrow ty (j_tv ad v) = j_tv ad v ∧ fits ty (j_tv ad v) = true) (he : va_up f a (.inr (ci, fs.set kk v)) = f2) (hp : pc + 3 = pc2) (h : kU G B0 k n pc2 lv r N f2) : kU G B0 k n pc lv (v :: .ref a :: r) N f := by
  subst hp
  subst he
  exact kU_putF hC hPg hN c0 hf (kf_at ha ho) (Nat.le_of_ble_eq_true hk) hfin h
theorem kU_na {atype : ArrayType} {ty : FieldType} {t M : Nat} {x : Int32} {a0 : vp_A} (hC : kD G B0 co fl cn own cc mx) (hN : N < 824) (hi : co pc = some (.newarray atype)) (hty : newarray.typeOf atype = ty) (hw : Cond.arrayClass ty ∈ gB) (ht : ∀ (pg : String) (cy : Nat → ClassId), (j_cy pg cy kN)[t]? = some (cy t, ty)) (hra : ∀ (U : State) (q : ClassId), va_RA U q ty → U.vm.findClass ("[" ++ ty.toString) = some q) (ha : ∀ cA : ClassId, vp_cell cA a0 = arrV cA M (fun _ => defaultValue ty)) (hat : ∀ ad : Nat → Nat, j_tA ad a0 = a0) (hx : ¬ x < 0) (hM : x.toNatClampNeg = M) (hbytes : M * componentBytes ty ≤ 536870912) (hF : f (kO N) = .inl (t, a0)) (hR : kRu G (k + 1) (n + M)) (hp : pc + 2 = pc2) (h : kU G B0 (k + 1) (n + M) pc2 lv (.ref (kO N) :: r) (N + 1) f) : kU G B0 k n pc lv (.int x :: r) N f := by
  subst hp
  exact kU_newa hC hN hi hty hw ht hra ha hat hx hM hbytes hR (by rw [← va_ui hF]; exact h)
theorem kU_ia {x y : Int32} {M : Nat} {g : Nat → Int32} (hC : kD G B0 co fl cn own cc mx) (hN : N ≤ 824) (c0 : co pc = some .iastore) (ha : a ∈ kOl N) (ho : f a = .inl (0, (M, .inl g))) (hin : iB y M) (he : va_up f a (.inl (0, (M, .inl (va_up g (iN y) x)))) = f2) (hp : pc + 1 = pc2) (h : kU G B0 k n pc2 lv r N f2) : kU G B0 k n pc lv (.int x :: .int y :: .ref a :: r) N f := by
  subst hp
  subst he
  refine kU_st hC hN c0 rfl ?_ h
  have e : j_ai (kOl N) f 0 a = some (M, g) := by
    unfold j_ai
    rw [if_pos ha, ho]
    simp
  simp only [j_step, e]
  rw [if_neg hin]
  rfl
theorem kU_aa {x : Int32} {M t b : Nat} {g : Nat → Option Nat} (hC : kD G B0 co fl cn own cc mx) (hN : N ≤ 824) (c0 : co pc = some .aaload) (ha : a ∈ kOl N) (h0 : 0 ∈ kOl N) (ho : f a = .inl (t, (M, .inr (.inr (.inr (.inr g)))))) (ht : t = 4 ∨ t = 5) (hin : iB x M) (hg : g (iN x) = some b) (hp : pc + 1 = pc2) (h : kU G B0 k n pc2 lv (.ref b :: r) N f) : kU G B0 k n pc lv (.int x :: .ref a :: r) N f := by
  subst hp
  refine kU_st hC hN c0 rfl ?_ h
  have e : j_ar (kOl N) f a = some (t, M, g) := by
    unfold j_ar
    rw [if_pos ha, ho]
  have hg2 : g x.toNatClampNeg = some b := hg
  have c9 : ¬ (x < 0 ∨ M ≤ x.toNatClampNeg ∨ ¬ (t = 3 ∨ ((t = 4 ∨ t = 5) ∧ 0 ∈ kOl N))) := fun z => by
    rcases z with z | z | z
    · exact hin (Or.inl z)
    · exact hin (Or.inr z)
    · exact z (Or.inr ⟨ht, h0⟩)
  simp only [j_step, e]
  rw [if_neg c9, hg2]
theorem kU_is {kk : Fin 4} {v : Int32} {vs vs2 : List (Option Value)} (hC : kD G B0 co fl cn own cc mx) (hN : N ≤ 824) (c0 : co pc = some (.istore_n kk)) (hm : Nat.blt (kk : Nat) mx = true) (ho : l_ok vs (kk : Nat) = true) (he : l_st vs (kk : Nat) (some (.int v)) = vs2) (hp : pc + 1 = pc2) (h : kU G B0 k n pc2 (l_at vs2) r N f) : kU G B0 k n pc (l_at vs) (.int v :: r) N f := by
  subst hp
  subst he
  refine kU_st hC hN c0 rfl (by
    simp only [j_step]
    rw [if_pos (show (kk : Nat) < mx from Nat.le_of_ble_eq_true hm)]) (kU_lv (fun j v hj => ?_) h)
  exact l_ag_st (vs := vs) (lv := l_at vs) (fun k v h => h) ho _ j v hj
theorem kU_ii {kk : Nat} {nn : Int} {v c : Int32} {vs vs2 : List (Option Value)} (hC : kD G B0 co fl cn own cc mx) (hN : N ≤ 824) (c0 : co pc = some (.iinc kk nn)) (hl : l_at vs kk = some (.int v)) (hm : Nat.blt kk mx = true) (ho : l_ok vs kk = true) (hc : v + Int32.ofInt nn = c) (he : l_st vs kk (some (.int c)) = vs2) (hp : pc + 3 = pc2) (h : kU G B0 k n pc2 (l_at vs2) r N f) : kU G B0 k n pc (l_at vs) r N f := by
  subst hp
  subst he
  subst hc
  refine kU_st hC hN c0 rfl (by
    simp only [j_step, hl]
    rw [if_pos (show kk < mx from Nat.le_of_ble_eq_true hm)]) (kU_lv (fun j v hj => ?_) h)
  exact l_ag_st (vs := vs) (lv := l_at vs) (fun k v h => h) ho _ j v hj
theorem kU_go {o : Int} (hC : kD G B0 co fl cn own cc mx) (hN : N ≤ 824) (c0 : co pc = some (.goto o)) (hb : j_br pc o = some pc2) (h : kU G B0 k n pc2 lv r N f) : kU G B0 k n pc lv r N f := kU_st hC hN c0 rfl (by
    simp only [j_step, hb]
    rfl) h
theorem kU_ge {o : Int} {t : Nat} {x y : Int32} (hC : kD G B0 co fl cn own cc mx) (hN : N ≤ 824) (c0 : co pc = some (.if_icmp .ge o)) (hb : j_br pc o = some t) (hp : (if y ≤ x then t else pc + 3) = pc2) (h : kU G B0 k n pc2 lv r N f) : kU G B0 k n pc lv (.int y :: .int x :: r) N f := kU_st hC hN c0 rfl (by
    simp only [j_step, hb, Option.map_some]
    subst hp
    by_cases z : y ≤ x
    · simp [j_go, j_ic, z]
    · simp [j_go, j_ic, z]) h
variable {g : jM}
theorem kU_pgP {xn xi : Nat} {A : va_E} (hC : kD G B0 co fl cn own cc mx) (hPg : kPg G) (hN : N + 2 < 824) (ha : a ∈ kOl N) (c1 : co pc = some (.new xn)) (c2 : co (pc + 3) = some .dup) (c3 : co (pc + 4) = some (.invokespecial xi)) (w1 : Cond.classLink own xn "ClickOrders$Page" ∈ gB) (w2 : Cond.instantiable "ClickOrders$Page" 1 ∈ gB) (w3 : Cond.initialized "ClickOrders$Page" ∈ gB) (w4 : Cond.methodLinkNest own xi (⟨"ClickOrders$Page", "<init>", "()V"⟩ : MethodName) "ClickOrders" ∈ kNe) (w5 : Cond.instanceMethod (⟨"ClickOrders$Page", "<init>", "()V"⟩ : MethodName) ∈ gB) (w6 : Cond.code (⟨"ClickOrders$Page", "<init>", "()V"⟩ : MethodName) prog_5_method_1_code 1 none ∈ gB) (hz : Nat.ble ((Value.ref (kO N) :: r).map fun v => v.category).sum 8 = true) (hRo : kRo G 2 40) (hR : kRu G (k + 2) (n + 51)) (hp : pc + 7 = pc2) (hF1 : g (kO N) = .inr (3, [.ref (kO (N + 1))])) (hF2 : g (kO (N + 1)) = .inl (0, (50, .inl fun _ => 0))) (h : kU G B0 (k + 2) (n + 51) pc2 lv (.ref (kO N) :: r) (N + 2) (va_up g a A)) : kU G B0 k n pc lv r N (va_up g a A) := kU_pg hC hPg hN ha c1 c2 c3 w1 w2 w3 w4 w5 w6 hz hRo hR hp (by rw [kPgm_f hF1 hF2]; exact h)
end KIN
