/-! THE LAW's start: both objects, the row of one long; then its loop. -/
def k_ad (B0 b : Nat) (adS : Nat → Nat) : Nat → Nat := fun a => if a = 999 then b else if 900 ≤ a then adS (a - 900) else if a < 734 then B0 + (a + 89) else if a < 823 then B0 + (a - 734) else B0 + a
theorem k_ad_O {B0 b : Nat} {adS : Nat → Nat} {j : Nat} (h : j < 824) : k_ad B0 b adS (kO j) = B0 + j := by
  unfold k_ad kO
  by_cases h1 : j < 89
  · rw [if_pos h1, if_neg (by omega), if_neg (by omega), if_neg (by omega), if_pos (by omega)]
    omega
  · by_cases h2 : j < 823
    · rw [if_neg h1, if_pos h2, if_neg (by omega), if_neg (by omega), if_pos (by omega)]
      omega
    · rw [if_neg h1, if_neg h2, if_neg (by omega), if_neg (by omega), if_neg (by omega), if_neg (by omega)]
theorem k_ad_s {B0 b : Nat} {adS : Nat → Nat} : k_ad B0 b adS 999 = b := if_pos rfl
theorem k_ad_l {B0 b : Nat} {adS : Nat → Nat} {i : Nat} (h : i < 23) : k_ad B0 b adS (900 + i) = adS i := by
  unfold k_ad
  rw [if_neg (by omega), if_pos (by omega)]
  exact congrArg adS (Nat.add_sub_cancel_left 900 i)
/-- which cell of the order of making a is -/
def kOi (a : Nat) : Nat := if a < 734 then a + 89 else if a < 823 then a - 734 else a
theorem kOi_lt {a : Nat} (h : a < 824) : kOi a < 824 := by
  unfold kOi
  split <;> (try split) <;> omega
theorem kO_i {a : Nat} (h : a < 824) : kO (kOi a) = a := by
  unfold kOi kO
  by_cases h1 : a < 734
  · rw [if_pos h1, if_neg (by omega), if_pos (by omega)]
    omega
  · by_cases h2 : a < 823
    · rw [if_neg h1, if_pos h2, if_pos (by omega)]
      omega
    · rw [if_neg h1, if_neg h2, if_neg (by omega), if_neg (by omega)]
theorem kN_get {ad : Nat → Nat} {cy : Nat → ClassId} {f : jM} {i : Nat} {x : Nat × va_E} (h : (j_ws kN ad cy f)[i]? = some x) : i < 824 ∧ x = (ad i, j_tE ad cy (f i)) := by
  unfold j_ws at h
  rw [show kN = List.range 824 from gn_t, List.getElem?_map] at h
  by_cases hi : i < 824
  · rw [List.getElem?_range hi] at h
    cases h
    exact ⟨hi, rfl⟩
  · rw [List.getElem?_eq_none (by rw [List.length_range]; omega)] at h
    cases h
section KST2
variable {G : kG} {B0 : Nat} {co : Nat → Option Instr} {fl : Nat → Option (Nat × Nat × Nat)} {cn : Nat → Option Int32} {own : String} {cc : ByteArray} {mx k n pc pc2 : Nat} {lv : jV} {N : Nat} {f : jM} {r : List Value}
theorem kU_as {kk : Fin 4} {b : Nat} {vs vs2 : List (Option Value)} (hC : kD G B0 co fl cn own cc mx) (hN : N ≤ 824) (c0 : co pc = some (.astore_n kk)) (hm : Nat.blt (kk : Nat) mx = true) (ho : l_ok vs (kk : Nat) = true) (he : l_st vs (kk : Nat) (some (.ref b)) = vs2) (hp : pc + 1 = pc2) (h : kU G B0 k n pc2 (l_at vs2) r N f) : kU G B0 k n pc (l_at vs) (.ref b :: r) N f := by
  subst hp
  subst he
  refine kU_st hC hN c0 rfl (by
    simp only [j_step]
    rw [if_pos (show (kk : Nat) < mx from Nat.le_of_ble_eq_true hm)]) (kU_lv (fun j v hj => ?_) h)
  exact l_ag_st (vs := vs) (lv := l_at vs) (fun k v h => h) ho _ j v hj
theorem kU_is4 {kk : Nat} {v : Int32} {vs vs2 : List (Option Value)} (hC : kD G B0 co fl cn own cc mx) (hN : N ≤ 824) (c0 : co pc = some (.istore kk)) (hm : Nat.blt kk mx = true) (ho : l_ok vs kk = true) (he : l_st vs kk (some (.int v)) = vs2) (hp : pc + 2 = pc2) (h : kU G B0 k n pc2 (l_at vs2) r N f) : kU G B0 k n pc (l_at vs) (.int v :: r) N f := by
  subst hp
  subst he
  refine kU_st hC hN c0 rfl (by
    simp only [j_step]
    rw [if_pos (show kk < mx from Nat.le_of_ble_eq_true hm)]) (kU_lv (fun j v hj => ?_) h)
  exact l_ag_st (vs := vs) (lv := l_at vs) (fun k v h => h) ho _ j v hj
theorem kU_kW {vs : List (Option Value)} {st : List Value} {sc : jSc} {rf : jRf} {ar : jSc} {al : jAl} (hC : kD G B0 co fl cn own cc mx) (h : kW G k n pc vs st sc rf ar al) : kU G B0 k n pc (l_at vs) st 824 (j_lay kL sc rf ar al) := by
  obtain ⟨p, l, e, R, s, m, args, below, meth, c, Q, D, pg, ad, cy, A⟩ := G
  obtain ⟨c1, c2, c3, c4, c5, c6, c7, c8, c9, c10, c11, c12, c13, c14⟩ := hC
  intro hsz H locs ls hP hD hS hl
  have hat : ∀ i, i < 824 → (j_ws (kOl 824) ad cy (j_lay kL sc rf ar al))[kOi i]? = some (ad i, j_tE ad cy (j_lay kL sc rf ar al i)) := fun i hi => by
    have := kws_at (ad := ad) (cy := cy) (f := j_lay kL sc rf ar al) (kOi_lt hi)
    rw [kO_i hi] at this
    exact this
  refine h (l_at vs) (fun k v h => h) H locs ls (fun i x hx => ?_) ⟨fun i j x y h1 h2 h3 => ?_, fun i x hx => ?_⟩ hS hl
  · obtain ⟨hi, rfl⟩ := kN_get hx
    exact hP _ _ (hat i hi)
  · obtain ⟨a1, rfl⟩ := kN_get h1
    obtain ⟨a2, rfl⟩ := kN_get h2
    have h3 : ad i = ad j := h3
    have e1 := c13 (kOi i) (kOi_lt a1)
    have e2 := c13 (kOi j) (kOi_lt a2)
    rw [kO_i a1] at e1
    rw [kO_i a2] at e2
    have e3 : kOi i = kOi j := by omega
    rw [← kO_i a1, ← kO_i a2, e3]
  · obtain ⟨hi, rfl⟩ := kN_get hx
    exact hD.2 _ _ (hat i hi)
end KST2
theorem kNe_w : ∀ w ∈ kNe, w ∈ lw_tbl := by decide +kernel
def R_law : String := "ClickOrdersLaw"
def lw_P (b : Addr) (xs : List Int32) (args : Array Value) (s : State) : Prop := args = #[.ref b] ∧ s.IntsAt b xs ∧ xs.length ≤ 3072 ∧ (Jvm.Cond.and given_1 narrow_1).before args s = true
def lw_Q (_ : Array Value) (s : State) (o : Outcome) (t : State) : Prop := o = .returned (some (.int 1)) ∧ Framed s o t [] 601024 7293033
def lw_Z (below : List Frame) (a : Array Value) (s : State) : State → Prop := fun t => ∃ o, t.status = .running ∧ Ended t below o ∧ lw_Q a s o t
/-- the law's own end, with 1 on the stack, nothing written that was there before, its room as the claim has it -/
theorem lw_ret {p : Program} {l : Launch} {e : Env} {s : State} {m : MethodId} {below : List Frame} {meth : Method} {c : Code} {b : Nat} (hx : p.tables.exec = Jvm.exec) (hb : c.code = code) (hr : meth.sig.returnType = ret) (hlocks : meth.locks = false) {pc : Nat} {H : Heap} {ls : Array Slot} (hdg : decode code pc = .ok (.ireturn, 1)) : W p l e room_1 s m #[Value.ref b] below meth c H [] 601024 7293033 (lw_Z below #[Value.ref b] s) (F0 m pc ls [.int 1]) := by
  intro T hT X
  obtain ⟨fs, hret, hrun, hended, hW, hframe⟩ := X.leave (v := some (.int 1)) (hlocks := hlocks) (fun h => by rw [hr] at h; cases h)
  have hmeth' : T.vm.method? m = some meth := X.method'
  refine ⟨T.setFrames fs, ?_, .returned (some (.int 1)), hrun, hended, rfl, ⟨_, rfl⟩, hW, hframe⟩
  jvm_step X.here [X.here.top, hx, hb, hdg, hmeth', hr, ret, narrow_b1]
  (try refine ⟨rfl, ?_⟩); (try refine ⟨rfl, ?_⟩)
  first | (intro acts; rw [hret _ acts rfl rfl rfl]) | rw [hret _ _ rfl rfl rfl]
  exact Steps.refl _
/-- what holds at the law's entry: the machine, the code, the tables' words (any of lw_tbl by 'hts w (by decide +kernel)'), the script of L ints xs at the cell b, what the Statement gives of the start (any of its parts by flat_of_before) -/
def lw_At (p : Program) (s : State) (m : MethodId) (meth : Method) (c : Code) (b L : Nat) (xs : Nat → Int32) : Prop :=
  p.tables.exec = Jvm.exec ∧ c.code = code ∧ meth.sig.returnType = ret ∧ c.maxLocals = 7 ∧ s.vm.findClass R_law = some m.cls ∧ (∀ w ∈ lw_tbl, w.before #[Value.ref b] s = true) ∧ va_X b L xs s s.heap ∧ b < s.heap.size ∧ meth.locks = false ∧ (Jvm.Cond.and given_1 narrow_1).before #[Value.ref b] s = true
theorem lm_1_31 : Jvm.Cond.classLink "ClickOrdersLaw" (8 : Nat) "ClickOrders" ∈ gB := tb_1 (i := 31) (by decide +kernel) (by decide +kernel)
theorem lm_1_32 : Jvm.Cond.instantiable "ClickOrders" (15 : Nat) ∈ gB := tb_1 (i := 32) (by decide +kernel) (by decide +kernel)
theorem lm_1_33 : Jvm.Cond.methodLink "ClickOrdersLaw" (94 : Nat) ({ cls := "ClickOrders", name := "<init>", desc := "()V" } : Jvm.MethodName) ∈ gB := tb_1 (i := 33) (by decide +kernel) (by decide +kernel)
theorem lm_1_34 : Jvm.Cond.instanceMethod ({ cls := "ClickOrders", name := "<init>", desc := "()V" } : Jvm.MethodName) ∈ gB := tb_1 (i := 34) (by decide +kernel) (by decide +kernel)
theorem lm_1_35 : Jvm.Cond.code ({ cls := "ClickOrders", name := "<init>", desc := "()V" } : Jvm.MethodName) prog_1_method_1_code (1 : Nat) (Option.none : Option Jvm.ClassFile.FieldType) ∈ gB := tb_1 (i := 35) (by decide +kernel) (by decide +kernel)
theorem lm_8_0 : Jvm.Cond.classLink "ClickOrdersLaw" (95 : Nat) "ClickOrdersModel" ∈ gB := tb_8 (i := 0) (by decide +kernel) (by decide +kernel)
theorem lm_8_1 : Jvm.Cond.instantiable "ClickOrdersModel" (60 : Nat) ∈ gB := tb_8 (i := 1) (by decide +kernel) (by decide +kernel)
theorem lm_8_2 : Jvm.Cond.methodLink "ClickOrdersLaw" (97 : Nat) ({ cls := "ClickOrdersModel", name := "<init>", desc := "()V" } : Jvm.MethodName) ∈ gB := tb_8 (i := 2) (by decide +kernel) (by decide +kernel)
theorem lm_8_3 : Jvm.Cond.instanceMethod ({ cls := "ClickOrdersModel", name := "<init>", desc := "()V" } : Jvm.MethodName) ∈ gB := tb_8 (i := 3) (by decide +kernel) (by decide +kernel)
theorem lm_8_4 : Jvm.Cond.code ({ cls := "ClickOrdersModel", name := "<init>", desc := "()V" } : Jvm.MethodName) prog_13_method_1_code (3 : Nat) (Option.none : Option Jvm.ClassFile.FieldType) ∈ gB := tb_8 (i := 4) (by decide +kernel) (by decide +kernel)
theorem kdf_10 : ∀ j, j < 15 → defaultValue (cY_10 j) = vp_V [.null, .null, .null, .null, .null, .null, .null, .null, .null, .null, .null, .int 0, .int 0, .int 0, .int 0] j := fun j hj => by
  match j, hj with
  | 0, _ => rfl
  | 1, _ => rfl
  | 2, _ => rfl
  | 3, _ => rfl
  | 4, _ => rfl
  | 5, _ => rfl
  | 6, _ => rfl
  | 7, _ => rfl
  | 8, _ => rfl
  | 9, _ => rfl
  | 10, _ => rfl
  | 11, _ => rfl
  | 12, _ => rfl
  | 13, _ => rfl
  | 14, _ => rfl
  | j + 15, h => exact absurd h (by omega)
theorem kdf_11 : ∀ j, j < 60 → defaultValue (cY_11 j) = vp_V [.int 0, .int 0, .int 0, .int 0, .int 0, .int 0, .int 0, .int 0, .int 0, .null, .null, .null, .null, .null, .null, .null, .int 0, .int 0, .int 0, .int 0, .null, .null, .int 0, .int 0, .int 0, .int 0, .int 0, .int 0, .int 0, .int 0, .null, .int 0, .null, .null, .null, .null, .null, .null, .int 0, .null, .null, .null, .null, .null, .null, .null, .null, .null, .int 0, .int 0, .int 0, .int 0, .null, .null, .null, .null, .null, .int 0, .null, .null] j := fun j hj => by
  match j, hj with
  | 0, _ => rfl
  | 1, _ => rfl
  | 2, _ => rfl
  | 3, _ => rfl
  | 4, _ => rfl
  | 5, _ => rfl
  | 6, _ => rfl
  | 7, _ => rfl
  | 8, _ => rfl
  | 9, _ => rfl
  | 10, _ => rfl
  | 11, _ => rfl
  | 12, _ => rfl
  | 13, _ => rfl
  | 14, _ => rfl
  | 15, _ => rfl
  | 16, _ => rfl
  | 17, _ => rfl
  | 18, _ => rfl
  | 19, _ => rfl
  | 20, _ => rfl
  | 21, _ => rfl
  | 22, _ => rfl
  | 23, _ => rfl
  | 24, _ => rfl
  | 25, _ => rfl
  | 26, _ => rfl
  | 27, _ => rfl
  | 28, _ => rfl
  | 29, _ => rfl
  | 30, _ => rfl
  | 31, _ => rfl
  | 32, _ => rfl
  | 33, _ => rfl
  | 34, _ => rfl
  | 35, _ => rfl
  | 36, _ => rfl
  | 37, _ => rfl
  | 38, _ => rfl
  | 39, _ => rfl
  | 40, _ => rfl
  | 41, _ => rfl
  | 42, _ => rfl
  | 43, _ => rfl
  | 44, _ => rfl
  | 45, _ => rfl
  | 46, _ => rfl
  | 47, _ => rfl
  | 48, _ => rfl
  | 49, _ => rfl
  | 50, _ => rfl
  | 51, _ => rfl
  | 52, _ => rfl
  | 53, _ => rfl
  | 54, _ => rfl
  | 55, _ => rfl
  | 56, _ => rfl
  | 57, _ => rfl
  | 58, _ => rfl
  | 59, _ => rfl
  | j + 60, h => exact absurd h (by omega)
