/-! j_step is sound: what the small machine does in one step, the machine does. -/
def j_len (i : Instr) : Nat := match i with
  | .bipush _ => 2 | .ldc _ => 2 | .iload _ => 2 | .lload _ => 2 | .aload _ => 2 | .istore _ => 2 | .lstore _ => 2 | .astore _ => 2
  | .ldc_w _ => 3 | .sipush _ => 3 | .iinc _ _ => 3 | .goto _ => 3 | .ifCond _ _ => 3 | .if_icmp _ _ => 3 | .getfield _ => 3 | .putfield _ => 3
  | .invokevirtual _ => 3 | .invokestatic _ => 3 | .invokespecial _ => 3 | .new _ => 3 | .getstatic _ => 3 | .putstatic _ => 3 | .checkcast _ => 3 | .instanceof _ => 3 | .newarray _ => 2 | .anewarray _ => 3 | .multianewarray _ _ => 4 | .ldc2_w _ => 3 | .ifnull _ => 3 | .ifnonnull _ => 3 | .if_acmp _ _ => 3 | .invokedynamic _ => 5
  | _ => 1
def j_dec (cc : ByteArray) (pc : Nat) (i : Instr) : Prop := match i with
  | .tableswitch d lo hi os => ∃ len, decode cc pc = .ok (.tableswitch d lo hi os, len)
  | i => decode cc pc = .ok (i, j_len i)
/-- the classes of arrays; the last two only where the reference is there (its object is cell 0) -/
def j_cy (pg : String) (cy : Nat → ClassId) (n0 : List Nat) : List (ClassId × FieldType) := (cy 0, .int) :: (cy 1, .long) :: (cy 2, .boolean) :: (cy 3, .object pg) :: (if 0 ∈ n0 then [(cy 4, .array .int), (cy 5, .array .boolean)] else [])
theorem j_cy_4 {pg : String} {cy : Nat → ClassId} {n0 : List Nat} (h : 0 ∈ n0) : (j_cy pg cy n0)[4]? = some (cy 4, .array .int) := by unfold j_cy; rw [if_pos h]; rfl
theorem j_cy_5 {pg : String} {cy : Nat → ClassId} {n0 : List Nat} (h : 0 ∈ n0) : (j_cy pg cy n0)[5]? = some (cy 5, .array .boolean) := by unfold j_cy; rw [if_pos h]; rfl
/-- what the tables say of a field that a method of the class own names by x -/
def j_FL (cl : List vw_C) (B : List Cond) (own : String) (x : Nat) (q : Nat × Nat × Nat) : Prop := ∃ (C : String) (T : u_T) (N : Nat) (ty0 : Nat → FieldType), cl[q.1]? = some (C, T, N) ∧ q.2.1 < N ∧ (∀ w ∈ u_ws C T N, w ∈ B) ∧ Jvm.Cond.fieldLink own x (T q.2.1).1 (T q.2.1).2.1 (T q.2.1).2.2.1 ∈ B ∧ (∀ k, k < N → parseFieldDescriptor (T k).2.2.1 = some (ty0 k)) ∧ (∀ a, a < N → ∀ b, b < N → a ≠ b → (T a).2.1 ≠ (T b).2.1) ∧ (q.2.2 < 3 → (T q.2.1).2.2.2 = false) ∧ (q.2.2 = 0 → ty0 q.2.1 = .int) ∧ (q.2.2 = 1 → ty0 q.2.1 = .boolean) ∧ (q.2.2 = 2 → ∃ E, ty0 q.2.1 = .object E)
/-- what the tables say where a method of the class own calls System.arraycopy (1), Math.max (2), Math.min (3) by x -/
def j_NX (B : List Cond) (own : String) (x k : Nat) : Prop := match k with
  | 1 => Jvm.Cond.methodLink own x arraycopyName ∈ B ∧ Jvm.Cond.native arraycopyName ∈ B ∧ Jvm.Cond.static arraycopyName ∈ B ∧ Jvm.Cond.initialized "java/lang/System" ∈ B
  | 2 => Jvm.Cond.methodLink own x Lib.Math.max.name ∈ B ∧ Jvm.Cond.static Lib.Math.max.name ∈ B ∧ Jvm.Cond.initialized "java/lang/Math" ∈ B ∧ Jvm.Cond.code Lib.Math.max.name Lib.Math.max.code 2 (some .int) ∈ B
  | 3 => Jvm.Cond.methodLink own x Lib.Math.min.name ∈ B ∧ Jvm.Cond.static Lib.Math.min.name ∈ B ∧ Jvm.Cond.initialized "java/lang/Math" ∈ B ∧ Jvm.Cond.code Lib.Math.min.name Lib.Math.min.code 2 (some .int) ∈ B
  | 4 => Jvm.Cond.methodLink own x zy_len ∈ B ∧ z_in B
  | 5 => Jvm.Cond.methodLink own x zy_chr ∈ B ∧ z_in B
  | k => 10 ≤ k → k < 33 → own = "ClickOrders$Reader" ∧ x = z_ix (k - 10)
theorem j_cat (ad : Nat → Nat) (v : Value) : (j_tv ad v).category = v.category := by cases v <;> rfl
/-- the machine's locals hold what is known -/
def j_has (ad : Nat → Nat) (ls : Array Slot) (mx : Nat) (lv : jV) : Prop := ls.size = mx ∧ lv_wf ls ∧ ∀ k v, lv k = some v → ls[k]? = some (.val (j_tv ad v))
def j_ll (ad : Nat → Nat) (mx : Nat) (lv : jV) : List (Nat × Value) := (List.range mx).filterMap (fun k => (lv k).map (fun v => (k, j_tv ad v)))
theorem j_ll_mem {ad : Nat → Nat} {ls : Array Slot} {mx : Nat} {lv : jV} (h : j_has ad ls mx lv) {k : Nat} {v : Value} (hk : lv k = some v) : (k, j_tv ad v) ∈ j_ll ad mx lv := by
  have h1 : k < mx := by rw [← h.1]; exact lv_lt (h.2.2 k v hk)
  exact List.mem_filterMap.mpr ⟨k, List.mem_range.mpr h1, by rw [hk]; rfl⟩
theorem j_ll_has {ad : Nat → Nat} {ls : Array Slot} {mx : Nat} {lv : jV} (h : j_has ad ls mx lv) : lv_has ls mx (j_ll ad mx lv) := by
  refine ⟨h.1, h.2.1, fun q hq => ?_⟩
  obtain ⟨k, -, hk⟩ := List.mem_filterMap.mp hq
  obtain ⟨v, hv, rfl⟩ := Option.map_eq_some_iff.mp hk
  exact h.2.2 k v hv
theorem j_dl_some {o : Option Value} {v : Value} (h : j_dl o = some v) : o = some v ∧ ¬ v.category = 2 := by
  unfold j_dl at h
  split at h
  · split at h
    · cases h
    · rename_i h1
      cases h
      exact ⟨rfl, h1⟩
  · cases h
theorem j_st_has {ad : Nat → Nat} {ls ls' : Array Slot} {mx : Nat} {lv : jV} {i : Nat} {v : Value} (h : j_has ad ls mx lv) (h' : lv_has ls' mx ((i, j_tv ad v) :: (j_ll ad mx lv).filter (fun q => !(q.1 == i) && !(q.1 + 1 == i && q.2.category == 2)))) : j_has ad ls' mx (j_st lv i v) := by
  refine ⟨h'.1, h'.2.1, fun k u hu => ?_⟩
  unfold j_st at hu
  split at hu
  · rename_i e
    cases hu
    subst e
    exact h'.2.2 (k, j_tv ad v) List.mem_cons_self
  · rename_i e
    have key : lv k = some u ∧ (k + 1 = i → ¬ u.category = 2) := by
      split at hu
      · exact ⟨(j_dl_some hu).1, fun _ => (j_dl_some hu).2⟩
      · rename_i e2
        exact ⟨hu, fun z => absurd z e2⟩
    refine h'.2.2 (k, j_tv ad u) (List.mem_cons_of_mem _ (List.mem_filter.mpr ⟨j_ll_mem h key.1, ?_⟩))
    have h3 := key.2
    by_cases e2 : k + 1 = i
    · have := h3 e2
      simp [e, j_cat, this]
    · simp [e, e2]
theorem j_st2_has {ad : Nat → Nat} {ls ls' : Array Slot} {mx : Nat} {lv : jV} {i : Nat} {v : Value} (h : j_has ad ls mx lv) (h' : lv_has ls' mx ((i, j_tv ad v) :: (j_ll ad mx lv).filter (fun q => !(q.1 == i) && (!(q.1 == i + 1) && !(q.1 + 1 == i && q.2.category == 2))))) : j_has ad ls' mx (j_st2 lv i v) := by
  refine ⟨h'.1, h'.2.1, fun k u hu => ?_⟩
  unfold j_st2 at hu
  split at hu
  · rename_i e
    cases hu
    subst e
    exact h'.2.2 (k, j_tv ad v) List.mem_cons_self
  · rename_i e
    split at hu
    · cases hu
    · rename_i e1
      have key : lv k = some u ∧ (k + 1 = i → ¬ u.category = 2) := by
        split at hu
        · exact ⟨(j_dl_some hu).1, fun _ => (j_dl_some hu).2⟩
        · rename_i e2
          exact ⟨hu, fun z => absurd z e2⟩
      refine h'.2.2 (k, j_tv ad u) (List.mem_cons_of_mem _ (List.mem_filter.mpr ⟨j_ll_mem h key.1, ?_⟩))
      have h3 := key.2
      by_cases e2 : k + 1 = i
      · have := h3 e2
        simp [e, e1, j_cat, this]
      · simp [e, e1, e2]
theorem j_cs {ad : Nat → Nat} (st : List Value) : ((st.map (j_tv ad)).map fun v => v.category).sum = (st.map fun v => v.category).sum := by
  rw [List.map_map]
  congr 1
  apply List.map_congr_left
  intro v _
  exact j_cat ad v
theorem j_go_ok {o : Option Nat} {lv lv' : jV} {st st' : List Value} {f f' : jM} {pc' : Nat} (h : j_go o lv st f = some (pc', lv', st', f')) : o = some pc' ∧ lv' = lv ∧ st' = st ∧ f' = f := by
  unfold j_go at h
  split at h
  · cases h
    exact ⟨rfl, rfl, rfl, rfl⟩
  · cases h
theorem j_nar_b {x : Int32} (h : x = 0 ∨ x = 1) : vp_nar .boolean x = x := by
  rcases h with rfl | rfl <;> decide
theorem j_pt_ok {ad : Nat → Nat} {t : Nat} {v : Value} {ty : FieldType} (h : j_pt t v = true) (h0 : t = 0 → ty = .int) (h1 : t = 1 → ty = .boolean) (h2 : t = 2 → ∃ E, ty = .object E) : t < 3 ∧ narrow ty (j_tv ad v) = j_tv ad v ∧ fits ty (j_tv ad v) = true := by
  unfold j_pt at h
  split at h
  · rw [h0 rfl]; exact ⟨by decide, rfl, rfl⟩
  · rw [h1 rfl]
    have hx := of_decide_eq_true h
    rcases hx with rfl | rfl
    · exact ⟨by decide, show narrow .boolean (.int 0) = .int 0 by decide, show fits .boolean (.int 0) = true by decide⟩
    · exact ⟨by decide, show narrow .boolean (.int 1) = .int 1 by decide, show fits .boolean (.int 1) = true by decide⟩
  · obtain ⟨E, rfl⟩ := h2 rfl
    exact ⟨by decide, rfl, rfl⟩
  · cases h
section JS
variable {p : Program} {l : Launch} {e : Env} {R : Room} {s : State} {m : MethodId} {args : Array Value} {below : List Frame} {meth : Method} {c : Code} {H : Heap} {locs : List Loc} {cells slots : Nat} {Q : State → Prop}
variable {cc : ByteArray} {pc : Nat} {ls : Array Slot} {rest : List Value} {D : va_G} {cl : List vw_C} {A : Nat → Prop} {a : Nat} {tys : List (ClassId × FieldType)} {ws : va_W} {H0 : Heap}
theorem j_aald (hexec : p.tables.exec = Jvm.exec) (hb : c.code = cc) (hK : va_K D cl tys s) (hP : va_P D cl ws H) (q0 t0 : Nat) {cA : ClassId} {ty : FieldType} (hty : ty.isReference = true) {n : Nat} {f : Nat → Option Nat} (ha : ws[q0]? = some (a, .inl (cA, n, .inr (.inr (.inr (.inr f)))))) (ht : tys[t0]? = some (cA, ty)) {i : Int32} (hin : vp_in i n) (hdg : decode cc pc = .ok (.aaload, 1))
    (kk : W p l e R s m args below meth c H locs cells slots Q (F0 m (pc + 1) ls (va_rf (f i.toNatClampNeg) :: rest))) : W p l e R s m args below meth c H locs cells slots Q (F0 m pc ls (.int i :: .ref a :: rest)) := by
  have hlt : i.toNatClampNeg < n := Nat.not_le.mp fun q => hin (Or.inr q)
  exact W.aald (v := va_rf (f i.toNatClampNeg)) (ty := ty) hexec hb (hP q0 _ ha) ((hK.2 t0 _ ht).1 n (fun j => va_rf (f j))) hty (fun q => by cases q) (by show ¬ (i < 0 ∨ (arrV _ _ _).slots.size ≤ _); rw [arrV_size]; exact hin) (by show (arrV _ _ _).slots[_]? = _; rw [arrV_read _ _ hlt]) rfl rfl hdg kk
set_option maxHeartbeats 4000000 in
set_option maxRecDepth 100000 in
theorem j_step_ok {B : List Cond} {own pg : String} {n0 : List Nat} {mx : Nat} {ad : Nat → Nat} {cy : Nat → ClassId} {fl : Nat → Option (Nat × Nat × Nat)} {cn : Nat → Option Int32} {nt : Nat → Nat} {i : Instr} {pc' : Nat} {lv lv' : jV} {st st' : List Value} {f f' : jM}
    (hn : n0.Nodup) (hexec : p.tables.exec = Jvm.exec) (hb : c.code = cc) (hown : s.vm.findClass own = some m.cls) (hts : ∀ w ∈ B, w.before args s = true) (hfl : ∀ x q, fl x = some q → j_FL cl B own x q) (hcn : ∀ x v, cn x = some v → Jvm.Cond.constant own x v ∈ B)
    (hK : va_K D cl (j_cy pg cy n0) s) (hP : va_P D cl (j_ws n0 ad cy f) H) (hD : va_D A (j_ws n0 ad cy f)) (hZ : z_K ad A s s.heap) (hS : va_S A s.heap H locs) (hl : j_has ad ls mx lv) (hd : j_dec cc pc i) (hnt : ∀ x, j_NX B own x (nt x)) (hcm : c.maxLocals = mx) (hR : (∃ x, i = .invokestatic x ∨ i = .invokevirtual x) → 4 ≤ R.frames ∧ 100 ≤ R.locals ∧ cells ≤ R.cells ∧ slots ≤ R.slots) (h : j_step n0 mx fl cn nt i pc lv st f = some (pc', lv', st', f'))
    (kk : ∀ (H' : Heap) (locs' : List Loc) (ls' : Array Slot), va_P D cl (j_ws n0 ad cy f') H' → va_D A (j_ws n0 ad cy f') → va_S A s.heap H' locs' → j_has ad ls' mx lv' → W p l e R s m args below meth c H' locs' cells slots Q (F0 m pc' ls' (st'.map (j_tv ad)))) :
    W p l e R s m args below meth c H locs cells slots Q (F0 m pc ls (st.map (j_tv ad))) := by
  cases i
  case iconst n =>
    simp only [j_step] at h
    cases h
    exact lv_iconst hexec hb hd rfl (kk H locs ls hP hD hS hl)
  case bipush n =>
    simp only [j_step] at h
    cases h
    exact lv_bipush hexec hb hd rfl (kk H locs ls hP hD hS hl)
  case sipush n =>
    simp only [j_step] at h
    cases h
    exact lv_sipush hexec hb hd rfl (kk H locs ls hP hD hS hl)
  case lconst n =>
    simp only [j_step] at h
    cases h
    exact lv_lconst hexec hb hd rfl (kk H locs ls hP hD hS hl)
  case ldc x =>
    simp only [j_step] at h
    split at h
    · rename_i v hv
      cases h
      exact lv_ldc hexec hb hown (hts _ (hcn _ _ hv)) hd (kk H locs ls hP hD hS hl)
    · split at h
      · rename_i hn1
        cases h
        have hx := hnt x
        have hx : own = "ClickOrders$Reader" ∧ x = z_ix (nt x - 10) := by
          have key : ∀ k : Nat, 10 ≤ k → k < 33 → j_NX B own x k → own = "ClickOrders$Reader" ∧ x = z_ix (k - 10) := by
            intro k h1 h2 h3
            unfold j_NX at h3
            split at h3 <;> first | omega | exact h3 h1 h2
          exact key _ hn1.1 hn1.2 hx
        have hz := (hZ (nt x - 10) (by omega)).1
        rw [← hx.2, ← hx.1] at hz
        refine va_ldcS hexec hb hown hz hd ?_
        have e : 900 + (nt x - 10) = 890 + nt x := by omega
        rw [e]
        exact kk H locs ls hP hD hS hl
      · cases h
  case ldc_w x =>
    simp only [j_step] at h
    split at h
    · rename_i v hv
      cases h
      exact lv_ldcw hexec hb hown (hts _ (hcn _ _ hv)) hd (kk H locs ls hP hD hS hl)
    · cases h
  case iload_n k =>
    simp only [j_step] at h
    split at h
    · rename_i v hv
      cases h
      exact lv_iload_n hexec hb hd rfl (hl.2.2 _ _ hv) (kk H locs ls hP hD hS hl)
    · cases h
  case iload k =>
    simp only [j_step] at h
    split at h
    · rename_i v hv
      cases h
      exact lv_iload hexec hb hd (hl.2.2 _ _ hv) (kk H locs ls hP hD hS hl)
    · cases h
  case lload_n k =>
    simp only [j_step] at h
    split at h
    · rename_i v hv
      cases h
      exact lv_lload_n hexec hb hd rfl (hl.2.2 _ _ hv) (kk H locs ls hP hD hS hl)
    · cases h
  case lload k =>
    simp only [j_step] at h
    split at h
    · rename_i v hv
      cases h
      exact lv_lload hexec hb hd (hl.2.2 _ _ hv) (kk H locs ls hP hD hS hl)
    · cases h
  case aload_n k =>
    simp only [j_step] at h
    split at h
    · rename_i v hv
      cases h
      exact lv_aload_n hexec hb hd rfl (hl.2.2 _ _ hv) (kk H locs ls hP hD hS hl)
    · cases h
  case aload k =>
    simp only [j_step] at h
    split at h
    · rename_i v hv
      cases h
      exact lv_aload hexec hb hd (hl.2.2 _ _ hv) (kk H locs ls hP hD hS hl)
    · cases h
  case istore_n k =>
    simp only [j_step] at h
    split at h
    · rename_i v r
      split at h
      · rename_i hk
        cases h
        exact lv_istore_n hexec hb hd rfl (j_ll_has hl) hk rfl (fun ls' h' => kk H locs ls' hP hD hS (j_st_has (v := .int v) hl h'))
      · cases h
    · cases h
  case istore k =>
    simp only [j_step] at h
    split at h
    · rename_i v r
      split at h
      · rename_i hk
        cases h
        exact lv_istore hexec hb hd (j_ll_has hl) hk rfl (fun ls' h' => kk H locs ls' hP hD hS (j_st_has (v := .int v) hl h'))
      · cases h
    · cases h
  case lstore_n k =>
    simp only [j_step] at h
    split at h
    · rename_i v r
      split at h
      · rename_i hk
        cases h
        exact lv_lstore_n hexec hb hd rfl (j_ll_has hl) hk rfl (fun ls' h' => kk H locs ls' hP hD hS (j_st2_has (v := .long v) hl h'))
      · cases h
    · cases h
  case astore_n k =>
    simp only [j_step] at h
    split at h
    · rename_i v r
      split at h
      · rename_i hk
        cases h
        exact lv_astore_n hexec hb hd rfl (j_ll_has hl) hk rfl (fun ls' h' => kk H locs ls' hP hD hS (j_st_has (v := .ref v) hl h'))
      · cases h
    · cases h
  case astore k =>
    simp only [j_step] at h
    split at h
    · rename_i v r
      split at h
      · rename_i hk
        cases h
        exact lv_astore hexec hb hd (j_ll_has hl) hk rfl (fun ls' h' => kk H locs ls' hP hD hS (j_st_has (v := .ref v) hl h'))
      · cases h
    · cases h
  case iinc k n =>
    simp only [j_step] at h
    split at h
    · rename_i v hv
      split at h
      · rename_i hk
        cases h
        obtain ⟨j, hj⟩ := List.getElem?_of_mem (j_ll_mem hl hv)
        exact lv_iinc hexec hb hd (j_ll_has hl) hj rfl hk rfl (fun ls' h' => kk H locs ls' hP hD hS (j_st_has (v := .int (v + Int32.ofInt n)) hl h'))
      · cases h
    · cases h
  case iadd =>
    simp only [j_step] at h
    split at h
    · cases h
      exact lv_iadd hexec hb hd (kk H locs ls hP hD hS hl)
    · cases h
  case isub =>
    simp only [j_step] at h
    split at h
    · cases h
      exact lv_isub hexec hb hd (kk H locs ls hP hD hS hl)
    · cases h
  case imul =>
    simp only [j_step] at h
    split at h
    · cases h
      exact lv_imul hexec hb hd (kk H locs ls hP hD hS hl)
    · cases h
  case iand =>
    simp only [j_step] at h
    split at h
    · cases h
      exact lv_iand hexec hb hd (kk H locs ls hP hD hS hl)
    · cases h
  case ior =>
    simp only [j_step] at h
    split at h
    · cases h
      exact lv_ior hexec hb hd (kk H locs ls hP hD hS hl)
    · cases h
  case ixor =>
    simp only [j_step] at h
    split at h
    · cases h
      exact lv_ixor hexec hb hd (kk H locs ls hP hD hS hl)
    · cases h
  case ishl =>
    simp only [j_step] at h
    split at h
    · cases h
      exact lv_ishl hexec hb hd (kk H locs ls hP hD hS hl)
    · cases h
  case ishr =>
    simp only [j_step] at h
    split at h
    · cases h
      exact lv_ishr hexec hb hd (kk H locs ls hP hD hS hl)
    · cases h
  case iushr =>
    simp only [j_step] at h
    split at h
    · cases h
      exact lv_iushr hexec hb hd rfl (kk H locs ls hP hD hS hl)
    · cases h
  case idiv =>
    simp only [j_step] at h
    split at h
    · split at h
      · cases h
      · rename_i hy
        cases h
        exact lv_idiv hexec hb hd hy (kk H locs ls hP hD hS hl)
    · cases h
  case irem =>
    simp only [j_step] at h
    split at h
    · split at h
      · cases h
      · rename_i hy
        cases h
        exact lv_irem hexec hb hd hy (kk H locs ls hP hD hS hl)
    · cases h
  case i2l =>
    simp only [j_step] at h
    split at h
    · cases h
      exact lv_i2l hexec hb hd rfl (kk H locs ls hP hD hS hl)
    · cases h
  case lcmp =>
    simp only [j_step] at h
    split at h
    · cases h
      exact W.lcmp hexec hb hd (kk H locs ls hP hD hS hl)
    · cases h
  case lor =>
    simp only [j_step] at h
    split at h
    · cases h
      exact lv_lor hexec hb hd (kk H locs ls hP hD hS hl)
    · cases h
  case land =>
    simp only [j_step] at h
    split at h
    · cases h
      exact lv_land hexec hb hd (kk H locs ls hP hD hS hl)
    · cases h
  case lshl =>
    simp only [j_step] at h
    split at h
    · cases h
      exact lv_lshl hexec hb hd rfl (kk H locs ls hP hD hS hl)
    · cases h
  case lshr =>
    simp only [j_step] at h
    split at h
    · cases h
      exact lv_lshr hexec hb hd rfl (kk H locs ls hP hD hS hl)
    · cases h
  case dup =>
    simp only [j_step] at h
    split at h
    · split at h
      · rename_i hv
        cases h
        exact lv_dup hexec hb hd ((j_cat ad _).trans hv) (kk H locs ls hP hD hS hl)
      · cases h
    · cases h
  case pop =>
    simp only [j_step] at h
    split at h
    · split at h
      · rename_i hv
        cases h
        exact lv_pop hexec hb hd ((j_cat ad _).trans hv) (kk H locs ls hP hD hS hl)
      · cases h
    · cases h
  case dup2 =>
    simp only [j_step] at h
    split at h
    · split at h
      · rename_i hv
        cases h
        exact lv_dup2_11 hexec hb hd ((j_cat ad _).trans hv.1) ((j_cat ad _).trans hv.2) (kk H locs ls hP hD hS hl)
      · cases h
    · cases h
  case goto o =>
    simp only [j_step] at h
    obtain ⟨h1, rfl, rfl, rfl⟩ := j_go_ok h
    exact lv_goto hexec hb hd (j_br_ok h1) (kk H locs ls hP hD hS hl)
  case ifCond cd o =>
    simp only [j_step] at h
    split at h
    · obtain ⟨h1, rfl, rfl, rfl⟩ := j_go_ok h
      obtain ⟨t, h2, h3⟩ := Option.map_eq_some_iff.mp h1
      have ht := j_br_ok h2
      have k2 := kk H locs ls hP hD hS hl
      cases cd <;> simp only [j_if, decide_eq_true_eq] at h3
      · refine lv_if_eq hexec hb hd ht (fun hc => ?_) (fun hc => ?_)
        · rw [if_pos hc] at h3; subst h3; exact k2
        · rw [if_neg hc] at h3; subst h3; exact k2
      · refine lv_if_ne hexec hb hd ht (fun hc => ?_) (fun hc => ?_)
        · rw [if_pos hc] at h3; subst h3; exact k2
        · rw [if_neg (fun z => z hc)] at h3; subst h3; exact k2
      · refine lv_if_lt hexec hb hd ht (fun hc => ?_) (fun hc => ?_)
        · rw [if_pos hc] at h3; subst h3; exact k2
        · rw [if_neg hc] at h3; subst h3; exact k2
      · refine lv_if_ge hexec hb hd ht (fun hc => ?_) (fun hc => ?_)
        · rw [if_pos hc] at h3; subst h3; exact k2
        · rw [if_neg hc] at h3; subst h3; exact k2
      · refine lv_if_gt hexec hb hd ht (fun hc => ?_) (fun hc => ?_)
        · rw [if_pos hc] at h3; subst h3; exact k2
        · rw [if_neg hc] at h3; subst h3; exact k2
      · refine lv_if_le hexec hb hd ht (fun hc => ?_) (fun hc => ?_)
        · rw [if_pos hc] at h3; subst h3; exact k2
        · rw [if_neg hc] at h3; subst h3; exact k2
    · cases h
  case if_icmp cd o =>
    simp only [j_step] at h
    split at h
    · obtain ⟨h1, rfl, rfl, rfl⟩ := j_go_ok h
      obtain ⟨t, h2, h3⟩ := Option.map_eq_some_iff.mp h1
      have ht := j_br_ok h2
      have k2 := kk H locs ls hP hD hS hl
      cases cd <;> simp only [j_ic, decide_eq_true_eq] at h3
      · refine lv_icmp_eq hexec hb hd ht (fun hc => ?_) (fun hc => ?_)
        · rw [if_pos hc] at h3; subst h3; exact k2
        · rw [if_neg hc] at h3; subst h3; exact k2
      · refine lv_icmp_ne hexec hb hd ht (fun hc => ?_) (fun hc => ?_)
        · rw [if_pos hc] at h3; subst h3; exact k2
        · rw [if_neg (fun z => z hc)] at h3; subst h3; exact k2
      · refine lv_icmp_lt hexec hb hd ht (fun hc => ?_) (fun hc => ?_)
        · rw [if_pos hc] at h3; subst h3; exact k2
        · rw [if_neg hc] at h3; subst h3; exact k2
      · refine lv_icmp_ge hexec hb hd ht (fun hc => ?_) (fun hc => ?_)
        · rw [if_pos hc] at h3; subst h3; exact k2
        · rw [if_neg hc] at h3; subst h3; exact k2
      · refine lv_icmp_gt hexec hb hd ht (fun hc => ?_) (fun hc => ?_)
        · rw [if_pos hc] at h3; subst h3; exact k2
        · rw [if_neg hc] at h3; subst h3; exact k2
      · refine lv_icmp_le hexec hb hd ht (fun hc => ?_) (fun hc => ?_)
        · rw [if_pos hc] at h3; subst h3; exact k2
        · rw [if_neg hc] at h3; subst h3; exact k2
    · cases h
  case tableswitch d lo hi os =>
    simp only [j_step] at h
    obtain ⟨len, hd⟩ : ∃ len, decode cc pc = .ok (.tableswitch d lo hi os, len) := hd
    split at h
    · split at h
      · rename_i hx
        obtain ⟨h1, rfl, rfl, rfl⟩ := j_go_ok h
        exact lv_tableOut hexec hb hd hx (j_br_ok h1) (kk H locs ls hP hD hS hl)
      · rename_i hx
        split at h
        · rename_i o ho
          obtain ⟨h1, rfl, rfl, rfl⟩ := j_go_ok h
          exact lv_tableIn hexec hb hd (fun q => hx (Or.inl q)) (fun q => hx (Or.inr q)) ho (j_br_ok h1) (kk H locs ls hP hD hS hl)
        · cases h
    · cases h
  case getfield x =>
    simp only [j_step] at h
    split at h
    · rename_i a r
      split at h
      · rename_i ci k t hq
        split at h
        · rename_i fs ho
          split at h
          · rename_i v hv
            cases h
            obtain ⟨ha, hfa⟩ := j_ob_ok ho
            obtain ⟨C, T, N, ty0, h1, h2, h3, h4, h5, h6, -⟩ := hfl _ _ hq
            obtain ⟨i9, hi9, he⟩ := j_ws_at (ad := ad) (cy := cy) (f := f) ha
            rw [hfa] at he
            refine va_get (v := j_tv ad v) hexec hb hts h3 hown hK hP i9 he h1 k h2 (hts _ h4) (fun _ h9 => h9) ?_ hd (kk H locs ls hP hD hS hl)
            rw [List.getElem?_map, hv]; rfl
          · cases h
        · cases h
      · cases h
    · cases h
  case putfield x =>
    simp only [j_step] at h
    split at h
    · rename_i v a r
      split at h
      · rename_i ci k t hq
        split at h
        · rename_i fs ho
          split at h
          · rename_i hv
            cases h
            obtain ⟨ha, hfa⟩ := j_ob_ok ho
            obtain ⟨C, T, N, ty0, h1, h2, h3, h4, h5, h6, h7, h8, h9, h10⟩ := hfl _ _ hq
            obtain ⟨i9, hi9, he⟩ := j_ws_at (ad := ad) (cy := cy) (f := f) ha
            rw [hfa] at he
            obtain ⟨hp1, hp2, hp3⟩ := j_pt_ok (ad := ad) hv.2 h8 h9 h10
            refine va_put (v := j_tv ad v) hexec hb hts h3 ty0 h5 h6 hown hK hP hD hS i9 he h1 k h2 (hts _ h4) (fun _ z => z) (h7 hp1) (h5 k h2) hp2 hp3 (by rw [List.length_map]; exact hv.1) hd (fun H1 locs1 q1 q2 q3 => ?_)
            rw [j_ws_set hn hi9 (.inr (ci, fs.set k v)) (by simp [j_tE, List.map_set])] at q1 q2
            exact kk H1 locs1 ls q1 q2 q3 hl
          · cases h
        · cases h
      · cases h
    · cases h
  case iaload =>
    simp only [j_step] at h
    split at h
    · rename_i j a r
      split at h
      · rename_i n g ho
        split at h
        · cases h
        · rename_i hj
          cases h
          obtain ⟨ha, hfa⟩ := j_ai_ok ho
          obtain ⟨i9, hi9, he⟩ := j_ws_at (ad := ad) (cy := cy) (f := f) ha
          rw [hfa] at he
          exact va_iald hexec hb hK hP i9 0 he rfl hj hd (kk H locs ls hP hD hS hl)
      · cases h
    · cases h
  case baload =>
    simp only [j_step] at h
    split at h
    · rename_i j a r
      split at h
      · rename_i n g ho
        split at h
        · cases h
        · rename_i hj
          cases h
          obtain ⟨ha, hfa⟩ := j_ai_ok ho
          obtain ⟨i9, hi9, he⟩ := j_ws_at (ad := ad) (cy := cy) (f := f) ha
          rw [hfa] at he
          exact va_zald hexec hb hK hP i9 2 he rfl hj hd (kk H locs ls hP hD hS hl)
      · cases h
    · cases h
  case laload =>
    simp only [j_step] at h
    split at h
    · rename_i j a r
      split at h
      · rename_i n g ho
        split at h
        · cases h
        · rename_i hj
          cases h
          obtain ⟨ha, hfa⟩ := j_al_ok ho
          obtain ⟨i9, hi9, he⟩ := j_ws_at (ad := ad) (cy := cy) (f := f) ha
          rw [hfa] at he
          exact va_lald hexec hb hK hP i9 1 he rfl hj hd (kk H locs ls hP hD hS hl)
      · cases h
    · cases h
  case aaload =>
    simp only [j_step] at h
    split at h
    · rename_i j a r
      split at h
      · rename_i t n g ho
        split at h
        · cases h
        · rename_i hj
          split at h
          · rename_i q hq
            cases h
            obtain ⟨ha, hfa⟩ := j_ar_ok ho
            obtain ⟨i9, hi9, he⟩ := j_ws_at (ad := ad) (cy := cy) (f := f) ha
            rw [hfa] at he
            have hin : vp_in j n := fun z => hj (by rcases z with z | z; exact Or.inl z; exact Or.inr (Or.inl z))
            have htt : t = 3 ∨ ((t = 4 ∨ t = 5) ∧ 0 ∈ n0) := Classical.byContradiction fun z => hj (Or.inr (Or.inr z))
            have e2 : va_rf (((fun i => (g i).map ad) : Nat → Option Nat) j.toNatClampNeg) = .ref (ad q) := by simp [hq, va_rf]
            have kk2 : W p l e R s m args below meth c H locs cells slots Q (F0 m (pc + 1) ls (va_rf (((fun i => (g i).map ad) : Nat → Option Nat) j.toNatClampNeg) :: r.map (j_tv ad))) := by rw [e2]; exact kk H locs ls hP hD hS hl
            rcases htt with rfl | ⟨rfl | rfl, h0⟩
            · exact j_aald hexec hb hK hP i9 3 (ty := .object pg) rfl he rfl hin hd kk2
            · exact j_aald hexec hb hK hP i9 4 (ty := .array .int) rfl he (j_cy_4 h0) hin hd kk2
            · exact j_aald hexec hb hK hP i9 5 (ty := .array .boolean) rfl he (j_cy_5 h0) hin hd kk2
          · cases h
      · cases h
    · cases h
  case iastore =>
    simp only [j_step] at h
    split at h
    · rename_i x j a r
      split at h
      · rename_i n g ho
        split at h
        · cases h
        · rename_i hj
          cases h
          obtain ⟨ha, hfa⟩ := j_ai_ok ho
          obtain ⟨i9, hi9, he⟩ := j_ws_at (ad := ad) (cy := cy) (f := f) ha
          rw [hfa] at he
          refine va_iast hexec hb hK hP hD hS i9 0 he rfl hj hd (fun H1 locs1 q1 q2 q3 => ?_)
          rw [j_ws_set hn (ad := ad) (cy := cy) (f := f) hi9 (.inl (0, (n, .inl (upd g j.toNatClampNeg x)))) (x := .inl (cy 0, (n, .inl (upd g j.toNatClampNeg x)))) rfl] at q1 q2
          exact kk H1 locs1 ls q1 q2 q3 hl
      · cases h
    · cases h
  case bastore =>
    simp only [j_step] at h
    split at h
    · rename_i x j a r
      split at h
      · rename_i n g ho
        split at h
        · cases h
        · rename_i hj
          cases h
          obtain ⟨ha, hfa⟩ := j_ai_ok ho
          obtain ⟨i9, hi9, he⟩ := j_ws_at (ad := ad) (cy := cy) (f := f) ha
          rw [hfa] at he
          have hx : x = 0 ∨ x = 1 := Classical.byContradiction fun z => hj (Or.inr z)
          refine va_zast hexec hb hK hP hD hS i9 2 he rfl (fun z => hj (Or.inl z)) hd (fun H1 locs1 q1 q2 q3 => ?_)
          rw [j_nar_b hx] at q1 q2
          rw [j_ws_set hn (ad := ad) (cy := cy) (f := f) hi9 (.inl (2, (n, .inl (upd g j.toNatClampNeg x)))) (x := .inl (cy 2, (n, .inl (upd g j.toNatClampNeg x)))) rfl] at q1 q2
          exact kk H1 locs1 ls q1 q2 q3 hl
      · cases h
    · cases h
  case lastore =>
    simp only [j_step] at h
    split at h
    · rename_i x j a r
      split at h
      · rename_i n g ho
        split at h
        · cases h
        · rename_i hj
          cases h
          obtain ⟨ha, hfa⟩ := j_al_ok ho
          obtain ⟨i9, hi9, he⟩ := j_ws_at (ad := ad) (cy := cy) (f := f) ha
          rw [hfa] at he
          refine va_last hexec hb hK hP hD hS i9 1 he rfl hj hd (fun H1 locs1 q1 q2 q3 => ?_)
          rw [j_ws_set hn (ad := ad) (cy := cy) (f := f) hi9 (.inl (1, (n, .inr (.inl (vp_updL g j.toNatClampNeg x))))) (x := .inl (cy 1, (n, .inr (.inl (vp_updL g j.toNatClampNeg x))))) rfl] at q1 q2
          exact kk H1 locs1 ls q1 q2 q3 hl
      · cases h
    · cases h
  case invokestatic x =>
    simp only [j_step] at h
    split at h
    · rename_i hx
      split at h
      · rename_i n dp a sp b r
        split at h
        · rename_i nb gb hb1
          split at h
          · rename_i na ga ha1
            split at h
            · rename_i hc
              cases h
              obtain ⟨⟨g1, g2, g3⟩, ⟨g4, g5⟩, g6⟩ := hc
              obtain ⟨hb2, hfb⟩ := j_ai_ok hb1
              obtain ⟨ha2, hfa⟩ := j_ai_ok ha1
              obtain ⟨w1, w2, w3, w4⟩ := (show j_NX B own x 1 from hx ▸ hnt x)
              obtain ⟨i8, hi8, heb⟩ := j_ws_at (ad := ad) (cy := cy) (f := f) hb2
              rw [hfb] at heb
              obtain ⟨i9, hi9, hea⟩ := j_ws_at (ad := ad) (cy := cy) (f := f) ha2
              rw [hfa] at hea
              obtain ⟨hR1, hR2, hR3, hR4⟩ : 1 ≤ R.frames ∧ 41 ≤ R.locals ∧ cells ≤ R.cells ∧ slots ≤ R.slots := (hR ⟨x, Or.inl rfl⟩).imp (fun z => Nat.le_trans (by decide) z) (fun z => z.imp (fun z => Nat.le_trans (by decide) z) id)
              refine va_copyi hexec hb (hcm.trans hl.1.symm) hown (hts _ w1) (hts _ w2) (hts _ w3) (hts _ w4) hK hP hD hS i8 i9 0 0 (ty := .int) heb hea rfl rfl rfl g1 g2 g3 g4 g5 (fun _ _ => rfl) hR1 ?_ hd (fun H1 locs1 q1 q2 q3 => ?_)
              · rw [j_cs]
                have e : nativeFrameWords "java/lang/System" "arraycopy" 5 = 7 := by decide
                rw [e]
                omega
              · rw [j_ws_set hn (ad := ad) (cy := cy) (f := f) hi9 (.inl (0, (na, .inl (va_cpy gb ga sp.toNatClampNeg dp.toNatClampNeg n.toNatClampNeg)))) (x := .inl (cy 0, (na, .inl (va_cpy gb ga sp.toNatClampNeg dp.toNatClampNeg n.toNatClampNeg)))) rfl] at q1 q2
                exact kk H1 locs1 ls q1 q2 q3 hl
            · cases h
          · cases h
        · cases h
      · cases h
    · split at h
      · rename_i hx1 hx
        split at h
        · split at h
          · rename_i hc
            cases h
            obtain ⟨w1, w2, w3, w4⟩ := (show j_NX B own x 2 from hx ▸ hnt x)
            obtain ⟨hR1, hR2, hR3, hR4⟩ : 1 ≤ R.frames ∧ 41 ≤ R.locals ∧ cells ≤ R.cells ∧ slots ≤ R.slots := (hR ⟨x, Or.inl rfl⟩).imp (fun z => Nat.le_trans (by decide) z) (fun z => z.imp (fun z => Nat.le_trans (by decide) z) id)
            exact va_mmax hexec hb (hcm.trans hl.1.symm) hown (hts _ w1) (hts _ w2) (hts _ w3) (hts _ w4) hR1 (by rw [j_cs]; omega) hR3 hR4 hd (kk H locs ls hP hD hS hl)
          · cases h
        · cases h
      · split at h
        · rename_i hx1 hx2 hx
          split at h
          · split at h
            · rename_i hc
              cases h
              obtain ⟨w1, w2, w3, w4⟩ := (show j_NX B own x 3 from hx ▸ hnt x)
              obtain ⟨hR1, hR2, hR3, hR4⟩ : 1 ≤ R.frames ∧ 41 ≤ R.locals ∧ cells ≤ R.cells ∧ slots ≤ R.slots := (hR ⟨x, Or.inl rfl⟩).imp (fun z => Nat.le_trans (by decide) z) (fun z => z.imp (fun z => Nat.le_trans (by decide) z) id)
              exact va_mmin hexec hb (hcm.trans hl.1.symm) hown (hts _ w1) (hts _ w2) (hts _ w3) (hts _ w4) hR1 (by rw [j_cs]; omega) hR3 hR4 hd (kk H locs ls hP hD hS hl)
            · cases h
          · cases h
        · cases h
  case invokevirtual x =>
    simp only [j_step] at h
    split at h
    · rename_i hx
      obtain ⟨w1, w2⟩ := (show j_NX B own x 4 from hx ▸ hnt x)
      split at h
      · rename_i a r
        split at h
        · rename_i hc
          cases h
          obtain ⟨hR1, hR2, hR3, hR4⟩ := hR ⟨x, Or.inr rfl⟩
          obtain ⟨i, hi, rfl⟩ : ∃ i : Nat, i < 23 ∧ a = 900 + i := ⟨Nat.sub a 900, Nat.sub_lt_left_of_lt_add hc.1.1 hc.1.2, (Nat.add_sub_cancel' hc.1.1).symm⟩
          have ei : 900 + i - 900 = i := Nat.add_sub_cancel_left (n := 900) (m := i)
          rw [ei] at kk
          obtain ⟨t, ht⟩ := (hZ i hi).2
          refine z_slen w2 hexec hb (hcm.trans hl.1.symm) hown hts w1 ht hS ⟨by omega, by omega, hR3, hR4⟩ (by rw [j_cs]; exact hc.2) hd (fun H1 locs1 h1 h2 h3 => ?_)
          exact kk H1 locs1 ls (z_keepP hP h2) hD (z_keepS hS h1 h2 h3) hl
        · cases h
      · cases h
    · split at h
      · rename_i hx1 hx
        obtain ⟨w1, w2⟩ := (show j_NX B own x 5 from hx ▸ hnt x)
        split at h
        · rename_i k a r
          split at h
          · rename_i hc
            cases h
            obtain ⟨hR1, hR2, hR3, hR4⟩ := hR ⟨x, Or.inr rfl⟩
            obtain ⟨⟨hc1, hc1b⟩, hc2, hc3⟩ := hc
            obtain ⟨i, hi, rfl⟩ : ∃ i : Nat, i < 23 ∧ a = 900 + i := ⟨Nat.sub a 900, Nat.sub_lt_left_of_lt_add hc1 hc1b, (Nat.add_sub_cancel' hc1).symm⟩
            have ei : 900 + i - 900 = i := Nat.add_sub_cancel_left (n := 900) (m := i)
            rw [ei] at kk hc2
            obtain ⟨t, ht⟩ := (hZ i hi).2
            have hs := z_small i hi
            have k0 : ¬ k < 0 := fun z => hc2 (Or.inl z)
            have k1 : k.toNatClampNeg < x_sn i := Nat.not_le.mp (fun z => hc2 (Or.inr z))
            obtain ⟨q1, q2⟩ := z_char i hi k.toNatClampNeg (by omega)
            refine z_scha k0 (z_idx hs k0 k1) k1 q1 q2 w2 hexec hb (hcm.trans hl.1.symm) hown hts w1 ht hS ⟨by omega, by omega, hR3, hR4⟩ (by rw [j_cs]; exact hc3) hd (fun H1 locs1 h1 h2 h3 => ?_)
            exact kk H1 locs1 ls (z_keepP hP h2) hD (z_keepS hS h1 h2 h3) hl
          · cases h
        · cases h
      · cases h
  case arraylength =>
    simp only [j_step] at h
    split at h
    · rename_i a r
      split at h
      · rename_i ha
        split at h
        · rename_i t x hfa
          split at h
          · rename_i ht
            cases h
            obtain ⟨i9, hi9, he⟩ := j_ws_at (ad := ad) (cy := cy) (f := f) ha
            rw [hfa] at he
            have hx : (j_tA ad x).1 = x.1 := by unfold j_tA; split <;> rfl
            have key : ∀ t : Nat, (t < 4 ∨ (t < 6 ∧ 0 ∈ n0)) → ∃ ty, (j_cy pg cy n0)[t]? = some (cy t, ty) := by
              intro t ht
              rcases ht with ht | ⟨ht, h0⟩
              · rcases (show t = 0 ∨ t = 1 ∨ t = 2 ∨ t = 3 by omega) with rfl | rfl | rfl | rfl <;> exact ⟨_, rfl⟩
              · rcases (show t = 0 ∨ t = 1 ∨ t = 2 ∨ t = 3 ∨ t = 4 ∨ t = 5 by omega) with rfl | rfl | rfl | rfl | rfl | rfl
                · exact ⟨_, rfl⟩
                · exact ⟨_, rfl⟩
                · exact ⟨_, rfl⟩
                · exact ⟨_, rfl⟩
                · exact ⟨_, j_cy_4 h0⟩
                · exact ⟨_, j_cy_5 h0⟩
            obtain ⟨ty, hty⟩ := key t ht
            exact va_alen hexec hb hK hP i9 t he hty (by rw [hx]) hd (kk H locs ls hP hD hS hl)
          · cases h
        · cases h
      · cases h
    · cases h
  all_goals (simp [j_step] at h; done)
end JS
