/-! RUNS: the small machine's whole run of a method, calls within; and that the machine does the same (j_sim, j_met). -/
def j_ret (rt : Nat) (i : Instr) (st : List Value) : Option (Option Value) := match i with
  | .ireturn => (match st with
    | [.int v] => if rt = 1 ∨ (rt = 2 ∧ (v = 0 ∨ v = 1)) then some (some (.int v)) else none
    | _ => none)
  | .lreturn => (match st with
    | [.long v] => if rt = 3 then some (some (.long v)) else none
    | _ => none)
  | .return_ => (match st with
    | [] => if rt = 0 then some none else none
    | _ => none)
  | _ => none
def j_inv (i : Instr) : Option (Nat × Nat) := match i with
  | .invokevirtual x => some (0, x)
  | .invokestatic x => some (1, x)
  | _ => none
/-- the receiver of a call with na arguments is an object of the class ci -/
def j_rc (n0 : List Nat) (f : jM) (ci na : Nat) (st : List Value) : Bool := match st[na]? with
  | some (.ref a) => (j_ob n0 f a ci).isSome
  | _ => false
def j_can (n0 : List Nat) (f : jM) (kd ci na mxq d : Nat) (st : List Value) : Bool :=
  decide (1 ≤ d) && decide (na + 1 - kd ≤ st.length) && decide (((st.drop (na + 1 - kd)).map fun v => v.category).sum ≤ 8) && decide ((lg_sl (st.take (na + 1 - kd)).reverse).length ≤ mxq) && decide (mxq ≤ 22) && (decide (kd = 1) || (decide (kd = 0) && j_rc n0 f ci na st))
section JR
variable (n0 : List Nat) (co : Nat → Nat → Option Instr) (fl : Nat → Nat → Option (Nat × Nat × Nat)) (cn : Nat → Nat → Option Int32) (nt : Nat → Nat → Nat) (ml : Nat → Nat → Option (Nat × Nat × Nat × Nat)) (mx rt : Nat → Nat)
def j_run : Nat → Nat → Nat → Nat → jV → List Value → jM → Option (Option Value × jM)
  | 0, _, _, _, _, _, _ => none
  | N + 1, mid, d, pc, lv, st, f =>
    match co mid pc with
    | none => none
    | some i =>
      match j_ret (rt mid) i st with
      | some r => some (r, f)
      | none =>
        match j_inv i with
        | some (kd, x) =>
          (match ml mid x with
          | some (kd', q, na, ci) =>
            if kd' = kd ∧ j_can n0 f kd ci na (mx q) d st = true then
              (match j_run N q (d - 1) 0 (j_av (st.take (na + 1 - kd)).reverse) [] f with
              | some (r, f1) => j_run N mid d (pc + 3) lv (r.toList ++ st.drop (na + 1 - kd)) f1
              | none => none)
            else none
          | none => if 1 ≤ d then
            (match j_step n0 (mx mid) (fl mid) (cn mid) (nt mid) i pc lv st f with
            | some (pc', lv', st', f') => j_run N mid d pc' lv' st' f'
            | none => none) else none)
        | none =>
          (match j_step n0 (mx mid) (fl mid) (cn mid) (nt mid) i pc lv st f with
          | some (pc', lv', st', f') => j_run N mid d pc' lv' st' f'
          | none => none)
end JR
def j_rt (rt : Nat) (ret : Option FieldType) : Prop := match rt with
  | 0 => ret = none
  | 1 => ret = some .int
  | 2 => ret = some .boolean
  | 3 => ret = some .long
  | _ => False
abbrev jMe : Type := Nat → Option (MethodName × ByteArray × Nat × Option FieldType)
/-- what the tables say of a method that a method of the class own calls by x -/
def j_ML (cl : List vw_C) (B : List Cond) (me : jMe) (own : String) (x : Nat) (z : Nat × Nat × Nat × Nat) : Prop := ∃ (y : MethodName) (cc : ByteArray) (maxL : Nat) (ret : Option FieldType), me z.2.1 = some (y, cc, maxL, ret) ∧ Jvm.Cond.code y cc maxL ret ∈ B ∧ Jvm.Cond.methodLink own x y ∈ B ∧ Jvm.Cond.initialized y.cls ∈ B ∧ (y.cls ≠ "java/lang/invoke/MethodHandle" ∧ y.cls ≠ "java/lang/invoke/VarHandle" ∧ (parseMethodDescriptor y.desc).map (fun d => d.parameters.length) = some z.2.2.1) ∧ (z.1 = 0 → (∃ (T : u_T) (N : Nat), cl[z.2.2.2]? = some (y.cls, T, N)) ∧ Jvm.Cond.instanceMethod y ∈ B ∧ Jvm.Cond.selects y.cls y y ∈ B) ∧ (z.1 = 1 → Jvm.Cond.static y ∈ B)
/-- what the tables say of every method of the small machine -/
def j_MO (cl : List vw_C) (B : List Cond) (co : Nat → Nat → Option Instr) (fl : Nat → Nat → Option (Nat × Nat × Nat)) (cn : Nat → Nat → Option Int32) (nt : Nat → Nat → Nat) (ml : Nat → Nat → Option (Nat × Nat × Nat × Nat)) (mx rt : Nat → Nat) (me : jMe) : Prop :=
  (∀ w ∈ B, goodWord w = true) ∧ ∀ (q : Nat) (y : MethodName) (cc : ByteArray) (maxL : Nat) (ret : Option FieldType), me q = some (y, cc, maxL, ret) → plainName y.cls = true ∧ mx q = maxL ∧ j_rt (rt q) ret ∧ (∀ pc i, co q pc = some i → j_dec cc pc i) ∧ (∀ x z, fl q x = some z → j_FL cl B y.cls x z) ∧ (∀ x v, cn q x = some v → Jvm.Cond.constant y.cls x v ∈ B) ∧ (∀ x, j_NX B y.cls x (nt q x)) ∧ (∀ x z, ml q x = some z → j_ML cl B me y.cls x z)
def j_Q (D : va_G) (cl : List vw_C) (n0 : List Nat) (ad : Nat → Nat) (cy : Nat → ClassId) (A : Nat → Prop) (r : Option Value) (f : jM) : Array Value → State → Outcome → State → Prop := fun _ st oc t => oc = .returned (r.map (j_tv ad)) ∧ va_P D cl (j_ws n0 ad cy f) t.heap ∧ va_D A (j_ws n0 ad cy f) ∧ va_F A st t
def j_P (D : va_G) (cl : List vw_C) (pg : String) (n0 : List Nat) (ad : Nat → Nat) (cy : Nat → ClassId) (sz : Nat) (vs : List Value) (f : jM) : Array Value → State → Prop := fun v U => v = (vs.map (j_tv ad)).toArray ∧ va_P D cl (j_ws n0 ad cy f) U.heap ∧ va_K D cl (j_cy pg cy n0) U ∧ va_D (fun _ => True) (j_ws n0 ad cy f) ∧ U.heap.size = sz ∧ z_K ad (va_A (j_ws n0 ad cy f) sz) U U.heap
theorem j_P_blind {D : va_G} {cl : List vw_C} {pg : String} {n0 : List Nat} {ad : Nat → Nat} {cy : Nat → ClassId} {sz : Nat} {vs : List Value} {f : jM} : FrameBlind (j_P D cl pg n0 ad cy sz vs f) := fun a U g mk q => by
  obtain ⟨q0, q1, q2, q3, q4, q5⟩ := q
  exact ⟨q0, q1, va_K.moved (u := U) (U := U.calling g mk a) (Vm.Alike.refl U.vm) q2, q3, q4, z_K.same (s := U) (U := U.calling g mk a) rfl q5⟩
theorem j_args_map (ad : Nat → Nat) : ∀ (vs : List Value) (i : Nat) (k : Nat) (v : Value), (k, v) ∈ lv_args i vs → (k, j_tv ad v) ∈ lv_args i (vs.map (j_tv ad))
  | [], _, _, _, h => nomatch h
  | u :: vs, i, k, v, h => by
    have e1 : lv_args i (u :: vs) = (i, u) :: lv_args (if u.category = 2 then i + 2 else i + 1) vs := rfl
    have e2 : lv_args i ((u :: vs).map (j_tv ad)) = (i, j_tv ad u) :: lv_args (if (j_tv ad u).category = 2 then i + 2 else i + 1) (vs.map (j_tv ad)) := rfl
    rw [e1] at h
    rw [e2, j_cat]
    rcases List.mem_cons.mp h with h | h
    · cases h
      exact List.mem_cons_self
    · exact List.mem_cons_of_mem _ (j_args_map ad vs _ k v h)
theorem j_av_has {ad : Nat → Nat} {ls : Array Slot} {mx : Nat} {vs : List Value} (h : lv_has ls mx (lv_args 0 (vs.map (j_tv ad)))) : j_has ad ls mx (j_av vs) := by
  refine ⟨h.1, h.2.1, fun k v hv => ?_⟩
  unfold j_av at hv
  split at hv
  · rename_i q hq
    cases hv
    have h1 := List.find?_some hq
    have h2 := List.mem_of_find?_eq_some hq
    have h3 : q.1 = k := by simpa using h1
    subst h3
    exact h.2.2 (q.1, j_tv ad q.2) (j_args_map ad vs 0 q.1 q.2 h2)
  · cases hv
theorem j_sl_len (ad : Nat → Nat) (vs : List Value) : (lg_sl (vs.map (j_tv ad))).length = (lg_sl vs).length := by
  induction vs with
  | nil => rfl
  | cons v vs ih =>
    have e1 : lg_sl ((v :: vs).map (j_tv ad)) = (if (j_tv ad v).category = 2 then [Slot.val (j_tv ad v), .second] else [.val (j_tv ad v)]) ++ lg_sl (vs.map (j_tv ad)) := rfl
    have e2 : lg_sl (v :: vs) = (if v.category = 2 then [Slot.val v, .second] else [.val v]) ++ lg_sl vs := rfl
    rw [e1, e2, List.length_append, List.length_append, ih, j_cat]
    split <;> rfl
section JK
variable {p : Program} {l : Launch} {e : Env} {R : Room} {s : State} {m : MethodId} {args : Array Value} {below : List Frame} {meth : Method} {c : Code} {H : Heap} {locs : List Loc} {Q : State → Prop}
theorem j_call {D : va_G} {cl : List vw_C} {n0 : List Nat} {ad : Nat → Nat} {cy : Nat → ClassId} {A0 A1 : Nat → Prop} {H0 : Heap} {r : Option Value} {f1 : jM} {a : Array Value} {pc : Nat} {ls : Array Slot} {st0 rest : List Value}
    (hr : va_Run p l e R s m args below meth c H locs 0 0 0 0 (F0 m pc ls st0) rest (j_Q D cl n0 ad cy A1 r f1 a) A1) (hS : va_S A0 H0 H locs) (hA : ∀ q, A1 q → A0 q)
    (kk : ∀ (H1 : Heap) (locs1 : List Loc), va_P D cl (j_ws n0 ad cy f1) H1 → va_D A0 (j_ws n0 ad cy f1) → va_S A0 H0 H1 locs1 → W p l e R s m args below meth c H1 locs1 0 0 Q (F0 m (pc + 3) ls ((r.map (j_tv ad)).toList ++ rest))) : W p l e R s m args below meth c H locs 0 0 Q (F0 m pc ls st0) := by
  intro T hT X
  obtain ⟨v, st₀, t, T', L, h0, X', hL, e1, e2, ⟨hv, hp, hd, hz, hk⟩, st⟩ := hr T hT X
  cases hv
  rw [h0] at hz hk
  obtain ⟨t2, a1, b1⟩ := kk T'.heap (locs ++ L) (by rw [e1]; exact hp) (hd.weaken (fun _ q _ h => hA q.1 h))
    ⟨Nat.le_trans hS.1 (by rw [e1]; exact hz), fun q h1 h2 => by rw [e1, hk q (Nat.lt_of_lt_of_le h1 hS.1) (fun z => h2 (hA q z))]; exact hS.2.1 q h1 h2, fun q hq => by
      rcases List.mem_append.mp hq with h | h
      · exact hS.2.2 q h
      · exact hA _ (hL q h)⟩ T' rfl X'
  exact ⟨t2, st t2 a1, b1⟩
end JK
abbrev jRm (d : Nat) : Room := { frames := d + 4, cells := 0, slots := 0, locals := 41 * d + 100 }
/-- what a run says of the machine, from any place of the method on -/
def j_Sim (l : Launch) (D : va_G) (cl : List vw_C) (pg : String) (n0 : List Nat) (ad : Nat → Nat) (cy : Nat → ClassId) (B : List Cond) (y : MethodName) (cc : ByteArray) (maxL : Nat) (ret : Option FieldType) (d pc : Nat) (lv : jV) (st : List Value) (f : jM) (r : Option Value) (f' : jM) : Prop :=
  ∀ (p : Program) (e : Env) (s : State) (m : MethodId) (args : Array Value) (below : List Frame) (meth : Method) (c : Code) (H : Heap) (locs : List Loc) (A : Nat → Prop) (ls : Array Slot),
    p.tables.exec = Jvm.exec → c.code = cc → c.maxLocals = maxL → meth.sig.returnType = ret → meth.locks = false → s.vm.findClass y.cls = some m.cls → (∀ w ∈ B, w.before args s = true) → va_K D cl (j_cy pg cy n0) s → va_P D cl (j_ws n0 ad cy f) H → va_D A (j_ws n0 ad cy f) → z_K ad A s s.heap → va_S A s.heap H locs → (∀ q, s.heap.size ≤ q → A q) → j_has ad ls maxL lv →
    W p l e (jRm d) s m args below meth c H locs 0 0 (MQ below (j_Q D cl n0 ad cy A r f') args s 0 0 A) (F0 m pc ls (st.map (j_tv ad)))
theorem j_met_of {l : Launch} {D : va_G} {cl : List vw_C} {pg : String} {n0 : List Nat} {ad : Nat → Nat} {cy : Nat → ClassId} {B : List Cond} {y : MethodName} {cc : ByteArray} {maxL : Nat} {ret : Option FieldType} {d : Nat} {vs : List Value} {f : jM} {r : Option Value} {f' : jM} (hy : plainName y.cls = true) (hn : (lg_sl vs).length ≤ maxL)
    (h : j_Sim l D cl pg n0 ad cy B y cc maxL ret d 0 (j_av vs) [] f r f') (sz : Nat) :
    Met l y (Jvm.Cond.code y cc maxL ret :: B) (jRm d) (j_P D cl pg n0 ad cy sz vs f) (j_Q D cl n0 ad cy (va_A (j_ws n0 ad cy f) sz) r f') 0 0 (va_A (j_ws n0 ad cy f) sz) := by
  refine Met.ofW (cc := cc) (maxL := maxL) (ret := ret) hy rfl ?_
  intro p e s m args below meth c s₁ Bd hml hv
  obtain ⟨rfl, hP, hK, hD0, rfl, hZ⟩ := hv
  have hts := atoms_spec (ws := Jvm.Cond.code y cc maxL ret :: B) Bd.pre
  have hl := lv_entry (vs.map (j_tv ad)) (n := maxL) (by rw [j_sl_len]; exact hn)
  rw [lg_entry_eq]
  have hl := j_av_has hl
  exact h p e s m _ below meth c s.heap [] _ _ Bd.exec Bd.bytes hml Bd.returns Bd.notSynchronized (findClass_of_methodNamed Bd.named) (fun w hw => hts w (List.mem_cons_of_mem _ hw)) hK hP hD0.self hZ va_S.rf (fun q hq => Or.inr hq) hl
