/-! THE SMALL MACHINE. A pure run of methods that make nothing new: memory is a function from numbers of cells to what a cell holds, with references by number. -/
abbrev jM : Type := Nat → va_E
def j_tv (ad : Nat → Nat) : Value → Value
  | .ref k => .ref (ad k)
  | v => v
def j_tA (ad : Nat → Nat) : vp_A → vp_A
  | (n, .inr (.inr (.inr (.inr f)))) => (n, .inr (.inr (.inr (.inr (fun i => (f i).map ad)))))
  | (n, .inr (.inr (.inr (.inl f)))) => (n, .inr (.inr (.inr (.inl f))))
  | (n, .inr (.inr (.inl f))) => (n, .inr (.inr (.inl f)))
  | (n, .inr (.inl f)) => (n, .inr (.inl f))
  | (n, .inl f) => (n, .inl f)
def j_tE (ad : Nat → Nat) (cy : Nat → ClassId) : va_E → va_E
  | .inl (c, a) => .inl (cy c, j_tA ad a)
  | .inr (c, fs) => .inr (c, fs.map (j_tv ad))
def j_ws (n0 : List Nat) (ad : Nat → Nat) (cy : Nat → ClassId) (f : jM) : va_W := n0.map (fun k => (ad k, j_tE ad cy (f k)))
theorem j_ws_at {n0 : List Nat} {ad : Nat → Nat} {cy : Nat → ClassId} {f : jM} {k : Nat} (h : k ∈ n0) : ∃ i : Nat, n0[i]? = some k ∧ (j_ws n0 ad cy f)[i]? = some (ad k, j_tE ad cy (f k)) := by
  obtain ⟨i, hi⟩ := List.getElem?_of_mem h
  exact ⟨i, hi, by simp [j_ws, hi]⟩
theorem j_ws_set {n0 : List Nat} (hn : n0.Nodup) {ad : Nat → Nat} {cy : Nat → ClassId} {f : jM} {i k : Nat} (h : n0[i]? = some k) (e : va_E) {x : va_E} (hx : j_tE ad cy e = x) : (j_ws n0 ad cy f).set i (ad k, x) = j_ws n0 ad cy (va_up f k e) := by
  subst hx
  apply List.ext_getElem?
  intro j
  rw [List.getElem?_set]
  by_cases hi : i = j
  · subst hi
    have hl : i < n0.length := (List.getElem?_eq_some_iff.mp h).1
    have hk : n0[i] = k := (List.getElem?_eq_some_iff.mp h).2
    simp [j_ws, hl, hk, va_up]
  · rw [if_neg hi]
    unfold j_ws
    rw [List.getElem?_map, List.getElem?_map]
    cases hj : n0[j]? with
    | none => rfl
    | some q =>
      have hq : q ≠ k := by
        intro z
        subst z
        obtain ⟨h1, h2⟩ := List.getElem?_eq_some_iff.mp h
        obtain ⟨h3, h4⟩ := List.getElem?_eq_some_iff.mp hj
        have hp := List.pairwise_iff_getElem.mp hn
        rcases Nat.lt_trichotomy i j with z | z | z
        · exact hp i j h1 h3 z (h2.trans h4.symm)
        · exact hi z
        · exact hp j i h3 h1 z (h4.trans h2.symm)
      simp only [Option.map_some, va_up_ne _ _ hq]
/-- the locals, as far as they are known -/
abbrev jV : Type := Nat → Option Value
/-- what is left of a local whose neighbour behind it is stored -/
def j_dl (o : Option Value) : Option Value := match o with
  | some v => if v.category = 2 then none else some v
  | none => none
def j_st (lv : jV) (k : Nat) (v : Value) : jV := fun j => if j = k then some v else if j + 1 = k then j_dl (lv j) else lv j
def j_st2 (lv : jV) (k : Nat) (v : Value) : jV := fun j => if j = k then some v else if j = k + 1 then none else if j + 1 = k then j_dl (lv j) else lv j
/-- the locals at a method's start -/
def j_av (vs : List Value) : jV := fun k => match (lv_args 0 vs).find? (fun q => q.1 == k) with
  | some q => some q.2
  | none => none
def j_br (pc : Nat) (off : Int) : Option Nat := if 0 ≤ (pc : Int) + off then some ((pc : Int) + off).toNat else none
theorem j_br_ok {pc t : Nat} {off : Int} (h : j_br pc off = some t) : (pc : Int) + off = (t : Int) := by
  unfold j_br at h
  split at h
  · cases h
    omega
  · cases h
def j_if (c : Jvm.ClassFile.Cond) (x : Int32) : Bool := match c with
  | .eq => decide (x = 0)
  | .ne => decide (¬ x = 0)
  | .lt => decide (x < 0)
  | .ge => decide (0 ≤ x)
  | .gt => decide (0 < x)
  | .le => decide (x ≤ 0)
def j_ic (c : Jvm.ClassFile.Cond) (x y : Int32) : Bool := match c with
  | .eq => decide (x = y)
  | .ne => decide (¬ x = y)
  | .lt => decide (x < y)
  | .ge => decide (y ≤ x)
  | .gt => decide (y < x)
  | .le => decide (x ≤ y)
/-- the object at a -/
def j_ob (n0 : List Nat) (f : jM) (a ci : Nat) : Option (List Value) := if a ∈ n0 then (match f a with
  | .inr (c, fs) => if c = ci then some fs else none
  | .inl _ => none) else none
/-- the array of ints (type code t) at a -/
def j_ai (n0 : List Nat) (f : jM) (t a : Nat) : Option (Nat × (Nat → Int32)) := if a ∈ n0 then (match f a with
  | .inl (c, (n, .inl g)) => if c = t then some (n, g) else none
  | _ => none) else none
def j_al (n0 : List Nat) (f : jM) (t a : Nat) : Option (Nat × (Nat → Int64)) := if a ∈ n0 then (match f a with
  | .inl (c, (n, .inr (.inl g))) => if c = t then some (n, g) else none
  | _ => none) else none
def j_ar (n0 : List Nat) (f : jM) (a : Nat) : Option (Nat × Nat × (Nat → Option Nat)) := if a ∈ n0 then (match f a with
  | .inl (c, (n, .inr (.inr (.inr (.inr g))))) => some (c, n, g)
  | _ => none) else none
theorem j_ob_ok {n0 : List Nat} {f : jM} {a ci : Nat} {fs : List Value} (h : j_ob n0 f a ci = some fs) : a ∈ n0 ∧ f a = .inr (ci, fs) := by
  unfold j_ob at h
  split at h
  · rename_i h1
    split at h
    · rename_i h2
      split at h
      · rename_i h3
        cases h
        subst h3
        exact ⟨h1, h2⟩
      · cases h
    · cases h
  · cases h
theorem j_ai_ok {n0 : List Nat} {f : jM} {t a n : Nat} {g : Nat → Int32} (h : j_ai n0 f t a = some (n, g)) : a ∈ n0 ∧ f a = .inl (t, (n, .inl g)) := by
  unfold j_ai at h
  split at h
  · rename_i h1
    split at h
    · rename_i h2
      split at h
      · rename_i h3
        cases h
        subst h3
        exact ⟨h1, h2⟩
      · cases h
    · cases h
  · cases h
theorem j_al_ok {n0 : List Nat} {f : jM} {t a n : Nat} {g : Nat → Int64} (h : j_al n0 f t a = some (n, g)) : a ∈ n0 ∧ f a = .inl (t, (n, .inr (.inl g))) := by
  unfold j_al at h
  split at h
  · rename_i h1
    split at h
    · rename_i h2
      split at h
      · rename_i h3
        cases h
        subst h3
        exact ⟨h1, h2⟩
      · cases h
    · cases h
  · cases h
theorem j_ar_ok {n0 : List Nat} {f : jM} {t a n : Nat} {g : Nat → Option Nat} (h : j_ar n0 f a = some (t, n, g)) : a ∈ n0 ∧ f a = .inl (t, (n, .inr (.inr (.inr (.inr g))))) := by
  unfold j_ar at h
  split at h
  · rename_i h1
    split at h
    · rename_i h2
      cases h
      exact ⟨h1, h2⟩
    · cases h
  · cases h
/-- may v be put into a field of kind t (0 int, 1 boolean, 2 a reference)? -/
def j_pt (t : Nat) (v : Value) : Bool := match t, v with
  | 0, .int _ => true
  | 1, .int x => decide (x = 0 ∨ x = 1)
  | 2, .ref _ => true
  | _, _ => false
/-- the next state of a method's own frame -/
abbrev jF : Type := Nat × jV × List Value × jM
def j_go (o : Option Nat) (lv : jV) (st : List Value) (f : jM) : Option jF := match o with
  | some t => some (t, lv, st, f)
  | none => none
def j_step (n0 : List Nat) (mx : Nat) (fl : Nat → Option (Nat × Nat × Nat)) (cn : Nat → Option Int32) (nt : Nat → Nat) (i : Instr) (pc : Nat) (lv : jV) (st : List Value) (f : jM) : Option jF :=
  match i with
  | .iconst n => some (pc + 1, lv, .int (Int32.ofInt n) :: st, f)
  | .bipush n => some (pc + 2, lv, .int (Int8.ofInt n).toInt32 :: st, f)
  | .sipush n => some (pc + 3, lv, .int (Int16.ofInt n).toInt32 :: st, f)
  | .lconst n => some (pc + 1, lv, .long (Int64.ofNat (n : Nat)) :: st, f)
  | .ldc x => (match cn x with
    | some v => some (pc + 2, lv, .int v :: st, f)
    | none => if 10 ≤ nt x ∧ nt x < 33 then some (pc + 2, lv, .ref (890 + nt x) :: st, f) else none)
  | .ldc_w x => (match cn x with
    | some v => some (pc + 3, lv, .int v :: st, f)
    | none => none)
  | .iload_n k => (match lv (k : Nat) with
    | some (.int v) => some (pc + 1, lv, .int v :: st, f)
    | _ => none)
  | .iload k => (match lv k with
    | some (.int v) => some (pc + 2, lv, .int v :: st, f)
    | _ => none)
  | .lload_n k => (match lv (k : Nat) with
    | some (.long v) => some (pc + 1, lv, .long v :: st, f)
    | _ => none)
  | .lload k => (match lv k with
    | some (.long v) => some (pc + 2, lv, .long v :: st, f)
    | _ => none)
  | .aload_n k => (match lv (k : Nat) with
    | some (.ref v) => some (pc + 1, lv, .ref v :: st, f)
    | _ => none)
  | .aload k => (match lv k with
    | some (.ref v) => some (pc + 2, lv, .ref v :: st, f)
    | _ => none)
  | .istore_n k => (match st with
    | .int v :: r => if (k : Nat) < mx then some (pc + 1, j_st lv (k : Nat) (.int v), r, f) else none
    | _ => none)
  | .istore k => (match st with
    | .int v :: r => if k < mx then some (pc + 2, j_st lv k (.int v), r, f) else none
    | _ => none)
  | .lstore_n k => (match st with
    | .long v :: r => if (k : Nat) + 1 < mx then some (pc + 1, j_st2 lv (k : Nat) (.long v), r, f) else none
    | _ => none)
  | .astore_n k => (match st with
    | .ref v :: r => if (k : Nat) < mx then some (pc + 1, j_st lv (k : Nat) (.ref v), r, f) else none
    | _ => none)
  | .astore k => (match st with
    | .ref v :: r => if k < mx then some (pc + 2, j_st lv k (.ref v), r, f) else none
    | _ => none)
  | .iinc k n => (match lv k with
    | some (.int v) => if k < mx then some (pc + 3, j_st lv k (.int (v + Int32.ofInt n)), st, f) else none
    | _ => none)
  | .iadd => (match st with
    | .int y :: .int x :: r => some (pc + 1, lv, .int (x + y) :: r, f)
    | _ => none)
  | .isub => (match st with
    | .int y :: .int x :: r => some (pc + 1, lv, .int (x - y) :: r, f)
    | _ => none)
  | .imul => (match st with
    | .int y :: .int x :: r => some (pc + 1, lv, .int (x * y) :: r, f)
    | _ => none)
  | .idiv => (match st with
    | .int y :: .int x :: r => if y = 0 then none else some (pc + 1, lv, .int (x / y) :: r, f)
    | _ => none)
  | .irem => (match st with
    | .int y :: .int x :: r => if y = 0 then none else some (pc + 1, lv, .int (x - x / y * y) :: r, f)
    | _ => none)
  | .iand => (match st with
    | .int y :: .int x :: r => some (pc + 1, lv, .int (x &&& y) :: r, f)
    | _ => none)
  | .ior => (match st with
    | .int y :: .int x :: r => some (pc + 1, lv, .int (x ||| y) :: r, f)
    | _ => none)
  | .ixor => (match st with
    | .int y :: .int x :: r => some (pc + 1, lv, .int (x ^^^ y) :: r, f)
    | _ => none)
  | .ishl => (match st with
    | .int y :: .int x :: r => some (pc + 1, lv, .int (x <<< (y &&& 31)) :: r, f)
    | _ => none)
  | .ishr => (match st with
    | .int y :: .int x :: r => some (pc + 1, lv, .int (x >>> (y &&& 31)) :: r, f)
    | _ => none)
  | .iushr => (match st with
    | .int y :: .int x :: r => some (pc + 1, lv, .int (x.toUInt32 >>> (y.toUInt32 &&& Int32.toUInt32 31)).toInt32 :: r, f)
    | _ => none)
  | .i2l => (match st with
    | .int x :: r => some (pc + 1, lv, .long x.toInt64 :: r, f)
    | _ => none)
  | .lcmp => (match st with
    | .long y :: .long x :: r => some (pc + 1, lv, .int (lg_cmp x y) :: r, f)
    | _ => none)
  | .lor => (match st with
    | .long y :: .long x :: r => some (pc + 1, lv, .long (x ||| y) :: r, f)
    | _ => none)
  | .land => (match st with
    | .long y :: .long x :: r => some (pc + 1, lv, .long (x &&& y) :: r, f)
    | _ => none)
  | .lshl => (match st with
    | .int y :: .long x :: r => some (pc + 1, lv, .long (x <<< (y.toInt64 &&& 63)) :: r, f)
    | _ => none)
  | .lshr => (match st with
    | .int y :: .long x :: r => some (pc + 1, lv, .long (x >>> (y.toInt64 &&& 63)) :: r, f)
    | _ => none)
  | .dup => (match st with
    | v :: r => if v.category = 1 then some (pc + 1, lv, v :: v :: r, f) else none
    | _ => none)
  | .dup2 => (match st with
    | v :: u :: r => if v.category = 1 ∧ u.category = 1 then some (pc + 1, lv, v :: u :: v :: u :: r, f) else none
    | _ => none)
  | .pop => (match st with
    | v :: r => if v.category = 1 then some (pc + 1, lv, r, f) else none
    | _ => none)
  | .goto o => j_go (j_br pc o) lv st f
  | .ifCond c o => (match st with
    | .int x :: r => j_go ((j_br pc o).map (fun t => if j_if c x = true then t else pc + 3)) lv r f
    | _ => none)
  | .if_icmp c o => (match st with
    | .int y :: .int x :: r => j_go ((j_br pc o).map (fun t => if j_ic c x y = true then t else pc + 3)) lv r f
    | _ => none)
  | .tableswitch d lo hi os => (match st with
    | .int x :: r => if x.toInt < lo ∨ hi < x.toInt then j_go (j_br pc d) lv r f else (match os[(x.toInt - lo).toNat]? with
      | some o => j_go (j_br pc o) lv r f
      | none => none)
    | _ => none)
  | .getfield x => (match st with
    | .ref a :: r => (match fl x with
      | some (ci, k, _) => (match j_ob n0 f a ci with
        | some fs => (match fs[k]? with
          | some v => some (pc + 3, lv, v :: r, f)
          | none => none)
        | none => none)
      | none => none)
    | _ => none)
  | .putfield x => (match st with
    | v :: .ref a :: r => (match fl x with
      | some (ci, k, t) => (match j_ob n0 f a ci with
        | some fs => if k < fs.length ∧ j_pt t v = true then some (pc + 3, lv, r, va_up f a (.inr (ci, fs.set k v))) else none
        | none => none)
      | none => none)
    | _ => none)
  | .iaload => (match st with
    | .int j :: .ref a :: r => (match j_ai n0 f 0 a with
      | some (n, g) => if j < 0 ∨ n ≤ j.toNatClampNeg then none else some (pc + 1, lv, .int (g j.toNatClampNeg) :: r, f)
      | none => none)
    | _ => none)
  | .baload => (match st with
    | .int j :: .ref a :: r => (match j_ai n0 f 2 a with
      | some (n, g) => if j < 0 ∨ n ≤ j.toNatClampNeg then none else some (pc + 1, lv, .int (g j.toNatClampNeg) :: r, f)
      | none => none)
    | _ => none)
  | .laload => (match st with
    | .int j :: .ref a :: r => (match j_al n0 f 1 a with
      | some (n, g) => if j < 0 ∨ n ≤ j.toNatClampNeg then none else some (pc + 1, lv, .long (g j.toNatClampNeg) :: r, f)
      | none => none)
    | _ => none)
  | .aaload => (match st with
    | .int j :: .ref a :: r => (match j_ar n0 f a with
      | some (t, n, g) => if j < 0 ∨ n ≤ j.toNatClampNeg ∨ ¬ (t = 3 ∨ ((t = 4 ∨ t = 5) ∧ 0 ∈ n0)) then none else (match g j.toNatClampNeg with
        | some q => some (pc + 1, lv, .ref q :: r, f)
        | none => none)
      | none => none)
    | _ => none)
  | .iastore => (match st with
    | .int x :: .int j :: .ref a :: r => (match j_ai n0 f 0 a with
      | some (n, g) => if j < 0 ∨ n ≤ j.toNatClampNeg then none else some (pc + 1, lv, r, va_up f a (.inl (0, (n, .inl (upd g j.toNatClampNeg x)))))
      | none => none)
    | _ => none)
  | .bastore => (match st with
    | .int x :: .int j :: .ref a :: r => (match j_ai n0 f 2 a with
      | some (n, g) => if (j < 0 ∨ n ≤ j.toNatClampNeg) ∨ ¬ (x = 0 ∨ x = 1) then none else some (pc + 1, lv, r, va_up f a (.inl (2, (n, .inl (upd g j.toNatClampNeg x)))))
      | none => none)
    | _ => none)
  | .lastore => (match st with
    | .long x :: .int j :: .ref a :: r => (match j_al n0 f 1 a with
      | some (n, g) => if j < 0 ∨ n ≤ j.toNatClampNeg then none else some (pc + 1, lv, r, va_up f a (.inl (1, (n, .inr (.inl (vp_updL g j.toNatClampNeg x))))))
      | none => none)
    | _ => none)
  | .invokestatic x => if nt x = 1 then (match st with
    | .int n :: .int dp :: .ref a :: .int sp :: .ref b :: r => (match j_ai n0 f 0 b with
      | some (nb, gb) => (match j_ai n0 f 0 a with
        | some (na, ga) => if (¬ sp < 0 ∧ ¬ dp < 0 ∧ ¬ n < 0) ∧ (sp.toNatClampNeg + n.toNatClampNeg ≤ nb ∧ dp.toNatClampNeg + n.toNatClampNeg ≤ na) ∧ (r.map fun v => v.category).sum ≤ 8 then some (pc + 3, lv, r, va_up f a (.inl (0, (na, .inl (va_cpy gb ga sp.toNatClampNeg dp.toNatClampNeg n.toNatClampNeg))))) else none
        | none => none)
      | none => none)
    | _ => none) else if nt x = 2 then (match st with
    | .int v :: .int u :: r => if (r.map fun v => v.category).sum ≤ 8 then some (pc + 3, lv, .int (if u < v then v else u) :: r, f) else none
    | _ => none) else if nt x = 3 then (match st with
    | .int v :: .int u :: r => if (r.map fun v => v.category).sum ≤ 8 then some (pc + 3, lv, .int (if v < u then v else u) :: r, f) else none
    | _ => none) else none
  | .invokevirtual x => if nt x = 4 then (match st with
    | .ref a :: r => if (900 ≤ a ∧ a < 923) ∧ (r.map fun v => v.category).sum ≤ 8 then some (pc + 3, lv, .int (x_sl (a - 900)) :: r, f) else none
    | _ => none) else if nt x = 5 then (match st with
    | .int k :: .ref a :: r => if (900 ≤ a ∧ a < 923) ∧ ¬ (k < 0 ∨ x_sn (a - 900) ≤ k.toNatClampNeg) ∧ (r.map fun v => v.category).sum ≤ 8 then some (pc + 3, lv, .int (x_sc (a - 900) k.toNatClampNeg) :: r, f) else none
    | _ => none) else none
  | .arraylength => (match st with
    | .ref a :: r => if a ∈ n0 then (match f a with
      | .inl (t, x) => if t < 4 ∨ (t < 6 ∧ 0 ∈ n0) then some (pc + 1, lv, .int (Int32.ofNat x.1) :: r, f) else none
      | .inr _ => none) else none
    | _ => none)
  | _ => none
