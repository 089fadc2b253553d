/-! THE TYPED MEMORY: cells by number, their shapes fixed: an object of class ci (its fields ints or references), an array of ints, booleans or longs, an array of references that never changes. -/
abbrev jSc : Type := Nat → Nat → Int32
abbrev jRf : Type := Nat → Nat → Nat
abbrev jAl : Type := Nat → Nat → Int64
/-- the layout: the shape of each cell (an object of a class, or an array: type code, length), what the arrays of references hold, how many fields a class has, which of them are references -/
abbrev jL : Type := (Nat → Nat ⊕ (Nat × Nat)) × (Nat → Nat → Option Nat) × (Nat → Nat) × (Nat → Nat → Bool)
def j_u2 {α : Type} (f : Nat → Nat → α) (a k : Nat) (v : α) : Nat → Nat → α := fun b j => if b = a ∧ j = k then v else f b j
def j_fs (L : jL) (sc : jSc) (rf : jRf) (ci a : Nat) : List Value := (List.range (L.2.2.1 ci)).map (fun k => if L.2.2.2 ci k = true then .ref (rf a k) else .int (sc a k))
def j_lay (L : jL) (sc : jSc) (rf : jRf) (ar : jSc) (al : jAl) : jM := fun a => match L.1 a with
  | .inl ci => .inr (ci, j_fs L sc rf ci a)
  | .inr (t, n) => if t = 1 then .inl (1, (n, .inr (.inl (al a)))) else if t = 0 ∨ t = 2 then .inl (t, (n, .inl (ar a))) else .inl (t, (n, .inr (.inr (.inr (.inr (L.2.1 a))))))
/-- a shape is that of a cell that is there -/
def j_LK (n0 : List Nat) (L : jL) : Prop := ∀ a : Nat, (match L.1 a with | .inl _ => True | .inr (t, _) => t < 6) → a ∈ n0
theorem j_fs_get {L : jL} {sc : jSc} {rf : jRf} {ci a k : Nat} (h : k < L.2.2.1 ci) : (j_fs L sc rf ci a)[k]? = some (if L.2.2.2 ci k = true then .ref (rf a k) else .int (sc a k)) := by
  simp [j_fs, h]
theorem j_lay_ob {n0 : List Nat} {L : jL} (hL : j_LK n0 L) {sc : jSc} {rf : jRf} {ar : jSc} {al : jAl} {a ci : Nat} (h : L.1 a = .inl ci) : j_ob n0 (j_lay L sc rf ar al) a ci = some (j_fs L sc rf ci a) := by
  have h1 : a ∈ n0 := hL a (by rw [h]; trivial)
  simp [j_ob, j_lay, h, h1]
theorem j_lay_ai {n0 : List Nat} {L : jL} (hL : j_LK n0 L) {sc : jSc} {rf : jRf} {ar : jSc} {al : jAl} {a t n : Nat} (ht : t = 0 ∨ t = 2) (h : L.1 a = .inr (t, n)) : j_ai n0 (j_lay L sc rf ar al) t a = some (n, ar a) := by
  have h1 : a ∈ n0 := hL a (by rw [h]; show t < 6; omega)
  rcases ht with rfl | rfl <;> simp [j_ai, j_lay, h, h1]
theorem j_lay_al {n0 : List Nat} {L : jL} (hL : j_LK n0 L) {sc : jSc} {rf : jRf} {ar : jSc} {al : jAl} {a n : Nat} (h : L.1 a = .inr (1, n)) : j_al n0 (j_lay L sc rf ar al) 1 a = some (n, al a) := by
  have h1 : a ∈ n0 := hL a (by rw [h]; show 1 < 6; omega)
  simp [j_al, j_lay, h, h1]
theorem j_lay_ar {n0 : List Nat} {L : jL} (hL : j_LK n0 L) {sc : jSc} {rf : jRf} {ar : jSc} {al : jAl} {a t n : Nat} (ht : t = 3 ∨ t = 4 ∨ t = 5) (h : L.1 a = .inr (t, n)) : j_ar n0 (j_lay L sc rf ar al) a = some (t, n, L.2.1 a) := by
  have h1 : a ∈ n0 := hL a (by rw [h]; show t < 6; omega)
  rcases ht with rfl | rfl | rfl <;> simp [j_ar, j_lay, h, h1]
theorem j_u2_row {α : Type} (f : Nat → Nat → α) (a k : Nat) (v : α) {b : Nat} (h : b ≠ a) : j_u2 f a k v b = f b := by
  funext j
  simp [j_u2, h]
theorem j_lay_sc {L : jL} {sc : jSc} {rf : jRf} {ar : jSc} {al : jAl} {a ci k : Nat} (h : L.1 a = .inl ci) (hk : L.2.2.2 ci k = false) (x : Int32) : va_up (j_lay L sc rf ar al) a (.inr (ci, (j_fs L sc rf ci a).set k (.int x))) = j_lay L (j_u2 sc a k x) rf ar al := by
  funext b
  by_cases hb : b = a
  · subst hb
    simp only [va_up, if_pos, j_lay, h]
    congr 2
    apply List.ext_getElem?
    intro i
    rw [List.getElem?_set]
    by_cases hi : k = i
    · subst hi
      by_cases hl : k < L.2.2.1 ci
      · simp [j_fs, hl, hk, j_u2]
      · simp [j_fs, hl]
    · rw [if_neg hi]
      by_cases hl : i < L.2.2.1 ci
      · rw [j_fs_get hl, j_fs_get hl]
        simp [j_u2, show ¬ i = k from fun q => hi q.symm]
      · simp [j_fs, hl]
  · rw [va_up_ne _ _ hb]
    unfold j_lay
    have e : ∀ c, j_fs L (j_u2 sc a k x) rf c b = j_fs L sc rf c b := fun c => by unfold j_fs; rw [j_u2_row _ _ _ _ hb]
    split
    · rw [e]
    · rfl
theorem j_lay_rf {L : jL} {sc : jSc} {rf : jRf} {ar : jSc} {al : jAl} {a ci k : Nat} (h : L.1 a = .inl ci) (hk : L.2.2.2 ci k = true) (x : Nat) : va_up (j_lay L sc rf ar al) a (.inr (ci, (j_fs L sc rf ci a).set k (.ref x))) = j_lay L sc (j_u2 rf a k x) ar al := by
  funext b
  by_cases hb : b = a
  · subst hb
    simp only [va_up, if_pos, j_lay, h]
    congr 2
    apply List.ext_getElem?
    intro i
    rw [List.getElem?_set]
    by_cases hi : k = i
    · subst hi
      by_cases hl : k < L.2.2.1 ci
      · simp [j_fs, hl, hk, j_u2]
      · simp [j_fs, hl]
    · rw [if_neg hi]
      by_cases hl : i < L.2.2.1 ci
      · rw [j_fs_get hl, j_fs_get hl]
        simp [j_u2, show ¬ i = k from fun q => hi q.symm]
      · simp [j_fs, hl]
  · rw [va_up_ne _ _ hb]
    unfold j_lay
    have e : ∀ c, j_fs L sc (j_u2 rf a k x) c b = j_fs L sc rf c b := fun c => by unfold j_fs; rw [j_u2_row _ _ _ _ hb]
    split
    · rw [e]
    · rfl
theorem j_upd_u2 (f : jSc) (a j : Nat) (x : Int32) : upd (f a) j x = j_u2 f a j x a := by
  funext i
  simp [upd, j_u2]
theorem j_updL_u2 (f : jAl) (a j : Nat) (x : Int64) : vp_updL (f a) j x = j_u2 f a j x a := by
  funext i
  simp [vp_updL, j_u2]
theorem j_lay_arr {L : jL} {sc : jSc} {rf : jRf} {ar : jSc} {al : jAl} {a t n : Nat} (ht : t = 0 ∨ t = 2) (h : L.1 a = .inr (t, n)) (j : Nat) (x : Int32) : va_up (j_lay L sc rf ar al) a (.inl (t, (n, .inl (upd (ar a) j x)))) = j_lay L sc rf (j_u2 ar a j x) al := by
  funext b
  by_cases hb : b = a
  · subst hb
    rw [j_upd_u2]
    rcases ht with rfl | rfl <;> simp [va_up, j_lay, h]
  · rw [va_up_ne _ _ hb]
    unfold j_lay
    rw [j_u2_row _ _ _ _ hb]
theorem j_lay_arl {L : jL} {sc : jSc} {rf : jRf} {ar : jSc} {al : jAl} {a n : Nat} (h : L.1 a = .inr (1, n)) (j : Nat) (x : Int64) : va_up (j_lay L sc rf ar al) a (.inl (1, (n, .inr (.inl (vp_updL (al a) j x))))) = j_lay L sc rf ar (j_u2 al a j x) := by
  funext b
  by_cases hb : b = a
  · subst hb
    rw [j_updL_u2]
    simp [va_up, j_lay, h]
  · rw [va_up_ne _ _ hb]
    unfold j_lay
    rw [j_u2_row _ _ _ _ hb]
theorem j_lay_row {L : jL} {sc : jSc} {rf : jRf} {ar : jSc} {al : jAl} {a t n : Nat} (ht : t = 0 ∨ t = 2) (h : L.1 a = .inr (t, n)) (g : Nat → Int32) : va_up (j_lay L sc rf ar al) a (.inl (t, (n, .inl g))) = j_lay L sc rf (va_up ar a g) al := by
  funext b
  by_cases hb : b = a
  · subst hb
    rcases ht with rfl | rfl <;> simp [va_up, j_lay, h]
  · rw [va_up_ne _ _ hb]
    unfold j_lay
    rw [va_up_ne _ _ hb]
def j_ifP (c : Jvm.ClassFile.Cond) (x : Int32) : Prop := match c with
  | .eq => x = 0
  | .ne => ¬ x = 0
  | .lt => x < 0
  | .ge => 0 ≤ x
  | .gt => 0 < x
  | .le => x ≤ 0
def j_icP (c : Jvm.ClassFile.Cond) (x y : Int32) : Prop := match c with
  | .eq => x = y
  | .ne => ¬ x = y
  | .lt => x < y
  | .ge => y ≤ x
  | .gt => y < x
  | .le => x ≤ y
theorem j_if_iff (c : Jvm.ClassFile.Cond) (x : Int32) : j_if c x = true ↔ j_ifP c x := by cases c <;> simp [j_if, j_ifP]
theorem j_ic_iff (c : Jvm.ClassFile.Cond) (x y : Int32) : j_ic c x y = true ↔ j_icP c x y := by cases c <;> simp [j_ic, j_icP]
/-- one instruction's computed precondition -/
def j_tx (L : jL) (mx : Nat) (fl : Nat → Option (Nat × Nat × Nat)) (cn : Nat → Option Int32) (nt : Nat → Nat) (i : Instr) (pc : Nat) (lv : jV) (st : List Value) (sc : jSc) (rf : jRf) (ar : jSc) (al : jAl) (K : Nat → jV → List Value → jSc → jRf → jSc → jAl → Prop) : Prop :=
  match i with
  | .iconst n => K (pc + 1) lv (.int (Int32.ofInt n) :: st) sc rf ar al
  | .bipush n => K (pc + 2) lv (.int (Int8.ofInt n).toInt32 :: st) sc rf ar al
  | .sipush n => K (pc + 3) lv (.int (Int16.ofInt n).toInt32 :: st) sc rf ar al
  | .lconst n => K (pc + 1) lv (.long (Int64.ofNat (n : Nat)) :: st) sc rf ar al
  | .ldc x => (match cn x with | some v => K (pc + 2) lv (.int v :: st) sc rf ar al | none => False)
  | .ldc_w x => (match cn x with | some v => K (pc + 3) lv (.int v :: st) sc rf ar al | none => False)
  | .iload_n k => (match lv (k : Nat) with | some (.int v) => K (pc + 1) lv (.int v :: st) sc rf ar al | _ => False)
  | .iload k => (match lv k with | some (.int v) => K (pc + 2) lv (.int v :: st) sc rf ar al | _ => False)
  | .lload_n k => (match lv (k : Nat) with | some (.long v) => K (pc + 1) lv (.long v :: st) sc rf ar al | _ => False)
  | .lload k => (match lv k with | some (.long v) => K (pc + 2) lv (.long v :: st) sc rf ar al | _ => False)
  | .aload_n k => (match lv (k : Nat) with | some (.ref v) => K (pc + 1) lv (.ref v :: st) sc rf ar al | _ => False)
  | .aload k => (match lv k with | some (.ref v) => K (pc + 2) lv (.ref v :: st) sc rf ar al | _ => False)
  | .istore_n k => (match st with | .int v :: r => (k : Nat) < mx ∧ K (pc + 1) (j_st lv (k : Nat) (.int v)) r sc rf ar al | _ => False)
  | .istore k => (match st with | .int v :: r => k < mx ∧ K (pc + 2) (j_st lv k (.int v)) r sc rf ar al | _ => False)
  | .lstore_n k => (match st with | .long v :: r => (k : Nat) + 1 < mx ∧ K (pc + 1) (j_st2 lv (k : Nat) (.long v)) r sc rf ar al | _ => False)
  | .astore_n k => (match st with | .ref v :: r => (k : Nat) < mx ∧ K (pc + 1) (j_st lv (k : Nat) (.ref v)) r sc rf ar al | _ => False)
  | .astore k => (match st with | .ref v :: r => k < mx ∧ K (pc + 2) (j_st lv k (.ref v)) r sc rf ar al | _ => False)
  | .iinc k n => (match lv k with | some (.int v) => k < mx ∧ K (pc + 3) (j_st lv k (.int (v + Int32.ofInt n))) st sc rf ar al | _ => False)
  | .iadd => (match st with | .int y :: .int x :: r => K (pc + 1) lv (.int (x + y) :: r) sc rf ar al | _ => False)
  | .isub => (match st with | .int y :: .int x :: r => K (pc + 1) lv (.int (x - y) :: r) sc rf ar al | _ => False)
  | .imul => (match st with | .int y :: .int x :: r => K (pc + 1) lv (.int (x * y) :: r) sc rf ar al | _ => False)
  | .iand => (match st with | .int y :: .int x :: r => K (pc + 1) lv (.int (x &&& y) :: r) sc rf ar al | _ => False)
  | .ior => (match st with | .int y :: .int x :: r => K (pc + 1) lv (.int (x ||| y) :: r) sc rf ar al | _ => False)
  | .ixor => (match st with | .int y :: .int x :: r => K (pc + 1) lv (.int (x ^^^ y) :: r) sc rf ar al | _ => False)
  | .ishl => (match st with | .int y :: .int x :: r => K (pc + 1) lv (.int (x <<< (y &&& 31)) :: r) sc rf ar al | _ => False)
  | .ishr => (match st with | .int y :: .int x :: r => K (pc + 1) lv (.int (x >>> (y &&& 31)) :: r) sc rf ar al | _ => False)
  | .iushr => (match st with | .int y :: .int x :: r => K (pc + 1) lv (.int (x.toUInt32 >>> (y.toUInt32 &&& Int32.toUInt32 31)).toInt32 :: r) sc rf ar al | _ => False)
  | .idiv => (match st with | .int y :: .int x :: r => ¬ y = 0 ∧ K (pc + 1) lv (.int (x / y) :: r) sc rf ar al | _ => False)
  | .irem => (match st with | .int y :: .int x :: r => ¬ y = 0 ∧ K (pc + 1) lv (.int (x - x / y * y) :: r) sc rf ar al | _ => False)
  | .i2l => (match st with | .int x :: r => K (pc + 1) lv (.long x.toInt64 :: r) sc rf ar al | _ => False)
  | .lcmp => (match st with | .long y :: .long x :: r => K (pc + 1) lv (.int (lg_cmp x y) :: r) sc rf ar al | _ => False)
  | .lor => (match st with | .long y :: .long x :: r => K (pc + 1) lv (.long (x ||| y) :: r) sc rf ar al | _ => False)
  | .land => (match st with | .long y :: .long x :: r => K (pc + 1) lv (.long (x &&& y) :: r) sc rf ar al | _ => False)
  | .lshl => (match st with | .int y :: .long x :: r => K (pc + 1) lv (.long (x <<< (y.toInt64 &&& 63)) :: r) sc rf ar al | _ => False)
  | .lshr => (match st with | .int y :: .long x :: r => K (pc + 1) lv (.long (x >>> (y.toInt64 &&& 63)) :: r) sc rf ar al | _ => False)
  | .dup => (match st with | v :: r => v.category = 1 ∧ K (pc + 1) lv (v :: v :: r) sc rf ar al | _ => False)
  | .pop => (match st with | v :: r => v.category = 1 ∧ K (pc + 1) lv r sc rf ar al | _ => False)
  | .dup2 => (match st with | v :: u :: r => (v.category = 1 ∧ u.category = 1) ∧ K (pc + 1) lv (v :: u :: v :: u :: r) sc rf ar al | _ => False)
  | .goto o => (match j_br pc o with | some t => K t lv st sc rf ar al | none => False)
  | .ifCond cd o => (match st with | .int x :: r => (match j_br pc o with | some t => (j_ifP cd x → K t lv r sc rf ar al) ∧ (¬ j_ifP cd x → K (pc + 3) lv r sc rf ar al) | none => False) | _ => False)
  | .if_icmp cd o => (match st with | .int y :: .int x :: r => (match j_br pc o with | some t => (j_icP cd x y → K t lv r sc rf ar al) ∧ (¬ j_icP cd x y → K (pc + 3) lv r sc rf ar al) | none => False) | _ => False)
  | .tableswitch d lo hi os => (match st with | .int x :: r => (x.toInt < lo ∨ hi < x.toInt → (match j_br pc d with | some t => K t lv r sc rf ar al | none => False)) ∧ (¬ (x.toInt < lo ∨ hi < x.toInt) → (match os[(x.toInt - lo).toNat]? with | some o => (match j_br pc o with | some t => K t lv r sc rf ar al | none => False) | none => False)) | _ => False)
  | .getfield x => (match st with | .ref a :: r => (match fl x with | some (ci, k, _) => L.1 a = .inl ci ∧ k < L.2.2.1 ci ∧ K (pc + 3) lv ((if L.2.2.2 ci k = true then .ref (rf a k) else .int (sc a k)) :: r) sc rf ar al | none => False) | _ => False)
  | .putfield x => (match st with | .int v :: .ref a :: r => (match fl x with | some (ci, k, t) => L.1 a = .inl ci ∧ k < L.2.2.1 ci ∧ L.2.2.2 ci k = false ∧ j_pt t (.int v) = true ∧ K (pc + 3) lv r (j_u2 sc a k v) rf ar al | none => False) | .ref v :: .ref a :: r => (match fl x with | some (ci, k, t) => L.1 a = .inl ci ∧ k < L.2.2.1 ci ∧ L.2.2.2 ci k = true ∧ j_pt t (.ref v) = true ∧ K (pc + 3) lv r sc (j_u2 rf a k v) ar al | none => False) | _ => False)
  | .iaload => (match st with | .int j :: .ref a :: r => (match L.1 a with | .inr (0, n) => ¬ (j < 0 ∨ n ≤ j.toNatClampNeg) ∧ K (pc + 1) lv (.int (ar a j.toNatClampNeg) :: r) sc rf ar al | _ => False) | _ => False)
  | .baload => (match st with | .int j :: .ref a :: r => (match L.1 a with | .inr (2, n) => ¬ (j < 0 ∨ n ≤ j.toNatClampNeg) ∧ K (pc + 1) lv (.int (ar a j.toNatClampNeg) :: r) sc rf ar al | _ => False) | _ => False)
  | .laload => (match st with | .int j :: .ref a :: r => (match L.1 a with | .inr (1, n) => ¬ (j < 0 ∨ n ≤ j.toNatClampNeg) ∧ K (pc + 1) lv (.long (al a j.toNatClampNeg) :: r) sc rf ar al | _ => False) | _ => False)
  | .aaload => (match st with | .int j :: .ref a :: r => (match L.1 a with | .inr (t, n) => (¬ (j < 0 ∨ n ≤ j.toNatClampNeg) ∧ (t = 3 ∨ ((t = 4 ∨ t = 5) ∧ L.1 0 = .inl 11))) ∧ (match L.2.1 a j.toNatClampNeg with | some q => K (pc + 1) lv (.ref q :: r) sc rf ar al | none => False) | _ => False) | _ => False)
  | .iastore => (match st with | .int x :: .int j :: .ref a :: r => (match L.1 a with | .inr (0, n) => (¬ (j < 0 ∨ n ≤ j.toNatClampNeg) ∧ True) ∧ K (pc + 1) lv r sc rf (j_u2 ar a j.toNatClampNeg x) al | _ => False) | _ => False)
  | .bastore => (match st with | .int x :: .int j :: .ref a :: r => (match L.1 a with | .inr (2, n) => (¬ (j < 0 ∨ n ≤ j.toNatClampNeg) ∧ (x = 0 ∨ x = 1)) ∧ K (pc + 1) lv r sc rf (j_u2 ar a j.toNatClampNeg x) al | _ => False) | _ => False)
  | .lastore => (match st with | .long x :: .int j :: .ref a :: r => (match L.1 a with | .inr (1, n) => ¬ (j < 0 ∨ n ≤ j.toNatClampNeg) ∧ K (pc + 1) lv r sc rf ar (j_u2 al a j.toNatClampNeg x) | _ => False) | _ => False)
  | .invokestatic x => (if nt x = 1 then (match st with | .int n :: .int dp :: .ref a :: .int sp :: .ref b :: r => (match L.1 b with | .inr (0, nb) => (match L.1 a with | .inr (0, na) => ((¬ sp < 0 ∧ ¬ dp < 0 ∧ ¬ n < 0) ∧ (sp.toNatClampNeg + n.toNatClampNeg ≤ nb ∧ dp.toNatClampNeg + n.toNatClampNeg ≤ na) ∧ (r.map fun v => v.category).sum ≤ 8) ∧ K (pc + 3) lv r sc rf (va_up ar a (va_cpy (ar b) (ar a) sp.toNatClampNeg dp.toNatClampNeg n.toNatClampNeg)) al | _ => False) | _ => False) | _ => False) else if nt x = 2 then (match st with | .int v :: .int u :: r => (r.map fun v => v.category).sum ≤ 8 ∧ K (pc + 3) lv (.int (if u < v then v else u) :: r) sc rf ar al | _ => False) else if nt x = 3 then (match st with | .int v :: .int u :: r => (r.map fun v => v.category).sum ≤ 8 ∧ K (pc + 3) lv (.int (if v < u then v else u) :: r) sc rf ar al | _ => False) else False)
  | .arraylength => (match st with | .ref a :: r => (match L.1 a with | .inr (t, n) => (t < 4 ∨ (t < 6 ∧ L.1 0 = .inl 11)) ∧ K (pc + 1) lv (.int (Int32.ofNat n) :: r) sc rf ar al | _ => False) | _ => False)
  | _ => False
set_option maxHeartbeats 4000000 in
theorem j_tx_ok {n0 : List Nat} {L : jL} (hL : j_LK n0 L) {mx : Nat} {fl : Nat → Option (Nat × Nat × Nat)} {cn : Nat → Option Int32} {nt : Nat → Nat} {i : Instr} {pc : Nat} {lv : jV} {st : List Value} {sc : jSc} {rf : jRf} {ar : jSc} {al : jAl} {K : Nat → jV → List Value → jSc → jRf → jSc → jAl → Prop} (h : j_tx L mx fl cn nt i pc lv st sc rf ar al K) :
    ∃ (pc' : Nat) (lv' : jV) (st' : List Value) (sc' : jSc) (rf' : jRf) (ar' : jSc) (al' : jAl), j_step n0 mx fl cn nt i pc lv st (j_lay L sc rf ar al) = some (pc', lv', st', j_lay L sc' rf' ar' al') ∧ K pc' lv' st' sc' rf' ar' al' := by
  cases i
  case iconst n =>
    simp only [j_tx] at h
    exact ⟨_, _, _, _, _, _, _, rfl, h⟩
  case bipush n =>
    simp only [j_tx] at h
    exact ⟨_, _, _, _, _, _, _, rfl, h⟩
  case sipush n =>
    simp only [j_tx] at h
    exact ⟨_, _, _, _, _, _, _, rfl, h⟩
  case lconst n =>
    simp only [j_tx] at h
    exact ⟨_, _, _, _, _, _, _, rfl, h⟩
  case ldc x =>
    simp only [j_tx] at h
    split at h
    · rename_i v hv
      exact ⟨_, _, _, _, _, _, _, by simp only [j_step, hv], h⟩
    · exact h.elim
  case ldc_w x =>
    simp only [j_tx] at h
    split at h
    · rename_i v hv
      exact ⟨_, _, _, _, _, _, _, by simp only [j_step, hv], h⟩
    · exact h.elim
  case iload_n k =>
    simp only [j_tx] at h
    split at h
    · rename_i v hv
      exact ⟨_, _, _, _, _, _, _, by simp only [j_step, hv], h⟩
    · exact h.elim
  case iload k =>
    simp only [j_tx] at h
    split at h
    · rename_i v hv
      exact ⟨_, _, _, _, _, _, _, by simp only [j_step, hv], h⟩
    · exact h.elim
  case lload_n k =>
    simp only [j_tx] at h
    split at h
    · rename_i v hv
      exact ⟨_, _, _, _, _, _, _, by simp only [j_step, hv], h⟩
    · exact h.elim
  case lload k =>
    simp only [j_tx] at h
    split at h
    · rename_i v hv
      exact ⟨_, _, _, _, _, _, _, by simp only [j_step, hv], h⟩
    · exact h.elim
  case aload_n k =>
    simp only [j_tx] at h
    split at h
    · rename_i v hv
      exact ⟨_, _, _, _, _, _, _, by simp only [j_step, hv], h⟩
    · exact h.elim
  case aload k =>
    simp only [j_tx] at h
    split at h
    · rename_i v hv
      exact ⟨_, _, _, _, _, _, _, by simp only [j_step, hv], h⟩
    · exact h.elim
  case istore_n k =>
    simp only [j_tx] at h
    split at h
    · obtain ⟨h1, h⟩ := h
      exact ⟨_, _, _, _, _, _, _, by simp only [j_step, if_pos h1], h⟩
    · exact h.elim
  case istore k =>
    simp only [j_tx] at h
    split at h
    · obtain ⟨h1, h⟩ := h
      exact ⟨_, _, _, _, _, _, _, by simp only [j_step, if_pos h1], h⟩
    · exact h.elim
  case lstore_n k =>
    simp only [j_tx] at h
    split at h
    · obtain ⟨h1, h⟩ := h
      exact ⟨_, _, _, _, _, _, _, by simp only [j_step, if_pos h1], h⟩
    · exact h.elim
  case astore_n k =>
    simp only [j_tx] at h
    split at h
    · obtain ⟨h1, h⟩ := h
      exact ⟨_, _, _, _, _, _, _, by simp only [j_step, if_pos h1], h⟩
    · exact h.elim
  case astore k =>
    simp only [j_tx] at h
    split at h
    · obtain ⟨h1, h⟩ := h
      exact ⟨_, _, _, _, _, _, _, by simp only [j_step, if_pos h1], h⟩
    · exact h.elim
  case iinc k n =>
    simp only [j_tx] at h
    split at h
    · rename_i v hv
      obtain ⟨h1, h⟩ := h
      exact ⟨_, _, _, _, _, _, _, by simp only [j_step, hv, if_pos h1], h⟩
    · exact h.elim
  case iadd =>
    simp only [j_tx] at h
    split at h
    · exact ⟨_, _, _, _, _, _, _, rfl, h⟩
    · exact h.elim
  case isub =>
    simp only [j_tx] at h
    split at h
    · exact ⟨_, _, _, _, _, _, _, rfl, h⟩
    · exact h.elim
  case imul =>
    simp only [j_tx] at h
    split at h
    · exact ⟨_, _, _, _, _, _, _, rfl, h⟩
    · exact h.elim
  case iand =>
    simp only [j_tx] at h
    split at h
    · exact ⟨_, _, _, _, _, _, _, rfl, h⟩
    · exact h.elim
  case ior =>
    simp only [j_tx] at h
    split at h
    · exact ⟨_, _, _, _, _, _, _, rfl, h⟩
    · exact h.elim
  case ixor =>
    simp only [j_tx] at h
    split at h
    · exact ⟨_, _, _, _, _, _, _, rfl, h⟩
    · exact h.elim
  case ishl =>
    simp only [j_tx] at h
    split at h
    · exact ⟨_, _, _, _, _, _, _, rfl, h⟩
    · exact h.elim
  case ishr =>
    simp only [j_tx] at h
    split at h
    · exact ⟨_, _, _, _, _, _, _, rfl, h⟩
    · exact h.elim
  case iushr =>
    simp only [j_tx] at h
    split at h
    · exact ⟨_, _, _, _, _, _, _, rfl, h⟩
    · exact h.elim
  case idiv =>
    simp only [j_tx] at h
    split at h
    · obtain ⟨h1, h⟩ := h
      exact ⟨_, _, _, _, _, _, _, by simp only [j_step, if_neg h1], h⟩
    · exact h.elim
  case irem =>
    simp only [j_tx] at h
    split at h
    · obtain ⟨h1, h⟩ := h
      exact ⟨_, _, _, _, _, _, _, by simp only [j_step, if_neg h1], h⟩
    · exact h.elim
  case i2l =>
    simp only [j_tx] at h
    split at h
    · exact ⟨_, _, _, _, _, _, _, rfl, h⟩
    · exact h.elim
  case lcmp =>
    simp only [j_tx] at h
    split at h
    · exact ⟨_, _, _, _, _, _, _, rfl, h⟩
    · exact h.elim
  case lor =>
    simp only [j_tx] at h
    split at h
    · exact ⟨_, _, _, _, _, _, _, rfl, h⟩
    · exact h.elim
  case land =>
    simp only [j_tx] at h
    split at h
    · exact ⟨_, _, _, _, _, _, _, rfl, h⟩
    · exact h.elim
  case lshl =>
    simp only [j_tx] at h
    split at h
    · exact ⟨_, _, _, _, _, _, _, rfl, h⟩
    · exact h.elim
  case lshr =>
    simp only [j_tx] at h
    split at h
    · exact ⟨_, _, _, _, _, _, _, rfl, h⟩
    · exact h.elim
  case dup =>
    simp only [j_tx] at h
    split at h
    · obtain ⟨h1, h⟩ := h
      exact ⟨_, _, _, _, _, _, _, by simp only [j_step, if_pos h1], h⟩
    · exact h.elim
  case pop =>
    simp only [j_tx] at h
    split at h
    · obtain ⟨h1, h⟩ := h
      exact ⟨_, _, _, _, _, _, _, by simp only [j_step, if_pos h1], h⟩
    · exact h.elim
  case dup2 =>
    simp only [j_tx] at h
    split at h
    · obtain ⟨h1, h⟩ := h
      exact ⟨_, _, _, _, _, _, _, by simp only [j_step, if_pos h1], h⟩
    · exact h.elim
  case goto o =>
    simp only [j_tx] at h
    split at h
    · rename_i t ht
      exact ⟨_, _, _, _, _, _, _, by simp only [j_step, ht, j_go], h⟩
    · exact h.elim
  case ifCond cd o =>
    simp only [j_tx] at h
    split at h
    · rename_i x r
      split at h
      · rename_i t ht
        by_cases hc : j_ifP cd x
        · have hc2 := (j_if_iff cd x).mpr hc
          exact ⟨_, _, _, _, _, _, _, by simp only [j_step, ht, Option.map, hc2, if_pos, j_go], h.1 hc⟩
        · have hc2 : ¬ j_if cd x = true := fun q => hc ((j_if_iff cd x).mp q)
          exact ⟨_, _, _, _, _, _, _, by simp only [j_step, ht, Option.map, if_neg hc2, j_go], h.2 hc⟩
      · exact h.elim
    · exact h.elim
  case if_icmp cd o =>
    simp only [j_tx] at h
    split at h
    · rename_i y x r
      split at h
      · rename_i t ht
        by_cases hc : j_icP cd x y
        · have hc2 := (j_ic_iff cd x y).mpr hc
          exact ⟨_, _, _, _, _, _, _, by simp only [j_step, ht, Option.map, hc2, if_pos, j_go], h.1 hc⟩
        · have hc2 : ¬ j_ic cd x y = true := fun q => hc ((j_ic_iff cd x y).mp q)
          exact ⟨_, _, _, _, _, _, _, by simp only [j_step, ht, Option.map, if_neg hc2, j_go], h.2 hc⟩
      · exact h.elim
    · exact h.elim
  case tableswitch d lo hi os =>
    simp only [j_tx] at h
    split at h
    · rename_i x r
      by_cases hc : x.toInt < lo ∨ hi < x.toInt
      · have h := h.1 hc
        split at h
        · rename_i t ht
          exact ⟨_, _, _, _, _, _, _, by simp only [j_step, if_pos hc, ht, j_go], h⟩
        · exact h.elim
      · have h := h.2 hc
        split at h
        · rename_i o ho
          split at h
          · rename_i t ht
            exact ⟨_, _, _, _, _, _, _, by simp only [j_step, if_neg hc, ho, ht, j_go], h⟩
          · exact h.elim
        · exact h.elim
    · exact h.elim
  case getfield x =>
    simp only [j_tx] at h
    split at h
    · rename_i a r
      split at h
      · rename_i ci k t hq
        obtain ⟨h1, h2, h⟩ := h
        exact ⟨_, _, _, _, _, _, _, by simp only [j_step, hq, j_lay_ob hL h1, j_fs_get h2], h⟩
      · exact h.elim
    · exact h.elim
  case putfield x =>
    simp only [j_tx] at h
    split at h
    · rename_i v a r
      split at h
      · rename_i ci k t hq
        obtain ⟨h1, h2, h3, h4, h⟩ := h
        refine ⟨_, _, _, _, _, _, _, ?_, h⟩
        simp only [j_step, hq, j_lay_ob hL h1]
        rw [if_pos ⟨by simpa [j_fs] using h2, h4⟩, j_lay_sc h1 h3]
      · exact h.elim
    · rename_i v a r
      split at h
      · rename_i ci k t hq
        obtain ⟨h1, h2, h3, h4, h⟩ := h
        refine ⟨_, _, _, _, _, _, _, ?_, h⟩
        simp only [j_step, hq, j_lay_ob hL h1]
        rw [if_pos ⟨by simpa [j_fs] using h2, h4⟩, j_lay_rf h1 h3]
      · exact h.elim
    · exact h.elim
  case iaload =>
    simp only [j_tx] at h
    split at h
    · rename_i j a r
      split at h
      · rename_i n hq
        obtain ⟨h1, h⟩ := h
        exact ⟨_, _, _, _, _, _, _, by simp only [j_step, j_lay_ai hL (Or.inl rfl) hq, if_neg h1], h⟩
      · exact h.elim
    · exact h.elim
  case baload =>
    simp only [j_tx] at h
    split at h
    · rename_i j a r
      split at h
      · rename_i n hq
        obtain ⟨h1, h⟩ := h
        exact ⟨_, _, _, _, _, _, _, by simp only [j_step, j_lay_ai hL (Or.inr rfl) hq, if_neg h1], h⟩
      · exact h.elim
    · exact h.elim
  case laload =>
    simp only [j_tx] at h
    split at h
    · rename_i j a r
      split at h
      · rename_i n hq
        obtain ⟨h1, h⟩ := h
        exact ⟨_, _, _, _, _, _, _, by simp only [j_step, j_lay_al hL hq, if_neg h1], h⟩
      · exact h.elim
    · exact h.elim
  case aaload =>
    simp only [j_tx] at h
    split at h
    · rename_i j a r
      split at h
      · rename_i t n hq
        obtain ⟨⟨h1, h2⟩, h⟩ := h
        split at h
        · rename_i q hq2
          refine ⟨_, _, _, _, _, _, _, ?_, h⟩
          have h3 : t = 3 ∨ ((t = 4 ∨ t = 5) ∧ 0 ∈ n0) := h2.elim Or.inl (fun z => Or.inr ⟨z.1, hL 0 (by rw [z.2]; trivial)⟩)
          have h4 : t = 3 ∨ t = 4 ∨ t = 5 := h2.elim Or.inl (fun z => Or.inr z.1)
          simp only [j_step, j_lay_ar hL h4 hq]
          rw [if_neg (fun z => by rcases z with z | z | z; exact h1 (Or.inl z); exact h1 (Or.inr z); exact z h3), hq2]
        · exact h.elim
      · exact h.elim
    · exact h.elim
  case iastore =>
    simp only [j_tx] at h
    split at h
    · rename_i x j a r
      split at h
      · rename_i n hq
        obtain ⟨h1, h⟩ := h
        refine ⟨_, _, _, _, _, _, _, ?_, h⟩
        simp only [j_step, j_lay_ai hL (Or.inl rfl) hq]
        rw [if_neg h1.1, j_lay_arr (Or.inl rfl) hq]
      · exact h.elim
    · exact h.elim
  case bastore =>
    simp only [j_tx] at h
    split at h
    · rename_i x j a r
      split at h
      · rename_i n hq
        obtain ⟨h1, h⟩ := h
        refine ⟨_, _, _, _, _, _, _, ?_, h⟩
        simp only [j_step, j_lay_ai hL (Or.inr rfl) hq]
        rw [if_neg (fun z => z.elim h1.1 (fun q => q h1.2)), j_lay_arr (Or.inr rfl) hq]
      · exact h.elim
    · exact h.elim
  case lastore =>
    simp only [j_tx] at h
    split at h
    · rename_i x j a r
      split at h
      · rename_i n hq
        obtain ⟨h1, h⟩ := h
        refine ⟨_, _, _, _, _, _, _, ?_, h⟩
        simp only [j_step, j_lay_al hL hq]
        rw [if_neg h1, j_lay_arl hq]
      · exact h.elim
    · exact h.elim
  case invokestatic x =>
    simp only [j_tx] at h
    split at h
    · rename_i h0
      split at h
      · rename_i n dp a sp b r
        split at h
        · rename_i nb hb
          split at h
          · rename_i na ha
            obtain ⟨h1, h⟩ := h
            refine ⟨_, _, _, _, _, _, _, ?_, h⟩
            simp only [j_step, if_pos h0, j_lay_ai hL (Or.inl rfl) hb, j_lay_ai hL (Or.inl rfl) ha]
            rw [if_pos h1, j_lay_row (Or.inl rfl) ha]
          · exact h.elim
        · exact h.elim
      · exact h.elim
    · rename_i h0
      split at h
      · rename_i h2
        split at h
        · obtain ⟨h1, h⟩ := h
          exact ⟨_, _, _, _, _, _, _, by simp only [j_step, if_neg h0, if_pos h2, if_pos h1], h⟩
        · exact h.elim
      · rename_i h2
        split at h
        · rename_i h3
          split at h
          · obtain ⟨h1, h⟩ := h
            exact ⟨_, _, _, _, _, _, _, by simp only [j_step, if_neg h0, if_neg h2, if_pos h3, if_pos h1], h⟩
          · exact h.elim
        · exact h.elim
  case arraylength =>
    simp only [j_tx] at h
    split at h
    · rename_i a r
      split at h
      · rename_i t n hq
        obtain ⟨h1, h⟩ := h
        have h2 : a ∈ n0 := hL a (by rw [hq]; show t < 6; omega)
        have h3 : t < 4 ∨ (t < 6 ∧ 0 ∈ n0) := h1.elim Or.inl (fun z => Or.inr ⟨z.1, hL 0 (by rw [z.2]; trivial)⟩)
        refine ⟨_, _, _, _, _, _, _, ?_, h⟩
        simp only [j_step, if_pos h2, j_lay, hq]
        by_cases e1 : t = 1
        · subst e1
          simp
        · by_cases e2 : t = 0 ∨ t = 2
          · simp [e1, e2, h3]
          · simp [e1, e2, h3]
      · exact h.elim
    · exact h.elim
  all_goals exact h.elim
