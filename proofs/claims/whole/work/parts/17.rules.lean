/-! RULES that compute j_wp by rewriting. -/
section JY
variable (co : Nat → Nat → Option Instr) (fl : Nat → Nat → Option (Nat × Nat × Nat)) (cn : Nat → Nat → Option Int32) (nt : Nat → Nat → Nat) (ml : Nat → Nat → Option (Nat × Nat × Nat × Nat)) (mx rt : Nat → Nat) (L : jL)
abbrev jKo : Type := Nat → jV → List Value → jSc → jRf → jSc → jAl → Prop
/-- one instruction, its going on by k -/
def j_in (cs : jCs) (Post : jPo) (mid : Nat) (i : Instr) (pc : Nat) (lv : jV) (st : List Value) (sc : jSc) (rf : jRf) (ar : jSc) (al : jAl) (k : jKo) : Prop :=
      match i with
      | .ireturn => (match st with
        | [.int v] => (rt mid = 1 ∨ (rt mid = 2 ∧ (v = 0 ∨ v = 1))) ∧ Post (some (.int v)) sc rf ar al
        | _ => False)
      | .lreturn => (match st with
        | [.long v] => rt mid = 3 ∧ Post (some (.long v)) sc rf ar al
        | _ => False)
      | .return_ => (match st with
        | [] => rt mid = 0 ∧ Post none sc rf ar al
        | _ => False)
      | .invokevirtual x => (match ml mid x with
        | some (0, q, na, ci) => (match st[na]? with
          | some (.ref a) => L.1 a = .inl ci ∧ (((st.drop (na + 1)).map fun v => v.category).sum ≤ 8 ∧ (lg_sl (st.take (na + 1)).reverse).length ≤ mx q ∧ mx q ≤ 22) ∧ cs q (st.take (na + 1)).reverse sc rf ar al (fun r sc' rf' ar' al' => k (pc + 3) lv (r.toList ++ st.drop (na + 1)) sc' rf' ar' al')
          | _ => False)
        | _ => False)
      | .invokestatic x => (match ml mid x with
        | none => j_tx L (mx mid) (fl mid) (cn mid) (nt mid) (.invokestatic x) pc lv st sc rf ar al k
        | some (1, q, na, _) => na ≤ st.length ∧ (((st.drop na).map fun v => v.category).sum ≤ 8 ∧ (lg_sl (st.take na).reverse).length ≤ mx q ∧ mx q ≤ 22) ∧ cs q (st.take na).reverse sc rf ar al (fun r sc' rf' ar' al' => k (pc + 3) lv (r.toList ++ st.drop na) sc' rf' ar' al')
        | _ => False)
      | i => j_tx L (mx mid) (fl mid) (cn mid) (nt mid) i pc lv st sc rf ar al k
theorem wx_s {cut : Nat → Bool} {cs : jCs} {Post : jPo} {K : jKo} {mid n : Nat} {b : Bool} {pc : Nat} {lv : jV} {st : List Value} {sc : jSc} {rf : jRf} {ar : jSc} {al : jAl} :
    j_wp co fl cn nt ml mx rt L cut cs Post K mid (n + 1) b pc lv st sc rf ar al = (if (b && cut pc) = true then K pc lv st sc rf ar al else (match co mid pc with | none => False | some i => j_in fl cn nt ml mx rt L cs Post mid i pc lv st sc rf ar al (j_wp co fl cn nt ml mx rt L cut cs Post K mid n true))) := by
  conv => lhs; unfold j_wp
  rfl
theorem wx_c {cut : Nat → Bool} {cs : jCs} {Post : jPo} {K : jKo} {mid n : Nat} {b : Bool} {pc : Nat} {lv : jV} {st : List Value} {sc : jSc} {rf : jRf} {ar : jSc} {al : jAl} (hc : (b && cut pc) = true) :
    j_wp co fl cn nt ml mx rt L cut cs Post K mid (n + 1) b pc lv st sc rf ar al = K pc lv st sc rf ar al := by
  conv => lhs; unfold j_wp
  rw [hc]
  rfl
variable {cs : jCs} {Post : jPo} {mid pc : Nat} {lv : jV} {r : List Value} {sc : jSc} {rf : jRf} {ar : jSc} {al : jAl} {k : jKo}
theorem wx_iconst {n : Int}  : j_in fl cn nt ml mx rt L cs Post mid (.iconst n) pc lv (r) sc rf ar al k = (k (pc + 1) lv (.int (Int32.ofInt n) :: r) sc rf ar al) := rfl
theorem wx_bipush {n : Int}  : j_in fl cn nt ml mx rt L cs Post mid (.bipush n) pc lv (r) sc rf ar al k = (k (pc + 2) lv (.int (Int8.ofInt n).toInt32 :: r) sc rf ar al) := rfl
theorem wx_sipush {n : Int}  : j_in fl cn nt ml mx rt L cs Post mid (.sipush n) pc lv (r) sc rf ar al k = (k (pc + 3) lv (.int (Int16.ofInt n).toInt32 :: r) sc rf ar al) := rfl
theorem wx_lconst {n : Fin 2}  : j_in fl cn nt ml mx rt L cs Post mid (.lconst n) pc lv (r) sc rf ar al k = (k (pc + 1) lv (.long (Int64.ofNat (n : Nat)) :: r) sc rf ar al) := rfl
theorem wx_ldc {x : Nat}  : j_in fl cn nt ml mx rt L cs Post mid (.ldc x) pc lv (r) sc rf ar al k = (match cn mid x with | some v => k (pc + 2) lv (.int v :: r) sc rf ar al | none => False) := rfl
theorem wx_ldc_w {x : Nat}  : j_in fl cn nt ml mx rt L cs Post mid (.ldc_w x) pc lv (r) sc rf ar al k = (match cn mid x with | some v => k (pc + 3) lv (.int v :: r) sc rf ar al | none => False) := rfl
theorem wx_iload_n {j : Fin 4}  : j_in fl cn nt ml mx rt L cs Post mid (.iload_n j) pc lv (r) sc rf ar al k = (match lv (j : Nat) with | some (.int v) => k (pc + 1) lv (.int v :: r) sc rf ar al | _ => False) := rfl
theorem wx_iload {j : Nat}  : j_in fl cn nt ml mx rt L cs Post mid (.iload j) pc lv (r) sc rf ar al k = (match lv j with | some (.int v) => k (pc + 2) lv (.int v :: r) sc rf ar al | _ => False) := rfl
theorem wx_lload_n {j : Fin 4}  : j_in fl cn nt ml mx rt L cs Post mid (.lload_n j) pc lv (r) sc rf ar al k = (match lv (j : Nat) with | some (.long v) => k (pc + 1) lv (.long v :: r) sc rf ar al | _ => False) := rfl
theorem wx_lload {j : Nat}  : j_in fl cn nt ml mx rt L cs Post mid (.lload j) pc lv (r) sc rf ar al k = (match lv j with | some (.long v) => k (pc + 2) lv (.long v :: r) sc rf ar al | _ => False) := rfl
theorem wx_aload_n {j : Fin 4}  : j_in fl cn nt ml mx rt L cs Post mid (.aload_n j) pc lv (r) sc rf ar al k = (match lv (j : Nat) with | some (.ref v) => k (pc + 1) lv (.ref v :: r) sc rf ar al | _ => False) := rfl
theorem wx_aload {j : Nat}  : j_in fl cn nt ml mx rt L cs Post mid (.aload j) pc lv (r) sc rf ar al k = (match lv j with | some (.ref v) => k (pc + 2) lv (.ref v :: r) sc rf ar al | _ => False) := rfl
theorem wx_istore_n {j : Fin 4} {v : Int32}  : j_in fl cn nt ml mx rt L cs Post mid (.istore_n j) pc lv (.int v :: r) sc rf ar al k = ((j : Nat) < mx mid ∧ k (pc + 1) (j_st lv (j : Nat) (.int v)) r sc rf ar al) := rfl
theorem wx_istore {j : Nat} {v : Int32}  : j_in fl cn nt ml mx rt L cs Post mid (.istore j) pc lv (.int v :: r) sc rf ar al k = (j < mx mid ∧ k (pc + 2) (j_st lv j (.int v)) r sc rf ar al) := rfl
theorem wx_lstore_n {j : Fin 4} {v : Int64}  : j_in fl cn nt ml mx rt L cs Post mid (.lstore_n j) pc lv (.long v :: r) sc rf ar al k = ((j : Nat) + 1 < mx mid ∧ k (pc + 1) (j_st2 lv (j : Nat) (.long v)) r sc rf ar al) := rfl
theorem wx_astore_n {j : Fin 4} {v : Nat}  : j_in fl cn nt ml mx rt L cs Post mid (.astore_n j) pc lv (.ref v :: r) sc rf ar al k = ((j : Nat) < mx mid ∧ k (pc + 1) (j_st lv (j : Nat) (.ref v)) r sc rf ar al) := rfl
theorem wx_astore {j : Nat} {v : Nat}  : j_in fl cn nt ml mx rt L cs Post mid (.astore j) pc lv (.ref v :: r) sc rf ar al k = (j < mx mid ∧ k (pc + 2) (j_st lv j (.ref v)) r sc rf ar al) := rfl
theorem wx_iinc {j : Nat} {n : Int}  : j_in fl cn nt ml mx rt L cs Post mid (.iinc j n) pc lv (r) sc rf ar al k = (match lv j with | some (.int v) => j < mx mid ∧ k (pc + 3) (j_st lv j (.int (v + Int32.ofInt n))) r sc rf ar al | _ => False) := rfl
theorem wx_iadd {x y : Int32}  : j_in fl cn nt ml mx rt L cs Post mid (.iadd) pc lv (.int y :: .int x :: r) sc rf ar al k = (k (pc + 1) lv (.int (x + y) :: r) sc rf ar al) := rfl
theorem wx_isub {x y : Int32}  : j_in fl cn nt ml mx rt L cs Post mid (.isub) pc lv (.int y :: .int x :: r) sc rf ar al k = (k (pc + 1) lv (.int (x - y) :: r) sc rf ar al) := rfl
theorem wx_imul {x y : Int32}  : j_in fl cn nt ml mx rt L cs Post mid (.imul) pc lv (.int y :: .int x :: r) sc rf ar al k = (k (pc + 1) lv (.int (x * y) :: r) sc rf ar al) := rfl
theorem wx_iand {x y : Int32}  : j_in fl cn nt ml mx rt L cs Post mid (.iand) pc lv (.int y :: .int x :: r) sc rf ar al k = (k (pc + 1) lv (.int (x &&& y) :: r) sc rf ar al) := rfl
theorem wx_ior {x y : Int32}  : j_in fl cn nt ml mx rt L cs Post mid (.ior) pc lv (.int y :: .int x :: r) sc rf ar al k = (k (pc + 1) lv (.int (x ||| y) :: r) sc rf ar al) := rfl
theorem wx_ixor {x y : Int32}  : j_in fl cn nt ml mx rt L cs Post mid (.ixor) pc lv (.int y :: .int x :: r) sc rf ar al k = (k (pc + 1) lv (.int (x ^^^ y) :: r) sc rf ar al) := rfl
theorem wx_ishl {x y : Int32}  : j_in fl cn nt ml mx rt L cs Post mid (.ishl) pc lv (.int y :: .int x :: r) sc rf ar al k = (k (pc + 1) lv (.int (x <<< (y &&& 31)) :: r) sc rf ar al) := rfl
theorem wx_ishr {x y : Int32}  : j_in fl cn nt ml mx rt L cs Post mid (.ishr) pc lv (.int y :: .int x :: r) sc rf ar al k = (k (pc + 1) lv (.int (x >>> (y &&& 31)) :: r) sc rf ar al) := rfl
theorem wx_iushr {x y : Int32}  : j_in fl cn nt ml mx rt L cs Post mid (.iushr) pc lv (.int y :: .int x :: r) sc rf ar al k = (k (pc + 1) lv (.int (x.toUInt32 >>> (y.toUInt32 &&& Int32.toUInt32 31)).toInt32 :: r) sc rf ar al) := rfl
theorem wx_idiv {x y : Int32}  : j_in fl cn nt ml mx rt L cs Post mid (.idiv) pc lv (.int y :: .int x :: r) sc rf ar al k = (¬ y = 0 ∧ k (pc + 1) lv (.int (x / y) :: r) sc rf ar al) := rfl
theorem wx_irem {x y : Int32}  : j_in fl cn nt ml mx rt L cs Post mid (.irem) pc lv (.int y :: .int x :: r) sc rf ar al k = (¬ y = 0 ∧ k (pc + 1) lv (.int (x - x / y * y) :: r) sc rf ar al) := rfl
theorem wx_i2l {x : Int32}  : j_in fl cn nt ml mx rt L cs Post mid (.i2l) pc lv (.int x :: r) sc rf ar al k = (k (pc + 1) lv (.long x.toInt64 :: r) sc rf ar al) := rfl
theorem wx_lcmp {x y : Int64}  : j_in fl cn nt ml mx rt L cs Post mid (.lcmp) pc lv (.long y :: .long x :: r) sc rf ar al k = (k (pc + 1) lv (.int (lg_cmp x y) :: r) sc rf ar al) := rfl
theorem wx_lor {x y : Int64}  : j_in fl cn nt ml mx rt L cs Post mid (.lor) pc lv (.long y :: .long x :: r) sc rf ar al k = (k (pc + 1) lv (.long (x ||| y) :: r) sc rf ar al) := rfl
theorem wx_land {x y : Int64}  : j_in fl cn nt ml mx rt L cs Post mid (.land) pc lv (.long y :: .long x :: r) sc rf ar al k = (k (pc + 1) lv (.long (x &&& y) :: r) sc rf ar al) := rfl
theorem wx_lshl {x : Int64} {y : Int32}  : j_in fl cn nt ml mx rt L cs Post mid (.lshl) pc lv (.int y :: .long x :: r) sc rf ar al k = (k (pc + 1) lv (.long (x <<< (y.toInt64 &&& 63)) :: r) sc rf ar al) := rfl
theorem wx_lshr {x : Int64} {y : Int32}  : j_in fl cn nt ml mx rt L cs Post mid (.lshr) pc lv (.int y :: .long x :: r) sc rf ar al k = (k (pc + 1) lv (.long (x >>> (y.toInt64 &&& 63)) :: r) sc rf ar al) := rfl
theorem wx_dup_int {v : Int32}  : j_in fl cn nt ml mx rt L cs Post mid (.dup) pc lv (.int v :: r) sc rf ar al k = (k (pc + 1) lv (.int v :: .int v :: r) sc rf ar al) := propext ⟨fun q => q.2, fun q => ⟨rfl, q⟩⟩
theorem wx_pop_int {v : Int32}  : j_in fl cn nt ml mx rt L cs Post mid (.pop) pc lv (.int v :: r) sc rf ar al k = (k (pc + 1) lv r sc rf ar al) := propext ⟨fun q => q.2, fun q => ⟨rfl, q⟩⟩
theorem wx_dup_ref {v : Nat}  : j_in fl cn nt ml mx rt L cs Post mid (.dup) pc lv (.ref v :: r) sc rf ar al k = (k (pc + 1) lv (.ref v :: .ref v :: r) sc rf ar al) := propext ⟨fun q => q.2, fun q => ⟨rfl, q⟩⟩
theorem wx_pop_ref {v : Nat}  : j_in fl cn nt ml mx rt L cs Post mid (.pop) pc lv (.ref v :: r) sc rf ar al k = (k (pc + 1) lv r sc rf ar al) := propext ⟨fun q => q.2, fun q => ⟨rfl, q⟩⟩
theorem wx_dup2 {v : Int32} {u : Nat}  : j_in fl cn nt ml mx rt L cs Post mid (.dup2) pc lv (.int v :: .ref u :: r) sc rf ar al k = (k (pc + 1) lv (.int v :: .ref u :: .int v :: .ref u :: r) sc rf ar al) := propext ⟨fun q => q.2, fun q => ⟨⟨rfl, rfl⟩, q⟩⟩
theorem wx_goto {o : Int}  : j_in fl cn nt ml mx rt L cs Post mid (.goto o) pc lv (r) sc rf ar al k = (match j_br pc o with | some t => k t lv r sc rf ar al | none => False) := rfl
theorem wx_if_eq {x : Int32} {o : Int}  : j_in fl cn nt ml mx rt L cs Post mid (.ifCond .eq o) pc lv (.int x :: r) sc rf ar al k = (match j_br pc o with | some t => (x = 0 → k t lv r sc rf ar al) ∧ (¬ x = 0 → k (pc + 3) lv r sc rf ar al) | none => False) := rfl
theorem wx_ic_eq {x y : Int32} {o : Int}  : j_in fl cn nt ml mx rt L cs Post mid (.if_icmp .eq o) pc lv (.int y :: .int x :: r) sc rf ar al k = (match j_br pc o with | some t => (x = y → k t lv r sc rf ar al) ∧ (¬ x = y → k (pc + 3) lv r sc rf ar al) | none => False) := rfl
theorem wx_if_ne {x : Int32} {o : Int}  : j_in fl cn nt ml mx rt L cs Post mid (.ifCond .ne o) pc lv (.int x :: r) sc rf ar al k = (match j_br pc o with | some t => (x = 0 → k (pc + 3) lv r sc rf ar al) ∧ (¬ x = 0 → k t lv r sc rf ar al) | none => False) := by show (match j_br pc o with | some t => _ | none => _) = _; cases j_br pc o with | none => rfl | some t => exact propext ⟨fun q => ⟨fun z => q.2 (fun w => w z), fun z => q.1 z⟩, fun q => ⟨fun z => q.2 z, fun z => q.1 (Classical.byContradiction z)⟩⟩
theorem wx_ic_ne {x y : Int32} {o : Int}  : j_in fl cn nt ml mx rt L cs Post mid (.if_icmp .ne o) pc lv (.int y :: .int x :: r) sc rf ar al k = (match j_br pc o with | some t => (x = y → k (pc + 3) lv r sc rf ar al) ∧ (¬ x = y → k t lv r sc rf ar al) | none => False) := by show (match j_br pc o with | some t => _ | none => _) = _; cases j_br pc o with | none => rfl | some t => exact propext ⟨fun q => ⟨fun z => q.2 (fun w => w z), fun z => q.1 z⟩, fun q => ⟨fun z => q.2 z, fun z => q.1 (Classical.byContradiction z)⟩⟩
theorem wx_if_lt {x : Int32} {o : Int}  : j_in fl cn nt ml mx rt L cs Post mid (.ifCond .lt o) pc lv (.int x :: r) sc rf ar al k = (match j_br pc o with | some t => (x < 0 → k t lv r sc rf ar al) ∧ (¬ x < 0 → k (pc + 3) lv r sc rf ar al) | none => False) := rfl
theorem wx_ic_lt {x y : Int32} {o : Int}  : j_in fl cn nt ml mx rt L cs Post mid (.if_icmp .lt o) pc lv (.int y :: .int x :: r) sc rf ar al k = (match j_br pc o with | some t => (x < y → k t lv r sc rf ar al) ∧ (¬ x < y → k (pc + 3) lv r sc rf ar al) | none => False) := rfl
theorem wx_if_ge {x : Int32} {o : Int}  : j_in fl cn nt ml mx rt L cs Post mid (.ifCond .ge o) pc lv (.int x :: r) sc rf ar al k = (match j_br pc o with | some t => (0 ≤ x → k t lv r sc rf ar al) ∧ (¬ 0 ≤ x → k (pc + 3) lv r sc rf ar al) | none => False) := rfl
theorem wx_ic_ge {x y : Int32} {o : Int}  : j_in fl cn nt ml mx rt L cs Post mid (.if_icmp .ge o) pc lv (.int y :: .int x :: r) sc rf ar al k = (match j_br pc o with | some t => (y ≤ x → k t lv r sc rf ar al) ∧ (¬ y ≤ x → k (pc + 3) lv r sc rf ar al) | none => False) := rfl
theorem wx_if_gt {x : Int32} {o : Int}  : j_in fl cn nt ml mx rt L cs Post mid (.ifCond .gt o) pc lv (.int x :: r) sc rf ar al k = (match j_br pc o with | some t => (0 < x → k t lv r sc rf ar al) ∧ (¬ 0 < x → k (pc + 3) lv r sc rf ar al) | none => False) := rfl
theorem wx_ic_gt {x y : Int32} {o : Int}  : j_in fl cn nt ml mx rt L cs Post mid (.if_icmp .gt o) pc lv (.int y :: .int x :: r) sc rf ar al k = (match j_br pc o with | some t => (y < x → k t lv r sc rf ar al) ∧ (¬ y < x → k (pc + 3) lv r sc rf ar al) | none => False) := rfl
theorem wx_if_le {x : Int32} {o : Int}  : j_in fl cn nt ml mx rt L cs Post mid (.ifCond .le o) pc lv (.int x :: r) sc rf ar al k = (match j_br pc o with | some t => (x ≤ 0 → k t lv r sc rf ar al) ∧ (¬ x ≤ 0 → k (pc + 3) lv r sc rf ar al) | none => False) := rfl
theorem wx_ic_le {x y : Int32} {o : Int}  : j_in fl cn nt ml mx rt L cs Post mid (.if_icmp .le o) pc lv (.int y :: .int x :: r) sc rf ar al k = (match j_br pc o with | some t => (x ≤ y → k t lv r sc rf ar al) ∧ (¬ x ≤ y → k (pc + 3) lv r sc rf ar al) | none => False) := rfl
theorem wx_tableswitch {x : Int32} {d lo hi : Int} {os : Array Int}  : j_in fl cn nt ml mx rt L cs Post mid (.tableswitch d lo hi os) pc lv (.int x :: r) sc rf ar al k = ((x.toInt < lo ∨ hi < x.toInt → (match j_br pc d with | some t => k t lv r sc rf ar al | none => False)) ∧ (¬ (x.toInt < lo ∨ hi < x.toInt) → (match os[(x.toInt - lo).toNat]? with | some o => (match j_br pc o with | some t => k t lv r sc rf ar al | none => False) | none => False))) := rfl
theorem wx_getfield {x a : Nat}  : j_in fl cn nt ml mx rt L cs Post mid (.getfield x) pc lv (.ref a :: r) sc rf ar al k = (match fl mid x with | some (ci, j, _) => L.1 a = .inl ci ∧ j < L.2.2.1 ci ∧ k (pc + 3) lv ((if L.2.2.2 ci j = true then .ref (rf a j) else .int (sc a j)) :: r) sc rf ar al | none => False) := rfl
theorem wx_putI {x a : Nat} {v : Int32}  : j_in fl cn nt ml mx rt L cs Post mid (.putfield x) pc lv (.int v :: .ref a :: r) sc rf ar al k = (match fl mid x with | some (ci, j, t) => L.1 a = .inl ci ∧ j < L.2.2.1 ci ∧ L.2.2.2 ci j = false ∧ j_pt t (.int v) = true ∧ k (pc + 3) lv r (j_u2 sc a j v) rf ar al | none => False) := rfl
theorem wx_putR {x a v : Nat}  : j_in fl cn nt ml mx rt L cs Post mid (.putfield x) pc lv (.ref v :: .ref a :: r) sc rf ar al k = (match fl mid x with | some (ci, j, t) => L.1 a = .inl ci ∧ j < L.2.2.1 ci ∧ L.2.2.2 ci j = true ∧ j_pt t (.ref v) = true ∧ k (pc + 3) lv r sc (j_u2 rf a j v) ar al | none => False) := rfl
theorem wx_iaload {j : Int32} {a : Nat}  : j_in fl cn nt ml mx rt L cs Post mid (.iaload) pc lv (.int j :: .ref a :: r) sc rf ar al k = (match L.1 a with | .inr (0, n) => ¬ (j < 0 ∨ n ≤ j.toNatClampNeg) ∧ k (pc + 1) lv (.int (ar a j.toNatClampNeg) :: r) sc rf ar al | _ => False) := rfl
theorem wx_baload {j : Int32} {a : Nat}  : j_in fl cn nt ml mx rt L cs Post mid (.baload) pc lv (.int j :: .ref a :: r) sc rf ar al k = (match L.1 a with | .inr (2, n) => ¬ (j < 0 ∨ n ≤ j.toNatClampNeg) ∧ k (pc + 1) lv (.int (ar a j.toNatClampNeg) :: r) sc rf ar al | _ => False) := rfl
theorem wx_laload {j : Int32} {a : Nat}  : j_in fl cn nt ml mx rt L cs Post mid (.laload) pc lv (.int j :: .ref a :: r) sc rf ar al k = (match L.1 a with | .inr (1, n) => ¬ (j < 0 ∨ n ≤ j.toNatClampNeg) ∧ k (pc + 1) lv (.long (al a j.toNatClampNeg) :: r) sc rf ar al | _ => False) := rfl
theorem wx_aaload {j : Int32} {a : Nat}  : j_in fl cn nt ml mx rt L cs Post mid (.aaload) pc lv (.int j :: .ref a :: r) sc rf ar al k = (match L.1 a with | .inr (t, n) => (¬ (j < 0 ∨ n ≤ j.toNatClampNeg) ∧ (t = 3 ∨ ((t = 4 ∨ t = 5) ∧ L.1 0 = .inl 11))) ∧ (match L.2.1 a j.toNatClampNeg with | some q => k (pc + 1) lv (.ref q :: r) sc rf ar al | none => False) | _ => False) := rfl
theorem wx_iastore {j x : Int32} {a : Nat}  : j_in fl cn nt ml mx rt L cs Post mid (.iastore) pc lv (.int x :: .int j :: .ref a :: r) sc rf ar al k = (match L.1 a with | .inr (0, n) => (¬ (j < 0 ∨ n ≤ j.toNatClampNeg) ∧ True) ∧ k (pc + 1) lv r sc rf (j_u2 ar a j.toNatClampNeg x) al | _ => False) := rfl
theorem wx_bastore {j x : Int32} {a : Nat}  : j_in fl cn nt ml mx rt L cs Post mid (.bastore) pc lv (.int x :: .int j :: .ref a :: r) sc rf ar al k = (match L.1 a with | .inr (2, n) => (¬ (j < 0 ∨ n ≤ j.toNatClampNeg) ∧ (x = 0 ∨ x = 1)) ∧ k (pc + 1) lv r sc rf (j_u2 ar a j.toNatClampNeg x) al | _ => False) := rfl
theorem wx_lastore {j : Int32} {x : Int64} {a : Nat}  : j_in fl cn nt ml mx rt L cs Post mid (.lastore) pc lv (.long x :: .int j :: .ref a :: r) sc rf ar al k = (match L.1 a with | .inr (1, n) => ¬ (j < 0 ∨ n ≤ j.toNatClampNeg) ∧ k (pc + 1) lv r sc rf ar (j_u2 al a j.toNatClampNeg x) | _ => False) := rfl
theorem wx_arraylength {a : Nat}  : j_in fl cn nt ml mx rt L cs Post mid (.arraylength) pc lv (.ref a :: r) sc rf ar al k = (match L.1 a with | .inr (t, n) => (t < 4 ∨ (t < 6 ∧ L.1 0 = .inl 11)) ∧ k (pc + 1) lv (.int (Int32.ofNat n) :: r) sc rf ar al | _ => False) := rfl
theorem wx_ireturn {v : Int32}  : j_in fl cn nt ml mx rt L cs Post mid (.ireturn) pc lv ([.int v]) sc rf ar al k = ((rt mid = 1 ∨ (rt mid = 2 ∧ (v = 0 ∨ v = 1))) ∧ Post (some (.int v)) sc rf ar al) := rfl
theorem wx_lreturn {v : Int64}  : j_in fl cn nt ml mx rt L cs Post mid (.lreturn) pc lv ([.long v]) sc rf ar al k = (rt mid = 3 ∧ Post (some (.long v)) sc rf ar al) := rfl
theorem wx_return  : j_in fl cn nt ml mx rt L cs Post mid (.return_) pc lv ([]) sc rf ar al k = (rt mid = 0 ∧ Post none sc rf ar al) := rfl
theorem wx_callV {x : Nat}  : j_in fl cn nt ml mx rt L cs Post mid (.invokevirtual x) pc lv (r) sc rf ar al k = (match ml mid x with | some (0, q, na, ci) => (match r[na]? with | some (.ref a) => L.1 a = .inl ci ∧ (((r.drop (na + 1)).map fun v => v.category).sum ≤ 8 ∧ (lg_sl (r.take (na + 1)).reverse).length ≤ mx q ∧ mx q ≤ 22) ∧ cs q (r.take (na + 1)).reverse sc rf ar al (fun u sc' rf' ar' al' => k (pc + 3) lv (u.toList ++ r.drop (na + 1)) sc' rf' ar' al') | _ => False) | _ => False) := rfl
theorem wx_callS {x : Nat}  : j_in fl cn nt ml mx rt L cs Post mid (.invokestatic x) pc lv (r) sc rf ar al k = (match ml mid x with | none => j_tx L (mx mid) (fl mid) (cn mid) (nt mid) (.invokestatic x) pc lv r sc rf ar al k | some (1, q, na, _) => na ≤ r.length ∧ (((r.drop na).map fun v => v.category).sum ≤ 8 ∧ (lg_sl (r.take na).reverse).length ≤ mx q ∧ mx q ≤ 22) ∧ cs q (r.take na).reverse sc rf ar al (fun u sc' rf' ar' al' => k (pc + 3) lv (u.toList ++ r.drop na) sc' rf' ar' al') | _ => False) := rfl
theorem wx_copy {x a b : Nat} {n dp sp : Int32} (h : nt mid x = 1) : j_tx L (mx mid) (fl mid) (cn mid) (nt mid) (.invokestatic x) pc lv (.int n :: .int dp :: .ref a :: .int sp :: .ref b :: r) sc rf ar al k = (match L.1 b with | .inr (0, nb) => (match L.1 a with | .inr (0, na) => ((¬ sp < 0 ∧ ¬ dp < 0 ∧ ¬ n < 0) ∧ (sp.toNatClampNeg + n.toNatClampNeg ≤ nb ∧ dp.toNatClampNeg + n.toNatClampNeg ≤ na) ∧ (r.map fun v => v.category).sum ≤ 8) ∧ k (pc + 3) lv r sc rf (va_up ar a (va_cpy (ar b) (ar a) sp.toNatClampNeg dp.toNatClampNeg n.toNatClampNeg)) al | _ => False) | _ => False) := if_pos h
theorem wx_max {x : Nat} {u v : Int32} (h : nt mid x = 2) : j_tx L (mx mid) (fl mid) (cn mid) (nt mid) (.invokestatic x) pc lv (.int v :: .int u :: r) sc rf ar al k = ((r.map fun v => v.category).sum ≤ 8 ∧ k (pc + 3) lv (.int (if u < v then v else u) :: r) sc rf ar al) := (if_neg (by rw [h]; decide)).trans (if_pos h)
theorem wx_min {x : Nat} {u v : Int32} (h : nt mid x = 3) : j_tx L (mx mid) (fl mid) (cn mid) (nt mid) (.invokestatic x) pc lv (.int v :: .int u :: r) sc rf ar al k = ((r.map fun v => v.category).sum ≤ 8 ∧ k (pc + 3) lv (.int (if v < u then v else u) :: r) sc rf ar al) := (if_neg (by rw [h]; decide)).trans ((if_neg (by rw [h]; decide)).trans (if_pos h))
end JY
theorem ws_0 {lv : jV} {k : Nat} {v : Value} : j_st lv k v k = some v := if_pos rfl
theorem ws_1 {lv : jV} {k j : Nat} {v : Value} (h : (j == k) = false) (h2 : (j + 1 == k) = false) : j_st lv k v j = lv j := by
  unfold j_st
  rw [if_neg (by simpa using h), if_neg (by simpa using h2)]
theorem ws_2 {lv : jV} {k j : Nat} {v : Value} (h2 : (j + 1 == k) = true) : j_st lv k v j = j_dl (lv j) := by
  have e : j + 1 = k := by simpa using h2
  unfold j_st
  rw [if_neg (by omega), if_pos e]
theorem wt_0 {lv : jV} {k : Nat} {v : Value} : j_st2 lv k v k = some v := if_pos rfl
theorem wt_1 {lv : jV} {k j : Nat} {v : Value} (h : (j == k) = false) (h1 : (j == k + 1) = false) (h2 : (j + 1 == k) = false) : j_st2 lv k v j = lv j := by
  unfold j_st2
  rw [if_neg (by simpa using h), if_neg (by simpa using h1), if_neg (by simpa using h2)]
theorem wt_2 {lv : jV} {k j : Nat} {v : Value} (h2 : (j + 1 == k) = true) : j_st2 lv k v j = j_dl (lv j) := by
  have e : j + 1 = k := by simpa using h2
  unfold j_st2
  rw [if_neg (by omega), if_neg (by omega), if_pos e]
theorem wd_i {x : Int32} : j_dl (some (.int x)) = some (.int x) := rfl
theorem wd_r {x : Nat} : j_dl (some (.ref x)) = some (.ref x) := rfl
theorem wd_d {o : Option Value} : j_dl (j_dl o) = j_dl o := by
  cases o with
  | none => rfl
  | some v =>
    unfold j_dl
    by_cases h : v.category = 2
    · simp [h]
    · simp [h]
theorem wk_0 : lg_sl [] = [] := rfl
theorem wk_i {x : Int32} {r : List Value} : lg_sl (.int x :: r) = .val (.int x) :: lg_sl r := rfl
theorem wk_r {x : Nat} {r : List Value} : lg_sl (.ref x :: r) = .val (.ref x) :: lg_sl r := rfl
theorem wk_l {x : Int64} {r : List Value} : lg_sl (.long x :: r) = .val (.long x) :: .second :: lg_sl r := rfl
theorem wc_i {x : Int32} : (Value.int x).category = 1 := rfl
theorem wc_r {x : Nat} : (Value.ref x).category = 1 := rfl
theorem wc_l {x : Int64} : (Value.long x).category = 2 := rfl
theorem wp_0 {x : Int32} : j_pt 0 (.int x) = true := rfl
theorem wp_1 {x : Int32} : (j_pt 1 (.int x) = true) = (x = 0 ∨ x = 1) := by simp [j_pt]
theorem wp_2 {x : Nat} : j_pt 2 (.ref x) = true := rfl
