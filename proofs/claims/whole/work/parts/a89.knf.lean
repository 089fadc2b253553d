/-! THE CONSTRUCTORS (2): an object's fields in one normal form. -/
theorem va_uc {α : Type} {f : Nat → α} {a b : Nat} {x y : α} (h : a ≠ b) : va_up (va_up f a x) b y = va_up (va_up f b y) a x := by
  funext i
  unfold va_up
  by_cases h1 : i = a
  · subst h1
    simp [h]
  · simp [h1]
theorem va_us {α : Type} {f : Nat → α} {a : Nat} {x y : α} : va_up (va_up f a x) a y = va_up f a y := by
  funext i
  unfold va_up
  by_cases h1 : i = a <;> simp [h1]
theorem va_ui {α : Type} {f : Nat → α} {a : Nat} {x : α} (h : f a = x) : f = va_up f a x := by
  funext i
  unfold va_up
  by_cases h1 : i = a
  · subst h1
    simp [h]
  · simp [h1]
section KNF
variable {G : kG} {B0 : Nat} {co : Nat → Option Instr} {fl : Nat → Option (Nat × Nat × Nat)} {cn : Nat → Option Int32} {own : String} {cc : ByteArray} {mx k n pc pc1 pc2 : Nat} {lv : jV} {N a ci : Nat} {g : jM} {fs fs2 : List Value}
theorem knf_ob (ha : a ∈ kOl N) : j_ob (kOl N) (va_up g a (.inr (ci, fs))) a ci = some fs := kf_at ha (by simp [va_up])
/-- this.x = a number -/
theorem kU_num {x kk t : Nat} {i1 : Instr} {v : Int32} (hC : kD G B0 co fl cn own cc mx) (hN : N ≤ 824) (ha : a ∈ kOl N) (l0 : lv 0 = some (.ref a)) (c0 : co pc = some (.aload_n 0)) (c1 : co (pc + 1) = some i1) (h1 : j_inv i1 = none) (s1 : ∀ (F : jM) (st : List Value), j_step (kOl N) mx fl cn (fun _ => 0) i1 (pc + 1) lv st F = some (pc1, lv, .int v :: st, F)) (c2 : co pc1 = some (.putfield x)) (hf : fl x = some (ci, kk, t)) (hk : Nat.blt kk fs.length = true) (ht : j_pt t (.int v) = true) (hfs : fs.set kk (.int v) = fs2) (hp : pc1 + 3 = pc2) (h : kU G B0 k n pc2 lv [] N (va_up g a (.inr (ci, fs2)))) : kU G B0 k n pc lv [] N (va_up g a (.inr (ci, fs))) := by
  subst hfs
  subst hp
  refine kU_st hC hN c0 rfl (by simp only [j_step, show lv ((0 : Fin 4) : Nat) = some (.ref a) from l0]; rfl) ?_
  refine kU_st hC hN c1 h1 (s1 _ _) ?_
  refine kU_st hC hN c2 rfl (by
    simp only [j_step, hf, knf_ob ha]
    rw [if_pos ⟨Nat.le_of_ble_eq_true hk, ht⟩, va_us]) h
/-- this.x = new t[M], x final -/
theorem kU_arr {x kk t M : Nat} {i1 : Instr} {v : Int32} {atype : ArrayType} {ty fty : FieldType} {a0 : vp_A} (hC : kD G B0 co fl cn own cc mx) (hPg : kPg G) (hN : N < 824) (ha : a ∈ kOl N) (l0 : lv 0 = some (.ref a)) (c0 : co pc = some (.aload_n 0)) (c1 : co (pc + 1) = some i1) (h1 : j_inv i1 = none) (s1 : ∀ (F : jM) (st : List Value), j_step (kOl N) mx fl cn (fun _ => 0) i1 (pc + 1) lv st F = some (pc1, lv, .int v :: st, F)) (c2 : co pc1 = some (.newarray atype)) (hty : newarray.typeOf atype = ty) (hw : Cond.arrayClass ty ∈ gB) (ht : ∀ (pg : String) (cy : Nat → ClassId), (j_cy pg cy kN)[t]? = some (cy t, ty)) (hra : ∀ (U : State) (q : ClassId), va_RA U q ty → U.vm.findClass ("[" ++ ty.toString) = some q) (hv : ∀ cA : ClassId, vp_cell cA a0 = arrV cA M (fun _ => defaultValue ty)) (hat : ∀ ad : Nat → Nat, j_tA ad a0 = a0) (hx : ¬ v < 0) (hM : v.toNatClampNeg = M) (hbytes : M * componentBytes ty ≤ 536870912) (hR : kRu G (k + 1) (n + M)) (c3 : co (pc1 + 2) = some (.putfield x)) (hf : fl x = some (ci, kk, 9)) (hk : Nat.blt kk fs.length = true) (hfin : ∀ (C : String) (Tt : u_T) (M : Nat), gcl[ci]? = some (C, Tt, M) → (Tt kk).2.2.2 = true ∧ (Tt kk).1 = own ∧ parseFieldDescriptor (Tt kk).2.2.1 = some (.array fty)) (hfs : fs.set kk (.ref (kO N)) = fs2) (hp : pc1 + 5 = pc2) (h : kU G B0 (k + 1) (n + M) pc2 lv [] (N + 1) (va_up (va_up g (kO N) (.inl (t, a0))) a (.inr (ci, fs2)))) : kU G B0 k n pc lv [] N (va_up g a (.inr (ci, fs))) := by
  subst hfs
  subst hp
  refine kU_st hC (by omega) c0 rfl (by simp only [j_step, show lv ((0 : Fin 4) : Nat) = some (.ref a) from l0]; rfl) ?_
  refine kU_st hC (by omega) c1 h1 (s1 _ _) ?_
  refine kU_newa (t := t) (M := M) (ty := ty) (a0 := a0) hC hN c2 hty hw ht hra hv hat hx hM hbytes hR ?_
  have hne : a ≠ kO N := fun z => kOl_ni (N := N) hN (by rw [← z]; exact ha)
  have ha2 : a ∈ kOl (N + 1) := by rw [kOl_s]; exact List.mem_append_left _ ha
  rw [va_uc hne]
  refine kU_putF hC hPg (by omega) (kk := kk) c3 hf (knf_ob ha2) (Nat.le_of_ble_eq_true hk) (fun C Tt M h => ?_) ?_
  · obtain ⟨e1, e2, e3⟩ := hfin C Tt M h
    exact ⟨e1, e2, _, e3, fun _ => ⟨rfl, rfl⟩⟩
  · rw [va_us]
    exact h
end KNF
