/-! THE LITERALS that ClickOrders reads words by. -/
/-- the words of the text, by their numbers -/
def x_str : List (List Int32) := [[97, 110, 100], [97, 110, 115, 119, 101, 114], [97, 115, 107], [99, 108, 111, 99, 107], [102, 97, 105, 108], [102, 97, 114], [103, 111, 116], [103, 114, 101, 121], [104, 97, 114, 109], [104, 105, 100, 101], [105, 102], [108, 101, 97, 115, 116], [108, 105, 118, 101], [109, 111, 115, 116], [110, 111, 116], [111, 110], [111, 114], [112, 108, 97, 99, 101], [112, 114, 101, 115, 115], [115, 97, 118, 101], [115, 104, 111, 119], [115, 116, 97, 114, 116], [115, 116, 111, 112]]
def x_sn (w : Nat) : Nat := (x_str.getD w []).length
def x_sl (w : Nat) : Int32 := Int32.ofNat (x_sn w)
def x_sc (w k : Nat) : Int32 := (x_str.getD w []).getD k 0
def z_ix (i : Nat) : Nat := ([160, 111, 148, 109, 154, 175, 173, 144, 60, 142, 156, 177, 146, 179, 162, 50, 158, 68, 103, 152, 140, 101, 150] : List Nat).getD i 0
def z_tx (i : Nat) : String := (["and", "answer", "ask", "clock", "fail", "far", "got", "grey", "harm", "hide", "if", "least", "live", "most", "not", "on", "or", "place", "press", "save", "show", "start", "stop"] : List String).getD i ""
/-- the literal i stands at ad (900 + i) -/
def z_K (ad : Nat → Nat) (A : Nat → Prop) (U : State) (H : Heap) : Prop := ∀ i, i < 23 → vk_R "ClickOrders$Reader" (z_ix i) (z_tx i) (ad (900 + i)) U ∧ ∃ t, z_T (ad (900 + i)) t (x_sn i) (x_sc i) A U H
theorem z_K.warm {ad : Nat → Nat} {A : Nat → Prop} {s U : State} {H : Heap} (hW : s.WarmedH U.vm) (h : z_K ad A s H) : z_K ad A U H := fun i hi => ⟨(h i hi).1.warm hW, (h i hi).2.elim (fun t ht => ⟨t, ht.moved hW.alike⟩)⟩
theorem z_K.kept {ad : Nat → Nat} {A : Nat → Prop} {U : State} {H H1 : Heap} (h : z_K ad A U H) (hq : ∀ a : Nat, a < H.size → ¬ A a → H1[a]? = H[a]?) : z_K ad A U H1 := fun i hi => ⟨(h i hi).1, (h i hi).2.elim (fun t ht => ⟨t, ht.kept hq⟩)⟩
theorem z_K.narrow {ad : Nat → Nat} {A A' : Nat → Prop} {U : State} {H : Heap} (h : z_K ad A U H) (hA : ∀ q, A' q → A q) : z_K ad A' U H := fun i hi => ⟨(h i hi).1, (h i hi).2.elim (fun t ht => ⟨t, ht.narrow hA⟩)⟩
theorem z_K.same {ad : Nat → Nat} {A : Nat → Prop} {s U : State} {H : Heap} (hv : U.vm = s.vm) (h : z_K ad A s H) : z_K ad A U H := fun i hi => ⟨(h i hi).1.same hv, (h i hi).2.elim (fun t ht => ⟨t, ht.moved (by rw [hv]; exact Vm.Alike.refl s.vm)⟩)⟩
theorem z_small : ∀ i, i < 23 → x_sn i < 7 := by decide +kernel
theorem z_char : ∀ i, i < 23 → ∀ k, k < 6 → ((x_sc i k &&& 255).toUInt32 % 65536).toInt32 = x_sc i k ∧ narrow .char (.int (x_sc i k)) = .int (x_sc i k) := by decide +kernel
theorem z_idx {k : Int32} {n : Nat} (hn : n < 7) (h0 : ¬ k < 0) (h : k.toNatClampNeg < n) : k < Int32.ofNat n := by
  have h1 : (0 : Int) ≤ k.toInt := by
    have := Int32.not_lt.mp h0
    simpa using Int32.le_iff_toInt_le.mp this
  have h2 : k.toInt < n := by
    have : k.toInt.toNat < n := h
    omega
  rw [Int32.lt_iff_toInt_lt]
  have e : (Int32.ofNat n).toInt = (n : Int) := by
    rcases (show n = 0 ∨ n = 1 ∨ n = 2 ∨ n = 3 ∨ n = 4 ∨ n = 5 ∨ n = 6 by omega) with rfl | rfl | rfl | rfl | rfl | rfl | rfl <;> decide
  rw [e]
  exact h2
