/-! STEPS with the locals as a list: gL, a rule for each instruction. -/
def l_at : List (Option Value) → Nat → Option Value
  | [], _ => none
  | o :: _, 0 => o
  | _ :: r, k + 1 => l_at r k
def l_st : List (Option Value) → Nat → Option Value → List (Option Value)
  | [], _, _ => []
  | _ :: r, 0, v => v :: r
  | o :: r, k + 1, v => o :: l_st r k v
/-- no value of two words stands just ahead of k -/
def l_ok (vs : List (Option Value)) : Nat → Bool
  | 0 => true
  | k + 1 => match l_at vs k with
    | some v => v.category == 1
    | none => true
def l_ag (vs : List (Option Value)) (lv : jV) : Prop := ∀ k v, l_at vs k = some v → lv k = some v
theorem l_st_self : ∀ (vs : List (Option Value)) (k : Nat) (o : Option Value) (w : Value), l_at (l_st vs k o) k = some w → o = some w
  | [], _, _, _, h => by simp [l_st, l_at] at h
  | _ :: _, 0, _, _, h => by simpa [l_st, l_at] using h
  | _ :: r, k + 1, o, w, h => l_st_self r k o w (by simpa [l_st, l_at] using h)
theorem l_st_ne : ∀ (vs : List (Option Value)) (k : Nat) (o : Option Value) (j : Nat), j ≠ k → l_at (l_st vs k o) j = l_at vs j
  | [], _, _, _, _ => by simp [l_st]
  | _ :: _, 0, _, 0, h => absurd rfl h
  | _ :: _, 0, _, j + 1, _ => by simp [l_st, l_at]
  | _ :: _, k + 1, _, 0, _ => by simp [l_st, l_at]
  | _ :: r, k + 1, o, j + 1, h => by
    simp only [l_st, l_at]
    exact l_st_ne r k o j (fun z => h (by rw [z]))
theorem l_dl {vs : List (Option Value)} {lv : jV} (h : l_ag vs lv) {j : Nat} (ho : l_ok vs (j + 1) = true) {w : Value} (hw : l_at vs j = some w) : j_dl (lv j) = some w := by
  rw [h j w hw]
  simp only [l_ok, hw] at ho
  have hc : w.category = 1 := by simpa using ho
  unfold j_dl
  simp [hc]
theorem l_ag_st {vs : List (Option Value)} {lv : jV} (h : l_ag vs lv) {k : Nat} (ho : l_ok vs k = true) (v : Value) : l_ag (l_st vs k (some v)) (j_st lv k v) := by
  intro j w hw
  by_cases e : j = k
  · subst e
    have := l_st_self _ _ _ _ hw
    cases this
    exact ws_0
  · rw [l_st_ne _ _ _ _ e] at hw
    unfold j_st
    rw [if_neg e]
    split
    · rename_i e2
      subst e2
      exact l_dl h ho hw
    · exact h j w hw
theorem l_ag_st2 {vs : List (Option Value)} {lv : jV} (h : l_ag vs lv) {k : Nat} (ho : l_ok vs k = true) (v : Value) : l_ag (l_st (l_st vs (k + 1) none) k (some v)) (j_st2 lv k v) := by
  intro j w hw
  by_cases e : j = k
  · subst e
    have := l_st_self _ _ _ _ hw
    cases this
    exact wt_0
  · rw [l_st_ne _ _ _ _ e] at hw
    by_cases e3 : j = k + 1
    · subst e3
      have := l_st_self _ _ _ _ hw
      cases this
    · rw [l_st_ne _ _ _ _ e3] at hw
      unfold j_st2
      rw [if_neg e, if_neg e3]
      split
      · rename_i e2
        subst e2
        exact l_dl h ho hw
      · exact h j w hw
/-- the stack behind a call -/
def l_rs (r : Option Value) (rest : List Value) : List Value := match r with
  | some v => v :: rest
  | none => rest
theorem l_rs_ok (r : Option Value) (rest : List Value) : r.toList ++ rest = l_rs r rest := by cases r <;> rfl
def gL (X : jX) (mid d pc : Nat) (vs : List (Option Value)) (st : List Value) (sc : jSc) (rf : jRf) (ar : jSc) (al : jAl) (Post : jPo) : Prop := ∀ lv : jV, l_ag vs lv → gW X mid d pc lv st sc rf ar al Post
/-- an index in its row -/
abbrev iB (j : Int32) (n : Nat) : Prop := ¬ (j < 0 ∨ n ≤ j.toNatClampNeg)
abbrev iN (j : Int32) : Nat := j.toNatClampNeg
theorem iB_lt {j : Int32} {n : Nat} (h : iB j n) : iN j < n := Nat.not_le.mp fun z => h (Or.inr z)
def l_sz (rest args : List Value) (mq : Nat) : Bool := Nat.ble (rest.map fun v => v.category).sum 8 && Nat.ble (lg_sl args).length mq && Nat.ble mq 22
theorem l_sz_ok {rest args : List Value} {mq : Nat} (h : l_sz rest args mq = true) : (rest.map fun v => v.category).sum ≤ 8 ∧ (lg_sl args).length ≤ mq ∧ mq ≤ 22 := by
  unfold l_sz at h
  simp only [Bool.and_eq_true] at h
  exact ⟨Nat.le_of_ble_eq_true h.1.1, Nat.le_of_ble_eq_true h.1.2, Nat.le_of_ble_eq_true h.2⟩
/-- the locals at a start: the arguments (of one word each), then m that are not set -/
def l_en (args : List Value) (m : Nat) : List (Option Value) := args.map some ++ List.replicate m none
def l_c1 : List Value → Bool
  | [] => true
  | v :: r => v.category == 1 && l_c1 r
theorem l_at_none : ∀ (m k : Nat), l_at (List.replicate m none) k = none
  | 0, _ => rfl
  | _ + 1, 0 => rfl
  | m + 1, k + 1 => l_at_none m k
theorem l_av_go : ∀ (args : List Value) (m i k : Nat) (w : Value), l_c1 args = true → l_at (args.map some ++ List.replicate m none) k = some w → (lv_args i args).find? (fun q => q.1 == i + k) = some (i + k, w)
  | [], m, i, k, w, _, h => by
    have := l_at_none m k
    simp only [List.map_nil, List.nil_append] at h
    rw [this] at h
    cases h
  | v :: r, m, i, 0, w, hc, h => by
    simp only [List.map_cons, List.cons_append, l_at] at h
    cases h
    show ((i, v) :: lv_args _ r).find? _ = _
    simp
  | v :: r, m, i, k + 1, w, hc, h => by
    simp only [l_c1, Bool.and_eq_true] at hc
    have h1 : v.category = 1 := by simpa using hc.1
    simp only [List.map_cons, List.cons_append, l_at] at h
    have ih := l_av_go r m (i + 1) k w hc.2 h
    show ((i, v) :: lv_args (if v.category = 2 then i + 2 else i + 1) r).find? _ = _
    rw [if_neg (by omega), List.find?_cons_of_neg (by simp)]
    rw [show i + (k + 1) = i + 1 + k by omega]
    exact ih
theorem gl_entry {X : jX} {mid d : Nat} {args : List Value} {m : Nat} {sc : jSc} {rf : jRf} {ar : jSc} {al : jAl} {Post : jPo} (hc : l_c1 args = true) (h : gL X mid d 0 (l_en args m) [] sc rf ar al Post) : gW X mid d 0 (j_av args) [] sc rf ar al Post := by
  refine h _ ?_
  intro k w hw
  have := l_av_go args m 0 k w hc hw
  unfold j_av
  rw [Nat.zero_add] at this
  rw [this]
/-- what is known of the locals, weakened -/
def l_le : List (Option Value) → List (Option Value) → Prop
  | [], _ => True
  | none :: r, [] => l_le r []
  | none :: r, _ :: q => l_le r q
  | some _ :: _, [] => False
  | some v :: r, o :: q => o = some v ∧ l_le r q
theorem l_le_ok : ∀ (vs ws : List (Option Value)), l_le vs ws → ∀ k v, l_at vs k = some v → l_at ws k = some v
  | [], _, _, _, _, h => by simp [l_at] at h
  | none :: _, [], _, 0, _, h => by simp [l_at] at h
  | none :: r, [], hl, k + 1, v, h => by
    have := l_le_ok r [] hl k v h
    simp [l_at] at this
  | none :: _, _ :: _, _, 0, _, h => by simp [l_at] at h
  | none :: r, _ :: q, hl, k + 1, v, h => l_le_ok r q hl k v h
  | some _ :: _, [], hl, _, _, _ => hl.elim
  | some u :: _, o :: _, hl, 0, v, h => by
    simp only [l_at] at h ⊢
    rw [hl.1]
    exact h
  | some _ :: r, _ :: q, hl, k + 1, v, h => l_le_ok r q hl.2 k v h
theorem gl_weak {X : jX} {mid d pc : Nat} {vs ws : List (Option Value)} {st : List Value} {sc : jSc} {rf : jRf} {ar : jSc} {al : jAl} {Post : jPo} (hl : l_le vs ws) (h : gL X mid d pc vs st sc rf ar al Post) : gL X mid d pc ws st sc rf ar al Post :=
  fun lv hv => h lv (fun k v hk => hv k v (l_le_ok vs ws hl k v hk))
section GLS
variable {X : jX} {mid d pc pc' : Nat} {vs : List (Option Value)} {r : List Value} {sc : jSc} {rf : jRf} {ar : jSc} {al : jAl} {Post : jPo}
theorem gW_st (hX : j_LK (g_n X) (g_L X)) {lv : jV} {i : Instr} (hi : g_co X mid pc = some i) (h1 : j_ret (g_rt X mid) i r = none) (h2 : j_inv i = none) (h : j_tx (g_L X) (g_mx X mid) (g_fl X mid) (g_cn X mid) (g_nt X mid) i pc lv r sc rf ar al (fun pc' lv' st' sc' rf' ar' al' => gW X mid d pc' lv' st' sc' rf' ar' al' Post)) : gW X mid d pc lv r sc rf ar al Post :=
  j_W_step _ _ _ _ _ _ _ _ _ hX hi h1 h2 h (fun _ _ _ _ _ _ _ z => z)
theorem gl_iconst {n : Int} {v : Int32} (hX : j_LK (g_n X) (g_L X)) (hi : g_co X mid pc = some (.iconst n)) (hc : Int32.ofInt n = v) (hp : pc + 1 = pc') (h : gL X mid d pc' vs (.int v :: r) sc rf ar al Post) : gL X mid d pc vs (r) sc rf ar al Post := by
  subst hp
  intro lv hv
  refine gW_st hX hi rfl rfl ?_
  subst hc
  exact h lv hv
theorem gl_bipush {n : Int} {v : Int32} (hX : j_LK (g_n X) (g_L X)) (hi : g_co X mid pc = some (.bipush n)) (hc : (Int8.ofInt n).toInt32 = v) (hp : pc + 2 = pc') (h : gL X mid d pc' vs (.int v :: r) sc rf ar al Post) : gL X mid d pc vs (r) sc rf ar al Post := by
  subst hp
  intro lv hv
  refine gW_st hX hi rfl rfl ?_
  subst hc
  exact h lv hv
theorem gl_sipush {n : Int} {v : Int32} (hX : j_LK (g_n X) (g_L X)) (hi : g_co X mid pc = some (.sipush n)) (hc : (Int16.ofInt n).toInt32 = v) (hp : pc + 3 = pc') (h : gL X mid d pc' vs (.int v :: r) sc rf ar al Post) : gL X mid d pc vs (r) sc rf ar al Post := by
  subst hp
  intro lv hv
  refine gW_st hX hi rfl rfl ?_
  subst hc
  exact h lv hv
theorem gl_lconst {n : Fin 2} (hX : j_LK (g_n X) (g_L X)) (hi : g_co X mid pc = some (.lconst n))  (hp : pc + 1 = pc') (h : gL X mid d pc' vs (.long (Int64.ofNat (n : Nat)) :: r) sc rf ar al Post) : gL X mid d pc vs (r) sc rf ar al Post := by
  subst hp
  intro lv hv
  refine gW_st hX hi rfl rfl ?_
  exact h lv hv
theorem gl_ldc {x : Nat} {v : Int32} (hX : j_LK (g_n X) (g_L X)) (hi : g_co X mid pc = some (.ldc x)) (hc : g_cn X mid x = some v) (hp : pc + 2 = pc') (h : gL X mid d pc' vs (.int v :: r) sc rf ar al Post) : gL X mid d pc vs (r) sc rf ar al Post := by
  subst hp
  intro lv hv
  refine gW_st hX hi rfl rfl ?_
  simp only [j_tx, hc]
  exact h lv hv
theorem gl_ldc_w {x : Nat} {v : Int32} (hX : j_LK (g_n X) (g_L X)) (hi : g_co X mid pc = some (.ldc_w x)) (hc : g_cn X mid x = some v) (hp : pc + 3 = pc') (h : gL X mid d pc' vs (.int v :: r) sc rf ar al Post) : gL X mid d pc vs (r) sc rf ar al Post := by
  subst hp
  intro lv hv
  refine gW_st hX hi rfl rfl ?_
  simp only [j_tx, hc]
  exact h lv hv
theorem gl_iload_n {k : Fin 4} {v : Int32} (hX : j_LK (g_n X) (g_L X)) (hi : g_co X mid pc = some (.iload_n k)) (hl : l_at vs (k : Nat) = some (.int v)) (hp : pc + 1 = pc') (h : gL X mid d pc' vs (.int v :: r) sc rf ar al Post) : gL X mid d pc vs (r) sc rf ar al Post := by
  subst hp
  intro lv hv
  refine gW_st hX hi rfl rfl ?_
  simp only [j_tx, hv _ _ hl]
  exact h lv hv
theorem gl_iload {k : Nat} {v : Int32} (hX : j_LK (g_n X) (g_L X)) (hi : g_co X mid pc = some (.iload k)) (hl : l_at vs k = some (.int v)) (hp : pc + 2 = pc') (h : gL X mid d pc' vs (.int v :: r) sc rf ar al Post) : gL X mid d pc vs (r) sc rf ar al Post := by
  subst hp
  intro lv hv
  refine gW_st hX hi rfl rfl ?_
  simp only [j_tx, hv _ _ hl]
  exact h lv hv
theorem gl_lload_n {k : Fin 4} {v : Int64} (hX : j_LK (g_n X) (g_L X)) (hi : g_co X mid pc = some (.lload_n k)) (hl : l_at vs (k : Nat) = some (.long v)) (hp : pc + 1 = pc') (h : gL X mid d pc' vs (.long v :: r) sc rf ar al Post) : gL X mid d pc vs (r) sc rf ar al Post := by
  subst hp
  intro lv hv
  refine gW_st hX hi rfl rfl ?_
  simp only [j_tx, hv _ _ hl]
  exact h lv hv
theorem gl_lload {k : Nat} {v : Int64} (hX : j_LK (g_n X) (g_L X)) (hi : g_co X mid pc = some (.lload k)) (hl : l_at vs k = some (.long v)) (hp : pc + 2 = pc') (h : gL X mid d pc' vs (.long v :: r) sc rf ar al Post) : gL X mid d pc vs (r) sc rf ar al Post := by
  subst hp
  intro lv hv
  refine gW_st hX hi rfl rfl ?_
  simp only [j_tx, hv _ _ hl]
  exact h lv hv
theorem gl_aload_n {k : Fin 4} {v : Nat} (hX : j_LK (g_n X) (g_L X)) (hi : g_co X mid pc = some (.aload_n k)) (hl : l_at vs (k : Nat) = some (.ref v)) (hp : pc + 1 = pc') (h : gL X mid d pc' vs (.ref v :: r) sc rf ar al Post) : gL X mid d pc vs (r) sc rf ar al Post := by
  subst hp
  intro lv hv
  refine gW_st hX hi rfl rfl ?_
  simp only [j_tx, hv _ _ hl]
  exact h lv hv
theorem gl_aload {k : Nat} {v : Nat} (hX : j_LK (g_n X) (g_L X)) (hi : g_co X mid pc = some (.aload k)) (hl : l_at vs k = some (.ref v)) (hp : pc + 2 = pc') (h : gL X mid d pc' vs (.ref v :: r) sc rf ar al Post) : gL X mid d pc vs (r) sc rf ar al Post := by
  subst hp
  intro lv hv
  refine gW_st hX hi rfl rfl ?_
  simp only [j_tx, hv _ _ hl]
  exact h lv hv
theorem gl_istore_n {k : Fin 4} {v : Int32} {vs2 : List (Option Value)} (hX : j_LK (g_n X) (g_L X)) (hi : g_co X mid pc = some (.istore_n k)) (hm : Nat.blt (k : Nat) (g_mx X mid) = true) (ho : l_ok vs (k : Nat) = true) (he : l_st vs (k : Nat) (some (.int v)) = vs2) (hp : pc + 1 = pc') (h : gL X mid d pc' vs2 (r) sc rf ar al Post) : gL X mid d pc vs (.int v :: r) sc rf ar al Post := by
  subst hp
  intro lv hv
  refine gW_st hX hi rfl rfl ?_
  subst he
  exact ⟨Nat.le_of_ble_eq_true hm, h _ (l_ag_st hv ho _)⟩
theorem gl_istore {k : Nat} {v : Int32} {vs2 : List (Option Value)} (hX : j_LK (g_n X) (g_L X)) (hi : g_co X mid pc = some (.istore k)) (hm : Nat.blt k (g_mx X mid) = true) (ho : l_ok vs k = true) (he : l_st vs k (some (.int v)) = vs2) (hp : pc + 2 = pc') (h : gL X mid d pc' vs2 (r) sc rf ar al Post) : gL X mid d pc vs (.int v :: r) sc rf ar al Post := by
  subst hp
  intro lv hv
  refine gW_st hX hi rfl rfl ?_
  subst he
  exact ⟨Nat.le_of_ble_eq_true hm, h _ (l_ag_st hv ho _)⟩
theorem gl_astore_n {k : Fin 4} {v : Nat} {vs2 : List (Option Value)} (hX : j_LK (g_n X) (g_L X)) (hi : g_co X mid pc = some (.astore_n k)) (hm : Nat.blt (k : Nat) (g_mx X mid) = true) (ho : l_ok vs (k : Nat) = true) (he : l_st vs (k : Nat) (some (.ref v)) = vs2) (hp : pc + 1 = pc') (h : gL X mid d pc' vs2 (r) sc rf ar al Post) : gL X mid d pc vs (.ref v :: r) sc rf ar al Post := by
  subst hp
  intro lv hv
  refine gW_st hX hi rfl rfl ?_
  subst he
  exact ⟨Nat.le_of_ble_eq_true hm, h _ (l_ag_st hv ho _)⟩
theorem gl_astore {k : Nat} {v : Nat} {vs2 : List (Option Value)} (hX : j_LK (g_n X) (g_L X)) (hi : g_co X mid pc = some (.astore k)) (hm : Nat.blt k (g_mx X mid) = true) (ho : l_ok vs k = true) (he : l_st vs k (some (.ref v)) = vs2) (hp : pc + 2 = pc') (h : gL X mid d pc' vs2 (r) sc rf ar al Post) : gL X mid d pc vs (.ref v :: r) sc rf ar al Post := by
  subst hp
  intro lv hv
  refine gW_st hX hi rfl rfl ?_
  subst he
  exact ⟨Nat.le_of_ble_eq_true hm, h _ (l_ag_st hv ho _)⟩
theorem gl_lstore_n {k : Fin 4} {v : Int64} {vs2 : List (Option Value)} (hX : j_LK (g_n X) (g_L X)) (hi : g_co X mid pc = some (.lstore_n k)) (hm : Nat.blt ((k : Nat) + 1) (g_mx X mid) = true) (ho : l_ok vs (k : Nat) = true) (he : l_st (l_st vs ((k : Nat) + 1) none) (k : Nat) (some (.long v)) = vs2) (hp : pc + 1 = pc') (h : gL X mid d pc' vs2 (r) sc rf ar al Post) : gL X mid d pc vs (.long v :: r) sc rf ar al Post := by
  subst hp
  intro lv hv
  refine gW_st hX hi rfl rfl ?_
  subst he
  exact ⟨Nat.le_of_ble_eq_true hm, h _ (l_ag_st2 hv ho _)⟩
theorem gl_iinc {k : Nat} {n : Int} {v c : Int32} {vs2 : List (Option Value)} (hX : j_LK (g_n X) (g_L X)) (hi : g_co X mid pc = some (.iinc k n)) (hl : l_at vs k = some (.int v)) (hm : Nat.blt k (g_mx X mid) = true) (ho : l_ok vs k = true) (hc : Int32.ofInt n = c) (he : l_st vs k (some (.int (v + c))) = vs2) (hp : pc + 3 = pc') (h : gL X mid d pc' vs2 (r) sc rf ar al Post) : gL X mid d pc vs (r) sc rf ar al Post := by
  subst hp
  intro lv hv
  refine gW_st hX hi rfl rfl ?_
  subst hc
  subst he
  simp only [j_tx, hv _ _ hl]
  exact ⟨Nat.le_of_ble_eq_true hm, h _ (l_ag_st hv ho _)⟩
theorem gl_iadd {x y : Int32} (hX : j_LK (g_n X) (g_L X)) (hi : g_co X mid pc = some (.iadd))  (hp : pc + 1 = pc') (h : gL X mid d pc' vs (.int (x + y) :: r) sc rf ar al Post) : gL X mid d pc vs (.int y :: .int x :: r) sc rf ar al Post := by
  subst hp
  intro lv hv
  refine gW_st hX hi rfl rfl ?_
  exact h lv hv
theorem gl_isub {x y : Int32} (hX : j_LK (g_n X) (g_L X)) (hi : g_co X mid pc = some (.isub))  (hp : pc + 1 = pc') (h : gL X mid d pc' vs (.int (x - y) :: r) sc rf ar al Post) : gL X mid d pc vs (.int y :: .int x :: r) sc rf ar al Post := by
  subst hp
  intro lv hv
  refine gW_st hX hi rfl rfl ?_
  exact h lv hv
theorem gl_imul {x y : Int32} (hX : j_LK (g_n X) (g_L X)) (hi : g_co X mid pc = some (.imul))  (hp : pc + 1 = pc') (h : gL X mid d pc' vs (.int (x * y) :: r) sc rf ar al Post) : gL X mid d pc vs (.int y :: .int x :: r) sc rf ar al Post := by
  subst hp
  intro lv hv
  refine gW_st hX hi rfl rfl ?_
  exact h lv hv
theorem gl_iand {x y : Int32} (hX : j_LK (g_n X) (g_L X)) (hi : g_co X mid pc = some (.iand))  (hp : pc + 1 = pc') (h : gL X mid d pc' vs (.int (x &&& y) :: r) sc rf ar al Post) : gL X mid d pc vs (.int y :: .int x :: r) sc rf ar al Post := by
  subst hp
  intro lv hv
  refine gW_st hX hi rfl rfl ?_
  exact h lv hv
theorem gl_ior {x y : Int32} (hX : j_LK (g_n X) (g_L X)) (hi : g_co X mid pc = some (.ior))  (hp : pc + 1 = pc') (h : gL X mid d pc' vs (.int (x ||| y) :: r) sc rf ar al Post) : gL X mid d pc vs (.int y :: .int x :: r) sc rf ar al Post := by
  subst hp
  intro lv hv
  refine gW_st hX hi rfl rfl ?_
  exact h lv hv
theorem gl_ixor {x y : Int32} (hX : j_LK (g_n X) (g_L X)) (hi : g_co X mid pc = some (.ixor))  (hp : pc + 1 = pc') (h : gL X mid d pc' vs (.int (x ^^^ y) :: r) sc rf ar al Post) : gL X mid d pc vs (.int y :: .int x :: r) sc rf ar al Post := by
  subst hp
  intro lv hv
  refine gW_st hX hi rfl rfl ?_
  exact h lv hv
theorem gl_ishl {x y : Int32} (hX : j_LK (g_n X) (g_L X)) (hi : g_co X mid pc = some (.ishl))  (hp : pc + 1 = pc') (h : gL X mid d pc' vs (.int (x <<< (y &&& 31)) :: r) sc rf ar al Post) : gL X mid d pc vs (.int y :: .int x :: r) sc rf ar al Post := by
  subst hp
  intro lv hv
  refine gW_st hX hi rfl rfl ?_
  exact h lv hv
theorem gl_ishr {x y : Int32} (hX : j_LK (g_n X) (g_L X)) (hi : g_co X mid pc = some (.ishr))  (hp : pc + 1 = pc') (h : gL X mid d pc' vs (.int (x >>> (y &&& 31)) :: r) sc rf ar al Post) : gL X mid d pc vs (.int y :: .int x :: r) sc rf ar al Post := by
  subst hp
  intro lv hv
  refine gW_st hX hi rfl rfl ?_
  exact h lv hv
theorem gl_iushr {x y : Int32} (hX : j_LK (g_n X) (g_L X)) (hi : g_co X mid pc = some (.iushr))  (hp : pc + 1 = pc') (h : gL X mid d pc' vs (.int ((x.toUInt32 >>> (y.toUInt32 &&& Int32.toUInt32 31)).toInt32) :: r) sc rf ar al Post) : gL X mid d pc vs (.int y :: .int x :: r) sc rf ar al Post := by
  subst hp
  intro lv hv
  refine gW_st hX hi rfl rfl ?_
  exact h lv hv
theorem gl_idiv {x y : Int32} (hX : j_LK (g_n X) (g_L X)) (hi : g_co X mid pc = some (.idiv)) (hz : ¬ y = 0) (hp : pc + 1 = pc') (h : gL X mid d pc' vs (.int (x / y) :: r) sc rf ar al Post) : gL X mid d pc vs (.int y :: .int x :: r) sc rf ar al Post := by
  subst hp
  intro lv hv
  refine gW_st hX hi rfl rfl ?_
  exact ⟨hz, h lv hv⟩
theorem gl_irem {x y : Int32} (hX : j_LK (g_n X) (g_L X)) (hi : g_co X mid pc = some (.irem)) (hz : ¬ y = 0) (hp : pc + 1 = pc') (h : gL X mid d pc' vs (.int (x - x / y * y) :: r) sc rf ar al Post) : gL X mid d pc vs (.int y :: .int x :: r) sc rf ar al Post := by
  subst hp
  intro lv hv
  refine gW_st hX hi rfl rfl ?_
  exact ⟨hz, h lv hv⟩
theorem gl_i2l {x : Int32} (hX : j_LK (g_n X) (g_L X)) (hi : g_co X mid pc = some (.i2l))  (hp : pc + 1 = pc') (h : gL X mid d pc' vs (.long x.toInt64 :: r) sc rf ar al Post) : gL X mid d pc vs (.int x :: r) sc rf ar al Post := by
  subst hp
  intro lv hv
  refine gW_st hX hi rfl rfl ?_
  exact h lv hv
theorem gl_lcmp {x y : Int64} (hX : j_LK (g_n X) (g_L X)) (hi : g_co X mid pc = some (.lcmp))  (hp : pc + 1 = pc') (h : gL X mid d pc' vs (.int (lg_cmp x y) :: r) sc rf ar al Post) : gL X mid d pc vs (.long y :: .long x :: r) sc rf ar al Post := by
  subst hp
  intro lv hv
  refine gW_st hX hi rfl rfl ?_
  exact h lv hv
theorem gl_lor {x y : Int64} (hX : j_LK (g_n X) (g_L X)) (hi : g_co X mid pc = some (.lor))  (hp : pc + 1 = pc') (h : gL X mid d pc' vs (.long (x ||| y) :: r) sc rf ar al Post) : gL X mid d pc vs (.long y :: .long x :: r) sc rf ar al Post := by
  subst hp
  intro lv hv
  refine gW_st hX hi rfl rfl ?_
  exact h lv hv
theorem gl_land {x y : Int64} (hX : j_LK (g_n X) (g_L X)) (hi : g_co X mid pc = some (.land))  (hp : pc + 1 = pc') (h : gL X mid d pc' vs (.long (x &&& y) :: r) sc rf ar al Post) : gL X mid d pc vs (.long y :: .long x :: r) sc rf ar al Post := by
  subst hp
  intro lv hv
  refine gW_st hX hi rfl rfl ?_
  exact h lv hv
theorem gl_lshl {x : Int64} {y : Int32} (hX : j_LK (g_n X) (g_L X)) (hi : g_co X mid pc = some (.lshl))  (hp : pc + 1 = pc') (h : gL X mid d pc' vs (.long (x <<< (y.toInt64 &&& 63)) :: r) sc rf ar al Post) : gL X mid d pc vs (.int y :: .long x :: r) sc rf ar al Post := by
  subst hp
  intro lv hv
  refine gW_st hX hi rfl rfl ?_
  exact h lv hv
theorem gl_lshr {x : Int64} {y : Int32} (hX : j_LK (g_n X) (g_L X)) (hi : g_co X mid pc = some (.lshr))  (hp : pc + 1 = pc') (h : gL X mid d pc' vs (.long (x >>> (y.toInt64 &&& 63)) :: r) sc rf ar al Post) : gL X mid d pc vs (.int y :: .long x :: r) sc rf ar al Post := by
  subst hp
  intro lv hv
  refine gW_st hX hi rfl rfl ?_
  exact h lv hv
theorem gl_dup {v : Value} (hX : j_LK (g_n X) (g_L X)) (hi : g_co X mid pc = some (.dup)) (hc : v.category = 1) (hp : pc + 1 = pc') (h : gL X mid d pc' vs (v :: v :: r) sc rf ar al Post) : gL X mid d pc vs (v :: r) sc rf ar al Post := by
  subst hp
  intro lv hv
  refine gW_st hX hi rfl rfl ?_
  exact ⟨hc, h lv hv⟩
theorem gl_pop {v : Value} (hX : j_LK (g_n X) (g_L X)) (hi : g_co X mid pc = some (.pop)) (hc : v.category = 1) (hp : pc + 1 = pc') (h : gL X mid d pc' vs (r) sc rf ar al Post) : gL X mid d pc vs (v :: r) sc rf ar al Post := by
  subst hp
  intro lv hv
  refine gW_st hX hi rfl rfl ?_
  exact ⟨hc, h lv hv⟩
theorem gl_dup2 {v u : Value} (hX : j_LK (g_n X) (g_L X)) (hi : g_co X mid pc = some (.dup2)) (hc : v.category = 1) (hc2 : u.category = 1) (hp : pc + 1 = pc') (h : gL X mid d pc' vs (v :: u :: v :: u :: r) sc rf ar al Post) : gL X mid d pc vs (v :: u :: r) sc rf ar al Post := by
  subst hp
  intro lv hv
  refine gW_st hX hi rfl rfl ?_
  exact ⟨⟨hc, hc2⟩, h lv hv⟩
theorem gl_goto {o : Int} {t : Nat} (hX : j_LK (g_n X) (g_L X)) (hi : g_co X mid pc = some (.goto o)) (hb : j_br pc o = some t) (h : gL X mid d t vs r sc rf ar al Post) : gL X mid d pc vs r sc rf ar al Post := by
  intro lv hv
  refine gW_st hX hi rfl rfl ?_
  simp only [j_tx, hb]
  exact h lv hv
theorem gl_if_eq {x : Int32} {o : Int} {t : Nat} (hX : j_LK (g_n X) (g_L X)) (hi : g_co X mid pc = some (.ifCond .eq o)) (hb : j_br pc o = some t) (hp : pc + 3 = pc') (h1 : x = 0 → gL X mid d t vs r sc rf ar al Post) (h2 : ¬ (x = 0) → gL X mid d pc' vs r sc rf ar al Post) : gL X mid d pc vs (.int x :: r) sc rf ar al Post := by
  subst hp
  intro lv hv
  refine gW_st hX hi rfl rfl ?_
  simp only [j_tx, hb]
  exact ⟨fun z => h1 z lv hv, fun z => h2 z lv hv⟩
theorem gl_if_ne {x : Int32} {o : Int} {t : Nat} (hX : j_LK (g_n X) (g_L X)) (hi : g_co X mid pc = some (.ifCond .ne o)) (hb : j_br pc o = some t) (hp : pc + 3 = pc') (h1 : x = 0 → gL X mid d pc' vs r sc rf ar al Post) (h2 : ¬ x = 0 → gL X mid d t vs r sc rf ar al Post) : gL X mid d pc vs (.int x :: r) sc rf ar al Post := by
  subst hp
  intro lv hv
  refine gW_st hX hi rfl rfl ?_
  simp only [j_tx, hb]
  refine ⟨fun z => h2 z lv hv, fun z => ?_⟩
  by_cases e : x = 0
  · exact h1 e lv hv
  · exact absurd e z
theorem gl_if_lt {x : Int32} {o : Int} {t : Nat} (hX : j_LK (g_n X) (g_L X)) (hi : g_co X mid pc = some (.ifCond .lt o)) (hb : j_br pc o = some t) (hp : pc + 3 = pc') (h1 : x < 0 → gL X mid d t vs r sc rf ar al Post) (h2 : ¬ (x < 0) → gL X mid d pc' vs r sc rf ar al Post) : gL X mid d pc vs (.int x :: r) sc rf ar al Post := by
  subst hp
  intro lv hv
  refine gW_st hX hi rfl rfl ?_
  simp only [j_tx, hb]
  exact ⟨fun z => h1 z lv hv, fun z => h2 z lv hv⟩
theorem gl_if_ge {x : Int32} {o : Int} {t : Nat} (hX : j_LK (g_n X) (g_L X)) (hi : g_co X mid pc = some (.ifCond .ge o)) (hb : j_br pc o = some t) (hp : pc + 3 = pc') (h1 : 0 ≤ x → gL X mid d t vs r sc rf ar al Post) (h2 : ¬ (0 ≤ x) → gL X mid d pc' vs r sc rf ar al Post) : gL X mid d pc vs (.int x :: r) sc rf ar al Post := by
  subst hp
  intro lv hv
  refine gW_st hX hi rfl rfl ?_
  simp only [j_tx, hb]
  exact ⟨fun z => h1 z lv hv, fun z => h2 z lv hv⟩
theorem gl_if_gt {x : Int32} {o : Int} {t : Nat} (hX : j_LK (g_n X) (g_L X)) (hi : g_co X mid pc = some (.ifCond .gt o)) (hb : j_br pc o = some t) (hp : pc + 3 = pc') (h1 : 0 < x → gL X mid d t vs r sc rf ar al Post) (h2 : ¬ (0 < x) → gL X mid d pc' vs r sc rf ar al Post) : gL X mid d pc vs (.int x :: r) sc rf ar al Post := by
  subst hp
  intro lv hv
  refine gW_st hX hi rfl rfl ?_
  simp only [j_tx, hb]
  exact ⟨fun z => h1 z lv hv, fun z => h2 z lv hv⟩
theorem gl_if_le {x : Int32} {o : Int} {t : Nat} (hX : j_LK (g_n X) (g_L X)) (hi : g_co X mid pc = some (.ifCond .le o)) (hb : j_br pc o = some t) (hp : pc + 3 = pc') (h1 : x ≤ 0 → gL X mid d t vs r sc rf ar al Post) (h2 : ¬ (x ≤ 0) → gL X mid d pc' vs r sc rf ar al Post) : gL X mid d pc vs (.int x :: r) sc rf ar al Post := by
  subst hp
  intro lv hv
  refine gW_st hX hi rfl rfl ?_
  simp only [j_tx, hb]
  exact ⟨fun z => h1 z lv hv, fun z => h2 z lv hv⟩
theorem gl_ic_eq {x y : Int32} {o : Int} {t : Nat} (hX : j_LK (g_n X) (g_L X)) (hi : g_co X mid pc = some (.if_icmp .eq o)) (hb : j_br pc o = some t) (hp : pc + 3 = pc') (h1 : x = y → gL X mid d t vs r sc rf ar al Post) (h2 : ¬ (x = y) → gL X mid d pc' vs r sc rf ar al Post) : gL X mid d pc vs (.int y :: .int x :: r) sc rf ar al Post := by
  subst hp
  intro lv hv
  refine gW_st hX hi rfl rfl ?_
  simp only [j_tx, hb]
  exact ⟨fun z => h1 z lv hv, fun z => h2 z lv hv⟩
theorem gl_ic_ne {x y : Int32} {o : Int} {t : Nat} (hX : j_LK (g_n X) (g_L X)) (hi : g_co X mid pc = some (.if_icmp .ne o)) (hb : j_br pc o = some t) (hp : pc + 3 = pc') (h1 : x = y → gL X mid d pc' vs r sc rf ar al Post) (h2 : ¬ x = y → gL X mid d t vs r sc rf ar al Post) : gL X mid d pc vs (.int y :: .int x :: r) sc rf ar al Post := by
  subst hp
  intro lv hv
  refine gW_st hX hi rfl rfl ?_
  simp only [j_tx, hb]
  refine ⟨fun z => h2 z lv hv, fun z => ?_⟩
  by_cases e : x = y
  · exact h1 e lv hv
  · exact absurd e z
theorem gl_ic_lt {x y : Int32} {o : Int} {t : Nat} (hX : j_LK (g_n X) (g_L X)) (hi : g_co X mid pc = some (.if_icmp .lt o)) (hb : j_br pc o = some t) (hp : pc + 3 = pc') (h1 : x < y → gL X mid d t vs r sc rf ar al Post) (h2 : ¬ (x < y) → gL X mid d pc' vs r sc rf ar al Post) : gL X mid d pc vs (.int y :: .int x :: r) sc rf ar al Post := by
  subst hp
  intro lv hv
  refine gW_st hX hi rfl rfl ?_
  simp only [j_tx, hb]
  exact ⟨fun z => h1 z lv hv, fun z => h2 z lv hv⟩
theorem gl_ic_ge {x y : Int32} {o : Int} {t : Nat} (hX : j_LK (g_n X) (g_L X)) (hi : g_co X mid pc = some (.if_icmp .ge o)) (hb : j_br pc o = some t) (hp : pc + 3 = pc') (h1 : y ≤ x → gL X mid d t vs r sc rf ar al Post) (h2 : ¬ (y ≤ x) → gL X mid d pc' vs r sc rf ar al Post) : gL X mid d pc vs (.int y :: .int x :: r) sc rf ar al Post := by
  subst hp
  intro lv hv
  refine gW_st hX hi rfl rfl ?_
  simp only [j_tx, hb]
  exact ⟨fun z => h1 z lv hv, fun z => h2 z lv hv⟩
theorem gl_ic_gt {x y : Int32} {o : Int} {t : Nat} (hX : j_LK (g_n X) (g_L X)) (hi : g_co X mid pc = some (.if_icmp .gt o)) (hb : j_br pc o = some t) (hp : pc + 3 = pc') (h1 : y < x → gL X mid d t vs r sc rf ar al Post) (h2 : ¬ (y < x) → gL X mid d pc' vs r sc rf ar al Post) : gL X mid d pc vs (.int y :: .int x :: r) sc rf ar al Post := by
  subst hp
  intro lv hv
  refine gW_st hX hi rfl rfl ?_
  simp only [j_tx, hb]
  exact ⟨fun z => h1 z lv hv, fun z => h2 z lv hv⟩
theorem gl_ic_le {x y : Int32} {o : Int} {t : Nat} (hX : j_LK (g_n X) (g_L X)) (hi : g_co X mid pc = some (.if_icmp .le o)) (hb : j_br pc o = some t) (hp : pc + 3 = pc') (h1 : x ≤ y → gL X mid d t vs r sc rf ar al Post) (h2 : ¬ (x ≤ y) → gL X mid d pc' vs r sc rf ar al Post) : gL X mid d pc vs (.int y :: .int x :: r) sc rf ar al Post := by
  subst hp
  intro lv hv
  refine gW_st hX hi rfl rfl ?_
  simp only [j_tx, hb]
  exact ⟨fun z => h1 z lv hv, fun z => h2 z lv hv⟩
theorem gl_get {x a ci k t : Nat} {v : Int32} (hX : j_LK (g_n X) (g_L X)) (hi : g_co X mid pc = some (.getfield x)) (hf : g_fl X mid x = some (ci, k, t)) (hs : (g_L X).1 a = .inl ci) (hn : Nat.blt k ((g_L X).2.2.1 ci) = true) (hk : (g_L X).2.2.2 ci k = false) (he : sc a k = v) (hp : pc + 3 = pc') (h : gL X mid d pc' vs (.int v :: r) sc rf ar al Post) : gL X mid d pc vs (.ref a :: r) sc rf ar al Post := by
  subst hp
  subst he
  intro lv hv
  refine gW_st hX hi rfl rfl ?_
  simp only [j_tx, hf]
  refine ⟨hs, Nat.le_of_ble_eq_true hn, ?_⟩
  rw [hk]
  exact h lv hv
theorem gl_getA {x a ci k t b : Nat} (hX : j_LK (g_n X) (g_L X)) (hi : g_co X mid pc = some (.getfield x)) (hf : g_fl X mid x = some (ci, k, t)) (hs : (g_L X).1 a = .inl ci) (hn : Nat.blt k ((g_L X).2.2.1 ci) = true) (hk : (g_L X).2.2.2 ci k = true) (hb : rf a k = b) (hp : pc + 3 = pc') (h : gL X mid d pc' vs (.ref b :: r) sc rf ar al Post) : gL X mid d pc vs (.ref a :: r) sc rf ar al Post := by
  subst hp
  subst hb
  intro lv hv
  refine gW_st hX hi rfl rfl ?_
  simp only [j_tx, hf]
  refine ⟨hs, Nat.le_of_ble_eq_true hn, ?_⟩
  rw [hk]
  exact h lv hv
theorem gl_put {x a ci k t : Nat} {v : Int32} {sc' : jSc} (hX : j_LK (g_n X) (g_L X)) (hi : g_co X mid pc = some (.putfield x)) (hf : g_fl X mid x = some (ci, k, t)) (hs : (g_L X).1 a = .inl ci) (hn : Nat.blt k ((g_L X).2.2.1 ci) = true) (hk : (g_L X).2.2.2 ci k = false) (ht : j_pt t (.int v) = true) (hc : j_u2 sc a k v = sc') (hp : pc + 3 = pc') (h : gL X mid d pc' vs r sc' rf ar al Post) : gL X mid d pc vs (.int v :: .ref a :: r) sc rf ar al Post := by
  subst hp
  subst hc
  intro lv hv
  refine gW_st hX hi rfl rfl ?_
  simp only [j_tx, hf]
  exact ⟨hs, Nat.le_of_ble_eq_true hn, hk, ht, h lv hv⟩
theorem gl_putA {x a ci k t v : Nat} {rf' : jRf} (hX : j_LK (g_n X) (g_L X)) (hi : g_co X mid pc = some (.putfield x)) (hf : g_fl X mid x = some (ci, k, t)) (hs : (g_L X).1 a = .inl ci) (hn : Nat.blt k ((g_L X).2.2.1 ci) = true) (hk : (g_L X).2.2.2 ci k = true) (ht : j_pt t (.ref v) = true) (hc : j_u2 rf a k v = rf') (hp : pc + 3 = pc') (h : gL X mid d pc' vs r sc rf' ar al Post) : gL X mid d pc vs (.ref v :: .ref a :: r) sc rf ar al Post := by
  subst hp
  subst hc
  intro lv hv
  refine gW_st hX hi rfl rfl ?_
  simp only [j_tx, hf]
  exact ⟨hs, Nat.le_of_ble_eq_true hn, hk, ht, h lv hv⟩
theorem gl_iaload {j : Int32} {a n : Nat} {v : Int32} (hX : j_LK (g_n X) (g_L X)) (hi : g_co X mid pc = some (.iaload)) (hs : (g_L X).1 a = .inr (0, n)) (hb : iB j n) (he : ar a (iN j) = v) (hp : pc + 1 = pc') (h : gL X mid d pc' vs (.int v :: r) sc rf ar al Post) : gL X mid d pc vs (.int j :: .ref a :: r) sc rf ar al Post := by
  subst hp
  intro lv hv
  refine gW_st hX hi rfl rfl ?_
  subst he
  simp only [j_tx, hs]
  exact ⟨hb, h lv hv⟩
theorem gl_baload {j : Int32} {a n : Nat} {v : Int32} (hX : j_LK (g_n X) (g_L X)) (hi : g_co X mid pc = some (.baload)) (hs : (g_L X).1 a = .inr (2, n)) (hb : iB j n) (he : ar a (iN j) = v) (hp : pc + 1 = pc') (h : gL X mid d pc' vs (.int v :: r) sc rf ar al Post) : gL X mid d pc vs (.int j :: .ref a :: r) sc rf ar al Post := by
  subst hp
  intro lv hv
  refine gW_st hX hi rfl rfl ?_
  subst he
  simp only [j_tx, hs]
  exact ⟨hb, h lv hv⟩
theorem gl_laload {j : Int32} {a n : Nat} {v : Int64} (hX : j_LK (g_n X) (g_L X)) (hi : g_co X mid pc = some (.laload)) (hs : (g_L X).1 a = .inr (1, n)) (hb : iB j n) (he : al a (iN j) = v) (hp : pc + 1 = pc') (h : gL X mid d pc' vs (.long v :: r) sc rf ar al Post) : gL X mid d pc vs (.int j :: .ref a :: r) sc rf ar al Post := by
  subst hp
  intro lv hv
  refine gW_st hX hi rfl rfl ?_
  subst he
  simp only [j_tx, hs]
  exact ⟨hb, h lv hv⟩
theorem gl_aaload {j : Int32} {a n t q : Nat} (hX : j_LK (g_n X) (g_L X)) (hi : g_co X mid pc = some (.aaload)) (hs : (g_L X).1 a = .inr (t, n)) (hb : iB j n) (h0 : t = 3 ∨ ((t = 4 ∨ t = 5) ∧ (g_L X).1 0 = .inl 11)) (hq : (g_L X).2.1 a (iN j) = some q) (hp : pc + 1 = pc') (h : gL X mid d pc' vs (.ref q :: r) sc rf ar al Post) : gL X mid d pc vs (.int j :: .ref a :: r) sc rf ar al Post := by
  subst hp
  intro lv hv
  refine gW_st hX hi rfl rfl ?_
  simp only [j_tx, hs, hq]
  exact ⟨⟨hb, h0⟩, h lv hv⟩
theorem gl_iastore {j x : Int32} {a n : Nat} {ar2 : jSc} (hX : j_LK (g_n X) (g_L X)) (hi : g_co X mid pc = some (.iastore)) (hs : (g_L X).1 a = .inr (0, n)) (hb : iB j n) (he : j_u2 ar a (iN j) x = ar2) (hp : pc + 1 = pc') (h : gL X mid d pc' vs (r) sc rf ar2 al Post) : gL X mid d pc vs (.int x :: .int j :: .ref a :: r) sc rf ar al Post := by
  subst hp
  intro lv hv
  refine gW_st hX hi rfl rfl ?_
  subst he
  simp only [j_tx, hs]
  exact ⟨⟨hb, trivial⟩, h lv hv⟩
theorem gl_bastore {j x : Int32} {a n : Nat} {ar2 : jSc} (hX : j_LK (g_n X) (g_L X)) (hi : g_co X mid pc = some (.bastore)) (hs : (g_L X).1 a = .inr (2, n)) (hb : iB j n) (hx : x = 0 ∨ x = 1) (he : j_u2 ar a (iN j) x = ar2) (hp : pc + 1 = pc') (h : gL X mid d pc' vs (r) sc rf ar2 al Post) : gL X mid d pc vs (.int x :: .int j :: .ref a :: r) sc rf ar al Post := by
  subst hp
  intro lv hv
  refine gW_st hX hi rfl rfl ?_
  subst he
  simp only [j_tx, hs]
  exact ⟨⟨hb, hx⟩, h lv hv⟩
theorem gl_lastore {j : Int32} {x : Int64} {a n : Nat} (hX : j_LK (g_n X) (g_L X)) (hi : g_co X mid pc = some (.lastore)) (hs : (g_L X).1 a = .inr (1, n)) (hb : iB j n) (hp : pc + 1 = pc') (h : gL X mid d pc' vs (r) sc rf ar (j_u2 al a (iN j) x) Post) : gL X mid d pc vs (.long x :: .int j :: .ref a :: r) sc rf ar al Post := by
  subst hp
  intro lv hv
  refine gW_st hX hi rfl rfl ?_
  simp only [j_tx, hs]
  exact ⟨hb, h lv hv⟩
theorem gl_arraylength {a n t : Nat} (hX : j_LK (g_n X) (g_L X)) (hi : g_co X mid pc = some (.arraylength)) (hs : (g_L X).1 a = .inr (t, n)) (h0 : t < 4 ∨ (t < 6 ∧ (g_L X).1 0 = .inl 11)) (hp : pc + 1 = pc') (h : gL X mid d pc' vs (.int (Int32.ofNat n) :: r) sc rf ar al Post) : gL X mid d pc vs (.ref a :: r) sc rf ar al Post := by
  subst hp
  intro lv hv
  refine gW_st hX hi rfl rfl ?_
  simp only [j_tx, hs]
  exact ⟨h0, h lv hv⟩
theorem gl_ireturn {v : Int32} (hi : g_co X mid pc = some (.ireturn)) (hr : g_rt X mid = 1 ∨ (g_rt X mid = 2 ∧ (v = 0 ∨ v = 1))) (h : Post (some (.int v)) sc rf ar al) : gL X mid d pc vs [.int v] sc rf ar al Post :=
  fun lv _ => ⟨1, _, _, _, _, _, by rw [j_run]; simp only [hi, j_ret, if_pos hr], h⟩
theorem gl_lreturn {v : Int64} (hi : g_co X mid pc = some (.lreturn)) (hr : g_rt X mid = 3) (h : Post (some (.long v)) sc rf ar al) : gL X mid d pc vs [.long v] sc rf ar al Post :=
  fun lv _ => ⟨1, _, _, _, _, _, by rw [j_run]; simp only [hi, j_ret, if_pos hr], h⟩
theorem gl_return (hi : g_co X mid pc = some (.return_)) (hr : g_rt X mid = 0) (h : Post none sc rf ar al) : gL X mid d pc vs [] sc rf ar al Post :=
  fun lv _ => ⟨1, _, _, _, _, _, by rw [j_run]; simp only [hi, j_ret, if_pos hr], h⟩
theorem gl_callV {x q na ci a mq : Nat} {st args rest : List Value} (hX : j_LK (g_n X) (g_L X)) (hi : g_co X mid pc = some (.invokevirtual x)) (hm : g_ml X mid x = some (0, q, na, ci)) (ht : (st.take (na + 1)).reverse = args) (hd : st.drop (na + 1) = rest) (ha : st[na]? = some (.ref a)) (hs : (g_L X).1 a = .inl ci) (hq : g_mx X q = mq) (hz : l_sz rest args mq = true) (hp : pc + 3 = pc') (h : gW X q d 0 (j_av args) [] sc rf ar al (fun r sc' rf' ar' al' => gL X mid (d + 1) pc' vs (l_rs r rest) sc' rf' ar' al' Post)) : gL X mid (d + 1) pc vs st sc rf ar al Post := by
  subst hp
  subst ht
  subst hd
  subst hq
  intro lv hv
  obtain ⟨z1, z2, z3⟩ := l_sz_ok hz
  refine j_W_call (g_n X) (g_co X) (g_fl X) (g_cn X) (g_nt X) (g_ml X) (g_mx X) (g_rt X) (g_L X) (kd := 0) (na := na) hi rfl rfl hm ?_ ?_
  · intro f hf
    subst hf
    have g6 : na + 1 ≤ st.length := (List.getElem?_eq_some_iff.mp ha).1
    have e1 : (na + 1 - 0) = na + 1 := rfl
    simp only [j_can, Bool.and_eq_true, Bool.or_eq_true, decide_eq_true_eq, e1, j_rc, ha, j_lay_ob hX hs]
    exact ⟨⟨⟨⟨⟨by omega, g6⟩, z1⟩, z2⟩, z3⟩, Or.inr ⟨trivial, rfl⟩⟩
  · exact gW_mono h (fun q _ _ _ _ z => by
      have z2 := z lv hv
      rw [← l_rs_ok] at z2
      exact z2)
theorem gl_callS {x q na ci mq : Nat} {st args rest : List Value} (hi : g_co X mid pc = some (.invokestatic x)) (hm : g_ml X mid x = some (1, q, na, ci)) (ht : (st.take na).reverse = args) (hd : st.drop na = rest) (hl : Nat.ble na st.length = true) (hq : g_mx X q = mq) (hz : l_sz rest args mq = true) (hp : pc + 3 = pc') (h : gW X q d 0 (j_av args) [] sc rf ar al (fun r sc' rf' ar' al' => gL X mid (d + 1) pc' vs (l_rs r rest) sc' rf' ar' al' Post)) : gL X mid (d + 1) pc vs st sc rf ar al Post := by
  subst hp
  subst ht
  subst hd
  subst hq
  intro lv hv
  obtain ⟨z1, z2, z3⟩ := l_sz_ok hz
  refine j_W_call (g_n X) (g_co X) (g_fl X) (g_cn X) (g_nt X) (g_ml X) (g_mx X) (g_rt X) (g_L X) (kd := 1) (na := na) (ci := ci) hi rfl rfl hm ?_ ?_
  · intro f hf
    subst hf
    have e1 : (na + 1 - 1) = na := by omega
    simp only [j_can, Bool.and_eq_true, Bool.or_eq_true, decide_eq_true_eq, e1]
    exact ⟨⟨⟨⟨⟨by omega, Nat.le_of_ble_eq_true hl⟩, z1⟩, z2⟩, z3⟩, Or.inl trivial⟩
  · exact gW_mono h (fun q _ _ _ _ z => by
      have z2 := z lv hv
      rw [← l_rs_ok] at z2
      exact z2)
theorem gl_nat {x : Nat} {st : List Value} (hX : j_LK (g_n X) (g_L X)) (hi : g_co X mid pc = some (.invokestatic x)) (hm : g_ml X mid x = none) (h : ∀ lv, l_ag vs lv → j_tx (g_L X) (g_mx X mid) (g_fl X mid) (g_cn X mid) (g_nt X mid) (.invokestatic x) pc lv st sc rf ar al (fun pc' lv' st' sc' rf' ar' al' => gW X mid (d + 1) pc' lv' st' sc' rf' ar' al' Post)) : gL X mid (d + 1) pc vs st sc rf ar al Post :=
  fun lv hv => j_W_nat _ _ _ _ _ _ _ _ _ hX (by omega) hi hm (h lv hv) (fun _ _ _ _ _ _ _ z => z)
theorem gl_max {x : Nat} {u v : Int32} (hX : j_LK (g_n X) (g_L X)) (hi : g_co X mid pc = some (.invokestatic x)) (hm : g_ml X mid x = none) (hn : g_nt X mid x = 2) (hz : Nat.ble (r.map fun v => v.category).sum 8 = true) (hp : pc + 3 = pc') (h : gL X mid (d + 1) pc' vs (.int (if u < v then v else u) :: r) sc rf ar al Post) : gL X mid (d + 1) pc vs (.int v :: .int u :: r) sc rf ar al Post := by
  subst hp
  refine gl_nat hX hi hm (fun lv hv => ?_)
  rw [wx_max _ _ _ _ _ hn]
  exact ⟨Nat.le_of_ble_eq_true hz, h lv hv⟩
theorem gl_min {x : Nat} {u v : Int32} (hX : j_LK (g_n X) (g_L X)) (hi : g_co X mid pc = some (.invokestatic x)) (hm : g_ml X mid x = none) (hn : g_nt X mid x = 3) (hz : Nat.ble (r.map fun v => v.category).sum 8 = true) (hp : pc + 3 = pc') (h : gL X mid (d + 1) pc' vs (.int (if v < u then v else u) :: r) sc rf ar al Post) : gL X mid (d + 1) pc vs (.int v :: .int u :: r) sc rf ar al Post := by
  subst hp
  refine gl_nat hX hi hm (fun lv hv => ?_)
  rw [wx_min _ _ _ _ _ hn]
  exact ⟨Nat.le_of_ble_eq_true hz, h lv hv⟩
theorem gl_copy {x a b na nb : Nat} {n dp sp : Int32} (hX : j_LK (g_n X) (g_L X)) (hi : g_co X mid pc = some (.invokestatic x)) (hm : g_ml X mid x = none) (hn : g_nt X mid x = 1) (hs : (g_L X).1 b = .inr (0, nb)) (hs2 : (g_L X).1 a = .inr (0, na)) (hb : (¬ sp < 0 ∧ ¬ dp < 0 ∧ ¬ n < 0) ∧ (iN sp + iN n ≤ nb ∧ iN dp + iN n ≤ na)) (hz : Nat.ble (r.map fun v => v.category).sum 8 = true) (hp : pc + 3 = pc') (h : gL X mid (d + 1) pc' vs r sc rf (va_up ar a (va_cpy (ar b) (ar a) (iN sp) (iN dp) (iN n))) al Post) : gL X mid (d + 1) pc vs (.int n :: .int dp :: .ref a :: .int sp :: .ref b :: r) sc rf ar al Post := by
  subst hp
  refine gl_nat hX hi hm (fun lv hv => ?_)
  rw [wx_copy _ _ _ _ _ hn, hs, hs2]
  exact ⟨⟨hb.1, hb.2, Nat.le_of_ble_eq_true hz⟩, h lv hv⟩
theorem gl_tsw {x : Int32} {dd lo hh : Int} {os : Array Int} {td : Nat} (hX : j_LK (g_n X) (g_L X)) (hi : g_co X mid pc = some (.tableswitch dd lo hh os)) (hl : hh = lo + os.size - 1) (hb : j_br pc dd = some td) (hd : (∀ j : Nat, j < os.size → ¬ x.toInt = lo + j) → gL X mid d td vs r sc rf ar al Post) (hk : ∀ (j : Nat) (o : Int), os[j]? = some o → x.toInt = lo + j → ∃ t, j_br pc o = some t ∧ gL X mid d t vs r sc rf ar al Post) : gL X mid d pc vs (.int x :: r) sc rf ar al Post := by
  intro lv hv
  refine gW_st hX hi rfl rfl ?_
  simp only [j_tx, hb]
  refine ⟨fun z => hd (fun j hj e => by omega) lv hv, fun z => ?_⟩
  have hj : (x.toInt - lo).toNat < os.size := by omega
  have e1 : os[(x.toInt - lo).toNat]? = some os[(x.toInt - lo).toNat] := Array.getElem?_eq_getElem hj
  obtain ⟨t, h1, h2⟩ := hk _ _ e1 (by omega)
  simp only [e1, h1]
  exact h2 lv hv
end GLS
theorem o_ck {α : Type} {p : Prop} [Decidable p] {t : Option α} {r : α} (h : (if p then t else none) = some r) : p ∧ t = some r := by
  by_cases c : p
  · rw [if_pos c] at h; exact ⟨c, h⟩
  · rw [if_neg c] at h; cases h
def o_b1 {A R : Type} (x : Option A) (f : A → Option R) : Option R := match x with
  | some a => f a
  | none => none
def o_b2 {A B R : Type} (x : Option (A × B)) (f : A → B → Option R) : Option R := match x with
  | some (a, b) => f a b
  | none => none
def o_b3 {A B C R : Type} (x : Option (A × B × C)) (f : A → B → C → Option R) : Option R := match x with
  | some (a, b, c) => f a b c
  | none => none
def o_b4 {A B C D R : Type} (x : Option (A × B × C × D)) (f : A → B → C → D → Option R) : Option R := match x with
  | some (a, b, c, d) => f a b c d
  | none => none
def o_b5 {A B C D E R : Type} (x : Option (A × B × C × D × E)) (f : A → B → C → D → E → Option R) : Option R := match x with
  | some (a, b, c, d, e) => f a b c d e
  | none => none
theorem ob2 {A B R : Type} {a : A} {b : B} {f : A → B → Option R} : o_b2 (some (a, b)) f = f a b := rfl
theorem ob3 {A B C R : Type} {a : A} {b : B} {c : C} {f : A → B → C → Option R} : o_b3 (some (a, b, c)) f = f a b c := rfl
theorem ob4 {A B C D R : Type} {a : A} {b : B} {c : C} {d : D} {f : A → B → C → D → Option R} : o_b4 (some (a, b, c, d)) f = f a b c d := rfl
theorem ob5 {A B C D E R : Type} {a : A} {b : B} {c : C} {d : D} {e : E} {f : A → B → C → D → E → Option R} : o_b5 (some (a, b, c, d, e)) f = f a b c d e := rfl
theorem o_k2 {A B R : Type} {x : Option (A × B)} {f : A → B → Option R} {r : R} (h : o_b2 x f = some r) : ∃ a b, x = some (a, b) ∧ f a b = some r := by
  rcases x with _ | ⟨a, b⟩
  · cases h
  · exact ⟨a, b, rfl, h⟩
theorem o_k3 {A B C R : Type} {x : Option (A × B × C)} {f : A → B → C → Option R} {r : R} (h : o_b3 x f = some r) : ∃ a b c, x = some (a, b, c) ∧ f a b c = some r := by
  rcases x with _ | ⟨a, b, c⟩
  · cases h
  · exact ⟨a, b, c, rfl, h⟩
theorem o_k4 {A B C D R : Type} {x : Option (A × B × C × D)} {f : A → B → C → D → Option R} {r : R} (h : o_b4 x f = some r) : ∃ a b c d, x = some (a, b, c, d) ∧ f a b c d = some r := by
  rcases x with _ | ⟨a, b, c, d⟩
  · cases h
  · exact ⟨a, b, c, d, rfl, h⟩
theorem o_k5 {A B C D E R : Type} {x : Option (A × B × C × D × E)} {f : A → B → C → D → E → Option R} {r : R} (h : o_b5 x f = some r) : ∃ a b c d e, x = some (a, b, c, d, e) ∧ f a b c d e = some r := by
  rcases x with _ | ⟨a, b, c, d, e⟩
  · cases h
  · exact ⟨a, b, c, d, e, rfl, h⟩
/-- rounds enough for any loop -/
def oF : Nat := 10000
theorem ru {sc : jSc} {S : Nat → Int32} {k : Nat} {v : Int32} : j_u2 (va_up sc 0 S) 0 k v = va_up sc 0 (upd S k v) := by rw [ur, vu_0, vu_2]
