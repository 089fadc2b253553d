/-! THROWS over the typed memory: gT, gM (locals as a list); where ClickOrders throws. -/
def x_thL : List (Nat × Nat × Nat) := [(314, 12, 0), (326, 76, 0), (332, 9, 0), (342, 80, 0), (344, 22, 0), (346, 14, 0), (347, 16, 0), (354, 10, 0), (355, 9, 1), (356, 15, 2), (357, 22, 0), (358, 9, 0)]
def x_th (mid pc : Nat) : Option Nat := match x_thL.find? (fun q => q.1 == mid && q.2.1 == pc) with
  | some q => some q.2.2
  | none => none
def gT (X : jX) (mid d pc : Nat) (lv : jV) (st : List Value) (sc : jSc) (rf : jRf) (ar : jSc) (al : jAl) (P : Nat × jM) : Prop := ∃ N, j_thr (g_n X) (g_co X) (g_fl X) (g_cn X) (g_nt X) (g_ml X) (g_mx X) (g_rt X) x_th N mid d pc lv st (j_lay (g_L X) sc rf ar al) P.1 P.2
def gM (X : jX) (mid d pc : Nat) (vs : List (Option Value)) (st : List Value) (sc : jSc) (rf : jRf) (ar : jSc) (al : jAl) (P : Nat × jM) : Prop := ∀ lv : jV, l_ag vs lv → gT X mid d pc lv st sc rf ar al P
section GMS
variable {X : jX} {mid d pc pc' : Nat} {vs : List (Option Value)} {r : List Value} {sc : jSc} {rf : jRf} {ar : jSc} {al : jAl} {P : Nat × jM}
theorem gT_st (hX : j_LK (g_n X) (g_L X)) {lv : jV} {i : Instr} (hi : g_co X mid pc = some i) (h2 : j_inv i = none) (h : j_tx (g_L X) (g_mx X mid) (g_fl X mid) (g_cn X mid) (g_nt X mid) i pc lv r sc rf ar al (fun pc' lv' st' sc' rf' ar' al' => gT X mid d pc' lv' st' sc' rf' ar' al' P)) : gT X mid d pc lv r sc rf ar al P := by
  obtain ⟨pc', lv', st', sc', rf', ar', al', hs, N, hk⟩ := j_tx_ok (n0 := g_n X) hX h
  refine ⟨N + 1, ?_⟩
  rw [j_thr]
  exact Or.inr (Or.inl ⟨i, pc', lv', st', _, hi, h2, hs, hk⟩)
theorem gt_entry {args : List Value} {m : Nat} (hc : l_c1 args = true) (h : gM X mid d 0 (l_en args m) [] sc rf ar al P) : gT X mid d 0 (j_av args) [] sc rf ar al P := by
  refine h _ ?_
  intro k w hw
  have := l_av_go args m 0 k w hc hw
  unfold j_av
  rw [Nat.zero_add] at this
  rw [this]
theorem gt_th {E : Nat} (h : x_th mid pc = some E) : gM X mid d pc vs [] sc rf ar al (E, j_lay (g_L X) sc rf ar al) := by
  intro lv _
  refine ⟨1, ?_⟩
  rw [j_thr]
  exact Or.inl ⟨h, rfl, rfl⟩
theorem gt_can (hX : j_LK (g_n X) (g_L X)) {x q na ci a mq : Nat} {st args rest : List Value} (ht : (st.take (na + 1)).reverse = args) (hd : st.drop (na + 1) = rest) (ha : st[na]? = some (.ref a)) (hs : (g_L X).1 a = .inl ci) (hq : g_mx X q = mq) (hz : l_sz rest args mq = true) : j_can (g_n X) (j_lay (g_L X) sc rf ar al) 0 ci na (g_mx X q) (d + 1) st = true := by
  subst ht
  subst hd
  subst hq
  obtain ⟨z1, z2, z3⟩ := l_sz_ok hz
  have g6 : na + 1 ≤ st.length := (List.getElem?_eq_some_iff.mp ha).1
  have e1 : (na + 1 - 0) = na + 1 := rfl
  simp only [j_can, Bool.and_eq_true, Bool.or_eq_true, decide_eq_true_eq, e1, j_rc, ha, j_lay_ob hX hs]
  exact ⟨⟨⟨⟨⟨by omega, g6⟩, z1⟩, z2⟩, z3⟩, Or.inr ⟨trivial, rfl⟩⟩
theorem gt_callT {x q na ci a mq : Nat} {st args rest : List Value} (hX : j_LK (g_n X) (g_L X)) (hi : g_co X mid pc = some (.invokevirtual x)) (hm : g_ml X mid x = some (0, q, na, ci)) (ht : (st.take (na + 1)).reverse = args) (hd : st.drop (na + 1) = rest) (ha : st[na]? = some (.ref a)) (hs : (g_L X).1 a = .inl ci) (hq : g_mx X q = mq) (hz : l_sz rest args mq = true) (h : gT X q d 0 (j_av args) [] sc rf ar al P) : gM X mid (d + 1) pc vs st sc rf ar al P := by
  intro lv hv
  have hc := gt_can (x := x) (d := d) (sc := sc) (rf := rf) (ar := ar) (al := al) hX ht hd ha hs hq hz
  subst ht
  obtain ⟨N, hN⟩ := h
  refine ⟨N + 1, ?_⟩
  rw [j_thr]
  exact Or.inr (Or.inr (Or.inr ⟨x, q, na, ci, hi, hm, hc, hN⟩))
theorem gt_callR {x q na ci a mq : Nat} {st args rest : List Value} (hX : j_LK (g_n X) (g_L X)) (hi : g_co X mid pc = some (.invokevirtual x)) (hm : g_ml X mid x = some (0, q, na, ci)) (ht : (st.take (na + 1)).reverse = args) (hd : st.drop (na + 1) = rest) (ha : st[na]? = some (.ref a)) (hs : (g_L X).1 a = .inl ci) (hq : g_mx X q = mq) (hz : l_sz rest args mq = true) (hp : pc + 3 = pc') (hc : gW X q d 0 (j_av args) [] sc rf ar al (fun r sc' rf' ar' al' => r = none ∧ sc' = sc ∧ rf' = rf ∧ ar' = ar ∧ al' = al)) (h : gM X mid (d + 1) pc' vs rest sc rf ar al P) : gM X mid (d + 1) pc vs st sc rf ar al P := by
  intro lv hv
  have hcan := gt_can (x := x) (d := d) (sc := sc) (rf := rf) (ar := ar) (al := al) hX ht hd ha hs hq hz
  subst ht
  subst hd
  subst hp
  obtain ⟨N1, r1, sc1, rf1, ar1, al1, hr, h1, h2, h3, h4, h5⟩ := hc
  subst h1
  subst h2
  subst h3
  subst h4
  subst h5
  obtain ⟨N, hN⟩ := h lv hv
  refine ⟨N + 1, ?_⟩
  rw [j_thr]
  exact Or.inr (Or.inr (Or.inl ⟨x, q, na, ci, N1, none, _, hi, hm, hcan, hr, hN⟩))
theorem gt_iconst {n : Int} {v : Int32} (hX : j_LK (g_n X) (g_L X)) (hi : g_co X mid pc = some (.iconst n)) (hc : Int32.ofInt n = v) (hp : pc + 1 = pc') (h : gM X mid d pc' vs (.int v :: r) sc rf ar al P) : gM X mid d pc vs (r) sc rf ar al P := by
  subst hp
  intro lv hv
  refine gT_st hX hi rfl ?_
  subst hc
  exact h lv hv
theorem gt_bipush {n : Int} {v : Int32} (hX : j_LK (g_n X) (g_L X)) (hi : g_co X mid pc = some (.bipush n)) (hc : (Int8.ofInt n).toInt32 = v) (hp : pc + 2 = pc') (h : gM X mid d pc' vs (.int v :: r) sc rf ar al P) : gM X mid d pc vs (r) sc rf ar al P := by
  subst hp
  intro lv hv
  refine gT_st hX hi rfl ?_
  subst hc
  exact h lv hv
theorem gt_sipush {n : Int} {v : Int32} (hX : j_LK (g_n X) (g_L X)) (hi : g_co X mid pc = some (.sipush n)) (hc : (Int16.ofInt n).toInt32 = v) (hp : pc + 3 = pc') (h : gM X mid d pc' vs (.int v :: r) sc rf ar al P) : gM X mid d pc vs (r) sc rf ar al P := by
  subst hp
  intro lv hv
  refine gT_st hX hi rfl ?_
  subst hc
  exact h lv hv
theorem gt_iload_n {k : Fin 4} {v : Int32} (hX : j_LK (g_n X) (g_L X)) (hi : g_co X mid pc = some (.iload_n k)) (hl : l_at vs (k : Nat) = some (.int v)) (hp : pc + 1 = pc') (h : gM X mid d pc' vs (.int v :: r) sc rf ar al P) : gM X mid d pc vs (r) sc rf ar al P := by
  subst hp
  intro lv hv
  refine gT_st hX hi rfl ?_
  simp only [j_tx, hv _ _ hl]
  exact h lv hv
theorem gt_iload {k : Nat} {v : Int32} (hX : j_LK (g_n X) (g_L X)) (hi : g_co X mid pc = some (.iload k)) (hl : l_at vs k = some (.int v)) (hp : pc + 2 = pc') (h : gM X mid d pc' vs (.int v :: r) sc rf ar al P) : gM X mid d pc vs (r) sc rf ar al P := by
  subst hp
  intro lv hv
  refine gT_st hX hi rfl ?_
  simp only [j_tx, hv _ _ hl]
  exact h lv hv
theorem gt_aload_n {k : Fin 4} {v : Nat} (hX : j_LK (g_n X) (g_L X)) (hi : g_co X mid pc = some (.aload_n k)) (hl : l_at vs (k : Nat) = some (.ref v)) (hp : pc + 1 = pc') (h : gM X mid d pc' vs (.ref v :: r) sc rf ar al P) : gM X mid d pc vs (r) sc rf ar al P := by
  subst hp
  intro lv hv
  refine gT_st hX hi rfl ?_
  simp only [j_tx, hv _ _ hl]
  exact h lv hv
theorem gt_istore_n {k : Fin 4} {v : Int32} {vs2 : List (Option Value)} (hX : j_LK (g_n X) (g_L X)) (hi : g_co X mid pc = some (.istore_n k)) (hm : Nat.blt (k : Nat) (g_mx X mid) = true) (ho : l_ok vs (k : Nat) = true) (he : l_st vs (k : Nat) (some (.int v)) = vs2) (hp : pc + 1 = pc') (h : gM X mid d pc' vs2 (r) sc rf ar al P) : gM X mid d pc vs (.int v :: r) sc rf ar al P := by
  subst hp
  intro lv hv
  refine gT_st hX hi rfl ?_
  subst he
  exact ⟨Nat.le_of_ble_eq_true hm, h _ (l_ag_st hv ho _)⟩
theorem gt_istore {k : Nat} {v : Int32} {vs2 : List (Option Value)} (hX : j_LK (g_n X) (g_L X)) (hi : g_co X mid pc = some (.istore k)) (hm : Nat.blt k (g_mx X mid) = true) (ho : l_ok vs k = true) (he : l_st vs k (some (.int v)) = vs2) (hp : pc + 2 = pc') (h : gM X mid d pc' vs2 (r) sc rf ar al P) : gM X mid d pc vs (.int v :: r) sc rf ar al P := by
  subst hp
  intro lv hv
  refine gT_st hX hi rfl ?_
  subst he
  exact ⟨Nat.le_of_ble_eq_true hm, h _ (l_ag_st hv ho _)⟩
theorem gt_goto {o : Int} {t : Nat} (hX : j_LK (g_n X) (g_L X)) (hi : g_co X mid pc = some (.goto o)) (hb : j_br pc o = some t) (h : gM X mid d t vs r sc rf ar al P) : gM X mid d pc vs r sc rf ar al P := by
  intro lv hv
  refine gT_st hX hi rfl ?_
  simp only [j_tx, hb]
  exact h lv hv
theorem gt_if_eq {x : Int32} {o : Int} {t : Nat} (hX : j_LK (g_n X) (g_L X)) (hi : g_co X mid pc = some (.ifCond .eq o)) (hb : j_br pc o = some t) (hp : pc + 3 = pc') (h1 : x = 0 → gM X mid d t vs r sc rf ar al P) (h2 : ¬ (x = 0) → gM X mid d pc' vs r sc rf ar al P) : gM X mid d pc vs (.int x :: r) sc rf ar al P := by
  subst hp
  intro lv hv
  refine gT_st hX hi rfl ?_
  simp only [j_tx, hb]
  exact ⟨fun z => h1 z lv hv, fun z => h2 z lv hv⟩
theorem gt_if_ne {x : Int32} {o : Int} {t : Nat} (hX : j_LK (g_n X) (g_L X)) (hi : g_co X mid pc = some (.ifCond .ne o)) (hb : j_br pc o = some t) (hp : pc + 3 = pc') (h1 : x = 0 → gM X mid d pc' vs r sc rf ar al P) (h2 : ¬ x = 0 → gM X mid d t vs r sc rf ar al P) : gM X mid d pc vs (.int x :: r) sc rf ar al P := by
  subst hp
  intro lv hv
  refine gT_st hX hi rfl ?_
  simp only [j_tx, hb]
  refine ⟨fun z => h2 z lv hv, fun z => ?_⟩
  by_cases e : x = 0
  · exact h1 e lv hv
  · exact absurd e z
theorem gt_if_lt {x : Int32} {o : Int} {t : Nat} (hX : j_LK (g_n X) (g_L X)) (hi : g_co X mid pc = some (.ifCond .lt o)) (hb : j_br pc o = some t) (hp : pc + 3 = pc') (h1 : x < 0 → gM X mid d t vs r sc rf ar al P) (h2 : ¬ (x < 0) → gM X mid d pc' vs r sc rf ar al P) : gM X mid d pc vs (.int x :: r) sc rf ar al P := by
  subst hp
  intro lv hv
  refine gT_st hX hi rfl ?_
  simp only [j_tx, hb]
  exact ⟨fun z => h1 z lv hv, fun z => h2 z lv hv⟩
theorem gt_if_ge {x : Int32} {o : Int} {t : Nat} (hX : j_LK (g_n X) (g_L X)) (hi : g_co X mid pc = some (.ifCond .ge o)) (hb : j_br pc o = some t) (hp : pc + 3 = pc') (h1 : 0 ≤ x → gM X mid d t vs r sc rf ar al P) (h2 : ¬ (0 ≤ x) → gM X mid d pc' vs r sc rf ar al P) : gM X mid d pc vs (.int x :: r) sc rf ar al P := by
  subst hp
  intro lv hv
  refine gT_st hX hi rfl ?_
  simp only [j_tx, hb]
  exact ⟨fun z => h1 z lv hv, fun z => h2 z lv hv⟩
theorem gt_if_gt {x : Int32} {o : Int} {t : Nat} (hX : j_LK (g_n X) (g_L X)) (hi : g_co X mid pc = some (.ifCond .gt o)) (hb : j_br pc o = some t) (hp : pc + 3 = pc') (h1 : 0 < x → gM X mid d t vs r sc rf ar al P) (h2 : ¬ (0 < x) → gM X mid d pc' vs r sc rf ar al P) : gM X mid d pc vs (.int x :: r) sc rf ar al P := by
  subst hp
  intro lv hv
  refine gT_st hX hi rfl ?_
  simp only [j_tx, hb]
  exact ⟨fun z => h1 z lv hv, fun z => h2 z lv hv⟩
theorem gt_if_le {x : Int32} {o : Int} {t : Nat} (hX : j_LK (g_n X) (g_L X)) (hi : g_co X mid pc = some (.ifCond .le o)) (hb : j_br pc o = some t) (hp : pc + 3 = pc') (h1 : x ≤ 0 → gM X mid d t vs r sc rf ar al P) (h2 : ¬ (x ≤ 0) → gM X mid d pc' vs r sc rf ar al P) : gM X mid d pc vs (.int x :: r) sc rf ar al P := by
  subst hp
  intro lv hv
  refine gT_st hX hi rfl ?_
  simp only [j_tx, hb]
  exact ⟨fun z => h1 z lv hv, fun z => h2 z lv hv⟩
theorem gt_ic_eq {x y : Int32} {o : Int} {t : Nat} (hX : j_LK (g_n X) (g_L X)) (hi : g_co X mid pc = some (.if_icmp .eq o)) (hb : j_br pc o = some t) (hp : pc + 3 = pc') (h1 : x = y → gM X mid d t vs r sc rf ar al P) (h2 : ¬ (x = y) → gM X mid d pc' vs r sc rf ar al P) : gM X mid d pc vs (.int y :: .int x :: r) sc rf ar al P := by
  subst hp
  intro lv hv
  refine gT_st hX hi rfl ?_
  simp only [j_tx, hb]
  exact ⟨fun z => h1 z lv hv, fun z => h2 z lv hv⟩
theorem gt_ic_ne {x y : Int32} {o : Int} {t : Nat} (hX : j_LK (g_n X) (g_L X)) (hi : g_co X mid pc = some (.if_icmp .ne o)) (hb : j_br pc o = some t) (hp : pc + 3 = pc') (h1 : x = y → gM X mid d pc' vs r sc rf ar al P) (h2 : ¬ x = y → gM X mid d t vs r sc rf ar al P) : gM X mid d pc vs (.int y :: .int x :: r) sc rf ar al P := by
  subst hp
  intro lv hv
  refine gT_st hX hi rfl ?_
  simp only [j_tx, hb]
  refine ⟨fun z => h2 z lv hv, fun z => ?_⟩
  by_cases e : x = y
  · exact h1 e lv hv
  · exact absurd e z
theorem gt_ic_lt {x y : Int32} {o : Int} {t : Nat} (hX : j_LK (g_n X) (g_L X)) (hi : g_co X mid pc = some (.if_icmp .lt o)) (hb : j_br pc o = some t) (hp : pc + 3 = pc') (h1 : x < y → gM X mid d t vs r sc rf ar al P) (h2 : ¬ (x < y) → gM X mid d pc' vs r sc rf ar al P) : gM X mid d pc vs (.int y :: .int x :: r) sc rf ar al P := by
  subst hp
  intro lv hv
  refine gT_st hX hi rfl ?_
  simp only [j_tx, hb]
  exact ⟨fun z => h1 z lv hv, fun z => h2 z lv hv⟩
theorem gt_ic_ge {x y : Int32} {o : Int} {t : Nat} (hX : j_LK (g_n X) (g_L X)) (hi : g_co X mid pc = some (.if_icmp .ge o)) (hb : j_br pc o = some t) (hp : pc + 3 = pc') (h1 : y ≤ x → gM X mid d t vs r sc rf ar al P) (h2 : ¬ (y ≤ x) → gM X mid d pc' vs r sc rf ar al P) : gM X mid d pc vs (.int y :: .int x :: r) sc rf ar al P := by
  subst hp
  intro lv hv
  refine gT_st hX hi rfl ?_
  simp only [j_tx, hb]
  exact ⟨fun z => h1 z lv hv, fun z => h2 z lv hv⟩
theorem gt_ic_gt {x y : Int32} {o : Int} {t : Nat} (hX : j_LK (g_n X) (g_L X)) (hi : g_co X mid pc = some (.if_icmp .gt o)) (hb : j_br pc o = some t) (hp : pc + 3 = pc') (h1 : y < x → gM X mid d t vs r sc rf ar al P) (h2 : ¬ (y < x) → gM X mid d pc' vs r sc rf ar al P) : gM X mid d pc vs (.int y :: .int x :: r) sc rf ar al P := by
  subst hp
  intro lv hv
  refine gT_st hX hi rfl ?_
  simp only [j_tx, hb]
  exact ⟨fun z => h1 z lv hv, fun z => h2 z lv hv⟩
theorem gt_ic_le {x y : Int32} {o : Int} {t : Nat} (hX : j_LK (g_n X) (g_L X)) (hi : g_co X mid pc = some (.if_icmp .le o)) (hb : j_br pc o = some t) (hp : pc + 3 = pc') (h1 : x ≤ y → gM X mid d t vs r sc rf ar al P) (h2 : ¬ (x ≤ y) → gM X mid d pc' vs r sc rf ar al P) : gM X mid d pc vs (.int y :: .int x :: r) sc rf ar al P := by
  subst hp
  intro lv hv
  refine gT_st hX hi rfl ?_
  simp only [j_tx, hb]
  exact ⟨fun z => h1 z lv hv, fun z => h2 z lv hv⟩
theorem gt_get {x a ci k t : Nat} {v : Int32} (hX : j_LK (g_n X) (g_L X)) (hi : g_co X mid pc = some (.getfield x)) (hf : g_fl X mid x = some (ci, k, t)) (hs : (g_L X).1 a = .inl ci) (hn : Nat.blt k ((g_L X).2.2.1 ci) = true) (hk : (g_L X).2.2.2 ci k = false) (he : sc a k = v) (hp : pc + 3 = pc') (h : gM X mid d pc' vs (.int v :: r) sc rf ar al P) : gM X mid d pc vs (.ref a :: r) sc rf ar al P := by
  subst hp
  subst he
  intro lv hv
  refine gT_st hX hi rfl ?_
  simp only [j_tx, hf]
  refine ⟨hs, Nat.le_of_ble_eq_true hn, ?_⟩
  rw [hk]
  exact h lv hv
theorem gt_getA {x a ci k t b : Nat} (hX : j_LK (g_n X) (g_L X)) (hi : g_co X mid pc = some (.getfield x)) (hf : g_fl X mid x = some (ci, k, t)) (hs : (g_L X).1 a = .inl ci) (hn : Nat.blt k ((g_L X).2.2.1 ci) = true) (hk : (g_L X).2.2.2 ci k = true) (hb : rf a k = b) (hp : pc + 3 = pc') (h : gM X mid d pc' vs (.ref b :: r) sc rf ar al P) : gM X mid d pc vs (.ref a :: r) sc rf ar al P := by
  subst hp
  subst hb
  intro lv hv
  refine gT_st hX hi rfl ?_
  simp only [j_tx, hf]
  refine ⟨hs, Nat.le_of_ble_eq_true hn, ?_⟩
  rw [hk]
  exact h lv hv
theorem gt_tsw {x : Int32} {dd lo hh : Int} {os : Array Int} {td : Nat} (hX : j_LK (g_n X) (g_L X)) (hi : g_co X mid pc = some (.tableswitch dd lo hh os)) (hl : hh = lo + os.size - 1) (hb : j_br pc dd = some td) (hd : (∀ j : Nat, j < os.size → ¬ x.toInt = lo + j) → gM X mid d td vs r sc rf ar al P) (hk : ∀ (j : Nat) (o : Int), os[j]? = some o → x.toInt = lo + j → ∃ t, j_br pc o = some t ∧ gM X mid d t vs r sc rf ar al P) : gM X mid d pc vs (.int x :: r) sc rf ar al P := by
  intro lv hv
  refine gT_st hX hi rfl ?_
  simp only [j_tx, hb]
  refine ⟨fun z => hd (fun j hj e => by omega) lv hv, fun z => ?_⟩
  have hj : (x.toInt - lo).toNat < os.size := by omega
  have e1 : os[(x.toInt - lo).toNat]? = some os[(x.toInt - lo).toNat] := Array.getElem?_eq_getElem hj
  obtain ⟨t, h1, h2⟩ := hk _ _ e1 (by omega)
  simp only [e1, h1]
  exact h2 lv hv
end GMS
