/-! WHAT THE SEARCH ANSWERS: how deep, which codes, how many. -/
/-- each entry but the first comes from one ahead of it, one deeper -/
def bOk (n0 : Nat) (s : bS) : Prop := (∀ i e, s.1[i]? = some e → e.2.2.2 ≤ n0 ∧ ((i = 0 ∧ e.2.2.2 = 0) ∨ ∃ j f, j < i ∧ e.2.1 = nI j ∧ s.1[j]? = some f ∧ e.2.2.2 = f.2.2.2 + 1)) ∧ ∀ i, s.2.1 = some i → i < s.1.length
section OK
variable {cn : (Nat → Int32) → Nat → Bool} {st : (Nat → Int32) → Nat → Nat → Int32} {bd : (Nat → Int32) → Bool} {wh : Bool} {most n0 : Nat}
theorem bC_ok {s : bS} {q c : Nat} {e : eT} (h : bOk n0 s) (he : s.1[q]? = some e) (hd : e.2.2.2 < n0) : bOk n0 (bC cn st bd most q e.1 e.2.2.2 c s) ∧ (bC cn st bd most q e.1 e.2.2.2 c s).1[q]? = some e := by
  have ql : q < s.1.length := (List.getElem?_eq_some_iff.mp he).1
  unfold bC
  split
  · split
    · exact ⟨h, he⟩
    · split
      · exact ⟨h, he⟩
      · refine ⟨⟨fun i f hf => ?_, fun i hi => ?_⟩, by rw [List.getElem?_append_left ql]; exact he⟩
        · have hf : (s.1 ++ [(st e.1 c, nI q, nI c, e.2.2.2 + 1)])[i]? = some f := hf
          by_cases z : i < s.1.length
          · rw [List.getElem?_append_left z] at hf
            obtain ⟨a, b⟩ := h.1 i f hf
            refine ⟨a, ?_⟩
            rcases b with b | ⟨j, k, b1, b2, b3, b4⟩
            · exact Or.inl b
            · exact Or.inr ⟨j, k, b1, b2, by rw [List.getElem?_append_left (by omega)]; exact b3, b4⟩
          · rw [List.getElem?_append_right (by omega)] at hf
            have ci : i = s.1.length := by
              have := (List.getElem?_eq_some_iff.mp hf).1
              simp at this
              omega
            subst ci
            simp at hf
            subst hf
            exact ⟨hd, Or.inr ⟨q, e, ql, rfl, by rw [List.getElem?_append_left ql]; exact he, rfl⟩⟩
        · show i < (s.1 ++ _).length
          rw [List.length_append]
          simp only [List.length_cons, List.length_nil]
          have hi : (if s.2.1 = none ∧ bd (st e.1 c) = true then some s.1.length else s.2.1) = some i := hi
          split at hi
          · cases hi; omega
          · have := h.2 i hi; omega
  · exact ⟨h, he⟩
theorem bIn_ok {q : Nat} {e : eT} (hd : e.2.2.2 < n0) : ∀ (r c : Nat) (s : bS), bOk n0 s → s.1[q]? = some e → bOk n0 (bIn cn st bd wh most q e.1 e.2.2.2 r c s)
  | 0, _, _, h, _ => h
  | r + 1, c, s, h, he => by
    obtain ⟨a, b⟩ := bC_ok (cn := cn) (st := st) (bd := bd) (most := most) (c := c) h he hd
    unfold bIn
    split
    · exact a
    · exact bIn_ok hd r (c + 1) _ a b
theorem bGo_ok : ∀ (f q : Nat) (s : bS), bOk n0 s → bOk n0 (bGo cn st bd wh most n0 f q s)
  | 0, _, _, h => h
  | f + 1, q, s, h => by
    unfold bGo
    split
    · exact h
    · rename_i e he
      split
      · exact h
      · split
        · rename_i hd
          exact bGo_ok f (q + 1) _ (bIn_ok hd 13 0 s h he)
        · exact bGo_ok f (q + 1) s h
theorem bRs_ok {B : Nat → Int32} : bOk n0 (bRs cn st bd B wh most n0) := by
  refine bGo_ok 601 0 _ ⟨fun i e he => ?_, fun i hi => ?_⟩
  · have he : ([((B, -1, -1, 0) : eT)])[i]? = some e := he
    have := List.mem_of_getElem? he
    simp at this
    have i0 := (List.getElem?_eq_some_iff.mp he).1
    simp at i0
    rw [this]
    exact ⟨Nat.zero_le _, Or.inl ⟨i0, rfl⟩⟩
  · have hi : (if bd B = true then some 0 else none) = some i := hi
    split at hi
    · cases hi; show 0 < 1; omega
    · cases hi
/-- a search that stops at the first, and one that doesn't -/
def bRl (s1 s2 : bS) : Prop := (s1 = s2 ∧ s2.2.1 = none) ∨ ∃ i, s1.2.1 = some i ∧ s2.2.1 = some i ∧ s1.2.2 = false ∧ ∃ t, s2.1 = s1.1 ++ t
theorem bC_kp {s : bS} {q d c i : Nat} {P : Nat → Int32} (h : s.2.1 = some i) : (bC cn st bd most q P d c s).2.1 = some i := by
  unfold bC
  split
  · split
    · exact h
    · split
      · exact h
      · show (if s.2.1 = none ∧ _ then _ else s.2.1) = _
        rw [if_neg (fun z => by rw [h] at z; cases z.1)]
        exact h
  · exact h
theorem bIn_kp {q d i : Nat} {P : Nat → Int32} : ∀ (r c : Nat) (s : bS), s.2.1 = some i → (bIn cn st bd wh most q P d r c s).2.1 = some i
  | 0, _, _, h => h
  | r + 1, c, s, h => by
    have a := bC_kp (cn := cn) (st := st) (bd := bd) (most := most) (q := q) (d := d) (c := c) (P := P) h
    unfold bIn
    split
    · exact a
    · exact bIn_kp r (c + 1) _ a
theorem bGo_kp {i : Nat} : ∀ (f q : Nat) (s : bS), s.2.1 = some i → (bGo cn st bd wh most n0 f q s).2.1 = some i ∧ ∃ t, (bGo cn st bd wh most n0 f q s).1 = s.1 ++ t
  | 0, _, _, h => ⟨h, [], by simp [bGo]⟩
  | f + 1, q, s, h => by
    unfold bGo
    split
    · exact ⟨h, [], by simp⟩
    · split
      · exact ⟨h, [], by simp⟩
      · split
        · rename_i e _ _ _
          obtain ⟨a, t, b⟩ := bGo_kp f (q + 1) _ (bIn_kp (cn := cn) (st := st) (bd := bd) (wh := wh) (most := most) (q := q) (d := e.2.2.2) (P := e.1) 13 0 s h)
          obtain ⟨t2, t3, -⟩ := bIn_app (cn := cn) (st := st) (bd := bd) (wh := wh) (most := most) (q := q) (d := e.2.2.2) (P := e.1) (r := 13) (c := 0) (s := s)
          exact ⟨a, t2 ++ t, by rw [b, t3, List.append_assoc]⟩
        · exact bGo_kp f (q + 1) s h
theorem bC_sp {s : bS} {q d c i : Nat} {P : Nat → Int32} (h1 : s.2.1 = none) (h2 : s.2.2 = false) (h : (bC cn st bd most q P d c s).2.1 = some i) : (bC cn st bd most q P d c s).2.2 = false := by
  revert h
  unfold bC
  split
  · split
    · intro; exact h2
    · split
      · intro h
        have h : s.2.1 = some i := h
        rw [h1] at h
        cases h
      · intro; exact h2
  · intro; exact h2
theorem bOv_n {s : bS} (h1 : s.2.1 = none) (h2 : s.2.2 = false) : ¬ bOv wh s = true := by
  unfold bOv
  rw [h1, h2]
  simp
theorem bIn_rl {q d : Nat} {P : Nat → Int32} : ∀ (r c : Nat) (s : bS), s.2.1 = none → s.2.2 = false → bRl (bIn cn st bd false most q P d r c s) (bIn cn st bd true most q P d r c s)
  | 0, _, _, h, _ => Or.inl ⟨rfl, h⟩
  | r + 1, c, s, h, h2 => by
    unfold bIn
    rcases ho : (bC cn st bd most q P d c s).2.1 with _ | i
    · rcases hb : (bC cn st bd most q P d c s).2.2 with _ | _
      · rw [if_neg (bOv_n ho hb), if_neg (bOv_n ho hb)]
        exact bIn_rl r (c + 1) _ ho hb
      · have o1 : ∀ w, bOv w (bC cn st bd most q P d c s) = true := fun w => by unfold bOv; rw [hb]; rfl
        rw [if_pos (o1 _), if_pos (o1 _)]
        exact Or.inl ⟨rfl, ho⟩
    · have hb := bC_sp h h2 ho
      rw [if_pos (by unfold bOv; rw [ho]; simp), if_neg (by unfold bOv; rw [hb]; simp)]
      obtain ⟨t, t1, -⟩ := bIn_app (cn := cn) (st := st) (bd := bd) (wh := true) (most := most) (q := q) (d := d) (P := P) (r := r) (c := c + 1) (s := bC cn st bd most q P d c s)
      exact Or.inr ⟨i, ho, bIn_kp r (c + 1) _ ho, hb, t, t1⟩
theorem bGo_rl : ∀ (f q : Nat) (s : bS), s.2.1 = none → s.2.2 = false → bRl (bGo cn st bd false most n0 f q s) (bGo cn st bd true most n0 f q s)
  | 0, _, _, h, _ => Or.inl ⟨rfl, h⟩
  | f + 1, q, s, h, h2 => by
    unfold bGo
    rcases he : s.1[q]? with _ | e
    · exact Or.inl ⟨rfl, h⟩
    · show bRl (if bOv false s = true then s else _) (if bOv true s = true then s else _)
      rw [if_neg (bOv_n h h2), if_neg (bOv_n h h2)]
      by_cases d : e.2.2.2 < n0
      · rw [if_pos d, if_pos d]
        rcases bIn_rl (cn := cn) (st := st) (bd := bd) (most := most) (q := q) (d := e.2.2.2) (P := e.1) 13 0 s h h2 with ⟨a, b⟩ | ⟨i, a1, a2, a3, t, a4⟩
        · rw [a]
          rcases hb : (bIn cn st bd true most q e.1 e.2.2.2 13 0 s).2.2 with _ | _
          · exact bGo_rl f (q + 1) _ b hb
          · have o1 : ∀ w, bOv w (bIn cn st bd true most q e.1 e.2.2.2 13 0 s) = true := fun w => by unfold bOv; rw [hb]; rfl
            rw [bGo_ov (o1 _), bGo_ov (o1 _)]
            exact Or.inl ⟨rfl, b⟩
        · rw [bGo_ov (wh := false) (show bOv false (bIn cn st bd false most q e.1 e.2.2.2 13 0 s) = true by unfold bOv; rw [a1]; simp)]
          obtain ⟨k1, t2, k2⟩ := bGo_kp (cn := cn) (st := st) (bd := bd) (wh := true) (most := most) (n0 := n0) f (q + 1) _ a2
          exact Or.inr ⟨i, a1, k1, a3, t ++ t2, by rw [k2, a4, List.append_assoc]⟩
      · rw [if_neg d, if_neg d]
        exact bGo_rl f (q + 1) s h h2
theorem bRs_rl {B : Nat → Int32} : bRl (bRs cn st bd B false most n0) (bRs cn st bd B true most n0) := by
  unfold bRs bSt
  by_cases b : bd B = true
  · rw [if_pos b, bGo_ov (wh := false) (by unfold bOv; simp)]
    obtain ⟨k1, t, k2⟩ := bGo_kp (cn := cn) (st := st) (bd := bd) (wh := true) (most := most) (n0 := n0) (i := 0) 601 0 ([(B, -1, -1, 0)], some 0, false) rfl
    exact Or.inr ⟨0, rfl, k1, rfl, t, k2⟩
  · rw [if_neg b]
    exact bGo_rl 601 0 _ rfl rfl
end OK
def bPar (E : List eT) (i : Nat) : Nat := match E[i]? with
  | some e => iN e.2.1
  | none => 0
def bAnc (E : List eT) : Nat → Nat → Nat
  | 0, i => i
  | t + 1, i => bAnc E t (bPar E i)
def bCd (E : List eT) (i : Nat) : Int32 := match E[i]? with
  | some e => e.2.2.1
  | none => -1
def aDp (s : bS) : Int32 := match s.2.1 with
  | none => if s.2.2 = true then -2 else -1
  | some i => match s.1[i]? with
    | some e => nI e.2.2.2
    | none => 0
def aCd (s : bS) (k : Int32) : Int32 := match s.2.1 with
  | none => -1
  | some i => match s.1[i]? with
    | some e => if k < 0 ∨ nI e.2.2.2 ≤ k then -1 else bCd s.1 (bAnc s.1 (e.2.2.2 - 1 - iN k) i)
    | none => -1
/-- what answers are taken from -/
def cAn (s : bS) (sc car : jSc) : Prop := (∀ i e, s.1[i]? = some e → car 789 i = e.2.1 ∧ car 790 i = e.2.2.1) ∧ bOk 8 s ∧ s.1.length ≤ 600 ∧ sc 773 13 = fi1 s.2.1 ∧ (s.2.1 = none → sc 773 1 = if s.2.2 = true then 1 else 0)
section AN
variable {sc car : jSc} {mr : Nat → Nat} {al : jAl} {s : bS}
theorem c_dep (h : cAn s sc car) : ∀ (d i nn k : Nat) (x2 : Int32) (e : eT), s.1[i]? = some e → e.2.2.2 = d → k + d ≤ 8 → d < nn → xF_292_7 nn x2 (nI i) (nI k) sc mr car al = some (x2 + nI d, sc, mr, car, al) := by
  intro d
  induction d with
  | zero =>
    intro i nn k x2 e he hd hk hn
    obtain ⟨nn, rfl⟩ : ∃ j, nn = j + 1 := ⟨nn - 1, by omega⟩
    have i0 : i = 0 := by
      rcases (h.2.1.1 i e he).2 with ⟨a, -⟩ | ⟨j, f, -, -, -, a⟩
      · exact a
      · omega
    subst i0
    have x0 : x2 + nI 0 = x2 := by show x2 + 0 = x2; simp
    unfold xF_292_7
    rw [x0]
    split
    · rfl
    · rw [if_pos (show nI 0 ≤ 0 by decide)]
  | succ d ih =>
    intro i nn k x2 e he hd hk hn
    obtain ⟨nn, rfl⟩ : ∃ j, nn = j + 1 := ⟨nn - 1, by omega⟩
    obtain ⟨j, f, j1, j2, j3, j4⟩ : ∃ j f, j < i ∧ e.2.1 = nI j ∧ s.1[j]? = some f ∧ e.2.2.2 = f.2.2.2 + 1 := by
      rcases (h.2.1.1 i e he).2 with ⟨-, a⟩ | a
      · omega
      · exact a
    have il : i < s.1.length := (List.getElem?_eq_some_iff.mp he).1
    have l6 := h.2.2.1
    unfold xF_292_7
    rw [if_neg (show ¬ (8 : Int32) ≤ nI k from nI_ge (b := 8) (by omega) (by decide)), if_neg (nI_nle (by omega) (by omega)), if_pos (iB_nI (show i < 600 by omega) (by decide)), iN_nI (by omega), (h.1 i e he).1, j2, nI_1, ih j nn (k + 1) _ f j3 (by omega) (by omega) (by omega)]
    rw [show x2 + 1 + nI d = x2 + nI (d + 1) by rw [show d + 1 = 1 + d by omega, ← nI_add]; show x2 + 1 + nI d = x2 + (1 + nI d); rw [Int32.add_assoc]]
theorem c_ans (h : cAn s sc car) : xF_286 sc mr car al = some (aDp s, sc, mr, car, al) := by
  unfold xF_286 aDp
  rw [h.2.2.2.1]
  rcases ho : s.2.1 with _ | i
  · rw [if_neg (show ¬ (0 : Int32) ≤ fi1 none by decide), h.2.2.2.2 ho]
    rcases s.2.2 with _ | _ <;> rfl
  · have il := h.2.1.2 i ho
    have l6 := h.2.2.1
    obtain ⟨e, he⟩ : ∃ e, s.1[i]? = some e := ⟨s.1[i], List.getElem?_eq_getElem il⟩
    have d8 := (h.2.1.1 i e he).1
    rw [if_pos (show (0 : Int32) ≤ fi1 (some i) from nI_pos' (by omega))]
    unfold xF_292
    have := c_dep (mr := mr) (al := al) h e.2.2.2 i oF 0 0 e he rfl (by omega) (by unfold oF; omega)
    have this : xF_292_7 oF (0 : Int32) (fi1 (some i)) (0 : Int32) sc mr car al = _ := this
    rw [this, ob5]
    show _ = some ((match s.1[i]? with | some e => nI e.2.2.2 | none => 0), _)
    rw [he]
    show some (0 + nI e.2.2.2, _) = some (nI e.2.2.2, _)
    rw [Int32.zero_add]
theorem c_cod (h : cAn s sc car) {k : Int32} : xF_287 k sc mr car al = some (aCd s k, sc, mr, car, al) := by
  unfold xF_287 aCd
  rw [h.2.2.2.1]
  rcases ho : s.2.1 with _ | i
  · rw [if_neg (show ¬ (0 : Int32) ≤ fi1 none by decide)]
    unfold xF_287_19
    by_cases z : k < 0
    · rw [if_pos z]
    · rw [if_neg z, if_neg z]
  · have il := h.2.1.2 i ho
    have l6 := h.2.2.1
    obtain ⟨e, he⟩ : ∃ e, s.1[i]? = some e := ⟨s.1[i], List.getElem?_eq_getElem il⟩
    have d8 := (h.2.1.1 i e he).1
    rw [if_pos (show (0 : Int32) ≤ fi1 (some i) from nI_pos' (by omega))]
    unfold xF_292
    have := c_dep (mr := mr) (al := al) h e.2.2.2 i oF 0 0 e he rfl (by omega) (by unfold oF; omega)
    have this : xF_292_7 oF (0 : Int32) (fi1 (some i)) (0 : Int32) sc mr car al = _ := this
    rw [this, ob5, Int32.zero_add]
    show _ = some ((match s.1[i]? with | some e => if k < 0 ∨ nI e.2.2.2 ≤ k then -1 else bCd s.1 (bAnc s.1 (e.2.2.2 - 1 - iN k) i) | none => -1), _)
    rw [he]
    show _ = some ((if k < 0 ∨ nI e.2.2.2 ≤ k then -1 else bCd s.1 (bAnc s.1 (e.2.2.2 - 1 - iN k) i)), _)
    unfold xF_287_19
    by_cases z : k < 0
    · rw [if_pos z, if_pos (Or.inl z)]
    · obtain ⟨kk, k1, rfl⟩ := nI_of z
      rw [if_neg z, iN_nI k1]
      by_cases y : kk < e.2.2.2
      · rw [if_pos (nI_lt y (by omega)), if_neg (fun w => w.elim z (fun w => absurd w (nI_ge y (by omega)))), nI_p1 (by omega), h.2.2.2.1, ho]
        have go : ∀ t i nn f, s.1[i]? = some f → f.2.2.2 = kk + 1 + t → t < nn → xF_287_41 nn (nI kk) (nI i) (nI (kk + t)) sc mr car al = some (bCd s.1 (bAnc s.1 t i), sc, mr, car, al) := by
          intro t
          induction t with
          | zero =>
            intro i nn f hf h1 h2
            obtain ⟨nn, rfl⟩ : ∃ j, nn = j + 1 := ⟨nn - 1, by omega⟩
            have il := (List.getElem?_eq_some_iff.mp hf).1
            unfold xF_287_41
            rw [if_pos (nI_le (by omega) (by omega)), if_pos (iB_nI (show i < 600 by omega) (by decide)), iN_nI (by omega), (h.1 i f hf).2]
            unfold bAnc bCd
            rw [hf]
          | succ t ih =>
            intro i nn f hf h1 h2
            obtain ⟨nn, rfl⟩ : ∃ j, nn = j + 1 := ⟨nn - 1, by omega⟩
            have il := (List.getElem?_eq_some_iff.mp hf).1
            have f8 := (h.2.1.1 i f hf).1
            obtain ⟨j, f2, j1, j2, j3, j4⟩ : ∃ j g, j < i ∧ f.2.1 = nI j ∧ s.1[j]? = some g ∧ f.2.2.2 = g.2.2.2 + 1 := by
              rcases (h.2.1.1 i f hf).2 with ⟨-, a⟩ | a
              · omega
              · exact a
            have em : nI (kk + (t + 1)) + (-1 : Int32) = nI (kk + t) := by
              rw [← nI_pred (kk + t)]
              show nI (kk + t + 1) + (-1) = nI (kk + t + 1) - 1
              rw [Int32.sub_eq_add_neg]
            unfold xF_287_41
            rw [if_neg (nI_ge (by omega) (by omega)), if_pos (iB_nI (show i < 600 by omega) (by decide)), iN_nI (by omega), (h.1 i f hf).1, j2, em, ih j nn f2 j3 (by omega) (by omega)]
            show _ = some (bCd s.1 (bAnc s.1 t (bPar s.1 i)), _)
            unfold bPar
            rw [hf]
            show _ = some (bCd s.1 (bAnc s.1 t (iN f.2.1)), _)
            rw [j2, iN_nI (by omega)]
        have := go (e.2.2.2 - 1 - kk) i oF e he (by omega) (by unfold oF; omega)
        rw [show kk + (e.2.2.2 - 1 - kk) = e.2.2.2 - 1 by omega] at this
        exact this
      · rw [if_neg (nI_nlt (by omega) k1), if_pos (Or.inr (nI_le (by omega) k1))]
end AN
