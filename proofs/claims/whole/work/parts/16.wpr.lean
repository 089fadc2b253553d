/-! The computed precondition of a stretch of a method (j_wp), up to returns and cut places, calls by contracts; and its soundness. -/
section JX
variable (n0 : List Nat) (co : Nat → Nat → Option Instr) (fl : Nat → Nat → Option (Nat × Nat × Nat)) (cn : Nat → Nat → Option Int32) (nt : Nat → Nat → Nat) (ml : Nat → Nat → Option (Nat × Nat × Nat × Nat)) (mx rt : Nat → Nat)
theorem j_run_mono : ∀ (N mid d pc : Nat) (lv : jV) (st : List Value) (f : jM) (x : Option Value × jM), j_run n0 co fl cn nt ml mx rt N mid d pc lv st f = some x → j_run n0 co fl cn nt ml mx rt (N + 1) mid d pc lv st f = some x := by
  intro N
  induction N with
  | zero => intro mid d pc lv st f x h; simp [j_run] at h
  | succ N ih =>
    intro mid d pc lv st f x h
    rw [j_run] at h
    rw [j_run]
    split at h
    · cases h
    · rename_i i hi
      try simp only [hi]
      split at h
      · rename_i r hr
        try simp only [hr]
        exact h
      · rename_i hr
        try simp only [hr]
        split at h
        · rename_i kd y hv
          try simp only [hv]
          split at h
          · rename_i kd' q na ci hq
            try simp only [hq]
            split at h
            · rename_i hc
              rw [if_pos hc]
              split at h
              · rename_i r1 f1 h1
                rw [ih _ _ _ _ _ _ _ h1]
                exact ih _ _ _ _ _ _ _ h
              · cases h
            · cases h
          · split at h
            · rename_i hc
              rw [if_pos hc]
              split at h
              · rename_i pc' lv' st' f2 hs
                try simp only [hs]
                exact ih _ _ _ _ _ _ _ h
              · cases h
            · cases h
        · rename_i hv
          try simp only [hv]
          split at h
          · rename_i pc' lv' st' f2 hs
            try simp only [hs]
            exact ih _ _ _ _ _ _ _ h
          · cases h
theorem j_run_le {N N' mid d pc : Nat} {lv : jV} {st : List Value} {f : jM} {x : Option Value × jM} (hN : N ≤ N') (h : j_run n0 co fl cn nt ml mx rt N mid d pc lv st f = some x) : j_run n0 co fl cn nt ml mx rt N' mid d pc lv st f = some x := by
  induction hN with
  | refl => exact h
  | step _ ih => exact j_run_mono n0 co fl cn nt ml mx rt _ _ _ _ _ _ _ _ ih
abbrev jPo : Type := Option Value → jSc → jRf → jSc → jAl → Prop
variable (L : jL)
/-- from here the method comes to its end, and there Post holds -/
def j_W (mid d pc : Nat) (lv : jV) (st : List Value) (sc : jSc) (rf : jRf) (ar : jSc) (al : jAl) (Post : jPo) : Prop := ∃ (N : Nat) (r : Option Value) (sc' : jSc) (rf' : jRf) (ar' : jSc) (al' : jAl), j_run n0 co fl cn nt ml mx rt N mid d pc lv st (j_lay L sc rf ar al) = some (r, j_lay L sc' rf' ar' al') ∧ Post r sc' rf' ar' al'
/-- a callee's precondition of Post -/
abbrev jCs : Type := Nat → List Value → jSc → jRf → jSc → jAl → jPo → Prop
def j_wp (cut : Nat → Bool) (cs : jCs) (Post : jPo) (K : Nat → jV → List Value → jSc → jRf → jSc → jAl → Prop) (mid : Nat) : Nat → Bool → Nat → jV → List Value → jSc → jRf → jSc → jAl → Prop
  | 0, _, _, _, _, _, _, _, _ => False
  | n + 1, b, pc, lv, st, sc, rf, ar, al =>
    if (b && cut pc) = true then K pc lv st sc rf ar al else
    match co mid pc with
    | none => False
    | some i =>
      match i with
      | .ireturn => (match st with
        | [.int v] => (rt mid = 1 ∨ (rt mid = 2 ∧ (v = 0 ∨ v = 1))) ∧ Post (some (.int v)) sc rf ar al
        | _ => False)
      | .lreturn => (match st with
        | [.long v] => rt mid = 3 ∧ Post (some (.long v)) sc rf ar al
        | _ => False)
      | .return_ => (match st with
        | [] => rt mid = 0 ∧ Post none sc rf ar al
        | _ => False)
      | .invokevirtual x => (match ml mid x with
        | some (0, q, na, ci) => (match st[na]? with
          | some (.ref a) => L.1 a = .inl ci ∧ (((st.drop (na + 1)).map fun v => v.category).sum ≤ 8 ∧ (lg_sl (st.take (na + 1)).reverse).length ≤ mx q ∧ mx q ≤ 22) ∧ cs q (st.take (na + 1)).reverse sc rf ar al (fun r sc' rf' ar' al' => j_wp cut cs Post K mid n true (pc + 3) lv (r.toList ++ st.drop (na + 1)) sc' rf' ar' al')
          | _ => False)
        | _ => False)
      | .invokestatic x => (match ml mid x with
        | none => j_tx L (mx mid) (fl mid) (cn mid) (nt mid) (.invokestatic x) pc lv st sc rf ar al (fun pc' lv' st' sc' rf' ar' al' => j_wp cut cs Post K mid n true pc' lv' st' sc' rf' ar' al')
        | some (1, q, na, _) => na ≤ st.length ∧ (((st.drop na).map fun v => v.category).sum ≤ 8 ∧ (lg_sl (st.take na).reverse).length ≤ mx q ∧ mx q ≤ 22) ∧ cs q (st.take na).reverse sc rf ar al (fun r sc' rf' ar' al' => j_wp cut cs Post K mid n true (pc + 3) lv (r.toList ++ st.drop na) sc' rf' ar' al')
        | _ => False)
      | i => j_tx L (mx mid) (fl mid) (cn mid) (nt mid) i pc lv st sc rf ar al (fun pc' lv' st' sc' rf' ar' al' => j_wp cut cs Post K mid n true pc' lv' st' sc' rf' ar' al')
theorem j_W_step (hL : j_LK n0 L) {mid d pc : Nat} {lv : jV} {st : List Value} {sc : jSc} {rf : jRf} {ar : jSc} {al : jAl} {Post : jPo} {i : Instr} (hi : co mid pc = some i) (h1 : j_ret (rt mid) i st = none) (h2 : j_inv i = none)
    {K : Nat → jV → List Value → jSc → jRf → jSc → jAl → Prop} (h : j_tx L (mx mid) (fl mid) (cn mid) (nt mid) i pc lv st sc rf ar al K) (k : ∀ pc' lv' st' sc' rf' ar' al', K pc' lv' st' sc' rf' ar' al' → j_W n0 co fl cn nt ml mx rt L mid d pc' lv' st' sc' rf' ar' al' Post) : j_W n0 co fl cn nt ml mx rt L mid d pc lv st sc rf ar al Post := by
  obtain ⟨pc', lv', st', sc', rf', ar', al', hs, hk⟩ := j_tx_ok (n0 := n0) hL h
  obtain ⟨N, r, sc2, rf2, ar2, al2, hr, hp⟩ := k _ _ _ _ _ _ _ hk
  refine ⟨N + 1, r, sc2, rf2, ar2, al2, ?_, hp⟩
  rw [j_run]
  simp only [hi, h1, h2, hs]
  exact hr
theorem j_W_nat (hL : j_LK n0 L) {mid d pc : Nat} {lv : jV} {st : List Value} {sc : jSc} {rf : jRf} {ar : jSc} {al : jAl} {Post : jPo} {x : Nat} (hd : 1 ≤ d) (hi : co mid pc = some (.invokestatic x)) (hm : ml mid x = none)
    {K : Nat → jV → List Value → jSc → jRf → jSc → jAl → Prop} (h : j_tx L (mx mid) (fl mid) (cn mid) (nt mid) (.invokestatic x) pc lv st sc rf ar al K) (k : ∀ pc' lv' st' sc' rf' ar' al', K pc' lv' st' sc' rf' ar' al' → j_W n0 co fl cn nt ml mx rt L mid d pc' lv' st' sc' rf' ar' al' Post) : j_W n0 co fl cn nt ml mx rt L mid d pc lv st sc rf ar al Post := by
  obtain ⟨pc', lv', st', sc', rf', ar', al', hs, hk⟩ := j_tx_ok (n0 := n0) hL h
  obtain ⟨N, r, sc2, rf2, ar2, al2, hr, hp⟩ := k _ _ _ _ _ _ _ hk
  refine ⟨N + 1, r, sc2, rf2, ar2, al2, ?_, hp⟩
  rw [j_run]
  simp only [hi, j_ret, j_inv, hm, if_pos hd, hs]
  exact hr
theorem j_W_call {mid d pc : Nat} {lv : jV} {st : List Value} {sc : jSc} {rf : jRf} {ar : jSc} {al : jAl} {Post : jPo} {i : Instr} {kd x q na ci : Nat} (hi : co mid pc = some i) (h1 : j_ret (rt mid) i st = none) (h2 : j_inv i = some (kd, x)) (h3 : ml mid x = some (kd, q, na, ci)) (h4 : ∀ f : jM, f = j_lay L sc rf ar al → j_can n0 f kd ci na (mx q) d st = true)
    (h : j_W n0 co fl cn nt ml mx rt L q (d - 1) 0 (j_av (st.take (na + 1 - kd)).reverse) [] sc rf ar al (fun r sc' rf' ar' al' => j_W n0 co fl cn nt ml mx rt L mid d (pc + 3) lv (r.toList ++ st.drop (na + 1 - kd)) sc' rf' ar' al' Post)) : j_W n0 co fl cn nt ml mx rt L mid d pc lv st sc rf ar al Post := by
  obtain ⟨N1, r1, sc1, rf1, ar1, al1, hr1, N2, r, sc2, rf2, ar2, al2, hr2, hp⟩ := h
  refine ⟨max N1 N2 + 1, r, sc2, rf2, ar2, al2, ?_, hp⟩
  rw [j_run]
  simp only [hi, h1, h2, h3]
  rw [if_pos ⟨trivial, h4 _ rfl⟩, j_run_le n0 co fl cn nt ml mx rt (Nat.le_max_left N1 N2) hr1]
  exact j_run_le n0 co fl cn nt ml mx rt (Nat.le_max_right N1 N2) hr2
set_option maxHeartbeats 4000000 in
theorem j_wp_ok (hL : j_LK n0 L) {cut : Nat → Bool} {cs : jCs} {Post : jPo} {K : Nat → jV → List Value → jSc → jRf → jSc → jAl → Prop} {mid d : Nat} (hd : 1 ≤ d)
    (hcs : ∀ (q : Nat) (vs : List Value) (sc : jSc) (rf : jRf) (ar : jSc) (al : jAl) (P : jPo), cs q vs sc rf ar al P → j_W n0 co fl cn nt ml mx rt L q (d - 1) 0 (j_av vs) [] sc rf ar al P)
    (hK : ∀ pc lv st sc rf ar al, K pc lv st sc rf ar al → j_W n0 co fl cn nt ml mx rt L mid d pc lv st sc rf ar al Post) :
    ∀ (n : Nat) (b : Bool) (pc : Nat) (lv : jV) (st : List Value) (sc : jSc) (rf : jRf) (ar : jSc) (al : jAl), j_wp co fl cn nt ml mx rt L cut cs Post K mid n b pc lv st sc rf ar al → j_W n0 co fl cn nt ml mx rt L mid d pc lv st sc rf ar al Post := by
  intro n
  induction n with
  | zero => intro b pc lv st sc rf ar al h; exact h.elim
  | succ n ih =>
    intro b pc lv st sc rf ar al h
    unfold j_wp at h
    split at h
    · exact hK _ _ _ _ _ _ _ h
    · split at h
      · exact h.elim
      · rename_i i hi
        split at h
        · split at h
          · rename_i v
            exact ⟨1, _, _, _, _, _, by rw [j_run]; simp only [hi, j_ret, if_pos h.1], h.2⟩
          · exact h.elim
        · split at h
          · rename_i v
            exact ⟨1, _, _, _, _, _, by rw [j_run]; simp only [hi, j_ret, if_pos h.1], h.2⟩
          · exact h.elim
        · split at h
          · exact ⟨1, _, _, _, _, _, by rw [j_run]; simp only [hi, j_ret, if_pos h.1], h.2⟩
          · exact h.elim
        · rename_i x
          split at h
          · rename_i q na ci hq
            split at h
            · rename_i a ha
              obtain ⟨g1, ⟨g2, g3, g4⟩, g5⟩ := h
              have g6 : na + 1 ≤ st.length := (List.getElem?_eq_some_iff.mp ha).1
              refine j_W_call n0 co fl cn nt ml mx rt L (kd := 0) hi rfl rfl hq ?_ ?_
              · intro f hf
                subst hf
                have e1 : (na + 1 - 0) = na + 1 := rfl
                simp only [j_can, Bool.and_eq_true, Bool.or_eq_true, decide_eq_true_eq, e1, j_rc, ha, j_lay_ob hL g1]
                exact ⟨⟨⟨⟨⟨hd, g6⟩, g2⟩, g3⟩, g4⟩, Or.inr ⟨trivial, rfl⟩⟩
              · obtain ⟨N, r, sc', rf', ar', al', z1, z2⟩ := hcs _ _ _ _ _ _ _ g5
                exact ⟨N, r, sc', rf', ar', al', z1, ih _ _ _ _ _ _ _ _ z2⟩
            · exact h.elim
          · exact h.elim
        · rename_i x
          split at h
          · rename_i hq
            exact j_W_nat n0 co fl cn nt ml mx rt L hL hd hi hq h (fun pc' lv' st' sc' rf' ar' al' hk => ih _ _ _ _ _ _ _ _ hk)
          · rename_i q na ci hq
            obtain ⟨g1, ⟨g2, g3, g4⟩, g5⟩ := h
            refine j_W_call n0 co fl cn nt ml mx rt L (kd := 1) hi rfl rfl hq ?_ ?_
            · intro f hf
              subst hf
              have e1 : (na + 1 - 1) = na := by omega
              simp only [j_can, Bool.and_eq_true, Bool.or_eq_true, decide_eq_true_eq, e1]
              exact ⟨⟨⟨⟨⟨hd, g1⟩, g2⟩, g3⟩, g4⟩, Or.inl trivial⟩
            · obtain ⟨N, r, sc', rf', ar', al', z1, z2⟩ := hcs _ _ _ _ _ _ _ g5
              exact ⟨N, r, sc', rf', ar', al', z1, ih _ _ _ _ _ _ _ _ z2⟩
          · exact h.elim
        · rename_i n1 n2 n3 n4 n5
          refine j_W_step n0 co fl cn nt ml mx rt L hL hi ?_ ?_ h (fun pc' lv' st' sc' rf' ar' al' hk => ih _ _ _ _ _ _ _ _ hk)
          · cases i <;> first | rfl | exact (n1 rfl).elim | exact (n2 rfl).elim | exact (n3 rfl).elim
          · cases i <;> first | rfl | exact (n4 _ rfl).elim | exact (n5 _ rfl).elim
end JX
