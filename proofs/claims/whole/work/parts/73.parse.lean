/-! PARSING: values as rows of orders (an order and its mark), what they come to, what they read. -/
abbrev oL : Type := List (Nat × Int32)
abbrev oR : Type := (Nat × Nat) ⊕ (oL × Nat)
def p_bd (r : oR) (f : oL → Nat → oR) : oR := match r with
  | .inl e => .inl e
  | .inr (os, q) => f os q
theorem p_bd_r {r : oR} {f : oL → Nat → oR} {os : oL} {q : Nat} (h : p_bd r f = .inr (os, q)) : ∃ os1 q1, r = .inr (os1, q1) ∧ f os1 q1 = .inr (os, q) := by
  rcases r with e | ⟨os1, q1⟩
  · cases h
  · exact ⟨os1, q1, rfl, h⟩
theorem p_bd_l {r : oR} {f : oL → Nat → oR} {a b : Nat} (h : p_bd r f = .inl (a, b)) : r = .inl (a, b) ∨ ∃ os1 q1, r = .inr (os1, q1) ∧ f os1 q1 = .inl (a, b) := by
  rcases r with e | ⟨os1, q1⟩
  · exact Or.inl h
  · exact Or.inr ⟨os1, q1, rfl, h⟩
def p_sg (tx : Nat → Int32) (q : Nat) (c : Int32) (k : Nat → oR) : oR := if tx (x_nb tx q) = c then k (x_nb tx q + 1) else .inl (1, x_nb tx q)
def p_dg (tx : Nat → Int32) (q most : Nat) (k : Nat → Nat → oR) : oR := if ¬ x_dg (tx (x_nb tx q)) then .inl (1, x_nb tx q) else if x_dg (tx (x_nb tx q + 1)) ∨ most < iN (tx (x_nb tx q)) - 48 then .inl (2, x_nb tx q) else k (iN (tx (x_nb tx q)) - 48) (x_nb tx q + 1)
def p_lp (u : Nat → oR) (sg : Int32 → Option Nat) (tx : Nat → Int32) : Nat → oL → Nat → oR
  | 0, os, q => .inr (os, q)
  | m + 1, os, q => match sg (tx (x_nb tx q)) with
    | none => .inr (os, x_nb tx q)
    | some od => p_bd (u (x_nb tx q + 1)) (fun os2 q2 => p_lp u sg tx m (os ++ os2 ++ [(od, 0)]) q2)
def sg_mul (c : Int32) : Option Nat := if c = 42 then some 7 else if c = 47 then some 8 else none
def sg_add (c : Int32) : Option Nat := if c = 43 then some 5 else if c = 45 then some 6 else none
/-- an open bracket at q: none if no more may stand open -/
def p_op (V : Option (Nat → oR)) (q : Nat) (k : (Nat → oR) → oR) : oR := match V with
  | none => .inl (3, q)
  | some V => k V
/-- a unit that is no number and no name; V: values within one more bracket, none if no more may stand open -/
def p_uw (V : Option (Nat → oR)) (tx : Nat → Int32) (q : Nat) : oR :=
  if x_is tx (x_nb tx q) w_got then .inr ([(2, 0)], x_we tx (x_nb tx q)) else
  if x_is tx (x_nb tx q) w_far then p_dg tx (x_we tx (x_nb tx q)) 3 (fun d q2 => .inr ([(3, nI d)], q2)) else
  if x_is tx (x_nb tx q) w_least ∨ x_is tx (x_nb tx q) w_most then
    (if tx (x_nb tx (x_we tx (x_nb tx q))) = 40 then
      p_op V (x_nb tx (x_we tx (x_nb tx q))) (fun V => p_bd (V (x_nb tx (x_we tx (x_nb tx q)) + 1)) (fun os1 q3 => p_sg tx q3 44 (fun q4 => p_bd (V q4) (fun os2 q5 => p_sg tx q5 41 (fun q6 => .inr (os1 ++ os2 ++ [(if x_is tx (x_nb tx q) w_least then 9 else 10, 0)], q6))))))
    else .inl (1, x_nb tx (x_we tx (x_nb tx q)))) else
  if tx (x_nb tx q) = 40 then p_op V (x_nb tx q) (fun V => p_bd (V (x_nb tx q + 1)) (fun os q3 => p_sg tx q3 41 (fun q4 => .inr (os, q4)))) else .inl (1, x_nb tx q)
def p_un (V : Option (Nat → oR)) (tx : Nat → Int32) (q : Nat) : oR :=
  if x_dg (tx (x_nb tx q)) then (if x_nu tx (x_nb tx q) ≤ 999 then .inr ([(0, nI (x_nu tx (x_nb tx q)))], x_de tx (x_nb tx q)) else .inl (2, x_nb tx q)) else
  match x_le tx (x_nb tx q) with
  | some l => .inr ([(1, nI l)], x_nb tx q + 1)
  | none => p_uw V tx q
def p_pr (V : Option (Nat → oR)) (tx : Nat → Int32) (q : Nat) : oR := p_bd (p_un V tx q) (fun os q2 => p_lp (p_un V tx) sg_mul tx 700 os q2)
def p_s0 (V : Option (Nat → oR)) (tx : Nat → Int32) (q : Nat) : oR := p_bd (p_pr V tx q) (fun os q2 => p_lp (p_pr V tx) sg_add tx 700 os q2)
/-- a value, where k more brackets may be opened -/
def p_su (tx : Nat → Int32) : Nat → Nat → oR
  | 0 => p_s0 none tx
  | k + 1 => p_s0 (some (p_su tx k)) tx
def o_jo (o : Nat) (x y : Int32) : Int32 :=
  if o = 5 then x + y else if o = 6 then x - y else if o = 7 then x * y else if o = 8 then (if y = 0 then 0 else x / y) else if o = 9 then (if y < x then y else x) else if o = 10 then (if x < y then y else x) else
  if o = 11 then (if x < y then 1 else 0) else if o = 12 then (if y < x then 1 else 0) else if o = 13 then (if x = y then 1 else 0) else if o = 14 then x &&& y else x ||| y
def o_th (P : Nat → Int32) (gt : Int32) (st : List Int32) (o : Nat × Int32) : List Int32 :=
  if o.1 = 0 then o.2 :: st else if o.1 = 1 then P (iN o.2) :: st else if o.1 = 2 then gt :: st else if o.1 = 3 then P (33 + iN o.2) :: st else
  if o.1 = 4 then (match st with | x :: r => (1 - x) :: r | [] => []) else (match st with | y :: x :: r => o_jo o.1 x y :: r | s => s)
/-- the stack behind the orders -/
def o_ev (P : Nat → Int32) (gt : Int32) (os : oL) (st : List Int32) : List Int32 := os.foldl (o_th P gt) st
theorem o_ev_app {P : Nat → Int32} {gt : Int32} {os1 os2 : oL} {st : List Int32} : o_ev P gt (os1 ++ os2) st = o_ev P gt os2 (o_ev P gt os1 st) := List.foldl_append
def o_r1 (rd : Int32) (o : Nat × Int32) : Int32 := if o.1 = 1 then rd ||| (1 <<< (o.2 &&& 31)) else if o.1 = 3 then rd ||| (1 <<< ((16 + o.2) &&& 31)) else rd
/-- what was read behind the orders -/
def o_rd (os : oL) (rd : Int32) : Int32 := os.foldl o_r1 rd
def o_a1 (wn : Nat) (ar : jSc) (o : Nat × Int32) : jSc := if o.1 = 3 then j_u2 ar (718 + wn) (iN o.2) 1 else ar
def o_as (wn : Nat) (os : oL) (ar : jSc) : jSc := os.foldl (o_a1 wn) ar
/-- the same in the reference's state: only while it does and logs; rows that a window asked -/
def rdo (S : Nat → Int32) (os : oL) (rd : Int32) : Int32 := if S 22 = 0 ∨ S 23 = 0 then rd else o_rd os rd
def aro (S : Nat → Int32) (os : oL) (ar : jSc) : jSc := if S 22 = 0 ∨ S 23 = 0 ∨ S 29 = -1 then ar else o_as (iN (S 29)) os ar
theorem rdo_app {S : Nat → Int32} {os1 os2 : oL} {rd : Int32} : rdo S (os1 ++ os2) rd = rdo S os2 (rdo S os1 rd) := by
  unfold rdo o_rd
  split
  · rfl
  · exact List.foldl_append
theorem aro_app {S : Nat → Int32} {os1 os2 : oL} {ar : jSc} : aro S (os1 ++ os2) ar = aro S os2 (aro S os1 ar) := by
  unfold aro o_as
  split
  · rfl
  · exact List.foldl_append
theorem o_as_row {wn b : Nat} (hb : ∀ j, ¬ b = 718 + j ∨ 2 ≤ j) (hw : wn < 2) : ∀ (os : oL) (ar : jSc), o_as wn os ar b = ar b
  | [], _ => rfl
  | o :: os, ar => by
    refine (o_as_row hb hw os _).trans ?_
    unfold o_a1
    split
    · exact j_u2_row _ _ _ _ (fun z => (hb wn).elim (fun y => y z) (fun y => absurd y (by omega)))
    · rfl
/-- what stands while the reference reads: the text, no fault, a window or none -/
def rE (tx : Nat → Int32) (n : Nat) (S : Nat → Int32) (ar : jSc) : Prop := r_TX S ar n tx ∧ S 7 = 0 ∧ (S 29 = -1 ∨ S 29 = 0 ∨ S 29 = 1)
theorem aro_row {S : Nat → Int32} {b : Nat} (hw : S 29 = -1 ∨ S 29 = 0 ∨ S 29 = 1) (hb : b < 718 ∨ 719 < b) (os : oL) (ar : jSc) : aro S os ar b = ar b := by
  unfold aro
  split
  · rfl
  · rename_i h
    refine o_as_row (fun j => ?_) ?_ os ar
    · by_cases hj : 2 ≤ j
      · exact Or.inr hj
      · exact Or.inl (by omega)
    · rcases hw with e | e | e
      · exact absurd e (fun z => h (Or.inr (Or.inr z)))
      · rw [e]; decide
      · rw [e]; decide
theorem rE_aro {tx : Nat → Int32} {n : Nat} {S : Nat → Int32} {ar : jSc} {os : oL} (h : rE tx n S ar) : rE tx n S (aro S os ar) := by
  obtain ⟨⟨h1, h2, h3⟩, h4, h5⟩ := h
  refine ⟨⟨h1, h2, ?_⟩, h4, h5⟩
  rcases h3 with ⟨a, b⟩ | ⟨q, a, b, c⟩
  · exact Or.inl ⟨a, fun p hp => by rw [aro_row h5 (by omega)]; exact b p hp⟩
  · exact Or.inr ⟨q, a, b, fun p hp => by rw [aro_row h5 (by omega)]; exact c p hp⟩
/-- at q, o brackets open, rd read -/
abbrev sQ (S : Nat → Int32) (q o : Nat) (rd : Int32) : Nat → Int32 := sA (upd (upd S 27 rd) 6 (nI o)) q
theorem sA_k {S : Nat → Int32} {q k : Nat} (h : (k == 5) = false) : sA S q k = S k := up_1 h
theorem sQ_k {S : Nat → Int32} {q o k : Nat} {rd : Int32} (h : (k == 5) = false) (h6 : (k == 6) = false) : sQ S q o rd k = upd S 27 rd k := (up_1 h).trans (up_1 h6)
theorem sQ_5 {S : Nat → Int32} {q o : Nat} {rd : Int32} : sQ S q o rd 5 = nI q := up_0
theorem sQ_1 {S : Nat → Int32} {q o : Nat} {rd : Int32} : upd (sQ S q o rd) 5 (nI q + 1) = sQ S (q + 1) o rd := sA_1
/-- S9 is s0 with the fault kd at pl; at and open are somewhere -/
def rFl (s0 : Nat → Int32) (n kd pl B : Nat) (S9 : Nat → Int32) : Prop := ((1 ≤ kd ∧ kd ≤ 4) ∧ pl ≤ n) ∧ S9 7 = nI kd ∧ S9 8 = nI pl ∧ (∃ q, q ≤ B ∧ S9 5 = nI q) ∧ ∀ k, (k == 5) = false → (k == 6) = false → (k == 7) = false → (k == 8) = false → S9 k = s0 k
abbrev rFn : Type := (Nat → Int32) → jSc → Option (Int32 × (Nat → Int32) × jSc)
/-- f does what the parser p says, with o brackets open -/
def rPV (tx : Nat → Int32) (n o B : Nat) (f : rFn) (p : Nat → oR) : Prop := ∀ (S : Nat → Int32) (ar : jSc) (q : Nat) (rd : Int32), rE tx n S ar → q ≤ n →
  (∀ os q2, p q = .inr (os, q2) → q < q2 ∧ q2 ≤ n ∧ ∃ v, (∀ st, o_ev (ar 13) (S 25) os st = v :: st) ∧ f (sQ S q o rd) ar = some (v, sQ S q2 o (rdo S os rd), aro S os ar)) ∧
  (∀ kd pl, p q = .inl (kd, pl) → S 22 = 0 → ∃ v S9, f (sQ S q o rd) ar = some (v, S9, ar) ∧ rFl (sQ S q o rd) n kd pl B S9)
/-- what f does behind a fault -/
def rPF (tx : Nat → Int32) (n : Nat) (f : rFn) : Prop := ∀ (S : Nat → Int32) (ar : jSc) (q : Nat), r_TX S ar n tx → ¬ S 7 = 0 → q < 2 ^ 20 → ∃ v q2, q2 ≤ max q n ∧ f (sA S q) ar = some (v, sA S q2, ar)
theorem rFl_ne {s0 S9 : Nat → Int32} {n kd pl B : Nat} (h : rFl s0 n kd pl B S9) : ¬ S9 7 = 0 := by
  obtain ⟨⟨h1, -⟩, h2, -⟩ := h
  rw [h2]
  exact nI_ne0 (by omega) (by omega)
theorem x_nb_le {n q : Nat} {tx : Nat → Int32} (hT : x_tx n tx) (h : q ≤ n) : x_nb tx q ≤ n := by
  have := (x_nb_ok hT q).2.1
  omega
theorem lt_n {n q : Nat} {tx : Nat → Int32} (hT : x_tx n tx) (h : ¬ tx q = -1) : q < n := Nat.not_le.mp fun z => h (hT.2.1 q z)
theorem x_we_lt {n q : Nat} {tx : Nat → Int32} (hT : x_tx n tx) (h : q ≤ n) : x_we tx q ≤ n := by
  have := (x_we_ok hT q).2.1
  omega
/-- a fault told at once -/
theorem rFl_sW {S : Nat → Int32} {n kd pl q o B p : Nat} {rd : Int32} (h0 : S 7 = 0) (hk : 1 ≤ kd ∧ kd ≤ 4) (hp : pl ≤ n) (hB : p ≤ B) : rFl (sQ S q o rd) n kd pl B (sW (sQ S p o rd) kd pl) := by
  rw [sW_0 (show sQ S p o rd 7 = 0 from h0)]
  refine ⟨⟨hk, hp⟩, rfl, rfl, ⟨p, hB, rfl⟩, fun k a b c e => ?_⟩
  rw [up_1 e, up_1 c, sQ_k a b, sQ_k a b]
/-- at and open may go on -/
theorem rFl_up {s0 S9 : Nat → Int32} {n kd pl B q : Nat} {x : Int32} (h : rFl s0 n kd pl B S9) (B2 : Nat) (hq : q ≤ B2) : rFl s0 n kd pl B2 (upd (sA S9 q) 6 x) := by
  obtain ⟨h1, h2, h3, -, h5⟩ := h
  refine ⟨h1, h2, h3, ⟨q, hq, rfl⟩, fun k a b c e => ?_⟩
  rw [up_1 b, sA_k a]
  exact h5 k a b c e
theorem rFl_A {s0 S9 : Nat → Int32} {n kd pl B q : Nat} (h : rFl s0 n kd pl B S9) (B2 : Nat) (hq : q ≤ B2) : rFl s0 n kd pl B2 (sA S9 q) := by
  obtain ⟨h1, h2, h3, -, h5⟩ := h
  refine ⟨h1, h2, h3, ⟨q, hq, rfl⟩, fun k a b c e => ?_⟩
  rw [sA_k a]
  exact h5 k a b c e
theorem rFl_o {s0 S9 : Nat → Int32} {n kd pl B : Nat} {x : Int32} (h : rFl s0 n kd pl B S9) : rFl s0 n kd pl B (upd S9 6 x) := by
  obtain ⟨h1, h2, h3, h4, h5⟩ := h
  refine ⟨h1, h2, h3, h4, fun k a b c e => ?_⟩
  rw [up_1 b]
  exact h5 k a b c e
theorem rFl_at {s0 S9 : Nat → Int32} {n kd pl B : Nat} (h : rFl s0 n kd pl B S9) : ∃ q, q ≤ B ∧ sA S9 q = S9 := by
  obtain ⟨-, -, -, ⟨q, h1, h2⟩, -⟩ := h
  exact ⟨q, h1, sA_i h2⟩
theorem rFl_TX {s0 S9 : Nat → Int32} {n m kd pl B : Nat} {ar : jSc} {tx : Nat → Int32} (h : rFl s0 n kd pl B S9) (hT : r_TX s0 ar m tx) : r_TX S9 ar m tx := r_TX_S hT (h.2.2.2.2 3 rfl rfl rfl rfl) (h.2.2.2.2 4 rfl rfl rfl rfl)
theorem rFl_fr {s0 s1 S9 : Nat → Int32} {n kd pl B : Nat} (h : rFl s1 n kd pl B S9) (h1 : ∀ k, (k == 5) = false → (k == 6) = false → (k == 7) = false → (k == 8) = false → s1 k = s0 k) : rFl s0 n kd pl B S9 :=
  ⟨h.1, h.2.1, h.2.2.1, h.2.2.2.1, fun k a b c e => (h.2.2.2.2 k a b c e).trans (h1 k a b c e)⟩
theorem rFl_mono {s0 S9 : Nat → Int32} {n kd pl B B2 : Nat} (h : rFl s0 n kd pl B S9) (hB : B ≤ B2) : rFl s0 n kd pl B2 S9 := by
  obtain ⟨q, h1, h2⟩ := h.2.2.2.1
  exact ⟨h.1, h.2.1, h.2.2.1, ⟨q, by omega, h2⟩, h.2.2.2.2⟩
theorem sQ_fr {S : Nat → Int32} {q q2 o o2 : Nat} {rd : Int32} : ∀ k, (k == 5) = false → (k == 6) = false → (k == 7) = false → (k == 8) = false → sQ S q o rd k = sQ S q2 o2 rd k := fun k a b _ _ => by
  rw [sQ_k a b, sQ_k a b]
theorem r_opens {S : Nat → Int32} {ar : jSc} {q o b : Nat} {rd : Int32} (ho : o < 6) : rF_18 (nI b) (sQ S q o rd) ar = some (sQ S (q + b) (o + 1) rd, ar) := by
  unfold rF_18
  have e6 : sQ S q o rd 6 = nI o := rfl
  have e7 : nI o = (6 : Int32) ↔ o = 6 := nI_eq (by omega) (by decide)
  rw [e6, if_neg (fun z => absurd (e7.mp z) (by omega)), nI_1, sQ_5, nI_add]
  congr 2
  funext k
  by_cases h5 : k = 5
  · subst h5; rfl
  · by_cases h6 : k = 6
    · subst h6; rfl
    · have a5 : (k == 5) = false := by simpa using h5
      have a6 : (k == 6) = false := by simpa using h6
      rw [up_1 a5, up_1 a6, sQ_k a5 a6, sQ_k a5 a6]
/-- opening when six stand open: the fault 3 -/
theorem r_opens6 {S : Nat → Int32} {ar : jSc} {n q b : Nat} {rd : Int32} (h0 : S 7 = 0) (hq : q ≤ n) : ∃ S9, rF_18 (nI b) (sQ S q 6 rd) ar = some (sA S9 (q + b), ar) ∧ rFl (sQ S q 6 rd) n 3 q (q + b) (sA S9 (q + b)) := by
  unfold rF_18
  rw [if_pos (show sQ S q 6 rd 6 = 6 from rfl), show (3 : Int32) = nI 3 from rfl, sQ_5, r_wrong, ob2]
  have e5 : sW (sQ S q 6 rd) 3 q 5 = nI q := by rw [sW_k rfl rfl]; rfl
  rw [e5, nI_add]
  exact ⟨_, rfl, rFl_A (rFl_o (rFl_sW (kd := 3) (B := q) h0 (by omega) hq (Nat.le_refl q))) _ (Nat.le_refl _)⟩
