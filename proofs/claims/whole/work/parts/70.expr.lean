/-! THE REFERENCE: values. e_x: unit (0), product (1), sum (2), the loops of product (3) and sum (4) with the value so far. -/
/-- the place in the text, where it is one -/
def e_q (S : Nat → Int32) : Option Nat := if 0 ≤ S f_at ∧ S f_at < 100000 then some (S f_at).toNatClampNeg else none
theorem e_q_ok {S : Nat → Int32} {q : Nat} (h : e_q S = some q) : S f_at = nI q ∧ q < 2 ^ 28 := by
  unfold e_q at h
  split at h
  · rename_i h1
    cases h
    obtain ⟨k, hk, hx⟩ := nI_of (Int32.not_lt.mpr h1.1)
    have h2 := h1.2
    rw [hx, show (100000 : Int32) = nI 100000 from rfl] at h2
    have h3 := (nI_ltI hk (by decide)).mp h2
    rw [hx, nI_clamp hk]
    exact ⟨rfl, by omega⟩
  · cases h
def e_x (tx P : Nat → Int32) (wn : Nat) : Nat → Nat → Int32 → (Nat → Int32) → jSc → Option (Int32 × (Nat → Int32) × jSc)
  | 0, _, _, _, _ => none
  | n + 1, tag, v, S, ar =>
    match e_q S with
    | none => none
    | some q =>
      match tag with
      | 0 =>
        if ¬ S f_fault = 0 then some (0, S, ar) else
        if 48 ≤ tx (x_nb tx q) ∧ tx (x_nb tx q) ≤ 57 then some (x_num tx (x_nb tx q), s_num tx (x_nb tx q) 999 (upd S f_at (nI (x_nb tx q))), ar) else
        if ¬ x_let tx (x_nb tx q) = -1 then some (P (x_let tx (x_nb tx q)).toNatClampNeg, s_read (x_let tx (x_nb tx q)) (upd S f_at (nI (x_nb tx q + 1))), ar) else
        if x_wh tx (x_nb tx q) = m_word 7 15 20 0 0 0 then some (S f_got, upd S f_at (nI (x_we tx (x_nb tx q))), ar) else
        if x_wh tx (x_nb tx q) = m_word 6 1 18 0 0 0 then (if s_dig tx (x_we tx (x_nb tx q)) 3 (upd S f_at (nI (x_we tx (x_nb tx q)))) f_fault = 0 then some (P (33 + (x_num tx (x_nb tx (x_we tx (x_nb tx q)))).toNatClampNeg), s_read (16 + x_num tx (x_nb tx (x_we tx (x_nb tx q)))) (s_dig tx (x_we tx (x_nb tx q)) 3 (upd S f_at (nI (x_we tx (x_nb tx q))))), a_ask wn (x_num tx (x_nb tx (x_we tx (x_nb tx q)))).toNatClampNeg (s_dig tx (x_we tx (x_nb tx q)) 3 (upd S f_at (nI (x_we tx (x_nb tx q))))) ar) else some (0, s_dig tx (x_we tx (x_nb tx q)) 3 (upd S f_at (nI (x_we tx (x_nb tx q)))), ar)) else
        if x_wh tx (x_nb tx q) = m_word 12 5 1 19 20 0 ∨ x_wh tx (x_nb tx q) = m_word 13 15 19 20 0 0 then
          (if ¬ tx (x_nb tx (x_we tx (x_nb tx q))) = 40 then some (0, s_wrong 1 (nI (x_nb tx (x_we tx (x_nb tx q)))) (upd S f_at (nI (x_nb tx (x_we tx (x_nb tx q))))), ar) else
          (match e_x tx P wn n 2 0 (s_open 1 (upd S f_at (nI (x_nb tx (x_we tx (x_nb tx q)))))) ar with
          | some (u, S1, ar1) => (match e_q S1 with
            | some q1 => (match e_x tx P wn n 2 0 (s_sign tx q1 44 S1) ar1 with
              | some (t, S3, ar3) => (match e_q S3 with
                | some q3 => some (if (if x_wh tx (x_nb tx q) = m_word 12 5 1 19 20 0 then (1 : Int32) else 0) = (if t < u then 1 else 0) then t else u, upd (s_sign tx q3 41 S3) f_open (s_sign tx q3 41 S3 f_open - 1), ar3)
                | none => none)
              | none => none)
            | none => none)
          | none => none))
        else
          (if ¬ tx (x_nb tx q) = 40 then some (0, s_wrong 1 (nI (x_nb tx q)) (upd S f_at (nI (x_nb tx q))), ar) else
          (match e_x tx P wn n 2 0 (s_open 1 (upd S f_at (nI (x_nb tx q)))) ar with
          | some (u, S1, ar1) => (match e_q S1 with
            | some q1 => some (u, upd (s_sign tx q1 41 S1) f_open (s_sign tx q1 41 S1 f_open - 1), ar1)
            | none => none)
          | none => none))
      | 1 => (match e_x tx P wn n 0 0 S ar with
        | some (u, S1, ar1) => (match e_q S1 with
          | some q1 => e_x tx P wn n 3 u (upd S1 f_at (nI (x_nb tx q1))) ar1
          | none => none)
        | none => none)
      | 2 => (match e_x tx P wn n 1 0 S ar with
        | some (u, S1, ar1) => (match e_q S1 with
          | some q1 => e_x tx P wn n 4 u (upd S1 f_at (nI (x_nb tx q1))) ar1
          | none => none)
        | none => none)
      | 3 => if ¬ S f_fault = 0 ∨ ¬ (tx q = 42 ∨ tx q = 47) then some (v, S, ar) else
        (match e_x tx P wn n 0 0 (upd S f_at (nI (q + 1))) ar with
        | some (u, S1, ar1) => (match e_q S1 with
          | some q1 => e_x tx P wn n 3 (if tx q = 42 then v * u else if u = 0 then 0 else v / u) (upd S1 f_at (nI (x_nb tx q1))) ar1
          | none => none)
        | none => none)
      | 4 => if ¬ S f_fault = 0 ∨ ¬ (tx q = 43 ∨ tx q = 45) then some (v, S, ar) else
        (match e_x tx P wn n 1 0 (upd S f_at (nI (q + 1))) ar with
        | some (u, S1, ar1) => (match e_q S1 with
          | some q1 => e_x tx P wn n 4 (if tx q = 43 then v + u else v - u) (upd S1 f_at (nI (x_nb tx q1))) ar1
          | none => none)
        | none => none)
      | _ => none
def e_same (S S2 : Nat → Int32) : Prop := ∀ k, (k == f_at) = false → (k == f_open) = false → (k == f_fault) = false → (k == f_faultAt) = false → (k == f_readBits) = false → S2 k = S k
theorem e_same_rf (S : Nat → Int32) : e_same S S := fun _ _ _ _ _ _ => rfl
theorem e_same_tr {S S1 S2 : Nat → Int32} (h : e_same S S1) (h2 : e_same S1 S2) : e_same S S2 := fun k a b c d e => (h2 k a b c d e).trans (h k a b c d e)
theorem e_same_at {S S1 : Nat → Int32} {v : Int32} (h : e_same S S1) : e_same S (upd S1 f_at v) := fun k a b c d e => (up_1 a).trans (h k a b c d e)
theorem e_same_wrong {S S1 : Nat → Int32} {x y : Int32} (h : e_same S S1) : e_same S (s_wrong x y S1) := fun k a b c d e => by
  unfold s_wrong
  split
  · rw [up_1 d, up_1 c]; exact h k a b c d e
  · exact h k a b c d e
theorem e_same_num {S S1 : Nat → Int32} {tx : Nat → Int32} {q : Nat} {c : Int32} (h : e_same S S1) : e_same S (s_num tx q c S1) := by
  unfold s_num
  dsimp only
  split
  · split
    · exact e_same_at (e_same_at h)
    · exact e_same_at (e_same_wrong (e_same_at h))
  · split
    · exact e_same_wrong (e_same_at (e_same_at h))
    · exact e_same_wrong (e_same_at (e_same_wrong (e_same_at h)))
theorem e_same_read {S S1 : Nat → Int32} {x : Int32} (h : e_same S S1) : e_same S (s_read x S1) := fun k a b c d e => by
  unfold s_read
  split
  · exact h k a b c d e
  · rw [up_1 e]; exact h k a b c d e
def e_asame (ar ar2 : jSc) : Prop := ∀ b, (b == 718) = false → (b == 719) = false → ar2 b = ar b
/-- what stays true while a value is worked out -/
def e_K (tx P : Nat → Int32) (wn n : Nat) (S : Nat → Int32) (ar : jSc) : Prop := m_TX (fun _ => S) ar n tx ∧ ar a_page = P ∧ ((wn = 2 ∧ S f_window = -1) ∨ (wn < 2 ∧ S f_window = nI wn))
theorem e_K_up {tx P : Nat → Int32} {wn n : Nat} {S S2 : Nat → Int32} {ar ar2 : jSc} (h : e_K tx P wn n S ar) (h1 : e_same S S2) (h2 : e_asame ar ar2) : e_K tx P wn n S2 ar2 := by
  obtain ⟨⟨a, b, c, e⟩, f, g⟩ := h
  refine ⟨⟨a, (h1 f_size rfl rfl rfl rfl rfl).trans b, c, ?_⟩, (h2 a_page rfl rfl).trans f, ?_⟩
  · rcases e with ⟨e1, e2⟩ | ⟨q, q1, q2, q3⟩
    · exact Or.inl ⟨(h1 f_which rfl rfl rfl rfl rfl).trans e1, fun p hp => by rw [h2 a_fed rfl rfl]; exact e2 p hp⟩
    · refine Or.inr ⟨q, q1, (h1 f_which rfl rfl rfl rfl rfl).trans q2, fun p hp => ?_⟩
      rw [h2 (b_text + q) (by rcases (show q = 0 ∨ q = 1 by omega) with rfl | rfl <;> rfl) (by rcases (show q = 0 ∨ q = 1 by omega) with rfl | rfl <;> rfl)]
      exact q3 p hp
  · rw [h1 f_window rfl rfl rfl rfl rfl]; exact g
theorem e_K_TX {tx P : Nat → Int32} {wn n : Nat} {S : Nat → Int32} {ar sc : jSc} (h : e_K tx P wn n S ar) : m_TX (va_up sc 0 S) ar n tx := by
  obtain ⟨⟨a, b, c, e⟩, -, -⟩ := h
  exact ⟨a, by rw [vu_0]; exact b, c, by rw [vu_0]; exact e⟩
def e_mid (tag : Nat) : Nat := if tag = 0 then 22 else if tag = 1 ∨ tag = 3 then 23 else 24
def e_pc (tag : Nat) : Nat := if tag < 3 then 0 else 9
/-- what a result of e_x says of the machine's method -/
def e_G (X : jX) (tx P : Nat → Int32) (wn nn n tag : Nat) (v : Int32) (S : Nat → Int32) (ar : jSc) (v2 : Int32) (S2 : Nat → Int32) (ar2 : jSc) : Prop := ∀ (d : Nat) (sc : jSc) (rf : jRf) (al : jAl) (Post : jPo) (lv : jV), rf 0 = r_rf → e_K tx P wn nn S ar → lv 0 = some (.ref 0) → (2 < tag → lv 1 = some (.int v)) → Post (some (.int v2)) (va_up sc 0 S2) rf ar2 al → gW X (e_mid tag) (d + 4 * n + 8) (e_pc tag) lv [] (va_up sc 0 S) rf ar al Post
theorem e_x_0 (tx P : Nat → Int32) (wn n : Nat) (v : Int32) (S : Nat → Int32) (ar : jSc) (q : Nat) (hq : e_q S = some q) : e_x tx P wn (n + 1) 0 v S ar = (if ¬ S f_fault = 0 then some (0, S, ar) else
        if 48 ≤ tx (x_nb tx q) ∧ tx (x_nb tx q) ≤ 57 then some (x_num tx (x_nb tx q), s_num tx (x_nb tx q) 999 (upd S f_at (nI (x_nb tx q))), ar) else
        if ¬ x_let tx (x_nb tx q) = -1 then some (P (x_let tx (x_nb tx q)).toNatClampNeg, s_read (x_let tx (x_nb tx q)) (upd S f_at (nI (x_nb tx q + 1))), ar) else
        if x_wh tx (x_nb tx q) = m_word 7 15 20 0 0 0 then some (S f_got, upd S f_at (nI (x_we tx (x_nb tx q))), ar) else
        if x_wh tx (x_nb tx q) = m_word 6 1 18 0 0 0 then (if s_dig tx (x_we tx (x_nb tx q)) 3 (upd S f_at (nI (x_we tx (x_nb tx q)))) f_fault = 0 then some (P (33 + (x_num tx (x_nb tx (x_we tx (x_nb tx q)))).toNatClampNeg), s_read (16 + x_num tx (x_nb tx (x_we tx (x_nb tx q)))) (s_dig tx (x_we tx (x_nb tx q)) 3 (upd S f_at (nI (x_we tx (x_nb tx q))))), a_ask wn (x_num tx (x_nb tx (x_we tx (x_nb tx q)))).toNatClampNeg (s_dig tx (x_we tx (x_nb tx q)) 3 (upd S f_at (nI (x_we tx (x_nb tx q))))) ar) else some (0, s_dig tx (x_we tx (x_nb tx q)) 3 (upd S f_at (nI (x_we tx (x_nb tx q)))), ar)) else
        if x_wh tx (x_nb tx q) = m_word 12 5 1 19 20 0 ∨ x_wh tx (x_nb tx q) = m_word 13 15 19 20 0 0 then
          (if ¬ tx (x_nb tx (x_we tx (x_nb tx q))) = 40 then some (0, s_wrong 1 (nI (x_nb tx (x_we tx (x_nb tx q)))) (upd S f_at (nI (x_nb tx (x_we tx (x_nb tx q))))), ar) else
          (match e_x tx P wn n 2 0 (s_open 1 (upd S f_at (nI (x_nb tx (x_we tx (x_nb tx q)))))) ar with
          | some (u, S1, ar1) => (match e_q S1 with
            | some q1 => (match e_x tx P wn n 2 0 (s_sign tx q1 44 S1) ar1 with
              | some (t, S3, ar3) => (match e_q S3 with
                | some q3 => some (if (if x_wh tx (x_nb tx q) = m_word 12 5 1 19 20 0 then (1 : Int32) else 0) = (if t < u then 1 else 0) then t else u, upd (s_sign tx q3 41 S3) f_open (s_sign tx q3 41 S3 f_open - 1), ar3)
                | none => none)
              | none => none)
            | none => none)
          | none => none))
        else
          (if ¬ tx (x_nb tx q) = 40 then some (0, s_wrong 1 (nI (x_nb tx q)) (upd S f_at (nI (x_nb tx q))), ar) else
          (match e_x tx P wn n 2 0 (s_open 1 (upd S f_at (nI (x_nb tx q)))) ar with
          | some (u, S1, ar1) => (match e_q S1 with
            | some q1 => some (u, upd (s_sign tx q1 41 S1) f_open (s_sign tx q1 41 S1 f_open - 1), ar1)
            | none => none)
          | none => none))) := by
  conv => lhs; unfold e_x
  rw [hq]
  try rfl
theorem e_x_1 (tx P : Nat → Int32) (wn n : Nat) (v : Int32) (S : Nat → Int32) (ar : jSc) (q : Nat) (hq : e_q S = some q) : e_x tx P wn (n + 1) 1 v S ar = ((match e_x tx P wn n 0 0 S ar with
        | some (u, S1, ar1) => (match e_q S1 with
          | some q1 => e_x tx P wn n 3 u (upd S1 f_at (nI (x_nb tx q1))) ar1
          | none => none)
        | none => none)) := by
  conv => lhs; unfold e_x
  rw [hq]
  try rfl
theorem e_x_2 (tx P : Nat → Int32) (wn n : Nat) (v : Int32) (S : Nat → Int32) (ar : jSc) (q : Nat) (hq : e_q S = some q) : e_x tx P wn (n + 1) 2 v S ar = ((match e_x tx P wn n 1 0 S ar with
        | some (u, S1, ar1) => (match e_q S1 with
          | some q1 => e_x tx P wn n 4 u (upd S1 f_at (nI (x_nb tx q1))) ar1
          | none => none)
        | none => none)) := by
  conv => lhs; unfold e_x
  rw [hq]
  try rfl
theorem e_x_3 (tx P : Nat → Int32) (wn n : Nat) (v : Int32) (S : Nat → Int32) (ar : jSc) (q : Nat) (hq : e_q S = some q) : e_x tx P wn (n + 1) 3 v S ar = (if ¬ S f_fault = 0 ∨ ¬ (tx q = 42 ∨ tx q = 47) then some (v, S, ar) else
        (match e_x tx P wn n 0 0 (upd S f_at (nI (q + 1))) ar with
        | some (u, S1, ar1) => (match e_q S1 with
          | some q1 => e_x tx P wn n 3 (if tx q = 42 then v * u else if u = 0 then 0 else v / u) (upd S1 f_at (nI (x_nb tx q1))) ar1
          | none => none)
        | none => none)) := by
  conv => lhs; unfold e_x
  rw [hq]
  try rfl
theorem e_x_4 (tx P : Nat → Int32) (wn n : Nat) (v : Int32) (S : Nat → Int32) (ar : jSc) (q : Nat) (hq : e_q S = some q) : e_x tx P wn (n + 1) 4 v S ar = (if ¬ S f_fault = 0 ∨ ¬ (tx q = 43 ∨ tx q = 45) then some (v, S, ar) else
        (match e_x tx P wn n 1 0 (upd S f_at (nI (q + 1))) ar with
        | some (u, S1, ar1) => (match e_q S1 with
          | some q1 => e_x tx P wn n 4 (if tx q = 43 then v + u else v - u) (upd S1 f_at (nI (x_nb tx q1))) ar1
          | none => none)
        | none => none)) := by
  conv => lhs; unfold e_x
  rw [hq]
  try rfl
theorem e_x_no (tx P : Nat → Int32) (wn n tag : Nat) (v : Int32) (S : Nat → Int32) (ar : jSc) (hq : e_q S = none) : e_x tx P wn (n + 1) tag v S ar = none := by
  conv => lhs; unfold e_x
  rw [hq]
  try rfl
