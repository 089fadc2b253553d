/-! PROGRAMS that were read are sound: heights of all orders; an event runs on both sides alike. -/
def wfG (g : pG) : Prop := ∃ H : Nat → Nat, H g.1.length = 0 ∧ (∀ i o, g.1[i]? = some o → o_ok H g.1.length i o) ∧ (∀ e x, g.2.1 e = some x → H x.2 = 0 ∧ x.2 ≤ g.1.length) ∧ (∀ x, g.2.2.1 = some x → H x.2 = 0 ∧ x.2 ≤ g.1.length) ∧ ∀ x, g.2.2.2.1 = some x → H x.2 = 0 ∧ x.2 ≤ g.1.length
theorem wfG_app {g : pG} {seg : oL} {h2 : Nat → Option (Nat × Nat)} {a2 b2 : Option (Nat × Nat)} {c2 : Nat} (h : wfG g) (e : wfQ g.1.length seg 0 0) (k1 : ∀ e x, h2 e = some x → g.2.1 e = some x ∨ x.2 = g.1.length) (k2 : ∀ x, a2 = some x → g.2.2.1 = some x ∨ x.2 = g.1.length) (k3 : ∀ x, b2 = some x → g.2.2.2.1 = some x ∨ x.2 = g.1.length) : wfG (g.1 ++ seg, h2, a2, b2, c2) := by
  obtain ⟨H1, a1, a3, a4, a5, a6⟩ := h
  obtain ⟨H2, b1, b2', b3⟩ := e
  have le : (g.1 ++ seg).length = g.1.length + seg.length := List.length_append
  have g1 : ∀ x, x ≤ g.1.length → (if x < g.1.length then H1 x else H2 x) = H1 x := by
    intro x hx
    by_cases c : x < g.1.length
    · rw [if_pos c]
    · rw [if_neg c, show x = g.1.length by omega, b1, a1]
  have g2 : ∀ x, g.1.length ≤ x → (if x < g.1.length then H1 x else H2 x) = H2 x := fun x hx => if_neg (by omega)
  have fin : ∀ (x : Nat × Nat), (H1 x.2 = 0 ∧ x.2 ≤ g.1.length) ∨ x.2 = g.1.length → (if x.2 < g.1.length then H1 x.2 else H2 x.2) = 0 ∧ x.2 ≤ (g.1 ++ seg).length := by
    intro x hx
    rcases hx with ⟨z1, z2⟩ | z
    · exact ⟨(g1 _ z2).trans z1, by omega⟩
    · exact ⟨by rw [g1 _ (by omega), z]; exact a1, by omega⟩
  refine ⟨fun x => if x < g.1.length then H1 x else H2 x, ?_, fun i o hi => ?_, fun e x hx => fin x ((k1 e x hx).imp_left (a4 e x)), fun x hx => fin x ((k2 x hx).imp_left (a5 x)), fun x hx => fin x ((k3 x hx).imp_left (a6 x))⟩
  · show (if (g.1 ++ seg).length < g.1.length then _ else H2 _) = 0
    rw [le, g2 _ (by omega)]; exact b2'
  · show o_ok _ (g.1 ++ seg).length i o
    have hi : (g.1 ++ seg)[i]? = some o := hi
    rw [le]
    by_cases c : i < g.1.length
    · rw [List.getElem?_append_left c] at hi
      exact o_ok_c (a3 i o hi) (by omega) (fun x _ hx => g1 x hx) (by omega)
    · rw [List.getElem?_append_right (by omega)] at hi
      have := (List.getElem?_eq_some_iff.mp hi).1
      have r := b3 _ o hi
      rw [show g.1.length + (i - g.1.length) = i by omega] at r
      exact o_ok_c r (by omega) (fun x hx _ => g2 x (by omega)) (by omega)
theorem wfG_pt {tx : Nat → Int32} {g g2 : pG} {q q2 : Nat} (h : wfG g) (hp : p_pt tx q g = .inr (g2, q2)) : wfG g2 := by
  have cc : ∀ q os q3, p_or (p_tk tx 6) tx q = .inr (os, q3) → wfQ g.1.length (os ++ [(16, 0)]) 0 0 := fun q os q3 e => wfQ_app (wfQ_hl _ _ _ _ (dp_c6 (h := 0) e (by omega))) (wfQ_1 (Or.inr (Or.inl ⟨rfl, rfl⟩)))
  unfold p_pt at hp
  split at hp
  · split at hp
    · cases hp
    · rename_i e q3 hev
      split at hp
      · cases hp
      · split at hp
        · rename_i k1
          split at hp
          · cases hp
          · rename_i seg q4 c4 hb
            cases hp
            refine wfG_app h (wfQ_hb _ _ _ _ _ _ _ hb) (fun e' x hx => ?_) (fun x hx => Or.inl hx) (fun x hx => Or.inl hx)
            split at hx
            · cases hx; exact Or.inr rfl
            · exact Or.inl hx
        · cases hp
  · split at hp
    · split at hp
      · cases hp
      · rename_i o1 q3 ho
        split at hp
        · cases hp
          exact wfG_app h (cc _ _ _ ho) (fun e' x hx => Or.inl hx) (fun x hx => by cases hx; exact Or.inr rfl) (fun x hx => Or.inl hx)
        · cases hp
    · split at hp
      · split at hp
        · cases hp
        · rename_i o1 q3 ho
          split at hp
          · cases hp
            exact wfG_app h (cc _ _ _ ho) (fun e' x hx => Or.inl hx) (fun x hx => Or.inl hx) (fun x hx => by cases hx; exact Or.inr rfl)
          · cases hp
      · cases hp
theorem wfG_pl {tx : Nat → Int32} {n : Nat} : ∀ (M q : Nat) (g g2 : pG), wfG g → p_pl tx n M q g = .inr g2 → wfG g2 := by
  intro M
  induction M with
  | zero => intro q g g2 h hp; cases hp
  | succ M ih =>
    intro q g g2 h hp
    have pe : p_pl tx n (M + 1) q g = if n ≤ x_nb tx q then .inr g else (match p_pt tx (x_nb tx q) g with | .inl e => .inl e | .inr (g2, q2) => p_pl tx n M q2 g2) := rfl
    rw [pe] at hp
    split at hp
    · cases hp; exact h
    · split at hp
      · cases hp
      · rename_i g3 q3 e
        exact ih _ _ _ (wfG_pt h e) hp
theorem wfG_0 : wfG g0 := by
  refine ⟨fun _ => 0, rfl, fun i o h => ?_, fun e x h => ?_, fun x h => ?_, fun x h => ?_⟩
  · simp [g0] at h
  · cases h
  · cases h
  · cases h
/-- the reference's program pr is g -/
def gRf (pr n : Nat) (tx : Nat → Int32) (g : pG) (ar : jSc) : Prop := pr < 2 ∧ x_tx n tx ∧ ar 8 pr = nI n ∧ (∀ p, p < n → tx p = ar (3 + pr) p) ∧ gI n tx g ∧ g.1.length ≤ 600 ∧ (∀ e, e < 17 → ar (6 + pr) e = x_op (g.2.1 e)) ∧ ar 10 pr = x_op g.2.2.1 ∧ ar 11 pr = x_op g.2.2.2.1
/-- ClickOrders' program p is g -/
def gCl (p : Nat) (g : pG) (sc car : jSc) : Prop := x_pr p = true ∧ hO p sc car (oO g.1) g.1.length ∧ (∀ e, e < 17 → car (p + 3) e = c_at (g.2.1 e)) ∧ sc p 7 = c_at g.2.2.1 ∧ sc p 8 = c_at g.2.2.2.1
theorem wfG_O {g : pG} (h : wfG g) (hl : g.1.length ≤ 600) : ∃ H, wfO (oO g.1) g.1.length H ∧ (∀ e x, g.2.1 e = some x → H x.2 = 0 ∧ x.2 ≤ g.1.length) ∧ (∀ x, g.2.2.1 = some x → H x.2 = 0 ∧ x.2 ≤ g.1.length) ∧ ∀ x, g.2.2.2.1 = some x → H x.2 = 0 ∧ x.2 ≤ g.1.length := by
  obtain ⟨H, a1, a3, a4, a5, a6⟩ := h
  refine ⟨H, ⟨by omega, fun a ha => a3 a _ ?_⟩, a4, a5, a6⟩
  unfold oO
  rw [List.getD_eq_getElem?_getD, List.getElem?_eq_getElem ha]
  rfl
/-- rows that running leaves; without a window all but the page -/
def rowG (S : Nat → Int32) (ar ar2 : jSc) : Prop := rowF ar ar2 ∧ (S 29 = -1 → ∀ b, b ≠ 13 → ar2 b = ar b)
theorem rowG_rf (S : Nat → Int32) (ar : jSc) : rowG S ar ar := ⟨rowF_rf ar, fun _ _ _ => rfl⟩
theorem rowG_tr {S T : Nat → Int32} {a b c : jSc} (h : rowG S a b) (h2 : rowG T b c) (e : T 29 = S 29) : rowG S a c := ⟨rowF_tr h.1 h2.1, fun z k hk => (h2.2 (e.trans z) k hk).trans (h.2 z k hk)⟩
theorem rowG_va {S : Nat → Int32} {ar : jSc} {Q : Nat → Int32} : rowG S ar (va_up ar 13 Q) := ⟨fun b h _ _ _ => va_up_ne _ _ (by simpa using h), fun _ b hb => va_up_ne _ _ hb⟩
theorem m_ef_13 {o : Nat} {m v : Int32} {S : Nat → Int32} {ar : jSc} (h : S 29 = -1) : ∀ b, b ≠ 13 → (m_ef o m v S ar).2.2.2 b = ar b := by
  intro b hb
  have e : ∀ l, eP ar l b = ar b := fun l => by
    unfold eP
    rw [j_u2_row _ _ _ _ hb, j_u2_row _ _ _ _ hb, j_u2_row _ _ _ _ hb, j_u2_row _ _ _ _ hb, j_u2_row _ _ _ _ hb, j_u2_row _ _ _ _ hb, j_u2_row _ _ _ _ hb]
  unfold m_ef
  by_cases c18 : o = 18
  · rw [if_pos c18]
    exact j_u2_row _ _ _ _ hb
  rw [if_neg c18]
  by_cases c19 : o = 19
  · rw [if_pos c19]
    exact j_u2_row _ _ _ _ hb
  rw [if_neg c19]
  by_cases c20 : o = 20
  · rw [if_pos c20]
    exact j_u2_row _ _ _ _ hb
  rw [if_neg c20]
  by_cases c21 : o = 21
  · rw [if_pos c21]
    exact j_u2_row _ _ _ _ hb
  rw [if_neg c21]
  by_cases c22 : o = 22
  · rw [if_pos c22]
    exact j_u2_row _ _ _ _ hb
  rw [if_neg c22]
  by_cases c23 : o = 23
  · rw [if_pos c23]
    by_cases z : ar 13 26 = 3
    · rw [if_pos z]
      exact j_u2_row _ _ _ _ hb
    · rw [if_neg z]
      show j_u2 _ _ _ _ b = _
      rw [j_u2_row _ _ _ _ hb, j_u2_row _ _ _ _ hb, j_u2_row _ _ _ _ hb, j_u2_row _ _ _ _ hb]
  rw [if_neg c23]
  by_cases c24 : o = 24
  · rw [if_pos c24]
    have e2 : (if m_fr ar (iN (S 38)) 2 m = true then eP ar (iN m) else ar) b = ar b := by
      by_cases q : m_fr ar (iN (S 38)) 2 m = true
      · rw [if_pos q]; exact e _
      · rw [if_neg q]
    generalize (if m_fr ar (iN (S 38)) 2 m = true then eP ar (iN m) else ar) = ar1 at e2
    by_cases z : ar1 13 (10 + iN m) = 3
    · rw [if_pos z]
      show j_u2 _ _ _ _ b = _
      rw [j_u2_row _ _ _ _ hb]
      exact e2
    · rw [if_neg z]
      show j_u2 _ _ _ _ b = _
      rw [j_u2_row _ _ _ _ hb, j_u2_row _ _ _ _ hb, j_u2_row _ _ _ _ hb]
      exact e2
  rw [if_neg c24]
  by_cases c25 : o = 25
  · rw [if_pos c25]
    exact e _
  rw [if_neg c25]
  by_cases c26 : o = 26
  · rw [if_pos c26, if_pos h]
    exact j_u2_row _ _ _ _ hb
  rw [if_neg c26]
  exact j_u2_row _ _ _ _ hb
theorem w_13 {O : Nat → Nat × Int32} {len : Nat} : ∀ (f at_ : Nat) (st : List Int32) (S : Nat → Int32) (ar : jSc) (S2 : Nat → Int32) (ar2 : jSc), w_run O len f at_ st S ar = some (S2, ar2) → S 29 = -1 → ∀ b, b ≠ 13 → ar2 b = ar b := by
  intro f
  induction f with
  | zero => intro at_ st S ar S2 ar2 h; cases h
  | succ f ih =>
    intro at_ st S ar S2 ar2 h h29 b hb
    unfold w_run at h
    split at h
    · cases h; rfl
    split at h
    · try rw [if_pos h29] at h
      exact ih _ _ _ _ _ _ h h29 b hb
    split at h
    · cases h; rfl
    split at h
    · split at h
      · exact ih _ _ _ _ _ _ h h29 b hb
      · exact ih _ _ _ _ _ _ h h29 b hb
    split at h
    · exact (ih _ _ _ _ _ _ h h29 b hb).trans (m_ef_13 h29 b hb)
    · cases h
      exact m_ef_13 h29 b hb
section HR
variable {cb : Bool} {c27 c28 : Int32} {S S2 : Nat → Int32} {ar ar2 : jSc} {pp : Nat} {sc car sc2 car2 : jSc} {mr : Nat → Nat} {al : jAl} {o0 : Nat → Bool} {d57 : Int32} {pr n p : Nat} {tx : Nat → Int32} {g : pG}
theorem hI_S (h : hI cb c27 c28 S ar pp sc car) (h25 : S2 25 = S 25) (h26 : S2 26 = S 26) (h27 : S2 27 = S 27) (h28 : S2 28 = S 28) (h38 : S2 38 = S 38) : hI cb c27 c28 S2 ar pp sc car := by
  obtain ⟨a1, a2, a3, a4, a5, a6, a7⟩ := h
  exact ⟨a1, a2, h27.trans a3, h28.trans a4, a5.trans h25.symm, a6.trans h26.symm, fun l hl => by rw [h38]; exact a7 l hl⟩
theorem hWn_S (h : hWn o0 d57 S ar sc) (h29 : S2 29 = S 29) (h57 : S2 57 = S 57) : hWn o0 d57 S2 ar sc := by
  rcases h with ⟨a1, a2, a3⟩ | ⟨w, a1, a2, a3, a4, a5⟩
  · exact Or.inl ⟨h29.trans a1, a2, h57.trans a3⟩
  · exact Or.inr ⟨w, a1, h29.trans a2, h57.trans a3, a4, a5⟩
theorem hWn_w (h : hWn o0 d57 S ar sc) : S 29 = -1 ∨ S 29 = 0 ∨ S 29 = 1 := by
  rcases h with ⟨a1, -⟩ | ⟨w, a1, a2, -⟩
  · exact Or.inl a1
  · rw [a2]
    rcases (show w = 0 ∨ w = 1 by omega) with rfl | rfl
    · exact Or.inr (Or.inl rfl)
    · exact Or.inr (Or.inr rfl)
/-- an event runs -/
theorem h_run {e : Nat} (hg : gRf pr n tx g ar) (hc : gCl p g sc car) (hw' : wfG g) (hmr : mr 3 = p) (hpp : 759 ≤ pp) (h16 : S 16 = nI pr) (hm : ∃ k, k ≤ 6 ∧ S 38 = nI k) (he : e < 17) (hi : hI cb c27 c28 S ar pp sc car) (hw : hWn o0 d57 S ar sc) :
    ∃ S9 ar9 sc2 car2, rF_46 (nI e) S ar = some (S9, ar9) ∧ xF_213 pp (car (p + 3) e) sc mr car al = some (sc2, mr, car2, al) ∧ hI cb c27 c28 S9 ar9 pp sc2 car2 ∧ hWn o0 d57 S9 ar9 sc2 ∧ hFs sc sc2 ∧ hFa pp car car2 ∧ runF S S9 ∧ rowG S ar ar9 := by
  obtain ⟨g1, g2, g3, g4, g5, g6, g7, g8, g9⟩ := hg
  obtain ⟨c1, c2, c3, c4, c5⟩ := hc
  have fs9 : hFs sc (j_u2 sc 757 9 0) := hFs_u (by decide) (hFs_rf sc)
  have hi9 : ∀ S3 : Nat → Int32, (∀ k, k ≠ 24 → S3 k = S k) → hI cb c27 c28 S3 ar pp (j_u2 sc 757 9 0) car := fun S3 h3 => hI_s hi (fun k a _ _ => h3 k a) (rowF_rf ar) fs9 (u2_nk (by decide)) (by rw [u2_nk (by decide), h3 28 (by decide)]; exact hi.2.2.2.1) hi.1 hi.2.1
  have hw9 : ∀ S3 : Nat → Int32, (∀ k, k ≠ 24 → S3 k = S k) → hWn o0 d57 S3 ar (j_u2 sc 757 9 0) := fun S3 h3 => hW_s hw (h3 57 (by decide)) (h3 29 (by decide)) rfl rfl rfl (u2_nk (by decide)) (u2_nk (by decide)) (fun k _ => by rw [u2_nk (by decide)])
  have u24 : ∀ k, k ≠ 24 → upd S 24 0 k = S k := fun k hk => up_n hk
  rw [c3 e he]
  rcases hx : g.2.1 e with _ | x
  · have r0 := r_runs0 (S := S) (ar := ar) (e := e) g1 h16 he (by rw [g7 e he, hx]; rfl)
    refine ⟨_, _, j_u2 sc 757 9 0, car, r0, ?_, hi9 _ u24, hw9 _ u24, fs9, hFa_rf _ _, fun k _ _ _ _ _ _ _ _ h24 _ _ _ => up_1 h24, rowG_rf S ar⟩
    unfold xF_213
    show xF_213_7 (9999 + 1) pp (-1) _ mr car al = _
    unfold xF_213_7
    rw [if_pos (by decide)]
  · obtain ⟨H, w1, w2, -, -⟩ := wfG_O hw' g6
    obtain ⟨w3, w4⟩ := w2 e x hx
    obtain ⟨S9, ar9, Sm, f, x1, x2, ⟨x3, x4, x5, x6⟩, x7, x8, x9, x10, x11, x12⟩ := r_runs (S := S) (ar := ar) (e := e) g1 h16 he (by rw [g7 e he, hx]; rfl) g3 g2 g4 (HB_of g5 g6 hx) hi.1.2.2.1 hm (hWn_w hw)
    obtain ⟨sc3, car3, y1, y2, y3, y4, y5⟩ := h_works (mr := mr) (al := al) c1 hmr hpp w1 f x.2 oF [] _ _ (j_u2 sc 757 9 0) car _ _ x2 (by unfold oF; omega) up_0 (hO_f c1 hpp c2 fs9 (hFa_rf pp car)) w4 (fun _ => w3) (hi9 _ u24) (hw9 _ u24) u2_eq trivial
    refine ⟨S9, ar9, sc3, car3, x1, y1, hI_S y2 ?_ ?_ x4 x5 ?_, hWn_S y3 ?_ x6, hFs_tr fs9 y4, y5, x7, ⟨x10, fun z => w_13 _ _ _ _ _ _ _ x2 z⟩⟩
    · rw [x7 25 rfl rfl rfl rfl rfl rfl rfl rfl rfl rfl rfl rfl, x8 25 rfl rfl rfl rfl]
    · rw [x7 26 rfl rfl rfl rfl rfl rfl rfl rfl rfl rfl rfl rfl, x8 26 rfl rfl rfl rfl]
    · rw [x7 38 rfl rfl rfl rfl rfl rfl rfl rfl rfl rfl rfl rfl, x8 38 rfl rfl rfl rfl]
    · rw [x7 29 rfl rfl rfl rfl rfl rfl rfl rfl rfl rfl rfl rfl, x8 29 rfl rfl rfl rfl]
end HR
