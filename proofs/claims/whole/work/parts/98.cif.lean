/-! ClickOrders: the reader's steps. -/
def c_yk (kd : Nat) : Nat := if kd = 10 then 17 else 18 + kd
def c_kr (k : Option Nat) (tx : Nat → Int32) (sc : jSc) (q : Nat) (mr : Nat → Nat) (ar : jSc) (al : jAl) : Option (Int32 × jSc × (Nat → Nat) × jSc × jAl) := match k with
  | none => some (-1, cA sc q, mr, ar, al)
  | some kd => some (nI (c_yk kd), cA sc (x_we tx q), mr, ar, al)
section CK
variable {tx : Nat → Int32} {n p : Nat} {mr : Nat → Nat} {sc ar : jSc} {al : jAl} {o L q : Nat}
theorem c_kd (h : c_TX sc ar n tx) (hq : q ≤ n) (hl : x_le tx (x_nb tx q) = none) : xF_260 (cA sc (x_nb tx q)) mr ar al = c_kr (x_kd tx (x_nb tx q)) tx sc (x_nb tx q) mr ar al := by
  have b1 := x_nb_le h.1 hq
  have e0 := x_nb_idem h.1 q
  have wd : ∀ {s : Nat} {w : List Nat}, x_sw s w → xF_269 s (cA sc (x_nb tx q)) mr ar al = some (if x_is tx (x_nb tx q) w then 1 else 0, if x_is tx (x_nb tx q) w then cA sc (x_nb tx q + w.length) else cA sc (x_nb tx q), mr, ar, al) := by
    intro s w hs
    have := c_word (mr := mr) (al := al) h b1 hs
    rw [e0] at this
    exact this
  unfold xF_260 x_kd
  rw [if_neg (show ¬ ¬ x_le tx (x_nb tx q) = none from fun z => z hl)]
  rw [wd x_sw_show, ob5]
  by_cases c1 : x_is tx (x_nb tx q) w_show
  · rw [if_pos c1, if_pos c1, if_pos c1, if_neg (by decide), ← c1.1]
    rfl
  rw [if_neg c1, if_neg c1, if_neg c1, if_pos rfl]
  rw [wd x_sw_hide, ob5]
  by_cases c2 : x_is tx (x_nb tx q) w_hide
  · rw [if_pos c2, if_pos c2, if_pos c2, if_neg (by decide), ← c2.1]
    rfl
  rw [if_neg c2, if_neg c2, if_neg c2, if_pos rfl]
  rw [wd x_sw_grey, ob5]
  by_cases c3 : x_is tx (x_nb tx q) w_grey
  · rw [if_pos c3, if_pos c3, if_pos c3, if_neg (by decide), ← c3.1]
    rfl
  rw [if_neg c3, if_neg c3, if_neg c3, if_pos rfl]
  rw [wd x_sw_live, ob5]
  by_cases c4 : x_is tx (x_nb tx q) w_live
  · rw [if_pos c4, if_pos c4, if_pos c4, if_neg (by decide), ← c4.1]
    rfl
  rw [if_neg c4, if_neg c4, if_neg c4, if_pos rfl]
  rw [wd x_sw_clock, ob5]
  by_cases c5 : x_is tx (x_nb tx q) w_clock
  · rw [if_pos c5, if_pos c5, if_pos c5, if_neg (by decide), ← c5.1]
    rfl
  rw [if_neg c5, if_neg c5, if_neg c5, if_pos rfl]
  rw [wd x_sw_ask, ob5]
  by_cases c6 : x_is tx (x_nb tx q) w_ask
  · rw [if_pos c6, if_pos c6, if_pos c6, if_neg (by decide), ← c6.1]
    rfl
  rw [if_neg c6, if_neg c6, if_neg c6, if_pos rfl]
  rw [wd x_sw_stop, ob5]
  by_cases c7 : x_is tx (x_nb tx q) w_stop
  · rw [if_pos c7, if_pos c7, if_pos c7, if_neg (by decide), ← c7.1]
    rfl
  rw [if_neg c7, if_neg c7, if_neg c7, if_pos rfl]
  rw [wd x_sw_save, ob5]
  by_cases c8 : x_is tx (x_nb tx q) w_save
  · rw [if_pos c8, if_pos c8, if_pos c8, if_neg (by decide), ← c8.1]
    rfl
  rw [if_neg c8, if_neg c8, if_neg c8, if_pos rfl]
  rw [wd x_sw_fail, ob5]
  by_cases c9 : x_is tx (x_nb tx q) w_fail
  · rw [if_pos c9, if_pos c9, if_pos c9, if_neg (by decide), ← c9.1]
    rfl
  rw [if_neg c9, if_neg c9, if_neg c9, if_pos rfl]
  rw [wd x_sw_if, ob5]
  by_cases c10 : x_is tx (x_nb tx q) w_if
  · rw [if_pos c10, if_pos c10, if_pos c10, if_neg (by decide), ← c10.1]
    rfl
  rw [if_neg c10, if_neg c10, if_neg c10, if_pos rfl]
  rfl
theorem x_kd_b (h : x_le tx q = none) {kd : Nat} (hk : x_kd tx q = some kd) : 1 ≤ kd ∧ kd ≤ 10 ∧ q + 2 ≤ x_we tx q := by
  unfold x_kd at hk
  rw [if_neg (show ¬ ¬ x_le tx q = none from fun z => z h)] at hk
  by_cases c1 : x_is tx q w_show
  · rw [if_pos c1] at hk
    cases hk
    have e := c1.1
    have l : 2 ≤ w_show.length := by decide
    omega
  rw [if_neg c1] at hk
  by_cases c2 : x_is tx q w_hide
  · rw [if_pos c2] at hk
    cases hk
    have e := c2.1
    have l : 2 ≤ w_hide.length := by decide
    omega
  rw [if_neg c2] at hk
  by_cases c3 : x_is tx q w_grey
  · rw [if_pos c3] at hk
    cases hk
    have e := c3.1
    have l : 2 ≤ w_grey.length := by decide
    omega
  rw [if_neg c3] at hk
  by_cases c4 : x_is tx q w_live
  · rw [if_pos c4] at hk
    cases hk
    have e := c4.1
    have l : 2 ≤ w_live.length := by decide
    omega
  rw [if_neg c4] at hk
  by_cases c5 : x_is tx q w_clock
  · rw [if_pos c5] at hk
    cases hk
    have e := c5.1
    have l : 2 ≤ w_clock.length := by decide
    omega
  rw [if_neg c5] at hk
  by_cases c6 : x_is tx q w_ask
  · rw [if_pos c6] at hk
    cases hk
    have e := c6.1
    have l : 2 ≤ w_ask.length := by decide
    omega
  rw [if_neg c6] at hk
  by_cases c7 : x_is tx q w_stop
  · rw [if_pos c7] at hk
    cases hk
    have e := c7.1
    have l : 2 ≤ w_stop.length := by decide
    omega
  rw [if_neg c7] at hk
  by_cases c8 : x_is tx q w_save
  · rw [if_pos c8] at hk
    cases hk
    have e := c8.1
    have l : 2 ≤ w_save.length := by decide
    omega
  rw [if_neg c8] at hk
  by_cases c9 : x_is tx q w_fail
  · rw [if_pos c9] at hk
    cases hk
    have e := c9.1
    have l : 2 ≤ w_fail.length := by decide
    omega
  rw [if_neg c9] at hk
  by_cases c10 : x_is tx q w_if
  · rw [if_pos c10] at hk
    cases hk
    have e := c10.1
    have l : 2 ≤ w_if.length := by decide
    omega
  rw [if_neg c10] at hk
  cases hk
theorem cZ_kd (h : cZ n tx sc ar) : xF_260 sc mr ar al = some (-1, sc, mr, ar, al) := by
  unfold xF_260
  rw [cZ_word h x_sw_show (by decide), ob5, if_pos rfl]
  rw [cZ_word h x_sw_hide (by decide), ob5, if_pos rfl]
  rw [cZ_word h x_sw_grey (by decide), ob5, if_pos rfl]
  rw [cZ_word h x_sw_live (by decide), ob5, if_pos rfl]
  rw [cZ_word h x_sw_clock (by decide), ob5, if_pos rfl]
  rw [cZ_word h x_sw_ask (by decide), ob5, if_pos rfl]
  rw [cZ_word h x_sw_stop (by decide), ob5, if_pos rfl]
  rw [cZ_word h x_sw_save (by decide), ob5, if_pos rfl]
  rw [cZ_word h x_sw_fail (by decide), ob5, if_pos rfl]
  rw [cZ_word h x_sw_if (by decide), ob5, if_pos rfl]
theorem cT_p4 {os : oL} {sc1 ar1 : jSc} {x : Int32} (hp : x_pr p = true) (h : cT p sc ar L os sc1 ar1) : cT p (j_u2 sc p 4 x) ar L os (j_u2 sc1 p 4 x) ar1 := by
  have := x_pr_ne hp
  obtain ⟨a1, a2, a3, a4, a5, a6⟩ := h
  refine ⟨by rw [u2_nk (by decide)]; exact a1, by rw [u2_nk (by decide), u2_nk (by decide)]; exact a2, fun a k y z => ?_, a4, a5, a6⟩
  by_cases e : a = p ∧ k = 4
  · obtain ⟨rfl, rfl⟩ := e
    rw [u2_eq, u2_eq]
  · have := a3 a k y z
    by_cases e1 : a = p
    · rw [u2_nk (fun w => e ⟨e1, w⟩), u2_nk (fun w => e ⟨e1, w⟩)]
      exact this
    · rw [u2_na e1, u2_na e1]
      exact this
theorem cT_land {os1 os2 : oL} {sc1 ar1 : jSc} {v : Int32} (h : cT p sc ar L (os1 ++ [(17, 0)] ++ os2) sc1 ar1) : cT p sc ar L (os1 ++ [(17, v)] ++ os2) sc1 (j_u2 ar1 (p + 2) (L + os1.length) v) := by
  obtain ⟨a1, a2, a3, a4, a5, a6⟩ := h
  have len : (os1 ++ [(17, v)] ++ os2).length = (os1 ++ [((17 : Nat), (0 : Int32))] ++ os2).length := by simp
  refine ⟨by rw [len]; exact a1, ?_, a3, ?_, fun j hj => ?_, fun b x y => ?_⟩
  · rw [a2]
    unfold o_ak
    rw [List.foldl_append, List.foldl_append, List.foldl_append, List.foldl_append]
    rfl
  · have a4 := c_sg_app.mp a4
    have a7 := c_sg_app.mp a4.1
    refine c_sg_app.mpr ⟨c_sg_app.mpr ⟨?_, ?_, ?_, trivial⟩, ?_⟩
    · exact c_sg_mono os1 L a7.1 (fun j hj => ⟨by rw [u2_na (by omega)], by rw [u2_nk (by omega)]⟩)
    · rw [u2_na (by omega)]; exact a7.2.1
    · exact u2_eq
    · have a8 := a4.2
      rw [List.length_append] at a8 ⊢
      have go : ∀ (os : oL) (M : Nat), L + os1.length < M → c_sg ar1 p M os → c_sg (j_u2 ar1 (p + 2) (L + os1.length) v) p M os := by
        intro os
        induction os with
        | nil => intro M _ _; trivial
        | cons x r ih => intro M hM hc; exact ⟨by rw [u2_na (by omega)]; exact hc.1, by rw [u2_nk (by omega)]; exact hc.2.1, ih (M + 1) (by omega) hc.2.2⟩
      exact go os2 _ (by simp only [List.length_cons, List.length_nil]; omega) a8
  · rw [u2_na (by omega), u2_nk (by omega)]
    exact a5 j hj
  · rw [j_u2_row _ _ _ _ y]
    exact a6 b x y
theorem cB_add2 {kd pl : Nat} {sc2 ar2 : jSc} {m : Int32} {od : Nat} (hp : x_pr p = true) (hB : cB n p sc ar kd pl sc2 ar2) (hod : od < 100) : ∃ v sc3 ar3, xF_252 p (nI od) m sc2 mr ar2 al = some (v, sc3, mr, ar3, al) ∧ (v = -1 ∨ ∃ j, j < 700 ∧ v = nI j) ∧ cB n p sc ar kd pl sc3 ar3 := by
  obtain ⟨v, sc3, ar3, e1, e2⟩ := cB_add (mr := mr) (al := al) (m := m) hp hB hod
  refine ⟨v, sc3, ar3, e1, ?_, e2⟩
  obtain ⟨a1, a2, a3, a4, ⟨L2, a5, a6⟩, a7, a8⟩ := hB
  by_cases c : L2 < 700
  · have := (c_adds (mr := mr) (al := al) (ar := ar2) (m := m) hod a6).1 c
    rw [e1] at this
    cases this
    exact Or.inr ⟨L2, c, rfl⟩
  · have := (c_adds (mr := mr) (al := al) (ar := ar2) (m := m) hod a6).2 (by omega) (by omega)
    rw [e1] at this
    cases this
    exact Or.inl rfl
theorem cB_land {kd pl : Nat} {sc2 ar2 : jSc} {v : Int32} (hB : cB n p sc ar kd pl sc2 ar2) (hv : v = -1 ∨ ∃ j, j < 700 ∧ v = nI j) : ∃ ar3, xF_253 p v sc2 mr ar2 al = some (sc2, mr, ar3, al) ∧ cB n p sc ar kd pl sc2 ar3 := by
  unfold xF_253
  rcases hv with rfl | ⟨j, hj, rfl⟩
  · exact ⟨ar2, if_pos (by decide), hB⟩
  · rw [if_neg (nI_pos (by omega))]
    split
    · exact ⟨ar2, rfl, hB⟩
    · rw [if_pos (iB_nI (by omega) (by decide))]
      refine ⟨_, rfl, hB.1, hB.2.1, hB.2.2.1, hB.2.2.2.1, hB.2.2.2.2.1, hB.2.2.2.2.2.1, fun b x y => ?_⟩
      rw [j_u2_row _ _ _ _ y]
      exact hB.2.2.2.2.2.2 b x y
end CK
def cPS (n : Nat) (tx : Nat → Int32) (p : Nat) (mr : Nat → Nat) (o : Nat) (f : xVn) (T : Nat → Nat → Nat → oS) : Prop := ∀ (sc ar : jSc) (al : jAl) (q L c : Nat), cK n tx p sc ar q o L → sc p 4 = nI c → c ≤ 60 →
  (∀ os q2 c2, T q L c = .inr (os, q2, c2) → q2 ≤ n ∧ q + os.length ≤ q2 ∧ q < q2 ∧ c2 ≤ 60 ∧ ∃ sc2 ar2, f sc mr ar al = some (sc2, mr, ar2, al) ∧ sc2 756 2 = nI q2 ∧ cT p (j_u2 sc p 4 (nI c2)) ar L os sc2 ar2) ∧
  (∀ kd pl, T q L c = .inl (kd, pl) → ∃ c2 sc2 ar2, f sc mr ar al = some (sc2, mr, ar2, al) ∧ cB n p (j_u2 sc p 4 (nI c2)) ar kd pl sc2 ar2)
