/-! j_sim: a run of the small machine is a run of the machine. -/
theorem j_good_call {B : List Cond} (hB : ∀ w ∈ B, goodWord w = true) {L : List Cond} {x : Cond} (h : ∀ w ∈ L, w ∈ B) (hx : x ∈ B) : GoodIn B (L ++ (x :: B)) := by
  intro w hw
  have hm : w ∈ B := by
    rcases List.mem_append.mp hw with h1 | h1
    · exact h w h1
    · rcases List.mem_cons.mp h1 with rfl | h2
      · exact hx
      · exact h2
  exact ⟨hm, good_of_word (hB w hm)⟩
theorem j_drop_take {ad : Nat → Nat} {st : List Value} {k : Nat} : st.map (j_tv ad) = (((st.take k).reverse).map (j_tv ad)).reverse ++ (st.drop k).map (j_tv ad) := by
  rw [← List.map_reverse, List.reverse_reverse, ← List.map_append, List.take_append_drop]
theorem j_recv_split {ad : Nat → Nat} {st : List Value} {na a : Nat} (h : st[na]? = some (.ref a)) : ∃ As : List Value, As.length = na ∧ (st.take (na + 1)).reverse = .ref a :: As ∧ st.map (j_tv ad) = ((As.map (j_tv ad)).reverse ++ .ref (ad a) :: (st.drop (na + 1)).map (j_tv ad)) := by
  have hlt : na < st.length := (List.getElem?_eq_some_iff.mp h).1
  refine ⟨(st.take na).reverse, by simp; omega, ?_, ?_⟩
  · rw [List.take_succ, h]
    simp
  · have e : st = st.take na ++ (.ref a :: st.drop (na + 1)) := by
      have e1 : st.drop na = .ref a :: st.drop (na + 1) := by
        rw [List.drop_eq_getElem_cons hlt]
        congr 1
        exact (List.getElem?_eq_some_iff.mp h).2
      rw [← e1, List.take_append_drop]
    conv => lhs; rw [e]
    rw [List.map_append, ← List.map_reverse, List.reverse_reverse]
    rfl
theorem j_catsum {ad : Nat → Nat} (st : List Value) : ((st.map (j_tv ad)).map fun v => v.category).sum = (st.map fun v => v.category).sum := by
  rw [List.map_map]
  congr 1
  apply List.map_congr_left
  intro v _
  exact j_cat ad v
set_option maxHeartbeats 4000000 in
theorem j_sim {l : Launch} {D : va_G} {cl : List vw_C} {pg : String} {n0 : List Nat} {ad : Nat → Nat} {cy : Nat → ClassId} {B : List Cond} {co : Nat → Nat → Option Instr} {fl : Nat → Nat → Option (Nat × Nat × Nat)} {cn : Nat → Nat → Option Int32} {nt : Nat → Nat → Nat} {ml : Nat → Nat → Option (Nat × Nat × Nat × Nat)} {mx rt : Nat → Nat} {me : jMe} (hn : n0.Nodup) (hMO : j_MO cl B co fl cn nt ml mx rt me) :
    ∀ (N mid d pc : Nat) (lv : jV) (st : List Value) (f : jM) (r : Option Value) (f' : jM), j_run n0 co fl cn nt ml mx rt N mid d pc lv st f = some (r, f') → ∀ (y : MethodName) (cc : ByteArray) (maxL : Nat) (ret : Option FieldType), me mid = some (y, cc, maxL, ret) → j_Sim l D cl pg n0 ad cy B y cc maxL ret d pc lv st f r f' := by
  intro N
  induction N with
  | zero => intro mid d pc lv st f r f' h; simp [j_run] at h
  | succ N ih =>
    intro mid d pc lv st f r f' h y cc maxL ret hme p e s m args below meth c H locs A ls hx hb hml hr hlocks hown hts hK hP hD hZ hS hA hl
    obtain ⟨hy, hmx, hrt, hco, hfl, hcn, hnt, hmlk⟩ := hMO.2 mid y cc maxL ret hme
    rw [j_run] at h
    split at h
    · cases h
    · rename_i i hi
      have hd := hco pc i hi
      split at h
      · rename_i r' hret
        cases h
        unfold j_ret at hret
        split at hret
        · split at hret
          · rename_i v
            split at hret
            · rename_i hv
              cases hret
              rcases hv with hv | ⟨hv, hv2⟩
              · rw [hv] at hrt
                exact W.iret hx hb (hr.trans hrt) (fun t ht hW => ⟨rfl, by rw [ht]; exact hP, hD, hS.F ht⟩) hS.2.2 hd hlocks
              · rw [hv] at hrt
                exact W.zret hx hb (hr.trans hrt) (by rcases hv2 with rfl | rfl <;> decide) (fun t ht hW => ⟨rfl, by rw [ht]; exact hP, hD, hS.F ht⟩) hS.2.2 hd hlocks
            · cases hret
          · cases hret
        · split at hret
          · rename_i v
            split at hret
            · rename_i hv
              cases hret
              rw [hv] at hrt
              exact W.lret hx hb (hr.trans hrt) (fun t ht hW => ⟨rfl, by rw [ht]; exact hP, hD, hS.F ht⟩) hS.2.2 hd hlocks
            · cases hret
          · cases hret
        · split at hret
          · split at hret
            · rename_i hv
              cases hret
              rw [hv] at hrt
              exact W.vret hx hb (hr.trans hrt) (fun t ht hW => ⟨rfl, by rw [ht]; exact hP, hD, hS.F ht⟩) hS.2.2 hd hlocks
            · cases hret
          · cases hret
        · cases hret
      · split at h
        · rename_i kd x hinv
          split at h
          · rename_i kd' q na ci hq
            split at h
            · rename_i hcan
              obtain ⟨rfl, hcan⟩ := hcan
              split at h
              · rename_i r1 f1 hrun
                obtain ⟨y1, cc1, maxL1, ret1, g1, g2, g3, g4, g5, g6, g7⟩ := hmlk x _ hq
                obtain ⟨hy1, hmx1, -⟩ := hMO.2 q y1 cc1 maxL1 ret1 g1
                simp only [j_can, Bool.and_eq_true, Bool.or_eq_true, decide_eq_true_eq] at hcan
                obtain ⟨⟨⟨⟨⟨c1, c2⟩, c3⟩, c4⟩, c5⟩, c6⟩ := hcan
                rw [hmx1] at c4 c5
                have hMet := j_met_of hy1 c4 (ih q (d - 1) 0 _ [] f r1 f1 hrun y1 cc1 maxL1 ret1 g1 : j_Sim l D cl pg n0 ad cy B y1 cc1 maxL1 ret1 (d - 1) 0 _ [] f r1 f1) H.size
                have hfree : ∀ q : Nat, va_A (j_ws n0 ad cy f) H.size q → A q := fun q hq => by
                  rcases hq with ⟨k, e9, hk⟩ | hk
                  · exact hD.2 k _ hk
                  · exact hA q (Nat.le_trans hS.1 hk)
                have kk : ∀ (H1 : Heap) (locs1 : List Loc), va_P D cl (j_ws n0 ad cy f1) H1 → va_D A (j_ws n0 ad cy f1) → va_S A s.heap H1 locs1 → W p l e (jRm d) s m args below meth c H1 locs1 0 0 (MQ below (j_Q D cl n0 ad cy A r f') args s 0 0 A) (F0 m (pc + 3) ls ((r1.map (j_tv ad)).toList ++ (st.drop (na + 1 - kd')).map (j_tv ad))) := by
                  intro H1 locs1 hP1 hD1 hS1
                  have e1 : (r1.map (j_tv ad)).toList ++ (st.drop (na + 1 - kd')).map (j_tv ad) = (r1.toList ++ st.drop (na + 1 - kd')).map (j_tv ad) := by
                    rw [List.map_append]
                    cases r1 <;> rfl
                  rw [e1]
                  exact ih mid d (pc + 3) lv _ f1 r f' h y cc maxL ret hme p e s m args below meth c H1 locs1 A ls hx hb hml hr hlocks hown hts hK hP1 hD1 hZ hS1 hA hl
                have hR : (jRm (d - 1)).frames + 1 ≤ (jRm d).frames ∧ 8 + (maxL1 + 11) + (jRm (d - 1)).locals ≤ (jRm d).locals := by
                  refine ⟨?_, ?_⟩
                  · show d - 1 + 4 + 1 ≤ d + 4
                    omega
                  · show 8 + (maxL1 + 11) + (41 * (d - 1) + 100) ≤ 41 * d + 100
                    omega
                have hPre : ∀ (vs : List Value) (U : State), U.heap = H → s.WarmedH U.vm → j_P D cl pg n0 ad cy H.size vs f (vs.map (j_tv ad)).toArray U := fun vs U hU hW => ⟨rfl, by rw [hU]; exact hP, va_K.moved hW.alike hK, hD.weaken (fun _ _ _ _ => trivial), by rw [hU], by rw [hU]; exact ((hZ.kept hS.2.1).narrow hfree).warm hW⟩
                rcases c6 with c6 | ⟨c6, c7⟩
                · subst c6
                  have hix : i = .invokestatic x := by
                    unfold j_inv at hinv
                    split at hinv <;> cases hinv
                    rfl
                  subst hix
                  have hG : GoodIn B (va_wsS y.cls x y1 (Jvm.Cond.code y1 cc1 maxL1 ret1 :: B)) := by
                    refine j_good_call hMO.1 (fun w hw => ?_) g2
                    simp only [List.mem_cons, List.not_mem_nil, or_false] at hw
                    rcases hw with rfl | rfl | rfl
                    · exact g3
                    · exact g7 rfl
                    · exact g4
                  have e0 : na + 1 - 1 = na := by omega
                  rw [e0] at c2 c3 c4 kk hMet
                  refine j_call (va_runS (As := (st.take na).reverse.map (j_tv ad)) (rest := (st.drop na).map (j_tv ad)) ⟨hx, hb, hml, hown, hts⟩ hMet (va_cwS na hts hG rfl rfl rfl g5 hR) ⟨j_P_blind, hPre _⟩ rfl (by simp; omega) hl.1 j_drop_take (lv_room (by rw [j_catsum]; exact c3)) hd ⟨Nat.le_refl _, Nat.le_refl _⟩) hS hfree kk
                · subst c6
                  have hix : i = .invokevirtual x := by
                    unfold j_inv at hinv
                    split at hinv <;> cases hinv
                    rfl
                  subst hix
                  obtain ⟨⟨T1, N1, g61⟩, g62, g63⟩ := g6 rfl
                  have hG : GoodIn B (wsV y.cls x y1.cls y1 (Jvm.Cond.code y1 cc1 maxL1 ret1 :: B)) := by
                    refine j_good_call hMO.1 (fun w hw => ?_) g2
                    simp only [List.mem_cons, List.not_mem_nil, or_false] at hw
                    rcases hw with rfl | rfl | rfl | rfl
                    · exact g3
                    · exact g62
                    · exact g63
                    · exact g4
                  unfold j_rc at c7
                  split at c7
                  · rename_i a ha
                    obtain ⟨fs, hfs⟩ := Option.isSome_iff_exists.mp c7
                    obtain ⟨hlt, hfa⟩ := j_ob_ok hfs
                    obtain ⟨As, s1, s2, s3⟩ := j_recv_split (ad := ad) ha
                    obtain ⟨i9, hi9, he⟩ := j_ws_at (ad := ad) (cy := cy) (f := f) hlt
                    rw [hfa] at he
                    have e0 : na + 1 - 0 = na + 1 := rfl
                    rw [e0] at c2 c3 c4 kk hMet
                    rw [s2] at hMet
                    rw [s3]
                    refine j_call (va_runV (As := As.map (j_tv ad)) (rest := (st.drop (na + 1)).map (j_tv ad)) ⟨hx, hb, hml, hown, hts⟩ hMet (cwV na hts hG rfl rfl rfl ⟨rfl, g5⟩ hR) ⟨j_P_blind, va_recv hK hP g61 he, hPre (.ref a :: As)⟩ rfl (by rw [List.length_map]; exact s1) hl.1 rfl (lv_room (by rw [j_catsum]; exact c3)) hd ⟨Nat.le_refl _, Nat.le_refl _⟩) hS hfree kk
                  · cases c7
              · cases h
            · cases h
          · split at h
            · rename_i hd1
              split at h
              · rename_i pc' lv' st' f2 hst
                rw [hmx] at hst
                exact j_step_ok hn hx hb hown hts hfl hcn hK hP hD hZ hS hl hd hnt (hml.trans rfl) (fun _ => ⟨by show 4 ≤ d + 4; omega, by show 100 ≤ 41 * d + 100; omega, Nat.le_refl _, Nat.le_refl _⟩) hst (fun H' locs' ls' hP' hD' hS' hl' => ih mid d pc' lv' st' f2 r f' h y cc maxL ret hme p e s m args below meth c H' locs' A ls' hx hb hml hr hlocks hown hts hK hP' hD' hZ hS' hA hl')
              · cases h
            · cases h
        · rename_i hinv
          split at h
          · rename_i pc' lv' st' f2 hst
            rw [hmx] at hst
            exact j_step_ok hn hx hb hown hts hfl hcn hK hP hD hZ hS hl hd hnt (hml.trans rfl) (fun z => by obtain ⟨x, rfl | rfl⟩ := z <;> cases hinv) hst (fun H' locs' ls' hP' hD' hS' hl' => ih mid d pc' lv' st' f2 r f' h y cc maxL ret hme p e s m args below meth c H' locs' A ls' hx hb hml hr hlocks hown hts hK hP' hD' hZ hS' hA hl')
          · cases h
