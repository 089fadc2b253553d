/-! THROWS: a run of the small machine that ends in 'throw new E()', in the method itself or in one that it calls. -/
def eN (E : Nat) : String := if E = 0 then "java/lang/IllegalArgumentException" else if E = 1 then "java/lang/IndexOutOfBoundsException" else "java/util/NoSuchElementException"
def eUp : List String := ["java/lang/RuntimeException", "java/lang/Exception"]
/-- the words of a throw that are not kept by every step: asked anew along the way -/
def eG : List Cond := [.castable (eN 0) (eN 0), .castable (eN 1) (eN 1), .castable (eN 2) (eN 2), .declares (Bundle.init0 "java/lang/RuntimeException"), .declares (Bundle.init0 "java/lang/Exception"), .declares (Bundle.init0 "java/lang/Throwable")]
theorem eG_t : ∀ w ∈ eG, w.onTables = true := by
  intro w hw
  simp only [eG, List.mem_cons, List.not_mem_nil, or_false] at hw
  rcases hw with rfl | rfl | rfl | rfl | rfl | rfl <;> rfl
def z_V (U : State) : Prop := ∀ w ∈ eG, va_Nw w U
theorem z_V.warm {s U : State} (hW : s.WarmedH U.vm) (h : z_V s) : z_V U := by
  intro w hw
  have h1 := h w hw
  simp only [eG, List.mem_cons, List.not_mem_nil, or_false] at hw
  rcases hw with rfl | rfl | rfl | rfl | rfl | rfl
  · exact va_Nw.warmC hW h1
  · exact va_Nw.warmC hW h1
  · exact va_Nw.warmC hW h1
  · exact va_Nw.warmD hW h1
  · exact va_Nw.warmD hW h1
  · exact va_Nw.warmD hW h1
section JT
variable (n0 : List Nat) (co : Nat → Nat → Option Instr) (fl : Nat → Nat → Option (Nat × Nat × Nat)) (cn : Nat → Nat → Option Int32) (nt : Nat → Nat → Nat) (ml : Nat → Nat → Option (Nat × Nat × Nat × Nat)) (mx rt : Nat → Nat) (th : Nat → Nat → Option Nat)
def j_thr : Nat → Nat → Nat → Nat → jV → List Value → jM → Nat → jM → Prop
  | 0, _, _, _, _, _, _, _, _ => False
  | N + 1, mid, d, pc, lv, st, f, E, f' =>
    (th mid pc = some E ∧ st = [] ∧ f' = f) ∨
    (∃ (i : Instr) (pc' : Nat) (lv' : jV) (st' : List Value) (f2 : jM), co mid pc = some i ∧ j_inv i = none ∧ j_step n0 (mx mid) (fl mid) (cn mid) (nt mid) i pc lv st f = some (pc', lv', st', f2) ∧ j_thr N mid d pc' lv' st' f2 E f') ∨
    (∃ (x q na ci N1 : Nat) (r : Option Value) (f1 : jM), co mid pc = some (.invokevirtual x) ∧ ml mid x = some (0, q, na, ci) ∧ j_can n0 f 0 ci na (mx q) d st = true ∧ j_run n0 co fl cn nt ml mx rt N1 q (d - 1) 0 (j_av (st.take (na + 1)).reverse) [] f = some (r, f1) ∧ j_thr N mid d (pc + 3) lv (r.toList ++ st.drop (na + 1)) f1 E f') ∨
    (∃ (x q na ci : Nat), co mid pc = some (.invokevirtual x) ∧ ml mid x = some (0, q, na, ci) ∧ j_can n0 f 0 ci na (mx q) d st = true ∧ j_thr N q (d - 1) 0 (j_av (st.take (na + 1)).reverse) [] f E f')
end JT
/-- what the tables say of the throws -/
def j_TH (B : List Cond) (th : Nat → Nat → Option Nat) (me : jMe) : Prop := ∀ mid pc E, th mid pc = some E → ∀ (y : MethodName) (cc : ByteArray) (maxL : Nat) (ret : Option FieldType), me mid = some (y, cc, maxL, ret) → Bundle.fit (eN E) = true ∧ ∃ ik ic : Nat, decode cc pc = .ok (.new ik, 3) ∧ decode cc (pc + 3) = .ok (.dup, 1) ∧ decode cc (pc + 4) = .ok (.invokespecial ic, 3) ∧ decode cc (pc + 7) = .ok (.athrow, 1) ∧ Jvm.Cond.classLink y.cls ik (eN E) ∈ B ∧ Jvm.Cond.initialized (eN E) ∈ B ∧ (∀ w ∈ (vx_at0 y.cls ic (eN E) eUp).filter goodWord, w ∈ B) ∧ ∀ w ∈ (vx_at0 y.cls ic (eN E) eUp).filter (fun w => !goodWord w), w ∈ eG
def z_U (A : Nat → Prop) (U : State) (H : Heap) : Prop := vx_Zq Bundle.tN "UNASSIGNED_STACK" Bundle.steD A U H ∧ vx_Zq Bundle.tN "SUPPRESSED_SENTINEL" Bundle.listD A U H ∧ z_V U
def j_XQ (D : va_G) (cl : List vw_C) (n0 : List Nat) (ad : Nat → Nat) (cy : Nat → ClassId) (A : Nat → Prop) (E : Nat) (f' : jM) : String → State → State → Prop := fun C st t => C = eN E ∧ va_P D cl (j_ws n0 ad cy f') t.heap ∧ va_D A (j_ws n0 ad cy f') ∧ va_F A st t
abbrev jRx (d : Nat) : Room := { frames := d + 6, cells := 1, slots := 6, locals := 41 * d + 100 }
def j_PX (D : va_G) (cl : List vw_C) (pg : String) (n0 : List Nat) (ad : Nat → Nat) (cy : Nat → ClassId) (sz : Nat) (vs : List Value) (f : jM) : Array Value → State → Prop := fun v U => j_P D cl pg n0 ad cy sz vs f v U ∧ z_U (va_A (j_ws n0 ad cy f) sz) U U.heap
theorem j_PX_blind {D : va_G} {cl : List vw_C} {pg : String} {n0 : List Nat} {ad : Nat → Nat} {cy : Nat → ClassId} {sz : Nat} {vs : List Value} {f : jM} : FrameBlind (j_PX D cl pg n0 ad cy sz vs f) := fun a U g mk q =>
  ⟨j_P_blind a U g mk q.1, vx_Zq.moved (u := U) (U := U.calling g mk a) (Vm.Alike.refl U.vm) q.2.1, vx_Zq.moved (u := U) (U := U.calling g mk a) (Vm.Alike.refl U.vm) q.2.2.1, fun w hw => va_Nw.same (eG_t w hw) (u := U) (U := U.calling g mk a) rfl (q.2.2.2 w hw)⟩
def j_SimX (l : Launch) (D : va_G) (cl : List vw_C) (pg : String) (n0 : List Nat) (ad : Nat → Nat) (cy : Nat → ClassId) (B : List Cond) (y : MethodName) (cc : ByteArray) (maxL : Nat) (d pc : Nat) (lv : jV) (st : List Value) (f : jM) (E : Nat) (f' : jM) : Prop :=
  ∀ (p : Program) (e : Env) (s : State) (m : MethodId) (args : Array Value) (below : List Frame) (meth : Method) (c : Code) (H : Heap) (locs : List Loc) (A : Nat → Prop) (ls : Array Slot),
    p.tables.exec = Jvm.exec → c.code = cc → c.maxLocals = maxL → meth.locks = false → (∀ x ∈ c.exceptionTable.toList, False) → s.vm.findClass y.cls = some m.cls → (∀ w ∈ B, w.before args s = true) → va_K D cl (j_cy pg cy n0) s → va_P D cl (j_ws n0 ad cy f) H → va_D A (j_ws n0 ad cy f) → z_K ad A s s.heap → z_U A s s.heap → va_S A s.heap H locs → (∀ q, s.heap.size ≤ q → A q) → j_has ad ls maxL lv →
    W p l e (jRx d) s m args below meth c H locs 0 0 (vx_MQ below (fun _ _ _ _ => False) (j_XQ D cl n0 ad cy A E f') args s 1 6 A) (F0 m pc ls (st.map (j_tv ad)))
theorem j_metX_of {l : Launch} {D : va_G} {cl : List vw_C} {pg : String} {n0 : List Nat} {ad : Nat → Nat} {cy : Nat → ClassId} {B : List Cond} {y : MethodName} {cc : ByteArray} {maxL : Nat} {ret : Option FieldType} {d : Nat} {vs : List Value} {f : jM} {E : Nat} {f' : jM} (hy : plainName y.cls = true) (hn : (lg_sl vs).length ≤ maxL)
    (h : j_SimX l D cl pg n0 ad cy B y cc maxL d 0 (j_av vs) [] f E f') (sz : Nat) :
    vx_Met l y (Jvm.Cond.code y cc maxL ret :: B) (jRx d) (j_PX D cl pg n0 ad cy sz vs f) (fun _ _ _ _ => False) (j_XQ D cl n0 ad cy (va_A (j_ws n0 ad cy f) sz) E f') 1 6 (va_A (j_ws n0 ad cy f) sz) := by
  refine vx_ofW (cc := cc) (maxL := maxL) (ret := ret) hy rfl ?_
  intro p e s m args below meth c s₁ Bd hml ht hv
  obtain ⟨⟨rfl, hP, hK, hD0, rfl, hZ⟩, hU⟩ := hv
  have hts := atoms_spec (ws := Jvm.Cond.code y cc maxL ret :: B) Bd.pre
  have hl := lv_entry (vs.map (j_tv ad)) (n := maxL) (by rw [j_sl_len]; exact hn)
  rw [lg_entry_eq]
  have hl := j_av_has hl
  exact h p e s m _ below meth c s.heap [] _ _ Bd.exec Bd.bytes hml Bd.notSynchronized ht (findClass_of_methodNamed Bd.named) (fun w hw => hts w (List.mem_cons_of_mem _ hw)) hK hP hD0.self hZ hU va_S.rf (fun q hq => Or.inr hq) hl
set_option maxHeartbeats 4000000 in
theorem j_simX {l : Launch} {D : va_G} {cl : List vw_C} {pg : String} {n0 : List Nat} {ad : Nat → Nat} {cy : Nat → ClassId} {B : List Cond} {co : Nat → Nat → Option Instr} {fl : Nat → Nat → Option (Nat × Nat × Nat)} {cn : Nat → Nat → Option Int32} {nt : Nat → Nat → Nat} {ml : Nat → Nat → Option (Nat × Nat × Nat × Nat)} {mx rt : Nat → Nat} {me : jMe} {th : Nat → Nat → Option Nat} (hl0 : l.stackTraces = false) (hn : n0.Nodup) (hMO : j_MO cl B co fl cn nt ml mx rt me) (hTH : j_TH B th me) :
    ∀ (N mid d pc : Nat) (lv : jV) (st : List Value) (f : jM) (E : Nat) (f' : jM), j_thr n0 co fl cn nt ml mx rt th N mid d pc lv st f E f' → ∀ (y : MethodName) (cc : ByteArray) (maxL : Nat) (ret : Option FieldType), me mid = some (y, cc, maxL, ret) → j_SimX l D cl pg n0 ad cy B y cc maxL d pc lv st f E f' := by
  intro N
  induction N with
  | zero => intro mid d pc lv st f E f' h; exact (h : False).elim
  | succ N ih =>
    intro mid d pc lv st f E f' h y cc maxL ret hme p e s m args below meth c H locs A ls hx hb hml hlocks htab hown hts hK hP hD hZ hU hS hA hl
    obtain ⟨hy, hmx, hrt, hco, hfl, hcn, hnt, hmlk⟩ := hMO.2 mid y cc maxL ret hme
    rw [j_thr] at h
    rcases h with ⟨h1, rfl, rfl⟩ | ⟨i, pc', lv', st', f2, hi, hinv, hst, hk⟩ | ⟨x, q, na, ci, N1, r, f1, hi, hq, hcan, hrun, hk⟩ | ⟨x, q, na, ci, hi, hq, hcan, hk⟩
    · obtain ⟨hf, ik, ic, d0, d3, d4, d7, w1, w2, w3, w4⟩ := hTH mid pc E h1 y cc maxL ret hme
      refine vx_throw0 (own := y.cls) (cls := eN E) (names := eUp) (ik := ik) (ic := ic) (A := A) hx hb hl0 hown hf (by decide) (hts _ w1) (hts _ w2) (vx_hat (B := eG) (fun w hw => hts w (w3 w hw)) w4 (fun w hw => va_Nw.use (eG_t w hw) (hU.2.2 w hw))) (fun w hw => ?_) hU.1 hU.2.1 hS (hl.1.trans hml.symm) d0 d3 d4 d7 (fun z hz => (htab z hz).elim) ?_ ?_ ?_ ?_ hlocks (fun t h1 h2 h3 => ⟨rfl, ?_, hD, ?_⟩) hS.2.2 (Nat.le_refl _) (Nat.le_refl _)
      · have hw2 : w ∈ B ∨ w ∈ eG := by
          rcases List.mem_cons.mp hw with rfl | hw
          · exact Or.inl w1
          · rcases List.mem_cons.mp hw with rfl | hw
            · exact Or.inl w2
            · by_cases g : goodWord w = true
              · exact Or.inl (w3 w (List.mem_filter.mpr ⟨hw, g⟩))
              · exact Or.inr (w4 w (List.mem_filter.mpr ⟨hw, by
                  show (!goodWord w) = true
                  cases hgw : goodWord w
                  · rfl
                  · exact absurd hgw g⟩))
        unfold vx_ot
        rcases hw2 with hw2 | hw2
        · rw [hMO.1 w hw2, Bool.or_true]
        · rw [eG_t w hw2, Bool.true_or]
      · show 2 + 3 < d + 6
        omega
      · show 0 + (13 * (2 + 1) + 42) ≤ 41 * d + 100
        omega
      · exact Nat.le_refl _
      · exact Nat.le_refl _
      · exact hP.kept (fun k q hk => h3 q.1 (hP k q hk).lt)
      · exact ⟨Nat.le_trans hS.1 h2, fun q h4 h5 => by rw [h3 q (Nat.lt_of_lt_of_le h4 hS.1)]; exact hS.2.1 q h4 h5⟩
    · have hd := hco pc i hi
      rw [hmx] at hst
      exact j_step_ok hn hx hb hown hts hfl hcn hK hP hD hZ hS hl hd hnt (hml.trans rfl) (fun z => by obtain ⟨x, rfl | rfl⟩ := z <;> cases hinv) hst (fun H' locs' ls' hP' hD' hS' hl' => ih mid d pc' lv' st' f2 E f' hk y cc maxL ret hme p e s m args below meth c H' locs' A ls' hx hb hml hlocks htab hown hts hK hP' hD' hZ hU hS' hA hl')
    · have hd := hco pc _ hi
      obtain ⟨y1, cc1, maxL1, ret1, g1, g2, g3, g4, g5, g6, g7⟩ := hmlk x _ hq
      obtain ⟨hy1, hmx1, -⟩ := hMO.2 q y1 cc1 maxL1 ret1 g1
      simp only [j_can, Bool.and_eq_true, Bool.or_eq_true, decide_eq_true_eq] at hcan
      obtain ⟨⟨⟨⟨⟨c1, c2⟩, c3⟩, c4⟩, c5⟩, c6⟩ := hcan
      rw [hmx1] at c4 c5
      have c7 : j_rc n0 f ci na st = true := by
        rcases c6 with c6 | c6
        · cases c6
        · exact c6.2
      have hMet := j_met_of hy1 c4 (j_sim hn hMO N1 q (d - 1) 0 _ [] f r f1 hrun y1 cc1 maxL1 ret1 g1 : j_Sim l D cl pg n0 ad cy B y1 cc1 maxL1 ret1 (d - 1) 0 _ [] f r f1) H.size
      have hfree : ∀ q : Nat, va_A (j_ws n0 ad cy f) H.size q → A q := fun q hq => by
        rcases hq with ⟨k, e9, hk⟩ | hk
        · exact hD.2 k _ hk
        · exact hA q (Nat.le_trans hS.1 hk)
      have kk : ∀ (H1 : Heap) (locs1 : List Loc), va_P D cl (j_ws n0 ad cy f1) H1 → va_D A (j_ws n0 ad cy f1) → va_S A s.heap H1 locs1 → W p l e (jRx d) s m args below meth c H1 locs1 0 0 (vx_MQ below (fun _ _ _ _ => False) (j_XQ D cl n0 ad cy A E f') args s 1 6 A) (F0 m (pc + 3) ls ((r.map (j_tv ad)).toList ++ (st.drop (na + 1)).map (j_tv ad))) := by
        intro H1 locs1 hP1 hD1 hS1
        have e1 : (r.map (j_tv ad)).toList ++ (st.drop (na + 1)).map (j_tv ad) = (r.toList ++ st.drop (na + 1)).map (j_tv ad) := by
          rw [List.map_append]
          cases r <;> rfl
        rw [e1]
        exact ih mid d (pc + 3) lv _ f1 E f' hk y cc maxL ret hme p e s m args below meth c H1 locs1 A ls hx hb hml hlocks htab hown hts hK hP1 hD1 hZ hU hS1 hA hl
      have hR : (jRm (d - 1)).frames + 1 ≤ (jRx d).frames ∧ 8 + (maxL1 + 11) + (jRm (d - 1)).locals ≤ (jRx d).locals := by
        refine ⟨?_, ?_⟩
        · show d - 1 + 4 + 1 ≤ d + 6
          omega
        · show 8 + (maxL1 + 11) + (41 * (d - 1) + 100) ≤ 41 * d + 100
          omega
      have hPre : ∀ (vs : List Value) (U : State), U.heap = H → s.WarmedH U.vm → j_P D cl pg n0 ad cy H.size vs f (vs.map (j_tv ad)).toArray U := fun vs U hU hW => ⟨rfl, by rw [hU]; exact hP, va_K.moved hW.alike hK, hD.weaken (fun _ _ _ _ => trivial), by rw [hU], by rw [hU]; exact ((hZ.kept hS.2.1).narrow hfree).warm hW⟩
      obtain ⟨⟨T1, Nn, g61⟩, g62, g63⟩ := g6 rfl
      have hG : GoodIn B (wsV y.cls x y1.cls y1 (Jvm.Cond.code y1 cc1 maxL1 ret1 :: B)) := by
        refine j_good_call hMO.1 (fun w hw => ?_) g2
        simp only [List.mem_cons, List.not_mem_nil, or_false] at hw
        rcases hw with rfl | rfl | rfl | rfl
        · exact g3
        · exact g62
        · exact g63
        · exact g4
      unfold j_rc at c7
      split at c7
      · rename_i a ha
        obtain ⟨fs, hfs⟩ := Option.isSome_iff_exists.mp c7
        obtain ⟨hlt, hfa⟩ := j_ob_ok hfs
        obtain ⟨As, s1, s2, s3⟩ := j_recv_split (ad := ad) ha
        obtain ⟨i9, hi9, he⟩ := j_ws_at (ad := ad) (cy := cy) (f := f) hlt
        rw [hfa] at he
        have e0 : na + 1 - 0 = na + 1 := rfl
        rw [e0] at c2 c3 c4 hMet
        rw [s2] at hMet
        rw [s3]
        refine j_call (va_runV (As := As.map (j_tv ad)) (rest := (st.drop (na + 1)).map (j_tv ad)) ⟨hx, hb, hml, hown, hts⟩ hMet (cwV na hts hG rfl rfl rfl ⟨rfl, g5⟩ hR) ⟨j_P_blind, va_recv hK hP g61 he, hPre (.ref a :: As)⟩ rfl (by rw [List.length_map]; exact s1) hl.1 rfl (lv_room (by rw [j_catsum]; exact c3)) hd ⟨Nat.zero_le _, Nat.zero_le _⟩) hS hfree kk
      · cases c7
    · have hd := hco pc _ hi
      obtain ⟨y1, cc1, maxL1, ret1, g1, g2, g3, g4, g5, g6, g7⟩ := hmlk x _ hq
      obtain ⟨hy1, hmx1, -⟩ := hMO.2 q y1 cc1 maxL1 ret1 g1
      simp only [j_can, Bool.and_eq_true, Bool.or_eq_true, decide_eq_true_eq] at hcan
      obtain ⟨⟨⟨⟨⟨c1, c2⟩, c3⟩, c4⟩, c5⟩, c6⟩ := hcan
      rw [hmx1] at c4 c5
      have c7 : j_rc n0 f ci na st = true := by
        rcases c6 with c6 | c6
        · cases c6
        · exact c6.2
      have hMet := j_metX_of (ret := ret1) hy1 c4 (ih q (d - 1) 0 _ [] f E f' hk y1 cc1 maxL1 ret1 g1 : j_SimX l D cl pg n0 ad cy B y1 cc1 maxL1 (d - 1) 0 _ [] f E f') H.size
      have hfree : ∀ q : Nat, va_A (j_ws n0 ad cy f) H.size q → A q := fun q hq => by
        rcases hq with ⟨k, e9, hk⟩ | hk
        · exact hD.2 k _ hk
        · exact hA q (Nat.le_trans hS.1 hk)
      have hR : (jRx (d - 1)).frames + 1 ≤ (jRx d).frames ∧ 8 + (maxL1 + 11) + (jRx (d - 1)).locals ≤ (jRx d).locals := by
        refine ⟨?_, ?_⟩
        · show d - 1 + 6 + 1 ≤ d + 6
          omega
        · show 8 + (maxL1 + 11) + (41 * (d - 1) + 100) ≤ 41 * d + 100
          omega
      have hPre : ∀ (vs : List Value) (U : State), U.heap = H → s.WarmedH U.vm → j_PX D cl pg n0 ad cy H.size vs f (vs.map (j_tv ad)).toArray U := fun vs U hU9 hW => ⟨⟨rfl, by rw [hU9]; exact hP, va_K.moved hW.alike hK, hD.weaken (fun _ _ _ _ => trivial), by rw [hU9], by rw [hU9]; exact ((hZ.kept hS.2.1).narrow hfree).warm hW⟩, by rw [hU9]; exact vx_Zq.moved hW.alike ((hU.1.kept hS.2.1).narrow hfree), by rw [hU9]; exact vx_Zq.moved hW.alike ((hU.2.1.kept hS.2.1).narrow hfree), hU.2.2.warm hW⟩
      obtain ⟨⟨T1, Nn, g61⟩, g62, g63⟩ := g6 rfl
      have hG : GoodIn B (wsV y.cls x y1.cls y1 (Jvm.Cond.code y1 cc1 maxL1 ret1 :: B)) := by
        refine j_good_call hMO.1 (fun w hw => ?_) g2
        simp only [List.mem_cons, List.not_mem_nil, or_false] at hw
        rcases hw with rfl | rfl | rfl | rfl
        · exact g3
        · exact g62
        · exact g63
        · exact g4
      unfold j_rc at c7
      split at c7
      · rename_i a ha
        obtain ⟨fs, hfs⟩ := Option.isSome_iff_exists.mp c7
        obtain ⟨hlt, hfa⟩ := j_ob_ok hfs
        obtain ⟨As, s1, s2, s3⟩ := j_recv_split (ad := ad) ha
        obtain ⟨i9, hi9, he⟩ := j_ws_at (ad := ad) (cy := cy) (f := f) hlt
        rw [hfa] at he
        have e0 : na + 1 - 0 = na + 1 := rfl
        rw [e0] at c2 c3 c4 hMet
        rw [s2] at hMet
        rw [s3]
        have run := vx_runV (As := As.map (j_tv ad)) (rest := (st.drop (na + 1)).map (j_tv ad)) (g := F0 m pc ls ((As.map (j_tv ad)).reverse ++ .ref (ad a) :: (st.drop (na + 1)).map (j_tv ad))) (p := p) (e := e) (R := jRx d) (below := below) (meth := meth) (locs := locs) (cells := 0) (slots := 0) ⟨hx, hb, hml, hown, hts⟩ hMet (cwV na hts hG rfl rfl rfl ⟨rfl, g5⟩ hR) ⟨j_PX_blind, va_recv hK hP g61 he, hPre (.ref a :: As)⟩ rfl (by rw [List.length_map]; exact s1) hl.1 rfl (lv_room (by rw [j_catsum]; exact c3)) hd ⟨Nat.le_refl _, Nat.le_refl _⟩
        intro T hT X
        rcases run T hT X with ⟨v, st₀, t, T', L, h0, X', hL, e1, e2, hF, st9⟩ | ⟨q9, st₀, t, T', L, E9, ce, h0, X', hL, e1, e2, ⟨hE, hp, hd', hF⟩, hce, hcv, hcl, st9⟩
        · exact hF.elim
        · subst hE
          obtain ⟨k1, k2, k3⟩ := vx_keep (A0 := A) (H0 := s.heap) h0 e1 hS (fun q _ hq => hfree q hq) hfree hL hF
          have W' := vx_out (p := p) (l := l) (e := e) (R := jRx d) (s := s) (m := m) (args := args) (below := below) (meth := meth) (c := c) (H := T'.heap) (locs := locs ++ L) (cells := 0 + 1) (slots := 0 + 6) (pc := pc) (ls := ls) (rest := (st.drop (na + 1)).map (j_tv ad)) (Qc := fun _ _ _ _ => False) (XC := j_XQ D cl n0 ad cy A E f') (mc := 1) (ms := 6) (free := A) (E := eN E) (ce := ce) (q := q9) (fun z hz => (htab z hz).elim) hlocks (by rw [e1]; exact hce) hcv hcl (fun t9 ht9 _ => ⟨rfl, by rw [ht9, e1]; exact hp, hd'.weaken (fun _ q _ h => hfree q.1 h), k3.F ht9⟩) k3.2.2 (Nat.le_refl _) (Nat.le_refl _)
          obtain ⟨t2, a1, b1⟩ := W' T' rfl X'
          exact ⟨t2, st9.trans a1, b1⟩
      · cases c7
theorem j_metX {l : Launch} {D : va_G} {cl : List vw_C} {pg : String} {n0 : List Nat} {ad : Nat → Nat} {cy : Nat → ClassId} {B : List Cond} {co : Nat → Nat → Option Instr} {fl : Nat → Nat → Option (Nat × Nat × Nat)} {cn : Nat → Nat → Option Int32} {nt : Nat → Nat → Nat} {ml : Nat → Nat → Option (Nat × Nat × Nat × Nat)} {mx rt : Nat → Nat} {me : jMe} {th : Nat → Nat → Option Nat} (hl0 : l.stackTraces = false) (hnd : n0.Nodup) (hMO : j_MO cl B co fl cn nt ml mx rt me) (hTH : j_TH B th me) {N mid d : Nat} {vs : List Value} {f : jM} {E : Nat} {f' : jM} {y : MethodName} {cc : ByteArray} {maxL : Nat} {ret : Option FieldType} (hme : me mid = some (y, cc, maxL, ret)) (hn : (lg_sl vs).length ≤ maxL) (h : j_thr n0 co fl cn nt ml mx rt th N mid d 0 (j_av vs) [] f E f') (sz : Nat) :
    vx_Met l y (Jvm.Cond.code y cc maxL ret :: B) (jRx d) (j_PX D cl pg n0 ad cy sz vs f) (fun _ _ _ _ => False) (j_XQ D cl n0 ad cy (va_A (j_ws n0 ad cy f) sz) E f') 1 6 (va_A (j_ws n0 ad cy f) sz) :=
  j_metX_of (hMO.2 mid y cc maxL ret hme).1 hn (j_simX hl0 hnd hMO hTH N mid d 0 _ [] f E f' h y cc maxL ret hme) sz
