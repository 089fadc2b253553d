/-! THE CONSTRUCTORS (8): memory whose later cells are given beforehand; new T[n][m]; runs of the small machine over the cells that are there. -/
theorem kPgm_f {g : jM} {N : Nat} (h1 : g (kO N) = .inr (3, [.ref (kO (N + 1))])) (h2 : g (kO (N + 1)) = .inl (0, (50, .inl fun _ => 0))) : kPgm g N = g := by
  unfold kPgm
  rw [← va_ui h1, ← va_ui h2]
theorem kws_get {ad : Nat → Nat} {cy : Nat → ClassId} {f : jM} {N i : Nat} {x : Nat × va_E} (h : (j_ws (kOl N) ad cy f)[i]? = some x) : i < N ∧ x = (ad (kO i), j_tE ad cy (f (kO i))) := by
  unfold j_ws kOl at h
  rw [List.getElem?_map, List.getElem?_map] at h
  by_cases hi : i < N
  · rw [List.getElem?_range hi] at h
    cases h
    exact ⟨hi, rfl⟩
  · rw [List.getElem?_eq_none (by rw [List.length_range]; omega)] at h
    cases h
theorem kws_at {ad : Nat → Nat} {cy : Nat → ClassId} {f : jM} {N i : Nat} (hi : i < N) : (j_ws (kOl N) ad cy f)[i]? = some (ad (kO i), j_tE ad cy (f (kO i))) := by
  unfold j_ws kOl
  rw [List.getElem?_map, List.getElem?_map, List.getElem?_range hi]
  rfl
/-- what the machine does at new T[n][m]: proved in the last part -/
def kMna : Prop := ∀ (p : Program) (l : Launch) (e : Env) (R : Room) (s : State) (m : MethodId) (args : Array Value) (below : List Frame) (meth : Method) (c : Code) (H : Heap) (locs : List Loc) (cells slots : Nat) (Q : State → Prop) (pc : Nat) (ls : Array Slot) (rest : List Value) (own : String) (index : Nat) (ty : FieldType) (n k : Int32) (N' K' : Nat),
  p.tables.exec = Jvm.exec → s.vm.findClass own = some m.cls → (Cond.classLink own index ("[" ++ (FieldType.array ty).toString)).before args s = true → (Cond.arrayOver (.array ty)).before args s = true → (Cond.arrayClass ty).before args s = true → ¬ n < 0 → ¬ k < 0 → n.toNatClampNeg = N' → k.toNatClampNeg = K' → N' * 4 ≤ 536870912 → K' * componentBytes ty ≤ 536870912 → K' ≤ 536870912 → fits ty (defaultValue ty) = true → (defaultValue ty).isDefault = true → cells + (1 + N') ≤ R.cells → slots + (N' + N' * K') ≤ R.slots → decode c.code pc = .ok (.multianewarray index 2, 4) →
  (∀ (cA comp : ClassId) (H1 : Heap), s.vm.findClass ("[" ++ (FieldType.array ty).toString) = some cA → s.vm.findClass (FieldType.array ty).toString = some comp → H1.size = H.size + 1 + N' → (∀ x : Nat, x < H.size → H1[x]? = H[x]?) → H1[H.size]? = some (vp_cell cA (N', .inr (.inr (.inr (.inr (fun i => if i < N' then some (H.size + 1 + i) else none)))))) → (∀ j : Nat, j < N' → H1[H.size + 1 + j]? = some (arrV comp K' (fun _ => defaultValue ty))) →
    W p l e R s m args below meth c H1 locs (cells + 1 + N') (slots + N' + N' * K') Q (F0 m (pc + 4) ls (.ref H.size :: rest))) →
  W p l e R s m args below meth c H locs cells slots Q (F0 m pc ls (.int k :: .int n :: rest))
section KMN
variable {G : kG} {B0 : Nat} {co : Nat → Option Instr} {fl : Nat → Option (Nat × Nat × Nat)} {cn : Nat → Option Int32} {own : String} {cc : ByteArray} {mx k n pc pc2 : Nat} {lv : jV} {N : Nat} {f : jM} {r : List Value}
theorem kU_mna {index t ti N' K' : Nat} {ty : FieldType} {x y : Int32} {z : vp_A} {g : Nat → Option Nat} (hm : kMna) (hC : kD G B0 co fl cn own cc mx) (hPg : kPg G) (hN : N + N' < 824) (hi : co pc = some (.multianewarray index 2)) (w1 : Cond.classLink own index ("[" ++ (FieldType.array ty).toString) ∈ gB) (w2 : Cond.arrayClass ty ∈ gB) (hao : ∀ U, kAO U → kAOA ty U) (ht : ∀ (pg : String) (cy : Nat → ClassId), (j_cy pg cy kN)[t]? = some (cy t, .array ty)) (hti : ∀ (pg : String) (cy : Nat → ClassId), (j_cy pg cy kN)[ti]? = some (cy ti, ty)) (hra : ∀ (U : State) (q : ClassId), va_RA U q (.array ty) → U.vm.findClass ("[" ++ (FieldType.array ty).toString) = some q) (hri : ∀ (U : State) (q : ClassId), va_RA U q ty → U.vm.findClass (FieldType.array ty).toString = some q) (hx : ¬ x < 0) (hy : ¬ y < 0) (hx2 : x.toNatClampNeg = N') (hy2 : y.toNatClampNeg = K') (hb1 : N' * 4 ≤ 536870912) (hb2 : K' * componentBytes ty ≤ 536870912) (hb3 : K' ≤ 536870912) (hdf : fits ty (defaultValue ty) = true) (hdd : (defaultValue ty).isDefault = true) (hz : ∀ cA : ClassId, vp_cell cA z = arrV cA K' (fun _ => defaultValue ty)) (hat : ∀ ad : Nat → Nat, j_tA ad z = z) (hf0 : f (kO N) = .inl (t, (N', .inr (.inr (.inr (.inr g)))))) (hg : ∀ i, g i = if i < N' then some (kO (N + 1 + i)) else none) (hf1 : ∀ i, i < N' → f (kO (N + 1 + i)) = .inl (ti, z)) (hR : kRu G (k + (1 + N')) (n + (N' + N' * K'))) (hp : pc + 4 = pc2) (h : kU G B0 (k + 1 + N') (n + N' + N' * K') pc2 lv (.ref (kO N) :: r) (N + 1 + N') f) : kU G B0 k n pc lv (.int y :: .int x :: r) N f := by
  obtain ⟨p, l, e, R, s, m, args, below, meth, c, Q, D, pg, ad, cy, A⟩ := G
  obtain ⟨c1, c2, c3, c4, c5, c6, c7, c8, c9, c10, c11, c12, c13, c14⟩ := hC
  obtain ⟨rfl, hao2, -⟩ := hPg
  subst hp
  intro hsz H locs ls hP hD hS hl T hT X
  subst hT
  have hzz := k_next c14 X (by omega) hsz c13 hP
  have hadN : ∀ j, j < 824 → ad (kO j) = B0 + j := c13
  have hdec : decode c.code pc = .ok (.multianewarray index 2, 4) := by rw [c2]; exact c10 pc _ hi
  refine hm p l e R s m args below meth c T.heap locs k n Q pc ls (r.map (j_tv ad)) own index ty x y N' K' c1 c5 (c6 _ w1) (hao s hao2) (c6 _ w2) hx hy hx2 hy2 hb1 hb2 hb3 hdf hdd hR.1 hR.2 hdec (fun cA comp H1 f1 f2 f3 f4 f5 f6 => ?_) T rfl X
  have e1 : cA = cy t := Option.some.inj (f1.symm.trans (hra s _ (c7.2 t _ (ht _ cy)).2))
  have e2 : comp = cy ti := Option.some.inj (f2.symm.trans (hri s _ (c7.2 ti _ (hti _ cy)).2))
  subst e1
  subst e2
  have hP0 : va_P D gcl (j_ws (kOl N) ad cy f) H1 := hP.kept (fun k9 x hx => f4 x.1 (hP k9 x hx).lt)
  have := h (by omega) H1 locs ls (fun i q hq => by
      obtain ⟨hi, rfl⟩ := kws_get hq
      by_cases h1 : i < N
      · exact hP0 i _ (kws_at h1)
      · by_cases h2 : i = N
        · subst h2
          rw [hf0, hadN i (by omega)]
          show H1[B0 + i]? = some (vp_cell (cy t) (N', .inr (.inr (.inr (.inr (fun j => (g j).map ad))))))
          have eg : (fun j => (g j).map ad) = fun j => if j < N' then some (T.heap.size + 1 + j) else none := by
            funext j
            rw [hg j]
            by_cases h3 : j < N'
            · rw [if_pos h3, if_pos h3, Option.map_some, hadN _ (by omega), hzz]
              congr 1
              omega
            · rw [if_neg h3, if_neg h3]
              rfl
          rw [← hzz, f5, eg]
        · have h3 : kO i = kO (N + 1 + (i - N - 1)) := congrArg kO (by omega)
          have e9 : f (kO i) = .inl (ti, z) := by rw [h3]; exact hf1 _ (by omega)
          rw [e9, hadN i (by omega)]
          show H1[B0 + i]? = some (vp_cell (cy ti) (j_tA ad z))
          rw [hat, hz, ← f6 (i - N - 1) (by omega)]
          congr 1
          omega) ⟨fun i j x9 y9 h1 h2 h3 => by
      obtain ⟨a1, rfl⟩ := kws_get h1
      obtain ⟨a2, rfl⟩ := kws_get h2
      have h3 : ad (kO i) = ad (kO j) := h3
      rw [hadN i (by omega), hadN j (by omega)] at h3
      omega, fun i q hq => by
      obtain ⟨hi, rfl⟩ := kws_get hq
      by_cases h1 : i < N
      · exact hD.2 i _ (kws_at h1)
      · show A (ad (kO i))
        rw [hadN i (by omega)]
        have := hS.1
        exact c9 _ (by omega)⟩ ⟨by have := hS.1; omega, fun x h1 h2 => (f4 x (Nat.lt_of_lt_of_le h1 hS.1)).trans (hS.2.1 x h1 h2), hS.2.2⟩ hl
  rw [List.map_cons, show j_tv ad (.ref (kO N)) = .ref T.heap.size by rw [hzz, ← hadN N (by omega)]; rfl] at this
  exact this
end KMN
theorem k_cls_89 : ∀ a ∈ g_n (gX false), a ∈ kOl 89 := by
  intro a h
  rw [gn_f] at h
  obtain ⟨i, hi, rfl⟩ := List.mem_map.mp h
  have := List.mem_range.mp hi
  exact kOl_in.mpr ⟨i, by omega, if_pos (by omega)⟩
theorem k_ref_823 : ∀ a ∈ g_n gRX, a ∈ kOl 823 := by
  intro a h
  rw [gn_r] at h
  have := kRl_in.mp h
  exact kOl_in.mpr ⟨89 + a, by omega, by unfold kO; rw [if_neg (by omega), if_pos (by omega)]; omega⟩
theorem gW_c9 {S : Nat → Int32} {arv scv scv2 carv carv2 : jSc} {rf rf2 : jRf} {al al2 : jAl} {q d : Nat} {lv : jV} {r0 : Option Value} (hrf : ∀ a, a < 734 → rf2 a = rf a) (h : gW (gX false) q d 0 lv [] scv rf carv al (fun r sc' rf' ar' al' => r = r0 ∧ sc' = scv2 ∧ rf' = rf2 ∧ ar' = carv2 ∧ al' = al2)) : ∃ NN : Nat, j_run (kOl 89) (g_co (gX true)) (g_fl (gX true)) (g_cn (gX true)) (g_nt (gX true)) (g_ml (gX true)) (g_mx (gX true)) (g_rt (gX true)) NN q d 0 lv [] (j_lay kL (kSc S scv) rf (kAr arv carv) al) = some (r0, j_lay kL (kSc S scv2) rf2 (kAr arv carv2) (kAl al al2)) := by
  obtain ⟨N, r, sc', rf', ar', al', hrun, e1, e2, e3, e4, e5⟩ := h
  rw [e1, e2, e3, e4, e5] at hrun
  have hr := kt_run (j_run_fr (g := j_lay kL (kSc S scv) rf (kAr arv carv) al) k_cls_89 N q d 0 lv [] _ _ _ hrun)
  have f1 : km (g_n (gX false)) (j_lay kL (kSc S scv) rf (kAr arv carv) al) (j_lay (g_L (gX false)) scv rf carv al) = j_lay kL (kSc S scv) rf (kAr arv carv) al := by
    funext a
    by_cases ha : a ∈ g_n (gX false)
    · rw [km_in ha]
      exact klay_c (k_cls_ge ha) (k_cls_lt ha) rfl
    · exact if_neg ha
  have f2 : km (g_n (gX false)) (j_lay kL (kSc S scv) rf (kAr arv carv) al) (j_lay (g_L (gX false)) scv2 rf2 carv2 al2) = j_lay kL (kSc S scv2) rf2 (kAr arv carv2) (kAl al al2) := by
    funext a
    by_cases ha : a ∈ g_n (gX false)
    · rw [km_in ha]
      exact klay_c (k_cls_ge ha) (k_cls_lt ha) (kAl_n (by have := k_cls_lt ha; omega))
    · refine (if_neg ha : km (g_n (gX false)) _ _ a = _).trans ?_
      rcases k_out ha with h1 | rfl | ⟨h1, h2⟩
      · exact klay_r h1 (hrf a h1).symm
      · have hx : kL.1 823 = .inr (1, 1) := (kL_c (by decide)).trans rfl
        rw [jl_r hx, jl_r hx]
        unfold kEnt kAl
        rw [if_pos rfl, if_pos rfl, if_pos rfl]
      · cases hx : kL.1 a with
        | inl ci => exact absurd hx (h1 ci)
        | inr z =>
          obtain ⟨t, n⟩ := z
          rw [jl_r hx, jl_r hx]
          exact kEnt_6 (h2 t n hx)
  rw [f1, f2] at hr
  exact ⟨N, hr⟩
theorem gW_r9 {S S2 : Nat → Int32} {arv arv2 sc0 scv carv : jSc} {rf : jRf} {al : jAl} {q d : Nat} {lv : jV} {r0 : Option Value} (h : gW gRX q d 0 lv [] (va_up sc0 0 S) rf arv al (fun r sc' rf' ar' al' => r = r0 ∧ sc' = va_up sc0 0 S2 ∧ rf' = rf ∧ ar' = arv2 ∧ al' = al)) : ∃ NN : Nat, j_run (kOl 823) (g_co (gX true)) (g_fl (gX true)) (g_cn (gX true)) (g_nt (gX true)) (g_ml (gX true)) (g_mx (gX true)) (g_rt (gX true)) NN q d 0 lv [] (j_lay kL (kSc S scv) rf (kAr arv carv) al) = some (r0, j_lay kL (kSc S2 scv) rf (kAr arv2 carv) al) := by
  obtain ⟨N, r, sc', rf', ar', al', hrun, e1, e2, e3, e4, e5⟩ := h
  rw [e1, e2, e3, e4, e5] at hrun
  have hr := kr_run (j_run_fr (g := j_lay kL (kSc S scv) rf (kAr arv carv) al) k_ref_823 N q d 0 lv [] _ _ _ hrun)
  have key : ∀ (T : Nat → Int32) (au : jSc), km (g_n gRX) (j_lay kL (kSc S scv) rf (kAr arv carv) al) (j_lay (g_L gRX) (va_up sc0 0 T) rf au al) = j_lay kL (kSc T scv) rf (kAr au carv) al := by
    intro T au
    funext a
    by_cases ha : a < 734
    · rw [km_in (show a ∈ g_n gRX by rw [gn_r]; exact kRl_in.mpr ha)]
      obtain ⟨h0, ht⟩ := r_sh_t ha
      cases hx : r_sh a with
      | inl ci =>
        have e0 := h0 ci hx
        subst e0
        rw [jl_l ((gRX_r ha).trans hx), jl_l ((kL_r ha).trans hx), jfs_e (kL22r.trans (kL22 true).symm) ((if_pos rfl : va_up sc0 0 T 0 = T).trans (kSc_r ha).symm) rfl]
      | inr z =>
        obtain ⟨t, n⟩ := z
        rw [jl_r ((gRX_r ha).trans hx), jl_r ((kL_r ha).trans hx), kAr_r ha, kL21r, show kL.2.1 = _ from kL21 true]
    · have hn : ¬ a ∈ g_n gRX := fun z => ha (by rw [gn_r] at z; exact kRl_in.mp z)
      refine (if_neg hn : km (g_n gRX) _ _ a = _).trans ?_
      have ha : 734 ≤ a := by omega
      cases hx : x_sb true a with
      | inl ci =>
        rw [jl_l ((kL_c ha).trans hx), jl_l ((kL_c ha).trans hx), jfs_e rfl ((kSc_c ha).trans (kSc_c ha).symm) rfl]
      | inr z =>
        obtain ⟨t, n⟩ := z
        rw [jl_r ((kL_c ha).trans hx), jl_r ((kL_c ha).trans hx), kAr_c ha, kAr_c ha]
  rw [key, key] at hr
  exact ⟨N, hr⟩
