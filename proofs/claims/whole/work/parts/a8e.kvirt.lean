/-! THE CONSTRUCTORS (7): a virtual call of the small machine, memory that is alike, Arrays.fill. -/
section KVT
variable {G : kG} {B0 : Nat} {co : Nat → Option Instr} {fl : Nat → Option (Nat × Nat × Nat)} {cn : Nat → Option Int32} {own : String} {cc : ByteArray} {mx k n pc pc2 : Nat} {lv : jV} {N : Nat} {f f' : jM}
theorem kU_eqv {st : List Value} (he : ∀ j, j < N → f (kO j) = f' (kO j)) (h : kU G B0 k n pc lv st N f') : kU G B0 k n pc lv st N f := by
  obtain ⟨p, l, e, R, s, m, args, below, meth, c, Q, D, pg, ad, cy, A⟩ := G
  have e : ∀ (ad : Nat → Nat) (cy : Nat → ClassId), j_ws (kOl N) ad cy f = j_ws (kOl N) ad cy f' := fun ad cy => by
    unfold j_ws
    refine List.map_congr_left fun a ha => ?_
    obtain ⟨j, h1, h2⟩ := kOl_in.mp ha
    rw [← h2, he j h1]
  intro hsz H locs ls hP hD hS hl
  rw [e] at hP hD
  exact h hsz H locs ls hP hD hS hl
set_option maxHeartbeats 4000000 in
theorem kU_callV {x q na ci a mq d NN : Nat} {st args0 rest fs : List Value} (hC : kD G B0 co fl cn own cc mx) (hN : N ≤ 824) (hi : co pc = some (.invokevirtual x)) (hm : j_ML gcl gB g_me own x (0, q, na, ci)) (ht : (st.take (na + 1)).reverse = args0) (hd : st.drop (na + 1) = rest) (ha : st[na]? = some (.ref a)) (hs : j_ob (kOl N) f a ci = some fs) (hq : g_mx (gX true) q = mq) (hz : l_sz rest args0 mq = true) (hRo : kRo G (d + 5) (41 * (d + 1) + 100)) (hR : kRu G k n) (hrun : j_run (kOl N) (g_co (gX true)) (g_fl (gX true)) (g_cn (gX true)) (g_nt (gX true)) (g_ml (gX true)) (g_mx (gX true)) (g_rt (gX true)) NN q d 0 (j_av args0) [] f = some (none, f')) (hp : pc + 3 = pc2) (h : kU G B0 k n pc2 lv rest N f') : kU G B0 k n pc lv st N f := by
  obtain ⟨p, l, e, R, s, m, args, below, meth, c, Q, D, pg, ad, cy, A⟩ := G
  obtain ⟨c1, c2, c3, c4, c5, c6, c7, c8, c9, c10, c11, c12, c13, c14⟩ := hC
  subst ht
  subst hd
  subst hp
  obtain ⟨z1, z2, z3⟩ := l_sz_ok hz
  intro hsz H locs ls hP hD hS hl
  obtain ⟨y1, cc1, maxL1, ret1, g1, g2, g3, g4, g5, g6, g7⟩ := hm
  obtain ⟨hy1, hmx1, -⟩ := (g_MO true).2 q y1 cc1 maxL1 ret1 g1
  have hmq : mq = maxL1 := hq.symm.trans hmx1
  subst hmq
  have hMet := j_met (l := l) (D := D) (pg := pg) (ad := ad) (cy := cy) (kOl_nd N hN) (g_MO true) g1 z2 hrun H.size
  have hfree : ∀ q : Nat, va_A (j_ws (kOl N) ad cy f) H.size q → A q := fun q hq => by
    rcases hq with ⟨k9, e9, hk9⟩ | hk9
    · exact hD.2 k9 _ hk9
    · exact c9 q (Nat.le_trans hS.1 hk9)
  have hRm : (jRm d).frames + 1 ≤ R.frames ∧ 8 + (mq + 11) + (jRm d).locals ≤ R.locals := by
    obtain ⟨r1, r2⟩ := hRo
    refine ⟨?_, ?_⟩
    · show d + 4 + 1 ≤ R.frames
      omega
    · show 8 + (mq + 11) + (41 * d + 100) ≤ R.locals
      omega
  have hPre : ∀ (vs : List Value) (U : State), U.heap = H → s.WarmedH U.vm → j_P D gcl pg (kOl N) ad cy H.size vs f (vs.map (j_tv ad)).toArray U := fun vs U hU9 hW => ⟨rfl, by rw [hU9]; exact hP, va_K.moved hW.alike (kKn _ c7), hD.weaken (fun _ _ _ _ => trivial), by rw [hU9], by rw [hU9]; exact ((c8.kept hS.2.1).narrow hfree).warm hW⟩
  obtain ⟨⟨T1, Nn, g61⟩, g62, g63⟩ := g6 rfl
  have hG : GoodIn gB (wsV own x y1.cls y1 (Jvm.Cond.code y1 cc1 mq ret1 :: gB)) := by
    refine j_good_call gB_good (fun w hw => ?_) g2
    simp only [List.mem_cons, List.not_mem_nil, or_false] at hw
    rcases hw with rfl | rfl | rfl | rfl
    · exact g3
    · exact g62
    · exact g63
    · exact g4
  obtain ⟨hlt, hfa⟩ := j_ob_ok hs
  obtain ⟨As, s1, s2, s3⟩ := j_recv_split (ad := ad) ha
  obtain ⟨i9, hi9, he⟩ := j_ws_at (ad := ad) (cy := cy) (f := f) hlt
  rw [hfa] at he
  rw [s2] at hMet
  rw [s3]
  intro T hT X
  obtain ⟨v9, st₀, t, T', L, h0, X', hL, e1, e2, ⟨hv9, hp9, hd9, hz9, hk9⟩, st9⟩ := va_runV (As := As.map (j_tv ad)) (rest := (st.drop (na + 1)).map (j_tv ad)) (g := F0 m pc ls ((As.map (j_tv ad)).reverse ++ .ref (ad a) :: (st.drop (na + 1)).map (j_tv ad))) (p := p) (e := e) (R := R) (below := below) (meth := meth) (locs := locs) (cells := k) (slots := n) ⟨c1, c2, c3, c5, c6⟩ hMet (cwV na c6 hG rfl rfl rfl ⟨rfl, g5⟩ hRm) ⟨j_P_blind, va_recv (kKn (kOl N) c7) hP g61 he, hPre (.ref a :: As)⟩ rfl (by rw [List.length_map]; exact s1) (hl.1.trans c3) rfl (lv_room (by rw [j_catsum]; exact z1)) (c10 pc _ hi) hR T hT X
  cases hv9
  rw [h0] at hz9 hk9
  have k2 := h hsz T'.heap (locs ++ L) ls (by rw [e1]; exact hp9) (hd9.weaken (fun _ q _ h => hfree q.1 h))
    ⟨Nat.le_trans hS.1 (by rw [e1]; exact hz9), fun q h1 h2 => by rw [e1, hk9 q (Nat.lt_of_lt_of_le h1 hS.1) (fun z => h2 (hfree q z))]; exact hS.2.1 q h1 h2, fun q hq => by
      rcases List.mem_append.mp hq with h | h
      · exact hS.2.2 q h
      · exact hfree _ (hL q h)⟩ hl
  obtain ⟨t2, a1, b1⟩ := k2 T' rfl X'
  exact ⟨t2, st9 t2 a1, b1⟩
end KVT
/-! Arrays.fill over one row of 17 alone -/
def fX (a : Nat) : jX := (x_co, x_fl, x_cn, x_ml, x_mx, x_rt, ((fun x => if x = a then .inr (0, 17) else .inr (9, 0)), x_rr, x_nf, x_fk), [a], x_nt, fun x => if x = a then .inr (0, 17) else .inr (9, 0))
theorem fX_s (a x : Nat) : (g_L (fX a)).1 x = if x = a then .inr (0, 17) else .inr (9, 0) := by
  show (if x < r_n then (if x = a then .inr (0, 17) else .inr (9, 0)) else (if x = a then .inr (0, 17) else .inr (9, 0)) : Nat ⊕ (Nat × Nat)) = _
  split <;> rfl
theorem fX_a (a : Nat) : (g_L (fX a)).1 a = .inr (0, 17) := by
  rw [fX_s, if_pos rfl]
theorem fX_LK (a : Nat) : j_LK (g_n (fX a)) (g_L (fX a)) := by
  intro x h
  by_cases hx : x = a
  · subst hx
    exact List.mem_singleton.mpr rfl
  · rw [fX_s, if_neg hx] at h
    exact absurd h (show ¬ (9 : Nat) < 6 by decide)
def fM1 (i : Nat) : Nat → Int32 := fun j => if j < i then -1 else 0
theorem fM1_s (i : Nat) (ar : jSc) (a : Nat) (h : ar a = fM1 i) : j_u2 ar a i (-1) a = fM1 (i + 1) := by
  funext j
  unfold j_u2 fM1
  by_cases h1 : j = i
  · subst h1
    simp
  · have h2 : (j < i + 1) = (j < i) := by
      apply propext
      omega
    simp only [h1, h2, and_false, if_false, true_and]
    rw [h]
    rfl
set_option maxHeartbeats 4000000 in
theorem ff_loop {a d : Nat} {Post : jPo} : ∀ (nn i : Nat) (sc : jSc) (rf : jRf) (ar : jSc) (al : jAl), i + nn = 17 → ar a = fM1 i → (∀ ar', ar' a = fM1 17 → Post none sc rf ar' al) → gL (fX a) 503 (d + 1) 5 [some (.ref a), some (.int (-1)), some (.int (nI i)), some (.int (nI 17))] [] sc rf ar al Post := by
  intro nn
  induction nn with
  | zero =>
    intro i sc rf ar al h1 h2 hP
    refine gl_iload_n (fX_LK a) rfl rfl rfl ?_
    refine gl_iload_n (fX_LK a) rfl rfl rfl ?_
    refine gl_ic_ge (fX_LK a) rfl rfl rfl (fun c1 => ?_) (fun c1 => ?_)
    · exact gl_return rfl rfl (hP ar (by rw [h2, show i = 17 by omega]))
    · exfalso
      apply c1
      rw [show i = 17 by omega]
      exact Int32.le_refl _
  | succ nn ih =>
    intro i sc rf ar al h1 h2 hP
    refine gl_iload_n (fX_LK a) rfl rfl rfl ?_
    refine gl_iload_n (fX_LK a) rfl rfl rfl ?_
    refine gl_ic_ge (fX_LK a) rfl rfl rfl (fun c1 => ?_) (fun c1 => ?_)
    · exact absurd (nI_lt (a := i) (b := 17) (by omega) (by omega)) (Int32.not_lt.mpr c1)
    · refine gl_aload_n (fX_LK a) rfl rfl rfl ?_
      refine gl_iload_n (fX_LK a) rfl rfl rfl ?_
      refine gl_iload_n (fX_LK a) rfl rfl rfl ?_
      refine gl_iastore (ar2 := (j_u2 ar a (iN (nI i)) (-1))) (fX_LK a) rfl (fX_a a) (iB_nI (by omega) (by omega)) rfl rfl ?_
      refine gl_iinc (vs2 := [some (.ref a), some (.int (-1)), some (.int (nI i + (1 : Int32))), some (.int (nI 17))]) (fX_LK a) rfl rfl rfl rfl ci_1 rfl rfl ?_
      refine gl_goto (fX_LK a) rfl rfl ?_
      have e : nI i + 1 = nI (i + 1) := (Int32.ofNat_add i 1).symm
      show gL (fX a) 503 (d + 1) 5 [some (.ref a), some (.int (-1)), some (.int (nI i + 1)), some (.int (nI 17))] [] sc rf (j_u2 ar a (iN (nI i)) (-1)) al Post
      rw [e, iN_nI (by omega)]
      exact ih (i + 1) sc rf _ al (by omega) (fM1_s i ar a h2) hP
theorem ff_run {a d : Nat} : ∃ NN : Nat, ∀ (n1 : List Nat) (f : jM), a ∈ n1 → f a = .inl (0, (17, .inl fun _ => 0)) → j_run n1 (g_co (gX true)) (g_fl (gX true)) (g_cn (gX true)) (g_nt (gX true)) (g_ml (gX true)) (g_mx (gX true)) (g_rt (gX true)) NN 503 (d + 1) 0 (j_av [.ref a, .int (-1)]) [] f = some (none, va_up f a (.inl (0, (17, .inl (fM1 17))))) := by
  have h : gW (fX a) 503 (d + 1) 0 (j_av [.ref a, .int (-1)]) [] (fun _ _ => 0) (fun _ _ => 0) (fun _ _ => 0) (fun _ _ => 0) (fun r _ _ ar' _ => r = none ∧ ar' a = fM1 17) := by
    refine gl_entry (m := 2) rfl ?_
    show gL (fX a) 503 (d + 1) 0 [some (.ref a), some (.int (-1)), none, none] [] _ _ _ _ _
    refine gl_iconst (fX_LK a) rfl ci_0 rfl ?_
    refine gl_istore_n (vs2 := [some (.ref a), some (.int (-1)), some (.int (0 : Int32)), none]) (fX_LK a) rfl rfl rfl rfl rfl ?_
    refine gl_aload_n (fX_LK a) rfl rfl rfl ?_
    refine gl_arraylength (fX_LK a) rfl (fX_a a) (Or.inl (by decide)) rfl ?_
    refine gl_istore_n (vs2 := [some (.ref a), some (.int (-1)), some (.int (0 : Int32)), some (.int (nI 17))]) (fX_LK a) rfl rfl rfl rfl rfl ?_
    exact ff_loop 17 0 _ _ _ _ rfl (by funext j; simp [fM1]) (fun ar' h => ⟨rfl, h⟩)
  obtain ⟨NN, r, sc', rf', ar', al', hr, rfl, h2⟩ := h
  refine ⟨NN, fun n1 f ha hf => ?_⟩
  have hr2 := j_run_fr (g := f) (n1 := n1) (fun x hx => by rw [List.mem_singleton.mp hx]; exact ha) NN 503 (d + 1) 0 _ [] _ _ _ hr
  have f1 : ∀ (s1 : jSc) (q1 : jRf) (r1 : jSc) (l1 : jAl), km (g_n (fX a)) f (j_lay (g_L (fX a)) s1 q1 r1 l1) = va_up f a (.inl (0, (17, .inl (r1 a)))) := by
    intro s1 q1 r1 l1
    funext x
    by_cases hx : x = a
    · subst hx
      refine (km_in (show x ∈ g_n (fX x) from List.mem_singleton.mpr rfl)).trans ?_
      rw [jl_r (fX_a x)]
      simp [va_up, kEnt]
    · have hn : ¬ x ∈ g_n (fX a) := fun z => hx (List.mem_singleton.mp z)
      refine (if_neg hn).trans ?_
      simp [va_up, hx]
  rw [f1, f1, h2, ← va_ui hf] at hr2
  exact hr2
