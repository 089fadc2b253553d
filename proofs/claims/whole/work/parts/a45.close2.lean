/-! WORDS LOST: the search in ClickOrders. -/
section CM
variable {S0 : Nat → Int32} {ar0 : jSc} {S : Nat → Int32} {ar : jSc} {mr : Nat → Nat} {al : jAl} {pr n p m : Nat} {tx : Nat → Int32} {g : pG} {st : wSt}
/-- nothing is lost by v, and nothing new within d behind it -/
def wOk (S0 : Nat → Int32) (ar0 : jSc) (m d : Nat) (st : wSt) (w c : Nat) : Prop := ¬ 0 < (wNx S0 ar0 st w c).2 ∧ ((wNx S0 ar0 st w c).1 = st ∨ wLs S0 ar0 m d (wNx S0 ar0 st w c).1 = false)
theorem cLf_rf {b : Nat} {sc car : jSc} (h : cE pr n tx g p m S0 ar0 sc car mr) : cLf b sc car sc car := ⟨fun _ _ _ => rfl, fun _ _ _ _ => rfl, fun _ _ => rfl, h.2.2⟩
/-- the two windows are copied, one of them takes the happening -/
theorem c_119 {b w c : Nat} {sc car : jSc} (hE : cE pr n tx g p m S0 ar0 sc car mr) (h16 : S0 16 = 0) (h : cWs b st car) (hw : w < 2) (hb : b + 2 ≤ 8) (hc : c < 13) (hcan : aCan ar0 m (wPg st w) c = true) {g250 : Int32 → Int32 → jSc → (Nat → Nat) → jSc → jAl → Option (Int32 × jSc × (Nat → Nat) × jSc × jAl)} {k56 : Int32 → Int32 → Int32 → Int32 → Nat → Int32 → Int32 → jSc → (Nat → Nat) → jSc → jAl → Option (Int32 × jSc × (Nat → Nat) × jSc × jAl)} {x2 y0 : Int32} {p5 : Nat} :
    ∃ sc2 car2, xF_250_119 g250 k56 (nI b) x2 (nI (b + 2)) (nI w) p5 (nI c) y0 sc mr car al = (if 0 < (wNx S0 ar0 st w c).2 then some ((1 : Int32), sc2, mr, car2, al) else (o_b5 (g250 (nI (b + 2)) (x2 - (1 : Int32)) sc2 mr car2 al) (fun ve13 sce13 mre13 are13 ale13 => (if ve13 = 0 then k56 (nI b) x2 (nI (b + 2)) (nI w) p5 y0 (nI (c + 1)) sce13 mre13 are13 ale13 else some ((1 : Int32), sce13, mre13, are13, ale13))))) ∧ cWs (b + 2) (wNx S0 ar0 st w c).1 car2 ∧ cE pr n tx g p m S0 ar0 sc2 car2 mr ∧ cLf b sc car sc2 car2 := by
  have b0 : iB (nI b) 10 := iB_nI (by omega) (by decide)
  have b1 : iB (nI (b + 1)) 10 := iB_nI (by omega) (by decide)
  have b2 : iB (nI (b + 2)) 10 := iB_nI (by omega) (by decide)
  have b3 : iB (nI (b + 2 + 1)) 10 := iB_nI (by omega) (by decide)
  have i0 : iN (nI b) = b := iN_nI (by omega)
  have i1 : iN (nI (b + 1)) = b + 1 := iN_nI (by omega)
  have i2 : iN (nI (b + 2)) = b + 2 := iN_nI (by omega)
  have i3 : iN (nI (b + 2 + 1)) = b + 2 + 1 := iN_nI (by omega)
  -- the copies
  have cp : ∀ (q r : Nat) (f : jSc), q ≠ r → ∃ f2, (∀ (sc : jSc) (al : jAl), xF_226 (799 + 2 * q) (799 + 2 * r) sc mr f al = some (sc, mr, f2, al)) ∧ (∀ k, k < 50 → f2 (800 + 2 * q) k = f (800 + 2 * r) k) ∧ ∀ z, z ≠ 800 + 2 * q → f2 z = f z := by
    intro q r f hqr
    refine ⟨_, fun sc al => rfl, fun k hk => ?_, fun z hz => va_up_ne _ _ (by omega)⟩
    rw [show 800 + 2 * q = 799 + 2 * q + 1 by omega, va_up_self, cpy_in (show iN (0 : Int32) ≤ k from Nat.zero_le _) (show k < iN (0 : Int32) + iN (50 : Int32) by rw [show iN (0 : Int32) = 0 from rfl, show iN (50 : Int32) = 50 from rfl]; omega), show 799 + 2 * r + 1 = 800 + 2 * r by omega, show iN (0 : Int32) + (k - iN (0 : Int32)) = k by rw [show iN (0 : Int32) = 0 from rfl]; omega]
  obtain ⟨f1, p1, p2, p3⟩ := cp (b + 2) b car (by omega)
  obtain ⟨f2, q1, q2, q3⟩ := cp (b + 2 + 1) (b + 1) f1 (by omega)
  generalize hF3 : j_u2 (j_u2 f2 798 (b + 2) (f2 798 b)) 798 (b + 2 + 1) ((j_u2 f2 798 (b + 2) (f2 798 b)) 798 (b + 1)) = f3
  have r3 : ∀ z, z ≠ 798 → f3 z = f2 z := fun z hz => by rw [← hF3, j_u2_row _ _ _ _ hz, j_u2_row _ _ _ _ hz]
  have f798 : f2 798 = car 798 := by rw [q3 798 (by omega), p3 798 (by omega)]
  have s2 : f3 798 (b + 2) = car 798 b := by rw [← hF3, u2_nk (by omega), u2_eq, f798]
  have s3 : f3 798 (b + 2 + 1) = car 798 (b + 1) := by rw [← hF3, u2_eq, u2_nk (by omega), f798]
  have so : ∀ k, k < b + 2 → f3 798 k = car 798 k := fun k hk => by rw [← hF3, u2_nk (by omega), u2_nk (by omega), f798]
  have F3 : cLf b sc car sc f3 := ⟨fun _ _ _ => rfl, fun z u v w => by rw [r3 z v, q3 z (by omega), p3 z (by omega)], so, hE.2.2⟩
  have hE3 := cE_Lf hE F3
  have h3 : cWs (b + 2) st f3 := by
    obtain ⟨ar, hst, t1, t2, t3, t4, t5⟩ := h
    refine ⟨ar, hst, pgR_C t1 (fun k hk => ?_), pgR_C t2 (fun k hk => ?_), by rw [s2]; exact t3, by rw [s3]; exact t4, t5⟩
    · rw [r3 _ (by omega), q3 _ (by omega), p2 k (by omega)]
    · rw [r3 _ (by omega), q2 k (by omega), p3 _ (by omega)]
  obtain ⟨sc2, car2, m1, m2, m3⟩ := c_mv (al := al) hE3 h16 h3 hw (show b + 2 ≤ 8 from hb) hc hcan
  have F4 : cLf b sc f3 sc2 car2 := ⟨m3.1, fun z u v w => m3.2.1 z u v (by omega) (by omega), fun k hk => m3.2.2.1 k (by omega) (by omega), m3.2.2.2⟩
  have FF := cLf_tr F3 F4
  refine ⟨sc2, car2, ?_, m2, cE_Lf hE FF, FF⟩
  unfold xF_250_119
  rw [if_pos b2, if_pos b0, i2, i0, p1, ob4, nI_1, nI_1, if_pos b3, if_pos b1, i3, i1, q1, ob4, if_pos b0, if_pos b2, if_pos b1, if_pos b3, hF3, m1, ob5, nI_1]
/-- loses -/
theorem c_lose (h16 : S0 16 = 0) : ∀ (d f b : Nat) (sc car : jSc) (st : wSt), b + 2 * d ≤ 8 → d < f → cE pr n tx g p m S0 ar0 sc car mr → cWs b st car → ∃ v sc2 car2, xG_250 f (nI b) (nI d) sc mr car al = some (v, sc2, mr, car2, al) ∧ iV v (wLs S0 ar0 m d st = true) ∧ cLf b sc car sc2 car2 := by
  intro d
  induction d with
  | zero =>
    intro f b sc car st _ hf hE h
    obtain ⟨f, rfl⟩ : ∃ j, f = j + 1 := ⟨f - 1, by omega⟩
    refine ⟨0, sc, car, ?_, Or.inr ⟨by show ¬ false = true; decide, rfl⟩, cLf_rf hE⟩
    show xF_250 (xG_250 f) (nI b) (nI 0) sc mr car al = _
    unfold xF_250
    rw [if_pos (show nI 0 ≤ (0 : Int32) by decide)]
  | succ d ihd =>
    intro f b sc car st hbd hf hE h
    obtain ⟨f, rfl⟩ : ∃ j, f = j + 1 := ⟨f - 1, by omega⟩
    -- the codes of one window
    have inner : ∀ (k21 : Int32 → Int32 → Int32 → Int32 → jSc → (Nat → Nat) → jSc → jAl → Option (Int32 × jSc × (Nat → Nat) × jSc × jAl)) (w : Nat), w < 2 → ∀ (r c nn : Nat) (x6 : Int32) (sc1 car1 : jSc), c + r = 13 → r < nn → cLf b sc car sc1 car1 → (x6 = 0 ∨ x6 = 1) → (x6 = 1 → ∀ c', aIdl g c' = true → aCan ar0 m (wPg st w) c' = true → wOk S0 ar0 m d st w c') → (∀ c', c' < c → aCan ar0 m (wPg st w) c' = true → wOk S0 ar0 m d st w c') →
        (∃ sc2 car2, xF_250_56 (xG_250 f) k21 nn (nI b) (nI (d + 1)) (nI (b + 2)) (nI w) (799 + 2 * (b + w)) x6 (nI c) sc1 mr car1 al = some (1, sc2, mr, car2, al) ∧ wLs S0 ar0 m (d + 1) st = true ∧ cLf b sc car sc2 car2) ∨ (∃ sc2 car2, xF_250_56 (xG_250 f) k21 nn (nI b) (nI (d + 1)) (nI (b + 2)) (nI w) (799 + 2 * (b + w)) x6 (nI c) sc1 mr car1 al = k21 (nI b) (nI (d + 1)) (nI (b + 2)) (nI (w + 1)) sc2 mr car2 al ∧ (∀ c', c' < 13 → aCan ar0 m (wPg st w) c' = true → wOk S0 ar0 m d st w c') ∧ cLf b sc car sc2 car2) := by
      intro k21 w hw r
      induction r with
      | zero =>
        intro c nn x6 sc1 car1 h1 h2 h3 h4 h5 h6
        obtain ⟨nn, rfl⟩ : ∃ j, nn = j + 1 := ⟨nn - 1, by omega⟩
        have c13 : c = 13 := by omega
        subst c13
        refine Or.inr ⟨sc1, car1, ?_, h6, h3⟩
        rw [xF_250_56]
        rw [if_pos (show (13 : Int32) ≤ nI 13 by decide), nI_1]
      | succ r ih =>
        intro c nn x6 sc1 car1 h1 h2 h3 h4 h5 h6
        obtain ⟨nn, rfl⟩ : ∃ j, nn = j + 1 := ⟨nn - 1, by omega⟩
        have hE1 := cE_Lf hE h3
        have hs1 := cWs_L h h3
        have hc : c < 13 := by omega
        have mp : mr 3 = p := hE.1.2.2.2.1
        have xp : x_pr p = true := hE.1.2.1.1
        have hR := cWs_pg hs1 hw
        have may : xF_206 (799 + 2 * (b + w)) (nI c) sc1 mr car1 al = some (if aCan ar0 m (wPg st w) c = true then 1 else 0, sc1, mr, car1, al) := cE_may (pp := 799 + 2 * (b + w)) hE1 (by rw [show 799 + 2 * (b + w) + 1 = 800 + 2 * (b + w) by omega]; exact hR) hc
        have nx : ∀ (x6' : Int32) (sc2 car2 : jSc), cLf b sc car sc2 car2 → (x6' = 0 ∨ x6' = 1) → (x6' = 1 → ∀ c', aIdl g c' = true → aCan ar0 m (wPg st w) c' = true → wOk S0 ar0 m d st w c') → (aCan ar0 m (wPg st w) c = true → wOk S0 ar0 m d st w c) → _ := fun x6' sc2 car2 a1 a2 a3 a4 => ih (c + 1) nn x6' sc2 car2 (by omega) (by omega) a1 a2 a3 (fun c' hc' hcan => by
          by_cases z : c' = c
          · subst z; exact a4 hcan
          · exact h6 c' (by omega) hcan)
        rw [xF_250_56]
        rw [if_neg (show ¬ (13 : Int32) ≤ nI c from nI_ge (b := 13) (by omega) (by decide)), mp, if_pos xp, c_idl hE1 hc, ob5, nI_1]
        -- what is tried
        have tried : ∀ x8 : Int32, (aIdl g c = true → x8 = 1) → (¬ aIdl g c = true → x8 = 0) → (aIdl g c = true → x6 = 0) → (∃ sc2 car2, xF_250_87 (xG_250 f) (fun x1_ x2_ x3_ x4_ p5_ x6_ x7_ sc_ mr_ ar_ al_ => xF_250_56 (xG_250 f) k21 nn x1_ x2_ x3_ x4_ p5_ x6_ x7_ sc_ mr_ ar_ al_) (nI b) (nI (d + 1)) (nI (b + 2)) (nI w) (799 + 2 * (b + w)) x6 (nI c) x8 sc1 mr car1 al = some (1, sc2, mr, car2, al) ∧ wLs S0 ar0 m (d + 1) st = true ∧ cLf b sc car sc2 car2) ∨ (∃ sc2 car2, xF_250_87 (xG_250 f) (fun x1_ x2_ x3_ x4_ p5_ x6_ x7_ sc_ mr_ ar_ al_ => xF_250_56 (xG_250 f) k21 nn x1_ x2_ x3_ x4_ p5_ x6_ x7_ sc_ mr_ ar_ al_) (nI b) (nI (d + 1)) (nI (b + 2)) (nI w) (799 + 2 * (b + w)) x6 (nI c) x8 sc1 mr car1 al = k21 (nI b) (nI (d + 1)) (nI (b + 2)) (nI (w + 1)) sc2 mr car2 al ∧ (∀ c', c' < 13 → aCan ar0 m (wPg st w) c' = true → wOk S0 ar0 m d st w c') ∧ cLf b sc car sc2 car2) := by
          intro x8 e1 e2 e3
          unfold xF_250_87
          rw [may, ob5, nI_1]
          by_cases cn : aCan ar0 m (wPg st w) c = true
          · rw [if_pos cn, if_neg (show ¬ (1 : Int32) = 0 by decide)]
            -- the answer, for any y0
            have ans : ∀ y0 : Int32, (y0 = 0 ∨ y0 = 1) → (y0 = 1 → x6 = 1 ∨ aIdl g c = true) → (∃ sc2 car2, xF_250_119 (xG_250 f) (fun x1_ x2_ x3_ x4_ p5_ x6_ x7_ sc_ mr_ ar_ al_ => xF_250_56 (xG_250 f) k21 nn x1_ x2_ x3_ x4_ p5_ x6_ x7_ sc_ mr_ ar_ al_) (nI b) (nI (d + 1)) (nI (b + 2)) (nI w) (799 + 2 * (b + w)) (nI c) y0 sc1 mr car1 al = some (1, sc2, mr, car2, al) ∧ wLs S0 ar0 m (d + 1) st = true ∧ cLf b sc car sc2 car2) ∨ (∃ sc2 car2, xF_250_119 (xG_250 f) (fun x1_ x2_ x3_ x4_ p5_ x6_ x7_ sc_ mr_ ar_ al_ => xF_250_56 (xG_250 f) k21 nn x1_ x2_ x3_ x4_ p5_ x6_ x7_ sc_ mr_ ar_ al_) (nI b) (nI (d + 1)) (nI (b + 2)) (nI w) (799 + 2 * (b + w)) (nI c) y0 sc1 mr car1 al = k21 (nI b) (nI (d + 1)) (nI (b + 2)) (nI (w + 1)) sc2 mr car2 al ∧ (∀ c', c' < 13 → aCan ar0 m (wPg st w) c' = true → wOk S0 ar0 m d st w c') ∧ cLf b sc car sc2 car2) := by
              intro y0 hy0 hy1
              have vv : (13 * w + c) / 13 = w ∧ (13 * w + c) % 13 = c := by omega
              obtain ⟨sc2, car2, t1, t2, t3, t4⟩ := c_119 (al := al) hE1 h16 hs1 hw (show b + 2 ≤ 8 by omega) hc cn (g250 := xG_250 f) (k56 := fun x1_ x2_ x3_ x4_ p5_ x6_ x7_ sc_ mr_ ar_ al_ => xF_250_56 (xG_250 f) k21 nn x1_ x2_ x3_ x4_ p5_ x6_ x7_ sc_ mr_ ar_ al_) (x2 := nI (d + 1)) (y0 := y0) (p5 := 799 + 2 * (b + w))
              rw [t1, show nI (d + 1) - (1 : Int32) = nI d from nI_pred d]
              by_cases lo : 0 < (wNx S0 ar0 st w c).2
              · rw [if_pos lo]
                refine Or.inl ⟨sc2, car2, rfl, wLs_i.mpr ⟨13 * w + c, by omega, by rw [vv.1, vv.2]; exact cn, Or.inl (by rw [vv.1, vv.2]; exact lo)⟩, cLf_tr h3 t4⟩
              · rw [if_neg lo]
                obtain ⟨v, sc4, car4, u1, u2, u3⟩ := ihd f (b + 2) sc2 car2 _ (by omega) (by omega) t3 t2
                have F4 : cLf b sc car sc4 car4 := cLf_tr h3 (cLf_tr t4 (cLf_u (by omega) u3))
                rw [u1, ob5]
                rcases u2 with ⟨x, y⟩ | ⟨x, y⟩
                · rw [y, if_neg (show ¬ (1 : Int32) = 0 by decide)]
                  exact Or.inl ⟨sc4, car4, rfl, wLs_i.mpr ⟨13 * w + c, by omega, by rw [vv.1, vv.2]; exact cn, Or.inr (by rw [vv.1, vv.2]; exact x)⟩, F4⟩
                · rw [y, if_pos rfl]
                  have okc : wOk S0 ar0 m d st w c := ⟨lo, Or.inr (by simpa using x)⟩
                  refine nx y0 sc4 car4 F4 hy0 (fun e => ?_) (fun _ => okc)
                  rcases hy1 e with z | z
                  · exact h5 z
                  · intro c' hi' hcan'
                    refine ⟨by rw [wI_0 hE1 h16 hs1 hw (by omega) hi' hcan']; decide, ?_⟩
                    rw [wI_eq hE1 h16 hs1 hw (by omega) hi' hcan' z cn]
                    exact okc.2
            rcases h4 with z | z
            · rw [if_pos z]
              by_cases y : aIdl g c = true
              · rw [if_neg (by rw [e1 y]; decide)]
                exact ans 1 (Or.inr rfl) (fun _ => Or.inr y)
              · rw [if_pos (e2 y)]
                exact ans 0 (Or.inl rfl) (fun k => absurd k (by decide))
            · rw [if_neg (by rw [z]; decide)]
              exact ans 1 (Or.inr rfl) (fun _ => Or.inl z)
          · rw [if_neg cn, if_pos rfl]
            exact nx x6 sc1 car1 h3 h4 h5 (fun k => absurd k cn)
        by_cases y : aIdl g c = true
        · rw [if_pos y, if_neg (show ¬ (1 : Int32) = 0 by decide)]
          rcases h4 with z | z
          · rw [if_pos z]
            exact tried 1 (fun _ => rfl) (fun k => absurd y k) (fun _ => z)
          · rw [if_neg (by rw [z]; decide)]
            exact nx x6 sc1 car1 h3 (Or.inr z) h5 (fun k => h5 z c y k)
        · rw [if_neg y, if_pos (show (0 : Int32) = 0 from rfl)]
          exact tried 0 (fun k => absurd k y) (fun _ => rfl) (fun k => absurd k y)
    -- the windows
    have outer : ∀ (r w nn : Nat) (sc1 car1 : jSc), w + r = 2 → r < nn → cLf b sc car sc1 car1 → (∀ w', w' < w → ∀ c', c' < 13 → aCan ar0 m (wPg st w') c' = true → wOk S0 ar0 m d st w' c') → ∃ v sc2 car2, xF_250_21 (xG_250 f) nn (nI b) (nI (d + 1)) (nI (b + 2)) (nI w) sc1 mr car1 al = some (v, sc2, mr, car2, al) ∧ iV v (wLs S0 ar0 m (d + 1) st = true) ∧ cLf b sc car sc2 car2 := by
      intro r
      induction r with
      | zero =>
        intro w nn sc1 car1 h1 h2 h3 h4
        obtain ⟨nn, rfl⟩ : ∃ j, nn = j + 1 := ⟨nn - 1, by omega⟩
        have w2 : w = 2 := by omega
        subst w2
        rw [xF_250_21]
        rw [if_pos (show (2 : Int32) ≤ nI 2 by decide)]
        refine ⟨0, sc1, car1, rfl, Or.inr ⟨?_, rfl⟩, h3⟩
        rw [wLs_skip (d := d) (fun v hv hcan => h4 (v / 13) (by omega) (v % 13) (by omega) hcan) (d + 1) (Nat.le_refl _)]
        decide
      | succ r ih =>
        intro w nn sc1 car1 h1 h2 h3 h4
        obtain ⟨nn, rfl⟩ : ∃ j, nn = j + 1 := ⟨nn - 1, by omega⟩
        have hw : w < 2 := by omega
        have hE1 := cE_Lf hE h3
        have hs1 := cWs_L h h3
        have hR := cWs_pg hs1 hw
        have c19 : car1 (799 + 2 * (b + w) + 1) 19 = wPg st w 26 := by rw [show 799 + 2 * (b + w) + 1 = 800 + 2 * (b + w) by omega]; exact hR.1 19 (by decide)
        rw [xF_250_21]
        unfold xF_233
        rw [if_neg (show ¬ (2 : Int32) ≤ nI w from nI_ge (b := 2) (by omega) (by decide)), nI_add, if_pos (iB_nI (show b + w < 10 by omega) (by decide)), iN_nI (by omega), ob5, c19]
        have fin : ∀ x6 : Int32, (x6 = 0 ∨ x6 = 1) → (x6 = 1 → wPg st w 26 = 0) → ∃ v sc2 car2, xF_250_56 (xG_250 f) (fun x1_ x2_ x3_ x4_ sc_ mr_ ar_ al_ => xF_250_21 (xG_250 f) nn x1_ x2_ x3_ x4_ sc_ mr_ ar_ al_) oF (nI b) (nI (d + 1)) (nI (b + 2)) (nI w) (799 + 2 * (b + w)) x6 0 sc1 mr car1 al = some (v, sc2, mr, car2, al) ∧ iV v (wLs S0 ar0 m (d + 1) st = true) ∧ cLf b sc car sc2 car2 := by
          intro x6 a1 a2
          have := inner (fun x1_ x2_ x3_ x4_ sc_ mr_ ar_ al_ => xF_250_21 (xG_250 f) nn x1_ x2_ x3_ x4_ sc_ mr_ ar_ al_) w hw 13 0 oF x6 sc1 car1 (by omega) (by unfold oF; omega) h3 a1 (fun e c' hi hcan => ⟨by rw [wI_0 hE1 h16 hs1 hw (by omega) hi hcan]; decide, Or.inl (wI_still hE1 h16 hs1 hw (by omega) hi hcan (a2 e))⟩) (fun c' hc' => absurd hc' (by omega))
          rw [show nI 0 = (0 : Int32) from rfl] at this
          rcases this with ⟨sc2, car2, t1, t2, t3⟩ | ⟨sc2, car2, t1, t2, t3⟩
          · exact ⟨1, sc2, car2, t1, Or.inl ⟨t2, rfl⟩, t3⟩
          · rw [t1]
            refine ih (w + 1) nn sc2 car2 (by omega) (by omega) t3 (fun w' hw' c' hc' hcan => ?_)
            by_cases z : w' = w
            · subst z; exact t2 c' hc' hcan
            · exact h4 w' (by omega) c' hc' hcan
        by_cases z : wPg st w 26 = 0
        · rw [if_pos z]
          exact fin 1 (Or.inr rfl) (fun _ => z)
        · rw [if_neg z]
          exact fin 0 (Or.inl rfl) (fun k => absurd k (by decide))
    have e1 : nI b + (2 : Int32) = nI (b + 2) := nI_add b 2
    have := outer 2 0 oF sc car (by omega) (by unfold oF; omega) (cLf_rf hE) (fun w' hw' => absurd hw' (by omega))
    rw [show nI 0 = (0 : Int32) from rfl] at this
    show ∃ v sc2 car2, xF_250 (xG_250 f) (nI b) (nI (d + 1)) sc mr car al = some (v, sc2, mr, car2, al) ∧ _ ∧ _
    unfold xF_250
    rw [if_neg (show ¬ nI (d + 1) ≤ (0 : Int32) from nI_ge (b := d + 1) (a := 0) (by omega) (by omega)), e1, nI_1, if_pos (show nI (b + 2 + 1) < (10 : Int32) from nI_lt (b := 10) (by omega) (by decide))]
    exact this
end CM
