def g_all : List Nat := List.range 824
def g_cls : List Nat := (List.range 89).map (fun i => 734 + i)
theorem g_all_nd : g_all.Nodup := by unfold g_all; exact List.nodup_range
theorem g_all_in {a : Nat} (h : a < 824) : a ∈ g_all := by unfold g_all; exact List.mem_range.mpr h
theorem g_cls_nd : g_cls.Nodup := by
  unfold g_cls
  rw [List.Nodup, List.pairwise_map]
  exact List.nodup_range.imp (fun h z => h (by omega))
theorem g_cls_in {a : Nat} (h : 734 ≤ a) (h2 : a < 823) : a ∈ g_cls := by
  unfold g_cls
  exact List.mem_map.mpr ⟨a - 734, List.mem_range.mpr (by omega), by omega⟩
/-- the class's cells and, 823, the law's own row of one long (there where the reference's cells are) -/
def x_sb (b : Bool) (x : Nat) : Nat ⊕ (Nat × Nat) := if x = 823 then (if b = true then .inr (1, 1) else .inr (9, 0)) else x_sh x
theorem x_sb_n {b : Bool} {a : Nat} (h : ¬ a = 823) : x_sb b a = x_sh a := if_neg h
/-- both tables; b: whether the reference's cells are there yet -/
def gX (b : Bool) : jX := (x_co, x_fl, x_cn, x_ml, x_mx, x_rt, (x_sb b, x_rr, x_nf, x_fk), (if b = true then g_all else g_cls), x_nt, (if b = true then r_sh else fun _ => .inr (9, 0)))
theorem gn_t : g_n (gX true) = g_all := by
  unfold g_n gX
  dsimp only
  rw [if_pos rfl]
theorem gn_f : g_n (gX false) = g_cls := by
  unfold g_n gX
  dsimp only
  rw [if_neg (by decide)]
theorem gX_nd (b : Bool) : (g_n (gX b)).Nodup := by
  cases b
  · rw [gn_f]; exact g_cls_nd
  · rw [gn_t]; exact g_all_nd
theorem gX_LK (b : Bool) : j_LK (g_n (gX b)) (g_L (gX b)) := by
  intro a h
  have e1 : ¬ a < 734 → (g_L (gX b)).1 a = x_sb b a := fun z => if_neg z
  have hn : a < 824 := by
    refine Classical.byContradiction fun hn => ?_
    have e : (g_L (gX b)).1 a = .inr (9, 0) := by
      rw [e1 (by omega), x_sb_n (by omega)]
      exact if_neg (by omega)
    rw [e] at h
    exact absurd h (show ¬ (9 : Nat) < 6 by decide)
  cases b
  · by_cases h1 : a < 734
    · have e : (g_L (gX false)).1 a = .inr (9, 0) := if_pos h1
      rw [e] at h
      exact absurd h (show ¬ (9 : Nat) < 6 by decide)
    · by_cases h2 : a = 823
      · have e : (g_L (gX false)).1 a = .inr (9, 0) := by
          rw [e1 h1, h2]
          rfl
        rw [e] at h
        exact absurd h (show ¬ (9 : Nat) < 6 by decide)
      · rw [gn_f]; exact g_cls_in (by omega) (by omega)
  · rw [gn_t]; exact g_all_in hn
