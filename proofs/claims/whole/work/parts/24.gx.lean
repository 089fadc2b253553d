def g_all : List Nat := List.range 823
def g_cls : List Nat := (List.range 89).map (fun i => 734 + i)
theorem g_all_nd : g_all.Nodup := by unfold g_all; exact List.nodup_range
theorem g_all_in {a : Nat} (h : a < 823) : a ∈ g_all := by unfold g_all; exact List.mem_range.mpr h
theorem g_cls_nd : g_cls.Nodup := by
  unfold g_cls
  rw [List.Nodup, List.pairwise_map]
  exact List.nodup_range.imp (fun h z => h (by omega))
theorem g_cls_in {a : Nat} (h : 734 ≤ a) (h2 : a < 823) : a ∈ g_cls := by
  unfold g_cls
  exact List.mem_map.mpr ⟨a - 734, List.mem_range.mpr (by omega), by omega⟩
/-- both tables; b: whether the reference's cells are there yet -/
def gX (b : Bool) : jX := (x_co, x_fl, x_cn, x_ml, x_mx, x_rt, (x_sh, x_rr, x_nf, x_fk), (if b = true then g_all else g_cls), x_nt, (if b = true then r_sh else fun _ => .inr (9, 0)))
theorem gn_t : g_n (gX true) = g_all := by
  unfold g_n gX
  dsimp only
  rw [if_pos rfl]
theorem gn_f : g_n (gX false) = g_cls := by
  unfold g_n gX
  dsimp only
  rw [if_neg (by decide)]
theorem gX_nd (b : Bool) : (g_n (gX b)).Nodup := by
  cases b
  · rw [gn_f]; exact g_cls_nd
  · rw [gn_t]; exact g_all_nd
theorem gX_LK (b : Bool) : j_LK (g_n (gX b)) (g_L (gX b)) := by
  intro a h
  have hn : a < 823 := by
    refine Classical.byContradiction fun hn => ?_
    have e : (g_L (gX b)).1 a = .inr (9, 0) := by
      have e1 : (g_L (gX b)).1 a = x_sh a := if_neg (show ¬ a < 734 by omega)
      rw [e1]
      exact if_neg (by omega)
    rw [e] at h
    exact absurd h (show ¬ (9 : Nat) < 6 by decide)
  cases b
  · by_cases h1 : a < 734
    · have e : (g_L (gX false)).1 a = .inr (9, 0) := if_pos h1
      rw [e] at h
      exact absurd h (show ¬ (9 : Nat) < 6 by decide)
    · rw [gn_f]; exact g_cls_in (by omega) hn
  · rw [gn_t]; exact g_all_in hn
