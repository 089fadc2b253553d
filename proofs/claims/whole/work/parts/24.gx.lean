/-- both tables; b: whether the reference's cells are there yet -/
def gX (b : Bool) : jX := (x_co, x_fl, x_cn, x_ml, x_mx, x_rt, (x_sh, x_rr, x_nf, x_fk), (if b = true then List.range 807 else (List.range 73).map (fun i => 734 + i)), x_nt, (if b = true then r_sh else fun _ => .inr (9, 0)))
theorem gX_nd (b : Bool) : (g_n (gX b)).Nodup := by
  cases b
  · show ((List.range 73).map (fun i => 734 + i)).Nodup
    rw [List.Nodup, List.pairwise_map]
    exact List.nodup_range.imp (fun h z => h (by omega))
  · exact List.nodup_range
theorem gX_LK (b : Bool) : j_LK (g_n (gX b)) (g_L (gX b)) := by
  intro a h
  have hn : a < 807 := by
    refine Classical.byContradiction fun hn => ?_
    have e : (g_L (gX b)).1 a = .inr (9, 0) := by
      have e1 : (g_L (gX b)).1 a = x_sh a := if_neg (show ¬ a < 734 by omega)
      rw [e1]
      exact if_neg (by omega)
    rw [e] at h
    exact absurd h (show ¬ (9 : Nat) < 6 by decide)
  cases b
  · by_cases h1 : a < 734
    · have e : (g_L (gX false)).1 a = .inr (9, 0) := if_pos h1
      rw [e] at h
      exact absurd h (show ¬ (9 : Nat) < 6 by decide)
    · exact List.mem_map.mpr ⟨a - 734, List.mem_range.mpr (by omega), by omega⟩
  · exact List.mem_range.mpr hn
