/-! THE LAW, decoded (5). -/
theorem kd_law_20 : ∀ pc i, 1920 ≤ pc → pc < 1920 + 96 → kc_law pc = some i → j_dec code pc i := k_ck 1920 96 (by decide +kernel)
theorem kd_law_21 : ∀ pc i, 2016 ≤ pc → pc < 2016 + 96 → kc_law pc = some i → j_dec code pc i := k_ck 2016 96 (by decide +kernel)
theorem kd_law_22 : ∀ pc i, 2112 ≤ pc → pc < 2112 + 96 → kc_law pc = some i → j_dec code pc i := k_ck 2112 96 (by decide +kernel)
theorem kd_law : ∀ pc i, kc_law pc = some i → j_dec code pc i := by
  intro pc i h
  by_cases h0 : pc < 96
  · exact kd_law_0 pc i (by omega) (by omega) h
  by_cases h1 : pc < 192
  · exact kd_law_1 pc i (by omega) (by omega) h
  by_cases h2 : pc < 288
  · exact kd_law_2 pc i (by omega) (by omega) h
  by_cases h3 : pc < 384
  · exact kd_law_3 pc i (by omega) (by omega) h
  by_cases h4 : pc < 480
  · exact kd_law_4 pc i (by omega) (by omega) h
  by_cases h5 : pc < 576
  · exact kd_law_5 pc i (by omega) (by omega) h
  by_cases h6 : pc < 672
  · exact kd_law_6 pc i (by omega) (by omega) h
  by_cases h7 : pc < 768
  · exact kd_law_7 pc i (by omega) (by omega) h
  by_cases h8 : pc < 864
  · exact kd_law_8 pc i (by omega) (by omega) h
  by_cases h9 : pc < 960
  · exact kd_law_9 pc i (by omega) (by omega) h
  by_cases h10 : pc < 1056
  · exact kd_law_10 pc i (by omega) (by omega) h
  by_cases h11 : pc < 1152
  · exact kd_law_11 pc i (by omega) (by omega) h
  by_cases h12 : pc < 1248
  · exact kd_law_12 pc i (by omega) (by omega) h
  by_cases h13 : pc < 1344
  · exact kd_law_13 pc i (by omega) (by omega) h
  by_cases h14 : pc < 1440
  · exact kd_law_14 pc i (by omega) (by omega) h
  by_cases h15 : pc < 1536
  · exact kd_law_15 pc i (by omega) (by omega) h
  by_cases h16 : pc < 1632
  · exact kd_law_16 pc i (by omega) (by omega) h
  by_cases h17 : pc < 1728
  · exact kd_law_17 pc i (by omega) (by omega) h
  by_cases h18 : pc < 1824
  · exact kd_law_18 pc i (by omega) (by omega) h
  by_cases h19 : pc < 1920
  · exact kd_law_19 pc i (by omega) (by omega) h
  by_cases h20 : pc < 2016
  · exact kd_law_20 pc i (by omega) (by omega) h
  by_cases h21 : pc < 2112
  · exact kd_law_21 pc i (by omega) (by omega) h
  by_cases h22 : pc < 2208
  · exact kd_law_22 pc i (by omega) (by omega) h
  exact absurd (h.symm.trans (if_neg (by omega))) (by simp)
