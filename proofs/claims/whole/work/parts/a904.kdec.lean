/-! THE LAW, decoded (4). -/
theorem kd_law_15 : ∀ pc i, 1440 ≤ pc → pc < 1440 + 96 → kc_law pc = some i → j_dec code pc i := k_ck 1440 96 (by decide +kernel)
theorem kd_law_16 : ∀ pc i, 1536 ≤ pc → pc < 1536 + 96 → kc_law pc = some i → j_dec code pc i := k_ck 1536 96 (by decide +kernel)
theorem kd_law_17 : ∀ pc i, 1632 ≤ pc → pc < 1632 + 96 → kc_law pc = some i → j_dec code pc i := k_ck 1632 96 (by decide +kernel)
theorem kd_law_18 : ∀ pc i, 1728 ≤ pc → pc < 1728 + 96 → kc_law pc = some i → j_dec code pc i := k_ck 1728 96 (by decide +kernel)
theorem kd_law_19 : ∀ pc i, 1824 ≤ pc → pc < 1824 + 96 → kc_law pc = some i → j_dec code pc i := k_ck 1824 96 (by decide +kernel)
