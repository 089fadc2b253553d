/-! THE LAW, decoded (1). -/
theorem kd_law_0 : ∀ pc i, 0 ≤ pc → pc < 0 + 96 → kc_law pc = some i → j_dec code pc i := k_ck 0 96 (by decide +kernel)
theorem kd_law_1 : ∀ pc i, 96 ≤ pc → pc < 96 + 96 → kc_law pc = some i → j_dec code pc i := k_ck 96 96 (by decide +kernel)
theorem kd_law_2 : ∀ pc i, 192 ≤ pc → pc < 192 + 96 → kc_law pc = some i → j_dec code pc i := k_ck 192 96 (by decide +kernel)
theorem kd_law_3 : ∀ pc i, 288 ≤ pc → pc < 288 + 96 → kc_law pc = some i → j_dec code pc i := k_ck 288 96 (by decide +kernel)
theorem kd_law_4 : ∀ pc i, 384 ≤ pc → pc < 384 + 96 → kc_law pc = some i → j_dec code pc i := k_ck 384 96 (by decide +kernel)
