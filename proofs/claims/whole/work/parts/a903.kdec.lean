/-! THE LAW, decoded (3). -/
theorem kd_law_10 : ∀ pc i, 960 ≤ pc → pc < 960 + 96 → kc_law pc = some i → j_dec code pc i := k_ck 960 96 (by decide +kernel)
theorem kd_law_11 : ∀ pc i, 1056 ≤ pc → pc < 1056 + 96 → kc_law pc = some i → j_dec code pc i := k_ck 1056 96 (by decide +kernel)
theorem kd_law_12 : ∀ pc i, 1152 ≤ pc → pc < 1152 + 96 → kc_law pc = some i → j_dec code pc i := k_ck 1152 96 (by decide +kernel)
theorem kd_law_13 : ∀ pc i, 1248 ≤ pc → pc < 1248 + 96 → kc_law pc = some i → j_dec code pc i := k_ck 1248 96 (by decide +kernel)
theorem kd_law_14 : ∀ pc i, 1344 ≤ pc → pc < 1344 + 96 → kc_law pc = some i → j_dec code pc i := k_ck 1344 96 (by decide +kernel)
