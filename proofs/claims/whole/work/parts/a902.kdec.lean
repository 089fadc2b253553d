/-! THE LAW, decoded (2). -/
theorem kd_law_5 : ∀ pc i, 480 ≤ pc → pc < 480 + 96 → kc_law pc = some i → j_dec code pc i := k_ck 480 96 (by decide +kernel)
theorem kd_law_6 : ∀ pc i, 576 ≤ pc → pc < 576 + 96 → kc_law pc = some i → j_dec code pc i := k_ck 576 96 (by decide +kernel)
theorem kd_law_7 : ∀ pc i, 672 ≤ pc → pc < 672 + 96 → kc_law pc = some i → j_dec code pc i := k_ck 672 96 (by decide +kernel)
theorem kd_law_8 : ∀ pc i, 768 ≤ pc → pc < 768 + 96 → kc_law pc = some i → j_dec code pc i := k_ck 768 96 (by decide +kernel)
theorem kd_law_9 : ∀ pc i, 864 ≤ pc → pc < 864 + 96 → kc_law pc = some i → j_dec code pc i := k_ck 864 96 (by decide +kernel)
