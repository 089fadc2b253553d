/-! ROWS: memory by rows, in one normal form (va_up of upd). -/
theorem ur {f : jSc} {a j : Nat} {x : Int32} : j_u2 f a j x = va_up f a (upd (f a) j x) := by
  funext b i
  by_cases e : b = a
  · subst e
    rw [va_up_self]
    simp [j_u2, upd]
  · rw [va_up_ne _ _ e, j_u2_row _ _ _ _ e]
theorem vu_0 {f : jSc} {k : Nat} {v : Nat → Int32} : va_up f k v k = v := va_up_self _ _ _
theorem vu_1 {f : jSc} {k j : Nat} {v : Nat → Int32} (h : (j == k) = false) : va_up f k v j = f j := va_up_ne _ _ (by simpa using h)
theorem vu_2 {f : jSc} {k : Nat} {v x : Nat → Int32} : va_up (va_up f k v) k x = va_up f k x := by
  funext b
  by_cases e : b = k
  · subst e
    rw [va_up_self, va_up_self]
  · rw [va_up_ne _ _ e, va_up_ne _ _ e, va_up_ne _ _ e]
theorem vu_3 {f : jSc} {k : Nat} : va_up f k (f k) = f := by
  funext b
  by_cases e : b = k
  · subst e
    rw [va_up_self]
  · rw [va_up_ne _ _ e]
theorem up_0 {g : Nat → Int32} {k : Nat} {x : Int32} : upd g k x k = x := by simp [upd]
theorem up_1 {g : Nat → Int32} {k j : Nat} {x : Int32} (h : (j == k) = false) : upd g k x j = g j := by
  have e : ¬ j = k := by simpa using h
  simp [upd, e]
theorem up_2 {g : Nat → Int32} {k : Nat} {x y : Int32} : upd (upd g k x) k y = upd g k y := by
  funext i
  by_cases e : i = k
  · simp [upd, e]
  · simp [upd, e]
theorem up_3 {g : Nat → Int32} {k : Nat} : upd g k (g k) = g := by
  funext i
  by_cases e : i = k
  · subst e
    simp [upd]
  · simp [upd, e]
theorem cl_0 : (0 : Int32).toNatClampNeg = 0 := by decide
theorem cl_1 : (1 : Int32).toNatClampNeg = 1 := by decide
theorem cl_2 : (2 : Int32).toNatClampNeg = 2 := by decide
theorem cl_3 : (3 : Int32).toNatClampNeg = 3 := by decide
theorem cl_4 : (4 : Int32).toNatClampNeg = 4 := by decide
theorem cl_5 : (5 : Int32).toNatClampNeg = 5 := by decide
theorem cl_6 : (6 : Int32).toNatClampNeg = 6 := by decide
theorem cl_7 : (7 : Int32).toNatClampNeg = 7 := by decide
theorem cl_8 : (8 : Int32).toNatClampNeg = 8 := by decide
theorem cl_9 : (9 : Int32).toNatClampNeg = 9 := by decide
theorem cl_10 : (10 : Int32).toNatClampNeg = 10 := by decide
theorem cl_11 : (11 : Int32).toNatClampNeg = 11 := by decide
theorem cl_12 : (12 : Int32).toNatClampNeg = 12 := by decide
theorem cl_13 : (13 : Int32).toNatClampNeg = 13 := by decide
theorem cl_14 : (14 : Int32).toNatClampNeg = 14 := by decide
theorem cl_15 : (15 : Int32).toNatClampNeg = 15 := by decide
theorem cl_16 : (16 : Int32).toNatClampNeg = 16 := by decide
theorem cl_17 : (17 : Int32).toNatClampNeg = 17 := by decide
theorem cl_18 : (18 : Int32).toNatClampNeg = 18 := by decide
theorem cl_19 : (19 : Int32).toNatClampNeg = 19 := by decide
theorem cl_20 : (20 : Int32).toNatClampNeg = 20 := by decide
theorem cl_21 : (21 : Int32).toNatClampNeg = 21 := by decide
theorem cl_22 : (22 : Int32).toNatClampNeg = 22 := by decide
theorem cl_23 : (23 : Int32).toNatClampNeg = 23 := by decide
theorem cl_24 : (24 : Int32).toNatClampNeg = 24 := by decide
theorem cl_25 : (25 : Int32).toNatClampNeg = 25 := by decide
theorem cl_26 : (26 : Int32).toNatClampNeg = 26 := by decide
theorem cl_27 : (27 : Int32).toNatClampNeg = 27 := by decide
theorem cl_28 : (28 : Int32).toNatClampNeg = 28 := by decide
theorem cl_29 : (29 : Int32).toNatClampNeg = 29 := by decide
theorem cl_30 : (30 : Int32).toNatClampNeg = 30 := by decide
theorem cl_31 : (31 : Int32).toNatClampNeg = 31 := by decide
theorem cl_32 : (32 : Int32).toNatClampNeg = 32 := by decide
theorem cl_33 : (33 : Int32).toNatClampNeg = 33 := by decide
theorem cl_34 : (34 : Int32).toNatClampNeg = 34 := by decide
theorem cl_35 : (35 : Int32).toNatClampNeg = 35 := by decide
theorem cl_36 : (36 : Int32).toNatClampNeg = 36 := by decide
theorem cl_37 : (37 : Int32).toNatClampNeg = 37 := by decide
theorem cl_38 : (38 : Int32).toNatClampNeg = 38 := by decide
theorem cl_39 : (39 : Int32).toNatClampNeg = 39 := by decide
theorem cl_40 : (40 : Int32).toNatClampNeg = 40 := by decide
theorem cl_41 : (41 : Int32).toNatClampNeg = 41 := by decide
theorem cl_42 : (42 : Int32).toNatClampNeg = 42 := by decide
theorem cl_43 : (43 : Int32).toNatClampNeg = 43 := by decide
theorem cl_44 : (44 : Int32).toNatClampNeg = 44 := by decide
theorem cl_45 : (45 : Int32).toNatClampNeg = 45 := by decide
theorem cl_46 : (46 : Int32).toNatClampNeg = 46 := by decide
theorem cl_47 : (47 : Int32).toNatClampNeg = 47 := by decide
theorem cl_48 : (48 : Int32).toNatClampNeg = 48 := by decide
theorem cl_49 : (49 : Int32).toNatClampNeg = 49 := by decide
theorem cl_50 : (50 : Int32).toNatClampNeg = 50 := by decide
theorem cl_51 : (51 : Int32).toNatClampNeg = 51 := by decide
theorem cl_52 : (52 : Int32).toNatClampNeg = 52 := by decide
theorem cl_53 : (53 : Int32).toNatClampNeg = 53 := by decide
theorem cl_54 : (54 : Int32).toNatClampNeg = 54 := by decide
theorem cl_55 : (55 : Int32).toNatClampNeg = 55 := by decide
theorem cl_56 : (56 : Int32).toNatClampNeg = 56 := by decide
theorem cl_57 : (57 : Int32).toNatClampNeg = 57 := by decide
theorem cl_58 : (58 : Int32).toNatClampNeg = 58 := by decide
theorem cl_59 : (59 : Int32).toNatClampNeg = 59 := by decide
theorem cl_60 : (60 : Int32).toNatClampNeg = 60 := by decide
theorem cl_61 : (61 : Int32).toNatClampNeg = 61 := by decide
theorem cl_62 : (62 : Int32).toNatClampNeg = 62 := by decide
theorem cl_63 : (63 : Int32).toNatClampNeg = 63 := by decide
theorem cl_64 : (64 : Int32).toNatClampNeg = 64 := by decide
theorem cl_65 : (65 : Int32).toNatClampNeg = 65 := by decide
theorem cl_66 : (66 : Int32).toNatClampNeg = 66 := by decide
theorem cl_67 : (67 : Int32).toNatClampNeg = 67 := by decide
theorem cl_68 : (68 : Int32).toNatClampNeg = 68 := by decide
theorem cl_69 : (69 : Int32).toNatClampNeg = 69 := by decide
theorem cl_70 : (70 : Int32).toNatClampNeg = 70 := by decide
theorem cl_71 : (71 : Int32).toNatClampNeg = 71 := by decide
theorem cl_72 : (72 : Int32).toNatClampNeg = 72 := by decide
theorem cl_73 : (73 : Int32).toNatClampNeg = 73 := by decide
theorem cl_74 : (74 : Int32).toNatClampNeg = 74 := by decide
theorem cl_75 : (75 : Int32).toNatClampNeg = 75 := by decide
theorem cl_76 : (76 : Int32).toNatClampNeg = 76 := by decide
theorem cl_77 : (77 : Int32).toNatClampNeg = 77 := by decide
theorem cl_78 : (78 : Int32).toNatClampNeg = 78 := by decide
theorem cl_79 : (79 : Int32).toNatClampNeg = 79 := by decide
theorem cl_80 : (80 : Int32).toNatClampNeg = 80 := by decide
theorem cl_81 : (81 : Int32).toNatClampNeg = 81 := by decide
theorem cl_82 : (82 : Int32).toNatClampNeg = 82 := by decide
theorem cl_83 : (83 : Int32).toNatClampNeg = 83 := by decide
theorem cl_84 : (84 : Int32).toNatClampNeg = 84 := by decide
theorem cl_85 : (85 : Int32).toNatClampNeg = 85 := by decide
theorem cl_86 : (86 : Int32).toNatClampNeg = 86 := by decide
theorem cl_87 : (87 : Int32).toNatClampNeg = 87 := by decide
theorem cl_88 : (88 : Int32).toNatClampNeg = 88 := by decide
theorem cl_89 : (89 : Int32).toNatClampNeg = 89 := by decide
theorem cl_90 : (90 : Int32).toNatClampNeg = 90 := by decide
theorem cl_91 : (91 : Int32).toNatClampNeg = 91 := by decide
theorem cl_92 : (92 : Int32).toNatClampNeg = 92 := by decide
theorem cl_93 : (93 : Int32).toNatClampNeg = 93 := by decide
theorem cl_94 : (94 : Int32).toNatClampNeg = 94 := by decide
theorem cl_95 : (95 : Int32).toNatClampNeg = 95 := by decide
theorem cl_96 : (96 : Int32).toNatClampNeg = 96 := by decide
theorem cl_97 : (97 : Int32).toNatClampNeg = 97 := by decide
theorem cl_98 : (98 : Int32).toNatClampNeg = 98 := by decide
theorem cl_99 : (99 : Int32).toNatClampNeg = 99 := by decide
theorem cn_0 : nI 0 = 0 := rfl
theorem cn_1 : nI 1 = 1 := rfl
theorem cn_2 : nI 2 = 2 := rfl
theorem cn_3 : nI 3 = 3 := rfl
theorem cn_4 : nI 4 = 4 := rfl
theorem cn_5 : nI 5 = 5 := rfl
theorem cn_6 : nI 6 = 6 := rfl
theorem cn_7 : nI 7 = 7 := rfl
theorem cn_8 : nI 8 = 8 := rfl
theorem cn_9 : nI 9 = 9 := rfl
theorem cn_10 : nI 10 = 10 := rfl
theorem cn_11 : nI 11 = 11 := rfl
theorem cn_12 : nI 12 = 12 := rfl
theorem cn_13 : nI 13 = 13 := rfl
theorem cn_14 : nI 14 = 14 := rfl
theorem cn_15 : nI 15 = 15 := rfl
theorem cn_16 : nI 16 = 16 := rfl
theorem cn_17 : nI 17 = 17 := rfl
theorem cn_18 : nI 18 = 18 := rfl
theorem cn_19 : nI 19 = 19 := rfl
theorem cn_20 : nI 20 = 20 := rfl
theorem cn_21 : nI 21 = 21 := rfl
theorem cn_22 : nI 22 = 22 := rfl
theorem cn_23 : nI 23 = 23 := rfl
theorem cn_24 : nI 24 = 24 := rfl
theorem cn_25 : nI 25 = 25 := rfl
theorem cn_26 : nI 26 = 26 := rfl
theorem cn_27 : nI 27 = 27 := rfl
theorem cn_28 : nI 28 = 28 := rfl
theorem cn_29 : nI 29 = 29 := rfl
theorem cn_30 : nI 30 = 30 := rfl
theorem cn_31 : nI 31 = 31 := rfl
theorem cn_32 : nI 32 = 32 := rfl
theorem cn_33 : nI 33 = 33 := rfl
theorem cn_34 : nI 34 = 34 := rfl
theorem cn_35 : nI 35 = 35 := rfl
theorem cn_36 : nI 36 = 36 := rfl
theorem cn_37 : nI 37 = 37 := rfl
theorem cn_38 : nI 38 = 38 := rfl
theorem cn_39 : nI 39 = 39 := rfl
theorem cn_40 : nI 40 = 40 := rfl
