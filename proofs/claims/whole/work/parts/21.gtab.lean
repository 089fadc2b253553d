/-! THE TABLES of both: methods below 200 and cells below r_n are the reference's, the others X's (the class's: any tables). -/
abbrev jX : Type := (Nat → Nat → Option Instr) × (Nat → Nat → Option (Nat × Nat × Nat)) × (Nat → Nat → Option Int32) × (Nat → Nat → Option (Nat × Nat × Nat × Nat)) × (Nat → Nat) × (Nat → Nat) × jL × List Nat × (Nat → Nat → Nat) × (Nat → Nat ⊕ (Nat × Nat))
def g_co (X : jX) (m x : Nat) : Option Instr := if m < 200 then r_co m x else X.1 m x
def g_fl (X : jX) (m x : Nat) : Option (Nat × Nat × Nat) := if m < 200 then r_fl x else X.2.1 m x
def g_cn (X : jX) (m x : Nat) : Option Int32 := if m < 200 then r_cn x else X.2.2.1 m x
def g_ml (X : jX) (m x : Nat) : Option (Nat × Nat × Nat × Nat) := if m < 200 then r_ml x else X.2.2.2.1 m x
def g_mx (X : jX) (m : Nat) : Nat := if m < 200 then r_mx m else X.2.2.2.2.1 m
def g_rt (X : jX) (m : Nat) : Nat := if m < 200 then r_rt m else X.2.2.2.2.2.1 m
/-- the shapes of the reference's cells: r_sh, or none yet -/
def g_rs (X : jX) : Nat → Nat ⊕ (Nat × Nat) := X.2.2.2.2.2.2.2.2.2
def g_L (X : jX) : jL := (fun a => if a < r_n then g_rs X a else X.2.2.2.2.2.2.1.1 a, fun a i => if a < r_n then r_rr a i else X.2.2.2.2.2.2.1.2.1 a i, fun c => if c = 11 then 60 else X.2.2.2.2.2.2.1.2.2.1 c, fun c k => if c = 11 then r_fk k else X.2.2.2.2.2.2.1.2.2.2 c k)
def g_n (X : jX) : List Nat := X.2.2.2.2.2.2.2.1
def g_nt (X : jX) (m x : Nat) : Nat := if m < 200 then 0 else X.2.2.2.2.2.2.2.2.1 m x
def gW (X : jX) (mid d pc : Nat) (lv : jV) (st : List Value) (sc : jSc) (rf : jRf) (ar : jSc) (al : jAl) (Post : jPo) : Prop := j_W (g_n X) (g_co X) (g_fl X) (g_cn X) (g_nt X) (g_ml X) (g_mx X) (g_rt X) (g_L X) mid d pc lv st sc rf ar al Post
abbrev gP (X : jX) (d : Nat) (cut : Nat → Bool) (Post : jPo) (K : jKo) (mid n : Nat) (b : Bool) (pc : Nat) (lv : jV) (st : List Value) (sc : jSc) (rf : jRf) (ar : jSc) (al : jAl) : Prop := j_wp (g_co X) (g_fl X) (g_cn X) (g_nt X) (g_ml X) (g_mx X) (g_rt X) (g_L X) cut (fun q vs sc rf ar al P => gW X q d 0 (j_av vs) [] sc rf ar al P) Post K mid n b pc lv st sc rf ar al
theorem gW_of {X : jX} (hX : j_LK (g_n X) (g_L X)) (cut : Nat → Bool) (K : jKo) (n : Nat) {mid d pc : Nat} {lv : jV} {st : List Value} {sc : jSc} {rf : jRf} {ar : jSc} {al : jAl} {Post : jPo} (hK : ∀ pc lv st sc rf ar al, K pc lv st sc rf ar al → gW X mid (d + 1) pc lv st sc rf ar al Post) (h : gP X d cut Post K mid n false pc lv st sc rf ar al) : gW X mid (d + 1) pc lv st sc rf ar al Post :=
  j_wp_ok (g_n X) (g_co X) (g_fl X) (g_cn X) (g_nt X) (g_ml X) (g_mx X) (g_rt X) (g_L X) hX (by omega) (fun q vs sc rf ar al P z => z) hK n false pc lv st sc rf ar al h
/-- a stretch without cut places -/
theorem gW_all {X : jX} (hX : j_LK (g_n X) (g_L X)) (n : Nat) {mid d pc : Nat} {lv : jV} {st : List Value} {sc : jSc} {rf : jRf} {ar : jSc} {al : jAl} {Post : jPo} (h : gP X d (fun _ => false) Post (fun _ _ _ _ _ _ _ => False) mid n false pc lv st sc rf ar al) : gW X mid (d + 1) pc lv st sc rf ar al Post :=
  gW_of hX _ _ n (fun _ _ _ _ _ _ _ z => z.elim) h
/-- up to cut places, where the goal stands again -/
theorem gW_cut {X : jX} (hX : j_LK (g_n X) (g_L X)) (cut : Nat → Bool) (n : Nat) {mid d pc : Nat} {lv : jV} {st : List Value} {sc : jSc} {rf : jRf} {ar : jSc} {al : jAl} {Post : jPo} (h : gP X d cut Post (fun pc lv st sc rf ar al => gW X mid (d + 1) pc lv st sc rf ar al Post) mid n false pc lv st sc rf ar al) : gW X mid (d + 1) pc lv st sc rf ar al Post :=
  gW_of hX cut _ n (fun _ _ _ _ _ _ _ z => z) h
theorem gW_mono {X : jX} {mid d pc : Nat} {lv : jV} {st : List Value} {sc : jSc} {rf : jRf} {ar : jSc} {al : jAl} {P P' : jPo} (h : gW X mid d pc lv st sc rf ar al P) (hp : ∀ r sc rf ar al, P r sc rf ar al → P' r sc rf ar al) : gW X mid d pc lv st sc rf ar al P' := by
  obtain ⟨N, r, a, b, c, e, h1, h2⟩ := h
  exact ⟨N, r, a, b, c, e, h1, hp _ _ _ _ _ h2⟩
section GT
variable {X : jX}
theorem q_2_0 : g_co X 2 0 = some (.aload_n 0) := rfl
theorem q_2_1 : g_co X 2 1 = some (.getfield 126) := rfl
theorem q_2_4 : g_co X 2 4 = some (.ireturn) := rfl
theorem q_3_0 : g_co X 3 0 = some (.iload_n 1) := rfl
theorem q_3_1 : g_co X 3 1 = some (.ifCond .eq 15) := rfl
theorem q_3_4 : g_co X 3 4 = some (.aload_n 0) := rfl
theorem q_3_5 : g_co X 3 5 = some (.getfield 126) := rfl
theorem q_3_8 : g_co X 3 8 = some (.ifCond .ne 8) := rfl
theorem q_3_11 : g_co X 3 11 = some (.aload_n 0) := rfl
theorem q_3_12 : g_co X 3 12 = some (.iload_n 2) := rfl
theorem q_3_13 : g_co X 3 13 = some (.putfield 126) := rfl
theorem q_3_16 : g_co X 3 16 = some (.aload_n 0) := rfl
theorem q_3_17 : g_co X 3 17 = some (.getfield 126) := rfl
theorem q_3_20 : g_co X 3 20 = some (.ifCond .eq 7) := rfl
theorem q_3_23 : g_co X 3 23 = some (.iconst 1) := rfl
theorem q_3_24 : g_co X 3 24 = some (.goto 4) := rfl
theorem q_3_27 : g_co X 3 27 = some (.iconst 0) := rfl
theorem q_3_28 : g_co X 3 28 = some (.ireturn) := rfl
theorem q_4_0 : g_co X 4 0 = some (.iload_n 0) := rfl
theorem q_4_1 : g_co X 4 1 = some (.iload_n 1) := rfl
theorem q_4_2 : g_co X 4 2 = some (.if_icmp .lt 12) := rfl
theorem q_4_5 : g_co X 4 5 = some (.iload_n 0) := rfl
theorem q_4_6 : g_co X 4 6 = some (.iload_n 2) := rfl
theorem q_4_7 : g_co X 4 7 = some (.if_icmp .gt 7) := rfl
theorem q_4_10 : g_co X 4 10 = some (.iconst 1) := rfl
theorem q_4_11 : g_co X 4 11 = some (.goto 4) := rfl
theorem q_4_14 : g_co X 4 14 = some (.iconst 0) := rfl
theorem q_4_15 : g_co X 4 15 = some (.ireturn) := rfl
theorem q_5_0 : g_co X 5 0 = some (.aload_n 0) := rfl
theorem q_5_1 : g_co X 5 1 = some (.iconst 0) := rfl
theorem q_5_2 : g_co X 5 2 = some (.putfield 126) := rfl
theorem q_5_5 : g_co X 5 5 = some (.aload_n 0) := rfl
theorem q_5_6 : g_co X 5 6 = some (.getfield 129) := rfl
theorem q_5_9 : g_co X 5 9 = some (.bipush 20) := rfl
theorem q_5_11 : g_co X 5 11 = some (.iadd) := rfl
theorem q_5_12 : g_co X 5 12 = some (.sipush 600) := rfl
theorem q_5_15 : g_co X 5 15 = some (.if_icmp .le 5) := rfl
theorem q_5_18 : g_co X 5 18 = some (.iconst (-1)) := rfl
theorem q_5_19 : g_co X 5 19 = some (.ireturn) := rfl
theorem q_5_20 : g_co X 5 20 = some (.iconst 0) := rfl
theorem q_5_21 : g_co X 5 21 = some (.istore 6) := rfl
theorem q_5_23 : g_co X 5 23 = some (.iload 6) := rfl
theorem q_5_25 : g_co X 5 25 = some (.bipush 20) := rfl
theorem q_5_27 : g_co X 5 27 = some (.if_icmp .ge 93) := rfl
theorem q_5_30 : g_co X 5 30 = some (.iload 6) := rfl
theorem q_5_32 : g_co X 5 32 = some (.iconst 4) := rfl
theorem q_5_33 : g_co X 5 33 = some (.if_icmp .ge 7) := rfl
theorem q_5_36 : g_co X 5 36 = some (.iload_n 1) := rfl
theorem q_5_37 : g_co X 5 37 = some (.goto 39) := rfl
theorem q_5_40 : g_co X 5 40 = some (.iload 6) := rfl
theorem q_5_42 : g_co X 5 42 = some (.bipush 8) := rfl
theorem q_5_44 : g_co X 5 44 = some (.if_icmp .ge 7) := rfl
theorem q_5_47 : g_co X 5 47 = some (.iload_n 2) := rfl
theorem q_5_48 : g_co X 5 48 = some (.goto 28) := rfl
theorem q_5_51 : g_co X 5 51 = some (.iload 6) := rfl
theorem q_5_53 : g_co X 5 53 = some (.bipush 12) := rfl
theorem q_5_55 : g_co X 5 55 = some (.if_icmp .ge 7) := rfl
theorem q_5_58 : g_co X 5 58 = some (.iload_n 3) := rfl
theorem q_5_59 : g_co X 5 59 = some (.goto 17) := rfl
theorem q_5_62 : g_co X 5 62 = some (.iload 6) := rfl
theorem q_5_64 : g_co X 5 64 = some (.bipush 16) := rfl
theorem q_5_66 : g_co X 5 66 = some (.if_icmp .ge 8) := rfl
theorem q_5_69 : g_co X 5 69 = some (.iload 4) := rfl
theorem q_5_71 : g_co X 5 71 = some (.goto 5) := rfl
theorem q_5_74 : g_co X 5 74 = some (.iload 5) := rfl
theorem q_5_76 : g_co X 5 76 = some (.istore 7) := rfl
theorem q_5_78 : g_co X 5 78 = some (.aload_n 0) := rfl
theorem q_5_79 : g_co X 5 79 = some (.getfield 15) := rfl
theorem q_5_82 : g_co X 5 82 = some (.aload_n 0) := rfl
theorem q_5_83 : g_co X 5 83 = some (.getfield 129) := rfl
theorem q_5_86 : g_co X 5 86 = some (.iload 7) := rfl
theorem q_5_88 : g_co X 5 88 = some (.bipush 24) := rfl
theorem q_5_90 : g_co X 5 90 = some (.bipush 8) := rfl
theorem q_5_92 : g_co X 5 92 = some (.iload 6) := rfl
theorem q_5_94 : g_co X 5 94 = some (.iconst 4) := rfl
theorem q_5_95 : g_co X 5 95 = some (.irem) := rfl
theorem q_5_96 : g_co X 5 96 = some (.imul) := rfl
theorem q_5_97 : g_co X 5 97 = some (.isub) := rfl
theorem q_5_98 : g_co X 5 98 = some (.ishr) := rfl
theorem q_5_99 : g_co X 5 99 = some (.sipush 255) := rfl
theorem q_5_102 : g_co X 5 102 = some (.iand) := rfl
theorem q_5_103 : g_co X 5 103 = some (.iastore) := rfl
theorem q_5_104 : g_co X 5 104 = some (.aload_n 0) := rfl
theorem q_5_105 : g_co X 5 105 = some (.dup) := rfl
theorem q_5_106 : g_co X 5 106 = some (.getfield 129) := rfl
theorem q_5_109 : g_co X 5 109 = some (.iconst 1) := rfl
theorem q_5_110 : g_co X 5 110 = some (.iadd) := rfl
theorem q_5_111 : g_co X 5 111 = some (.putfield 129) := rfl
theorem q_5_114 : g_co X 5 114 = some (.iinc 6 1) := rfl
theorem q_5_117 : g_co X 5 117 = some (.goto (-94)) := rfl
theorem q_5_120 : g_co X 5 120 = some (.aload_n 0) := rfl
theorem q_5_121 : g_co X 5 121 = some (.getfield 129) := rfl
theorem q_5_124 : g_co X 5 124 = some (.ireturn) := rfl
theorem q_6_0 : g_co X 6 0 = some (.iload_n 1) := rfl
theorem q_6_1 : g_co X 6 1 = some (.aload_n 0) := rfl
theorem q_6_2 : g_co X 6 2 = some (.getfield 132) := rfl
theorem q_6_5 : g_co X 6 5 = some (.if_icmp .lt 7) := rfl
theorem q_6_8 : g_co X 6 8 = some (.iconst (-1)) := rfl
theorem q_6_9 : g_co X 6 9 = some (.goto 31) := rfl
theorem q_6_12 : g_co X 6 12 = some (.aload_n 0) := rfl
theorem q_6_13 : g_co X 6 13 = some (.getfield 135) := rfl
theorem q_6_16 : g_co X 6 16 = some (.iconst (-1)) := rfl
theorem q_6_17 : g_co X 6 17 = some (.if_icmp .ne 12) := rfl
theorem q_6_20 : g_co X 6 20 = some (.aload_n 0) := rfl
theorem q_6_21 : g_co X 6 21 = some (.getfield 15) := rfl
theorem q_6_24 : g_co X 6 24 = some (.iload_n 1) := rfl
theorem q_6_25 : g_co X 6 25 = some (.iaload) := rfl
theorem q_6_26 : g_co X 6 26 = some (.goto 14) := rfl
theorem q_6_29 : g_co X 6 29 = some (.aload_n 0) := rfl
theorem q_6_30 : g_co X 6 30 = some (.getfield 21) := rfl
theorem q_6_33 : g_co X 6 33 = some (.aload_n 0) := rfl
theorem q_6_34 : g_co X 6 34 = some (.getfield 135) := rfl
theorem q_6_37 : g_co X 6 37 = some (.aaload) := rfl
theorem q_6_38 : g_co X 6 38 = some (.iload_n 1) := rfl
theorem q_6_39 : g_co X 6 39 = some (.iaload) := rfl
theorem q_6_40 : g_co X 6 40 = some (.ireturn) := rfl
theorem q_7_0 : g_co X 7 0 = some (.aload_n 0) := rfl
theorem q_7_1 : g_co X 7 1 = some (.aload_n 0) := rfl
theorem q_7_2 : g_co X 7 2 = some (.getfield 138) := rfl
theorem q_7_5 : g_co X 7 5 = some (.invokevirtual 141) := rfl
theorem q_7_8 : g_co X 7 8 = some (.bipush 32) := rfl
theorem q_7_10 : g_co X 7 10 = some (.if_icmp .ne 16) := rfl
theorem q_7_13 : g_co X 7 13 = some (.aload_n 0) := rfl
theorem q_7_14 : g_co X 7 14 = some (.dup) := rfl
theorem q_7_15 : g_co X 7 15 = some (.getfield 138) := rfl
theorem q_7_18 : g_co X 7 18 = some (.iconst 1) := rfl
theorem q_7_19 : g_co X 7 19 = some (.iadd) := rfl
theorem q_7_20 : g_co X 7 20 = some (.putfield 138) := rfl
theorem q_7_23 : g_co X 7 23 = some (.goto (-23)) := rfl
theorem q_7_26 : g_co X 7 26 = some (.return_) := rfl
theorem q_8_0 : g_co X 8 0 = some (.aload_n 0) := rfl
theorem q_8_1 : g_co X 8 1 = some (.getfield 145) := rfl
theorem q_8_4 : g_co X 8 4 = some (.ifCond .ne 13) := rfl
theorem q_8_7 : g_co X 8 7 = some (.aload_n 0) := rfl
theorem q_8_8 : g_co X 8 8 = some (.iload_n 1) := rfl
theorem q_8_9 : g_co X 8 9 = some (.putfield 145) := rfl
theorem q_8_12 : g_co X 8 12 = some (.aload_n 0) := rfl
theorem q_8_13 : g_co X 8 13 = some (.iload_n 2) := rfl
theorem q_8_14 : g_co X 8 14 = some (.putfield 148) := rfl
theorem q_8_17 : g_co X 8 17 = some (.return_) := rfl
theorem q_9_0 : g_co X 9 0 = some (.iload_n 0) := rfl
theorem q_9_1 : g_co X 9 1 = some (.bipush 48) := rfl
theorem q_9_3 : g_co X 9 3 = some (.if_icmp .lt 13) := rfl
theorem q_9_6 : g_co X 9 6 = some (.iload_n 0) := rfl
theorem q_9_7 : g_co X 9 7 = some (.bipush 57) := rfl
theorem q_9_9 : g_co X 9 9 = some (.if_icmp .gt 7) := rfl
theorem q_9_12 : g_co X 9 12 = some (.iconst 1) := rfl
theorem q_9_13 : g_co X 9 13 = some (.goto 4) := rfl
theorem q_9_16 : g_co X 9 16 = some (.iconst 0) := rfl
theorem q_9_17 : g_co X 9 17 = some (.ireturn) := rfl
theorem q_10_0 : g_co X 10 0 = some (.iload_n 0) := rfl
theorem q_10_1 : g_co X 10 1 = some (.bipush 97) := rfl
theorem q_10_3 : g_co X 10 3 = some (.if_icmp .lt 13) := rfl
theorem q_10_6 : g_co X 10 6 = some (.iload_n 0) := rfl
theorem q_10_7 : g_co X 10 7 = some (.bipush 122) := rfl
theorem q_10_9 : g_co X 10 9 = some (.if_icmp .gt 7) := rfl
theorem q_10_12 : g_co X 10 12 = some (.iconst 1) := rfl
theorem q_10_13 : g_co X 10 13 = some (.goto 4) := rfl
theorem q_10_16 : g_co X 10 16 = some (.iconst 0) := rfl
theorem q_10_17 : g_co X 10 17 = some (.ireturn) := rfl
theorem q_11_0 : g_co X 11 0 = some (.aload_n 0) := rfl
theorem q_11_1 : g_co X 11 1 = some (.invokevirtual 151) := rfl
theorem q_11_4 : g_co X 11 4 = some (.iconst 0) := rfl
theorem q_11_5 : g_co X 11 5 = some (.istore_n 1) := rfl
theorem q_11_6 : g_co X 11 6 = some (.iconst 0) := rfl
theorem q_11_7 : g_co X 11 7 = some (.istore_n 2) := rfl
theorem q_11_8 : g_co X 11 8 = some (.aload_n 0) := rfl
theorem q_11_9 : g_co X 11 9 = some (.aload_n 0) := rfl
theorem q_11_10 : g_co X 11 10 = some (.getfield 138) := rfl
theorem q_11_13 : g_co X 11 13 = some (.iload_n 2) := rfl
theorem q_11_14 : g_co X 11 14 = some (.iadd) := rfl
theorem q_11_15 : g_co X 11 15 = some (.invokevirtual 141) := rfl
theorem q_11_18 : g_co X 11 18 = some (.invokestatic 154) := rfl
theorem q_11_21 : g_co X 11 21 = some (.ifCond .eq 40) := rfl
theorem q_11_24 : g_co X 11 24 = some (.iload_n 2) := rfl
theorem q_11_25 : g_co X 11 25 = some (.bipush 6) := rfl
theorem q_11_27 : g_co X 11 27 = some (.if_icmp .ge 26) := rfl
theorem q_11_30 : g_co X 11 30 = some (.bipush 27) := rfl
theorem q_11_32 : g_co X 11 32 = some (.iload_n 1) := rfl
theorem q_11_33 : g_co X 11 33 = some (.imul) := rfl
theorem q_11_34 : g_co X 11 34 = some (.aload_n 0) := rfl
theorem q_11_35 : g_co X 11 35 = some (.aload_n 0) := rfl
theorem q_11_36 : g_co X 11 36 = some (.getfield 138) := rfl
theorem q_11_39 : g_co X 11 39 = some (.iload_n 2) := rfl
theorem q_11_40 : g_co X 11 40 = some (.iadd) := rfl
theorem q_11_41 : g_co X 11 41 = some (.invokevirtual 141) := rfl
theorem q_11_44 : g_co X 11 44 = some (.iadd) := rfl
theorem q_11_45 : g_co X 11 45 = some (.bipush 97) := rfl
theorem q_11_47 : g_co X 11 47 = some (.isub) := rfl
theorem q_11_48 : g_co X 11 48 = some (.iconst 1) := rfl
theorem q_11_49 : g_co X 11 49 = some (.iadd) := rfl
theorem q_11_50 : g_co X 11 50 = some (.goto 4) := rfl
theorem q_11_53 : g_co X 11 53 = some (.iload_n 1) := rfl
theorem q_11_54 : g_co X 11 54 = some (.istore_n 1) := rfl
theorem q_11_55 : g_co X 11 55 = some (.iinc 2 1) := rfl
theorem q_11_58 : g_co X 11 58 = some (.goto (-50)) := rfl
theorem q_11_61 : g_co X 11 61 = some (.iload_n 2) := rfl
theorem q_11_62 : g_co X 11 62 = some (.bipush 6) := rfl
theorem q_11_64 : g_co X 11 64 = some (.if_icmp .le 7) := rfl
theorem q_11_67 : g_co X 11 67 = some (.iconst (-1)) := rfl
theorem q_11_68 : g_co X 11 68 = some (.goto 4) := rfl
theorem q_11_71 : g_co X 11 71 = some (.iload_n 1) := rfl
theorem q_11_72 : g_co X 11 72 = some (.ireturn) := rfl
theorem q_12_0 : g_co X 12 0 = some (.bipush 27) := rfl
theorem q_12_2 : g_co X 12 2 = some (.iload_n 0) := rfl
theorem q_12_3 : g_co X 12 3 = some (.imul) := rfl
theorem q_12_4 : g_co X 12 4 = some (.iload_n 1) := rfl
theorem q_12_5 : g_co X 12 5 = some (.iadd) := rfl
theorem q_12_6 : g_co X 12 6 = some (.istore 6) := rfl
theorem q_12_8 : g_co X 12 8 = some (.iload_n 2) := rfl
theorem q_12_9 : g_co X 12 9 = some (.ifCond .ne 8) := rfl
theorem q_12_12 : g_co X 12 12 = some (.iload 6) := rfl
theorem q_12_14 : g_co X 12 14 = some (.goto 10) := rfl
theorem q_12_17 : g_co X 12 17 = some (.bipush 27) := rfl
theorem q_12_19 : g_co X 12 19 = some (.iload 6) := rfl
theorem q_12_21 : g_co X 12 21 = some (.imul) := rfl
theorem q_12_22 : g_co X 12 22 = some (.iload_n 2) := rfl
theorem q_12_23 : g_co X 12 23 = some (.iadd) := rfl
theorem q_12_24 : g_co X 12 24 = some (.istore 6) := rfl
theorem q_12_26 : g_co X 12 26 = some (.iload_n 3) := rfl
theorem q_12_27 : g_co X 12 27 = some (.ifCond .ne 8) := rfl
theorem q_12_30 : g_co X 12 30 = some (.iload 6) := rfl
theorem q_12_32 : g_co X 12 32 = some (.goto 10) := rfl
theorem q_12_35 : g_co X 12 35 = some (.bipush 27) := rfl
theorem q_12_37 : g_co X 12 37 = some (.iload 6) := rfl
theorem q_12_39 : g_co X 12 39 = some (.imul) := rfl
theorem q_12_40 : g_co X 12 40 = some (.iload_n 3) := rfl
theorem q_12_41 : g_co X 12 41 = some (.iadd) := rfl
theorem q_12_42 : g_co X 12 42 = some (.istore 6) := rfl
theorem q_12_44 : g_co X 12 44 = some (.iload 4) := rfl
theorem q_12_46 : g_co X 12 46 = some (.ifCond .ne 8) := rfl
theorem q_12_49 : g_co X 12 49 = some (.iload 6) := rfl
theorem q_12_51 : g_co X 12 51 = some (.goto 11) := rfl
theorem q_12_54 : g_co X 12 54 = some (.bipush 27) := rfl
theorem q_12_56 : g_co X 12 56 = some (.iload 6) := rfl
theorem q_12_58 : g_co X 12 58 = some (.imul) := rfl
theorem q_12_59 : g_co X 12 59 = some (.iload 4) := rfl
theorem q_12_61 : g_co X 12 61 = some (.iadd) := rfl
theorem q_12_62 : g_co X 12 62 = some (.istore 6) := rfl
theorem q_12_64 : g_co X 12 64 = some (.iload 5) := rfl
theorem q_12_66 : g_co X 12 66 = some (.ifCond .ne 8) := rfl
theorem q_12_69 : g_co X 12 69 = some (.iload 6) := rfl
theorem q_12_71 : g_co X 12 71 = some (.goto 11) := rfl
theorem q_12_74 : g_co X 12 74 = some (.bipush 27) := rfl
theorem q_12_76 : g_co X 12 76 = some (.iload 6) := rfl
theorem q_12_78 : g_co X 12 78 = some (.imul) := rfl
theorem q_12_79 : g_co X 12 79 = some (.iload 5) := rfl
theorem q_12_81 : g_co X 12 81 = some (.iadd) := rfl
theorem q_12_82 : g_co X 12 82 = some (.ireturn) := rfl
theorem q_13_0 : g_co X 13 0 = some (.aload_n 0) := rfl
theorem q_13_1 : g_co X 13 1 = some (.invokevirtual 158) := rfl
theorem q_13_4 : g_co X 13 4 = some (.iload_n 1) := rfl
theorem q_13_5 : g_co X 13 5 = some (.iload_n 2) := rfl
theorem q_13_6 : g_co X 13 6 = some (.iload_n 3) := rfl
theorem q_13_7 : g_co X 13 7 = some (.iload 4) := rfl
theorem q_13_9 : g_co X 13 9 = some (.iload 5) := rfl
theorem q_13_11 : g_co X 13 11 = some (.iload 6) := rfl
theorem q_13_13 : g_co X 13 13 = some (.invokestatic 162) := rfl
theorem q_13_16 : g_co X 13 16 = some (.if_icmp .ne 7) := rfl
theorem q_13_19 : g_co X 13 19 = some (.iconst 1) := rfl
theorem q_13_20 : g_co X 13 20 = some (.goto 4) := rfl
theorem q_13_23 : g_co X 13 23 = some (.iconst 0) := rfl
theorem q_13_24 : g_co X 13 24 = some (.ireturn) := rfl
theorem q_14_0 : g_co X 14 0 = some (.aload_n 0) := rfl
theorem q_14_1 : g_co X 14 1 = some (.aload_n 0) := rfl
theorem q_14_2 : g_co X 14 2 = some (.getfield 138) := rfl
theorem q_14_5 : g_co X 14 5 = some (.invokevirtual 141) := rfl
theorem q_14_8 : g_co X 14 8 = some (.invokestatic 154) := rfl
theorem q_14_11 : g_co X 14 11 = some (.ifCond .eq 16) := rfl
theorem q_14_14 : g_co X 14 14 = some (.aload_n 0) := rfl
theorem q_14_15 : g_co X 14 15 = some (.dup) := rfl
theorem q_14_16 : g_co X 14 16 = some (.getfield 138) := rfl
theorem q_14_19 : g_co X 14 19 = some (.iconst 1) := rfl
theorem q_14_20 : g_co X 14 20 = some (.iadd) := rfl
theorem q_14_21 : g_co X 14 21 = some (.putfield 138) := rfl
theorem q_14_24 : g_co X 14 24 = some (.goto (-24)) := rfl
theorem q_14_27 : g_co X 14 27 = some (.return_) := rfl
theorem q_15_0 : g_co X 15 0 = some (.aload_n 0) := rfl
theorem q_15_1 : g_co X 15 1 = some (.invokevirtual 151) := rfl
theorem q_15_4 : g_co X 15 4 = some (.aload_n 0) := rfl
theorem q_15_5 : g_co X 15 5 = some (.aload_n 0) := rfl
theorem q_15_6 : g_co X 15 6 = some (.getfield 138) := rfl
theorem q_15_9 : g_co X 15 9 = some (.invokevirtual 141) := rfl
theorem q_15_12 : g_co X 15 12 = some (.iload_n 1) := rfl
theorem q_15_13 : g_co X 15 13 = some (.if_icmp .ne 16) := rfl
theorem q_15_16 : g_co X 15 16 = some (.aload_n 0) := rfl
theorem q_15_17 : g_co X 15 17 = some (.dup) := rfl
theorem q_15_18 : g_co X 15 18 = some (.getfield 138) := rfl
theorem q_15_21 : g_co X 15 21 = some (.iconst 1) := rfl
theorem q_15_22 : g_co X 15 22 = some (.iadd) := rfl
theorem q_15_23 : g_co X 15 23 = some (.putfield 138) := rfl
theorem q_15_26 : g_co X 15 26 = some (.goto 12) := rfl
theorem q_15_29 : g_co X 15 29 = some (.aload_n 0) := rfl
theorem q_15_30 : g_co X 15 30 = some (.iconst 1) := rfl
theorem q_15_31 : g_co X 15 31 = some (.aload_n 0) := rfl
theorem q_15_32 : g_co X 15 32 = some (.getfield 138) := rfl
theorem q_15_35 : g_co X 15 35 = some (.invokevirtual 166) := rfl
theorem q_15_38 : g_co X 15 38 = some (.return_) := rfl
theorem q_16_0 : g_co X 16 0 = some (.aload_n 0) := rfl
theorem q_16_1 : g_co X 16 1 = some (.invokevirtual 151) := rfl
theorem q_16_4 : g_co X 16 4 = some (.aload_n 0) := rfl
theorem q_16_5 : g_co X 16 5 = some (.getfield 138) := rfl
theorem q_16_8 : g_co X 16 8 = some (.istore_n 2) := rfl
theorem q_16_9 : g_co X 16 9 = some (.iconst 0) := rfl
theorem q_16_10 : g_co X 16 10 = some (.istore_n 3) := rfl
theorem q_16_11 : g_co X 16 11 = some (.aload_n 0) := rfl
theorem q_16_12 : g_co X 16 12 = some (.aload_n 0) := rfl
theorem q_16_13 : g_co X 16 13 = some (.getfield 138) := rfl
theorem q_16_16 : g_co X 16 16 = some (.invokevirtual 141) := rfl
theorem q_16_19 : g_co X 16 19 = some (.invokestatic 170) := rfl
theorem q_16_22 : g_co X 16 22 = some (.ifCond .ne 12) := rfl
theorem q_16_25 : g_co X 16 25 = some (.aload_n 0) := rfl
theorem q_16_26 : g_co X 16 26 = some (.iconst 1) := rfl
theorem q_16_27 : g_co X 16 27 = some (.aload_n 0) := rfl
theorem q_16_28 : g_co X 16 28 = some (.getfield 138) := rfl
theorem q_16_31 : g_co X 16 31 = some (.invokevirtual 166) := rfl
theorem q_16_34 : g_co X 16 34 = some (.aload_n 0) := rfl
theorem q_16_35 : g_co X 16 35 = some (.aload_n 0) := rfl
theorem q_16_36 : g_co X 16 36 = some (.getfield 138) := rfl
theorem q_16_39 : g_co X 16 39 = some (.invokevirtual 141) := rfl
theorem q_16_42 : g_co X 16 42 = some (.invokestatic 170) := rfl
theorem q_16_45 : g_co X 16 45 = some (.ifCond .eq 46) := rfl
theorem q_16_48 : g_co X 16 48 = some (.bipush 10) := rfl
theorem q_16_50 : g_co X 16 50 = some (.iload_n 3) := rfl
theorem q_16_51 : g_co X 16 51 = some (.imul) := rfl
theorem q_16_52 : g_co X 16 52 = some (.aload_n 0) := rfl
theorem q_16_53 : g_co X 16 53 = some (.aload_n 0) := rfl
theorem q_16_54 : g_co X 16 54 = some (.getfield 138) := rfl
theorem q_16_57 : g_co X 16 57 = some (.invokevirtual 141) := rfl
theorem q_16_60 : g_co X 16 60 = some (.iadd) := rfl
theorem q_16_61 : g_co X 16 61 = some (.bipush 48) := rfl
theorem q_16_63 : g_co X 16 63 = some (.isub) := rfl
theorem q_16_64 : g_co X 16 64 = some (.istore_n 3) := rfl
theorem q_16_65 : g_co X 16 65 = some (.iload_n 3) := rfl
theorem q_16_66 : g_co X 16 66 = some (.ldc 173) := rfl
theorem q_16_68 : g_co X 16 68 = some (.if_icmp .le 8) := rfl
theorem q_16_71 : g_co X 16 71 = some (.ldc 173) := rfl
theorem q_16_73 : g_co X 16 73 = some (.goto 4) := rfl
theorem q_16_76 : g_co X 16 76 = some (.iload_n 3) := rfl
theorem q_16_77 : g_co X 16 77 = some (.istore_n 3) := rfl
theorem q_16_78 : g_co X 16 78 = some (.aload_n 0) := rfl
theorem q_16_79 : g_co X 16 79 = some (.dup) := rfl
theorem q_16_80 : g_co X 16 80 = some (.getfield 138) := rfl
theorem q_16_83 : g_co X 16 83 = some (.iconst 1) := rfl
theorem q_16_84 : g_co X 16 84 = some (.iadd) := rfl
theorem q_16_85 : g_co X 16 85 = some (.putfield 138) := rfl
theorem q_16_88 : g_co X 16 88 = some (.goto (-54)) := rfl
theorem q_16_91 : g_co X 16 91 = some (.iload_n 3) := rfl
theorem q_16_92 : g_co X 16 92 = some (.iload_n 1) := rfl
theorem q_16_93 : g_co X 16 93 = some (.if_icmp .le 9) := rfl
theorem q_16_96 : g_co X 16 96 = some (.aload_n 0) := rfl
theorem q_16_97 : g_co X 16 97 = some (.iconst 2) := rfl
theorem q_16_98 : g_co X 16 98 = some (.iload_n 2) := rfl
theorem q_16_99 : g_co X 16 99 = some (.invokevirtual 166) := rfl
theorem q_16_102 : g_co X 16 102 = some (.iload_n 3) := rfl
theorem q_16_103 : g_co X 16 103 = some (.ireturn) := rfl
theorem q_17_0 : g_co X 17 0 = some (.aload_n 0) := rfl
theorem q_17_1 : g_co X 17 1 = some (.invokevirtual 151) := rfl
theorem q_17_4 : g_co X 17 4 = some (.aload_n 0) := rfl
theorem q_17_5 : g_co X 17 5 = some (.getfield 138) := rfl
theorem q_17_8 : g_co X 17 8 = some (.istore_n 2) := rfl
theorem q_17_9 : g_co X 17 9 = some (.aload_n 0) := rfl
theorem q_17_10 : g_co X 17 10 = some (.ldc 173) := rfl
theorem q_17_12 : g_co X 17 12 = some (.invokevirtual 174) := rfl
theorem q_17_15 : g_co X 17 15 = some (.istore_n 3) := rfl
theorem q_17_16 : g_co X 17 16 = some (.aload_n 0) := rfl
theorem q_17_17 : g_co X 17 17 = some (.getfield 138) := rfl
theorem q_17_20 : g_co X 17 20 = some (.iload_n 2) := rfl
theorem q_17_21 : g_co X 17 21 = some (.iconst 1) := rfl
theorem q_17_22 : g_co X 17 22 = some (.iadd) := rfl
theorem q_17_23 : g_co X 17 23 = some (.if_icmp .gt 8) := rfl
theorem q_17_26 : g_co X 17 26 = some (.iload_n 3) := rfl
theorem q_17_27 : g_co X 17 27 = some (.iload_n 1) := rfl
theorem q_17_28 : g_co X 17 28 = some (.if_icmp .le 9) := rfl
theorem q_17_31 : g_co X 17 31 = some (.aload_n 0) := rfl
theorem q_17_32 : g_co X 17 32 = some (.iconst 2) := rfl
theorem q_17_33 : g_co X 17 33 = some (.iload_n 2) := rfl
theorem q_17_34 : g_co X 17 34 = some (.invokevirtual 166) := rfl
theorem q_17_37 : g_co X 17 37 = some (.aload_n 0) := rfl
theorem q_17_38 : g_co X 17 38 = some (.getfield 145) := rfl
theorem q_17_41 : g_co X 17 41 = some (.ifCond .ne 7) := rfl
theorem q_17_44 : g_co X 17 44 = some (.iload_n 3) := rfl
theorem q_17_45 : g_co X 17 45 = some (.goto 4) := rfl
theorem q_17_48 : g_co X 17 48 = some (.iconst 0) := rfl
theorem q_17_49 : g_co X 17 49 = some (.ireturn) := rfl
theorem q_18_0 : g_co X 18 0 = some (.aload_n 0) := rfl
theorem q_18_1 : g_co X 18 1 = some (.getfield 177) := rfl
theorem q_18_4 : g_co X 18 4 = some (.bipush 6) := rfl
theorem q_18_6 : g_co X 18 6 = some (.if_icmp .ne 12) := rfl
theorem q_18_9 : g_co X 18 9 = some (.aload_n 0) := rfl
theorem q_18_10 : g_co X 18 10 = some (.iconst 3) := rfl
theorem q_18_11 : g_co X 18 11 = some (.aload_n 0) := rfl
theorem q_18_12 : g_co X 18 12 = some (.getfield 138) := rfl
theorem q_18_15 : g_co X 18 15 = some (.invokevirtual 166) := rfl
theorem q_18_18 : g_co X 18 18 = some (.aload_n 0) := rfl
theorem q_18_19 : g_co X 18 19 = some (.dup) := rfl
theorem q_18_20 : g_co X 18 20 = some (.getfield 177) := rfl
theorem q_18_23 : g_co X 18 23 = some (.iconst 1) := rfl
theorem q_18_24 : g_co X 18 24 = some (.iadd) := rfl
theorem q_18_25 : g_co X 18 25 = some (.putfield 177) := rfl
theorem q_18_28 : g_co X 18 28 = some (.aload_n 0) := rfl
theorem q_18_29 : g_co X 18 29 = some (.dup) := rfl
theorem q_18_30 : g_co X 18 30 = some (.getfield 138) := rfl
theorem q_18_33 : g_co X 18 33 = some (.iload_n 1) := rfl
theorem q_18_34 : g_co X 18 34 = some (.iadd) := rfl
theorem q_18_35 : g_co X 18 35 = some (.putfield 138) := rfl
theorem q_18_38 : g_co X 18 38 = some (.return_) := rfl
theorem q_19_0 : g_co X 19 0 = some (.aload_n 0) := rfl
theorem q_19_1 : g_co X 19 1 = some (.invokevirtual 151) := rfl
theorem q_19_4 : g_co X 19 4 = some (.aload_n 0) := rfl
theorem q_19_5 : g_co X 19 5 = some (.aload_n 0) := rfl
theorem q_19_6 : g_co X 19 6 = some (.getfield 138) := rfl
theorem q_19_9 : g_co X 19 9 = some (.invokevirtual 141) := rfl
theorem q_19_12 : g_co X 19 12 = some (.istore_n 1) := rfl
theorem q_19_13 : g_co X 19 13 = some (.iload_n 1) := rfl
theorem q_19_14 : g_co X 19 14 = some (.bipush 97) := rfl
theorem q_19_16 : g_co X 19 16 = some (.if_icmp .lt 32) := rfl
theorem q_19_19 : g_co X 19 19 = some (.iload_n 1) := rfl
theorem q_19_20 : g_co X 19 20 = some (.bipush 104) := rfl
theorem q_19_22 : g_co X 19 22 = some (.if_icmp .gt 26) := rfl
theorem q_19_25 : g_co X 19 25 = some (.aload_n 0) := rfl
theorem q_19_26 : g_co X 19 26 = some (.aload_n 0) := rfl
theorem q_19_27 : g_co X 19 27 = some (.getfield 138) := rfl
theorem q_19_30 : g_co X 19 30 = some (.iconst 1) := rfl
theorem q_19_31 : g_co X 19 31 = some (.iadd) := rfl
theorem q_19_32 : g_co X 19 32 = some (.invokevirtual 141) := rfl
theorem q_19_35 : g_co X 19 35 = some (.invokestatic 154) := rfl
theorem q_19_38 : g_co X 19 38 = some (.ifCond .ne 10) := rfl
theorem q_19_41 : g_co X 19 41 = some (.iload_n 1) := rfl
theorem q_19_42 : g_co X 19 42 = some (.bipush 97) := rfl
theorem q_19_44 : g_co X 19 44 = some (.isub) := rfl
theorem q_19_45 : g_co X 19 45 = some (.goto 4) := rfl
theorem q_19_48 : g_co X 19 48 = some (.iconst (-1)) := rfl
theorem q_19_49 : g_co X 19 49 = some (.ireturn) := rfl
theorem q_20_0 : g_co X 20 0 = some (.aload_n 0) := rfl
theorem q_20_1 : g_co X 20 1 = some (.getfield 180) := rfl
theorem q_20_4 : g_co X 20 4 = some (.ifCond .eq 22) := rfl
theorem q_20_7 : g_co X 20 7 = some (.aload_n 0) := rfl
theorem q_20_8 : g_co X 20 8 = some (.getfield 184) := rfl
theorem q_20_11 : g_co X 20 11 = some (.ifCond .eq 15) := rfl
theorem q_20_14 : g_co X 20 14 = some (.aload_n 0) := rfl
theorem q_20_15 : g_co X 20 15 = some (.dup) := rfl
theorem q_20_16 : g_co X 20 16 = some (.getfield 187) := rfl
theorem q_20_19 : g_co X 20 19 = some (.iconst 1) := rfl
theorem q_20_20 : g_co X 20 20 = some (.iload_n 1) := rfl
theorem q_20_21 : g_co X 20 21 = some (.ishl) := rfl
theorem q_20_22 : g_co X 20 22 = some (.ior) := rfl
theorem q_20_23 : g_co X 20 23 = some (.putfield 187) := rfl
theorem q_20_26 : g_co X 20 26 = some (.aload_n 0) := rfl
theorem q_20_27 : g_co X 20 27 = some (.getfield 42) := rfl
theorem q_20_30 : g_co X 20 30 = some (.iload_n 1) := rfl
theorem q_20_31 : g_co X 20 31 = some (.iaload) := rfl
theorem q_20_32 : g_co X 20 32 = some (.ireturn) := rfl
theorem q_21_0 : g_co X 21 0 = some (.aload_n 0) := rfl
theorem q_21_1 : g_co X 21 1 = some (.getfield 180) := rfl
theorem q_21_4 : g_co X 21 4 = some (.ifCond .eq 25) := rfl
theorem q_21_7 : g_co X 21 7 = some (.aload_n 0) := rfl
theorem q_21_8 : g_co X 21 8 = some (.getfield 184) := rfl
theorem q_21_11 : g_co X 21 11 = some (.ifCond .eq 18) := rfl
theorem q_21_14 : g_co X 21 14 = some (.aload_n 0) := rfl
theorem q_21_15 : g_co X 21 15 = some (.dup) := rfl
theorem q_21_16 : g_co X 21 16 = some (.getfield 187) := rfl
theorem q_21_19 : g_co X 21 19 = some (.iconst 1) := rfl
theorem q_21_20 : g_co X 21 20 = some (.bipush 16) := rfl
theorem q_21_22 : g_co X 21 22 = some (.iload_n 1) := rfl
theorem q_21_23 : g_co X 21 23 = some (.iadd) := rfl
theorem q_21_24 : g_co X 21 24 = some (.ishl) := rfl
theorem q_21_25 : g_co X 21 25 = some (.ior) := rfl
theorem q_21_26 : g_co X 21 26 = some (.putfield 187) := rfl
theorem q_21_29 : g_co X 21 29 = some (.aload_n 0) := rfl
theorem q_21_30 : g_co X 21 30 = some (.getfield 180) := rfl
theorem q_21_33 : g_co X 21 33 = some (.ifCond .eq 30) := rfl
theorem q_21_36 : g_co X 21 36 = some (.aload_n 0) := rfl
theorem q_21_37 : g_co X 21 37 = some (.getfield 184) := rfl
theorem q_21_40 : g_co X 21 40 = some (.ifCond .eq 23) := rfl
theorem q_21_43 : g_co X 21 43 = some (.aload_n 0) := rfl
theorem q_21_44 : g_co X 21 44 = some (.getfield 45) := rfl
theorem q_21_47 : g_co X 21 47 = some (.iconst (-1)) := rfl
theorem q_21_48 : g_co X 21 48 = some (.if_icmp .eq 15) := rfl
theorem q_21_51 : g_co X 21 51 = some (.aload_n 0) := rfl
theorem q_21_52 : g_co X 21 52 = some (.getfield 111) := rfl
theorem q_21_55 : g_co X 21 55 = some (.aload_n 0) := rfl
theorem q_21_56 : g_co X 21 56 = some (.getfield 45) := rfl
theorem q_21_59 : g_co X 21 59 = some (.aaload) := rfl
theorem q_21_60 : g_co X 21 60 = some (.iload_n 1) := rfl
theorem q_21_61 : g_co X 21 61 = some (.iconst 1) := rfl
theorem q_21_62 : g_co X 21 62 = some (.bastore) := rfl
theorem q_21_63 : g_co X 21 63 = some (.aload_n 0) := rfl
theorem q_21_64 : g_co X 21 64 = some (.getfield 42) := rfl
theorem q_21_67 : g_co X 21 67 = some (.bipush 33) := rfl
theorem q_21_69 : g_co X 21 69 = some (.iload_n 1) := rfl
theorem q_21_70 : g_co X 21 70 = some (.iadd) := rfl
theorem q_21_71 : g_co X 21 71 = some (.iaload) := rfl
theorem q_21_72 : g_co X 21 72 = some (.ireturn) := rfl
theorem q_22_0 : g_co X 22 0 = some (.aload_n 0) := rfl
theorem q_22_1 : g_co X 22 1 = some (.getfield 145) := rfl
theorem q_22_4 : g_co X 22 4 = some (.ifCond .eq 5) := rfl
theorem q_22_7 : g_co X 22 7 = some (.iconst 0) := rfl
theorem q_22_8 : g_co X 22 8 = some (.ireturn) := rfl
theorem q_22_9 : g_co X 22 9 = some (.aload_n 0) := rfl
theorem q_22_10 : g_co X 22 10 = some (.invokevirtual 151) := rfl
theorem q_22_13 : g_co X 22 13 = some (.aload_n 0) := rfl
theorem q_22_14 : g_co X 22 14 = some (.aload_n 0) := rfl
theorem q_22_15 : g_co X 22 15 = some (.getfield 138) := rfl
theorem q_22_18 : g_co X 22 18 = some (.invokevirtual 141) := rfl
theorem q_22_21 : g_co X 22 21 = some (.invokestatic 170) := rfl
theorem q_22_24 : g_co X 22 24 = some (.ifCond .eq 11) := rfl
theorem q_22_27 : g_co X 22 27 = some (.aload_n 0) := rfl
theorem q_22_28 : g_co X 22 28 = some (.sipush 999) := rfl
theorem q_22_31 : g_co X 22 31 = some (.invokevirtual 174) := rfl
theorem q_22_34 : g_co X 22 34 = some (.ireturn) := rfl
theorem q_22_35 : g_co X 22 35 = some (.aload_n 0) := rfl
theorem q_22_36 : g_co X 22 36 = some (.invokevirtual 190) := rfl
theorem q_22_39 : g_co X 22 39 = some (.istore_n 1) := rfl
theorem q_22_40 : g_co X 22 40 = some (.iload_n 1) := rfl
theorem q_22_41 : g_co X 22 41 = some (.iconst (-1)) := rfl
theorem q_22_42 : g_co X 22 42 = some (.if_icmp .eq 19) := rfl
theorem q_22_45 : g_co X 22 45 = some (.aload_n 0) := rfl
theorem q_22_46 : g_co X 22 46 = some (.dup) := rfl
theorem q_22_47 : g_co X 22 47 = some (.getfield 138) := rfl
theorem q_22_50 : g_co X 22 50 = some (.iconst 1) := rfl
theorem q_22_51 : g_co X 22 51 = some (.iadd) := rfl
theorem q_22_52 : g_co X 22 52 = some (.putfield 138) := rfl
theorem q_22_55 : g_co X 22 55 = some (.aload_n 0) := rfl
theorem q_22_56 : g_co X 22 56 = some (.iload_n 1) := rfl
theorem q_22_57 : g_co X 22 57 = some (.invokevirtual 193) := rfl
theorem q_22_60 : g_co X 22 60 = some (.ireturn) := rfl
theorem q_22_61 : g_co X 22 61 = some (.aload_n 0) := rfl
theorem q_22_62 : g_co X 22 62 = some (.bipush 7) := rfl
theorem q_22_64 : g_co X 22 64 = some (.bipush 15) := rfl
theorem q_22_66 : g_co X 22 66 = some (.bipush 20) := rfl
theorem q_22_68 : g_co X 22 68 = some (.iconst 0) := rfl
theorem q_22_69 : g_co X 22 69 = some (.iconst 0) := rfl
theorem q_22_70 : g_co X 22 70 = some (.iconst 0) := rfl
theorem q_22_71 : g_co X 22 71 = some (.invokevirtual 196) := rfl
theorem q_22_74 : g_co X 22 74 = some (.ifCond .eq 12) := rfl
theorem q_22_77 : g_co X 22 77 = some (.aload_n 0) := rfl
theorem q_22_78 : g_co X 22 78 = some (.invokevirtual 200) := rfl
theorem q_22_81 : g_co X 22 81 = some (.aload_n 0) := rfl
theorem q_22_82 : g_co X 22 82 = some (.getfield 203) := rfl
theorem q_22_85 : g_co X 22 85 = some (.ireturn) := rfl
theorem q_22_86 : g_co X 22 86 = some (.aload_n 0) := rfl
theorem q_22_87 : g_co X 22 87 = some (.bipush 6) := rfl
theorem q_22_89 : g_co X 22 89 = some (.iconst 1) := rfl
theorem q_22_90 : g_co X 22 90 = some (.bipush 18) := rfl
theorem q_22_92 : g_co X 22 92 = some (.iconst 0) := rfl
theorem q_22_93 : g_co X 22 93 = some (.iconst 0) := rfl
theorem q_22_94 : g_co X 22 94 = some (.iconst 0) := rfl
theorem q_22_95 : g_co X 22 95 = some (.invokevirtual 196) := rfl
theorem q_22_98 : g_co X 22 98 = some (.ifCond .eq 30) := rfl
theorem q_22_101 : g_co X 22 101 = some (.aload_n 0) := rfl
theorem q_22_102 : g_co X 22 102 = some (.invokevirtual 200) := rfl
theorem q_22_105 : g_co X 22 105 = some (.aload_n 0) := rfl
theorem q_22_106 : g_co X 22 106 = some (.iconst 3) := rfl
theorem q_22_107 : g_co X 22 107 = some (.invokevirtual 206) := rfl
theorem q_22_110 : g_co X 22 110 = some (.istore_n 2) := rfl
theorem q_22_111 : g_co X 22 111 = some (.aload_n 0) := rfl
theorem q_22_112 : g_co X 22 112 = some (.getfield 145) := rfl
theorem q_22_115 : g_co X 22 115 = some (.ifCond .ne 11) := rfl
theorem q_22_118 : g_co X 22 118 = some (.aload_n 0) := rfl
theorem q_22_119 : g_co X 22 119 = some (.iload_n 2) := rfl
theorem q_22_120 : g_co X 22 120 = some (.invokevirtual 209) := rfl
theorem q_22_123 : g_co X 22 123 = some (.goto 4) := rfl
theorem q_22_126 : g_co X 22 126 = some (.iconst 0) := rfl
theorem q_22_127 : g_co X 22 127 = some (.ireturn) := rfl
theorem q_22_128 : g_co X 22 128 = some (.aload_n 0) := rfl
theorem q_22_129 : g_co X 22 129 = some (.bipush 12) := rfl
theorem q_22_131 : g_co X 22 131 = some (.iconst 5) := rfl
theorem q_22_132 : g_co X 22 132 = some (.iconst 1) := rfl
theorem q_22_133 : g_co X 22 133 = some (.bipush 19) := rfl
theorem q_22_135 : g_co X 22 135 = some (.bipush 20) := rfl
theorem q_22_137 : g_co X 22 137 = some (.iconst 0) := rfl
theorem q_22_138 : g_co X 22 138 = some (.invokevirtual 196) := rfl
theorem q_22_141 : g_co X 22 141 = some (.istore_n 2) := rfl
theorem q_22_142 : g_co X 22 142 = some (.aload_n 0) := rfl
theorem q_22_143 : g_co X 22 143 = some (.bipush 13) := rfl
theorem q_22_145 : g_co X 22 145 = some (.bipush 15) := rfl
theorem q_22_147 : g_co X 22 147 = some (.bipush 19) := rfl
theorem q_22_149 : g_co X 22 149 = some (.bipush 20) := rfl
theorem q_22_151 : g_co X 22 151 = some (.iconst 0) := rfl
theorem q_22_152 : g_co X 22 152 = some (.iconst 0) := rfl
theorem q_22_153 : g_co X 22 153 = some (.invokevirtual 196) := rfl
theorem q_22_156 : g_co X 22 156 = some (.istore_n 3) := rfl
theorem q_22_157 : g_co X 22 157 = some (.iload_n 2) := rfl
theorem q_22_158 : g_co X 22 158 = some (.ifCond .ne 7) := rfl
theorem q_22_161 : g_co X 22 161 = some (.iload_n 3) := rfl
theorem q_22_162 : g_co X 22 162 = some (.ifCond .eq 7) := rfl
theorem q_22_165 : g_co X 22 165 = some (.aload_n 0) := rfl
theorem q_22_166 : g_co X 22 166 = some (.invokevirtual 200) := rfl
theorem q_22_169 : g_co X 22 169 = some (.aload_n 0) := rfl
theorem q_22_170 : g_co X 22 170 = some (.invokevirtual 151) := rfl
theorem q_22_173 : g_co X 22 173 = some (.aload_n 0) := rfl
theorem q_22_174 : g_co X 22 174 = some (.aload_n 0) := rfl
theorem q_22_175 : g_co X 22 175 = some (.getfield 138) := rfl
theorem q_22_178 : g_co X 22 178 = some (.invokevirtual 141) := rfl
theorem q_22_181 : g_co X 22 181 = some (.bipush 40) := rfl
theorem q_22_183 : g_co X 22 183 = some (.if_icmp .eq 14) := rfl
theorem q_22_186 : g_co X 22 186 = some (.aload_n 0) := rfl
theorem q_22_187 : g_co X 22 187 = some (.iconst 1) := rfl
theorem q_22_188 : g_co X 22 188 = some (.aload_n 0) := rfl
theorem q_22_189 : g_co X 22 189 = some (.getfield 138) := rfl
theorem q_22_192 : g_co X 22 192 = some (.invokevirtual 166) := rfl
theorem q_22_195 : g_co X 22 195 = some (.iconst 0) := rfl
theorem q_22_196 : g_co X 22 196 = some (.ireturn) := rfl
theorem q_22_197 : g_co X 22 197 = some (.aload_n 0) := rfl
theorem q_22_198 : g_co X 22 198 = some (.iconst 1) := rfl
theorem q_22_199 : g_co X 22 199 = some (.invokevirtual 212) := rfl
theorem q_22_202 : g_co X 22 202 = some (.aload_n 0) := rfl
theorem q_22_203 : g_co X 22 203 = some (.invokevirtual 216) := rfl
theorem q_22_206 : g_co X 22 206 = some (.istore 4) := rfl
theorem q_22_208 : g_co X 22 208 = some (.iload_n 2) := rfl
theorem q_22_209 : g_co X 22 209 = some (.ifCond .ne 7) := rfl
theorem q_22_212 : g_co X 22 212 = some (.iload_n 3) := rfl
theorem q_22_213 : g_co X 22 213 = some (.ifCond .eq 40) := rfl
theorem q_22_216 : g_co X 22 216 = some (.aload_n 0) := rfl
theorem q_22_217 : g_co X 22 217 = some (.bipush 44) := rfl
theorem q_22_219 : g_co X 22 219 = some (.invokevirtual 219) := rfl
theorem q_22_222 : g_co X 22 222 = some (.aload_n 0) := rfl
theorem q_22_223 : g_co X 22 223 = some (.invokevirtual 216) := rfl
theorem q_22_226 : g_co X 22 226 = some (.istore 5) := rfl
theorem q_22_228 : g_co X 22 228 = some (.iload_n 2) := rfl
theorem q_22_229 : g_co X 22 229 = some (.iload 5) := rfl
theorem q_22_231 : g_co X 22 231 = some (.iload 4) := rfl
theorem q_22_233 : g_co X 22 233 = some (.if_icmp .ge 7) := rfl
theorem q_22_236 : g_co X 22 236 = some (.iconst 1) := rfl
theorem q_22_237 : g_co X 22 237 = some (.goto 4) := rfl
theorem q_22_240 : g_co X 22 240 = some (.iconst 0) := rfl
theorem q_22_241 : g_co X 22 241 = some (.if_icmp .ne 8) := rfl
theorem q_22_244 : g_co X 22 244 = some (.iload 5) := rfl
theorem q_22_246 : g_co X 22 246 = some (.goto 5) := rfl
theorem q_22_249 : g_co X 22 249 = some (.iload 4) := rfl
theorem q_22_251 : g_co X 22 251 = some (.istore 4) := rfl
theorem q_22_253 : g_co X 22 253 = some (.aload_n 0) := rfl
theorem q_22_254 : g_co X 22 254 = some (.bipush 41) := rfl
theorem q_22_256 : g_co X 22 256 = some (.invokevirtual 219) := rfl
theorem q_22_259 : g_co X 22 259 = some (.aload_n 0) := rfl
theorem q_22_260 : g_co X 22 260 = some (.dup) := rfl
theorem q_22_261 : g_co X 22 261 = some (.getfield 177) := rfl
theorem q_22_264 : g_co X 22 264 = some (.iconst 1) := rfl
theorem q_22_265 : g_co X 22 265 = some (.isub) := rfl
theorem q_22_266 : g_co X 22 266 = some (.putfield 177) := rfl
theorem q_22_269 : g_co X 22 269 = some (.iload 4) := rfl
theorem q_22_271 : g_co X 22 271 = some (.ireturn) := rfl
theorem q_23_0 : g_co X 23 0 = some (.aload_n 0) := rfl
theorem q_23_1 : g_co X 23 1 = some (.invokevirtual 222) := rfl
theorem q_23_4 : g_co X 23 4 = some (.istore_n 1) := rfl
theorem q_23_5 : g_co X 23 5 = some (.aload_n 0) := rfl
theorem q_23_6 : g_co X 23 6 = some (.invokevirtual 151) := rfl
theorem q_23_9 : g_co X 23 9 = some (.aload_n 0) := rfl
theorem q_23_10 : g_co X 23 10 = some (.getfield 145) := rfl
theorem q_23_13 : g_co X 23 13 = some (.ifCond .ne 84) := rfl
theorem q_23_16 : g_co X 23 16 = some (.aload_n 0) := rfl
theorem q_23_17 : g_co X 23 17 = some (.aload_n 0) := rfl
theorem q_23_18 : g_co X 23 18 = some (.getfield 138) := rfl
theorem q_23_21 : g_co X 23 21 = some (.invokevirtual 141) := rfl
theorem q_23_24 : g_co X 23 24 = some (.bipush 42) := rfl
theorem q_23_26 : g_co X 23 26 = some (.if_icmp .eq 16) := rfl
theorem q_23_29 : g_co X 23 29 = some (.aload_n 0) := rfl
theorem q_23_30 : g_co X 23 30 = some (.aload_n 0) := rfl
theorem q_23_31 : g_co X 23 31 = some (.getfield 138) := rfl
theorem q_23_34 : g_co X 23 34 = some (.invokevirtual 141) := rfl
theorem q_23_37 : g_co X 23 37 = some (.bipush 47) := rfl
theorem q_23_39 : g_co X 23 39 = some (.if_icmp .ne 58) := rfl
theorem q_23_42 : g_co X 23 42 = some (.aload_n 0) := rfl
theorem q_23_43 : g_co X 23 43 = some (.aload_n 0) := rfl
theorem q_23_44 : g_co X 23 44 = some (.getfield 138) := rfl
theorem q_23_47 : g_co X 23 47 = some (.invokevirtual 141) := rfl
theorem q_23_50 : g_co X 23 50 = some (.istore_n 2) := rfl
theorem q_23_51 : g_co X 23 51 = some (.aload_n 0) := rfl
theorem q_23_52 : g_co X 23 52 = some (.dup) := rfl
theorem q_23_53 : g_co X 23 53 = some (.getfield 138) := rfl
theorem q_23_56 : g_co X 23 56 = some (.iconst 1) := rfl
theorem q_23_57 : g_co X 23 57 = some (.iadd) := rfl
theorem q_23_58 : g_co X 23 58 = some (.putfield 138) := rfl
theorem q_23_61 : g_co X 23 61 = some (.aload_n 0) := rfl
theorem q_23_62 : g_co X 23 62 = some (.invokevirtual 222) := rfl
theorem q_23_65 : g_co X 23 65 = some (.istore_n 3) := rfl
theorem q_23_66 : g_co X 23 66 = some (.iload_n 2) := rfl
theorem q_23_67 : g_co X 23 67 = some (.bipush 42) := rfl
theorem q_23_69 : g_co X 23 69 = some (.if_icmp .ne 9) := rfl
theorem q_23_72 : g_co X 23 72 = some (.iload_n 1) := rfl
theorem q_23_73 : g_co X 23 73 = some (.iload_n 3) := rfl
theorem q_23_74 : g_co X 23 74 = some (.imul) := rfl
theorem q_23_75 : g_co X 23 75 = some (.goto 14) := rfl
theorem q_23_78 : g_co X 23 78 = some (.iload_n 3) := rfl
theorem q_23_79 : g_co X 23 79 = some (.ifCond .ne 7) := rfl
theorem q_23_82 : g_co X 23 82 = some (.iconst 0) := rfl
theorem q_23_83 : g_co X 23 83 = some (.goto 6) := rfl
theorem q_23_86 : g_co X 23 86 = some (.iload_n 1) := rfl
theorem q_23_87 : g_co X 23 87 = some (.iload_n 3) := rfl
theorem q_23_88 : g_co X 23 88 = some (.idiv) := rfl
theorem q_23_89 : g_co X 23 89 = some (.istore_n 1) := rfl
theorem q_23_90 : g_co X 23 90 = some (.aload_n 0) := rfl
theorem q_23_91 : g_co X 23 91 = some (.invokevirtual 151) := rfl
theorem q_23_94 : g_co X 23 94 = some (.goto (-85)) := rfl
theorem q_23_97 : g_co X 23 97 = some (.iload_n 1) := rfl
theorem q_23_98 : g_co X 23 98 = some (.ireturn) := rfl
theorem q_24_0 : g_co X 24 0 = some (.aload_n 0) := rfl
theorem q_24_1 : g_co X 24 1 = some (.invokevirtual 225) := rfl
theorem q_24_4 : g_co X 24 4 = some (.istore_n 1) := rfl
theorem q_24_5 : g_co X 24 5 = some (.aload_n 0) := rfl
theorem q_24_6 : g_co X 24 6 = some (.invokevirtual 151) := rfl
theorem q_24_9 : g_co X 24 9 = some (.aload_n 0) := rfl
theorem q_24_10 : g_co X 24 10 = some (.getfield 145) := rfl
theorem q_24_13 : g_co X 24 13 = some (.ifCond .ne 76) := rfl
theorem q_24_16 : g_co X 24 16 = some (.aload_n 0) := rfl
theorem q_24_17 : g_co X 24 17 = some (.aload_n 0) := rfl
theorem q_24_18 : g_co X 24 18 = some (.getfield 138) := rfl
theorem q_24_21 : g_co X 24 21 = some (.invokevirtual 141) := rfl
theorem q_24_24 : g_co X 24 24 = some (.bipush 43) := rfl
theorem q_24_26 : g_co X 24 26 = some (.if_icmp .eq 16) := rfl
theorem q_24_29 : g_co X 24 29 = some (.aload_n 0) := rfl
theorem q_24_30 : g_co X 24 30 = some (.aload_n 0) := rfl
theorem q_24_31 : g_co X 24 31 = some (.getfield 138) := rfl
theorem q_24_34 : g_co X 24 34 = some (.invokevirtual 141) := rfl
theorem q_24_37 : g_co X 24 37 = some (.bipush 45) := rfl
theorem q_24_39 : g_co X 24 39 = some (.if_icmp .ne 50) := rfl
theorem q_24_42 : g_co X 24 42 = some (.aload_n 0) := rfl
theorem q_24_43 : g_co X 24 43 = some (.aload_n 0) := rfl
theorem q_24_44 : g_co X 24 44 = some (.getfield 138) := rfl
theorem q_24_47 : g_co X 24 47 = some (.invokevirtual 141) := rfl
theorem q_24_50 : g_co X 24 50 = some (.istore_n 2) := rfl
theorem q_24_51 : g_co X 24 51 = some (.aload_n 0) := rfl
theorem q_24_52 : g_co X 24 52 = some (.dup) := rfl
theorem q_24_53 : g_co X 24 53 = some (.getfield 138) := rfl
theorem q_24_56 : g_co X 24 56 = some (.iconst 1) := rfl
theorem q_24_57 : g_co X 24 57 = some (.iadd) := rfl
theorem q_24_58 : g_co X 24 58 = some (.putfield 138) := rfl
theorem q_24_61 : g_co X 24 61 = some (.aload_n 0) := rfl
theorem q_24_62 : g_co X 24 62 = some (.invokevirtual 225) := rfl
theorem q_24_65 : g_co X 24 65 = some (.istore_n 3) := rfl
theorem q_24_66 : g_co X 24 66 = some (.iload_n 2) := rfl
theorem q_24_67 : g_co X 24 67 = some (.bipush 43) := rfl
theorem q_24_69 : g_co X 24 69 = some (.if_icmp .ne 9) := rfl
theorem q_24_72 : g_co X 24 72 = some (.iload_n 1) := rfl
theorem q_24_73 : g_co X 24 73 = some (.iload_n 3) := rfl
theorem q_24_74 : g_co X 24 74 = some (.iadd) := rfl
theorem q_24_75 : g_co X 24 75 = some (.goto 6) := rfl
theorem q_24_78 : g_co X 24 78 = some (.iload_n 1) := rfl
theorem q_24_79 : g_co X 24 79 = some (.iload_n 3) := rfl
theorem q_24_80 : g_co X 24 80 = some (.isub) := rfl
theorem q_24_81 : g_co X 24 81 = some (.istore_n 1) := rfl
theorem q_24_82 : g_co X 24 82 = some (.aload_n 0) := rfl
theorem q_24_83 : g_co X 24 83 = some (.invokevirtual 151) := rfl
theorem q_24_86 : g_co X 24 86 = some (.goto (-77)) := rfl
theorem q_24_89 : g_co X 24 89 = some (.iload_n 1) := rfl
theorem q_24_90 : g_co X 24 90 = some (.ireturn) := rfl
theorem q_25_0 : g_co X 25 0 = some (.aload_n 0) := rfl
theorem q_25_1 : g_co X 25 1 = some (.getfield 145) := rfl
theorem q_25_4 : g_co X 25 4 = some (.ifCond .eq 5) := rfl
theorem q_25_7 : g_co X 25 7 = some (.iconst 0) := rfl
theorem q_25_8 : g_co X 25 8 = some (.ireturn) := rfl
theorem q_25_9 : g_co X 25 9 = some (.aload_n 0) := rfl
theorem q_25_10 : g_co X 25 10 = some (.bipush 14) := rfl
theorem q_25_12 : g_co X 25 12 = some (.bipush 15) := rfl
theorem q_25_14 : g_co X 25 14 = some (.bipush 20) := rfl
theorem q_25_16 : g_co X 25 16 = some (.iconst 0) := rfl
theorem q_25_17 : g_co X 25 17 = some (.iconst 0) := rfl
theorem q_25_18 : g_co X 25 18 = some (.iconst 0) := rfl
theorem q_25_19 : g_co X 25 19 = some (.invokevirtual 196) := rfl
theorem q_25_22 : g_co X 25 22 = some (.ifCond .eq 33) := rfl
theorem q_25_25 : g_co X 25 25 = some (.aload_n 0) := rfl
theorem q_25_26 : g_co X 25 26 = some (.iconst 3) := rfl
theorem q_25_27 : g_co X 25 27 = some (.invokevirtual 212) := rfl
theorem q_25_30 : g_co X 25 30 = some (.aload_n 0) := rfl
theorem q_25_31 : g_co X 25 31 = some (.invokevirtual 228) := rfl
theorem q_25_34 : g_co X 25 34 = some (.ifCond .ne 7) := rfl
theorem q_25_37 : g_co X 25 37 = some (.iconst 1) := rfl
theorem q_25_38 : g_co X 25 38 = some (.goto 4) := rfl
theorem q_25_41 : g_co X 25 41 = some (.iconst 0) := rfl
theorem q_25_42 : g_co X 25 42 = some (.istore_n 1) := rfl
theorem q_25_43 : g_co X 25 43 = some (.aload_n 0) := rfl
theorem q_25_44 : g_co X 25 44 = some (.dup) := rfl
theorem q_25_45 : g_co X 25 45 = some (.getfield 177) := rfl
theorem q_25_48 : g_co X 25 48 = some (.iconst 1) := rfl
theorem q_25_49 : g_co X 25 49 = some (.isub) := rfl
theorem q_25_50 : g_co X 25 50 = some (.putfield 177) := rfl
theorem q_25_53 : g_co X 25 53 = some (.iload_n 1) := rfl
theorem q_25_54 : g_co X 25 54 = some (.ireturn) := rfl
theorem q_25_55 : g_co X 25 55 = some (.aload_n 0) := rfl
theorem q_25_56 : g_co X 25 56 = some (.aload_n 0) := rfl
theorem q_25_57 : g_co X 25 57 = some (.getfield 138) := rfl
theorem q_25_60 : g_co X 25 60 = some (.invokevirtual 141) := rfl
theorem q_25_63 : g_co X 25 63 = some (.bipush 91) := rfl
theorem q_25_65 : g_co X 25 65 = some (.if_icmp .ne 31) := rfl
theorem q_25_68 : g_co X 25 68 = some (.aload_n 0) := rfl
theorem q_25_69 : g_co X 25 69 = some (.iconst 1) := rfl
theorem q_25_70 : g_co X 25 70 = some (.invokevirtual 212) := rfl
theorem q_25_73 : g_co X 25 73 = some (.aload_n 0) := rfl
theorem q_25_74 : g_co X 25 74 = some (.invokevirtual 232) := rfl
theorem q_25_77 : g_co X 25 77 = some (.istore_n 1) := rfl
theorem q_25_78 : g_co X 25 78 = some (.aload_n 0) := rfl
theorem q_25_79 : g_co X 25 79 = some (.bipush 93) := rfl
theorem q_25_81 : g_co X 25 81 = some (.invokevirtual 219) := rfl
theorem q_25_84 : g_co X 25 84 = some (.aload_n 0) := rfl
theorem q_25_85 : g_co X 25 85 = some (.dup) := rfl
theorem q_25_86 : g_co X 25 86 = some (.getfield 177) := rfl
theorem q_25_89 : g_co X 25 89 = some (.iconst 1) := rfl
theorem q_25_90 : g_co X 25 90 = some (.isub) := rfl
theorem q_25_91 : g_co X 25 91 = some (.putfield 177) := rfl
theorem q_25_94 : g_co X 25 94 = some (.iload_n 1) := rfl
theorem q_25_95 : g_co X 25 95 = some (.ireturn) := rfl
theorem q_25_96 : g_co X 25 96 = some (.aload_n 0) := rfl
theorem q_25_97 : g_co X 25 97 = some (.invokevirtual 216) := rfl
theorem q_25_100 : g_co X 25 100 = some (.istore_n 1) := rfl
theorem q_25_101 : g_co X 25 101 = some (.aload_n 0) := rfl
theorem q_25_102 : g_co X 25 102 = some (.invokevirtual 151) := rfl
theorem q_25_105 : g_co X 25 105 = some (.aload_n 0) := rfl
theorem q_25_106 : g_co X 25 106 = some (.aload_n 0) := rfl
theorem q_25_107 : g_co X 25 107 = some (.getfield 138) := rfl
theorem q_25_110 : g_co X 25 110 = some (.invokevirtual 141) := rfl
theorem q_25_113 : g_co X 25 113 = some (.istore_n 2) := rfl
theorem q_25_114 : g_co X 25 114 = some (.iload_n 2) := rfl
theorem q_25_115 : g_co X 25 115 = some (.bipush 60) := rfl
theorem q_25_117 : g_co X 25 117 = some (.if_icmp .eq 24) := rfl
theorem q_25_120 : g_co X 25 120 = some (.iload_n 2) := rfl
theorem q_25_121 : g_co X 25 121 = some (.bipush 62) := rfl
theorem q_25_123 : g_co X 25 123 = some (.if_icmp .eq 18) := rfl
theorem q_25_126 : g_co X 25 126 = some (.iload_n 2) := rfl
theorem q_25_127 : g_co X 25 127 = some (.bipush 61) := rfl
theorem q_25_129 : g_co X 25 129 = some (.if_icmp .eq 12) := rfl
theorem q_25_132 : g_co X 25 132 = some (.aload_n 0) := rfl
theorem q_25_133 : g_co X 25 133 = some (.iconst 1) := rfl
theorem q_25_134 : g_co X 25 134 = some (.aload_n 0) := rfl
theorem q_25_135 : g_co X 25 135 = some (.getfield 138) := rfl
theorem q_25_138 : g_co X 25 138 = some (.invokevirtual 166) := rfl
theorem q_25_141 : g_co X 25 141 = some (.aload_n 0) := rfl
theorem q_25_142 : g_co X 25 142 = some (.dup) := rfl
theorem q_25_143 : g_co X 25 143 = some (.getfield 138) := rfl
theorem q_25_146 : g_co X 25 146 = some (.iconst 1) := rfl
theorem q_25_147 : g_co X 25 147 = some (.iadd) := rfl
theorem q_25_148 : g_co X 25 148 = some (.putfield 138) := rfl
theorem q_25_151 : g_co X 25 151 = some (.aload_n 0) := rfl
theorem q_25_152 : g_co X 25 152 = some (.invokevirtual 216) := rfl
theorem q_25_155 : g_co X 25 155 = some (.istore_n 3) := rfl
theorem q_25_156 : g_co X 25 156 = some (.iload_n 2) := rfl
theorem q_25_157 : g_co X 25 157 = some (.bipush 60) := rfl
theorem q_25_159 : g_co X 25 159 = some (.if_icmp .ne 16) := rfl
theorem q_25_162 : g_co X 25 162 = some (.iload_n 1) := rfl
theorem q_25_163 : g_co X 25 163 = some (.iload_n 3) := rfl
theorem q_25_164 : g_co X 25 164 = some (.if_icmp .ge 7) := rfl
theorem q_25_167 : g_co X 25 167 = some (.iconst 1) := rfl
theorem q_25_168 : g_co X 25 168 = some (.goto 36) := rfl
theorem q_25_171 : g_co X 25 171 = some (.iconst 0) := rfl
theorem q_25_172 : g_co X 25 172 = some (.goto 32) := rfl
theorem q_25_175 : g_co X 25 175 = some (.iload_n 2) := rfl
theorem q_25_176 : g_co X 25 176 = some (.bipush 62) := rfl
theorem q_25_178 : g_co X 25 178 = some (.if_icmp .ne 16) := rfl
theorem q_25_181 : g_co X 25 181 = some (.iload_n 1) := rfl
theorem q_25_182 : g_co X 25 182 = some (.iload_n 3) := rfl
theorem q_25_183 : g_co X 25 183 = some (.if_icmp .le 7) := rfl
theorem q_25_186 : g_co X 25 186 = some (.iconst 1) := rfl
theorem q_25_187 : g_co X 25 187 = some (.goto 17) := rfl
theorem q_25_190 : g_co X 25 190 = some (.iconst 0) := rfl
theorem q_25_191 : g_co X 25 191 = some (.goto 13) := rfl
theorem q_25_194 : g_co X 25 194 = some (.iload_n 1) := rfl
theorem q_25_195 : g_co X 25 195 = some (.iload_n 3) := rfl
theorem q_25_196 : g_co X 25 196 = some (.if_icmp .ne 7) := rfl
theorem q_25_199 : g_co X 25 199 = some (.iconst 1) := rfl
theorem q_25_200 : g_co X 25 200 = some (.goto 4) := rfl
theorem q_25_203 : g_co X 25 203 = some (.iconst 0) := rfl
theorem q_25_204 : g_co X 25 204 = some (.ireturn) := rfl
theorem q_26_0 : g_co X 26 0 = some (.aload_n 0) := rfl
theorem q_26_1 : g_co X 26 1 = some (.invokevirtual 228) := rfl
theorem q_26_4 : g_co X 26 4 = some (.istore_n 1) := rfl
theorem q_26_5 : g_co X 26 5 = some (.aload_n 0) := rfl
theorem q_26_6 : g_co X 26 6 = some (.getfield 145) := rfl
theorem q_26_9 : g_co X 26 9 = some (.ifCond .ne 43) := rfl
theorem q_26_12 : g_co X 26 12 = some (.aload_n 0) := rfl
theorem q_26_13 : g_co X 26 13 = some (.iconst 1) := rfl
theorem q_26_14 : g_co X 26 14 = some (.bipush 14) := rfl
theorem q_26_16 : g_co X 26 16 = some (.iconst 4) := rfl
theorem q_26_17 : g_co X 26 17 = some (.iconst 0) := rfl
theorem q_26_18 : g_co X 26 18 = some (.iconst 0) := rfl
theorem q_26_19 : g_co X 26 19 = some (.iconst 0) := rfl
theorem q_26_20 : g_co X 26 20 = some (.invokevirtual 196) := rfl
theorem q_26_23 : g_co X 26 23 = some (.ifCond .eq 29) := rfl
theorem q_26_26 : g_co X 26 26 = some (.aload_n 0) := rfl
theorem q_26_27 : g_co X 26 27 = some (.invokevirtual 200) := rfl
theorem q_26_30 : g_co X 26 30 = some (.aload_n 0) := rfl
theorem q_26_31 : g_co X 26 31 = some (.invokevirtual 228) := rfl
theorem q_26_34 : g_co X 26 34 = some (.istore_n 2) := rfl
theorem q_26_35 : g_co X 26 35 = some (.iload_n 1) := rfl
theorem q_26_36 : g_co X 26 36 = some (.ifCond .eq 11) := rfl
theorem q_26_39 : g_co X 26 39 = some (.iload_n 2) := rfl
theorem q_26_40 : g_co X 26 40 = some (.ifCond .eq 7) := rfl
theorem q_26_43 : g_co X 26 43 = some (.iconst 1) := rfl
theorem q_26_44 : g_co X 26 44 = some (.goto 4) := rfl
theorem q_26_47 : g_co X 26 47 = some (.iconst 0) := rfl
theorem q_26_48 : g_co X 26 48 = some (.istore_n 1) := rfl
theorem q_26_49 : g_co X 26 49 = some (.goto (-44)) := rfl
theorem q_26_52 : g_co X 26 52 = some (.iload_n 1) := rfl
theorem q_26_53 : g_co X 26 53 = some (.ireturn) := rfl
theorem q_27_0 : g_co X 27 0 = some (.aload_n 0) := rfl
theorem q_27_1 : g_co X 27 1 = some (.invokevirtual 235) := rfl
theorem q_27_4 : g_co X 27 4 = some (.istore_n 1) := rfl
theorem q_27_5 : g_co X 27 5 = some (.aload_n 0) := rfl
theorem q_27_6 : g_co X 27 6 = some (.getfield 145) := rfl
theorem q_27_9 : g_co X 27 9 = some (.ifCond .ne 44) := rfl
theorem q_27_12 : g_co X 27 12 = some (.aload_n 0) := rfl
theorem q_27_13 : g_co X 27 13 = some (.bipush 15) := rfl
theorem q_27_15 : g_co X 27 15 = some (.bipush 18) := rfl
theorem q_27_17 : g_co X 27 17 = some (.iconst 0) := rfl
theorem q_27_18 : g_co X 27 18 = some (.iconst 0) := rfl
theorem q_27_19 : g_co X 27 19 = some (.iconst 0) := rfl
theorem q_27_20 : g_co X 27 20 = some (.iconst 0) := rfl
theorem q_27_21 : g_co X 27 21 = some (.invokevirtual 196) := rfl
theorem q_27_24 : g_co X 27 24 = some (.ifCond .eq 29) := rfl
theorem q_27_27 : g_co X 27 27 = some (.aload_n 0) := rfl
theorem q_27_28 : g_co X 27 28 = some (.invokevirtual 200) := rfl
theorem q_27_31 : g_co X 27 31 = some (.aload_n 0) := rfl
theorem q_27_32 : g_co X 27 32 = some (.invokevirtual 235) := rfl
theorem q_27_35 : g_co X 27 35 = some (.istore_n 2) := rfl
theorem q_27_36 : g_co X 27 36 = some (.iload_n 1) := rfl
theorem q_27_37 : g_co X 27 37 = some (.ifCond .ne 7) := rfl
theorem q_27_40 : g_co X 27 40 = some (.iload_n 2) := rfl
theorem q_27_41 : g_co X 27 41 = some (.ifCond .eq 7) := rfl
theorem q_27_44 : g_co X 27 44 = some (.iconst 1) := rfl
theorem q_27_45 : g_co X 27 45 = some (.goto 4) := rfl
theorem q_27_48 : g_co X 27 48 = some (.iconst 0) := rfl
theorem q_27_49 : g_co X 27 49 = some (.istore_n 1) := rfl
theorem q_27_50 : g_co X 27 50 = some (.goto (-45)) := rfl
theorem q_27_53 : g_co X 27 53 = some (.iload_n 1) := rfl
theorem q_27_54 : g_co X 27 54 = some (.ireturn) := rfl
theorem q_28_0 : g_co X 28 0 = some (.aload_n 0) := rfl
theorem q_28_1 : g_co X 28 1 = some (.invokevirtual 190) := rfl
theorem q_28_4 : g_co X 28 4 = some (.iconst (-1)) := rfl
theorem q_28_5 : g_co X 28 5 = some (.if_icmp .eq 5) := rfl
theorem q_28_8 : g_co X 28 8 = some (.iconst 0) := rfl
theorem q_28_9 : g_co X 28 9 = some (.ireturn) := rfl
theorem q_28_10 : g_co X 28 10 = some (.aload_n 0) := rfl
theorem q_28_11 : g_co X 28 11 = some (.bipush 19) := rfl
theorem q_28_13 : g_co X 28 13 = some (.bipush 8) := rfl
theorem q_28_15 : g_co X 28 15 = some (.bipush 15) := rfl
theorem q_28_17 : g_co X 28 17 = some (.bipush 23) := rfl
theorem q_28_19 : g_co X 28 19 = some (.iconst 0) := rfl
theorem q_28_20 : g_co X 28 20 = some (.iconst 0) := rfl
theorem q_28_21 : g_co X 28 21 = some (.invokevirtual 196) := rfl
theorem q_28_24 : g_co X 28 24 = some (.ifCond .eq 5) := rfl
theorem q_28_27 : g_co X 28 27 = some (.iconst 1) := rfl
theorem q_28_28 : g_co X 28 28 = some (.ireturn) := rfl
theorem q_28_29 : g_co X 28 29 = some (.aload_n 0) := rfl
theorem q_28_30 : g_co X 28 30 = some (.bipush 8) := rfl
theorem q_28_32 : g_co X 28 32 = some (.bipush 9) := rfl
theorem q_28_34 : g_co X 28 34 = some (.iconst 4) := rfl
theorem q_28_35 : g_co X 28 35 = some (.iconst 5) := rfl
theorem q_28_36 : g_co X 28 36 = some (.iconst 0) := rfl
theorem q_28_37 : g_co X 28 37 = some (.iconst 0) := rfl
theorem q_28_38 : g_co X 28 38 = some (.invokevirtual 196) := rfl
theorem q_28_41 : g_co X 28 41 = some (.ifCond .eq 5) := rfl
theorem q_28_44 : g_co X 28 44 = some (.iconst 2) := rfl
theorem q_28_45 : g_co X 28 45 = some (.ireturn) := rfl
theorem q_28_46 : g_co X 28 46 = some (.aload_n 0) := rfl
theorem q_28_47 : g_co X 28 47 = some (.bipush 7) := rfl
theorem q_28_49 : g_co X 28 49 = some (.bipush 18) := rfl
theorem q_28_51 : g_co X 28 51 = some (.iconst 5) := rfl
theorem q_28_52 : g_co X 28 52 = some (.bipush 25) := rfl
theorem q_28_54 : g_co X 28 54 = some (.iconst 0) := rfl
theorem q_28_55 : g_co X 28 55 = some (.iconst 0) := rfl
theorem q_28_56 : g_co X 28 56 = some (.invokevirtual 196) := rfl
theorem q_28_59 : g_co X 28 59 = some (.ifCond .eq 5) := rfl
theorem q_28_62 : g_co X 28 62 = some (.iconst 3) := rfl
theorem q_28_63 : g_co X 28 63 = some (.ireturn) := rfl
theorem q_28_64 : g_co X 28 64 = some (.aload_n 0) := rfl
theorem q_28_65 : g_co X 28 65 = some (.bipush 12) := rfl
theorem q_28_67 : g_co X 28 67 = some (.bipush 9) := rfl
theorem q_28_69 : g_co X 28 69 = some (.bipush 22) := rfl
theorem q_28_71 : g_co X 28 71 = some (.iconst 5) := rfl
theorem q_28_72 : g_co X 28 72 = some (.iconst 0) := rfl
theorem q_28_73 : g_co X 28 73 = some (.iconst 0) := rfl
theorem q_28_74 : g_co X 28 74 = some (.invokevirtual 196) := rfl
theorem q_28_77 : g_co X 28 77 = some (.ifCond .eq 5) := rfl
theorem q_28_80 : g_co X 28 80 = some (.iconst 4) := rfl
theorem q_28_81 : g_co X 28 81 = some (.ireturn) := rfl
theorem q_28_82 : g_co X 28 82 = some (.aload_n 0) := rfl
theorem q_28_83 : g_co X 28 83 = some (.iconst 3) := rfl
theorem q_28_84 : g_co X 28 84 = some (.bipush 12) := rfl
theorem q_28_86 : g_co X 28 86 = some (.bipush 15) := rfl
theorem q_28_88 : g_co X 28 88 = some (.iconst 3) := rfl
theorem q_28_89 : g_co X 28 89 = some (.bipush 11) := rfl
theorem q_28_91 : g_co X 28 91 = some (.iconst 0) := rfl
theorem q_28_92 : g_co X 28 92 = some (.invokevirtual 196) := rfl
theorem q_28_95 : g_co X 28 95 = some (.ifCond .eq 5) := rfl
theorem q_28_98 : g_co X 28 98 = some (.iconst 5) := rfl
theorem q_28_99 : g_co X 28 99 = some (.ireturn) := rfl
theorem q_28_100 : g_co X 28 100 = some (.aload_n 0) := rfl
theorem q_28_101 : g_co X 28 101 = some (.iconst 1) := rfl
theorem q_28_102 : g_co X 28 102 = some (.bipush 19) := rfl
theorem q_28_104 : g_co X 28 104 = some (.bipush 11) := rfl
theorem q_28_106 : g_co X 28 106 = some (.iconst 0) := rfl
theorem q_28_107 : g_co X 28 107 = some (.iconst 0) := rfl
theorem q_28_108 : g_co X 28 108 = some (.iconst 0) := rfl
theorem q_28_109 : g_co X 28 109 = some (.invokevirtual 196) := rfl
theorem q_28_112 : g_co X 28 112 = some (.ifCond .eq 6) := rfl
theorem q_28_115 : g_co X 28 115 = some (.bipush 6) := rfl
theorem q_28_117 : g_co X 28 117 = some (.ireturn) := rfl
theorem q_28_118 : g_co X 28 118 = some (.aload_n 0) := rfl
theorem q_28_119 : g_co X 28 119 = some (.bipush 19) := rfl
theorem q_28_121 : g_co X 28 121 = some (.bipush 20) := rfl
theorem q_28_123 : g_co X 28 123 = some (.bipush 15) := rfl
theorem q_28_125 : g_co X 28 125 = some (.bipush 16) := rfl
theorem q_28_127 : g_co X 28 127 = some (.iconst 0) := rfl
theorem q_28_128 : g_co X 28 128 = some (.iconst 0) := rfl
theorem q_28_129 : g_co X 28 129 = some (.invokevirtual 196) := rfl
theorem q_28_132 : g_co X 28 132 = some (.ifCond .eq 6) := rfl
theorem q_28_135 : g_co X 28 135 = some (.bipush 7) := rfl
theorem q_28_137 : g_co X 28 137 = some (.ireturn) := rfl
theorem q_28_138 : g_co X 28 138 = some (.aload_n 0) := rfl
theorem q_28_139 : g_co X 28 139 = some (.bipush 19) := rfl
theorem q_28_141 : g_co X 28 141 = some (.iconst 1) := rfl
theorem q_28_142 : g_co X 28 142 = some (.bipush 22) := rfl
theorem q_28_144 : g_co X 28 144 = some (.iconst 5) := rfl
theorem q_28_145 : g_co X 28 145 = some (.iconst 0) := rfl
theorem q_28_146 : g_co X 28 146 = some (.iconst 0) := rfl
theorem q_28_147 : g_co X 28 147 = some (.invokevirtual 196) := rfl
theorem q_28_150 : g_co X 28 150 = some (.ifCond .eq 6) := rfl
theorem q_28_153 : g_co X 28 153 = some (.bipush 8) := rfl
theorem q_28_155 : g_co X 28 155 = some (.ireturn) := rfl
theorem q_28_156 : g_co X 28 156 = some (.aload_n 0) := rfl
theorem q_28_157 : g_co X 28 157 = some (.bipush 6) := rfl
theorem q_28_159 : g_co X 28 159 = some (.iconst 1) := rfl
theorem q_28_160 : g_co X 28 160 = some (.bipush 9) := rfl
theorem q_28_162 : g_co X 28 162 = some (.bipush 12) := rfl
theorem q_28_164 : g_co X 28 164 = some (.iconst 0) := rfl
theorem q_28_165 : g_co X 28 165 = some (.iconst 0) := rfl
theorem q_28_166 : g_co X 28 166 = some (.invokevirtual 196) := rfl
theorem q_28_169 : g_co X 28 169 = some (.ifCond .eq 6) := rfl
theorem q_28_172 : g_co X 28 172 = some (.bipush 9) := rfl
theorem q_28_174 : g_co X 28 174 = some (.ireturn) := rfl
theorem q_28_175 : g_co X 28 175 = some (.aload_n 0) := rfl
theorem q_28_176 : g_co X 28 176 = some (.bipush 9) := rfl
theorem q_28_178 : g_co X 28 178 = some (.bipush 6) := rfl
theorem q_28_180 : g_co X 28 180 = some (.iconst 0) := rfl
theorem q_28_181 : g_co X 28 181 = some (.iconst 0) := rfl
theorem q_28_182 : g_co X 28 182 = some (.iconst 0) := rfl
theorem q_28_183 : g_co X 28 183 = some (.iconst 0) := rfl
theorem q_28_184 : g_co X 28 184 = some (.invokevirtual 196) := rfl
theorem q_28_187 : g_co X 28 187 = some (.ifCond .eq 8) := rfl
theorem q_28_190 : g_co X 28 190 = some (.bipush 10) := rfl
theorem q_28_192 : g_co X 28 192 = some (.goto 4) := rfl
theorem q_28_195 : g_co X 28 195 = some (.iconst (-1)) := rfl
theorem q_28_196 : g_co X 28 196 = some (.ireturn) := rfl
theorem q_29_0 : g_co X 29 0 = some (.aload_n 0) := rfl
theorem q_29_1 : g_co X 29 1 = some (.invokevirtual 238) := rfl
theorem q_29_4 : g_co X 29 4 = some (.istore_n 1) := rfl
theorem q_29_5 : g_co X 29 5 = some (.iload_n 1) := rfl
theorem q_29_6 : g_co X 29 6 = some (.iconst (-1)) := rfl
theorem q_29_7 : g_co X 29 7 = some (.if_icmp .ne 15) := rfl
theorem q_29_10 : g_co X 29 10 = some (.aload_n 0) := rfl
theorem q_29_11 : g_co X 29 11 = some (.iconst 1) := rfl
theorem q_29_12 : g_co X 29 12 = some (.aload_n 0) := rfl
theorem q_29_13 : g_co X 29 13 = some (.getfield 138) := rfl
theorem q_29_16 : g_co X 29 16 = some (.invokevirtual 166) := rfl
theorem q_29_19 : g_co X 29 19 = some (.goto 29) := rfl
theorem q_29_22 : g_co X 29 22 = some (.aload_n 0) := rfl
theorem q_29_23 : g_co X 29 23 = some (.getfield 241) := rfl
theorem q_29_26 : g_co X 29 26 = some (.bipush 60) := rfl
theorem q_29_28 : g_co X 29 28 = some (.if_icmp .ne 20) := rfl
theorem q_29_31 : g_co X 29 31 = some (.aload_n 0) := rfl
theorem q_29_32 : g_co X 29 32 = some (.getfield 135) := rfl
theorem q_29_35 : g_co X 29 35 = some (.iconst (-1)) := rfl
theorem q_29_36 : g_co X 29 36 = some (.if_icmp .ne 12) := rfl
theorem q_29_39 : g_co X 29 39 = some (.aload_n 0) := rfl
theorem q_29_40 : g_co X 29 40 = some (.iconst 3) := rfl
theorem q_29_41 : g_co X 29 41 = some (.aload_n 0) := rfl
theorem q_29_42 : g_co X 29 42 = some (.getfield 138) := rfl
theorem q_29_45 : g_co X 29 45 = some (.invokevirtual 166) := rfl
theorem q_29_48 : g_co X 29 48 = some (.aload_n 0) := rfl
theorem q_29_49 : g_co X 29 49 = some (.getfield 145) := rfl
theorem q_29_52 : g_co X 29 52 = some (.ifCond .eq 4) := rfl
theorem q_29_55 : g_co X 29 55 = some (.return_) := rfl
theorem q_29_56 : g_co X 29 56 = some (.aload_n 0) := rfl
theorem q_29_57 : g_co X 29 57 = some (.dup) := rfl
theorem q_29_58 : g_co X 29 58 = some (.getfield 241) := rfl
theorem q_29_61 : g_co X 29 61 = some (.iconst 1) := rfl
theorem q_29_62 : g_co X 29 62 = some (.iadd) := rfl
theorem q_29_63 : g_co X 29 63 = some (.putfield 241) := rfl
theorem q_29_66 : g_co X 29 66 = some (.iload_n 1) := rfl
theorem q_29_67 : g_co X 29 67 = some (.bipush 10) := rfl
theorem q_29_69 : g_co X 29 69 = some (.if_icmp .ne 8) := rfl
theorem q_29_72 : g_co X 29 72 = some (.aload_n 0) := rfl
theorem q_29_73 : g_co X 29 73 = some (.invokevirtual 244) := rfl
theorem q_29_76 : g_co X 29 76 = some (.return_) := rfl
theorem q_29_77 : g_co X 29 77 = some (.iload_n 1) := rfl
theorem q_29_78 : g_co X 29 78 = some (.ifCond .ne 10) := rfl
theorem q_29_81 : g_co X 29 81 = some (.aload_n 0) := rfl
theorem q_29_82 : g_co X 29 82 = some (.invokevirtual 190) := rfl
theorem q_29_85 : g_co X 29 85 = some (.goto 4) := rfl
theorem q_29_88 : g_co X 29 88 = some (.iconst (-1)) := rfl
theorem q_29_89 : g_co X 29 89 = some (.istore_n 2) := rfl
theorem q_29_90 : g_co X 29 90 = some (.iload_n 1) := rfl
theorem q_29_91 : g_co X 29 91 = some (.ifCond .ne 22) := rfl
theorem q_29_94 : g_co X 29 94 = some (.aload_n 0) := rfl
theorem q_29_95 : g_co X 29 95 = some (.dup) := rfl
theorem q_29_96 : g_co X 29 96 = some (.getfield 138) := rfl
theorem q_29_99 : g_co X 29 99 = some (.iconst 1) := rfl
theorem q_29_100 : g_co X 29 100 = some (.iadd) := rfl
theorem q_29_101 : g_co X 29 101 = some (.putfield 138) := rfl
theorem q_29_104 : g_co X 29 104 = some (.aload_n 0) := rfl
theorem q_29_105 : g_co X 29 105 = some (.bipush 61) := rfl
theorem q_29_107 : g_co X 29 107 = some (.invokevirtual 219) := rfl
theorem q_29_110 : g_co X 29 110 = some (.goto 7) := rfl
theorem q_29_113 : g_co X 29 113 = some (.aload_n 0) := rfl
theorem q_29_114 : g_co X 29 114 = some (.invokevirtual 200) := rfl
theorem q_29_117 : g_co X 29 117 = some (.iload_n 1) := rfl
theorem q_29_118 : g_co X 29 118 = some (.iconst 1) := rfl
theorem q_29_119 : g_co X 29 119 = some (.iconst 4) := rfl
theorem q_29_120 : g_co X 29 120 = some (.invokestatic 247) := rfl
theorem q_29_123 : g_co X 29 123 = some (.ifCond .eq 12) := rfl
theorem q_29_126 : g_co X 29 126 = some (.aload_n 0) := rfl
theorem q_29_127 : g_co X 29 127 = some (.bipush 7) := rfl
theorem q_29_129 : g_co X 29 129 = some (.invokevirtual 206) := rfl
theorem q_29_132 : g_co X 29 132 = some (.goto 22) := rfl
theorem q_29_135 : g_co X 29 135 = some (.iload_n 1) := rfl
theorem q_29_136 : g_co X 29 136 = some (.iconst 5) := rfl
theorem q_29_137 : g_co X 29 137 = some (.bipush 8) := rfl
theorem q_29_139 : g_co X 29 139 = some (.invokestatic 247) := rfl
theorem q_29_142 : g_co X 29 142 = some (.ifCond .eq 11) := rfl
theorem q_29_145 : g_co X 29 145 = some (.aload_n 0) := rfl
theorem q_29_146 : g_co X 29 146 = some (.iconst 3) := rfl
theorem q_29_147 : g_co X 29 147 = some (.invokevirtual 206) := rfl
theorem q_29_150 : g_co X 29 150 = some (.goto 4) := rfl
theorem q_29_153 : g_co X 29 153 = some (.iconst 0) := rfl
theorem q_29_154 : g_co X 29 154 = some (.istore_n 3) := rfl
theorem q_29_155 : g_co X 29 155 = some (.iload_n 1) := rfl
theorem q_29_156 : g_co X 29 156 = some (.iconst 5) := rfl
theorem q_29_157 : g_co X 29 157 = some (.if_icmp .ne 13) := rfl
theorem q_29_160 : g_co X 29 160 = some (.aload_n 0) := rfl
theorem q_29_161 : g_co X 29 161 = some (.sipush 999) := rfl
theorem q_29_164 : g_co X 29 164 = some (.invokevirtual 174) := rfl
theorem q_29_167 : g_co X 29 167 = some (.goto 27) := rfl
theorem q_29_170 : g_co X 29 170 = some (.iload_n 1) := rfl
theorem q_29_171 : g_co X 29 171 = some (.ifCond .eq 15) := rfl
theorem q_29_174 : g_co X 29 174 = some (.iload_n 1) := rfl
theorem q_29_175 : g_co X 29 175 = some (.bipush 6) := rfl
theorem q_29_177 : g_co X 29 177 = some (.if_icmp .eq 9) := rfl
theorem q_29_180 : g_co X 29 180 = some (.iload_n 1) := rfl
theorem q_29_181 : g_co X 29 181 = some (.bipush 8) := rfl
theorem q_29_183 : g_co X 29 183 = some (.if_icmp .ne 10) := rfl
theorem q_29_186 : g_co X 29 186 = some (.aload_n 0) := rfl
theorem q_29_187 : g_co X 29 187 = some (.invokevirtual 216) := rfl
theorem q_29_190 : g_co X 29 190 = some (.goto 4) := rfl
theorem q_29_193 : g_co X 29 193 = some (.iconst 0) := rfl
theorem q_29_194 : g_co X 29 194 = some (.istore 4) := rfl
theorem q_29_196 : g_co X 29 196 = some (.aload_n 0) := rfl
theorem q_29_197 : g_co X 29 197 = some (.getfield 145) := rfl
theorem q_29_200 : g_co X 29 200 = some (.ifCond .ne 9) := rfl
theorem q_29_203 : g_co X 29 203 = some (.aload_n 0) := rfl
theorem q_29_204 : g_co X 29 204 = some (.bipush 59) := rfl
theorem q_29_206 : g_co X 29 206 = some (.invokevirtual 219) := rfl
theorem q_29_209 : g_co X 29 209 = some (.aload_n 0) := rfl
theorem q_29_210 : g_co X 29 210 = some (.getfield 145) := rfl
theorem q_29_213 : g_co X 29 213 = some (.ifCond .ne 10) := rfl
theorem q_29_216 : g_co X 29 216 = some (.aload_n 0) := rfl
theorem q_29_217 : g_co X 29 217 = some (.getfield 180) := rfl
theorem q_29_220 : g_co X 29 220 = some (.ifCond .ne 4) := rfl
theorem q_29_223 : g_co X 29 223 = some (.return_) := rfl
theorem q_29_224 : g_co X 29 224 = some (.iload_n 1) := rfl
theorem q_29_225 : g_co X 29 225 = some (.ifCond .ne 13) := rfl
theorem q_29_228 : g_co X 29 228 = some (.aload_n 0) := rfl
theorem q_29_229 : g_co X 29 229 = some (.iload_n 2) := rfl
theorem q_29_230 : g_co X 29 230 = some (.iload 4) := rfl
theorem q_29_232 : g_co X 29 232 = some (.invokevirtual 251) := rfl
theorem q_29_235 : g_co X 29 235 = some (.goto 82) := rfl
theorem q_29_238 : g_co X 29 238 = some (.iload_n 1) := rfl
theorem q_29_239 : g_co X 29 239 = some (.iconst 5) := rfl
theorem q_29_240 : g_co X 29 240 = some (.if_icmp .ge 12) := rfl
theorem q_29_243 : g_co X 29 243 = some (.aload_n 0) := rfl
theorem q_29_244 : g_co X 29 244 = some (.iload_n 1) := rfl
theorem q_29_245 : g_co X 29 245 = some (.iload_n 3) := rfl
theorem q_29_246 : g_co X 29 246 = some (.invokevirtual 254) := rfl
theorem q_29_249 : g_co X 29 249 = some (.goto 68) := rfl
theorem q_29_252 : g_co X 29 252 = some (.iload_n 1) := rfl
theorem q_29_253 : g_co X 29 253 = some (.iconst 5) := rfl
theorem q_29_254 : g_co X 29 254 = some (.if_icmp .ne 13) := rfl
theorem q_29_257 : g_co X 29 257 = some (.aload_n 0) := rfl
theorem q_29_258 : g_co X 29 258 = some (.iload_n 3) := rfl
theorem q_29_259 : g_co X 29 259 = some (.iload 4) := rfl
theorem q_29_261 : g_co X 29 261 = some (.invokevirtual 257) := rfl
theorem q_29_264 : g_co X 29 264 = some (.goto 53) := rfl
theorem q_29_267 : g_co X 29 267 = some (.iload_n 1) := rfl
theorem q_29_268 : g_co X 29 268 = some (.bipush 6) := rfl
theorem q_29_270 : g_co X 29 270 = some (.if_icmp .ne 13) := rfl
theorem q_29_273 : g_co X 29 273 = some (.aload_n 0) := rfl
theorem q_29_274 : g_co X 29 274 = some (.iload_n 3) := rfl
theorem q_29_275 : g_co X 29 275 = some (.iload 4) := rfl
theorem q_29_277 : g_co X 29 277 = some (.invokevirtual 260) := rfl
theorem q_29_280 : g_co X 29 280 = some (.goto 37) := rfl
theorem q_29_283 : g_co X 29 283 = some (.iload_n 1) := rfl
theorem q_29_284 : g_co X 29 284 = some (.bipush 7) := rfl
theorem q_29_286 : g_co X 29 286 = some (.if_icmp .ne 11) := rfl
theorem q_29_289 : g_co X 29 289 = some (.aload_n 0) := rfl
theorem q_29_290 : g_co X 29 290 = some (.iload_n 3) := rfl
theorem q_29_291 : g_co X 29 291 = some (.invokevirtual 263) := rfl
theorem q_29_294 : g_co X 29 294 = some (.goto 23) := rfl
theorem q_29_297 : g_co X 29 297 = some (.iload_n 1) := rfl
theorem q_29_298 : g_co X 29 298 = some (.bipush 8) := rfl
theorem q_29_300 : g_co X 29 300 = some (.if_icmp .ne 13) := rfl
theorem q_29_303 : g_co X 29 303 = some (.aload_n 0) := rfl
theorem q_29_304 : g_co X 29 304 = some (.iload_n 3) := rfl
theorem q_29_305 : g_co X 29 305 = some (.iload 4) := rfl
theorem q_29_307 : g_co X 29 307 = some (.invokevirtual 266) := rfl
theorem q_29_310 : g_co X 29 310 = some (.goto 7) := rfl
theorem q_29_313 : g_co X 29 313 = some (.aload_n 0) := rfl
theorem q_29_314 : g_co X 29 314 = some (.invokevirtual 269) := rfl
theorem q_29_317 : g_co X 29 317 = some (.return_) := rfl
theorem q_30_0 : g_co X 30 0 = some (.aload_n 0) := rfl
theorem q_30_1 : g_co X 30 1 = some (.getfield 177) := rfl
theorem q_30_4 : g_co X 30 4 = some (.bipush 6) := rfl
theorem q_30_6 : g_co X 30 6 = some (.if_icmp .ne 13) := rfl
theorem q_30_9 : g_co X 30 9 = some (.aload_n 0) := rfl
theorem q_30_10 : g_co X 30 10 = some (.iconst 3) := rfl
theorem q_30_11 : g_co X 30 11 = some (.aload_n 0) := rfl
theorem q_30_12 : g_co X 30 12 = some (.getfield 138) := rfl
theorem q_30_15 : g_co X 30 15 = some (.invokevirtual 166) := rfl
theorem q_30_18 : g_co X 30 18 = some (.return_) := rfl
theorem q_30_19 : g_co X 30 19 = some (.aload_n 0) := rfl
theorem q_30_20 : g_co X 30 20 = some (.dup) := rfl
theorem q_30_21 : g_co X 30 21 = some (.getfield 177) := rfl
theorem q_30_24 : g_co X 30 24 = some (.iconst 1) := rfl
theorem q_30_25 : g_co X 30 25 = some (.iadd) := rfl
theorem q_30_26 : g_co X 30 26 = some (.putfield 177) := rfl
theorem q_30_29 : g_co X 30 29 = some (.aload_n 0) := rfl
theorem q_30_30 : g_co X 30 30 = some (.invokevirtual 200) := rfl
theorem q_30_33 : g_co X 30 33 = some (.aload_n 0) := rfl
theorem q_30_34 : g_co X 30 34 = some (.getfield 180) := rfl
theorem q_30_37 : g_co X 30 37 = some (.istore_n 1) := rfl
theorem q_30_38 : g_co X 30 38 = some (.aload_n 0) := rfl
theorem q_30_39 : g_co X 30 39 = some (.invokevirtual 232) := rfl
theorem q_30_42 : g_co X 30 42 = some (.istore_n 2) := rfl
theorem q_30_43 : g_co X 30 43 = some (.aload_n 0) := rfl
theorem q_30_44 : g_co X 30 44 = some (.iload_n 1) := rfl
theorem q_30_45 : g_co X 30 45 = some (.ifCond .eq 11) := rfl
theorem q_30_48 : g_co X 30 48 = some (.iload_n 2) := rfl
theorem q_30_49 : g_co X 30 49 = some (.ifCond .eq 7) := rfl
theorem q_30_52 : g_co X 30 52 = some (.iconst 1) := rfl
theorem q_30_53 : g_co X 30 53 = some (.goto 4) := rfl
theorem q_30_56 : g_co X 30 56 = some (.iconst 0) := rfl
theorem q_30_57 : g_co X 30 57 = some (.putfield 180) := rfl
theorem q_30_60 : g_co X 30 60 = some (.aload_n 0) := rfl
theorem q_30_61 : g_co X 30 61 = some (.getfield 145) := rfl
theorem q_30_64 : g_co X 30 64 = some (.ifCond .ne 7) := rfl
theorem q_30_67 : g_co X 30 67 = some (.aload_n 0) := rfl
theorem q_30_68 : g_co X 30 68 = some (.invokevirtual 272) := rfl
theorem q_30_71 : g_co X 30 71 = some (.aload_n 0) := rfl
theorem q_30_72 : g_co X 30 72 = some (.iload_n 1) := rfl
theorem q_30_73 : g_co X 30 73 = some (.putfield 180) := rfl
theorem q_30_76 : g_co X 30 76 = some (.aload_n 0) := rfl
theorem q_30_77 : g_co X 30 77 = some (.dup) := rfl
theorem q_30_78 : g_co X 30 78 = some (.getfield 177) := rfl
theorem q_30_81 : g_co X 30 81 = some (.iconst 1) := rfl
theorem q_30_82 : g_co X 30 82 = some (.isub) := rfl
theorem q_30_83 : g_co X 30 83 = some (.putfield 177) := rfl
theorem q_30_86 : g_co X 30 86 = some (.return_) := rfl
theorem q_31_0 : g_co X 31 0 = some (.aload_n 0) := rfl
theorem q_31_1 : g_co X 31 1 = some (.getfield 42) := rfl
theorem q_31_4 : g_co X 31 4 = some (.iload_n 1) := rfl
theorem q_31_5 : g_co X 31 5 = some (.iload_n 2) := rfl
theorem q_31_6 : g_co X 31 6 = some (.iastore) := rfl
theorem q_31_7 : g_co X 31 7 = some (.aload_n 0) := rfl
theorem q_31_8 : g_co X 31 8 = some (.dup) := rfl
theorem q_31_9 : g_co X 31 9 = some (.getfield 275) := rfl
theorem q_31_12 : g_co X 31 12 = some (.iconst 1) := rfl
theorem q_31_13 : g_co X 31 13 = some (.iload_n 1) := rfl
theorem q_31_14 : g_co X 31 14 = some (.ishl) := rfl
theorem q_31_15 : g_co X 31 15 = some (.ior) := rfl
theorem q_31_16 : g_co X 31 16 = some (.putfield 275) := rfl
theorem q_31_19 : g_co X 31 19 = some (.return_) := rfl
theorem q_32_0 : g_co X 32 0 = some (.aload_n 0) := rfl
theorem q_32_1 : g_co X 32 1 = some (.dup) := rfl
theorem q_32_2 : g_co X 32 2 = some (.getfield 275) := rfl
theorem q_32_5 : g_co X 32 5 = some (.iconst 1) := rfl
theorem q_32_6 : g_co X 32 6 = some (.bipush 8) := rfl
theorem q_32_8 : g_co X 32 8 = some (.iload_n 2) := rfl
theorem q_32_9 : g_co X 32 9 = some (.iadd) := rfl
theorem q_32_10 : g_co X 32 10 = some (.ishl) := rfl
theorem q_32_11 : g_co X 32 11 = some (.ior) := rfl
theorem q_32_12 : g_co X 32 12 = some (.putfield 275) := rfl
theorem q_32_15 : g_co X 32 15 = some (.iload_n 1) := rfl
theorem q_32_16 : g_co X 32 16 = some (.iconst 1) := rfl
theorem q_32_17 : g_co X 32 17 = some (.if_icmp .ne 19) := rfl
theorem q_32_20 : g_co X 32 20 = some (.aload_n 0) := rfl
theorem q_32_21 : g_co X 32 21 = some (.getfield 42) := rfl
theorem q_32_24 : g_co X 32 24 = some (.bipush 8) := rfl
theorem q_32_26 : g_co X 32 26 = some (.dup2) := rfl
theorem q_32_27 : g_co X 32 27 = some (.iaload) := rfl
theorem q_32_28 : g_co X 32 28 = some (.iconst 1) := rfl
theorem q_32_29 : g_co X 32 29 = some (.iload_n 2) := rfl
theorem q_32_30 : g_co X 32 30 = some (.ishl) := rfl
theorem q_32_31 : g_co X 32 31 = some (.ior) := rfl
theorem q_32_32 : g_co X 32 32 = some (.iastore) := rfl
theorem q_32_33 : g_co X 32 33 = some (.goto 62) := rfl
theorem q_32_36 : g_co X 32 36 = some (.iload_n 1) := rfl
theorem q_32_37 : g_co X 32 37 = some (.iconst 2) := rfl
theorem q_32_38 : g_co X 32 38 = some (.if_icmp .ne 21) := rfl
theorem q_32_41 : g_co X 32 41 = some (.aload_n 0) := rfl
theorem q_32_42 : g_co X 32 42 = some (.getfield 42) := rfl
theorem q_32_45 : g_co X 32 45 = some (.bipush 8) := rfl
theorem q_32_47 : g_co X 32 47 = some (.dup2) := rfl
theorem q_32_48 : g_co X 32 48 = some (.iaload) := rfl
theorem q_32_49 : g_co X 32 49 = some (.iconst 1) := rfl
theorem q_32_50 : g_co X 32 50 = some (.iload_n 2) := rfl
theorem q_32_51 : g_co X 32 51 = some (.ishl) := rfl
theorem q_32_52 : g_co X 32 52 = some (.iconst (-1)) := rfl
theorem q_32_53 : g_co X 32 53 = some (.ixor) := rfl
theorem q_32_54 : g_co X 32 54 = some (.iand) := rfl
theorem q_32_55 : g_co X 32 55 = some (.iastore) := rfl
theorem q_32_56 : g_co X 32 56 = some (.goto 39) := rfl
theorem q_32_59 : g_co X 32 59 = some (.iload_n 1) := rfl
theorem q_32_60 : g_co X 32 60 = some (.iconst 3) := rfl
theorem q_32_61 : g_co X 32 61 = some (.if_icmp .ne 19) := rfl
theorem q_32_64 : g_co X 32 64 = some (.aload_n 0) := rfl
theorem q_32_65 : g_co X 32 65 = some (.getfield 42) := rfl
theorem q_32_68 : g_co X 32 68 = some (.bipush 9) := rfl
theorem q_32_70 : g_co X 32 70 = some (.dup2) := rfl
theorem q_32_71 : g_co X 32 71 = some (.iaload) := rfl
theorem q_32_72 : g_co X 32 72 = some (.iconst 1) := rfl
theorem q_32_73 : g_co X 32 73 = some (.iload_n 2) := rfl
theorem q_32_74 : g_co X 32 74 = some (.ishl) := rfl
theorem q_32_75 : g_co X 32 75 = some (.ior) := rfl
theorem q_32_76 : g_co X 32 76 = some (.iastore) := rfl
theorem q_32_77 : g_co X 32 77 = some (.goto 18) := rfl
theorem q_32_80 : g_co X 32 80 = some (.aload_n 0) := rfl
theorem q_32_81 : g_co X 32 81 = some (.getfield 42) := rfl
theorem q_32_84 : g_co X 32 84 = some (.bipush 9) := rfl
theorem q_32_86 : g_co X 32 86 = some (.dup2) := rfl
theorem q_32_87 : g_co X 32 87 = some (.iaload) := rfl
theorem q_32_88 : g_co X 32 88 = some (.iconst 1) := rfl
theorem q_32_89 : g_co X 32 89 = some (.iload_n 2) := rfl
theorem q_32_90 : g_co X 32 90 = some (.ishl) := rfl
theorem q_32_91 : g_co X 32 91 = some (.iconst (-1)) := rfl
theorem q_32_92 : g_co X 32 92 = some (.ixor) := rfl
theorem q_32_93 : g_co X 32 93 = some (.iand) := rfl
theorem q_32_94 : g_co X 32 94 = some (.iastore) := rfl
theorem q_32_95 : g_co X 32 95 = some (.return_) := rfl
theorem q_33_0 : g_co X 33 0 = some (.aload_n 0) := rfl
theorem q_33_1 : g_co X 33 1 = some (.getfield 42) := rfl
theorem q_33_4 : g_co X 33 4 = some (.bipush 37) := rfl
theorem q_33_6 : g_co X 33 6 = some (.iconst 1) := rfl
theorem q_33_7 : g_co X 33 7 = some (.iastore) := rfl
theorem q_33_8 : g_co X 33 8 = some (.aload_n 0) := rfl
theorem q_33_9 : g_co X 33 9 = some (.iconst 1) := rfl
theorem q_33_10 : g_co X 33 10 = some (.putfield 278) := rfl
theorem q_33_13 : g_co X 33 13 = some (.return_) := rfl
theorem q_34_0 : g_co X 34 0 = some (.aload_n 0) := rfl
theorem q_34_1 : g_co X 34 1 = some (.getfield 42) := rfl
theorem q_34_4 : g_co X 34 4 = some (.bipush 26) := rfl
theorem q_34_6 : g_co X 34 6 = some (.iaload) := rfl
theorem q_34_7 : g_co X 34 7 = some (.istore_n 3) := rfl
theorem q_34_8 : g_co X 34 8 = some (.iload_n 3) := rfl
theorem q_34_9 : g_co X 34 9 = some (.iconst 3) := rfl
theorem q_34_10 : g_co X 34 10 = some (.if_icmp .ne 8) := rfl
theorem q_34_13 : g_co X 34 13 = some (.aload_n 0) := rfl
theorem q_34_14 : g_co X 34 14 = some (.invokevirtual 269) := rfl
theorem q_34_17 : g_co X 34 17 = some (.return_) := rfl
theorem q_34_18 : g_co X 34 18 = some (.aload_n 0) := rfl
theorem q_34_19 : g_co X 34 19 = some (.getfield 42) := rfl
theorem q_34_22 : g_co X 34 22 = some (.bipush 27) := rfl
theorem q_34_24 : g_co X 34 24 = some (.iload_n 3) := rfl
theorem q_34_25 : g_co X 34 25 = some (.iadd) := rfl
theorem q_34_26 : g_co X 34 26 = some (.iload_n 1) := rfl
theorem q_34_27 : g_co X 34 27 = some (.iastore) := rfl
theorem q_34_28 : g_co X 34 28 = some (.aload_n 0) := rfl
theorem q_34_29 : g_co X 34 29 = some (.getfield 42) := rfl
theorem q_34_32 : g_co X 34 32 = some (.bipush 30) := rfl
theorem q_34_34 : g_co X 34 34 = some (.iload_n 3) := rfl
theorem q_34_35 : g_co X 34 35 = some (.iadd) := rfl
theorem q_34_36 : g_co X 34 36 = some (.iload_n 2) := rfl
theorem q_34_37 : g_co X 34 37 = some (.iastore) := rfl
theorem q_34_38 : g_co X 34 38 = some (.aload_n 0) := rfl
theorem q_34_39 : g_co X 34 39 = some (.getfield 42) := rfl
theorem q_34_42 : g_co X 34 42 = some (.bipush 50) := rfl
theorem q_34_44 : g_co X 34 44 = some (.iload_n 3) := rfl
theorem q_34_45 : g_co X 34 45 = some (.iadd) := rfl
theorem q_34_46 : g_co X 34 46 = some (.aload_n 0) := rfl
theorem q_34_47 : g_co X 34 47 = some (.getfield 281) := rfl
theorem q_34_50 : g_co X 34 50 = some (.iastore) := rfl
theorem q_34_51 : g_co X 34 51 = some (.aload_n 0) := rfl
theorem q_34_52 : g_co X 34 52 = some (.getfield 42) := rfl
theorem q_34_55 : g_co X 34 55 = some (.bipush 26) := rfl
theorem q_34_57 : g_co X 34 57 = some (.dup2) := rfl
theorem q_34_58 : g_co X 34 58 = some (.iaload) := rfl
theorem q_34_59 : g_co X 34 59 = some (.iconst 1) := rfl
theorem q_34_60 : g_co X 34 60 = some (.iadd) := rfl
theorem q_34_61 : g_co X 34 61 = some (.iastore) := rfl
theorem q_34_62 : g_co X 34 62 = some (.return_) := rfl
theorem q_35_0 : g_co X 35 0 = some (.iconst 0) := rfl
theorem q_35_1 : g_co X 35 1 = some (.istore_n 3) := rfl
theorem q_35_2 : g_co X 35 2 = some (.iload_n 3) := rfl
theorem q_35_3 : g_co X 35 3 = some (.aload_n 0) := rfl
theorem q_35_4 : g_co X 35 4 = some (.getfield 284) := rfl
theorem q_35_7 : g_co X 35 7 = some (.if_icmp .ge 40) := rfl
theorem q_35_10 : g_co X 35 10 = some (.aload_n 0) := rfl
theorem q_35_11 : g_co X 35 11 = some (.getfield 83) := rfl
theorem q_35_14 : g_co X 35 14 = some (.iload_n 3) := rfl
theorem q_35_15 : g_co X 35 15 = some (.baload) := rfl
theorem q_35_16 : g_co X 35 16 = some (.ifCond .eq 25) := rfl
theorem q_35_19 : g_co X 35 19 = some (.aload_n 0) := rfl
theorem q_35_20 : g_co X 35 20 = some (.getfield 71) := rfl
theorem q_35_23 : g_co X 35 23 = some (.iload_n 3) := rfl
theorem q_35_24 : g_co X 35 24 = some (.iaload) := rfl
theorem q_35_25 : g_co X 35 25 = some (.iload_n 1) := rfl
theorem q_35_26 : g_co X 35 26 = some (.if_icmp .ne 15) := rfl
theorem q_35_29 : g_co X 35 29 = some (.aload_n 0) := rfl
theorem q_35_30 : g_co X 35 30 = some (.getfield 77) := rfl
theorem q_35_33 : g_co X 35 33 = some (.iload_n 3) := rfl
theorem q_35_34 : g_co X 35 34 = some (.iaload) := rfl
theorem q_35_35 : g_co X 35 35 = some (.iload_n 2) := rfl
theorem q_35_36 : g_co X 35 36 = some (.if_icmp .ne 5) := rfl
theorem q_35_39 : g_co X 35 39 = some (.iconst 1) := rfl
theorem q_35_40 : g_co X 35 40 = some (.ireturn) := rfl
theorem q_35_41 : g_co X 35 41 = some (.iinc 3 1) := rfl
theorem q_35_44 : g_co X 35 44 = some (.goto (-42)) := rfl
theorem q_35_47 : g_co X 35 47 = some (.iconst 0) := rfl
theorem q_35_48 : g_co X 35 48 = some (.ireturn) := rfl
theorem q_36_0 : g_co X 36 0 = some (.aload_n 0) := rfl
theorem q_36_1 : g_co X 36 1 = some (.getfield 42) := rfl
theorem q_36_4 : g_co X 36 4 = some (.bipush 10) := rfl
theorem q_36_6 : g_co X 36 6 = some (.iload_n 1) := rfl
theorem q_36_7 : g_co X 36 7 = some (.iadd) := rfl
theorem q_36_8 : g_co X 36 8 = some (.iconst 0) := rfl
theorem q_36_9 : g_co X 36 9 = some (.iastore) := rfl
theorem q_36_10 : g_co X 36 10 = some (.iconst 0) := rfl
theorem q_36_11 : g_co X 36 11 = some (.istore_n 2) := rfl
theorem q_36_12 : g_co X 36 12 = some (.iload_n 2) := rfl
theorem q_36_13 : g_co X 36 13 = some (.iconst 3) := rfl
theorem q_36_14 : g_co X 36 14 = some (.if_icmp .ge 37) := rfl
theorem q_36_17 : g_co X 36 17 = some (.aload_n 0) := rfl
theorem q_36_18 : g_co X 36 18 = some (.getfield 42) := rfl
theorem q_36_21 : g_co X 36 21 = some (.bipush 14) := rfl
theorem q_36_23 : g_co X 36 23 = some (.iconst 3) := rfl
theorem q_36_24 : g_co X 36 24 = some (.iload_n 1) := rfl
theorem q_36_25 : g_co X 36 25 = some (.imul) := rfl
theorem q_36_26 : g_co X 36 26 = some (.iadd) := rfl
theorem q_36_27 : g_co X 36 27 = some (.iload_n 2) := rfl
theorem q_36_28 : g_co X 36 28 = some (.iadd) := rfl
theorem q_36_29 : g_co X 36 29 = some (.iconst 0) := rfl
theorem q_36_30 : g_co X 36 30 = some (.iastore) := rfl
theorem q_36_31 : g_co X 36 31 = some (.aload_n 0) := rfl
theorem q_36_32 : g_co X 36 32 = some (.getfield 42) := rfl
theorem q_36_35 : g_co X 36 35 = some (.bipush 38) := rfl
theorem q_36_37 : g_co X 36 37 = some (.iconst 3) := rfl
theorem q_36_38 : g_co X 36 38 = some (.iload_n 1) := rfl
theorem q_36_39 : g_co X 36 39 = some (.imul) := rfl
theorem q_36_40 : g_co X 36 40 = some (.iadd) := rfl
theorem q_36_41 : g_co X 36 41 = some (.iload_n 2) := rfl
theorem q_36_42 : g_co X 36 42 = some (.iadd) := rfl
theorem q_36_43 : g_co X 36 43 = some (.iconst 0) := rfl
theorem q_36_44 : g_co X 36 44 = some (.iastore) := rfl
theorem q_36_45 : g_co X 36 45 = some (.iinc 2 1) := rfl
theorem q_36_48 : g_co X 36 48 = some (.goto (-36)) := rfl
theorem q_36_51 : g_co X 36 51 = some (.return_) := rfl
theorem q_37_0 : g_co X 37 0 = some (.aload_n 0) := rfl
theorem q_37_1 : g_co X 37 1 = some (.iconst 2) := rfl
theorem q_37_2 : g_co X 37 2 = some (.iload_n 1) := rfl
theorem q_37_3 : g_co X 37 3 = some (.invokevirtual 287) := rfl
theorem q_37_6 : g_co X 37 6 = some (.ifCond .eq 8) := rfl
theorem q_37_9 : g_co X 37 9 = some (.aload_n 0) := rfl
theorem q_37_10 : g_co X 37 10 = some (.iload_n 1) := rfl
theorem q_37_11 : g_co X 37 11 = some (.invokevirtual 291) := rfl
theorem q_37_14 : g_co X 37 14 = some (.aload_n 0) := rfl
theorem q_37_15 : g_co X 37 15 = some (.getfield 42) := rfl
theorem q_37_18 : g_co X 37 18 = some (.bipush 10) := rfl
theorem q_37_20 : g_co X 37 20 = some (.iload_n 1) := rfl
theorem q_37_21 : g_co X 37 21 = some (.iadd) := rfl
theorem q_37_22 : g_co X 37 22 = some (.iaload) := rfl
theorem q_37_23 : g_co X 37 23 = some (.istore_n 3) := rfl
theorem q_37_24 : g_co X 37 24 = some (.iload_n 3) := rfl
theorem q_37_25 : g_co X 37 25 = some (.iconst 3) := rfl
theorem q_37_26 : g_co X 37 26 = some (.if_icmp .ne 8) := rfl
theorem q_37_29 : g_co X 37 29 = some (.aload_n 0) := rfl
theorem q_37_30 : g_co X 37 30 = some (.invokevirtual 269) := rfl
theorem q_37_33 : g_co X 37 33 = some (.return_) := rfl
theorem q_37_34 : g_co X 37 34 = some (.aload_n 0) := rfl
theorem q_37_35 : g_co X 37 35 = some (.getfield 42) := rfl
theorem q_37_38 : g_co X 37 38 = some (.bipush 14) := rfl
theorem q_37_40 : g_co X 37 40 = some (.iconst 3) := rfl
theorem q_37_41 : g_co X 37 41 = some (.iload_n 1) := rfl
theorem q_37_42 : g_co X 37 42 = some (.imul) := rfl
theorem q_37_43 : g_co X 37 43 = some (.iadd) := rfl
theorem q_37_44 : g_co X 37 44 = some (.iload_n 3) := rfl
theorem q_37_45 : g_co X 37 45 = some (.iadd) := rfl
theorem q_37_46 : g_co X 37 46 = some (.iload_n 2) := rfl
theorem q_37_47 : g_co X 37 47 = some (.iastore) := rfl
theorem q_37_48 : g_co X 37 48 = some (.aload_n 0) := rfl
theorem q_37_49 : g_co X 37 49 = some (.getfield 42) := rfl
theorem q_37_52 : g_co X 37 52 = some (.bipush 38) := rfl
theorem q_37_54 : g_co X 37 54 = some (.iconst 3) := rfl
theorem q_37_55 : g_co X 37 55 = some (.iload_n 1) := rfl
theorem q_37_56 : g_co X 37 56 = some (.imul) := rfl
theorem q_37_57 : g_co X 37 57 = some (.iadd) := rfl
theorem q_37_58 : g_co X 37 58 = some (.iload_n 3) := rfl
theorem q_37_59 : g_co X 37 59 = some (.iadd) := rfl
theorem q_37_60 : g_co X 37 60 = some (.aload_n 0) := rfl
theorem q_37_61 : g_co X 37 61 = some (.getfield 281) := rfl
theorem q_37_64 : g_co X 37 64 = some (.iastore) := rfl
theorem q_37_65 : g_co X 37 65 = some (.aload_n 0) := rfl
theorem q_37_66 : g_co X 37 66 = some (.getfield 42) := rfl
theorem q_37_69 : g_co X 37 69 = some (.bipush 10) := rfl
theorem q_37_71 : g_co X 37 71 = some (.iload_n 1) := rfl
theorem q_37_72 : g_co X 37 72 = some (.iadd) := rfl
theorem q_37_73 : g_co X 37 73 = some (.dup2) := rfl
theorem q_37_74 : g_co X 37 74 = some (.iaload) := rfl
theorem q_37_75 : g_co X 37 75 = some (.iconst 1) := rfl
theorem q_37_76 : g_co X 37 76 = some (.iadd) := rfl
theorem q_37_77 : g_co X 37 77 = some (.iastore) := rfl
theorem q_37_78 : g_co X 37 78 = some (.aload_n 0) := rfl
theorem q_37_79 : g_co X 37 79 = some (.dup) := rfl
theorem q_37_80 : g_co X 37 80 = some (.getfield 275) := rfl
theorem q_37_83 : g_co X 37 83 = some (.iconst 1) := rfl
theorem q_37_84 : g_co X 37 84 = some (.bipush 20) := rfl
theorem q_37_86 : g_co X 37 86 = some (.iload_n 1) := rfl
theorem q_37_87 : g_co X 37 87 = some (.iadd) := rfl
theorem q_37_88 : g_co X 37 88 = some (.ishl) := rfl
theorem q_37_89 : g_co X 37 89 = some (.ior) := rfl
theorem q_37_90 : g_co X 37 90 = some (.putfield 275) := rfl
theorem q_37_93 : g_co X 37 93 = some (.return_) := rfl
theorem q_38_0 : g_co X 38 0 = some (.aload_n 0) := rfl
theorem q_38_1 : g_co X 38 1 = some (.iload_n 1) := rfl
theorem q_38_2 : g_co X 38 2 = some (.invokevirtual 291) := rfl
theorem q_38_5 : g_co X 38 5 = some (.aload_n 0) := rfl
theorem q_38_6 : g_co X 38 6 = some (.dup) := rfl
theorem q_38_7 : g_co X 38 7 = some (.getfield 275) := rfl
theorem q_38_10 : g_co X 38 10 = some (.iconst 1) := rfl
theorem q_38_11 : g_co X 38 11 = some (.bipush 20) := rfl
theorem q_38_13 : g_co X 38 13 = some (.iload_n 1) := rfl
theorem q_38_14 : g_co X 38 14 = some (.iadd) := rfl
theorem q_38_15 : g_co X 38 15 = some (.ishl) := rfl
theorem q_38_16 : g_co X 38 16 = some (.ior) := rfl
theorem q_38_17 : g_co X 38 17 = some (.putfield 275) := rfl
theorem q_38_20 : g_co X 38 20 = some (.return_) := rfl
theorem q_39_0 : g_co X 39 0 = some (.aload_n 0) := rfl
theorem q_39_1 : g_co X 39 1 = some (.getfield 42) := rfl
theorem q_39_4 : g_co X 39 4 = some (.bipush 33) := rfl
theorem q_39_6 : g_co X 39 6 = some (.iload_n 1) := rfl
theorem q_39_7 : g_co X 39 7 = some (.iadd) := rfl
theorem q_39_8 : g_co X 39 8 = some (.iload_n 2) := rfl
theorem q_39_9 : g_co X 39 9 = some (.iastore) := rfl
theorem q_39_10 : g_co X 39 10 = some (.aload_n 0) := rfl
theorem q_39_11 : g_co X 39 11 = some (.dup) := rfl
theorem q_39_12 : g_co X 39 12 = some (.getfield 275) := rfl
theorem q_39_15 : g_co X 39 15 = some (.iconst 1) := rfl
theorem q_39_16 : g_co X 39 16 = some (.bipush 16) := rfl
theorem q_39_18 : g_co X 39 18 = some (.iload_n 1) := rfl
theorem q_39_19 : g_co X 39 19 = some (.iadd) := rfl
theorem q_39_20 : g_co X 39 20 = some (.ishl) := rfl
theorem q_39_21 : g_co X 39 21 = some (.ior) := rfl
theorem q_39_22 : g_co X 39 22 = some (.putfield 275) := rfl
theorem q_39_25 : g_co X 39 25 = some (.aload_n 0) := rfl
theorem q_39_26 : g_co X 39 26 = some (.getfield 45) := rfl
theorem q_39_29 : g_co X 39 29 = some (.iconst (-1)) := rfl
theorem q_39_30 : g_co X 39 30 = some (.if_icmp .ne 4) := rfl
theorem q_39_33 : g_co X 39 33 = some (.return_) := rfl
theorem q_39_34 : g_co X 39 34 = some (.aload_n 0) := rfl
theorem q_39_35 : g_co X 39 35 = some (.getfield 108) := rfl
theorem q_39_38 : g_co X 39 38 = some (.iload_n 1) := rfl
theorem q_39_39 : g_co X 39 39 = some (.iaload) := rfl
theorem q_39_40 : g_co X 39 40 = some (.iconst 1) := rfl
theorem q_39_41 : g_co X 39 41 = some (.aload_n 0) := rfl
theorem q_39_42 : g_co X 39 42 = some (.getfield 45) := rfl
theorem q_39_45 : g_co X 39 45 = some (.isub) := rfl
theorem q_39_46 : g_co X 39 46 = some (.if_icmp .ne 27) := rfl
theorem q_39_49 : g_co X 39 49 = some (.aload_n 0) := rfl
theorem q_39_50 : g_co X 39 50 = some (.getfield 111) := rfl
theorem q_39_53 : g_co X 39 53 = some (.aload_n 0) := rfl
theorem q_39_54 : g_co X 39 54 = some (.getfield 45) := rfl
theorem q_39_57 : g_co X 39 57 = some (.aaload) := rfl
theorem q_39_58 : g_co X 39 58 = some (.iload_n 1) := rfl
theorem q_39_59 : g_co X 39 59 = some (.baload) := rfl
theorem q_39_60 : g_co X 39 60 = some (.ifCond .ne 13) := rfl
theorem q_39_63 : g_co X 39 63 = some (.aload_n 0) := rfl
theorem q_39_64 : g_co X 39 64 = some (.dup) := rfl
theorem q_39_65 : g_co X 39 65 = some (.getfield 294) := rfl
theorem q_39_68 : g_co X 39 68 = some (.iconst 1) := rfl
theorem q_39_69 : g_co X 39 69 = some (.iadd) := rfl
theorem q_39_70 : g_co X 39 70 = some (.putfield 294) := rfl
theorem q_39_73 : g_co X 39 73 = some (.aload_n 0) := rfl
theorem q_39_74 : g_co X 39 74 = some (.getfield 108) := rfl
theorem q_39_77 : g_co X 39 77 = some (.iload_n 1) := rfl
theorem q_39_78 : g_co X 39 78 = some (.aload_n 0) := rfl
theorem q_39_79 : g_co X 39 79 = some (.getfield 45) := rfl
theorem q_39_82 : g_co X 39 82 = some (.iastore) := rfl
theorem q_39_83 : g_co X 39 83 = some (.aload_n 0) := rfl
theorem q_39_84 : g_co X 39 84 = some (.getfield 111) := rfl
theorem q_39_87 : g_co X 39 87 = some (.iconst 1) := rfl
theorem q_39_88 : g_co X 39 88 = some (.aload_n 0) := rfl
theorem q_39_89 : g_co X 39 89 = some (.getfield 45) := rfl
theorem q_39_92 : g_co X 39 92 = some (.isub) := rfl
theorem q_39_93 : g_co X 39 93 = some (.aaload) := rfl
theorem q_39_94 : g_co X 39 94 = some (.iload_n 1) := rfl
theorem q_39_95 : g_co X 39 95 = some (.iconst 0) := rfl
theorem q_39_96 : g_co X 39 96 = some (.bastore) := rfl
theorem q_39_97 : g_co X 39 97 = some (.return_) := rfl
theorem q_40_0 : g_co X 40 0 = some (.aload_n 0) := rfl
theorem q_40_1 : g_co X 40 1 = some (.bipush 19) := rfl
theorem q_40_3 : g_co X 40 3 = some (.bipush 20) := rfl
theorem q_40_5 : g_co X 40 5 = some (.iconst 1) := rfl
theorem q_40_6 : g_co X 40 6 = some (.bipush 18) := rfl
theorem q_40_8 : g_co X 40 8 = some (.bipush 20) := rfl
theorem q_40_10 : g_co X 40 10 = some (.iconst 0) := rfl
theorem q_40_11 : g_co X 40 11 = some (.invokevirtual 196) := rfl
theorem q_40_14 : g_co X 40 14 = some (.ifCond .eq 9) := rfl
theorem q_40_17 : g_co X 40 17 = some (.aload_n 0) := rfl
theorem q_40_18 : g_co X 40 18 = some (.invokevirtual 200) := rfl
theorem q_40_21 : g_co X 40 21 = some (.iconst 0) := rfl
theorem q_40_22 : g_co X 40 22 = some (.ireturn) := rfl
theorem q_40_23 : g_co X 40 23 = some (.aload_n 0) := rfl
theorem q_40_24 : g_co X 40 24 = some (.bipush 16) := rfl
theorem q_40_26 : g_co X 40 26 = some (.bipush 18) := rfl
theorem q_40_28 : g_co X 40 28 = some (.iconst 5) := rfl
theorem q_40_29 : g_co X 40 29 = some (.bipush 19) := rfl
theorem q_40_31 : g_co X 40 31 = some (.bipush 19) := rfl
theorem q_40_33 : g_co X 40 33 = some (.iconst 0) := rfl
theorem q_40_34 : g_co X 40 34 = some (.invokevirtual 196) := rfl
theorem q_40_37 : g_co X 40 37 = some (.ifCond .eq 16) := rfl
theorem q_40_40 : g_co X 40 40 = some (.aload_n 0) := rfl
theorem q_40_41 : g_co X 40 41 = some (.invokevirtual 200) := rfl
theorem q_40_44 : g_co X 40 44 = some (.iconst 1) := rfl
theorem q_40_45 : g_co X 40 45 = some (.aload_n 0) := rfl
theorem q_40_46 : g_co X 40 46 = some (.bipush 7) := rfl
theorem q_40_48 : g_co X 40 48 = some (.invokevirtual 206) := rfl
theorem q_40_51 : g_co X 40 51 = some (.iadd) := rfl
theorem q_40_52 : g_co X 40 52 = some (.ireturn) := rfl
theorem q_40_53 : g_co X 40 53 = some (.aload_n 0) := rfl
theorem q_40_54 : g_co X 40 54 = some (.iconst 3) := rfl
theorem q_40_55 : g_co X 40 55 = some (.bipush 12) := rfl
theorem q_40_57 : g_co X 40 57 = some (.bipush 15) := rfl
theorem q_40_59 : g_co X 40 59 = some (.iconst 3) := rfl
theorem q_40_60 : g_co X 40 60 = some (.bipush 11) := rfl
theorem q_40_62 : g_co X 40 62 = some (.iconst 0) := rfl
theorem q_40_63 : g_co X 40 63 = some (.invokevirtual 196) := rfl
theorem q_40_66 : g_co X 40 66 = some (.ifCond .eq 16) := rfl
theorem q_40_69 : g_co X 40 69 = some (.aload_n 0) := rfl
theorem q_40_70 : g_co X 40 70 = some (.invokevirtual 200) := rfl
theorem q_40_73 : g_co X 40 73 = some (.bipush 9) := rfl
theorem q_40_75 : g_co X 40 75 = some (.aload_n 0) := rfl
theorem q_40_76 : g_co X 40 76 = some (.iconst 3) := rfl
theorem q_40_77 : g_co X 40 77 = some (.invokevirtual 206) := rfl
theorem q_40_80 : g_co X 40 80 = some (.iadd) := rfl
theorem q_40_81 : g_co X 40 81 = some (.ireturn) := rfl
theorem q_40_82 : g_co X 40 82 = some (.aload_n 0) := rfl
theorem q_40_83 : g_co X 40 83 = some (.iconst 1) := rfl
theorem q_40_84 : g_co X 40 84 = some (.bipush 14) := rfl
theorem q_40_86 : g_co X 40 86 = some (.bipush 19) := rfl
theorem q_40_88 : g_co X 40 88 = some (.bipush 23) := rfl
theorem q_40_90 : g_co X 40 90 = some (.iconst 5) := rfl
theorem q_40_91 : g_co X 40 91 = some (.bipush 18) := rfl
theorem q_40_93 : g_co X 40 93 = some (.invokevirtual 196) := rfl
theorem q_40_96 : g_co X 40 96 = some (.ifCond .eq 16) := rfl
theorem q_40_99 : g_co X 40 99 = some (.aload_n 0) := rfl
theorem q_40_100 : g_co X 40 100 = some (.invokevirtual 200) := rfl
theorem q_40_103 : g_co X 40 103 = some (.bipush 13) := rfl
theorem q_40_105 : g_co X 40 105 = some (.aload_n 0) := rfl
theorem q_40_106 : g_co X 40 106 = some (.iconst 3) := rfl
theorem q_40_107 : g_co X 40 107 = some (.invokevirtual 206) := rfl
theorem q_40_110 : g_co X 40 110 = some (.iadd) := rfl
theorem q_40_111 : g_co X 40 111 = some (.ireturn) := rfl
theorem q_40_112 : g_co X 40 112 = some (.aload_n 0) := rfl
theorem q_40_113 : g_co X 40 113 = some (.iconst 1) := rfl
theorem q_40_114 : g_co X 40 114 = some (.aload_n 0) := rfl
theorem q_40_115 : g_co X 40 115 = some (.getfield 138) := rfl
theorem q_40_118 : g_co X 40 118 = some (.invokevirtual 166) := rfl
theorem q_40_121 : g_co X 40 121 = some (.iconst 0) := rfl
theorem q_40_122 : g_co X 40 122 = some (.ireturn) := rfl
theorem q_41_0 : g_co X 41 0 = some (.aload_n 0) := rfl
theorem q_41_1 : g_co X 41 1 = some (.getfield 138) := rfl
theorem q_41_4 : g_co X 41 4 = some (.istore_n 1) := rfl
theorem q_41_5 : g_co X 41 5 = some (.aload_n 0) := rfl
theorem q_41_6 : g_co X 41 6 = some (.bipush 15) := rfl
theorem q_41_8 : g_co X 41 8 = some (.bipush 14) := rfl
theorem q_41_10 : g_co X 41 10 = some (.iconst 0) := rfl
theorem q_41_11 : g_co X 41 11 = some (.iconst 0) := rfl
theorem q_41_12 : g_co X 41 12 = some (.iconst 0) := rfl
theorem q_41_13 : g_co X 41 13 = some (.iconst 0) := rfl
theorem q_41_14 : g_co X 41 14 = some (.invokevirtual 196) := rfl
theorem q_41_17 : g_co X 41 17 = some (.ifCond .eq 104) := rfl
theorem q_41_20 : g_co X 41 20 = some (.aload_n 0) := rfl
theorem q_41_21 : g_co X 41 21 = some (.invokevirtual 200) := rfl
theorem q_41_24 : g_co X 41 24 = some (.aload_n 0) := rfl
theorem q_41_25 : g_co X 41 25 = some (.invokevirtual 297) := rfl
theorem q_41_28 : g_co X 41 28 = some (.istore_n 2) := rfl
theorem q_41_29 : g_co X 41 29 = some (.aload_n 0) := rfl
theorem q_41_30 : g_co X 41 30 = some (.getfield 145) := rfl
theorem q_41_33 : g_co X 41 33 = some (.ifCond .ne 19) := rfl
theorem q_41_36 : g_co X 41 36 = some (.aload_n 0) := rfl
theorem q_41_37 : g_co X 41 37 = some (.getfield 39) := rfl
theorem q_41_40 : g_co X 41 40 = some (.iload_n 2) := rfl
theorem q_41_41 : g_co X 41 41 = some (.iaload) := rfl
theorem q_41_42 : g_co X 41 42 = some (.iconst (-1)) := rfl
theorem q_41_43 : g_co X 41 43 = some (.if_icmp .eq 9) := rfl
theorem q_41_46 : g_co X 41 46 = some (.aload_n 0) := rfl
theorem q_41_47 : g_co X 41 47 = some (.iconst 4) := rfl
theorem q_41_48 : g_co X 41 48 = some (.iload_n 1) := rfl
theorem q_41_49 : g_co X 41 49 = some (.invokevirtual 166) := rfl
theorem q_41_52 : g_co X 41 52 = some (.aload_n 0) := rfl
theorem q_41_53 : g_co X 41 53 = some (.getfield 145) := rfl
theorem q_41_56 : g_co X 41 56 = some (.ifCond .ne 9) := rfl
theorem q_41_59 : g_co X 41 59 = some (.aload_n 0) := rfl
theorem q_41_60 : g_co X 41 60 = some (.bipush 123) := rfl
theorem q_41_62 : g_co X 41 62 = some (.invokevirtual 219) := rfl
theorem q_41_65 : g_co X 41 65 = some (.aload_n 0) := rfl
theorem q_41_66 : g_co X 41 66 = some (.getfield 39) := rfl
theorem q_41_69 : g_co X 41 69 = some (.iload_n 2) := rfl
theorem q_41_70 : g_co X 41 70 = some (.aload_n 0) := rfl
theorem q_41_71 : g_co X 41 71 = some (.getfield 138) := rfl
theorem q_41_74 : g_co X 41 74 = some (.iastore) := rfl
theorem q_41_75 : g_co X 41 75 = some (.aload_n 0) := rfl
theorem q_41_76 : g_co X 41 76 = some (.invokevirtual 151) := rfl
theorem q_41_79 : g_co X 41 79 = some (.aload_n 0) := rfl
theorem q_41_80 : g_co X 41 80 = some (.getfield 145) := rfl
theorem q_41_83 : g_co X 41 83 = some (.ifCond .ne 27) := rfl
theorem q_41_86 : g_co X 41 86 = some (.aload_n 0) := rfl
theorem q_41_87 : g_co X 41 87 = some (.aload_n 0) := rfl
theorem q_41_88 : g_co X 41 88 = some (.getfield 138) := rfl
theorem q_41_91 : g_co X 41 91 = some (.invokevirtual 141) := rfl
theorem q_41_94 : g_co X 41 94 = some (.bipush 125) := rfl
theorem q_41_96 : g_co X 41 96 = some (.if_icmp .eq 14) := rfl
theorem q_41_99 : g_co X 41 99 = some (.aload_n 0) := rfl
theorem q_41_100 : g_co X 41 100 = some (.invokevirtual 272) := rfl
theorem q_41_103 : g_co X 41 103 = some (.aload_n 0) := rfl
theorem q_41_104 : g_co X 41 104 = some (.invokevirtual 151) := rfl
theorem q_41_107 : g_co X 41 107 = some (.goto (-28)) := rfl
theorem q_41_110 : g_co X 41 110 = some (.aload_n 0) := rfl
theorem q_41_111 : g_co X 41 111 = some (.dup) := rfl
theorem q_41_112 : g_co X 41 112 = some (.getfield 138) := rfl
theorem q_41_115 : g_co X 41 115 = some (.iconst 1) := rfl
theorem q_41_116 : g_co X 41 116 = some (.iadd) := rfl
theorem q_41_117 : g_co X 41 117 = some (.putfield 138) := rfl
theorem q_41_120 : g_co X 41 120 = some (.return_) := rfl
theorem q_41_121 : g_co X 41 121 = some (.aload_n 0) := rfl
theorem q_41_122 : g_co X 41 122 = some (.bipush 8) := rfl
theorem q_41_124 : g_co X 41 124 = some (.iconst 1) := rfl
theorem q_41_125 : g_co X 41 125 = some (.bipush 18) := rfl
theorem q_41_127 : g_co X 41 127 = some (.bipush 13) := rfl
theorem q_41_129 : g_co X 41 129 = some (.iconst 0) := rfl
theorem q_41_130 : g_co X 41 130 = some (.iconst 0) := rfl
theorem q_41_131 : g_co X 41 131 = some (.invokevirtual 196) := rfl
theorem q_41_134 : g_co X 41 134 = some (.istore_n 2) := rfl
theorem q_41_135 : g_co X 41 135 = some (.aload_n 0) := rfl
theorem q_41_136 : g_co X 41 136 = some (.bipush 16) := rfl
theorem q_41_138 : g_co X 41 138 = some (.bipush 12) := rfl
theorem q_41_140 : g_co X 41 140 = some (.iconst 1) := rfl
theorem q_41_141 : g_co X 41 141 = some (.iconst 3) := rfl
theorem q_41_142 : g_co X 41 142 = some (.iconst 5) := rfl
theorem q_41_143 : g_co X 41 143 = some (.iconst 0) := rfl
theorem q_41_144 : g_co X 41 144 = some (.invokevirtual 196) := rfl
theorem q_41_147 : g_co X 41 147 = some (.istore_n 3) := rfl
theorem q_41_148 : g_co X 41 148 = some (.iload_n 2) := rfl
theorem q_41_149 : g_co X 41 149 = some (.ifCond .ne 16) := rfl
theorem q_41_152 : g_co X 41 152 = some (.iload_n 3) := rfl
theorem q_41_153 : g_co X 41 153 = some (.ifCond .ne 12) := rfl
theorem q_41_156 : g_co X 41 156 = some (.aload_n 0) := rfl
theorem q_41_157 : g_co X 41 157 = some (.iconst 1) := rfl
theorem q_41_158 : g_co X 41 158 = some (.aload_n 0) := rfl
theorem q_41_159 : g_co X 41 159 = some (.getfield 138) := rfl
theorem q_41_162 : g_co X 41 162 = some (.invokevirtual 166) := rfl
theorem q_41_165 : g_co X 41 165 = some (.aload_n 0) := rfl
theorem q_41_166 : g_co X 41 166 = some (.getfield 145) := rfl
theorem q_41_169 : g_co X 41 169 = some (.ifCond .eq 4) := rfl
theorem q_41_172 : g_co X 41 172 = some (.return_) := rfl
theorem q_41_173 : g_co X 41 173 = some (.aload_n 0) := rfl
theorem q_41_174 : g_co X 41 174 = some (.invokevirtual 200) := rfl
theorem q_41_177 : g_co X 41 177 = some (.iload_n 2) := rfl
theorem q_41_178 : g_co X 41 178 = some (.ifCond .eq 14) := rfl
theorem q_41_181 : g_co X 41 181 = some (.aload_n 0) := rfl
theorem q_41_182 : g_co X 41 182 = some (.aload_n 0) := rfl
theorem q_41_183 : g_co X 41 183 = some (.getfield 138) := rfl
theorem q_41_186 : g_co X 41 186 = some (.putfield 300) := rfl
theorem q_41_189 : g_co X 41 189 = some (.goto 11) := rfl
theorem q_41_192 : g_co X 41 192 = some (.aload_n 0) := rfl
theorem q_41_193 : g_co X 41 193 = some (.aload_n 0) := rfl
theorem q_41_194 : g_co X 41 194 = some (.getfield 138) := rfl
theorem q_41_197 : g_co X 41 197 = some (.putfield 303) := rfl
theorem q_41_200 : g_co X 41 200 = some (.aload_n 0) := rfl
theorem q_41_201 : g_co X 41 201 = some (.invokevirtual 232) := rfl
theorem q_41_204 : g_co X 41 204 = some (.pop) := rfl
theorem q_41_205 : g_co X 41 205 = some (.aload_n 0) := rfl
theorem q_41_206 : g_co X 41 206 = some (.getfield 145) := rfl
theorem q_41_209 : g_co X 41 209 = some (.ifCond .ne 9) := rfl
theorem q_41_212 : g_co X 41 212 = some (.aload_n 0) := rfl
theorem q_41_213 : g_co X 41 213 = some (.bipush 59) := rfl
theorem q_41_215 : g_co X 41 215 = some (.invokevirtual 219) := rfl
theorem q_41_218 : g_co X 41 218 = some (.return_) := rfl
theorem q_42_0 : g_co X 42 0 = some (.aload_n 0) := rfl
theorem q_42_1 : g_co X 42 1 = some (.iconst 0) := rfl
theorem q_42_2 : g_co X 42 2 = some (.putfield 126) := rfl
theorem q_42_5 : g_co X 42 5 = some (.aload_n 0) := rfl
theorem q_42_6 : g_co X 42 6 = some (.iload_n 1) := rfl
theorem q_42_7 : g_co X 42 7 = some (.iconst 0) := rfl
theorem q_42_8 : g_co X 42 8 = some (.aload_n 0) := rfl
theorem q_42_9 : g_co X 42 9 = some (.getfield 129) := rfl
theorem q_42_12 : g_co X 42 12 = some (.invokestatic 247) := rfl
theorem q_42_15 : g_co X 42 15 = some (.ifCond .ne 7) := rfl
theorem q_42_18 : g_co X 42 18 = some (.iconst 1) := rfl
theorem q_42_19 : g_co X 42 19 = some (.goto 4) := rfl
theorem q_42_22 : g_co X 42 22 = some (.iconst 0) := rfl
theorem q_42_23 : g_co X 42 23 = some (.iconst 1) := rfl
theorem q_42_24 : g_co X 42 24 = some (.invokevirtual 306) := rfl
theorem q_42_27 : g_co X 42 27 = some (.ifCond .eq 5) := rfl
theorem q_42_30 : g_co X 42 30 = some (.iconst 0) := rfl
theorem q_42_31 : g_co X 42 31 = some (.ireturn) := rfl
theorem q_42_32 : g_co X 42 32 = some (.aload_n 0) := rfl
theorem q_42_33 : g_co X 42 33 = some (.iconst (-1)) := rfl
theorem q_42_34 : g_co X 42 34 = some (.putfield 135) := rfl
theorem q_42_37 : g_co X 42 37 = some (.aload_n 0) := rfl
theorem q_42_38 : g_co X 42 38 = some (.iload_n 1) := rfl
theorem q_42_39 : g_co X 42 39 = some (.putfield 132) := rfl
theorem q_42_42 : g_co X 42 42 = some (.aload_n 0) := rfl
theorem q_42_43 : g_co X 42 43 = some (.iconst 0) := rfl
theorem q_42_44 : g_co X 42 44 = some (.putfield 138) := rfl
theorem q_42_47 : g_co X 42 47 = some (.aload_n 0) := rfl
theorem q_42_48 : g_co X 42 48 = some (.iconst 0) := rfl
theorem q_42_49 : g_co X 42 49 = some (.putfield 177) := rfl
theorem q_42_52 : g_co X 42 52 = some (.aload_n 0) := rfl
theorem q_42_53 : g_co X 42 53 = some (.iconst 0) := rfl
theorem q_42_54 : g_co X 42 54 = some (.putfield 145) := rfl
theorem q_42_57 : g_co X 42 57 = some (.aload_n 0) := rfl
theorem q_42_58 : g_co X 42 58 = some (.iconst (-1)) := rfl
theorem q_42_59 : g_co X 42 59 = some (.putfield 148) := rfl
theorem q_42_62 : g_co X 42 62 = some (.aload_n 0) := rfl
theorem q_42_63 : g_co X 42 63 = some (.iconst 0) := rfl
theorem q_42_64 : g_co X 42 64 = some (.putfield 241) := rfl
theorem q_42_67 : g_co X 42 67 = some (.aload_n 0) := rfl
theorem q_42_68 : g_co X 42 68 = some (.iconst (-1)) := rfl
theorem q_42_69 : g_co X 42 69 = some (.putfield 300) := rfl
theorem q_42_72 : g_co X 42 72 = some (.aload_n 0) := rfl
theorem q_42_73 : g_co X 42 73 = some (.iconst (-1)) := rfl
theorem q_42_74 : g_co X 42 74 = some (.putfield 303) := rfl
theorem q_42_77 : g_co X 42 77 = some (.aload_n 0) := rfl
theorem q_42_78 : g_co X 42 78 = some (.iconst 0) := rfl
theorem q_42_79 : g_co X 42 79 = some (.putfield 180) := rfl
theorem q_42_82 : g_co X 42 82 = some (.iconst 0) := rfl
theorem q_42_83 : g_co X 42 83 = some (.istore_n 2) := rfl
theorem q_42_84 : g_co X 42 84 = some (.iload_n 2) := rfl
theorem q_42_85 : g_co X 42 85 = some (.bipush 17) := rfl
theorem q_42_87 : g_co X 42 87 = some (.if_icmp .ge 16) := rfl
theorem q_42_90 : g_co X 42 90 = some (.aload_n 0) := rfl
theorem q_42_91 : g_co X 42 91 = some (.getfield 39) := rfl
theorem q_42_94 : g_co X 42 94 = some (.iload_n 2) := rfl
theorem q_42_95 : g_co X 42 95 = some (.iconst (-1)) := rfl
theorem q_42_96 : g_co X 42 96 = some (.iastore) := rfl
theorem q_42_97 : g_co X 42 97 = some (.iinc 2 1) := rfl
theorem q_42_100 : g_co X 42 100 = some (.goto (-16)) := rfl
theorem q_42_103 : g_co X 42 103 = some (.aload_n 0) := rfl
theorem q_42_104 : g_co X 42 104 = some (.invokevirtual 151) := rfl
theorem q_42_107 : g_co X 42 107 = some (.aload_n 0) := rfl
theorem q_42_108 : g_co X 42 108 = some (.getfield 145) := rfl
theorem q_42_111 : g_co X 42 111 = some (.ifCond .ne 25) := rfl
theorem q_42_114 : g_co X 42 114 = some (.aload_n 0) := rfl
theorem q_42_115 : g_co X 42 115 = some (.getfield 138) := rfl
theorem q_42_118 : g_co X 42 118 = some (.aload_n 0) := rfl
theorem q_42_119 : g_co X 42 119 = some (.getfield 132) := rfl
theorem q_42_122 : g_co X 42 122 = some (.if_icmp .ge 14) := rfl
theorem q_42_125 : g_co X 42 125 = some (.aload_n 0) := rfl
theorem q_42_126 : g_co X 42 126 = some (.invokevirtual 310) := rfl
theorem q_42_129 : g_co X 42 129 = some (.aload_n 0) := rfl
theorem q_42_130 : g_co X 42 130 = some (.invokevirtual 151) := rfl
theorem q_42_133 : g_co X 42 133 = some (.goto (-26)) := rfl
theorem q_42_136 : g_co X 42 136 = some (.aload_n 0) := rfl
theorem q_42_137 : g_co X 42 137 = some (.iconst 0) := rfl
theorem q_42_138 : g_co X 42 138 = some (.putfield 129) := rfl
theorem q_42_141 : g_co X 42 141 = some (.aload_n 0) := rfl
theorem q_42_142 : g_co X 42 142 = some (.aload_n 0) := rfl
theorem q_42_143 : g_co X 42 143 = some (.getfield 148) := rfl
theorem q_42_146 : g_co X 42 146 = some (.putfield 11) := rfl
theorem q_42_149 : g_co X 42 149 = some (.aload_n 0) := rfl
theorem q_42_150 : g_co X 42 150 = some (.getfield 145) := rfl
theorem q_42_153 : g_co X 42 153 = some (.ifCond .eq 11) := rfl
theorem q_42_156 : g_co X 42 156 = some (.aload_n 0) := rfl
theorem q_42_157 : g_co X 42 157 = some (.getfield 145) := rfl
theorem q_42_160 : g_co X 42 160 = some (.bipush 10) := rfl
theorem q_42_162 : g_co X 42 162 = some (.isub) := rfl
theorem q_42_163 : g_co X 42 163 = some (.ireturn) := rfl
theorem q_42_164 : g_co X 42 164 = some (.aload_n 0) := rfl
theorem q_42_165 : g_co X 42 165 = some (.iload_n 1) := rfl
theorem q_42_166 : g_co X 42 166 = some (.invokevirtual 313) := rfl
theorem q_42_169 : g_co X 42 169 = some (.aload_n 0) := rfl
theorem q_42_170 : g_co X 42 170 = some (.invokevirtual 120) := rfl
theorem q_42_173 : g_co X 42 173 = some (.aload_n 0) := rfl
theorem q_42_174 : g_co X 42 174 = some (.invokevirtual 123) := rfl
theorem q_42_177 : g_co X 42 177 = some (.aload_n 0) := rfl
theorem q_42_178 : g_co X 42 178 = some (.getfield 30) := rfl
theorem q_42_181 : g_co X 42 181 = some (.iconst 0) := rfl
theorem q_42_182 : g_co X 42 182 = some (.iaload) := rfl
theorem q_42_183 : g_co X 42 183 = some (.ireturn) := rfl
theorem q_43_0 : g_co X 43 0 = some (.iconst 0) := rfl
theorem q_43_1 : g_co X 43 1 = some (.istore_n 2) := rfl
theorem q_43_2 : g_co X 43 2 = some (.iload_n 2) := rfl
theorem q_43_3 : g_co X 43 3 = some (.sipush 600) := rfl
theorem q_43_6 : g_co X 43 6 = some (.if_icmp .ge 25) := rfl
theorem q_43_9 : g_co X 43 9 = some (.aload_n 0) := rfl
theorem q_43_10 : g_co X 43 10 = some (.getfield 21) := rfl
theorem q_43_13 : g_co X 43 13 = some (.iconst 1) := rfl
theorem q_43_14 : g_co X 43 14 = some (.aaload) := rfl
theorem q_43_15 : g_co X 43 15 = some (.iload_n 2) := rfl
theorem q_43_16 : g_co X 43 16 = some (.aload_n 0) := rfl
theorem q_43_17 : g_co X 43 17 = some (.getfield 21) := rfl
theorem q_43_20 : g_co X 43 20 = some (.iconst 0) := rfl
theorem q_43_21 : g_co X 43 21 = some (.aaload) := rfl
theorem q_43_22 : g_co X 43 22 = some (.iload_n 2) := rfl
theorem q_43_23 : g_co X 43 23 = some (.iaload) := rfl
theorem q_43_24 : g_co X 43 24 = some (.iastore) := rfl
theorem q_43_25 : g_co X 43 25 = some (.iinc 2 1) := rfl
theorem q_43_28 : g_co X 43 28 = some (.goto (-26)) := rfl
theorem q_43_31 : g_co X 43 31 = some (.iconst 0) := rfl
theorem q_43_32 : g_co X 43 32 = some (.istore_n 2) := rfl
theorem q_43_33 : g_co X 43 33 = some (.iload_n 2) := rfl
theorem q_43_34 : g_co X 43 34 = some (.bipush 17) := rfl
theorem q_43_36 : g_co X 43 36 = some (.if_icmp .ge 25) := rfl
theorem q_43_39 : g_co X 43 39 = some (.aload_n 0) := rfl
theorem q_43_40 : g_co X 43 40 = some (.getfield 24) := rfl
theorem q_43_43 : g_co X 43 43 = some (.iconst 1) := rfl
theorem q_43_44 : g_co X 43 44 = some (.aaload) := rfl
theorem q_43_45 : g_co X 43 45 = some (.iload_n 2) := rfl
theorem q_43_46 : g_co X 43 46 = some (.aload_n 0) := rfl
theorem q_43_47 : g_co X 43 47 = some (.getfield 24) := rfl
theorem q_43_50 : g_co X 43 50 = some (.iconst 0) := rfl
theorem q_43_51 : g_co X 43 51 = some (.aaload) := rfl
theorem q_43_52 : g_co X 43 52 = some (.iload_n 2) := rfl
theorem q_43_53 : g_co X 43 53 = some (.iaload) := rfl
theorem q_43_54 : g_co X 43 54 = some (.iastore) := rfl
theorem q_43_55 : g_co X 43 55 = some (.iinc 2 1) := rfl
theorem q_43_58 : g_co X 43 58 = some (.goto (-25)) := rfl
theorem q_43_61 : g_co X 43 61 = some (.aload_n 0) := rfl
theorem q_43_62 : g_co X 43 62 = some (.getfield 27) := rfl
theorem q_43_65 : g_co X 43 65 = some (.iconst 1) := rfl
theorem q_43_66 : g_co X 43 66 = some (.aload_n 0) := rfl
theorem q_43_67 : g_co X 43 67 = some (.getfield 27) := rfl
theorem q_43_70 : g_co X 43 70 = some (.iconst 0) := rfl
theorem q_43_71 : g_co X 43 71 = some (.iaload) := rfl
theorem q_43_72 : g_co X 43 72 = some (.iastore) := rfl
theorem q_43_73 : g_co X 43 73 = some (.aload_n 0) := rfl
theorem q_43_74 : g_co X 43 74 = some (.getfield 30) := rfl
theorem q_43_77 : g_co X 43 77 = some (.iconst 1) := rfl
theorem q_43_78 : g_co X 43 78 = some (.aload_n 0) := rfl
theorem q_43_79 : g_co X 43 79 = some (.getfield 30) := rfl
theorem q_43_82 : g_co X 43 82 = some (.iconst 0) := rfl
theorem q_43_83 : g_co X 43 83 = some (.iaload) := rfl
theorem q_43_84 : g_co X 43 84 = some (.iastore) := rfl
theorem q_43_85 : g_co X 43 85 = some (.aload_n 0) := rfl
theorem q_43_86 : g_co X 43 86 = some (.getfield 33) := rfl
theorem q_43_89 : g_co X 43 89 = some (.iconst 1) := rfl
theorem q_43_90 : g_co X 43 90 = some (.aload_n 0) := rfl
theorem q_43_91 : g_co X 43 91 = some (.getfield 33) := rfl
theorem q_43_94 : g_co X 43 94 = some (.iconst 0) := rfl
theorem q_43_95 : g_co X 43 95 = some (.iaload) := rfl
theorem q_43_96 : g_co X 43 96 = some (.iastore) := rfl
theorem q_43_97 : g_co X 43 97 = some (.aload_n 0) := rfl
theorem q_43_98 : g_co X 43 98 = some (.getfield 36) := rfl
theorem q_43_101 : g_co X 43 101 = some (.iconst 1) := rfl
theorem q_43_102 : g_co X 43 102 = some (.aload_n 0) := rfl
theorem q_43_103 : g_co X 43 103 = some (.getfield 36) := rfl
theorem q_43_106 : g_co X 43 106 = some (.iconst 0) := rfl
theorem q_43_107 : g_co X 43 107 = some (.iaload) := rfl
theorem q_43_108 : g_co X 43 108 = some (.iastore) := rfl
theorem q_43_109 : g_co X 43 109 = some (.iconst 0) := rfl
theorem q_43_110 : g_co X 43 110 = some (.istore_n 2) := rfl
theorem q_43_111 : g_co X 43 111 = some (.iload_n 2) := rfl
theorem q_43_112 : g_co X 43 112 = some (.iload_n 1) := rfl
theorem q_43_113 : g_co X 43 113 = some (.if_icmp .ge 23) := rfl
theorem q_43_116 : g_co X 43 116 = some (.aload_n 0) := rfl
theorem q_43_117 : g_co X 43 117 = some (.getfield 21) := rfl
theorem q_43_120 : g_co X 43 120 = some (.iconst 0) := rfl
theorem q_43_121 : g_co X 43 121 = some (.aaload) := rfl
theorem q_43_122 : g_co X 43 122 = some (.iload_n 2) := rfl
theorem q_43_123 : g_co X 43 123 = some (.aload_n 0) := rfl
theorem q_43_124 : g_co X 43 124 = some (.getfield 15) := rfl
theorem q_43_127 : g_co X 43 127 = some (.iload_n 2) := rfl
theorem q_43_128 : g_co X 43 128 = some (.iaload) := rfl
theorem q_43_129 : g_co X 43 129 = some (.iastore) := rfl
theorem q_43_130 : g_co X 43 130 = some (.iinc 2 1) := rfl
theorem q_43_133 : g_co X 43 133 = some (.goto (-22)) := rfl
theorem q_43_136 : g_co X 43 136 = some (.iconst 0) := rfl
theorem q_43_137 : g_co X 43 137 = some (.istore_n 2) := rfl
theorem q_43_138 : g_co X 43 138 = some (.iload_n 2) := rfl
theorem q_43_139 : g_co X 43 139 = some (.bipush 17) := rfl
theorem q_43_141 : g_co X 43 141 = some (.if_icmp .ge 23) := rfl
theorem q_43_144 : g_co X 43 144 = some (.aload_n 0) := rfl
theorem q_43_145 : g_co X 43 145 = some (.getfield 24) := rfl
theorem q_43_148 : g_co X 43 148 = some (.iconst 0) := rfl
theorem q_43_149 : g_co X 43 149 = some (.aaload) := rfl
theorem q_43_150 : g_co X 43 150 = some (.iload_n 2) := rfl
theorem q_43_151 : g_co X 43 151 = some (.aload_n 0) := rfl
theorem q_43_152 : g_co X 43 152 = some (.getfield 39) := rfl
theorem q_43_155 : g_co X 43 155 = some (.iload_n 2) := rfl
theorem q_43_156 : g_co X 43 156 = some (.iaload) := rfl
theorem q_43_157 : g_co X 43 157 = some (.iastore) := rfl
theorem q_43_158 : g_co X 43 158 = some (.iinc 2 1) := rfl
theorem q_43_161 : g_co X 43 161 = some (.goto (-23)) := rfl
theorem q_43_164 : g_co X 43 164 = some (.aload_n 0) := rfl
theorem q_43_165 : g_co X 43 165 = some (.getfield 27) := rfl
theorem q_43_168 : g_co X 43 168 = some (.iconst 0) := rfl
theorem q_43_169 : g_co X 43 169 = some (.iload_n 1) := rfl
theorem q_43_170 : g_co X 43 170 = some (.iastore) := rfl
theorem q_43_171 : g_co X 43 171 = some (.aload_n 0) := rfl
theorem q_43_172 : g_co X 43 172 = some (.getfield 30) := rfl
theorem q_43_175 : g_co X 43 175 = some (.iconst 0) := rfl
theorem q_43_176 : g_co X 43 176 = some (.aload_n 0) := rfl
theorem q_43_177 : g_co X 43 177 = some (.getfield 241) := rfl
theorem q_43_180 : g_co X 43 180 = some (.iastore) := rfl
theorem q_43_181 : g_co X 43 181 = some (.aload_n 0) := rfl
theorem q_43_182 : g_co X 43 182 = some (.getfield 33) := rfl
theorem q_43_185 : g_co X 43 185 = some (.iconst 0) := rfl
theorem q_43_186 : g_co X 43 186 = some (.aload_n 0) := rfl
theorem q_43_187 : g_co X 43 187 = some (.getfield 300) := rfl
theorem q_43_190 : g_co X 43 190 = some (.iastore) := rfl
theorem q_43_191 : g_co X 43 191 = some (.aload_n 0) := rfl
theorem q_43_192 : g_co X 43 192 = some (.getfield 36) := rfl
theorem q_43_195 : g_co X 43 195 = some (.iconst 0) := rfl
theorem q_43_196 : g_co X 43 196 = some (.aload_n 0) := rfl
theorem q_43_197 : g_co X 43 197 = some (.getfield 303) := rfl
theorem q_43_200 : g_co X 43 200 = some (.iastore) := rfl
theorem q_43_201 : g_co X 43 201 = some (.return_) := rfl
theorem q_44_0 : g_co X 44 0 = some (.aload_n 0) := rfl
theorem q_44_1 : g_co X 44 1 = some (.iconst 0) := rfl
theorem q_44_2 : g_co X 44 2 = some (.putfield 126) := rfl
theorem q_44_5 : g_co X 44 5 = some (.aload_n 0) := rfl
theorem q_44_6 : g_co X 44 6 = some (.getfield 11) := rfl
theorem q_44_9 : g_co X 44 9 = some (.ireturn) := rfl
theorem q_45_0 : g_co X 45 0 = some (.aload_n 0) := rfl
theorem q_45_1 : g_co X 45 1 = some (.aload_n 0) := rfl
theorem q_45_2 : g_co X 45 2 = some (.getfield 316) := rfl
theorem q_45_5 : g_co X 45 5 = some (.putfield 135) := rfl
theorem q_45_8 : g_co X 45 8 = some (.aload_n 0) := rfl
theorem q_45_9 : g_co X 45 9 = some (.aload_n 0) := rfl
theorem q_45_10 : g_co X 45 10 = some (.getfield 27) := rfl
theorem q_45_13 : g_co X 45 13 = some (.aload_n 0) := rfl
theorem q_45_14 : g_co X 45 14 = some (.getfield 316) := rfl
theorem q_45_17 : g_co X 45 17 = some (.iaload) := rfl
theorem q_45_18 : g_co X 45 18 = some (.putfield 132) := rfl
theorem q_45_21 : g_co X 45 21 = some (.aload_n 0) := rfl
theorem q_45_22 : g_co X 45 22 = some (.iload_n 1) := rfl
theorem q_45_23 : g_co X 45 23 = some (.putfield 138) := rfl
theorem q_45_26 : g_co X 45 26 = some (.aload_n 0) := rfl
theorem q_45_27 : g_co X 45 27 = some (.iconst 0) := rfl
theorem q_45_28 : g_co X 45 28 = some (.putfield 177) := rfl
theorem q_45_31 : g_co X 45 31 = some (.aload_n 0) := rfl
theorem q_45_32 : g_co X 45 32 = some (.iconst 0) := rfl
theorem q_45_33 : g_co X 45 33 = some (.putfield 145) := rfl
theorem q_45_36 : g_co X 45 36 = some (.aload_n 0) := rfl
theorem q_45_37 : g_co X 45 37 = some (.iconst 0) := rfl
theorem q_45_38 : g_co X 45 38 = some (.putfield 241) := rfl
theorem q_45_41 : g_co X 45 41 = some (.return_) := rfl
theorem q_46_0 : g_co X 46 0 = some (.aload_n 0) := rfl
theorem q_46_1 : g_co X 46 1 = some (.getfield 24) := rfl
theorem q_46_4 : g_co X 46 4 = some (.aload_n 0) := rfl
theorem q_46_5 : g_co X 46 5 = some (.getfield 316) := rfl
theorem q_46_8 : g_co X 46 8 = some (.aaload) := rfl
theorem q_46_9 : g_co X 46 9 = some (.iload_n 1) := rfl
theorem q_46_10 : g_co X 46 10 = some (.iaload) := rfl
theorem q_46_11 : g_co X 46 11 = some (.istore_n 2) := rfl
theorem q_46_12 : g_co X 46 12 = some (.aload_n 0) := rfl
theorem q_46_13 : g_co X 46 13 = some (.iconst 0) := rfl
theorem q_46_14 : g_co X 46 14 = some (.putfield 278) := rfl
theorem q_46_17 : g_co X 46 17 = some (.iload_n 2) := rfl
theorem q_46_18 : g_co X 46 18 = some (.iconst (-1)) := rfl
theorem q_46_19 : g_co X 46 19 = some (.if_icmp .ne 4) := rfl
theorem q_46_22 : g_co X 46 22 = some (.return_) := rfl
theorem q_46_23 : g_co X 46 23 = some (.aload_n 0) := rfl
theorem q_46_24 : g_co X 46 24 = some (.iload_n 2) := rfl
theorem q_46_25 : g_co X 46 25 = some (.invokevirtual 319) := rfl
theorem q_46_28 : g_co X 46 28 = some (.aload_n 0) := rfl
theorem q_46_29 : g_co X 46 29 = some (.iconst 1) := rfl
theorem q_46_30 : g_co X 46 30 = some (.putfield 180) := rfl
theorem q_46_33 : g_co X 46 33 = some (.aload_n 0) := rfl
theorem q_46_34 : g_co X 46 34 = some (.iconst 1) := rfl
theorem q_46_35 : g_co X 46 35 = some (.putfield 184) := rfl
theorem q_46_38 : g_co X 46 38 = some (.aload_n 0) := rfl
theorem q_46_39 : g_co X 46 39 = some (.invokevirtual 151) := rfl
theorem q_46_42 : g_co X 46 42 = some (.aload_n 0) := rfl
theorem q_46_43 : g_co X 46 43 = some (.getfield 278) := rfl
theorem q_46_46 : g_co X 46 46 = some (.ifCond .ne 27) := rfl
theorem q_46_49 : g_co X 46 49 = some (.aload_n 0) := rfl
theorem q_46_50 : g_co X 46 50 = some (.aload_n 0) := rfl
theorem q_46_51 : g_co X 46 51 = some (.getfield 138) := rfl
theorem q_46_54 : g_co X 46 54 = some (.invokevirtual 141) := rfl
theorem q_46_57 : g_co X 46 57 = some (.bipush 125) := rfl
theorem q_46_59 : g_co X 46 59 = some (.if_icmp .eq 14) := rfl
theorem q_46_62 : g_co X 46 62 = some (.aload_n 0) := rfl
theorem q_46_63 : g_co X 46 63 = some (.invokevirtual 272) := rfl
theorem q_46_66 : g_co X 46 66 = some (.aload_n 0) := rfl
theorem q_46_67 : g_co X 46 67 = some (.invokevirtual 151) := rfl
theorem q_46_70 : g_co X 46 70 = some (.goto (-28)) := rfl
theorem q_46_73 : g_co X 46 73 = some (.return_) := rfl
theorem q_47_0 : g_co X 47 0 = some (.iload_n 1) := rfl
theorem q_47_1 : g_co X 47 1 = some (.iconst (-1)) := rfl
theorem q_47_2 : g_co X 47 2 = some (.if_icmp .ne 5) := rfl
theorem q_47_5 : g_co X 47 5 = some (.iload_n 2) := rfl
theorem q_47_6 : g_co X 47 6 = some (.ireturn) := rfl
theorem q_47_7 : g_co X 47 7 = some (.aload_n 0) := rfl
theorem q_47_8 : g_co X 47 8 = some (.iload_n 1) := rfl
theorem q_47_9 : g_co X 47 9 = some (.invokevirtual 319) := rfl
theorem q_47_12 : g_co X 47 12 = some (.aload_n 0) := rfl
theorem q_47_13 : g_co X 47 13 = some (.iconst 0) := rfl
theorem q_47_14 : g_co X 47 14 = some (.putfield 180) := rfl
theorem q_47_17 : g_co X 47 17 = some (.aload_n 0) := rfl
theorem q_47_18 : g_co X 47 18 = some (.iconst 0) := rfl
theorem q_47_19 : g_co X 47 19 = some (.putfield 184) := rfl
theorem q_47_22 : g_co X 47 22 = some (.aload_n 0) := rfl
theorem q_47_23 : g_co X 47 23 = some (.iconst 0) := rfl
theorem q_47_24 : g_co X 47 24 = some (.putfield 203) := rfl
theorem q_47_27 : g_co X 47 27 = some (.aload_n 0) := rfl
theorem q_47_28 : g_co X 47 28 = some (.invokevirtual 232) := rfl
theorem q_47_31 : g_co X 47 31 = some (.ireturn) := rfl
theorem q_48_0 : g_co X 48 0 = some (.iconst 0) := rfl
theorem q_48_1 : g_co X 48 1 = some (.istore_n 1) := rfl
theorem q_48_2 : g_co X 48 2 = some (.iload_n 1) := rfl
theorem q_48_3 : g_co X 48 3 = some (.bipush 53) := rfl
theorem q_48_5 : g_co X 48 5 = some (.if_icmp .ge 36) := rfl
theorem q_48_8 : g_co X 48 8 = some (.aload_n 0) := rfl
theorem q_48_9 : g_co X 48 9 = some (.getfield 42) := rfl
theorem q_48_12 : g_co X 48 12 = some (.iload_n 1) := rfl
theorem q_48_13 : g_co X 48 13 = some (.iload_n 1) := rfl
theorem q_48_14 : g_co X 48 14 = some (.bipush 33) := rfl
theorem q_48_16 : g_co X 48 16 = some (.bipush 36) := rfl
theorem q_48_18 : g_co X 48 18 = some (.invokestatic 247) := rfl
theorem q_48_21 : g_co X 48 21 = some (.ifCond .eq 12) := rfl
theorem q_48_24 : g_co X 48 24 = some (.aload_n 0) := rfl
theorem q_48_25 : g_co X 48 25 = some (.getfield 42) := rfl
theorem q_48_28 : g_co X 48 28 = some (.iload_n 1) := rfl
theorem q_48_29 : g_co X 48 29 = some (.iaload) := rfl
theorem q_48_30 : g_co X 48 30 = some (.goto 4) := rfl
theorem q_48_33 : g_co X 48 33 = some (.iconst 0) := rfl
theorem q_48_34 : g_co X 48 34 = some (.iastore) := rfl
theorem q_48_35 : g_co X 48 35 = some (.iinc 1 1) := rfl
theorem q_48_38 : g_co X 48 38 = some (.goto (-36)) := rfl
theorem q_48_41 : g_co X 48 41 = some (.aload_n 0) := rfl
theorem q_48_42 : g_co X 48 42 = some (.getfield 42) := rfl
theorem q_48_45 : g_co X 48 45 = some (.bipush 8) := rfl
theorem q_48_47 : g_co X 48 47 = some (.sipush 255) := rfl
theorem q_48_50 : g_co X 48 50 = some (.iastore) := rfl
theorem q_48_51 : g_co X 48 51 = some (.aload_n 0) := rfl
theorem q_48_52 : g_co X 48 52 = some (.iconst (-1)) := rfl
theorem q_48_53 : g_co X 48 53 = some (.putfield 281) := rfl
theorem q_48_56 : g_co X 48 56 = some (.aload_n 0) := rfl
theorem q_48_57 : g_co X 48 57 = some (.iconst 0) := rfl
theorem q_48_58 : g_co X 48 58 = some (.putfield 203) := rfl
theorem q_48_61 : g_co X 48 61 = some (.aload_n 0) := rfl
theorem q_48_62 : g_co X 48 62 = some (.iconst 0) := rfl
theorem q_48_63 : g_co X 48 63 = some (.invokevirtual 322) := rfl
theorem q_48_66 : g_co X 48 66 = some (.return_) := rfl
theorem q_49_0 : g_co X 49 0 = some (.bipush 33) := rfl
theorem q_49_2 : g_co X 49 2 = some (.istore_n 1) := rfl
theorem q_49_3 : g_co X 49 3 = some (.iload_n 1) := rfl
theorem q_49_4 : g_co X 49 4 = some (.bipush 37) := rfl
theorem q_49_6 : g_co X 49 6 = some (.if_icmp .ge 16) := rfl
theorem q_49_9 : g_co X 49 9 = some (.aload_n 0) := rfl
theorem q_49_10 : g_co X 49 10 = some (.getfield 42) := rfl
theorem q_49_13 : g_co X 49 13 = some (.iload_n 1) := rfl
theorem q_49_14 : g_co X 49 14 = some (.iconst 0) := rfl
theorem q_49_15 : g_co X 49 15 = some (.iastore) := rfl
theorem q_49_16 : g_co X 49 16 = some (.iinc 1 1) := rfl
theorem q_49_19 : g_co X 49 19 = some (.goto (-16)) := rfl
theorem q_49_22 : g_co X 49 22 = some (.aload_n 0) := rfl
theorem q_49_23 : g_co X 49 23 = some (.iconst (-1)) := rfl
theorem q_49_24 : g_co X 49 24 = some (.putfield 45) := rfl
theorem q_49_27 : g_co X 49 27 = some (.aload_n 0) := rfl
theorem q_49_28 : g_co X 49 28 = some (.invokevirtual 325) := rfl
theorem q_49_31 : g_co X 49 31 = some (.return_) := rfl
theorem q_50_0 : g_co X 50 0 = some (.iload_n 1) := rfl
theorem q_50_1 : g_co X 50 1 = some (.bipush 8) := rfl
theorem q_50_3 : g_co X 50 3 = some (.if_icmp .ne 19) := rfl
theorem q_50_6 : g_co X 50 6 = some (.aload_n 0) := rfl
theorem q_50_7 : g_co X 50 7 = some (.getfield 42) := rfl
theorem q_50_10 : g_co X 50 10 = some (.bipush 26) := rfl
theorem q_50_12 : g_co X 50 12 = some (.iaload) := rfl
theorem q_50_13 : g_co X 50 13 = some (.ifCond .le 7) := rfl
theorem q_50_16 : g_co X 50 16 = some (.iconst 1) := rfl
theorem q_50_17 : g_co X 50 17 = some (.goto 4) := rfl
theorem q_50_20 : g_co X 50 20 = some (.iconst 0) := rfl
theorem q_50_21 : g_co X 50 21 = some (.ireturn) := rfl
theorem q_50_22 : g_co X 50 22 = some (.iload_n 1) := rfl
theorem q_50_23 : g_co X 50 23 = some (.bipush 8) := rfl
theorem q_50_25 : g_co X 50 25 = some (.if_icmp .le 24) := rfl
theorem q_50_28 : g_co X 50 28 = some (.aload_n 0) := rfl
theorem q_50_29 : g_co X 50 29 = some (.getfield 42) := rfl
theorem q_50_32 : g_co X 50 32 = some (.bipush 10) := rfl
theorem q_50_34 : g_co X 50 34 = some (.iload_n 1) := rfl
theorem q_50_35 : g_co X 50 35 = some (.iadd) := rfl
theorem q_50_36 : g_co X 50 36 = some (.bipush 9) := rfl
theorem q_50_38 : g_co X 50 38 = some (.isub) := rfl
theorem q_50_39 : g_co X 50 39 = some (.iaload) := rfl
theorem q_50_40 : g_co X 50 40 = some (.ifCond .le 7) := rfl
theorem q_50_43 : g_co X 50 43 = some (.iconst 1) := rfl
theorem q_50_44 : g_co X 50 44 = some (.goto 4) := rfl
theorem q_50_47 : g_co X 50 47 = some (.iconst 0) := rfl
theorem q_50_48 : g_co X 50 48 = some (.ireturn) := rfl
theorem q_50_49 : g_co X 50 49 = some (.aload_n 0) := rfl
theorem q_50_50 : g_co X 50 50 = some (.getfield 42) := rfl
theorem q_50_53 : g_co X 50 53 = some (.bipush 8) := rfl
theorem q_50_55 : g_co X 50 55 = some (.iaload) := rfl
theorem q_50_56 : g_co X 50 56 = some (.iload_n 1) := rfl
theorem q_50_57 : g_co X 50 57 = some (.ishr) := rfl
theorem q_50_58 : g_co X 50 58 = some (.iconst 1) := rfl
theorem q_50_59 : g_co X 50 59 = some (.iand) := rfl
theorem q_50_60 : g_co X 50 60 = some (.ifCond .eq 18) := rfl
theorem q_50_63 : g_co X 50 63 = some (.aload_n 0) := rfl
theorem q_50_64 : g_co X 50 64 = some (.getfield 42) := rfl
theorem q_50_67 : g_co X 50 67 = some (.bipush 9) := rfl
theorem q_50_69 : g_co X 50 69 = some (.iaload) := rfl
theorem q_50_70 : g_co X 50 70 = some (.iload_n 1) := rfl
theorem q_50_71 : g_co X 50 71 = some (.ishr) := rfl
theorem q_50_72 : g_co X 50 72 = some (.iconst 1) := rfl
theorem q_50_73 : g_co X 50 73 = some (.iand) := rfl
theorem q_50_74 : g_co X 50 74 = some (.iconst 1) := rfl
theorem q_50_75 : g_co X 50 75 = some (.if_icmp .ne 5) := rfl
theorem q_50_78 : g_co X 50 78 = some (.iconst 0) := rfl
theorem q_50_79 : g_co X 50 79 = some (.ireturn) := rfl
theorem q_50_80 : g_co X 50 80 = some (.iconst 0) := rfl
theorem q_50_81 : g_co X 50 81 = some (.istore_n 2) := rfl
theorem q_50_82 : g_co X 50 82 = some (.iload_n 2) := rfl
theorem q_50_83 : g_co X 50 83 = some (.aload_n 0) := rfl
theorem q_50_84 : g_co X 50 84 = some (.getfield 284) := rfl
theorem q_50_87 : g_co X 50 87 = some (.if_icmp .ge 56) := rfl
theorem q_50_90 : g_co X 50 90 = some (.aload_n 0) := rfl
theorem q_50_91 : g_co X 50 91 = some (.getfield 83) := rfl
theorem q_50_94 : g_co X 50 94 = some (.iload_n 2) := rfl
theorem q_50_95 : g_co X 50 95 = some (.baload) := rfl
theorem q_50_96 : g_co X 50 96 = some (.ifCond .eq 41) := rfl
theorem q_50_99 : g_co X 50 99 = some (.aload_n 0) := rfl
theorem q_50_100 : g_co X 50 100 = some (.getfield 71) := rfl
theorem q_50_103 : g_co X 50 103 = some (.iload_n 2) := rfl
theorem q_50_104 : g_co X 50 104 = some (.iaload) := rfl
theorem q_50_105 : g_co X 50 105 = some (.ifCond .ne 32) := rfl
theorem q_50_108 : g_co X 50 108 = some (.aload_n 0) := rfl
theorem q_50_109 : g_co X 50 109 = some (.getfield 74) := rfl
theorem q_50_112 : g_co X 50 112 = some (.iload_n 2) := rfl
theorem q_50_113 : g_co X 50 113 = some (.iaload) := rfl
theorem q_50_114 : g_co X 50 114 = some (.iload_n 1) := rfl
theorem q_50_115 : g_co X 50 115 = some (.if_icmp .ne 22) := rfl
theorem q_50_118 : g_co X 50 118 = some (.aload_n 0) := rfl
theorem q_50_119 : g_co X 50 119 = some (.getfield 42) := rfl
theorem q_50_122 : g_co X 50 122 = some (.bipush 10) := rfl
theorem q_50_124 : g_co X 50 124 = some (.aload_n 0) := rfl
theorem q_50_125 : g_co X 50 125 = some (.getfield 77) := rfl
theorem q_50_128 : g_co X 50 128 = some (.iload_n 2) := rfl
theorem q_50_129 : g_co X 50 129 = some (.iaload) := rfl
theorem q_50_130 : g_co X 50 130 = some (.iadd) := rfl
theorem q_50_131 : g_co X 50 131 = some (.iaload) := rfl
theorem q_50_132 : g_co X 50 132 = some (.ifCond .le 5) := rfl
theorem q_50_135 : g_co X 50 135 = some (.iconst 0) := rfl
theorem q_50_136 : g_co X 50 136 = some (.ireturn) := rfl
theorem q_50_137 : g_co X 50 137 = some (.iinc 2 1) := rfl
theorem q_50_140 : g_co X 50 140 = some (.goto (-58)) := rfl
theorem q_50_143 : g_co X 50 143 = some (.iconst 1) := rfl
theorem q_50_144 : g_co X 50 144 = some (.ireturn) := rfl
theorem q_51_0 : g_co X 51 0 = some (.iconst 0) := rfl
theorem q_51_1 : g_co X 51 1 = some (.istore_n 1) := rfl
theorem q_51_2 : g_co X 51 2 = some (.iconst 1) := rfl
theorem q_51_3 : g_co X 51 3 = some (.istore_n 2) := rfl
theorem q_51_4 : g_co X 51 4 = some (.iload_n 2) := rfl
theorem q_51_5 : g_co X 51 5 = some (.aload_n 0) := rfl
theorem q_51_6 : g_co X 51 6 = some (.getfield 42) := rfl
theorem q_51_9 : g_co X 51 9 = some (.bipush 26) := rfl
theorem q_51_11 : g_co X 51 11 = some (.iaload) := rfl
theorem q_51_12 : g_co X 51 12 = some (.if_icmp .ge 32) := rfl
theorem q_51_15 : g_co X 51 15 = some (.aload_n 0) := rfl
theorem q_51_16 : g_co X 51 16 = some (.getfield 42) := rfl
theorem q_51_19 : g_co X 51 19 = some (.bipush 30) := rfl
theorem q_51_21 : g_co X 51 21 = some (.iload_n 2) := rfl
theorem q_51_22 : g_co X 51 22 = some (.iadd) := rfl
theorem q_51_23 : g_co X 51 23 = some (.iaload) := rfl
theorem q_51_24 : g_co X 51 24 = some (.aload_n 0) := rfl
theorem q_51_25 : g_co X 51 25 = some (.getfield 42) := rfl
theorem q_51_28 : g_co X 51 28 = some (.bipush 30) := rfl
theorem q_51_30 : g_co X 51 30 = some (.iload_n 1) := rfl
theorem q_51_31 : g_co X 51 31 = some (.iadd) := rfl
theorem q_51_32 : g_co X 51 32 = some (.iaload) := rfl
theorem q_51_33 : g_co X 51 33 = some (.if_icmp .ge 5) := rfl
theorem q_51_36 : g_co X 51 36 = some (.iload_n 2) := rfl
theorem q_51_37 : g_co X 51 37 = some (.istore_n 1) := rfl
theorem q_51_38 : g_co X 51 38 = some (.iinc 2 1) := rfl
theorem q_51_41 : g_co X 51 41 = some (.goto (-37)) := rfl
theorem q_51_44 : g_co X 51 44 = some (.iload_n 1) := rfl
theorem q_51_45 : g_co X 51 45 = some (.ireturn) := rfl
theorem q_52_0 : g_co X 52 0 = some (.aload_n 0) := rfl
theorem q_52_1 : g_co X 52 1 = some (.invokevirtual 328) := rfl
theorem q_52_4 : g_co X 52 4 = some (.istore_n 3) := rfl
theorem q_52_5 : g_co X 52 5 = some (.iconst (-1)) := rfl
theorem q_52_6 : g_co X 52 6 = some (.istore 4) := rfl
theorem q_52_8 : g_co X 52 8 = some (.iconst 1) := rfl
theorem q_52_9 : g_co X 52 9 = some (.iload_n 1) := rfl
theorem q_52_10 : g_co X 52 10 = some (.iadd) := rfl
theorem q_52_11 : g_co X 52 11 = some (.istore 5) := rfl
theorem q_52_13 : g_co X 52 13 = some (.iconst 0) := rfl
theorem q_52_14 : g_co X 52 14 = some (.istore 6) := rfl
theorem q_52_16 : g_co X 52 16 = some (.iload 6) := rfl
theorem q_52_18 : g_co X 52 18 = some (.aload_n 0) := rfl
theorem q_52_19 : g_co X 52 19 = some (.getfield 42) := rfl
theorem q_52_22 : g_co X 52 22 = some (.bipush 26) := rfl
theorem q_52_24 : g_co X 52 24 = some (.iaload) := rfl
theorem q_52_25 : g_co X 52 25 = some (.if_icmp .ge 48) := rfl
theorem q_52_28 : g_co X 52 28 = some (.aload_n 0) := rfl
theorem q_52_29 : g_co X 52 29 = some (.getfield 42) := rfl
theorem q_52_32 : g_co X 52 32 = some (.bipush 30) := rfl
theorem q_52_34 : g_co X 52 34 = some (.iload 6) := rfl
theorem q_52_36 : g_co X 52 36 = some (.iadd) := rfl
theorem q_52_37 : g_co X 52 37 = some (.aload_n 0) := rfl
theorem q_52_38 : g_co X 52 38 = some (.getfield 42) := rfl
theorem q_52_41 : g_co X 52 41 = some (.bipush 30) := rfl
theorem q_52_43 : g_co X 52 43 = some (.iload 6) := rfl
theorem q_52_45 : g_co X 52 45 = some (.iadd) := rfl
theorem q_52_46 : g_co X 52 46 = some (.iaload) := rfl
theorem q_52_47 : g_co X 52 47 = some (.ifCond .le 18) := rfl
theorem q_52_50 : g_co X 52 50 = some (.aload_n 0) := rfl
theorem q_52_51 : g_co X 52 51 = some (.getfield 42) := rfl
theorem q_52_54 : g_co X 52 54 = some (.bipush 30) := rfl
theorem q_52_56 : g_co X 52 56 = some (.iload 6) := rfl
theorem q_52_58 : g_co X 52 58 = some (.iadd) := rfl
theorem q_52_59 : g_co X 52 59 = some (.iaload) := rfl
theorem q_52_60 : g_co X 52 60 = some (.iconst 1) := rfl
theorem q_52_61 : g_co X 52 61 = some (.isub) := rfl
theorem q_52_62 : g_co X 52 62 = some (.goto 4) := rfl
theorem q_52_65 : g_co X 52 65 = some (.iconst 0) := rfl
theorem q_52_66 : g_co X 52 66 = some (.iastore) := rfl
theorem q_52_67 : g_co X 52 67 = some (.iinc 6 1) := rfl
theorem q_52_70 : g_co X 52 70 = some (.goto (-54)) := rfl
theorem q_52_73 : g_co X 52 73 = some (.aload_n 0) := rfl
theorem q_52_74 : g_co X 52 74 = some (.iload_n 2) := rfl
theorem q_52_75 : g_co X 52 75 = some (.putfield 281) := rfl
theorem q_52_78 : g_co X 52 78 = some (.aload_n 0) := rfl
theorem q_52_79 : g_co X 52 79 = some (.iconst 0) := rfl
theorem q_52_80 : g_co X 52 80 = some (.putfield 203) := rfl
theorem q_52_83 : g_co X 52 83 = some (.aload_n 0) := rfl
theorem q_52_84 : g_co X 52 84 = some (.iload_n 1) := rfl
theorem q_52_85 : g_co X 52 85 = some (.bipush 8) := rfl
theorem q_52_87 : g_co X 52 87 = some (.if_icmp .ge 12) := rfl
theorem q_52_90 : g_co X 52 90 = some (.iconst 1) := rfl
theorem q_52_91 : g_co X 52 91 = some (.bipush 8) := rfl
theorem q_52_93 : g_co X 52 93 = some (.iload_n 1) := rfl
theorem q_52_94 : g_co X 52 94 = some (.iadd) := rfl
theorem q_52_95 : g_co X 52 95 = some (.ishl) := rfl
theorem q_52_96 : g_co X 52 96 = some (.goto 4) := rfl
theorem q_52_99 : g_co X 52 99 = some (.iconst 0) := rfl
theorem q_52_100 : g_co X 52 100 = some (.putfield 187) := rfl
theorem q_52_103 : g_co X 52 103 = some (.aload_n 0) := rfl
theorem q_52_104 : g_co X 52 104 = some (.iconst 0) := rfl
theorem q_52_105 : g_co X 52 105 = some (.putfield 275) := rfl
theorem q_52_108 : g_co X 52 108 = some (.iconst 1) := rfl
theorem q_52_109 : g_co X 52 109 = some (.istore 6) := rfl
theorem q_52_111 : g_co X 52 111 = some (.iload_n 1) := rfl
theorem q_52_112 : g_co X 52 112 = some (.bipush 8) := rfl
theorem q_52_114 : g_co X 52 114 = some (.if_icmp .ne 36) := rfl
theorem q_52_117 : g_co X 52 117 = some (.bipush 9) := rfl
theorem q_52_119 : g_co X 52 119 = some (.aload_n 0) := rfl
theorem q_52_120 : g_co X 52 120 = some (.getfield 42) := rfl
theorem q_52_123 : g_co X 52 123 = some (.bipush 27) := rfl
theorem q_52_125 : g_co X 52 125 = some (.iload_n 3) := rfl
theorem q_52_126 : g_co X 52 126 = some (.iadd) := rfl
theorem q_52_127 : g_co X 52 127 = some (.iaload) := rfl
theorem q_52_128 : g_co X 52 128 = some (.iadd) := rfl
theorem q_52_129 : g_co X 52 129 = some (.istore 5) := rfl
theorem q_52_131 : g_co X 52 131 = some (.aload_n 0) := rfl
theorem q_52_132 : g_co X 52 132 = some (.getfield 42) := rfl
theorem q_52_135 : g_co X 52 135 = some (.bipush 50) := rfl
theorem q_52_137 : g_co X 52 137 = some (.iload_n 3) := rfl
theorem q_52_138 : g_co X 52 138 = some (.iadd) := rfl
theorem q_52_139 : g_co X 52 139 = some (.iaload) := rfl
theorem q_52_140 : g_co X 52 140 = some (.istore 4) := rfl
theorem q_52_142 : g_co X 52 142 = some (.aload_n 0) := rfl
theorem q_52_143 : g_co X 52 143 = some (.iload_n 3) := rfl
theorem q_52_144 : g_co X 52 144 = some (.invokevirtual 331) := rfl
theorem q_52_147 : g_co X 52 147 = some (.goto 105) := rfl
theorem q_52_150 : g_co X 52 150 = some (.iload_n 1) := rfl
theorem q_52_151 : g_co X 52 151 = some (.bipush 8) := rfl
theorem q_52_153 : g_co X 52 153 = some (.if_icmp .le 99) := rfl
theorem q_52_156 : g_co X 52 156 = some (.iload_n 1) := rfl
theorem q_52_157 : g_co X 52 157 = some (.bipush 9) := rfl
theorem q_52_159 : g_co X 52 159 = some (.isub) := rfl
theorem q_52_160 : g_co X 52 160 = some (.istore 7) := rfl
theorem q_52_162 : g_co X 52 162 = some (.bipush 13) := rfl
theorem q_52_164 : g_co X 52 164 = some (.iload 7) := rfl
theorem q_52_166 : g_co X 52 166 = some (.iadd) := rfl
theorem q_52_167 : g_co X 52 167 = some (.istore 5) := rfl
theorem q_52_169 : g_co X 52 169 = some (.aload_n 0) := rfl
theorem q_52_170 : g_co X 52 170 = some (.getfield 42) := rfl
theorem q_52_173 : g_co X 52 173 = some (.bipush 38) := rfl
theorem q_52_175 : g_co X 52 175 = some (.iconst 3) := rfl
theorem q_52_176 : g_co X 52 176 = some (.iload 7) := rfl
theorem q_52_178 : g_co X 52 178 = some (.imul) := rfl
theorem q_52_179 : g_co X 52 179 = some (.iadd) := rfl
theorem q_52_180 : g_co X 52 180 = some (.iaload) := rfl
theorem q_52_181 : g_co X 52 181 = some (.istore 4) := rfl
theorem q_52_183 : g_co X 52 183 = some (.aload_n 0) := rfl
theorem q_52_184 : g_co X 52 184 = some (.aload_n 0) := rfl
theorem q_52_185 : g_co X 52 185 = some (.getfield 42) := rfl
theorem q_52_188 : g_co X 52 188 = some (.bipush 14) := rfl
theorem q_52_190 : g_co X 52 190 = some (.iconst 3) := rfl
theorem q_52_191 : g_co X 52 191 = some (.iload 7) := rfl
theorem q_52_193 : g_co X 52 193 = some (.imul) := rfl
theorem q_52_194 : g_co X 52 194 = some (.iadd) := rfl
theorem q_52_195 : g_co X 52 195 = some (.iaload) := rfl
theorem q_52_196 : g_co X 52 196 = some (.putfield 203) := rfl
theorem q_52_199 : g_co X 52 199 = some (.aload_n 0) := rfl
theorem q_52_200 : g_co X 52 200 = some (.getfield 42) := rfl
theorem q_52_203 : g_co X 52 203 = some (.bipush 10) := rfl
theorem q_52_205 : g_co X 52 205 = some (.iload 7) := rfl
theorem q_52_207 : g_co X 52 207 = some (.iadd) := rfl
theorem q_52_208 : g_co X 52 208 = some (.iaload) := rfl
theorem q_52_209 : g_co X 52 209 = some (.iconst 1) := rfl
theorem q_52_210 : g_co X 52 210 = some (.if_icmp .eq 13) := rfl
theorem q_52_213 : g_co X 52 213 = some (.aload_n 0) := rfl
theorem q_52_214 : g_co X 52 214 = some (.iconst 1) := rfl
theorem q_52_215 : g_co X 52 215 = some (.iload 7) := rfl
theorem q_52_217 : g_co X 52 217 = some (.invokevirtual 287) := rfl
theorem q_52_220 : g_co X 52 220 = some (.ifCond .ne 7) := rfl
theorem q_52_223 : g_co X 52 223 = some (.iconst 1) := rfl
theorem q_52_224 : g_co X 52 224 = some (.goto 4) := rfl
theorem q_52_227 : g_co X 52 227 = some (.iconst 0) := rfl
theorem q_52_228 : g_co X 52 228 = some (.istore 6) := rfl
theorem q_52_230 : g_co X 52 230 = some (.aload_n 0) := rfl
theorem q_52_231 : g_co X 52 231 = some (.iload 7) := rfl
theorem q_52_233 : g_co X 52 233 = some (.invokevirtual 334) := rfl
theorem q_52_236 : g_co X 52 236 = some (.aload_n 0) := rfl
theorem q_52_237 : g_co X 52 237 = some (.dup) := rfl
theorem q_52_238 : g_co X 52 238 = some (.getfield 275) := rfl
theorem q_52_241 : g_co X 52 241 = some (.iconst 1) := rfl
theorem q_52_242 : g_co X 52 242 = some (.bipush 20) := rfl
theorem q_52_244 : g_co X 52 244 = some (.iload 7) := rfl
theorem q_52_246 : g_co X 52 246 = some (.iadd) := rfl
theorem q_52_247 : g_co X 52 247 = some (.ishl) := rfl
theorem q_52_248 : g_co X 52 248 = some (.ior) := rfl
theorem q_52_249 : g_co X 52 249 = some (.putfield 275) := rfl
theorem q_52_252 : g_co X 52 252 = some (.iload 6) := rfl
theorem q_52_254 : g_co X 52 254 = some (.ifCond .eq 9) := rfl
theorem q_52_257 : g_co X 52 257 = some (.aload_n 0) := rfl
theorem q_52_258 : g_co X 52 258 = some (.iload 5) := rfl
theorem q_52_260 : g_co X 52 260 = some (.invokevirtual 322) := rfl
theorem q_52_263 : g_co X 52 263 = some (.iload 4) := rfl
theorem q_52_265 : g_co X 52 265 = some (.ireturn) := rfl
theorem q_53_0 : g_co X 53 0 = some (.aload_n 0) := rfl
theorem q_53_1 : g_co X 53 1 = some (.getfield 42) := rfl
theorem q_53_4 : g_co X 53 4 = some (.bipush 26) := rfl
theorem q_53_6 : g_co X 53 6 = some (.iaload) := rfl
theorem q_53_7 : g_co X 53 7 = some (.iconst 1) := rfl
theorem q_53_8 : g_co X 53 8 = some (.isub) := rfl
theorem q_53_9 : g_co X 53 9 = some (.istore_n 2) := rfl
theorem q_53_10 : g_co X 53 10 = some (.iload_n 1) := rfl
theorem q_53_11 : g_co X 53 11 = some (.istore_n 3) := rfl
theorem q_53_12 : g_co X 53 12 = some (.iload_n 3) := rfl
theorem q_53_13 : g_co X 53 13 = some (.iload_n 2) := rfl
theorem q_53_14 : g_co X 53 14 = some (.if_icmp .ge 63) := rfl
theorem q_53_17 : g_co X 53 17 = some (.aload_n 0) := rfl
theorem q_53_18 : g_co X 53 18 = some (.getfield 42) := rfl
theorem q_53_21 : g_co X 53 21 = some (.bipush 27) := rfl
theorem q_53_23 : g_co X 53 23 = some (.iload_n 3) := rfl
theorem q_53_24 : g_co X 53 24 = some (.iadd) := rfl
theorem q_53_25 : g_co X 53 25 = some (.aload_n 0) := rfl
theorem q_53_26 : g_co X 53 26 = some (.getfield 42) := rfl
theorem q_53_29 : g_co X 53 29 = some (.bipush 28) := rfl
theorem q_53_31 : g_co X 53 31 = some (.iload_n 3) := rfl
theorem q_53_32 : g_co X 53 32 = some (.iadd) := rfl
theorem q_53_33 : g_co X 53 33 = some (.iaload) := rfl
theorem q_53_34 : g_co X 53 34 = some (.iastore) := rfl
theorem q_53_35 : g_co X 53 35 = some (.aload_n 0) := rfl
theorem q_53_36 : g_co X 53 36 = some (.getfield 42) := rfl
theorem q_53_39 : g_co X 53 39 = some (.bipush 30) := rfl
theorem q_53_41 : g_co X 53 41 = some (.iload_n 3) := rfl
theorem q_53_42 : g_co X 53 42 = some (.iadd) := rfl
theorem q_53_43 : g_co X 53 43 = some (.aload_n 0) := rfl
theorem q_53_44 : g_co X 53 44 = some (.getfield 42) := rfl
theorem q_53_47 : g_co X 53 47 = some (.bipush 31) := rfl
theorem q_53_49 : g_co X 53 49 = some (.iload_n 3) := rfl
theorem q_53_50 : g_co X 53 50 = some (.iadd) := rfl
theorem q_53_51 : g_co X 53 51 = some (.iaload) := rfl
theorem q_53_52 : g_co X 53 52 = some (.iastore) := rfl
theorem q_53_53 : g_co X 53 53 = some (.aload_n 0) := rfl
theorem q_53_54 : g_co X 53 54 = some (.getfield 42) := rfl
theorem q_53_57 : g_co X 53 57 = some (.bipush 50) := rfl
theorem q_53_59 : g_co X 53 59 = some (.iload_n 3) := rfl
theorem q_53_60 : g_co X 53 60 = some (.iadd) := rfl
theorem q_53_61 : g_co X 53 61 = some (.aload_n 0) := rfl
theorem q_53_62 : g_co X 53 62 = some (.getfield 42) := rfl
theorem q_53_65 : g_co X 53 65 = some (.bipush 51) := rfl
theorem q_53_67 : g_co X 53 67 = some (.iload_n 3) := rfl
theorem q_53_68 : g_co X 53 68 = some (.iadd) := rfl
theorem q_53_69 : g_co X 53 69 = some (.iaload) := rfl
theorem q_53_70 : g_co X 53 70 = some (.iastore) := rfl
theorem q_53_71 : g_co X 53 71 = some (.iinc 3 1) := rfl
theorem q_53_74 : g_co X 53 74 = some (.goto (-62)) := rfl
theorem q_53_77 : g_co X 53 77 = some (.aload_n 0) := rfl
theorem q_53_78 : g_co X 53 78 = some (.getfield 42) := rfl
theorem q_53_81 : g_co X 53 81 = some (.bipush 27) := rfl
theorem q_53_83 : g_co X 53 83 = some (.iload_n 2) := rfl
theorem q_53_84 : g_co X 53 84 = some (.iadd) := rfl
theorem q_53_85 : g_co X 53 85 = some (.iconst 0) := rfl
theorem q_53_86 : g_co X 53 86 = some (.iastore) := rfl
theorem q_53_87 : g_co X 53 87 = some (.aload_n 0) := rfl
theorem q_53_88 : g_co X 53 88 = some (.getfield 42) := rfl
theorem q_53_91 : g_co X 53 91 = some (.bipush 30) := rfl
theorem q_53_93 : g_co X 53 93 = some (.iload_n 2) := rfl
theorem q_53_94 : g_co X 53 94 = some (.iadd) := rfl
theorem q_53_95 : g_co X 53 95 = some (.iconst 0) := rfl
theorem q_53_96 : g_co X 53 96 = some (.iastore) := rfl
theorem q_53_97 : g_co X 53 97 = some (.aload_n 0) := rfl
theorem q_53_98 : g_co X 53 98 = some (.getfield 42) := rfl
theorem q_53_101 : g_co X 53 101 = some (.bipush 50) := rfl
theorem q_53_103 : g_co X 53 103 = some (.iload_n 2) := rfl
theorem q_53_104 : g_co X 53 104 = some (.iadd) := rfl
theorem q_53_105 : g_co X 53 105 = some (.iconst 0) := rfl
theorem q_53_106 : g_co X 53 106 = some (.iastore) := rfl
theorem q_53_107 : g_co X 53 107 = some (.aload_n 0) := rfl
theorem q_53_108 : g_co X 53 108 = some (.getfield 42) := rfl
theorem q_53_111 : g_co X 53 111 = some (.bipush 26) := rfl
theorem q_53_113 : g_co X 53 113 = some (.iload_n 2) := rfl
theorem q_53_114 : g_co X 53 114 = some (.iastore) := rfl
theorem q_53_115 : g_co X 53 115 = some (.return_) := rfl
theorem q_54_0 : g_co X 54 0 = some (.aload_n 0) := rfl
theorem q_54_1 : g_co X 54 1 = some (.getfield 42) := rfl
theorem q_54_4 : g_co X 54 4 = some (.bipush 10) := rfl
theorem q_54_6 : g_co X 54 6 = some (.iload_n 1) := rfl
theorem q_54_7 : g_co X 54 7 = some (.iadd) := rfl
theorem q_54_8 : g_co X 54 8 = some (.iaload) := rfl
theorem q_54_9 : g_co X 54 9 = some (.iconst 1) := rfl
theorem q_54_10 : g_co X 54 10 = some (.isub) := rfl
theorem q_54_11 : g_co X 54 11 = some (.istore_n 2) := rfl
theorem q_54_12 : g_co X 54 12 = some (.iconst 0) := rfl
theorem q_54_13 : g_co X 54 13 = some (.istore_n 3) := rfl
theorem q_54_14 : g_co X 54 14 = some (.iload_n 3) := rfl
theorem q_54_15 : g_co X 54 15 = some (.iload_n 2) := rfl
theorem q_54_16 : g_co X 54 16 = some (.if_icmp .ge 61) := rfl
theorem q_54_19 : g_co X 54 19 = some (.aload_n 0) := rfl
theorem q_54_20 : g_co X 54 20 = some (.getfield 42) := rfl
theorem q_54_23 : g_co X 54 23 = some (.bipush 14) := rfl
theorem q_54_25 : g_co X 54 25 = some (.iconst 3) := rfl
theorem q_54_26 : g_co X 54 26 = some (.iload_n 1) := rfl
theorem q_54_27 : g_co X 54 27 = some (.imul) := rfl
theorem q_54_28 : g_co X 54 28 = some (.iadd) := rfl
theorem q_54_29 : g_co X 54 29 = some (.iload_n 3) := rfl
theorem q_54_30 : g_co X 54 30 = some (.iadd) := rfl
theorem q_54_31 : g_co X 54 31 = some (.aload_n 0) := rfl
theorem q_54_32 : g_co X 54 32 = some (.getfield 42) := rfl
theorem q_54_35 : g_co X 54 35 = some (.bipush 15) := rfl
theorem q_54_37 : g_co X 54 37 = some (.iconst 3) := rfl
theorem q_54_38 : g_co X 54 38 = some (.iload_n 1) := rfl
theorem q_54_39 : g_co X 54 39 = some (.imul) := rfl
theorem q_54_40 : g_co X 54 40 = some (.iadd) := rfl
theorem q_54_41 : g_co X 54 41 = some (.iload_n 3) := rfl
theorem q_54_42 : g_co X 54 42 = some (.iadd) := rfl
theorem q_54_43 : g_co X 54 43 = some (.iaload) := rfl
theorem q_54_44 : g_co X 54 44 = some (.iastore) := rfl
theorem q_54_45 : g_co X 54 45 = some (.aload_n 0) := rfl
theorem q_54_46 : g_co X 54 46 = some (.getfield 42) := rfl
theorem q_54_49 : g_co X 54 49 = some (.bipush 38) := rfl
theorem q_54_51 : g_co X 54 51 = some (.iconst 3) := rfl
theorem q_54_52 : g_co X 54 52 = some (.iload_n 1) := rfl
theorem q_54_53 : g_co X 54 53 = some (.imul) := rfl
theorem q_54_54 : g_co X 54 54 = some (.iadd) := rfl
theorem q_54_55 : g_co X 54 55 = some (.iload_n 3) := rfl
theorem q_54_56 : g_co X 54 56 = some (.iadd) := rfl
theorem q_54_57 : g_co X 54 57 = some (.aload_n 0) := rfl
theorem q_54_58 : g_co X 54 58 = some (.getfield 42) := rfl
theorem q_54_61 : g_co X 54 61 = some (.bipush 39) := rfl
theorem q_54_63 : g_co X 54 63 = some (.iconst 3) := rfl
theorem q_54_64 : g_co X 54 64 = some (.iload_n 1) := rfl
theorem q_54_65 : g_co X 54 65 = some (.imul) := rfl
theorem q_54_66 : g_co X 54 66 = some (.iadd) := rfl
theorem q_54_67 : g_co X 54 67 = some (.iload_n 3) := rfl
theorem q_54_68 : g_co X 54 68 = some (.iadd) := rfl
theorem q_54_69 : g_co X 54 69 = some (.iaload) := rfl
theorem q_54_70 : g_co X 54 70 = some (.iastore) := rfl
theorem q_54_71 : g_co X 54 71 = some (.iinc 3 1) := rfl
theorem q_54_74 : g_co X 54 74 = some (.goto (-60)) := rfl
theorem q_54_77 : g_co X 54 77 = some (.aload_n 0) := rfl
theorem q_54_78 : g_co X 54 78 = some (.getfield 42) := rfl
theorem q_54_81 : g_co X 54 81 = some (.bipush 14) := rfl
theorem q_54_83 : g_co X 54 83 = some (.iconst 3) := rfl
theorem q_54_84 : g_co X 54 84 = some (.iload_n 1) := rfl
theorem q_54_85 : g_co X 54 85 = some (.imul) := rfl
theorem q_54_86 : g_co X 54 86 = some (.iadd) := rfl
theorem q_54_87 : g_co X 54 87 = some (.iload_n 2) := rfl
theorem q_54_88 : g_co X 54 88 = some (.iadd) := rfl
theorem q_54_89 : g_co X 54 89 = some (.iconst 0) := rfl
theorem q_54_90 : g_co X 54 90 = some (.iastore) := rfl
theorem q_54_91 : g_co X 54 91 = some (.aload_n 0) := rfl
theorem q_54_92 : g_co X 54 92 = some (.getfield 42) := rfl
theorem q_54_95 : g_co X 54 95 = some (.bipush 38) := rfl
theorem q_54_97 : g_co X 54 97 = some (.iconst 3) := rfl
theorem q_54_98 : g_co X 54 98 = some (.iload_n 1) := rfl
theorem q_54_99 : g_co X 54 99 = some (.imul) := rfl
theorem q_54_100 : g_co X 54 100 = some (.iadd) := rfl
theorem q_54_101 : g_co X 54 101 = some (.iload_n 2) := rfl
theorem q_54_102 : g_co X 54 102 = some (.iadd) := rfl
theorem q_54_103 : g_co X 54 103 = some (.iconst 0) := rfl
theorem q_54_104 : g_co X 54 104 = some (.iastore) := rfl
theorem q_54_105 : g_co X 54 105 = some (.aload_n 0) := rfl
theorem q_54_106 : g_co X 54 106 = some (.getfield 42) := rfl
theorem q_54_109 : g_co X 54 109 = some (.bipush 10) := rfl
theorem q_54_111 : g_co X 54 111 = some (.iload_n 1) := rfl
theorem q_54_112 : g_co X 54 112 = some (.iadd) := rfl
theorem q_54_113 : g_co X 54 113 = some (.iload_n 2) := rfl
theorem q_54_114 : g_co X 54 114 = some (.iastore) := rfl
theorem q_54_115 : g_co X 54 115 = some (.return_) := rfl
theorem q_55_0 : g_co X 55 0 = some (.iconst 0) := rfl
theorem q_55_1 : g_co X 55 1 = some (.istore_n 2) := rfl
theorem q_55_2 : g_co X 55 2 = some (.iload_n 2) := rfl
theorem q_55_3 : g_co X 55 3 = some (.aload_n 1) := rfl
theorem q_55_4 : g_co X 55 4 = some (.arraylength) := rfl
theorem q_55_5 : g_co X 55 5 = some (.if_icmp .ge 18) := rfl
theorem q_55_8 : g_co X 55 8 = some (.aload_n 0) := rfl
theorem q_55_9 : g_co X 55 9 = some (.getfield 42) := rfl
theorem q_55_12 : g_co X 55 12 = some (.iload_n 2) := rfl
theorem q_55_13 : g_co X 55 13 = some (.aload_n 1) := rfl
theorem q_55_14 : g_co X 55 14 = some (.iload_n 2) := rfl
theorem q_55_15 : g_co X 55 15 = some (.iaload) := rfl
theorem q_55_16 : g_co X 55 16 = some (.iastore) := rfl
theorem q_55_17 : g_co X 55 17 = some (.iinc 2 1) := rfl
theorem q_55_20 : g_co X 55 20 = some (.goto (-18)) := rfl
theorem q_55_23 : g_co X 55 23 = some (.return_) := rfl
theorem q_56_0 : g_co X 56 0 = some (.iconst 0) := rfl
theorem q_56_1 : g_co X 56 1 = some (.istore_n 2) := rfl
theorem q_56_2 : g_co X 56 2 = some (.iload_n 2) := rfl
theorem q_56_3 : g_co X 56 3 = some (.aload_n 1) := rfl
theorem q_56_4 : g_co X 56 4 = some (.arraylength) := rfl
theorem q_56_5 : g_co X 56 5 = some (.if_icmp .ge 18) := rfl
theorem q_56_8 : g_co X 56 8 = some (.aload_n 1) := rfl
theorem q_56_9 : g_co X 56 9 = some (.iload_n 2) := rfl
theorem q_56_10 : g_co X 56 10 = some (.aload_n 0) := rfl
theorem q_56_11 : g_co X 56 11 = some (.getfield 42) := rfl
theorem q_56_14 : g_co X 56 14 = some (.iload_n 2) := rfl
theorem q_56_15 : g_co X 56 15 = some (.iaload) := rfl
theorem q_56_16 : g_co X 56 16 = some (.iastore) := rfl
theorem q_56_17 : g_co X 56 17 = some (.iinc 2 1) := rfl
theorem q_56_20 : g_co X 56 20 = some (.goto (-18)) := rfl
theorem q_56_23 : g_co X 56 23 = some (.return_) := rfl
theorem q_57_0 : g_co X 57 0 = some (.aload_n 0) := rfl
theorem q_57_1 : g_co X 57 1 = some (.getfield 42) := rfl
theorem q_57_4 : g_co X 57 4 = some (.bipush 37) := rfl
theorem q_57_6 : g_co X 57 6 = some (.iaload) := rfl
theorem q_57_7 : g_co X 57 7 = some (.iconst 1) := rfl
theorem q_57_8 : g_co X 57 8 = some (.if_icmp .ne 5) := rfl
theorem q_57_11 : g_co X 57 11 = some (.iconst 1) := rfl
theorem q_57_12 : g_co X 57 12 = some (.ireturn) := rfl
theorem q_57_13 : g_co X 57 13 = some (.iconst 0) := rfl
theorem q_57_14 : g_co X 57 14 = some (.istore_n 1) := rfl
theorem q_57_15 : g_co X 57 15 = some (.iload_n 1) := rfl
theorem q_57_16 : g_co X 57 16 = some (.iconst 4) := rfl
theorem q_57_17 : g_co X 57 17 = some (.if_icmp .ge 23) := rfl
theorem q_57_20 : g_co X 57 20 = some (.aload_n 0) := rfl
theorem q_57_21 : g_co X 57 21 = some (.getfield 42) := rfl
theorem q_57_24 : g_co X 57 24 = some (.bipush 10) := rfl
theorem q_57_26 : g_co X 57 26 = some (.iload_n 1) := rfl
theorem q_57_27 : g_co X 57 27 = some (.iadd) := rfl
theorem q_57_28 : g_co X 57 28 = some (.iaload) := rfl
theorem q_57_29 : g_co X 57 29 = some (.ifCond .le 5) := rfl
theorem q_57_32 : g_co X 57 32 = some (.iconst 0) := rfl
theorem q_57_33 : g_co X 57 33 = some (.ireturn) := rfl
theorem q_57_34 : g_co X 57 34 = some (.iinc 1 1) := rfl
theorem q_57_37 : g_co X 57 37 = some (.goto (-22)) := rfl
theorem q_57_40 : g_co X 57 40 = some (.aload_n 0) := rfl
theorem q_57_41 : g_co X 57 41 = some (.getfield 42) := rfl
theorem q_57_44 : g_co X 57 44 = some (.bipush 26) := rfl
theorem q_57_46 : g_co X 57 46 = some (.iaload) := rfl
theorem q_57_47 : g_co X 57 47 = some (.ifCond .ne 24) := rfl
theorem q_57_50 : g_co X 57 50 = some (.aload_n 0) := rfl
theorem q_57_51 : g_co X 57 51 = some (.aload_n 0) := rfl
theorem q_57_52 : g_co X 57 52 = some (.getfield 33) := rfl
theorem q_57_55 : g_co X 57 55 = some (.aload_n 0) := rfl
theorem q_57_56 : g_co X 57 56 = some (.getfield 316) := rfl
theorem q_57_59 : g_co X 57 59 = some (.iaload) := rfl
theorem q_57_60 : g_co X 57 60 = some (.iconst 0) := rfl
theorem q_57_61 : g_co X 57 61 = some (.invokevirtual 337) := rfl
theorem q_57_64 : g_co X 57 64 = some (.ifCond .eq 7) := rfl
theorem q_57_67 : g_co X 57 67 = some (.iconst 1) := rfl
theorem q_57_68 : g_co X 57 68 = some (.goto 4) := rfl
theorem q_57_71 : g_co X 57 71 = some (.iconst 0) := rfl
theorem q_57_72 : g_co X 57 72 = some (.ireturn) := rfl
theorem q_58_0 : g_co X 58 0 = some (.aload_n 0) := rfl
theorem q_58_1 : g_co X 58 1 = some (.iconst 0) := rfl
theorem q_58_2 : g_co X 58 2 = some (.putfield 316) := rfl
theorem q_58_5 : g_co X 58 5 = some (.aload_n 0) := rfl
theorem q_58_6 : g_co X 58 6 = some (.iconst 0) := rfl
theorem q_58_7 : g_co X 58 7 = some (.putfield 341) := rfl
theorem q_58_10 : g_co X 58 10 = some (.aload_n 0) := rfl
theorem q_58_11 : g_co X 58 11 = some (.invokevirtual 344) := rfl
theorem q_58_14 : g_co X 58 14 = some (.aload_n 0) := rfl
theorem q_58_15 : g_co X 58 15 = some (.aload_n 0) := rfl
theorem q_58_16 : g_co X 58 16 = some (.getfield 48) := rfl
theorem q_58_19 : g_co X 58 19 = some (.invokevirtual 347) := rfl
theorem q_58_22 : g_co X 58 22 = some (.iconst 0) := rfl
theorem q_58_23 : g_co X 58 23 = some (.istore_n 1) := rfl
theorem q_58_24 : g_co X 58 24 = some (.iload_n 1) := rfl
theorem q_58_25 : g_co X 58 25 = some (.bipush 10) := rfl
theorem q_58_27 : g_co X 58 27 = some (.if_icmp .ge 23) := rfl
theorem q_58_30 : g_co X 58 30 = some (.aload_n 0) := rfl
theorem q_58_31 : g_co X 58 31 = some (.getfield 63) := rfl
theorem q_58_34 : g_co X 58 34 = some (.iconst 0) := rfl
theorem q_58_35 : g_co X 58 35 = some (.aaload) := rfl
theorem q_58_36 : g_co X 58 36 = some (.iload_n 1) := rfl
theorem q_58_37 : g_co X 58 37 = some (.aload_n 0) := rfl
theorem q_58_38 : g_co X 58 38 = some (.getfield 48) := rfl
theorem q_58_41 : g_co X 58 41 = some (.iload_n 1) := rfl
theorem q_58_42 : g_co X 58 42 = some (.iaload) := rfl
theorem q_58_43 : g_co X 58 43 = some (.iastore) := rfl
theorem q_58_44 : g_co X 58 44 = some (.iinc 1 1) := rfl
theorem q_58_47 : g_co X 58 47 = some (.goto (-23)) := rfl
theorem q_58_50 : g_co X 58 50 = some (.return_) := rfl
theorem q_59_0 : g_co X 59 0 = some (.aload_n 0) := rfl
theorem q_59_1 : g_co X 59 1 = some (.iconst 0) := rfl
theorem q_59_2 : g_co X 59 2 = some (.putfield 126) := rfl
theorem q_59_5 : g_co X 59 5 = some (.aload_n 0) := rfl
theorem q_59_6 : g_co X 59 6 = some (.getfield 341) := rfl
theorem q_59_9 : g_co X 59 9 = some (.istore_n 1) := rfl
theorem q_59_10 : g_co X 59 10 = some (.aload_n 0) := rfl
theorem q_59_11 : g_co X 59 11 = some (.invokevirtual 120) := rfl
theorem q_59_14 : g_co X 59 14 = some (.iload_n 1) := rfl
theorem q_59_15 : g_co X 59 15 = some (.ireturn) := rfl
theorem q_60_0 : g_co X 60 0 = some (.aload_n 0) := rfl
theorem q_60_1 : g_co X 60 1 = some (.iconst 0) := rfl
theorem q_60_2 : g_co X 60 2 = some (.putfield 126) := rfl
theorem q_60_5 : g_co X 60 5 = some (.aload_n 0) := rfl
theorem q_60_6 : g_co X 60 6 = some (.iload_n 1) := rfl
theorem q_60_7 : g_co X 60 7 = some (.iconst 0) := rfl
theorem q_60_8 : g_co X 60 8 = some (.bipush 12) := rfl
theorem q_60_10 : g_co X 60 10 = some (.invokestatic 247) := rfl
theorem q_60_13 : g_co X 60 13 = some (.ifCond .ne 7) := rfl
theorem q_60_16 : g_co X 60 16 = some (.iconst 1) := rfl
theorem q_60_17 : g_co X 60 17 = some (.goto 4) := rfl
theorem q_60_20 : g_co X 60 20 = some (.iconst 0) := rfl
theorem q_60_21 : g_co X 60 21 = some (.iconst 1) := rfl
theorem q_60_22 : g_co X 60 22 = some (.invokevirtual 306) := rfl
theorem q_60_25 : g_co X 60 25 = some (.ifCond .eq 5) := rfl
theorem q_60_28 : g_co X 60 28 = some (.iconst 0) := rfl
theorem q_60_29 : g_co X 60 29 = some (.ireturn) := rfl
theorem q_60_30 : g_co X 60 30 = some (.aload_n 0) := rfl
theorem q_60_31 : g_co X 60 31 = some (.aload_n 0) := rfl
theorem q_60_32 : g_co X 60 32 = some (.getfield 48) := rfl
theorem q_60_35 : g_co X 60 35 = some (.invokevirtual 351) := rfl
theorem q_60_38 : g_co X 60 38 = some (.aload_n 0) := rfl
theorem q_60_39 : g_co X 60 39 = some (.iload_n 1) := rfl
theorem q_60_40 : g_co X 60 40 = some (.invokevirtual 354) := rfl
theorem q_60_43 : g_co X 60 43 = some (.ireturn) := rfl
theorem q_61_0 : g_co X 61 0 = some (.aload_n 0) := rfl
theorem q_61_1 : g_co X 61 1 = some (.iconst 0) := rfl
theorem q_61_2 : g_co X 61 2 = some (.putfield 126) := rfl
theorem q_61_5 : g_co X 61 5 = some (.aload_n 0) := rfl
theorem q_61_6 : g_co X 61 6 = some (.iload_n 1) := rfl
theorem q_61_7 : g_co X 61 7 = some (.iconst 0) := rfl
theorem q_61_8 : g_co X 61 8 = some (.bipush 12) := rfl
theorem q_61_10 : g_co X 61 10 = some (.invokestatic 247) := rfl
theorem q_61_13 : g_co X 61 13 = some (.ifCond .ne 7) := rfl
theorem q_61_16 : g_co X 61 16 = some (.iconst 1) := rfl
theorem q_61_17 : g_co X 61 17 = some (.goto 4) := rfl
theorem q_61_20 : g_co X 61 20 = some (.iconst 0) := rfl
theorem q_61_21 : g_co X 61 21 = some (.iconst 1) := rfl
theorem q_61_22 : g_co X 61 22 = some (.invokevirtual 306) := rfl
theorem q_61_25 : g_co X 61 25 = some (.ifCond .eq 5) := rfl
theorem q_61_28 : g_co X 61 28 = some (.iconst 0) := rfl
theorem q_61_29 : g_co X 61 29 = some (.ireturn) := rfl
theorem q_61_30 : g_co X 61 30 = some (.aload_n 0) := rfl
theorem q_61_31 : g_co X 61 31 = some (.aload_n 0) := rfl
theorem q_61_32 : g_co X 61 32 = some (.getfield 48) := rfl
theorem q_61_35 : g_co X 61 35 = some (.invokevirtual 351) := rfl
theorem q_61_38 : g_co X 61 38 = some (.aload_n 0) := rfl
theorem q_61_39 : g_co X 61 39 = some (.iload_n 1) := rfl
theorem q_61_40 : g_co X 61 40 = some (.invokevirtual 354) := rfl
theorem q_61_43 : g_co X 61 43 = some (.ifCond .ne 5) := rfl
theorem q_61_46 : g_co X 61 46 = some (.iconst (-1)) := rfl
theorem q_61_47 : g_co X 61 47 = some (.ireturn) := rfl
theorem q_61_48 : g_co X 61 48 = some (.aload_n 0) := rfl
theorem q_61_49 : g_co X 61 49 = some (.getfield 341) := rfl
theorem q_61_52 : g_co X 61 52 = some (.bipush 40) := rfl
theorem q_61_54 : g_co X 61 54 = some (.if_icmp .ne 6) := rfl
theorem q_61_57 : g_co X 61 57 = some (.bipush (-2)) := rfl
theorem q_61_59 : g_co X 61 59 = some (.ireturn) := rfl
theorem q_61_60 : g_co X 61 60 = some (.aload_n 0) := rfl
theorem q_61_61 : g_co X 61 61 = some (.iconst 0) := rfl
theorem q_61_62 : g_co X 61 62 = some (.putfield 316) := rfl
theorem q_61_65 : g_co X 61 65 = some (.aload_n 0) := rfl
theorem q_61_66 : g_co X 61 66 = some (.iconst (-1)) := rfl
theorem q_61_67 : g_co X 61 67 = some (.putfield 45) := rfl
theorem q_61_70 : g_co X 61 70 = some (.aload_n 0) := rfl
theorem q_61_71 : g_co X 61 71 = some (.getfield 54) := rfl
theorem q_61_74 : g_co X 61 74 = some (.aload_n 0) := rfl
theorem q_61_75 : g_co X 61 75 = some (.getfield 341) := rfl
theorem q_61_78 : g_co X 61 78 = some (.aload_n 0) := rfl
theorem q_61_79 : g_co X 61 79 = some (.iload_n 1) := rfl
theorem q_61_80 : g_co X 61 80 = some (.aload_n 0) := rfl
theorem q_61_81 : g_co X 61 81 = some (.getfield 341) := rfl
theorem q_61_84 : g_co X 61 84 = some (.invokevirtual 357) := rfl
theorem q_61_87 : g_co X 61 87 = some (.iastore) := rfl
theorem q_61_88 : g_co X 61 88 = some (.aload_n 0) := rfl
theorem q_61_89 : g_co X 61 89 = some (.getfield 51) := rfl
theorem q_61_92 : g_co X 61 92 = some (.aload_n 0) := rfl
theorem q_61_93 : g_co X 61 93 = some (.getfield 341) := rfl
theorem q_61_96 : g_co X 61 96 = some (.iload_n 1) := rfl
theorem q_61_97 : g_co X 61 97 = some (.iastore) := rfl
theorem q_61_98 : g_co X 61 98 = some (.aload_n 0) := rfl
theorem q_61_99 : g_co X 61 99 = some (.getfield 57) := rfl
theorem q_61_102 : g_co X 61 102 = some (.aload_n 0) := rfl
theorem q_61_103 : g_co X 61 103 = some (.getfield 341) := rfl
theorem q_61_106 : g_co X 61 106 = some (.aload_n 0) := rfl
theorem q_61_107 : g_co X 61 107 = some (.getfield 187) := rfl
theorem q_61_110 : g_co X 61 110 = some (.iastore) := rfl
theorem q_61_111 : g_co X 61 111 = some (.aload_n 0) := rfl
theorem q_61_112 : g_co X 61 112 = some (.getfield 60) := rfl
theorem q_61_115 : g_co X 61 115 = some (.aload_n 0) := rfl
theorem q_61_116 : g_co X 61 116 = some (.getfield 341) := rfl
theorem q_61_119 : g_co X 61 119 = some (.aload_n 0) := rfl
theorem q_61_120 : g_co X 61 120 = some (.getfield 275) := rfl
theorem q_61_123 : g_co X 61 123 = some (.iastore) := rfl
theorem q_61_124 : g_co X 61 124 = some (.aload_n 0) := rfl
theorem q_61_125 : g_co X 61 125 = some (.aload_n 0) := rfl
theorem q_61_126 : g_co X 61 126 = some (.getfield 48) := rfl
theorem q_61_129 : g_co X 61 129 = some (.invokevirtual 347) := rfl
theorem q_61_132 : g_co X 61 132 = some (.aload_n 0) := rfl
theorem q_61_133 : g_co X 61 133 = some (.dup) := rfl
theorem q_61_134 : g_co X 61 134 = some (.getfield 341) := rfl
theorem q_61_137 : g_co X 61 137 = some (.iconst 1) := rfl
theorem q_61_138 : g_co X 61 138 = some (.iadd) := rfl
theorem q_61_139 : g_co X 61 139 = some (.putfield 341) := rfl
theorem q_61_142 : g_co X 61 142 = some (.iconst 0) := rfl
theorem q_61_143 : g_co X 61 143 = some (.istore_n 2) := rfl
theorem q_61_144 : g_co X 61 144 = some (.iload_n 2) := rfl
theorem q_61_145 : g_co X 61 145 = some (.bipush 10) := rfl
theorem q_61_147 : g_co X 61 147 = some (.if_icmp .ge 26) := rfl
theorem q_61_150 : g_co X 61 150 = some (.aload_n 0) := rfl
theorem q_61_151 : g_co X 61 151 = some (.getfield 63) := rfl
theorem q_61_154 : g_co X 61 154 = some (.aload_n 0) := rfl
theorem q_61_155 : g_co X 61 155 = some (.getfield 341) := rfl
theorem q_61_158 : g_co X 61 158 = some (.aaload) := rfl
theorem q_61_159 : g_co X 61 159 = some (.iload_n 2) := rfl
theorem q_61_160 : g_co X 61 160 = some (.aload_n 0) := rfl
theorem q_61_161 : g_co X 61 161 = some (.getfield 48) := rfl
theorem q_61_164 : g_co X 61 164 = some (.iload_n 2) := rfl
theorem q_61_165 : g_co X 61 165 = some (.iaload) := rfl
theorem q_61_166 : g_co X 61 166 = some (.iastore) := rfl
theorem q_61_167 : g_co X 61 167 = some (.iinc 2 1) := rfl
theorem q_61_170 : g_co X 61 170 = some (.goto (-26)) := rfl
theorem q_61_173 : g_co X 61 173 = some (.aload_n 0) := rfl
theorem q_61_174 : g_co X 61 174 = some (.getfield 341) := rfl
theorem q_61_177 : g_co X 61 177 = some (.iconst 1) := rfl
theorem q_61_178 : g_co X 61 178 = some (.isub) := rfl
theorem q_61_179 : g_co X 61 179 = some (.ireturn) := rfl
theorem q_62_0 : g_co X 62 0 = some (.aload_n 0) := rfl
theorem q_62_1 : g_co X 62 1 = some (.iconst 0) := rfl
theorem q_62_2 : g_co X 62 2 = some (.putfield 126) := rfl
theorem q_62_5 : g_co X 62 5 = some (.aload_n 0) := rfl
theorem q_62_6 : g_co X 62 6 = some (.iload_n 1) := rfl
theorem q_62_7 : g_co X 62 7 = some (.iconst 0) := rfl
theorem q_62_8 : g_co X 62 8 = some (.bipush 7) := rfl
theorem q_62_10 : g_co X 62 10 = some (.invokestatic 247) := rfl
theorem q_62_13 : g_co X 62 13 = some (.ifCond .ne 7) := rfl
theorem q_62_16 : g_co X 62 16 = some (.iconst 1) := rfl
theorem q_62_17 : g_co X 62 17 = some (.goto 4) := rfl
theorem q_62_20 : g_co X 62 20 = some (.iconst 0) := rfl
theorem q_62_21 : g_co X 62 21 = some (.iconst 1) := rfl
theorem q_62_22 : g_co X 62 22 = some (.invokevirtual 306) := rfl
theorem q_62_25 : g_co X 62 25 = some (.ifCond .eq 5) := rfl
theorem q_62_28 : g_co X 62 28 = some (.iconst 0) := rfl
theorem q_62_29 : g_co X 62 29 = some (.ireturn) := rfl
theorem q_62_30 : g_co X 62 30 = some (.aload_n 0) := rfl
theorem q_62_31 : g_co X 62 31 = some (.getfield 48) := rfl
theorem q_62_34 : g_co X 62 34 = some (.iload_n 1) := rfl
theorem q_62_35 : g_co X 62 35 = some (.iaload) := rfl
theorem q_62_36 : g_co X 62 36 = some (.ireturn) := rfl
theorem q_63_0 : g_co X 63 0 = some (.aload_n 0) := rfl
theorem q_63_1 : g_co X 63 1 = some (.iconst 0) := rfl
theorem q_63_2 : g_co X 63 2 = some (.putfield 126) := rfl
theorem q_63_5 : g_co X 63 5 = some (.aload_n 0) := rfl
theorem q_63_6 : g_co X 63 6 = some (.iload_n 1) := rfl
theorem q_63_7 : g_co X 63 7 = some (.iconst 0) := rfl
theorem q_63_8 : g_co X 63 8 = some (.bipush 7) := rfl
theorem q_63_10 : g_co X 63 10 = some (.invokestatic 247) := rfl
theorem q_63_13 : g_co X 63 13 = some (.ifCond .ne 7) := rfl
theorem q_63_16 : g_co X 63 16 = some (.iconst 1) := rfl
theorem q_63_17 : g_co X 63 17 = some (.goto 4) := rfl
theorem q_63_20 : g_co X 63 20 = some (.iconst 0) := rfl
theorem q_63_21 : g_co X 63 21 = some (.iconst 1) := rfl
theorem q_63_22 : g_co X 63 22 = some (.invokevirtual 306) := rfl
theorem q_63_25 : g_co X 63 25 = some (.ifCond .eq 5) := rfl
theorem q_63_28 : g_co X 63 28 = some (.iconst 0) := rfl
theorem q_63_29 : g_co X 63 29 = some (.ireturn) := rfl
theorem q_63_30 : g_co X 63 30 = some (.aload_n 0) := rfl
theorem q_63_31 : g_co X 63 31 = some (.getfield 48) := rfl
theorem q_63_34 : g_co X 63 34 = some (.bipush 8) := rfl
theorem q_63_36 : g_co X 63 36 = some (.iaload) := rfl
theorem q_63_37 : g_co X 63 37 = some (.iload_n 1) := rfl
theorem q_63_38 : g_co X 63 38 = some (.ishr) := rfl
theorem q_63_39 : g_co X 63 39 = some (.iconst 1) := rfl
theorem q_63_40 : g_co X 63 40 = some (.iand) := rfl
theorem q_63_41 : g_co X 63 41 = some (.iconst 2) := rfl
theorem q_63_42 : g_co X 63 42 = some (.aload_n 0) := rfl
theorem q_63_43 : g_co X 63 43 = some (.getfield 48) := rfl
theorem q_63_46 : g_co X 63 46 = some (.bipush 9) := rfl
theorem q_63_48 : g_co X 63 48 = some (.iaload) := rfl
theorem q_63_49 : g_co X 63 49 = some (.iload_n 1) := rfl
theorem q_63_50 : g_co X 63 50 = some (.ishr) := rfl
theorem q_63_51 : g_co X 63 51 = some (.iconst 1) := rfl
theorem q_63_52 : g_co X 63 52 = some (.iand) := rfl
theorem q_63_53 : g_co X 63 53 = some (.imul) := rfl
theorem q_63_54 : g_co X 63 54 = some (.iadd) := rfl
theorem q_63_55 : g_co X 63 55 = some (.ireturn) := rfl
theorem q_64_0 : g_co X 64 0 = some (.aload_n 0) := rfl
theorem q_64_1 : g_co X 64 1 = some (.iconst 0) := rfl
theorem q_64_2 : g_co X 64 2 = some (.putfield 126) := rfl
theorem q_64_5 : g_co X 64 5 = some (.aload_n 0) := rfl
theorem q_64_6 : g_co X 64 6 = some (.iload_n 1) := rfl
theorem q_64_7 : g_co X 64 7 = some (.iconst 0) := rfl
theorem q_64_8 : g_co X 64 8 = some (.iconst 3) := rfl
theorem q_64_9 : g_co X 64 9 = some (.invokestatic 247) := rfl
theorem q_64_12 : g_co X 64 12 = some (.ifCond .ne 7) := rfl
theorem q_64_15 : g_co X 64 15 = some (.iconst 1) := rfl
theorem q_64_16 : g_co X 64 16 = some (.goto 4) := rfl
theorem q_64_19 : g_co X 64 19 = some (.iconst 0) := rfl
theorem q_64_20 : g_co X 64 20 = some (.iconst 1) := rfl
theorem q_64_21 : g_co X 64 21 = some (.invokevirtual 306) := rfl
theorem q_64_24 : g_co X 64 24 = some (.ifCond .eq 5) := rfl
theorem q_64_27 : g_co X 64 27 = some (.iconst 0) := rfl
theorem q_64_28 : g_co X 64 28 = some (.ireturn) := rfl
theorem q_64_29 : g_co X 64 29 = some (.aload_n 0) := rfl
theorem q_64_30 : g_co X 64 30 = some (.getfield 48) := rfl
theorem q_64_33 : g_co X 64 33 = some (.bipush 33) := rfl
theorem q_64_35 : g_co X 64 35 = some (.iload_n 1) := rfl
theorem q_64_36 : g_co X 64 36 = some (.iadd) := rfl
theorem q_64_37 : g_co X 64 37 = some (.iaload) := rfl
theorem q_64_38 : g_co X 64 38 = some (.ireturn) := rfl
theorem q_65_0 : g_co X 65 0 = some (.aload_n 0) := rfl
theorem q_65_1 : g_co X 65 1 = some (.iconst 0) := rfl
theorem q_65_2 : g_co X 65 2 = some (.putfield 126) := rfl
theorem q_65_5 : g_co X 65 5 = some (.aload_n 0) := rfl
theorem q_65_6 : g_co X 65 6 = some (.iload_n 1) := rfl
theorem q_65_7 : g_co X 65 7 = some (.iconst 0) := rfl
theorem q_65_8 : g_co X 65 8 = some (.iconst 3) := rfl
theorem q_65_9 : g_co X 65 9 = some (.invokestatic 247) := rfl
theorem q_65_12 : g_co X 65 12 = some (.ifCond .ne 7) := rfl
theorem q_65_15 : g_co X 65 15 = some (.iconst 1) := rfl
theorem q_65_16 : g_co X 65 16 = some (.goto 4) := rfl
theorem q_65_19 : g_co X 65 19 = some (.iconst 0) := rfl
theorem q_65_20 : g_co X 65 20 = some (.iconst 1) := rfl
theorem q_65_21 : g_co X 65 21 = some (.invokevirtual 306) := rfl
theorem q_65_24 : g_co X 65 24 = some (.ifCond .eq 5) := rfl
theorem q_65_27 : g_co X 65 27 = some (.iconst 0) := rfl
theorem q_65_28 : g_co X 65 28 = some (.ireturn) := rfl
theorem q_65_29 : g_co X 65 29 = some (.iload_n 2) := rfl
theorem q_65_30 : g_co X 65 30 = some (.iconst (-1)) := rfl
theorem q_65_31 : g_co X 65 31 = some (.if_icmp .ne 13) := rfl
theorem q_65_34 : g_co X 65 34 = some (.aload_n 0) := rfl
theorem q_65_35 : g_co X 65 35 = some (.getfield 48) := rfl
theorem q_65_38 : g_co X 65 38 = some (.bipush 10) := rfl
theorem q_65_40 : g_co X 65 40 = some (.iload_n 1) := rfl
theorem q_65_41 : g_co X 65 41 = some (.iadd) := rfl
theorem q_65_42 : g_co X 65 42 = some (.iaload) := rfl
theorem q_65_43 : g_co X 65 43 = some (.ireturn) := rfl
theorem q_65_44 : g_co X 65 44 = some (.iload_n 2) := rfl
theorem q_65_45 : g_co X 65 45 = some (.iconst 0) := rfl
theorem q_65_46 : g_co X 65 46 = some (.aload_n 0) := rfl
theorem q_65_47 : g_co X 65 47 = some (.getfield 48) := rfl
theorem q_65_50 : g_co X 65 50 = some (.bipush 10) := rfl
theorem q_65_52 : g_co X 65 52 = some (.iload_n 1) := rfl
theorem q_65_53 : g_co X 65 53 = some (.iadd) := rfl
theorem q_65_54 : g_co X 65 54 = some (.iaload) := rfl
theorem q_65_55 : g_co X 65 55 = some (.iconst 1) := rfl
theorem q_65_56 : g_co X 65 56 = some (.isub) := rfl
theorem q_65_57 : g_co X 65 57 = some (.invokestatic 247) := rfl
theorem q_65_60 : g_co X 65 60 = some (.ifCond .eq 19) := rfl
theorem q_65_63 : g_co X 65 63 = some (.aload_n 0) := rfl
theorem q_65_64 : g_co X 65 64 = some (.getfield 48) := rfl
theorem q_65_67 : g_co X 65 67 = some (.bipush 14) := rfl
theorem q_65_69 : g_co X 65 69 = some (.iconst 3) := rfl
theorem q_65_70 : g_co X 65 70 = some (.iload_n 1) := rfl
theorem q_65_71 : g_co X 65 71 = some (.imul) := rfl
theorem q_65_72 : g_co X 65 72 = some (.iadd) := rfl
theorem q_65_73 : g_co X 65 73 = some (.iload_n 2) := rfl
theorem q_65_74 : g_co X 65 74 = some (.iadd) := rfl
theorem q_65_75 : g_co X 65 75 = some (.iaload) := rfl
theorem q_65_76 : g_co X 65 76 = some (.goto 6) := rfl
theorem q_65_79 : g_co X 65 79 = some (.ldc_w 361) := rfl
theorem q_65_82 : g_co X 65 82 = some (.ireturn) := rfl
theorem q_66_0 : g_co X 66 0 = some (.aload_n 0) := rfl
theorem q_66_1 : g_co X 66 1 = some (.iconst 0) := rfl
theorem q_66_2 : g_co X 66 2 = some (.putfield 126) := rfl
theorem q_66_5 : g_co X 66 5 = some (.iload_n 1) := rfl
theorem q_66_6 : g_co X 66 6 = some (.iconst (-1)) := rfl
theorem q_66_7 : g_co X 66 7 = some (.if_icmp .ne 11) := rfl
theorem q_66_10 : g_co X 66 10 = some (.aload_n 0) := rfl
theorem q_66_11 : g_co X 66 11 = some (.getfield 48) := rfl
theorem q_66_14 : g_co X 66 14 = some (.bipush 26) := rfl
theorem q_66_16 : g_co X 66 16 = some (.iaload) := rfl
theorem q_66_17 : g_co X 66 17 = some (.ireturn) := rfl
theorem q_66_18 : g_co X 66 18 = some (.iconst 0) := rfl
theorem q_66_19 : g_co X 66 19 = some (.istore_n 2) := rfl
theorem q_66_20 : g_co X 66 20 = some (.iload_n 2) := rfl
theorem q_66_21 : g_co X 66 21 = some (.aload_n 0) := rfl
theorem q_66_22 : g_co X 66 22 = some (.getfield 48) := rfl
theorem q_66_25 : g_co X 66 25 = some (.bipush 26) := rfl
theorem q_66_27 : g_co X 66 27 = some (.iaload) := rfl
theorem q_66_28 : g_co X 66 28 = some (.if_icmp .ge 119) := rfl
theorem q_66_31 : g_co X 66 31 = some (.iconst 0) := rfl
theorem q_66_32 : g_co X 66 32 = some (.istore_n 3) := rfl
theorem q_66_33 : g_co X 66 33 = some (.iconst 0) := rfl
theorem q_66_34 : g_co X 66 34 = some (.istore 4) := rfl
theorem q_66_36 : g_co X 66 36 = some (.iload 4) := rfl
theorem q_66_38 : g_co X 66 38 = some (.aload_n 0) := rfl
theorem q_66_39 : g_co X 66 39 = some (.getfield 48) := rfl
theorem q_66_42 : g_co X 66 42 = some (.bipush 26) := rfl
theorem q_66_44 : g_co X 66 44 = some (.iaload) := rfl
theorem q_66_45 : g_co X 66 45 = some (.if_icmp .ge 67) := rfl
theorem q_66_48 : g_co X 66 48 = some (.iload_n 3) := rfl
theorem q_66_49 : g_co X 66 49 = some (.aload_n 0) := rfl
theorem q_66_50 : g_co X 66 50 = some (.getfield 48) := rfl
theorem q_66_53 : g_co X 66 53 = some (.bipush 30) := rfl
theorem q_66_55 : g_co X 66 55 = some (.iload 4) := rfl
theorem q_66_57 : g_co X 66 57 = some (.iadd) := rfl
theorem q_66_58 : g_co X 66 58 = some (.iaload) := rfl
theorem q_66_59 : g_co X 66 59 = some (.aload_n 0) := rfl
theorem q_66_60 : g_co X 66 60 = some (.getfield 48) := rfl
theorem q_66_63 : g_co X 66 63 = some (.bipush 30) := rfl
theorem q_66_65 : g_co X 66 65 = some (.iload_n 2) := rfl
theorem q_66_66 : g_co X 66 66 = some (.iadd) := rfl
theorem q_66_67 : g_co X 66 67 = some (.iaload) := rfl
theorem q_66_68 : g_co X 66 68 = some (.if_icmp .lt 31) := rfl
theorem q_66_71 : g_co X 66 71 = some (.aload_n 0) := rfl
theorem q_66_72 : g_co X 66 72 = some (.getfield 48) := rfl
theorem q_66_75 : g_co X 66 75 = some (.bipush 30) := rfl
theorem q_66_77 : g_co X 66 77 = some (.iload 4) := rfl
theorem q_66_79 : g_co X 66 79 = some (.iadd) := rfl
theorem q_66_80 : g_co X 66 80 = some (.iaload) := rfl
theorem q_66_81 : g_co X 66 81 = some (.aload_n 0) := rfl
theorem q_66_82 : g_co X 66 82 = some (.getfield 48) := rfl
theorem q_66_85 : g_co X 66 85 = some (.bipush 30) := rfl
theorem q_66_87 : g_co X 66 87 = some (.iload_n 2) := rfl
theorem q_66_88 : g_co X 66 88 = some (.iadd) := rfl
theorem q_66_89 : g_co X 66 89 = some (.iaload) := rfl
theorem q_66_90 : g_co X 66 90 = some (.if_icmp .ne 13) := rfl
theorem q_66_93 : g_co X 66 93 = some (.iload 4) := rfl
theorem q_66_95 : g_co X 66 95 = some (.iload_n 2) := rfl
theorem q_66_96 : g_co X 66 96 = some (.if_icmp .ge 7) := rfl
theorem q_66_99 : g_co X 66 99 = some (.iconst 1) := rfl
theorem q_66_100 : g_co X 66 100 = some (.goto 4) := rfl
theorem q_66_103 : g_co X 66 103 = some (.iconst 0) := rfl
theorem q_66_104 : g_co X 66 104 = some (.iadd) := rfl
theorem q_66_105 : g_co X 66 105 = some (.istore_n 3) := rfl
theorem q_66_106 : g_co X 66 106 = some (.iinc 4 1) := rfl
theorem q_66_109 : g_co X 66 109 = some (.goto (-73)) := rfl
theorem q_66_112 : g_co X 66 112 = some (.iload_n 3) := rfl
theorem q_66_113 : g_co X 66 113 = some (.iload_n 1) := rfl
theorem q_66_114 : g_co X 66 114 = some (.if_icmp .ne 27) := rfl
theorem q_66_117 : g_co X 66 117 = some (.sipush 1000) := rfl
theorem q_66_120 : g_co X 66 120 = some (.aload_n 0) := rfl
theorem q_66_121 : g_co X 66 121 = some (.getfield 48) := rfl
theorem q_66_124 : g_co X 66 124 = some (.bipush 27) := rfl
theorem q_66_126 : g_co X 66 126 = some (.iload_n 2) := rfl
theorem q_66_127 : g_co X 66 127 = some (.iadd) := rfl
theorem q_66_128 : g_co X 66 128 = some (.iaload) := rfl
theorem q_66_129 : g_co X 66 129 = some (.imul) := rfl
theorem q_66_130 : g_co X 66 130 = some (.aload_n 0) := rfl
theorem q_66_131 : g_co X 66 131 = some (.getfield 48) := rfl
theorem q_66_134 : g_co X 66 134 = some (.bipush 30) := rfl
theorem q_66_136 : g_co X 66 136 = some (.iload_n 2) := rfl
theorem q_66_137 : g_co X 66 137 = some (.iadd) := rfl
theorem q_66_138 : g_co X 66 138 = some (.iaload) := rfl
theorem q_66_139 : g_co X 66 139 = some (.iadd) := rfl
theorem q_66_140 : g_co X 66 140 = some (.ireturn) := rfl
theorem q_66_141 : g_co X 66 141 = some (.iinc 2 1) := rfl
theorem q_66_144 : g_co X 66 144 = some (.goto (-124)) := rfl
theorem q_66_147 : g_co X 66 147 = some (.iconst (-1)) := rfl
theorem q_66_148 : g_co X 66 148 = some (.ireturn) := rfl
theorem q_67_0 : g_co X 67 0 = some (.aload_n 0) := rfl
theorem q_67_1 : g_co X 67 1 = some (.iconst 0) := rfl
theorem q_67_2 : g_co X 67 2 = some (.putfield 126) := rfl
theorem q_67_5 : g_co X 67 5 = some (.aload_n 0) := rfl
theorem q_67_6 : g_co X 67 6 = some (.getfield 48) := rfl
theorem q_67_9 : g_co X 67 9 = some (.bipush 37) := rfl
theorem q_67_11 : g_co X 67 11 = some (.iaload) := rfl
theorem q_67_12 : g_co X 67 12 = some (.iconst 1) := rfl
theorem q_67_13 : g_co X 67 13 = some (.if_icmp .ne 7) := rfl
theorem q_67_16 : g_co X 67 16 = some (.iconst 1) := rfl
theorem q_67_17 : g_co X 67 17 = some (.goto 4) := rfl
theorem q_67_20 : g_co X 67 20 = some (.iconst 0) := rfl
theorem q_67_21 : g_co X 67 21 = some (.ireturn) := rfl
theorem q_68_0 : g_co X 68 0 = some (.aload_n 0) := rfl
theorem q_68_1 : g_co X 68 1 = some (.iconst 0) := rfl
theorem q_68_2 : g_co X 68 2 = some (.putfield 126) := rfl
theorem q_68_5 : g_co X 68 5 = some (.aload_n 0) := rfl
theorem q_68_6 : g_co X 68 6 = some (.iconst 0) := rfl
theorem q_68_7 : g_co X 68 7 = some (.putfield 316) := rfl
theorem q_68_10 : g_co X 68 10 = some (.aload_n 0) := rfl
theorem q_68_11 : g_co X 68 11 = some (.aload_n 0) := rfl
theorem q_68_12 : g_co X 68 12 = some (.getfield 48) := rfl
theorem q_68_15 : g_co X 68 15 = some (.invokevirtual 351) := rfl
theorem q_68_18 : g_co X 68 18 = some (.aload_n 0) := rfl
theorem q_68_19 : g_co X 68 19 = some (.invokevirtual 362) := rfl
theorem q_68_22 : g_co X 68 22 = some (.ireturn) := rfl
theorem q_69_0 : g_co X 69 0 = some (.iload_n 1) := rfl
theorem q_69_1 : g_co X 69 1 = some (.iconst 0) := rfl
theorem q_69_2 : g_co X 69 2 = some (.aload_n 0) := rfl
theorem q_69_3 : g_co X 69 3 = some (.getfield 341) := rfl
theorem q_69_6 : g_co X 69 6 = some (.iconst 1) := rfl
theorem q_69_7 : g_co X 69 7 = some (.isub) := rfl
theorem q_69_8 : g_co X 69 8 = some (.invokestatic 247) := rfl
theorem q_69_11 : g_co X 69 11 = some (.ireturn) := rfl
theorem q_70_0 : g_co X 70 0 = some (.aload_n 0) := rfl
theorem q_70_1 : g_co X 70 1 = some (.iconst 0) := rfl
theorem q_70_2 : g_co X 70 2 = some (.putfield 126) := rfl
theorem q_70_5 : g_co X 70 5 = some (.aload_n 0) := rfl
theorem q_70_6 : g_co X 70 6 = some (.aload_n 0) := rfl
theorem q_70_7 : g_co X 70 7 = some (.iload_n 1) := rfl
theorem q_70_8 : g_co X 70 8 = some (.invokevirtual 365) := rfl
theorem q_70_11 : g_co X 70 11 = some (.ifCond .ne 7) := rfl
theorem q_70_14 : g_co X 70 14 = some (.iconst 1) := rfl
theorem q_70_15 : g_co X 70 15 = some (.goto 4) := rfl
theorem q_70_18 : g_co X 70 18 = some (.iconst 0) := rfl
theorem q_70_19 : g_co X 70 19 = some (.iconst 1) := rfl
theorem q_70_20 : g_co X 70 20 = some (.invokevirtual 306) := rfl
theorem q_70_23 : g_co X 70 23 = some (.ifCond .ne 25) := rfl
theorem q_70_26 : g_co X 70 26 = some (.aload_n 0) := rfl
theorem q_70_27 : g_co X 70 27 = some (.iload_n 2) := rfl
theorem q_70_28 : g_co X 70 28 = some (.iconst 0) := rfl
theorem q_70_29 : g_co X 70 29 = some (.iconst 3) := rfl
theorem q_70_30 : g_co X 70 30 = some (.invokestatic 247) := rfl
theorem q_70_33 : g_co X 70 33 = some (.ifCond .ne 7) := rfl
theorem q_70_36 : g_co X 70 36 = some (.iconst 1) := rfl
theorem q_70_37 : g_co X 70 37 = some (.goto 4) := rfl
theorem q_70_40 : g_co X 70 40 = some (.iconst 0) := rfl
theorem q_70_41 : g_co X 70 41 = some (.iconst 2) := rfl
theorem q_70_42 : g_co X 70 42 = some (.invokevirtual 306) := rfl
theorem q_70_45 : g_co X 70 45 = some (.ifCond .eq 5) := rfl
theorem q_70_48 : g_co X 70 48 = some (.iconst 0) := rfl
theorem q_70_49 : g_co X 70 49 = some (.ireturn) := rfl
theorem q_70_50 : g_co X 70 50 = some (.iload_n 2) := rfl
theorem q_70_51 : g_co X 70 51 = some (.ifCond .ne 12) := rfl
theorem q_70_54 : g_co X 70 54 = some (.aload_n 0) := rfl
theorem q_70_55 : g_co X 70 55 = some (.getfield 51) := rfl
theorem q_70_58 : g_co X 70 58 = some (.iload_n 1) := rfl
theorem q_70_59 : g_co X 70 59 = some (.iaload) := rfl
theorem q_70_60 : g_co X 70 60 = some (.goto 37) := rfl
theorem q_70_63 : g_co X 70 63 = some (.iload_n 2) := rfl
theorem q_70_64 : g_co X 70 64 = some (.iconst 1) := rfl
theorem q_70_65 : g_co X 70 65 = some (.if_icmp .ne 12) := rfl
theorem q_70_68 : g_co X 70 68 = some (.aload_n 0) := rfl
theorem q_70_69 : g_co X 70 69 = some (.getfield 54) := rfl
theorem q_70_72 : g_co X 70 72 = some (.iload_n 1) := rfl
theorem q_70_73 : g_co X 70 73 = some (.iaload) := rfl
theorem q_70_74 : g_co X 70 74 = some (.goto 23) := rfl
theorem q_70_77 : g_co X 70 77 = some (.iload_n 2) := rfl
theorem q_70_78 : g_co X 70 78 = some (.iconst 2) := rfl
theorem q_70_79 : g_co X 70 79 = some (.if_icmp .ne 12) := rfl
theorem q_70_82 : g_co X 70 82 = some (.aload_n 0) := rfl
theorem q_70_83 : g_co X 70 83 = some (.getfield 57) := rfl
theorem q_70_86 : g_co X 70 86 = some (.iload_n 1) := rfl
theorem q_70_87 : g_co X 70 87 = some (.iaload) := rfl
theorem q_70_88 : g_co X 70 88 = some (.goto 9) := rfl
theorem q_70_91 : g_co X 70 91 = some (.aload_n 0) := rfl
theorem q_70_92 : g_co X 70 92 = some (.getfield 60) := rfl
theorem q_70_95 : g_co X 70 95 = some (.iload_n 1) := rfl
theorem q_70_96 : g_co X 70 96 = some (.iaload) := rfl
theorem q_70_97 : g_co X 70 97 = some (.ireturn) := rfl
theorem q_71_0 : g_co X 71 0 = some (.aload_n 0) := rfl
theorem q_71_1 : g_co X 71 1 = some (.getfield 63) := rfl
theorem q_71_4 : g_co X 71 4 = some (.iload_n 1) := rfl
theorem q_71_5 : g_co X 71 5 = some (.aaload) := rfl
theorem q_71_6 : g_co X 71 6 = some (.bipush 8) := rfl
theorem q_71_8 : g_co X 71 8 = some (.iaload) := rfl
theorem q_71_9 : g_co X 71 9 = some (.iload_n 2) := rfl
theorem q_71_10 : g_co X 71 10 = some (.ishr) := rfl
theorem q_71_11 : g_co X 71 11 = some (.iconst 1) := rfl
theorem q_71_12 : g_co X 71 12 = some (.iand) := rfl
theorem q_71_13 : g_co X 71 13 = some (.iconst 1) := rfl
theorem q_71_14 : g_co X 71 14 = some (.if_icmp .ne 23) := rfl
theorem q_71_17 : g_co X 71 17 = some (.aload_n 0) := rfl
theorem q_71_18 : g_co X 71 18 = some (.getfield 63) := rfl
theorem q_71_21 : g_co X 71 21 = some (.iload_n 1) := rfl
theorem q_71_22 : g_co X 71 22 = some (.aaload) := rfl
theorem q_71_23 : g_co X 71 23 = some (.bipush 9) := rfl
theorem q_71_25 : g_co X 71 25 = some (.iaload) := rfl
theorem q_71_26 : g_co X 71 26 = some (.iload_n 2) := rfl
theorem q_71_27 : g_co X 71 27 = some (.ishr) := rfl
theorem q_71_28 : g_co X 71 28 = some (.iconst 1) := rfl
theorem q_71_29 : g_co X 71 29 = some (.iand) := rfl
theorem q_71_30 : g_co X 71 30 = some (.ifCond .ne 7) := rfl
theorem q_71_33 : g_co X 71 33 = some (.iconst 1) := rfl
theorem q_71_34 : g_co X 71 34 = some (.goto 4) := rfl
theorem q_71_37 : g_co X 71 37 = some (.iconst 0) := rfl
theorem q_71_38 : g_co X 71 38 = some (.ireturn) := rfl
theorem q_72_0 : g_co X 72 0 = some (.iconst 0) := rfl
theorem q_72_1 : g_co X 72 1 = some (.istore_n 1) := rfl
theorem q_72_2 : g_co X 72 2 = some (.iload_n 1) := rfl
theorem q_72_3 : g_co X 72 3 = some (.aload_n 0) := rfl
theorem q_72_4 : g_co X 72 4 = some (.getfield 341) := rfl
theorem q_72_7 : g_co X 72 7 = some (.if_icmp .ge 257) := rfl
theorem q_72_10 : g_co X 72 10 = some (.iconst 0) := rfl
theorem q_72_11 : g_co X 72 11 = some (.istore_n 2) := rfl
theorem q_72_12 : g_co X 72 12 = some (.iload_n 2) := rfl
theorem q_72_13 : g_co X 72 13 = some (.bipush 40) := rfl
theorem q_72_15 : g_co X 72 15 = some (.if_icmp .ge 18) := rfl
theorem q_72_18 : g_co X 72 18 = some (.aload_n 0) := rfl
theorem q_72_19 : g_co X 72 19 = some (.getfield 68) := rfl
theorem q_72_22 : g_co X 72 22 = some (.iload_n 2) := rfl
theorem q_72_23 : g_co X 72 23 = some (.aaload) := rfl
theorem q_72_24 : g_co X 72 24 = some (.iload_n 1) := rfl
theorem q_72_25 : g_co X 72 25 = some (.iconst 0) := rfl
theorem q_72_26 : g_co X 72 26 = some (.bastore) := rfl
theorem q_72_27 : g_co X 72 27 = some (.iinc 2 1) := rfl
theorem q_72_30 : g_co X 72 30 = some (.goto (-18)) := rfl
theorem q_72_33 : g_co X 72 33 = some (.iconst (-1)) := rfl
theorem q_72_34 : g_co X 72 34 = some (.istore_n 2) := rfl
theorem q_72_35 : g_co X 72 35 = some (.iconst 0) := rfl
theorem q_72_36 : g_co X 72 36 = some (.istore_n 3) := rfl
theorem q_72_37 : g_co X 72 37 = some (.iload_n 3) := rfl
theorem q_72_38 : g_co X 72 38 = some (.iload_n 1) := rfl
theorem q_72_39 : g_co X 72 39 = some (.if_icmp .ge 127) := rfl
theorem q_72_42 : g_co X 72 42 = some (.aload_n 0) := rfl
theorem q_72_43 : g_co X 72 43 = some (.getfield 54) := rfl
theorem q_72_46 : g_co X 72 46 = some (.iload_n 1) := rfl
theorem q_72_47 : g_co X 72 47 = some (.iaload) := rfl
theorem q_72_48 : g_co X 72 48 = some (.iload_n 3) := rfl
theorem q_72_49 : g_co X 72 49 = some (.if_icmp .eq 51) := rfl
theorem q_72_52 : g_co X 72 52 = some (.aload_n 0) := rfl
theorem q_72_53 : g_co X 72 53 = some (.getfield 51) := rfl
theorem q_72_56 : g_co X 72 56 = some (.iload_n 3) := rfl
theorem q_72_57 : g_co X 72 57 = some (.iaload) := rfl
theorem q_72_58 : g_co X 72 58 = some (.bipush 8) := rfl
theorem q_72_60 : g_co X 72 60 = some (.if_icmp .ne 14) := rfl
theorem q_72_63 : g_co X 72 63 = some (.aload_n 0) := rfl
theorem q_72_64 : g_co X 72 64 = some (.getfield 51) := rfl
theorem q_72_67 : g_co X 72 67 = some (.iload_n 1) := rfl
theorem q_72_68 : g_co X 72 68 = some (.iaload) := rfl
theorem q_72_69 : g_co X 72 69 = some (.bipush 8) := rfl
theorem q_72_71 : g_co X 72 71 = some (.if_icmp .eq 29) := rfl
theorem q_72_74 : g_co X 72 74 = some (.aload_n 0) := rfl
theorem q_72_75 : g_co X 72 75 = some (.getfield 51) := rfl
theorem q_72_78 : g_co X 72 78 = some (.iload_n 3) := rfl
theorem q_72_79 : g_co X 72 79 = some (.iaload) := rfl
theorem q_72_80 : g_co X 72 80 = some (.bipush 8) := rfl
theorem q_72_82 : g_co X 72 82 = some (.if_icmp .le 22) := rfl
theorem q_72_85 : g_co X 72 85 = some (.aload_n 0) := rfl
theorem q_72_86 : g_co X 72 86 = some (.getfield 51) := rfl
theorem q_72_89 : g_co X 72 89 = some (.iload_n 3) := rfl
theorem q_72_90 : g_co X 72 90 = some (.iaload) := rfl
theorem q_72_91 : g_co X 72 91 = some (.aload_n 0) := rfl
theorem q_72_92 : g_co X 72 92 = some (.getfield 51) := rfl
theorem q_72_95 : g_co X 72 95 = some (.iload_n 1) := rfl
theorem q_72_96 : g_co X 72 96 = some (.iaload) := rfl
theorem q_72_97 : g_co X 72 97 = some (.if_icmp .ne 7) := rfl
theorem q_72_100 : g_co X 72 100 = some (.iconst 1) := rfl
theorem q_72_101 : g_co X 72 101 = some (.goto 4) := rfl
theorem q_72_104 : g_co X 72 104 = some (.iconst 0) := rfl
theorem q_72_105 : g_co X 72 105 = some (.istore 4) := rfl
theorem q_72_107 : g_co X 72 107 = some (.aload_n 0) := rfl
theorem q_72_108 : g_co X 72 108 = some (.getfield 51) := rfl
theorem q_72_111 : g_co X 72 111 = some (.iload_n 1) := rfl
theorem q_72_112 : g_co X 72 112 = some (.iaload) := rfl
theorem q_72_113 : g_co X 72 113 = some (.bipush 8) := rfl
theorem q_72_115 : g_co X 72 115 = some (.if_icmp .ge 35) := rfl
theorem q_72_118 : g_co X 72 118 = some (.aload_n 0) := rfl
theorem q_72_119 : g_co X 72 119 = some (.iload_n 3) := rfl
theorem q_72_120 : g_co X 72 120 = some (.iconst 1) := rfl
theorem q_72_121 : g_co X 72 121 = some (.iadd) := rfl
theorem q_72_122 : g_co X 72 122 = some (.aload_n 0) := rfl
theorem q_72_123 : g_co X 72 123 = some (.getfield 51) := rfl
theorem q_72_126 : g_co X 72 126 = some (.iload_n 1) := rfl
theorem q_72_127 : g_co X 72 127 = some (.iaload) := rfl
theorem q_72_128 : g_co X 72 128 = some (.invokevirtual 368) := rfl
theorem q_72_131 : g_co X 72 131 = some (.ifCond .eq 19) := rfl
theorem q_72_134 : g_co X 72 134 = some (.aload_n 0) := rfl
theorem q_72_135 : g_co X 72 135 = some (.iload_n 3) := rfl
theorem q_72_136 : g_co X 72 136 = some (.aload_n 0) := rfl
theorem q_72_137 : g_co X 72 137 = some (.getfield 51) := rfl
theorem q_72_140 : g_co X 72 140 = some (.iload_n 1) := rfl
theorem q_72_141 : g_co X 72 141 = some (.iaload) := rfl
theorem q_72_142 : g_co X 72 142 = some (.invokevirtual 368) := rfl
theorem q_72_145 : g_co X 72 145 = some (.ifCond .ne 5) := rfl
theorem q_72_148 : g_co X 72 148 = some (.iload_n 3) := rfl
theorem q_72_149 : g_co X 72 149 = some (.istore_n 2) := rfl
theorem q_72_150 : g_co X 72 150 = some (.aload_n 0) := rfl
theorem q_72_151 : g_co X 72 151 = some (.getfield 68) := rfl
theorem q_72_154 : g_co X 72 154 = some (.iload_n 3) := rfl
theorem q_72_155 : g_co X 72 155 = some (.aaload) := rfl
theorem q_72_156 : g_co X 72 156 = some (.iload_n 1) := rfl
theorem q_72_157 : g_co X 72 157 = some (.iload 4) := rfl
theorem q_72_159 : g_co X 72 159 = some (.bastore) := rfl
theorem q_72_160 : g_co X 72 160 = some (.iinc 3 1) := rfl
theorem q_72_163 : g_co X 72 163 = some (.goto (-126)) := rfl
theorem q_72_166 : g_co X 72 166 = some (.iload_n 2) := rfl
theorem q_72_167 : g_co X 72 167 = some (.iconst (-1)) := rfl
theorem q_72_168 : g_co X 72 168 = some (.if_icmp .eq 12) := rfl
theorem q_72_171 : g_co X 72 171 = some (.aload_n 0) := rfl
theorem q_72_172 : g_co X 72 172 = some (.getfield 68) := rfl
theorem q_72_175 : g_co X 72 175 = some (.iload_n 2) := rfl
theorem q_72_176 : g_co X 72 176 = some (.aaload) := rfl
theorem q_72_177 : g_co X 72 177 = some (.iload_n 1) := rfl
theorem q_72_178 : g_co X 72 178 = some (.iconst 1) := rfl
theorem q_72_179 : g_co X 72 179 = some (.bastore) := rfl
theorem q_72_180 : g_co X 72 180 = some (.iload_n 1) := rfl
theorem q_72_181 : g_co X 72 181 = some (.iconst 1) := rfl
theorem q_72_182 : g_co X 72 182 = some (.isub) := rfl
theorem q_72_183 : g_co X 72 183 = some (.istore_n 3) := rfl
theorem q_72_184 : g_co X 72 184 = some (.iload_n 3) := rfl
theorem q_72_185 : g_co X 72 185 = some (.ifCond .lt 73) := rfl
theorem q_72_188 : g_co X 72 188 = some (.iconst 0) := rfl
theorem q_72_189 : g_co X 72 189 = some (.istore 4) := rfl
theorem q_72_191 : g_co X 72 191 = some (.iload 4) := rfl
theorem q_72_193 : g_co X 72 193 = some (.iload_n 3) := rfl
theorem q_72_194 : g_co X 72 194 = some (.if_icmp .ge 58) := rfl
theorem q_72_197 : g_co X 72 197 = some (.aload_n 0) := rfl
theorem q_72_198 : g_co X 72 198 = some (.getfield 68) := rfl
theorem q_72_201 : g_co X 72 201 = some (.iload 4) := rfl
theorem q_72_203 : g_co X 72 203 = some (.aaload) := rfl
theorem q_72_204 : g_co X 72 204 = some (.iload_n 1) := rfl
theorem q_72_205 : g_co X 72 205 = some (.aload_n 0) := rfl
theorem q_72_206 : g_co X 72 206 = some (.getfield 68) := rfl
theorem q_72_209 : g_co X 72 209 = some (.iload 4) := rfl
theorem q_72_211 : g_co X 72 211 = some (.aaload) := rfl
theorem q_72_212 : g_co X 72 212 = some (.iload_n 1) := rfl
theorem q_72_213 : g_co X 72 213 = some (.baload) := rfl
theorem q_72_214 : g_co X 72 214 = some (.ifCond .ne 26) := rfl
theorem q_72_217 : g_co X 72 217 = some (.aload_n 0) := rfl
theorem q_72_218 : g_co X 72 218 = some (.getfield 68) := rfl
theorem q_72_221 : g_co X 72 221 = some (.iload_n 3) := rfl
theorem q_72_222 : g_co X 72 222 = some (.aaload) := rfl
theorem q_72_223 : g_co X 72 223 = some (.iload_n 1) := rfl
theorem q_72_224 : g_co X 72 224 = some (.baload) := rfl
theorem q_72_225 : g_co X 72 225 = some (.ifCond .eq 19) := rfl
theorem q_72_228 : g_co X 72 228 = some (.aload_n 0) := rfl
theorem q_72_229 : g_co X 72 229 = some (.getfield 68) := rfl
theorem q_72_232 : g_co X 72 232 = some (.iload 4) := rfl
theorem q_72_234 : g_co X 72 234 = some (.aaload) := rfl
theorem q_72_235 : g_co X 72 235 = some (.iload_n 3) := rfl
theorem q_72_236 : g_co X 72 236 = some (.baload) := rfl
theorem q_72_237 : g_co X 72 237 = some (.ifCond .eq 7) := rfl
theorem q_72_240 : g_co X 72 240 = some (.iconst 1) := rfl
theorem q_72_241 : g_co X 72 241 = some (.goto 4) := rfl
theorem q_72_244 : g_co X 72 244 = some (.iconst 0) := rfl
theorem q_72_245 : g_co X 72 245 = some (.bastore) := rfl
theorem q_72_246 : g_co X 72 246 = some (.iinc 4 1) := rfl
theorem q_72_249 : g_co X 72 249 = some (.goto (-58)) := rfl
theorem q_72_252 : g_co X 72 252 = some (.iinc 3 (-1)) := rfl
theorem q_72_255 : g_co X 72 255 = some (.goto (-71)) := rfl
theorem q_72_258 : g_co X 72 258 = some (.iinc 1 1) := rfl
theorem q_72_261 : g_co X 72 261 = some (.goto (-259)) := rfl
theorem q_72_264 : g_co X 72 264 = some (.return_) := rfl
theorem q_73_0 : g_co X 73 0 = some (.aload_n 0) := rfl
theorem q_73_1 : g_co X 73 1 = some (.iconst 0) := rfl
theorem q_73_2 : g_co X 73 2 = some (.putfield 126) := rfl
theorem q_73_5 : g_co X 73 5 = some (.aload_n 0) := rfl
theorem q_73_6 : g_co X 73 6 = some (.aload_n 0) := rfl
theorem q_73_7 : g_co X 73 7 = some (.iload_n 1) := rfl
theorem q_73_8 : g_co X 73 8 = some (.invokevirtual 365) := rfl
theorem q_73_11 : g_co X 73 11 = some (.ifCond .eq 11) := rfl
theorem q_73_14 : g_co X 73 14 = some (.aload_n 0) := rfl
theorem q_73_15 : g_co X 73 15 = some (.iload_n 2) := rfl
theorem q_73_16 : g_co X 73 16 = some (.invokevirtual 365) := rfl
theorem q_73_19 : g_co X 73 19 = some (.ifCond .ne 7) := rfl
theorem q_73_22 : g_co X 73 22 = some (.iconst 1) := rfl
theorem q_73_23 : g_co X 73 23 = some (.goto 4) := rfl
theorem q_73_26 : g_co X 73 26 = some (.iconst 0) := rfl
theorem q_73_27 : g_co X 73 27 = some (.iconst 1) := rfl
theorem q_73_28 : g_co X 73 28 = some (.invokevirtual 306) := rfl
theorem q_73_31 : g_co X 73 31 = some (.ifCond .eq 5) := rfl
theorem q_73_34 : g_co X 73 34 = some (.iconst 0) := rfl
theorem q_73_35 : g_co X 73 35 = some (.ireturn) := rfl
theorem q_73_36 : g_co X 73 36 = some (.aload_n 0) := rfl
theorem q_73_37 : g_co X 73 37 = some (.invokevirtual 371) := rfl
theorem q_73_40 : g_co X 73 40 = some (.iload_n 1) := rfl
theorem q_73_41 : g_co X 73 41 = some (.iload_n 2) := rfl
theorem q_73_42 : g_co X 73 42 = some (.if_icmp .ge 18) := rfl
theorem q_73_45 : g_co X 73 45 = some (.aload_n 0) := rfl
theorem q_73_46 : g_co X 73 46 = some (.getfield 68) := rfl
theorem q_73_49 : g_co X 73 49 = some (.iload_n 1) := rfl
theorem q_73_50 : g_co X 73 50 = some (.aaload) := rfl
theorem q_73_51 : g_co X 73 51 = some (.iload_n 2) := rfl
theorem q_73_52 : g_co X 73 52 = some (.baload) := rfl
theorem q_73_53 : g_co X 73 53 = some (.ifCond .eq 7) := rfl
theorem q_73_56 : g_co X 73 56 = some (.iconst 1) := rfl
theorem q_73_57 : g_co X 73 57 = some (.goto 4) := rfl
theorem q_73_60 : g_co X 73 60 = some (.iconst 0) := rfl
theorem q_73_61 : g_co X 73 61 = some (.ireturn) := rfl
theorem q_74_0 : g_co X 74 0 = some (.iload_n 1) := rfl
theorem q_74_1 : g_co X 74 1 = some (.iload_n 2) := rfl
theorem q_74_2 : g_co X 74 2 = some (.if_icmp .ge 7) := rfl
theorem q_74_5 : g_co X 74 5 = some (.iload_n 1) := rfl
theorem q_74_6 : g_co X 74 6 = some (.goto 4) := rfl
theorem q_74_9 : g_co X 74 9 = some (.iload_n 2) := rfl
theorem q_74_10 : g_co X 74 10 = some (.istore_n 3) := rfl
theorem q_74_11 : g_co X 74 11 = some (.iload_n 1) := rfl
theorem q_74_12 : g_co X 74 12 = some (.iload_n 2) := rfl
theorem q_74_13 : g_co X 74 13 = some (.if_icmp .ge 7) := rfl
theorem q_74_16 : g_co X 74 16 = some (.iload_n 2) := rfl
theorem q_74_17 : g_co X 74 17 = some (.goto 4) := rfl
theorem q_74_20 : g_co X 74 20 = some (.iload_n 1) := rfl
theorem q_74_21 : g_co X 74 21 = some (.istore 4) := rfl
theorem q_74_23 : g_co X 74 23 = some (.iload_n 3) := rfl
theorem q_74_24 : g_co X 74 24 = some (.iload 4) := rfl
theorem q_74_26 : g_co X 74 26 = some (.if_icmp .eq 15) := rfl
theorem q_74_29 : g_co X 74 29 = some (.aload_n 0) := rfl
theorem q_74_30 : g_co X 74 30 = some (.getfield 68) := rfl
theorem q_74_33 : g_co X 74 33 = some (.iload_n 3) := rfl
theorem q_74_34 : g_co X 74 34 = some (.aaload) := rfl
theorem q_74_35 : g_co X 74 35 = some (.iload 4) := rfl
theorem q_74_37 : g_co X 74 37 = some (.baload) := rfl
theorem q_74_38 : g_co X 74 38 = some (.ifCond .eq 5) := rfl
theorem q_74_41 : g_co X 74 41 = some (.iconst 0) := rfl
theorem q_74_42 : g_co X 74 42 = some (.ireturn) := rfl
theorem q_74_43 : g_co X 74 43 = some (.aload_n 0) := rfl
theorem q_74_44 : g_co X 74 44 = some (.getfield 60) := rfl
theorem q_74_47 : g_co X 74 47 = some (.iload_n 3) := rfl
theorem q_74_48 : g_co X 74 48 = some (.iaload) := rfl
theorem q_74_49 : g_co X 74 49 = some (.aload_n 0) := rfl
theorem q_74_50 : g_co X 74 50 = some (.getfield 57) := rfl
theorem q_74_53 : g_co X 74 53 = some (.iload 4) := rfl
theorem q_74_55 : g_co X 74 55 = some (.iaload) := rfl
theorem q_74_56 : g_co X 74 56 = some (.aload_n 0) := rfl
theorem q_74_57 : g_co X 74 57 = some (.getfield 60) := rfl
theorem q_74_60 : g_co X 74 60 = some (.iload 4) := rfl
theorem q_74_62 : g_co X 74 62 = some (.iaload) := rfl
theorem q_74_63 : g_co X 74 63 = some (.ior) := rfl
theorem q_74_64 : g_co X 74 64 = some (.iand) := rfl
theorem q_74_65 : g_co X 74 65 = some (.aload_n 0) := rfl
theorem q_74_66 : g_co X 74 66 = some (.getfield 60) := rfl
theorem q_74_69 : g_co X 74 69 = some (.iload 4) := rfl
theorem q_74_71 : g_co X 74 71 = some (.iaload) := rfl
theorem q_74_72 : g_co X 74 72 = some (.aload_n 0) := rfl
theorem q_74_73 : g_co X 74 73 = some (.getfield 57) := rfl
theorem q_74_76 : g_co X 74 76 = some (.iload_n 3) := rfl
theorem q_74_77 : g_co X 74 77 = some (.iaload) := rfl
theorem q_74_78 : g_co X 74 78 = some (.iand) := rfl
theorem q_74_79 : g_co X 74 79 = some (.ior) := rfl
theorem q_74_80 : g_co X 74 80 = some (.ireturn) := rfl
theorem q_75_0 : g_co X 75 0 = some (.aload_n 0) := rfl
theorem q_75_1 : g_co X 75 1 = some (.invokevirtual 371) := rfl
theorem q_75_4 : g_co X 75 4 = some (.iconst 0) := rfl
theorem q_75_5 : g_co X 75 5 = some (.istore_n 3) := rfl
theorem q_75_6 : g_co X 75 6 = some (.iconst 0) := rfl
theorem q_75_7 : g_co X 75 7 = some (.istore 4) := rfl
theorem q_75_9 : g_co X 75 9 = some (.iload 4) := rfl
theorem q_75_11 : g_co X 75 11 = some (.aload_n 0) := rfl
theorem q_75_12 : g_co X 75 12 = some (.getfield 341) := rfl
theorem q_75_15 : g_co X 75 15 = some (.if_icmp .ge 65) := rfl
theorem q_75_18 : g_co X 75 18 = some (.iload 4) := rfl
theorem q_75_20 : g_co X 75 20 = some (.iconst 1) := rfl
theorem q_75_21 : g_co X 75 21 = some (.iadd) := rfl
theorem q_75_22 : g_co X 75 22 = some (.istore 5) := rfl
theorem q_75_24 : g_co X 75 24 = some (.iload 5) := rfl
theorem q_75_26 : g_co X 75 26 = some (.aload_n 0) := rfl
theorem q_75_27 : g_co X 75 27 = some (.getfield 341) := rfl
theorem q_75_30 : g_co X 75 30 = some (.if_icmp .ge 44) := rfl
theorem q_75_33 : g_co X 75 33 = some (.aload_n 0) := rfl
theorem q_75_34 : g_co X 75 34 = some (.iload 4) := rfl
theorem q_75_36 : g_co X 75 36 = some (.iload 5) := rfl
theorem q_75_38 : g_co X 75 38 = some (.invokevirtual 374) := rfl
theorem q_75_41 : g_co X 75 41 = some (.ifCond .ne 6) := rfl
theorem q_75_44 : g_co X 75 44 = some (.goto 24) := rfl
theorem q_75_47 : g_co X 75 47 = some (.iload_n 2) := rfl
theorem q_75_48 : g_co X 75 48 = some (.ifCond .ne 17) := rfl
theorem q_75_51 : g_co X 75 51 = some (.iload_n 3) := rfl
theorem q_75_52 : g_co X 75 52 = some (.iload_n 1) := rfl
theorem q_75_53 : g_co X 75 53 = some (.if_icmp .ne 12) := rfl
theorem q_75_56 : g_co X 75 56 = some (.bipush 64) := rfl
theorem q_75_58 : g_co X 75 58 = some (.iload 4) := rfl
theorem q_75_60 : g_co X 75 60 = some (.imul) := rfl
theorem q_75_61 : g_co X 75 61 = some (.iload 5) := rfl
theorem q_75_63 : g_co X 75 63 = some (.iadd) := rfl
theorem q_75_64 : g_co X 75 64 = some (.ireturn) := rfl
theorem q_75_65 : g_co X 75 65 = some (.iinc 3 1) := rfl
theorem q_75_68 : g_co X 75 68 = some (.iinc 5 1) := rfl
theorem q_75_71 : g_co X 75 71 = some (.goto (-47)) := rfl
theorem q_75_74 : g_co X 75 74 = some (.iinc 4 1) := rfl
theorem q_75_77 : g_co X 75 77 = some (.goto (-68)) := rfl
theorem q_75_80 : g_co X 75 80 = some (.iload_n 2) := rfl
theorem q_75_81 : g_co X 75 81 = some (.ifCond .eq 7) := rfl
theorem q_75_84 : g_co X 75 84 = some (.iload_n 3) := rfl
theorem q_75_85 : g_co X 75 85 = some (.goto 4) := rfl
theorem q_75_88 : g_co X 75 88 = some (.iconst (-1)) := rfl
theorem q_75_89 : g_co X 75 89 = some (.ireturn) := rfl
theorem q_76_0 : g_co X 76 0 = some (.aload_n 0) := rfl
theorem q_76_1 : g_co X 76 1 = some (.iconst 0) := rfl
theorem q_76_2 : g_co X 76 2 = some (.putfield 126) := rfl
theorem q_76_5 : g_co X 76 5 = some (.aload_n 0) := rfl
theorem q_76_6 : g_co X 76 6 = some (.iconst 0) := rfl
theorem q_76_7 : g_co X 76 7 = some (.iconst 1) := rfl
theorem q_76_8 : g_co X 76 8 = some (.invokevirtual 377) := rfl
theorem q_76_11 : g_co X 76 11 = some (.ireturn) := rfl
theorem q_77_0 : g_co X 77 0 = some (.aload_n 0) := rfl
theorem q_77_1 : g_co X 77 1 = some (.iconst 0) := rfl
theorem q_77_2 : g_co X 77 2 = some (.putfield 126) := rfl
theorem q_77_5 : g_co X 77 5 = some (.aload_n 0) := rfl
theorem q_77_6 : g_co X 77 6 = some (.iload_n 1) := rfl
theorem q_77_7 : g_co X 77 7 = some (.iconst 0) := rfl
theorem q_77_8 : g_co X 77 8 = some (.invokevirtual 377) := rfl
theorem q_77_11 : g_co X 77 11 = some (.ireturn) := rfl
theorem q_78_0 : g_co X 78 0 = some (.aload_n 0) := rfl
theorem q_78_1 : g_co X 78 1 = some (.iconst 0) := rfl
theorem q_78_2 : g_co X 78 2 = some (.putfield 126) := rfl
theorem q_78_5 : g_co X 78 5 = some (.aload_n 0) := rfl
theorem q_78_6 : g_co X 78 6 = some (.aload_n 0) := rfl
theorem q_78_7 : g_co X 78 7 = some (.iload_n 1) := rfl
theorem q_78_8 : g_co X 78 8 = some (.invokevirtual 365) := rfl
theorem q_78_11 : g_co X 78 11 = some (.ifCond .eq 11) := rfl
theorem q_78_14 : g_co X 78 14 = some (.aload_n 0) := rfl
theorem q_78_15 : g_co X 78 15 = some (.iload_n 2) := rfl
theorem q_78_16 : g_co X 78 16 = some (.invokevirtual 365) := rfl
theorem q_78_19 : g_co X 78 19 = some (.ifCond .ne 7) := rfl
theorem q_78_22 : g_co X 78 22 = some (.iconst 1) := rfl
theorem q_78_23 : g_co X 78 23 = some (.goto 4) := rfl
theorem q_78_26 : g_co X 78 26 = some (.iconst 0) := rfl
theorem q_78_27 : g_co X 78 27 = some (.iconst 1) := rfl
theorem q_78_28 : g_co X 78 28 = some (.invokevirtual 306) := rfl
theorem q_78_31 : g_co X 78 31 = some (.ifCond .eq 5) := rfl
theorem q_78_34 : g_co X 78 34 = some (.iconst 0) := rfl
theorem q_78_35 : g_co X 78 35 = some (.ireturn) := rfl
theorem q_78_36 : g_co X 78 36 = some (.aload_n 0) := rfl
theorem q_78_37 : g_co X 78 37 = some (.invokevirtual 371) := rfl
theorem q_78_40 : g_co X 78 40 = some (.aload_n 0) := rfl
theorem q_78_41 : g_co X 78 41 = some (.iload_n 1) := rfl
theorem q_78_42 : g_co X 78 42 = some (.iload_n 2) := rfl
theorem q_78_43 : g_co X 78 43 = some (.invokevirtual 374) := rfl
theorem q_78_46 : g_co X 78 46 = some (.istore_n 3) := rfl
theorem q_78_47 : g_co X 78 47 = some (.iconst 0) := rfl
theorem q_78_48 : g_co X 78 48 = some (.istore 4) := rfl
theorem q_78_50 : g_co X 78 50 = some (.iload 4) := rfl
theorem q_78_52 : g_co X 78 52 = some (.bipush 24) := rfl
theorem q_78_54 : g_co X 78 54 = some (.if_icmp .ge 22) := rfl
theorem q_78_57 : g_co X 78 57 = some (.iload_n 3) := rfl
theorem q_78_58 : g_co X 78 58 = some (.iload 4) := rfl
theorem q_78_60 : g_co X 78 60 = some (.ishr) := rfl
theorem q_78_61 : g_co X 78 61 = some (.iconst 1) := rfl
theorem q_78_62 : g_co X 78 62 = some (.iand) := rfl
theorem q_78_63 : g_co X 78 63 = some (.iconst 1) := rfl
theorem q_78_64 : g_co X 78 64 = some (.if_icmp .ne 6) := rfl
theorem q_78_67 : g_co X 78 67 = some (.iload 4) := rfl
theorem q_78_69 : g_co X 78 69 = some (.ireturn) := rfl
theorem q_78_70 : g_co X 78 70 = some (.iinc 4 1) := rfl
theorem q_78_73 : g_co X 78 73 = some (.goto (-23)) := rfl
theorem q_78_76 : g_co X 78 76 = some (.iconst (-1)) := rfl
theorem q_78_77 : g_co X 78 77 = some (.ireturn) := rfl
theorem q_79_0 : g_co X 79 0 = some (.aload_n 0) := rfl
theorem q_79_1 : g_co X 79 1 = some (.iload_n 1) := rfl
theorem q_79_2 : g_co X 79 2 = some (.invokevirtual 354) := rfl
theorem q_79_5 : g_co X 79 5 = some (.ifCond .ne 5) := rfl
theorem q_79_8 : g_co X 79 8 = some (.iconst 0) := rfl
theorem q_79_9 : g_co X 79 9 = some (.ireturn) := rfl
theorem q_79_10 : g_co X 79 10 = some (.aload_n 0) := rfl
theorem q_79_11 : g_co X 79 11 = some (.iload_n 1) := rfl
theorem q_79_12 : g_co X 79 12 = some (.iconst (-1)) := rfl
theorem q_79_13 : g_co X 79 13 = some (.invokevirtual 357) := rfl
theorem q_79_16 : g_co X 79 16 = some (.pop) := rfl
theorem q_79_17 : g_co X 79 17 = some (.iconst 1) := rfl
theorem q_79_18 : g_co X 79 18 = some (.ireturn) := rfl
theorem q_80_0 : g_co X 80 0 = some (.iconst 0) := rfl
theorem q_80_1 : g_co X 80 1 = some (.istore_n 1) := rfl
theorem q_80_2 : g_co X 80 2 = some (.iload_n 1) := rfl
theorem q_80_3 : g_co X 80 3 = some (.aload_n 0) := rfl
theorem q_80_4 : g_co X 80 4 = some (.getfield 341) := rfl
theorem q_80_7 : g_co X 80 7 = some (.if_icmp .gt 58) := rfl
theorem q_80_10 : g_co X 80 10 = some (.iconst 1) := rfl
theorem q_80_11 : g_co X 80 11 = some (.istore_n 2) := rfl
theorem q_80_12 : g_co X 80 12 = some (.iconst 0) := rfl
theorem q_80_13 : g_co X 80 13 = some (.istore_n 3) := rfl
theorem q_80_14 : g_co X 80 14 = some (.iload_n 3) := rfl
theorem q_80_15 : g_co X 80 15 = some (.bipush 10) := rfl
theorem q_80_17 : g_co X 80 17 = some (.if_icmp .ge 36) := rfl
theorem q_80_20 : g_co X 80 20 = some (.iload_n 2) := rfl
theorem q_80_21 : g_co X 80 21 = some (.ifCond .eq 24) := rfl
theorem q_80_24 : g_co X 80 24 = some (.aload_n 0) := rfl
theorem q_80_25 : g_co X 80 25 = some (.getfield 63) := rfl
theorem q_80_28 : g_co X 80 28 = some (.iload_n 1) := rfl
theorem q_80_29 : g_co X 80 29 = some (.aaload) := rfl
theorem q_80_30 : g_co X 80 30 = some (.iload_n 3) := rfl
theorem q_80_31 : g_co X 80 31 = some (.iaload) := rfl
theorem q_80_32 : g_co X 80 32 = some (.aload_n 0) := rfl
theorem q_80_33 : g_co X 80 33 = some (.getfield 42) := rfl
theorem q_80_36 : g_co X 80 36 = some (.iload_n 3) := rfl
theorem q_80_37 : g_co X 80 37 = some (.iaload) := rfl
theorem q_80_38 : g_co X 80 38 = some (.if_icmp .ne 7) := rfl
theorem q_80_41 : g_co X 80 41 = some (.iconst 1) := rfl
theorem q_80_42 : g_co X 80 42 = some (.goto 4) := rfl
theorem q_80_45 : g_co X 80 45 = some (.iconst 0) := rfl
theorem q_80_46 : g_co X 80 46 = some (.istore_n 2) := rfl
theorem q_80_47 : g_co X 80 47 = some (.iinc 3 1) := rfl
theorem q_80_50 : g_co X 80 50 = some (.goto (-36)) := rfl
theorem q_80_53 : g_co X 80 53 = some (.iload_n 2) := rfl
theorem q_80_54 : g_co X 80 54 = some (.ifCond .eq 5) := rfl
theorem q_80_57 : g_co X 80 57 = some (.iconst 1) := rfl
theorem q_80_58 : g_co X 80 58 = some (.ireturn) := rfl
theorem q_80_59 : g_co X 80 59 = some (.iinc 1 1) := rfl
theorem q_80_62 : g_co X 80 62 = some (.goto (-60)) := rfl
theorem q_80_65 : g_co X 80 65 = some (.iconst 0) := rfl
theorem q_80_66 : g_co X 80 66 = some (.ireturn) := rfl
theorem q_81_0 : g_co X 81 0 = some (.iconst 0) := rfl
theorem q_81_1 : g_co X 81 1 = some (.istore_n 3) := rfl
theorem q_81_2 : g_co X 81 2 = some (.iconst 0) := rfl
theorem q_81_3 : g_co X 81 3 = some (.istore 4) := rfl
theorem q_81_5 : g_co X 81 5 = some (.iload 4) := rfl
theorem q_81_7 : g_co X 81 7 = some (.iload_n 1) := rfl
theorem q_81_8 : g_co X 81 8 = some (.if_icmp .ge 17) := rfl
theorem q_81_11 : g_co X 81 11 = some (.aload_n 0) := rfl
theorem q_81_12 : g_co X 81 12 = some (.iload_n 3) := rfl
theorem q_81_13 : g_co X 81 13 = some (.iload 4) := rfl
theorem q_81_15 : g_co X 81 15 = some (.invokevirtual 381) := rfl
theorem q_81_18 : g_co X 81 18 = some (.istore_n 3) := rfl
theorem q_81_19 : g_co X 81 19 = some (.iinc 4 1) := rfl
theorem q_81_22 : g_co X 81 22 = some (.goto (-17)) := rfl
theorem q_81_25 : g_co X 81 25 = some (.iload_n 1) := rfl
theorem q_81_26 : g_co X 81 26 = some (.iconst 1) := rfl
theorem q_81_27 : g_co X 81 27 = some (.iadd) := rfl
theorem q_81_28 : g_co X 81 28 = some (.istore 4) := rfl
theorem q_81_30 : g_co X 81 30 = some (.iload 4) := rfl
theorem q_81_32 : g_co X 81 32 = some (.iload_n 2) := rfl
theorem q_81_33 : g_co X 81 33 = some (.if_icmp .ge 29) := rfl
theorem q_81_36 : g_co X 81 36 = some (.aload_n 0) := rfl
theorem q_81_37 : g_co X 81 37 = some (.getfield 68) := rfl
theorem q_81_40 : g_co X 81 40 = some (.iload 4) := rfl
theorem q_81_42 : g_co X 81 42 = some (.aaload) := rfl
theorem q_81_43 : g_co X 81 43 = some (.iload_n 2) := rfl
theorem q_81_44 : g_co X 81 44 = some (.baload) := rfl
theorem q_81_45 : g_co X 81 45 = some (.ifCond .eq 11) := rfl
theorem q_81_48 : g_co X 81 48 = some (.aload_n 0) := rfl
theorem q_81_49 : g_co X 81 49 = some (.iload_n 3) := rfl
theorem q_81_50 : g_co X 81 50 = some (.iload 4) := rfl
theorem q_81_52 : g_co X 81 52 = some (.invokevirtual 381) := rfl
theorem q_81_55 : g_co X 81 55 = some (.istore_n 3) := rfl
theorem q_81_56 : g_co X 81 56 = some (.iinc 4 1) := rfl
theorem q_81_59 : g_co X 81 59 = some (.goto (-29)) := rfl
theorem q_81_62 : g_co X 81 62 = some (.iload_n 3) := rfl
theorem q_81_63 : g_co X 81 63 = some (.istore 4) := rfl
theorem q_81_65 : g_co X 81 65 = some (.aload_n 0) := rfl
theorem q_81_66 : g_co X 81 66 = some (.iload_n 3) := rfl
theorem q_81_67 : g_co X 81 67 = some (.iload_n 2) := rfl
theorem q_81_68 : g_co X 81 68 = some (.invokevirtual 381) := rfl
theorem q_81_71 : g_co X 81 71 = some (.istore_n 3) := rfl
theorem q_81_72 : g_co X 81 72 = some (.aload_n 0) := rfl
theorem q_81_73 : g_co X 81 73 = some (.iload_n 3) := rfl
theorem q_81_74 : g_co X 81 74 = some (.iload_n 1) := rfl
theorem q_81_75 : g_co X 81 75 = some (.invokevirtual 381) := rfl
theorem q_81_78 : g_co X 81 78 = some (.istore_n 3) := rfl
theorem q_81_79 : g_co X 81 79 = some (.iload_n 1) := rfl
theorem q_81_80 : g_co X 81 80 = some (.iconst 1) := rfl
theorem q_81_81 : g_co X 81 81 = some (.iadd) := rfl
theorem q_81_82 : g_co X 81 82 = some (.istore 5) := rfl
theorem q_81_84 : g_co X 81 84 = some (.iload 5) := rfl
theorem q_81_86 : g_co X 81 86 = some (.iload_n 2) := rfl
theorem q_81_87 : g_co X 81 87 = some (.if_icmp .ge 29) := rfl
theorem q_81_90 : g_co X 81 90 = some (.aload_n 0) := rfl
theorem q_81_91 : g_co X 81 91 = some (.getfield 68) := rfl
theorem q_81_94 : g_co X 81 94 = some (.iload 5) := rfl
theorem q_81_96 : g_co X 81 96 = some (.aaload) := rfl
theorem q_81_97 : g_co X 81 97 = some (.iload_n 2) := rfl
theorem q_81_98 : g_co X 81 98 = some (.baload) := rfl
theorem q_81_99 : g_co X 81 99 = some (.ifCond .ne 11) := rfl
theorem q_81_102 : g_co X 81 102 = some (.aload_n 0) := rfl
theorem q_81_103 : g_co X 81 103 = some (.iload_n 3) := rfl
theorem q_81_104 : g_co X 81 104 = some (.iload 5) := rfl
theorem q_81_106 : g_co X 81 106 = some (.invokevirtual 381) := rfl
theorem q_81_109 : g_co X 81 109 = some (.istore_n 3) := rfl
theorem q_81_110 : g_co X 81 110 = some (.iinc 5 1) := rfl
theorem q_81_113 : g_co X 81 113 = some (.goto (-29)) := rfl
theorem q_81_116 : g_co X 81 116 = some (.iload_n 2) := rfl
theorem q_81_117 : g_co X 81 117 = some (.iconst 1) := rfl
theorem q_81_118 : g_co X 81 118 = some (.iadd) := rfl
theorem q_81_119 : g_co X 81 119 = some (.istore 5) := rfl
theorem q_81_121 : g_co X 81 121 = some (.iload 5) := rfl
theorem q_81_123 : g_co X 81 123 = some (.aload_n 0) := rfl
theorem q_81_124 : g_co X 81 124 = some (.getfield 341) := rfl
theorem q_81_127 : g_co X 81 127 = some (.if_icmp .ge 17) := rfl
theorem q_81_130 : g_co X 81 130 = some (.aload_n 0) := rfl
theorem q_81_131 : g_co X 81 131 = some (.iload_n 3) := rfl
theorem q_81_132 : g_co X 81 132 = some (.iload 5) := rfl
theorem q_81_134 : g_co X 81 134 = some (.invokevirtual 381) := rfl
theorem q_81_137 : g_co X 81 137 = some (.istore_n 3) := rfl
theorem q_81_138 : g_co X 81 138 = some (.iinc 5 1) := rfl
theorem q_81_141 : g_co X 81 141 = some (.goto (-20)) := rfl
theorem q_81_144 : g_co X 81 144 = some (.aload_n 0) := rfl
theorem q_81_145 : g_co X 81 145 = some (.iconst 0) := rfl
theorem q_81_146 : g_co X 81 146 = some (.putfield 316) := rfl
theorem q_81_149 : g_co X 81 149 = some (.aload_n 0) := rfl
theorem q_81_150 : g_co X 81 150 = some (.invokevirtual 344) := rfl
theorem q_81_153 : g_co X 81 153 = some (.iconst 0) := rfl
theorem q_81_154 : g_co X 81 154 = some (.istore 5) := rfl
theorem q_81_156 : g_co X 81 156 = some (.iconst 0) := rfl
theorem q_81_157 : g_co X 81 157 = some (.istore 6) := rfl
theorem q_81_159 : g_co X 81 159 = some (.iconst 0) := rfl
theorem q_81_160 : g_co X 81 160 = some (.istore 7) := rfl
theorem q_81_162 : g_co X 81 162 = some (.iload 7) := rfl
theorem q_81_164 : g_co X 81 164 = some (.iload_n 3) := rfl
theorem q_81_165 : g_co X 81 165 = some (.if_icmp .ge 52) := rfl
theorem q_81_168 : g_co X 81 168 = some (.aload_n 0) := rfl
theorem q_81_169 : g_co X 81 169 = some (.aload_n 0) := rfl
theorem q_81_170 : g_co X 81 170 = some (.getfield 102) := rfl
theorem q_81_173 : g_co X 81 173 = some (.iload 7) := rfl
theorem q_81_175 : g_co X 81 175 = some (.iaload) := rfl
theorem q_81_176 : g_co X 81 176 = some (.invokevirtual 384) := rfl
theorem q_81_179 : g_co X 81 179 = some (.istore 8) := rfl
theorem q_81_181 : g_co X 81 181 = some (.iload 7) := rfl
theorem q_81_183 : g_co X 81 183 = some (.iload 4) := rfl
theorem q_81_185 : g_co X 81 185 = some (.if_icmp .ne 11) := rfl
theorem q_81_188 : g_co X 81 188 = some (.iload 8) := rfl
theorem q_81_190 : g_co X 81 190 = some (.ifCond .ne 6) := rfl
theorem q_81_193 : g_co X 81 193 = some (.iconst 1) := rfl
theorem q_81_194 : g_co X 81 194 = some (.istore 5) := rfl
theorem q_81_196 : g_co X 81 196 = some (.iload 8) := rfl
theorem q_81_198 : g_co X 81 198 = some (.ifCond .eq 13) := rfl
theorem q_81_201 : g_co X 81 201 = some (.aload_n 0) := rfl
theorem q_81_202 : g_co X 81 202 = some (.invokevirtual 387) := rfl
theorem q_81_205 : g_co X 81 205 = some (.ifCond .ne 6) := rfl
theorem q_81_208 : g_co X 81 208 = some (.iconst 1) := rfl
theorem q_81_209 : g_co X 81 209 = some (.istore 6) := rfl
theorem q_81_211 : g_co X 81 211 = some (.iinc 7 1) := rfl
theorem q_81_214 : g_co X 81 214 = some (.goto (-52)) := rfl
theorem q_81_217 : g_co X 81 217 = some (.iload 5) := rfl
theorem q_81_219 : g_co X 81 219 = some (.ifCond .eq 5) := rfl
theorem q_81_222 : g_co X 81 222 = some (.iconst 0) := rfl
theorem q_81_223 : g_co X 81 223 = some (.ireturn) := rfl
theorem q_81_224 : g_co X 81 224 = some (.aload_n 0) := rfl
theorem q_81_225 : g_co X 81 225 = some (.getfield 42) := rfl
theorem q_81_228 : g_co X 81 228 = some (.bipush 37) := rfl
theorem q_81_230 : g_co X 81 230 = some (.iaload) := rfl
theorem q_81_231 : g_co X 81 231 = some (.iconst 1) := rfl
theorem q_81_232 : g_co X 81 232 = some (.if_icmp .ne 15) := rfl
theorem q_81_235 : g_co X 81 235 = some (.aload_n 0) := rfl
theorem q_81_236 : g_co X 81 236 = some (.getfield 48) := rfl
theorem q_81_239 : g_co X 81 239 = some (.bipush 37) := rfl
theorem q_81_241 : g_co X 81 241 = some (.iaload) := rfl
theorem q_81_242 : g_co X 81 242 = some (.ifCond .ne 5) := rfl
theorem q_81_245 : g_co X 81 245 = some (.iconst 4) := rfl
theorem q_81_246 : g_co X 81 246 = some (.ireturn) := rfl
theorem q_81_247 : g_co X 81 247 = some (.iconst 0) := rfl
theorem q_81_248 : g_co X 81 248 = some (.istore 7) := rfl
theorem q_81_250 : g_co X 81 250 = some (.iload 7) := rfl
theorem q_81_252 : g_co X 81 252 = some (.bipush 38) := rfl
theorem q_81_254 : g_co X 81 254 = some (.if_icmp .ge 28) := rfl
theorem q_81_257 : g_co X 81 257 = some (.aload_n 0) := rfl
theorem q_81_258 : g_co X 81 258 = some (.getfield 42) := rfl
theorem q_81_261 : g_co X 81 261 = some (.iload 7) := rfl
theorem q_81_263 : g_co X 81 263 = some (.iaload) := rfl
theorem q_81_264 : g_co X 81 264 = some (.aload_n 0) := rfl
theorem q_81_265 : g_co X 81 265 = some (.getfield 48) := rfl
theorem q_81_268 : g_co X 81 268 = some (.iload 7) := rfl
theorem q_81_270 : g_co X 81 270 = some (.iaload) := rfl
theorem q_81_271 : g_co X 81 271 = some (.if_icmp .eq 5) := rfl
theorem q_81_274 : g_co X 81 274 = some (.iconst 3) := rfl
theorem q_81_275 : g_co X 81 275 = some (.ireturn) := rfl
theorem q_81_276 : g_co X 81 276 = some (.iinc 7 1) := rfl
theorem q_81_279 : g_co X 81 279 = some (.goto (-29)) := rfl
theorem q_81_282 : g_co X 81 282 = some (.iload 6) := rfl
theorem q_81_284 : g_co X 81 284 = some (.ifCond .eq 7) := rfl
theorem q_81_287 : g_co X 81 287 = some (.iconst 2) := rfl
theorem q_81_288 : g_co X 81 288 = some (.goto 4) := rfl
theorem q_81_291 : g_co X 81 291 = some (.iconst 1) := rfl
theorem q_81_292 : g_co X 81 292 = some (.ireturn) := rfl
theorem q_82_0 : g_co X 82 0 = some (.aload_n 0) := rfl
theorem q_82_1 : g_co X 82 1 = some (.getfield 102) := rfl
theorem q_82_4 : g_co X 82 4 = some (.iload_n 1) := rfl
theorem q_82_5 : g_co X 82 5 = some (.aload_n 0) := rfl
theorem q_82_6 : g_co X 82 6 = some (.getfield 51) := rfl
theorem q_82_9 : g_co X 82 9 = some (.iload_n 2) := rfl
theorem q_82_10 : g_co X 82 10 = some (.iaload) := rfl
theorem q_82_11 : g_co X 82 11 = some (.iastore) := rfl
theorem q_82_12 : g_co X 82 12 = some (.iload_n 1) := rfl
theorem q_82_13 : g_co X 82 13 = some (.iconst 1) := rfl
theorem q_82_14 : g_co X 82 14 = some (.iadd) := rfl
theorem q_82_15 : g_co X 82 15 = some (.ireturn) := rfl
theorem q_83_0 : g_co X 83 0 = some (.aload_n 0) := rfl
theorem q_83_1 : g_co X 83 1 = some (.iconst 0) := rfl
theorem q_83_2 : g_co X 83 2 = some (.putfield 126) := rfl
theorem q_83_5 : g_co X 83 5 = some (.aload_n 0) := rfl
theorem q_83_6 : g_co X 83 6 = some (.aload_n 0) := rfl
theorem q_83_7 : g_co X 83 7 = some (.iload_n 1) := rfl
theorem q_83_8 : g_co X 83 8 = some (.invokevirtual 365) := rfl
theorem q_83_11 : g_co X 83 11 = some (.ifCond .eq 11) := rfl
theorem q_83_14 : g_co X 83 14 = some (.aload_n 0) := rfl
theorem q_83_15 : g_co X 83 15 = some (.iload_n 2) := rfl
theorem q_83_16 : g_co X 83 16 = some (.invokevirtual 365) := rfl
theorem q_83_19 : g_co X 83 19 = some (.ifCond .ne 7) := rfl
theorem q_83_22 : g_co X 83 22 = some (.iconst 1) := rfl
theorem q_83_23 : g_co X 83 23 = some (.goto 4) := rfl
theorem q_83_26 : g_co X 83 26 = some (.iconst 0) := rfl
theorem q_83_27 : g_co X 83 27 = some (.iconst 1) := rfl
theorem q_83_28 : g_co X 83 28 = some (.invokevirtual 306) := rfl
theorem q_83_31 : g_co X 83 31 = some (.ifCond .eq 5) := rfl
theorem q_83_34 : g_co X 83 34 = some (.iconst 0) := rfl
theorem q_83_35 : g_co X 83 35 = some (.ireturn) := rfl
theorem q_83_36 : g_co X 83 36 = some (.aload_n 0) := rfl
theorem q_83_37 : g_co X 83 37 = some (.invokevirtual 371) := rfl
theorem q_83_40 : g_co X 83 40 = some (.aload_n 0) := rfl
theorem q_83_41 : g_co X 83 41 = some (.iload_n 1) := rfl
theorem q_83_42 : g_co X 83 42 = some (.iload_n 2) := rfl
theorem q_83_43 : g_co X 83 43 = some (.invokevirtual 374) := rfl
theorem q_83_46 : g_co X 83 46 = some (.ifCond .ne 5) := rfl
theorem q_83_49 : g_co X 83 49 = some (.iconst (-1)) := rfl
theorem q_83_50 : g_co X 83 50 = some (.ireturn) := rfl
theorem q_83_51 : g_co X 83 51 = some (.iload_n 1) := rfl
theorem q_83_52 : g_co X 83 52 = some (.iload_n 2) := rfl
theorem q_83_53 : g_co X 83 53 = some (.if_icmp .ge 12) := rfl
theorem q_83_56 : g_co X 83 56 = some (.aload_n 0) := rfl
theorem q_83_57 : g_co X 83 57 = some (.iload_n 1) := rfl
theorem q_83_58 : g_co X 83 58 = some (.iload_n 2) := rfl
theorem q_83_59 : g_co X 83 59 = some (.invokevirtual 390) := rfl
theorem q_83_62 : g_co X 83 62 = some (.goto 9) := rfl
theorem q_83_65 : g_co X 83 65 = some (.aload_n 0) := rfl
theorem q_83_66 : g_co X 83 66 = some (.iload_n 2) := rfl
theorem q_83_67 : g_co X 83 67 = some (.iload_n 1) := rfl
theorem q_83_68 : g_co X 83 68 = some (.invokevirtual 390) := rfl
theorem q_83_71 : g_co X 83 71 = some (.ireturn) := rfl
theorem q_84_0 : g_co X 84 0 = some (.aload_n 0) := rfl
theorem q_84_1 : g_co X 84 1 = some (.iconst 0) := rfl
theorem q_84_2 : g_co X 84 2 = some (.putfield 126) := rfl
theorem q_84_5 : g_co X 84 5 = some (.aload_n 0) := rfl
theorem q_84_6 : g_co X 84 6 = some (.iload_n 1) := rfl
theorem q_84_7 : g_co X 84 7 = some (.iconst 0) := rfl
theorem q_84_8 : g_co X 84 8 = some (.iconst 4) := rfl
theorem q_84_9 : g_co X 84 9 = some (.invokestatic 247) := rfl
theorem q_84_12 : g_co X 84 12 = some (.ifCond .ne 7) := rfl
theorem q_84_15 : g_co X 84 15 = some (.iconst 1) := rfl
theorem q_84_16 : g_co X 84 16 = some (.goto 4) := rfl
theorem q_84_19 : g_co X 84 19 = some (.iconst 0) := rfl
theorem q_84_20 : g_co X 84 20 = some (.iconst 1) := rfl
theorem q_84_21 : g_co X 84 21 = some (.invokevirtual 306) := rfl
theorem q_84_24 : g_co X 84 24 = some (.ifCond .eq 5) := rfl
theorem q_84_27 : g_co X 84 27 = some (.iconst 0) := rfl
theorem q_84_28 : g_co X 84 28 = some (.ireturn) := rfl
theorem q_84_29 : g_co X 84 29 = some (.aload_n 0) := rfl
theorem q_84_30 : g_co X 84 30 = some (.invokevirtual 371) := rfl
theorem q_84_33 : g_co X 84 33 = some (.iconst 0) := rfl
theorem q_84_34 : g_co X 84 34 = some (.istore_n 2) := rfl
theorem q_84_35 : g_co X 84 35 = some (.iconst 0) := rfl
theorem q_84_36 : g_co X 84 36 = some (.istore_n 3) := rfl
theorem q_84_37 : g_co X 84 37 = some (.iload_n 3) := rfl
theorem q_84_38 : g_co X 84 38 = some (.aload_n 0) := rfl
theorem q_84_39 : g_co X 84 39 = some (.getfield 341) := rfl
theorem q_84_42 : g_co X 84 42 = some (.if_icmp .ge 53) := rfl
theorem q_84_45 : g_co X 84 45 = some (.iload_n 3) := rfl
theorem q_84_46 : g_co X 84 46 = some (.iconst 1) := rfl
theorem q_84_47 : g_co X 84 47 = some (.iadd) := rfl
theorem q_84_48 : g_co X 84 48 = some (.istore 4) := rfl
theorem q_84_50 : g_co X 84 50 = some (.iload 4) := rfl
theorem q_84_52 : g_co X 84 52 = some (.aload_n 0) := rfl
theorem q_84_53 : g_co X 84 53 = some (.getfield 341) := rfl
theorem q_84_56 : g_co X 84 56 = some (.if_icmp .ge 33) := rfl
theorem q_84_59 : g_co X 84 59 = some (.aload_n 0) := rfl
theorem q_84_60 : g_co X 84 60 = some (.iload_n 3) := rfl
theorem q_84_61 : g_co X 84 61 = some (.iload 4) := rfl
theorem q_84_63 : g_co X 84 63 = some (.invokevirtual 374) := rfl
theorem q_84_66 : g_co X 84 66 = some (.ifCond .eq 17) := rfl
theorem q_84_69 : g_co X 84 69 = some (.aload_n 0) := rfl
theorem q_84_70 : g_co X 84 70 = some (.iload_n 3) := rfl
theorem q_84_71 : g_co X 84 71 = some (.iload 4) := rfl
theorem q_84_73 : g_co X 84 73 = some (.invokevirtual 390) := rfl
theorem q_84_76 : g_co X 84 76 = some (.iload_n 1) := rfl
theorem q_84_77 : g_co X 84 77 = some (.if_icmp .ne 6) := rfl
theorem q_84_80 : g_co X 84 80 = some (.iinc 2 1) := rfl
theorem q_84_83 : g_co X 84 83 = some (.iinc 4 1) := rfl
theorem q_84_86 : g_co X 84 86 = some (.goto (-36)) := rfl
theorem q_84_89 : g_co X 84 89 = some (.iinc 3 1) := rfl
theorem q_84_92 : g_co X 84 92 = some (.goto (-55)) := rfl
theorem q_84_95 : g_co X 84 95 = some (.iload_n 2) := rfl
theorem q_84_96 : g_co X 84 96 = some (.ireturn) := rfl
theorem q_85_0 : g_co X 85 0 = some (.iconst 0) := rfl
theorem q_85_1 : g_co X 85 1 = some (.istore_n 1) := rfl
theorem q_85_2 : g_co X 85 2 = some (.iload_n 1) := rfl
theorem q_85_3 : g_co X 85 3 = some (.aload_n 0) := rfl
theorem q_85_4 : g_co X 85 4 = some (.getfield 393) := rfl
theorem q_85_7 : g_co X 85 7 = some (.if_icmp .ge 58) := rfl
theorem q_85_10 : g_co X 85 10 = some (.iconst 1) := rfl
theorem q_85_11 : g_co X 85 11 = some (.istore_n 2) := rfl
theorem q_85_12 : g_co X 85 12 = some (.iconst 0) := rfl
theorem q_85_13 : g_co X 85 13 = some (.istore_n 3) := rfl
theorem q_85_14 : g_co X 85 14 = some (.iload_n 3) := rfl
theorem q_85_15 : g_co X 85 15 = some (.bipush 38) := rfl
theorem q_85_17 : g_co X 85 17 = some (.if_icmp .ge 36) := rfl
theorem q_85_20 : g_co X 85 20 = some (.iload_n 2) := rfl
theorem q_85_21 : g_co X 85 21 = some (.ifCond .eq 32) := rfl
theorem q_85_24 : g_co X 85 24 = some (.aload_n 0) := rfl
theorem q_85_25 : g_co X 85 25 = some (.getfield 87) := rfl
theorem q_85_28 : g_co X 85 28 = some (.iload_n 1) := rfl
theorem q_85_29 : g_co X 85 29 = some (.aaload) := rfl
theorem q_85_30 : g_co X 85 30 = some (.iload_n 3) := rfl
theorem q_85_31 : g_co X 85 31 = some (.iaload) := rfl
theorem q_85_32 : g_co X 85 32 = some (.aload_n 0) := rfl
theorem q_85_33 : g_co X 85 33 = some (.getfield 42) := rfl
theorem q_85_36 : g_co X 85 36 = some (.iload_n 3) := rfl
theorem q_85_37 : g_co X 85 37 = some (.iaload) := rfl
theorem q_85_38 : g_co X 85 38 = some (.if_icmp .ne 7) := rfl
theorem q_85_41 : g_co X 85 41 = some (.iconst 1) := rfl
theorem q_85_42 : g_co X 85 42 = some (.goto 4) := rfl
theorem q_85_45 : g_co X 85 45 = some (.iconst 0) := rfl
theorem q_85_46 : g_co X 85 46 = some (.istore_n 2) := rfl
theorem q_85_47 : g_co X 85 47 = some (.iinc 3 1) := rfl
theorem q_85_50 : g_co X 85 50 = some (.goto (-36)) := rfl
theorem q_85_53 : g_co X 85 53 = some (.iload_n 2) := rfl
theorem q_85_54 : g_co X 85 54 = some (.ifCond .eq 5) := rfl
theorem q_85_57 : g_co X 85 57 = some (.iload_n 1) := rfl
theorem q_85_58 : g_co X 85 58 = some (.ireturn) := rfl
theorem q_85_59 : g_co X 85 59 = some (.iinc 1 1) := rfl
theorem q_85_62 : g_co X 85 62 = some (.goto (-60)) := rfl
theorem q_85_65 : g_co X 85 65 = some (.iconst (-1)) := rfl
theorem q_85_66 : g_co X 85 66 = some (.ireturn) := rfl
theorem q_86_0 : g_co X 86 0 = some (.aload_n 0) := rfl
theorem q_86_1 : g_co X 86 1 = some (.aload_n 0) := rfl
theorem q_86_2 : g_co X 86 2 = some (.getfield 87) := rfl
theorem q_86_5 : g_co X 86 5 = some (.aload_n 0) := rfl
theorem q_86_6 : g_co X 86 6 = some (.getfield 393) := rfl
theorem q_86_9 : g_co X 86 9 = some (.aaload) := rfl
theorem q_86_10 : g_co X 86 10 = some (.invokevirtual 347) := rfl
theorem q_86_13 : g_co X 86 13 = some (.aload_n 0) := rfl
theorem q_86_14 : g_co X 86 14 = some (.getfield 90) := rfl
theorem q_86_17 : g_co X 86 17 = some (.aload_n 0) := rfl
theorem q_86_18 : g_co X 86 18 = some (.getfield 393) := rfl
theorem q_86_21 : g_co X 86 21 = some (.iload_n 1) := rfl
theorem q_86_22 : g_co X 86 22 = some (.iastore) := rfl
theorem q_86_23 : g_co X 86 23 = some (.aload_n 0) := rfl
theorem q_86_24 : g_co X 86 24 = some (.getfield 93) := rfl
theorem q_86_27 : g_co X 86 27 = some (.aload_n 0) := rfl
theorem q_86_28 : g_co X 86 28 = some (.getfield 393) := rfl
theorem q_86_31 : g_co X 86 31 = some (.iload_n 2) := rfl
theorem q_86_32 : g_co X 86 32 = some (.iastore) := rfl
theorem q_86_33 : g_co X 86 33 = some (.aload_n 0) := rfl
theorem q_86_34 : g_co X 86 34 = some (.getfield 96) := rfl
theorem q_86_37 : g_co X 86 37 = some (.aload_n 0) := rfl
theorem q_86_38 : g_co X 86 38 = some (.getfield 393) := rfl
theorem q_86_41 : g_co X 86 41 = some (.iload_n 1) := rfl
theorem q_86_42 : g_co X 86 42 = some (.iconst (-1)) := rfl
theorem q_86_43 : g_co X 86 43 = some (.if_icmp .ne 7) := rfl
theorem q_86_46 : g_co X 86 46 = some (.iconst 0) := rfl
theorem q_86_47 : g_co X 86 47 = some (.goto 11) := rfl
theorem q_86_50 : g_co X 86 50 = some (.aload_n 0) := rfl
theorem q_86_51 : g_co X 86 51 = some (.getfield 96) := rfl
theorem q_86_54 : g_co X 86 54 = some (.iload_n 1) := rfl
theorem q_86_55 : g_co X 86 55 = some (.iaload) := rfl
theorem q_86_56 : g_co X 86 56 = some (.iconst 1) := rfl
theorem q_86_57 : g_co X 86 57 = some (.iadd) := rfl
theorem q_86_58 : g_co X 86 58 = some (.iastore) := rfl
theorem q_86_59 : g_co X 86 59 = some (.aload_n 0) := rfl
theorem q_86_60 : g_co X 86 60 = some (.dup) := rfl
theorem q_86_61 : g_co X 86 61 = some (.getfield 393) := rfl
theorem q_86_64 : g_co X 86 64 = some (.iconst 1) := rfl
theorem q_86_65 : g_co X 86 65 = some (.iadd) := rfl
theorem q_86_66 : g_co X 86 66 = some (.putfield 393) := rfl
theorem q_86_69 : g_co X 86 69 = some (.return_) := rfl
theorem q_87_0 : g_co X 87 0 = some (.aload_n 0) := rfl
theorem q_87_1 : g_co X 87 1 = some (.iconst 0) := rfl
theorem q_87_2 : g_co X 87 2 = some (.putfield 393) := rfl
theorem q_87_5 : g_co X 87 5 = some (.aload_n 0) := rfl
theorem q_87_6 : g_co X 87 6 = some (.iconst (-1)) := rfl
theorem q_87_7 : g_co X 87 7 = some (.putfield 396) := rfl
theorem q_87_10 : g_co X 87 10 = some (.aload_n 0) := rfl
theorem q_87_11 : g_co X 87 11 = some (.iconst 0) := rfl
theorem q_87_12 : g_co X 87 12 = some (.putfield 399) := rfl
theorem q_87_15 : g_co X 87 15 = some (.aload_n 0) := rfl
theorem q_87_16 : g_co X 87 16 = some (.invokevirtual 344) := rfl
theorem q_87_19 : g_co X 87 19 = some (.aload_n 0) := rfl
theorem q_87_20 : g_co X 87 20 = some (.iconst (-1)) := rfl
theorem q_87_21 : g_co X 87 21 = some (.iconst (-1)) := rfl
theorem q_87_22 : g_co X 87 22 = some (.invokevirtual 402) := rfl
theorem q_87_25 : g_co X 87 25 = some (.iload_n 3) := rfl
theorem q_87_26 : g_co X 87 26 = some (.ifCond .eq 15) := rfl
theorem q_87_29 : g_co X 87 29 = some (.aload_n 0) := rfl
theorem q_87_30 : g_co X 87 30 = some (.invokevirtual 362) := rfl
theorem q_87_33 : g_co X 87 33 = some (.ifCond .eq 8) := rfl
theorem q_87_36 : g_co X 87 36 = some (.aload_n 0) := rfl
theorem q_87_37 : g_co X 87 37 = some (.iconst 0) := rfl
theorem q_87_38 : g_co X 87 38 = some (.putfield 396) := rfl
theorem q_87_41 : g_co X 87 41 = some (.iconst 0) := rfl
theorem q_87_42 : g_co X 87 42 = some (.istore 4) := rfl
theorem q_87_44 : g_co X 87 44 = some (.iload 4) := rfl
theorem q_87_46 : g_co X 87 46 = some (.aload_n 0) := rfl
theorem q_87_47 : g_co X 87 47 = some (.getfield 393) := rfl
theorem q_87_50 : g_co X 87 50 = some (.if_icmp .ge 130) := rfl
theorem q_87_53 : g_co X 87 53 = some (.aload_n 0) := rfl
theorem q_87_54 : g_co X 87 54 = some (.getfield 396) := rfl
theorem q_87_57 : g_co X 87 57 = some (.iconst (-1)) := rfl
theorem q_87_58 : g_co X 87 58 = some (.if_icmp .ne 122) := rfl
theorem q_87_61 : g_co X 87 61 = some (.iconst 0) := rfl
theorem q_87_62 : g_co X 87 62 = some (.istore 5) := rfl
theorem q_87_64 : g_co X 87 64 = some (.iload 5) := rfl
theorem q_87_66 : g_co X 87 66 = some (.bipush 13) := rfl
theorem q_87_68 : g_co X 87 68 = some (.if_icmp .ge 106) := rfl
theorem q_87_71 : g_co X 87 71 = some (.aload_n 0) := rfl
theorem q_87_72 : g_co X 87 72 = some (.getfield 96) := rfl
theorem q_87_75 : g_co X 87 75 = some (.iload 4) := rfl
theorem q_87_77 : g_co X 87 77 = some (.iaload) := rfl
theorem q_87_78 : g_co X 87 78 = some (.iload_n 1) := rfl
theorem q_87_79 : g_co X 87 79 = some (.if_icmp .ge 95) := rfl
theorem q_87_82 : g_co X 87 82 = some (.aload_n 0) := rfl
theorem q_87_83 : g_co X 87 83 = some (.aload_n 0) := rfl
theorem q_87_84 : g_co X 87 84 = some (.getfield 87) := rfl
theorem q_87_87 : g_co X 87 87 = some (.iload 4) := rfl
theorem q_87_89 : g_co X 87 89 = some (.aaload) := rfl
theorem q_87_90 : g_co X 87 90 = some (.invokevirtual 351) := rfl
theorem q_87_93 : g_co X 87 93 = some (.aload_n 0) := rfl
theorem q_87_94 : g_co X 87 94 = some (.iload 5) := rfl
theorem q_87_96 : g_co X 87 96 = some (.invokevirtual 354) := rfl
theorem q_87_99 : g_co X 87 99 = some (.ifCond .ne 6) := rfl
theorem q_87_102 : g_co X 87 102 = some (.goto 66) := rfl
theorem q_87_105 : g_co X 87 105 = some (.aload_n 0) := rfl
theorem q_87_106 : g_co X 87 106 = some (.iload 5) := rfl
theorem q_87_108 : g_co X 87 108 = some (.iconst (-1)) := rfl
theorem q_87_109 : g_co X 87 109 = some (.invokevirtual 357) := rfl
theorem q_87_112 : g_co X 87 112 = some (.pop) := rfl
theorem q_87_113 : g_co X 87 113 = some (.aload_n 0) := rfl
theorem q_87_114 : g_co X 87 114 = some (.invokevirtual 405) := rfl
theorem q_87_117 : g_co X 87 117 = some (.iconst (-1)) := rfl
theorem q_87_118 : g_co X 87 118 = some (.if_icmp .eq 6) := rfl
theorem q_87_121 : g_co X 87 121 = some (.goto 47) := rfl
theorem q_87_124 : g_co X 87 124 = some (.aload_n 0) := rfl
theorem q_87_125 : g_co X 87 125 = some (.getfield 393) := rfl
theorem q_87_128 : g_co X 87 128 = some (.iload_n 2) := rfl
theorem q_87_129 : g_co X 87 129 = some (.if_icmp .ne 9) := rfl
theorem q_87_132 : g_co X 87 132 = some (.aload_n 0) := rfl
theorem q_87_133 : g_co X 87 133 = some (.iconst 1) := rfl
theorem q_87_134 : g_co X 87 134 = some (.putfield 399) := rfl
theorem q_87_137 : g_co X 87 137 = some (.return_) := rfl
theorem q_87_138 : g_co X 87 138 = some (.aload_n 0) := rfl
theorem q_87_139 : g_co X 87 139 = some (.iload 4) := rfl
theorem q_87_141 : g_co X 87 141 = some (.iload 5) := rfl
theorem q_87_143 : g_co X 87 143 = some (.invokevirtual 402) := rfl
theorem q_87_146 : g_co X 87 146 = some (.iload_n 3) := rfl
theorem q_87_147 : g_co X 87 147 = some (.ifCond .eq 21) := rfl
theorem q_87_150 : g_co X 87 150 = some (.aload_n 0) := rfl
theorem q_87_151 : g_co X 87 151 = some (.invokevirtual 362) := rfl
theorem q_87_154 : g_co X 87 154 = some (.ifCond .eq 14) := rfl
theorem q_87_157 : g_co X 87 157 = some (.aload_n 0) := rfl
theorem q_87_158 : g_co X 87 158 = some (.aload_n 0) := rfl
theorem q_87_159 : g_co X 87 159 = some (.getfield 393) := rfl
theorem q_87_162 : g_co X 87 162 = some (.iconst 1) := rfl
theorem q_87_163 : g_co X 87 163 = some (.isub) := rfl
theorem q_87_164 : g_co X 87 164 = some (.putfield 396) := rfl
theorem q_87_167 : g_co X 87 167 = some (.return_) := rfl
theorem q_87_168 : g_co X 87 168 = some (.iinc 5 1) := rfl
theorem q_87_171 : g_co X 87 171 = some (.goto (-107)) := rfl
theorem q_87_174 : g_co X 87 174 = some (.iinc 4 1) := rfl
theorem q_87_177 : g_co X 87 177 = some (.goto (-133)) := rfl
theorem q_87_180 : g_co X 87 180 = some (.return_) := rfl
theorem q_88_0 : g_co X 88 0 = some (.iload_n 1) := rfl
theorem q_88_1 : g_co X 88 1 = some (.iconst 0) := rfl
theorem q_88_2 : g_co X 88 2 = some (.bipush 8) := rfl
theorem q_88_4 : g_co X 88 4 = some (.invokestatic 247) := rfl
theorem q_88_7 : g_co X 88 7 = some (.ifCond .eq 18) := rfl
theorem q_88_10 : g_co X 88 10 = some (.iload_n 2) := rfl
theorem q_88_11 : g_co X 88 11 = some (.iconst 1) := rfl
theorem q_88_12 : g_co X 88 12 = some (.sipush 600) := rfl
theorem q_88_15 : g_co X 88 15 = some (.invokestatic 247) := rfl
theorem q_88_18 : g_co X 88 18 = some (.ifCond .eq 7) := rfl
theorem q_88_21 : g_co X 88 21 = some (.iconst 1) := rfl
theorem q_88_22 : g_co X 88 22 = some (.goto 4) := rfl
theorem q_88_25 : g_co X 88 25 = some (.iconst 0) := rfl
theorem q_88_26 : g_co X 88 26 = some (.ireturn) := rfl
theorem q_89_0 : g_co X 89 0 = some (.aload_n 0) := rfl
theorem q_89_1 : g_co X 89 1 = some (.iconst 0) := rfl
theorem q_89_2 : g_co X 89 2 = some (.putfield 126) := rfl
theorem q_89_5 : g_co X 89 5 = some (.aload_n 0) := rfl
theorem q_89_6 : g_co X 89 6 = some (.aload_n 0) := rfl
theorem q_89_7 : g_co X 89 7 = some (.iload_n 1) := rfl
theorem q_89_8 : g_co X 89 8 = some (.iload_n 2) := rfl
theorem q_89_9 : g_co X 89 9 = some (.invokevirtual 408) := rfl
theorem q_89_12 : g_co X 89 12 = some (.ifCond .ne 7) := rfl
theorem q_89_15 : g_co X 89 15 = some (.iconst 1) := rfl
theorem q_89_16 : g_co X 89 16 = some (.goto 4) := rfl
theorem q_89_19 : g_co X 89 19 = some (.iconst 0) := rfl
theorem q_89_20 : g_co X 89 20 = some (.iconst 1) := rfl
theorem q_89_21 : g_co X 89 21 = some (.invokevirtual 306) := rfl
theorem q_89_24 : g_co X 89 24 = some (.ifCond .eq 5) := rfl
theorem q_89_27 : g_co X 89 27 = some (.iconst 0) := rfl
theorem q_89_28 : g_co X 89 28 = some (.ireturn) := rfl
theorem q_89_29 : g_co X 89 29 = some (.aload_n 0) := rfl
theorem q_89_30 : g_co X 89 30 = some (.iconst 0) := rfl
theorem q_89_31 : g_co X 89 31 = some (.putfield 316) := rfl
theorem q_89_34 : g_co X 89 34 = some (.aload_n 0) := rfl
theorem q_89_35 : g_co X 89 35 = some (.iload_n 1) := rfl
theorem q_89_36 : g_co X 89 36 = some (.iload_n 2) := rfl
theorem q_89_37 : g_co X 89 37 = some (.iconst 1) := rfl
theorem q_89_38 : g_co X 89 38 = some (.invokevirtual 411) := rfl
theorem q_89_41 : g_co X 89 41 = some (.aload_n 0) := rfl
theorem q_89_42 : g_co X 89 42 = some (.getfield 396) := rfl
theorem q_89_45 : g_co X 89 45 = some (.iconst (-1)) := rfl
theorem q_89_46 : g_co X 89 46 = some (.if_icmp .eq 15) := rfl
theorem q_89_49 : g_co X 89 49 = some (.aload_n 0) := rfl
theorem q_89_50 : g_co X 89 50 = some (.getfield 96) := rfl
theorem q_89_53 : g_co X 89 53 = some (.aload_n 0) := rfl
theorem q_89_54 : g_co X 89 54 = some (.getfield 396) := rfl
theorem q_89_57 : g_co X 89 57 = some (.iaload) := rfl
theorem q_89_58 : g_co X 89 58 = some (.goto 16) := rfl
theorem q_89_61 : g_co X 89 61 = some (.aload_n 0) := rfl
theorem q_89_62 : g_co X 89 62 = some (.getfield 399) := rfl
theorem q_89_65 : g_co X 89 65 = some (.ifCond .eq 8) := rfl
theorem q_89_68 : g_co X 89 68 = some (.bipush (-2)) := rfl
theorem q_89_70 : g_co X 89 70 = some (.goto 4) := rfl
theorem q_89_73 : g_co X 89 73 = some (.iconst (-1)) := rfl
theorem q_89_74 : g_co X 89 74 = some (.ireturn) := rfl
theorem q_90_0 : g_co X 90 0 = some (.aload_n 0) := rfl
theorem q_90_1 : g_co X 90 1 = some (.iconst 0) := rfl
theorem q_90_2 : g_co X 90 2 = some (.putfield 126) := rfl
theorem q_90_5 : g_co X 90 5 = some (.aload_n 0) := rfl
theorem q_90_6 : g_co X 90 6 = some (.aload_n 0) := rfl
theorem q_90_7 : g_co X 90 7 = some (.iload_n 1) := rfl
theorem q_90_8 : g_co X 90 8 = some (.iload_n 2) := rfl
theorem q_90_9 : g_co X 90 9 = some (.invokevirtual 408) := rfl
theorem q_90_12 : g_co X 90 12 = some (.ifCond .ne 7) := rfl
theorem q_90_15 : g_co X 90 15 = some (.iconst 1) := rfl
theorem q_90_16 : g_co X 90 16 = some (.goto 4) := rfl
theorem q_90_19 : g_co X 90 19 = some (.iconst 0) := rfl
theorem q_90_20 : g_co X 90 20 = some (.iconst 1) := rfl
theorem q_90_21 : g_co X 90 21 = some (.invokevirtual 306) := rfl
theorem q_90_24 : g_co X 90 24 = some (.ifCond .eq 5) := rfl
theorem q_90_27 : g_co X 90 27 = some (.iconst 0) := rfl
theorem q_90_28 : g_co X 90 28 = some (.ireturn) := rfl
theorem q_90_29 : g_co X 90 29 = some (.aload_n 0) := rfl
theorem q_90_30 : g_co X 90 30 = some (.iconst 0) := rfl
theorem q_90_31 : g_co X 90 31 = some (.putfield 316) := rfl
theorem q_90_34 : g_co X 90 34 = some (.aload_n 0) := rfl
theorem q_90_35 : g_co X 90 35 = some (.iload_n 1) := rfl
theorem q_90_36 : g_co X 90 36 = some (.iload_n 2) := rfl
theorem q_90_37 : g_co X 90 37 = some (.iconst 1) := rfl
theorem q_90_38 : g_co X 90 38 = some (.invokevirtual 411) := rfl
theorem q_90_41 : g_co X 90 41 = some (.aload_n 0) := rfl
theorem q_90_42 : g_co X 90 42 = some (.getfield 396) := rfl
theorem q_90_45 : g_co X 90 45 = some (.iconst (-1)) := rfl
theorem q_90_46 : g_co X 90 46 = some (.if_icmp .eq 22) := rfl
theorem q_90_49 : g_co X 90 49 = some (.iload_n 3) := rfl
theorem q_90_50 : g_co X 90 50 = some (.iconst 0) := rfl
theorem q_90_51 : g_co X 90 51 = some (.aload_n 0) := rfl
theorem q_90_52 : g_co X 90 52 = some (.getfield 96) := rfl
theorem q_90_55 : g_co X 90 55 = some (.aload_n 0) := rfl
theorem q_90_56 : g_co X 90 56 = some (.getfield 396) := rfl
theorem q_90_59 : g_co X 90 59 = some (.iaload) := rfl
theorem q_90_60 : g_co X 90 60 = some (.iconst 1) := rfl
theorem q_90_61 : g_co X 90 61 = some (.isub) := rfl
theorem q_90_62 : g_co X 90 62 = some (.invokestatic 247) := rfl
theorem q_90_65 : g_co X 90 65 = some (.ifCond .ne 5) := rfl
theorem q_90_68 : g_co X 90 68 = some (.iconst (-1)) := rfl
theorem q_90_69 : g_co X 90 69 = some (.ireturn) := rfl
theorem q_90_70 : g_co X 90 70 = some (.aload_n 0) := rfl
theorem q_90_71 : g_co X 90 71 = some (.getfield 396) := rfl
theorem q_90_74 : g_co X 90 74 = some (.istore 4) := rfl
theorem q_90_76 : g_co X 90 76 = some (.aload_n 0) := rfl
theorem q_90_77 : g_co X 90 77 = some (.getfield 96) := rfl
theorem q_90_80 : g_co X 90 80 = some (.iload 4) := rfl
theorem q_90_82 : g_co X 90 82 = some (.iaload) := rfl
theorem q_90_83 : g_co X 90 83 = some (.iload_n 3) := rfl
theorem q_90_84 : g_co X 90 84 = some (.iconst 1) := rfl
theorem q_90_85 : g_co X 90 85 = some (.iadd) := rfl
theorem q_90_86 : g_co X 90 86 = some (.if_icmp .le 15) := rfl
theorem q_90_89 : g_co X 90 89 = some (.aload_n 0) := rfl
theorem q_90_90 : g_co X 90 90 = some (.getfield 90) := rfl
theorem q_90_93 : g_co X 90 93 = some (.iload 4) := rfl
theorem q_90_95 : g_co X 90 95 = some (.iaload) := rfl
theorem q_90_96 : g_co X 90 96 = some (.istore 4) := rfl
theorem q_90_98 : g_co X 90 98 = some (.goto (-22)) := rfl
theorem q_90_101 : g_co X 90 101 = some (.aload_n 0) := rfl
theorem q_90_102 : g_co X 90 102 = some (.getfield 93) := rfl
theorem q_90_105 : g_co X 90 105 = some (.iload 4) := rfl
theorem q_90_107 : g_co X 90 107 = some (.iaload) := rfl
theorem q_90_108 : g_co X 90 108 = some (.ireturn) := rfl
theorem q_91_0 : g_co X 91 0 = some (.aload_n 0) := rfl
theorem q_91_1 : g_co X 91 1 = some (.iconst 0) := rfl
theorem q_91_2 : g_co X 91 2 = some (.putfield 126) := rfl
theorem q_91_5 : g_co X 91 5 = some (.aload_n 0) := rfl
theorem q_91_6 : g_co X 91 6 = some (.aload_n 0) := rfl
theorem q_91_7 : g_co X 91 7 = some (.iload_n 1) := rfl
theorem q_91_8 : g_co X 91 8 = some (.iload_n 2) := rfl
theorem q_91_9 : g_co X 91 9 = some (.invokevirtual 408) := rfl
theorem q_91_12 : g_co X 91 12 = some (.ifCond .ne 7) := rfl
theorem q_91_15 : g_co X 91 15 = some (.iconst 1) := rfl
theorem q_91_16 : g_co X 91 16 = some (.goto 4) := rfl
theorem q_91_19 : g_co X 91 19 = some (.iconst 0) := rfl
theorem q_91_20 : g_co X 91 20 = some (.iconst 1) := rfl
theorem q_91_21 : g_co X 91 21 = some (.invokevirtual 306) := rfl
theorem q_91_24 : g_co X 91 24 = some (.ifCond .eq 5) := rfl
theorem q_91_27 : g_co X 91 27 = some (.iconst 0) := rfl
theorem q_91_28 : g_co X 91 28 = some (.ireturn) := rfl
theorem q_91_29 : g_co X 91 29 = some (.aload_n 0) := rfl
theorem q_91_30 : g_co X 91 30 = some (.iconst 0) := rfl
theorem q_91_31 : g_co X 91 31 = some (.putfield 316) := rfl
theorem q_91_34 : g_co X 91 34 = some (.aload_n 0) := rfl
theorem q_91_35 : g_co X 91 35 = some (.iload_n 1) := rfl
theorem q_91_36 : g_co X 91 36 = some (.iload_n 2) := rfl
theorem q_91_37 : g_co X 91 37 = some (.iconst 0) := rfl
theorem q_91_38 : g_co X 91 38 = some (.invokevirtual 411) := rfl
theorem q_91_41 : g_co X 91 41 = some (.aload_n 0) := rfl
theorem q_91_42 : g_co X 91 42 = some (.getfield 399) := rfl
theorem q_91_45 : g_co X 91 45 = some (.ifCond .eq 8) := rfl
theorem q_91_48 : g_co X 91 48 = some (.bipush (-2)) := rfl
theorem q_91_50 : g_co X 91 50 = some (.goto 7) := rfl
theorem q_91_53 : g_co X 91 53 = some (.aload_n 0) := rfl
theorem q_91_54 : g_co X 91 54 = some (.getfield 393) := rfl
theorem q_91_57 : g_co X 91 57 = some (.ireturn) := rfl
theorem q_92_0 : g_co X 92 0 = some (.aload_n 0) := rfl
theorem q_92_1 : g_co X 92 1 = some (.aload_n 0) := rfl
theorem q_92_2 : g_co X 92 2 = some (.getfield 117) := rfl
theorem q_92_5 : g_co X 92 5 = some (.iload_n 1) := rfl
theorem q_92_6 : g_co X 92 6 = some (.aaload) := rfl
theorem q_92_7 : g_co X 92 7 = some (.invokevirtual 351) := rfl
theorem q_92_10 : g_co X 92 10 = some (.aload_n 0) := rfl
theorem q_92_11 : g_co X 92 11 = some (.aload_n 0) := rfl
theorem q_92_12 : g_co X 92 12 = some (.getfield 36) := rfl
theorem q_92_15 : g_co X 92 15 = some (.aload_n 0) := rfl
theorem q_92_16 : g_co X 92 16 = some (.getfield 316) := rfl
theorem q_92_19 : g_co X 92 19 = some (.iaload) := rfl
theorem q_92_20 : g_co X 92 20 = some (.iconst 1) := rfl
theorem q_92_21 : g_co X 92 21 = some (.invokevirtual 337) := rfl
theorem q_92_24 : g_co X 92 24 = some (.ifCond .eq 5) := rfl
theorem q_92_27 : g_co X 92 27 = some (.iconst 1) := rfl
theorem q_92_28 : g_co X 92 28 = some (.ireturn) := rfl
theorem q_92_29 : g_co X 92 29 = some (.iconst 0) := rfl
theorem q_92_30 : g_co X 92 30 = some (.istore_n 3) := rfl
theorem q_92_31 : g_co X 92 31 = some (.iload_n 3) := rfl
theorem q_92_32 : g_co X 92 32 = some (.bipush 13) := rfl
theorem q_92_34 : g_co X 92 34 = some (.if_icmp .ge 68) := rfl
theorem q_92_37 : g_co X 92 37 = some (.iload_n 2) := rfl
theorem q_92_38 : g_co X 92 38 = some (.ifCond .le 64) := rfl
theorem q_92_41 : g_co X 92 41 = some (.aload_n 0) := rfl
theorem q_92_42 : g_co X 92 42 = some (.aload_n 0) := rfl
theorem q_92_43 : g_co X 92 43 = some (.getfield 117) := rfl
theorem q_92_46 : g_co X 92 46 = some (.iload_n 1) := rfl
theorem q_92_47 : g_co X 92 47 = some (.aaload) := rfl
theorem q_92_48 : g_co X 92 48 = some (.invokevirtual 351) := rfl
theorem q_92_51 : g_co X 92 51 = some (.aload_n 0) := rfl
theorem q_92_52 : g_co X 92 52 = some (.iload_n 3) := rfl
theorem q_92_53 : g_co X 92 53 = some (.invokevirtual 354) := rfl
theorem q_92_56 : g_co X 92 56 = some (.ifCond .ne 6) := rfl
theorem q_92_59 : g_co X 92 59 = some (.goto 37) := rfl
theorem q_92_62 : g_co X 92 62 = some (.aload_n 0) := rfl
theorem q_92_63 : g_co X 92 63 = some (.iload_n 3) := rfl
theorem q_92_64 : g_co X 92 64 = some (.iconst (-1)) := rfl
theorem q_92_65 : g_co X 92 65 = some (.invokevirtual 357) := rfl
theorem q_92_68 : g_co X 92 68 = some (.pop) := rfl
theorem q_92_69 : g_co X 92 69 = some (.aload_n 0) := rfl
theorem q_92_70 : g_co X 92 70 = some (.aload_n 0) := rfl
theorem q_92_71 : g_co X 92 71 = some (.getfield 117) := rfl
theorem q_92_74 : g_co X 92 74 = some (.iload_n 1) := rfl
theorem q_92_75 : g_co X 92 75 = some (.iconst 1) := rfl
theorem q_92_76 : g_co X 92 76 = some (.iadd) := rfl
theorem q_92_77 : g_co X 92 77 = some (.aaload) := rfl
theorem q_92_78 : g_co X 92 78 = some (.invokevirtual 347) := rfl
theorem q_92_81 : g_co X 92 81 = some (.aload_n 0) := rfl
theorem q_92_82 : g_co X 92 82 = some (.iload_n 1) := rfl
theorem q_92_83 : g_co X 92 83 = some (.iconst 1) := rfl
theorem q_92_84 : g_co X 92 84 = some (.iadd) := rfl
theorem q_92_85 : g_co X 92 85 = some (.iload_n 2) := rfl
theorem q_92_86 : g_co X 92 86 = some (.iconst 1) := rfl
theorem q_92_87 : g_co X 92 87 = some (.isub) := rfl
theorem q_92_88 : g_co X 92 88 = some (.invokevirtual 415) := rfl
theorem q_92_91 : g_co X 92 91 = some (.ifCond .eq 5) := rfl
theorem q_92_94 : g_co X 92 94 = some (.iconst 1) := rfl
theorem q_92_95 : g_co X 92 95 = some (.ireturn) := rfl
theorem q_92_96 : g_co X 92 96 = some (.iinc 3 1) := rfl
theorem q_92_99 : g_co X 92 99 = some (.goto (-68)) := rfl
theorem q_92_102 : g_co X 92 102 = some (.iconst 0) := rfl
theorem q_92_103 : g_co X 92 103 = some (.ireturn) := rfl
theorem q_93_0 : g_co X 93 0 = some (.iconst 0) := rfl
theorem q_93_1 : g_co X 93 1 = some (.istore_n 2) := rfl
theorem q_93_2 : g_co X 93 2 = some (.iconst 0) := rfl
theorem q_93_3 : g_co X 93 3 = some (.istore_n 3) := rfl
theorem q_93_4 : g_co X 93 4 = some (.iload_n 3) := rfl
theorem q_93_5 : g_co X 93 5 = some (.aload_n 0) := rfl
theorem q_93_6 : g_co X 93 6 = some (.getfield 393) := rfl
theorem q_93_9 : g_co X 93 9 = some (.if_icmp .ge 60) := rfl
theorem q_93_12 : g_co X 93 12 = some (.iconst 0) := rfl
theorem q_93_13 : g_co X 93 13 = some (.istore 4) := rfl
theorem q_93_15 : g_co X 93 15 = some (.iload 4) := rfl
theorem q_93_17 : g_co X 93 17 = some (.bipush 38) := rfl
theorem q_93_19 : g_co X 93 19 = some (.if_icmp .ge 27) := rfl
theorem q_93_22 : g_co X 93 22 = some (.aload_n 0) := rfl
theorem q_93_23 : g_co X 93 23 = some (.getfield 117) := rfl
theorem q_93_26 : g_co X 93 26 = some (.iconst 0) := rfl
theorem q_93_27 : g_co X 93 27 = some (.aaload) := rfl
theorem q_93_28 : g_co X 93 28 = some (.iload 4) := rfl
theorem q_93_30 : g_co X 93 30 = some (.aload_n 0) := rfl
theorem q_93_31 : g_co X 93 31 = some (.getfield 87) := rfl
theorem q_93_34 : g_co X 93 34 = some (.iload_n 3) := rfl
theorem q_93_35 : g_co X 93 35 = some (.aaload) := rfl
theorem q_93_36 : g_co X 93 36 = some (.iload 4) := rfl
theorem q_93_38 : g_co X 93 38 = some (.iaload) := rfl
theorem q_93_39 : g_co X 93 39 = some (.iastore) := rfl
theorem q_93_40 : g_co X 93 40 = some (.iinc 4 1) := rfl
theorem q_93_43 : g_co X 93 43 = some (.goto (-28)) := rfl
theorem q_93_46 : g_co X 93 46 = some (.iload_n 2) := rfl
theorem q_93_47 : g_co X 93 47 = some (.aload_n 0) := rfl
theorem q_93_48 : g_co X 93 48 = some (.iconst 0) := rfl
theorem q_93_49 : g_co X 93 49 = some (.iload_n 1) := rfl
theorem q_93_50 : g_co X 93 50 = some (.invokevirtual 415) := rfl
theorem q_93_53 : g_co X 93 53 = some (.ifCond .eq 7) := rfl
theorem q_93_56 : g_co X 93 56 = some (.iconst 0) := rfl
theorem q_93_57 : g_co X 93 57 = some (.goto 4) := rfl
theorem q_93_60 : g_co X 93 60 = some (.iconst 1) := rfl
theorem q_93_61 : g_co X 93 61 = some (.iadd) := rfl
theorem q_93_62 : g_co X 93 62 = some (.istore_n 2) := rfl
theorem q_93_63 : g_co X 93 63 = some (.iinc 3 1) := rfl
theorem q_93_66 : g_co X 93 66 = some (.goto (-62)) := rfl
theorem q_93_69 : g_co X 93 69 = some (.iload_n 2) := rfl
theorem q_93_70 : g_co X 93 70 = some (.ireturn) := rfl
theorem q_94_0 : g_co X 94 0 = some (.aload_n 0) := rfl
theorem q_94_1 : g_co X 94 1 = some (.iconst 0) := rfl
theorem q_94_2 : g_co X 94 2 = some (.putfield 126) := rfl
theorem q_94_5 : g_co X 94 5 = some (.aload_n 0) := rfl
theorem q_94_6 : g_co X 94 6 = some (.aload_n 0) := rfl
theorem q_94_7 : g_co X 94 7 = some (.iload_n 1) := rfl
theorem q_94_8 : g_co X 94 8 = some (.iload_n 3) := rfl
theorem q_94_9 : g_co X 94 9 = some (.invokevirtual 408) := rfl
theorem q_94_12 : g_co X 94 12 = some (.ifCond .eq 12) := rfl
theorem q_94_15 : g_co X 94 15 = some (.iload_n 2) := rfl
theorem q_94_16 : g_co X 94 16 = some (.iconst 0) := rfl
theorem q_94_17 : g_co X 94 17 = some (.iconst 3) := rfl
theorem q_94_18 : g_co X 94 18 = some (.invokestatic 247) := rfl
theorem q_94_21 : g_co X 94 21 = some (.ifCond .ne 7) := rfl
theorem q_94_24 : g_co X 94 24 = some (.iconst 1) := rfl
theorem q_94_25 : g_co X 94 25 = some (.goto 4) := rfl
theorem q_94_28 : g_co X 94 28 = some (.iconst 0) := rfl
theorem q_94_29 : g_co X 94 29 = some (.iconst 1) := rfl
theorem q_94_30 : g_co X 94 30 = some (.invokevirtual 306) := rfl
theorem q_94_33 : g_co X 94 33 = some (.ifCond .eq 5) := rfl
theorem q_94_36 : g_co X 94 36 = some (.iconst 0) := rfl
theorem q_94_37 : g_co X 94 37 = some (.ireturn) := rfl
theorem q_94_38 : g_co X 94 38 = some (.aload_n 0) := rfl
theorem q_94_39 : g_co X 94 39 = some (.iconst 0) := rfl
theorem q_94_40 : g_co X 94 40 = some (.putfield 316) := rfl
theorem q_94_43 : g_co X 94 43 = some (.aload_n 0) := rfl
theorem q_94_44 : g_co X 94 44 = some (.iload_n 1) := rfl
theorem q_94_45 : g_co X 94 45 = some (.iload_n 3) := rfl
theorem q_94_46 : g_co X 94 46 = some (.iconst 0) := rfl
theorem q_94_47 : g_co X 94 47 = some (.invokevirtual 411) := rfl
theorem q_94_50 : g_co X 94 50 = some (.aload_n 0) := rfl
theorem q_94_51 : g_co X 94 51 = some (.getfield 399) := rfl
theorem q_94_54 : g_co X 94 54 = some (.ifCond .eq 8) := rfl
theorem q_94_57 : g_co X 94 57 = some (.bipush (-2)) := rfl
theorem q_94_59 : g_co X 94 59 = some (.goto 8) := rfl
theorem q_94_62 : g_co X 94 62 = some (.aload_n 0) := rfl
theorem q_94_63 : g_co X 94 63 = some (.iload_n 2) := rfl
theorem q_94_64 : g_co X 94 64 = some (.invokevirtual 418) := rfl
theorem q_94_67 : g_co X 94 67 = some (.ireturn) := rfl
theorem q_95_0 : g_co X 95 0 = some (.aload_n 0) := rfl
theorem q_95_1 : g_co X 95 1 = some (.iconst 0) := rfl
theorem q_95_2 : g_co X 95 2 = some (.putfield 126) := rfl
theorem q_95_5 : g_co X 95 5 = some (.aload_n 0) := rfl
theorem q_95_6 : g_co X 95 6 = some (.iload_n 1) := rfl
theorem q_95_7 : g_co X 95 7 = some (.iconst 0) := rfl
theorem q_95_8 : g_co X 95 8 = some (.bipush 12) := rfl
theorem q_95_10 : g_co X 95 10 = some (.invokestatic 247) := rfl
theorem q_95_13 : g_co X 95 13 = some (.ifCond .ne 7) := rfl
theorem q_95_16 : g_co X 95 16 = some (.iconst 1) := rfl
theorem q_95_17 : g_co X 95 17 = some (.goto 4) := rfl
theorem q_95_20 : g_co X 95 20 = some (.iconst 0) := rfl
theorem q_95_21 : g_co X 95 21 = some (.iconst 1) := rfl
theorem q_95_22 : g_co X 95 22 = some (.invokevirtual 306) := rfl
theorem q_95_25 : g_co X 95 25 = some (.ifCond .eq 5) := rfl
theorem q_95_28 : g_co X 95 28 = some (.iconst 0) := rfl
theorem q_95_29 : g_co X 95 29 = some (.ireturn) := rfl
theorem q_95_30 : g_co X 95 30 = some (.aload_n 0) := rfl
theorem q_95_31 : g_co X 95 31 = some (.getfield 421) := rfl
theorem q_95_34 : g_co X 95 34 = some (.bipush 40) := rfl
theorem q_95_36 : g_co X 95 36 = some (.if_icmp .ne 5) := rfl
theorem q_95_39 : g_co X 95 39 = some (.iconst (-1)) := rfl
theorem q_95_40 : g_co X 95 40 = some (.ireturn) := rfl
theorem q_95_41 : g_co X 95 41 = some (.aload_n 0) := rfl
theorem q_95_42 : g_co X 95 42 = some (.getfield 99) := rfl
theorem q_95_45 : g_co X 95 45 = some (.aload_n 0) := rfl
theorem q_95_46 : g_co X 95 46 = some (.getfield 421) := rfl
theorem q_95_49 : g_co X 95 49 = some (.iload_n 1) := rfl
theorem q_95_50 : g_co X 95 50 = some (.iastore) := rfl
theorem q_95_51 : g_co X 95 51 = some (.aload_n 0) := rfl
theorem q_95_52 : g_co X 95 52 = some (.dup) := rfl
theorem q_95_53 : g_co X 95 53 = some (.getfield 421) := rfl
theorem q_95_56 : g_co X 95 56 = some (.iconst 1) := rfl
theorem q_95_57 : g_co X 95 57 = some (.iadd) := rfl
theorem q_95_58 : g_co X 95 58 = some (.putfield 421) := rfl
theorem q_95_61 : g_co X 95 61 = some (.aload_n 0) := rfl
theorem q_95_62 : g_co X 95 62 = some (.getfield 421) := rfl
theorem q_95_65 : g_co X 95 65 = some (.ireturn) := rfl
theorem q_96_0 : g_co X 96 0 = some (.aload_n 0) := rfl
theorem q_96_1 : g_co X 96 1 = some (.iconst 0) := rfl
theorem q_96_2 : g_co X 96 2 = some (.putfield 126) := rfl
theorem q_96_5 : g_co X 96 5 = some (.aload_n 0) := rfl
theorem q_96_6 : g_co X 96 6 = some (.getfield 421) := rfl
theorem q_96_9 : g_co X 96 9 = some (.istore_n 1) := rfl
theorem q_96_10 : g_co X 96 10 = some (.aload_n 0) := rfl
theorem q_96_11 : g_co X 96 11 = some (.iconst 0) := rfl
theorem q_96_12 : g_co X 96 12 = some (.putfield 421) := rfl
theorem q_96_15 : g_co X 96 15 = some (.iload_n 1) := rfl
theorem q_96_16 : g_co X 96 16 = some (.ireturn) := rfl
theorem q_97_0 : g_co X 97 0 = some (.aload_n 0) := rfl
theorem q_97_1 : g_co X 97 1 = some (.iconst 0) := rfl
theorem q_97_2 : g_co X 97 2 = some (.putfield 126) := rfl
theorem q_97_5 : g_co X 97 5 = some (.aload_n 0) := rfl
theorem q_97_6 : g_co X 97 6 = some (.iconst 0) := rfl
theorem q_97_7 : g_co X 97 7 = some (.putfield 316) := rfl
theorem q_97_10 : g_co X 97 10 = some (.aload_n 0) := rfl
theorem q_97_11 : g_co X 97 11 = some (.invokevirtual 344) := rfl
theorem q_97_14 : g_co X 97 14 = some (.iconst 0) := rfl
theorem q_97_15 : g_co X 97 15 = some (.istore_n 1) := rfl
theorem q_97_16 : g_co X 97 16 = some (.iload_n 1) := rfl
theorem q_97_17 : g_co X 97 17 = some (.aload_n 0) := rfl
theorem q_97_18 : g_co X 97 18 = some (.getfield 421) := rfl
theorem q_97_21 : g_co X 97 21 = some (.if_icmp .ge 24) := rfl
theorem q_97_24 : g_co X 97 24 = some (.aload_n 0) := rfl
theorem q_97_25 : g_co X 97 25 = some (.aload_n 0) := rfl
theorem q_97_26 : g_co X 97 26 = some (.getfield 99) := rfl
theorem q_97_29 : g_co X 97 29 = some (.iload_n 1) := rfl
theorem q_97_30 : g_co X 97 30 = some (.iaload) := rfl
theorem q_97_31 : g_co X 97 31 = some (.invokevirtual 384) := rfl
theorem q_97_34 : g_co X 97 34 = some (.ifCond .ne 5) := rfl
theorem q_97_37 : g_co X 97 37 = some (.iload_n 1) := rfl
theorem q_97_38 : g_co X 97 38 = some (.ireturn) := rfl
theorem q_97_39 : g_co X 97 39 = some (.iinc 1 1) := rfl
theorem q_97_42 : g_co X 97 42 = some (.goto (-26)) := rfl
theorem q_97_45 : g_co X 97 45 = some (.iconst (-1)) := rfl
theorem q_97_46 : g_co X 97 46 = some (.ireturn) := rfl
theorem q_98_0 : g_co X 98 0 = some (.aload_n 0) := rfl
theorem q_98_1 : g_co X 98 1 = some (.iconst 0) := rfl
theorem q_98_2 : g_co X 98 2 = some (.putfield 316) := rfl
theorem q_98_5 : g_co X 98 5 = some (.aload_n 0) := rfl
theorem q_98_6 : g_co X 98 6 = some (.invokevirtual 344) := rfl
theorem q_98_9 : g_co X 98 9 = some (.iconst 0) := rfl
theorem q_98_10 : g_co X 98 10 = some (.istore_n 2) := rfl
theorem q_98_11 : g_co X 98 11 = some (.iload_n 2) := rfl
theorem q_98_12 : g_co X 98 12 = some (.aload_n 0) := rfl
theorem q_98_13 : g_co X 98 13 = some (.getfield 421) := rfl
theorem q_98_16 : g_co X 98 16 = some (.if_icmp .ge 25) := rfl
theorem q_98_19 : g_co X 98 19 = some (.iload_n 2) := rfl
theorem q_98_20 : g_co X 98 20 = some (.iload_n 1) := rfl
theorem q_98_21 : g_co X 98 21 = some (.if_icmp .eq 14) := rfl
theorem q_98_24 : g_co X 98 24 = some (.aload_n 0) := rfl
theorem q_98_25 : g_co X 98 25 = some (.aload_n 0) := rfl
theorem q_98_26 : g_co X 98 26 = some (.getfield 99) := rfl
theorem q_98_29 : g_co X 98 29 = some (.iload_n 2) := rfl
theorem q_98_30 : g_co X 98 30 = some (.iaload) := rfl
theorem q_98_31 : g_co X 98 31 = some (.invokevirtual 384) := rfl
theorem q_98_34 : g_co X 98 34 = some (.pop) := rfl
theorem q_98_35 : g_co X 98 35 = some (.iinc 2 1) := rfl
theorem q_98_38 : g_co X 98 38 = some (.goto (-27)) := rfl
theorem q_98_41 : g_co X 98 41 = some (.aload_n 0) := rfl
theorem q_98_42 : g_co X 98 42 = some (.invokevirtual 362) := rfl
theorem q_98_45 : g_co X 98 45 = some (.ireturn) := rfl
theorem q_99_0 : g_co X 99 0 = some (.aload_n 0) := rfl
theorem q_99_1 : g_co X 99 1 = some (.iconst 0) := rfl
theorem q_99_2 : g_co X 99 2 = some (.putfield 126) := rfl
theorem q_99_5 : g_co X 99 5 = some (.aload_n 0) := rfl
theorem q_99_6 : g_co X 99 6 = some (.iconst (-1)) := rfl
theorem q_99_7 : g_co X 99 7 = some (.invokevirtual 424) := rfl
theorem q_99_10 : g_co X 99 10 = some (.ifCond .ne 5) := rfl
theorem q_99_13 : g_co X 99 13 = some (.iconst (-1)) := rfl
theorem q_99_14 : g_co X 99 14 = some (.ireturn) := rfl
theorem q_99_15 : g_co X 99 15 = some (.iconst 1) := rfl
theorem q_99_16 : g_co X 99 16 = some (.istore_n 1) := rfl
theorem q_99_17 : g_co X 99 17 = some (.iload_n 1) := rfl
theorem q_99_18 : g_co X 99 18 = some (.ifCond .eq 79) := rfl
theorem q_99_21 : g_co X 99 21 = some (.iconst 0) := rfl
theorem q_99_22 : g_co X 99 22 = some (.istore_n 1) := rfl
theorem q_99_23 : g_co X 99 23 = some (.iconst 0) := rfl
theorem q_99_24 : g_co X 99 24 = some (.istore_n 2) := rfl
theorem q_99_25 : g_co X 99 25 = some (.iload_n 2) := rfl
theorem q_99_26 : g_co X 99 26 = some (.aload_n 0) := rfl
theorem q_99_27 : g_co X 99 27 = some (.getfield 421) := rfl
theorem q_99_30 : g_co X 99 30 = some (.if_icmp .ge 64) := rfl
theorem q_99_33 : g_co X 99 33 = some (.aload_n 0) := rfl
theorem q_99_34 : g_co X 99 34 = some (.iload_n 2) := rfl
theorem q_99_35 : g_co X 99 35 = some (.invokevirtual 424) := rfl
theorem q_99_38 : g_co X 99 38 = some (.ifCond .ne 9) := rfl
theorem q_99_41 : g_co X 99 41 = some (.iinc 2 1) := rfl
theorem q_99_44 : g_co X 99 44 = some (.goto (-19)) := rfl
theorem q_99_47 : g_co X 99 47 = some (.iload_n 2) := rfl
theorem q_99_48 : g_co X 99 48 = some (.iconst 1) := rfl
theorem q_99_49 : g_co X 99 49 = some (.iadd) := rfl
theorem q_99_50 : g_co X 99 50 = some (.istore_n 3) := rfl
theorem q_99_51 : g_co X 99 51 = some (.iload_n 3) := rfl
theorem q_99_52 : g_co X 99 52 = some (.aload_n 0) := rfl
theorem q_99_53 : g_co X 99 53 = some (.getfield 421) := rfl
theorem q_99_56 : g_co X 99 56 = some (.if_icmp .ge 23) := rfl
theorem q_99_59 : g_co X 99 59 = some (.aload_n 0) := rfl
theorem q_99_60 : g_co X 99 60 = some (.getfield 99) := rfl
theorem q_99_63 : g_co X 99 63 = some (.iload_n 3) := rfl
theorem q_99_64 : g_co X 99 64 = some (.iconst 1) := rfl
theorem q_99_65 : g_co X 99 65 = some (.isub) := rfl
theorem q_99_66 : g_co X 99 66 = some (.aload_n 0) := rfl
theorem q_99_67 : g_co X 99 67 = some (.getfield 99) := rfl
theorem q_99_70 : g_co X 99 70 = some (.iload_n 3) := rfl
theorem q_99_71 : g_co X 99 71 = some (.iaload) := rfl
theorem q_99_72 : g_co X 99 72 = some (.iastore) := rfl
theorem q_99_73 : g_co X 99 73 = some (.iinc 3 1) := rfl
theorem q_99_76 : g_co X 99 76 = some (.goto (-25)) := rfl
theorem q_99_79 : g_co X 99 79 = some (.aload_n 0) := rfl
theorem q_99_80 : g_co X 99 80 = some (.dup) := rfl
theorem q_99_81 : g_co X 99 81 = some (.getfield 421) := rfl
theorem q_99_84 : g_co X 99 84 = some (.iconst 1) := rfl
theorem q_99_85 : g_co X 99 85 = some (.isub) := rfl
theorem q_99_86 : g_co X 99 86 = some (.putfield 421) := rfl
theorem q_99_89 : g_co X 99 89 = some (.iconst 1) := rfl
theorem q_99_90 : g_co X 99 90 = some (.istore_n 1) := rfl
theorem q_99_91 : g_co X 99 91 = some (.goto (-66)) := rfl
theorem q_99_94 : g_co X 99 94 = some (.goto (-77)) := rfl
theorem q_99_97 : g_co X 99 97 = some (.aload_n 0) := rfl
theorem q_99_98 : g_co X 99 98 = some (.getfield 421) := rfl
theorem q_99_101 : g_co X 99 101 = some (.ireturn) := rfl
theorem q_100_0 : g_co X 100 0 = some (.aload_n 0) := rfl
theorem q_100_1 : g_co X 100 1 = some (.iconst 0) := rfl
theorem q_100_2 : g_co X 100 2 = some (.putfield 126) := rfl
theorem q_100_5 : g_co X 100 5 = some (.iload_n 1) := rfl
theorem q_100_6 : g_co X 100 6 = some (.iconst 0) := rfl
theorem q_100_7 : g_co X 100 7 = some (.aload_n 0) := rfl
theorem q_100_8 : g_co X 100 8 = some (.getfield 421) := rfl
theorem q_100_11 : g_co X 100 11 = some (.iconst 1) := rfl
theorem q_100_12 : g_co X 100 12 = some (.isub) := rfl
theorem q_100_13 : g_co X 100 13 = some (.invokestatic 247) := rfl
theorem q_100_16 : g_co X 100 16 = some (.ifCond .eq 12) := rfl
theorem q_100_19 : g_co X 100 19 = some (.aload_n 0) := rfl
theorem q_100_20 : g_co X 100 20 = some (.getfield 99) := rfl
theorem q_100_23 : g_co X 100 23 = some (.iload_n 1) := rfl
theorem q_100_24 : g_co X 100 24 = some (.iaload) := rfl
theorem q_100_25 : g_co X 100 25 = some (.goto 4) := rfl
theorem q_100_28 : g_co X 100 28 = some (.iconst (-1)) := rfl
theorem q_100_29 : g_co X 100 29 = some (.ireturn) := rfl
theorem q_101_0 : g_co X 101 0 = some (.aload_n 0) := rfl
theorem q_101_1 : g_co X 101 1 = some (.iconst 0) := rfl
theorem q_101_2 : g_co X 101 2 = some (.putfield 126) := rfl
theorem q_101_5 : g_co X 101 5 = some (.aload_n 0) := rfl
theorem q_101_6 : g_co X 101 6 = some (.iload_n 1) := rfl
theorem q_101_7 : g_co X 101 7 = some (.iconst 0) := rfl
theorem q_101_8 : g_co X 101 8 = some (.iconst 2) := rfl
theorem q_101_9 : g_co X 101 9 = some (.invokestatic 247) := rfl
theorem q_101_12 : g_co X 101 12 = some (.ifCond .eq 37) := rfl
theorem q_101_15 : g_co X 101 15 = some (.iload_n 1) := rfl
theorem q_101_16 : g_co X 101 16 = some (.ifCond .ne 13) := rfl
theorem q_101_19 : g_co X 101 19 = some (.iload_n 2) := rfl
theorem q_101_20 : g_co X 101 20 = some (.iconst 0) := rfl
theorem q_101_21 : g_co X 101 21 = some (.bipush 7) := rfl
theorem q_101_23 : g_co X 101 23 = some (.invokestatic 247) := rfl
theorem q_101_26 : g_co X 101 26 = some (.ifCond .eq 23) := rfl
theorem q_101_29 : g_co X 101 29 = some (.iload_n 3) := rfl
theorem q_101_30 : g_co X 101 30 = some (.iconst 0) := rfl
theorem q_101_31 : g_co X 101 31 = some (.iconst 3) := rfl
theorem q_101_32 : g_co X 101 32 = some (.invokestatic 247) := rfl
theorem q_101_35 : g_co X 101 35 = some (.ifCond .eq 14) := rfl
theorem q_101_38 : g_co X 101 38 = some (.iload 4) := rfl
theorem q_101_40 : g_co X 101 40 = some (.iconst 0) := rfl
theorem q_101_41 : g_co X 101 41 = some (.bipush 100) := rfl
theorem q_101_43 : g_co X 101 43 = some (.invokestatic 247) := rfl
theorem q_101_46 : g_co X 101 46 = some (.ifCond .ne 7) := rfl
theorem q_101_49 : g_co X 101 49 = some (.iconst 1) := rfl
theorem q_101_50 : g_co X 101 50 = some (.goto 4) := rfl
theorem q_101_53 : g_co X 101 53 = some (.iconst 0) := rfl
theorem q_101_54 : g_co X 101 54 = some (.iconst 1) := rfl
theorem q_101_55 : g_co X 101 55 = some (.invokevirtual 306) := rfl
theorem q_101_58 : g_co X 101 58 = some (.ifCond .eq 5) := rfl
theorem q_101_61 : g_co X 101 61 = some (.iconst 0) := rfl
theorem q_101_62 : g_co X 101 62 = some (.ireturn) := rfl
theorem q_101_63 : g_co X 101 63 = some (.aload_n 0) := rfl
theorem q_101_64 : g_co X 101 64 = some (.getfield 284) := rfl
theorem q_101_67 : g_co X 101 67 = some (.bipush 6) := rfl
theorem q_101_69 : g_co X 101 69 = some (.if_icmp .ne 5) := rfl
theorem q_101_72 : g_co X 101 72 = some (.iconst (-1)) := rfl
theorem q_101_73 : g_co X 101 73 = some (.ireturn) := rfl
theorem q_101_74 : g_co X 101 74 = some (.aload_n 0) := rfl
theorem q_101_75 : g_co X 101 75 = some (.getfield 71) := rfl
theorem q_101_78 : g_co X 101 78 = some (.aload_n 0) := rfl
theorem q_101_79 : g_co X 101 79 = some (.getfield 284) := rfl
theorem q_101_82 : g_co X 101 82 = some (.iload_n 1) := rfl
theorem q_101_83 : g_co X 101 83 = some (.iastore) := rfl
theorem q_101_84 : g_co X 101 84 = some (.aload_n 0) := rfl
theorem q_101_85 : g_co X 101 85 = some (.getfield 74) := rfl
theorem q_101_88 : g_co X 101 88 = some (.aload_n 0) := rfl
theorem q_101_89 : g_co X 101 89 = some (.getfield 284) := rfl
theorem q_101_92 : g_co X 101 92 = some (.iload_n 2) := rfl
theorem q_101_93 : g_co X 101 93 = some (.iastore) := rfl
theorem q_101_94 : g_co X 101 94 = some (.aload_n 0) := rfl
theorem q_101_95 : g_co X 101 95 = some (.getfield 77) := rfl
theorem q_101_98 : g_co X 101 98 = some (.aload_n 0) := rfl
theorem q_101_99 : g_co X 101 99 = some (.getfield 284) := rfl
theorem q_101_102 : g_co X 101 102 = some (.iload_n 3) := rfl
theorem q_101_103 : g_co X 101 103 = some (.iastore) := rfl
theorem q_101_104 : g_co X 101 104 = some (.aload_n 0) := rfl
theorem q_101_105 : g_co X 101 105 = some (.getfield 80) := rfl
theorem q_101_108 : g_co X 101 108 = some (.aload_n 0) := rfl
theorem q_101_109 : g_co X 101 109 = some (.getfield 284) := rfl
theorem q_101_112 : g_co X 101 112 = some (.iload 4) := rfl
theorem q_101_114 : g_co X 101 114 = some (.iastore) := rfl
theorem q_101_115 : g_co X 101 115 = some (.aload_n 0) := rfl
theorem q_101_116 : g_co X 101 116 = some (.getfield 83) := rfl
theorem q_101_119 : g_co X 101 119 = some (.aload_n 0) := rfl
theorem q_101_120 : g_co X 101 120 = some (.getfield 284) := rfl
theorem q_101_123 : g_co X 101 123 = some (.iconst 0) := rfl
theorem q_101_124 : g_co X 101 124 = some (.bastore) := rfl
theorem q_101_125 : g_co X 101 125 = some (.aload_n 0) := rfl
theorem q_101_126 : g_co X 101 126 = some (.dup) := rfl
theorem q_101_127 : g_co X 101 127 = some (.getfield 284) := rfl
theorem q_101_130 : g_co X 101 130 = some (.iconst 1) := rfl
theorem q_101_131 : g_co X 101 131 = some (.iadd) := rfl
theorem q_101_132 : g_co X 101 132 = some (.putfield 284) := rfl
theorem q_101_135 : g_co X 101 135 = some (.aload_n 0) := rfl
theorem q_101_136 : g_co X 101 136 = some (.getfield 284) := rfl
theorem q_101_139 : g_co X 101 139 = some (.iconst 1) := rfl
theorem q_101_140 : g_co X 101 140 = some (.isub) := rfl
theorem q_101_141 : g_co X 101 141 = some (.ireturn) := rfl
theorem q_102_0 : g_co X 102 0 = some (.aload_n 0) := rfl
theorem q_102_1 : g_co X 102 1 = some (.iconst 0) := rfl
theorem q_102_2 : g_co X 102 2 = some (.putfield 126) := rfl
theorem q_102_5 : g_co X 102 5 = some (.aload_n 0) := rfl
theorem q_102_6 : g_co X 102 6 = some (.iload_n 1) := rfl
theorem q_102_7 : g_co X 102 7 = some (.iconst 0) := rfl
theorem q_102_8 : g_co X 102 8 = some (.aload_n 0) := rfl
theorem q_102_9 : g_co X 102 9 = some (.getfield 284) := rfl
theorem q_102_12 : g_co X 102 12 = some (.iconst 1) := rfl
theorem q_102_13 : g_co X 102 13 = some (.isub) := rfl
theorem q_102_14 : g_co X 102 14 = some (.invokestatic 247) := rfl
theorem q_102_17 : g_co X 102 17 = some (.ifCond .ne 7) := rfl
theorem q_102_20 : g_co X 102 20 = some (.iconst 1) := rfl
theorem q_102_21 : g_co X 102 21 = some (.goto 4) := rfl
theorem q_102_24 : g_co X 102 24 = some (.iconst 0) := rfl
theorem q_102_25 : g_co X 102 25 = some (.iconst 1) := rfl
theorem q_102_26 : g_co X 102 26 = some (.invokevirtual 306) := rfl
theorem q_102_29 : g_co X 102 29 = some (.ifCond .eq 5) := rfl
theorem q_102_32 : g_co X 102 32 = some (.iconst 0) := rfl
theorem q_102_33 : g_co X 102 33 = some (.ireturn) := rfl
theorem q_102_34 : g_co X 102 34 = some (.aload_n 0) := rfl
theorem q_102_35 : g_co X 102 35 = some (.getfield 83) := rfl
theorem q_102_38 : g_co X 102 38 = some (.iload_n 1) := rfl
theorem q_102_39 : g_co X 102 39 = some (.baload) := rfl
theorem q_102_40 : g_co X 102 40 = some (.istore_n 3) := rfl
theorem q_102_41 : g_co X 102 41 = some (.aload_n 0) := rfl
theorem q_102_42 : g_co X 102 42 = some (.getfield 83) := rfl
theorem q_102_45 : g_co X 102 45 = some (.iload_n 1) := rfl
theorem q_102_46 : g_co X 102 46 = some (.iload_n 2) := rfl
theorem q_102_47 : g_co X 102 47 = some (.bastore) := rfl
theorem q_102_48 : g_co X 102 48 = some (.iload_n 3) := rfl
theorem q_102_49 : g_co X 102 49 = some (.ireturn) := rfl
theorem q_103_0 : g_co X 103 0 = some (.iconst 0) := rfl
theorem q_103_1 : g_co X 103 1 = some (.istore_n 2) := rfl
theorem q_103_2 : g_co X 103 2 = some (.iload_n 2) := rfl
theorem q_103_3 : g_co X 103 3 = some (.aload_n 0) := rfl
theorem q_103_4 : g_co X 103 4 = some (.getfield 284) := rfl
theorem q_103_7 : g_co X 103 7 = some (.if_icmp .ge 29) := rfl
theorem q_103_10 : g_co X 103 10 = some (.aload_n 0) := rfl
theorem q_103_11 : g_co X 103 11 = some (.getfield 83) := rfl
theorem q_103_14 : g_co X 103 14 = some (.iload_n 2) := rfl
theorem q_103_15 : g_co X 103 15 = some (.iload_n 1) := rfl
theorem q_103_16 : g_co X 103 16 = some (.iload_n 2) := rfl
theorem q_103_17 : g_co X 103 17 = some (.ishr) := rfl
theorem q_103_18 : g_co X 103 18 = some (.iconst 1) := rfl
theorem q_103_19 : g_co X 103 19 = some (.iand) := rfl
theorem q_103_20 : g_co X 103 20 = some (.iconst 1) := rfl
theorem q_103_21 : g_co X 103 21 = some (.if_icmp .ne 7) := rfl
theorem q_103_24 : g_co X 103 24 = some (.iconst 1) := rfl
theorem q_103_25 : g_co X 103 25 = some (.goto 4) := rfl
theorem q_103_28 : g_co X 103 28 = some (.iconst 0) := rfl
theorem q_103_29 : g_co X 103 29 = some (.bastore) := rfl
theorem q_103_30 : g_co X 103 30 = some (.iinc 2 1) := rfl
theorem q_103_33 : g_co X 103 33 = some (.goto (-31)) := rfl
theorem q_103_36 : g_co X 103 36 = some (.return_) := rfl
theorem q_104_0 : g_co X 104 0 = some (.aload_n 0) := rfl
theorem q_104_1 : g_co X 104 1 = some (.iload_n 1) := rfl
theorem q_104_2 : g_co X 104 2 = some (.iload_n 3) := rfl
theorem q_104_3 : g_co X 104 3 = some (.iconst 0) := rfl
theorem q_104_4 : g_co X 104 4 = some (.invokevirtual 411) := rfl
theorem q_104_7 : g_co X 104 7 = some (.aload_n 0) := rfl
theorem q_104_8 : g_co X 104 8 = some (.getfield 399) := rfl
theorem q_104_11 : g_co X 104 11 = some (.ifCond .eq 5) := rfl
theorem q_104_14 : g_co X 104 14 = some (.iconst 0) := rfl
theorem q_104_15 : g_co X 104 15 = some (.ireturn) := rfl
theorem q_104_16 : g_co X 104 16 = some (.iconst 0) := rfl
theorem q_104_17 : g_co X 104 17 = some (.istore 4) := rfl
theorem q_104_19 : g_co X 104 19 = some (.iload 4) := rfl
theorem q_104_21 : g_co X 104 21 = some (.aload_n 0) := rfl
theorem q_104_22 : g_co X 104 22 = some (.getfield 393) := rfl
theorem q_104_25 : g_co X 104 25 = some (.if_icmp .ge 29) := rfl
theorem q_104_28 : g_co X 104 28 = some (.aload_n 0) := rfl
theorem q_104_29 : g_co X 104 29 = some (.aload_n 0) := rfl
theorem q_104_30 : g_co X 104 30 = some (.getfield 87) := rfl
theorem q_104_33 : g_co X 104 33 = some (.iload 4) := rfl
theorem q_104_35 : g_co X 104 35 = some (.aaload) := rfl
theorem q_104_36 : g_co X 104 36 = some (.invokevirtual 351) := rfl
theorem q_104_39 : g_co X 104 39 = some (.aload_n 0) := rfl
theorem q_104_40 : g_co X 104 40 = some (.invokevirtual 362) := rfl
theorem q_104_43 : g_co X 104 43 = some (.ifCond .eq 5) := rfl
theorem q_104_46 : g_co X 104 46 = some (.iconst 0) := rfl
theorem q_104_47 : g_co X 104 47 = some (.ireturn) := rfl
theorem q_104_48 : g_co X 104 48 = some (.iinc 4 1) := rfl
theorem q_104_51 : g_co X 104 51 = some (.goto (-32)) := rfl
theorem q_104_54 : g_co X 104 54 = some (.aload_n 0) := rfl
theorem q_104_55 : g_co X 104 55 = some (.iload_n 2) := rfl
theorem q_104_56 : g_co X 104 56 = some (.invokevirtual 418) := rfl
theorem q_104_59 : g_co X 104 59 = some (.ifCond .ne 7) := rfl
theorem q_104_62 : g_co X 104 62 = some (.iconst 1) := rfl
theorem q_104_63 : g_co X 104 63 = some (.goto 4) := rfl
theorem q_104_66 : g_co X 104 66 = some (.iconst 0) := rfl
theorem q_104_67 : g_co X 104 67 = some (.ireturn) := rfl
theorem q_105_0 : g_co X 105 0 = some (.iconst 0) := rfl
theorem q_105_1 : g_co X 105 1 = some (.istore_n 2) := rfl
theorem q_105_2 : g_co X 105 2 = some (.iconst 0) := rfl
theorem q_105_3 : g_co X 105 3 = some (.istore_n 3) := rfl
theorem q_105_4 : g_co X 105 4 = some (.iload_n 3) := rfl
theorem q_105_5 : g_co X 105 5 = some (.aload_n 0) := rfl
theorem q_105_6 : g_co X 105 6 = some (.getfield 284) := rfl
theorem q_105_9 : g_co X 105 9 = some (.if_icmp .ge 31) := rfl
theorem q_105_12 : g_co X 105 12 = some (.iload_n 2) := rfl
theorem q_105_13 : g_co X 105 13 = some (.iload_n 1) := rfl
theorem q_105_14 : g_co X 105 14 = some (.iload_n 3) := rfl
theorem q_105_15 : g_co X 105 15 = some (.ishr) := rfl
theorem q_105_16 : g_co X 105 16 = some (.iconst 1) := rfl
theorem q_105_17 : g_co X 105 17 = some (.iand) := rfl
theorem q_105_18 : g_co X 105 18 = some (.iconst 1) := rfl
theorem q_105_19 : g_co X 105 19 = some (.if_icmp .ne 12) := rfl
theorem q_105_22 : g_co X 105 22 = some (.aload_n 0) := rfl
theorem q_105_23 : g_co X 105 23 = some (.getfield 80) := rfl
theorem q_105_26 : g_co X 105 26 = some (.iload_n 3) := rfl
theorem q_105_27 : g_co X 105 27 = some (.iaload) := rfl
theorem q_105_28 : g_co X 105 28 = some (.goto 4) := rfl
theorem q_105_31 : g_co X 105 31 = some (.iconst 0) := rfl
theorem q_105_32 : g_co X 105 32 = some (.iadd) := rfl
theorem q_105_33 : g_co X 105 33 = some (.istore_n 2) := rfl
theorem q_105_34 : g_co X 105 34 = some (.iinc 3 1) := rfl
theorem q_105_37 : g_co X 105 37 = some (.goto (-33)) := rfl
theorem q_105_40 : g_co X 105 40 = some (.iload_n 2) := rfl
theorem q_105_41 : g_co X 105 41 = some (.ireturn) := rfl
theorem q_106_0 : g_co X 106 0 = some (.iconst 0) := rfl
theorem q_106_1 : g_co X 106 1 = some (.istore_n 1) := rfl
theorem q_106_2 : g_co X 106 2 = some (.iconst 0) := rfl
theorem q_106_3 : g_co X 106 3 = some (.istore_n 2) := rfl
theorem q_106_4 : g_co X 106 4 = some (.iload_n 2) := rfl
theorem q_106_5 : g_co X 106 5 = some (.bipush 6) := rfl
theorem q_106_7 : g_co X 106 7 = some (.if_icmp .ge 17) := rfl
theorem q_106_10 : g_co X 106 10 = some (.iload_n 1) := rfl
theorem q_106_11 : g_co X 106 11 = some (.iload_n 0) := rfl
theorem q_106_12 : g_co X 106 12 = some (.iload_n 2) := rfl
theorem q_106_13 : g_co X 106 13 = some (.ishr) := rfl
theorem q_106_14 : g_co X 106 14 = some (.iconst 1) := rfl
theorem q_106_15 : g_co X 106 15 = some (.iand) := rfl
theorem q_106_16 : g_co X 106 16 = some (.iadd) := rfl
theorem q_106_17 : g_co X 106 17 = some (.istore_n 1) := rfl
theorem q_106_18 : g_co X 106 18 = some (.iinc 2 1) := rfl
theorem q_106_21 : g_co X 106 21 = some (.goto (-17)) := rfl
theorem q_106_24 : g_co X 106 24 = some (.iload_n 1) := rfl
theorem q_106_25 : g_co X 106 25 = some (.ireturn) := rfl
theorem q_107_0 : g_co X 107 0 = some (.aload_n 0) := rfl
theorem q_107_1 : g_co X 107 1 = some (.iload_n 1) := rfl
theorem q_107_2 : g_co X 107 2 = some (.invokevirtual 427) := rfl
theorem q_107_5 : g_co X 107 5 = some (.aload_n 0) := rfl
theorem q_107_6 : g_co X 107 6 = some (.iload_n 2) := rfl
theorem q_107_7 : g_co X 107 7 = some (.invokevirtual 427) := rfl
theorem q_107_10 : g_co X 107 10 = some (.if_icmp .eq 22) := rfl
theorem q_107_13 : g_co X 107 13 = some (.aload_n 0) := rfl
theorem q_107_14 : g_co X 107 14 = some (.iload_n 1) := rfl
theorem q_107_15 : g_co X 107 15 = some (.invokevirtual 427) := rfl
theorem q_107_18 : g_co X 107 18 = some (.aload_n 0) := rfl
theorem q_107_19 : g_co X 107 19 = some (.iload_n 2) := rfl
theorem q_107_20 : g_co X 107 20 = some (.invokevirtual 427) := rfl
theorem q_107_23 : g_co X 107 23 = some (.if_icmp .ge 7) := rfl
theorem q_107_26 : g_co X 107 26 = some (.iconst 1) := rfl
theorem q_107_27 : g_co X 107 27 = some (.goto 4) := rfl
theorem q_107_30 : g_co X 107 30 = some (.iconst 0) := rfl
theorem q_107_31 : g_co X 107 31 = some (.ireturn) := rfl
theorem q_107_32 : g_co X 107 32 = some (.iload_n 1) := rfl
theorem q_107_33 : g_co X 107 33 = some (.invokestatic 430) := rfl
theorem q_107_36 : g_co X 107 36 = some (.iload_n 2) := rfl
theorem q_107_37 : g_co X 107 37 = some (.invokestatic 430) := rfl
theorem q_107_40 : g_co X 107 40 = some (.if_icmp .eq 20) := rfl
theorem q_107_43 : g_co X 107 43 = some (.iload_n 1) := rfl
theorem q_107_44 : g_co X 107 44 = some (.invokestatic 430) := rfl
theorem q_107_47 : g_co X 107 47 = some (.iload_n 2) := rfl
theorem q_107_48 : g_co X 107 48 = some (.invokestatic 430) := rfl
theorem q_107_51 : g_co X 107 51 = some (.if_icmp .ge 7) := rfl
theorem q_107_54 : g_co X 107 54 = some (.iconst 1) := rfl
theorem q_107_55 : g_co X 107 55 = some (.goto 4) := rfl
theorem q_107_58 : g_co X 107 58 = some (.iconst 0) := rfl
theorem q_107_59 : g_co X 107 59 = some (.ireturn) := rfl
theorem q_107_60 : g_co X 107 60 = some (.iconst 0) := rfl
theorem q_107_61 : g_co X 107 61 = some (.istore_n 3) := rfl
theorem q_107_62 : g_co X 107 62 = some (.iload_n 3) := rfl
theorem q_107_63 : g_co X 107 63 = some (.bipush 6) := rfl
theorem q_107_65 : g_co X 107 65 = some (.if_icmp .ge 22) := rfl
theorem q_107_68 : g_co X 107 68 = some (.iload_n 1) := rfl
theorem q_107_69 : g_co X 107 69 = some (.iload_n 3) := rfl
theorem q_107_70 : g_co X 107 70 = some (.ishr) := rfl
theorem q_107_71 : g_co X 107 71 = some (.iconst 1) := rfl
theorem q_107_72 : g_co X 107 72 = some (.iand) := rfl
theorem q_107_73 : g_co X 107 73 = some (.iload_n 2) := rfl
theorem q_107_74 : g_co X 107 74 = some (.iload_n 3) := rfl
theorem q_107_75 : g_co X 107 75 = some (.ishr) := rfl
theorem q_107_76 : g_co X 107 76 = some (.iconst 1) := rfl
theorem q_107_77 : g_co X 107 77 = some (.iand) := rfl
theorem q_107_78 : g_co X 107 78 = some (.if_icmp .ne 9) := rfl
theorem q_107_81 : g_co X 107 81 = some (.iinc 3 1) := rfl
theorem q_107_84 : g_co X 107 84 = some (.goto (-22)) := rfl
theorem q_107_87 : g_co X 107 87 = some (.iload_n 3) := rfl
theorem q_107_88 : g_co X 107 88 = some (.bipush 6) := rfl
theorem q_107_90 : g_co X 107 90 = some (.if_icmp .ge 16) := rfl
theorem q_107_93 : g_co X 107 93 = some (.iload_n 1) := rfl
theorem q_107_94 : g_co X 107 94 = some (.iload_n 3) := rfl
theorem q_107_95 : g_co X 107 95 = some (.ishr) := rfl
theorem q_107_96 : g_co X 107 96 = some (.iconst 1) := rfl
theorem q_107_97 : g_co X 107 97 = some (.iand) := rfl
theorem q_107_98 : g_co X 107 98 = some (.iconst 1) := rfl
theorem q_107_99 : g_co X 107 99 = some (.if_icmp .ne 7) := rfl
theorem q_107_102 : g_co X 107 102 = some (.iconst 1) := rfl
theorem q_107_103 : g_co X 107 103 = some (.goto 4) := rfl
theorem q_107_106 : g_co X 107 106 = some (.iconst 0) := rfl
theorem q_107_107 : g_co X 107 107 = some (.ireturn) := rfl
theorem q_108_0 : g_co X 108 0 = some (.aload_n 0) := rfl
theorem q_108_1 : g_co X 108 1 = some (.iconst 0) := rfl
theorem q_108_2 : g_co X 108 2 = some (.putfield 126) := rfl
theorem q_108_5 : g_co X 108 5 = some (.aload_n 0) := rfl
theorem q_108_6 : g_co X 108 6 = some (.aload_n 0) := rfl
theorem q_108_7 : g_co X 108 7 = some (.iload_n 1) := rfl
theorem q_108_8 : g_co X 108 8 = some (.iload_n 3) := rfl
theorem q_108_9 : g_co X 108 9 = some (.invokevirtual 408) := rfl
theorem q_108_12 : g_co X 108 12 = some (.ifCond .eq 22) := rfl
theorem q_108_15 : g_co X 108 15 = some (.iload_n 2) := rfl
theorem q_108_16 : g_co X 108 16 = some (.iconst 0) := rfl
theorem q_108_17 : g_co X 108 17 = some (.iconst 3) := rfl
theorem q_108_18 : g_co X 108 18 = some (.invokestatic 247) := rfl
theorem q_108_21 : g_co X 108 21 = some (.ifCond .eq 13) := rfl
theorem q_108_24 : g_co X 108 24 = some (.iload 4) := rfl
theorem q_108_26 : g_co X 108 26 = some (.iconst 0) := rfl
theorem q_108_27 : g_co X 108 27 = some (.iconst 1) := rfl
theorem q_108_28 : g_co X 108 28 = some (.invokestatic 247) := rfl
theorem q_108_31 : g_co X 108 31 = some (.ifCond .ne 7) := rfl
theorem q_108_34 : g_co X 108 34 = some (.iconst 1) := rfl
theorem q_108_35 : g_co X 108 35 = some (.goto 4) := rfl
theorem q_108_38 : g_co X 108 38 = some (.iconst 0) := rfl
theorem q_108_39 : g_co X 108 39 = some (.iconst 1) := rfl
theorem q_108_40 : g_co X 108 40 = some (.invokevirtual 306) := rfl
theorem q_108_43 : g_co X 108 43 = some (.ifCond .eq 5) := rfl
theorem q_108_46 : g_co X 108 46 = some (.iconst 0) := rfl
theorem q_108_47 : g_co X 108 47 = some (.ireturn) := rfl
theorem q_108_48 : g_co X 108 48 = some (.iconst 0) := rfl
theorem q_108_49 : g_co X 108 49 = some (.istore 5) := rfl
theorem q_108_51 : g_co X 108 51 = some (.iconst (-1)) := rfl
theorem q_108_52 : g_co X 108 52 = some (.istore 6) := rfl
theorem q_108_54 : g_co X 108 54 = some (.iconst 0) := rfl
theorem q_108_55 : g_co X 108 55 = some (.istore 7) := rfl
theorem q_108_57 : g_co X 108 57 = some (.iload 7) := rfl
theorem q_108_59 : g_co X 108 59 = some (.aload_n 0) := rfl
theorem q_108_60 : g_co X 108 60 = some (.getfield 284) := rfl
theorem q_108_63 : g_co X 108 63 = some (.if_icmp .ge 32) := rfl
theorem q_108_66 : g_co X 108 66 = some (.iload 5) := rfl
theorem q_108_68 : g_co X 108 68 = some (.aload_n 0) := rfl
theorem q_108_69 : g_co X 108 69 = some (.getfield 83) := rfl
theorem q_108_72 : g_co X 108 72 = some (.iload 7) := rfl
theorem q_108_74 : g_co X 108 74 = some (.baload) := rfl
theorem q_108_75 : g_co X 108 75 = some (.ifCond .eq 10) := rfl
theorem q_108_78 : g_co X 108 78 = some (.iconst 1) := rfl
theorem q_108_79 : g_co X 108 79 = some (.iload 7) := rfl
theorem q_108_81 : g_co X 108 81 = some (.ishl) := rfl
theorem q_108_82 : g_co X 108 82 = some (.goto 4) := rfl
theorem q_108_85 : g_co X 108 85 = some (.iconst 0) := rfl
theorem q_108_86 : g_co X 108 86 = some (.ior) := rfl
theorem q_108_87 : g_co X 108 87 = some (.istore 5) := rfl
theorem q_108_89 : g_co X 108 89 = some (.iinc 7 1) := rfl
theorem q_108_92 : g_co X 108 92 = some (.goto (-35)) := rfl
theorem q_108_95 : g_co X 108 95 = some (.aload_n 0) := rfl
theorem q_108_96 : g_co X 108 96 = some (.iconst 0) := rfl
theorem q_108_97 : g_co X 108 97 = some (.putfield 316) := rfl
theorem q_108_100 : g_co X 108 100 = some (.iconst 0) := rfl
theorem q_108_101 : g_co X 108 101 = some (.istore 7) := rfl
theorem q_108_103 : g_co X 108 103 = some (.iload 7) := rfl
theorem q_108_105 : g_co X 108 105 = some (.iconst 1) := rfl
theorem q_108_106 : g_co X 108 106 = some (.aload_n 0) := rfl
theorem q_108_107 : g_co X 108 107 = some (.getfield 284) := rfl
theorem q_108_110 : g_co X 108 110 = some (.ishl) := rfl
theorem q_108_111 : g_co X 108 111 = some (.if_icmp .ge 54) := rfl
theorem q_108_114 : g_co X 108 114 = some (.iload 6) := rfl
theorem q_108_116 : g_co X 108 116 = some (.iconst (-1)) := rfl
theorem q_108_117 : g_co X 108 117 = some (.if_icmp .eq 17) := rfl
theorem q_108_120 : g_co X 108 120 = some (.aload_n 0) := rfl
theorem q_108_121 : g_co X 108 121 = some (.iload 7) := rfl
theorem q_108_123 : g_co X 108 123 = some (.iload 6) := rfl
theorem q_108_125 : g_co X 108 125 = some (.invokevirtual 433) := rfl
theorem q_108_128 : g_co X 108 128 = some (.ifCond .ne 6) := rfl
theorem q_108_131 : g_co X 108 131 = some (.goto 28) := rfl
theorem q_108_134 : g_co X 108 134 = some (.aload_n 0) := rfl
theorem q_108_135 : g_co X 108 135 = some (.iload 7) := rfl
theorem q_108_137 : g_co X 108 137 = some (.invokevirtual 436) := rfl
theorem q_108_140 : g_co X 108 140 = some (.aload_n 0) := rfl
theorem q_108_141 : g_co X 108 141 = some (.iload_n 1) := rfl
theorem q_108_142 : g_co X 108 142 = some (.iload_n 2) := rfl
theorem q_108_143 : g_co X 108 143 = some (.iload_n 3) := rfl
theorem q_108_144 : g_co X 108 144 = some (.invokevirtual 439) := rfl
theorem q_108_147 : g_co X 108 147 = some (.ifCond .eq 8) := rfl
theorem q_108_150 : g_co X 108 150 = some (.iload 7) := rfl
theorem q_108_152 : g_co X 108 152 = some (.goto 5) := rfl
theorem q_108_155 : g_co X 108 155 = some (.iload 6) := rfl
theorem q_108_157 : g_co X 108 157 = some (.istore 6) := rfl
theorem q_108_159 : g_co X 108 159 = some (.iinc 7 1) := rfl
theorem q_108_162 : g_co X 108 162 = some (.goto (-59)) := rfl
theorem q_108_165 : g_co X 108 165 = some (.aload_n 0) := rfl
theorem q_108_166 : g_co X 108 166 = some (.iload 5) := rfl
theorem q_108_168 : g_co X 108 168 = some (.invokevirtual 436) := rfl
theorem q_108_171 : g_co X 108 171 = some (.iload 6) := rfl
theorem q_108_173 : g_co X 108 173 = some (.iconst (-1)) := rfl
theorem q_108_174 : g_co X 108 174 = some (.if_icmp .eq 8) := rfl
theorem q_108_177 : g_co X 108 177 = some (.iload 4) := rfl
theorem q_108_179 : g_co X 108 179 = some (.ifCond .ne 8) := rfl
theorem q_108_182 : g_co X 108 182 = some (.iload 6) := rfl
theorem q_108_184 : g_co X 108 184 = some (.goto 9) := rfl
theorem q_108_187 : g_co X 108 187 = some (.aload_n 0) := rfl
theorem q_108_188 : g_co X 108 188 = some (.iload 6) := rfl
theorem q_108_190 : g_co X 108 190 = some (.invokevirtual 427) := rfl
theorem q_108_193 : g_co X 108 193 = some (.ireturn) := rfl
theorem q_109_0 : g_co X 109 0 = some (.aload_n 0) := rfl
theorem q_109_1 : g_co X 109 1 = some (.iconst 0) := rfl
theorem q_109_2 : g_co X 109 2 = some (.putfield 316) := rfl
theorem q_109_5 : g_co X 109 5 = some (.aload_n 0) := rfl
theorem q_109_6 : g_co X 109 6 = some (.iconst 0) := rfl
theorem q_109_7 : g_co X 109 7 = some (.putfield 294) := rfl
theorem q_109_10 : g_co X 109 10 = some (.iconst 0) := rfl
theorem q_109_11 : g_co X 109 11 = some (.istore_n 1) := rfl
theorem q_109_12 : g_co X 109 12 = some (.iload_n 1) := rfl
theorem q_109_13 : g_co X 109 13 = some (.iconst 4) := rfl
theorem q_109_14 : g_co X 109 14 = some (.if_icmp .ge 44) := rfl
theorem q_109_17 : g_co X 109 17 = some (.aload_n 0) := rfl
theorem q_109_18 : g_co X 109 18 = some (.getfield 108) := rfl
theorem q_109_21 : g_co X 109 21 = some (.iload_n 1) := rfl
theorem q_109_22 : g_co X 109 22 = some (.iconst (-1)) := rfl
theorem q_109_23 : g_co X 109 23 = some (.iastore) := rfl
theorem q_109_24 : g_co X 109 24 = some (.aload_n 0) := rfl
theorem q_109_25 : g_co X 109 25 = some (.getfield 111) := rfl
theorem q_109_28 : g_co X 109 28 = some (.iconst 0) := rfl
theorem q_109_29 : g_co X 109 29 = some (.aaload) := rfl
theorem q_109_30 : g_co X 109 30 = some (.iload_n 1) := rfl
theorem q_109_31 : g_co X 109 31 = some (.iconst 0) := rfl
theorem q_109_32 : g_co X 109 32 = some (.bastore) := rfl
theorem q_109_33 : g_co X 109 33 = some (.aload_n 0) := rfl
theorem q_109_34 : g_co X 109 34 = some (.getfield 111) := rfl
theorem q_109_37 : g_co X 109 37 = some (.iconst 1) := rfl
theorem q_109_38 : g_co X 109 38 = some (.aaload) := rfl
theorem q_109_39 : g_co X 109 39 = some (.iload_n 1) := rfl
theorem q_109_40 : g_co X 109 40 = some (.iconst 0) := rfl
theorem q_109_41 : g_co X 109 41 = some (.bastore) := rfl
theorem q_109_42 : g_co X 109 42 = some (.aload_n 0) := rfl
theorem q_109_43 : g_co X 109 43 = some (.getfield 42) := rfl
theorem q_109_46 : g_co X 109 46 = some (.bipush 33) := rfl
theorem q_109_48 : g_co X 109 48 = some (.iload_n 1) := rfl
theorem q_109_49 : g_co X 109 49 = some (.iadd) := rfl
theorem q_109_50 : g_co X 109 50 = some (.iconst 0) := rfl
theorem q_109_51 : g_co X 109 51 = some (.iastore) := rfl
theorem q_109_52 : g_co X 109 52 = some (.iinc 1 1) := rfl
theorem q_109_55 : g_co X 109 55 = some (.goto (-43)) := rfl
theorem q_109_58 : g_co X 109 58 = some (.aload_n 0) := rfl
theorem q_109_59 : g_co X 109 59 = some (.iconst 0) := rfl
theorem q_109_60 : g_co X 109 60 = some (.putfield 45) := rfl
theorem q_109_63 : g_co X 109 63 = some (.aload_n 0) := rfl
theorem q_109_64 : g_co X 109 64 = some (.invokevirtual 325) := rfl
theorem q_109_67 : g_co X 109 67 = some (.aload_n 0) := rfl
theorem q_109_68 : g_co X 109 68 = some (.aload_n 0) := rfl
theorem q_109_69 : g_co X 109 69 = some (.getfield 105) := rfl
theorem q_109_72 : g_co X 109 72 = some (.iconst 0) := rfl
theorem q_109_73 : g_co X 109 73 = some (.aaload) := rfl
theorem q_109_74 : g_co X 109 74 = some (.invokevirtual 347) := rfl
theorem q_109_77 : g_co X 109 77 = some (.aload_n 0) := rfl
theorem q_109_78 : g_co X 109 78 = some (.iconst 1) := rfl
theorem q_109_79 : g_co X 109 79 = some (.putfield 45) := rfl
theorem q_109_82 : g_co X 109 82 = some (.aload_n 0) := rfl
theorem q_109_83 : g_co X 109 83 = some (.invokevirtual 325) := rfl
theorem q_109_86 : g_co X 109 86 = some (.aload_n 0) := rfl
theorem q_109_87 : g_co X 109 87 = some (.aload_n 0) := rfl
theorem q_109_88 : g_co X 109 88 = some (.getfield 105) := rfl
theorem q_109_91 : g_co X 109 91 = some (.iconst 1) := rfl
theorem q_109_92 : g_co X 109 92 = some (.aaload) := rfl
theorem q_109_93 : g_co X 109 93 = some (.invokevirtual 347) := rfl
theorem q_109_96 : g_co X 109 96 = some (.bipush 33) := rfl
theorem q_109_98 : g_co X 109 98 = some (.istore_n 1) := rfl
theorem q_109_99 : g_co X 109 99 = some (.iload_n 1) := rfl
theorem q_109_100 : g_co X 109 100 = some (.bipush 37) := rfl
theorem q_109_102 : g_co X 109 102 = some (.if_icmp .ge 23) := rfl
theorem q_109_105 : g_co X 109 105 = some (.aload_n 0) := rfl
theorem q_109_106 : g_co X 109 106 = some (.getfield 105) := rfl
theorem q_109_109 : g_co X 109 109 = some (.iconst 0) := rfl
theorem q_109_110 : g_co X 109 110 = some (.aaload) := rfl
theorem q_109_111 : g_co X 109 111 = some (.iload_n 1) := rfl
theorem q_109_112 : g_co X 109 112 = some (.aload_n 0) := rfl
theorem q_109_113 : g_co X 109 113 = some (.getfield 42) := rfl
theorem q_109_116 : g_co X 109 116 = some (.iload_n 1) := rfl
theorem q_109_117 : g_co X 109 117 = some (.iaload) := rfl
theorem q_109_118 : g_co X 109 118 = some (.iastore) := rfl
theorem q_109_119 : g_co X 109 119 = some (.iinc 1 1) := rfl
theorem q_109_122 : g_co X 109 122 = some (.goto (-23)) := rfl
theorem q_109_125 : g_co X 109 125 = some (.aload_n 0) := rfl
theorem q_109_126 : g_co X 109 126 = some (.iconst (-1)) := rfl
theorem q_109_127 : g_co X 109 127 = some (.putfield 45) := rfl
theorem q_109_130 : g_co X 109 130 = some (.return_) := rfl
theorem q_110_0 : g_co X 110 0 = some (.aload_n 0) := rfl
theorem q_110_1 : g_co X 110 1 = some (.iconst 0) := rfl
theorem q_110_2 : g_co X 110 2 = some (.putfield 316) := rfl
theorem q_110_5 : g_co X 110 5 = some (.aload_n 0) := rfl
theorem q_110_6 : g_co X 110 6 = some (.aload_n 0) := rfl
theorem q_110_7 : g_co X 110 7 = some (.getfield 105) := rfl
theorem q_110_10 : g_co X 110 10 = some (.iload_n 1) := rfl
theorem q_110_11 : g_co X 110 11 = some (.aaload) := rfl
theorem q_110_12 : g_co X 110 12 = some (.invokevirtual 351) := rfl
theorem q_110_15 : g_co X 110 15 = some (.aload_n 0) := rfl
theorem q_110_16 : g_co X 110 16 = some (.iload_n 2) := rfl
theorem q_110_17 : g_co X 110 17 = some (.invokevirtual 354) := rfl
theorem q_110_20 : g_co X 110 20 = some (.ifCond .ne 5) := rfl
theorem q_110_23 : g_co X 110 23 = some (.iconst 0) := rfl
theorem q_110_24 : g_co X 110 24 = some (.ireturn) := rfl
theorem q_110_25 : g_co X 110 25 = some (.aload_n 0) := rfl
theorem q_110_26 : g_co X 110 26 = some (.iload_n 1) := rfl
theorem q_110_27 : g_co X 110 27 = some (.putfield 45) := rfl
theorem q_110_30 : g_co X 110 30 = some (.aload_n 0) := rfl
theorem q_110_31 : g_co X 110 31 = some (.iload_n 2) := rfl
theorem q_110_32 : g_co X 110 32 = some (.iconst (-1)) := rfl
theorem q_110_33 : g_co X 110 33 = some (.invokevirtual 357) := rfl
theorem q_110_36 : g_co X 110 36 = some (.pop) := rfl
theorem q_110_37 : g_co X 110 37 = some (.aload_n 0) := rfl
theorem q_110_38 : g_co X 110 38 = some (.iconst (-1)) := rfl
theorem q_110_39 : g_co X 110 39 = some (.putfield 45) := rfl
theorem q_110_42 : g_co X 110 42 = some (.aload_n 0) := rfl
theorem q_110_43 : g_co X 110 43 = some (.aload_n 0) := rfl
theorem q_110_44 : g_co X 110 44 = some (.getfield 105) := rfl
theorem q_110_47 : g_co X 110 47 = some (.iload_n 1) := rfl
theorem q_110_48 : g_co X 110 48 = some (.aaload) := rfl
theorem q_110_49 : g_co X 110 49 = some (.invokevirtual 347) := rfl
theorem q_110_52 : g_co X 110 52 = some (.bipush 33) := rfl
theorem q_110_54 : g_co X 110 54 = some (.istore_n 3) := rfl
theorem q_110_55 : g_co X 110 55 = some (.iload_n 3) := rfl
theorem q_110_56 : g_co X 110 56 = some (.bipush 37) := rfl
theorem q_110_58 : g_co X 110 58 = some (.if_icmp .ge 25) := rfl
theorem q_110_61 : g_co X 110 61 = some (.aload_n 0) := rfl
theorem q_110_62 : g_co X 110 62 = some (.getfield 105) := rfl
theorem q_110_65 : g_co X 110 65 = some (.iconst 1) := rfl
theorem q_110_66 : g_co X 110 66 = some (.iload_n 1) := rfl
theorem q_110_67 : g_co X 110 67 = some (.isub) := rfl
theorem q_110_68 : g_co X 110 68 = some (.aaload) := rfl
theorem q_110_69 : g_co X 110 69 = some (.iload_n 3) := rfl
theorem q_110_70 : g_co X 110 70 = some (.aload_n 0) := rfl
theorem q_110_71 : g_co X 110 71 = some (.getfield 42) := rfl
theorem q_110_74 : g_co X 110 74 = some (.iload_n 3) := rfl
theorem q_110_75 : g_co X 110 75 = some (.iaload) := rfl
theorem q_110_76 : g_co X 110 76 = some (.iastore) := rfl
theorem q_110_77 : g_co X 110 77 = some (.iinc 3 1) := rfl
theorem q_110_80 : g_co X 110 80 = some (.goto (-25)) := rfl
theorem q_110_83 : g_co X 110 83 = some (.iconst 1) := rfl
theorem q_110_84 : g_co X 110 84 = some (.ireturn) := rfl
theorem q_111_0 : g_co X 111 0 = some (.aload_n 0) := rfl
theorem q_111_1 : g_co X 111 1 = some (.iconst 0) := rfl
theorem q_111_2 : g_co X 111 2 = some (.putfield 126) := rfl
theorem q_111_5 : g_co X 111 5 = some (.aload_n 0) := rfl
theorem q_111_6 : g_co X 111 6 = some (.getfield 294) := rfl
theorem q_111_9 : g_co X 111 9 = some (.istore_n 1) := rfl
theorem q_111_10 : g_co X 111 10 = some (.aload_n 0) := rfl
theorem q_111_11 : g_co X 111 11 = some (.invokevirtual 123) := rfl
theorem q_111_14 : g_co X 111 14 = some (.iload_n 1) := rfl
theorem q_111_15 : g_co X 111 15 = some (.ireturn) := rfl
theorem q_112_0 : g_co X 112 0 = some (.aload_n 0) := rfl
theorem q_112_1 : g_co X 112 1 = some (.iconst 0) := rfl
theorem q_112_2 : g_co X 112 2 = some (.putfield 126) := rfl
theorem q_112_5 : g_co X 112 5 = some (.aload_n 0) := rfl
theorem q_112_6 : g_co X 112 6 = some (.iload_n 1) := rfl
theorem q_112_7 : g_co X 112 7 = some (.iconst 0) := rfl
theorem q_112_8 : g_co X 112 8 = some (.iconst 1) := rfl
theorem q_112_9 : g_co X 112 9 = some (.invokestatic 247) := rfl
theorem q_112_12 : g_co X 112 12 = some (.ifCond .eq 13) := rfl
theorem q_112_15 : g_co X 112 15 = some (.iload_n 2) := rfl
theorem q_112_16 : g_co X 112 16 = some (.iconst 0) := rfl
theorem q_112_17 : g_co X 112 17 = some (.bipush 12) := rfl
theorem q_112_19 : g_co X 112 19 = some (.invokestatic 247) := rfl
theorem q_112_22 : g_co X 112 22 = some (.ifCond .ne 7) := rfl
theorem q_112_25 : g_co X 112 25 = some (.iconst 1) := rfl
theorem q_112_26 : g_co X 112 26 = some (.goto 4) := rfl
theorem q_112_29 : g_co X 112 29 = some (.iconst 0) := rfl
theorem q_112_30 : g_co X 112 30 = some (.iconst 1) := rfl
theorem q_112_31 : g_co X 112 31 = some (.invokevirtual 306) := rfl
theorem q_112_34 : g_co X 112 34 = some (.ifCond .eq 5) := rfl
theorem q_112_37 : g_co X 112 37 = some (.iconst 0) := rfl
theorem q_112_38 : g_co X 112 38 = some (.ireturn) := rfl
theorem q_112_39 : g_co X 112 39 = some (.aload_n 0) := rfl
theorem q_112_40 : g_co X 112 40 = some (.iload_n 1) := rfl
theorem q_112_41 : g_co X 112 41 = some (.iload_n 2) := rfl
theorem q_112_42 : g_co X 112 42 = some (.invokevirtual 442) := rfl
theorem q_112_45 : g_co X 112 45 = some (.ifCond .eq 10) := rfl
theorem q_112_48 : g_co X 112 48 = some (.aload_n 0) := rfl
theorem q_112_49 : g_co X 112 49 = some (.getfield 294) := rfl
theorem q_112_52 : g_co X 112 52 = some (.goto 4) := rfl
theorem q_112_55 : g_co X 112 55 = some (.iconst (-1)) := rfl
theorem q_112_56 : g_co X 112 56 = some (.ireturn) := rfl
theorem q_113_0 : g_co X 113 0 = some (.aload_n 0) := rfl
theorem q_113_1 : g_co X 113 1 = some (.iconst 0) := rfl
theorem q_113_2 : g_co X 113 2 = some (.putfield 126) := rfl
theorem q_113_5 : g_co X 113 5 = some (.aload_n 0) := rfl
theorem q_113_6 : g_co X 113 6 = some (.iload_n 2) := rfl
theorem q_113_7 : g_co X 113 7 = some (.iconst 0) := rfl
theorem q_113_8 : g_co X 113 8 = some (.bipush 7) := rfl
theorem q_113_10 : g_co X 113 10 = some (.invokestatic 247) := rfl
theorem q_113_13 : g_co X 113 13 = some (.ifCond .ne 7) := rfl
theorem q_113_16 : g_co X 113 16 = some (.iconst 1) := rfl
theorem q_113_17 : g_co X 113 17 = some (.goto 4) := rfl
theorem q_113_20 : g_co X 113 20 = some (.iconst 0) := rfl
theorem q_113_21 : g_co X 113 21 = some (.iconst 1) := rfl
theorem q_113_22 : g_co X 113 22 = some (.invokevirtual 306) := rfl
theorem q_113_25 : g_co X 113 25 = some (.ifCond .ne 25) := rfl
theorem q_113_28 : g_co X 113 28 = some (.aload_n 0) := rfl
theorem q_113_29 : g_co X 113 29 = some (.iload_n 1) := rfl
theorem q_113_30 : g_co X 113 30 = some (.iconst 0) := rfl
theorem q_113_31 : g_co X 113 31 = some (.iconst 1) := rfl
theorem q_113_32 : g_co X 113 32 = some (.invokestatic 247) := rfl
theorem q_113_35 : g_co X 113 35 = some (.ifCond .ne 7) := rfl
theorem q_113_38 : g_co X 113 38 = some (.iconst 1) := rfl
theorem q_113_39 : g_co X 113 39 = some (.goto 4) := rfl
theorem q_113_42 : g_co X 113 42 = some (.iconst 0) := rfl
theorem q_113_43 : g_co X 113 43 = some (.iconst 2) := rfl
theorem q_113_44 : g_co X 113 44 = some (.invokevirtual 306) := rfl
theorem q_113_47 : g_co X 113 47 = some (.ifCond .eq 5) := rfl
theorem q_113_50 : g_co X 113 50 = some (.iconst 0) := rfl
theorem q_113_51 : g_co X 113 51 = some (.ireturn) := rfl
theorem q_113_52 : g_co X 113 52 = some (.aload_n 0) := rfl
theorem q_113_53 : g_co X 113 53 = some (.getfield 105) := rfl
theorem q_113_56 : g_co X 113 56 = some (.iload_n 1) := rfl
theorem q_113_57 : g_co X 113 57 = some (.aaload) := rfl
theorem q_113_58 : g_co X 113 58 = some (.iload_n 2) := rfl
theorem q_113_59 : g_co X 113 59 = some (.iaload) := rfl
theorem q_113_60 : g_co X 113 60 = some (.ireturn) := rfl
theorem q_114_0 : g_co X 114 0 = some (.iconst 0) := rfl
theorem q_114_1 : g_co X 114 1 = some (.istore_n 2) := rfl
theorem q_114_2 : g_co X 114 2 = some (.iload_n 2) := rfl
theorem q_114_3 : g_co X 114 3 = some (.bipush 38) := rfl
theorem q_114_5 : g_co X 114 5 = some (.if_icmp .ge 44) := rfl
theorem q_114_8 : g_co X 114 8 = some (.aload_n 0) := rfl
theorem q_114_9 : g_co X 114 9 = some (.getfield 114) := rfl
theorem q_114_12 : g_co X 114 12 = some (.iload_n 1) := rfl
theorem q_114_13 : g_co X 114 13 = some (.aaload) := rfl
theorem q_114_14 : g_co X 114 14 = some (.iload_n 2) := rfl
theorem q_114_15 : g_co X 114 15 = some (.aload_n 0) := rfl
theorem q_114_16 : g_co X 114 16 = some (.getfield 105) := rfl
theorem q_114_19 : g_co X 114 19 = some (.iconst 0) := rfl
theorem q_114_20 : g_co X 114 20 = some (.aaload) := rfl
theorem q_114_21 : g_co X 114 21 = some (.iload_n 2) := rfl
theorem q_114_22 : g_co X 114 22 = some (.iaload) := rfl
theorem q_114_23 : g_co X 114 23 = some (.iastore) := rfl
theorem q_114_24 : g_co X 114 24 = some (.aload_n 0) := rfl
theorem q_114_25 : g_co X 114 25 = some (.getfield 114) := rfl
theorem q_114_28 : g_co X 114 28 = some (.iload_n 1) := rfl
theorem q_114_29 : g_co X 114 29 = some (.aaload) := rfl
theorem q_114_30 : g_co X 114 30 = some (.bipush 38) := rfl
theorem q_114_32 : g_co X 114 32 = some (.iload_n 2) := rfl
theorem q_114_33 : g_co X 114 33 = some (.iadd) := rfl
theorem q_114_34 : g_co X 114 34 = some (.aload_n 0) := rfl
theorem q_114_35 : g_co X 114 35 = some (.getfield 105) := rfl
theorem q_114_38 : g_co X 114 38 = some (.iconst 1) := rfl
theorem q_114_39 : g_co X 114 39 = some (.aaload) := rfl
theorem q_114_40 : g_co X 114 40 = some (.iload_n 2) := rfl
theorem q_114_41 : g_co X 114 41 = some (.iaload) := rfl
theorem q_114_42 : g_co X 114 42 = some (.iastore) := rfl
theorem q_114_43 : g_co X 114 43 = some (.iinc 2 1) := rfl
theorem q_114_46 : g_co X 114 46 = some (.goto (-44)) := rfl
theorem q_114_49 : g_co X 114 49 = some (.iconst 0) := rfl
theorem q_114_50 : g_co X 114 50 = some (.istore_n 2) := rfl
theorem q_114_51 : g_co X 114 51 = some (.iload_n 2) := rfl
theorem q_114_52 : g_co X 114 52 = some (.iconst 4) := rfl
theorem q_114_53 : g_co X 114 53 = some (.if_icmp .ge 80) := rfl
theorem q_114_56 : g_co X 114 56 = some (.aload_n 0) := rfl
theorem q_114_57 : g_co X 114 57 = some (.getfield 114) := rfl
theorem q_114_60 : g_co X 114 60 = some (.iload_n 1) := rfl
theorem q_114_61 : g_co X 114 61 = some (.aaload) := rfl
theorem q_114_62 : g_co X 114 62 = some (.bipush 76) := rfl
theorem q_114_64 : g_co X 114 64 = some (.iload_n 2) := rfl
theorem q_114_65 : g_co X 114 65 = some (.iadd) := rfl
theorem q_114_66 : g_co X 114 66 = some (.aload_n 0) := rfl
theorem q_114_67 : g_co X 114 67 = some (.getfield 108) := rfl
theorem q_114_70 : g_co X 114 70 = some (.iload_n 2) := rfl
theorem q_114_71 : g_co X 114 71 = some (.iaload) := rfl
theorem q_114_72 : g_co X 114 72 = some (.iastore) := rfl
theorem q_114_73 : g_co X 114 73 = some (.aload_n 0) := rfl
theorem q_114_74 : g_co X 114 74 = some (.getfield 114) := rfl
theorem q_114_77 : g_co X 114 77 = some (.iload_n 1) := rfl
theorem q_114_78 : g_co X 114 78 = some (.aaload) := rfl
theorem q_114_79 : g_co X 114 79 = some (.bipush 80) := rfl
theorem q_114_81 : g_co X 114 81 = some (.iload_n 2) := rfl
theorem q_114_82 : g_co X 114 82 = some (.iadd) := rfl
theorem q_114_83 : g_co X 114 83 = some (.aload_n 0) := rfl
theorem q_114_84 : g_co X 114 84 = some (.getfield 111) := rfl
theorem q_114_87 : g_co X 114 87 = some (.iconst 0) := rfl
theorem q_114_88 : g_co X 114 88 = some (.aaload) := rfl
theorem q_114_89 : g_co X 114 89 = some (.iload_n 2) := rfl
theorem q_114_90 : g_co X 114 90 = some (.baload) := rfl
theorem q_114_91 : g_co X 114 91 = some (.ifCond .eq 7) := rfl
theorem q_114_94 : g_co X 114 94 = some (.iconst 1) := rfl
theorem q_114_95 : g_co X 114 95 = some (.goto 4) := rfl
theorem q_114_98 : g_co X 114 98 = some (.iconst 0) := rfl
theorem q_114_99 : g_co X 114 99 = some (.iastore) := rfl
theorem q_114_100 : g_co X 114 100 = some (.aload_n 0) := rfl
theorem q_114_101 : g_co X 114 101 = some (.getfield 114) := rfl
theorem q_114_104 : g_co X 114 104 = some (.iload_n 1) := rfl
theorem q_114_105 : g_co X 114 105 = some (.aaload) := rfl
theorem q_114_106 : g_co X 114 106 = some (.bipush 84) := rfl
theorem q_114_108 : g_co X 114 108 = some (.iload_n 2) := rfl
theorem q_114_109 : g_co X 114 109 = some (.iadd) := rfl
theorem q_114_110 : g_co X 114 110 = some (.aload_n 0) := rfl
theorem q_114_111 : g_co X 114 111 = some (.getfield 111) := rfl
theorem q_114_114 : g_co X 114 114 = some (.iconst 1) := rfl
theorem q_114_115 : g_co X 114 115 = some (.aaload) := rfl
theorem q_114_116 : g_co X 114 116 = some (.iload_n 2) := rfl
theorem q_114_117 : g_co X 114 117 = some (.baload) := rfl
theorem q_114_118 : g_co X 114 118 = some (.ifCond .eq 7) := rfl
theorem q_114_121 : g_co X 114 121 = some (.iconst 1) := rfl
theorem q_114_122 : g_co X 114 122 = some (.goto 4) := rfl
theorem q_114_125 : g_co X 114 125 = some (.iconst 0) := rfl
theorem q_114_126 : g_co X 114 126 = some (.iastore) := rfl
theorem q_114_127 : g_co X 114 127 = some (.iinc 2 1) := rfl
theorem q_114_130 : g_co X 114 130 = some (.goto (-79)) := rfl
theorem q_114_133 : g_co X 114 133 = some (.aload_n 0) := rfl
theorem q_114_134 : g_co X 114 134 = some (.getfield 114) := rfl
theorem q_114_137 : g_co X 114 137 = some (.iload_n 1) := rfl
theorem q_114_138 : g_co X 114 138 = some (.aaload) := rfl
theorem q_114_139 : g_co X 114 139 = some (.bipush 88) := rfl
theorem q_114_141 : g_co X 114 141 = some (.aload_n 0) := rfl
theorem q_114_142 : g_co X 114 142 = some (.getfield 294) := rfl
theorem q_114_145 : g_co X 114 145 = some (.iastore) := rfl
theorem q_114_146 : g_co X 114 146 = some (.return_) := rfl
theorem q_115_0 : g_co X 115 0 = some (.iconst 0) := rfl
theorem q_115_1 : g_co X 115 1 = some (.istore_n 2) := rfl
theorem q_115_2 : g_co X 115 2 = some (.iload_n 2) := rfl
theorem q_115_3 : g_co X 115 3 = some (.bipush 38) := rfl
theorem q_115_5 : g_co X 115 5 = some (.if_icmp .ge 44) := rfl
theorem q_115_8 : g_co X 115 8 = some (.aload_n 0) := rfl
theorem q_115_9 : g_co X 115 9 = some (.getfield 105) := rfl
theorem q_115_12 : g_co X 115 12 = some (.iconst 0) := rfl
theorem q_115_13 : g_co X 115 13 = some (.aaload) := rfl
theorem q_115_14 : g_co X 115 14 = some (.iload_n 2) := rfl
theorem q_115_15 : g_co X 115 15 = some (.aload_n 0) := rfl
theorem q_115_16 : g_co X 115 16 = some (.getfield 114) := rfl
theorem q_115_19 : g_co X 115 19 = some (.iload_n 1) := rfl
theorem q_115_20 : g_co X 115 20 = some (.aaload) := rfl
theorem q_115_21 : g_co X 115 21 = some (.iload_n 2) := rfl
theorem q_115_22 : g_co X 115 22 = some (.iaload) := rfl
theorem q_115_23 : g_co X 115 23 = some (.iastore) := rfl
theorem q_115_24 : g_co X 115 24 = some (.aload_n 0) := rfl
theorem q_115_25 : g_co X 115 25 = some (.getfield 105) := rfl
theorem q_115_28 : g_co X 115 28 = some (.iconst 1) := rfl
theorem q_115_29 : g_co X 115 29 = some (.aaload) := rfl
theorem q_115_30 : g_co X 115 30 = some (.iload_n 2) := rfl
theorem q_115_31 : g_co X 115 31 = some (.aload_n 0) := rfl
theorem q_115_32 : g_co X 115 32 = some (.getfield 114) := rfl
theorem q_115_35 : g_co X 115 35 = some (.iload_n 1) := rfl
theorem q_115_36 : g_co X 115 36 = some (.aaload) := rfl
theorem q_115_37 : g_co X 115 37 = some (.bipush 38) := rfl
theorem q_115_39 : g_co X 115 39 = some (.iload_n 2) := rfl
theorem q_115_40 : g_co X 115 40 = some (.iadd) := rfl
theorem q_115_41 : g_co X 115 41 = some (.iaload) := rfl
theorem q_115_42 : g_co X 115 42 = some (.iastore) := rfl
theorem q_115_43 : g_co X 115 43 = some (.iinc 2 1) := rfl
theorem q_115_46 : g_co X 115 46 = some (.goto (-44)) := rfl
theorem q_115_49 : g_co X 115 49 = some (.iconst 0) := rfl
theorem q_115_50 : g_co X 115 50 = some (.istore_n 2) := rfl
theorem q_115_51 : g_co X 115 51 = some (.iload_n 2) := rfl
theorem q_115_52 : g_co X 115 52 = some (.iconst 4) := rfl
theorem q_115_53 : g_co X 115 53 = some (.if_icmp .ge 82) := rfl
theorem q_115_56 : g_co X 115 56 = some (.aload_n 0) := rfl
theorem q_115_57 : g_co X 115 57 = some (.getfield 108) := rfl
theorem q_115_60 : g_co X 115 60 = some (.iload_n 2) := rfl
theorem q_115_61 : g_co X 115 61 = some (.aload_n 0) := rfl
theorem q_115_62 : g_co X 115 62 = some (.getfield 114) := rfl
theorem q_115_65 : g_co X 115 65 = some (.iload_n 1) := rfl
theorem q_115_66 : g_co X 115 66 = some (.aaload) := rfl
theorem q_115_67 : g_co X 115 67 = some (.bipush 76) := rfl
theorem q_115_69 : g_co X 115 69 = some (.iload_n 2) := rfl
theorem q_115_70 : g_co X 115 70 = some (.iadd) := rfl
theorem q_115_71 : g_co X 115 71 = some (.iaload) := rfl
theorem q_115_72 : g_co X 115 72 = some (.iastore) := rfl
theorem q_115_73 : g_co X 115 73 = some (.aload_n 0) := rfl
theorem q_115_74 : g_co X 115 74 = some (.getfield 111) := rfl
theorem q_115_77 : g_co X 115 77 = some (.iconst 0) := rfl
theorem q_115_78 : g_co X 115 78 = some (.aaload) := rfl
theorem q_115_79 : g_co X 115 79 = some (.iload_n 2) := rfl
theorem q_115_80 : g_co X 115 80 = some (.aload_n 0) := rfl
theorem q_115_81 : g_co X 115 81 = some (.getfield 114) := rfl
theorem q_115_84 : g_co X 115 84 = some (.iload_n 1) := rfl
theorem q_115_85 : g_co X 115 85 = some (.aaload) := rfl
theorem q_115_86 : g_co X 115 86 = some (.bipush 80) := rfl
theorem q_115_88 : g_co X 115 88 = some (.iload_n 2) := rfl
theorem q_115_89 : g_co X 115 89 = some (.iadd) := rfl
theorem q_115_90 : g_co X 115 90 = some (.iaload) := rfl
theorem q_115_91 : g_co X 115 91 = some (.iconst 1) := rfl
theorem q_115_92 : g_co X 115 92 = some (.if_icmp .ne 7) := rfl
theorem q_115_95 : g_co X 115 95 = some (.iconst 1) := rfl
theorem q_115_96 : g_co X 115 96 = some (.goto 4) := rfl
theorem q_115_99 : g_co X 115 99 = some (.iconst 0) := rfl
theorem q_115_100 : g_co X 115 100 = some (.bastore) := rfl
theorem q_115_101 : g_co X 115 101 = some (.aload_n 0) := rfl
theorem q_115_102 : g_co X 115 102 = some (.getfield 111) := rfl
theorem q_115_105 : g_co X 115 105 = some (.iconst 1) := rfl
theorem q_115_106 : g_co X 115 106 = some (.aaload) := rfl
theorem q_115_107 : g_co X 115 107 = some (.iload_n 2) := rfl
theorem q_115_108 : g_co X 115 108 = some (.aload_n 0) := rfl
theorem q_115_109 : g_co X 115 109 = some (.getfield 114) := rfl
theorem q_115_112 : g_co X 115 112 = some (.iload_n 1) := rfl
theorem q_115_113 : g_co X 115 113 = some (.aaload) := rfl
theorem q_115_114 : g_co X 115 114 = some (.bipush 84) := rfl
theorem q_115_116 : g_co X 115 116 = some (.iload_n 2) := rfl
theorem q_115_117 : g_co X 115 117 = some (.iadd) := rfl
theorem q_115_118 : g_co X 115 118 = some (.iaload) := rfl
theorem q_115_119 : g_co X 115 119 = some (.iconst 1) := rfl
theorem q_115_120 : g_co X 115 120 = some (.if_icmp .ne 7) := rfl
theorem q_115_123 : g_co X 115 123 = some (.iconst 1) := rfl
theorem q_115_124 : g_co X 115 124 = some (.goto 4) := rfl
theorem q_115_127 : g_co X 115 127 = some (.iconst 0) := rfl
theorem q_115_128 : g_co X 115 128 = some (.bastore) := rfl
theorem q_115_129 : g_co X 115 129 = some (.iinc 2 1) := rfl
theorem q_115_132 : g_co X 115 132 = some (.goto (-81)) := rfl
theorem q_115_135 : g_co X 115 135 = some (.aload_n 0) := rfl
theorem q_115_136 : g_co X 115 136 = some (.aload_n 0) := rfl
theorem q_115_137 : g_co X 115 137 = some (.getfield 114) := rfl
theorem q_115_140 : g_co X 115 140 = some (.iload_n 1) := rfl
theorem q_115_141 : g_co X 115 141 = some (.aaload) := rfl
theorem q_115_142 : g_co X 115 142 = some (.bipush 88) := rfl
theorem q_115_144 : g_co X 115 144 = some (.iaload) := rfl
theorem q_115_145 : g_co X 115 145 = some (.putfield 294) := rfl
theorem q_115_148 : g_co X 115 148 = some (.return_) := rfl
theorem q_116_0 : g_co X 116 0 = some (.iconst 0) := rfl
theorem q_116_1 : g_co X 116 1 = some (.istore_n 3) := rfl
theorem q_116_2 : g_co X 116 2 = some (.iload_n 3) := rfl
theorem q_116_3 : g_co X 116 3 = some (.bipush 26) := rfl
theorem q_116_5 : g_co X 116 5 = some (.if_icmp .ge 130) := rfl
theorem q_116_8 : g_co X 116 8 = some (.aload_n 0) := rfl
theorem q_116_9 : g_co X 116 9 = some (.iload_n 1) := rfl
theorem q_116_10 : g_co X 116 10 = some (.invokevirtual 445) := rfl
theorem q_116_13 : g_co X 116 13 = some (.aload_n 0) := rfl
theorem q_116_14 : g_co X 116 14 = some (.iload_n 3) := rfl
theorem q_116_15 : g_co X 116 15 = some (.bipush 13) := rfl
theorem q_116_17 : g_co X 116 17 = some (.idiv) := rfl
theorem q_116_18 : g_co X 116 18 = some (.iload_n 3) := rfl
theorem q_116_19 : g_co X 116 19 = some (.bipush 13) := rfl
theorem q_116_21 : g_co X 116 21 = some (.irem) := rfl
theorem q_116_22 : g_co X 116 22 = some (.invokevirtual 442) := rfl
theorem q_116_25 : g_co X 116 25 = some (.ifCond .ne 6) := rfl
theorem q_116_28 : g_co X 116 28 = some (.goto 101) := rfl
theorem q_116_31 : g_co X 116 31 = some (.aload_n 0) := rfl
theorem q_116_32 : g_co X 116 32 = some (.getfield 294) := rfl
theorem q_116_35 : g_co X 116 35 = some (.ifCond .le 5) := rfl
theorem q_116_38 : g_co X 116 38 = some (.iconst 1) := rfl
theorem q_116_39 : g_co X 116 39 = some (.ireturn) := rfl
theorem q_116_40 : g_co X 116 40 = some (.iload_n 2) := rfl
theorem q_116_41 : g_co X 116 41 = some (.iconst 1) := rfl
theorem q_116_42 : g_co X 116 42 = some (.if_icmp .ne 6) := rfl
theorem q_116_45 : g_co X 116 45 = some (.goto 84) := rfl
theorem q_116_48 : g_co X 116 48 = some (.aload_n 0) := rfl
theorem q_116_49 : g_co X 116 49 = some (.iload_n 1) := rfl
theorem q_116_50 : g_co X 116 50 = some (.iconst 1) := rfl
theorem q_116_51 : g_co X 116 51 = some (.iadd) := rfl
theorem q_116_52 : g_co X 116 52 = some (.invokevirtual 448) := rfl
theorem q_116_55 : g_co X 116 55 = some (.iconst 1) := rfl
theorem q_116_56 : g_co X 116 56 = some (.istore 4) := rfl
theorem q_116_58 : g_co X 116 58 = some (.iconst 0) := rfl
theorem q_116_59 : g_co X 116 59 = some (.istore 5) := rfl
theorem q_116_61 : g_co X 116 61 = some (.iload 5) := rfl
theorem q_116_63 : g_co X 116 63 = some (.bipush 89) := rfl
theorem q_116_65 : g_co X 116 65 = some (.if_icmp .ge 44) := rfl
theorem q_116_68 : g_co X 116 68 = some (.iload 4) := rfl
theorem q_116_70 : g_co X 116 70 = some (.ifCond .eq 39) := rfl
theorem q_116_73 : g_co X 116 73 = some (.aload_n 0) := rfl
theorem q_116_74 : g_co X 116 74 = some (.getfield 114) := rfl
theorem q_116_77 : g_co X 116 77 = some (.iload_n 1) := rfl
theorem q_116_78 : g_co X 116 78 = some (.aaload) := rfl
theorem q_116_79 : g_co X 116 79 = some (.iload 5) := rfl
theorem q_116_81 : g_co X 116 81 = some (.iaload) := rfl
theorem q_116_82 : g_co X 116 82 = some (.aload_n 0) := rfl
theorem q_116_83 : g_co X 116 83 = some (.getfield 114) := rfl
theorem q_116_86 : g_co X 116 86 = some (.iload_n 1) := rfl
theorem q_116_87 : g_co X 116 87 = some (.iconst 1) := rfl
theorem q_116_88 : g_co X 116 88 = some (.iadd) := rfl
theorem q_116_89 : g_co X 116 89 = some (.aaload) := rfl
theorem q_116_90 : g_co X 116 90 = some (.iload 5) := rfl
theorem q_116_92 : g_co X 116 92 = some (.iaload) := rfl
theorem q_116_93 : g_co X 116 93 = some (.if_icmp .ne 7) := rfl
theorem q_116_96 : g_co X 116 96 = some (.iconst 1) := rfl
theorem q_116_97 : g_co X 116 97 = some (.goto 4) := rfl
theorem q_116_100 : g_co X 116 100 = some (.iconst 0) := rfl
theorem q_116_101 : g_co X 116 101 = some (.istore 4) := rfl
theorem q_116_103 : g_co X 116 103 = some (.iinc 5 1) := rfl
theorem q_116_106 : g_co X 116 106 = some (.goto (-45)) := rfl
theorem q_116_109 : g_co X 116 109 = some (.iload 4) := rfl
theorem q_116_111 : g_co X 116 111 = some (.ifCond .ne 18) := rfl
theorem q_116_114 : g_co X 116 114 = some (.aload_n 0) := rfl
theorem q_116_115 : g_co X 116 115 = some (.iload_n 1) := rfl
theorem q_116_116 : g_co X 116 116 = some (.iconst 1) := rfl
theorem q_116_117 : g_co X 116 117 = some (.iadd) := rfl
theorem q_116_118 : g_co X 116 118 = some (.iload_n 2) := rfl
theorem q_116_119 : g_co X 116 119 = some (.iconst 1) := rfl
theorem q_116_120 : g_co X 116 120 = some (.isub) := rfl
theorem q_116_121 : g_co X 116 121 = some (.invokevirtual 451) := rfl
theorem q_116_124 : g_co X 116 124 = some (.ifCond .eq 5) := rfl
theorem q_116_127 : g_co X 116 127 = some (.iconst 1) := rfl
theorem q_116_128 : g_co X 116 128 = some (.ireturn) := rfl
theorem q_116_129 : g_co X 116 129 = some (.iinc 3 1) := rfl
theorem q_116_132 : g_co X 116 132 = some (.goto (-130)) := rfl
theorem q_116_135 : g_co X 116 135 = some (.iconst 0) := rfl
theorem q_116_136 : g_co X 116 136 = some (.ireturn) := rfl
theorem q_117_0 : g_co X 117 0 = some (.aload_n 0) := rfl
theorem q_117_1 : g_co X 117 1 = some (.iconst 0) := rfl
theorem q_117_2 : g_co X 117 2 = some (.putfield 126) := rfl
theorem q_117_5 : g_co X 117 5 = some (.aload_n 0) := rfl
theorem q_117_6 : g_co X 117 6 = some (.iload_n 1) := rfl
theorem q_117_7 : g_co X 117 7 = some (.iconst 0) := rfl
theorem q_117_8 : g_co X 117 8 = some (.iconst 3) := rfl
theorem q_117_9 : g_co X 117 9 = some (.invokestatic 247) := rfl
theorem q_117_12 : g_co X 117 12 = some (.ifCond .ne 7) := rfl
theorem q_117_15 : g_co X 117 15 = some (.iconst 1) := rfl
theorem q_117_16 : g_co X 117 16 = some (.goto 4) := rfl
theorem q_117_19 : g_co X 117 19 = some (.iconst 0) := rfl
theorem q_117_20 : g_co X 117 20 = some (.iconst 1) := rfl
theorem q_117_21 : g_co X 117 21 = some (.invokevirtual 306) := rfl
theorem q_117_24 : g_co X 117 24 = some (.ifCond .eq 5) := rfl
theorem q_117_27 : g_co X 117 27 = some (.iconst 0) := rfl
theorem q_117_28 : g_co X 117 28 = some (.ireturn) := rfl
theorem q_117_29 : g_co X 117 29 = some (.aload_n 0) := rfl
theorem q_117_30 : g_co X 117 30 = some (.bipush 7) := rfl
theorem q_117_32 : g_co X 117 32 = some (.invokevirtual 448) := rfl
theorem q_117_35 : g_co X 117 35 = some (.aload_n 0) := rfl
theorem q_117_36 : g_co X 117 36 = some (.invokevirtual 123) := rfl
theorem q_117_39 : g_co X 117 39 = some (.aload_n 0) := rfl
theorem q_117_40 : g_co X 117 40 = some (.getfield 294) := rfl
theorem q_117_43 : g_co X 117 43 = some (.ifCond .le 7) := rfl
theorem q_117_46 : g_co X 117 46 = some (.iconst 0) := rfl
theorem q_117_47 : g_co X 117 47 = some (.goto 4) := rfl
theorem q_117_50 : g_co X 117 50 = some (.iconst (-1)) := rfl
theorem q_117_51 : g_co X 117 51 = some (.istore_n 2) := rfl
theorem q_117_52 : g_co X 117 52 = some (.aload_n 0) := rfl
theorem q_117_53 : g_co X 117 53 = some (.iconst 0) := rfl
theorem q_117_54 : g_co X 117 54 = some (.invokevirtual 448) := rfl
theorem q_117_57 : g_co X 117 57 = some (.iconst 1) := rfl
theorem q_117_58 : g_co X 117 58 = some (.istore_n 3) := rfl
theorem q_117_59 : g_co X 117 59 = some (.iload_n 3) := rfl
theorem q_117_60 : g_co X 117 60 = some (.iload_n 1) := rfl
theorem q_117_61 : g_co X 117 61 = some (.if_icmp .gt 29) := rfl
theorem q_117_64 : g_co X 117 64 = some (.iload_n 2) := rfl
theorem q_117_65 : g_co X 117 65 = some (.iconst (-1)) := rfl
theorem q_117_66 : g_co X 117 66 = some (.if_icmp .ne 24) := rfl
theorem q_117_69 : g_co X 117 69 = some (.aload_n 0) := rfl
theorem q_117_70 : g_co X 117 70 = some (.iconst 0) := rfl
theorem q_117_71 : g_co X 117 71 = some (.iload_n 3) := rfl
theorem q_117_72 : g_co X 117 72 = some (.invokevirtual 451) := rfl
theorem q_117_75 : g_co X 117 75 = some (.ifCond .eq 7) := rfl
theorem q_117_78 : g_co X 117 78 = some (.iload_n 3) := rfl
theorem q_117_79 : g_co X 117 79 = some (.goto 4) := rfl
theorem q_117_82 : g_co X 117 82 = some (.iconst (-1)) := rfl
theorem q_117_83 : g_co X 117 83 = some (.istore_n 2) := rfl
theorem q_117_84 : g_co X 117 84 = some (.iinc 3 1) := rfl
theorem q_117_87 : g_co X 117 87 = some (.goto (-28)) := rfl
theorem q_117_90 : g_co X 117 90 = some (.aload_n 0) := rfl
theorem q_117_91 : g_co X 117 91 = some (.bipush 7) := rfl
theorem q_117_93 : g_co X 117 93 = some (.invokevirtual 445) := rfl
theorem q_117_96 : g_co X 117 96 = some (.iload_n 2) := rfl
theorem q_117_97 : g_co X 117 97 = some (.ireturn) := rfl
theorem q_118_0 : g_co X 118 0 = some (.aload_n 0) := rfl
theorem q_118_1 : g_co X 118 1 = some (.iconst 0) := rfl
theorem q_118_2 : g_co X 118 2 = some (.putfield 126) := rfl
theorem q_118_5 : g_co X 118 5 = some (.aload_n 0) := rfl
theorem q_118_6 : g_co X 118 6 = some (.aload_n 0) := rfl
theorem q_118_7 : g_co X 118 7 = some (.iload_n 1) := rfl
theorem q_118_8 : g_co X 118 8 = some (.iload_n 2) := rfl
theorem q_118_9 : g_co X 118 9 = some (.invokevirtual 408) := rfl
theorem q_118_12 : g_co X 118 12 = some (.ifCond .ne 7) := rfl
theorem q_118_15 : g_co X 118 15 = some (.iconst 1) := rfl
theorem q_118_16 : g_co X 118 16 = some (.goto 4) := rfl
theorem q_118_19 : g_co X 118 19 = some (.iconst 0) := rfl
theorem q_118_20 : g_co X 118 20 = some (.iconst 1) := rfl
theorem q_118_21 : g_co X 118 21 = some (.invokevirtual 306) := rfl
theorem q_118_24 : g_co X 118 24 = some (.ifCond .eq 5) := rfl
theorem q_118_27 : g_co X 118 27 = some (.iconst 0) := rfl
theorem q_118_28 : g_co X 118 28 = some (.ireturn) := rfl
theorem q_118_29 : g_co X 118 29 = some (.aload_n 0) := rfl
theorem q_118_30 : g_co X 118 30 = some (.iconst 0) := rfl
theorem q_118_31 : g_co X 118 31 = some (.putfield 316) := rfl
theorem q_118_34 : g_co X 118 34 = some (.aload_n 0) := rfl
theorem q_118_35 : g_co X 118 35 = some (.iload_n 1) := rfl
theorem q_118_36 : g_co X 118 36 = some (.iload_n 2) := rfl
theorem q_118_37 : g_co X 118 37 = some (.iconst 1) := rfl
theorem q_118_38 : g_co X 118 38 = some (.invokevirtual 411) := rfl
theorem q_118_41 : g_co X 118 41 = some (.aload_n 0) := rfl
theorem q_118_42 : g_co X 118 42 = some (.getfield 396) := rfl
theorem q_118_45 : g_co X 118 45 = some (.iconst (-1)) := rfl
theorem q_118_46 : g_co X 118 46 = some (.if_icmp .ne 7) := rfl
theorem q_118_49 : g_co X 118 49 = some (.iconst (-1)) := rfl
theorem q_118_50 : g_co X 118 50 = some (.goto 12) := rfl
theorem q_118_53 : g_co X 118 53 = some (.aload_n 0) := rfl
theorem q_118_54 : g_co X 118 54 = some (.getfield 96) := rfl
theorem q_118_57 : g_co X 118 57 = some (.aload_n 0) := rfl
theorem q_118_58 : g_co X 118 58 = some (.getfield 396) := rfl
theorem q_118_61 : g_co X 118 61 = some (.iaload) := rfl
theorem q_118_62 : g_co X 118 62 = some (.istore_n 3) := rfl
theorem q_118_63 : g_co X 118 63 = some (.iload_n 3) := rfl
theorem q_118_64 : g_co X 118 64 = some (.iconst (-1)) := rfl
theorem q_118_65 : g_co X 118 65 = some (.if_icmp .ne 5) := rfl
theorem q_118_68 : g_co X 118 68 = some (.iconst (-1)) := rfl
theorem q_118_69 : g_co X 118 69 = some (.ireturn) := rfl
theorem q_118_70 : g_co X 118 70 = some (.aload_n 0) := rfl
theorem q_118_71 : g_co X 118 71 = some (.iconst 1) := rfl
theorem q_118_72 : g_co X 118 72 = some (.putfield 316) := rfl
theorem q_118_75 : g_co X 118 75 = some (.aload_n 0) := rfl
theorem q_118_76 : g_co X 118 76 = some (.iload_n 1) := rfl
theorem q_118_77 : g_co X 118 77 = some (.iload_n 2) := rfl
theorem q_118_78 : g_co X 118 78 = some (.iconst 1) := rfl
theorem q_118_79 : g_co X 118 79 = some (.invokevirtual 411) := rfl
theorem q_118_82 : g_co X 118 82 = some (.aload_n 0) := rfl
theorem q_118_83 : g_co X 118 83 = some (.iconst 0) := rfl
theorem q_118_84 : g_co X 118 84 = some (.putfield 316) := rfl
theorem q_118_87 : g_co X 118 87 = some (.aload_n 0) := rfl
theorem q_118_88 : g_co X 118 88 = some (.getfield 396) := rfl
theorem q_118_91 : g_co X 118 91 = some (.iconst (-1)) := rfl
theorem q_118_92 : g_co X 118 92 = some (.if_icmp .ne 7) := rfl
theorem q_118_95 : g_co X 118 95 = some (.iload_n 3) := rfl
theorem q_118_96 : g_co X 118 96 = some (.goto 4) := rfl
theorem q_118_99 : g_co X 118 99 = some (.iconst (-1)) := rfl
theorem q_118_100 : g_co X 118 100 = some (.ireturn) := rfl
theorem q_119_0 : g_co X 119 0 = some (.aload_n 0) := rfl
theorem q_119_1 : g_co X 119 1 = some (.iconst 0) := rfl
theorem q_119_2 : g_co X 119 2 = some (.putfield 126) := rfl
theorem q_119_5 : g_co X 119 5 = some (.iconst 0) := rfl
theorem q_119_6 : g_co X 119 6 = some (.istore_n 2) := rfl
theorem q_119_7 : g_co X 119 7 = some (.iconst 0) := rfl
theorem q_119_8 : g_co X 119 8 = some (.istore_n 3) := rfl
theorem q_119_9 : g_co X 119 9 = some (.iconst 0) := rfl
theorem q_119_10 : g_co X 119 10 = some (.istore 4) := rfl
theorem q_119_12 : g_co X 119 12 = some (.iload 4) := rfl
theorem q_119_14 : g_co X 119 14 = some (.bipush 17) := rfl
theorem q_119_16 : g_co X 119 16 = some (.if_icmp .ge 30) := rfl
theorem q_119_19 : g_co X 119 19 = some (.iload_n 2) := rfl
theorem q_119_20 : g_co X 119 20 = some (.aload_n 0) := rfl
theorem q_119_21 : g_co X 119 21 = some (.getfield 24) := rfl
theorem q_119_24 : g_co X 119 24 = some (.iconst 0) := rfl
theorem q_119_25 : g_co X 119 25 = some (.aaload) := rfl
theorem q_119_26 : g_co X 119 26 = some (.iload 4) := rfl
theorem q_119_28 : g_co X 119 28 = some (.iaload) := rfl
theorem q_119_29 : g_co X 119 29 = some (.iconst (-1)) := rfl
theorem q_119_30 : g_co X 119 30 = some (.if_icmp .ne 7) := rfl
theorem q_119_33 : g_co X 119 33 = some (.iconst 0) := rfl
theorem q_119_34 : g_co X 119 34 = some (.goto 4) := rfl
theorem q_119_37 : g_co X 119 37 = some (.iconst 1) := rfl
theorem q_119_38 : g_co X 119 38 = some (.iadd) := rfl
theorem q_119_39 : g_co X 119 39 = some (.istore_n 2) := rfl
theorem q_119_40 : g_co X 119 40 = some (.iinc 4 1) := rfl
theorem q_119_43 : g_co X 119 43 = some (.goto (-31)) := rfl
theorem q_119_46 : g_co X 119 46 = some (.iconst 0) := rfl
theorem q_119_47 : g_co X 119 47 = some (.istore 4) := rfl
theorem q_119_49 : g_co X 119 49 = some (.iload 4) := rfl
theorem q_119_51 : g_co X 119 51 = some (.iconst 4) := rfl
theorem q_119_52 : g_co X 119 52 = some (.if_icmp .ge 22) := rfl
theorem q_119_55 : g_co X 119 55 = some (.iload_n 3) := rfl
theorem q_119_56 : g_co X 119 56 = some (.aload_n 0) := rfl
theorem q_119_57 : g_co X 119 57 = some (.getfield 48) := rfl
theorem q_119_60 : g_co X 119 60 = some (.bipush 10) := rfl
theorem q_119_62 : g_co X 119 62 = some (.iload 4) := rfl
theorem q_119_64 : g_co X 119 64 = some (.iadd) := rfl
theorem q_119_65 : g_co X 119 65 = some (.iaload) := rfl
theorem q_119_66 : g_co X 119 66 = some (.iadd) := rfl
theorem q_119_67 : g_co X 119 67 = some (.istore_n 3) := rfl
theorem q_119_68 : g_co X 119 68 = some (.iinc 4 1) := rfl
theorem q_119_71 : g_co X 119 71 = some (.goto (-22)) := rfl
theorem q_119_74 : g_co X 119 74 = some (.iload_n 1) := rfl
theorem q_119_75 : g_co X 119 75 = some (.tableswitch 84 0 7 #[45, 52, 54, 59, 61, 69, 74, 79]) := rfl
theorem q_119_120 : g_co X 119 120 = some (.aload_n 0) := rfl
theorem q_119_121 : g_co X 119 121 = some (.getfield 30) := rfl
theorem q_119_124 : g_co X 119 124 = some (.iconst 0) := rfl
theorem q_119_125 : g_co X 119 125 = some (.iaload) := rfl
theorem q_119_126 : g_co X 119 126 = some (.ireturn) := rfl
theorem q_119_127 : g_co X 119 127 = some (.iload_n 2) := rfl
theorem q_119_128 : g_co X 119 128 = some (.ireturn) := rfl
theorem q_119_129 : g_co X 119 129 = some (.aload_n 0) := rfl
theorem q_119_130 : g_co X 119 130 = some (.getfield 341) := rfl
theorem q_119_133 : g_co X 119 133 = some (.ireturn) := rfl
theorem q_119_134 : g_co X 119 134 = some (.iload_n 3) := rfl
theorem q_119_135 : g_co X 119 135 = some (.ireturn) := rfl
theorem q_119_136 : g_co X 119 136 = some (.aload_n 0) := rfl
theorem q_119_137 : g_co X 119 137 = some (.getfield 48) := rfl
theorem q_119_140 : g_co X 119 140 = some (.bipush 26) := rfl
theorem q_119_142 : g_co X 119 142 = some (.iaload) := rfl
theorem q_119_143 : g_co X 119 143 = some (.ireturn) := rfl
theorem q_119_144 : g_co X 119 144 = some (.aload_n 0) := rfl
theorem q_119_145 : g_co X 119 145 = some (.getfield 284) := rfl
theorem q_119_148 : g_co X 119 148 = some (.ireturn) := rfl
theorem q_119_149 : g_co X 119 149 = some (.aload_n 0) := rfl
theorem q_119_150 : g_co X 119 150 = some (.getfield 421) := rfl
theorem q_119_153 : g_co X 119 153 = some (.ireturn) := rfl
theorem q_119_154 : g_co X 119 154 = some (.aload_n 0) := rfl
theorem q_119_155 : g_co X 119 155 = some (.getfield 129) := rfl
theorem q_119_158 : g_co X 119 158 = some (.ireturn) := rfl
theorem q_119_159 : g_co X 119 159 = some (.iconst (-1)) := rfl
theorem q_119_160 : g_co X 119 160 = some (.ireturn) := rfl
theorem qb_1_15 : j_br 1 (15) = some 16 := rfl
theorem qb_2_5 : j_br 2 (5) = some 7 := rfl
theorem qb_2_7 : j_br 2 (7) = some 9 := rfl
theorem qb_2_12 : j_br 2 (12) = some 14 := rfl
theorem qb_3_13 : j_br 3 (13) = some 16 := rfl
theorem qb_3_19 : j_br 3 (19) = some 22 := rfl
theorem qb_4_5 : j_br 4 (5) = some 9 := rfl
theorem qb_4_13 : j_br 4 (13) = some 17 := rfl
theorem qb_4_22 : j_br 4 (22) = some 26 := rfl
theorem qb_4_25 : j_br 4 (25) = some 29 := rfl
theorem qb_5_5 : j_br 5 (5) = some 10 := rfl
theorem qb_5_7 : j_br 5 (7) = some 12 := rfl
theorem qb_5_18 : j_br 5 (18) = some 23 := rfl
theorem qb_5_36 : j_br 5 (36) = some 41 := rfl
theorem qb_5_44 : j_br 5 (44) = some 49 := rfl
theorem qb_5_130 : j_br 5 (130) = some 135 := rfl
theorem qb_6_4 : j_br 6 (4) = some 10 := rfl
theorem qb_6_8 : j_br 6 (8) = some 14 := rfl
theorem qb_6_12 : j_br 6 (12) = some 18 := rfl
theorem qb_6_13 : j_br 6 (13) = some 19 := rfl
theorem qb_6_16 : j_br 6 (16) = some 22 := rfl
theorem qb_6_25 : j_br 6 (25) = some 31 := rfl
theorem qb_7_7 : j_br 7 (7) = some 14 := rfl
theorem qb_7_11 : j_br 7 (11) = some 18 := rfl
theorem qb_7_15 : j_br 7 (15) = some 22 := rfl
theorem qb_7_17 : j_br 7 (17) = some 24 := rfl
theorem qb_7_18 : j_br 7 (18) = some 25 := rfl
theorem qb_7_29 : j_br 7 (29) = some 36 := rfl
theorem qb_7_40 : j_br 7 (40) = some 47 := rfl
theorem qb_7_58 : j_br 7 (58) = some 65 := rfl
theorem qb_7_257 : j_br 7 (257) = some 264 := rfl
theorem qb_8_5 : j_br 8 (5) = some 13 := rfl
theorem qb_8_8 : j_br 8 (8) = some 16 := rfl
theorem qb_8_17 : j_br 8 (17) = some 25 := rfl
theorem qb_9_7 : j_br 9 (7) = some 16 := rfl
theorem qb_9_8 : j_br 9 (8) = some 17 := rfl
theorem qb_9_31 : j_br 9 (31) = some 40 := rfl
theorem qb_9_43 : j_br 9 (43) = some 52 := rfl
theorem qb_9_44 : j_br 9 (44) = some 53 := rfl
theorem qb_9_60 : j_br 9 (60) = some 69 := rfl
theorem qb_10_5 : j_br 10 (5) = some 15 := rfl
theorem qb_10_8 : j_br 10 (8) = some 18 := rfl
theorem qb_10_16 : j_br 10 (16) = some 26 := rfl
theorem qb_10_22 : j_br 10 (22) = some 32 := rfl
theorem qb_11_4 : j_br 11 (4) = some 15 := rfl
theorem qb_11_5 : j_br 11 (5) = some 16 := rfl
theorem qb_11_7 : j_br 11 (7) = some 18 := rfl
theorem qb_11_11 : j_br 11 (11) = some 22 := rfl
theorem qb_11_15 : j_br 11 (15) = some 26 := rfl
theorem qb_11_16 : j_br 11 (16) = some 27 := rfl
theorem qb_11_18 : j_br 11 (18) = some 29 := rfl
theorem qb_12_7 : j_br 12 (7) = some 19 := rfl
theorem qb_12_12 : j_br 12 (12) = some 24 := rfl
theorem qb_12_13 : j_br 12 (13) = some 25 := rfl
theorem qb_12_22 : j_br 12 (22) = some 34 := rfl
theorem qb_12_32 : j_br 12 (32) = some 44 := rfl
theorem qb_12_37 : j_br 12 (37) = some 49 := rfl
theorem qb_13_4 : j_br 13 (4) = some 17 := rfl
theorem qb_13_7 : j_br 13 (7) = some 20 := rfl
theorem qb_13_16 : j_br 13 (16) = some 29 := rfl
theorem qb_13_76 : j_br 13 (76) = some 89 := rfl
theorem qb_13_84 : j_br 13 (84) = some 97 := rfl
theorem qb_14_9 : j_br 14 (9) = some 23 := rfl
theorem qb_14_10 : j_br 14 (10) = some 24 := rfl
theorem qb_14_23 : j_br 14 (23) = some 37 := rfl
theorem qb_14_37 : j_br 14 (37) = some 51 := rfl
theorem qb_14_44 : j_br 14 (44) = some 58 := rfl
theorem qb_14_63 : j_br 14 (63) = some 77 := rfl
theorem qb_15_4 : j_br 15 (4) = some 19 := rfl
theorem qb_15_5 : j_br 15 (5) = some 20 := rfl
theorem qb_15_7 : j_br 15 (7) = some 22 := rfl
theorem qb_15_18 : j_br 15 (18) = some 33 := rfl
theorem qb_15_65 : j_br 15 (65) = some 80 := rfl
theorem qb_16_4 : j_br 16 (4) = some 20 := rfl
theorem qb_16_7 : j_br 16 (7) = some 23 := rfl
theorem qb_16_12 : j_br 16 (12) = some 28 := rfl
theorem qb_16_13 : j_br 16 (13) = some 29 := rfl
theorem qb_16_25 : j_br 16 (25) = some 41 := rfl
theorem qb_16_30 : j_br 16 (30) = some 46 := rfl
theorem qb_16_32 : j_br 16 (32) = some 48 := rfl
theorem qb_16_61 : j_br 16 (61) = some 77 := rfl
theorem qb_17_4 : j_br 17 (4) = some 21 := rfl
theorem qb_17_7 : j_br 17 (7) = some 24 := rfl
theorem qb_17_12 : j_br 17 (12) = some 29 := rfl
theorem qb_17_19 : j_br 17 (19) = some 36 := rfl
theorem qb_17_23 : j_br 17 (23) = some 40 := rfl
theorem qb_17_36 : j_br 17 (36) = some 53 := rfl
theorem qb_17_104 : j_br 17 (104) = some 121 := rfl
theorem qb_18_7 : j_br 18 (7) = some 25 := rfl
theorem qb_18_79 : j_br 18 (79) = some 97 := rfl
theorem qb_19_m16 : j_br 19 (-16) = some 3 := rfl
theorem qb_19_4 : j_br 19 (4) = some 23 := rfl
theorem qb_19_7 : j_br 19 (7) = some 26 := rfl
theorem qb_19_12 : j_br 19 (12) = some 31 := rfl
theorem qb_19_27 : j_br 19 (27) = some 46 := rfl
theorem qb_19_29 : j_br 19 (29) = some 48 := rfl
theorem qb_20_m18 : j_br 20 (-18) = some 2 := rfl
theorem qb_20_4 : j_br 20 (4) = some 24 := rfl
theorem qb_20_5 : j_br 20 (5) = some 25 := rfl
theorem qb_20_7 : j_br 20 (7) = some 27 := rfl
theorem qb_21_m17 : j_br 21 (-17) = some 4 := rfl
theorem qb_21_4 : j_br 21 (4) = some 25 := rfl
theorem qb_21_7 : j_br 21 (7) = some 28 := rfl
theorem qb_21_12 : j_br 21 (12) = some 33 := rfl
theorem qb_21_13 : j_br 21 (13) = some 34 := rfl
theorem qb_21_14 : j_br 21 (14) = some 35 := rfl
theorem qb_21_24 : j_br 21 (24) = some 45 := rfl
theorem qb_21_32 : j_br 21 (32) = some 53 := rfl
theorem qb_21_40 : j_br 21 (40) = some 61 := rfl
theorem qb_22_m17 : j_br 22 (-17) = some 5 := rfl
theorem qb_22_4 : j_br 22 (4) = some 26 := rfl
theorem qb_22_7 : j_br 22 (7) = some 29 := rfl
theorem qb_22_12 : j_br 22 (12) = some 34 := rfl
theorem qb_22_26 : j_br 22 (26) = some 48 := rfl
theorem qb_22_33 : j_br 22 (33) = some 55 := rfl
theorem qb_23_m23 : j_br 23 (-23) = some 0 := rfl
theorem qb_23_4 : j_br 23 (4) = some 27 := rfl
theorem qb_23_7 : j_br 23 (7) = some 30 := rfl
theorem qb_23_8 : j_br 23 (8) = some 31 := rfl
theorem qb_23_25 : j_br 23 (25) = some 48 := rfl
theorem qb_23_29 : j_br 23 (29) = some 52 := rfl
theorem qb_24_m24 : j_br 24 (-24) = some 0 := rfl
theorem qb_24_4 : j_br 24 (4) = some 28 := rfl
theorem qb_24_5 : j_br 24 (5) = some 29 := rfl
theorem qb_24_11 : j_br 24 (11) = some 35 := rfl
theorem qb_24_29 : j_br 24 (29) = some 53 := rfl
theorem qb_25_4 : j_br 25 (4) = some 29 := rfl
theorem qb_25_5 : j_br 25 (5) = some 30 := rfl
theorem qb_25_6 : j_br 25 (6) = some 31 := rfl
theorem qb_25_24 : j_br 25 (24) = some 49 := rfl
theorem qb_25_25 : j_br 25 (25) = some 50 := rfl
theorem qb_25_29 : j_br 25 (29) = some 54 := rfl
theorem qb_25_48 : j_br 25 (48) = some 73 := rfl
theorem qb_26_4 : j_br 26 (4) = some 30 := rfl
theorem qb_26_8 : j_br 26 (8) = some 34 := rfl
theorem qb_26_12 : j_br 26 (12) = some 38 := rfl
theorem qb_26_14 : j_br 26 (14) = some 40 := rfl
theorem qb_26_15 : j_br 26 (15) = some 41 := rfl
theorem qb_26_16 : j_br 26 (16) = some 42 := rfl
theorem qb_26_23 : j_br 26 (23) = some 49 := rfl
theorem qb_27_4 : j_br 27 (4) = some 31 := rfl
theorem qb_27_5 : j_br 27 (5) = some 32 := rfl
theorem qb_27_8 : j_br 27 (8) = some 35 := rfl
theorem qb_27_23 : j_br 27 (23) = some 50 := rfl
theorem qb_27_26 : j_br 27 (26) = some 53 := rfl
theorem qb_27_93 : j_br 27 (93) = some 120 := rfl
theorem qb_28_m26 : j_br 28 (-26) = some 2 := rfl
theorem qb_28_4 : j_br 28 (4) = some 32 := rfl
theorem qb_28_9 : j_br 28 (9) = some 37 := rfl
theorem qb_28_20 : j_br 28 (20) = some 48 := rfl
theorem qb_28_101 : j_br 28 (101) = some 129 := rfl
theorem qb_28_119 : j_br 28 (119) = some 147 := rfl
theorem qb_29_5 : j_br 29 (5) = some 34 := rfl
theorem qb_30_m18 : j_br 30 (-18) = some 12 := rfl
theorem qb_30_4 : j_br 30 (4) = some 34 := rfl
theorem qb_30_7 : j_br 30 (7) = some 37 := rfl
theorem qb_30_44 : j_br 30 (44) = some 74 := rfl
theorem qb_30_64 : j_br 30 (64) = some 94 := rfl
theorem qb_31_5 : j_br 31 (5) = some 36 := rfl
theorem qb_31_7 : j_br 31 (7) = some 38 := rfl
theorem qb_31_13 : j_br 31 (13) = some 44 := rfl
theorem qb_32_10 : j_br 32 (10) = some 42 := rfl
theorem qb_33_m31 : j_br 33 (-31) = some 2 := rfl
theorem qb_33_5 : j_br 33 (5) = some 38 := rfl
theorem qb_33_7 : j_br 33 (7) = some 40 := rfl
theorem qb_33_8 : j_br 33 (8) = some 41 := rfl
theorem qb_33_19 : j_br 33 (19) = some 52 := rfl
theorem qb_33_29 : j_br 33 (29) = some 62 := rfl
theorem qb_33_30 : j_br 33 (30) = some 63 := rfl
theorem qb_33_62 : j_br 33 (62) = some 95 := rfl
theorem qb_34_4 : j_br 34 (4) = some 38 := rfl
theorem qb_34_5 : j_br 34 (5) = some 39 := rfl
theorem qb_34_7 : j_br 34 (7) = some 41 := rfl
theorem qb_34_68 : j_br 34 (68) = some 102 := rfl
theorem qb_35_4 : j_br 35 (4) = some 39 := rfl
theorem qb_35_5 : j_br 35 (5) = some 40 := rfl
theorem qb_35_7 : j_br 35 (7) = some 42 := rfl
theorem qb_35_14 : j_br 35 (14) = some 49 := rfl
theorem qb_36_5 : j_br 36 (5) = some 41 := rfl
theorem qb_36_11 : j_br 36 (11) = some 47 := rfl
theorem qb_36_12 : j_br 36 (12) = some 48 := rfl
theorem qb_36_25 : j_br 36 (25) = some 61 := rfl
theorem qb_37_m33 : j_br 37 (-33) = some 4 := rfl
theorem qb_37_m22 : j_br 37 (-22) = some 15 := rfl
theorem qb_37_4 : j_br 37 (4) = some 41 := rfl
theorem qb_37_7 : j_br 37 (7) = some 44 := rfl
theorem qb_37_16 : j_br 37 (16) = some 53 := rfl
theorem qb_37_39 : j_br 37 (39) = some 76 := rfl
theorem qb_38_m36 : j_br 38 (-36) = some 2 := rfl
theorem qb_38_m27 : j_br 38 (-27) = some 11 := rfl
theorem qb_38_4 : j_br 38 (4) = some 42 := rfl
theorem qb_38_5 : j_br 38 (5) = some 43 := rfl
theorem qb_38_7 : j_br 38 (7) = some 45 := rfl
theorem qb_38_9 : j_br 38 (9) = some 47 := rfl
theorem qb_38_10 : j_br 38 (10) = some 48 := rfl
theorem qb_38_21 : j_br 38 (21) = some 59 := rfl
theorem qb_38_64 : j_br 38 (64) = some 102 := rfl
theorem qb_39_4 : j_br 39 (4) = some 43 := rfl
theorem qb_39_50 : j_br 39 (50) = some 89 := rfl
theorem qb_39_58 : j_br 39 (58) = some 97 := rfl
theorem qb_39_127 : j_br 39 (127) = some 166 := rfl
theorem qb_40_7 : j_br 40 (7) = some 47 := rfl
theorem qb_40_20 : j_br 40 (20) = some 60 := rfl
theorem qb_40_23 : j_br 40 (23) = some 63 := rfl
theorem qb_41_m37 : j_br 41 (-37) = some 4 := rfl
theorem qb_41_5 : j_br 41 (5) = some 46 := rfl
theorem qb_41_6 : j_br 41 (6) = some 47 := rfl
theorem qb_41_7 : j_br 41 (7) = some 48 := rfl
theorem qb_42_m26 : j_br 42 (-26) = some 16 := rfl
theorem qb_42_4 : j_br 42 (4) = some 46 := rfl
theorem qb_42_6 : j_br 42 (6) = some 48 := rfl
theorem qb_42_18 : j_br 42 (18) = some 60 := rfl
theorem qb_42_19 : j_br 42 (19) = some 61 := rfl
theorem qb_42_53 : j_br 42 (53) = some 95 := rfl
theorem qb_43_m31 : j_br 43 (-31) = some 12 := rfl
theorem qb_43_m28 : j_br 43 (-28) = some 15 := rfl
theorem qb_43_5 : j_br 43 (5) = some 48 := rfl
theorem qb_43_7 : j_br 43 (7) = some 50 := rfl
theorem qb_43_9 : j_br 43 (9) = some 52 := rfl
theorem qb_44_m42 : j_br 44 (-42) = some 2 := rfl
theorem qb_44_m19 : j_br 44 (-19) = some 25 := rfl
theorem qb_44_4 : j_br 44 (4) = some 48 := rfl
theorem qb_44_7 : j_br 44 (7) = some 51 := rfl
theorem qb_44_24 : j_br 44 (24) = some 68 := rfl
theorem qb_45_4 : j_br 45 (4) = some 49 := rfl
theorem qb_45_5 : j_br 45 (5) = some 50 := rfl
theorem qb_45_8 : j_br 45 (8) = some 53 := rfl
theorem qb_45_10 : j_br 45 (10) = some 55 := rfl
theorem qb_45_11 : j_br 45 (11) = some 56 := rfl
theorem qb_45_46 : j_br 45 (46) = some 91 := rfl
theorem qb_45_67 : j_br 45 (67) = some 112 := rfl
theorem qb_45_84 : j_br 45 (84) = some 129 := rfl
theorem qb_46_m44 : j_br 46 (-44) = some 2 := rfl
theorem qb_46_5 : j_br 46 (5) = some 51 := rfl
theorem qb_46_7 : j_br 46 (7) = some 53 := rfl
theorem qb_46_8 : j_br 46 (8) = some 54 := rfl
theorem qb_46_15 : j_br 46 (15) = some 61 := rfl
theorem qb_46_22 : j_br 46 (22) = some 68 := rfl
theorem qb_46_27 : j_br 46 (27) = some 73 := rfl
theorem qb_47_m23 : j_br 47 (-23) = some 24 := rfl
theorem qb_47_4 : j_br 47 (4) = some 51 := rfl
theorem qb_47_5 : j_br 47 (5) = some 52 := rfl
theorem qb_47_11 : j_br 47 (11) = some 58 := rfl
theorem qb_47_18 : j_br 47 (18) = some 65 := rfl
theorem qb_47_24 : j_br 47 (24) = some 71 := rfl
theorem qb_48_m36 : j_br 48 (-36) = some 12 := rfl
theorem qb_48_15 : j_br 48 (15) = some 63 := rfl
theorem qb_48_17 : j_br 48 (17) = some 65 := rfl
theorem qb_48_28 : j_br 48 (28) = some 76 := rfl
theorem qb_49_m44 : j_br 49 (-44) = some 5 := rfl
theorem qb_49_7 : j_br 49 (7) = some 56 := rfl
theorem qb_49_51 : j_br 49 (51) = some 100 := rfl
theorem qb_50_m45 : j_br 50 (-45) = some 5 := rfl
theorem qb_50_m36 : j_br 50 (-36) = some 14 := rfl
theorem qb_50_4 : j_br 50 (4) = some 54 := rfl
theorem qb_50_7 : j_br 50 (7) = some 57 := rfl
theorem qb_50_12 : j_br 50 (12) = some 62 := rfl
theorem qb_50_130 : j_br 50 (130) = some 180 := rfl
theorem qb_51_m32 : j_br 51 (-32) = some 19 := rfl
theorem qb_51_7 : j_br 51 (7) = some 58 := rfl
theorem qb_51_11 : j_br 51 (11) = some 62 := rfl
theorem qb_51_12 : j_br 51 (12) = some 63 := rfl
theorem qb_52_4 : j_br 52 (4) = some 56 := rfl
theorem qb_52_22 : j_br 52 (22) = some 74 := rfl
theorem qb_53_4 : j_br 53 (4) = some 57 := rfl
theorem qb_53_7 : j_br 53 (7) = some 60 := rfl
theorem qb_53_12 : j_br 53 (12) = some 65 := rfl
theorem qb_53_80 : j_br 53 (80) = some 133 := rfl
theorem qb_53_82 : j_br 53 (82) = some 135 := rfl
theorem qb_54_5 : j_br 54 (5) = some 59 := rfl
theorem qb_54_6 : j_br 54 (6) = some 60 := rfl
theorem qb_54_8 : j_br 54 (8) = some 62 := rfl
theorem qb_54_22 : j_br 54 (22) = some 76 := rfl
theorem qb_55_m43 : j_br 55 (-43) = some 12 := rfl
theorem qb_55_4 : j_br 55 (4) = some 59 := rfl
theorem qb_55_7 : j_br 55 (7) = some 62 := rfl
theorem qb_56_6 : j_br 56 (6) = some 62 := rfl
theorem qb_56_9 : j_br 56 (9) = some 65 := rfl
theorem qb_56_23 : j_br 56 (23) = some 79 := rfl
theorem qb_56_33 : j_br 56 (33) = some 89 := rfl
theorem qb_56_39 : j_br 56 (39) = some 95 := rfl
theorem qb_57_4 : j_br 57 (4) = some 61 := rfl
theorem qb_58_m50 : j_br 58 (-50) = some 8 := rfl
theorem qb_58_m25 : j_br 58 (-25) = some 33 := rfl
theorem qb_58_5 : j_br 58 (5) = some 63 := rfl
theorem qb_58_16 : j_br 58 (16) = some 74 := rfl
theorem qb_58_25 : j_br 58 (25) = some 83 := rfl
theorem qb_58_122 : j_br 58 (122) = some 180 := rfl
theorem qb_59_m29 : j_br 59 (-29) = some 30 := rfl
theorem qb_59_5 : j_br 59 (5) = some 64 := rfl
theorem qb_59_7 : j_br 59 (7) = some 66 := rfl
theorem qb_59_8 : j_br 59 (8) = some 67 := rfl
theorem qb_59_14 : j_br 59 (14) = some 73 := rfl
theorem qb_59_17 : j_br 59 (17) = some 76 := rfl
theorem qb_59_37 : j_br 59 (37) = some 96 := rfl
theorem qb_60_13 : j_br 60 (13) = some 73 := rfl
theorem qb_60_14 : j_br 60 (14) = some 74 := rfl
theorem qb_60_18 : j_br 60 (18) = some 78 := rfl
theorem qb_60_19 : j_br 60 (19) = some 79 := rfl
theorem qb_60_37 : j_br 60 (37) = some 97 := rfl
theorem qb_61_19 : j_br 61 (19) = some 80 := rfl
theorem qb_61_29 : j_br 61 (29) = some 90 := rfl
theorem qb_62_m60 : j_br 62 (-60) = some 2 := rfl
theorem qb_62_4 : j_br 62 (4) = some 66 := rfl
theorem qb_62_9 : j_br 62 (9) = some 71 := rfl
theorem qb_63_4 : j_br 63 (4) = some 67 := rfl
theorem qb_63_32 : j_br 63 (32) = some 95 := rfl
theorem qb_64_6 : j_br 64 (6) = some 70 := rfl
theorem qb_64_7 : j_br 64 (7) = some 71 := rfl
theorem qb_65_5 : j_br 65 (5) = some 70 := rfl
theorem qb_65_8 : j_br 65 (8) = some 73 := rfl
theorem qb_65_12 : j_br 65 (12) = some 77 := rfl
theorem qb_65_22 : j_br 65 (22) = some 87 := rfl
theorem qb_65_31 : j_br 65 (31) = some 96 := rfl
theorem qb_65_44 : j_br 65 (44) = some 109 := rfl
theorem qb_66_m62 : j_br 66 (-62) = some 4 := rfl
theorem qb_66_8 : j_br 66 (8) = some 74 := rfl
theorem qb_66_16 : j_br 66 (16) = some 82 := rfl
theorem qb_66_17 : j_br 66 (17) = some 83 := rfl
theorem qb_66_24 : j_br 66 (24) = some 90 := rfl
theorem qb_68_4 : j_br 68 (4) = some 72 := rfl
theorem qb_68_8 : j_br 68 (8) = some 76 := rfl
theorem qb_68_31 : j_br 68 (31) = some 99 := rfl
theorem qb_68_106 : j_br 68 (106) = some 174 := rfl
theorem qb_69_5 : j_br 69 (5) = some 74 := rfl
theorem qb_69_8 : j_br 69 (8) = some 77 := rfl
theorem qb_69_9 : j_br 69 (9) = some 78 := rfl
theorem qb_70_m54 : j_br 70 (-54) = some 16 := rfl
theorem qb_70_m28 : j_br 70 (-28) = some 42 := rfl
theorem qb_70_4 : j_br 70 (4) = some 74 := rfl
theorem qb_70_39 : j_br 70 (39) = some 109 := rfl
theorem qb_71_m47 : j_br 71 (-47) = some 24 := rfl
theorem qb_71_m22 : j_br 71 (-22) = some 49 := rfl
theorem qb_71_5 : j_br 71 (5) = some 76 := rfl
theorem qb_71_11 : j_br 71 (11) = some 82 := rfl
theorem qb_71_29 : j_br 71 (29) = some 100 := rfl
theorem qb_73_m23 : j_br 73 (-23) = some 50 := rfl
theorem qb_73_4 : j_br 73 (4) = some 77 := rfl
theorem qb_74_m62 : j_br 74 (-62) = some 12 := rfl
theorem qb_74_m60 : j_br 74 (-60) = some 14 := rfl
theorem qb_74_12 : j_br 74 (12) = some 86 := rfl
theorem qb_74_23 : j_br 74 (23) = some 97 := rfl
theorem qb_75_5 : j_br 75 (5) = some 80 := rfl
theorem qb_75_6 : j_br 75 (6) = some 81 := rfl
theorem qb_75_7 : j_br 75 (7) = some 82 := rfl
theorem qb_75_10 : j_br 75 (10) = some 85 := rfl
theorem qb_75_14 : j_br 75 (14) = some 89 := rfl
theorem qb_76_m25 : j_br 76 (-25) = some 51 := rfl
theorem qb_76_6 : j_br 76 (6) = some 82 := rfl
theorem qb_77_m68 : j_br 77 (-68) = some 9 := rfl
theorem qb_77_5 : j_br 77 (5) = some 82 := rfl
theorem qb_77_6 : j_br 77 (6) = some 83 := rfl
theorem qb_77_18 : j_br 77 (18) = some 95 := rfl
theorem qb_78_9 : j_br 78 (9) = some 87 := rfl
theorem qb_78_10 : j_br 78 (10) = some 88 := rfl
theorem qb_79_4 : j_br 79 (4) = some 83 := rfl
theorem qb_79_7 : j_br 79 (7) = some 86 := rfl
theorem qb_79_12 : j_br 79 (12) = some 91 := rfl
theorem qb_79_95 : j_br 79 (95) = some 174 := rfl
theorem qb_80_m25 : j_br 80 (-25) = some 55 := rfl
theorem qb_81_7 : j_br 81 (7) = some 88 := rfl
theorem qb_82_4 : j_br 82 (4) = some 86 := rfl
theorem qb_82_22 : j_br 82 (22) = some 104 := rfl
theorem qb_83_6 : j_br 83 (6) = some 89 := rfl
theorem qb_83_27 : j_br 83 (27) = some 110 := rfl
theorem qb_84_m22 : j_br 84 (-22) = some 62 := rfl
theorem qb_85_4 : j_br 85 (4) = some 89 := rfl
theorem qb_86_m77 : j_br 86 (-77) = some 9 := rfl
theorem qb_86_m36 : j_br 86 (-36) = some 50 := rfl
theorem qb_86_15 : j_br 86 (15) = some 101 := rfl
theorem qb_87_m28 : j_br 87 (-28) = some 59 := rfl
theorem qb_87_12 : j_br 87 (12) = some 99 := rfl
theorem qb_87_16 : j_br 87 (16) = some 103 := rfl
theorem qb_87_29 : j_br 87 (29) = some 116 := rfl
theorem qb_87_56 : j_br 87 (56) = some 143 := rfl
theorem qb_88_m54 : j_br 88 (-54) = some 34 := rfl
theorem qb_88_9 : j_br 88 (9) = some 97 := rfl
theorem qb_90_13 : j_br 90 (13) = some 103 := rfl
theorem qb_90_16 : j_br 90 (16) = some 106 := rfl
theorem qb_91_m66 : j_br 91 (-66) = some 25 := rfl
theorem qb_91_5 : j_br 91 (5) = some 96 := rfl
theorem qb_91_7 : j_br 91 (7) = some 98 := rfl
theorem qb_91_22 : j_br 91 (22) = some 113 := rfl
theorem qb_92_m55 : j_br 92 (-55) = some 37 := rfl
theorem qb_92_m35 : j_br 92 (-35) = some 57 := rfl
theorem qb_92_7 : j_br 92 (7) = some 99 := rfl
theorem qb_93_7 : j_br 93 (7) = some 100 := rfl
theorem qb_93_9 : j_br 93 (9) = some 102 := rfl
theorem qb_94_m85 : j_br 94 (-85) = some 9 := rfl
theorem qb_94_m77 : j_br 94 (-77) = some 17 := rfl
theorem qb_95_4 : j_br 95 (4) = some 99 := rfl
theorem qb_95_5 : j_br 95 (5) = some 100 := rfl
theorem qb_96_4 : j_br 96 (4) = some 100 := rfl
theorem qb_96_7 : j_br 96 (7) = some 103 := rfl
theorem qb_96_14 : j_br 96 (14) = some 110 := rfl
theorem qb_96_16 : j_br 96 (16) = some 112 := rfl
theorem qb_96_41 : j_br 96 (41) = some 137 := rfl
theorem qb_97_4 : j_br 97 (4) = some 101 := rfl
theorem qb_97_7 : j_br 97 (7) = some 104 := rfl
theorem qb_98_m22 : j_br 98 (-22) = some 76 := rfl
theorem qb_98_30 : j_br 98 (30) = some 128 := rfl
theorem qb_99_m68 : j_br 99 (-68) = some 31 := rfl
theorem qb_99_6 : j_br 99 (6) = some 105 := rfl
theorem qb_99_7 : j_br 99 (7) = some 106 := rfl
theorem qb_99_11 : j_br 99 (11) = some 110 := rfl
theorem qb_100_m16 : j_br 100 (-16) = some 84 := rfl
theorem qb_100_4 : j_br 100 (4) = some 104 := rfl
theorem qb_101_4 : j_br 101 (4) = some 105 := rfl
theorem qb_102_23 : j_br 102 (23) = some 125 := rfl
theorem qb_102_66 : j_br 102 (66) = some 168 := rfl
theorem qb_103_4 : j_br 103 (4) = some 107 := rfl
theorem qb_105_32 : j_br 105 (32) = some 137 := rfl
theorem qb_106_m45 : j_br 106 (-45) = some 61 := rfl
theorem qb_107_m28 : j_br 107 (-28) = some 79 := rfl
theorem qb_109_m73 : j_br 109 (-73) = some 36 := rfl
theorem qb_110_7 : j_br 110 (7) = some 117 := rfl
theorem qb_111_18 : j_br 111 (18) = some 129 := rfl
theorem qb_111_25 : j_br 111 (25) = some 136 := rfl
theorem qb_111_54 : j_br 111 (54) = some 165 := rfl
theorem qb_112_6 : j_br 112 (6) = some 118 := rfl
theorem qb_113_m29 : j_br 113 (-29) = some 84 := rfl
theorem qb_113_23 : j_br 113 (23) = some 136 := rfl
theorem qb_114_27 : j_br 114 (27) = some 141 := rfl
theorem qb_114_36 : j_br 114 (36) = some 150 := rfl
theorem qb_115_11 : j_br 115 (11) = some 126 := rfl
theorem qb_115_22 : j_br 115 (22) = some 137 := rfl
theorem qb_115_35 : j_br 115 (35) = some 150 := rfl
theorem qb_117_m94 : j_br 117 (-94) = some 23 := rfl
theorem qb_117_17 : j_br 117 (17) = some 134 := rfl
theorem qb_117_24 : j_br 117 (24) = some 141 := rfl
theorem qb_118_6 : j_br 118 (6) = some 124 := rfl
theorem qb_118_7 : j_br 118 (7) = some 125 := rfl
theorem qb_120_7 : j_br 120 (7) = some 127 := rfl
theorem qb_121_47 : j_br 121 (47) = some 168 := rfl
theorem qb_122_m23 : j_br 122 (-23) = some 99 := rfl
theorem qb_122_4 : j_br 122 (4) = some 126 := rfl
theorem qb_122_14 : j_br 122 (14) = some 136 := rfl
theorem qb_123_4 : j_br 123 (4) = some 127 := rfl
theorem qb_123_12 : j_br 123 (12) = some 135 := rfl
theorem qb_123_18 : j_br 123 (18) = some 141 := rfl
theorem qb_124_4 : j_br 124 (4) = some 128 := rfl
theorem qb_124_5 : j_br 124 (5) = some 129 := rfl
theorem qb_127_17 : j_br 127 (17) = some 144 := rfl
theorem qb_128_6 : j_br 128 (6) = some 134 := rfl
theorem qb_129_9 : j_br 129 (9) = some 138 := rfl
theorem qb_129_12 : j_br 129 (12) = some 141 := rfl
theorem qb_130_m79 : j_br 130 (-79) = some 51 := rfl
theorem qb_131_19 : j_br 131 (19) = some 150 := rfl
theorem qb_131_28 : j_br 131 (28) = some 159 := rfl
theorem qb_132_m130 : j_br 132 (-130) = some 2 := rfl
theorem qb_132_m81 : j_br 132 (-81) = some 51 := rfl
theorem qb_132_5 : j_br 132 (5) = some 137 := rfl
theorem qb_132_6 : j_br 132 (6) = some 138 := rfl
theorem qb_132_22 : j_br 132 (22) = some 154 := rfl
theorem qb_133_m26 : j_br 133 (-26) = some 107 := rfl
theorem qb_133_m22 : j_br 133 (-22) = some 111 := rfl
theorem qb_140_m58 : j_br 140 (-58) = some 82 := rfl
theorem qb_141_m20 : j_br 141 (-20) = some 121 := rfl
theorem qb_141_23 : j_br 141 (23) = some 164 := rfl
theorem qb_142_11 : j_br 142 (11) = some 153 := rfl
theorem qb_144_m124 : j_br 144 (-124) = some 20 := rfl
theorem qb_145_5 : j_br 145 (5) = some 150 := rfl
theorem qb_147_8 : j_br 147 (8) = some 155 := rfl
theorem qb_147_21 : j_br 147 (21) = some 168 := rfl
theorem qb_147_26 : j_br 147 (26) = some 173 := rfl
theorem qb_147_105 : j_br 147 (105) = some 252 := rfl
theorem qb_149_16 : j_br 149 (16) = some 165 := rfl
theorem qb_150_4 : j_br 150 (4) = some 154 := rfl
theorem qb_150_6 : j_br 150 (6) = some 156 := rfl
theorem qb_152_5 : j_br 152 (5) = some 157 := rfl
theorem qb_153_11 : j_br 153 (11) = some 164 := rfl
theorem qb_153_12 : j_br 153 (12) = some 165 := rfl
theorem qb_153_99 : j_br 153 (99) = some 252 := rfl
theorem qb_154_14 : j_br 154 (14) = some 168 := rfl
theorem qb_157_13 : j_br 157 (13) = some 170 := rfl
theorem qb_158_7 : j_br 158 (7) = some 165 := rfl
theorem qb_159_16 : j_br 159 (16) = some 175 := rfl
theorem qb_161_m23 : j_br 161 (-23) = some 138 := rfl
theorem qb_162_m59 : j_br 162 (-59) = some 103 := rfl
theorem qb_162_7 : j_br 162 (7) = some 169 := rfl
theorem qb_163_m126 : j_br 163 (-126) = some 37 := rfl
theorem qb_164_7 : j_br 164 (7) = some 171 := rfl
theorem qb_165_52 : j_br 165 (52) = some 217 := rfl
theorem qb_167_27 : j_br 167 (27) = some 194 := rfl
theorem qb_168_12 : j_br 168 (12) = some 180 := rfl
theorem qb_168_36 : j_br 168 (36) = some 204 := rfl
theorem qb_169_4 : j_br 169 (4) = some 173 := rfl
theorem qb_169_6 : j_br 169 (6) = some 175 := rfl
theorem qb_170_m26 : j_br 170 (-26) = some 144 := rfl
theorem qb_171_m107 : j_br 171 (-107) = some 64 := rfl
theorem qb_171_15 : j_br 171 (15) = some 186 := rfl
theorem qb_172_32 : j_br 172 (32) = some 204 := rfl
theorem qb_174_8 : j_br 174 (8) = some 182 := rfl
theorem qb_177_m133 : j_br 177 (-133) = some 44 := rfl
theorem qb_177_9 : j_br 177 (9) = some 186 := rfl
theorem qb_178_14 : j_br 178 (14) = some 192 := rfl
theorem qb_178_16 : j_br 178 (16) = some 194 := rfl
theorem qb_179_8 : j_br 179 (8) = some 187 := rfl
theorem qb_183_7 : j_br 183 (7) = some 190 := rfl
theorem qb_183_10 : j_br 183 (10) = some 193 := rfl
theorem qb_183_14 : j_br 183 (14) = some 197 := rfl
theorem qb_184_9 : j_br 184 (9) = some 193 := rfl
theorem qb_185_11 : j_br 185 (11) = some 196 := rfl
theorem qb_185_73 : j_br 185 (73) = some 258 := rfl
theorem qb_187_8 : j_br 187 (8) = some 195 := rfl
theorem qb_187_17 : j_br 187 (17) = some 204 := rfl
theorem qb_189_11 : j_br 189 (11) = some 200 := rfl
theorem qb_190_4 : j_br 190 (4) = some 194 := rfl
theorem qb_190_6 : j_br 190 (6) = some 196 := rfl
theorem qb_191_13 : j_br 191 (13) = some 204 := rfl
theorem qb_192_4 : j_br 192 (4) = some 196 := rfl
theorem qb_194_58 : j_br 194 (58) = some 252 := rfl
theorem qb_196_7 : j_br 196 (7) = some 203 := rfl
theorem qb_198_13 : j_br 198 (13) = some 211 := rfl
theorem qb_200_4 : j_br 200 (4) = some 204 := rfl
theorem qb_200_9 : j_br 200 (9) = some 209 := rfl
theorem qb_205_6 : j_br 205 (6) = some 211 := rfl
theorem qb_209_7 : j_br 209 (7) = some 216 := rfl
theorem qb_209_9 : j_br 209 (9) = some 218 := rfl
theorem qb_210_13 : j_br 210 (13) = some 223 := rfl
theorem qb_213_10 : j_br 213 (10) = some 223 := rfl
theorem qb_213_40 : j_br 213 (40) = some 253 := rfl
theorem qb_214_m52 : j_br 214 (-52) = some 162 := rfl
theorem qb_214_26 : j_br 214 (26) = some 240 := rfl
theorem qb_219_5 : j_br 219 (5) = some 224 := rfl
theorem qb_220_4 : j_br 220 (4) = some 224 := rfl
theorem qb_220_7 : j_br 220 (7) = some 227 := rfl
theorem qb_224_4 : j_br 224 (4) = some 228 := rfl
theorem qb_225_13 : j_br 225 (13) = some 238 := rfl
theorem qb_225_19 : j_br 225 (19) = some 244 := rfl
theorem qb_232_15 : j_br 232 (15) = some 247 := rfl
theorem qb_233_7 : j_br 233 (7) = some 240 := rfl
theorem qb_235_82 : j_br 235 (82) = some 317 := rfl
theorem qb_237_4 : j_br 237 (4) = some 241 := rfl
theorem qb_237_7 : j_br 237 (7) = some 244 := rfl
theorem qb_240_12 : j_br 240 (12) = some 252 := rfl
theorem qb_241_4 : j_br 241 (4) = some 245 := rfl
theorem qb_241_8 : j_br 241 (8) = some 249 := rfl
theorem qb_242_5 : j_br 242 (5) = some 247 := rfl
theorem qb_246_5 : j_br 246 (5) = some 251 := rfl
theorem qb_249_m58 : j_br 249 (-58) = some 191 := rfl
theorem qb_249_68 : j_br 249 (68) = some 317 := rfl
theorem qb_254_9 : j_br 254 (9) = some 263 := rfl
theorem qb_254_13 : j_br 254 (13) = some 267 := rfl
theorem qb_254_28 : j_br 254 (28) = some 282 := rfl
theorem qb_255_m71 : j_br 255 (-71) = some 184 := rfl
theorem qb_261_m259 : j_br 261 (-259) = some 2 := rfl
theorem qb_264_53 : j_br 264 (53) = some 317 := rfl
theorem qb_270_13 : j_br 270 (13) = some 283 := rfl
theorem qb_271_5 : j_br 271 (5) = some 276 := rfl
theorem qb_279_m29 : j_br 279 (-29) = some 250 := rfl
theorem qb_280_37 : j_br 280 (37) = some 317 := rfl
theorem qb_284_7 : j_br 284 (7) = some 291 := rfl
theorem qb_286_11 : j_br 286 (11) = some 297 := rfl
theorem qb_288_4 : j_br 288 (4) = some 292 := rfl
theorem qb_294_23 : j_br 294 (23) = some 317 := rfl
theorem qb_300_13 : j_br 300 (13) = some 313 := rfl
theorem qb_310_7 : j_br 310 (7) = some 317 := rfl
theorem qf_11 {m : Nat} (h : m < 200) : g_fl X m 11 = some (11, 2, 0) := (if_pos h).trans rfl
theorem qf_15 {m : Nat} (h : m < 200) : g_fl X m 15 = some (11, 9, 9) := (if_pos h).trans rfl
theorem qf_21 {m : Nat} (h : m < 200) : g_fl X m 21 = some (11, 10, 9) := (if_pos h).trans rfl
theorem qf_24 {m : Nat} (h : m < 200) : g_fl X m 24 = some (11, 11, 9) := (if_pos h).trans rfl
theorem qf_27 {m : Nat} (h : m < 200) : g_fl X m 27 = some (11, 12, 9) := (if_pos h).trans rfl
theorem qf_30 {m : Nat} (h : m < 200) : g_fl X m 30 = some (11, 13, 9) := (if_pos h).trans rfl
theorem qf_33 {m : Nat} (h : m < 200) : g_fl X m 33 = some (11, 14, 9) := (if_pos h).trans rfl
theorem qf_36 {m : Nat} (h : m < 200) : g_fl X m 36 = some (11, 15, 9) := (if_pos h).trans rfl
theorem qf_39 {m : Nat} (h : m < 200) : g_fl X m 39 = some (11, 20, 9) := (if_pos h).trans rfl
theorem qf_42 {m : Nat} (h : m < 200) : g_fl X m 42 = some (11, 21, 9) := (if_pos h).trans rfl
theorem qf_45 {m : Nat} (h : m < 200) : g_fl X m 45 = some (11, 29, 0) := (if_pos h).trans rfl
theorem qf_48 {m : Nat} (h : m < 200) : g_fl X m 48 = some (11, 30, 9) := (if_pos h).trans rfl
theorem qf_51 {m : Nat} (h : m < 200) : g_fl X m 51 = some (11, 32, 9) := (if_pos h).trans rfl
theorem qf_54 {m : Nat} (h : m < 200) : g_fl X m 54 = some (11, 33, 9) := (if_pos h).trans rfl
theorem qf_57 {m : Nat} (h : m < 200) : g_fl X m 57 = some (11, 34, 9) := (if_pos h).trans rfl
theorem qf_60 {m : Nat} (h : m < 200) : g_fl X m 60 = some (11, 35, 9) := (if_pos h).trans rfl
theorem qf_63 {m : Nat} (h : m < 200) : g_fl X m 63 = some (11, 36, 9) := (if_pos h).trans rfl
theorem qf_68 {m : Nat} (h : m < 200) : g_fl X m 68 = some (11, 37, 9) := (if_pos h).trans rfl
theorem qf_71 {m : Nat} (h : m < 200) : g_fl X m 71 = some (11, 39, 9) := (if_pos h).trans rfl
theorem qf_74 {m : Nat} (h : m < 200) : g_fl X m 74 = some (11, 40, 9) := (if_pos h).trans rfl
theorem qf_77 {m : Nat} (h : m < 200) : g_fl X m 77 = some (11, 41, 9) := (if_pos h).trans rfl
theorem qf_80 {m : Nat} (h : m < 200) : g_fl X m 80 = some (11, 42, 9) := (if_pos h).trans rfl
theorem qf_83 {m : Nat} (h : m < 200) : g_fl X m 83 = some (11, 43, 9) := (if_pos h).trans rfl
theorem qf_87 {m : Nat} (h : m < 200) : g_fl X m 87 = some (11, 44, 9) := (if_pos h).trans rfl
theorem qf_90 {m : Nat} (h : m < 200) : g_fl X m 90 = some (11, 45, 9) := (if_pos h).trans rfl
theorem qf_93 {m : Nat} (h : m < 200) : g_fl X m 93 = some (11, 46, 9) := (if_pos h).trans rfl
theorem qf_96 {m : Nat} (h : m < 200) : g_fl X m 96 = some (11, 47, 9) := (if_pos h).trans rfl
theorem qf_99 {m : Nat} (h : m < 200) : g_fl X m 99 = some (11, 52, 9) := (if_pos h).trans rfl
theorem qf_102 {m : Nat} (h : m < 200) : g_fl X m 102 = some (11, 53, 9) := (if_pos h).trans rfl
theorem qf_105 {m : Nat} (h : m < 200) : g_fl X m 105 = some (11, 54, 9) := (if_pos h).trans rfl
theorem qf_108 {m : Nat} (h : m < 200) : g_fl X m 108 = some (11, 55, 9) := (if_pos h).trans rfl
theorem qf_111 {m : Nat} (h : m < 200) : g_fl X m 111 = some (11, 56, 9) := (if_pos h).trans rfl
theorem qf_114 {m : Nat} (h : m < 200) : g_fl X m 114 = some (11, 58, 9) := (if_pos h).trans rfl
theorem qf_117 {m : Nat} (h : m < 200) : g_fl X m 117 = some (11, 59, 9) := (if_pos h).trans rfl
theorem qf_126 {m : Nat} (h : m < 200) : g_fl X m 126 = some (11, 0, 0) := (if_pos h).trans rfl
theorem qf_129 {m : Nat} (h : m < 200) : g_fl X m 129 = some (11, 1, 0) := (if_pos h).trans rfl
theorem qf_132 {m : Nat} (h : m < 200) : g_fl X m 132 = some (11, 3, 0) := (if_pos h).trans rfl
theorem qf_135 {m : Nat} (h : m < 200) : g_fl X m 135 = some (11, 4, 0) := (if_pos h).trans rfl
theorem qf_138 {m : Nat} (h : m < 200) : g_fl X m 138 = some (11, 5, 0) := (if_pos h).trans rfl
theorem qf_145 {m : Nat} (h : m < 200) : g_fl X m 145 = some (11, 7, 0) := (if_pos h).trans rfl
theorem qf_148 {m : Nat} (h : m < 200) : g_fl X m 148 = some (11, 8, 0) := (if_pos h).trans rfl
theorem qf_177 {m : Nat} (h : m < 200) : g_fl X m 177 = some (11, 6, 0) := (if_pos h).trans rfl
theorem qf_180 {m : Nat} (h : m < 200) : g_fl X m 180 = some (11, 22, 1) := (if_pos h).trans rfl
theorem qf_184 {m : Nat} (h : m < 200) : g_fl X m 184 = some (11, 23, 1) := (if_pos h).trans rfl
theorem qf_187 {m : Nat} (h : m < 200) : g_fl X m 187 = some (11, 27, 0) := (if_pos h).trans rfl
theorem qf_203 {m : Nat} (h : m < 200) : g_fl X m 203 = some (11, 25, 0) := (if_pos h).trans rfl
theorem qf_241 {m : Nat} (h : m < 200) : g_fl X m 241 = some (11, 17, 0) := (if_pos h).trans rfl
theorem qf_275 {m : Nat} (h : m < 200) : g_fl X m 275 = some (11, 28, 0) := (if_pos h).trans rfl
theorem qf_278 {m : Nat} (h : m < 200) : g_fl X m 278 = some (11, 24, 1) := (if_pos h).trans rfl
theorem qf_281 {m : Nat} (h : m < 200) : g_fl X m 281 = some (11, 26, 0) := (if_pos h).trans rfl
theorem qf_284 {m : Nat} (h : m < 200) : g_fl X m 284 = some (11, 38, 0) := (if_pos h).trans rfl
theorem qf_294 {m : Nat} (h : m < 200) : g_fl X m 294 = some (11, 57, 0) := (if_pos h).trans rfl
theorem qf_300 {m : Nat} (h : m < 200) : g_fl X m 300 = some (11, 18, 0) := (if_pos h).trans rfl
theorem qf_303 {m : Nat} (h : m < 200) : g_fl X m 303 = some (11, 19, 0) := (if_pos h).trans rfl
theorem qf_316 {m : Nat} (h : m < 200) : g_fl X m 316 = some (11, 16, 0) := (if_pos h).trans rfl
theorem qf_341 {m : Nat} (h : m < 200) : g_fl X m 341 = some (11, 31, 0) := (if_pos h).trans rfl
theorem qf_393 {m : Nat} (h : m < 200) : g_fl X m 393 = some (11, 48, 0) := (if_pos h).trans rfl
theorem qf_396 {m : Nat} (h : m < 200) : g_fl X m 396 = some (11, 49, 0) := (if_pos h).trans rfl
theorem qf_399 {m : Nat} (h : m < 200) : g_fl X m 399 = some (11, 50, 1) := (if_pos h).trans rfl
theorem qf_421 {m : Nat} (h : m < 200) : g_fl X m 421 = some (11, 51, 0) := (if_pos h).trans rfl
theorem qm_120 {m : Nat} (h : m < 200) : g_ml X m 120 = some (0, 58, 0, 11) := (if_pos h).trans rfl
theorem qm_123 {m : Nat} (h : m < 200) : g_ml X m 123 = some (0, 109, 0, 11) := (if_pos h).trans rfl
theorem qm_141 {m : Nat} (h : m < 200) : g_ml X m 141 = some (0, 6, 1, 11) := (if_pos h).trans rfl
theorem qm_151 {m : Nat} (h : m < 200) : g_ml X m 151 = some (0, 7, 0, 11) := (if_pos h).trans rfl
theorem qm_154 {m : Nat} (h : m < 200) : g_ml X m 154 = some (1, 10, 1, 11) := (if_pos h).trans rfl
theorem qm_158 {m : Nat} (h : m < 200) : g_ml X m 158 = some (0, 11, 0, 11) := (if_pos h).trans rfl
theorem qm_162 {m : Nat} (h : m < 200) : g_ml X m 162 = some (1, 12, 6, 11) := (if_pos h).trans rfl
theorem qm_166 {m : Nat} (h : m < 200) : g_ml X m 166 = some (0, 8, 2, 11) := (if_pos h).trans rfl
theorem qm_170 {m : Nat} (h : m < 200) : g_ml X m 170 = some (1, 9, 1, 11) := (if_pos h).trans rfl
theorem qm_174 {m : Nat} (h : m < 200) : g_ml X m 174 = some (0, 16, 1, 11) := (if_pos h).trans rfl
theorem qm_190 {m : Nat} (h : m < 200) : g_ml X m 190 = some (0, 19, 0, 11) := (if_pos h).trans rfl
theorem qm_193 {m : Nat} (h : m < 200) : g_ml X m 193 = some (0, 20, 1, 11) := (if_pos h).trans rfl
theorem qm_196 {m : Nat} (h : m < 200) : g_ml X m 196 = some (0, 13, 6, 11) := (if_pos h).trans rfl
theorem qm_200 {m : Nat} (h : m < 200) : g_ml X m 200 = some (0, 14, 0, 11) := (if_pos h).trans rfl
theorem qm_206 {m : Nat} (h : m < 200) : g_ml X m 206 = some (0, 17, 1, 11) := (if_pos h).trans rfl
theorem qm_209 {m : Nat} (h : m < 200) : g_ml X m 209 = some (0, 21, 1, 11) := (if_pos h).trans rfl
theorem qm_212 {m : Nat} (h : m < 200) : g_ml X m 212 = some (0, 18, 1, 11) := (if_pos h).trans rfl
theorem qm_216 {m : Nat} (h : m < 200) : g_ml X m 216 = some (0, 24, 0, 11) := (if_pos h).trans rfl
theorem qm_219 {m : Nat} (h : m < 200) : g_ml X m 219 = some (0, 15, 1, 11) := (if_pos h).trans rfl
theorem qm_222 {m : Nat} (h : m < 200) : g_ml X m 222 = some (0, 22, 0, 11) := (if_pos h).trans rfl
theorem qm_225 {m : Nat} (h : m < 200) : g_ml X m 225 = some (0, 23, 0, 11) := (if_pos h).trans rfl
theorem qm_228 {m : Nat} (h : m < 200) : g_ml X m 228 = some (0, 25, 0, 11) := (if_pos h).trans rfl
theorem qm_232 {m : Nat} (h : m < 200) : g_ml X m 232 = some (0, 27, 0, 11) := (if_pos h).trans rfl
theorem qm_235 {m : Nat} (h : m < 200) : g_ml X m 235 = some (0, 26, 0, 11) := (if_pos h).trans rfl
theorem qm_238 {m : Nat} (h : m < 200) : g_ml X m 238 = some (0, 28, 0, 11) := (if_pos h).trans rfl
theorem qm_244 {m : Nat} (h : m < 200) : g_ml X m 244 = some (0, 30, 0, 11) := (if_pos h).trans rfl
theorem qm_247 {m : Nat} (h : m < 200) : g_ml X m 247 = some (1, 4, 3, 11) := (if_pos h).trans rfl
theorem qm_251 {m : Nat} (h : m < 200) : g_ml X m 251 = some (0, 31, 2, 11) := (if_pos h).trans rfl
theorem qm_254 {m : Nat} (h : m < 200) : g_ml X m 254 = some (0, 32, 2, 11) := (if_pos h).trans rfl
theorem qm_257 {m : Nat} (h : m < 200) : g_ml X m 257 = some (0, 34, 2, 11) := (if_pos h).trans rfl
theorem qm_260 {m : Nat} (h : m < 200) : g_ml X m 260 = some (0, 37, 2, 11) := (if_pos h).trans rfl
theorem qm_263 {m : Nat} (h : m < 200) : g_ml X m 263 = some (0, 38, 1, 11) := (if_pos h).trans rfl
theorem qm_266 {m : Nat} (h : m < 200) : g_ml X m 266 = some (0, 39, 2, 11) := (if_pos h).trans rfl
theorem qm_269 {m : Nat} (h : m < 200) : g_ml X m 269 = some (0, 33, 0, 11) := (if_pos h).trans rfl
theorem qm_272 {m : Nat} (h : m < 200) : g_ml X m 272 = some (0, 29, 0, 11) := (if_pos h).trans rfl
theorem qm_287 {m : Nat} (h : m < 200) : g_ml X m 287 = some (0, 35, 2, 11) := (if_pos h).trans rfl
theorem qm_291 {m : Nat} (h : m < 200) : g_ml X m 291 = some (0, 36, 1, 11) := (if_pos h).trans rfl
theorem qm_297 {m : Nat} (h : m < 200) : g_ml X m 297 = some (0, 40, 0, 11) := (if_pos h).trans rfl
theorem qm_306 {m : Nat} (h : m < 200) : g_ml X m 306 = some (0, 3, 2, 11) := (if_pos h).trans rfl
theorem qm_310 {m : Nat} (h : m < 200) : g_ml X m 310 = some (0, 41, 0, 11) := (if_pos h).trans rfl
theorem qm_313 {m : Nat} (h : m < 200) : g_ml X m 313 = some (0, 43, 1, 11) := (if_pos h).trans rfl
theorem qm_319 {m : Nat} (h : m < 200) : g_ml X m 319 = some (0, 45, 1, 11) := (if_pos h).trans rfl
theorem qm_322 {m : Nat} (h : m < 200) : g_ml X m 322 = some (0, 46, 1, 11) := (if_pos h).trans rfl
theorem qm_325 {m : Nat} (h : m < 200) : g_ml X m 325 = some (0, 48, 0, 11) := (if_pos h).trans rfl
theorem qm_328 {m : Nat} (h : m < 200) : g_ml X m 328 = some (0, 51, 0, 11) := (if_pos h).trans rfl
theorem qm_331 {m : Nat} (h : m < 200) : g_ml X m 331 = some (0, 53, 1, 11) := (if_pos h).trans rfl
theorem qm_334 {m : Nat} (h : m < 200) : g_ml X m 334 = some (0, 54, 1, 11) := (if_pos h).trans rfl
theorem qm_337 {m : Nat} (h : m < 200) : g_ml X m 337 = some (0, 47, 2, 11) := (if_pos h).trans rfl
theorem qm_344 {m : Nat} (h : m < 200) : g_ml X m 344 = some (0, 49, 0, 11) := (if_pos h).trans rfl
theorem qm_347 {m : Nat} (h : m < 200) : g_ml X m 347 = some (0, 56, 1, 11) := (if_pos h).trans rfl
theorem qm_351 {m : Nat} (h : m < 200) : g_ml X m 351 = some (0, 55, 1, 11) := (if_pos h).trans rfl
theorem qm_354 {m : Nat} (h : m < 200) : g_ml X m 354 = some (0, 50, 1, 11) := (if_pos h).trans rfl
theorem qm_357 {m : Nat} (h : m < 200) : g_ml X m 357 = some (0, 52, 2, 11) := (if_pos h).trans rfl
theorem qm_362 {m : Nat} (h : m < 200) : g_ml X m 362 = some (0, 57, 0, 11) := (if_pos h).trans rfl
theorem qm_365 {m : Nat} (h : m < 200) : g_ml X m 365 = some (0, 69, 1, 11) := (if_pos h).trans rfl
theorem qm_368 {m : Nat} (h : m < 200) : g_ml X m 368 = some (0, 71, 2, 11) := (if_pos h).trans rfl
theorem qm_371 {m : Nat} (h : m < 200) : g_ml X m 371 = some (0, 72, 0, 11) := (if_pos h).trans rfl
theorem qm_374 {m : Nat} (h : m < 200) : g_ml X m 374 = some (0, 74, 2, 11) := (if_pos h).trans rfl
theorem qm_377 {m : Nat} (h : m < 200) : g_ml X m 377 = some (0, 75, 2, 11) := (if_pos h).trans rfl
theorem qm_381 {m : Nat} (h : m < 200) : g_ml X m 381 = some (0, 82, 2, 11) := (if_pos h).trans rfl
theorem qm_384 {m : Nat} (h : m < 200) : g_ml X m 384 = some (0, 79, 1, 11) := (if_pos h).trans rfl
theorem qm_387 {m : Nat} (h : m < 200) : g_ml X m 387 = some (0, 80, 0, 11) := (if_pos h).trans rfl
theorem qm_390 {m : Nat} (h : m < 200) : g_ml X m 390 = some (0, 81, 2, 11) := (if_pos h).trans rfl
theorem qm_402 {m : Nat} (h : m < 200) : g_ml X m 402 = some (0, 86, 2, 11) := (if_pos h).trans rfl
theorem qm_405 {m : Nat} (h : m < 200) : g_ml X m 405 = some (0, 85, 0, 11) := (if_pos h).trans rfl
theorem qm_408 {m : Nat} (h : m < 200) : g_ml X m 408 = some (0, 88, 2, 11) := (if_pos h).trans rfl
theorem qm_411 {m : Nat} (h : m < 200) : g_ml X m 411 = some (0, 87, 3, 11) := (if_pos h).trans rfl
theorem qm_415 {m : Nat} (h : m < 200) : g_ml X m 415 = some (0, 92, 2, 11) := (if_pos h).trans rfl
theorem qm_418 {m : Nat} (h : m < 200) : g_ml X m 418 = some (0, 93, 1, 11) := (if_pos h).trans rfl
theorem qm_424 {m : Nat} (h : m < 200) : g_ml X m 424 = some (0, 98, 1, 11) := (if_pos h).trans rfl
theorem qm_427 {m : Nat} (h : m < 200) : g_ml X m 427 = some (0, 105, 1, 11) := (if_pos h).trans rfl
theorem qm_430 {m : Nat} (h : m < 200) : g_ml X m 430 = some (1, 106, 1, 11) := (if_pos h).trans rfl
theorem qm_433 {m : Nat} (h : m < 200) : g_ml X m 433 = some (0, 107, 2, 11) := (if_pos h).trans rfl
theorem qm_436 {m : Nat} (h : m < 200) : g_ml X m 436 = some (0, 103, 1, 11) := (if_pos h).trans rfl
theorem qm_439 {m : Nat} (h : m < 200) : g_ml X m 439 = some (0, 104, 3, 11) := (if_pos h).trans rfl
theorem qm_442 {m : Nat} (h : m < 200) : g_ml X m 442 = some (0, 110, 2, 11) := (if_pos h).trans rfl
theorem qm_445 {m : Nat} (h : m < 200) : g_ml X m 445 = some (0, 115, 1, 11) := (if_pos h).trans rfl
theorem qm_448 {m : Nat} (h : m < 200) : g_ml X m 448 = some (0, 114, 1, 11) := (if_pos h).trans rfl
theorem qm_451 {m : Nat} (h : m < 200) : g_ml X m 451 = some (0, 116, 2, 11) := (if_pos h).trans rfl
theorem qc_173 {m : Nat} (h : m < 200) : g_cn X m 173 = some (100000) := (if_pos h).trans rfl
theorem qc_361 {m : Nat} (h : m < 200) : g_cn X m 361 = some (-2147483648) := (if_pos h).trans rfl
theorem qx_2 : g_mx X 2 = 1 := rfl
theorem qr_2 : g_rt X 2 = 1 := rfl
theorem qx_3 : g_mx X 3 = 3 := rfl
theorem qr_3 : g_rt X 3 = 2 := rfl
theorem qx_4 : g_mx X 4 = 3 := rfl
theorem qr_4 : g_rt X 4 = 2 := rfl
theorem qx_5 : g_mx X 5 = 8 := rfl
theorem qr_5 : g_rt X 5 = 1 := rfl
theorem qx_6 : g_mx X 6 = 2 := rfl
theorem qr_6 : g_rt X 6 = 1 := rfl
theorem qx_7 : g_mx X 7 = 1 := rfl
theorem qr_7 : g_rt X 7 = 0 := rfl
theorem qx_8 : g_mx X 8 = 3 := rfl
theorem qr_8 : g_rt X 8 = 0 := rfl
theorem qx_9 : g_mx X 9 = 1 := rfl
theorem qr_9 : g_rt X 9 = 2 := rfl
theorem qx_10 : g_mx X 10 = 1 := rfl
theorem qr_10 : g_rt X 10 = 2 := rfl
theorem qx_11 : g_mx X 11 = 3 := rfl
theorem qr_11 : g_rt X 11 = 1 := rfl
theorem qx_12 : g_mx X 12 = 7 := rfl
theorem qr_12 : g_rt X 12 = 1 := rfl
theorem qx_13 : g_mx X 13 = 7 := rfl
theorem qr_13 : g_rt X 13 = 2 := rfl
theorem qx_14 : g_mx X 14 = 1 := rfl
theorem qr_14 : g_rt X 14 = 0 := rfl
theorem qx_15 : g_mx X 15 = 2 := rfl
theorem qr_15 : g_rt X 15 = 0 := rfl
theorem qx_16 : g_mx X 16 = 4 := rfl
theorem qr_16 : g_rt X 16 = 1 := rfl
theorem qx_17 : g_mx X 17 = 4 := rfl
theorem qr_17 : g_rt X 17 = 1 := rfl
theorem qx_18 : g_mx X 18 = 2 := rfl
theorem qr_18 : g_rt X 18 = 0 := rfl
theorem qx_19 : g_mx X 19 = 2 := rfl
theorem qr_19 : g_rt X 19 = 1 := rfl
theorem qx_20 : g_mx X 20 = 2 := rfl
theorem qr_20 : g_rt X 20 = 1 := rfl
theorem qx_21 : g_mx X 21 = 2 := rfl
theorem qr_21 : g_rt X 21 = 1 := rfl
theorem qx_22 : g_mx X 22 = 6 := rfl
theorem qr_22 : g_rt X 22 = 1 := rfl
theorem qx_23 : g_mx X 23 = 4 := rfl
theorem qr_23 : g_rt X 23 = 1 := rfl
theorem qx_24 : g_mx X 24 = 4 := rfl
theorem qr_24 : g_rt X 24 = 1 := rfl
theorem qx_25 : g_mx X 25 = 4 := rfl
theorem qr_25 : g_rt X 25 = 2 := rfl
theorem qx_26 : g_mx X 26 = 3 := rfl
theorem qr_26 : g_rt X 26 = 2 := rfl
theorem qx_27 : g_mx X 27 = 3 := rfl
theorem qr_27 : g_rt X 27 = 2 := rfl
theorem qx_28 : g_mx X 28 = 1 := rfl
theorem qr_28 : g_rt X 28 = 1 := rfl
theorem qx_29 : g_mx X 29 = 5 := rfl
theorem qr_29 : g_rt X 29 = 0 := rfl
theorem qx_30 : g_mx X 30 = 3 := rfl
theorem qr_30 : g_rt X 30 = 0 := rfl
theorem qx_31 : g_mx X 31 = 3 := rfl
theorem qr_31 : g_rt X 31 = 0 := rfl
theorem qx_32 : g_mx X 32 = 3 := rfl
theorem qr_32 : g_rt X 32 = 0 := rfl
theorem qx_33 : g_mx X 33 = 1 := rfl
theorem qr_33 : g_rt X 33 = 0 := rfl
theorem qx_34 : g_mx X 34 = 4 := rfl
theorem qr_34 : g_rt X 34 = 0 := rfl
theorem qx_35 : g_mx X 35 = 4 := rfl
theorem qr_35 : g_rt X 35 = 2 := rfl
theorem qx_36 : g_mx X 36 = 3 := rfl
theorem qr_36 : g_rt X 36 = 0 := rfl
theorem qx_37 : g_mx X 37 = 4 := rfl
theorem qr_37 : g_rt X 37 = 0 := rfl
theorem qx_38 : g_mx X 38 = 2 := rfl
theorem qr_38 : g_rt X 38 = 0 := rfl
theorem qx_39 : g_mx X 39 = 3 := rfl
theorem qr_39 : g_rt X 39 = 0 := rfl
theorem qx_40 : g_mx X 40 = 1 := rfl
theorem qr_40 : g_rt X 40 = 1 := rfl
theorem qx_41 : g_mx X 41 = 4 := rfl
theorem qr_41 : g_rt X 41 = 0 := rfl
theorem qx_42 : g_mx X 42 = 3 := rfl
theorem qr_42 : g_rt X 42 = 1 := rfl
theorem qx_43 : g_mx X 43 = 3 := rfl
theorem qr_43 : g_rt X 43 = 0 := rfl
theorem qx_44 : g_mx X 44 = 1 := rfl
theorem qr_44 : g_rt X 44 = 1 := rfl
theorem qx_45 : g_mx X 45 = 2 := rfl
theorem qr_45 : g_rt X 45 = 0 := rfl
theorem qx_46 : g_mx X 46 = 3 := rfl
theorem qr_46 : g_rt X 46 = 0 := rfl
theorem qx_47 : g_mx X 47 = 3 := rfl
theorem qr_47 : g_rt X 47 = 2 := rfl
theorem qx_48 : g_mx X 48 = 2 := rfl
theorem qr_48 : g_rt X 48 = 0 := rfl
theorem qx_49 : g_mx X 49 = 2 := rfl
theorem qr_49 : g_rt X 49 = 0 := rfl
theorem qx_50 : g_mx X 50 = 3 := rfl
theorem qr_50 : g_rt X 50 = 2 := rfl
theorem qx_51 : g_mx X 51 = 3 := rfl
theorem qr_51 : g_rt X 51 = 1 := rfl
theorem qx_52 : g_mx X 52 = 8 := rfl
theorem qr_52 : g_rt X 52 = 1 := rfl
theorem qx_53 : g_mx X 53 = 4 := rfl
theorem qr_53 : g_rt X 53 = 0 := rfl
theorem qx_54 : g_mx X 54 = 4 := rfl
theorem qr_54 : g_rt X 54 = 0 := rfl
theorem qx_55 : g_mx X 55 = 3 := rfl
theorem qr_55 : g_rt X 55 = 0 := rfl
theorem qx_56 : g_mx X 56 = 3 := rfl
theorem qr_56 : g_rt X 56 = 0 := rfl
theorem qx_57 : g_mx X 57 = 2 := rfl
theorem qr_57 : g_rt X 57 = 2 := rfl
theorem qx_58 : g_mx X 58 = 2 := rfl
theorem qr_58 : g_rt X 58 = 0 := rfl
theorem qx_59 : g_mx X 59 = 2 := rfl
theorem qr_59 : g_rt X 59 = 1 := rfl
theorem qx_60 : g_mx X 60 = 2 := rfl
theorem qr_60 : g_rt X 60 = 2 := rfl
theorem qx_61 : g_mx X 61 = 3 := rfl
theorem qr_61 : g_rt X 61 = 1 := rfl
theorem qx_62 : g_mx X 62 = 2 := rfl
theorem qr_62 : g_rt X 62 = 1 := rfl
theorem qx_63 : g_mx X 63 = 2 := rfl
theorem qr_63 : g_rt X 63 = 1 := rfl
theorem qx_64 : g_mx X 64 = 2 := rfl
theorem qr_64 : g_rt X 64 = 1 := rfl
theorem qx_65 : g_mx X 65 = 3 := rfl
theorem qr_65 : g_rt X 65 = 1 := rfl
theorem qx_66 : g_mx X 66 = 5 := rfl
theorem qr_66 : g_rt X 66 = 1 := rfl
theorem qx_67 : g_mx X 67 = 1 := rfl
theorem qr_67 : g_rt X 67 = 2 := rfl
theorem qx_68 : g_mx X 68 = 1 := rfl
theorem qr_68 : g_rt X 68 = 2 := rfl
theorem qx_69 : g_mx X 69 = 2 := rfl
theorem qr_69 : g_rt X 69 = 2 := rfl
theorem qx_70 : g_mx X 70 = 3 := rfl
theorem qr_70 : g_rt X 70 = 1 := rfl
theorem qx_71 : g_mx X 71 = 3 := rfl
theorem qr_71 : g_rt X 71 = 2 := rfl
theorem qx_72 : g_mx X 72 = 5 := rfl
theorem qr_72 : g_rt X 72 = 0 := rfl
theorem qx_73 : g_mx X 73 = 3 := rfl
theorem qr_73 : g_rt X 73 = 2 := rfl
theorem qx_74 : g_mx X 74 = 5 := rfl
theorem qr_74 : g_rt X 74 = 1 := rfl
theorem qx_75 : g_mx X 75 = 6 := rfl
theorem qr_75 : g_rt X 75 = 1 := rfl
theorem qx_76 : g_mx X 76 = 1 := rfl
theorem qr_76 : g_rt X 76 = 1 := rfl
theorem qx_77 : g_mx X 77 = 2 := rfl
theorem qr_77 : g_rt X 77 = 1 := rfl
theorem qx_78 : g_mx X 78 = 5 := rfl
theorem qr_78 : g_rt X 78 = 1 := rfl
theorem qx_79 : g_mx X 79 = 2 := rfl
theorem qr_79 : g_rt X 79 = 2 := rfl
theorem qx_80 : g_mx X 80 = 4 := rfl
theorem qr_80 : g_rt X 80 = 2 := rfl
theorem qx_81 : g_mx X 81 = 9 := rfl
theorem qr_81 : g_rt X 81 = 1 := rfl
theorem qx_82 : g_mx X 82 = 3 := rfl
theorem qr_82 : g_rt X 82 = 1 := rfl
theorem qx_83 : g_mx X 83 = 3 := rfl
theorem qr_83 : g_rt X 83 = 1 := rfl
theorem qx_84 : g_mx X 84 = 5 := rfl
theorem qr_84 : g_rt X 84 = 1 := rfl
theorem qx_85 : g_mx X 85 = 4 := rfl
theorem qr_85 : g_rt X 85 = 1 := rfl
theorem qx_86 : g_mx X 86 = 3 := rfl
theorem qr_86 : g_rt X 86 = 0 := rfl
theorem qx_87 : g_mx X 87 = 6 := rfl
theorem qr_87 : g_rt X 87 = 0 := rfl
theorem qx_88 : g_mx X 88 = 3 := rfl
theorem qr_88 : g_rt X 88 = 2 := rfl
theorem qx_89 : g_mx X 89 = 3 := rfl
theorem qr_89 : g_rt X 89 = 1 := rfl
theorem qx_90 : g_mx X 90 = 5 := rfl
theorem qr_90 : g_rt X 90 = 1 := rfl
theorem qx_91 : g_mx X 91 = 3 := rfl
theorem qr_91 : g_rt X 91 = 1 := rfl
theorem qx_92 : g_mx X 92 = 4 := rfl
theorem qr_92 : g_rt X 92 = 2 := rfl
theorem qx_93 : g_mx X 93 = 5 := rfl
theorem qr_93 : g_rt X 93 = 1 := rfl
theorem qx_94 : g_mx X 94 = 4 := rfl
theorem qr_94 : g_rt X 94 = 1 := rfl
theorem qx_95 : g_mx X 95 = 2 := rfl
theorem qr_95 : g_rt X 95 = 1 := rfl
theorem qx_96 : g_mx X 96 = 2 := rfl
theorem qr_96 : g_rt X 96 = 1 := rfl
theorem qx_97 : g_mx X 97 = 2 := rfl
theorem qr_97 : g_rt X 97 = 1 := rfl
theorem qx_98 : g_mx X 98 = 3 := rfl
theorem qr_98 : g_rt X 98 = 2 := rfl
theorem qx_99 : g_mx X 99 = 4 := rfl
theorem qr_99 : g_rt X 99 = 1 := rfl
theorem qx_100 : g_mx X 100 = 2 := rfl
theorem qr_100 : g_rt X 100 = 1 := rfl
theorem qx_101 : g_mx X 101 = 5 := rfl
theorem qr_101 : g_rt X 101 = 1 := rfl
theorem qx_102 : g_mx X 102 = 4 := rfl
theorem qr_102 : g_rt X 102 = 2 := rfl
theorem qx_103 : g_mx X 103 = 3 := rfl
theorem qr_103 : g_rt X 103 = 0 := rfl
theorem qx_104 : g_mx X 104 = 5 := rfl
theorem qr_104 : g_rt X 104 = 2 := rfl
theorem qx_105 : g_mx X 105 = 4 := rfl
theorem qr_105 : g_rt X 105 = 1 := rfl
theorem qx_106 : g_mx X 106 = 3 := rfl
theorem qr_106 : g_rt X 106 = 1 := rfl
theorem qx_107 : g_mx X 107 = 4 := rfl
theorem qr_107 : g_rt X 107 = 2 := rfl
theorem qx_108 : g_mx X 108 = 8 := rfl
theorem qr_108 : g_rt X 108 = 1 := rfl
theorem qx_109 : g_mx X 109 = 2 := rfl
theorem qr_109 : g_rt X 109 = 0 := rfl
theorem qx_110 : g_mx X 110 = 4 := rfl
theorem qr_110 : g_rt X 110 = 2 := rfl
theorem qx_111 : g_mx X 111 = 2 := rfl
theorem qr_111 : g_rt X 111 = 1 := rfl
theorem qx_112 : g_mx X 112 = 3 := rfl
theorem qr_112 : g_rt X 112 = 1 := rfl
theorem qx_113 : g_mx X 113 = 3 := rfl
theorem qr_113 : g_rt X 113 = 1 := rfl
theorem qx_114 : g_mx X 114 = 3 := rfl
theorem qr_114 : g_rt X 114 = 0 := rfl
theorem qx_115 : g_mx X 115 = 3 := rfl
theorem qr_115 : g_rt X 115 = 0 := rfl
theorem qx_116 : g_mx X 116 = 6 := rfl
theorem qr_116 : g_rt X 116 = 2 := rfl
theorem qx_117 : g_mx X 117 = 4 := rfl
theorem qr_117 : g_rt X 117 = 1 := rfl
theorem qx_118 : g_mx X 118 = 4 := rfl
theorem qr_118 : g_rt X 118 = 1 := rfl
theorem qx_119 : g_mx X 119 = 5 := rfl
theorem qr_119 : g_rt X 119 = 1 := rfl
theorem qs_0 (hr : g_rs X = r_sh) : (g_L X).1 0 = .inl 11 := (show g_rs X 0 = _ by rw [hr]; rfl)
theorem qs_1 (hr : g_rs X = r_sh) : (g_L X).1 1 = .inr (0, 600) := (show g_rs X 1 = _ by rw [hr]; rfl)
theorem qs_2 (hr : g_rs X = r_sh) : (g_L X).1 2 = .inr (4, 2) := (show g_rs X 2 = _ by rw [hr]; rfl)
theorem qs_5 (hr : g_rs X = r_sh) : (g_L X).1 5 = .inr (4, 2) := (show g_rs X 5 = _ by rw [hr]; rfl)
theorem qs_8 (hr : g_rs X = r_sh) : (g_L X).1 8 = .inr (0, 2) := (show g_rs X 8 = _ by rw [hr]; rfl)
theorem qs_9 (hr : g_rs X = r_sh) : (g_L X).1 9 = .inr (0, 2) := (show g_rs X 9 = _ by rw [hr]; rfl)
theorem qs_10 (hr : g_rs X = r_sh) : (g_L X).1 10 = .inr (0, 2) := (show g_rs X 10 = _ by rw [hr]; rfl)
theorem qs_11 (hr : g_rs X = r_sh) : (g_L X).1 11 = .inr (0, 2) := (show g_rs X 11 = _ by rw [hr]; rfl)
theorem qs_12 (hr : g_rs X = r_sh) : (g_L X).1 12 = .inr (0, 17) := (show g_rs X 12 = _ by rw [hr]; rfl)
theorem qs_13 (hr : g_rs X = r_sh) : (g_L X).1 13 = .inr (0, 53) := (show g_rs X 13 = _ by rw [hr]; rfl)
theorem qs_14 (hr : g_rs X = r_sh) : (g_L X).1 14 = .inr (0, 53) := (show g_rs X 14 = _ by rw [hr]; rfl)
theorem qs_15 (hr : g_rs X = r_sh) : (g_L X).1 15 = .inr (0, 40) := (show g_rs X 15 = _ by rw [hr]; rfl)
theorem qs_16 (hr : g_rs X = r_sh) : (g_L X).1 16 = .inr (0, 40) := (show g_rs X 16 = _ by rw [hr]; rfl)
theorem qs_17 (hr : g_rs X = r_sh) : (g_L X).1 17 = .inr (0, 40) := (show g_rs X 17 = _ by rw [hr]; rfl)
theorem qs_18 (hr : g_rs X = r_sh) : (g_L X).1 18 = .inr (0, 40) := (show g_rs X 18 = _ by rw [hr]; rfl)
theorem qs_19 (hr : g_rs X = r_sh) : (g_L X).1 19 = .inr (4, 41) := (show g_rs X 19 = _ by rw [hr]; rfl)
theorem qs_61 (hr : g_rs X = r_sh) : (g_L X).1 61 = .inr (5, 40) := (show g_rs X 61 = _ by rw [hr]; rfl)
theorem qs_102 (hr : g_rs X = r_sh) : (g_L X).1 102 = .inr (0, 6) := (show g_rs X 102 = _ by rw [hr]; rfl)
theorem qs_103 (hr : g_rs X = r_sh) : (g_L X).1 103 = .inr (0, 6) := (show g_rs X 103 = _ by rw [hr]; rfl)
theorem qs_104 (hr : g_rs X = r_sh) : (g_L X).1 104 = .inr (0, 6) := (show g_rs X 104 = _ by rw [hr]; rfl)
theorem qs_105 (hr : g_rs X = r_sh) : (g_L X).1 105 = .inr (0, 6) := (show g_rs X 105 = _ by rw [hr]; rfl)
theorem qs_106 (hr : g_rs X = r_sh) : (g_L X).1 106 = .inr (2, 6) := (show g_rs X 106 = _ by rw [hr]; rfl)
theorem qs_107 (hr : g_rs X = r_sh) : (g_L X).1 107 = .inr (4, 600) := (show g_rs X 107 = _ by rw [hr]; rfl)
theorem qs_708 (hr : g_rs X = r_sh) : (g_L X).1 708 = .inr (0, 600) := (show g_rs X 708 = _ by rw [hr]; rfl)
theorem qs_709 (hr : g_rs X = r_sh) : (g_L X).1 709 = .inr (0, 600) := (show g_rs X 709 = _ by rw [hr]; rfl)
theorem qs_710 (hr : g_rs X = r_sh) : (g_L X).1 710 = .inr (0, 600) := (show g_rs X 710 = _ by rw [hr]; rfl)
theorem qs_711 (hr : g_rs X = r_sh) : (g_L X).1 711 = .inr (0, 40) := (show g_rs X 711 = _ by rw [hr]; rfl)
theorem qs_712 (hr : g_rs X = r_sh) : (g_L X).1 712 = .inr (0, 40) := (show g_rs X 712 = _ by rw [hr]; rfl)
theorem qs_713 (hr : g_rs X = r_sh) : (g_L X).1 713 = .inr (4, 2) := (show g_rs X 713 = _ by rw [hr]; rfl)
theorem qs_716 (hr : g_rs X = r_sh) : (g_L X).1 716 = .inr (0, 4) := (show g_rs X 716 = _ by rw [hr]; rfl)
theorem qs_717 (hr : g_rs X = r_sh) : (g_L X).1 717 = .inr (5, 2) := (show g_rs X 717 = _ by rw [hr]; rfl)
theorem qs_720 (hr : g_rs X = r_sh) : (g_L X).1 720 = .inr (4, 8) := (show g_rs X 720 = _ by rw [hr]; rfl)
theorem qs_729 (hr : g_rs X = r_sh) : (g_L X).1 729 = .inr (4, 4) := (show g_rs X 729 = _ by rw [hr]; rfl)
theorem qs_text (hr : g_rs X = r_sh) {i : Nat} (h : i < 2) : (g_L X).1 (3 + i) = .inr (0, 600) := by
  have e : (g_L X).1 (3 + i) = g_rs X (3 + i) := if_pos (show _ < 734 by omega)
  rw [e, hr]
  unfold r_sh
  repeat (first | rw [if_pos (by omega)] | rw [if_neg (by omega)])
theorem qs_handler (hr : g_rs X = r_sh) {i : Nat} (h : i < 2) : (g_L X).1 (6 + i) = .inr (0, 17) := by
  have e : (g_L X).1 (6 + i) = g_rs X (6 + i) := if_pos (show _ < 734 by omega)
  rw [e, hr]
  unfold r_sh
  repeat (first | rw [if_pos (by omega)] | rw [if_neg (by omega)])
theorem qs_states (hr : g_rs X = r_sh) {i : Nat} (h : i < 41) : (g_L X).1 (20 + i) = .inr (0, 10) := by
  have e : (g_L X).1 (20 + i) = g_rs X (20 + i) := if_pos (show _ < 734 by omega)
  rw [e, hr]
  unfold r_sh
  repeat (first | rw [if_pos (by omega)] | rw [if_neg (by omega)])
theorem qs_isOrdered (hr : g_rs X = r_sh) {i : Nat} (h : i < 40) : (g_L X).1 (62 + i) = .inr (2, 40) := by
  have e : (g_L X).1 (62 + i) = g_rs X (62 + i) := if_pos (show _ < 734 by omega)
  rw [e, hr]
  unfold r_sh
  repeat (first | rw [if_pos (by omega)] | rw [if_neg (by omega)])
theorem qs_met (hr : g_rs X = r_sh) {i : Nat} (h : i < 600) : (g_L X).1 (108 + i) = .inr (0, 38) := by
  have e : (g_L X).1 (108 + i) = g_rs X (108 + i) := if_pos (show _ < 734 by omega)
  rw [e, hr]
  unfold r_sh
  repeat (first | rw [if_pos (by omega)] | rw [if_neg (by omega)])
theorem qs_windowPage (hr : g_rs X = r_sh) {i : Nat} (h : i < 2) : (g_L X).1 (714 + i) = .inr (0, 53) := by
  have e : (g_L X).1 (714 + i) = g_rs X (714 + i) := if_pos (show _ < 734 by omega)
  rw [e, hr]
  unfold r_sh
  repeat (first | rw [if_pos (by omega)] | rw [if_neg (by omega)])
theorem qs_isAsked (hr : g_rs X = r_sh) {i : Nat} (h : i < 2) : (g_L X).1 (718 + i) = .inr (2, 4) := by
  have e : (g_L X).1 (718 + i) = g_rs X (718 + i) := if_pos (show _ < 734 by omega)
  rw [e, hr]
  unfold r_sh
  repeat (first | rw [if_pos (by omega)] | rw [if_neg (by omega)])
theorem qs_keptWindows (hr : g_rs X = r_sh) {i : Nat} (h : i < 8) : (g_L X).1 (721 + i) = .inr (0, 89) := by
  have e : (g_L X).1 (721 + i) = g_rs X (721 + i) := if_pos (show _ < 734 by omega)
  rw [e, hr]
  unfold r_sh
  repeat (first | rw [if_pos (by omega)] | rw [if_neg (by omega)])
theorem qs_reached (hr : g_rs X = r_sh) {i : Nat} (h : i < 4) : (g_L X).1 (730 + i) = .inr (0, 38) := by
  have e : (g_L X).1 (730 + i) = g_rs X (730 + i) := if_pos (show _ < 734 by omega)
  rw [e, hr]
  unfold r_sh
  repeat (first | rw [if_pos (by omega)] | rw [if_neg (by omega)])
theorem qo_2 {i : Nat} (h : i < 2) : (g_L X).2.1 2 i = some (3 + i) := by
  have e : (g_L X).2.1 2 i = (if i < 2 then some (3 + i) else none) := rfl
  rw [e, if_pos h]
theorem qo_5 {i : Nat} (h : i < 2) : (g_L X).2.1 5 i = some (6 + i) := by
  have e : (g_L X).2.1 5 i = (if i < 2 then some (6 + i) else none) := rfl
  rw [e, if_pos h]
theorem qo_19 {i : Nat} (h : i < 41) : (g_L X).2.1 19 i = some (20 + i) := by
  have e : (g_L X).2.1 19 i = (if i < 41 then some (20 + i) else none) := rfl
  rw [e, if_pos h]
theorem qo_61 {i : Nat} (h : i < 40) : (g_L X).2.1 61 i = some (62 + i) := by
  have e : (g_L X).2.1 61 i = (if i < 40 then some (62 + i) else none) := rfl
  rw [e, if_pos h]
theorem qo_107 {i : Nat} (h : i < 600) : (g_L X).2.1 107 i = some (108 + i) := by
  have e : (g_L X).2.1 107 i = (if i < 600 then some (108 + i) else none) := rfl
  rw [e, if_pos h]
theorem qo_713 {i : Nat} (h : i < 2) : (g_L X).2.1 713 i = some (714 + i) := by
  have e : (g_L X).2.1 713 i = (if i < 2 then some (714 + i) else none) := rfl
  rw [e, if_pos h]
theorem qo_717 {i : Nat} (h : i < 2) : (g_L X).2.1 717 i = some (718 + i) := by
  have e : (g_L X).2.1 717 i = (if i < 2 then some (718 + i) else none) := rfl
  rw [e, if_pos h]
theorem qo_720 {i : Nat} (h : i < 8) : (g_L X).2.1 720 i = some (721 + i) := by
  have e : (g_L X).2.1 720 i = (if i < 8 then some (721 + i) else none) := rfl
  rw [e, if_pos h]
theorem qo_729 {i : Nat} (h : i < 4) : (g_L X).2.1 729 i = some (730 + i) := by
  have e : (g_L X).2.1 729 i = (if i < 4 then some (730 + i) else none) := rfl
  rw [e, if_pos h]
theorem qn_11 : (g_L X).2.2.1 11 = 60 := rfl
theorem qk_0 : (g_L X).2.2.2 11 0 = false := rfl
theorem qk_1 : (g_L X).2.2.2 11 1 = false := rfl
theorem qk_2 : (g_L X).2.2.2 11 2 = false := rfl
theorem qk_3 : (g_L X).2.2.2 11 3 = false := rfl
theorem qk_4 : (g_L X).2.2.2 11 4 = false := rfl
theorem qk_5 : (g_L X).2.2.2 11 5 = false := rfl
theorem qk_6 : (g_L X).2.2.2 11 6 = false := rfl
theorem qk_7 : (g_L X).2.2.2 11 7 = false := rfl
theorem qk_8 : (g_L X).2.2.2 11 8 = false := rfl
theorem qk_9 : (g_L X).2.2.2 11 9 = true := rfl
theorem qa_9 : r_rf 9 = 1 := rfl
theorem qk_10 : (g_L X).2.2.2 11 10 = true := rfl
theorem qa_10 : r_rf 10 = 2 := rfl
theorem qk_11 : (g_L X).2.2.2 11 11 = true := rfl
theorem qa_11 : r_rf 11 = 5 := rfl
theorem qk_12 : (g_L X).2.2.2 11 12 = true := rfl
theorem qa_12 : r_rf 12 = 8 := rfl
theorem qk_13 : (g_L X).2.2.2 11 13 = true := rfl
theorem qa_13 : r_rf 13 = 9 := rfl
theorem qk_14 : (g_L X).2.2.2 11 14 = true := rfl
theorem qa_14 : r_rf 14 = 10 := rfl
theorem qk_15 : (g_L X).2.2.2 11 15 = true := rfl
theorem qa_15 : r_rf 15 = 11 := rfl
theorem qk_16 : (g_L X).2.2.2 11 16 = false := rfl
theorem qk_17 : (g_L X).2.2.2 11 17 = false := rfl
theorem qk_18 : (g_L X).2.2.2 11 18 = false := rfl
theorem qk_19 : (g_L X).2.2.2 11 19 = false := rfl
theorem qk_20 : (g_L X).2.2.2 11 20 = true := rfl
theorem qa_20 : r_rf 20 = 12 := rfl
theorem qk_21 : (g_L X).2.2.2 11 21 = true := rfl
theorem qa_21 : r_rf 21 = 13 := rfl
theorem qk_22 : (g_L X).2.2.2 11 22 = false := rfl
theorem qk_23 : (g_L X).2.2.2 11 23 = false := rfl
theorem qk_24 : (g_L X).2.2.2 11 24 = false := rfl
theorem qk_25 : (g_L X).2.2.2 11 25 = false := rfl
theorem qk_26 : (g_L X).2.2.2 11 26 = false := rfl
theorem qk_27 : (g_L X).2.2.2 11 27 = false := rfl
theorem qk_28 : (g_L X).2.2.2 11 28 = false := rfl
theorem qk_29 : (g_L X).2.2.2 11 29 = false := rfl
theorem qk_30 : (g_L X).2.2.2 11 30 = true := rfl
theorem qa_30 : r_rf 30 = 14 := rfl
theorem qk_31 : (g_L X).2.2.2 11 31 = false := rfl
theorem qk_32 : (g_L X).2.2.2 11 32 = true := rfl
theorem qa_32 : r_rf 32 = 15 := rfl
theorem qk_33 : (g_L X).2.2.2 11 33 = true := rfl
theorem qa_33 : r_rf 33 = 16 := rfl
theorem qk_34 : (g_L X).2.2.2 11 34 = true := rfl
theorem qa_34 : r_rf 34 = 17 := rfl
theorem qk_35 : (g_L X).2.2.2 11 35 = true := rfl
theorem qa_35 : r_rf 35 = 18 := rfl
theorem qk_36 : (g_L X).2.2.2 11 36 = true := rfl
theorem qa_36 : r_rf 36 = 19 := rfl
theorem qk_37 : (g_L X).2.2.2 11 37 = true := rfl
theorem qa_37 : r_rf 37 = 61 := rfl
theorem qk_38 : (g_L X).2.2.2 11 38 = false := rfl
theorem qk_39 : (g_L X).2.2.2 11 39 = true := rfl
theorem qa_39 : r_rf 39 = 102 := rfl
theorem qk_40 : (g_L X).2.2.2 11 40 = true := rfl
theorem qa_40 : r_rf 40 = 103 := rfl
theorem qk_41 : (g_L X).2.2.2 11 41 = true := rfl
theorem qa_41 : r_rf 41 = 104 := rfl
theorem qk_42 : (g_L X).2.2.2 11 42 = true := rfl
theorem qa_42 : r_rf 42 = 105 := rfl
theorem qk_43 : (g_L X).2.2.2 11 43 = true := rfl
theorem qa_43 : r_rf 43 = 106 := rfl
theorem qk_44 : (g_L X).2.2.2 11 44 = true := rfl
theorem qa_44 : r_rf 44 = 107 := rfl
theorem qk_45 : (g_L X).2.2.2 11 45 = true := rfl
theorem qa_45 : r_rf 45 = 708 := rfl
theorem qk_46 : (g_L X).2.2.2 11 46 = true := rfl
theorem qa_46 : r_rf 46 = 709 := rfl
theorem qk_47 : (g_L X).2.2.2 11 47 = true := rfl
theorem qa_47 : r_rf 47 = 710 := rfl
theorem qk_48 : (g_L X).2.2.2 11 48 = false := rfl
theorem qk_49 : (g_L X).2.2.2 11 49 = false := rfl
theorem qk_50 : (g_L X).2.2.2 11 50 = false := rfl
theorem qk_51 : (g_L X).2.2.2 11 51 = false := rfl
theorem qk_52 : (g_L X).2.2.2 11 52 = true := rfl
theorem qa_52 : r_rf 52 = 711 := rfl
theorem qk_53 : (g_L X).2.2.2 11 53 = true := rfl
theorem qa_53 : r_rf 53 = 712 := rfl
theorem qk_54 : (g_L X).2.2.2 11 54 = true := rfl
theorem qa_54 : r_rf 54 = 713 := rfl
theorem qk_55 : (g_L X).2.2.2 11 55 = true := rfl
theorem qa_55 : r_rf 55 = 716 := rfl
theorem qk_56 : (g_L X).2.2.2 11 56 = true := rfl
theorem qa_56 : r_rf 56 = 717 := rfl
theorem qk_57 : (g_L X).2.2.2 11 57 = false := rfl
theorem qk_58 : (g_L X).2.2.2 11 58 = true := rfl
theorem qa_58 : r_rf 58 = 720 := rfl
theorem qk_59 : (g_L X).2.2.2 11 59 = true := rfl
theorem qa_59 : r_rf 59 = 729 := rfl
end GT
