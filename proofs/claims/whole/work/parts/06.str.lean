/-! STRINGS: length() and charAt(k) of the literals: what the JDK's own methods do, over any words that hold z_w. -/
abbrev zy_len : MethodName := ⟨"java/lang/String", "length", "()I"⟩
abbrev zc_len : Cond := .code zy_len prog_23_method_54_code 1 (some .int)
abbrev zy_cod : MethodName := ⟨"java/lang/String", "coder", "()B"⟩
abbrev zc_cod : Cond := .code zy_cod prog_23_method_152_code 1 (some .byte)
abbrev zy_chr : MethodName := ⟨"java/lang/String", "charAt", "(I)C"⟩
abbrev zc_chr : Cond := .code zy_chr prog_23_method_56_code 2 (some .char)
abbrev zy_lat : MethodName := ⟨"java/lang/String", "isLatin1", "()Z"⟩
abbrev zc_lat : Cond := .code zy_lat prog_23_method_154_code 1 (some .boolean)
abbrev zy_l1c : MethodName := ⟨"java/lang/StringLatin1", "charAt", "([BI)C"⟩
abbrev zc_l1c : Cond := .code zy_l1c prog_25_method_2_code 2 (some .char)
abbrev zy_cki : MethodName := ⟨"java/lang/String", "checkIndex", "(II)V"⟩
abbrev zc_cki : Cond := .code zy_cki prog_23_method_155_code 2 none
abbrev zy_pci : MethodName := ⟨"jdk/internal/util/Preconditions", "checkIndex", "(IILjava/util/function/BiFunction;)I"⟩
abbrev zc_pci : Cond := .code zy_pci prog_32_method_11_code 3 (some .int)
def z_w : List Cond := [zc_len, zc_cod, zc_chr, zc_lat, zc_l1c, zc_cki, zc_pci, .instanceMethod zy_len, .selects "java/lang/String" zy_len zy_len, .instanceMethod zy_cod, .selects "java/lang/String" zy_cod zy_cod, .instanceMethod zy_chr, .selects "java/lang/String" zy_chr zy_chr, .instanceMethod zy_lat, .selects "java/lang/String" zy_lat zy_lat, .static zy_l1c, .static zy_cki, .static zy_pci, .initialized "java/lang/String", .initialized "java/lang/StringLatin1", .initialized "jdk/internal/util/Preconditions", .fieldLink "java/lang/String" 9 "java/lang/String" "value" "[B", .fieldLink "java/lang/String" 15 "java/lang/String" "coder" "B", .fieldLink "java/lang/String" 38 "java/lang/String" "COMPACT_STRINGS" "Z", .fieldLink "java/lang/String" 1053 "jdk/internal/util/Preconditions" "SIOOBE_FORMATTER" "Ljava/util/function/BiFunction;", .methodLink "java/lang/String" 335 zy_cod, .methodLink "java/lang/String" 492 zy_lat, .methodLink "java/lang/String" 495 zy_l1c, .methodLink "java/lang/StringLatin1" 9 zy_cki, .methodLink "java/lang/String" 1059 zy_pci]
def z_in (B : List Cond) : Prop := (∀ w ∈ z_w, w ∈ B) ∧ ∀ w ∈ B, goodWord w = true
theorem zw_c_len {B : List Cond} (h : z_in B) : (zc_len : Cond) ∈ B := h.1 _ (List.mem_of_getElem? (i := 0) rfl)
theorem zw_c_cod {B : List Cond} (h : z_in B) : (zc_cod : Cond) ∈ B := h.1 _ (List.mem_of_getElem? (i := 1) rfl)
theorem zw_c_chr {B : List Cond} (h : z_in B) : (zc_chr : Cond) ∈ B := h.1 _ (List.mem_of_getElem? (i := 2) rfl)
theorem zw_c_lat {B : List Cond} (h : z_in B) : (zc_lat : Cond) ∈ B := h.1 _ (List.mem_of_getElem? (i := 3) rfl)
theorem zw_c_l1c {B : List Cond} (h : z_in B) : (zc_l1c : Cond) ∈ B := h.1 _ (List.mem_of_getElem? (i := 4) rfl)
theorem zw_c_cki {B : List Cond} (h : z_in B) : (zc_cki : Cond) ∈ B := h.1 _ (List.mem_of_getElem? (i := 5) rfl)
theorem zw_c_pci {B : List Cond} (h : z_in B) : (zc_pci : Cond) ∈ B := h.1 _ (List.mem_of_getElem? (i := 6) rfl)
theorem zw_i_len {B : List Cond} (h : z_in B) : (.instanceMethod zy_len : Cond) ∈ B := h.1 _ (List.mem_of_getElem? (i := 7) rfl)
theorem zw_s_len {B : List Cond} (h : z_in B) : (.selects "java/lang/String" zy_len zy_len : Cond) ∈ B := h.1 _ (List.mem_of_getElem? (i := 8) rfl)
theorem zw_i_cod {B : List Cond} (h : z_in B) : (.instanceMethod zy_cod : Cond) ∈ B := h.1 _ (List.mem_of_getElem? (i := 9) rfl)
theorem zw_s_cod {B : List Cond} (h : z_in B) : (.selects "java/lang/String" zy_cod zy_cod : Cond) ∈ B := h.1 _ (List.mem_of_getElem? (i := 10) rfl)
theorem zw_i_chr {B : List Cond} (h : z_in B) : (.instanceMethod zy_chr : Cond) ∈ B := h.1 _ (List.mem_of_getElem? (i := 11) rfl)
theorem zw_s_chr {B : List Cond} (h : z_in B) : (.selects "java/lang/String" zy_chr zy_chr : Cond) ∈ B := h.1 _ (List.mem_of_getElem? (i := 12) rfl)
theorem zw_i_lat {B : List Cond} (h : z_in B) : (.instanceMethod zy_lat : Cond) ∈ B := h.1 _ (List.mem_of_getElem? (i := 13) rfl)
theorem zw_s_lat {B : List Cond} (h : z_in B) : (.selects "java/lang/String" zy_lat zy_lat : Cond) ∈ B := h.1 _ (List.mem_of_getElem? (i := 14) rfl)
theorem zw_t_l1c {B : List Cond} (h : z_in B) : (.static zy_l1c : Cond) ∈ B := h.1 _ (List.mem_of_getElem? (i := 15) rfl)
theorem zw_t_cki {B : List Cond} (h : z_in B) : (.static zy_cki : Cond) ∈ B := h.1 _ (List.mem_of_getElem? (i := 16) rfl)
theorem zw_t_pci {B : List Cond} (h : z_in B) : (.static zy_pci : Cond) ∈ B := h.1 _ (List.mem_of_getElem? (i := 17) rfl)
theorem zw_n_S {B : List Cond} (h : z_in B) : (.initialized "java/lang/String" : Cond) ∈ B := h.1 _ (List.mem_of_getElem? (i := 18) rfl)
theorem zw_n_L {B : List Cond} (h : z_in B) : (.initialized "java/lang/StringLatin1" : Cond) ∈ B := h.1 _ (List.mem_of_getElem? (i := 19) rfl)
theorem zw_n_P {B : List Cond} (h : z_in B) : (.initialized "jdk/internal/util/Preconditions" : Cond) ∈ B := h.1 _ (List.mem_of_getElem? (i := 20) rfl)
theorem zw_f_val {B : List Cond} (h : z_in B) : (.fieldLink "java/lang/String" 9 "java/lang/String" "value" "[B" : Cond) ∈ B := h.1 _ (List.mem_of_getElem? (i := 21) rfl)
theorem zw_f_cod {B : List Cond} (h : z_in B) : (.fieldLink "java/lang/String" 15 "java/lang/String" "coder" "B" : Cond) ∈ B := h.1 _ (List.mem_of_getElem? (i := 22) rfl)
theorem zw_f_com {B : List Cond} (h : z_in B) : (.fieldLink "java/lang/String" 38 "java/lang/String" "COMPACT_STRINGS" "Z" : Cond) ∈ B := h.1 _ (List.mem_of_getElem? (i := 23) rfl)
theorem zw_f_sio {B : List Cond} (h : z_in B) : (.fieldLink "java/lang/String" 1053 "jdk/internal/util/Preconditions" "SIOOBE_FORMATTER" "Ljava/util/function/BiFunction;" : Cond) ∈ B := h.1 _ (List.mem_of_getElem? (i := 24) rfl)
theorem zw_m_cod {B : List Cond} (h : z_in B) : (.methodLink "java/lang/String" 335 zy_cod : Cond) ∈ B := h.1 _ (List.mem_of_getElem? (i := 25) rfl)
theorem zw_m_lat {B : List Cond} (h : z_in B) : (.methodLink "java/lang/String" 492 zy_lat : Cond) ∈ B := h.1 _ (List.mem_of_getElem? (i := 26) rfl)
theorem zw_m_l1c {B : List Cond} (h : z_in B) : (.methodLink "java/lang/String" 495 zy_l1c : Cond) ∈ B := h.1 _ (List.mem_of_getElem? (i := 27) rfl)
theorem zw_m_cki {B : List Cond} (h : z_in B) : (.methodLink "java/lang/StringLatin1" 9 zy_cki : Cond) ∈ B := h.1 _ (List.mem_of_getElem? (i := 28) rfl)
theorem zw_m_pci {B : List Cond} (h : z_in B) : (.methodLink "java/lang/String" 1059 zy_pci : Cond) ∈ B := h.1 _ (List.mem_of_getElem? (i := 29) rfl)
theorem z_good {B : List Cond} (hB : z_in B) {L : List Cond} {x : Cond} (h : ∀ w ∈ L, w ∈ B) (hx : x ∈ B) : GoodIn B (L ++ (x :: B)) := by
  intro w hw
  have hm : w ∈ B := by
    rcases List.mem_append.mp hw with h1 | h1
    · exact h w h1
    · rcases List.mem_cons.mp h1 with rfl | h2
      · exact hx
      · exact h2
  exact ⟨hm, good_of_word (hB.2 w hm)⟩
abbrev zF : Nat → Prop := fun _ => False
abbrev z_rm (f k : Nat) : Room := { frames := f, cells := 0, slots := 0, locals := k }
/-- the literal at q, its bytes f (n of them) at t; the two statics that its methods read -/
def z_T (q t n : Nat) (f : Nat → Int32) (A : Nat → Prop) (U : State) (H : Heap) : Prop := va_O "java/lang/String" q A U H ∧ va_OF "java/lang/String" "coder" "B" (.int 0) q A U H ∧ va_OF "java/lang/String" "value" "[B" (.ref t) q A U H ∧ va_T .byte t n (fun j => .int (f j)) A U H ∧ va_Z "java/lang/String" "COMPACT_STRINGS" "Z" (.int 1) A U H ∧ va_Zq "jdk/internal/util/Preconditions" "SIOOBE_FORMATTER" "Ljava/util/function/BiFunction;" A U H
section ZT
variable {q t n : Nat} {f : Nat → Int32} {A A' : Nat → Prop} {u U : State} {H H1 : Heap}
theorem z_T.moved (hvm : u.vm.Alike U.vm) (h : z_T q t n f A u H) : z_T q t n f A U H := ⟨va_O.moved hvm h.1, va_OF.moved hvm h.2.1, va_OF.moved hvm h.2.2.1, va_T.moved hvm h.2.2.2.1, va_Z.moved hvm h.2.2.2.2.1, va_Zq.moved hvm h.2.2.2.2.2⟩
theorem z_T.kept (h : z_T q t n f A U H) (hq : ∀ a : Nat, a < H.size → ¬ A a → H1[a]? = H[a]?) : z_T q t n f A U H1 := ⟨h.1.kept hq, h.2.1.kept hq, h.2.2.1.kept hq, h.2.2.2.1.kept hq, h.2.2.2.2.1.kept hq, h.2.2.2.2.2.kept hq⟩
theorem z_T.narrow (h : z_T q t n f A U H) (hA : ∀ q, A' q → A q) : z_T q t n f A' U H := ⟨h.1.narrow hA, h.2.1.narrow hA, h.2.2.1.narrow hA, h.2.2.2.1.narrow hA, h.2.2.2.2.1.narrow hA, h.2.2.2.2.2.narrow hA⟩
end ZT
def z_P (av : List Value) (q t n : Nat) (f : Nat → Int32) : Array Value → State → Prop := fun a U => a = av.toArray ∧ z_T q t n f zF U U.heap
theorem z_P_blind {av : List Value} {q t n : Nat} {f : Nat → Int32} : FrameBlind (z_P av q t n f) := fun a U g mk h => ⟨h.1, z_T.moved (u := U) (U := U.calling g mk a) (Vm.Alike.refl U.vm) h.2⟩
abbrev z_Qi (v : Int32) : Array Value → State → Outcome → State → Prop := va_Qi (fun r (_ : Unit) => r = v) (fun _ _ => True) zF
abbrev z_Qv : Array Value → State → Outcome → State → Prop := va_Qv (fun (_ : Unit) => True) (fun _ _ => True) zF
theorem zd_len_0 : decode prog_23_method_54_code 0 = .ok (.aload_n 0, 1) := by decide +kernel
theorem zd_len_1 : decode prog_23_method_54_code 1 = .ok (.getfield 9, 3) := by decide +kernel
theorem zd_len_4 : decode prog_23_method_54_code 4 = .ok (.arraylength, 1) := by decide +kernel
theorem zd_len_5 : decode prog_23_method_54_code 5 = .ok (.aload_n 0, 1) := by decide +kernel
theorem zd_len_6 : decode prog_23_method_54_code 6 = .ok (.invokevirtual 335, 3) := by decide +kernel
theorem zd_len_9 : decode prog_23_method_54_code 9 = .ok (.ishr, 1) := by decide +kernel
theorem zd_len_10 : decode prog_23_method_54_code 10 = .ok (.ireturn, 1) := by decide +kernel
theorem zd_cod_0 : decode prog_23_method_152_code 0 = .ok (.getstatic 38, 3) := by decide +kernel
theorem zd_cod_3 : decode prog_23_method_152_code 3 = .ok (.ifCond .eq 10, 3) := by decide +kernel
theorem zd_cod_6 : decode prog_23_method_152_code 6 = .ok (.aload_n 0, 1) := by decide +kernel
theorem zd_cod_7 : decode prog_23_method_152_code 7 = .ok (.getfield 15, 3) := by decide +kernel
theorem zd_cod_10 : decode prog_23_method_152_code 10 = .ok (.goto 4, 3) := by decide +kernel
theorem zd_cod_14 : decode prog_23_method_152_code 14 = .ok (.ireturn, 1) := by decide +kernel
theorem zd_lat_0 : decode prog_23_method_154_code 0 = .ok (.getstatic 38, 3) := by decide +kernel
theorem zd_lat_3 : decode prog_23_method_154_code 3 = .ok (.ifCond .eq 14, 3) := by decide +kernel
theorem zd_lat_6 : decode prog_23_method_154_code 6 = .ok (.aload_n 0, 1) := by decide +kernel
theorem zd_lat_7 : decode prog_23_method_154_code 7 = .ok (.getfield 15, 3) := by decide +kernel
theorem zd_lat_10 : decode prog_23_method_154_code 10 = .ok (.ifCond .ne 7, 3) := by decide +kernel
theorem zd_lat_13 : decode prog_23_method_154_code 13 = .ok (.iconst 1, 1) := by decide +kernel
theorem zd_lat_14 : decode prog_23_method_154_code 14 = .ok (.goto 4, 3) := by decide +kernel
theorem zd_lat_18 : decode prog_23_method_154_code 18 = .ok (.ireturn, 1) := by decide +kernel
theorem zd_chr_0 : decode prog_23_method_56_code 0 = .ok (.aload_n 0, 1) := by decide +kernel
theorem zd_chr_1 : decode prog_23_method_56_code 1 = .ok (.invokevirtual 492, 3) := by decide +kernel
theorem zd_chr_4 : decode prog_23_method_56_code 4 = .ok (.ifCond .eq 12, 3) := by decide +kernel
theorem zd_chr_7 : decode prog_23_method_56_code 7 = .ok (.aload_n 0, 1) := by decide +kernel
theorem zd_chr_8 : decode prog_23_method_56_code 8 = .ok (.getfield 9, 3) := by decide +kernel
theorem zd_chr_11 : decode prog_23_method_56_code 11 = .ok (.iload_n 1, 1) := by decide +kernel
theorem zd_chr_12 : decode prog_23_method_56_code 12 = .ok (.invokestatic 495, 3) := by decide +kernel
theorem zd_chr_15 : decode prog_23_method_56_code 15 = .ok (.ireturn, 1) := by decide +kernel
theorem zd_l1c_0 : decode prog_25_method_2_code 0 = .ok (.iload_n 1, 1) := by decide +kernel
theorem zd_l1c_1 : decode prog_25_method_2_code 1 = .ok (.aload_n 0, 1) := by decide +kernel
theorem zd_l1c_2 : decode prog_25_method_2_code 2 = .ok (.arraylength, 1) := by decide +kernel
theorem zd_l1c_3 : decode prog_25_method_2_code 3 = .ok (.invokestatic 9, 3) := by decide +kernel
theorem zd_l1c_6 : decode prog_25_method_2_code 6 = .ok (.aload_n 0, 1) := by decide +kernel
theorem zd_l1c_7 : decode prog_25_method_2_code 7 = .ok (.iload_n 1, 1) := by decide +kernel
theorem zd_l1c_8 : decode prog_25_method_2_code 8 = .ok (.baload, 1) := by decide +kernel
theorem zd_l1c_9 : decode prog_25_method_2_code 9 = .ok (.sipush 255, 3) := by decide +kernel
theorem zd_l1c_12 : decode prog_25_method_2_code 12 = .ok (.iand, 1) := by decide +kernel
theorem zd_l1c_13 : decode prog_25_method_2_code 13 = .ok (.i2c, 1) := by decide +kernel
theorem zd_l1c_14 : decode prog_25_method_2_code 14 = .ok (.ireturn, 1) := by decide +kernel
theorem zd_cki_0 : decode prog_23_method_155_code 0 = .ok (.iload_n 0, 1) := by decide +kernel
theorem zd_cki_1 : decode prog_23_method_155_code 1 = .ok (.iload_n 1, 1) := by decide +kernel
theorem zd_cki_2 : decode prog_23_method_155_code 2 = .ok (.getstatic 1053, 3) := by decide +kernel
theorem zd_cki_5 : decode prog_23_method_155_code 5 = .ok (.invokestatic 1059, 3) := by decide +kernel
theorem zd_cki_8 : decode prog_23_method_155_code 8 = .ok (.pop, 1) := by decide +kernel
theorem zd_cki_9 : decode prog_23_method_155_code 9 = .ok (.return_, 1) := by decide +kernel
theorem zd_pci_0 : decode prog_32_method_11_code 0 = .ok (.iload_n 0, 1) := by decide +kernel
theorem zd_pci_1 : decode prog_32_method_11_code 1 = .ok (.ifCond .lt 8, 3) := by decide +kernel
theorem zd_pci_4 : decode prog_32_method_11_code 4 = .ok (.iload_n 0, 1) := by decide +kernel
theorem zd_pci_5 : decode prog_32_method_11_code 5 = .ok (.iload_n 1, 1) := by decide +kernel
theorem zd_pci_6 : decode prog_32_method_11_code 6 = .ok (.if_icmp .lt 10, 3) := by decide +kernel
theorem zd_pci_16 : decode prog_32_method_11_code 16 = .ok (.iload_n 0, 1) := by decide +kernel
theorem zd_pci_17 : decode prog_32_method_11_code 17 = .ok (.ireturn, 1) := by decide +kernel
theorem z_cod {B : List Cond} (hB : z_in B) (l : Launch) (q t n : Nat) (f : Nat → Int32) : Met l zy_cod (zc_cod :: B) (z_rm 0 0) (z_P [.ref q] q t n f) (z_Qi 0) 0 0 zF := by
  refine Met.ofW (cc := prog_23_method_152_code) (maxL := 1) (ret := (some .byte)) (by decide) rfl ?_
  intro p e s m args below meth c s₁ Bd hml ha
  obtain ⟨rfl, hz⟩ := ha
  have hx := Bd.exec
  have hb := Bd.bytes
  have hr := Bd.returns
  have hlocks := Bd.notSynchronized
  have hts0 := atoms_spec (ws := zc_cod :: B) Bd.pre
  have hts : ∀ w ∈ B, w.before _ s = true := fun w hw => hts0 w (List.mem_cons_of_mem _ hw)
  have hown : s.vm.findClass "java/lang/String" = some m.cls := findClass_of_methodNamed Bd.named
  have hS : va_S zF s.heap s.heap [] := va_S.rf
  have hl := lv_entry ([.ref q]) (n := 1) (Nat.le_of_ble_eq_true rfl)
  rw [lg_entry_eq]
  generalize (lg_sl ([.ref q]) ++ List.replicate (1 - (lg_sl ([.ref q])).length) Slot.unset).toArray = ls at hl ⊢
  have hl : lv_has ls 1 [(0, .ref q)] := hl
  refine va_gets hx hb hz.2.2.2.2.1 hS hown (hts _ (zw_f_com hB)) (fun _ h9 => h9) zd_cod_0 ?_
  refine lv_if_eq hx hb zd_cod_3 (tgt := 13) (by decide) (fun h => absurd h (by decide)) (fun _ => ?_)
  refine lv_aload_n hx hb zd_cod_6 rfl (lv_at hl 0 rfl) ?_
  refine vk_getf hx hb hz.2.1 hS hown (hts _ (zw_f_cod hB)) (fun _ h9 => h9) zd_cod_7 ?_
  refine lv_goto hx hb zd_cod_10 (tgt := 14) (by decide) ?_
  exact W.zret hx hb hr (by decide) (fun t ht hW => ⟨⟨0, (), rfl, rfl, trivial⟩, hS.F ht⟩) hS.2.2 zd_cod_14
theorem z_lat {B : List Cond} (hB : z_in B) (l : Launch) (q t n : Nat) (f : Nat → Int32) : Met l zy_lat (zc_lat :: B) (z_rm 0 0) (z_P [.ref q] q t n f) (z_Qi 1) 0 0 zF := by
  refine Met.ofW (cc := prog_23_method_154_code) (maxL := 1) (ret := (some .boolean)) (by decide) rfl ?_
  intro p e s m args below meth c s₁ Bd hml ha
  obtain ⟨rfl, hz⟩ := ha
  have hx := Bd.exec
  have hb := Bd.bytes
  have hr := Bd.returns
  have hlocks := Bd.notSynchronized
  have hts0 := atoms_spec (ws := zc_lat :: B) Bd.pre
  have hts : ∀ w ∈ B, w.before _ s = true := fun w hw => hts0 w (List.mem_cons_of_mem _ hw)
  have hown : s.vm.findClass "java/lang/String" = some m.cls := findClass_of_methodNamed Bd.named
  have hS : va_S zF s.heap s.heap [] := va_S.rf
  have hl := lv_entry ([.ref q]) (n := 1) (Nat.le_of_ble_eq_true rfl)
  rw [lg_entry_eq]
  generalize (lg_sl ([.ref q]) ++ List.replicate (1 - (lg_sl ([.ref q])).length) Slot.unset).toArray = ls at hl ⊢
  have hl : lv_has ls 1 [(0, .ref q)] := hl
  refine va_gets hx hb hz.2.2.2.2.1 hS hown (hts _ (zw_f_com hB)) (fun _ h9 => h9) zd_lat_0 ?_
  refine lv_if_eq hx hb zd_lat_3 (tgt := 17) (by decide) (fun h => absurd h (by decide)) (fun _ => ?_)
  refine lv_aload_n hx hb zd_lat_6 rfl (lv_at hl 0 rfl) ?_
  refine vk_getf hx hb hz.2.1 hS hown (hts _ (zw_f_cod hB)) (fun _ h9 => h9) zd_lat_7 ?_
  refine lv_if_ne hx hb zd_lat_10 (tgt := 17) (by decide) (fun h => absurd rfl h) (fun _ => ?_)
  refine lv_iconst (v := 1) hx hb zd_lat_13 (by decide) ?_
  refine lv_goto hx hb zd_lat_14 (tgt := 18) (by decide) ?_
  exact W.zret hx hb hr (by decide) (fun t ht hW => ⟨⟨1, (), rfl, rfl, trivial⟩, hS.F ht⟩) hS.2.2 zd_lat_18
theorem z_len {B : List Cond} (hB : z_in B) (l : Launch) (q t n : Nat) (f : Nat → Int32) : Met l zy_len (zc_len :: B) (z_rm 1 20) (z_P [.ref q] q t n f) (z_Qi (Int32.ofNat n)) 0 0 zF := by
  refine Met.ofW (cc := prog_23_method_54_code) (maxL := 1) (ret := (some .int)) (by decide) rfl ?_
  intro p e s m args below meth c s₁ Bd hml ha
  obtain ⟨rfl, hz⟩ := ha
  have hx := Bd.exec
  have hb := Bd.bytes
  have hr := Bd.returns
  have hlocks := Bd.notSynchronized
  have hts0 := atoms_spec (ws := zc_len :: B) Bd.pre
  have hts : ∀ w ∈ B, w.before _ s = true := fun w hw => hts0 w (List.mem_cons_of_mem _ hw)
  have hown : s.vm.findClass "java/lang/String" = some m.cls := findClass_of_methodNamed Bd.named
  have hS : va_S zF s.heap s.heap [] := va_S.rf
  have hl := lv_entry ([.ref q]) (n := 1) (Nat.le_of_ble_eq_true rfl)
  rw [lg_entry_eq]
  generalize (lg_sl ([.ref q]) ++ List.replicate (1 - (lg_sl ([.ref q])).length) Slot.unset).toArray = ls at hl ⊢
  have hl : lv_has ls 1 [(0, .ref q)] := hl
  refine lv_aload_n hx hb zd_len_0 rfl (lv_at hl 0 rfl) ?_
  refine vk_getf hx hb hz.2.2.1 hS hown (hts _ (zw_f_val hB)) (fun _ h9 => h9) zd_len_1 ?_
  refine va_tlen hx hb hz.2.2.2.1 hS rfl zd_len_4 ?_
  refine lv_aload_n hx hb zd_len_5 rfl (lv_at hl 0 rfl) ?_
  have hG : GoodIn B (wsV "java/lang/String" 335 "java/lang/String" zy_cod (zc_cod :: B)) := by
    refine z_good hB (fun w hw => ?_) (zw_c_cod hB)
    simp only [List.mem_cons, List.not_mem_nil, or_false] at hw
    rcases hw with rfl | rfl | rfl | rfl
    · exact zw_m_cod hB
    · exact zw_i_cod hB
    · exact zw_s_cod hB
    · exact zw_n_S hB
  refine va_calli (va_runV (As := []) (rest := [.int (Int32.ofNat n)]) ⟨hx, hb, hml, hown, hts⟩ (z_cod hB l q t n f) (cwV 0 hts hG rfl rfl rfl (by decide +kernel) ⟨Nat.le_of_ble_eq_true rfl, Nat.le_of_ble_eq_true rfl⟩) ⟨z_P_blind, (by obtain ⟨cell, h1, h2, h3, -⟩ := hz.1; exact ⟨cell, h1, h2, h3⟩), fun U hU hW => ⟨rfl, by rw [hU]; exact z_T.moved hW.alike hz⟩⟩ rfl rfl hl.1 rfl (lv_room (Nat.le_of_ble_eq_true rfl)) zd_len_6 ⟨Nat.le_refl _, Nat.le_refl _⟩) hS (fun q _ h => h) (fun q h => h) (fun r u t9 H1 locs ht hvm hw hB9 hz1 hk1 hS => ?_)
  have hw : r = 0 := hw
  subst hw
  refine lv_ishr hx hb zd_len_9 ?_
  have e : Int32.ofNat n >>> ((0 : Int32) &&& 31) = Int32.ofNat n := by
    apply Int32.toBitVec_inj.mp
    simp
  rw [e]
  exact W.iret hx hb hr (fun t ht hW => ⟨⟨_, (), rfl, rfl, trivial⟩, hS.F ht⟩) hS.2.2 zd_len_10
theorem z_pci0 {B : List Cond} (l : Launch) (k n : Int32) (h0 : ¬ k < 0) (h1 : k < n) : Met l zy_pci (zc_pci :: B) (z_rm 0 0) (fun a _ => a = ([.int k, .int n, .null] : List Value).toArray ∧ True) (z_Qi k) 0 0 zF := by
  refine Met.ofW (cc := prog_32_method_11_code) (maxL := 3) (ret := (some .int)) (by decide) rfl ?_
  intro p e s m args below meth c s₁ Bd hml ha
  obtain ⟨rfl, -⟩ := ha
  have hx := Bd.exec
  have hb := Bd.bytes
  have hr := Bd.returns
  have hlocks := Bd.notSynchronized
  have hts0 := atoms_spec (ws := zc_pci :: B) Bd.pre
  have hts : ∀ w ∈ B, w.before _ s = true := fun w hw => hts0 w (List.mem_cons_of_mem _ hw)
  have hown : s.vm.findClass "jdk/internal/util/Preconditions" = some m.cls := findClass_of_methodNamed Bd.named
  have hS : va_S zF s.heap s.heap [] := va_S.rf
  have hl := lv_entry ([.int k, .int n, .null]) (n := 3) (Nat.le_of_ble_eq_true rfl)
  rw [lg_entry_eq]
  generalize (lg_sl ([.int k, .int n, .null]) ++ List.replicate (3 - (lg_sl ([.int k, .int n, .null])).length) Slot.unset).toArray = ls at hl ⊢
  have hl : lv_has ls 3 [(0, .int k), (1, .int n), (2, .null)] := hl
  refine lv_iload_n hx hb zd_pci_0 rfl (lv_at hl 0 rfl) ?_
  refine lv_if_lt hx hb zd_pci_1 (tgt := 9) (by decide) (fun h => absurd h h0) (fun _ => ?_)
  refine lv_iload_n hx hb zd_pci_4 rfl (lv_at hl 0 rfl) ?_
  refine lv_iload_n hx hb zd_pci_5 rfl (lv_at hl 1 rfl) ?_
  refine lv_icmp_lt hx hb zd_pci_6 (tgt := 16) (by decide) (fun _ => ?_) (fun h => absurd h1 h)
  refine lv_iload_n hx hb zd_pci_16 rfl (lv_at hl 0 rfl) ?_
  exact W.iret hx hb hr (fun t ht hW => ⟨⟨_, (), rfl, rfl, trivial⟩, hS.F ht⟩) hS.2.2 zd_pci_17
theorem z_pci1 {B : List Cond} (l : Launch) (k n : Int32) (v : Nat) (h0 : ¬ k < 0) (h1 : k < n) : Met l zy_pci (zc_pci :: B) (z_rm 0 0) (fun a _ => a = ([.int k, .int n, .ref v] : List Value).toArray ∧ True) (z_Qi k) 0 0 zF := by
  refine Met.ofW (cc := prog_32_method_11_code) (maxL := 3) (ret := (some .int)) (by decide) rfl ?_
  intro p e s m args below meth c s₁ Bd hml ha
  obtain ⟨rfl, -⟩ := ha
  have hx := Bd.exec
  have hb := Bd.bytes
  have hr := Bd.returns
  have hlocks := Bd.notSynchronized
  have hts0 := atoms_spec (ws := zc_pci :: B) Bd.pre
  have hts : ∀ w ∈ B, w.before _ s = true := fun w hw => hts0 w (List.mem_cons_of_mem _ hw)
  have hown : s.vm.findClass "jdk/internal/util/Preconditions" = some m.cls := findClass_of_methodNamed Bd.named
  have hS : va_S zF s.heap s.heap [] := va_S.rf
  have hl := lv_entry ([.int k, .int n, .ref v]) (n := 3) (Nat.le_of_ble_eq_true rfl)
  rw [lg_entry_eq]
  generalize (lg_sl ([.int k, .int n, .ref v]) ++ List.replicate (3 - (lg_sl ([.int k, .int n, .ref v])).length) Slot.unset).toArray = ls at hl ⊢
  have hl : lv_has ls 3 [(0, .int k), (1, .int n), (2, .ref v)] := hl
  refine lv_iload_n hx hb zd_pci_0 rfl (lv_at hl 0 rfl) ?_
  refine lv_if_lt hx hb zd_pci_1 (tgt := 9) (by decide) (fun h => absurd h h0) (fun _ => ?_)
  refine lv_iload_n hx hb zd_pci_4 rfl (lv_at hl 0 rfl) ?_
  refine lv_iload_n hx hb zd_pci_5 rfl (lv_at hl 1 rfl) ?_
  refine lv_icmp_lt hx hb zd_pci_6 (tgt := 16) (by decide) (fun _ => ?_) (fun h => absurd h1 h)
  refine lv_iload_n hx hb zd_pci_16 rfl (lv_at hl 0 rfl) ?_
  exact W.iret hx hb hr (fun t ht hW => ⟨⟨_, (), rfl, rfl, trivial⟩, hS.F ht⟩) hS.2.2 zd_pci_17
def z_Pk (av : List Value) : Array Value → State → Prop := fun a U => a = av.toArray ∧ va_Zq "jdk/internal/util/Preconditions" "SIOOBE_FORMATTER" "Ljava/util/function/BiFunction;" zF U U.heap
theorem z_Pk_blind {av : List Value} : FrameBlind (z_Pk av) := fun a U g mk h => ⟨h.1, va_Zq.moved (u := U) (U := U.calling g mk a) (Vm.Alike.refl U.vm) h.2⟩
theorem z_cki {B : List Cond} (hB : z_in B) (l : Launch) (k n : Int32) (h0 : ¬ k < 0) (h1 : k < n) : Met l zy_cki (zc_cki :: B) (z_rm 1 22) (z_Pk [.int k, .int n]) z_Qv 0 0 zF := by
  refine Met.ofW (cc := prog_23_method_155_code) (maxL := 2) (ret := none) (by decide) rfl ?_
  intro p e s m args below meth c s₁ Bd hml ha
  obtain ⟨rfl, hz⟩ := ha
  have hx := Bd.exec
  have hb := Bd.bytes
  have hr := Bd.returns
  have hlocks := Bd.notSynchronized
  have hts0 := atoms_spec (ws := zc_cki :: B) Bd.pre
  have hts : ∀ w ∈ B, w.before _ s = true := fun w hw => hts0 w (List.mem_cons_of_mem _ hw)
  have hown : s.vm.findClass "java/lang/String" = some m.cls := findClass_of_methodNamed Bd.named
  have hS : va_S zF s.heap s.heap [] := va_S.rf
  have hl := lv_entry ([.int k, .int n]) (n := 2) (Nat.le_of_ble_eq_true rfl)
  rw [lg_entry_eq]
  generalize (lg_sl ([.int k, .int n]) ++ List.replicate (2 - (lg_sl ([.int k, .int n])).length) Slot.unset).toArray = ls at hl ⊢
  have hl : lv_has ls 2 [(0, .int k), (1, .int n)] := hl
  refine lv_iload_n hx hb zd_cki_0 rfl (lv_at hl 0 rfl) ?_
  refine lv_iload_n hx hb zd_cki_1 rfl (lv_at hl 1 rfl) ?_
  have hG : GoodIn B (va_wsS "java/lang/String" 1059 zy_pci (zc_pci :: B)) := by
    refine z_good hB (fun w hw => ?_) (zw_c_pci hB)
    simp only [List.mem_cons, List.not_mem_nil, or_false] at hw
    rcases hw with rfl | rfl | rfl
    · exact zw_m_pci hB
    · exact zw_t_pci hB
    · exact zw_n_P hB
  rcases hz with hz | ⟨v, hz⟩
  · refine va_gets hx hb hz hS hown (hts _ (zw_f_sio hB)) (fun _ h9 => h9) zd_cki_2 ?_
    refine va_calli (va_runS (As := [.int k, .int n, .null]) (rest := []) ⟨hx, hb, hml, hown, hts⟩ (z_pci0 (B := B) l k n h0 h1) (va_cwS 3 hts hG rfl rfl rfl (by decide +kernel) ⟨Nat.le_of_ble_eq_true rfl, Nat.le_of_ble_eq_true rfl⟩) ⟨fun a U g mk q => q, fun U hU hW => ⟨rfl, trivial⟩⟩ rfl rfl hl.1 rfl (lv_room (Nat.le_of_ble_eq_true rfl)) zd_cki_5 ⟨Nat.le_refl _, Nat.le_refl _⟩) hS (fun q _ h => h) (fun q h => h) (fun r u t9 H1 locs ht hvm hw hB9 hz1 hk1 hS => ?_)
    refine lv_pop hx hb zd_cki_8 rfl ?_
    exact W.vret hx hb hr (fun t ht hW => ⟨⟨(), rfl, trivial, trivial⟩, hS.F ht⟩) hS.2.2 zd_cki_9
  · refine va_gets hx hb hz hS hown (hts _ (zw_f_sio hB)) (fun _ h9 => h9) zd_cki_2 ?_
    refine va_calli (va_runS (As := [.int k, .int n, .ref v]) (rest := []) ⟨hx, hb, hml, hown, hts⟩ (z_pci1 (B := B) l k n v h0 h1) (va_cwS 3 hts hG rfl rfl rfl (by decide +kernel) ⟨Nat.le_of_ble_eq_true rfl, Nat.le_of_ble_eq_true rfl⟩) ⟨fun a U g mk q => q, fun U hU hW => ⟨rfl, trivial⟩⟩ rfl rfl hl.1 rfl (lv_room (Nat.le_of_ble_eq_true rfl)) zd_cki_5 ⟨Nat.le_refl _, Nat.le_refl _⟩) hS (fun q _ h => h) (fun q h => h) (fun r u t9 H1 locs ht hvm hw hB9 hz1 hk1 hS => ?_)
    refine lv_pop hx hb zd_cki_8 rfl ?_
    exact W.vret hx hb hr (fun t ht hW => ⟨⟨(), rfl, trivial, trivial⟩, hS.F ht⟩) hS.2.2 zd_cki_9
theorem z_l1c {B : List Cond} (hB : z_in B) (l : Launch) (q t n : Nat) (f : Nat → Int32) (k r : Int32) (h0 : ¬ k < 0) (h1 : k < Int32.ofNat n) (h2 : k.toNatClampNeg < n) (h3 : ((f k.toNatClampNeg &&& 255).toUInt32 % 65536).toInt32 = r) (h4 : narrow .char (.int r) = .int r) : Met l zy_l1c (zc_l1c :: B) (z_rm 2 43) (z_P [.ref t, .int k] q t n f) (z_Qi r) 0 0 zF := by
  refine Met.ofW (cc := prog_25_method_2_code) (maxL := 2) (ret := (some .char)) (by decide) rfl ?_
  intro p e s m args below meth c s₁ Bd hml ha
  obtain ⟨rfl, hz⟩ := ha
  have hx := Bd.exec
  have hb := Bd.bytes
  have hr := Bd.returns
  have hlocks := Bd.notSynchronized
  have hts0 := atoms_spec (ws := zc_l1c :: B) Bd.pre
  have hts : ∀ w ∈ B, w.before _ s = true := fun w hw => hts0 w (List.mem_cons_of_mem _ hw)
  have hown : s.vm.findClass "java/lang/StringLatin1" = some m.cls := findClass_of_methodNamed Bd.named
  have hS : va_S zF s.heap s.heap [] := va_S.rf
  have hl := lv_entry ([.ref t, .int k]) (n := 2) (Nat.le_of_ble_eq_true rfl)
  rw [lg_entry_eq]
  generalize (lg_sl ([.ref t, .int k]) ++ List.replicate (2 - (lg_sl ([.ref t, .int k])).length) Slot.unset).toArray = ls at hl ⊢
  have hl : lv_has ls 2 [(0, .ref t), (1, .int k)] := hl
  refine lv_iload_n hx hb zd_l1c_0 rfl (lv_at hl 1 rfl) ?_
  refine lv_aload_n hx hb zd_l1c_1 rfl (lv_at hl 0 rfl) ?_
  refine va_tlen hx hb hz.2.2.2.1 hS rfl zd_l1c_2 ?_
  have hG : GoodIn B (va_wsS "java/lang/StringLatin1" 9 zy_cki (zc_cki :: B)) := by
    refine z_good hB (fun w hw => ?_) (zw_c_cki hB)
    simp only [List.mem_cons, List.not_mem_nil, or_false] at hw
    rcases hw with rfl | rfl | rfl
    · exact zw_m_cki hB
    · exact zw_t_cki hB
    · exact zw_n_S hB
  refine va_callv (va_runS (As := [.int k, .int (Int32.ofNat n)]) (rest := []) ⟨hx, hb, hml, hown, hts⟩ (z_cki hB l k (Int32.ofNat n) h0 h1) (va_cwS 2 hts hG rfl rfl rfl (by decide +kernel) ⟨Nat.le_of_ble_eq_true rfl, Nat.le_of_ble_eq_true rfl⟩) ⟨z_Pk_blind, fun U hU hW => ⟨rfl, by rw [hU]; exact va_Zq.moved hW.alike hz.2.2.2.2.2⟩⟩ rfl rfl hl.1 rfl (lv_room (Nat.le_of_ble_eq_true rfl)) zd_l1c_3 ⟨Nat.le_refl _, Nat.le_refl _⟩) hS (fun q _ h => h) (fun q h => h) (fun u t9 H1 locs ht hvm hw hB9 hz1 hk1 hS => ?_)
  refine lv_aload_n hx hb zd_l1c_6 rfl (lv_at hl 0 rfl) ?_
  refine lv_iload_n hx hb zd_l1c_7 rfl (lv_at hl 1 rfl) ?_
  refine va_tb hx hb hz.2.2.2.1 hS (fun z => z.elim h0 (fun z => absurd h2 (by omega))) rfl zd_l1c_8 ?_
  refine lv_sipush (v := 255) hx hb zd_l1c_9 (by decide) ?_
  refine lv_iand hx hb zd_l1c_12 ?_
  refine lv_i2c hx hb zd_l1c_13 h3 ?_
  exact W.zret hx hb hr h4 (fun t ht hW => ⟨⟨_, (), rfl, rfl, trivial⟩, hS.F ht⟩) hS.2.2 zd_l1c_14
theorem z_chr {B : List Cond} (hB : z_in B) (l : Launch) (q t n : Nat) (f : Nat → Int32) (k r : Int32) (h0 : ¬ k < 0) (h1 : k < Int32.ofNat n) (h2 : k.toNatClampNeg < n) (h3 : ((f k.toNatClampNeg &&& 255).toUInt32 % 65536).toInt32 = r) (h4 : narrow .char (.int r) = .int r) : Met l zy_chr (zc_chr :: B) (z_rm 3 64) (z_P [.ref q, .int k] q t n f) (z_Qi r) 0 0 zF := by
  refine Met.ofW (cc := prog_23_method_56_code) (maxL := 2) (ret := (some .char)) (by decide) rfl ?_
  intro p e s m args below meth c s₁ Bd hml ha
  obtain ⟨rfl, hz⟩ := ha
  have hx := Bd.exec
  have hb := Bd.bytes
  have hr := Bd.returns
  have hlocks := Bd.notSynchronized
  have hts0 := atoms_spec (ws := zc_chr :: B) Bd.pre
  have hts : ∀ w ∈ B, w.before _ s = true := fun w hw => hts0 w (List.mem_cons_of_mem _ hw)
  have hown : s.vm.findClass "java/lang/String" = some m.cls := findClass_of_methodNamed Bd.named
  have hS : va_S zF s.heap s.heap [] := va_S.rf
  have hl := lv_entry ([.ref q, .int k]) (n := 2) (Nat.le_of_ble_eq_true rfl)
  rw [lg_entry_eq]
  generalize (lg_sl ([.ref q, .int k]) ++ List.replicate (2 - (lg_sl ([.ref q, .int k])).length) Slot.unset).toArray = ls at hl ⊢
  have hl : lv_has ls 2 [(0, .ref q), (1, .int k)] := hl
  refine lv_aload_n hx hb zd_chr_0 rfl (lv_at hl 0 rfl) ?_
  have hG : GoodIn B (wsV "java/lang/String" 492 "java/lang/String" zy_lat (zc_lat :: B)) := by
    refine z_good hB (fun w hw => ?_) (zw_c_lat hB)
    simp only [List.mem_cons, List.not_mem_nil, or_false] at hw
    rcases hw with rfl | rfl | rfl | rfl
    · exact zw_m_lat hB
    · exact zw_i_lat hB
    · exact zw_s_lat hB
    · exact zw_n_S hB
  refine va_calli (va_runV (As := []) (rest := []) ⟨hx, hb, hml, hown, hts⟩ (z_lat hB l q t n f) (cwV 0 hts hG rfl rfl rfl (by decide +kernel) ⟨Nat.le_of_ble_eq_true rfl, Nat.le_of_ble_eq_true rfl⟩) ⟨z_P_blind, (by obtain ⟨cell, h1, h2, h3, -⟩ := hz.1; exact ⟨cell, h1, h2, h3⟩), fun U hU hW => ⟨rfl, by rw [hU]; exact z_T.moved hW.alike hz⟩⟩ rfl rfl hl.1 rfl (lv_room (Nat.le_of_ble_eq_true rfl)) zd_chr_1 ⟨Nat.le_refl _, Nat.le_refl _⟩) hS (fun q _ h => h) (fun q h => h) (fun r9 u t9 H1 locs ht hvm hw hB9 hz1 hk1 hS => ?_)
  have hw : r9 = 1 := hw
  subst hw
  refine lv_if_eq hx hb zd_chr_4 (tgt := 16) (by decide) (fun h => absurd h (by decide)) (fun _ => ?_)
  refine lv_aload_n hx hb zd_chr_7 rfl (lv_at hl 0 rfl) ?_
  refine vk_getf hx hb hz.2.2.1 hS hown (hts _ (zw_f_val hB)) (fun _ h9 => h9) zd_chr_8 ?_
  refine lv_iload_n hx hb zd_chr_11 rfl (lv_at hl 1 rfl) ?_
  have hG2 : GoodIn B (va_wsS "java/lang/String" 495 zy_l1c (zc_l1c :: B)) := by
    refine z_good hB (fun w hw => ?_) (zw_c_l1c hB)
    simp only [List.mem_cons, List.not_mem_nil, or_false] at hw
    rcases hw with rfl | rfl | rfl
    · exact zw_m_l1c hB
    · exact zw_t_l1c hB
    · exact zw_n_L hB
  refine va_calli (va_runS (As := [.ref t, .int k]) (rest := []) ⟨hx, hb, hml, hown, hts⟩ (z_l1c hB l q t n f k r h0 h1 h2 h3 h4) (va_cwS 2 hts hG2 rfl rfl rfl (by decide +kernel) ⟨Nat.le_of_ble_eq_true rfl, Nat.le_of_ble_eq_true rfl⟩) ⟨z_P_blind, fun U hU hW => ⟨rfl, by rw [hU]; exact z_T.moved hW.alike (hz.kept hS.2.1)⟩⟩ rfl rfl hl.1 rfl (lv_room (Nat.le_of_ble_eq_true rfl)) zd_chr_12 ⟨Nat.le_refl _, Nat.le_refl _⟩) hS (fun q _ h => h) (fun q h => h) (fun r9 u t9 H1 locs ht hvm hw hB9 hz1 hk1 hS => ?_)
  have hw : r9 = r := hw
  subst hw
  exact W.zret hx hb hr h4 (fun t ht hW => ⟨⟨_, (), rfl, rfl, trivial⟩, hS.F ht⟩) hS.2.2 zd_chr_15
section ZR
variable {p : Program} {l : Launch} {e : Env} {R : Room} {s : State} {m : MethodId} {args : Array Value} {below : List Frame} {meth : Method} {c : Code} {H : Heap} {locs : List Loc} {cells slots : Nat} {Q : State → Prop}
variable {cc : ByteArray} {pc : Nat} {ls : Array Slot} {rest : List Value} {A : Nat → Prop} {B : List Cond}
theorem z_same {A0 : Nat → Prop} {H0 H1 : Heap} {locs1 : List Loc} (hk : ∀ q : Nat, q < H.size → ¬ zF q → H1[q]? = H[q]?) (h : va_S A0 H0 H1 locs1) : ∀ q, q < H.size → H1[q]? = H[q]? := fun q hq => hk q hq (fun z => z)
theorem z_call {q t n : Nat} {f : Nat → Int32} {v : Int32} {a : Array Value} {st0 : List Value} (hr : va_Run p l e R s m args below meth c H locs cells slots 0 0 (F0 m pc ls st0) rest (z_Qi v a) zF)
    (kk : ∀ (H1 : Heap) (locs1 : List Loc), H.size ≤ H1.size → (∀ q, q < H.size → H1[q]? = H[q]?) → (∀ q ∈ locs1, q ∈ locs) → W p l e R s m args below meth c H1 locs1 cells slots Q (F0 m (pc + 3) ls (.int v :: rest))) : W p l e R s m args below meth c H locs cells slots Q (F0 m pc ls st0) := by
  intro T hT X
  obtain ⟨w, st₀, t, T', L, h0, X', hL, e1, e2, ⟨⟨r, u, hv, hp, hb⟩, hz, hk⟩, st⟩ := hr T hT X
  cases hv
  have hp : r = v := hp
  subst hp
  rw [h0] at hz hk
  have hn : L = [] := by
    cases L with
    | nil => rfl
    | cons x L => exact (hL x List.mem_cons_self).elim
  subst hn
  rw [List.append_nil] at X'
  obtain ⟨t2, a1, b1⟩ := kk T'.heap locs (by rw [e1]; exact hz) (fun q h1 => by rw [e1]; exact hk q h1 (fun z => z)) (fun q h => h) T' rfl X'
  exact ⟨t2, st t2 a1, b1⟩
theorem z_slen {own : String} {index q t n : Nat} {f : Nat → Int32} (hB : z_in B) (hexec : p.tables.exec = Jvm.exec) (hb : c.code = cc) (hml : c.maxLocals = ls.size) (hown : s.vm.findClass own = some m.cls) (hts : ∀ w ∈ B, w.before args s = true) (hlink : (.methodLink own index zy_len : Cond) ∈ B) (hZ : z_T q t n f A s s.heap) (hS : va_S A s.heap H locs) (hR : 2 ≤ R.frames ∧ 40 ≤ R.locals ∧ cells ≤ R.cells ∧ slots ≤ R.slots) (hW : (rest.map fun v => v.category).sum ≤ 8) (hdg : decode cc pc = .ok (.invokevirtual index, 3))
    (kk : ∀ (H1 : Heap) (locs1 : List Loc), H.size ≤ H1.size → (∀ q, q < H.size → H1[q]? = H[q]?) → (∀ q ∈ locs1, q ∈ locs) → W p l e R s m args below meth c H1 locs1 cells slots Q (F0 m (pc + 3) ls (.int (Int32.ofNat n) :: rest))) : W p l e R s m args below meth c H locs cells slots Q (F0 m pc ls (.ref q :: rest)) := by
  have hG : GoodIn B (wsV own index "java/lang/String" zy_len (zc_len :: B)) := by
    refine z_good hB (fun w hw => ?_) (zw_c_len hB)
    simp only [List.mem_cons, List.not_mem_nil, or_false] at hw
    rcases hw with rfl | rfl | rfl | rfl
    · exact hlink
    · exact zw_i_len hB
    · exact zw_s_len hB
    · exact zw_n_S hB
  have hz : z_T q t n f zF s H := (hZ.kept hS.2.1).narrow (fun _ h => h.elim)
  refine z_call (q := q) (t := t) (n := n) (f := f) (va_runV (As := []) (rest := rest) ⟨hexec, hb, hml, hown, hts⟩ (z_len hB l q t n f) (cwV 0 hts hG rfl rfl rfl (by decide +kernel) ⟨hR.1, hR.2.1⟩) ⟨z_P_blind, (by obtain ⟨cell, h1, h2, h3, -⟩ := hz.1; exact ⟨cell, h1, h2, h3⟩), fun U hU hW => ⟨rfl, by rw [hU]; exact z_T.moved hW.alike hz⟩⟩ rfl rfl rfl rfl (lv_room hW) hdg ⟨hR.2.2.1, hR.2.2.2⟩) kk
theorem z_scha {own : String} {index q t n : Nat} {f : Nat → Int32} {k r : Int32} (h0 : ¬ k < 0) (h1 : k < Int32.ofNat n) (h2 : k.toNatClampNeg < n) (h3 : ((f k.toNatClampNeg &&& 255).toUInt32 % 65536).toInt32 = r) (h4 : narrow .char (.int r) = .int r) (hB : z_in B) (hexec : p.tables.exec = Jvm.exec) (hb : c.code = cc) (hml : c.maxLocals = ls.size) (hown : s.vm.findClass own = some m.cls) (hts : ∀ w ∈ B, w.before args s = true) (hlink : (.methodLink own index zy_chr : Cond) ∈ B) (hZ : z_T q t n f A s s.heap) (hS : va_S A s.heap H locs) (hR : 4 ≤ R.frames ∧ 85 ≤ R.locals ∧ cells ≤ R.cells ∧ slots ≤ R.slots) (hW : (rest.map fun v => v.category).sum ≤ 8) (hdg : decode cc pc = .ok (.invokevirtual index, 3))
    (kk : ∀ (H1 : Heap) (locs1 : List Loc), H.size ≤ H1.size → (∀ q, q < H.size → H1[q]? = H[q]?) → (∀ q ∈ locs1, q ∈ locs) → W p l e R s m args below meth c H1 locs1 cells slots Q (F0 m (pc + 3) ls (.int r :: rest))) : W p l e R s m args below meth c H locs cells slots Q (F0 m pc ls (.int k :: .ref q :: rest)) := by
  have hG : GoodIn B (wsV own index "java/lang/String" zy_chr (zc_chr :: B)) := by
    refine z_good hB (fun w hw => ?_) (zw_c_chr hB)
    simp only [List.mem_cons, List.not_mem_nil, or_false] at hw
    rcases hw with rfl | rfl | rfl | rfl
    · exact hlink
    · exact zw_i_chr hB
    · exact zw_s_chr hB
    · exact zw_n_S hB
  have hz : z_T q t n f zF s H := (hZ.kept hS.2.1).narrow (fun _ h => h.elim)
  refine z_call (q := q) (t := t) (n := n) (f := f) (va_runV (As := [.int k]) (rest := rest) ⟨hexec, hb, hml, hown, hts⟩ (z_chr hB l q t n f k r h0 h1 h2 h3 h4) (cwV 1 hts hG rfl rfl rfl (by decide +kernel) ⟨hR.1, hR.2.1⟩) ⟨z_P_blind, (by obtain ⟨cell, h1, h2, h3, -⟩ := hz.1; exact ⟨cell, h1, h2, h3⟩), fun U hU hW => ⟨rfl, by rw [hU]; exact z_T.moved hW.alike hz⟩⟩ rfl rfl rfl rfl (lv_room hW) hdg ⟨hR.2.2.1, hR.2.2.2⟩) kk
end ZR
/-- va_P, va_D, va_S behind a call that changes nothing -/
theorem z_keepP {D : va_G} {cl : List vw_C} {ws : va_W} {H H1 : Heap} (h : va_P D cl ws H) (hk : ∀ q, q < H.size → H1[q]? = H[q]?) : va_P D cl ws H1 := fun i q hi => (h i q hi).kept (hk q.1 (h i q hi).lt)
theorem z_keepS {A : Nat → Prop} {H0 H H1 : Heap} {locs locs1 : List Loc} (h : va_S A H0 H locs) (hz : H.size ≤ H1.size) (hk : ∀ q, q < H.size → H1[q]? = H[q]?) (hl : ∀ q ∈ locs1, q ∈ locs) : va_S A H0 H1 locs1 := ⟨Nat.le_trans h.1 hz, fun q h1 h2 => by rw [hk q (Nat.lt_of_lt_of_le h1 h.1)]; exact h.2.1 q h1 h2, fun q hq => h.2.2 q (hl q hq)⟩
