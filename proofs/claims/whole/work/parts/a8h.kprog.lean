/-! THE CONSTRUCTORS (10): what the memory is when they are through; Program. -/
def kz_sc : jSc := fun a k => if a = 734 then (if 12 ≤ k then -1 else 0) else if a = 744 ∨ a = 748 ∨ a = 752 then (if 7 ≤ k then -1 else 0) else if a = 756 then (if k = 6 then -1 else 0) else if a = 757 then (if k = 8 then -1 else 0) else if a = 773 then (if k = 13 ∨ k = 16 ∨ k = 18 then -1 else 0) else if a = 774 then (if k = 5 then 35 else 0) else if a = 796 then (if 4 ≤ k then -1 else 0) else 0
def kz_ar : jSc := fun b => if b = 747 ∨ b = 751 ∨ b = 755 then fM1 17 else fun _ => 0
def kz_S : Nat → Int32 := fun k => if k = 2 ∨ k = 29 then -1 else 0
def kz_ra : jSc := fun b => if b = 6 ∨ b = 7 then fM1 17 else if b = 10 ∨ b = 11 then fM1 2 else fun _ => 0
def kz_al : jAl := fun _ _ => 0
def kz_mr : Nat → Nat := fun i => if i = 0 then 744 else if i = 1 then 748 else if i = 2 then 752 else if i = 3 then 744 else 752
def kz_rf : jRf := fun _ => r_rf
def kz_r0 : jSc := fun _ _ => 0
def kF : jM := j_lay kL (kSc kz_S kz_sc) (x_mk kz_mr kz_rf) (kAr kz_r0 kz_ar) kz_al
theorem kb_735 {e : va_E} : va_up kF 734 e 735 = .inl (0, (600, .inl fun _ => 0)) := rfl
theorem kb_736 {e : va_E} : va_up kF 734 e 736 = .inr (0, [.ref 737, .ref 738, .ref 739, .ref 740, .ref 741, .int 0, .int 0, .int 0, .int 0, .ref 742, .ref 743, .int 0]) := rfl
theorem kb_737 {e : va_E} : va_up kF 734 e 737 = .inl (0, (6, .inl fun _ => 0)) := rfl
theorem kb_738 {e : va_E} : va_up kF 734 e 738 = .inl (0, (6, .inl fun _ => 0)) := rfl
theorem kb_739 {e : va_E} : va_up kF 734 e 739 = .inl (0, (6, .inl fun _ => 0)) := rfl
theorem kb_740 {e : va_E} : va_up kF 734 e 740 = .inl (0, (6, .inl fun _ => 0)) := rfl
theorem kb_741 {e : va_E} : va_up kF 734 e 741 = .inl (0, (8, .inl fun _ => 0)) := rfl
theorem kb_742 {e : va_E} : va_up kF 734 e 742 = .inl (0, (64, .inl fun _ => 0)) := rfl
theorem kb_743 {e : va_E} : va_up kF 734 e 743 = .inl (1, (64, .inr (.inl fun _ => 0))) := rfl
theorem kb_744 {e : va_E} : va_up kF 734 e 744 = .inr (5, [.ref 745, .ref 746, .ref 747, .int 0, .int 0, .int 0, .int 0, .int (-1), .int (-1)]) := rfl
theorem kb_745 {e : va_E} : va_up kF 734 e 745 = .inl (0, (700, .inl fun _ => 0)) := rfl
theorem kb_746 {e : va_E} : va_up kF 734 e 746 = .inl (0, (700, .inl fun _ => 0)) := rfl
theorem kb_747 {e : va_E} : va_up kF 734 e 747 = .inl (0, (17, .inl (fM1 17))) := rfl
theorem kb_748 {e : va_E} : va_up kF 734 e 748 = .inr (5, [.ref 749, .ref 750, .ref 751, .int 0, .int 0, .int 0, .int 0, .int (-1), .int (-1)]) := rfl
theorem kb_749 {e : va_E} : va_up kF 734 e 749 = .inl (0, (700, .inl fun _ => 0)) := rfl
theorem kb_750 {e : va_E} : va_up kF 734 e 750 = .inl (0, (700, .inl fun _ => 0)) := rfl
theorem kb_751 {e : va_E} : va_up kF 734 e 751 = .inl (0, (17, .inl (fM1 17))) := rfl
theorem kb_752 {e : va_E} : va_up kF 734 e 752 = .inr (5, [.ref 753, .ref 754, .ref 755, .int 0, .int 0, .int 0, .int 0, .int (-1), .int (-1)]) := rfl
theorem kb_753 {e : va_E} : va_up kF 734 e 753 = .inl (0, (700, .inl fun _ => 0)) := rfl
theorem kb_754 {e : va_E} : va_up kF 734 e 754 = .inl (0, (700, .inl fun _ => 0)) := rfl
theorem kb_755 {e : va_E} : va_up kF 734 e 755 = .inl (0, (17, .inl (fM1 17))) := rfl
theorem kb_756 {e : va_E} : va_up kF 734 e 756 = .inr (6, [.ref 735, .int 0, .int 0, .int 0, .int 0, .ref 752, .int (-1)]) := rfl
theorem kb_757 {e : va_E} : va_up kF 734 e 757 = .inr (1, [.ref 736, .ref 758, .ref 744, .int 0, .int 0, .int 0, .int 0, .int 0, .int (-1), .int 0]) := rfl
theorem kb_758 {e : va_E} : va_up kF 734 e 758 = .inl (0, (64, .inl fun _ => 0)) := rfl
theorem kb_759 {e : va_E} : va_up kF 734 e 759 = .inr (9, [.ref 760, .ref 762, .ref 763, .ref 764, .ref 765, .int 0, .ref 757, .ref 766, .ref 768, .ref 769, .ref 770, .ref 771, .int 0, .ref 772, .int 0]) := rfl
theorem kb_760 {e : va_E} : va_up kF 734 e 760 = .inr (3, [.ref 761]) := rfl
theorem kb_761 {e : va_E} : va_up kF 734 e 761 = .inl (0, (50, .inl fun _ => 0)) := rfl
theorem kb_762 {e : va_E} : va_up kF 734 e 762 = .inl (0, (40, .inl fun _ => 0)) := rfl
theorem kb_763 {e : va_E} : va_up kF 734 e 763 = .inl (0, (40, .inl fun _ => 0)) := rfl
theorem kb_764 {e : va_E} : va_up kF 734 e 764 = .inl (0, (40, .inl fun _ => 0)) := rfl
theorem kb_765 {e : va_E} : va_up kF 734 e 765 = .inl (0, (40, .inl fun _ => 0)) := rfl
theorem kb_766 {e : va_E} : va_up kF 734 e 766 = .inr (3, [.ref 767]) := rfl
theorem kb_767 {e : va_E} : va_up kF 734 e 767 = .inl (0, (50, .inl fun _ => 0)) := rfl
theorem kb_768 {e : va_E} : va_up kF 734 e 768 = .inl (1, (40, .inr (.inl fun _ => 0))) := rfl
theorem kb_769 {e : va_E} : va_up kF 734 e 769 = .inl (0, (41, .inl fun _ => 0)) := rfl
theorem kb_770 {e : va_E} : va_up kF 734 e 770 = .inl (0, (410, .inl fun _ => 0)) := rfl
theorem kb_771 {e : va_E} : va_up kF 734 e 771 = .inl (0, (400, .inl fun _ => 0)) := rfl
theorem kb_772 {e : va_E} : va_up kF 734 e 772 = .inl (0, (5, .inl fun _ => 0)) := rfl
theorem kb_773 {e : va_E} : va_up kF 734 e 773 = .inr (8, [.int 0, .int 0, .ref 757, .ref 774, .ref 778, .ref 780, .ref 782, .ref 789, .ref 790, .ref 791, .ref 792, .ref 793, .ref 794, .int (-1), .int 0, .int 0, .int (-1), .ref 795, .int (-1)]) := rfl
theorem kb_774 {e : va_E} : va_up kF 734 e 774 = .inr (2, [.int 0, .ref 775, .ref 776, .ref 777, .int 0, .int 35]) := rfl
theorem kb_775 {e : va_E} : va_up kF 734 e 775 = .inl (0, (71680, .inl fun _ => 0)) := rfl
theorem kb_776 {e : va_E} : va_up kF 734 e 776 = .inl (0, (8192, .inl fun _ => 0)) := rfl
theorem kb_777 {e : va_E} : va_up kF 734 e 777 = .inl (0, (2048, .inl fun _ => 0)) := rfl
theorem kb_778 {e : va_E} : va_up kF 734 e 778 = .inr (3, [.ref 779]) := rfl
theorem kb_779 {e : va_E} : va_up kF 734 e 779 = .inl (0, (50, .inl fun _ => 0)) := rfl
theorem kb_780 {e : va_E} : va_up kF 734 e 780 = .inr (3, [.ref 781]) := rfl
theorem kb_781 {e : va_E} : va_up kF 734 e 781 = .inl (0, (50, .inl fun _ => 0)) := rfl
theorem kb_782 {e : va_E} : va_up kF 734 e 782 = .inl (3, (3, .inr (.inr (.inr (.inr (kL.2.1 782)))))) := rfl
theorem kb_783 {e : va_E} : va_up kF 734 e 783 = .inr (3, [.ref 784]) := rfl
theorem kb_784 {e : va_E} : va_up kF 734 e 784 = .inl (0, (50, .inl fun _ => 0)) := rfl
theorem kb_785 {e : va_E} : va_up kF 734 e 785 = .inr (3, [.ref 786]) := rfl
theorem kb_786 {e : va_E} : va_up kF 734 e 786 = .inl (0, (50, .inl fun _ => 0)) := rfl
theorem kb_787 {e : va_E} : va_up kF 734 e 787 = .inr (3, [.ref 788]) := rfl
theorem kb_788 {e : va_E} : va_up kF 734 e 788 = .inl (0, (50, .inl fun _ => 0)) := rfl
theorem kb_789 {e : va_E} : va_up kF 734 e 789 = .inl (0, (600, .inl fun _ => 0)) := rfl
theorem kb_790 {e : va_E} : va_up kF 734 e 790 = .inl (0, (600, .inl fun _ => 0)) := rfl
theorem kb_791 {e : va_E} : va_up kF 734 e 791 = .inl (0, (26624, .inl fun _ => 0)) := rfl
theorem kb_792 {e : va_E} : va_up kF 734 e 792 = .inl (2, (2048, .inl fun _ => 0)) := rfl
theorem kb_793 {e : va_E} : va_up kF 734 e 793 = .inl (0, (2048, .inl fun _ => 0)) := rfl
theorem kb_794 {e : va_E} : va_up kF 734 e 794 = .inl (0, (2048, .inl fun _ => 0)) := rfl
theorem kb_795 {e : va_E} : va_up kF 734 e 795 = .inl (0, (8, .inl fun _ => 0)) := rfl
theorem kb_796 {e : va_E} : va_up kF 734 e 796 = .inr (4, [.ref 797, .int 0, .ref 757, .ref 798, .int (-1), .int (-1)]) := rfl
theorem kb_797 {e : va_E} : va_up kF 734 e 797 = .inl (3, (10, .inr (.inr (.inr (.inr (kL.2.1 797)))))) := rfl
theorem kb_798 {e : va_E} : va_up kF 734 e 798 = .inl (0, (10, .inl fun _ => 0)) := rfl
theorem kb_799 {e : va_E} : va_up kF 734 e 799 = .inr (3, [.ref 800]) := rfl
theorem kb_800 {e : va_E} : va_up kF 734 e 800 = .inl (0, (50, .inl fun _ => 0)) := rfl
theorem kb_801 {e : va_E} : va_up kF 734 e 801 = .inr (3, [.ref 802]) := rfl
theorem kb_802 {e : va_E} : va_up kF 734 e 802 = .inl (0, (50, .inl fun _ => 0)) := rfl
theorem kb_803 {e : va_E} : va_up kF 734 e 803 = .inr (3, [.ref 804]) := rfl
theorem kb_804 {e : va_E} : va_up kF 734 e 804 = .inl (0, (50, .inl fun _ => 0)) := rfl
theorem kb_805 {e : va_E} : va_up kF 734 e 805 = .inr (3, [.ref 806]) := rfl
theorem kb_806 {e : va_E} : va_up kF 734 e 806 = .inl (0, (50, .inl fun _ => 0)) := rfl
theorem kb_807 {e : va_E} : va_up kF 734 e 807 = .inr (3, [.ref 808]) := rfl
theorem kb_808 {e : va_E} : va_up kF 734 e 808 = .inl (0, (50, .inl fun _ => 0)) := rfl
theorem kb_809 {e : va_E} : va_up kF 734 e 809 = .inr (3, [.ref 810]) := rfl
theorem kb_810 {e : va_E} : va_up kF 734 e 810 = .inl (0, (50, .inl fun _ => 0)) := rfl
theorem kb_811 {e : va_E} : va_up kF 734 e 811 = .inr (3, [.ref 812]) := rfl
theorem kb_812 {e : va_E} : va_up kF 734 e 812 = .inl (0, (50, .inl fun _ => 0)) := rfl
theorem kb_813 {e : va_E} : va_up kF 734 e 813 = .inr (3, [.ref 814]) := rfl
theorem kb_814 {e : va_E} : va_up kF 734 e 814 = .inl (0, (50, .inl fun _ => 0)) := rfl
theorem kb_815 {e : va_E} : va_up kF 734 e 815 = .inr (3, [.ref 816]) := rfl
theorem kb_816 {e : va_E} : va_up kF 734 e 816 = .inl (0, (50, .inl fun _ => 0)) := rfl
theorem kb_817 {e : va_E} : va_up kF 734 e 817 = .inr (3, [.ref 818]) := rfl
theorem kb_818 {e : va_E} : va_up kF 734 e 818 = .inl (0, (50, .inl fun _ => 0)) := rfl
theorem kb_819 {e : va_E} : va_up kF 734 e 819 = .inr (7, [.ref 820, .int 0, .ref 757, .ref 821]) := rfl
theorem kb_820 {e : va_E} : va_up kF 734 e 820 = .inl (0, (40, .inl fun _ => 0)) := rfl
theorem kb_821 {e : va_E} : va_up kF 734 e 821 = .inr (3, [.ref 822]) := rfl
theorem kb_822 {e : va_E} : va_up kF 734 e 822 = .inl (0, (50, .inl fun _ => 0)) := rfl
theorem kb_734 : kF 734 = .inr (10, [.ref 735, .ref 736, .ref 744, .ref 748, .ref 752, .ref 756, .ref 757, .ref 759, .ref 773, .ref 796, .ref 819, .int 0, .int (-1), .int (-1), .int (-1)]) := rfl
set_option maxHeartbeats 4000000 in
theorem ki_5 (l : Launch) {N a : Nat} {f : jM} (hN : N + 3 ≤ 822) (ha : a ∈ kOl N) (hf : f a = .inr (5, [.null, .null, .null, .int 0, .int 0, .int 0, .int 0, .int 0, .int 0])) : kIm l (⟨"ClickOrders$Program", "<init>", "()V"⟩ : MethodName) prog_7_method_1_code 1 6 200 [.ref a] N (N + 3) 1417 f (va_up (va_up (va_up (va_up f (kO (N)) (.inl (0, (700, .inl fun _ => 0)))) (kO (N + 1)) (.inl (0, (700, .inl fun _ => 0)))) (kO (N + 2)) (.inl (0, (17, .inl (fM1 17))))) a (.inr (5, [.ref (kO (N)), .ref (kO (N + 1)), .ref (kO (N + 2)), .int 0, .int 0, .int 0, .int 0, .int (-1), .int (-1)]))) := by
  refine k_ctor (co := kci_5) (fl := fun x => j_lk xf_5 x) (cn := fun x => j_lk xk_5 x) (by decide) rfl (Nat.le_of_ble_eq_true rfl) kdi_5 (fun x q h => xf_all_5 (x, q) (j_lk_mem h)) (fun x v h => xk_all_5 (x, v) (j_lk_mem h)) (fun G B0 hB => ?_)
  obtain ⟨hC, hPg, hRo, hRu, hE⟩ := hB
  conv => arg 9; rw [show f = va_up f a (.inr (5, [.null, .null, .null, .int 0, .int 0, .int 0, .int 0, .int 0, .int 0])) from va_ui hf]
  refine kU_st hC (by omega) (i := .aload_n 0) rfl rfl rfl ?_
  refine kU_objI hC (kRo_le hRo (by omega) (by omega)) rfl ko_l5 ko_1 ko_2 rfl ?_
  refine kU_arr (kk := 0) (t := 0) (M := 700) (v := 700) (ty := .int) (fty := .int) (a0 := (700, .inl fun _ => 0)) hC hPg (by omega) (kOl_le 0 ha) rfl rfl rfl rfl (fun _ _ => rfl) rfl rfl kn_i (fun _ _ => rfl) kra_i (fun _ => rfl) (fun _ => rfl) (by decide) (by decide) (by decide) (kRu_le hRu (by omega) (by omega)) rfl rfl rfl (fun C Tt M h => by cases h; exact ⟨rfl, rfl, rfl⟩) rfl rfl ?_
  refine kU_arr (kk := 1) (t := 0) (M := 700) (v := 700) (ty := .int) (fty := .int) (a0 := (700, .inl fun _ => 0)) hC hPg (by omega) (kOl_le 1 ha) rfl rfl rfl rfl (fun _ _ => rfl) rfl rfl kn_i (fun _ _ => rfl) kra_i (fun _ => rfl) (fun _ => rfl) (by decide) (by decide) (by decide) (kRu_le hRu (by omega) (by omega)) rfl rfl rfl (fun C Tt M h => by cases h; exact ⟨rfl, rfl, rfl⟩) rfl rfl ?_
  refine kU_arr (kk := 2) (t := 0) (M := 17) (v := 17) (ty := .int) (fty := .int) (a0 := (17, .inl fun _ => 0)) hC hPg (by omega) (kOl_le 2 ha) rfl rfl rfl rfl (fun _ _ => rfl) rfl rfl kn_i (fun _ _ => rfl) kra_i (fun _ => rfl) (fun _ => rfl) (by decide) (by decide) (by decide) (kRu_le hRu (by omega) (by omega)) rfl rfl rfl (fun C Tt M h => by cases h; exact ⟨rfl, rfl, rfl⟩) rfl rfl ?_
  refine kU_num (kk := 3) (t := 0) (v := 0) hC (by omega) (kOl_le 3 ha) rfl rfl rfl rfl (fun _ _ => rfl) rfl rfl rfl rfl rfl rfl ?_
  refine kU_num (kk := 4) (t := 0) (v := 0) hC (by omega) (kOl_le 3 ha) rfl rfl rfl rfl (fun _ _ => rfl) rfl rfl rfl rfl rfl rfl ?_
  refine kU_num (kk := 5) (t := 0) (v := 0) hC (by omega) (kOl_le 3 ha) rfl rfl rfl rfl (fun _ _ => rfl) rfl rfl rfl rfl rfl rfl ?_
  refine kU_num (kk := 6) (t := 0) (v := 0) hC (by omega) (kOl_le 3 ha) rfl rfl rfl rfl (fun _ _ => rfl) rfl rfl rfl rfl rfl rfl ?_
  refine kU_num (kk := 7) (t := 0) (v := (-1)) hC (by omega) (kOl_le 3 ha) rfl rfl rfl rfl (fun _ _ => rfl) rfl rfl rfl rfl rfl rfl ?_
  refine kU_num (kk := 8) (t := 0) (v := (-1)) hC (by omega) (kOl_le 3 ha) rfl rfl rfl rfl (fun _ _ => rfl) rfl rfl rfl rfl rfl rfl ?_
  refine kU_al (b := a) hC (by omega) rfl rfl rfl ?_
  refine kU_gf (a := a) (ci := 5) (kk := 2) (t := 9) (v := .ref (kO (N + 2))) hC (by omega) rfl rfl (kOl_le 3 ha) (by simp [va_up]; rfl) rfl rfl ?_
  refine kU_int (v := -1) hC (by omega) rfl rfl (fun _ _ => rfl) ?_
  obtain ⟨NN, hrun⟩ := ff_run (a := kO (N + 2)) (d := 0)
  have hne : kO (N + 2) ≠ a := fun z => kOl_ni (N := N + 2) (by omega) (by rw [z]; exact kOl_le 2 ha)
  refine kU_callS (q := 503) (na := 2) (mq := 4) (d := 1) (args0 := [.ref (kO (N + 2)), .int (-1)]) (rest := []) hC (by omega) rfl (xm_5_40 g_me_x) rfl rfl rfl rfl rfl (kRo_le hRo (by omega) (by omega)) (kRu_le hRu (by omega) (by omega)) (hrun (kOl (N + 3)) _ (by rw [kOl_s]; simp) (by simp [va_up, hne])) rfl ?_
  rw [va_uc hne.symm, va_us]
  exact kU_end hC rfl hE (by omega) (by omega)
