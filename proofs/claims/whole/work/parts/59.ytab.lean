/-! FETCHING from the tables of ClickOrders. -/
def x_pg (p : Nat) : Bool := p == 760 || p == 766 || p == 778 || p == 780 || p == 783 || p == 785 || p == 787 || p == 799 || p == 801 || p == 803 || p == 805 || p == 807 || p == 809 || p == 811 || p == 813 || p == 815 || p == 817 || p == 821
def x_pr (p : Nat) : Bool := p == 744 || p == 748 || p == 752
/-- the references of the cells: five of them change (mr), rf those of the other side -/
def x_mk (mr : Nat → Nat) (rf : jRf) : jRf := fun a k => if a = 734 ∧ k = 2 then mr 0 else if a = 734 ∧ k = 3 then mr 1 else if a = 734 ∧ k = 4 then mr 2 else if a = 757 ∧ k = 2 then mr 3 else if a = 756 ∧ k = 5 then mr 4 else if a < 734 then rf a k else x_rf a k
theorem xmk_0 {mr : Nat → Nat} {rf : jRf} {v : Nat} : j_u2 (x_mk mr rf) 734 2 v = x_mk (va_up mr 0 v) rf := by
  funext a k
  unfold j_u2 x_mk
  by_cases h : a = 734 ∧ k = 2
  · obtain ⟨rfl, rfl⟩ := h
    simp [va_up]
  · rw [if_neg h]
    simp only [va_up, Nat.reduceEqDiff, if_false, if_true, h, ↓reduceIte]
theorem xmk_1 {mr : Nat → Nat} {rf : jRf} {v : Nat} : j_u2 (x_mk mr rf) 734 3 v = x_mk (va_up mr 1 v) rf := by
  funext a k
  unfold j_u2 x_mk
  by_cases h : a = 734 ∧ k = 3
  · obtain ⟨rfl, rfl⟩ := h
    simp [va_up]
  · rw [if_neg h]
    simp only [va_up, Nat.reduceEqDiff, if_false, if_true, h, ↓reduceIte]
theorem xmk_2 {mr : Nat → Nat} {rf : jRf} {v : Nat} : j_u2 (x_mk mr rf) 734 4 v = x_mk (va_up mr 2 v) rf := by
  funext a k
  unfold j_u2 x_mk
  by_cases h : a = 734 ∧ k = 4
  · obtain ⟨rfl, rfl⟩ := h
    simp [va_up]
  · rw [if_neg h]
    simp only [va_up, Nat.reduceEqDiff, if_false, if_true, h, ↓reduceIte]
theorem xmk_3 {mr : Nat → Nat} {rf : jRf} {v : Nat} : j_u2 (x_mk mr rf) 757 2 v = x_mk (va_up mr 3 v) rf := by
  funext a k
  unfold j_u2 x_mk
  by_cases h : a = 757 ∧ k = 2
  · obtain ⟨rfl, rfl⟩ := h
    simp [va_up]
  · rw [if_neg h]
    simp only [va_up, Nat.reduceEqDiff, if_false, if_true, h, ↓reduceIte]
theorem xmk_4 {mr : Nat → Nat} {rf : jRf} {v : Nat} : j_u2 (x_mk mr rf) 756 5 v = x_mk (va_up mr 4 v) rf := by
  funext a k
  unfold j_u2 x_mk
  by_cases h : a = 756 ∧ k = 5
  · obtain ⟨rfl, rfl⟩ := h
    simp [va_up]
  · rw [if_neg h]
    simp only [va_up, Nat.reduceEqDiff, if_false, if_true, h, ↓reduceIte]
theorem ys_pg {b : Bool} {p : Nat} (h : x_pg p = true) : (g_L (gX b)).1 p = .inl 3 := by
  simp only [x_pg, Bool.or_eq_true, beq_iff_eq] at h
  rcases h with (((((((((((((((((rfl) | rfl) | rfl) | rfl) | rfl) | rfl) | rfl) | rfl) | rfl) | rfl) | rfl) | rfl) | rfl) | rfl) | rfl) | rfl) | rfl) | rfl <;> rfl
theorem ys_pgc {b : Bool} {p : Nat} (h : x_pg p = true) : (g_L (gX b)).1 (p + 1) = .inr (0, 50) := by
  simp only [x_pg, Bool.or_eq_true, beq_iff_eq] at h
  rcases h with (((((((((((((((((rfl) | rfl) | rfl) | rfl) | rfl) | rfl) | rfl) | rfl) | rfl) | rfl) | rfl) | rfl) | rfl) | rfl) | rfl) | rfl) | rfl) | rfl <;> rfl
theorem yr_pg {mr : Nat → Nat} {rf : jRf} {p : Nat} (h : x_pg p = true) : x_mk mr rf p 0 = p + 1 := by
  simp only [x_pg, Bool.or_eq_true, beq_iff_eq] at h
  rcases h with (((((((((((((((((rfl) | rfl) | rfl) | rfl) | rfl) | rfl) | rfl) | rfl) | rfl) | rfl) | rfl) | rfl) | rfl) | rfl) | rfl) | rfl) | rfl) | rfl <;> rfl
theorem ys_pr {b : Bool} {p : Nat} (h : x_pr p = true) : (g_L (gX b)).1 p = .inl 5 := by
  simp only [x_pr, Bool.or_eq_true, beq_iff_eq] at h
  rcases h with ((rfl) | rfl) | rfl <;> rfl
theorem ys_pr1 {b : Bool} {p : Nat} (h : x_pr p = true) : (g_L (gX b)).1 (p + 1) = .inr (0, 700) := by
  simp only [x_pr, Bool.or_eq_true, beq_iff_eq] at h
  rcases h with ((rfl) | rfl) | rfl <;> rfl
theorem yr_pr1 {mr : Nat → Nat} {rf : jRf} {p : Nat} (h : x_pr p = true) : x_mk mr rf p 0 = p + 1 := by
  simp only [x_pr, Bool.or_eq_true, beq_iff_eq] at h
  rcases h with ((rfl) | rfl) | rfl <;> rfl
theorem ys_pr2 {b : Bool} {p : Nat} (h : x_pr p = true) : (g_L (gX b)).1 (p + 2) = .inr (0, 700) := by
  simp only [x_pr, Bool.or_eq_true, beq_iff_eq] at h
  rcases h with ((rfl) | rfl) | rfl <;> rfl
theorem yr_pr2 {mr : Nat → Nat} {rf : jRf} {p : Nat} (h : x_pr p = true) : x_mk mr rf p 1 = p + 2 := by
  simp only [x_pr, Bool.or_eq_true, beq_iff_eq] at h
  rcases h with ((rfl) | rfl) | rfl <;> rfl
theorem ys_pr3 {b : Bool} {p : Nat} (h : x_pr p = true) : (g_L (gX b)).1 (p + 3) = .inr (0, 17) := by
  simp only [x_pr, Bool.or_eq_true, beq_iff_eq] at h
  rcases h with ((rfl) | rfl) | rfl <;> rfl
theorem yr_pr3 {mr : Nat → Nat} {rf : jRf} {p : Nat} (h : x_pr p = true) : x_mk mr rf p 2 = p + 3 := by
  simp only [x_pr, Bool.or_eq_true, beq_iff_eq] at h
  rcases h with ((rfl) | rfl) | rfl <;> rfl
theorem pg_782 {i : Nat} (h : i < 3) : x_pg (783 + 2 * i) = true := by
  rcases (show i = 0 ∨ i = 1 ∨ i = 2 by omega) with rfl | rfl | rfl <;> rfl
theorem yo_782 {b : Bool} {i : Nat} (h : i < 3) : (g_L (gX b)).2.1 782 i = some (783 + 2 * i) := by
  rcases (show i = 0 ∨ i = 1 ∨ i = 2 by omega) with rfl | rfl | rfl <;> rfl
theorem pg_797 {i : Nat} (h : i < 10) : x_pg (799 + 2 * i) = true := by
  rcases (show i = 0 ∨ i = 1 ∨ i = 2 ∨ i = 3 ∨ i = 4 ∨ i = 5 ∨ i = 6 ∨ i = 7 ∨ i = 8 ∨ i = 9 by omega) with rfl | rfl | rfl | rfl | rfl | rfl | rfl | rfl | rfl | rfl <;> rfl
theorem yo_797 {b : Bool} {i : Nat} (h : i < 10) : (g_L (gX b)).2.1 797 i = some (799 + 2 * i) := by
  rcases (show i = 0 ∨ i = 1 ∨ i = 2 ∨ i = 3 ∨ i = 4 ∨ i = 5 ∨ i = 6 ∨ i = 7 ∨ i = 8 ∨ i = 9 by omega) with rfl | rfl | rfl | rfl | rfl | rfl | rfl | rfl | rfl | rfl <;> rfl
theorem ys_734 {b : Bool} : (g_L (gX b)).1 734 = .inl 10 := rfl
theorem ys_735 {b : Bool} : (g_L (gX b)).1 735 = .inr (0, 600) := rfl
theorem ys_736 {b : Bool} : (g_L (gX b)).1 736 = .inl 0 := rfl
theorem ys_737 {b : Bool} : (g_L (gX b)).1 737 = .inr (0, 6) := rfl
theorem ys_738 {b : Bool} : (g_L (gX b)).1 738 = .inr (0, 6) := rfl
theorem ys_739 {b : Bool} : (g_L (gX b)).1 739 = .inr (0, 6) := rfl
theorem ys_740 {b : Bool} : (g_L (gX b)).1 740 = .inr (0, 6) := rfl
theorem ys_741 {b : Bool} : (g_L (gX b)).1 741 = .inr (0, 8) := rfl
theorem ys_742 {b : Bool} : (g_L (gX b)).1 742 = .inr (0, 64) := rfl
theorem ys_743 {b : Bool} : (g_L (gX b)).1 743 = .inr (1, 64) := rfl
theorem ys_744 {b : Bool} : (g_L (gX b)).1 744 = .inl 5 := rfl
theorem ys_745 {b : Bool} : (g_L (gX b)).1 745 = .inr (0, 700) := rfl
theorem ys_746 {b : Bool} : (g_L (gX b)).1 746 = .inr (0, 700) := rfl
theorem ys_747 {b : Bool} : (g_L (gX b)).1 747 = .inr (0, 17) := rfl
theorem ys_748 {b : Bool} : (g_L (gX b)).1 748 = .inl 5 := rfl
theorem ys_749 {b : Bool} : (g_L (gX b)).1 749 = .inr (0, 700) := rfl
theorem ys_750 {b : Bool} : (g_L (gX b)).1 750 = .inr (0, 700) := rfl
theorem ys_751 {b : Bool} : (g_L (gX b)).1 751 = .inr (0, 17) := rfl
theorem ys_752 {b : Bool} : (g_L (gX b)).1 752 = .inl 5 := rfl
theorem ys_753 {b : Bool} : (g_L (gX b)).1 753 = .inr (0, 700) := rfl
theorem ys_754 {b : Bool} : (g_L (gX b)).1 754 = .inr (0, 700) := rfl
theorem ys_755 {b : Bool} : (g_L (gX b)).1 755 = .inr (0, 17) := rfl
theorem ys_756 {b : Bool} : (g_L (gX b)).1 756 = .inl 6 := rfl
theorem ys_757 {b : Bool} : (g_L (gX b)).1 757 = .inl 1 := rfl
theorem ys_758 {b : Bool} : (g_L (gX b)).1 758 = .inr (0, 64) := rfl
theorem ys_759 {b : Bool} : (g_L (gX b)).1 759 = .inl 9 := rfl
theorem ys_760 {b : Bool} : (g_L (gX b)).1 760 = .inl 3 := rfl
theorem ys_761 {b : Bool} : (g_L (gX b)).1 761 = .inr (0, 50) := rfl
theorem ys_762 {b : Bool} : (g_L (gX b)).1 762 = .inr (0, 40) := rfl
theorem ys_763 {b : Bool} : (g_L (gX b)).1 763 = .inr (0, 40) := rfl
theorem ys_764 {b : Bool} : (g_L (gX b)).1 764 = .inr (0, 40) := rfl
theorem ys_765 {b : Bool} : (g_L (gX b)).1 765 = .inr (0, 40) := rfl
theorem ys_766 {b : Bool} : (g_L (gX b)).1 766 = .inl 3 := rfl
theorem ys_767 {b : Bool} : (g_L (gX b)).1 767 = .inr (0, 50) := rfl
theorem ys_768 {b : Bool} : (g_L (gX b)).1 768 = .inr (1, 40) := rfl
theorem ys_769 {b : Bool} : (g_L (gX b)).1 769 = .inr (0, 41) := rfl
theorem ys_770 {b : Bool} : (g_L (gX b)).1 770 = .inr (0, 410) := rfl
theorem ys_771 {b : Bool} : (g_L (gX b)).1 771 = .inr (0, 400) := rfl
theorem ys_772 {b : Bool} : (g_L (gX b)).1 772 = .inr (0, 5) := rfl
theorem ys_773 {b : Bool} : (g_L (gX b)).1 773 = .inl 8 := rfl
theorem ys_774 {b : Bool} : (g_L (gX b)).1 774 = .inl 2 := rfl
theorem ys_775 {b : Bool} : (g_L (gX b)).1 775 = .inr (0, 71680) := rfl
theorem ys_776 {b : Bool} : (g_L (gX b)).1 776 = .inr (0, 8192) := rfl
theorem ys_777 {b : Bool} : (g_L (gX b)).1 777 = .inr (0, 2048) := rfl
theorem ys_778 {b : Bool} : (g_L (gX b)).1 778 = .inl 3 := rfl
theorem ys_779 {b : Bool} : (g_L (gX b)).1 779 = .inr (0, 50) := rfl
theorem ys_780 {b : Bool} : (g_L (gX b)).1 780 = .inl 3 := rfl
theorem ys_781 {b : Bool} : (g_L (gX b)).1 781 = .inr (0, 50) := rfl
theorem ys_782 {b : Bool} : (g_L (gX b)).1 782 = .inr (3, 3) := rfl
theorem ys_783 {b : Bool} : (g_L (gX b)).1 783 = .inl 3 := rfl
theorem ys_784 {b : Bool} : (g_L (gX b)).1 784 = .inr (0, 50) := rfl
theorem ys_785 {b : Bool} : (g_L (gX b)).1 785 = .inl 3 := rfl
theorem ys_786 {b : Bool} : (g_L (gX b)).1 786 = .inr (0, 50) := rfl
theorem ys_787 {b : Bool} : (g_L (gX b)).1 787 = .inl 3 := rfl
theorem ys_788 {b : Bool} : (g_L (gX b)).1 788 = .inr (0, 50) := rfl
theorem ys_789 {b : Bool} : (g_L (gX b)).1 789 = .inr (0, 600) := rfl
theorem ys_790 {b : Bool} : (g_L (gX b)).1 790 = .inr (0, 600) := rfl
theorem ys_791 {b : Bool} : (g_L (gX b)).1 791 = .inr (0, 26624) := rfl
theorem ys_792 {b : Bool} : (g_L (gX b)).1 792 = .inr (2, 2048) := rfl
theorem ys_793 {b : Bool} : (g_L (gX b)).1 793 = .inr (0, 2048) := rfl
theorem ys_794 {b : Bool} : (g_L (gX b)).1 794 = .inr (0, 2048) := rfl
theorem ys_795 {b : Bool} : (g_L (gX b)).1 795 = .inr (0, 8) := rfl
theorem ys_796 {b : Bool} : (g_L (gX b)).1 796 = .inl 4 := rfl
theorem ys_797 {b : Bool} : (g_L (gX b)).1 797 = .inr (3, 10) := rfl
theorem ys_798 {b : Bool} : (g_L (gX b)).1 798 = .inr (0, 10) := rfl
theorem ys_799 {b : Bool} : (g_L (gX b)).1 799 = .inl 3 := rfl
theorem ys_800 {b : Bool} : (g_L (gX b)).1 800 = .inr (0, 50) := rfl
theorem ys_801 {b : Bool} : (g_L (gX b)).1 801 = .inl 3 := rfl
theorem ys_802 {b : Bool} : (g_L (gX b)).1 802 = .inr (0, 50) := rfl
theorem ys_803 {b : Bool} : (g_L (gX b)).1 803 = .inl 3 := rfl
theorem ys_804 {b : Bool} : (g_L (gX b)).1 804 = .inr (0, 50) := rfl
theorem ys_805 {b : Bool} : (g_L (gX b)).1 805 = .inl 3 := rfl
theorem ys_806 {b : Bool} : (g_L (gX b)).1 806 = .inr (0, 50) := rfl
theorem ys_807 {b : Bool} : (g_L (gX b)).1 807 = .inl 3 := rfl
theorem ys_808 {b : Bool} : (g_L (gX b)).1 808 = .inr (0, 50) := rfl
theorem ys_809 {b : Bool} : (g_L (gX b)).1 809 = .inl 3 := rfl
theorem ys_810 {b : Bool} : (g_L (gX b)).1 810 = .inr (0, 50) := rfl
theorem ys_811 {b : Bool} : (g_L (gX b)).1 811 = .inl 3 := rfl
theorem ys_812 {b : Bool} : (g_L (gX b)).1 812 = .inr (0, 50) := rfl
theorem ys_813 {b : Bool} : (g_L (gX b)).1 813 = .inl 3 := rfl
theorem ys_814 {b : Bool} : (g_L (gX b)).1 814 = .inr (0, 50) := rfl
theorem ys_815 {b : Bool} : (g_L (gX b)).1 815 = .inl 3 := rfl
theorem ys_816 {b : Bool} : (g_L (gX b)).1 816 = .inr (0, 50) := rfl
theorem ys_817 {b : Bool} : (g_L (gX b)).1 817 = .inl 3 := rfl
theorem ys_818 {b : Bool} : (g_L (gX b)).1 818 = .inr (0, 50) := rfl
theorem ys_819 {b : Bool} : (g_L (gX b)).1 819 = .inl 7 := rfl
theorem ys_820 {b : Bool} : (g_L (gX b)).1 820 = .inr (0, 40) := rfl
theorem ys_821 {b : Bool} : (g_L (gX b)).1 821 = .inl 3 := rfl
theorem ys_822 {b : Bool} : (g_L (gX b)).1 822 = .inr (0, 50) := rfl
abbrev xcp (sp dp n : Int32) (nb na : Nat) : Prop := (¬ sp < 0 ∧ ¬ dp < 0 ∧ ¬ n < 0) ∧ (iN sp + iN n ≤ nb ∧ iN dp + iN n ≤ na)
theorem yx_200 {b : Bool} : g_mx (gX b) 200 = 5 := rfl
theorem yt_200 {b : Bool} : g_rt (gX b) 200 = 1 := rfl
theorem y_200_0 {b : Bool} : g_co (gX b) 200 0 = some (.aload_n 0) := rfl
theorem y_200_1 {b : Bool} : g_co (gX b) 200 1 = some (.getfield 27) := rfl
theorem y_200_4 {b : Bool} : g_co (gX b) 200 4 = some (.bipush 6) := rfl
theorem y_200_6 {b : Bool} : g_co (gX b) 200 6 = some (.if_icmp .lt 5) := rfl
theorem y_200_9 {b : Bool} : g_co (gX b) 200 9 = some (.iconst (-1)) := rfl
theorem y_200_10 {b : Bool} : g_co (gX b) 200 10 = some (.ireturn) := rfl
theorem y_200_11 {b : Bool} : g_co (gX b) 200 11 = some (.aload_n 0) := rfl
theorem y_200_12 {b : Bool} : g_co (gX b) 200 12 = some (.getfield 11) := rfl
theorem y_200_15 {b : Bool} : g_co (gX b) 200 15 = some (.aload_n 0) := rfl
theorem y_200_16 {b : Bool} : g_co (gX b) 200 16 = some (.getfield 27) := rfl
theorem y_200_19 {b : Bool} : g_co (gX b) 200 19 = some (.iload_n 1) := rfl
theorem y_200_20 {b : Bool} : g_co (gX b) 200 20 = some (.iastore) := rfl
theorem y_200_21 {b : Bool} : g_co (gX b) 200 21 = some (.aload_n 0) := rfl
theorem y_200_22 {b : Bool} : g_co (gX b) 200 22 = some (.getfield 15) := rfl
theorem y_200_25 {b : Bool} : g_co (gX b) 200 25 = some (.aload_n 0) := rfl
theorem y_200_26 {b : Bool} : g_co (gX b) 200 26 = some (.getfield 27) := rfl
theorem y_200_29 {b : Bool} : g_co (gX b) 200 29 = some (.iload_n 1) := rfl
theorem y_200_30 {b : Bool} : g_co (gX b) 200 30 = some (.ifCond .ne 7) := rfl
theorem y_200_33 {b : Bool} : g_co (gX b) 200 33 = some (.iload_n 2) := rfl
theorem y_200_34 {b : Bool} : g_co (gX b) 200 34 = some (.goto 4) := rfl
theorem y_200_37 {b : Bool} : g_co (gX b) 200 37 = some (.iconst 0) := rfl
theorem y_200_38 {b : Bool} : g_co (gX b) 200 38 = some (.iastore) := rfl
theorem y_200_39 {b : Bool} : g_co (gX b) 200 39 = some (.aload_n 0) := rfl
theorem y_200_40 {b : Bool} : g_co (gX b) 200 40 = some (.getfield 18) := rfl
theorem y_200_43 {b : Bool} : g_co (gX b) 200 43 = some (.aload_n 0) := rfl
theorem y_200_44 {b : Bool} : g_co (gX b) 200 44 = some (.getfield 27) := rfl
theorem y_200_47 {b : Bool} : g_co (gX b) 200 47 = some (.iload_n 3) := rfl
theorem y_200_48 {b : Bool} : g_co (gX b) 200 48 = some (.iastore) := rfl
theorem y_200_49 {b : Bool} : g_co (gX b) 200 49 = some (.aload_n 0) := rfl
theorem y_200_50 {b : Bool} : g_co (gX b) 200 50 = some (.getfield 21) := rfl
theorem y_200_53 {b : Bool} : g_co (gX b) 200 53 = some (.aload_n 0) := rfl
theorem y_200_54 {b : Bool} : g_co (gX b) 200 54 = some (.getfield 27) := rfl
theorem y_200_57 {b : Bool} : g_co (gX b) 200 57 = some (.iload 4) := rfl
theorem y_200_59 {b : Bool} : g_co (gX b) 200 59 = some (.iastore) := rfl
theorem y_200_60 {b : Bool} : g_co (gX b) 200 60 = some (.aload_n 0) := rfl
theorem y_200_61 {b : Bool} : g_co (gX b) 200 61 = some (.dup) := rfl
theorem y_200_62 {b : Bool} : g_co (gX b) 200 62 = some (.getfield 27) := rfl
theorem y_200_65 {b : Bool} : g_co (gX b) 200 65 = some (.iconst 1) := rfl
theorem y_200_66 {b : Bool} : g_co (gX b) 200 66 = some (.iadd) := rfl
theorem y_200_67 {b : Bool} : g_co (gX b) 200 67 = some (.putfield 27) := rfl
theorem y_200_70 {b : Bool} : g_co (gX b) 200 70 = some (.aload_n 0) := rfl
theorem y_200_71 {b : Bool} : g_co (gX b) 200 71 = some (.getfield 27) := rfl
theorem y_200_74 {b : Bool} : g_co (gX b) 200 74 = some (.iconst 1) := rfl
theorem y_200_75 {b : Bool} : g_co (gX b) 200 75 = some (.isub) := rfl
theorem y_200_76 {b : Bool} : g_co (gX b) 200 76 = some (.ireturn) := rfl
theorem yf_200_27 {b : Bool} : g_fl (gX b) 200 27 = some (0, 5, 0) := rfl
theorem yf_200_11 {b : Bool} : g_fl (gX b) 200 11 = some (0, 0, 9) := rfl
theorem yf_200_15 {b : Bool} : g_fl (gX b) 200 15 = some (0, 1, 9) := rfl
theorem yf_200_18 {b : Bool} : g_fl (gX b) 200 18 = some (0, 2, 9) := rfl
theorem yf_200_21 {b : Bool} : g_fl (gX b) 200 21 = some (0, 3, 9) := rfl
theorem yx_201 {b : Bool} : g_mx (gX b) 201 = 4 := rfl
theorem yt_201 {b : Bool} : g_rt (gX b) 201 = 0 := rfl
theorem y_201_0 {b : Bool} : g_co (gX b) 201 0 = some (.aload_n 0) := rfl
theorem y_201_1 {b : Bool} : g_co (gX b) 201 1 = some (.iload_n 1) := rfl
theorem y_201_2 {b : Bool} : g_co (gX b) 201 2 = some (.putfield 31) := rfl
theorem y_201_5 {b : Bool} : g_co (gX b) 201 5 = some (.aload_n 0) := rfl
theorem y_201_6 {b : Bool} : g_co (gX b) 201 6 = some (.iconst 0) := rfl
theorem y_201_7 {b : Bool} : g_co (gX b) 201 7 = some (.putfield 34) := rfl
theorem y_201_10 {b : Bool} : g_co (gX b) 201 10 = some (.aload_n 0) := rfl
theorem y_201_11 {b : Bool} : g_co (gX b) 201 11 = some (.iconst 0) := rfl
theorem y_201_12 {b : Bool} : g_co (gX b) 201 12 = some (.putfield 37) := rfl
theorem y_201_15 {b : Bool} : g_co (gX b) 201 15 = some (.aload_n 0) := rfl
theorem y_201_16 {b : Bool} : g_co (gX b) 201 16 = some (.getfield 24) := rfl
theorem y_201_19 {b : Bool} : g_co (gX b) 201 19 = some (.iconst 0) := rfl
theorem y_201_20 {b : Bool} : g_co (gX b) 201 20 = some (.invokestatic 50) := rfl
theorem y_201_23 {b : Bool} : g_co (gX b) 201 23 = some (.iconst 0) := rfl
theorem y_201_24 {b : Bool} : g_co (gX b) 201 24 = some (.istore_n 2) := rfl
theorem y_201_25 {b : Bool} : g_co (gX b) 201 25 = some (.iload_n 2) := rfl
theorem y_201_26 {b : Bool} : g_co (gX b) 201 26 = some (.aload_n 0) := rfl
theorem y_201_27 {b : Bool} : g_co (gX b) 201 27 = some (.getfield 27) := rfl
theorem y_201_30 {b : Bool} : g_co (gX b) 201 30 = some (.if_icmp .ge 89) := rfl
theorem y_201_33 {b : Bool} : g_co (gX b) 201 33 = some (.iload_n 1) := rfl
theorem y_201_34 {b : Bool} : g_co (gX b) 201 34 = some (.iload_n 2) := rfl
theorem y_201_35 {b : Bool} : g_co (gX b) 201 35 = some (.ishr) := rfl
theorem y_201_36 {b : Bool} : g_co (gX b) 201 36 = some (.iconst 1) := rfl
theorem y_201_37 {b : Bool} : g_co (gX b) 201 37 = some (.iand) := rfl
theorem y_201_38 {b : Bool} : g_co (gX b) 201 38 = some (.ifCond .ne 6) := rfl
theorem y_201_41 {b : Bool} : g_co (gX b) 201 41 = some (.goto 72) := rfl
theorem y_201_44 {b : Bool} : g_co (gX b) 201 44 = some (.iconst 1) := rfl
theorem y_201_45 {b : Bool} : g_co (gX b) 201 45 = some (.aload_n 0) := rfl
theorem y_201_46 {b : Bool} : g_co (gX b) 201 46 = some (.getfield 18) := rfl
theorem y_201_49 {b : Bool} : g_co (gX b) 201 49 = some (.iload_n 2) := rfl
theorem y_201_50 {b : Bool} : g_co (gX b) 201 50 = some (.iaload) := rfl
theorem y_201_51 {b : Bool} : g_co (gX b) 201 51 = some (.ishl) := rfl
theorem y_201_52 {b : Bool} : g_co (gX b) 201 52 = some (.istore_n 3) := rfl
theorem y_201_53 {b : Bool} : g_co (gX b) 201 53 = some (.aload_n 0) := rfl
theorem y_201_54 {b : Bool} : g_co (gX b) 201 54 = some (.getfield 11) := rfl
theorem y_201_57 {b : Bool} : g_co (gX b) 201 57 = some (.iload_n 2) := rfl
theorem y_201_58 {b : Bool} : g_co (gX b) 201 58 = some (.iaload) := rfl
theorem y_201_59 {b : Bool} : g_co (gX b) 201 59 = some (.ifCond .ne 21) := rfl
theorem y_201_62 {b : Bool} : g_co (gX b) 201 62 = some (.aload_n 0) := rfl
theorem y_201_63 {b : Bool} : g_co (gX b) 201 63 = some (.getfield 24) := rfl
theorem y_201_66 {b : Bool} : g_co (gX b) 201 66 = some (.aload_n 0) := rfl
theorem y_201_67 {b : Bool} : g_co (gX b) 201 67 = some (.getfield 15) := rfl
theorem y_201_70 {b : Bool} : g_co (gX b) 201 70 = some (.iload_n 2) := rfl
theorem y_201_71 {b : Bool} : g_co (gX b) 201 71 = some (.iaload) := rfl
theorem y_201_72 {b : Bool} : g_co (gX b) 201 72 = some (.dup2) := rfl
theorem y_201_73 {b : Bool} : g_co (gX b) 201 73 = some (.iaload) := rfl
theorem y_201_74 {b : Bool} : g_co (gX b) 201 74 = some (.iload_n 3) := rfl
theorem y_201_75 {b : Bool} : g_co (gX b) 201 75 = some (.ior) := rfl
theorem y_201_76 {b : Bool} : g_co (gX b) 201 76 = some (.iastore) := rfl
theorem y_201_77 {b : Bool} : g_co (gX b) 201 77 = some (.goto 36) := rfl
theorem y_201_80 {b : Bool} : g_co (gX b) 201 80 = some (.aload_n 0) := rfl
theorem y_201_81 {b : Bool} : g_co (gX b) 201 81 = some (.getfield 11) := rfl
theorem y_201_84 {b : Bool} : g_co (gX b) 201 84 = some (.iload_n 2) := rfl
theorem y_201_85 {b : Bool} : g_co (gX b) 201 85 = some (.iaload) := rfl
theorem y_201_86 {b : Bool} : g_co (gX b) 201 86 = some (.iconst 1) := rfl
theorem y_201_87 {b : Bool} : g_co (gX b) 201 87 = some (.if_icmp .ne 16) := rfl
theorem y_201_90 {b : Bool} : g_co (gX b) 201 90 = some (.aload_n 0) := rfl
theorem y_201_91 {b : Bool} : g_co (gX b) 201 91 = some (.dup) := rfl
theorem y_201_92 {b : Bool} : g_co (gX b) 201 92 = some (.getfield 34) := rfl
theorem y_201_95 {b : Bool} : g_co (gX b) 201 95 = some (.iload_n 3) := rfl
theorem y_201_96 {b : Bool} : g_co (gX b) 201 96 = some (.ior) := rfl
theorem y_201_97 {b : Bool} : g_co (gX b) 201 97 = some (.putfield 34) := rfl
theorem y_201_100 {b : Bool} : g_co (gX b) 201 100 = some (.goto 13) := rfl
theorem y_201_103 {b : Bool} : g_co (gX b) 201 103 = some (.aload_n 0) := rfl
theorem y_201_104 {b : Bool} : g_co (gX b) 201 104 = some (.dup) := rfl
theorem y_201_105 {b : Bool} : g_co (gX b) 201 105 = some (.getfield 37) := rfl
theorem y_201_108 {b : Bool} : g_co (gX b) 201 108 = some (.iload_n 3) := rfl
theorem y_201_109 {b : Bool} : g_co (gX b) 201 109 = some (.ior) := rfl
theorem y_201_110 {b : Bool} : g_co (gX b) 201 110 = some (.putfield 37) := rfl
theorem y_201_113 {b : Bool} : g_co (gX b) 201 113 = some (.iinc 2 1) := rfl
theorem y_201_116 {b : Bool} : g_co (gX b) 201 116 = some (.goto (-91)) := rfl
theorem y_201_119 {b : Bool} : g_co (gX b) 201 119 = some (.return_) := rfl
theorem yf_201_31 {b : Bool} : g_fl (gX b) 201 31 = some (0, 6, 0) := rfl
theorem yf_201_34 {b : Bool} : g_fl (gX b) 201 34 = some (0, 7, 0) := rfl
theorem yf_201_37 {b : Bool} : g_fl (gX b) 201 37 = some (0, 8, 0) := rfl
theorem yf_201_24 {b : Bool} : g_fl (gX b) 201 24 = some (0, 4, 9) := rfl
theorem ym_201_50 {b : Bool} : g_ml (gX b) 201 50 = some (1, 503, 2, 0) := rfl
theorem yf_201_27 {b : Bool} : g_fl (gX b) 201 27 = some (0, 5, 0) := rfl
theorem yf_201_18 {b : Bool} : g_fl (gX b) 201 18 = some (0, 2, 9) := rfl
theorem yf_201_11 {b : Bool} : g_fl (gX b) 201 11 = some (0, 0, 9) := rfl
theorem yf_201_15 {b : Bool} : g_fl (gX b) 201 15 = some (0, 1, 9) := rfl
theorem yx_202 {b : Bool} : g_mx (gX b) 202 = 4 := rfl
theorem yt_202 {b : Bool} : g_rt (gX b) 202 = 1 := rfl
theorem y_202_0 {b : Bool} : g_co (gX b) 202 0 = some (.iconst 0) := rfl
theorem y_202_1 {b : Bool} : g_co (gX b) 202 1 = some (.istore_n 2) := rfl
theorem y_202_2 {b : Bool} : g_co (gX b) 202 2 = some (.iconst 0) := rfl
theorem y_202_3 {b : Bool} : g_co (gX b) 202 3 = some (.istore_n 3) := rfl
theorem y_202_4 {b : Bool} : g_co (gX b) 202 4 = some (.iload_n 3) := rfl
theorem y_202_5 {b : Bool} : g_co (gX b) 202 5 = some (.aload_n 0) := rfl
theorem y_202_6 {b : Bool} : g_co (gX b) 202 6 = some (.getfield 27) := rfl
theorem y_202_9 {b : Bool} : g_co (gX b) 202 9 = some (.if_icmp .ge 26) := rfl
theorem y_202_12 {b : Bool} : g_co (gX b) 202 12 = some (.iload_n 1) := rfl
theorem y_202_13 {b : Bool} : g_co (gX b) 202 13 = some (.iload_n 3) := rfl
theorem y_202_14 {b : Bool} : g_co (gX b) 202 14 = some (.ishr) := rfl
theorem y_202_15 {b : Bool} : g_co (gX b) 202 15 = some (.iconst 1) := rfl
theorem y_202_16 {b : Bool} : g_co (gX b) 202 16 = some (.iand) := rfl
theorem y_202_17 {b : Bool} : g_co (gX b) 202 17 = some (.ifCond .eq 12) := rfl
theorem y_202_20 {b : Bool} : g_co (gX b) 202 20 = some (.iload_n 2) := rfl
theorem y_202_21 {b : Bool} : g_co (gX b) 202 21 = some (.aload_n 0) := rfl
theorem y_202_22 {b : Bool} : g_co (gX b) 202 22 = some (.getfield 21) := rfl
theorem y_202_25 {b : Bool} : g_co (gX b) 202 25 = some (.iload_n 3) := rfl
theorem y_202_26 {b : Bool} : g_co (gX b) 202 26 = some (.iaload) := rfl
theorem y_202_27 {b : Bool} : g_co (gX b) 202 27 = some (.iadd) := rfl
theorem y_202_28 {b : Bool} : g_co (gX b) 202 28 = some (.istore_n 2) := rfl
theorem y_202_29 {b : Bool} : g_co (gX b) 202 29 = some (.iinc 3 1) := rfl
theorem y_202_32 {b : Bool} : g_co (gX b) 202 32 = some (.goto (-28)) := rfl
theorem y_202_35 {b : Bool} : g_co (gX b) 202 35 = some (.iload_n 2) := rfl
theorem y_202_36 {b : Bool} : g_co (gX b) 202 36 = some (.ireturn) := rfl
theorem yf_202_27 {b : Bool} : g_fl (gX b) 202 27 = some (0, 5, 0) := rfl
theorem yf_202_21 {b : Bool} : g_fl (gX b) 202 21 = some (0, 3, 9) := rfl
theorem yx_203 {b : Bool} : g_mx (gX b) 203 = 4 := rfl
theorem yt_203 {b : Bool} : g_rt (gX b) 203 = 0 := rfl
theorem y_203_0 {b : Bool} : g_co (gX b) 203 0 = some (.iconst 0) := rfl
theorem y_203_1 {b : Bool} : g_co (gX b) 203 1 = some (.istore_n 1) := rfl
theorem y_203_2 {b : Bool} : g_co (gX b) 203 2 = some (.iload_n 1) := rfl
theorem y_203_3 {b : Bool} : g_co (gX b) 203 3 = some (.iconst 1) := rfl
theorem y_203_4 {b : Bool} : g_co (gX b) 203 4 = some (.aload_n 0) := rfl
theorem y_203_5 {b : Bool} : g_co (gX b) 203 5 = some (.getfield 27) := rfl
theorem y_203_8 {b : Bool} : g_co (gX b) 203 8 = some (.ishl) := rfl
theorem y_203_9 {b : Bool} : g_co (gX b) 203 9 = some (.if_icmp .ge 74) := rfl
theorem y_203_12 {b : Bool} : g_co (gX b) 203 12 = some (.iload_n 1) := rfl
theorem y_203_13 {b : Bool} : g_co (gX b) 203 13 = some (.bipush 64) := rfl
theorem y_203_15 {b : Bool} : g_co (gX b) 203 15 = some (.if_icmp .ge 68) := rfl
theorem y_203_18 {b : Bool} : g_co (gX b) 203 18 = some (.iconst 0) := rfl
theorem y_203_19 {b : Bool} : g_co (gX b) 203 19 = some (.istore_n 2) := rfl
theorem y_203_20 {b : Bool} : g_co (gX b) 203 20 = some (.iconst 0) := rfl
theorem y_203_21 {b : Bool} : g_co (gX b) 203 21 = some (.istore_n 3) := rfl
theorem y_203_22 {b : Bool} : g_co (gX b) 203 22 = some (.iload_n 3) := rfl
theorem y_203_23 {b : Bool} : g_co (gX b) 203 23 = some (.aload_n 0) := rfl
theorem y_203_24 {b : Bool} : g_co (gX b) 203 24 = some (.getfield 27) := rfl
theorem y_203_27 {b : Bool} : g_co (gX b) 203 27 = some (.if_icmp .ge 21) := rfl
theorem y_203_30 {b : Bool} : g_co (gX b) 203 30 = some (.iload_n 2) := rfl
theorem y_203_31 {b : Bool} : g_co (gX b) 203 31 = some (.iload_n 1) := rfl
theorem y_203_32 {b : Bool} : g_co (gX b) 203 32 = some (.iload_n 3) := rfl
theorem y_203_33 {b : Bool} : g_co (gX b) 203 33 = some (.ishr) := rfl
theorem y_203_34 {b : Bool} : g_co (gX b) 203 34 = some (.iconst 1) := rfl
theorem y_203_35 {b : Bool} : g_co (gX b) 203 35 = some (.iand) := rfl
theorem y_203_36 {b : Bool} : g_co (gX b) 203 36 = some (.iconst 5) := rfl
theorem y_203_37 {b : Bool} : g_co (gX b) 203 37 = some (.iload_n 3) := rfl
theorem y_203_38 {b : Bool} : g_co (gX b) 203 38 = some (.isub) := rfl
theorem y_203_39 {b : Bool} : g_co (gX b) 203 39 = some (.ishl) := rfl
theorem y_203_40 {b : Bool} : g_co (gX b) 203 40 = some (.ior) := rfl
theorem y_203_41 {b : Bool} : g_co (gX b) 203 41 = some (.istore_n 2) := rfl
theorem y_203_42 {b : Bool} : g_co (gX b) 203 42 = some (.iinc 3 1) := rfl
theorem y_203_45 {b : Bool} : g_co (gX b) 203 45 = some (.goto (-23)) := rfl
theorem y_203_48 {b : Bool} : g_co (gX b) 203 48 = some (.aload_n 0) := rfl
theorem y_203_49 {b : Bool} : g_co (gX b) 203 49 = some (.getfield 40) := rfl
theorem y_203_52 {b : Bool} : g_co (gX b) 203 52 = some (.iload_n 1) := rfl
theorem y_203_53 {b : Bool} : g_co (gX b) 203 53 = some (.aload_n 0) := rfl
theorem y_203_54 {b : Bool} : g_co (gX b) 203 54 = some (.iload_n 1) := rfl
theorem y_203_55 {b : Bool} : g_co (gX b) 203 55 = some (.invokevirtual 56) := rfl
theorem y_203_58 {b : Bool} : g_co (gX b) 203 58 = some (.bipush 8) := rfl
theorem y_203_60 {b : Bool} : g_co (gX b) 203 60 = some (.imul) := rfl
theorem y_203_61 {b : Bool} : g_co (gX b) 203 61 = some (.iload_n 1) := rfl
theorem y_203_62 {b : Bool} : g_co (gX b) 203 62 = some (.invokestatic 60) := rfl
theorem y_203_65 {b : Bool} : g_co (gX b) 203 65 = some (.iadd) := rfl
theorem y_203_66 {b : Bool} : g_co (gX b) 203 66 = some (.bipush 64) := rfl
theorem y_203_68 {b : Bool} : g_co (gX b) 203 68 = some (.imul) := rfl
theorem y_203_69 {b : Bool} : g_co (gX b) 203 69 = some (.bipush 64) := rfl
theorem y_203_71 {b : Bool} : g_co (gX b) 203 71 = some (.iadd) := rfl
theorem y_203_72 {b : Bool} : g_co (gX b) 203 72 = some (.iconst 1) := rfl
theorem y_203_73 {b : Bool} : g_co (gX b) 203 73 = some (.isub) := rfl
theorem y_203_74 {b : Bool} : g_co (gX b) 203 74 = some (.iload_n 2) := rfl
theorem y_203_75 {b : Bool} : g_co (gX b) 203 75 = some (.isub) := rfl
theorem y_203_76 {b : Bool} : g_co (gX b) 203 76 = some (.iastore) := rfl
theorem y_203_77 {b : Bool} : g_co (gX b) 203 77 = some (.iinc 1 1) := rfl
theorem y_203_80 {b : Bool} : g_co (gX b) 203 80 = some (.goto (-78)) := rfl
theorem y_203_83 {b : Bool} : g_co (gX b) 203 83 = some (.aload_n 0) := rfl
theorem y_203_84 {b : Bool} : g_co (gX b) 203 84 = some (.iconst 0) := rfl
theorem y_203_85 {b : Bool} : g_co (gX b) 203 85 = some (.putfield 47) := rfl
theorem y_203_88 {b : Bool} : g_co (gX b) 203 88 = some (.return_) := rfl
theorem yf_203_27 {b : Bool} : g_fl (gX b) 203 27 = some (0, 5, 0) := rfl
theorem yf_203_40 {b : Bool} : g_fl (gX b) 203 40 = some (0, 9, 9) := rfl
theorem ym_203_56 {b : Bool} : g_ml (gX b) 203 56 = some (0, 202, 1, 0) := rfl
theorem ym_203_60 {b : Bool} : g_ml (gX b) 203 60 = some (1, 501, 1, 0) := rfl
theorem yf_203_47 {b : Bool} : g_fl (gX b) 203 47 = some (0, 11, 0) := rfl
theorem yx_204 {b : Bool} : g_mx (gX b) 204 = 5 := rfl
theorem yt_204 {b : Bool} : g_rt (gX b) 204 = 1 := rfl
theorem y_204_0 {b : Bool} : g_co (gX b) 204 0 = some (.iload_n 1) := rfl
theorem y_204_1 {b : Bool} : g_co (gX b) 204 1 = some (.ifCond .lt 9) := rfl
theorem y_204_4 {b : Bool} : g_co (gX b) 204 4 = some (.iload_n 1) := rfl
theorem y_204_5 {b : Bool} : g_co (gX b) 204 5 = some (.bipush 64) := rfl
theorem y_204_7 {b : Bool} : g_co (gX b) 204 7 = some (.if_icmp .lt 7) := rfl
theorem y_204_10 {b : Bool} : g_co (gX b) 204 10 = some (.iconst (-1)) := rfl
theorem y_204_11 {b : Bool} : g_co (gX b) 204 11 = some (.goto 9) := rfl
theorem y_204_14 {b : Bool} : g_co (gX b) 204 14 = some (.aload_n 0) := rfl
theorem y_204_15 {b : Bool} : g_co (gX b) 204 15 = some (.getfield 40) := rfl
theorem y_204_18 {b : Bool} : g_co (gX b) 204 18 = some (.iload_n 1) := rfl
theorem y_204_19 {b : Bool} : g_co (gX b) 204 19 = some (.iaload) := rfl
theorem y_204_20 {b : Bool} : g_co (gX b) 204 20 = some (.istore_n 2) := rfl
theorem y_204_21 {b : Bool} : g_co (gX b) 204 21 = some (.iconst (-1)) := rfl
theorem y_204_22 {b : Bool} : g_co (gX b) 204 22 = some (.istore_n 3) := rfl
theorem y_204_23 {b : Bool} : g_co (gX b) 204 23 = some (.iconst 0) := rfl
theorem y_204_24 {b : Bool} : g_co (gX b) 204 24 = some (.istore 4) := rfl
theorem y_204_26 {b : Bool} : g_co (gX b) 204 26 = some (.iload 4) := rfl
theorem y_204_28 {b : Bool} : g_co (gX b) 204 28 = some (.iconst 1) := rfl
theorem y_204_29 {b : Bool} : g_co (gX b) 204 29 = some (.aload_n 0) := rfl
theorem y_204_30 {b : Bool} : g_co (gX b) 204 30 = some (.getfield 27) := rfl
theorem y_204_33 {b : Bool} : g_co (gX b) 204 33 = some (.ishl) := rfl
theorem y_204_34 {b : Bool} : g_co (gX b) 204 34 = some (.if_icmp .ge 50) := rfl
theorem y_204_37 {b : Bool} : g_co (gX b) 204 37 = some (.iload 4) := rfl
theorem y_204_39 {b : Bool} : g_co (gX b) 204 39 = some (.bipush 64) := rfl
theorem y_204_41 {b : Bool} : g_co (gX b) 204 41 = some (.if_icmp .ge 43) := rfl
theorem y_204_44 {b : Bool} : g_co (gX b) 204 44 = some (.aload_n 0) := rfl
theorem y_204_45 {b : Bool} : g_co (gX b) 204 45 = some (.getfield 40) := rfl
theorem y_204_48 {b : Bool} : g_co (gX b) 204 48 = some (.iload 4) := rfl
theorem y_204_50 {b : Bool} : g_co (gX b) 204 50 = some (.iaload) := rfl
theorem y_204_51 {b : Bool} : g_co (gX b) 204 51 = some (.iload_n 2) := rfl
theorem y_204_52 {b : Bool} : g_co (gX b) 204 52 = some (.if_icmp .le 26) := rfl
theorem y_204_55 {b : Bool} : g_co (gX b) 204 55 = some (.iload_n 3) := rfl
theorem y_204_56 {b : Bool} : g_co (gX b) 204 56 = some (.ifCond .lt 19) := rfl
theorem y_204_59 {b : Bool} : g_co (gX b) 204 59 = some (.aload_n 0) := rfl
theorem y_204_60 {b : Bool} : g_co (gX b) 204 60 = some (.getfield 40) := rfl
theorem y_204_63 {b : Bool} : g_co (gX b) 204 63 = some (.iload 4) := rfl
theorem y_204_65 {b : Bool} : g_co (gX b) 204 65 = some (.iaload) := rfl
theorem y_204_66 {b : Bool} : g_co (gX b) 204 66 = some (.aload_n 0) := rfl
theorem y_204_67 {b : Bool} : g_co (gX b) 204 67 = some (.getfield 40) := rfl
theorem y_204_70 {b : Bool} : g_co (gX b) 204 70 = some (.iload_n 3) := rfl
theorem y_204_71 {b : Bool} : g_co (gX b) 204 71 = some (.iaload) := rfl
theorem y_204_72 {b : Bool} : g_co (gX b) 204 72 = some (.if_icmp .ge 6) := rfl
theorem y_204_75 {b : Bool} : g_co (gX b) 204 75 = some (.iload 4) := rfl
theorem y_204_77 {b : Bool} : g_co (gX b) 204 77 = some (.istore_n 3) := rfl
theorem y_204_78 {b : Bool} : g_co (gX b) 204 78 = some (.iinc 4 1) := rfl
theorem y_204_81 {b : Bool} : g_co (gX b) 204 81 = some (.goto (-55)) := rfl
theorem y_204_84 {b : Bool} : g_co (gX b) 204 84 = some (.iload_n 3) := rfl
theorem y_204_85 {b : Bool} : g_co (gX b) 204 85 = some (.ireturn) := rfl
theorem yf_204_40 {b : Bool} : g_fl (gX b) 204 40 = some (0, 9, 9) := rfl
theorem yf_204_27 {b : Bool} : g_fl (gX b) 204 27 = some (0, 5, 0) := rfl
theorem yx_205 {b : Bool} : g_mx (gX b) 205 = 5 := rfl
theorem yt_205 {b : Bool} : g_rt (gX b) 205 = 2 := rfl
theorem y_205_0 {b : Bool} : g_co (gX b) 205 0 = some (.aload_n 0) := rfl
theorem y_205_1 {b : Bool} : g_co (gX b) 205 1 = some (.getfield 34) := rfl
theorem y_205_4 {b : Bool} : g_co (gX b) 205 4 = some (.iload_n 1) := rfl
theorem y_205_5 {b : Bool} : g_co (gX b) 205 5 = some (.iand) := rfl
theorem y_205_6 {b : Bool} : g_co (gX b) 205 6 = some (.i2l) := rfl
theorem y_205_7 {b : Bool} : g_co (gX b) 205 7 = some (.iconst 4) := rfl
theorem y_205_8 {b : Bool} : g_co (gX b) 205 8 = some (.lshl) := rfl
theorem y_205_9 {b : Bool} : g_co (gX b) 205 9 = some (.aload_n 0) := rfl
theorem y_205_10 {b : Bool} : g_co (gX b) 205 10 = some (.getfield 37) := rfl
theorem y_205_13 {b : Bool} : g_co (gX b) 205 13 = some (.iload_n 1) := rfl
theorem y_205_14 {b : Bool} : g_co (gX b) 205 14 = some (.iand) := rfl
theorem y_205_15 {b : Bool} : g_co (gX b) 205 15 = some (.i2l) := rfl
theorem y_205_16 {b : Bool} : g_co (gX b) 205 16 = some (.lor) := rfl
theorem y_205_17 {b : Bool} : g_co (gX b) 205 17 = some (.lstore_n 2) := rfl
theorem y_205_18 {b : Bool} : g_co (gX b) 205 18 = some (.iconst 0) := rfl
theorem y_205_19 {b : Bool} : g_co (gX b) 205 19 = some (.istore 4) := rfl
theorem y_205_21 {b : Bool} : g_co (gX b) 205 21 = some (.iload 4) := rfl
theorem y_205_23 {b : Bool} : g_co (gX b) 205 23 = some (.bipush 8) := rfl
theorem y_205_25 {b : Bool} : g_co (gX b) 205 25 = some (.if_icmp .ge 24) := rfl
theorem y_205_28 {b : Bool} : g_co (gX b) 205 28 = some (.lload_n 2) := rfl
theorem y_205_29 {b : Bool} : g_co (gX b) 205 29 = some (.iconst 4) := rfl
theorem y_205_30 {b : Bool} : g_co (gX b) 205 30 = some (.lshl) := rfl
theorem y_205_31 {b : Bool} : g_co (gX b) 205 31 = some (.aload_n 0) := rfl
theorem y_205_32 {b : Bool} : g_co (gX b) 205 32 = some (.getfield 24) := rfl
theorem y_205_35 {b : Bool} : g_co (gX b) 205 35 = some (.iload 4) := rfl
theorem y_205_37 {b : Bool} : g_co (gX b) 205 37 = some (.iaload) := rfl
theorem y_205_38 {b : Bool} : g_co (gX b) 205 38 = some (.iload_n 1) := rfl
theorem y_205_39 {b : Bool} : g_co (gX b) 205 39 = some (.iand) := rfl
theorem y_205_40 {b : Bool} : g_co (gX b) 205 40 = some (.i2l) := rfl
theorem y_205_41 {b : Bool} : g_co (gX b) 205 41 = some (.lor) := rfl
theorem y_205_42 {b : Bool} : g_co (gX b) 205 42 = some (.lstore_n 2) := rfl
theorem y_205_43 {b : Bool} : g_co (gX b) 205 43 = some (.iinc 4 1) := rfl
theorem y_205_46 {b : Bool} : g_co (gX b) 205 46 = some (.goto (-25)) := rfl
theorem y_205_49 {b : Bool} : g_co (gX b) 205 49 = some (.iconst 0) := rfl
theorem y_205_50 {b : Bool} : g_co (gX b) 205 50 = some (.istore 4) := rfl
theorem y_205_52 {b : Bool} : g_co (gX b) 205 52 = some (.iload 4) := rfl
theorem y_205_54 {b : Bool} : g_co (gX b) 205 54 = some (.aload_n 0) := rfl
theorem y_205_55 {b : Bool} : g_co (gX b) 205 55 = some (.getfield 47) := rfl
theorem y_205_58 {b : Bool} : g_co (gX b) 205 58 = some (.if_icmp .ge 23) := rfl
theorem y_205_61 {b : Bool} : g_co (gX b) 205 61 = some (.aload_n 0) := rfl
theorem y_205_62 {b : Bool} : g_co (gX b) 205 62 = some (.getfield 43) := rfl
theorem y_205_65 {b : Bool} : g_co (gX b) 205 65 = some (.iload 4) := rfl
theorem y_205_67 {b : Bool} : g_co (gX b) 205 67 = some (.laload) := rfl
theorem y_205_68 {b : Bool} : g_co (gX b) 205 68 = some (.lload_n 2) := rfl
theorem y_205_69 {b : Bool} : g_co (gX b) 205 69 = some (.lcmp) := rfl
theorem y_205_70 {b : Bool} : g_co (gX b) 205 70 = some (.ifCond .ne 5) := rfl
theorem y_205_73 {b : Bool} : g_co (gX b) 205 73 = some (.iconst 0) := rfl
theorem y_205_74 {b : Bool} : g_co (gX b) 205 74 = some (.ireturn) := rfl
theorem y_205_75 {b : Bool} : g_co (gX b) 205 75 = some (.iinc 4 1) := rfl
theorem y_205_78 {b : Bool} : g_co (gX b) 205 78 = some (.goto (-26)) := rfl
theorem y_205_81 {b : Bool} : g_co (gX b) 205 81 = some (.aload_n 0) := rfl
theorem y_205_82 {b : Bool} : g_co (gX b) 205 82 = some (.getfield 47) := rfl
theorem y_205_85 {b : Bool} : g_co (gX b) 205 85 = some (.bipush 64) := rfl
theorem y_205_87 {b : Bool} : g_co (gX b) 205 87 = some (.if_icmp .ge 23) := rfl
theorem y_205_90 {b : Bool} : g_co (gX b) 205 90 = some (.aload_n 0) := rfl
theorem y_205_91 {b : Bool} : g_co (gX b) 205 91 = some (.getfield 43) := rfl
theorem y_205_94 {b : Bool} : g_co (gX b) 205 94 = some (.aload_n 0) := rfl
theorem y_205_95 {b : Bool} : g_co (gX b) 205 95 = some (.getfield 47) := rfl
theorem y_205_98 {b : Bool} : g_co (gX b) 205 98 = some (.lload_n 2) := rfl
theorem y_205_99 {b : Bool} : g_co (gX b) 205 99 = some (.lastore) := rfl
theorem y_205_100 {b : Bool} : g_co (gX b) 205 100 = some (.aload_n 0) := rfl
theorem y_205_101 {b : Bool} : g_co (gX b) 205 101 = some (.dup) := rfl
theorem y_205_102 {b : Bool} : g_co (gX b) 205 102 = some (.getfield 47) := rfl
theorem y_205_105 {b : Bool} : g_co (gX b) 205 105 = some (.iconst 1) := rfl
theorem y_205_106 {b : Bool} : g_co (gX b) 205 106 = some (.iadd) := rfl
theorem y_205_107 {b : Bool} : g_co (gX b) 205 107 = some (.putfield 47) := rfl
theorem y_205_110 {b : Bool} : g_co (gX b) 205 110 = some (.iconst 1) := rfl
theorem y_205_111 {b : Bool} : g_co (gX b) 205 111 = some (.ireturn) := rfl
theorem yf_205_34 {b : Bool} : g_fl (gX b) 205 34 = some (0, 7, 0) := rfl
theorem yf_205_37 {b : Bool} : g_fl (gX b) 205 37 = some (0, 8, 0) := rfl
theorem yf_205_24 {b : Bool} : g_fl (gX b) 205 24 = some (0, 4, 9) := rfl
theorem yf_205_47 {b : Bool} : g_fl (gX b) 205 47 = some (0, 11, 0) := rfl
theorem yf_205_43 {b : Bool} : g_fl (gX b) 205 43 = some (0, 10, 9) := rfl
theorem yx_206 {b : Bool} : g_mx (gX b) 206 = 4 := rfl
theorem yt_206 {b : Bool} : g_rt (gX b) 206 = 2 := rfl
theorem y_206_0 {b : Bool} : g_co (gX b) 206 0 = some (.iload_n 2) := rfl
theorem y_206_1 {b : Bool} : g_co (gX b) 206 1 = some (.bipush 8) := rfl
theorem y_206_3 {b : Bool} : g_co (gX b) 206 3 = some (.if_icmp .ge 43) := rfl
theorem y_206_6 {b : Bool} : g_co (gX b) 206 6 = some (.aload_n 0) := rfl
theorem y_206_7 {b : Bool} : g_co (gX b) 206 7 = some (.getfield 37) := rfl
theorem y_206_10 {b : Bool} : g_co (gX b) 206 10 = some (.getfield 45) := rfl
theorem y_206_13 {b : Bool} : g_co (gX b) 206 13 = some (.iload_n 2) := rfl
theorem y_206_14 {b : Bool} : g_co (gX b) 206 14 = some (.iaload) := rfl
theorem y_206_15 {b : Bool} : g_co (gX b) 206 15 = some (.istore_n 3) := rfl
theorem y_206_16 {b : Bool} : g_co (gX b) 206 16 = some (.aload_n 1) := rfl
theorem y_206_17 {b : Bool} : g_co (gX b) 206 17 = some (.invokevirtual 50) := rfl
theorem y_206_20 {b : Bool} : g_co (gX b) 206 20 = some (.iload_n 2) := rfl
theorem y_206_21 {b : Bool} : g_co (gX b) 206 21 = some (.ishr) := rfl
theorem y_206_22 {b : Bool} : g_co (gX b) 206 22 = some (.iconst 1) := rfl
theorem y_206_23 {b : Bool} : g_co (gX b) 206 23 = some (.iand) := rfl
theorem y_206_24 {b : Bool} : g_co (gX b) 206 24 = some (.ifCond .eq 20) := rfl
theorem y_206_27 {b : Bool} : g_co (gX b) 206 27 = some (.iload_n 3) := rfl
theorem y_206_28 {b : Bool} : g_co (gX b) 206 28 = some (.ifCond .eq 12) := rfl
theorem y_206_31 {b : Bool} : g_co (gX b) 206 31 = some (.iload_n 3) := rfl
theorem y_206_32 {b : Bool} : g_co (gX b) 206 32 = some (.aload_n 1) := rfl
theorem y_206_33 {b : Bool} : g_co (gX b) 206 33 = some (.invokevirtual 56) := rfl
theorem y_206_36 {b : Bool} : g_co (gX b) 206 36 = some (.iand) := rfl
theorem y_206_37 {b : Bool} : g_co (gX b) 206 37 = some (.ifCond .ne 7) := rfl
theorem y_206_40 {b : Bool} : g_co (gX b) 206 40 = some (.iconst 1) := rfl
theorem y_206_41 {b : Bool} : g_co (gX b) 206 41 = some (.goto 4) := rfl
theorem y_206_44 {b : Bool} : g_co (gX b) 206 44 = some (.iconst 0) := rfl
theorem y_206_45 {b : Bool} : g_co (gX b) 206 45 = some (.ireturn) := rfl
theorem y_206_46 {b : Bool} : g_co (gX b) 206 46 = some (.iload_n 2) := rfl
theorem y_206_47 {b : Bool} : g_co (gX b) 206 47 = some (.bipush 8) := rfl
theorem y_206_49 {b : Bool} : g_co (gX b) 206 49 = some (.if_icmp .ne 16) := rfl
theorem y_206_52 {b : Bool} : g_co (gX b) 206 52 = some (.aload_n 1) := rfl
theorem y_206_53 {b : Bool} : g_co (gX b) 206 53 = some (.invokevirtual 59) := rfl
theorem y_206_56 {b : Bool} : g_co (gX b) 206 56 = some (.ifCond .le 7) := rfl
theorem y_206_59 {b : Bool} : g_co (gX b) 206 59 = some (.iconst 1) := rfl
theorem y_206_60 {b : Bool} : g_co (gX b) 206 60 = some (.goto 4) := rfl
theorem y_206_63 {b : Bool} : g_co (gX b) 206 63 = some (.iconst 0) := rfl
theorem y_206_64 {b : Bool} : g_co (gX b) 206 64 = some (.ireturn) := rfl
theorem y_206_65 {b : Bool} : g_co (gX b) 206 65 = some (.aload_n 1) := rfl
theorem y_206_66 {b : Bool} : g_co (gX b) 206 66 = some (.iload_n 2) := rfl
theorem y_206_67 {b : Bool} : g_co (gX b) 206 67 = some (.bipush 9) := rfl
theorem y_206_69 {b : Bool} : g_co (gX b) 206 69 = some (.isub) := rfl
theorem y_206_70 {b : Bool} : g_co (gX b) 206 70 = some (.invokevirtual 62) := rfl
theorem y_206_73 {b : Bool} : g_co (gX b) 206 73 = some (.ifCond .le 7) := rfl
theorem y_206_76 {b : Bool} : g_co (gX b) 206 76 = some (.iconst 1) := rfl
theorem y_206_77 {b : Bool} : g_co (gX b) 206 77 = some (.goto 4) := rfl
theorem y_206_80 {b : Bool} : g_co (gX b) 206 80 = some (.iconst 0) := rfl
theorem y_206_81 {b : Bool} : g_co (gX b) 206 81 = some (.ireturn) := rfl
theorem yf_206_37 {b : Bool} : g_fl (gX b) 206 37 = some (1, 0, 9) := rfl
theorem yf_206_45 {b : Bool} : g_fl (gX b) 206 45 = some (0, 4, 9) := rfl
theorem ym_206_50 {b : Bool} : g_ml (gX b) 206 50 = some (0, 229, 0, 3) := rfl
theorem ym_206_56 {b : Bool} : g_ml (gX b) 206 56 = some (0, 232, 0, 3) := rfl
theorem ym_206_59 {b : Bool} : g_ml (gX b) 206 59 = some (0, 233, 0, 3) := rfl
theorem ym_206_62 {b : Bool} : g_ml (gX b) 206 62 = some (0, 230, 1, 3) := rfl
theorem yx_207 {b : Bool} : g_mx (gX b) 207 = 2 := rfl
theorem yt_207 {b : Bool} : g_rt (gX b) 207 = 0 := rfl
theorem y_207_0 {b : Bool} : g_co (gX b) 207 0 = some (.aload_n 1) := rfl
theorem y_207_1 {b : Bool} : g_co (gX b) 207 1 = some (.invokevirtual 66) := rfl
theorem y_207_4 {b : Bool} : g_co (gX b) 207 4 = some (.aload_n 0) := rfl
theorem y_207_5 {b : Bool} : g_co (gX b) 207 5 = some (.iconst (-1)) := rfl
theorem y_207_6 {b : Bool} : g_co (gX b) 207 6 = some (.invokevirtual 69) := rfl
theorem y_207_9 {b : Bool} : g_co (gX b) 207 9 = some (.aload_n 0) := rfl
theorem y_207_10 {b : Bool} : g_co (gX b) 207 10 = some (.aload_n 1) := rfl
theorem y_207_11 {b : Bool} : g_co (gX b) 207 11 = some (.aload_n 0) := rfl
theorem y_207_12 {b : Bool} : g_co (gX b) 207 12 = some (.getfield 41) := rfl
theorem y_207_15 {b : Bool} : g_co (gX b) 207 15 = some (.getfield 73) := rfl
theorem y_207_18 {b : Bool} : g_co (gX b) 207 18 = some (.iconst 0) := rfl
theorem y_207_19 {b : Bool} : g_co (gX b) 207 19 = some (.iaload) := rfl
theorem y_207_20 {b : Bool} : g_co (gX b) 207 20 = some (.invokevirtual 78) := rfl
theorem y_207_23 {b : Bool} : g_co (gX b) 207 23 = some (.return_) := rfl
theorem ym_207_66 {b : Bool} : g_ml (gX b) 207 66 = some (0, 225, 0, 3) := rfl
theorem ym_207_69 {b : Bool} : g_ml (gX b) 207 69 = some (0, 212, 1, 1) := rfl
theorem yf_207_41 {b : Bool} : g_fl (gX b) 207 41 = some (1, 2, 2) := rfl
theorem yf_207_73 {b : Bool} : g_fl (gX b) 207 73 = some (5, 2, 9) := rfl
theorem ym_207_78 {b : Bool} : g_ml (gX b) 207 78 = some (0, 213, 2, 1) := rfl
theorem yx_208 {b : Bool} : g_mx (gX b) 208 = 2 := rfl
theorem yt_208 {b : Bool} : g_rt (gX b) 208 = 0 := rfl
theorem y_208_0 {b : Bool} : g_co (gX b) 208 0 = some (.aload_n 0) := rfl
theorem y_208_1 {b : Bool} : g_co (gX b) 208 1 = some (.iconst (-1)) := rfl
theorem y_208_2 {b : Bool} : g_co (gX b) 208 2 = some (.invokevirtual 69) := rfl
theorem y_208_5 {b : Bool} : g_co (gX b) 208 5 = some (.aload_n 0) := rfl
theorem y_208_6 {b : Bool} : g_co (gX b) 208 6 = some (.aload_n 1) := rfl
theorem y_208_7 {b : Bool} : g_co (gX b) 208 7 = some (.aload_n 0) := rfl
theorem y_208_8 {b : Bool} : g_co (gX b) 208 8 = some (.getfield 41) := rfl
theorem y_208_11 {b : Bool} : g_co (gX b) 208 11 = some (.getfield 73) := rfl
theorem y_208_14 {b : Bool} : g_co (gX b) 208 14 = some (.iconst 0) := rfl
theorem y_208_15 {b : Bool} : g_co (gX b) 208 15 = some (.iaload) := rfl
theorem y_208_16 {b : Bool} : g_co (gX b) 208 16 = some (.invokevirtual 78) := rfl
theorem y_208_19 {b : Bool} : g_co (gX b) 208 19 = some (.return_) := rfl
theorem ym_208_69 {b : Bool} : g_ml (gX b) 208 69 = some (0, 212, 1, 1) := rfl
theorem yf_208_41 {b : Bool} : g_fl (gX b) 208 41 = some (1, 2, 2) := rfl
theorem yf_208_73 {b : Bool} : g_fl (gX b) 208 73 = some (5, 2, 9) := rfl
theorem ym_208_78 {b : Bool} : g_ml (gX b) 208 78 = some (0, 213, 2, 1) := rfl
theorem yx_209 {b : Bool} : g_mx (gX b) 209 = 9 := rfl
theorem yt_209 {b : Bool} : g_rt (gX b) 209 = 1 := rfl
theorem y_209_0 {b : Bool} : g_co (gX b) 209 0 = some (.aload_n 0) := rfl
theorem y_209_1 {b : Bool} : g_co (gX b) 209 1 = some (.iload_n 3) := rfl
theorem y_209_2 {b : Bool} : g_co (gX b) 209 2 = some (.invokevirtual 69) := rfl
theorem y_209_5 {b : Bool} : g_co (gX b) 209 5 = some (.iconst (-1)) := rfl
theorem y_209_6 {b : Bool} : g_co (gX b) 209 6 = some (.istore 4) := rfl
theorem y_209_8 {b : Bool} : g_co (gX b) 209 8 = some (.iconst (-1)) := rfl
theorem y_209_9 {b : Bool} : g_co (gX b) 209 9 = some (.istore 5) := rfl
theorem y_209_11 {b : Bool} : g_co (gX b) 209 11 = some (.aload_n 1) := rfl
theorem y_209_12 {b : Bool} : g_co (gX b) 209 12 = some (.invokevirtual 82) := rfl
theorem y_209_15 {b : Bool} : g_co (gX b) 209 15 = some (.istore 6) := rfl
theorem y_209_17 {b : Bool} : g_co (gX b) 209 17 = some (.aload_n 1) := rfl
theorem y_209_18 {b : Bool} : g_co (gX b) 209 18 = some (.invokevirtual 85) := rfl
theorem y_209_21 {b : Bool} : g_co (gX b) 209 21 = some (.iload_n 2) := rfl
theorem y_209_22 {b : Bool} : g_co (gX b) 209 22 = some (.bipush 8) := rfl
theorem y_209_24 {b : Bool} : g_co (gX b) 209 24 = some (.if_icmp .ge 29) := rfl
theorem y_209_27 {b : Bool} : g_co (gX b) 209 27 = some (.aload_n 0) := rfl
theorem y_209_28 {b : Bool} : g_co (gX b) 209 28 = some (.iconst 1) := rfl
theorem y_209_29 {b : Bool} : g_co (gX b) 209 29 = some (.bipush 8) := rfl
theorem y_209_31 {b : Bool} : g_co (gX b) 209 31 = some (.iload_n 2) := rfl
theorem y_209_32 {b : Bool} : g_co (gX b) 209 32 = some (.iadd) := rfl
theorem y_209_33 {b : Bool} : g_co (gX b) 209 33 = some (.ishl) := rfl
theorem y_209_34 {b : Bool} : g_co (gX b) 209 34 = some (.putfield 15) := rfl
theorem y_209_37 {b : Bool} : g_co (gX b) 209 37 = some (.aload_n 0) := rfl
theorem y_209_38 {b : Bool} : g_co (gX b) 209 38 = some (.getfield 41) := rfl
theorem y_209_41 {b : Bool} : g_co (gX b) 209 41 = some (.getfield 73) := rfl
theorem y_209_44 {b : Bool} : g_co (gX b) 209 44 = some (.iconst 1) := rfl
theorem y_209_45 {b : Bool} : g_co (gX b) 209 45 = some (.iload_n 2) := rfl
theorem y_209_46 {b : Bool} : g_co (gX b) 209 46 = some (.iadd) := rfl
theorem y_209_47 {b : Bool} : g_co (gX b) 209 47 = some (.iaload) := rfl
theorem y_209_48 {b : Bool} : g_co (gX b) 209 48 = some (.istore 5) := rfl
theorem y_209_50 {b : Bool} : g_co (gX b) 209 50 = some (.goto 153) := rfl
theorem y_209_53 {b : Bool} : g_co (gX b) 209 53 = some (.iload_n 2) := rfl
theorem y_209_54 {b : Bool} : g_co (gX b) 209 54 = some (.bipush 8) := rfl
theorem y_209_56 {b : Bool} : g_co (gX b) 209 56 = some (.if_icmp .le 97) := rfl
theorem y_209_59 {b : Bool} : g_co (gX b) 209 59 = some (.iload_n 2) := rfl
theorem y_209_60 {b : Bool} : g_co (gX b) 209 60 = some (.bipush 9) := rfl
theorem y_209_62 {b : Bool} : g_co (gX b) 209 62 = some (.isub) := rfl
theorem y_209_63 {b : Bool} : g_co (gX b) 209 63 = some (.istore 7) := rfl
theorem y_209_65 {b : Bool} : g_co (gX b) 209 65 = some (.aload_n 1) := rfl
theorem y_209_66 {b : Bool} : g_co (gX b) 209 66 = some (.iload 7) := rfl
theorem y_209_68 {b : Bool} : g_co (gX b) 209 68 = some (.invokevirtual 62) := rfl
theorem y_209_71 {b : Bool} : g_co (gX b) 209 71 = some (.iconst 1) := rfl
theorem y_209_72 {b : Bool} : g_co (gX b) 209 72 = some (.if_icmp .le 22) := rfl
theorem y_209_75 {b : Bool} : g_co (gX b) 209 75 = some (.aload_n 0) := rfl
theorem y_209_76 {b : Bool} : g_co (gX b) 209 76 = some (.getfield 37) := rfl
theorem y_209_79 {b : Bool} : g_co (gX b) 209 79 = some (.getfield 88) := rfl
theorem y_209_82 {b : Bool} : g_co (gX b) 209 82 = some (.iload 7) := rfl
theorem y_209_84 {b : Bool} : g_co (gX b) 209 84 = some (.ishr) := rfl
theorem y_209_85 {b : Bool} : g_co (gX b) 209 85 = some (.iconst 1) := rfl
theorem y_209_86 {b : Bool} : g_co (gX b) 209 86 = some (.iand) := rfl
theorem y_209_87 {b : Bool} : g_co (gX b) 209 87 = some (.ifCond .eq 7) := rfl
theorem y_209_90 {b : Bool} : g_co (gX b) 209 90 = some (.iconst 1) := rfl
theorem y_209_91 {b : Bool} : g_co (gX b) 209 91 = some (.goto 4) := rfl
theorem y_209_94 {b : Bool} : g_co (gX b) 209 94 = some (.iconst 0) := rfl
theorem y_209_95 {b : Bool} : g_co (gX b) 209 95 = some (.istore 8) := rfl
theorem y_209_97 {b : Bool} : g_co (gX b) 209 97 = some (.aload_n 1) := rfl
theorem y_209_98 {b : Bool} : g_co (gX b) 209 98 = some (.iload 7) := rfl
theorem y_209_100 {b : Bool} : g_co (gX b) 209 100 = some (.invokevirtual 91) := rfl
theorem y_209_103 {b : Bool} : g_co (gX b) 209 103 = some (.istore 4) := rfl
theorem y_209_105 {b : Bool} : g_co (gX b) 209 105 = some (.aload_n 0) := rfl
theorem y_209_106 {b : Bool} : g_co (gX b) 209 106 = some (.aload_n 1) := rfl
theorem y_209_107 {b : Bool} : g_co (gX b) 209 107 = some (.iload 7) := rfl
theorem y_209_109 {b : Bool} : g_co (gX b) 209 109 = some (.invokevirtual 94) := rfl
theorem y_209_112 {b : Bool} : g_co (gX b) 209 112 = some (.putfield 28) := rfl
theorem y_209_115 {b : Bool} : g_co (gX b) 209 115 = some (.aload_n 0) := rfl
theorem y_209_116 {b : Bool} : g_co (gX b) 209 116 = some (.iconst 1) := rfl
theorem y_209_117 {b : Bool} : g_co (gX b) 209 117 = some (.bipush 20) := rfl
theorem y_209_119 {b : Bool} : g_co (gX b) 209 119 = some (.iload 7) := rfl
theorem y_209_121 {b : Bool} : g_co (gX b) 209 121 = some (.iadd) := rfl
theorem y_209_122 {b : Bool} : g_co (gX b) 209 122 = some (.ishl) := rfl
theorem y_209_123 {b : Bool} : g_co (gX b) 209 123 = some (.putfield 19) := rfl
theorem y_209_126 {b : Bool} : g_co (gX b) 209 126 = some (.iload 8) := rfl
theorem y_209_128 {b : Bool} : g_co (gX b) 209 128 = some (.ifCond .eq 7) := rfl
theorem y_209_131 {b : Bool} : g_co (gX b) 209 131 = some (.iconst (-1)) := rfl
theorem y_209_132 {b : Bool} : g_co (gX b) 209 132 = some (.goto 16) := rfl
theorem y_209_135 {b : Bool} : g_co (gX b) 209 135 = some (.aload_n 0) := rfl
theorem y_209_136 {b : Bool} : g_co (gX b) 209 136 = some (.getfield 41) := rfl
theorem y_209_139 {b : Bool} : g_co (gX b) 209 139 = some (.getfield 73) := rfl
theorem y_209_142 {b : Bool} : g_co (gX b) 209 142 = some (.bipush 13) := rfl
theorem y_209_144 {b : Bool} : g_co (gX b) 209 144 = some (.iload 7) := rfl
theorem y_209_146 {b : Bool} : g_co (gX b) 209 146 = some (.iadd) := rfl
theorem y_209_147 {b : Bool} : g_co (gX b) 209 147 = some (.iaload) := rfl
theorem y_209_148 {b : Bool} : g_co (gX b) 209 148 = some (.istore 5) := rfl
theorem y_209_150 {b : Bool} : g_co (gX b) 209 150 = some (.goto 53) := rfl
theorem y_209_153 {b : Bool} : g_co (gX b) 209 153 = some (.iload 6) := rfl
theorem y_209_155 {b : Bool} : g_co (gX b) 209 155 = some (.ifCond .lt 48) := rfl
theorem y_209_158 {b : Bool} : g_co (gX b) 209 158 = some (.aload_n 1) := rfl
theorem y_209_159 {b : Bool} : g_co (gX b) 209 159 = some (.getfield 97) := rfl
theorem y_209_162 {b : Bool} : g_co (gX b) 209 162 = some (.bipush 47) := rfl
theorem y_209_164 {b : Bool} : g_co (gX b) 209 164 = some (.iload 6) := rfl
theorem y_209_166 {b : Bool} : g_co (gX b) 209 166 = some (.iadd) := rfl
theorem y_209_167 {b : Bool} : g_co (gX b) 209 167 = some (.iaload) := rfl
theorem y_209_168 {b : Bool} : g_co (gX b) 209 168 = some (.istore 4) := rfl
theorem y_209_170 {b : Bool} : g_co (gX b) 209 170 = some (.aload_n 0) := rfl
theorem y_209_171 {b : Bool} : g_co (gX b) 209 171 = some (.getfield 41) := rfl
theorem y_209_174 {b : Bool} : g_co (gX b) 209 174 = some (.getfield 73) := rfl
theorem y_209_177 {b : Bool} : g_co (gX b) 209 177 = some (.bipush 9) := rfl
theorem y_209_179 {b : Bool} : g_co (gX b) 209 179 = some (.aload_n 1) := rfl
theorem y_209_180 {b : Bool} : g_co (gX b) 209 180 = some (.getfield 97) := rfl
theorem y_209_183 {b : Bool} : g_co (gX b) 209 183 = some (.bipush 32) := rfl
theorem y_209_185 {b : Bool} : g_co (gX b) 209 185 = some (.iload 6) := rfl
theorem y_209_187 {b : Bool} : g_co (gX b) 209 187 = some (.iadd) := rfl
theorem y_209_188 {b : Bool} : g_co (gX b) 209 188 = some (.iaload) := rfl
theorem y_209_189 {b : Bool} : g_co (gX b) 209 189 = some (.sipush 1000) := rfl
theorem y_209_192 {b : Bool} : g_co (gX b) 209 192 = some (.idiv) := rfl
theorem y_209_193 {b : Bool} : g_co (gX b) 209 193 = some (.iadd) := rfl
theorem y_209_194 {b : Bool} : g_co (gX b) 209 194 = some (.iaload) := rfl
theorem y_209_195 {b : Bool} : g_co (gX b) 209 195 = some (.istore 5) := rfl
theorem y_209_197 {b : Bool} : g_co (gX b) 209 197 = some (.aload_n 1) := rfl
theorem y_209_198 {b : Bool} : g_co (gX b) 209 198 = some (.iload 6) := rfl
theorem y_209_200 {b : Bool} : g_co (gX b) 209 200 = some (.invokevirtual 100) := rfl
theorem y_209_203 {b : Bool} : g_co (gX b) 209 203 = some (.aload_n 0) := rfl
theorem y_209_204 {b : Bool} : g_co (gX b) 209 204 = some (.aload_n 1) := rfl
theorem y_209_205 {b : Bool} : g_co (gX b) 209 205 = some (.iload 5) := rfl
theorem y_209_207 {b : Bool} : g_co (gX b) 209 207 = some (.invokevirtual 78) := rfl
theorem y_209_210 {b : Bool} : g_co (gX b) 209 210 = some (.iload 4) := rfl
theorem y_209_212 {b : Bool} : g_co (gX b) 209 212 = some (.ireturn) := rfl
theorem ym_209_69 {b : Bool} : g_ml (gX b) 209 69 = some (0, 212, 1, 1) := rfl
theorem ym_209_82 {b : Bool} : g_ml (gX b) 209 82 = some (0, 241, 0, 3) := rfl
theorem ym_209_85 {b : Bool} : g_ml (gX b) 209 85 = some (0, 240, 0, 3) := rfl
theorem yf_209_15 {b : Bool} : g_fl (gX b) 209 15 = some (1, 3, 0) := rfl
theorem yf_209_41 {b : Bool} : g_fl (gX b) 209 41 = some (1, 2, 2) := rfl
theorem yf_209_73 {b : Bool} : g_fl (gX b) 209 73 = some (5, 2, 9) := rfl
theorem ym_209_62 {b : Bool} : g_ml (gX b) 209 62 = some (0, 230, 1, 3) := rfl
theorem yf_209_37 {b : Bool} : g_fl (gX b) 209 37 = some (1, 0, 9) := rfl
theorem yf_209_88 {b : Bool} : g_fl (gX b) 209 88 = some (0, 7, 0) := rfl
theorem ym_209_91 {b : Bool} : g_ml (gX b) 209 91 = some (0, 237, 1, 3) := rfl
theorem ym_209_94 {b : Bool} : g_ml (gX b) 209 94 = some (0, 238, 1, 3) := rfl
theorem yf_209_28 {b : Bool} : g_fl (gX b) 209 28 = some (1, 7, 0) := rfl
theorem yf_209_19 {b : Bool} : g_fl (gX b) 209 19 = some (1, 4, 0) := rfl
theorem yf_209_97 {b : Bool} : g_fl (gX b) 209 97 = some (3, 0, 9) := rfl
theorem ym_209_100 {b : Bool} : g_ml (gX b) 209 100 = some (0, 242, 1, 3) := rfl
theorem ym_209_78 {b : Bool} : g_ml (gX b) 209 78 = some (0, 213, 2, 1) := rfl
theorem yx_210 {b : Bool} : g_mx (gX b) 210 = 2 := rfl
theorem yt_210 {b : Bool} : g_rt (gX b) 210 = 2 := rfl
theorem y_210_0 {b : Bool} : g_co (gX b) 210 0 = some (.aload_n 1) := rfl
theorem y_210_1 {b : Bool} : g_co (gX b) 210 1 = some (.invokevirtual 103) := rfl
theorem y_210_4 {b : Bool} : g_co (gX b) 210 4 = some (.ifCond .ne 20) := rfl
theorem y_210_7 {b : Bool} : g_co (gX b) 210 7 = some (.aload_n 0) := rfl
theorem y_210_8 {b : Bool} : g_co (gX b) 210 8 = some (.getfield 41) := rfl
theorem y_210_11 {b : Bool} : g_co (gX b) 210 11 = some (.getfield 107) := rfl
theorem y_210_14 {b : Bool} : g_co (gX b) 210 14 = some (.ifCond .lt 10) := rfl
theorem y_210_17 {b : Bool} : g_co (gX b) 210 17 = some (.aload_n 1) := rfl
theorem y_210_18 {b : Bool} : g_co (gX b) 210 18 = some (.invokevirtual 110) := rfl
theorem y_210_21 {b : Bool} : g_co (gX b) 210 21 = some (.ifCond .ne 8) := rfl
theorem y_210_24 {b : Bool} : g_co (gX b) 210 24 = some (.aload_n 1) := rfl
theorem y_210_25 {b : Bool} : g_co (gX b) 210 25 = some (.invokevirtual 103) := rfl
theorem y_210_28 {b : Bool} : g_co (gX b) 210 28 = some (.ireturn) := rfl
theorem y_210_29 {b : Bool} : g_co (gX b) 210 29 = some (.aload_n 0) := rfl
theorem y_210_30 {b : Bool} : g_co (gX b) 210 30 = some (.iconst 0) := rfl
theorem y_210_31 {b : Bool} : g_co (gX b) 210 31 = some (.putfield 28) := rfl
theorem y_210_34 {b : Bool} : g_co (gX b) 210 34 = some (.aload_n 0) := rfl
theorem y_210_35 {b : Bool} : g_co (gX b) 210 35 = some (.aload_n 1) := rfl
theorem y_210_36 {b : Bool} : g_co (gX b) 210 36 = some (.aload_n 0) := rfl
theorem y_210_37 {b : Bool} : g_co (gX b) 210 37 = some (.getfield 41) := rfl
theorem y_210_40 {b : Bool} : g_co (gX b) 210 40 = some (.getfield 107) := rfl
theorem y_210_43 {b : Bool} : g_co (gX b) 210 43 = some (.invokevirtual 78) := rfl
theorem y_210_46 {b : Bool} : g_co (gX b) 210 46 = some (.aload_n 0) := rfl
theorem y_210_47 {b : Bool} : g_co (gX b) 210 47 = some (.getfield 11) := rfl
theorem y_210_50 {b : Bool} : g_co (gX b) 210 50 = some (.iconst 0) := rfl
theorem y_210_51 {b : Bool} : g_co (gX b) 210 51 = some (.iaload) := rfl
theorem y_210_52 {b : Bool} : g_co (gX b) 210 52 = some (.ifCond .eq 7) := rfl
theorem y_210_55 {b : Bool} : g_co (gX b) 210 55 = some (.iconst 1) := rfl
theorem y_210_56 {b : Bool} : g_co (gX b) 210 56 = some (.goto 4) := rfl
theorem y_210_59 {b : Bool} : g_co (gX b) 210 59 = some (.iconst 0) := rfl
theorem y_210_60 {b : Bool} : g_co (gX b) 210 60 = some (.ireturn) := rfl
theorem ym_210_103 {b : Bool} : g_ml (gX b) 210 103 = some (0, 228, 0, 3) := rfl
theorem yf_210_41 {b : Bool} : g_fl (gX b) 210 41 = some (1, 2, 2) := rfl
theorem yf_210_107 {b : Bool} : g_fl (gX b) 210 107 = some (5, 7, 0) := rfl
theorem ym_210_110 {b : Bool} : g_ml (gX b) 210 110 = some (0, 234, 0, 3) := rfl
theorem yf_210_28 {b : Bool} : g_fl (gX b) 210 28 = some (1, 7, 0) := rfl
theorem ym_210_78 {b : Bool} : g_ml (gX b) 210 78 = some (0, 213, 2, 1) := rfl
theorem yf_210_11 {b : Bool} : g_fl (gX b) 210 11 = some (1, 1, 9) := rfl
theorem yx_211 {b : Bool} : g_mx (gX b) 211 = 2 := rfl
theorem yt_211 {b : Bool} : g_rt (gX b) 211 = 2 := rfl
theorem y_211_0 {b : Bool} : g_co (gX b) 211 0 = some (.aload_n 0) := rfl
theorem y_211_1 {b : Bool} : g_co (gX b) 211 1 = some (.getfield 41) := rfl
theorem y_211_4 {b : Bool} : g_co (gX b) 211 4 = some (.getfield 113) := rfl
theorem y_211_7 {b : Bool} : g_co (gX b) 211 7 = some (.ifCond .ge 5) := rfl
theorem y_211_10 {b : Bool} : g_co (gX b) 211 10 = some (.iconst 1) := rfl
theorem y_211_11 {b : Bool} : g_co (gX b) 211 11 = some (.ireturn) := rfl
theorem y_211_12 {b : Bool} : g_co (gX b) 211 12 = some (.aload_n 0) := rfl
theorem y_211_13 {b : Bool} : g_co (gX b) 211 13 = some (.iconst 0) := rfl
theorem y_211_14 {b : Bool} : g_co (gX b) 211 14 = some (.putfield 28) := rfl
theorem y_211_17 {b : Bool} : g_co (gX b) 211 17 = some (.aload_n 0) := rfl
theorem y_211_18 {b : Bool} : g_co (gX b) 211 18 = some (.aload_n 1) := rfl
theorem y_211_19 {b : Bool} : g_co (gX b) 211 19 = some (.aload_n 0) := rfl
theorem y_211_20 {b : Bool} : g_co (gX b) 211 20 = some (.getfield 41) := rfl
theorem y_211_23 {b : Bool} : g_co (gX b) 211 23 = some (.getfield 113) := rfl
theorem y_211_26 {b : Bool} : g_co (gX b) 211 26 = some (.invokevirtual 78) := rfl
theorem y_211_29 {b : Bool} : g_co (gX b) 211 29 = some (.aload_n 0) := rfl
theorem y_211_30 {b : Bool} : g_co (gX b) 211 30 = some (.getfield 11) := rfl
theorem y_211_33 {b : Bool} : g_co (gX b) 211 33 = some (.iconst 0) := rfl
theorem y_211_34 {b : Bool} : g_co (gX b) 211 34 = some (.iaload) := rfl
theorem y_211_35 {b : Bool} : g_co (gX b) 211 35 = some (.ifCond .eq 7) := rfl
theorem y_211_38 {b : Bool} : g_co (gX b) 211 38 = some (.iconst 1) := rfl
theorem y_211_39 {b : Bool} : g_co (gX b) 211 39 = some (.goto 4) := rfl
theorem y_211_42 {b : Bool} : g_co (gX b) 211 42 = some (.iconst 0) := rfl
theorem y_211_43 {b : Bool} : g_co (gX b) 211 43 = some (.ireturn) := rfl
theorem yf_211_41 {b : Bool} : g_fl (gX b) 211 41 = some (1, 2, 2) := rfl
theorem yf_211_113 {b : Bool} : g_fl (gX b) 211 113 = some (5, 8, 0) := rfl
theorem yf_211_28 {b : Bool} : g_fl (gX b) 211 28 = some (1, 7, 0) := rfl
theorem ym_211_78 {b : Bool} : g_ml (gX b) 211 78 = some (0, 213, 2, 1) := rfl
theorem yf_211_11 {b : Bool} : g_fl (gX b) 211 11 = some (1, 1, 9) := rfl
theorem yx_212 {b : Bool} : g_mx (gX b) 212 = 2 := rfl
theorem yt_212 {b : Bool} : g_rt (gX b) 212 = 0 := rfl
theorem y_212_0 {b : Bool} : g_co (gX b) 212 0 = some (.aload_n 0) := rfl
theorem y_212_1 {b : Bool} : g_co (gX b) 212 1 = some (.iconst 0) := rfl
theorem y_212_2 {b : Bool} : g_co (gX b) 212 2 = some (.putfield 15) := rfl
theorem y_212_5 {b : Bool} : g_co (gX b) 212 5 = some (.aload_n 0) := rfl
theorem y_212_6 {b : Bool} : g_co (gX b) 212 6 = some (.iconst 0) := rfl
theorem y_212_7 {b : Bool} : g_co (gX b) 212 7 = some (.putfield 19) := rfl
theorem y_212_10 {b : Bool} : g_co (gX b) 212 10 = some (.aload_n 0) := rfl
theorem y_212_11 {b : Bool} : g_co (gX b) 212 11 = some (.iconst 0) := rfl
theorem y_212_12 {b : Bool} : g_co (gX b) 212 12 = some (.putfield 28) := rfl
theorem y_212_15 {b : Bool} : g_co (gX b) 212 15 = some (.aload_n 0) := rfl
theorem y_212_16 {b : Bool} : g_co (gX b) 212 16 = some (.iload_n 1) := rfl
theorem y_212_17 {b : Bool} : g_co (gX b) 212 17 = some (.putfield 31) := rfl
theorem y_212_20 {b : Bool} : g_co (gX b) 212 20 = some (.return_) := rfl
theorem yf_212_15 {b : Bool} : g_fl (gX b) 212 15 = some (1, 3, 0) := rfl
theorem yf_212_19 {b : Bool} : g_fl (gX b) 212 19 = some (1, 4, 0) := rfl
theorem yf_212_28 {b : Bool} : g_fl (gX b) 212 28 = some (1, 7, 0) := rfl
theorem yf_212_31 {b : Bool} : g_fl (gX b) 212 31 = some (1, 8, 0) := rfl
theorem yx_213 {b : Bool} : g_mx (gX b) 213 = 6 := rfl
theorem yt_213 {b : Bool} : g_rt (gX b) 213 = 0 := rfl
theorem y_213_0 {b : Bool} : g_co (gX b) 213 0 = some (.aload_n 0) := rfl
theorem y_213_1 {b : Bool} : g_co (gX b) 213 1 = some (.iconst 0) := rfl
theorem y_213_2 {b : Bool} : g_co (gX b) 213 2 = some (.putfield 34) := rfl
theorem y_213_5 {b : Bool} : g_co (gX b) 213 5 = some (.iload_n 2) := rfl
theorem y_213_6 {b : Bool} : g_co (gX b) 213 6 = some (.istore_n 3) := rfl
theorem y_213_7 {b : Bool} : g_co (gX b) 213 7 = some (.iload_n 3) := rfl
theorem y_213_8 {b : Bool} : g_co (gX b) 213 8 = some (.ifCond .lt 116) := rfl
theorem y_213_11 {b : Bool} : g_co (gX b) 213 11 = some (.iload_n 3) := rfl
theorem y_213_12 {b : Bool} : g_co (gX b) 213 12 = some (.aload_n 0) := rfl
theorem y_213_13 {b : Bool} : g_co (gX b) 213 13 = some (.getfield 41) := rfl
theorem y_213_16 {b : Bool} : g_co (gX b) 213 16 = some (.getfield 116) := rfl
theorem y_213_19 {b : Bool} : g_co (gX b) 213 19 = some (.if_icmp .ge 105) := rfl
theorem y_213_22 {b : Bool} : g_co (gX b) 213 22 = some (.aload_n 0) := rfl
theorem y_213_23 {b : Bool} : g_co (gX b) 213 23 = some (.getfield 41) := rfl
theorem y_213_26 {b : Bool} : g_co (gX b) 213 26 = some (.getfield 119) := rfl
theorem y_213_29 {b : Bool} : g_co (gX b) 213 29 = some (.iload_n 3) := rfl
theorem y_213_30 {b : Bool} : g_co (gX b) 213 30 = some (.iaload) := rfl
theorem y_213_31 {b : Bool} : g_co (gX b) 213 31 = some (.istore 4) := rfl
theorem y_213_33 {b : Bool} : g_co (gX b) 213 33 = some (.aload_n 0) := rfl
theorem y_213_34 {b : Bool} : g_co (gX b) 213 34 = some (.getfield 41) := rfl
theorem y_213_37 {b : Bool} : g_co (gX b) 213 37 = some (.getfield 122) := rfl
theorem y_213_40 {b : Bool} : g_co (gX b) 213 40 = some (.iload_n 3) := rfl
theorem y_213_41 {b : Bool} : g_co (gX b) 213 41 = some (.iaload) := rfl
theorem y_213_42 {b : Bool} : g_co (gX b) 213 42 = some (.istore 5) := rfl
theorem y_213_44 {b : Bool} : g_co (gX b) 213 44 = some (.iload 4) := rfl
theorem y_213_46 {b : Bool} : g_co (gX b) 213 46 = some (.bipush 16) := rfl
theorem y_213_48 {b : Bool} : g_co (gX b) 213 48 = some (.if_icmp .ge 15) := rfl
theorem y_213_51 {b : Bool} : g_co (gX b) 213 51 = some (.aload_n 0) := rfl
theorem y_213_52 {b : Bool} : g_co (gX b) 213 52 = some (.aload_n 1) := rfl
theorem y_213_53 {b : Bool} : g_co (gX b) 213 53 = some (.iload 4) := rfl
theorem y_213_55 {b : Bool} : g_co (gX b) 213 55 = some (.iload 5) := rfl
theorem y_213_57 {b : Bool} : g_co (gX b) 213 57 = some (.invokevirtual 125) := rfl
theorem y_213_60 {b : Bool} : g_co (gX b) 213 60 = some (.goto 58) := rfl
theorem y_213_63 {b : Bool} : g_co (gX b) 213 63 = some (.iload 4) := rfl
theorem y_213_65 {b : Bool} : g_co (gX b) 213 65 = some (.bipush 16) := rfl
theorem y_213_67 {b : Bool} : g_co (gX b) 213 67 = some (.if_icmp .ne 4) := rfl
theorem y_213_70 {b : Bool} : g_co (gX b) 213 70 = some (.return_) := rfl
theorem y_213_71 {b : Bool} : g_co (gX b) 213 71 = some (.iload 4) := rfl
theorem y_213_73 {b : Bool} : g_co (gX b) 213 73 = some (.bipush 17) := rfl
theorem y_213_75 {b : Bool} : g_co (gX b) 213 75 = some (.if_icmp .ne 22) := rfl
theorem y_213_78 {b : Bool} : g_co (gX b) 213 78 = some (.aload_n 0) := rfl
theorem y_213_79 {b : Bool} : g_co (gX b) 213 79 = some (.invokevirtual 129) := rfl
theorem y_213_82 {b : Bool} : g_co (gX b) 213 82 = some (.ifCond .ne 36) := rfl
theorem y_213_85 {b : Bool} : g_co (gX b) 213 85 = some (.iload_n 3) := rfl
theorem y_213_86 {b : Bool} : g_co (gX b) 213 86 = some (.iload 5) := rfl
theorem y_213_88 {b : Bool} : g_co (gX b) 213 88 = some (.iconst 1) := rfl
theorem y_213_89 {b : Bool} : g_co (gX b) 213 89 = some (.isub) := rfl
theorem y_213_90 {b : Bool} : g_co (gX b) 213 90 = some (.invokestatic 132) := rfl
theorem y_213_93 {b : Bool} : g_co (gX b) 213 93 = some (.istore_n 3) := rfl
theorem y_213_94 {b : Bool} : g_co (gX b) 213 94 = some (.goto 24) := rfl
theorem y_213_97 {b : Bool} : g_co (gX b) 213 97 = some (.aload_n 0) := rfl
theorem y_213_98 {b : Bool} : g_co (gX b) 213 98 = some (.aload_n 1) := rfl
theorem y_213_99 {b : Bool} : g_co (gX b) 213 99 = some (.iload 4) := rfl
theorem y_213_101 {b : Bool} : g_co (gX b) 213 101 = some (.iload 5) := rfl
theorem y_213_103 {b : Bool} : g_co (gX b) 213 103 = some (.invokevirtual 138) := rfl
theorem y_213_106 {b : Bool} : g_co (gX b) 213 106 = some (.ifCond .ne 12) := rfl
theorem y_213_109 {b : Bool} : g_co (gX b) 213 109 = some (.aload_n 1) := rfl
theorem y_213_110 {b : Bool} : g_co (gX b) 213 110 = some (.getfield 97) := rfl
theorem y_213_113 {b : Bool} : g_co (gX b) 213 113 = some (.bipush 14) := rfl
theorem y_213_115 {b : Bool} : g_co (gX b) 213 115 = some (.iconst 1) := rfl
theorem y_213_116 {b : Bool} : g_co (gX b) 213 116 = some (.iastore) := rfl
theorem y_213_117 {b : Bool} : g_co (gX b) 213 117 = some (.return_) := rfl
theorem y_213_118 {b : Bool} : g_co (gX b) 213 118 = some (.iinc 3 1) := rfl
theorem y_213_121 {b : Bool} : g_co (gX b) 213 121 = some (.goto (-114)) := rfl
theorem y_213_124 {b : Bool} : g_co (gX b) 213 124 = some (.return_) := rfl
theorem yf_213_34 {b : Bool} : g_fl (gX b) 213 34 = some (1, 9, 0) := rfl
theorem yf_213_41 {b : Bool} : g_fl (gX b) 213 41 = some (1, 2, 2) := rfl
theorem yf_213_116 {b : Bool} : g_fl (gX b) 213 116 = some (5, 3, 0) := rfl
theorem yf_213_119 {b : Bool} : g_fl (gX b) 213 119 = some (5, 0, 9) := rfl
theorem yf_213_122 {b : Bool} : g_fl (gX b) 213 122 = some (5, 1, 9) := rfl
theorem ym_213_125 {b : Bool} : g_ml (gX b) 213 125 = some (0, 214, 3, 1) := rfl
theorem ym_213_129 {b : Bool} : g_ml (gX b) 213 129 = some (0, 218, 0, 1) := rfl
theorem yn_213_132 {b : Bool} : g_ml (gX b) 213 132 = none := rfl
theorem yz_213_132 {b : Bool} : g_nt (gX b) 213 132 = 2 := rfl
theorem ym_213_138 {b : Bool} : g_ml (gX b) 213 138 = some (0, 216, 3, 1) := rfl
theorem yf_213_97 {b : Bool} : g_fl (gX b) 213 97 = some (3, 0, 9) := rfl
theorem yx_214 {b : Bool} : g_mx (gX b) 214 = 6 := rfl
theorem yt_214 {b : Bool} : g_rt (gX b) 214 = 0 := rfl
theorem y_214_0 {b : Bool} : g_co (gX b) 214 0 = some (.iconst 0) := rfl
theorem y_214_1 {b : Bool} : g_co (gX b) 214 1 = some (.istore 4) := rfl
theorem y_214_3 {b : Bool} : g_co (gX b) 214 3 = some (.iload_n 2) := rfl
theorem y_214_4 {b : Bool} : g_co (gX b) 214 4 = some (.ifCond .ne 9) := rfl
theorem y_214_7 {b : Bool} : g_co (gX b) 214 7 = some (.iload_n 3) := rfl
theorem y_214_8 {b : Bool} : g_co (gX b) 214 8 = some (.istore 4) := rfl
theorem y_214_10 {b : Bool} : g_co (gX b) 214 10 = some (.goto 128) := rfl
theorem y_214_13 {b : Bool} : g_co (gX b) 214 13 = some (.iload_n 2) := rfl
theorem y_214_14 {b : Bool} : g_co (gX b) 214 14 = some (.iconst 1) := rfl
theorem y_214_15 {b : Bool} : g_co (gX b) 214 15 = some (.if_icmp .ne 26) := rfl
theorem y_214_18 {b : Bool} : g_co (gX b) 214 18 = some (.aload_n 0) := rfl
theorem y_214_19 {b : Bool} : g_co (gX b) 214 19 = some (.dup) := rfl
theorem y_214_20 {b : Bool} : g_co (gX b) 214 20 = some (.getfield 15) := rfl
theorem y_214_23 {b : Bool} : g_co (gX b) 214 23 = some (.iconst 1) := rfl
theorem y_214_24 {b : Bool} : g_co (gX b) 214 24 = some (.iload_n 3) := rfl
theorem y_214_25 {b : Bool} : g_co (gX b) 214 25 = some (.ishl) := rfl
theorem y_214_26 {b : Bool} : g_co (gX b) 214 26 = some (.ior) := rfl
theorem y_214_27 {b : Bool} : g_co (gX b) 214 27 = some (.putfield 15) := rfl
theorem y_214_30 {b : Bool} : g_co (gX b) 214 30 = some (.aload_n 1) := rfl
theorem y_214_31 {b : Bool} : g_co (gX b) 214 31 = some (.getfield 97) := rfl
theorem y_214_34 {b : Bool} : g_co (gX b) 214 34 = some (.iload_n 3) := rfl
theorem y_214_35 {b : Bool} : g_co (gX b) 214 35 = some (.iaload) := rfl
theorem y_214_36 {b : Bool} : g_co (gX b) 214 36 = some (.istore 4) := rfl
theorem y_214_38 {b : Bool} : g_co (gX b) 214 38 = some (.goto 100) := rfl
theorem y_214_41 {b : Bool} : g_co (gX b) 214 41 = some (.iload_n 2) := rfl
theorem y_214_42 {b : Bool} : g_co (gX b) 214 42 = some (.iconst 2) := rfl
theorem y_214_43 {b : Bool} : g_co (gX b) 214 43 = some (.if_icmp .ne 12) := rfl
theorem y_214_46 {b : Bool} : g_co (gX b) 214 46 = some (.aload_n 0) := rfl
theorem y_214_47 {b : Bool} : g_co (gX b) 214 47 = some (.getfield 28) := rfl
theorem y_214_50 {b : Bool} : g_co (gX b) 214 50 = some (.istore 4) := rfl
theorem y_214_52 {b : Bool} : g_co (gX b) 214 52 = some (.goto 86) := rfl
theorem y_214_55 {b : Bool} : g_co (gX b) 214 55 = some (.iload_n 2) := rfl
theorem y_214_56 {b : Bool} : g_co (gX b) 214 56 = some (.iconst 3) := rfl
theorem y_214_57 {b : Bool} : g_co (gX b) 214 57 = some (.if_icmp .ne 46) := rfl
theorem y_214_60 {b : Bool} : g_co (gX b) 214 60 = some (.aload_n 0) := rfl
theorem y_214_61 {b : Bool} : g_co (gX b) 214 61 = some (.dup) := rfl
theorem y_214_62 {b : Bool} : g_co (gX b) 214 62 = some (.getfield 15) := rfl
theorem y_214_65 {b : Bool} : g_co (gX b) 214 65 = some (.iconst 1) := rfl
theorem y_214_66 {b : Bool} : g_co (gX b) 214 66 = some (.bipush 16) := rfl
theorem y_214_68 {b : Bool} : g_co (gX b) 214 68 = some (.iload_n 3) := rfl
theorem y_214_69 {b : Bool} : g_co (gX b) 214 69 = some (.iadd) := rfl
theorem y_214_70 {b : Bool} : g_co (gX b) 214 70 = some (.ishl) := rfl
theorem y_214_71 {b : Bool} : g_co (gX b) 214 71 = some (.ior) := rfl
theorem y_214_72 {b : Bool} : g_co (gX b) 214 72 = some (.putfield 15) := rfl
theorem y_214_75 {b : Bool} : g_co (gX b) 214 75 = some (.aload_n 0) := rfl
theorem y_214_76 {b : Bool} : g_co (gX b) 214 76 = some (.dup) := rfl
theorem y_214_77 {b : Bool} : g_co (gX b) 214 77 = some (.getfield 22) := rfl
theorem y_214_80 {b : Bool} : g_co (gX b) 214 80 = some (.iconst 1) := rfl
theorem y_214_81 {b : Bool} : g_co (gX b) 214 81 = some (.iload_n 3) := rfl
theorem y_214_82 {b : Bool} : g_co (gX b) 214 82 = some (.ishl) := rfl
theorem y_214_83 {b : Bool} : g_co (gX b) 214 83 = some (.iconst (-1)) := rfl
theorem y_214_84 {b : Bool} : g_co (gX b) 214 84 = some (.ixor) := rfl
theorem y_214_85 {b : Bool} : g_co (gX b) 214 85 = some (.iand) := rfl
theorem y_214_86 {b : Bool} : g_co (gX b) 214 86 = some (.putfield 22) := rfl
theorem y_214_89 {b : Bool} : g_co (gX b) 214 89 = some (.aload_n 1) := rfl
theorem y_214_90 {b : Bool} : g_co (gX b) 214 90 = some (.getfield 97) := rfl
theorem y_214_93 {b : Bool} : g_co (gX b) 214 93 = some (.bipush 10) := rfl
theorem y_214_95 {b : Bool} : g_co (gX b) 214 95 = some (.iload_n 3) := rfl
theorem y_214_96 {b : Bool} : g_co (gX b) 214 96 = some (.iadd) := rfl
theorem y_214_97 {b : Bool} : g_co (gX b) 214 97 = some (.iaload) := rfl
theorem y_214_98 {b : Bool} : g_co (gX b) 214 98 = some (.istore 4) := rfl
theorem y_214_100 {b : Bool} : g_co (gX b) 214 100 = some (.goto 38) := rfl
theorem y_214_103 {b : Bool} : g_co (gX b) 214 103 = some (.iload_n 2) := rfl
theorem y_214_104 {b : Bool} : g_co (gX b) 214 104 = some (.iconst 4) := rfl
theorem y_214_105 {b : Bool} : g_co (gX b) 214 105 = some (.if_icmp .ne 14) := rfl
theorem y_214_108 {b : Bool} : g_co (gX b) 214 108 = some (.iconst 1) := rfl
theorem y_214_109 {b : Bool} : g_co (gX b) 214 109 = some (.aload_n 0) := rfl
theorem y_214_110 {b : Bool} : g_co (gX b) 214 110 = some (.invokevirtual 129) := rfl
theorem y_214_113 {b : Bool} : g_co (gX b) 214 113 = some (.isub) := rfl
theorem y_214_114 {b : Bool} : g_co (gX b) 214 114 = some (.istore 4) := rfl
theorem y_214_116 {b : Bool} : g_co (gX b) 214 116 = some (.goto 22) := rfl
theorem y_214_119 {b : Bool} : g_co (gX b) 214 119 = some (.aload_n 0) := rfl
theorem y_214_120 {b : Bool} : g_co (gX b) 214 120 = some (.invokevirtual 129) := rfl
theorem y_214_123 {b : Bool} : g_co (gX b) 214 123 = some (.istore 5) := rfl
theorem y_214_125 {b : Bool} : g_co (gX b) 214 125 = some (.aload_n 0) := rfl
theorem y_214_126 {b : Bool} : g_co (gX b) 214 126 = some (.iload_n 2) := rfl
theorem y_214_127 {b : Bool} : g_co (gX b) 214 127 = some (.aload_n 0) := rfl
theorem y_214_128 {b : Bool} : g_co (gX b) 214 128 = some (.invokevirtual 129) := rfl
theorem y_214_131 {b : Bool} : g_co (gX b) 214 131 = some (.iload 5) := rfl
theorem y_214_133 {b : Bool} : g_co (gX b) 214 133 = some (.invokevirtual 142) := rfl
theorem y_214_136 {b : Bool} : g_co (gX b) 214 136 = some (.istore 4) := rfl
theorem y_214_138 {b : Bool} : g_co (gX b) 214 138 = some (.aload_n 0) := rfl
theorem y_214_139 {b : Bool} : g_co (gX b) 214 139 = some (.getfield 34) := rfl
theorem y_214_142 {b : Bool} : g_co (gX b) 214 142 = some (.ifCond .lt 33) := rfl
theorem y_214_145 {b : Bool} : g_co (gX b) 214 145 = some (.aload_n 0) := rfl
theorem y_214_146 {b : Bool} : g_co (gX b) 214 146 = some (.getfield 34) := rfl
theorem y_214_149 {b : Bool} : g_co (gX b) 214 149 = some (.bipush 64) := rfl
theorem y_214_151 {b : Bool} : g_co (gX b) 214 151 = some (.if_icmp .ge 24) := rfl
theorem y_214_154 {b : Bool} : g_co (gX b) 214 154 = some (.aload_n 0) := rfl
theorem y_214_155 {b : Bool} : g_co (gX b) 214 155 = some (.getfield 11) := rfl
theorem y_214_158 {b : Bool} : g_co (gX b) 214 158 = some (.aload_n 0) := rfl
theorem y_214_159 {b : Bool} : g_co (gX b) 214 159 = some (.getfield 34) := rfl
theorem y_214_162 {b : Bool} : g_co (gX b) 214 162 = some (.iload 4) := rfl
theorem y_214_164 {b : Bool} : g_co (gX b) 214 164 = some (.iastore) := rfl
theorem y_214_165 {b : Bool} : g_co (gX b) 214 165 = some (.aload_n 0) := rfl
theorem y_214_166 {b : Bool} : g_co (gX b) 214 166 = some (.dup) := rfl
theorem y_214_167 {b : Bool} : g_co (gX b) 214 167 = some (.getfield 34) := rfl
theorem y_214_170 {b : Bool} : g_co (gX b) 214 170 = some (.iconst 1) := rfl
theorem y_214_171 {b : Bool} : g_co (gX b) 214 171 = some (.iadd) := rfl
theorem y_214_172 {b : Bool} : g_co (gX b) 214 172 = some (.putfield 34) := rfl
theorem y_214_175 {b : Bool} : g_co (gX b) 214 175 = some (.return_) := rfl
theorem yf_214_15 {b : Bool} : g_fl (gX b) 214 15 = some (1, 3, 0) := rfl
theorem yf_214_97 {b : Bool} : g_fl (gX b) 214 97 = some (3, 0, 9) := rfl
theorem yf_214_28 {b : Bool} : g_fl (gX b) 214 28 = some (1, 7, 0) := rfl
theorem yf_214_22 {b : Bool} : g_fl (gX b) 214 22 = some (1, 5, 0) := rfl
theorem ym_214_129 {b : Bool} : g_ml (gX b) 214 129 = some (0, 218, 0, 1) := rfl
theorem ym_214_142 {b : Bool} : g_ml (gX b) 214 142 = some (0, 215, 3, 1) := rfl
theorem yf_214_34 {b : Bool} : g_fl (gX b) 214 34 = some (1, 9, 0) := rfl
theorem yf_214_11 {b : Bool} : g_fl (gX b) 214 11 = some (1, 1, 9) := rfl
theorem yx_215 {b : Bool} : g_mx (gX b) 215 = 4 := rfl
theorem yt_215 {b : Bool} : g_rt (gX b) 215 = 1 := rfl
theorem y_215_0 {b : Bool} : g_co (gX b) 215 0 = some (.iload_n 1) := rfl
theorem y_215_1 {b : Bool} : g_co (gX b) 215 1 = some (.tableswitch 128 5 14 #[55, 59, 63, 67, 79, 85, 91, 102, 113, 124]) := rfl
theorem y_215_56 {b : Bool} : g_co (gX b) 215 56 = some (.iload_n 2) := rfl
theorem y_215_57 {b : Bool} : g_co (gX b) 215 57 = some (.iload_n 3) := rfl
theorem y_215_58 {b : Bool} : g_co (gX b) 215 58 = some (.iadd) := rfl
theorem y_215_59 {b : Bool} : g_co (gX b) 215 59 = some (.ireturn) := rfl
theorem y_215_60 {b : Bool} : g_co (gX b) 215 60 = some (.iload_n 2) := rfl
theorem y_215_61 {b : Bool} : g_co (gX b) 215 61 = some (.iload_n 3) := rfl
theorem y_215_62 {b : Bool} : g_co (gX b) 215 62 = some (.isub) := rfl
theorem y_215_63 {b : Bool} : g_co (gX b) 215 63 = some (.ireturn) := rfl
theorem y_215_64 {b : Bool} : g_co (gX b) 215 64 = some (.iload_n 2) := rfl
theorem y_215_65 {b : Bool} : g_co (gX b) 215 65 = some (.iload_n 3) := rfl
theorem y_215_66 {b : Bool} : g_co (gX b) 215 66 = some (.imul) := rfl
theorem y_215_67 {b : Bool} : g_co (gX b) 215 67 = some (.ireturn) := rfl
theorem y_215_68 {b : Bool} : g_co (gX b) 215 68 = some (.iload_n 3) := rfl
theorem y_215_69 {b : Bool} : g_co (gX b) 215 69 = some (.ifCond .ne 7) := rfl
theorem y_215_72 {b : Bool} : g_co (gX b) 215 72 = some (.iconst 0) := rfl
theorem y_215_73 {b : Bool} : g_co (gX b) 215 73 = some (.goto 6) := rfl
theorem y_215_76 {b : Bool} : g_co (gX b) 215 76 = some (.iload_n 2) := rfl
theorem y_215_77 {b : Bool} : g_co (gX b) 215 77 = some (.iload_n 3) := rfl
theorem y_215_78 {b : Bool} : g_co (gX b) 215 78 = some (.idiv) := rfl
theorem y_215_79 {b : Bool} : g_co (gX b) 215 79 = some (.ireturn) := rfl
theorem y_215_80 {b : Bool} : g_co (gX b) 215 80 = some (.iload_n 2) := rfl
theorem y_215_81 {b : Bool} : g_co (gX b) 215 81 = some (.iload_n 3) := rfl
theorem y_215_82 {b : Bool} : g_co (gX b) 215 82 = some (.invokestatic 146) := rfl
theorem y_215_85 {b : Bool} : g_co (gX b) 215 85 = some (.ireturn) := rfl
theorem y_215_86 {b : Bool} : g_co (gX b) 215 86 = some (.iload_n 2) := rfl
theorem y_215_87 {b : Bool} : g_co (gX b) 215 87 = some (.iload_n 3) := rfl
theorem y_215_88 {b : Bool} : g_co (gX b) 215 88 = some (.invokestatic 132) := rfl
theorem y_215_91 {b : Bool} : g_co (gX b) 215 91 = some (.ireturn) := rfl
theorem y_215_92 {b : Bool} : g_co (gX b) 215 92 = some (.iload_n 2) := rfl
theorem y_215_93 {b : Bool} : g_co (gX b) 215 93 = some (.iload_n 3) := rfl
theorem y_215_94 {b : Bool} : g_co (gX b) 215 94 = some (.if_icmp .ge 7) := rfl
theorem y_215_97 {b : Bool} : g_co (gX b) 215 97 = some (.iconst 1) := rfl
theorem y_215_98 {b : Bool} : g_co (gX b) 215 98 = some (.goto 4) := rfl
theorem y_215_101 {b : Bool} : g_co (gX b) 215 101 = some (.iconst 0) := rfl
theorem y_215_102 {b : Bool} : g_co (gX b) 215 102 = some (.ireturn) := rfl
theorem y_215_103 {b : Bool} : g_co (gX b) 215 103 = some (.iload_n 2) := rfl
theorem y_215_104 {b : Bool} : g_co (gX b) 215 104 = some (.iload_n 3) := rfl
theorem y_215_105 {b : Bool} : g_co (gX b) 215 105 = some (.if_icmp .le 7) := rfl
theorem y_215_108 {b : Bool} : g_co (gX b) 215 108 = some (.iconst 1) := rfl
theorem y_215_109 {b : Bool} : g_co (gX b) 215 109 = some (.goto 4) := rfl
theorem y_215_112 {b : Bool} : g_co (gX b) 215 112 = some (.iconst 0) := rfl
theorem y_215_113 {b : Bool} : g_co (gX b) 215 113 = some (.ireturn) := rfl
theorem y_215_114 {b : Bool} : g_co (gX b) 215 114 = some (.iload_n 2) := rfl
theorem y_215_115 {b : Bool} : g_co (gX b) 215 115 = some (.iload_n 3) := rfl
theorem y_215_116 {b : Bool} : g_co (gX b) 215 116 = some (.if_icmp .ne 7) := rfl
theorem y_215_119 {b : Bool} : g_co (gX b) 215 119 = some (.iconst 1) := rfl
theorem y_215_120 {b : Bool} : g_co (gX b) 215 120 = some (.goto 4) := rfl
theorem y_215_123 {b : Bool} : g_co (gX b) 215 123 = some (.iconst 0) := rfl
theorem y_215_124 {b : Bool} : g_co (gX b) 215 124 = some (.ireturn) := rfl
theorem y_215_125 {b : Bool} : g_co (gX b) 215 125 = some (.iload_n 2) := rfl
theorem y_215_126 {b : Bool} : g_co (gX b) 215 126 = some (.iload_n 3) := rfl
theorem y_215_127 {b : Bool} : g_co (gX b) 215 127 = some (.iand) := rfl
theorem y_215_128 {b : Bool} : g_co (gX b) 215 128 = some (.ireturn) := rfl
theorem y_215_129 {b : Bool} : g_co (gX b) 215 129 = some (.iload_n 2) := rfl
theorem y_215_130 {b : Bool} : g_co (gX b) 215 130 = some (.iload_n 3) := rfl
theorem y_215_131 {b : Bool} : g_co (gX b) 215 131 = some (.ior) := rfl
theorem y_215_132 {b : Bool} : g_co (gX b) 215 132 = some (.ireturn) := rfl
theorem yn_215_146 {b : Bool} : g_ml (gX b) 215 146 = none := rfl
theorem yz_215_146 {b : Bool} : g_nt (gX b) 215 146 = 3 := rfl
theorem yn_215_132 {b : Bool} : g_ml (gX b) 215 132 = none := rfl
theorem yz_215_132 {b : Bool} : g_nt (gX b) 215 132 = 2 := rfl
theorem yx_216 {b : Bool} : g_mx (gX b) 216 = 4 := rfl
theorem yt_216 {b : Bool} : g_rt (gX b) 216 = 2 := rfl
theorem y_216_0 {b : Bool} : g_co (gX b) 216 0 = some (.iload_n 2) := rfl
theorem y_216_1 {b : Bool} : g_co (gX b) 216 1 = some (.tableswitch 228 18 27 #[55, 228, 228, 228, 228, 79, 89, 143, 165, 226]) := rfl
theorem y_216_56 {b : Bool} : g_co (gX b) 216 56 = some (.aload_n 0) := rfl
theorem y_216_57 {b : Bool} : g_co (gX b) 216 57 = some (.dup) := rfl
theorem y_216_58 {b : Bool} : g_co (gX b) 216 58 = some (.getfield 19) := rfl
theorem y_216_61 {b : Bool} : g_co (gX b) 216 61 = some (.iconst 1) := rfl
theorem y_216_62 {b : Bool} : g_co (gX b) 216 62 = some (.iload_n 3) := rfl
theorem y_216_63 {b : Bool} : g_co (gX b) 216 63 = some (.ishl) := rfl
theorem y_216_64 {b : Bool} : g_co (gX b) 216 64 = some (.ior) := rfl
theorem y_216_65 {b : Bool} : g_co (gX b) 216 65 = some (.putfield 19) := rfl
theorem y_216_68 {b : Bool} : g_co (gX b) 216 68 = some (.aload_n 1) := rfl
theorem y_216_69 {b : Bool} : g_co (gX b) 216 69 = some (.getfield 97) := rfl
theorem y_216_72 {b : Bool} : g_co (gX b) 216 72 = some (.iload_n 3) := rfl
theorem y_216_73 {b : Bool} : g_co (gX b) 216 73 = some (.aload_n 0) := rfl
theorem y_216_74 {b : Bool} : g_co (gX b) 216 74 = some (.invokevirtual 129) := rfl
theorem y_216_77 {b : Bool} : g_co (gX b) 216 77 = some (.iastore) := rfl
theorem y_216_78 {b : Bool} : g_co (gX b) 216 78 = some (.iconst 1) := rfl
theorem y_216_79 {b : Bool} : g_co (gX b) 216 79 = some (.ireturn) := rfl
theorem y_216_80 {b : Bool} : g_co (gX b) 216 80 = some (.aload_n 1) := rfl
theorem y_216_81 {b : Bool} : g_co (gX b) 216 81 = some (.iload_n 3) := rfl
theorem y_216_82 {b : Bool} : g_co (gX b) 216 82 = some (.aload_n 0) := rfl
theorem y_216_83 {b : Bool} : g_co (gX b) 216 83 = some (.getfield 31) := rfl
theorem y_216_86 {b : Bool} : g_co (gX b) 216 86 = some (.invokevirtual 149) := rfl
theorem y_216_89 {b : Bool} : g_co (gX b) 216 89 = some (.ireturn) := rfl
theorem y_216_90 {b : Bool} : g_co (gX b) 216 90 = some (.aload_n 0) := rfl
theorem y_216_91 {b : Bool} : g_co (gX b) 216 91 = some (.getfield 37) := rfl
theorem y_216_94 {b : Bool} : g_co (gX b) 216 94 = some (.getfield 153) := rfl
theorem y_216_97 {b : Bool} : g_co (gX b) 216 97 = some (.iload_n 3) := rfl
theorem y_216_98 {b : Bool} : g_co (gX b) 216 98 = some (.ishr) := rfl
theorem y_216_99 {b : Bool} : g_co (gX b) 216 99 = some (.iconst 1) := rfl
theorem y_216_100 {b : Bool} : g_co (gX b) 216 100 = some (.iand) := rfl
theorem y_216_101 {b : Bool} : g_co (gX b) 216 101 = some (.ifCond .eq 8) := rfl
theorem y_216_104 {b : Bool} : g_co (gX b) 216 104 = some (.aload_n 1) := rfl
theorem y_216_105 {b : Bool} : g_co (gX b) 216 105 = some (.iload_n 3) := rfl
theorem y_216_106 {b : Bool} : g_co (gX b) 216 106 = some (.invokevirtual 156) := rfl
theorem y_216_109 {b : Bool} : g_co (gX b) 216 109 = some (.aload_n 1) := rfl
theorem y_216_110 {b : Bool} : g_co (gX b) 216 110 = some (.iload_n 3) := rfl
theorem y_216_111 {b : Bool} : g_co (gX b) 216 111 = some (.aload_n 0) := rfl
theorem y_216_112 {b : Bool} : g_co (gX b) 216 112 = some (.invokevirtual 129) := rfl
theorem y_216_115 {b : Bool} : g_co (gX b) 216 115 = some (.aload_n 0) := rfl
theorem y_216_116 {b : Bool} : g_co (gX b) 216 116 = some (.getfield 31) := rfl
theorem y_216_119 {b : Bool} : g_co (gX b) 216 119 = some (.invokevirtual 159) := rfl
theorem y_216_122 {b : Bool} : g_co (gX b) 216 122 = some (.ifCond .ne 5) := rfl
theorem y_216_125 {b : Bool} : g_co (gX b) 216 125 = some (.iconst 0) := rfl
theorem y_216_126 {b : Bool} : g_co (gX b) 216 126 = some (.ireturn) := rfl
theorem y_216_127 {b : Bool} : g_co (gX b) 216 127 = some (.aload_n 0) := rfl
theorem y_216_128 {b : Bool} : g_co (gX b) 216 128 = some (.dup) := rfl
theorem y_216_129 {b : Bool} : g_co (gX b) 216 129 = some (.getfield 19) := rfl
theorem y_216_132 {b : Bool} : g_co (gX b) 216 132 = some (.iconst 1) := rfl
theorem y_216_133 {b : Bool} : g_co (gX b) 216 133 = some (.bipush 20) := rfl
theorem y_216_135 {b : Bool} : g_co (gX b) 216 135 = some (.iload_n 3) := rfl
theorem y_216_136 {b : Bool} : g_co (gX b) 216 136 = some (.iadd) := rfl
theorem y_216_137 {b : Bool} : g_co (gX b) 216 137 = some (.ishl) := rfl
theorem y_216_138 {b : Bool} : g_co (gX b) 216 138 = some (.ior) := rfl
theorem y_216_139 {b : Bool} : g_co (gX b) 216 139 = some (.putfield 19) := rfl
theorem y_216_142 {b : Bool} : g_co (gX b) 216 142 = some (.iconst 1) := rfl
theorem y_216_143 {b : Bool} : g_co (gX b) 216 143 = some (.ireturn) := rfl
theorem y_216_144 {b : Bool} : g_co (gX b) 216 144 = some (.aload_n 0) := rfl
theorem y_216_145 {b : Bool} : g_co (gX b) 216 145 = some (.dup) := rfl
theorem y_216_146 {b : Bool} : g_co (gX b) 216 146 = some (.getfield 19) := rfl
theorem y_216_149 {b : Bool} : g_co (gX b) 216 149 = some (.iconst 1) := rfl
theorem y_216_150 {b : Bool} : g_co (gX b) 216 150 = some (.bipush 20) := rfl
theorem y_216_152 {b : Bool} : g_co (gX b) 216 152 = some (.iload_n 3) := rfl
theorem y_216_153 {b : Bool} : g_co (gX b) 216 153 = some (.iadd) := rfl
theorem y_216_154 {b : Bool} : g_co (gX b) 216 154 = some (.ishl) := rfl
theorem y_216_155 {b : Bool} : g_co (gX b) 216 155 = some (.ior) := rfl
theorem y_216_156 {b : Bool} : g_co (gX b) 216 156 = some (.putfield 19) := rfl
theorem y_216_159 {b : Bool} : g_co (gX b) 216 159 = some (.aload_n 1) := rfl
theorem y_216_160 {b : Bool} : g_co (gX b) 216 160 = some (.iload_n 3) := rfl
theorem y_216_161 {b : Bool} : g_co (gX b) 216 161 = some (.invokevirtual 156) := rfl
theorem y_216_164 {b : Bool} : g_co (gX b) 216 164 = some (.iconst 1) := rfl
theorem y_216_165 {b : Bool} : g_co (gX b) 216 165 = some (.ireturn) := rfl
theorem y_216_166 {b : Bool} : g_co (gX b) 216 166 = some (.aload_n 0) := rfl
theorem y_216_167 {b : Bool} : g_co (gX b) 216 167 = some (.dup) := rfl
theorem y_216_168 {b : Bool} : g_co (gX b) 216 168 = some (.getfield 19) := rfl
theorem y_216_171 {b : Bool} : g_co (gX b) 216 171 = some (.iconst 1) := rfl
theorem y_216_172 {b : Bool} : g_co (gX b) 216 172 = some (.bipush 16) := rfl
theorem y_216_174 {b : Bool} : g_co (gX b) 216 174 = some (.iload_n 3) := rfl
theorem y_216_175 {b : Bool} : g_co (gX b) 216 175 = some (.iadd) := rfl
theorem y_216_176 {b : Bool} : g_co (gX b) 216 176 = some (.ishl) := rfl
theorem y_216_177 {b : Bool} : g_co (gX b) 216 177 = some (.ior) := rfl
theorem y_216_178 {b : Bool} : g_co (gX b) 216 178 = some (.putfield 19) := rfl
theorem y_216_181 {b : Bool} : g_co (gX b) 216 181 = some (.aload_n 0) := rfl
theorem y_216_182 {b : Bool} : g_co (gX b) 216 182 = some (.dup) := rfl
theorem y_216_183 {b : Bool} : g_co (gX b) 216 183 = some (.getfield 25) := rfl
theorem y_216_186 {b : Bool} : g_co (gX b) 216 186 = some (.aload_n 0) := rfl
theorem y_216_187 {b : Bool} : g_co (gX b) 216 187 = some (.getfield 22) := rfl
theorem y_216_190 {b : Bool} : g_co (gX b) 216 190 = some (.iload_n 3) := rfl
theorem y_216_191 {b : Bool} : g_co (gX b) 216 191 = some (.ishr) := rfl
theorem y_216_192 {b : Bool} : g_co (gX b) 216 192 = some (.iconst 1) := rfl
theorem y_216_193 {b : Bool} : g_co (gX b) 216 193 = some (.iand) := rfl
theorem y_216_194 {b : Bool} : g_co (gX b) 216 194 = some (.iadd) := rfl
theorem y_216_195 {b : Bool} : g_co (gX b) 216 195 = some (.putfield 25) := rfl
theorem y_216_198 {b : Bool} : g_co (gX b) 216 198 = some (.aload_n 0) := rfl
theorem y_216_199 {b : Bool} : g_co (gX b) 216 199 = some (.dup) := rfl
theorem y_216_200 {b : Bool} : g_co (gX b) 216 200 = some (.getfield 22) := rfl
theorem y_216_203 {b : Bool} : g_co (gX b) 216 203 = some (.iconst 1) := rfl
theorem y_216_204 {b : Bool} : g_co (gX b) 216 204 = some (.iload_n 3) := rfl
theorem y_216_205 {b : Bool} : g_co (gX b) 216 205 = some (.ishl) := rfl
theorem y_216_206 {b : Bool} : g_co (gX b) 216 206 = some (.iconst (-1)) := rfl
theorem y_216_207 {b : Bool} : g_co (gX b) 216 207 = some (.ixor) := rfl
theorem y_216_208 {b : Bool} : g_co (gX b) 216 208 = some (.iand) := rfl
theorem y_216_209 {b : Bool} : g_co (gX b) 216 209 = some (.putfield 22) := rfl
theorem y_216_212 {b : Bool} : g_co (gX b) 216 212 = some (.aload_n 1) := rfl
theorem y_216_213 {b : Bool} : g_co (gX b) 216 213 = some (.getfield 97) := rfl
theorem y_216_216 {b : Bool} : g_co (gX b) 216 216 = some (.bipush 10) := rfl
theorem y_216_218 {b : Bool} : g_co (gX b) 216 218 = some (.iload_n 3) := rfl
theorem y_216_219 {b : Bool} : g_co (gX b) 216 219 = some (.iadd) := rfl
theorem y_216_220 {b : Bool} : g_co (gX b) 216 220 = some (.aload_n 0) := rfl
theorem y_216_221 {b : Bool} : g_co (gX b) 216 221 = some (.invokevirtual 129) := rfl
theorem y_216_224 {b : Bool} : g_co (gX b) 216 224 = some (.iastore) := rfl
theorem y_216_225 {b : Bool} : g_co (gX b) 216 225 = some (.iconst 1) := rfl
theorem y_216_226 {b : Bool} : g_co (gX b) 216 226 = some (.ireturn) := rfl
theorem y_216_227 {b : Bool} : g_co (gX b) 216 227 = some (.iconst 0) := rfl
theorem y_216_228 {b : Bool} : g_co (gX b) 216 228 = some (.ireturn) := rfl
theorem y_216_229 {b : Bool} : g_co (gX b) 216 229 = some (.aload_n 0) := rfl
theorem y_216_230 {b : Bool} : g_co (gX b) 216 230 = some (.aload_n 1) := rfl
theorem y_216_231 {b : Bool} : g_co (gX b) 216 231 = some (.iload_n 2) := rfl
theorem y_216_232 {b : Bool} : g_co (gX b) 216 232 = some (.iload_n 3) := rfl
theorem y_216_233 {b : Bool} : g_co (gX b) 216 233 = some (.invokevirtual 163) := rfl
theorem y_216_236 {b : Bool} : g_co (gX b) 216 236 = some (.iconst 1) := rfl
theorem y_216_237 {b : Bool} : g_co (gX b) 216 237 = some (.ireturn) := rfl
theorem yf_216_19 {b : Bool} : g_fl (gX b) 216 19 = some (1, 4, 0) := rfl
theorem yf_216_97 {b : Bool} : g_fl (gX b) 216 97 = some (3, 0, 9) := rfl
theorem ym_216_129 {b : Bool} : g_ml (gX b) 216 129 = some (0, 218, 0, 1) := rfl
theorem yf_216_31 {b : Bool} : g_fl (gX b) 216 31 = some (1, 8, 0) := rfl
theorem ym_216_149 {b : Bool} : g_ml (gX b) 216 149 = some (0, 239, 2, 3) := rfl
theorem yf_216_37 {b : Bool} : g_fl (gX b) 216 37 = some (1, 0, 9) := rfl
theorem yf_216_153 {b : Bool} : g_fl (gX b) 216 153 = some (0, 8, 0) := rfl
theorem ym_216_156 {b : Bool} : g_ml (gX b) 216 156 = some (0, 236, 1, 3) := rfl
theorem ym_216_159 {b : Bool} : g_ml (gX b) 216 159 = some (0, 235, 3, 3) := rfl
theorem yf_216_25 {b : Bool} : g_fl (gX b) 216 25 = some (1, 6, 0) := rfl
theorem yf_216_22 {b : Bool} : g_fl (gX b) 216 22 = some (1, 5, 0) := rfl
theorem ym_216_163 {b : Bool} : g_ml (gX b) 216 163 = some (0, 217, 3, 1) := rfl
theorem yx_217 {b : Bool} : g_mx (gX b) 217 = 5 := rfl
theorem yt_217 {b : Bool} : g_rt (gX b) 217 = 0 := rfl
theorem y_217_0 {b : Bool} : g_co (gX b) 217 0 = some (.iconst 1) := rfl
theorem y_217_1 {b : Bool} : g_co (gX b) 217 1 = some (.iload_n 3) := rfl
theorem y_217_2 {b : Bool} : g_co (gX b) 217 2 = some (.ishl) := rfl
theorem y_217_3 {b : Bool} : g_co (gX b) 217 3 = some (.istore 4) := rfl
theorem y_217_5 {b : Bool} : g_co (gX b) 217 5 = some (.aload_n 0) := rfl
theorem y_217_6 {b : Bool} : g_co (gX b) 217 6 = some (.dup) := rfl
theorem y_217_7 {b : Bool} : g_co (gX b) 217 7 = some (.getfield 19) := rfl
theorem y_217_10 {b : Bool} : g_co (gX b) 217 10 = some (.iload 4) := rfl
theorem y_217_12 {b : Bool} : g_co (gX b) 217 12 = some (.bipush 8) := rfl
theorem y_217_14 {b : Bool} : g_co (gX b) 217 14 = some (.ishl) := rfl
theorem y_217_15 {b : Bool} : g_co (gX b) 217 15 = some (.ior) := rfl
theorem y_217_16 {b : Bool} : g_co (gX b) 217 16 = some (.putfield 19) := rfl
theorem y_217_19 {b : Bool} : g_co (gX b) 217 19 = some (.iload_n 2) := rfl
theorem y_217_20 {b : Bool} : g_co (gX b) 217 20 = some (.bipush 19) := rfl
theorem y_217_22 {b : Bool} : g_co (gX b) 217 22 = some (.if_icmp .ne 18) := rfl
theorem y_217_25 {b : Bool} : g_co (gX b) 217 25 = some (.aload_n 1) := rfl
theorem y_217_26 {b : Bool} : g_co (gX b) 217 26 = some (.getfield 97) := rfl
theorem y_217_29 {b : Bool} : g_co (gX b) 217 29 = some (.bipush 8) := rfl
theorem y_217_31 {b : Bool} : g_co (gX b) 217 31 = some (.dup2) := rfl
theorem y_217_32 {b : Bool} : g_co (gX b) 217 32 = some (.iaload) := rfl
theorem y_217_33 {b : Bool} : g_co (gX b) 217 33 = some (.iload 4) := rfl
theorem y_217_35 {b : Bool} : g_co (gX b) 217 35 = some (.ior) := rfl
theorem y_217_36 {b : Bool} : g_co (gX b) 217 36 = some (.iastore) := rfl
theorem y_217_37 {b : Bool} : g_co (gX b) 217 37 = some (.goto 61) := rfl
theorem y_217_40 {b : Bool} : g_co (gX b) 217 40 = some (.iload_n 2) := rfl
theorem y_217_41 {b : Bool} : g_co (gX b) 217 41 = some (.bipush 20) := rfl
theorem y_217_43 {b : Bool} : g_co (gX b) 217 43 = some (.if_icmp .ne 20) := rfl
theorem y_217_46 {b : Bool} : g_co (gX b) 217 46 = some (.aload_n 1) := rfl
theorem y_217_47 {b : Bool} : g_co (gX b) 217 47 = some (.getfield 97) := rfl
theorem y_217_50 {b : Bool} : g_co (gX b) 217 50 = some (.bipush 8) := rfl
theorem y_217_52 {b : Bool} : g_co (gX b) 217 52 = some (.dup2) := rfl
theorem y_217_53 {b : Bool} : g_co (gX b) 217 53 = some (.iaload) := rfl
theorem y_217_54 {b : Bool} : g_co (gX b) 217 54 = some (.iload 4) := rfl
theorem y_217_56 {b : Bool} : g_co (gX b) 217 56 = some (.iconst (-1)) := rfl
theorem y_217_57 {b : Bool} : g_co (gX b) 217 57 = some (.ixor) := rfl
theorem y_217_58 {b : Bool} : g_co (gX b) 217 58 = some (.iand) := rfl
theorem y_217_59 {b : Bool} : g_co (gX b) 217 59 = some (.iastore) := rfl
theorem y_217_60 {b : Bool} : g_co (gX b) 217 60 = some (.goto 38) := rfl
theorem y_217_63 {b : Bool} : g_co (gX b) 217 63 = some (.iload_n 2) := rfl
theorem y_217_64 {b : Bool} : g_co (gX b) 217 64 = some (.bipush 21) := rfl
theorem y_217_66 {b : Bool} : g_co (gX b) 217 66 = some (.if_icmp .ne 18) := rfl
theorem y_217_69 {b : Bool} : g_co (gX b) 217 69 = some (.aload_n 1) := rfl
theorem y_217_70 {b : Bool} : g_co (gX b) 217 70 = some (.getfield 97) := rfl
theorem y_217_73 {b : Bool} : g_co (gX b) 217 73 = some (.bipush 9) := rfl
theorem y_217_75 {b : Bool} : g_co (gX b) 217 75 = some (.dup2) := rfl
theorem y_217_76 {b : Bool} : g_co (gX b) 217 76 = some (.iaload) := rfl
theorem y_217_77 {b : Bool} : g_co (gX b) 217 77 = some (.iload 4) := rfl
theorem y_217_79 {b : Bool} : g_co (gX b) 217 79 = some (.ior) := rfl
theorem y_217_80 {b : Bool} : g_co (gX b) 217 80 = some (.iastore) := rfl
theorem y_217_81 {b : Bool} : g_co (gX b) 217 81 = some (.goto 17) := rfl
theorem y_217_84 {b : Bool} : g_co (gX b) 217 84 = some (.aload_n 1) := rfl
theorem y_217_85 {b : Bool} : g_co (gX b) 217 85 = some (.getfield 97) := rfl
theorem y_217_88 {b : Bool} : g_co (gX b) 217 88 = some (.bipush 9) := rfl
theorem y_217_90 {b : Bool} : g_co (gX b) 217 90 = some (.dup2) := rfl
theorem y_217_91 {b : Bool} : g_co (gX b) 217 91 = some (.iaload) := rfl
theorem y_217_92 {b : Bool} : g_co (gX b) 217 92 = some (.iload 4) := rfl
theorem y_217_94 {b : Bool} : g_co (gX b) 217 94 = some (.iconst (-1)) := rfl
theorem y_217_95 {b : Bool} : g_co (gX b) 217 95 = some (.ixor) := rfl
theorem y_217_96 {b : Bool} : g_co (gX b) 217 96 = some (.iand) := rfl
theorem y_217_97 {b : Bool} : g_co (gX b) 217 97 = some (.iastore) := rfl
theorem y_217_98 {b : Bool} : g_co (gX b) 217 98 = some (.return_) := rfl
theorem yf_217_19 {b : Bool} : g_fl (gX b) 217 19 = some (1, 4, 0) := rfl
theorem yf_217_97 {b : Bool} : g_fl (gX b) 217 97 = some (3, 0, 9) := rfl
theorem yx_218 {b : Bool} : g_mx (gX b) 218 = 1 := rfl
theorem yt_218 {b : Bool} : g_rt (gX b) 218 = 1 := rfl
theorem y_218_0 {b : Bool} : g_co (gX b) 218 0 = some (.aload_n 0) := rfl
theorem y_218_1 {b : Bool} : g_co (gX b) 218 1 = some (.getfield 34) := rfl
theorem y_218_4 {b : Bool} : g_co (gX b) 218 4 = some (.ifCond .le 12) := rfl
theorem y_218_7 {b : Bool} : g_co (gX b) 218 7 = some (.aload_n 0) := rfl
theorem y_218_8 {b : Bool} : g_co (gX b) 218 8 = some (.getfield 34) := rfl
theorem y_218_11 {b : Bool} : g_co (gX b) 218 11 = some (.bipush 64) := rfl
theorem y_218_13 {b : Bool} : g_co (gX b) 218 13 = some (.if_icmp .le 5) := rfl
theorem y_218_16 {b : Bool} : g_co (gX b) 218 16 = some (.iconst 0) := rfl
theorem y_218_17 {b : Bool} : g_co (gX b) 218 17 = some (.ireturn) := rfl
theorem y_218_18 {b : Bool} : g_co (gX b) 218 18 = some (.aload_n 0) := rfl
theorem y_218_19 {b : Bool} : g_co (gX b) 218 19 = some (.dup) := rfl
theorem y_218_20 {b : Bool} : g_co (gX b) 218 20 = some (.getfield 34) := rfl
theorem y_218_23 {b : Bool} : g_co (gX b) 218 23 = some (.iconst 1) := rfl
theorem y_218_24 {b : Bool} : g_co (gX b) 218 24 = some (.isub) := rfl
theorem y_218_25 {b : Bool} : g_co (gX b) 218 25 = some (.putfield 34) := rfl
theorem y_218_28 {b : Bool} : g_co (gX b) 218 28 = some (.aload_n 0) := rfl
theorem y_218_29 {b : Bool} : g_co (gX b) 218 29 = some (.getfield 11) := rfl
theorem y_218_32 {b : Bool} : g_co (gX b) 218 32 = some (.aload_n 0) := rfl
theorem y_218_33 {b : Bool} : g_co (gX b) 218 33 = some (.getfield 34) := rfl
theorem y_218_36 {b : Bool} : g_co (gX b) 218 36 = some (.iaload) := rfl
theorem y_218_37 {b : Bool} : g_co (gX b) 218 37 = some (.ireturn) := rfl
theorem yf_218_34 {b : Bool} : g_fl (gX b) 218 34 = some (1, 9, 0) := rfl
theorem yf_218_11 {b : Bool} : g_fl (gX b) 218 11 = some (1, 1, 9) := rfl
theorem yx_219 {b : Bool} : g_mx (gX b) 219 = 2 := rfl
theorem yt_219 {b : Bool} : g_rt (gX b) 219 = 0 := rfl
theorem y_219_0 {b : Bool} : g_co (gX b) 219 0 = some (.iconst 0) := rfl
theorem y_219_1 {b : Bool} : g_co (gX b) 219 1 = some (.istore_n 1) := rfl
theorem y_219_2 {b : Bool} : g_co (gX b) 219 2 = some (.iload_n 1) := rfl
theorem y_219_3 {b : Bool} : g_co (gX b) 219 3 = some (.aload_n 0) := rfl
theorem y_219_4 {b : Bool} : g_co (gX b) 219 4 = some (.getfield 9) := rfl
theorem y_219_7 {b : Bool} : g_co (gX b) 219 7 = some (.if_icmp .ge 21) := rfl
theorem y_219_10 {b : Bool} : g_co (gX b) 219 10 = some (.aload_n 0) := rfl
theorem y_219_11 {b : Bool} : g_co (gX b) 219 11 = some (.getfield 22) := rfl
theorem y_219_14 {b : Bool} : g_co (gX b) 219 14 = some (.aload_n 0) := rfl
theorem y_219_15 {b : Bool} : g_co (gX b) 219 15 = some (.getfield 25) := rfl
theorem y_219_18 {b : Bool} : g_co (gX b) 219 18 = some (.iload_n 1) := rfl
theorem y_219_19 {b : Bool} : g_co (gX b) 219 19 = some (.iaload) := rfl
theorem y_219_20 {b : Bool} : g_co (gX b) 219 20 = some (.iconst 0) := rfl
theorem y_219_21 {b : Bool} : g_co (gX b) 219 21 = some (.iastore) := rfl
theorem y_219_22 {b : Bool} : g_co (gX b) 219 22 = some (.iinc 1 1) := rfl
theorem y_219_25 {b : Bool} : g_co (gX b) 219 25 = some (.goto (-23)) := rfl
theorem y_219_28 {b : Bool} : g_co (gX b) 219 28 = some (.aload_n 0) := rfl
theorem y_219_29 {b : Bool} : g_co (gX b) 219 29 = some (.iconst 0) := rfl
theorem y_219_30 {b : Bool} : g_co (gX b) 219 30 = some (.putfield 9) := rfl
theorem y_219_33 {b : Bool} : g_co (gX b) 219 33 = some (.return_) := rfl
theorem yf_219_9 {b : Bool} : g_fl (gX b) 219 9 = some (2, 0, 0) := rfl
theorem yf_219_22 {b : Bool} : g_fl (gX b) 219 22 = some (2, 2, 9) := rfl
theorem yf_219_25 {b : Bool} : g_fl (gX b) 219 25 = some (2, 3, 9) := rfl
theorem yx_220 {b : Bool} : g_mx (gX b) 220 = 4 := rfl
theorem yt_220 {b : Bool} : g_rt (gX b) 220 = 1 := rfl
theorem y_220_0 {b : Bool} : g_co (gX b) 220 0 = some (.aload_n 0) := rfl
theorem y_220_1 {b : Bool} : g_co (gX b) 220 1 = some (.aload_n 1) := rfl
theorem y_220_2 {b : Bool} : g_co (gX b) 220 2 = some (.invokevirtual 34) := rfl
theorem y_220_5 {b : Bool} : g_co (gX b) 220 5 = some (.ifCond .eq 8) := rfl
theorem y_220_8 {b : Bool} : g_co (gX b) 220 8 = some (.bipush 20) := rfl
theorem y_220_10 {b : Bool} : g_co (gX b) 220 10 = some (.goto 5) := rfl
theorem y_220_13 {b : Bool} : g_co (gX b) 220 13 = some (.bipush 35) := rfl
theorem y_220_15 {b : Bool} : g_co (gX b) 220 15 = some (.putfield 31) := rfl
theorem y_220_18 {b : Bool} : g_co (gX b) 220 18 = some (.aload_n 0) := rfl
theorem y_220_19 {b : Bool} : g_co (gX b) 220 19 = some (.aload_n 0) := rfl
theorem y_220_20 {b : Bool} : g_co (gX b) 220 20 = some (.aload_n 1) := rfl
theorem y_220_21 {b : Bool} : g_co (gX b) 220 21 = some (.invokevirtual 38) := rfl
theorem y_220_24 {b : Bool} : g_co (gX b) 220 24 = some (.putfield 28) := rfl
theorem y_220_27 {b : Bool} : g_co (gX b) 220 27 = some (.iconst 0) := rfl
theorem y_220_28 {b : Bool} : g_co (gX b) 220 28 = some (.istore_n 2) := rfl
theorem y_220_29 {b : Bool} : g_co (gX b) 220 29 = some (.iload_n 2) := rfl
theorem y_220_30 {b : Bool} : g_co (gX b) 220 30 = some (.sipush 8192) := rfl
theorem y_220_33 {b : Bool} : g_co (gX b) 220 33 = some (.if_icmp .ge 52) := rfl
theorem y_220_36 {b : Bool} : g_co (gX b) 220 36 = some (.aload_n 0) := rfl
theorem y_220_37 {b : Bool} : g_co (gX b) 220 37 = some (.getfield 22) := rfl
theorem y_220_40 {b : Bool} : g_co (gX b) 220 40 = some (.aload_n 0) := rfl
theorem y_220_41 {b : Bool} : g_co (gX b) 220 41 = some (.getfield 28) := rfl
theorem y_220_44 {b : Bool} : g_co (gX b) 220 44 = some (.iaload) := rfl
theorem y_220_45 {b : Bool} : g_co (gX b) 220 45 = some (.iconst 1) := rfl
theorem y_220_46 {b : Bool} : g_co (gX b) 220 46 = some (.isub) := rfl
theorem y_220_47 {b : Bool} : g_co (gX b) 220 47 = some (.istore_n 3) := rfl
theorem y_220_48 {b : Bool} : g_co (gX b) 220 48 = some (.iload_n 3) := rfl
theorem y_220_49 {b : Bool} : g_co (gX b) 220 49 = some (.ifCond .ge 5) := rfl
theorem y_220_52 {b : Bool} : g_co (gX b) 220 52 = some (.iconst (-1)) := rfl
theorem y_220_53 {b : Bool} : g_co (gX b) 220 53 = some (.ireturn) := rfl
theorem y_220_54 {b : Bool} : g_co (gX b) 220 54 = some (.aload_n 0) := rfl
theorem y_220_55 {b : Bool} : g_co (gX b) 220 55 = some (.iload_n 3) := rfl
theorem y_220_56 {b : Bool} : g_co (gX b) 220 56 = some (.aload_n 1) := rfl
theorem y_220_57 {b : Bool} : g_co (gX b) 220 57 = some (.invokevirtual 42) := rfl
theorem y_220_60 {b : Bool} : g_co (gX b) 220 60 = some (.ifCond .eq 5) := rfl
theorem y_220_63 {b : Bool} : g_co (gX b) 220 63 = some (.iload_n 3) := rfl
theorem y_220_64 {b : Bool} : g_co (gX b) 220 64 = some (.ireturn) := rfl
theorem y_220_65 {b : Bool} : g_co (gX b) 220 65 = some (.aload_n 0) := rfl
theorem y_220_66 {b : Bool} : g_co (gX b) 220 66 = some (.aload_n 0) := rfl
theorem y_220_67 {b : Bool} : g_co (gX b) 220 67 = some (.getfield 28) := rfl
theorem y_220_70 {b : Bool} : g_co (gX b) 220 70 = some (.iconst 1) := rfl
theorem y_220_71 {b : Bool} : g_co (gX b) 220 71 = some (.iadd) := rfl
theorem y_220_72 {b : Bool} : g_co (gX b) 220 72 = some (.sipush 8191) := rfl
theorem y_220_75 {b : Bool} : g_co (gX b) 220 75 = some (.iand) := rfl
theorem y_220_76 {b : Bool} : g_co (gX b) 220 76 = some (.putfield 28) := rfl
theorem y_220_79 {b : Bool} : g_co (gX b) 220 79 = some (.iinc 2 1) := rfl
theorem y_220_82 {b : Bool} : g_co (gX b) 220 82 = some (.goto (-53)) := rfl
theorem y_220_85 {b : Bool} : g_co (gX b) 220 85 = some (.iconst (-1)) := rfl
theorem y_220_86 {b : Bool} : g_co (gX b) 220 86 = some (.ireturn) := rfl
theorem ym_220_34 {b : Bool} : g_ml (gX b) 220 34 = some (0, 234, 0, 3) := rfl
theorem yf_220_31 {b : Bool} : g_fl (gX b) 220 31 = some (2, 5, 0) := rfl
theorem ym_220_38 {b : Bool} : g_ml (gX b) 220 38 = some (0, 224, 1, 2) := rfl
theorem yf_220_28 {b : Bool} : g_fl (gX b) 220 28 = some (2, 4, 0) := rfl
theorem yf_220_22 {b : Bool} : g_fl (gX b) 220 22 = some (2, 2, 9) := rfl
theorem ym_220_42 {b : Bool} : g_ml (gX b) 220 42 = some (0, 223, 2, 2) := rfl
theorem yx_221 {b : Bool} : g_mx (gX b) 221 = 2 := rfl
theorem yt_221 {b : Bool} : g_rt (gX b) 221 = 1 := rfl
theorem y_221_0 {b : Bool} : g_co (gX b) 221 0 = some (.aload_n 0) := rfl
theorem y_221_1 {b : Bool} : g_co (gX b) 221 1 = some (.getfield 9) := rfl
theorem y_221_4 {b : Bool} : g_co (gX b) 221 4 = some (.sipush 2048) := rfl
theorem y_221_7 {b : Bool} : g_co (gX b) 221 7 = some (.if_icmp .ge 15) := rfl
theorem y_221_10 {b : Bool} : g_co (gX b) 221 10 = some (.aload_n 0) := rfl
theorem y_221_11 {b : Bool} : g_co (gX b) 221 11 = some (.getfield 22) := rfl
theorem y_221_14 {b : Bool} : g_co (gX b) 221 14 = some (.aload_n 0) := rfl
theorem y_221_15 {b : Bool} : g_co (gX b) 221 15 = some (.getfield 28) := rfl
theorem y_221_18 {b : Bool} : g_co (gX b) 221 18 = some (.iaload) := rfl
theorem y_221_19 {b : Bool} : g_co (gX b) 221 19 = some (.ifCond .eq 5) := rfl
theorem y_221_22 {b : Bool} : g_co (gX b) 221 22 = some (.iconst (-1)) := rfl
theorem y_221_23 {b : Bool} : g_co (gX b) 221 23 = some (.ireturn) := rfl
theorem y_221_24 {b : Bool} : g_co (gX b) 221 24 = some (.aload_n 1) := rfl
theorem y_221_25 {b : Bool} : g_co (gX b) 221 25 = some (.getfield 46) := rfl
theorem y_221_28 {b : Bool} : g_co (gX b) 221 28 = some (.iconst 0) := rfl
theorem y_221_29 {b : Bool} : g_co (gX b) 221 29 = some (.aload_n 0) := rfl
theorem y_221_30 {b : Bool} : g_co (gX b) 221 30 = some (.getfield 18) := rfl
theorem y_221_33 {b : Bool} : g_co (gX b) 221 33 = some (.aload_n 0) := rfl
theorem y_221_34 {b : Bool} : g_co (gX b) 221 34 = some (.getfield 9) := rfl
theorem y_221_37 {b : Bool} : g_co (gX b) 221 37 = some (.bipush 35) := rfl
theorem y_221_39 {b : Bool} : g_co (gX b) 221 39 = some (.imul) := rfl
theorem y_221_40 {b : Bool} : g_co (gX b) 221 40 = some (.bipush 35) := rfl
theorem y_221_42 {b : Bool} : g_co (gX b) 221 42 = some (.invokestatic 47) := rfl
theorem y_221_45 {b : Bool} : g_co (gX b) 221 45 = some (.aload_n 0) := rfl
theorem y_221_46 {b : Bool} : g_co (gX b) 221 46 = some (.getfield 25) := rfl
theorem y_221_49 {b : Bool} : g_co (gX b) 221 49 = some (.aload_n 0) := rfl
theorem y_221_50 {b : Bool} : g_co (gX b) 221 50 = some (.getfield 9) := rfl
theorem y_221_53 {b : Bool} : g_co (gX b) 221 53 = some (.aload_n 0) := rfl
theorem y_221_54 {b : Bool} : g_co (gX b) 221 54 = some (.getfield 28) := rfl
theorem y_221_57 {b : Bool} : g_co (gX b) 221 57 = some (.iastore) := rfl
theorem y_221_58 {b : Bool} : g_co (gX b) 221 58 = some (.aload_n 0) := rfl
theorem y_221_59 {b : Bool} : g_co (gX b) 221 59 = some (.dup) := rfl
theorem y_221_60 {b : Bool} : g_co (gX b) 221 60 = some (.getfield 9) := rfl
theorem y_221_63 {b : Bool} : g_co (gX b) 221 63 = some (.iconst 1) := rfl
theorem y_221_64 {b : Bool} : g_co (gX b) 221 64 = some (.iadd) := rfl
theorem y_221_65 {b : Bool} : g_co (gX b) 221 65 = some (.putfield 9) := rfl
theorem y_221_68 {b : Bool} : g_co (gX b) 221 68 = some (.aload_n 0) := rfl
theorem y_221_69 {b : Bool} : g_co (gX b) 221 69 = some (.getfield 22) := rfl
theorem y_221_72 {b : Bool} : g_co (gX b) 221 72 = some (.aload_n 0) := rfl
theorem y_221_73 {b : Bool} : g_co (gX b) 221 73 = some (.getfield 28) := rfl
theorem y_221_76 {b : Bool} : g_co (gX b) 221 76 = some (.aload_n 0) := rfl
theorem y_221_77 {b : Bool} : g_co (gX b) 221 77 = some (.getfield 9) := rfl
theorem y_221_80 {b : Bool} : g_co (gX b) 221 80 = some (.iastore) := rfl
theorem y_221_81 {b : Bool} : g_co (gX b) 221 81 = some (.aload_n 0) := rfl
theorem y_221_82 {b : Bool} : g_co (gX b) 221 82 = some (.getfield 9) := rfl
theorem y_221_85 {b : Bool} : g_co (gX b) 221 85 = some (.iconst 1) := rfl
theorem y_221_86 {b : Bool} : g_co (gX b) 221 86 = some (.isub) := rfl
theorem y_221_87 {b : Bool} : g_co (gX b) 221 87 = some (.ireturn) := rfl
theorem yf_221_9 {b : Bool} : g_fl (gX b) 221 9 = some (2, 0, 0) := rfl
theorem yf_221_22 {b : Bool} : g_fl (gX b) 221 22 = some (2, 2, 9) := rfl
theorem yf_221_28 {b : Bool} : g_fl (gX b) 221 28 = some (2, 4, 0) := rfl
theorem yf_221_46 {b : Bool} : g_fl (gX b) 221 46 = some (3, 0, 9) := rfl
theorem yf_221_18 {b : Bool} : g_fl (gX b) 221 18 = some (2, 1, 9) := rfl
theorem yn_221_47 {b : Bool} : g_ml (gX b) 221 47 = none := rfl
theorem yz_221_47 {b : Bool} : g_nt (gX b) 221 47 = 1 := rfl
theorem yf_221_25 {b : Bool} : g_fl (gX b) 221 25 = some (2, 3, 9) := rfl
theorem yx_222 {b : Bool} : g_mx (gX b) 222 = 3 := rfl
theorem yt_222 {b : Bool} : g_rt (gX b) 222 = 0 := rfl
theorem y_222_0 {b : Bool} : g_co (gX b) 222 0 = some (.iload_n 1) := rfl
theorem y_222_1 {b : Bool} : g_co (gX b) 222 1 = some (.ifCond .lt 29) := rfl
theorem y_222_4 {b : Bool} : g_co (gX b) 222 4 = some (.iload_n 1) := rfl
theorem y_222_5 {b : Bool} : g_co (gX b) 222 5 = some (.aload_n 0) := rfl
theorem y_222_6 {b : Bool} : g_co (gX b) 222 6 = some (.getfield 9) := rfl
theorem y_222_9 {b : Bool} : g_co (gX b) 222 9 = some (.if_icmp .ge 21) := rfl
theorem y_222_12 {b : Bool} : g_co (gX b) 222 12 = some (.aload_n 0) := rfl
theorem y_222_13 {b : Bool} : g_co (gX b) 222 13 = some (.getfield 18) := rfl
theorem y_222_16 {b : Bool} : g_co (gX b) 222 16 = some (.iload_n 1) := rfl
theorem y_222_17 {b : Bool} : g_co (gX b) 222 17 = some (.bipush 35) := rfl
theorem y_222_19 {b : Bool} : g_co (gX b) 222 19 = some (.imul) := rfl
theorem y_222_20 {b : Bool} : g_co (gX b) 222 20 = some (.aload_n 2) := rfl
theorem y_222_21 {b : Bool} : g_co (gX b) 222 21 = some (.getfield 46) := rfl
theorem y_222_24 {b : Bool} : g_co (gX b) 222 24 = some (.iconst 0) := rfl
theorem y_222_25 {b : Bool} : g_co (gX b) 222 25 = some (.bipush 35) := rfl
theorem y_222_27 {b : Bool} : g_co (gX b) 222 27 = some (.invokestatic 47) := rfl
theorem y_222_30 {b : Bool} : g_co (gX b) 222 30 = some (.return_) := rfl
theorem yf_222_9 {b : Bool} : g_fl (gX b) 222 9 = some (2, 0, 0) := rfl
theorem yf_222_18 {b : Bool} : g_fl (gX b) 222 18 = some (2, 1, 9) := rfl
theorem yf_222_46 {b : Bool} : g_fl (gX b) 222 46 = some (3, 0, 9) := rfl
theorem yn_222_47 {b : Bool} : g_ml (gX b) 222 47 = none := rfl
theorem yz_222_47 {b : Bool} : g_nt (gX b) 222 47 = 1 := rfl
theorem yx_223 {b : Bool} : g_mx (gX b) 223 = 5 := rfl
theorem yt_223 {b : Bool} : g_rt (gX b) 223 = 2 := rfl
theorem y_223_0 {b : Bool} : g_co (gX b) 223 0 = some (.iload_n 1) := rfl
theorem y_223_1 {b : Bool} : g_co (gX b) 223 1 = some (.bipush 35) := rfl
theorem y_223_3 {b : Bool} : g_co (gX b) 223 3 = some (.imul) := rfl
theorem y_223_4 {b : Bool} : g_co (gX b) 223 4 = some (.istore_n 3) := rfl
theorem y_223_5 {b : Bool} : g_co (gX b) 223 5 = some (.iconst 0) := rfl
theorem y_223_6 {b : Bool} : g_co (gX b) 223 6 = some (.istore 4) := rfl
theorem y_223_8 {b : Bool} : g_co (gX b) 223 8 = some (.iload 4) := rfl
theorem y_223_10 {b : Bool} : g_co (gX b) 223 10 = some (.aload_n 0) := rfl
theorem y_223_11 {b : Bool} : g_co (gX b) 223 11 = some (.getfield 31) := rfl
theorem y_223_14 {b : Bool} : g_co (gX b) 223 14 = some (.if_icmp .ge 30) := rfl
theorem y_223_17 {b : Bool} : g_co (gX b) 223 17 = some (.aload_n 0) := rfl
theorem y_223_18 {b : Bool} : g_co (gX b) 223 18 = some (.getfield 18) := rfl
theorem y_223_21 {b : Bool} : g_co (gX b) 223 21 = some (.iload_n 3) := rfl
theorem y_223_22 {b : Bool} : g_co (gX b) 223 22 = some (.iload 4) := rfl
theorem y_223_24 {b : Bool} : g_co (gX b) 223 24 = some (.iadd) := rfl
theorem y_223_25 {b : Bool} : g_co (gX b) 223 25 = some (.iaload) := rfl
theorem y_223_26 {b : Bool} : g_co (gX b) 223 26 = some (.aload_n 2) := rfl
theorem y_223_27 {b : Bool} : g_co (gX b) 223 27 = some (.getfield 46) := rfl
theorem y_223_30 {b : Bool} : g_co (gX b) 223 30 = some (.iload 4) := rfl
theorem y_223_32 {b : Bool} : g_co (gX b) 223 32 = some (.iaload) := rfl
theorem y_223_33 {b : Bool} : g_co (gX b) 223 33 = some (.if_icmp .eq 5) := rfl
theorem y_223_36 {b : Bool} : g_co (gX b) 223 36 = some (.iconst 0) := rfl
theorem y_223_37 {b : Bool} : g_co (gX b) 223 37 = some (.ireturn) := rfl
theorem y_223_38 {b : Bool} : g_co (gX b) 223 38 = some (.iinc 4 1) := rfl
theorem y_223_41 {b : Bool} : g_co (gX b) 223 41 = some (.goto (-33)) := rfl
theorem y_223_44 {b : Bool} : g_co (gX b) 223 44 = some (.iconst 1) := rfl
theorem y_223_45 {b : Bool} : g_co (gX b) 223 45 = some (.ireturn) := rfl
theorem yf_223_31 {b : Bool} : g_fl (gX b) 223 31 = some (2, 5, 0) := rfl
theorem yf_223_18 {b : Bool} : g_fl (gX b) 223 18 = some (2, 1, 9) := rfl
theorem yf_223_46 {b : Bool} : g_fl (gX b) 223 46 = some (3, 0, 9) := rfl
theorem yx_224 {b : Bool} : g_mx (gX b) 224 = 4 := rfl
theorem yt_224 {b : Bool} : g_rt (gX b) 224 = 1 := rfl
theorem y_224_0 {b : Bool} : g_co (gX b) 224 0 = some (.iconst 0) := rfl
theorem y_224_1 {b : Bool} : g_co (gX b) 224 1 = some (.istore_n 2) := rfl
theorem y_224_2 {b : Bool} : g_co (gX b) 224 2 = some (.iconst 0) := rfl
theorem y_224_3 {b : Bool} : g_co (gX b) 224 3 = some (.istore_n 3) := rfl
theorem y_224_4 {b : Bool} : g_co (gX b) 224 4 = some (.iload_n 3) := rfl
theorem y_224_5 {b : Bool} : g_co (gX b) 224 5 = some (.aload_n 0) := rfl
theorem y_224_6 {b : Bool} : g_co (gX b) 224 6 = some (.getfield 31) := rfl
theorem y_224_9 {b : Bool} : g_co (gX b) 224 9 = some (.if_icmp .ge 21) := rfl
theorem y_224_12 {b : Bool} : g_co (gX b) 224 12 = some (.iload_n 2) := rfl
theorem y_224_13 {b : Bool} : g_co (gX b) 224 13 = some (.bipush 31) := rfl
theorem y_224_15 {b : Bool} : g_co (gX b) 224 15 = some (.imul) := rfl
theorem y_224_16 {b : Bool} : g_co (gX b) 224 16 = some (.aload_n 1) := rfl
theorem y_224_17 {b : Bool} : g_co (gX b) 224 17 = some (.getfield 46) := rfl
theorem y_224_20 {b : Bool} : g_co (gX b) 224 20 = some (.iload_n 3) := rfl
theorem y_224_21 {b : Bool} : g_co (gX b) 224 21 = some (.iaload) := rfl
theorem y_224_22 {b : Bool} : g_co (gX b) 224 22 = some (.iadd) := rfl
theorem y_224_23 {b : Bool} : g_co (gX b) 224 23 = some (.istore_n 2) := rfl
theorem y_224_24 {b : Bool} : g_co (gX b) 224 24 = some (.iinc 3 1) := rfl
theorem y_224_27 {b : Bool} : g_co (gX b) 224 27 = some (.goto (-23)) := rfl
theorem y_224_30 {b : Bool} : g_co (gX b) 224 30 = some (.iload_n 2) := rfl
theorem y_224_31 {b : Bool} : g_co (gX b) 224 31 = some (.ldc 53) := rfl
theorem y_224_33 {b : Bool} : g_co (gX b) 224 33 = some (.imul) := rfl
theorem y_224_34 {b : Bool} : g_co (gX b) 224 34 = some (.istore_n 2) := rfl
theorem y_224_35 {b : Bool} : g_co (gX b) 224 35 = some (.iload_n 2) := rfl
theorem y_224_36 {b : Bool} : g_co (gX b) 224 36 = some (.bipush 19) := rfl
theorem y_224_38 {b : Bool} : g_co (gX b) 224 38 = some (.iushr) := rfl
theorem y_224_39 {b : Bool} : g_co (gX b) 224 39 = some (.sipush 8191) := rfl
theorem y_224_42 {b : Bool} : g_co (gX b) 224 42 = some (.iand) := rfl
theorem y_224_43 {b : Bool} : g_co (gX b) 224 43 = some (.ireturn) := rfl
theorem yf_224_31 {b : Bool} : g_fl (gX b) 224 31 = some (2, 5, 0) := rfl
theorem yf_224_46 {b : Bool} : g_fl (gX b) 224 46 = some (3, 0, 9) := rfl
theorem yc_224_53 {b : Bool} : g_cn (gX b) 224 53 = some (-1640531535) := rfl
theorem yx_225 {b : Bool} : g_mx (gX b) 225 = 1 := rfl
theorem yt_225 {b : Bool} : g_rt (gX b) 225 = 0 := rfl
theorem y_225_0 {b : Bool} : g_co (gX b) 225 0 = some (.aload_n 0) := rfl
theorem y_225_1 {b : Bool} : g_co (gX b) 225 1 = some (.getfield 11) := rfl
theorem y_225_4 {b : Bool} : g_co (gX b) 225 4 = some (.iconst 0) := rfl
theorem y_225_5 {b : Bool} : g_co (gX b) 225 5 = some (.invokestatic 15) := rfl
theorem y_225_8 {b : Bool} : g_co (gX b) 225 8 = some (.aload_n 0) := rfl
theorem y_225_9 {b : Bool} : g_co (gX b) 225 9 = some (.getfield 11) := rfl
theorem y_225_12 {b : Bool} : g_co (gX b) 225 12 = some (.bipush 8) := rfl
theorem y_225_14 {b : Bool} : g_co (gX b) 225 14 = some (.sipush 255) := rfl
theorem y_225_17 {b : Bool} : g_co (gX b) 225 17 = some (.iastore) := rfl
theorem y_225_18 {b : Bool} : g_co (gX b) 225 18 = some (.return_) := rfl
theorem yf_225_11 {b : Bool} : g_fl (gX b) 225 11 = some (3, 0, 9) := rfl
theorem ym_225_15 {b : Bool} : g_ml (gX b) 225 15 = some (1, 503, 2, 0) := rfl
theorem yx_226 {b : Bool} : g_mx (gX b) 226 = 2 := rfl
theorem yt_226 {b : Bool} : g_rt (gX b) 226 = 0 := rfl
theorem y_226_0 {b : Bool} : g_co (gX b) 226 0 = some (.aload_n 1) := rfl
theorem y_226_1 {b : Bool} : g_co (gX b) 226 1 = some (.getfield 11) := rfl
theorem y_226_4 {b : Bool} : g_co (gX b) 226 4 = some (.iconst 0) := rfl
theorem y_226_5 {b : Bool} : g_co (gX b) 226 5 = some (.aload_n 0) := rfl
theorem y_226_6 {b : Bool} : g_co (gX b) 226 6 = some (.getfield 11) := rfl
theorem y_226_9 {b : Bool} : g_co (gX b) 226 9 = some (.iconst 0) := rfl
theorem y_226_10 {b : Bool} : g_co (gX b) 226 10 = some (.bipush 50) := rfl
theorem y_226_12 {b : Bool} : g_co (gX b) 226 12 = some (.invokestatic 21) := rfl
theorem y_226_15 {b : Bool} : g_co (gX b) 226 15 = some (.return_) := rfl
theorem yf_226_11 {b : Bool} : g_fl (gX b) 226 11 = some (3, 0, 9) := rfl
theorem yn_226_21 {b : Bool} : g_ml (gX b) 226 21 = none := rfl
theorem yz_226_21 {b : Bool} : g_nt (gX b) 226 21 = 1 := rfl
theorem yx_227 {b : Bool} : g_mx (gX b) 227 = 3 := rfl
theorem yt_227 {b : Bool} : g_rt (gX b) 227 = 2 := rfl
theorem y_227_0 {b : Bool} : g_co (gX b) 227 0 = some (.iconst 0) := rfl
theorem y_227_1 {b : Bool} : g_co (gX b) 227 1 = some (.istore_n 2) := rfl
theorem y_227_2 {b : Bool} : g_co (gX b) 227 2 = some (.iload_n 2) := rfl
theorem y_227_3 {b : Bool} : g_co (gX b) 227 3 = some (.bipush 35) := rfl
theorem y_227_5 {b : Bool} : g_co (gX b) 227 5 = some (.if_icmp .ge 26) := rfl
theorem y_227_8 {b : Bool} : g_co (gX b) 227 8 = some (.aload_n 0) := rfl
theorem y_227_9 {b : Bool} : g_co (gX b) 227 9 = some (.getfield 11) := rfl
theorem y_227_12 {b : Bool} : g_co (gX b) 227 12 = some (.iload_n 2) := rfl
theorem y_227_13 {b : Bool} : g_co (gX b) 227 13 = some (.iaload) := rfl
theorem y_227_14 {b : Bool} : g_co (gX b) 227 14 = some (.aload_n 1) := rfl
theorem y_227_15 {b : Bool} : g_co (gX b) 227 15 = some (.getfield 11) := rfl
theorem y_227_18 {b : Bool} : g_co (gX b) 227 18 = some (.iload_n 2) := rfl
theorem y_227_19 {b : Bool} : g_co (gX b) 227 19 = some (.iaload) := rfl
theorem y_227_20 {b : Bool} : g_co (gX b) 227 20 = some (.if_icmp .eq 5) := rfl
theorem y_227_23 {b : Bool} : g_co (gX b) 227 23 = some (.iconst 0) := rfl
theorem y_227_24 {b : Bool} : g_co (gX b) 227 24 = some (.ireturn) := rfl
theorem y_227_25 {b : Bool} : g_co (gX b) 227 25 = some (.iinc 2 1) := rfl
theorem y_227_28 {b : Bool} : g_co (gX b) 227 28 = some (.goto (-26)) := rfl
theorem y_227_31 {b : Bool} : g_co (gX b) 227 31 = some (.iconst 1) := rfl
theorem y_227_32 {b : Bool} : g_co (gX b) 227 32 = some (.ireturn) := rfl
theorem yf_227_11 {b : Bool} : g_fl (gX b) 227 11 = some (3, 0, 9) := rfl
theorem yx_228 {b : Bool} : g_mx (gX b) 228 = 1 := rfl
theorem yt_228 {b : Bool} : g_rt (gX b) 228 = 2 := rfl
theorem y_228_0 {b : Bool} : g_co (gX b) 228 0 = some (.aload_n 0) := rfl
theorem y_228_1 {b : Bool} : g_co (gX b) 228 1 = some (.getfield 11) := rfl
theorem y_228_4 {b : Bool} : g_co (gX b) 228 4 = some (.bipush 14) := rfl
theorem y_228_6 {b : Bool} : g_co (gX b) 228 6 = some (.iaload) := rfl
theorem y_228_7 {b : Bool} : g_co (gX b) 228 7 = some (.ifCond .eq 7) := rfl
theorem y_228_10 {b : Bool} : g_co (gX b) 228 10 = some (.iconst 1) := rfl
theorem y_228_11 {b : Bool} : g_co (gX b) 228 11 = some (.goto 4) := rfl
theorem y_228_14 {b : Bool} : g_co (gX b) 228 14 = some (.iconst 0) := rfl
theorem y_228_15 {b : Bool} : g_co (gX b) 228 15 = some (.ireturn) := rfl
theorem yf_228_11 {b : Bool} : g_fl (gX b) 228 11 = some (3, 0, 9) := rfl
theorem yx_229 {b : Bool} : g_mx (gX b) 229 = 1 := rfl
theorem yt_229 {b : Bool} : g_rt (gX b) 229 = 1 := rfl
theorem y_229_0 {b : Bool} : g_co (gX b) 229 0 = some (.aload_n 0) := rfl
theorem y_229_1 {b : Bool} : g_co (gX b) 229 1 = some (.getfield 11) := rfl
theorem y_229_4 {b : Bool} : g_co (gX b) 229 4 = some (.bipush 8) := rfl
theorem y_229_6 {b : Bool} : g_co (gX b) 229 6 = some (.iaload) := rfl
theorem y_229_7 {b : Bool} : g_co (gX b) 229 7 = some (.aload_n 0) := rfl
theorem y_229_8 {b : Bool} : g_co (gX b) 229 8 = some (.getfield 11) := rfl
theorem y_229_11 {b : Bool} : g_co (gX b) 229 11 = some (.bipush 9) := rfl
theorem y_229_13 {b : Bool} : g_co (gX b) 229 13 = some (.iaload) := rfl
theorem y_229_14 {b : Bool} : g_co (gX b) 229 14 = some (.iconst (-1)) := rfl
theorem y_229_15 {b : Bool} : g_co (gX b) 229 15 = some (.ixor) := rfl
theorem y_229_16 {b : Bool} : g_co (gX b) 229 16 = some (.iand) := rfl
theorem y_229_17 {b : Bool} : g_co (gX b) 229 17 = some (.ireturn) := rfl
theorem yf_229_11 {b : Bool} : g_fl (gX b) 229 11 = some (3, 0, 9) := rfl
theorem yx_230 {b : Bool} : g_mx (gX b) 230 = 2 := rfl
theorem yt_230 {b : Bool} : g_rt (gX b) 230 = 1 := rfl
theorem y_230_0 {b : Bool} : g_co (gX b) 230 0 = some (.aload_n 0) := rfl
theorem y_230_1 {b : Bool} : g_co (gX b) 230 1 = some (.getfield 11) := rfl
theorem y_230_4 {b : Bool} : g_co (gX b) 230 4 = some (.bipush 15) := rfl
theorem y_230_6 {b : Bool} : g_co (gX b) 230 6 = some (.iload_n 1) := rfl
theorem y_230_7 {b : Bool} : g_co (gX b) 230 7 = some (.iadd) := rfl
theorem y_230_8 {b : Bool} : g_co (gX b) 230 8 = some (.iaload) := rfl
theorem y_230_9 {b : Bool} : g_co (gX b) 230 9 = some (.ireturn) := rfl
theorem yf_230_11 {b : Bool} : g_fl (gX b) 230 11 = some (3, 0, 9) := rfl
theorem yx_231 {b : Bool} : g_mx (gX b) 231 = 1 := rfl
theorem yt_231 {b : Bool} : g_rt (gX b) 231 = 1 := rfl
theorem y_231_0 {b : Bool} : g_co (gX b) 231 0 = some (.aload_n 0) := rfl
theorem y_231_1 {b : Bool} : g_co (gX b) 231 1 = some (.getfield 11) := rfl
theorem y_231_4 {b : Bool} : g_co (gX b) 231 4 = some (.bipush 15) := rfl
theorem y_231_6 {b : Bool} : g_co (gX b) 231 6 = some (.iaload) := rfl
theorem y_231_7 {b : Bool} : g_co (gX b) 231 7 = some (.aload_n 0) := rfl
theorem y_231_8 {b : Bool} : g_co (gX b) 231 8 = some (.getfield 11) := rfl
theorem y_231_11 {b : Bool} : g_co (gX b) 231 11 = some (.bipush 16) := rfl
theorem y_231_13 {b : Bool} : g_co (gX b) 231 13 = some (.iaload) := rfl
theorem y_231_14 {b : Bool} : g_co (gX b) 231 14 = some (.iadd) := rfl
theorem y_231_15 {b : Bool} : g_co (gX b) 231 15 = some (.aload_n 0) := rfl
theorem y_231_16 {b : Bool} : g_co (gX b) 231 16 = some (.getfield 11) := rfl
theorem y_231_19 {b : Bool} : g_co (gX b) 231 19 = some (.bipush 17) := rfl
theorem y_231_21 {b : Bool} : g_co (gX b) 231 21 = some (.iaload) := rfl
theorem y_231_22 {b : Bool} : g_co (gX b) 231 22 = some (.iadd) := rfl
theorem y_231_23 {b : Bool} : g_co (gX b) 231 23 = some (.aload_n 0) := rfl
theorem y_231_24 {b : Bool} : g_co (gX b) 231 24 = some (.getfield 11) := rfl
theorem y_231_27 {b : Bool} : g_co (gX b) 231 27 = some (.bipush 18) := rfl
theorem y_231_29 {b : Bool} : g_co (gX b) 231 29 = some (.iaload) := rfl
theorem y_231_30 {b : Bool} : g_co (gX b) 231 30 = some (.iadd) := rfl
theorem y_231_31 {b : Bool} : g_co (gX b) 231 31 = some (.ireturn) := rfl
theorem yf_231_11 {b : Bool} : g_fl (gX b) 231 11 = some (3, 0, 9) := rfl
theorem yx_232 {b : Bool} : g_mx (gX b) 232 = 3 := rfl
theorem yt_232 {b : Bool} : g_rt (gX b) 232 = 1 := rfl
theorem y_232_0 {b : Bool} : g_co (gX b) 232 0 = some (.iconst 0) := rfl
theorem y_232_1 {b : Bool} : g_co (gX b) 232 1 = some (.istore_n 1) := rfl
theorem y_232_2 {b : Bool} : g_co (gX b) 232 2 = some (.iconst 0) := rfl
theorem y_232_3 {b : Bool} : g_co (gX b) 232 3 = some (.istore_n 2) := rfl
theorem y_232_4 {b : Bool} : g_co (gX b) 232 4 = some (.iload_n 2) := rfl
theorem y_232_5 {b : Bool} : g_co (gX b) 232 5 = some (.iconst 4) := rfl
theorem y_232_6 {b : Bool} : g_co (gX b) 232 6 = some (.if_icmp .ge 27) := rfl
theorem y_232_9 {b : Bool} : g_co (gX b) 232 9 = some (.aload_n 0) := rfl
theorem y_232_10 {b : Bool} : g_co (gX b) 232 10 = some (.getfield 11) := rfl
theorem y_232_13 {b : Bool} : g_co (gX b) 232 13 = some (.bipush 15) := rfl
theorem y_232_15 {b : Bool} : g_co (gX b) 232 15 = some (.iload_n 2) := rfl
theorem y_232_16 {b : Bool} : g_co (gX b) 232 16 = some (.iadd) := rfl
theorem y_232_17 {b : Bool} : g_co (gX b) 232 17 = some (.iaload) := rfl
theorem y_232_18 {b : Bool} : g_co (gX b) 232 18 = some (.ifCond .le 9) := rfl
theorem y_232_21 {b : Bool} : g_co (gX b) 232 21 = some (.iload_n 1) := rfl
theorem y_232_22 {b : Bool} : g_co (gX b) 232 22 = some (.iconst 1) := rfl
theorem y_232_23 {b : Bool} : g_co (gX b) 232 23 = some (.iload_n 2) := rfl
theorem y_232_24 {b : Bool} : g_co (gX b) 232 24 = some (.ishl) := rfl
theorem y_232_25 {b : Bool} : g_co (gX b) 232 25 = some (.ior) := rfl
theorem y_232_26 {b : Bool} : g_co (gX b) 232 26 = some (.istore_n 1) := rfl
theorem y_232_27 {b : Bool} : g_co (gX b) 232 27 = some (.iinc 2 1) := rfl
theorem y_232_30 {b : Bool} : g_co (gX b) 232 30 = some (.goto (-26)) := rfl
theorem y_232_33 {b : Bool} : g_co (gX b) 232 33 = some (.iload_n 1) := rfl
theorem y_232_34 {b : Bool} : g_co (gX b) 232 34 = some (.ireturn) := rfl
theorem yf_232_11 {b : Bool} : g_fl (gX b) 232 11 = some (3, 0, 9) := rfl
theorem yx_233 {b : Bool} : g_mx (gX b) 233 = 1 := rfl
theorem yt_233 {b : Bool} : g_rt (gX b) 233 = 1 := rfl
theorem y_233_0 {b : Bool} : g_co (gX b) 233 0 = some (.aload_n 0) := rfl
theorem y_233_1 {b : Bool} : g_co (gX b) 233 1 = some (.getfield 11) := rfl
theorem y_233_4 {b : Bool} : g_co (gX b) 233 4 = some (.bipush 19) := rfl
theorem y_233_6 {b : Bool} : g_co (gX b) 233 6 = some (.iaload) := rfl
theorem y_233_7 {b : Bool} : g_co (gX b) 233 7 = some (.ireturn) := rfl
theorem yf_233_11 {b : Bool} : g_fl (gX b) 233 11 = some (3, 0, 9) := rfl
theorem yx_234 {b : Bool} : g_mx (gX b) 234 = 1 := rfl
theorem yt_234 {b : Bool} : g_rt (gX b) 234 = 2 := rfl
theorem y_234_0 {b : Bool} : g_co (gX b) 234 0 = some (.aload_n 0) := rfl
theorem y_234_1 {b : Bool} : g_co (gX b) 234 1 = some (.getfield 11) := rfl
theorem y_234_4 {b : Bool} : g_co (gX b) 234 4 = some (.bipush 19) := rfl
theorem y_234_6 {b : Bool} : g_co (gX b) 234 6 = some (.iaload) := rfl
theorem y_234_7 {b : Bool} : g_co (gX b) 234 7 = some (.ifCond .ne 14) := rfl
theorem y_234_10 {b : Bool} : g_co (gX b) 234 10 = some (.aload_n 0) := rfl
theorem y_234_11 {b : Bool} : g_co (gX b) 234 11 = some (.invokevirtual 27) := rfl
theorem y_234_14 {b : Bool} : g_co (gX b) 234 14 = some (.ifCond .ne 7) := rfl
theorem y_234_17 {b : Bool} : g_co (gX b) 234 17 = some (.iconst 1) := rfl
theorem y_234_18 {b : Bool} : g_co (gX b) 234 18 = some (.goto 4) := rfl
theorem y_234_21 {b : Bool} : g_co (gX b) 234 21 = some (.iconst 0) := rfl
theorem y_234_22 {b : Bool} : g_co (gX b) 234 22 = some (.ireturn) := rfl
theorem yf_234_11 {b : Bool} : g_fl (gX b) 234 11 = some (3, 0, 9) := rfl
theorem ym_234_27 {b : Bool} : g_ml (gX b) 234 27 = some (0, 231, 0, 3) := rfl
theorem yx_235 {b : Bool} : g_mx (gX b) 235 = 6 := rfl
theorem yt_235 {b : Bool} : g_rt (gX b) 235 = 2 := rfl
theorem y_235_0 {b : Bool} : g_co (gX b) 235 0 = some (.aload_n 0) := rfl
theorem y_235_1 {b : Bool} : g_co (gX b) 235 1 = some (.getfield 11) := rfl
theorem y_235_4 {b : Bool} : g_co (gX b) 235 4 = some (.bipush 15) := rfl
theorem y_235_6 {b : Bool} : g_co (gX b) 235 6 = some (.iload_n 1) := rfl
theorem y_235_7 {b : Bool} : g_co (gX b) 235 7 = some (.iadd) := rfl
theorem y_235_8 {b : Bool} : g_co (gX b) 235 8 = some (.iaload) := rfl
theorem y_235_9 {b : Bool} : g_co (gX b) 235 9 = some (.istore 4) := rfl
theorem y_235_11 {b : Bool} : g_co (gX b) 235 11 = some (.iload 4) := rfl
theorem y_235_13 {b : Bool} : g_co (gX b) 235 13 = some (.ifCond .lt 9) := rfl
theorem y_235_16 {b : Bool} : g_co (gX b) 235 16 = some (.iload 4) := rfl
theorem y_235_18 {b : Bool} : g_co (gX b) 235 18 = some (.iconst 3) := rfl
theorem y_235_19 {b : Bool} : g_co (gX b) 235 19 = some (.if_icmp .lt 5) := rfl
theorem y_235_22 {b : Bool} : g_co (gX b) 235 22 = some (.iconst 0) := rfl
theorem y_235_23 {b : Bool} : g_co (gX b) 235 23 = some (.ireturn) := rfl
theorem y_235_24 {b : Bool} : g_co (gX b) 235 24 = some (.iload_n 1) := rfl
theorem y_235_25 {b : Bool} : g_co (gX b) 235 25 = some (.iconst 3) := rfl
theorem y_235_26 {b : Bool} : g_co (gX b) 235 26 = some (.imul) := rfl
theorem y_235_27 {b : Bool} : g_co (gX b) 235 27 = some (.iload 4) := rfl
theorem y_235_29 {b : Bool} : g_co (gX b) 235 29 = some (.iadd) := rfl
theorem y_235_30 {b : Bool} : g_co (gX b) 235 30 = some (.istore 5) := rfl
theorem y_235_32 {b : Bool} : g_co (gX b) 235 32 = some (.aload_n 0) := rfl
theorem y_235_33 {b : Bool} : g_co (gX b) 235 33 = some (.getfield 11) := rfl
theorem y_235_36 {b : Bool} : g_co (gX b) 235 36 = some (.bipush 20) := rfl
theorem y_235_38 {b : Bool} : g_co (gX b) 235 38 = some (.iload 5) := rfl
theorem y_235_40 {b : Bool} : g_co (gX b) 235 40 = some (.iadd) := rfl
theorem y_235_41 {b : Bool} : g_co (gX b) 235 41 = some (.iload_n 2) := rfl
theorem y_235_42 {b : Bool} : g_co (gX b) 235 42 = some (.iastore) := rfl
theorem y_235_43 {b : Bool} : g_co (gX b) 235 43 = some (.aload_n 0) := rfl
theorem y_235_44 {b : Bool} : g_co (gX b) 235 44 = some (.getfield 11) := rfl
theorem y_235_47 {b : Bool} : g_co (gX b) 235 47 = some (.bipush 35) := rfl
theorem y_235_49 {b : Bool} : g_co (gX b) 235 49 = some (.iload 5) := rfl
theorem y_235_51 {b : Bool} : g_co (gX b) 235 51 = some (.iadd) := rfl
theorem y_235_52 {b : Bool} : g_co (gX b) 235 52 = some (.iload_n 3) := rfl
theorem y_235_53 {b : Bool} : g_co (gX b) 235 53 = some (.iastore) := rfl
theorem y_235_54 {b : Bool} : g_co (gX b) 235 54 = some (.aload_n 0) := rfl
theorem y_235_55 {b : Bool} : g_co (gX b) 235 55 = some (.getfield 11) := rfl
theorem y_235_58 {b : Bool} : g_co (gX b) 235 58 = some (.bipush 15) := rfl
theorem y_235_60 {b : Bool} : g_co (gX b) 235 60 = some (.iload_n 1) := rfl
theorem y_235_61 {b : Bool} : g_co (gX b) 235 61 = some (.iadd) := rfl
theorem y_235_62 {b : Bool} : g_co (gX b) 235 62 = some (.iload 4) := rfl
theorem y_235_64 {b : Bool} : g_co (gX b) 235 64 = some (.iconst 1) := rfl
theorem y_235_65 {b : Bool} : g_co (gX b) 235 65 = some (.iadd) := rfl
theorem y_235_66 {b : Bool} : g_co (gX b) 235 66 = some (.iastore) := rfl
theorem y_235_67 {b : Bool} : g_co (gX b) 235 67 = some (.iconst 1) := rfl
theorem y_235_68 {b : Bool} : g_co (gX b) 235 68 = some (.ireturn) := rfl
theorem yf_235_11 {b : Bool} : g_fl (gX b) 235 11 = some (3, 0, 9) := rfl
theorem yx_236 {b : Bool} : g_mx (gX b) 236 = 4 := rfl
theorem yt_236 {b : Bool} : g_rt (gX b) 236 = 0 := rfl
theorem y_236_0 {b : Bool} : g_co (gX b) 236 0 = some (.iload_n 1) := rfl
theorem y_236_1 {b : Bool} : g_co (gX b) 236 1 = some (.iconst 3) := rfl
theorem y_236_2 {b : Bool} : g_co (gX b) 236 2 = some (.imul) := rfl
theorem y_236_3 {b : Bool} : g_co (gX b) 236 3 = some (.istore_n 2) := rfl
theorem y_236_4 {b : Bool} : g_co (gX b) 236 4 = some (.iconst 0) := rfl
theorem y_236_5 {b : Bool} : g_co (gX b) 236 5 = some (.istore_n 3) := rfl
theorem y_236_6 {b : Bool} : g_co (gX b) 236 6 = some (.iload_n 3) := rfl
theorem y_236_7 {b : Bool} : g_co (gX b) 236 7 = some (.iconst 3) := rfl
theorem y_236_8 {b : Bool} : g_co (gX b) 236 8 = some (.if_icmp .ge 21) := rfl
theorem y_236_11 {b : Bool} : g_co (gX b) 236 11 = some (.aload_n 0) := rfl
theorem y_236_12 {b : Bool} : g_co (gX b) 236 12 = some (.getfield 11) := rfl
theorem y_236_15 {b : Bool} : g_co (gX b) 236 15 = some (.bipush 20) := rfl
theorem y_236_17 {b : Bool} : g_co (gX b) 236 17 = some (.iload_n 2) := rfl
theorem y_236_18 {b : Bool} : g_co (gX b) 236 18 = some (.iadd) := rfl
theorem y_236_19 {b : Bool} : g_co (gX b) 236 19 = some (.iload_n 3) := rfl
theorem y_236_20 {b : Bool} : g_co (gX b) 236 20 = some (.iadd) := rfl
theorem y_236_21 {b : Bool} : g_co (gX b) 236 21 = some (.iconst 0) := rfl
theorem y_236_22 {b : Bool} : g_co (gX b) 236 22 = some (.iastore) := rfl
theorem y_236_23 {b : Bool} : g_co (gX b) 236 23 = some (.iinc 3 1) := rfl
theorem y_236_26 {b : Bool} : g_co (gX b) 236 26 = some (.goto (-20)) := rfl
theorem y_236_29 {b : Bool} : g_co (gX b) 236 29 = some (.aload_n 0) := rfl
theorem y_236_30 {b : Bool} : g_co (gX b) 236 30 = some (.getfield 11) := rfl
theorem y_236_33 {b : Bool} : g_co (gX b) 236 33 = some (.bipush 15) := rfl
theorem y_236_35 {b : Bool} : g_co (gX b) 236 35 = some (.iload_n 1) := rfl
theorem y_236_36 {b : Bool} : g_co (gX b) 236 36 = some (.iadd) := rfl
theorem y_236_37 {b : Bool} : g_co (gX b) 236 37 = some (.iconst 0) := rfl
theorem y_236_38 {b : Bool} : g_co (gX b) 236 38 = some (.iastore) := rfl
theorem y_236_39 {b : Bool} : g_co (gX b) 236 39 = some (.return_) := rfl
theorem yf_236_11 {b : Bool} : g_fl (gX b) 236 11 = some (3, 0, 9) := rfl
theorem yx_237 {b : Bool} : g_mx (gX b) 237 = 2 := rfl
theorem yt_237 {b : Bool} : g_rt (gX b) 237 = 1 := rfl
theorem y_237_0 {b : Bool} : g_co (gX b) 237 0 = some (.aload_n 0) := rfl
theorem y_237_1 {b : Bool} : g_co (gX b) 237 1 = some (.getfield 11) := rfl
theorem y_237_4 {b : Bool} : g_co (gX b) 237 4 = some (.bipush 35) := rfl
theorem y_237_6 {b : Bool} : g_co (gX b) 237 6 = some (.iload_n 1) := rfl
theorem y_237_7 {b : Bool} : g_co (gX b) 237 7 = some (.iconst 3) := rfl
theorem y_237_8 {b : Bool} : g_co (gX b) 237 8 = some (.imul) := rfl
theorem y_237_9 {b : Bool} : g_co (gX b) 237 9 = some (.iadd) := rfl
theorem y_237_10 {b : Bool} : g_co (gX b) 237 10 = some (.iaload) := rfl
theorem y_237_11 {b : Bool} : g_co (gX b) 237 11 = some (.ireturn) := rfl
theorem yf_237_11 {b : Bool} : g_fl (gX b) 237 11 = some (3, 0, 9) := rfl
theorem yx_238 {b : Bool} : g_mx (gX b) 238 = 5 := rfl
theorem yt_238 {b : Bool} : g_rt (gX b) 238 = 1 := rfl
theorem y_238_0 {b : Bool} : g_co (gX b) 238 0 = some (.aload_n 0) := rfl
theorem y_238_1 {b : Bool} : g_co (gX b) 238 1 = some (.getfield 11) := rfl
theorem y_238_4 {b : Bool} : g_co (gX b) 238 4 = some (.bipush 15) := rfl
theorem y_238_6 {b : Bool} : g_co (gX b) 238 6 = some (.iload_n 1) := rfl
theorem y_238_7 {b : Bool} : g_co (gX b) 238 7 = some (.iadd) := rfl
theorem y_238_8 {b : Bool} : g_co (gX b) 238 8 = some (.iaload) := rfl
theorem y_238_9 {b : Bool} : g_co (gX b) 238 9 = some (.istore_n 2) := rfl
theorem y_238_10 {b : Bool} : g_co (gX b) 238 10 = some (.iload_n 2) := rfl
theorem y_238_11 {b : Bool} : g_co (gX b) 238 11 = some (.ifCond .gt 5) := rfl
theorem y_238_14 {b : Bool} : g_co (gX b) 238 14 = some (.iconst 0) := rfl
theorem y_238_15 {b : Bool} : g_co (gX b) 238 15 = some (.ireturn) := rfl
theorem y_238_16 {b : Bool} : g_co (gX b) 238 16 = some (.iload_n 1) := rfl
theorem y_238_17 {b : Bool} : g_co (gX b) 238 17 = some (.iconst 3) := rfl
theorem y_238_18 {b : Bool} : g_co (gX b) 238 18 = some (.imul) := rfl
theorem y_238_19 {b : Bool} : g_co (gX b) 238 19 = some (.istore_n 3) := rfl
theorem y_238_20 {b : Bool} : g_co (gX b) 238 20 = some (.aload_n 0) := rfl
theorem y_238_21 {b : Bool} : g_co (gX b) 238 21 = some (.getfield 11) := rfl
theorem y_238_24 {b : Bool} : g_co (gX b) 238 24 = some (.bipush 20) := rfl
theorem y_238_26 {b : Bool} : g_co (gX b) 238 26 = some (.iload_n 3) := rfl
theorem y_238_27 {b : Bool} : g_co (gX b) 238 27 = some (.iadd) := rfl
theorem y_238_28 {b : Bool} : g_co (gX b) 238 28 = some (.iaload) := rfl
theorem y_238_29 {b : Bool} : g_co (gX b) 238 29 = some (.istore 4) := rfl
theorem y_238_31 {b : Bool} : g_co (gX b) 238 31 = some (.aload_n 0) := rfl
theorem y_238_32 {b : Bool} : g_co (gX b) 238 32 = some (.getfield 11) := rfl
theorem y_238_35 {b : Bool} : g_co (gX b) 238 35 = some (.bipush 20) := rfl
theorem y_238_37 {b : Bool} : g_co (gX b) 238 37 = some (.iload_n 3) := rfl
theorem y_238_38 {b : Bool} : g_co (gX b) 238 38 = some (.iadd) := rfl
theorem y_238_39 {b : Bool} : g_co (gX b) 238 39 = some (.iconst 1) := rfl
theorem y_238_40 {b : Bool} : g_co (gX b) 238 40 = some (.iadd) := rfl
theorem y_238_41 {b : Bool} : g_co (gX b) 238 41 = some (.aload_n 0) := rfl
theorem y_238_42 {b : Bool} : g_co (gX b) 238 42 = some (.getfield 11) := rfl
theorem y_238_45 {b : Bool} : g_co (gX b) 238 45 = some (.bipush 20) := rfl
theorem y_238_47 {b : Bool} : g_co (gX b) 238 47 = some (.iload_n 3) := rfl
theorem y_238_48 {b : Bool} : g_co (gX b) 238 48 = some (.iadd) := rfl
theorem y_238_49 {b : Bool} : g_co (gX b) 238 49 = some (.iconst 2) := rfl
theorem y_238_50 {b : Bool} : g_co (gX b) 238 50 = some (.invokestatic 21) := rfl
theorem y_238_53 {b : Bool} : g_co (gX b) 238 53 = some (.aload_n 0) := rfl
theorem y_238_54 {b : Bool} : g_co (gX b) 238 54 = some (.getfield 11) := rfl
theorem y_238_57 {b : Bool} : g_co (gX b) 238 57 = some (.bipush 35) := rfl
theorem y_238_59 {b : Bool} : g_co (gX b) 238 59 = some (.iload_n 3) := rfl
theorem y_238_60 {b : Bool} : g_co (gX b) 238 60 = some (.iadd) := rfl
theorem y_238_61 {b : Bool} : g_co (gX b) 238 61 = some (.iconst 1) := rfl
theorem y_238_62 {b : Bool} : g_co (gX b) 238 62 = some (.iadd) := rfl
theorem y_238_63 {b : Bool} : g_co (gX b) 238 63 = some (.aload_n 0) := rfl
theorem y_238_64 {b : Bool} : g_co (gX b) 238 64 = some (.getfield 11) := rfl
theorem y_238_67 {b : Bool} : g_co (gX b) 238 67 = some (.bipush 35) := rfl
theorem y_238_69 {b : Bool} : g_co (gX b) 238 69 = some (.iload_n 3) := rfl
theorem y_238_70 {b : Bool} : g_co (gX b) 238 70 = some (.iadd) := rfl
theorem y_238_71 {b : Bool} : g_co (gX b) 238 71 = some (.iconst 2) := rfl
theorem y_238_72 {b : Bool} : g_co (gX b) 238 72 = some (.invokestatic 21) := rfl
theorem y_238_75 {b : Bool} : g_co (gX b) 238 75 = some (.aload_n 0) := rfl
theorem y_238_76 {b : Bool} : g_co (gX b) 238 76 = some (.getfield 11) := rfl
theorem y_238_79 {b : Bool} : g_co (gX b) 238 79 = some (.bipush 20) := rfl
theorem y_238_81 {b : Bool} : g_co (gX b) 238 81 = some (.iload_n 3) := rfl
theorem y_238_82 {b : Bool} : g_co (gX b) 238 82 = some (.iadd) := rfl
theorem y_238_83 {b : Bool} : g_co (gX b) 238 83 = some (.iconst 3) := rfl
theorem y_238_84 {b : Bool} : g_co (gX b) 238 84 = some (.iadd) := rfl
theorem y_238_85 {b : Bool} : g_co (gX b) 238 85 = some (.iconst 1) := rfl
theorem y_238_86 {b : Bool} : g_co (gX b) 238 86 = some (.isub) := rfl
theorem y_238_87 {b : Bool} : g_co (gX b) 238 87 = some (.iconst 0) := rfl
theorem y_238_88 {b : Bool} : g_co (gX b) 238 88 = some (.iastore) := rfl
theorem y_238_89 {b : Bool} : g_co (gX b) 238 89 = some (.aload_n 0) := rfl
theorem y_238_90 {b : Bool} : g_co (gX b) 238 90 = some (.getfield 11) := rfl
theorem y_238_93 {b : Bool} : g_co (gX b) 238 93 = some (.bipush 15) := rfl
theorem y_238_95 {b : Bool} : g_co (gX b) 238 95 = some (.iload_n 1) := rfl
theorem y_238_96 {b : Bool} : g_co (gX b) 238 96 = some (.iadd) := rfl
theorem y_238_97 {b : Bool} : g_co (gX b) 238 97 = some (.iload_n 2) := rfl
theorem y_238_98 {b : Bool} : g_co (gX b) 238 98 = some (.iconst 1) := rfl
theorem y_238_99 {b : Bool} : g_co (gX b) 238 99 = some (.isub) := rfl
theorem y_238_100 {b : Bool} : g_co (gX b) 238 100 = some (.iastore) := rfl
theorem y_238_101 {b : Bool} : g_co (gX b) 238 101 = some (.iload 4) := rfl
theorem y_238_103 {b : Bool} : g_co (gX b) 238 103 = some (.ireturn) := rfl
theorem yf_238_11 {b : Bool} : g_fl (gX b) 238 11 = some (3, 0, 9) := rfl
theorem yn_238_21 {b : Bool} : g_ml (gX b) 238 21 = none := rfl
theorem yz_238_21 {b : Bool} : g_nt (gX b) 238 21 = 1 := rfl
theorem yx_239 {b : Bool} : g_mx (gX b) 239 = 4 := rfl
theorem yt_239 {b : Bool} : g_rt (gX b) 239 = 2 := rfl
theorem y_239_0 {b : Bool} : g_co (gX b) 239 0 = some (.aload_n 0) := rfl
theorem y_239_1 {b : Bool} : g_co (gX b) 239 1 = some (.getfield 11) := rfl
theorem y_239_4 {b : Bool} : g_co (gX b) 239 4 = some (.bipush 19) := rfl
theorem y_239_6 {b : Bool} : g_co (gX b) 239 6 = some (.iaload) := rfl
theorem y_239_7 {b : Bool} : g_co (gX b) 239 7 = some (.istore_n 3) := rfl
theorem y_239_8 {b : Bool} : g_co (gX b) 239 8 = some (.iload_n 3) := rfl
theorem y_239_9 {b : Bool} : g_co (gX b) 239 9 = some (.ifCond .lt 8) := rfl
theorem y_239_12 {b : Bool} : g_co (gX b) 239 12 = some (.iload_n 3) := rfl
theorem y_239_13 {b : Bool} : g_co (gX b) 239 13 = some (.iconst 3) := rfl
theorem y_239_14 {b : Bool} : g_co (gX b) 239 14 = some (.if_icmp .lt 5) := rfl
theorem y_239_17 {b : Bool} : g_co (gX b) 239 17 = some (.iconst 0) := rfl
theorem y_239_18 {b : Bool} : g_co (gX b) 239 18 = some (.ireturn) := rfl
theorem y_239_19 {b : Bool} : g_co (gX b) 239 19 = some (.aload_n 0) := rfl
theorem y_239_20 {b : Bool} : g_co (gX b) 239 20 = some (.getfield 11) := rfl
theorem y_239_23 {b : Bool} : g_co (gX b) 239 23 = some (.bipush 32) := rfl
theorem y_239_25 {b : Bool} : g_co (gX b) 239 25 = some (.iload_n 3) := rfl
theorem y_239_26 {b : Bool} : g_co (gX b) 239 26 = some (.iadd) := rfl
theorem y_239_27 {b : Bool} : g_co (gX b) 239 27 = some (.iload_n 1) := rfl
theorem y_239_28 {b : Bool} : g_co (gX b) 239 28 = some (.iastore) := rfl
theorem y_239_29 {b : Bool} : g_co (gX b) 239 29 = some (.aload_n 0) := rfl
theorem y_239_30 {b : Bool} : g_co (gX b) 239 30 = some (.getfield 11) := rfl
theorem y_239_33 {b : Bool} : g_co (gX b) 239 33 = some (.bipush 47) := rfl
theorem y_239_35 {b : Bool} : g_co (gX b) 239 35 = some (.iload_n 3) := rfl
theorem y_239_36 {b : Bool} : g_co (gX b) 239 36 = some (.iadd) := rfl
theorem y_239_37 {b : Bool} : g_co (gX b) 239 37 = some (.iload_n 2) := rfl
theorem y_239_38 {b : Bool} : g_co (gX b) 239 38 = some (.iastore) := rfl
theorem y_239_39 {b : Bool} : g_co (gX b) 239 39 = some (.aload_n 0) := rfl
theorem y_239_40 {b : Bool} : g_co (gX b) 239 40 = some (.getfield 11) := rfl
theorem y_239_43 {b : Bool} : g_co (gX b) 239 43 = some (.bipush 19) := rfl
theorem y_239_45 {b : Bool} : g_co (gX b) 239 45 = some (.iload_n 3) := rfl
theorem y_239_46 {b : Bool} : g_co (gX b) 239 46 = some (.iconst 1) := rfl
theorem y_239_47 {b : Bool} : g_co (gX b) 239 47 = some (.iadd) := rfl
theorem y_239_48 {b : Bool} : g_co (gX b) 239 48 = some (.iastore) := rfl
theorem y_239_49 {b : Bool} : g_co (gX b) 239 49 = some (.iconst 1) := rfl
theorem y_239_50 {b : Bool} : g_co (gX b) 239 50 = some (.ireturn) := rfl
theorem yf_239_11 {b : Bool} : g_fl (gX b) 239 11 = some (3, 0, 9) := rfl
theorem yx_240 {b : Bool} : g_mx (gX b) 240 = 2 := rfl
theorem yt_240 {b : Bool} : g_rt (gX b) 240 = 0 := rfl
theorem y_240_0 {b : Bool} : g_co (gX b) 240 0 = some (.iconst 0) := rfl
theorem y_240_1 {b : Bool} : g_co (gX b) 240 1 = some (.istore_n 1) := rfl
theorem y_240_2 {b : Bool} : g_co (gX b) 240 2 = some (.iload_n 1) := rfl
theorem y_240_3 {b : Bool} : g_co (gX b) 240 3 = some (.aload_n 0) := rfl
theorem y_240_4 {b : Bool} : g_co (gX b) 240 4 = some (.getfield 11) := rfl
theorem y_240_7 {b : Bool} : g_co (gX b) 240 7 = some (.bipush 19) := rfl
theorem y_240_9 {b : Bool} : g_co (gX b) 240 9 = some (.iaload) := rfl
theorem y_240_10 {b : Bool} : g_co (gX b) 240 10 = some (.if_icmp .ge 43) := rfl
theorem y_240_13 {b : Bool} : g_co (gX b) 240 13 = some (.iload_n 1) := rfl
theorem y_240_14 {b : Bool} : g_co (gX b) 240 14 = some (.iconst 3) := rfl
theorem y_240_15 {b : Bool} : g_co (gX b) 240 15 = some (.if_icmp .ge 38) := rfl
theorem y_240_18 {b : Bool} : g_co (gX b) 240 18 = some (.aload_n 0) := rfl
theorem y_240_19 {b : Bool} : g_co (gX b) 240 19 = some (.getfield 11) := rfl
theorem y_240_22 {b : Bool} : g_co (gX b) 240 22 = some (.bipush 32) := rfl
theorem y_240_24 {b : Bool} : g_co (gX b) 240 24 = some (.iload_n 1) := rfl
theorem y_240_25 {b : Bool} : g_co (gX b) 240 25 = some (.iadd) := rfl
theorem y_240_26 {b : Bool} : g_co (gX b) 240 26 = some (.iaload) := rfl
theorem y_240_27 {b : Bool} : g_co (gX b) 240 27 = some (.sipush 1000) := rfl
theorem y_240_30 {b : Bool} : g_co (gX b) 240 30 = some (.irem) := rfl
theorem y_240_31 {b : Bool} : g_co (gX b) 240 31 = some (.ifCond .le 16) := rfl
theorem y_240_34 {b : Bool} : g_co (gX b) 240 34 = some (.aload_n 0) := rfl
theorem y_240_35 {b : Bool} : g_co (gX b) 240 35 = some (.getfield 11) := rfl
theorem y_240_38 {b : Bool} : g_co (gX b) 240 38 = some (.bipush 32) := rfl
theorem y_240_40 {b : Bool} : g_co (gX b) 240 40 = some (.iload_n 1) := rfl
theorem y_240_41 {b : Bool} : g_co (gX b) 240 41 = some (.iadd) := rfl
theorem y_240_42 {b : Bool} : g_co (gX b) 240 42 = some (.dup2) := rfl
theorem y_240_43 {b : Bool} : g_co (gX b) 240 43 = some (.iaload) := rfl
theorem y_240_44 {b : Bool} : g_co (gX b) 240 44 = some (.iconst 1) := rfl
theorem y_240_45 {b : Bool} : g_co (gX b) 240 45 = some (.isub) := rfl
theorem y_240_46 {b : Bool} : g_co (gX b) 240 46 = some (.iastore) := rfl
theorem y_240_47 {b : Bool} : g_co (gX b) 240 47 = some (.iinc 1 1) := rfl
theorem y_240_50 {b : Bool} : g_co (gX b) 240 50 = some (.goto (-48)) := rfl
theorem y_240_53 {b : Bool} : g_co (gX b) 240 53 = some (.return_) := rfl
theorem yf_240_11 {b : Bool} : g_fl (gX b) 240 11 = some (3, 0, 9) := rfl
theorem yx_241 {b : Bool} : g_mx (gX b) 241 = 3 := rfl
theorem yt_241 {b : Bool} : g_rt (gX b) 241 = 1 := rfl
theorem y_241_0 {b : Bool} : g_co (gX b) 241 0 = some (.iconst (-1)) := rfl
theorem y_241_1 {b : Bool} : g_co (gX b) 241 1 = some (.istore_n 1) := rfl
theorem y_241_2 {b : Bool} : g_co (gX b) 241 2 = some (.iconst 0) := rfl
theorem y_241_3 {b : Bool} : g_co (gX b) 241 3 = some (.istore_n 2) := rfl
theorem y_241_4 {b : Bool} : g_co (gX b) 241 4 = some (.iload_n 2) := rfl
theorem y_241_5 {b : Bool} : g_co (gX b) 241 5 = some (.aload_n 0) := rfl
theorem y_241_6 {b : Bool} : g_co (gX b) 241 6 = some (.getfield 11) := rfl
theorem y_241_9 {b : Bool} : g_co (gX b) 241 9 = some (.bipush 19) := rfl
theorem y_241_11 {b : Bool} : g_co (gX b) 241 11 = some (.iaload) := rfl
theorem y_241_12 {b : Bool} : g_co (gX b) 241 12 = some (.if_icmp .ge 49) := rfl
theorem y_241_15 {b : Bool} : g_co (gX b) 241 15 = some (.iload_n 2) := rfl
theorem y_241_16 {b : Bool} : g_co (gX b) 241 16 = some (.iconst 3) := rfl
theorem y_241_17 {b : Bool} : g_co (gX b) 241 17 = some (.if_icmp .ge 44) := rfl
theorem y_241_20 {b : Bool} : g_co (gX b) 241 20 = some (.iload_n 1) := rfl
theorem y_241_21 {b : Bool} : g_co (gX b) 241 21 = some (.ifCond .lt 32) := rfl
theorem y_241_24 {b : Bool} : g_co (gX b) 241 24 = some (.aload_n 0) := rfl
theorem y_241_25 {b : Bool} : g_co (gX b) 241 25 = some (.getfield 11) := rfl
theorem y_241_28 {b : Bool} : g_co (gX b) 241 28 = some (.bipush 32) := rfl
theorem y_241_30 {b : Bool} : g_co (gX b) 241 30 = some (.iload_n 2) := rfl
theorem y_241_31 {b : Bool} : g_co (gX b) 241 31 = some (.iadd) := rfl
theorem y_241_32 {b : Bool} : g_co (gX b) 241 32 = some (.iaload) := rfl
theorem y_241_33 {b : Bool} : g_co (gX b) 241 33 = some (.sipush 1000) := rfl
theorem y_241_36 {b : Bool} : g_co (gX b) 241 36 = some (.irem) := rfl
theorem y_241_37 {b : Bool} : g_co (gX b) 241 37 = some (.aload_n 0) := rfl
theorem y_241_38 {b : Bool} : g_co (gX b) 241 38 = some (.getfield 11) := rfl
theorem y_241_41 {b : Bool} : g_co (gX b) 241 41 = some (.bipush 32) := rfl
theorem y_241_43 {b : Bool} : g_co (gX b) 241 43 = some (.iload_n 1) := rfl
theorem y_241_44 {b : Bool} : g_co (gX b) 241 44 = some (.iadd) := rfl
theorem y_241_45 {b : Bool} : g_co (gX b) 241 45 = some (.iaload) := rfl
theorem y_241_46 {b : Bool} : g_co (gX b) 241 46 = some (.sipush 1000) := rfl
theorem y_241_49 {b : Bool} : g_co (gX b) 241 49 = some (.irem) := rfl
theorem y_241_50 {b : Bool} : g_co (gX b) 241 50 = some (.if_icmp .ge 5) := rfl
theorem y_241_53 {b : Bool} : g_co (gX b) 241 53 = some (.iload_n 2) := rfl
theorem y_241_54 {b : Bool} : g_co (gX b) 241 54 = some (.istore_n 1) := rfl
theorem y_241_55 {b : Bool} : g_co (gX b) 241 55 = some (.iinc 2 1) := rfl
theorem y_241_58 {b : Bool} : g_co (gX b) 241 58 = some (.goto (-54)) := rfl
theorem y_241_61 {b : Bool} : g_co (gX b) 241 61 = some (.iload_n 1) := rfl
theorem y_241_62 {b : Bool} : g_co (gX b) 241 62 = some (.ireturn) := rfl
theorem yf_241_11 {b : Bool} : g_fl (gX b) 241 11 = some (3, 0, 9) := rfl
theorem yx_242 {b : Bool} : g_mx (gX b) 242 = 2 := rfl
theorem yt_242 {b : Bool} : g_rt (gX b) 242 = 0 := rfl
theorem y_242_0 {b : Bool} : g_co (gX b) 242 0 = some (.iload_n 1) := rfl
theorem y_242_1 {b : Bool} : g_co (gX b) 242 1 = some (.ifCond .lt 8) := rfl
theorem y_242_4 {b : Bool} : g_co (gX b) 242 4 = some (.iload_n 1) := rfl
theorem y_242_5 {b : Bool} : g_co (gX b) 242 5 = some (.iconst 3) := rfl
theorem y_242_6 {b : Bool} : g_co (gX b) 242 6 = some (.if_icmp .lt 4) := rfl
theorem y_242_9 {b : Bool} : g_co (gX b) 242 9 = some (.return_) := rfl
theorem y_242_10 {b : Bool} : g_co (gX b) 242 10 = some (.aload_n 0) := rfl
theorem y_242_11 {b : Bool} : g_co (gX b) 242 11 = some (.getfield 11) := rfl
theorem y_242_14 {b : Bool} : g_co (gX b) 242 14 = some (.bipush 32) := rfl
theorem y_242_16 {b : Bool} : g_co (gX b) 242 16 = some (.iload_n 1) := rfl
theorem y_242_17 {b : Bool} : g_co (gX b) 242 17 = some (.iadd) := rfl
theorem y_242_18 {b : Bool} : g_co (gX b) 242 18 = some (.iconst 1) := rfl
theorem y_242_19 {b : Bool} : g_co (gX b) 242 19 = some (.iadd) := rfl
theorem y_242_20 {b : Bool} : g_co (gX b) 242 20 = some (.aload_n 0) := rfl
theorem y_242_21 {b : Bool} : g_co (gX b) 242 21 = some (.getfield 11) := rfl
theorem y_242_24 {b : Bool} : g_co (gX b) 242 24 = some (.bipush 32) := rfl
theorem y_242_26 {b : Bool} : g_co (gX b) 242 26 = some (.iload_n 1) := rfl
theorem y_242_27 {b : Bool} : g_co (gX b) 242 27 = some (.iadd) := rfl
theorem y_242_28 {b : Bool} : g_co (gX b) 242 28 = some (.iconst 2) := rfl
theorem y_242_29 {b : Bool} : g_co (gX b) 242 29 = some (.iload_n 1) := rfl
theorem y_242_30 {b : Bool} : g_co (gX b) 242 30 = some (.isub) := rfl
theorem y_242_31 {b : Bool} : g_co (gX b) 242 31 = some (.invokestatic 21) := rfl
theorem y_242_34 {b : Bool} : g_co (gX b) 242 34 = some (.aload_n 0) := rfl
theorem y_242_35 {b : Bool} : g_co (gX b) 242 35 = some (.getfield 11) := rfl
theorem y_242_38 {b : Bool} : g_co (gX b) 242 38 = some (.bipush 47) := rfl
theorem y_242_40 {b : Bool} : g_co (gX b) 242 40 = some (.iload_n 1) := rfl
theorem y_242_41 {b : Bool} : g_co (gX b) 242 41 = some (.iadd) := rfl
theorem y_242_42 {b : Bool} : g_co (gX b) 242 42 = some (.iconst 1) := rfl
theorem y_242_43 {b : Bool} : g_co (gX b) 242 43 = some (.iadd) := rfl
theorem y_242_44 {b : Bool} : g_co (gX b) 242 44 = some (.aload_n 0) := rfl
theorem y_242_45 {b : Bool} : g_co (gX b) 242 45 = some (.getfield 11) := rfl
theorem y_242_48 {b : Bool} : g_co (gX b) 242 48 = some (.bipush 47) := rfl
theorem y_242_50 {b : Bool} : g_co (gX b) 242 50 = some (.iload_n 1) := rfl
theorem y_242_51 {b : Bool} : g_co (gX b) 242 51 = some (.iadd) := rfl
theorem y_242_52 {b : Bool} : g_co (gX b) 242 52 = some (.iconst 2) := rfl
theorem y_242_53 {b : Bool} : g_co (gX b) 242 53 = some (.iload_n 1) := rfl
theorem y_242_54 {b : Bool} : g_co (gX b) 242 54 = some (.isub) := rfl
theorem y_242_55 {b : Bool} : g_co (gX b) 242 55 = some (.invokestatic 21) := rfl
theorem y_242_58 {b : Bool} : g_co (gX b) 242 58 = some (.aload_n 0) := rfl
theorem y_242_59 {b : Bool} : g_co (gX b) 242 59 = some (.getfield 11) := rfl
theorem y_242_62 {b : Bool} : g_co (gX b) 242 62 = some (.bipush 34) := rfl
theorem y_242_64 {b : Bool} : g_co (gX b) 242 64 = some (.iconst 0) := rfl
theorem y_242_65 {b : Bool} : g_co (gX b) 242 65 = some (.iastore) := rfl
theorem y_242_66 {b : Bool} : g_co (gX b) 242 66 = some (.aload_n 0) := rfl
theorem y_242_67 {b : Bool} : g_co (gX b) 242 67 = some (.getfield 11) := rfl
theorem y_242_70 {b : Bool} : g_co (gX b) 242 70 = some (.bipush 19) := rfl
theorem y_242_72 {b : Bool} : g_co (gX b) 242 72 = some (.dup2) := rfl
theorem y_242_73 {b : Bool} : g_co (gX b) 242 73 = some (.iaload) := rfl
theorem y_242_74 {b : Bool} : g_co (gX b) 242 74 = some (.iconst 1) := rfl
theorem y_242_75 {b : Bool} : g_co (gX b) 242 75 = some (.isub) := rfl
theorem y_242_76 {b : Bool} : g_co (gX b) 242 76 = some (.iastore) := rfl
theorem y_242_77 {b : Bool} : g_co (gX b) 242 77 = some (.return_) := rfl
theorem yf_242_11 {b : Bool} : g_fl (gX b) 242 11 = some (3, 0, 9) := rfl
theorem yn_242_21 {b : Bool} : g_ml (gX b) 242 21 = none := rfl
theorem yz_242_21 {b : Bool} : g_nt (gX b) 242 21 = 1 := rfl
theorem yx_243 {b : Bool} : g_mx (gX b) 243 = 8 := rfl
theorem yt_243 {b : Bool} : g_rt (gX b) 243 = 1 := rfl
theorem y_243_0 {b : Bool} : g_co (gX b) 243 0 = some (.aload_n 0) := rfl
theorem y_243_1 {b : Bool} : g_co (gX b) 243 1 = some (.getfield 11) := rfl
theorem y_243_4 {b : Bool} : g_co (gX b) 243 4 = some (.bipush 19) := rfl
theorem y_243_6 {b : Bool} : g_co (gX b) 243 6 = some (.iaload) := rfl
theorem y_243_7 {b : Bool} : g_co (gX b) 243 7 = some (.iconst 3) := rfl
theorem y_243_8 {b : Bool} : g_co (gX b) 243 8 = some (.invokestatic 31) := rfl
theorem y_243_11 {b : Bool} : g_co (gX b) 243 11 = some (.istore_n 2) := rfl
theorem y_243_12 {b : Bool} : g_co (gX b) 243 12 = some (.iconst 0) := rfl
theorem y_243_13 {b : Bool} : g_co (gX b) 243 13 = some (.istore_n 3) := rfl
theorem y_243_14 {b : Bool} : g_co (gX b) 243 14 = some (.iload_n 3) := rfl
theorem y_243_15 {b : Bool} : g_co (gX b) 243 15 = some (.iload_n 2) := rfl
theorem y_243_16 {b : Bool} : g_co (gX b) 243 16 = some (.if_icmp .ge 97) := rfl
theorem y_243_19 {b : Bool} : g_co (gX b) 243 19 = some (.aload_n 0) := rfl
theorem y_243_20 {b : Bool} : g_co (gX b) 243 20 = some (.getfield 11) := rfl
theorem y_243_23 {b : Bool} : g_co (gX b) 243 23 = some (.bipush 32) := rfl
theorem y_243_25 {b : Bool} : g_co (gX b) 243 25 = some (.iload_n 3) := rfl
theorem y_243_26 {b : Bool} : g_co (gX b) 243 26 = some (.iadd) := rfl
theorem y_243_27 {b : Bool} : g_co (gX b) 243 27 = some (.iaload) := rfl
theorem y_243_28 {b : Bool} : g_co (gX b) 243 28 = some (.sipush 1000) := rfl
theorem y_243_31 {b : Bool} : g_co (gX b) 243 31 = some (.irem) := rfl
theorem y_243_32 {b : Bool} : g_co (gX b) 243 32 = some (.istore 4) := rfl
theorem y_243_34 {b : Bool} : g_co (gX b) 243 34 = some (.iconst 0) := rfl
theorem y_243_35 {b : Bool} : g_co (gX b) 243 35 = some (.istore 5) := rfl
theorem y_243_37 {b : Bool} : g_co (gX b) 243 37 = some (.iconst 0) := rfl
theorem y_243_38 {b : Bool} : g_co (gX b) 243 38 = some (.istore 6) := rfl
theorem y_243_40 {b : Bool} : g_co (gX b) 243 40 = some (.iload 6) := rfl
theorem y_243_42 {b : Bool} : g_co (gX b) 243 42 = some (.iload_n 2) := rfl
theorem y_243_43 {b : Bool} : g_co (gX b) 243 43 = some (.if_icmp .ge 48) := rfl
theorem y_243_46 {b : Bool} : g_co (gX b) 243 46 = some (.aload_n 0) := rfl
theorem y_243_47 {b : Bool} : g_co (gX b) 243 47 = some (.getfield 11) := rfl
theorem y_243_50 {b : Bool} : g_co (gX b) 243 50 = some (.bipush 32) := rfl
theorem y_243_52 {b : Bool} : g_co (gX b) 243 52 = some (.iload 6) := rfl
theorem y_243_54 {b : Bool} : g_co (gX b) 243 54 = some (.iadd) := rfl
theorem y_243_55 {b : Bool} : g_co (gX b) 243 55 = some (.iaload) := rfl
theorem y_243_56 {b : Bool} : g_co (gX b) 243 56 = some (.sipush 1000) := rfl
theorem y_243_59 {b : Bool} : g_co (gX b) 243 59 = some (.irem) := rfl
theorem y_243_60 {b : Bool} : g_co (gX b) 243 60 = some (.istore 7) := rfl
theorem y_243_62 {b : Bool} : g_co (gX b) 243 62 = some (.iload 7) := rfl
theorem y_243_64 {b : Bool} : g_co (gX b) 243 64 = some (.iload 4) := rfl
theorem y_243_66 {b : Bool} : g_co (gX b) 243 66 = some (.if_icmp .lt 16) := rfl
theorem y_243_69 {b : Bool} : g_co (gX b) 243 69 = some (.iload 7) := rfl
theorem y_243_71 {b : Bool} : g_co (gX b) 243 71 = some (.iload 4) := rfl
theorem y_243_73 {b : Bool} : g_co (gX b) 243 73 = some (.if_icmp .ne 12) := rfl
theorem y_243_76 {b : Bool} : g_co (gX b) 243 76 = some (.iload 6) := rfl
theorem y_243_78 {b : Bool} : g_co (gX b) 243 78 = some (.iload_n 3) := rfl
theorem y_243_79 {b : Bool} : g_co (gX b) 243 79 = some (.if_icmp .ge 6) := rfl
theorem y_243_82 {b : Bool} : g_co (gX b) 243 82 = some (.iinc 5 1) := rfl
theorem y_243_85 {b : Bool} : g_co (gX b) 243 85 = some (.iinc 6 1) := rfl
theorem y_243_88 {b : Bool} : g_co (gX b) 243 88 = some (.goto (-48)) := rfl
theorem y_243_91 {b : Bool} : g_co (gX b) 243 91 = some (.iload 5) := rfl
theorem y_243_93 {b : Bool} : g_co (gX b) 243 93 = some (.iload_n 1) := rfl
theorem y_243_94 {b : Bool} : g_co (gX b) 243 94 = some (.if_icmp .ne 13) := rfl
theorem y_243_97 {b : Bool} : g_co (gX b) 243 97 = some (.aload_n 0) := rfl
theorem y_243_98 {b : Bool} : g_co (gX b) 243 98 = some (.getfield 11) := rfl
theorem y_243_101 {b : Bool} : g_co (gX b) 243 101 = some (.bipush 32) := rfl
theorem y_243_103 {b : Bool} : g_co (gX b) 243 103 = some (.iload_n 3) := rfl
theorem y_243_104 {b : Bool} : g_co (gX b) 243 104 = some (.iadd) := rfl
theorem y_243_105 {b : Bool} : g_co (gX b) 243 105 = some (.iaload) := rfl
theorem y_243_106 {b : Bool} : g_co (gX b) 243 106 = some (.ireturn) := rfl
theorem y_243_107 {b : Bool} : g_co (gX b) 243 107 = some (.iinc 3 1) := rfl
theorem y_243_110 {b : Bool} : g_co (gX b) 243 110 = some (.goto (-96)) := rfl
theorem y_243_113 {b : Bool} : g_co (gX b) 243 113 = some (.iconst (-1)) := rfl
theorem y_243_114 {b : Bool} : g_co (gX b) 243 114 = some (.ireturn) := rfl
theorem yf_243_11 {b : Bool} : g_fl (gX b) 243 11 = some (3, 0, 9) := rfl
theorem yn_243_31 {b : Bool} : g_ml (gX b) 243 31 = none := rfl
theorem yz_243_31 {b : Bool} : g_nt (gX b) 243 31 = 3 := rfl
theorem yx_244 {b : Bool} : g_mx (gX b) 244 = 1 := rfl
theorem yt_244 {b : Bool} : g_rt (gX b) 244 = 0 := rfl
theorem y_244_0 {b : Bool} : g_co (gX b) 244 0 = some (.aload_n 0) := rfl
theorem y_244_1 {b : Bool} : g_co (gX b) 244 1 = some (.aload_n 0) := rfl
theorem y_244_2 {b : Bool} : g_co (gX b) 244 2 = some (.iconst 0) := rfl
theorem y_244_3 {b : Bool} : g_co (gX b) 244 3 = some (.invokevirtual 36) := rfl
theorem y_244_6 {b : Bool} : g_co (gX b) 244 6 = some (.putfield 17) := rfl
theorem y_244_9 {b : Bool} : g_co (gX b) 244 9 = some (.return_) := rfl
theorem ym_244_36 {b : Bool} : g_ml (gX b) 244 36 = some (0, 248, 1, 4) := rfl
theorem yf_244_17 {b : Bool} : g_fl (gX b) 244 17 = some (4, 1, 0) := rfl
theorem yx_245 {b : Bool} : g_mx (gX b) 245 = 3 := rfl
theorem yt_245 {b : Bool} : g_rt (gX b) 245 = 1 := rfl
theorem y_245_0 {b : Bool} : g_co (gX b) 245 0 = some (.aload_n 0) := rfl
theorem y_245_1 {b : Bool} : g_co (gX b) 245 1 = some (.getfield 31) := rfl
theorem y_245_4 {b : Bool} : g_co (gX b) 245 4 = some (.aload_n 0) := rfl
theorem y_245_5 {b : Bool} : g_co (gX b) 245 5 = some (.getfield 13) := rfl
theorem y_245_8 {b : Bool} : g_co (gX b) 245 8 = some (.iload_n 1) := rfl
theorem y_245_9 {b : Bool} : g_co (gX b) 245 9 = some (.aaload) := rfl
theorem y_245_10 {b : Bool} : g_co (gX b) 245 10 = some (.iload_n 2) := rfl
theorem y_245_11 {b : Bool} : g_co (gX b) 245 11 = some (.invokevirtual 40) := rfl
theorem y_245_14 {b : Bool} : g_co (gX b) 245 14 = some (.ifCond .ne 5) := rfl
theorem y_245_17 {b : Bool} : g_co (gX b) 245 17 = some (.iconst (-1)) := rfl
theorem y_245_18 {b : Bool} : g_co (gX b) 245 18 = some (.ireturn) := rfl
theorem y_245_19 {b : Bool} : g_co (gX b) 245 19 = some (.aload_n 0) := rfl
theorem y_245_20 {b : Bool} : g_co (gX b) 245 20 = some (.dup) := rfl
theorem y_245_21 {b : Bool} : g_co (gX b) 245 21 = some (.getfield 17) := rfl
theorem y_245_24 {b : Bool} : g_co (gX b) 245 24 = some (.aload_n 0) := rfl
theorem y_245_25 {b : Bool} : g_co (gX b) 245 25 = some (.iconst 0) := rfl
theorem y_245_26 {b : Bool} : g_co (gX b) 245 26 = some (.iload_n 1) := rfl
theorem y_245_27 {b : Bool} : g_co (gX b) 245 27 = some (.iload_n 2) := rfl
theorem y_245_28 {b : Bool} : g_co (gX b) 245 28 = some (.invokevirtual 46) := rfl
theorem y_245_31 {b : Bool} : g_co (gX b) 245 31 = some (.iadd) := rfl
theorem y_245_32 {b : Bool} : g_co (gX b) 245 32 = some (.putfield 17) := rfl
theorem y_245_35 {b : Bool} : g_co (gX b) 245 35 = some (.aload_n 0) := rfl
theorem y_245_36 {b : Bool} : g_co (gX b) 245 36 = some (.getfield 17) := rfl
theorem y_245_39 {b : Bool} : g_co (gX b) 245 39 = some (.ireturn) := rfl
theorem yf_245_31 {b : Bool} : g_fl (gX b) 245 31 = some (4, 2, 9) := rfl
theorem yf_245_13 {b : Bool} : g_fl (gX b) 245 13 = some (4, 0, 9) := rfl
theorem ym_245_40 {b : Bool} : g_ml (gX b) 245 40 = some (0, 206, 2, 1) := rfl
theorem yf_245_17 {b : Bool} : g_fl (gX b) 245 17 = some (4, 1, 0) := rfl
theorem ym_245_46 {b : Bool} : g_ml (gX b) 245 46 = some (0, 249, 3, 4) := rfl
theorem yx_246 {b : Bool} : g_mx (gX b) 246 = 1 := rfl
theorem yt_246 {b : Bool} : g_rt (gX b) 246 = 0 := rfl
theorem y_246_0 {b : Bool} : g_co (gX b) 246 0 = some (.aload_n 0) := rfl
theorem y_246_1 {b : Bool} : g_co (gX b) 246 1 = some (.iconst (-1)) := rfl
theorem y_246_2 {b : Bool} : g_co (gX b) 246 2 = some (.putfield 25) := rfl
theorem y_246_5 {b : Bool} : g_co (gX b) 246 5 = some (.aload_n 0) := rfl
theorem y_246_6 {b : Bool} : g_co (gX b) 246 6 = some (.iconst (-1)) := rfl
theorem y_246_7 {b : Bool} : g_co (gX b) 246 7 = some (.putfield 28) := rfl
theorem y_246_10 {b : Bool} : g_co (gX b) 246 10 = some (.return_) := rfl
theorem yf_246_25 {b : Bool} : g_fl (gX b) 246 25 = some (4, 4, 0) := rfl
theorem yf_246_28 {b : Bool} : g_fl (gX b) 246 28 = some (4, 5, 0) := rfl
theorem yx_247 {b : Bool} : g_mx (gX b) 247 = 4 := rfl
theorem yt_247 {b : Bool} : g_rt (gX b) 247 = 1 := rfl
theorem y_247_0 {b : Bool} : g_co (gX b) 247 0 = some (.aload_n 0) := rfl
theorem y_247_1 {b : Bool} : g_co (gX b) 247 1 = some (.getfield 28) := rfl
theorem y_247_4 {b : Bool} : g_co (gX b) 247 4 = some (.iconst 1) := rfl
theorem y_247_5 {b : Bool} : g_co (gX b) 247 5 = some (.iadd) := rfl
theorem y_247_6 {b : Bool} : g_co (gX b) 247 6 = some (.istore_n 2) := rfl
theorem y_247_7 {b : Bool} : g_co (gX b) 247 7 = some (.iload_n 2) := rfl
theorem y_247_8 {b : Bool} : g_co (gX b) 247 8 = some (.iload_n 1) := rfl
theorem y_247_9 {b : Bool} : g_co (gX b) 247 9 = some (.if_icmp .gt 53) := rfl
theorem y_247_12 {b : Bool} : g_co (gX b) 247 12 = some (.aload_n 0) := rfl
theorem y_247_13 {b : Bool} : g_co (gX b) 247 13 = some (.getfield 25) := rfl
theorem y_247_16 {b : Bool} : g_co (gX b) 247 16 = some (.ifCond .ge 46) := rfl
theorem y_247_19 {b : Bool} : g_co (gX b) 247 19 = some (.aload_n 0) := rfl
theorem y_247_20 {b : Bool} : g_co (gX b) 247 20 = some (.iconst 2) := rfl
theorem y_247_21 {b : Bool} : g_co (gX b) 247 21 = some (.invokevirtual 36) := rfl
theorem y_247_24 {b : Bool} : g_co (gX b) 247 24 = some (.ifCond .gt 12) := rfl
theorem y_247_27 {b : Bool} : g_co (gX b) 247 27 = some (.aload_n 0) := rfl
theorem y_247_28 {b : Bool} : g_co (gX b) 247 28 = some (.iconst 2) := rfl
theorem y_247_29 {b : Bool} : g_co (gX b) 247 29 = some (.iload_n 2) := rfl
theorem y_247_30 {b : Bool} : g_co (gX b) 247 30 = some (.invokevirtual 50) := rfl
theorem y_247_33 {b : Bool} : g_co (gX b) 247 33 = some (.ifCond .eq 7) := rfl
theorem y_247_36 {b : Bool} : g_co (gX b) 247 36 = some (.iconst 1) := rfl
theorem y_247_37 {b : Bool} : g_co (gX b) 247 37 = some (.goto 4) := rfl
theorem y_247_40 {b : Bool} : g_co (gX b) 247 40 = some (.iconst 0) := rfl
theorem y_247_41 {b : Bool} : g_co (gX b) 247 41 = some (.istore_n 3) := rfl
theorem y_247_42 {b : Bool} : g_co (gX b) 247 42 = some (.iload_n 3) := rfl
theorem y_247_43 {b : Bool} : g_co (gX b) 247 43 = some (.ifCond .eq 8) := rfl
theorem y_247_46 {b : Bool} : g_co (gX b) 247 46 = some (.aload_n 0) := rfl
theorem y_247_47 {b : Bool} : g_co (gX b) 247 47 = some (.iload_n 2) := rfl
theorem y_247_48 {b : Bool} : g_co (gX b) 247 48 = some (.putfield 25) := rfl
theorem y_247_51 {b : Bool} : g_co (gX b) 247 51 = some (.aload_n 0) := rfl
theorem y_247_52 {b : Bool} : g_co (gX b) 247 52 = some (.iload_n 2) := rfl
theorem y_247_53 {b : Bool} : g_co (gX b) 247 53 = some (.putfield 28) := rfl
theorem y_247_56 {b : Bool} : g_co (gX b) 247 56 = some (.iinc 2 1) := rfl
theorem y_247_59 {b : Bool} : g_co (gX b) 247 59 = some (.goto (-52)) := rfl
theorem y_247_62 {b : Bool} : g_co (gX b) 247 62 = some (.aload_n 0) := rfl
theorem y_247_63 {b : Bool} : g_co (gX b) 247 63 = some (.getfield 25) := rfl
theorem y_247_66 {b : Bool} : g_co (gX b) 247 66 = some (.ifCond .lt 18) := rfl
theorem y_247_69 {b : Bool} : g_co (gX b) 247 69 = some (.aload_n 0) := rfl
theorem y_247_70 {b : Bool} : g_co (gX b) 247 70 = some (.getfield 25) := rfl
theorem y_247_73 {b : Bool} : g_co (gX b) 247 73 = some (.iload_n 1) := rfl
theorem y_247_74 {b : Bool} : g_co (gX b) 247 74 = some (.if_icmp .gt 10) := rfl
theorem y_247_77 {b : Bool} : g_co (gX b) 247 77 = some (.aload_n 0) := rfl
theorem y_247_78 {b : Bool} : g_co (gX b) 247 78 = some (.getfield 25) := rfl
theorem y_247_81 {b : Bool} : g_co (gX b) 247 81 = some (.goto 4) := rfl
theorem y_247_84 {b : Bool} : g_co (gX b) 247 84 = some (.iconst (-1)) := rfl
theorem y_247_85 {b : Bool} : g_co (gX b) 247 85 = some (.ireturn) := rfl
theorem yf_247_28 {b : Bool} : g_fl (gX b) 247 28 = some (4, 5, 0) := rfl
theorem yf_247_25 {b : Bool} : g_fl (gX b) 247 25 = some (4, 4, 0) := rfl
theorem ym_247_36 {b : Bool} : g_ml (gX b) 247 36 = some (0, 248, 1, 4) := rfl
theorem ym_247_50 {b : Bool} : g_ml (gX b) 247 50 = some (0, 250, 2, 4) := rfl
theorem yx_248 {b : Bool} : g_mx (gX b) 248 = 2 := rfl
theorem yt_248 {b : Bool} : g_rt (gX b) 248 = 1 := rfl
theorem y_248_0 {b : Bool} : g_co (gX b) 248 0 = some (.aload_n 0) := rfl
theorem y_248_1 {b : Bool} : g_co (gX b) 248 1 = some (.getfield 13) := rfl
theorem y_248_4 {b : Bool} : g_co (gX b) 248 4 = some (.iload_n 1) := rfl
theorem y_248_5 {b : Bool} : g_co (gX b) 248 5 = some (.aaload) := rfl
theorem y_248_6 {b : Bool} : g_co (gX b) 248 6 = some (.invokevirtual 54) := rfl
theorem y_248_9 {b : Bool} : g_co (gX b) 248 9 = some (.aload_n 0) := rfl
theorem y_248_10 {b : Bool} : g_co (gX b) 248 10 = some (.getfield 13) := rfl
theorem y_248_13 {b : Bool} : g_co (gX b) 248 13 = some (.iload_n 1) := rfl
theorem y_248_14 {b : Bool} : g_co (gX b) 248 14 = some (.iconst 1) := rfl
theorem y_248_15 {b : Bool} : g_co (gX b) 248 15 = some (.iadd) := rfl
theorem y_248_16 {b : Bool} : g_co (gX b) 248 16 = some (.aaload) := rfl
theorem y_248_17 {b : Bool} : g_co (gX b) 248 17 = some (.invokevirtual 54) := rfl
theorem y_248_20 {b : Bool} : g_co (gX b) 248 20 = some (.aload_n 0) := rfl
theorem y_248_21 {b : Bool} : g_co (gX b) 248 21 = some (.getfield 21) := rfl
theorem y_248_24 {b : Bool} : g_co (gX b) 248 24 = some (.iload_n 1) := rfl
theorem y_248_25 {b : Bool} : g_co (gX b) 248 25 = some (.iconst 0) := rfl
theorem y_248_26 {b : Bool} : g_co (gX b) 248 26 = some (.iastore) := rfl
theorem y_248_27 {b : Bool} : g_co (gX b) 248 27 = some (.aload_n 0) := rfl
theorem y_248_28 {b : Bool} : g_co (gX b) 248 28 = some (.getfield 21) := rfl
theorem y_248_31 {b : Bool} : g_co (gX b) 248 31 = some (.iload_n 1) := rfl
theorem y_248_32 {b : Bool} : g_co (gX b) 248 32 = some (.iconst 1) := rfl
theorem y_248_33 {b : Bool} : g_co (gX b) 248 33 = some (.iadd) := rfl
theorem y_248_34 {b : Bool} : g_co (gX b) 248 34 = some (.iconst 0) := rfl
theorem y_248_35 {b : Bool} : g_co (gX b) 248 35 = some (.iastore) := rfl
theorem y_248_36 {b : Bool} : g_co (gX b) 248 36 = some (.aload_n 0) := rfl
theorem y_248_37 {b : Bool} : g_co (gX b) 248 37 = some (.iload_n 1) := rfl
theorem y_248_38 {b : Bool} : g_co (gX b) 248 38 = some (.iconst 0) := rfl
theorem y_248_39 {b : Bool} : g_co (gX b) 248 39 = some (.iconst (-1)) := rfl
theorem y_248_40 {b : Bool} : g_co (gX b) 248 40 = some (.invokevirtual 46) := rfl
theorem y_248_43 {b : Bool} : g_co (gX b) 248 43 = some (.aload_n 0) := rfl
theorem y_248_44 {b : Bool} : g_co (gX b) 248 44 = some (.iload_n 1) := rfl
theorem y_248_45 {b : Bool} : g_co (gX b) 248 45 = some (.iconst 1) := rfl
theorem y_248_46 {b : Bool} : g_co (gX b) 248 46 = some (.iconst (-1)) := rfl
theorem y_248_47 {b : Bool} : g_co (gX b) 248 47 = some (.invokevirtual 46) := rfl
theorem y_248_50 {b : Bool} : g_co (gX b) 248 50 = some (.iadd) := rfl
theorem y_248_51 {b : Bool} : g_co (gX b) 248 51 = some (.ireturn) := rfl
theorem yf_248_13 {b : Bool} : g_fl (gX b) 248 13 = some (4, 0, 9) := rfl
theorem ym_248_54 {b : Bool} : g_ml (gX b) 248 54 = some (0, 225, 0, 3) := rfl
theorem yf_248_21 {b : Bool} : g_fl (gX b) 248 21 = some (4, 3, 9) := rfl
theorem ym_248_46 {b : Bool} : g_ml (gX b) 248 46 = some (0, 249, 3, 4) := rfl
theorem yx_249 {b : Bool} : g_mx (gX b) 249 = 6 := rfl
theorem yt_249 {b : Bool} : g_rt (gX b) 249 = 1 := rfl
theorem y_249_0 {b : Bool} : g_co (gX b) 249 0 = some (.aload_n 0) := rfl
theorem y_249_1 {b : Bool} : g_co (gX b) 249 1 = some (.getfield 13) := rfl
theorem y_249_4 {b : Bool} : g_co (gX b) 249 4 = some (.iload_n 1) := rfl
theorem y_249_5 {b : Bool} : g_co (gX b) 249 5 = some (.iload_n 2) := rfl
theorem y_249_6 {b : Bool} : g_co (gX b) 249 6 = some (.iadd) := rfl
theorem y_249_7 {b : Bool} : g_co (gX b) 249 7 = some (.aaload) := rfl
theorem y_249_8 {b : Bool} : g_co (gX b) 249 8 = some (.astore 4) := rfl
theorem y_249_10 {b : Bool} : g_co (gX b) 249 10 = some (.aload_n 0) := rfl
theorem y_249_11 {b : Bool} : g_co (gX b) 249 11 = some (.getfield 13) := rfl
theorem y_249_14 {b : Bool} : g_co (gX b) 249 14 = some (.iload_n 1) := rfl
theorem y_249_15 {b : Bool} : g_co (gX b) 249 15 = some (.iconst 1) := rfl
theorem y_249_16 {b : Bool} : g_co (gX b) 249 16 = some (.iadd) := rfl
theorem y_249_17 {b : Bool} : g_co (gX b) 249 17 = some (.iload_n 2) := rfl
theorem y_249_18 {b : Bool} : g_co (gX b) 249 18 = some (.isub) := rfl
theorem y_249_19 {b : Bool} : g_co (gX b) 249 19 = some (.aaload) := rfl
theorem y_249_20 {b : Bool} : g_co (gX b) 249 20 = some (.astore 5) := rfl
theorem y_249_22 {b : Bool} : g_co (gX b) 249 22 = some (.aload_n 0) := rfl
theorem y_249_23 {b : Bool} : g_co (gX b) 249 23 = some (.getfield 31) := rfl
theorem y_249_26 {b : Bool} : g_co (gX b) 249 26 = some (.aload_n 0) := rfl
theorem y_249_27 {b : Bool} : g_co (gX b) 249 27 = some (.getfield 21) := rfl
theorem y_249_30 {b : Bool} : g_co (gX b) 249 30 = some (.iload_n 1) := rfl
theorem y_249_31 {b : Bool} : g_co (gX b) 249 31 = some (.iload_n 2) := rfl
theorem y_249_32 {b : Bool} : g_co (gX b) 249 32 = some (.iadd) := rfl
theorem y_249_33 {b : Bool} : g_co (gX b) 249 33 = some (.iaload) := rfl
theorem y_249_34 {b : Bool} : g_co (gX b) 249 34 = some (.putfield 57) := rfl
theorem y_249_37 {b : Bool} : g_co (gX b) 249 37 = some (.aload_n 0) := rfl
theorem y_249_38 {b : Bool} : g_co (gX b) 249 38 = some (.getfield 31) := rfl
theorem y_249_41 {b : Bool} : g_co (gX b) 249 41 = some (.iconst 0) := rfl
theorem y_249_42 {b : Bool} : g_co (gX b) 249 42 = some (.putfield 59) := rfl
theorem y_249_45 {b : Bool} : g_co (gX b) 249 45 = some (.iload_n 3) := rfl
theorem y_249_46 {b : Bool} : g_co (gX b) 249 46 = some (.iconst (-1)) := rfl
theorem y_249_47 {b : Bool} : g_co (gX b) 249 47 = some (.if_icmp .ne 15) := rfl
theorem y_249_50 {b : Bool} : g_co (gX b) 249 50 = some (.aload_n 0) := rfl
theorem y_249_51 {b : Bool} : g_co (gX b) 249 51 = some (.getfield 31) := rfl
theorem y_249_54 {b : Bool} : g_co (gX b) 249 54 = some (.aload 4) := rfl
theorem y_249_56 {b : Bool} : g_co (gX b) 249 56 = some (.invokevirtual 60) := rfl
theorem y_249_59 {b : Bool} : g_co (gX b) 249 59 = some (.goto 15) := rfl
theorem y_249_62 {b : Bool} : g_co (gX b) 249 62 = some (.aload_n 0) := rfl
theorem y_249_63 {b : Bool} : g_co (gX b) 249 63 = some (.getfield 31) := rfl
theorem y_249_66 {b : Bool} : g_co (gX b) 249 66 = some (.aload 4) := rfl
theorem y_249_68 {b : Bool} : g_co (gX b) 249 68 = some (.iload_n 3) := rfl
theorem y_249_69 {b : Bool} : g_co (gX b) 249 69 = some (.iconst (-1)) := rfl
theorem y_249_70 {b : Bool} : g_co (gX b) 249 70 = some (.invokevirtual 63) := rfl
theorem y_249_73 {b : Bool} : g_co (gX b) 249 73 = some (.pop) := rfl
theorem y_249_74 {b : Bool} : g_co (gX b) 249 74 = some (.aload_n 0) := rfl
theorem y_249_75 {b : Bool} : g_co (gX b) 249 75 = some (.getfield 21) := rfl
theorem y_249_78 {b : Bool} : g_co (gX b) 249 78 = some (.iload_n 1) := rfl
theorem y_249_79 {b : Bool} : g_co (gX b) 249 79 = some (.iload_n 2) := rfl
theorem y_249_80 {b : Bool} : g_co (gX b) 249 80 = some (.iadd) := rfl
theorem y_249_81 {b : Bool} : g_co (gX b) 249 81 = some (.aload_n 0) := rfl
theorem y_249_82 {b : Bool} : g_co (gX b) 249 82 = some (.getfield 31) := rfl
theorem y_249_85 {b : Bool} : g_co (gX b) 249 85 = some (.getfield 57) := rfl
theorem y_249_88 {b : Bool} : g_co (gX b) 249 88 = some (.iastore) := rfl
theorem y_249_89 {b : Bool} : g_co (gX b) 249 89 = some (.aload_n 0) := rfl
theorem y_249_90 {b : Bool} : g_co (gX b) 249 90 = some (.getfield 21) := rfl
theorem y_249_93 {b : Bool} : g_co (gX b) 249 93 = some (.iload_n 1) := rfl
theorem y_249_94 {b : Bool} : g_co (gX b) 249 94 = some (.iconst 1) := rfl
theorem y_249_95 {b : Bool} : g_co (gX b) 249 95 = some (.iadd) := rfl
theorem y_249_96 {b : Bool} : g_co (gX b) 249 96 = some (.iload_n 2) := rfl
theorem y_249_97 {b : Bool} : g_co (gX b) 249 97 = some (.isub) := rfl
theorem y_249_98 {b : Bool} : g_co (gX b) 249 98 = some (.dup2) := rfl
theorem y_249_99 {b : Bool} : g_co (gX b) 249 99 = some (.iaload) := rfl
theorem y_249_100 {b : Bool} : g_co (gX b) 249 100 = some (.aload_n 0) := rfl
theorem y_249_101 {b : Bool} : g_co (gX b) 249 101 = some (.getfield 31) := rfl
theorem y_249_104 {b : Bool} : g_co (gX b) 249 104 = some (.getfield 67) := rfl
theorem y_249_107 {b : Bool} : g_co (gX b) 249 107 = some (.bipush 16) := rfl
theorem y_249_109 {b : Bool} : g_co (gX b) 249 109 = some (.ishr) := rfl
theorem y_249_110 {b : Bool} : g_co (gX b) 249 110 = some (.bipush 15) := rfl
theorem y_249_112 {b : Bool} : g_co (gX b) 249 112 = some (.iand) := rfl
theorem y_249_113 {b : Bool} : g_co (gX b) 249 113 = some (.ior) := rfl
theorem y_249_114 {b : Bool} : g_co (gX b) 249 114 = some (.iastore) := rfl
theorem y_249_115 {b : Bool} : g_co (gX b) 249 115 = some (.aload 4) := rfl
theorem y_249_117 {b : Bool} : g_co (gX b) 249 117 = some (.getfield 70) := rfl
theorem y_249_120 {b : Bool} : g_co (gX b) 249 120 = some (.bipush 10) := rfl
theorem y_249_122 {b : Bool} : g_co (gX b) 249 122 = some (.aload 5) := rfl
theorem y_249_124 {b : Bool} : g_co (gX b) 249 124 = some (.getfield 70) := rfl
theorem y_249_127 {b : Bool} : g_co (gX b) 249 127 = some (.bipush 10) := rfl
theorem y_249_129 {b : Bool} : g_co (gX b) 249 129 = some (.iconst 4) := rfl
theorem y_249_130 {b : Bool} : g_co (gX b) 249 130 = some (.invokestatic 73) := rfl
theorem y_249_133 {b : Bool} : g_co (gX b) 249 133 = some (.aload_n 0) := rfl
theorem y_249_134 {b : Bool} : g_co (gX b) 249 134 = some (.getfield 31) := rfl
theorem y_249_137 {b : Bool} : g_co (gX b) 249 137 = some (.iconst 0) := rfl
theorem y_249_138 {b : Bool} : g_co (gX b) 249 138 = some (.putfield 57) := rfl
theorem y_249_141 {b : Bool} : g_co (gX b) 249 141 = some (.aload_n 0) := rfl
theorem y_249_142 {b : Bool} : g_co (gX b) 249 142 = some (.getfield 31) := rfl
theorem y_249_145 {b : Bool} : g_co (gX b) 249 145 = some (.getfield 59) := rfl
theorem y_249_148 {b : Bool} : g_co (gX b) 249 148 = some (.ireturn) := rfl
theorem yf_249_13 {b : Bool} : g_fl (gX b) 249 13 = some (4, 0, 9) := rfl
theorem yf_249_31 {b : Bool} : g_fl (gX b) 249 31 = some (4, 2, 9) := rfl
theorem yf_249_21 {b : Bool} : g_fl (gX b) 249 21 = some (4, 3, 9) := rfl
theorem yf_249_57 {b : Bool} : g_fl (gX b) 249 57 = some (1, 5, 0) := rfl
theorem yf_249_59 {b : Bool} : g_fl (gX b) 249 59 = some (1, 6, 0) := rfl
theorem ym_249_60 {b : Bool} : g_ml (gX b) 249 60 = some (0, 208, 1, 1) := rfl
theorem ym_249_63 {b : Bool} : g_ml (gX b) 249 63 = some (0, 209, 3, 1) := rfl
theorem yf_249_67 {b : Bool} : g_fl (gX b) 249 67 = some (1, 4, 0) := rfl
theorem yf_249_70 {b : Bool} : g_fl (gX b) 249 70 = some (3, 0, 9) := rfl
theorem yn_249_73 {b : Bool} : g_ml (gX b) 249 73 = none := rfl
theorem yz_249_73 {b : Bool} : g_nt (gX b) 249 73 = 1 := rfl
theorem yx_250 {b : Bool} : g_mx (gX b) 250 = 9 := rfl
theorem yt_250 {b : Bool} : g_rt (gX b) 250 = 2 := rfl
theorem y_250_0 {b : Bool} : g_co (gX b) 250 0 = some (.iload_n 1) := rfl
theorem y_250_1 {b : Bool} : g_co (gX b) 250 1 = some (.iconst 2) := rfl
theorem y_250_2 {b : Bool} : g_co (gX b) 250 2 = some (.iadd) := rfl
theorem y_250_3 {b : Bool} : g_co (gX b) 250 3 = some (.istore_n 3) := rfl
theorem y_250_4 {b : Bool} : g_co (gX b) 250 4 = some (.iload_n 2) := rfl
theorem y_250_5 {b : Bool} : g_co (gX b) 250 5 = some (.ifCond .le 11) := rfl
theorem y_250_8 {b : Bool} : g_co (gX b) 250 8 = some (.iload_n 3) := rfl
theorem y_250_9 {b : Bool} : g_co (gX b) 250 9 = some (.iconst 1) := rfl
theorem y_250_10 {b : Bool} : g_co (gX b) 250 10 = some (.iadd) := rfl
theorem y_250_11 {b : Bool} : g_co (gX b) 250 11 = some (.bipush 10) := rfl
theorem y_250_13 {b : Bool} : g_co (gX b) 250 13 = some (.if_icmp .lt 5) := rfl
theorem y_250_16 {b : Bool} : g_co (gX b) 250 16 = some (.iconst 0) := rfl
theorem y_250_17 {b : Bool} : g_co (gX b) 250 17 = some (.ireturn) := rfl
theorem y_250_18 {b : Bool} : g_co (gX b) 250 18 = some (.iconst 0) := rfl
theorem y_250_19 {b : Bool} : g_co (gX b) 250 19 = some (.istore 4) := rfl
theorem y_250_21 {b : Bool} : g_co (gX b) 250 21 = some (.iload 4) := rfl
theorem y_250_23 {b : Bool} : g_co (gX b) 250 23 = some (.iconst 2) := rfl
theorem y_250_24 {b : Bool} : g_co (gX b) 250 24 = some (.if_icmp .ge 196) := rfl
theorem y_250_27 {b : Bool} : g_co (gX b) 250 27 = some (.aload_n 0) := rfl
theorem y_250_28 {b : Bool} : g_co (gX b) 250 28 = some (.getfield 13) := rfl
theorem y_250_31 {b : Bool} : g_co (gX b) 250 31 = some (.iload_n 1) := rfl
theorem y_250_32 {b : Bool} : g_co (gX b) 250 32 = some (.iload 4) := rfl
theorem y_250_34 {b : Bool} : g_co (gX b) 250 34 = some (.iadd) := rfl
theorem y_250_35 {b : Bool} : g_co (gX b) 250 35 = some (.aaload) := rfl
theorem y_250_36 {b : Bool} : g_co (gX b) 250 36 = some (.astore 5) := rfl
theorem y_250_38 {b : Bool} : g_co (gX b) 250 38 = some (.aload 5) := rfl
theorem y_250_40 {b : Bool} : g_co (gX b) 250 40 = some (.invokevirtual 79) := rfl
theorem y_250_43 {b : Bool} : g_co (gX b) 250 43 = some (.ifCond .ne 7) := rfl
theorem y_250_46 {b : Bool} : g_co (gX b) 250 46 = some (.iconst 1) := rfl
theorem y_250_47 {b : Bool} : g_co (gX b) 250 47 = some (.goto 4) := rfl
theorem y_250_50 {b : Bool} : g_co (gX b) 250 50 = some (.iconst 0) := rfl
theorem y_250_51 {b : Bool} : g_co (gX b) 250 51 = some (.istore 6) := rfl
theorem y_250_53 {b : Bool} : g_co (gX b) 250 53 = some (.iconst 0) := rfl
theorem y_250_54 {b : Bool} : g_co (gX b) 250 54 = some (.istore 7) := rfl
theorem y_250_56 {b : Bool} : g_co (gX b) 250 56 = some (.iload 7) := rfl
theorem y_250_58 {b : Bool} : g_co (gX b) 250 58 = some (.bipush 13) := rfl
theorem y_250_60 {b : Bool} : g_co (gX b) 250 60 = some (.if_icmp .ge 154) := rfl
theorem y_250_63 {b : Bool} : g_co (gX b) 250 63 = some (.aload_n 0) := rfl
theorem y_250_64 {b : Bool} : g_co (gX b) 250 64 = some (.getfield 31) := rfl
theorem y_250_67 {b : Bool} : g_co (gX b) 250 67 = some (.getfield 83) := rfl
theorem y_250_70 {b : Bool} : g_co (gX b) 250 70 = some (.iload 7) := rfl
theorem y_250_72 {b : Bool} : g_co (gX b) 250 72 = some (.invokevirtual 87) := rfl
theorem y_250_75 {b : Bool} : g_co (gX b) 250 75 = some (.istore 8) := rfl
theorem y_250_77 {b : Bool} : g_co (gX b) 250 77 = some (.iload 8) := rfl
theorem y_250_79 {b : Bool} : g_co (gX b) 250 79 = some (.ifCond .eq 8) := rfl
theorem y_250_82 {b : Bool} : g_co (gX b) 250 82 = some (.iload 6) := rfl
theorem y_250_84 {b : Bool} : g_co (gX b) 250 84 = some (.ifCond .ne 124) := rfl
theorem y_250_87 {b : Bool} : g_co (gX b) 250 87 = some (.aload_n 0) := rfl
theorem y_250_88 {b : Bool} : g_co (gX b) 250 88 = some (.getfield 31) := rfl
theorem y_250_91 {b : Bool} : g_co (gX b) 250 91 = some (.aload 5) := rfl
theorem y_250_93 {b : Bool} : g_co (gX b) 250 93 = some (.iload 7) := rfl
theorem y_250_95 {b : Bool} : g_co (gX b) 250 95 = some (.invokevirtual 40) := rfl
theorem y_250_98 {b : Bool} : g_co (gX b) 250 98 = some (.ifCond .ne 6) := rfl
theorem y_250_101 {b : Bool} : g_co (gX b) 250 101 = some (.goto 107) := rfl
theorem y_250_104 {b : Bool} : g_co (gX b) 250 104 = some (.iload 6) := rfl
theorem y_250_106 {b : Bool} : g_co (gX b) 250 106 = some (.ifCond .ne 8) := rfl
theorem y_250_109 {b : Bool} : g_co (gX b) 250 109 = some (.iload 8) := rfl
theorem y_250_111 {b : Bool} : g_co (gX b) 250 111 = some (.ifCond .eq 7) := rfl
theorem y_250_114 {b : Bool} : g_co (gX b) 250 114 = some (.iconst 1) := rfl
theorem y_250_115 {b : Bool} : g_co (gX b) 250 115 = some (.goto 4) := rfl
theorem y_250_118 {b : Bool} : g_co (gX b) 250 118 = some (.iconst 0) := rfl
theorem y_250_119 {b : Bool} : g_co (gX b) 250 119 = some (.istore 6) := rfl
theorem y_250_121 {b : Bool} : g_co (gX b) 250 121 = some (.aload_n 0) := rfl
theorem y_250_122 {b : Bool} : g_co (gX b) 250 122 = some (.getfield 13) := rfl
theorem y_250_125 {b : Bool} : g_co (gX b) 250 125 = some (.iload_n 3) := rfl
theorem y_250_126 {b : Bool} : g_co (gX b) 250 126 = some (.aaload) := rfl
theorem y_250_127 {b : Bool} : g_co (gX b) 250 127 = some (.aload_n 0) := rfl
theorem y_250_128 {b : Bool} : g_co (gX b) 250 128 = some (.getfield 13) := rfl
theorem y_250_131 {b : Bool} : g_co (gX b) 250 131 = some (.iload_n 1) := rfl
theorem y_250_132 {b : Bool} : g_co (gX b) 250 132 = some (.aaload) := rfl
theorem y_250_133 {b : Bool} : g_co (gX b) 250 133 = some (.invokevirtual 93) := rfl
theorem y_250_136 {b : Bool} : g_co (gX b) 250 136 = some (.aload_n 0) := rfl
theorem y_250_137 {b : Bool} : g_co (gX b) 250 137 = some (.getfield 13) := rfl
theorem y_250_140 {b : Bool} : g_co (gX b) 250 140 = some (.iload_n 3) := rfl
theorem y_250_141 {b : Bool} : g_co (gX b) 250 141 = some (.iconst 1) := rfl
theorem y_250_142 {b : Bool} : g_co (gX b) 250 142 = some (.iadd) := rfl
theorem y_250_143 {b : Bool} : g_co (gX b) 250 143 = some (.aaload) := rfl
theorem y_250_144 {b : Bool} : g_co (gX b) 250 144 = some (.aload_n 0) := rfl
theorem y_250_145 {b : Bool} : g_co (gX b) 250 145 = some (.getfield 13) := rfl
theorem y_250_148 {b : Bool} : g_co (gX b) 250 148 = some (.iload_n 1) := rfl
theorem y_250_149 {b : Bool} : g_co (gX b) 250 149 = some (.iconst 1) := rfl
theorem y_250_150 {b : Bool} : g_co (gX b) 250 150 = some (.iadd) := rfl
theorem y_250_151 {b : Bool} : g_co (gX b) 250 151 = some (.aaload) := rfl
theorem y_250_152 {b : Bool} : g_co (gX b) 250 152 = some (.invokevirtual 93) := rfl
theorem y_250_155 {b : Bool} : g_co (gX b) 250 155 = some (.aload_n 0) := rfl
theorem y_250_156 {b : Bool} : g_co (gX b) 250 156 = some (.getfield 21) := rfl
theorem y_250_159 {b : Bool} : g_co (gX b) 250 159 = some (.iload_n 3) := rfl
theorem y_250_160 {b : Bool} : g_co (gX b) 250 160 = some (.aload_n 0) := rfl
theorem y_250_161 {b : Bool} : g_co (gX b) 250 161 = some (.getfield 21) := rfl
theorem y_250_164 {b : Bool} : g_co (gX b) 250 164 = some (.iload_n 1) := rfl
theorem y_250_165 {b : Bool} : g_co (gX b) 250 165 = some (.iaload) := rfl
theorem y_250_166 {b : Bool} : g_co (gX b) 250 166 = some (.iastore) := rfl
theorem y_250_167 {b : Bool} : g_co (gX b) 250 167 = some (.aload_n 0) := rfl
theorem y_250_168 {b : Bool} : g_co (gX b) 250 168 = some (.getfield 21) := rfl
theorem y_250_171 {b : Bool} : g_co (gX b) 250 171 = some (.iload_n 3) := rfl
theorem y_250_172 {b : Bool} : g_co (gX b) 250 172 = some (.iconst 1) := rfl
theorem y_250_173 {b : Bool} : g_co (gX b) 250 173 = some (.iadd) := rfl
theorem y_250_174 {b : Bool} : g_co (gX b) 250 174 = some (.aload_n 0) := rfl
theorem y_250_175 {b : Bool} : g_co (gX b) 250 175 = some (.getfield 21) := rfl
theorem y_250_178 {b : Bool} : g_co (gX b) 250 178 = some (.iload_n 1) := rfl
theorem y_250_179 {b : Bool} : g_co (gX b) 250 179 = some (.iconst 1) := rfl
theorem y_250_180 {b : Bool} : g_co (gX b) 250 180 = some (.iadd) := rfl
theorem y_250_181 {b : Bool} : g_co (gX b) 250 181 = some (.iaload) := rfl
theorem y_250_182 {b : Bool} : g_co (gX b) 250 182 = some (.iastore) := rfl
theorem y_250_183 {b : Bool} : g_co (gX b) 250 183 = some (.aload_n 0) := rfl
theorem y_250_184 {b : Bool} : g_co (gX b) 250 184 = some (.iload_n 3) := rfl
theorem y_250_185 {b : Bool} : g_co (gX b) 250 185 = some (.iload 4) := rfl
theorem y_250_187 {b : Bool} : g_co (gX b) 250 187 = some (.iload 7) := rfl
theorem y_250_189 {b : Bool} : g_co (gX b) 250 189 = some (.invokevirtual 46) := rfl
theorem y_250_192 {b : Bool} : g_co (gX b) 250 192 = some (.ifCond .gt 14) := rfl
theorem y_250_195 {b : Bool} : g_co (gX b) 250 195 = some (.aload_n 0) := rfl
theorem y_250_196 {b : Bool} : g_co (gX b) 250 196 = some (.iload_n 3) := rfl
theorem y_250_197 {b : Bool} : g_co (gX b) 250 197 = some (.iload_n 2) := rfl
theorem y_250_198 {b : Bool} : g_co (gX b) 250 198 = some (.iconst 1) := rfl
theorem y_250_199 {b : Bool} : g_co (gX b) 250 199 = some (.isub) := rfl
theorem y_250_200 {b : Bool} : g_co (gX b) 250 200 = some (.invokevirtual 50) := rfl
theorem y_250_203 {b : Bool} : g_co (gX b) 250 203 = some (.ifCond .eq 5) := rfl
theorem y_250_206 {b : Bool} : g_co (gX b) 250 206 = some (.iconst 1) := rfl
theorem y_250_207 {b : Bool} : g_co (gX b) 250 207 = some (.ireturn) := rfl
theorem y_250_208 {b : Bool} : g_co (gX b) 250 208 = some (.iinc 7 1) := rfl
theorem y_250_211 {b : Bool} : g_co (gX b) 250 211 = some (.goto (-155)) := rfl
theorem y_250_214 {b : Bool} : g_co (gX b) 250 214 = some (.iinc 4 1) := rfl
theorem y_250_217 {b : Bool} : g_co (gX b) 250 217 = some (.goto (-196)) := rfl
theorem y_250_220 {b : Bool} : g_co (gX b) 250 220 = some (.iconst 0) := rfl
theorem y_250_221 {b : Bool} : g_co (gX b) 250 221 = some (.ireturn) := rfl
theorem yf_250_13 {b : Bool} : g_fl (gX b) 250 13 = some (4, 0, 9) := rfl
theorem ym_250_79 {b : Bool} : g_ml (gX b) 250 79 = some (0, 233, 0, 3) := rfl
theorem yf_250_31 {b : Bool} : g_fl (gX b) 250 31 = some (4, 2, 9) := rfl
theorem yf_250_83 {b : Bool} : g_fl (gX b) 250 83 = some (1, 2, 2) := rfl
theorem ym_250_87 {b : Bool} : g_ml (gX b) 250 87 = some (0, 254, 1, 5) := rfl
theorem ym_250_40 {b : Bool} : g_ml (gX b) 250 40 = some (0, 206, 2, 1) := rfl
theorem ym_250_93 {b : Bool} : g_ml (gX b) 250 93 = some (0, 226, 1, 3) := rfl
theorem yf_250_21 {b : Bool} : g_fl (gX b) 250 21 = some (4, 3, 9) := rfl
theorem ym_250_46 {b : Bool} : g_ml (gX b) 250 46 = some (0, 249, 3, 4) := rfl
theorem ym_250_50 {b : Bool} : g_ml (gX b) 250 50 = some (0, 250, 2, 4) := rfl
theorem yx_251 {b : Bool} : g_mx (gX b) 251 = 1 := rfl
theorem yt_251 {b : Bool} : g_rt (gX b) 251 = 0 := rfl
theorem y_251_0 {b : Bool} : g_co (gX b) 251 0 = some (.aload_n 0) := rfl
theorem y_251_1 {b : Bool} : g_co (gX b) 251 1 = some (.getfield 18) := rfl
theorem y_251_4 {b : Bool} : g_co (gX b) 251 4 = some (.iconst (-1)) := rfl
theorem y_251_5 {b : Bool} : g_co (gX b) 251 5 = some (.invokestatic 40) := rfl
theorem y_251_8 {b : Bool} : g_co (gX b) 251 8 = some (.aload_n 0) := rfl
theorem y_251_9 {b : Bool} : g_co (gX b) 251 9 = some (.iconst 0) := rfl
theorem y_251_10 {b : Bool} : g_co (gX b) 251 10 = some (.putfield 21) := rfl
theorem y_251_13 {b : Bool} : g_co (gX b) 251 13 = some (.aload_n 0) := rfl
theorem y_251_14 {b : Bool} : g_co (gX b) 251 14 = some (.iconst 0) := rfl
theorem y_251_15 {b : Bool} : g_co (gX b) 251 15 = some (.putfield 25) := rfl
theorem y_251_18 {b : Bool} : g_co (gX b) 251 18 = some (.aload_n 0) := rfl
theorem y_251_19 {b : Bool} : g_co (gX b) 251 19 = some (.iconst 0) := rfl
theorem y_251_20 {b : Bool} : g_co (gX b) 251 20 = some (.putfield 28) := rfl
theorem y_251_23 {b : Bool} : g_co (gX b) 251 23 = some (.aload_n 0) := rfl
theorem y_251_24 {b : Bool} : g_co (gX b) 251 24 = some (.iconst 0) := rfl
theorem y_251_25 {b : Bool} : g_co (gX b) 251 25 = some (.putfield 31) := rfl
theorem y_251_28 {b : Bool} : g_co (gX b) 251 28 = some (.aload_n 0) := rfl
theorem y_251_29 {b : Bool} : g_co (gX b) 251 29 = some (.iconst (-1)) := rfl
theorem y_251_30 {b : Bool} : g_co (gX b) 251 30 = some (.putfield 34) := rfl
theorem y_251_33 {b : Bool} : g_co (gX b) 251 33 = some (.aload_n 0) := rfl
theorem y_251_34 {b : Bool} : g_co (gX b) 251 34 = some (.iconst (-1)) := rfl
theorem y_251_35 {b : Bool} : g_co (gX b) 251 35 = some (.putfield 37) := rfl
theorem y_251_38 {b : Bool} : g_co (gX b) 251 38 = some (.return_) := rfl
theorem yf_251_18 {b : Bool} : g_fl (gX b) 251 18 = some (5, 2, 9) := rfl
theorem ym_251_40 {b : Bool} : g_ml (gX b) 251 40 = some (1, 503, 2, 0) := rfl
theorem yf_251_21 {b : Bool} : g_fl (gX b) 251 21 = some (5, 3, 0) := rfl
theorem yf_251_25 {b : Bool} : g_fl (gX b) 251 25 = some (5, 4, 0) := rfl
theorem yf_251_28 {b : Bool} : g_fl (gX b) 251 28 = some (5, 5, 0) := rfl
theorem yf_251_31 {b : Bool} : g_fl (gX b) 251 31 = some (5, 6, 0) := rfl
theorem yf_251_34 {b : Bool} : g_fl (gX b) 251 34 = some (5, 7, 0) := rfl
theorem yf_251_37 {b : Bool} : g_fl (gX b) 251 37 = some (5, 8, 0) := rfl
theorem yx_252 {b : Bool} : g_mx (gX b) 252 = 3 := rfl
theorem yt_252 {b : Bool} : g_rt (gX b) 252 = 1 := rfl
theorem y_252_0 {b : Bool} : g_co (gX b) 252 0 = some (.aload_n 0) := rfl
theorem y_252_1 {b : Bool} : g_co (gX b) 252 1 = some (.getfield 21) := rfl
theorem y_252_4 {b : Bool} : g_co (gX b) 252 4 = some (.sipush 700) := rfl
theorem y_252_7 {b : Bool} : g_co (gX b) 252 7 = some (.if_icmp .lt 5) := rfl
theorem y_252_10 {b : Bool} : g_co (gX b) 252 10 = some (.iconst (-1)) := rfl
theorem y_252_11 {b : Bool} : g_co (gX b) 252 11 = some (.ireturn) := rfl
theorem y_252_12 {b : Bool} : g_co (gX b) 252 12 = some (.aload_n 0) := rfl
theorem y_252_13 {b : Bool} : g_co (gX b) 252 13 = some (.getfield 11) := rfl
theorem y_252_16 {b : Bool} : g_co (gX b) 252 16 = some (.aload_n 0) := rfl
theorem y_252_17 {b : Bool} : g_co (gX b) 252 17 = some (.getfield 21) := rfl
theorem y_252_20 {b : Bool} : g_co (gX b) 252 20 = some (.iload_n 1) := rfl
theorem y_252_21 {b : Bool} : g_co (gX b) 252 21 = some (.iastore) := rfl
theorem y_252_22 {b : Bool} : g_co (gX b) 252 22 = some (.aload_n 0) := rfl
theorem y_252_23 {b : Bool} : g_co (gX b) 252 23 = some (.getfield 15) := rfl
theorem y_252_26 {b : Bool} : g_co (gX b) 252 26 = some (.aload_n 0) := rfl
theorem y_252_27 {b : Bool} : g_co (gX b) 252 27 = some (.getfield 21) := rfl
theorem y_252_30 {b : Bool} : g_co (gX b) 252 30 = some (.iload_n 2) := rfl
theorem y_252_31 {b : Bool} : g_co (gX b) 252 31 = some (.iastore) := rfl
theorem y_252_32 {b : Bool} : g_co (gX b) 252 32 = some (.aload_n 0) := rfl
theorem y_252_33 {b : Bool} : g_co (gX b) 252 33 = some (.dup) := rfl
theorem y_252_34 {b : Bool} : g_co (gX b) 252 34 = some (.getfield 31) := rfl
theorem y_252_37 {b : Bool} : g_co (gX b) 252 37 = some (.iload_n 1) := rfl
theorem y_252_38 {b : Bool} : g_co (gX b) 252 38 = some (.bipush 24) := rfl
theorem y_252_40 {b : Bool} : g_co (gX b) 252 40 = some (.if_icmp .ne 9) := rfl
theorem y_252_43 {b : Bool} : g_co (gX b) 252 43 = some (.iconst 1) := rfl
theorem y_252_44 {b : Bool} : g_co (gX b) 252 44 = some (.iload_n 2) := rfl
theorem y_252_45 {b : Bool} : g_co (gX b) 252 45 = some (.ishl) := rfl
theorem y_252_46 {b : Bool} : g_co (gX b) 252 46 = some (.goto 4) := rfl
theorem y_252_49 {b : Bool} : g_co (gX b) 252 49 = some (.iconst 0) := rfl
theorem y_252_50 {b : Bool} : g_co (gX b) 252 50 = some (.ior) := rfl
theorem y_252_51 {b : Bool} : g_co (gX b) 252 51 = some (.putfield 31) := rfl
theorem y_252_54 {b : Bool} : g_co (gX b) 252 54 = some (.aload_n 0) := rfl
theorem y_252_55 {b : Bool} : g_co (gX b) 252 55 = some (.dup) := rfl
theorem y_252_56 {b : Bool} : g_co (gX b) 252 56 = some (.getfield 21) := rfl
theorem y_252_59 {b : Bool} : g_co (gX b) 252 59 = some (.iconst 1) := rfl
theorem y_252_60 {b : Bool} : g_co (gX b) 252 60 = some (.iadd) := rfl
theorem y_252_61 {b : Bool} : g_co (gX b) 252 61 = some (.putfield 21) := rfl
theorem y_252_64 {b : Bool} : g_co (gX b) 252 64 = some (.aload_n 0) := rfl
theorem y_252_65 {b : Bool} : g_co (gX b) 252 65 = some (.getfield 21) := rfl
theorem y_252_68 {b : Bool} : g_co (gX b) 252 68 = some (.iconst 1) := rfl
theorem y_252_69 {b : Bool} : g_co (gX b) 252 69 = some (.isub) := rfl
theorem y_252_70 {b : Bool} : g_co (gX b) 252 70 = some (.ireturn) := rfl
theorem yf_252_21 {b : Bool} : g_fl (gX b) 252 21 = some (5, 3, 0) := rfl
theorem yf_252_11 {b : Bool} : g_fl (gX b) 252 11 = some (5, 0, 9) := rfl
theorem yf_252_15 {b : Bool} : g_fl (gX b) 252 15 = some (5, 1, 9) := rfl
theorem yf_252_31 {b : Bool} : g_fl (gX b) 252 31 = some (5, 6, 0) := rfl
theorem yx_253 {b : Bool} : g_mx (gX b) 253 = 2 := rfl
theorem yt_253 {b : Bool} : g_rt (gX b) 253 = 0 := rfl
theorem y_253_0 {b : Bool} : g_co (gX b) 253 0 = some (.iload_n 1) := rfl
theorem y_253_1 {b : Bool} : g_co (gX b) 253 1 = some (.ifCond .lt 21) := rfl
theorem y_253_4 {b : Bool} : g_co (gX b) 253 4 = some (.iload_n 1) := rfl
theorem y_253_5 {b : Bool} : g_co (gX b) 253 5 = some (.aload_n 0) := rfl
theorem y_253_6 {b : Bool} : g_co (gX b) 253 6 = some (.getfield 21) := rfl
theorem y_253_9 {b : Bool} : g_co (gX b) 253 9 = some (.if_icmp .ge 13) := rfl
theorem y_253_12 {b : Bool} : g_co (gX b) 253 12 = some (.aload_n 0) := rfl
theorem y_253_13 {b : Bool} : g_co (gX b) 253 13 = some (.getfield 15) := rfl
theorem y_253_16 {b : Bool} : g_co (gX b) 253 16 = some (.iload_n 1) := rfl
theorem y_253_17 {b : Bool} : g_co (gX b) 253 17 = some (.aload_n 0) := rfl
theorem y_253_18 {b : Bool} : g_co (gX b) 253 18 = some (.getfield 21) := rfl
theorem y_253_21 {b : Bool} : g_co (gX b) 253 21 = some (.iastore) := rfl
theorem y_253_22 {b : Bool} : g_co (gX b) 253 22 = some (.return_) := rfl
theorem yf_253_21 {b : Bool} : g_fl (gX b) 253 21 = some (5, 3, 0) := rfl
theorem yf_253_15 {b : Bool} : g_fl (gX b) 253 15 = some (5, 1, 9) := rfl
theorem yx_254 {b : Bool} : g_mx (gX b) 254 = 2 := rfl
theorem yt_254 {b : Bool} : g_rt (gX b) 254 = 2 := rfl
theorem y_254_0 {b : Bool} : g_co (gX b) 254 0 = some (.iload_n 1) := rfl
theorem y_254_1 {b : Bool} : g_co (gX b) 254 1 = some (.bipush 8) := rfl
theorem y_254_3 {b : Bool} : g_co (gX b) 254 3 = some (.if_icmp .ge 18) := rfl
theorem y_254_6 {b : Bool} : g_co (gX b) 254 6 = some (.aload_n 0) := rfl
theorem y_254_7 {b : Bool} : g_co (gX b) 254 7 = some (.getfield 18) := rfl
theorem y_254_10 {b : Bool} : g_co (gX b) 254 10 = some (.iconst 1) := rfl
theorem y_254_11 {b : Bool} : g_co (gX b) 254 11 = some (.iload_n 1) := rfl
theorem y_254_12 {b : Bool} : g_co (gX b) 254 12 = some (.iadd) := rfl
theorem y_254_13 {b : Bool} : g_co (gX b) 254 13 = some (.iaload) := rfl
theorem y_254_14 {b : Bool} : g_co (gX b) 254 14 = some (.ifCond .ge 7) := rfl
theorem y_254_17 {b : Bool} : g_co (gX b) 254 17 = some (.iconst 1) := rfl
theorem y_254_18 {b : Bool} : g_co (gX b) 254 18 = some (.goto 4) := rfl
theorem y_254_21 {b : Bool} : g_co (gX b) 254 21 = some (.iconst 0) := rfl
theorem y_254_22 {b : Bool} : g_co (gX b) 254 22 = some (.ireturn) := rfl
theorem yf_254_18 {b : Bool} : g_fl (gX b) 254 18 = some (5, 2, 9) := rfl
theorem yx_255 {b : Bool} : g_mx (gX b) 255 = 5 := rfl
theorem yt_255 {b : Bool} : g_rt (gX b) 255 = 1 := rfl
theorem y_255_0 {b : Bool} : g_co (gX b) 255 0 = some (.aload_n 0) := rfl
theorem y_255_1 {b : Bool} : g_co (gX b) 255 1 = some (.iload_n 1) := rfl
theorem y_255_2 {b : Bool} : g_co (gX b) 255 2 = some (.aload_n 0) := rfl
theorem y_255_3 {b : Bool} : g_co (gX b) 255 3 = some (.getfield 27) := rfl
theorem y_255_6 {b : Bool} : g_co (gX b) 255 6 = some (.arraylength) := rfl
theorem y_255_7 {b : Bool} : g_co (gX b) 255 7 = some (.invokestatic 35) := rfl
theorem y_255_10 {b : Bool} : g_co (gX b) 255 10 = some (.putfield 9) := rfl
theorem y_255_13 {b : Bool} : g_co (gX b) 255 13 = some (.aload_n 0) := rfl
theorem y_255_14 {b : Bool} : g_co (gX b) 255 14 = some (.iconst 0) := rfl
theorem y_255_15 {b : Bool} : g_co (gX b) 255 15 = some (.putfield 15) := rfl
theorem y_255_18 {b : Bool} : g_co (gX b) 255 18 = some (.aload_n 0) := rfl
theorem y_255_19 {b : Bool} : g_co (gX b) 255 19 = some (.iconst 0) := rfl
theorem y_255_20 {b : Bool} : g_co (gX b) 255 20 = some (.putfield 18) := rfl
theorem y_255_23 {b : Bool} : g_co (gX b) 255 23 = some (.aload_n 0) := rfl
theorem y_255_24 {b : Bool} : g_co (gX b) 255 24 = some (.iconst 0) := rfl
theorem y_255_25 {b : Bool} : g_co (gX b) 255 25 = some (.putfield 21) := rfl
theorem y_255_28 {b : Bool} : g_co (gX b) 255 28 = some (.aload_n 0) := rfl
theorem y_255_29 {b : Bool} : g_co (gX b) 255 29 = some (.iconst (-1)) := rfl
theorem y_255_30 {b : Bool} : g_co (gX b) 255 30 = some (.putfield 24) := rfl
theorem y_255_33 {b : Bool} : g_co (gX b) 255 33 = some (.aload_n 0) := rfl
theorem y_255_34 {b : Bool} : g_co (gX b) 255 34 = some (.aload_n 2) := rfl
theorem y_255_35 {b : Bool} : g_co (gX b) 255 35 = some (.putfield 31) := rfl
theorem y_255_38 {b : Bool} : g_co (gX b) 255 38 = some (.aload_n 0) := rfl
theorem y_255_39 {b : Bool} : g_co (gX b) 255 39 = some (.getfield 31) := rfl
theorem y_255_42 {b : Bool} : g_co (gX b) 255 42 = some (.invokevirtual 41) := rfl
theorem y_255_45 {b : Bool} : g_co (gX b) 255 45 = some (.iconst 0) := rfl
theorem y_255_46 {b : Bool} : g_co (gX b) 255 46 = some (.istore_n 3) := rfl
theorem y_255_47 {b : Bool} : g_co (gX b) 255 47 = some (.iload_n 3) := rfl
theorem y_255_48 {b : Bool} : g_co (gX b) 255 48 = some (.aload_n 0) := rfl
theorem y_255_49 {b : Bool} : g_co (gX b) 255 49 = some (.getfield 9) := rfl
theorem y_255_52 {b : Bool} : g_co (gX b) 255 52 = some (.if_icmp .gt 107) := rfl
theorem y_255_55 {b : Bool} : g_co (gX b) 255 55 = some (.aload_n 0) := rfl
theorem y_255_56 {b : Bool} : g_co (gX b) 255 56 = some (.invokevirtual 46) := rfl
theorem y_255_59 {b : Bool} : g_co (gX b) 255 59 = some (.ifCond .ne 100) := rfl
theorem y_255_62 {b : Bool} : g_co (gX b) 255 62 = some (.aload_n 0) := rfl
theorem y_255_63 {b : Bool} : g_co (gX b) 255 63 = some (.getfield 15) := rfl
theorem y_255_66 {b : Bool} : g_co (gX b) 255 66 = some (.istore 4) := rfl
theorem y_255_68 {b : Bool} : g_co (gX b) 255 68 = some (.aload_n 0) := rfl
theorem y_255_69 {b : Bool} : g_co (gX b) 255 69 = some (.ldc 50) := rfl
theorem y_255_71 {b : Bool} : g_co (gX b) 255 71 = some (.invokevirtual 52) := rfl
theorem y_255_74 {b : Bool} : g_co (gX b) 255 74 = some (.ifCond .eq 12) := rfl
theorem y_255_77 {b : Bool} : g_co (gX b) 255 77 = some (.aload_n 0) := rfl
theorem y_255_78 {b : Bool} : g_co (gX b) 255 78 = some (.iload 4) := rfl
theorem y_255_80 {b : Bool} : g_co (gX b) 255 80 = some (.invokevirtual 56) := rfl
theorem y_255_83 {b : Bool} : g_co (gX b) 255 83 = some (.goto 70) := rfl
theorem y_255_86 {b : Bool} : g_co (gX b) 255 86 = some (.aload_n 0) := rfl
theorem y_255_87 {b : Bool} : g_co (gX b) 255 87 = some (.ldc 60) := rfl
theorem y_255_89 {b : Bool} : g_co (gX b) 255 89 = some (.invokevirtual 52) := rfl
theorem y_255_92 {b : Bool} : g_co (gX b) 255 92 = some (.ifCond .eq 24) := rfl
theorem y_255_95 {b : Bool} : g_co (gX b) 255 95 = some (.aload_n 0) := rfl
theorem y_255_96 {b : Bool} : g_co (gX b) 255 96 = some (.getfield 31) := rfl
theorem y_255_99 {b : Bool} : g_co (gX b) 255 99 = some (.aload_n 0) := rfl
theorem y_255_100 {b : Bool} : g_co (gX b) 255 100 = some (.getfield 31) := rfl
theorem y_255_103 {b : Bool} : g_co (gX b) 255 103 = some (.getfield 62) := rfl
theorem y_255_106 {b : Bool} : g_co (gX b) 255 106 = some (.putfield 63) := rfl
theorem y_255_109 {b : Bool} : g_co (gX b) 255 109 = some (.aload_n 0) := rfl
theorem y_255_110 {b : Bool} : g_co (gX b) 255 110 = some (.invokevirtual 65) := rfl
theorem y_255_113 {b : Bool} : g_co (gX b) 255 113 = some (.goto 40) := rfl
theorem y_255_116 {b : Bool} : g_co (gX b) 255 116 = some (.aload_n 0) := rfl
theorem y_255_117 {b : Bool} : g_co (gX b) 255 117 = some (.ldc 68) := rfl
theorem y_255_119 {b : Bool} : g_co (gX b) 255 119 = some (.invokevirtual 52) := rfl
theorem y_255_122 {b : Bool} : g_co (gX b) 255 122 = some (.ifCond .eq 24) := rfl
theorem y_255_125 {b : Bool} : g_co (gX b) 255 125 = some (.aload_n 0) := rfl
theorem y_255_126 {b : Bool} : g_co (gX b) 255 126 = some (.getfield 31) := rfl
theorem y_255_129 {b : Bool} : g_co (gX b) 255 129 = some (.aload_n 0) := rfl
theorem y_255_130 {b : Bool} : g_co (gX b) 255 130 = some (.getfield 31) := rfl
theorem y_255_133 {b : Bool} : g_co (gX b) 255 133 = some (.getfield 62) := rfl
theorem y_255_136 {b : Bool} : g_co (gX b) 255 136 = some (.putfield 69) := rfl
theorem y_255_139 {b : Bool} : g_co (gX b) 255 139 = some (.aload_n 0) := rfl
theorem y_255_140 {b : Bool} : g_co (gX b) 255 140 = some (.invokevirtual 65) := rfl
theorem y_255_143 {b : Bool} : g_co (gX b) 255 143 = some (.goto 10) := rfl
theorem y_255_146 {b : Bool} : g_co (gX b) 255 146 = some (.aload_n 0) := rfl
theorem y_255_147 {b : Bool} : g_co (gX b) 255 147 = some (.iconst 1) := rfl
theorem y_255_148 {b : Bool} : g_co (gX b) 255 148 = some (.iload 4) := rfl
theorem y_255_150 {b : Bool} : g_co (gX b) 255 150 = some (.invokevirtual 70) := rfl
theorem y_255_153 {b : Bool} : g_co (gX b) 255 153 = some (.iinc 3 1) := rfl
theorem y_255_156 {b : Bool} : g_co (gX b) 255 156 = some (.goto (-109)) := rfl
theorem y_255_159 {b : Bool} : g_co (gX b) 255 159 = some (.aload_n 0) := rfl
theorem y_255_160 {b : Bool} : g_co (gX b) 255 160 = some (.getfield 21) := rfl
theorem y_255_163 {b : Bool} : g_co (gX b) 255 163 = some (.ireturn) := rfl
theorem yf_255_27 {b : Bool} : g_fl (gX b) 255 27 = some (6, 0, 9) := rfl
theorem yn_255_35 {b : Bool} : g_ml (gX b) 255 35 = none := rfl
theorem yz_255_35 {b : Bool} : g_nt (gX b) 255 35 = 3 := rfl
theorem yf_255_9 {b : Bool} : g_fl (gX b) 255 9 = some (6, 1, 0) := rfl
theorem yf_255_15 {b : Bool} : g_fl (gX b) 255 15 = some (6, 2, 0) := rfl
theorem yf_255_18 {b : Bool} : g_fl (gX b) 255 18 = some (6, 3, 0) := rfl
theorem yf_255_21 {b : Bool} : g_fl (gX b) 255 21 = some (6, 4, 0) := rfl
theorem yf_255_24 {b : Bool} : g_fl (gX b) 255 24 = some (6, 6, 0) := rfl
theorem yf_255_31 {b : Bool} : g_fl (gX b) 255 31 = some (6, 5, 2) := rfl
theorem ym_255_41 {b : Bool} : g_ml (gX b) 255 41 = some (0, 251, 0, 5) := rfl
theorem ym_255_46 {b : Bool} : g_ml (gX b) 255 46 = some (0, 272, 0, 6) := rfl
theorem yk_255_50 {b : Bool} : g_cn (gX b) 255 50 = none := rfl
theorem yz_255_50 {b : Bool} : g_nt (gX b) 255 50 = 10 + 15 := rfl
theorem ym_255_52 {b : Bool} : g_ml (gX b) 255 52 = some (0, 269, 1, 6) := rfl
theorem ym_255_56 {b : Bool} : g_ml (gX b) 255 56 = some (0, 257, 1, 6) := rfl
theorem yk_255_60 {b : Bool} : g_cn (gX b) 255 60 = none := rfl
theorem yz_255_60 {b : Bool} : g_nt (gX b) 255 60 = 10 + 8 := rfl
theorem yf_255_62 {b : Bool} : g_fl (gX b) 255 62 = some (5, 3, 0) := rfl
theorem yf_255_63 {b : Bool} : g_fl (gX b) 255 63 = some (5, 7, 0) := rfl
theorem ym_255_65 {b : Bool} : g_ml (gX b) 255 65 = some (0, 256, 0, 6) := rfl
theorem yk_255_68 {b : Bool} : g_cn (gX b) 255 68 = none := rfl
theorem yz_255_68 {b : Bool} : g_nt (gX b) 255 68 = 10 + 17 := rfl
theorem yf_255_69 {b : Bool} : g_fl (gX b) 255 69 = some (5, 8, 0) := rfl
theorem ym_255_70 {b : Bool} : g_ml (gX b) 255 70 = some (0, 276, 2, 6) := rfl
theorem yx_256 {b : Bool} : g_mx (gX b) 256 = 1 := rfl
theorem yt_256 {b : Bool} : g_rt (gX b) 256 = 0 := rfl
theorem y_256_0 {b : Bool} : g_co (gX b) 256 0 = some (.aload_n 0) := rfl
theorem y_256_1 {b : Bool} : g_co (gX b) 256 1 = some (.iconst 0) := rfl
theorem y_256_2 {b : Bool} : g_co (gX b) 256 2 = some (.invokevirtual 74) := rfl
theorem y_256_5 {b : Bool} : g_co (gX b) 256 5 = some (.aload_n 0) := rfl
theorem y_256_6 {b : Bool} : g_co (gX b) 256 6 = some (.getfield 31) := rfl
theorem y_256_9 {b : Bool} : g_co (gX b) 256 9 = some (.bipush 16) := rfl
theorem y_256_11 {b : Bool} : g_co (gX b) 256 11 = some (.iconst 0) := rfl
theorem y_256_12 {b : Bool} : g_co (gX b) 256 12 = some (.invokevirtual 77) := rfl
theorem y_256_15 {b : Bool} : g_co (gX b) 256 15 = some (.pop) := rfl
theorem y_256_16 {b : Bool} : g_co (gX b) 256 16 = some (.aload_n 0) := rfl
theorem y_256_17 {b : Bool} : g_co (gX b) 256 17 = some (.bipush 59) := rfl
theorem y_256_19 {b : Bool} : g_co (gX b) 256 19 = some (.invokevirtual 80) := rfl
theorem y_256_22 {b : Bool} : g_co (gX b) 256 22 = some (.return_) := rfl
theorem ym_256_74 {b : Bool} : g_ml (gX b) 256 74 = some (0, 261, 1, 6) := rfl
theorem yf_256_31 {b : Bool} : g_fl (gX b) 256 31 = some (6, 5, 2) := rfl
theorem ym_256_77 {b : Bool} : g_ml (gX b) 256 77 = some (0, 252, 2, 5) := rfl
theorem ym_256_80 {b : Bool} : g_ml (gX b) 256 80 = some (0, 271, 1, 6) := rfl
theorem yx_257 {b : Bool} : g_mx (gX b) 257 = 4 := rfl
theorem yt_257 {b : Bool} : g_rt (gX b) 257 = 0 := rfl
theorem y_257_0 {b : Bool} : g_co (gX b) 257 0 = some (.aload_n 0) := rfl
theorem y_257_1 {b : Bool} : g_co (gX b) 257 1 = some (.invokevirtual 84) := rfl
theorem y_257_4 {b : Bool} : g_co (gX b) 257 4 = some (.istore_n 2) := rfl
theorem y_257_5 {b : Bool} : g_co (gX b) 257 5 = some (.aload_n 0) := rfl
theorem y_257_6 {b : Bool} : g_co (gX b) 257 6 = some (.getfield 21) := rfl
theorem y_257_9 {b : Bool} : g_co (gX b) 257 9 = some (.ifCond .eq 4) := rfl
theorem y_257_12 {b : Bool} : g_co (gX b) 257 12 = some (.return_) := rfl
theorem y_257_13 {b : Bool} : g_co (gX b) 257 13 = some (.aload_n 0) := rfl
theorem y_257_14 {b : Bool} : g_co (gX b) 257 14 = some (.getfield 31) := rfl
theorem y_257_17 {b : Bool} : g_co (gX b) 257 17 = some (.getfield 88) := rfl
theorem y_257_20 {b : Bool} : g_co (gX b) 257 20 = some (.iload_n 2) := rfl
theorem y_257_21 {b : Bool} : g_co (gX b) 257 21 = some (.iaload) := rfl
theorem y_257_22 {b : Bool} : g_co (gX b) 257 22 = some (.ifCond .lt 10) := rfl
theorem y_257_25 {b : Bool} : g_co (gX b) 257 25 = some (.aload_n 0) := rfl
theorem y_257_26 {b : Bool} : g_co (gX b) 257 26 = some (.iconst 4) := rfl
theorem y_257_27 {b : Bool} : g_co (gX b) 257 27 = some (.iload_n 1) := rfl
theorem y_257_28 {b : Bool} : g_co (gX b) 257 28 = some (.invokevirtual 70) := rfl
theorem y_257_31 {b : Bool} : g_co (gX b) 257 31 = some (.return_) := rfl
theorem y_257_32 {b : Bool} : g_co (gX b) 257 32 = some (.aload_n 0) := rfl
theorem y_257_33 {b : Bool} : g_co (gX b) 257 33 = some (.bipush 123) := rfl
theorem y_257_35 {b : Bool} : g_co (gX b) 257 35 = some (.invokevirtual 80) := rfl
theorem y_257_38 {b : Bool} : g_co (gX b) 257 38 = some (.aload_n 0) := rfl
theorem y_257_39 {b : Bool} : g_co (gX b) 257 39 = some (.getfield 31) := rfl
theorem y_257_42 {b : Bool} : g_co (gX b) 257 42 = some (.getfield 88) := rfl
theorem y_257_45 {b : Bool} : g_co (gX b) 257 45 = some (.iload_n 2) := rfl
theorem y_257_46 {b : Bool} : g_co (gX b) 257 46 = some (.aload_n 0) := rfl
theorem y_257_47 {b : Bool} : g_co (gX b) 257 47 = some (.getfield 31) := rfl
theorem y_257_50 {b : Bool} : g_co (gX b) 257 50 = some (.getfield 62) := rfl
theorem y_257_53 {b : Bool} : g_co (gX b) 257 53 = some (.iastore) := rfl
theorem y_257_54 {b : Bool} : g_co (gX b) 257 54 = some (.aload_n 0) := rfl
theorem y_257_55 {b : Bool} : g_co (gX b) 257 55 = some (.getfield 31) := rfl
theorem y_257_58 {b : Bool} : g_co (gX b) 257 58 = some (.dup) := rfl
theorem y_257_59 {b : Bool} : g_co (gX b) 257 59 = some (.getfield 91) := rfl
theorem y_257_62 {b : Bool} : g_co (gX b) 257 62 = some (.iconst 1) := rfl
theorem y_257_63 {b : Bool} : g_co (gX b) 257 63 = some (.iadd) := rfl
theorem y_257_64 {b : Bool} : g_co (gX b) 257 64 = some (.putfield 91) := rfl
theorem y_257_67 {b : Bool} : g_co (gX b) 257 67 = some (.iconst 0) := rfl
theorem y_257_68 {b : Bool} : g_co (gX b) 257 68 = some (.istore_n 3) := rfl
theorem y_257_69 {b : Bool} : g_co (gX b) 257 69 = some (.iload_n 3) := rfl
theorem y_257_70 {b : Bool} : g_co (gX b) 257 70 = some (.aload_n 0) := rfl
theorem y_257_71 {b : Bool} : g_co (gX b) 257 71 = some (.getfield 9) := rfl
theorem y_257_74 {b : Bool} : g_co (gX b) 257 74 = some (.if_icmp .gt 29) := rfl
theorem y_257_77 {b : Bool} : g_co (gX b) 257 77 = some (.aload_n 0) := rfl
theorem y_257_78 {b : Bool} : g_co (gX b) 257 78 = some (.getfield 21) := rfl
theorem y_257_81 {b : Bool} : g_co (gX b) 257 81 = some (.ifCond .ne 22) := rfl
theorem y_257_84 {b : Bool} : g_co (gX b) 257 84 = some (.aload_n 0) := rfl
theorem y_257_85 {b : Bool} : g_co (gX b) 257 85 = some (.bipush 125) := rfl
theorem y_257_87 {b : Bool} : g_co (gX b) 257 87 = some (.invokevirtual 94) := rfl
theorem y_257_90 {b : Bool} : g_co (gX b) 257 90 = some (.ifCond .ne 13) := rfl
theorem y_257_93 {b : Bool} : g_co (gX b) 257 93 = some (.aload_n 0) := rfl
theorem y_257_94 {b : Bool} : g_co (gX b) 257 94 = some (.invokevirtual 98) := rfl
theorem y_257_97 {b : Bool} : g_co (gX b) 257 97 = some (.iinc 3 1) := rfl
theorem y_257_100 {b : Bool} : g_co (gX b) 257 100 = some (.goto (-31)) := rfl
theorem y_257_103 {b : Bool} : g_co (gX b) 257 103 = some (.aload_n 0) := rfl
theorem y_257_104 {b : Bool} : g_co (gX b) 257 104 = some (.getfield 31) := rfl
theorem y_257_107 {b : Bool} : g_co (gX b) 257 107 = some (.bipush 16) := rfl
theorem y_257_109 {b : Bool} : g_co (gX b) 257 109 = some (.iconst 0) := rfl
theorem y_257_110 {b : Bool} : g_co (gX b) 257 110 = some (.invokevirtual 77) := rfl
theorem y_257_113 {b : Bool} : g_co (gX b) 257 113 = some (.pop) := rfl
theorem y_257_114 {b : Bool} : g_co (gX b) 257 114 = some (.return_) := rfl
theorem ym_257_84 {b : Bool} : g_ml (gX b) 257 84 = some (0, 258, 0, 6) := rfl
theorem yf_257_21 {b : Bool} : g_fl (gX b) 257 21 = some (6, 4, 0) := rfl
theorem yf_257_31 {b : Bool} : g_fl (gX b) 257 31 = some (6, 5, 2) := rfl
theorem yf_257_88 {b : Bool} : g_fl (gX b) 257 88 = some (5, 2, 9) := rfl
theorem ym_257_70 {b : Bool} : g_ml (gX b) 257 70 = some (0, 276, 2, 6) := rfl
theorem ym_257_80 {b : Bool} : g_ml (gX b) 257 80 = some (0, 271, 1, 6) := rfl
theorem yf_257_62 {b : Bool} : g_fl (gX b) 257 62 = some (5, 3, 0) := rfl
theorem yf_257_91 {b : Bool} : g_fl (gX b) 257 91 = some (5, 5, 0) := rfl
theorem yf_257_9 {b : Bool} : g_fl (gX b) 257 9 = some (6, 1, 0) := rfl
theorem ym_257_94 {b : Bool} : g_ml (gX b) 257 94 = some (0, 270, 1, 6) := rfl
theorem ym_257_98 {b : Bool} : g_ml (gX b) 257 98 = some (0, 259, 0, 6) := rfl
theorem ym_257_77 {b : Bool} : g_ml (gX b) 257 77 = some (0, 252, 2, 5) := rfl
theorem yx_258 {b : Bool} : g_mx (gX b) 258 = 1 := rfl
theorem yt_258 {b : Bool} : g_rt (gX b) 258 = 1 := rfl
theorem y_258_0 {b : Bool} : g_co (gX b) 258 0 = some (.aload_n 0) := rfl
theorem y_258_1 {b : Bool} : g_co (gX b) 258 1 = some (.ldc 101) := rfl
theorem y_258_3 {b : Bool} : g_co (gX b) 258 3 = some (.invokevirtual 52) := rfl
theorem y_258_6 {b : Bool} : g_co (gX b) 258 6 = some (.ifCond .eq 5) := rfl
theorem y_258_9 {b : Bool} : g_co (gX b) 258 9 = some (.iconst 0) := rfl
theorem y_258_10 {b : Bool} : g_co (gX b) 258 10 = some (.ireturn) := rfl
theorem y_258_11 {b : Bool} : g_co (gX b) 258 11 = some (.aload_n 0) := rfl
theorem y_258_12 {b : Bool} : g_co (gX b) 258 12 = some (.ldc 103) := rfl
theorem y_258_14 {b : Bool} : g_co (gX b) 258 14 = some (.invokevirtual 52) := rfl
theorem y_258_17 {b : Bool} : g_co (gX b) 258 17 = some (.ifCond .eq 12) := rfl
theorem y_258_20 {b : Bool} : g_co (gX b) 258 20 = some (.iconst 1) := rfl
theorem y_258_21 {b : Bool} : g_co (gX b) 258 21 = some (.aload_n 0) := rfl
theorem y_258_22 {b : Bool} : g_co (gX b) 258 22 = some (.bipush 8) := rfl
theorem y_258_24 {b : Bool} : g_co (gX b) 258 24 = some (.invokevirtual 105) := rfl
theorem y_258_27 {b : Bool} : g_co (gX b) 258 27 = some (.iadd) := rfl
theorem y_258_28 {b : Bool} : g_co (gX b) 258 28 = some (.ireturn) := rfl
theorem y_258_29 {b : Bool} : g_co (gX b) 258 29 = some (.aload_n 0) := rfl
theorem y_258_30 {b : Bool} : g_co (gX b) 258 30 = some (.ldc 109) := rfl
theorem y_258_32 {b : Bool} : g_co (gX b) 258 32 = some (.invokevirtual 52) := rfl
theorem y_258_35 {b : Bool} : g_co (gX b) 258 35 = some (.ifCond .eq 12) := rfl
theorem y_258_38 {b : Bool} : g_co (gX b) 258 38 = some (.bipush 9) := rfl
theorem y_258_40 {b : Bool} : g_co (gX b) 258 40 = some (.aload_n 0) := rfl
theorem y_258_41 {b : Bool} : g_co (gX b) 258 41 = some (.iconst 4) := rfl
theorem y_258_42 {b : Bool} : g_co (gX b) 258 42 = some (.invokevirtual 105) := rfl
theorem y_258_45 {b : Bool} : g_co (gX b) 258 45 = some (.iadd) := rfl
theorem y_258_46 {b : Bool} : g_co (gX b) 258 46 = some (.ireturn) := rfl
theorem y_258_47 {b : Bool} : g_co (gX b) 258 47 = some (.aload_n 0) := rfl
theorem y_258_48 {b : Bool} : g_co (gX b) 258 48 = some (.ldc 111) := rfl
theorem y_258_50 {b : Bool} : g_co (gX b) 258 50 = some (.invokevirtual 52) := rfl
theorem y_258_53 {b : Bool} : g_co (gX b) 258 53 = some (.ifCond .eq 12) := rfl
theorem y_258_56 {b : Bool} : g_co (gX b) 258 56 = some (.bipush 13) := rfl
theorem y_258_58 {b : Bool} : g_co (gX b) 258 58 = some (.aload_n 0) := rfl
theorem y_258_59 {b : Bool} : g_co (gX b) 258 59 = some (.iconst 4) := rfl
theorem y_258_60 {b : Bool} : g_co (gX b) 258 60 = some (.invokevirtual 105) := rfl
theorem y_258_63 {b : Bool} : g_co (gX b) 258 63 = some (.iadd) := rfl
theorem y_258_64 {b : Bool} : g_co (gX b) 258 64 = some (.ireturn) := rfl
theorem y_258_65 {b : Bool} : g_co (gX b) 258 65 = some (.aload_n 0) := rfl
theorem y_258_66 {b : Bool} : g_co (gX b) 258 66 = some (.iconst 1) := rfl
theorem y_258_67 {b : Bool} : g_co (gX b) 258 67 = some (.aload_n 0) := rfl
theorem y_258_68 {b : Bool} : g_co (gX b) 258 68 = some (.getfield 15) := rfl
theorem y_258_71 {b : Bool} : g_co (gX b) 258 71 = some (.invokevirtual 70) := rfl
theorem y_258_74 {b : Bool} : g_co (gX b) 258 74 = some (.iconst 0) := rfl
theorem y_258_75 {b : Bool} : g_co (gX b) 258 75 = some (.ireturn) := rfl
theorem yk_258_101 {b : Bool} : g_cn (gX b) 258 101 = none := rfl
theorem yz_258_101 {b : Bool} : g_nt (gX b) 258 101 = 10 + 21 := rfl
theorem ym_258_52 {b : Bool} : g_ml (gX b) 258 52 = some (0, 269, 1, 6) := rfl
theorem yk_258_103 {b : Bool} : g_cn (gX b) 258 103 = none := rfl
theorem yz_258_103 {b : Bool} : g_nt (gX b) 258 103 = 10 + 18 := rfl
theorem ym_258_105 {b : Bool} : g_ml (gX b) 258 105 = some (0, 266, 1, 6) := rfl
theorem yk_258_109 {b : Bool} : g_cn (gX b) 258 109 = none := rfl
theorem yz_258_109 {b : Bool} : g_nt (gX b) 258 109 = 10 + 3 := rfl
theorem yk_258_111 {b : Bool} : g_cn (gX b) 258 111 = none := rfl
theorem yz_258_111 {b : Bool} : g_nt (gX b) 258 111 = 10 + 1 := rfl
theorem yf_258_15 {b : Bool} : g_fl (gX b) 258 15 = some (6, 2, 0) := rfl
theorem ym_258_70 {b : Bool} : g_ml (gX b) 258 70 = some (0, 276, 2, 6) := rfl
theorem yx_259 {b : Bool} : g_mx (gX b) 259 = 5 := rfl
theorem yt_259 {b : Bool} : g_rt (gX b) 259 = 0 := rfl
theorem y_259_0 {b : Bool} : g_co (gX b) 259 0 = some (.aload_n 0) := rfl
theorem y_259_1 {b : Bool} : g_co (gX b) 259 1 = some (.invokevirtual 113) := rfl
theorem y_259_4 {b : Bool} : g_co (gX b) 259 4 = some (.aload_n 0) := rfl
theorem y_259_5 {b : Bool} : g_co (gX b) 259 5 = some (.getfield 15) := rfl
theorem y_259_8 {b : Bool} : g_co (gX b) 259 8 = some (.istore_n 1) := rfl
theorem y_259_9 {b : Bool} : g_co (gX b) 259 9 = some (.aload_n 0) := rfl
theorem y_259_10 {b : Bool} : g_co (gX b) 259 10 = some (.invokevirtual 116) := rfl
theorem y_259_13 {b : Bool} : g_co (gX b) 259 13 = some (.istore_n 2) := rfl
theorem y_259_14 {b : Bool} : g_co (gX b) 259 14 = some (.iload_n 2) := rfl
theorem y_259_15 {b : Bool} : g_co (gX b) 259 15 = some (.ifCond .lt 8) := rfl
theorem y_259_18 {b : Bool} : g_co (gX b) 259 18 = some (.bipush 18) := rfl
theorem y_259_20 {b : Bool} : g_co (gX b) 259 20 = some (.goto 7) := rfl
theorem y_259_23 {b : Bool} : g_co (gX b) 259 23 = some (.aload_n 0) := rfl
theorem y_259_24 {b : Bool} : g_co (gX b) 259 24 = some (.invokevirtual 119) := rfl
theorem y_259_27 {b : Bool} : g_co (gX b) 259 27 = some (.istore_n 3) := rfl
theorem y_259_28 {b : Bool} : g_co (gX b) 259 28 = some (.iload_n 3) := rfl
theorem y_259_29 {b : Bool} : g_co (gX b) 259 29 = some (.ifCond .ge 10) := rfl
theorem y_259_32 {b : Bool} : g_co (gX b) 259 32 = some (.aload_n 0) := rfl
theorem y_259_33 {b : Bool} : g_co (gX b) 259 33 = some (.iconst 1) := rfl
theorem y_259_34 {b : Bool} : g_co (gX b) 259 34 = some (.iload_n 1) := rfl
theorem y_259_35 {b : Bool} : g_co (gX b) 259 35 = some (.invokevirtual 70) := rfl
theorem y_259_38 {b : Bool} : g_co (gX b) 259 38 = some (.return_) := rfl
theorem y_259_39 {b : Bool} : g_co (gX b) 259 39 = some (.aload_n 0) := rfl
theorem y_259_40 {b : Bool} : g_co (gX b) 259 40 = some (.getfield 31) := rfl
theorem y_259_43 {b : Bool} : g_co (gX b) 259 43 = some (.dup) := rfl
theorem y_259_44 {b : Bool} : g_co (gX b) 259 44 = some (.getfield 122) := rfl
theorem y_259_47 {b : Bool} : g_co (gX b) 259 47 = some (.iconst 1) := rfl
theorem y_259_48 {b : Bool} : g_co (gX b) 259 48 = some (.iadd) := rfl
theorem y_259_49 {b : Bool} : g_co (gX b) 259 49 = some (.putfield 122) := rfl
theorem y_259_52 {b : Bool} : g_co (gX b) 259 52 = some (.aload_n 0) := rfl
theorem y_259_53 {b : Bool} : g_co (gX b) 259 53 = some (.getfield 31) := rfl
theorem y_259_56 {b : Bool} : g_co (gX b) 259 56 = some (.getfield 122) := rfl
theorem y_259_59 {b : Bool} : g_co (gX b) 259 59 = some (.bipush 60) := rfl
theorem y_259_61 {b : Bool} : g_co (gX b) 259 61 = some (.if_icmp .le 10) := rfl
theorem y_259_64 {b : Bool} : g_co (gX b) 259 64 = some (.aload_n 0) := rfl
theorem y_259_65 {b : Bool} : g_co (gX b) 259 65 = some (.iconst 3) := rfl
theorem y_259_66 {b : Bool} : g_co (gX b) 259 66 = some (.iload_n 1) := rfl
theorem y_259_67 {b : Bool} : g_co (gX b) 259 67 = some (.invokevirtual 70) := rfl
theorem y_259_70 {b : Bool} : g_co (gX b) 259 70 = some (.return_) := rfl
theorem y_259_71 {b : Bool} : g_co (gX b) 259 71 = some (.iload_n 3) := rfl
theorem y_259_72 {b : Bool} : g_co (gX b) 259 72 = some (.bipush 17) := rfl
theorem y_259_74 {b : Bool} : g_co (gX b) 259 74 = some (.if_icmp .ne 52) := rfl
theorem y_259_77 {b : Bool} : g_co (gX b) 259 77 = some (.aload_n 0) := rfl
theorem y_259_78 {b : Bool} : g_co (gX b) 259 78 = some (.iload_n 1) := rfl
theorem y_259_79 {b : Bool} : g_co (gX b) 259 79 = some (.invokevirtual 125) := rfl
theorem y_259_82 {b : Bool} : g_co (gX b) 259 82 = some (.ifCond .eq 43) := rfl
theorem y_259_85 {b : Bool} : g_co (gX b) 259 85 = some (.aload_n 0) := rfl
theorem y_259_86 {b : Bool} : g_co (gX b) 259 86 = some (.iconst 0) := rfl
theorem y_259_87 {b : Bool} : g_co (gX b) 259 87 = some (.invokevirtual 74) := rfl
theorem y_259_90 {b : Bool} : g_co (gX b) 259 90 = some (.aload_n 0) := rfl
theorem y_259_91 {b : Bool} : g_co (gX b) 259 91 = some (.getfield 31) := rfl
theorem y_259_94 {b : Bool} : g_co (gX b) 259 94 = some (.bipush 17) := rfl
theorem y_259_96 {b : Bool} : g_co (gX b) 259 96 = some (.iconst 0) := rfl
theorem y_259_97 {b : Bool} : g_co (gX b) 259 97 = some (.invokevirtual 77) := rfl
theorem y_259_100 {b : Bool} : g_co (gX b) 259 100 = some (.istore 4) := rfl
theorem y_259_102 {b : Bool} : g_co (gX b) 259 102 = some (.aload_n 0) := rfl
theorem y_259_103 {b : Bool} : g_co (gX b) 259 103 = some (.invokevirtual 98) := rfl
theorem y_259_106 {b : Bool} : g_co (gX b) 259 106 = some (.aload_n 0) := rfl
theorem y_259_107 {b : Bool} : g_co (gX b) 259 107 = some (.getfield 31) := rfl
theorem y_259_110 {b : Bool} : g_co (gX b) 259 110 = some (.iload 4) := rfl
theorem y_259_112 {b : Bool} : g_co (gX b) 259 112 = some (.invokevirtual 129) := rfl
theorem y_259_115 {b : Bool} : g_co (gX b) 259 115 = some (.aload_n 0) := rfl
theorem y_259_116 {b : Bool} : g_co (gX b) 259 116 = some (.dup) := rfl
theorem y_259_117 {b : Bool} : g_co (gX b) 259 117 = some (.getfield 18) := rfl
theorem y_259_120 {b : Bool} : g_co (gX b) 259 120 = some (.iconst 1) := rfl
theorem y_259_121 {b : Bool} : g_co (gX b) 259 121 = some (.isub) := rfl
theorem y_259_122 {b : Bool} : g_co (gX b) 259 122 = some (.putfield 18) := rfl
theorem y_259_125 {b : Bool} : g_co (gX b) 259 125 = some (.return_) := rfl
theorem y_259_126 {b : Bool} : g_co (gX b) 259 126 = some (.iload_n 2) := rfl
theorem y_259_127 {b : Bool} : g_co (gX b) 259 127 = some (.istore 4) := rfl
theorem y_259_129 {b : Bool} : g_co (gX b) 259 129 = some (.iload_n 3) := rfl
theorem y_259_130 {b : Bool} : g_co (gX b) 259 130 = some (.bipush 18) := rfl
theorem y_259_132 {b : Bool} : g_co (gX b) 259 132 = some (.if_icmp .ne 12) := rfl
theorem y_259_135 {b : Bool} : g_co (gX b) 259 135 = some (.aload_n 0) := rfl
theorem y_259_136 {b : Bool} : g_co (gX b) 259 136 = some (.bipush 61) := rfl
theorem y_259_138 {b : Bool} : g_co (gX b) 259 138 = some (.invokevirtual 80) := rfl
theorem y_259_141 {b : Bool} : g_co (gX b) 259 141 = some (.goto 27) := rfl
theorem y_259_144 {b : Bool} : g_co (gX b) 259 144 = some (.iload_n 3) := rfl
theorem y_259_145 {b : Bool} : g_co (gX b) 259 145 = some (.bipush 27) := rfl
theorem y_259_147 {b : Bool} : g_co (gX b) 259 147 = some (.if_icmp .eq 21) := rfl
theorem y_259_150 {b : Bool} : g_co (gX b) 259 150 = some (.aload_n 0) := rfl
theorem y_259_151 {b : Bool} : g_co (gX b) 259 151 = some (.iload_n 3) := rfl
theorem y_259_152 {b : Bool} : g_co (gX b) 259 152 = some (.bipush 22) := rfl
theorem y_259_154 {b : Bool} : g_co (gX b) 259 154 = some (.if_icmp .gt 8) := rfl
theorem y_259_157 {b : Bool} : g_co (gX b) 259 157 = some (.bipush 8) := rfl
theorem y_259_159 {b : Bool} : g_co (gX b) 259 159 = some (.goto 4) := rfl
theorem y_259_162 {b : Bool} : g_co (gX b) 259 162 = some (.iconst 4) := rfl
theorem y_259_163 {b : Bool} : g_co (gX b) 259 163 = some (.invokevirtual 105) := rfl
theorem y_259_166 {b : Bool} : g_co (gX b) 259 166 = some (.istore 4) := rfl
theorem y_259_168 {b : Bool} : g_co (gX b) 259 168 = some (.iload_n 3) := rfl
theorem y_259_169 {b : Bool} : g_co (gX b) 259 169 = some (.bipush 23) := rfl
theorem y_259_171 {b : Bool} : g_co (gX b) 259 171 = some (.if_icmp .ne 19) := rfl
theorem y_259_174 {b : Bool} : g_co (gX b) 259 174 = some (.iload 4) := rfl
theorem y_259_176 {b : Bool} : g_co (gX b) 259 176 = some (.sipush 1000) := rfl
theorem y_259_179 {b : Bool} : g_co (gX b) 259 179 = some (.imul) := rfl
theorem y_259_180 {b : Bool} : g_co (gX b) 259 180 = some (.aload_n 0) := rfl
theorem y_259_181 {b : Bool} : g_co (gX b) 259 181 = some (.invokevirtual 134) := rfl
theorem y_259_184 {b : Bool} : g_co (gX b) 259 184 = some (.iadd) := rfl
theorem y_259_185 {b : Bool} : g_co (gX b) 259 185 = some (.istore 4) := rfl
theorem y_259_187 {b : Bool} : g_co (gX b) 259 187 = some (.goto 26) := rfl
theorem y_259_190 {b : Bool} : g_co (gX b) 259 190 = some (.iload_n 3) := rfl
theorem y_259_191 {b : Bool} : g_co (gX b) 259 191 = some (.bipush 18) := rfl
theorem y_259_193 {b : Bool} : g_co (gX b) 259 193 = some (.if_icmp .eq 15) := rfl
theorem y_259_196 {b : Bool} : g_co (gX b) 259 196 = some (.iload_n 3) := rfl
theorem y_259_197 {b : Bool} : g_co (gX b) 259 197 = some (.bipush 24) := rfl
theorem y_259_199 {b : Bool} : g_co (gX b) 259 199 = some (.if_icmp .eq 9) := rfl
theorem y_259_202 {b : Bool} : g_co (gX b) 259 202 = some (.iload_n 3) := rfl
theorem y_259_203 {b : Bool} : g_co (gX b) 259 203 = some (.bipush 26) := rfl
theorem y_259_205 {b : Bool} : g_co (gX b) 259 205 = some (.if_icmp .ne 8) := rfl
theorem y_259_208 {b : Bool} : g_co (gX b) 259 208 = some (.aload_n 0) := rfl
theorem y_259_209 {b : Bool} : g_co (gX b) 259 209 = some (.iconst 0) := rfl
theorem y_259_210 {b : Bool} : g_co (gX b) 259 210 = some (.invokevirtual 137) := rfl
theorem y_259_213 {b : Bool} : g_co (gX b) 259 213 = some (.aload_n 0) := rfl
theorem y_259_214 {b : Bool} : g_co (gX b) 259 214 = some (.getfield 31) := rfl
theorem y_259_217 {b : Bool} : g_co (gX b) 259 217 = some (.iload_n 3) := rfl
theorem y_259_218 {b : Bool} : g_co (gX b) 259 218 = some (.iload 4) := rfl
theorem y_259_220 {b : Bool} : g_co (gX b) 259 220 = some (.invokevirtual 77) := rfl
theorem y_259_223 {b : Bool} : g_co (gX b) 259 223 = some (.pop) := rfl
theorem y_259_224 {b : Bool} : g_co (gX b) 259 224 = some (.aload_n 0) := rfl
theorem y_259_225 {b : Bool} : g_co (gX b) 259 225 = some (.bipush 59) := rfl
theorem y_259_227 {b : Bool} : g_co (gX b) 259 227 = some (.invokevirtual 80) := rfl
theorem y_259_230 {b : Bool} : g_co (gX b) 259 230 = some (.return_) := rfl
theorem ym_259_113 {b : Bool} : g_ml (gX b) 259 113 = some (0, 273, 0, 6) := rfl
theorem yf_259_15 {b : Bool} : g_fl (gX b) 259 15 = some (6, 2, 0) := rfl
theorem ym_259_116 {b : Bool} : g_ml (gX b) 259 116 = some (0, 268, 0, 6) := rfl
theorem ym_259_119 {b : Bool} : g_ml (gX b) 259 119 = some (0, 260, 0, 6) := rfl
theorem ym_259_70 {b : Bool} : g_ml (gX b) 259 70 = some (0, 276, 2, 6) := rfl
theorem yf_259_31 {b : Bool} : g_fl (gX b) 259 31 = some (6, 5, 2) := rfl
theorem yf_259_122 {b : Bool} : g_fl (gX b) 259 122 = some (5, 4, 0) := rfl
theorem ym_259_125 {b : Bool} : g_ml (gX b) 259 125 = some (0, 265, 1, 6) := rfl
theorem ym_259_74 {b : Bool} : g_ml (gX b) 259 74 = some (0, 261, 1, 6) := rfl
theorem ym_259_77 {b : Bool} : g_ml (gX b) 259 77 = some (0, 252, 2, 5) := rfl
theorem ym_259_98 {b : Bool} : g_ml (gX b) 259 98 = some (0, 259, 0, 6) := rfl
theorem ym_259_129 {b : Bool} : g_ml (gX b) 259 129 = some (0, 253, 1, 5) := rfl
theorem yf_259_18 {b : Bool} : g_fl (gX b) 259 18 = some (6, 3, 0) := rfl
theorem ym_259_80 {b : Bool} : g_ml (gX b) 259 80 = some (0, 271, 1, 6) := rfl
theorem ym_259_105 {b : Bool} : g_ml (gX b) 259 105 = some (0, 266, 1, 6) := rfl
theorem ym_259_134 {b : Bool} : g_ml (gX b) 259 134 = some (0, 267, 0, 6) := rfl
theorem ym_259_137 {b : Bool} : g_ml (gX b) 259 137 = some (0, 263, 1, 6) := rfl
theorem yx_260 {b : Bool} : g_mx (gX b) 260 = 1 := rfl
theorem yt_260 {b : Bool} : g_rt (gX b) 260 = 1 := rfl
theorem y_260_0 {b : Bool} : g_co (gX b) 260 0 = some (.aload_n 0) := rfl
theorem y_260_1 {b : Bool} : g_co (gX b) 260 1 = some (.ldc 140) := rfl
theorem y_260_3 {b : Bool} : g_co (gX b) 260 3 = some (.invokevirtual 52) := rfl
theorem y_260_6 {b : Bool} : g_co (gX b) 260 6 = some (.ifCond .eq 6) := rfl
theorem y_260_9 {b : Bool} : g_co (gX b) 260 9 = some (.bipush 19) := rfl
theorem y_260_11 {b : Bool} : g_co (gX b) 260 11 = some (.ireturn) := rfl
theorem y_260_12 {b : Bool} : g_co (gX b) 260 12 = some (.aload_n 0) := rfl
theorem y_260_13 {b : Bool} : g_co (gX b) 260 13 = some (.ldc 142) := rfl
theorem y_260_15 {b : Bool} : g_co (gX b) 260 15 = some (.invokevirtual 52) := rfl
theorem y_260_18 {b : Bool} : g_co (gX b) 260 18 = some (.ifCond .eq 6) := rfl
theorem y_260_21 {b : Bool} : g_co (gX b) 260 21 = some (.bipush 20) := rfl
theorem y_260_23 {b : Bool} : g_co (gX b) 260 23 = some (.ireturn) := rfl
theorem y_260_24 {b : Bool} : g_co (gX b) 260 24 = some (.aload_n 0) := rfl
theorem y_260_25 {b : Bool} : g_co (gX b) 260 25 = some (.ldc 144) := rfl
theorem y_260_27 {b : Bool} : g_co (gX b) 260 27 = some (.invokevirtual 52) := rfl
theorem y_260_30 {b : Bool} : g_co (gX b) 260 30 = some (.ifCond .eq 6) := rfl
theorem y_260_33 {b : Bool} : g_co (gX b) 260 33 = some (.bipush 21) := rfl
theorem y_260_35 {b : Bool} : g_co (gX b) 260 35 = some (.ireturn) := rfl
theorem y_260_36 {b : Bool} : g_co (gX b) 260 36 = some (.aload_n 0) := rfl
theorem y_260_37 {b : Bool} : g_co (gX b) 260 37 = some (.ldc 146) := rfl
theorem y_260_39 {b : Bool} : g_co (gX b) 260 39 = some (.invokevirtual 52) := rfl
theorem y_260_42 {b : Bool} : g_co (gX b) 260 42 = some (.ifCond .eq 6) := rfl
theorem y_260_45 {b : Bool} : g_co (gX b) 260 45 = some (.bipush 22) := rfl
theorem y_260_47 {b : Bool} : g_co (gX b) 260 47 = some (.ireturn) := rfl
theorem y_260_48 {b : Bool} : g_co (gX b) 260 48 = some (.aload_n 0) := rfl
theorem y_260_49 {b : Bool} : g_co (gX b) 260 49 = some (.ldc 109) := rfl
theorem y_260_51 {b : Bool} : g_co (gX b) 260 51 = some (.invokevirtual 52) := rfl
theorem y_260_54 {b : Bool} : g_co (gX b) 260 54 = some (.ifCond .eq 6) := rfl
theorem y_260_57 {b : Bool} : g_co (gX b) 260 57 = some (.bipush 23) := rfl
theorem y_260_59 {b : Bool} : g_co (gX b) 260 59 = some (.ireturn) := rfl
theorem y_260_60 {b : Bool} : g_co (gX b) 260 60 = some (.aload_n 0) := rfl
theorem y_260_61 {b : Bool} : g_co (gX b) 260 61 = some (.ldc 148) := rfl
theorem y_260_63 {b : Bool} : g_co (gX b) 260 63 = some (.invokevirtual 52) := rfl
theorem y_260_66 {b : Bool} : g_co (gX b) 260 66 = some (.ifCond .eq 6) := rfl
theorem y_260_69 {b : Bool} : g_co (gX b) 260 69 = some (.bipush 24) := rfl
theorem y_260_71 {b : Bool} : g_co (gX b) 260 71 = some (.ireturn) := rfl
theorem y_260_72 {b : Bool} : g_co (gX b) 260 72 = some (.aload_n 0) := rfl
theorem y_260_73 {b : Bool} : g_co (gX b) 260 73 = some (.ldc 150) := rfl
theorem y_260_75 {b : Bool} : g_co (gX b) 260 75 = some (.invokevirtual 52) := rfl
theorem y_260_78 {b : Bool} : g_co (gX b) 260 78 = some (.ifCond .eq 6) := rfl
theorem y_260_81 {b : Bool} : g_co (gX b) 260 81 = some (.bipush 25) := rfl
theorem y_260_83 {b : Bool} : g_co (gX b) 260 83 = some (.ireturn) := rfl
theorem y_260_84 {b : Bool} : g_co (gX b) 260 84 = some (.aload_n 0) := rfl
theorem y_260_85 {b : Bool} : g_co (gX b) 260 85 = some (.ldc 152) := rfl
theorem y_260_87 {b : Bool} : g_co (gX b) 260 87 = some (.invokevirtual 52) := rfl
theorem y_260_90 {b : Bool} : g_co (gX b) 260 90 = some (.ifCond .eq 6) := rfl
theorem y_260_93 {b : Bool} : g_co (gX b) 260 93 = some (.bipush 26) := rfl
theorem y_260_95 {b : Bool} : g_co (gX b) 260 95 = some (.ireturn) := rfl
theorem y_260_96 {b : Bool} : g_co (gX b) 260 96 = some (.aload_n 0) := rfl
theorem y_260_97 {b : Bool} : g_co (gX b) 260 97 = some (.ldc 154) := rfl
theorem y_260_99 {b : Bool} : g_co (gX b) 260 99 = some (.invokevirtual 52) := rfl
theorem y_260_102 {b : Bool} : g_co (gX b) 260 102 = some (.ifCond .eq 6) := rfl
theorem y_260_105 {b : Bool} : g_co (gX b) 260 105 = some (.bipush 27) := rfl
theorem y_260_107 {b : Bool} : g_co (gX b) 260 107 = some (.ireturn) := rfl
theorem y_260_108 {b : Bool} : g_co (gX b) 260 108 = some (.aload_n 0) := rfl
theorem y_260_109 {b : Bool} : g_co (gX b) 260 109 = some (.ldc 156) := rfl
theorem y_260_111 {b : Bool} : g_co (gX b) 260 111 = some (.invokevirtual 52) := rfl
theorem y_260_114 {b : Bool} : g_co (gX b) 260 114 = some (.ifCond .eq 8) := rfl
theorem y_260_117 {b : Bool} : g_co (gX b) 260 117 = some (.bipush 17) := rfl
theorem y_260_119 {b : Bool} : g_co (gX b) 260 119 = some (.goto 4) := rfl
theorem y_260_122 {b : Bool} : g_co (gX b) 260 122 = some (.iconst (-1)) := rfl
theorem y_260_123 {b : Bool} : g_co (gX b) 260 123 = some (.ireturn) := rfl
theorem yk_260_140 {b : Bool} : g_cn (gX b) 260 140 = none := rfl
theorem yz_260_140 {b : Bool} : g_nt (gX b) 260 140 = 10 + 20 := rfl
theorem ym_260_52 {b : Bool} : g_ml (gX b) 260 52 = some (0, 269, 1, 6) := rfl
theorem yk_260_142 {b : Bool} : g_cn (gX b) 260 142 = none := rfl
theorem yz_260_142 {b : Bool} : g_nt (gX b) 260 142 = 10 + 9 := rfl
theorem yk_260_144 {b : Bool} : g_cn (gX b) 260 144 = none := rfl
theorem yz_260_144 {b : Bool} : g_nt (gX b) 260 144 = 10 + 7 := rfl
theorem yk_260_146 {b : Bool} : g_cn (gX b) 260 146 = none := rfl
theorem yz_260_146 {b : Bool} : g_nt (gX b) 260 146 = 10 + 12 := rfl
theorem yk_260_109 {b : Bool} : g_cn (gX b) 260 109 = none := rfl
theorem yz_260_109 {b : Bool} : g_nt (gX b) 260 109 = 10 + 3 := rfl
theorem yk_260_148 {b : Bool} : g_cn (gX b) 260 148 = none := rfl
theorem yz_260_148 {b : Bool} : g_nt (gX b) 260 148 = 10 + 2 := rfl
theorem yk_260_150 {b : Bool} : g_cn (gX b) 260 150 = none := rfl
theorem yz_260_150 {b : Bool} : g_nt (gX b) 260 150 = 10 + 22 := rfl
theorem yk_260_152 {b : Bool} : g_cn (gX b) 260 152 = none := rfl
theorem yz_260_152 {b : Bool} : g_nt (gX b) 260 152 = 10 + 19 := rfl
theorem yk_260_154 {b : Bool} : g_cn (gX b) 260 154 = none := rfl
theorem yz_260_154 {b : Bool} : g_nt (gX b) 260 154 = 10 + 4 := rfl
theorem yk_260_156 {b : Bool} : g_cn (gX b) 260 156 = none := rfl
theorem yz_260_156 {b : Bool} : g_nt (gX b) 260 156 = 10 + 10 := rfl
theorem yx_261 {b : Bool} : g_mx (gX b) 261 = 4 := rfl
theorem yt_261 {b : Bool} : g_rt (gX b) 261 = 0 := rfl
theorem y_261_0 {b : Bool} : g_co (gX b) 261 0 = some (.iload_n 1) := rfl
theorem y_261_1 {b : Bool} : g_co (gX b) 261 1 = some (.iconst 2) := rfl
theorem y_261_2 {b : Bool} : g_co (gX b) 261 2 = some (.if_icmp .ge 74) := rfl
theorem y_261_5 {b : Bool} : g_co (gX b) 261 5 = some (.aload_n 0) := rfl
theorem y_261_6 {b : Bool} : g_co (gX b) 261 6 = some (.iload_n 1) := rfl
theorem y_261_7 {b : Bool} : g_co (gX b) 261 7 = some (.iconst 1) := rfl
theorem y_261_8 {b : Bool} : g_co (gX b) 261 8 = some (.iadd) := rfl
theorem y_261_9 {b : Bool} : g_co (gX b) 261 9 = some (.invokevirtual 74) := rfl
theorem y_261_12 {b : Bool} : g_co (gX b) 261 12 = some (.iload_n 1) := rfl
theorem y_261_13 {b : Bool} : g_co (gX b) 261 13 = some (.ifCond .ne 8) := rfl
theorem y_261_16 {b : Bool} : g_co (gX b) 261 16 = some (.ldc 158) := rfl
theorem y_261_18 {b : Bool} : g_co (gX b) 261 18 = some (.goto 5) := rfl
theorem y_261_21 {b : Bool} : g_co (gX b) 261 21 = some (.ldc 160) := rfl
theorem y_261_23 {b : Bool} : g_co (gX b) 261 23 = some (.astore_n 2) := rfl
theorem y_261_24 {b : Bool} : g_co (gX b) 261 24 = some (.iconst 0) := rfl
theorem y_261_25 {b : Bool} : g_co (gX b) 261 25 = some (.istore_n 3) := rfl
theorem y_261_26 {b : Bool} : g_co (gX b) 261 26 = some (.iload_n 3) := rfl
theorem y_261_27 {b : Bool} : g_co (gX b) 261 27 = some (.aload_n 0) := rfl
theorem y_261_28 {b : Bool} : g_co (gX b) 261 28 = some (.getfield 9) := rfl
theorem y_261_31 {b : Bool} : g_co (gX b) 261 31 = some (.if_icmp .ge 44) := rfl
theorem y_261_34 {b : Bool} : g_co (gX b) 261 34 = some (.aload_n 0) := rfl
theorem y_261_35 {b : Bool} : g_co (gX b) 261 35 = some (.aload_n 2) := rfl
theorem y_261_36 {b : Bool} : g_co (gX b) 261 36 = some (.invokevirtual 52) := rfl
theorem y_261_39 {b : Bool} : g_co (gX b) 261 39 = some (.ifCond .eq 36) := rfl
theorem y_261_42 {b : Bool} : g_co (gX b) 261 42 = some (.aload_n 0) := rfl
theorem y_261_43 {b : Bool} : g_co (gX b) 261 43 = some (.iload_n 1) := rfl
theorem y_261_44 {b : Bool} : g_co (gX b) 261 44 = some (.iconst 1) := rfl
theorem y_261_45 {b : Bool} : g_co (gX b) 261 45 = some (.iadd) := rfl
theorem y_261_46 {b : Bool} : g_co (gX b) 261 46 = some (.invokevirtual 74) := rfl
theorem y_261_49 {b : Bool} : g_co (gX b) 261 49 = some (.aload_n 0) := rfl
theorem y_261_50 {b : Bool} : g_co (gX b) 261 50 = some (.getfield 31) := rfl
theorem y_261_53 {b : Bool} : g_co (gX b) 261 53 = some (.iload_n 1) := rfl
theorem y_261_54 {b : Bool} : g_co (gX b) 261 54 = some (.ifCond .ne 8) := rfl
theorem y_261_57 {b : Bool} : g_co (gX b) 261 57 = some (.bipush 15) := rfl
theorem y_261_59 {b : Bool} : g_co (gX b) 261 59 = some (.goto 5) := rfl
theorem y_261_62 {b : Bool} : g_co (gX b) 261 62 = some (.bipush 14) := rfl
theorem y_261_64 {b : Bool} : g_co (gX b) 261 64 = some (.iconst 0) := rfl
theorem y_261_65 {b : Bool} : g_co (gX b) 261 65 = some (.invokevirtual 77) := rfl
theorem y_261_68 {b : Bool} : g_co (gX b) 261 68 = some (.pop) := rfl
theorem y_261_69 {b : Bool} : g_co (gX b) 261 69 = some (.iinc 3 1) := rfl
theorem y_261_72 {b : Bool} : g_co (gX b) 261 72 = some (.goto (-46)) := rfl
theorem y_261_75 {b : Bool} : g_co (gX b) 261 75 = some (.return_) := rfl
theorem y_261_76 {b : Bool} : g_co (gX b) 261 76 = some (.aload_n 0) := rfl
theorem y_261_77 {b : Bool} : g_co (gX b) 261 77 = some (.invokevirtual 113) := rfl
theorem y_261_80 {b : Bool} : g_co (gX b) 261 80 = some (.aload_n 0) := rfl
theorem y_261_81 {b : Bool} : g_co (gX b) 261 81 = some (.getfield 15) := rfl
theorem y_261_84 {b : Bool} : g_co (gX b) 261 84 = some (.istore_n 2) := rfl
theorem y_261_85 {b : Bool} : g_co (gX b) 261 85 = some (.aload_n 0) := rfl
theorem y_261_86 {b : Bool} : g_co (gX b) 261 86 = some (.ldc 162) := rfl
theorem y_261_88 {b : Bool} : g_co (gX b) 261 88 = some (.invokevirtual 52) := rfl
theorem y_261_91 {b : Bool} : g_co (gX b) 261 91 = some (.ifCond .eq 37) := rfl
theorem y_261_94 {b : Bool} : g_co (gX b) 261 94 = some (.aload_n 0) := rfl
theorem y_261_95 {b : Bool} : g_co (gX b) 261 95 = some (.iload_n 2) := rfl
theorem y_261_96 {b : Bool} : g_co (gX b) 261 96 = some (.invokevirtual 125) := rfl
theorem y_261_99 {b : Bool} : g_co (gX b) 261 99 = some (.ifCond .eq 28) := rfl
theorem y_261_102 {b : Bool} : g_co (gX b) 261 102 = some (.aload_n 0) := rfl
theorem y_261_103 {b : Bool} : g_co (gX b) 261 103 = some (.iconst 2) := rfl
theorem y_261_104 {b : Bool} : g_co (gX b) 261 104 = some (.invokevirtual 74) := rfl
theorem y_261_107 {b : Bool} : g_co (gX b) 261 107 = some (.aload_n 0) := rfl
theorem y_261_108 {b : Bool} : g_co (gX b) 261 108 = some (.getfield 31) := rfl
theorem y_261_111 {b : Bool} : g_co (gX b) 261 111 = some (.iconst 4) := rfl
theorem y_261_112 {b : Bool} : g_co (gX b) 261 112 = some (.iconst 0) := rfl
theorem y_261_113 {b : Bool} : g_co (gX b) 261 113 = some (.invokevirtual 77) := rfl
theorem y_261_116 {b : Bool} : g_co (gX b) 261 116 = some (.pop) := rfl
theorem y_261_117 {b : Bool} : g_co (gX b) 261 117 = some (.aload_n 0) := rfl
theorem y_261_118 {b : Bool} : g_co (gX b) 261 118 = some (.dup) := rfl
theorem y_261_119 {b : Bool} : g_co (gX b) 261 119 = some (.getfield 18) := rfl
theorem y_261_122 {b : Bool} : g_co (gX b) 261 122 = some (.iconst 1) := rfl
theorem y_261_123 {b : Bool} : g_co (gX b) 261 123 = some (.isub) := rfl
theorem y_261_124 {b : Bool} : g_co (gX b) 261 124 = some (.putfield 18) := rfl
theorem y_261_127 {b : Bool} : g_co (gX b) 261 127 = some (.return_) := rfl
theorem y_261_128 {b : Bool} : g_co (gX b) 261 128 = some (.aload_n 0) := rfl
theorem y_261_129 {b : Bool} : g_co (gX b) 261 129 = some (.bipush 91) := rfl
theorem y_261_131 {b : Bool} : g_co (gX b) 261 131 = some (.invokevirtual 94) := rfl
theorem y_261_134 {b : Bool} : g_co (gX b) 261 134 = some (.ifCond .eq 33) := rfl
theorem y_261_137 {b : Bool} : g_co (gX b) 261 137 = some (.aload_n 0) := rfl
theorem y_261_138 {b : Bool} : g_co (gX b) 261 138 = some (.iload_n 2) := rfl
theorem y_261_139 {b : Bool} : g_co (gX b) 261 139 = some (.invokevirtual 125) := rfl
theorem y_261_142 {b : Bool} : g_co (gX b) 261 142 = some (.ifCond .eq 24) := rfl
theorem y_261_145 {b : Bool} : g_co (gX b) 261 145 = some (.aload_n 0) := rfl
theorem y_261_146 {b : Bool} : g_co (gX b) 261 146 = some (.iconst 0) := rfl
theorem y_261_147 {b : Bool} : g_co (gX b) 261 147 = some (.invokevirtual 74) := rfl
theorem y_261_150 {b : Bool} : g_co (gX b) 261 150 = some (.aload_n 0) := rfl
theorem y_261_151 {b : Bool} : g_co (gX b) 261 151 = some (.bipush 93) := rfl
theorem y_261_153 {b : Bool} : g_co (gX b) 261 153 = some (.invokevirtual 80) := rfl
theorem y_261_156 {b : Bool} : g_co (gX b) 261 156 = some (.aload_n 0) := rfl
theorem y_261_157 {b : Bool} : g_co (gX b) 261 157 = some (.dup) := rfl
theorem y_261_158 {b : Bool} : g_co (gX b) 261 158 = some (.getfield 18) := rfl
theorem y_261_161 {b : Bool} : g_co (gX b) 261 161 = some (.iconst 1) := rfl
theorem y_261_162 {b : Bool} : g_co (gX b) 261 162 = some (.isub) := rfl
theorem y_261_163 {b : Bool} : g_co (gX b) 261 163 = some (.putfield 18) := rfl
theorem y_261_166 {b : Bool} : g_co (gX b) 261 166 = some (.return_) := rfl
theorem y_261_167 {b : Bool} : g_co (gX b) 261 167 = some (.aload_n 0) := rfl
theorem y_261_168 {b : Bool} : g_co (gX b) 261 168 = some (.iconst 0) := rfl
theorem y_261_169 {b : Bool} : g_co (gX b) 261 169 = some (.invokevirtual 137) := rfl
theorem y_261_172 {b : Bool} : g_co (gX b) 261 172 = some (.aload_n 0) := rfl
theorem y_261_173 {b : Bool} : g_co (gX b) 261 173 = some (.invokevirtual 164) := rfl
theorem y_261_176 {b : Bool} : g_co (gX b) 261 176 = some (.istore_n 3) := rfl
theorem y_261_177 {b : Bool} : g_co (gX b) 261 177 = some (.aload_n 0) := rfl
theorem y_261_178 {b : Bool} : g_co (gX b) 261 178 = some (.iconst 0) := rfl
theorem y_261_179 {b : Bool} : g_co (gX b) 261 179 = some (.invokevirtual 137) := rfl
theorem y_261_182 {b : Bool} : g_co (gX b) 261 182 = some (.aload_n 0) := rfl
theorem y_261_183 {b : Bool} : g_co (gX b) 261 183 = some (.getfield 31) := rfl
theorem y_261_186 {b : Bool} : g_co (gX b) 261 186 = some (.iload_n 3) := rfl
theorem y_261_187 {b : Bool} : g_co (gX b) 261 187 = some (.iconst 0) := rfl
theorem y_261_188 {b : Bool} : g_co (gX b) 261 188 = some (.invokevirtual 77) := rfl
theorem y_261_191 {b : Bool} : g_co (gX b) 261 191 = some (.pop) := rfl
theorem y_261_192 {b : Bool} : g_co (gX b) 261 192 = some (.return_) := rfl
theorem ym_261_74 {b : Bool} : g_ml (gX b) 261 74 = some (0, 261, 1, 6) := rfl
theorem yk_261_158 {b : Bool} : g_cn (gX b) 261 158 = none := rfl
theorem yz_261_158 {b : Bool} : g_nt (gX b) 261 158 = 10 + 16 := rfl
theorem yk_261_160 {b : Bool} : g_cn (gX b) 261 160 = none := rfl
theorem yz_261_160 {b : Bool} : g_nt (gX b) 261 160 = 10 + 0 := rfl
theorem yf_261_9 {b : Bool} : g_fl (gX b) 261 9 = some (6, 1, 0) := rfl
theorem ym_261_52 {b : Bool} : g_ml (gX b) 261 52 = some (0, 269, 1, 6) := rfl
theorem yf_261_31 {b : Bool} : g_fl (gX b) 261 31 = some (6, 5, 2) := rfl
theorem ym_261_77 {b : Bool} : g_ml (gX b) 261 77 = some (0, 252, 2, 5) := rfl
theorem ym_261_113 {b : Bool} : g_ml (gX b) 261 113 = some (0, 273, 0, 6) := rfl
theorem yf_261_15 {b : Bool} : g_fl (gX b) 261 15 = some (6, 2, 0) := rfl
theorem yk_261_162 {b : Bool} : g_cn (gX b) 261 162 = none := rfl
theorem yz_261_162 {b : Bool} : g_nt (gX b) 261 162 = 10 + 14 := rfl
theorem ym_261_125 {b : Bool} : g_ml (gX b) 261 125 = some (0, 265, 1, 6) := rfl
theorem yf_261_18 {b : Bool} : g_fl (gX b) 261 18 = some (6, 3, 0) := rfl
theorem ym_261_94 {b : Bool} : g_ml (gX b) 261 94 = some (0, 270, 1, 6) := rfl
theorem ym_261_80 {b : Bool} : g_ml (gX b) 261 80 = some (0, 271, 1, 6) := rfl
theorem ym_261_137 {b : Bool} : g_ml (gX b) 261 137 = some (0, 263, 1, 6) := rfl
theorem ym_261_164 {b : Bool} : g_ml (gX b) 261 164 = some (0, 262, 0, 6) := rfl
theorem yx_262 {b : Bool} : g_mx (gX b) 262 = 1 := rfl
theorem yt_262 {b : Bool} : g_rt (gX b) 262 = 1 := rfl
theorem y_262_0 {b : Bool} : g_co (gX b) 262 0 = some (.aload_n 0) := rfl
theorem y_262_1 {b : Bool} : g_co (gX b) 262 1 = some (.bipush 60) := rfl
theorem y_262_3 {b : Bool} : g_co (gX b) 262 3 = some (.invokevirtual 94) := rfl
theorem y_262_6 {b : Bool} : g_co (gX b) 262 6 = some (.ifCond .eq 6) := rfl
theorem y_262_9 {b : Bool} : g_co (gX b) 262 9 = some (.bipush 11) := rfl
theorem y_262_11 {b : Bool} : g_co (gX b) 262 11 = some (.ireturn) := rfl
theorem y_262_12 {b : Bool} : g_co (gX b) 262 12 = some (.aload_n 0) := rfl
theorem y_262_13 {b : Bool} : g_co (gX b) 262 13 = some (.bipush 62) := rfl
theorem y_262_15 {b : Bool} : g_co (gX b) 262 15 = some (.invokevirtual 94) := rfl
theorem y_262_18 {b : Bool} : g_co (gX b) 262 18 = some (.ifCond .eq 6) := rfl
theorem y_262_21 {b : Bool} : g_co (gX b) 262 21 = some (.bipush 12) := rfl
theorem y_262_23 {b : Bool} : g_co (gX b) 262 23 = some (.ireturn) := rfl
theorem y_262_24 {b : Bool} : g_co (gX b) 262 24 = some (.aload_n 0) := rfl
theorem y_262_25 {b : Bool} : g_co (gX b) 262 25 = some (.bipush 61) := rfl
theorem y_262_27 {b : Bool} : g_co (gX b) 262 27 = some (.invokevirtual 80) := rfl
theorem y_262_30 {b : Bool} : g_co (gX b) 262 30 = some (.bipush 13) := rfl
theorem y_262_32 {b : Bool} : g_co (gX b) 262 32 = some (.ireturn) := rfl
theorem ym_262_94 {b : Bool} : g_ml (gX b) 262 94 = some (0, 270, 1, 6) := rfl
theorem ym_262_80 {b : Bool} : g_ml (gX b) 262 80 = some (0, 271, 1, 6) := rfl
theorem yx_263 {b : Bool} : g_mx (gX b) 263 = 5 := rfl
theorem yt_263 {b : Bool} : g_rt (gX b) 263 = 0 := rfl
theorem y_263_0 {b : Bool} : g_co (gX b) 263 0 = some (.iload_n 1) := rfl
theorem y_263_1 {b : Bool} : g_co (gX b) 263 1 = some (.iconst 2) := rfl
theorem y_263_2 {b : Bool} : g_co (gX b) 263 2 = some (.if_icmp .ge 55) := rfl
theorem y_263_5 {b : Bool} : g_co (gX b) 263 5 = some (.aload_n 0) := rfl
theorem y_263_6 {b : Bool} : g_co (gX b) 263 6 = some (.iload_n 1) := rfl
theorem y_263_7 {b : Bool} : g_co (gX b) 263 7 = some (.iconst 1) := rfl
theorem y_263_8 {b : Bool} : g_co (gX b) 263 8 = some (.iadd) := rfl
theorem y_263_9 {b : Bool} : g_co (gX b) 263 9 = some (.invokevirtual 137) := rfl
theorem y_263_12 {b : Bool} : g_co (gX b) 263 12 = some (.iconst 0) := rfl
theorem y_263_13 {b : Bool} : g_co (gX b) 263 13 = some (.istore_n 2) := rfl
theorem y_263_14 {b : Bool} : g_co (gX b) 263 14 = some (.iload_n 2) := rfl
theorem y_263_15 {b : Bool} : g_co (gX b) 263 15 = some (.aload_n 0) := rfl
theorem y_263_16 {b : Bool} : g_co (gX b) 263 16 = some (.getfield 9) := rfl
theorem y_263_19 {b : Bool} : g_co (gX b) 263 19 = some (.if_icmp .ge 37) := rfl
theorem y_263_22 {b : Bool} : g_co (gX b) 263 22 = some (.aload_n 0) := rfl
theorem y_263_23 {b : Bool} : g_co (gX b) 263 23 = some (.iload_n 1) := rfl
theorem y_263_24 {b : Bool} : g_co (gX b) 263 24 = some (.invokevirtual 167) := rfl
theorem y_263_27 {b : Bool} : g_co (gX b) 263 27 = some (.istore_n 3) := rfl
theorem y_263_28 {b : Bool} : g_co (gX b) 263 28 = some (.iload_n 3) := rfl
theorem y_263_29 {b : Bool} : g_co (gX b) 263 29 = some (.ifCond .ge 4) := rfl
theorem y_263_32 {b : Bool} : g_co (gX b) 263 32 = some (.return_) := rfl
theorem y_263_33 {b : Bool} : g_co (gX b) 263 33 = some (.aload_n 0) := rfl
theorem y_263_34 {b : Bool} : g_co (gX b) 263 34 = some (.iload_n 1) := rfl
theorem y_263_35 {b : Bool} : g_co (gX b) 263 35 = some (.iconst 1) := rfl
theorem y_263_36 {b : Bool} : g_co (gX b) 263 36 = some (.iadd) := rfl
theorem y_263_37 {b : Bool} : g_co (gX b) 263 37 = some (.invokevirtual 137) := rfl
theorem y_263_40 {b : Bool} : g_co (gX b) 263 40 = some (.aload_n 0) := rfl
theorem y_263_41 {b : Bool} : g_co (gX b) 263 41 = some (.getfield 31) := rfl
theorem y_263_44 {b : Bool} : g_co (gX b) 263 44 = some (.iload_n 3) := rfl
theorem y_263_45 {b : Bool} : g_co (gX b) 263 45 = some (.iconst 0) := rfl
theorem y_263_46 {b : Bool} : g_co (gX b) 263 46 = some (.invokevirtual 77) := rfl
theorem y_263_49 {b : Bool} : g_co (gX b) 263 49 = some (.pop) := rfl
theorem y_263_50 {b : Bool} : g_co (gX b) 263 50 = some (.iinc 2 1) := rfl
theorem y_263_53 {b : Bool} : g_co (gX b) 263 53 = some (.goto (-39)) := rfl
theorem y_263_56 {b : Bool} : g_co (gX b) 263 56 = some (.return_) := rfl
theorem y_263_57 {b : Bool} : g_co (gX b) 263 57 = some (.aload_n 0) := rfl
theorem y_263_58 {b : Bool} : g_co (gX b) 263 58 = some (.invokevirtual 113) := rfl
theorem y_263_61 {b : Bool} : g_co (gX b) 263 61 = some (.aload_n 0) := rfl
theorem y_263_62 {b : Bool} : g_co (gX b) 263 62 = some (.getfield 15) := rfl
theorem y_263_65 {b : Bool} : g_co (gX b) 263 65 = some (.istore_n 2) := rfl
theorem y_263_66 {b : Bool} : g_co (gX b) 263 66 = some (.aload_n 0) := rfl
theorem y_263_67 {b : Bool} : g_co (gX b) 263 67 = some (.invokevirtual 116) := rfl
theorem y_263_70 {b : Bool} : g_co (gX b) 263 70 = some (.istore_n 3) := rfl
theorem y_263_71 {b : Bool} : g_co (gX b) 263 71 = some (.iload_n 3) := rfl
theorem y_263_72 {b : Bool} : g_co (gX b) 263 72 = some (.ifCond .lt 16) := rfl
theorem y_263_75 {b : Bool} : g_co (gX b) 263 75 = some (.aload_n 0) := rfl
theorem y_263_76 {b : Bool} : g_co (gX b) 263 76 = some (.getfield 31) := rfl
theorem y_263_79 {b : Bool} : g_co (gX b) 263 79 = some (.iconst 1) := rfl
theorem y_263_80 {b : Bool} : g_co (gX b) 263 80 = some (.iload_n 3) := rfl
theorem y_263_81 {b : Bool} : g_co (gX b) 263 81 = some (.invokevirtual 77) := rfl
theorem y_263_84 {b : Bool} : g_co (gX b) 263 84 = some (.pop) := rfl
theorem y_263_85 {b : Bool} : g_co (gX b) 263 85 = some (.goto 224) := rfl
theorem y_263_88 {b : Bool} : g_co (gX b) 263 88 = some (.aload_n 0) := rfl
theorem y_263_89 {b : Bool} : g_co (gX b) 263 89 = some (.aload_n 0) := rfl
theorem y_263_90 {b : Bool} : g_co (gX b) 263 90 = some (.getfield 15) := rfl
theorem y_263_93 {b : Bool} : g_co (gX b) 263 93 = some (.invokevirtual 170) := rfl
theorem y_263_96 {b : Bool} : g_co (gX b) 263 96 = some (.ifCond .eq 19) := rfl
theorem y_263_99 {b : Bool} : g_co (gX b) 263 99 = some (.aload_n 0) := rfl
theorem y_263_100 {b : Bool} : g_co (gX b) 263 100 = some (.getfield 31) := rfl
theorem y_263_103 {b : Bool} : g_co (gX b) 263 103 = some (.iconst 0) := rfl
theorem y_263_104 {b : Bool} : g_co (gX b) 263 104 = some (.aload_n 0) := rfl
theorem y_263_105 {b : Bool} : g_co (gX b) 263 105 = some (.invokevirtual 134) := rfl
theorem y_263_108 {b : Bool} : g_co (gX b) 263 108 = some (.invokevirtual 77) := rfl
theorem y_263_111 {b : Bool} : g_co (gX b) 263 111 = some (.pop) := rfl
theorem y_263_112 {b : Bool} : g_co (gX b) 263 112 = some (.goto 197) := rfl
theorem y_263_115 {b : Bool} : g_co (gX b) 263 115 = some (.aload_n 0) := rfl
theorem y_263_116 {b : Bool} : g_co (gX b) 263 116 = some (.ldc 173) := rfl
theorem y_263_118 {b : Bool} : g_co (gX b) 263 118 = some (.invokevirtual 52) := rfl
theorem y_263_121 {b : Bool} : g_co (gX b) 263 121 = some (.ifCond .eq 16) := rfl
theorem y_263_124 {b : Bool} : g_co (gX b) 263 124 = some (.aload_n 0) := rfl
theorem y_263_125 {b : Bool} : g_co (gX b) 263 125 = some (.getfield 31) := rfl
theorem y_263_128 {b : Bool} : g_co (gX b) 263 128 = some (.iconst 2) := rfl
theorem y_263_129 {b : Bool} : g_co (gX b) 263 129 = some (.iconst 0) := rfl
theorem y_263_130 {b : Bool} : g_co (gX b) 263 130 = some (.invokevirtual 77) := rfl
theorem y_263_133 {b : Bool} : g_co (gX b) 263 133 = some (.pop) := rfl
theorem y_263_134 {b : Bool} : g_co (gX b) 263 134 = some (.goto 175) := rfl
theorem y_263_137 {b : Bool} : g_co (gX b) 263 137 = some (.aload_n 0) := rfl
theorem y_263_138 {b : Bool} : g_co (gX b) 263 138 = some (.ldc 175) := rfl
theorem y_263_140 {b : Bool} : g_co (gX b) 263 140 = some (.invokevirtual 52) := rfl
theorem y_263_143 {b : Bool} : g_co (gX b) 263 143 = some (.ifCond .eq 20) := rfl
theorem y_263_146 {b : Bool} : g_co (gX b) 263 146 = some (.aload_n 0) := rfl
theorem y_263_147 {b : Bool} : g_co (gX b) 263 147 = some (.getfield 31) := rfl
theorem y_263_150 {b : Bool} : g_co (gX b) 263 150 = some (.iconst 3) := rfl
theorem y_263_151 {b : Bool} : g_co (gX b) 263 151 = some (.aload_n 0) := rfl
theorem y_263_152 {b : Bool} : g_co (gX b) 263 152 = some (.iconst 4) := rfl
theorem y_263_153 {b : Bool} : g_co (gX b) 263 153 = some (.invokevirtual 105) := rfl
theorem y_263_156 {b : Bool} : g_co (gX b) 263 156 = some (.invokevirtual 77) := rfl
theorem y_263_159 {b : Bool} : g_co (gX b) 263 159 = some (.pop) := rfl
theorem y_263_160 {b : Bool} : g_co (gX b) 263 160 = some (.goto 149) := rfl
theorem y_263_163 {b : Bool} : g_co (gX b) 263 163 = some (.aload_n 0) := rfl
theorem y_263_164 {b : Bool} : g_co (gX b) 263 164 = some (.bipush 40) := rfl
theorem y_263_166 {b : Bool} : g_co (gX b) 263 166 = some (.invokevirtual 94) := rfl
theorem y_263_169 {b : Bool} : g_co (gX b) 263 169 = some (.ifCond .eq 35) := rfl
theorem y_263_172 {b : Bool} : g_co (gX b) 263 172 = some (.aload_n 0) := rfl
theorem y_263_173 {b : Bool} : g_co (gX b) 263 173 = some (.iload_n 2) := rfl
theorem y_263_174 {b : Bool} : g_co (gX b) 263 174 = some (.invokevirtual 125) := rfl
theorem y_263_177 {b : Bool} : g_co (gX b) 263 177 = some (.ifCond .eq 132) := rfl
theorem y_263_180 {b : Bool} : g_co (gX b) 263 180 = some (.aload_n 0) := rfl
theorem y_263_181 {b : Bool} : g_co (gX b) 263 181 = some (.iconst 0) := rfl
theorem y_263_182 {b : Bool} : g_co (gX b) 263 182 = some (.invokevirtual 137) := rfl
theorem y_263_185 {b : Bool} : g_co (gX b) 263 185 = some (.aload_n 0) := rfl
theorem y_263_186 {b : Bool} : g_co (gX b) 263 186 = some (.bipush 41) := rfl
theorem y_263_188 {b : Bool} : g_co (gX b) 263 188 = some (.invokevirtual 80) := rfl
theorem y_263_191 {b : Bool} : g_co (gX b) 263 191 = some (.aload_n 0) := rfl
theorem y_263_192 {b : Bool} : g_co (gX b) 263 192 = some (.dup) := rfl
theorem y_263_193 {b : Bool} : g_co (gX b) 263 193 = some (.getfield 18) := rfl
theorem y_263_196 {b : Bool} : g_co (gX b) 263 196 = some (.iconst 1) := rfl
theorem y_263_197 {b : Bool} : g_co (gX b) 263 197 = some (.isub) := rfl
theorem y_263_198 {b : Bool} : g_co (gX b) 263 198 = some (.putfield 18) := rfl
theorem y_263_201 {b : Bool} : g_co (gX b) 263 201 = some (.goto 108) := rfl
theorem y_263_204 {b : Bool} : g_co (gX b) 263 204 = some (.aload_n 0) := rfl
theorem y_263_205 {b : Bool} : g_co (gX b) 263 205 = some (.ldc 177) := rfl
theorem y_263_207 {b : Bool} : g_co (gX b) 263 207 = some (.invokevirtual 52) := rfl
theorem y_263_210 {b : Bool} : g_co (gX b) 263 210 = some (.istore 4) := rfl
theorem y_263_212 {b : Bool} : g_co (gX b) 263 212 = some (.iload 4) := rfl
theorem y_263_214 {b : Bool} : g_co (gX b) 263 214 = some (.ifCond .ne 19) := rfl
theorem y_263_217 {b : Bool} : g_co (gX b) 263 217 = some (.aload_n 0) := rfl
theorem y_263_218 {b : Bool} : g_co (gX b) 263 218 = some (.ldc 179) := rfl
theorem y_263_220 {b : Bool} : g_co (gX b) 263 220 = some (.invokevirtual 52) := rfl
theorem y_263_223 {b : Bool} : g_co (gX b) 263 223 = some (.ifCond .ne 10) := rfl
theorem y_263_226 {b : Bool} : g_co (gX b) 263 226 = some (.aload_n 0) := rfl
theorem y_263_227 {b : Bool} : g_co (gX b) 263 227 = some (.iconst 1) := rfl
theorem y_263_228 {b : Bool} : g_co (gX b) 263 228 = some (.iload_n 2) := rfl
theorem y_263_229 {b : Bool} : g_co (gX b) 263 229 = some (.invokevirtual 70) := rfl
theorem y_263_232 {b : Bool} : g_co (gX b) 263 232 = some (.return_) := rfl
theorem y_263_233 {b : Bool} : g_co (gX b) 263 233 = some (.aload_n 0) := rfl
theorem y_263_234 {b : Bool} : g_co (gX b) 263 234 = some (.invokevirtual 113) := rfl
theorem y_263_237 {b : Bool} : g_co (gX b) 263 237 = some (.aload_n 0) := rfl
theorem y_263_238 {b : Bool} : g_co (gX b) 263 238 = some (.getfield 15) := rfl
theorem y_263_241 {b : Bool} : g_co (gX b) 263 241 = some (.istore_n 2) := rfl
theorem y_263_242 {b : Bool} : g_co (gX b) 263 242 = some (.aload_n 0) := rfl
theorem y_263_243 {b : Bool} : g_co (gX b) 263 243 = some (.bipush 40) := rfl
theorem y_263_245 {b : Bool} : g_co (gX b) 263 245 = some (.invokevirtual 80) := rfl
theorem y_263_248 {b : Bool} : g_co (gX b) 263 248 = some (.aload_n 0) := rfl
theorem y_263_249 {b : Bool} : g_co (gX b) 263 249 = some (.iload_n 2) := rfl
theorem y_263_250 {b : Bool} : g_co (gX b) 263 250 = some (.invokevirtual 125) := rfl
theorem y_263_253 {b : Bool} : g_co (gX b) 263 253 = some (.ifCond .eq 35) := rfl
theorem y_263_256 {b : Bool} : g_co (gX b) 263 256 = some (.aload_n 0) := rfl
theorem y_263_257 {b : Bool} : g_co (gX b) 263 257 = some (.iconst 0) := rfl
theorem y_263_258 {b : Bool} : g_co (gX b) 263 258 = some (.invokevirtual 137) := rfl
theorem y_263_261 {b : Bool} : g_co (gX b) 263 261 = some (.aload_n 0) := rfl
theorem y_263_262 {b : Bool} : g_co (gX b) 263 262 = some (.bipush 44) := rfl
theorem y_263_264 {b : Bool} : g_co (gX b) 263 264 = some (.invokevirtual 80) := rfl
theorem y_263_267 {b : Bool} : g_co (gX b) 263 267 = some (.aload_n 0) := rfl
theorem y_263_268 {b : Bool} : g_co (gX b) 263 268 = some (.iconst 0) := rfl
theorem y_263_269 {b : Bool} : g_co (gX b) 263 269 = some (.invokevirtual 137) := rfl
theorem y_263_272 {b : Bool} : g_co (gX b) 263 272 = some (.aload_n 0) := rfl
theorem y_263_273 {b : Bool} : g_co (gX b) 263 273 = some (.bipush 41) := rfl
theorem y_263_275 {b : Bool} : g_co (gX b) 263 275 = some (.invokevirtual 80) := rfl
theorem y_263_278 {b : Bool} : g_co (gX b) 263 278 = some (.aload_n 0) := rfl
theorem y_263_279 {b : Bool} : g_co (gX b) 263 279 = some (.dup) := rfl
theorem y_263_280 {b : Bool} : g_co (gX b) 263 280 = some (.getfield 18) := rfl
theorem y_263_283 {b : Bool} : g_co (gX b) 263 283 = some (.iconst 1) := rfl
theorem y_263_284 {b : Bool} : g_co (gX b) 263 284 = some (.isub) := rfl
theorem y_263_285 {b : Bool} : g_co (gX b) 263 285 = some (.putfield 18) := rfl
theorem y_263_288 {b : Bool} : g_co (gX b) 263 288 = some (.aload_n 0) := rfl
theorem y_263_289 {b : Bool} : g_co (gX b) 263 289 = some (.getfield 31) := rfl
theorem y_263_292 {b : Bool} : g_co (gX b) 263 292 = some (.iload 4) := rfl
theorem y_263_294 {b : Bool} : g_co (gX b) 263 294 = some (.ifCond .eq 8) := rfl
theorem y_263_297 {b : Bool} : g_co (gX b) 263 297 = some (.bipush 9) := rfl
theorem y_263_299 {b : Bool} : g_co (gX b) 263 299 = some (.goto 5) := rfl
theorem y_263_302 {b : Bool} : g_co (gX b) 263 302 = some (.bipush 10) := rfl
theorem y_263_304 {b : Bool} : g_co (gX b) 263 304 = some (.iconst 0) := rfl
theorem y_263_305 {b : Bool} : g_co (gX b) 263 305 = some (.invokevirtual 77) := rfl
theorem y_263_308 {b : Bool} : g_co (gX b) 263 308 = some (.pop) := rfl
theorem y_263_309 {b : Bool} : g_co (gX b) 263 309 = some (.return_) := rfl
theorem ym_263_137 {b : Bool} : g_ml (gX b) 263 137 = some (0, 263, 1, 6) := rfl
theorem yf_263_9 {b : Bool} : g_fl (gX b) 263 9 = some (6, 1, 0) := rfl
theorem ym_263_167 {b : Bool} : g_ml (gX b) 263 167 = some (0, 264, 1, 6) := rfl
theorem yf_263_31 {b : Bool} : g_fl (gX b) 263 31 = some (6, 5, 2) := rfl
theorem ym_263_77 {b : Bool} : g_ml (gX b) 263 77 = some (0, 252, 2, 5) := rfl
theorem ym_263_113 {b : Bool} : g_ml (gX b) 263 113 = some (0, 273, 0, 6) := rfl
theorem yf_263_15 {b : Bool} : g_fl (gX b) 263 15 = some (6, 2, 0) := rfl
theorem ym_263_116 {b : Bool} : g_ml (gX b) 263 116 = some (0, 268, 0, 6) := rfl
theorem ym_263_170 {b : Bool} : g_ml (gX b) 263 170 = some (0, 274, 1, 6) := rfl
theorem ym_263_134 {b : Bool} : g_ml (gX b) 263 134 = some (0, 267, 0, 6) := rfl
theorem yk_263_173 {b : Bool} : g_cn (gX b) 263 173 = none := rfl
theorem yz_263_173 {b : Bool} : g_nt (gX b) 263 173 = 10 + 6 := rfl
theorem ym_263_52 {b : Bool} : g_ml (gX b) 263 52 = some (0, 269, 1, 6) := rfl
theorem yk_263_175 {b : Bool} : g_cn (gX b) 263 175 = none := rfl
theorem yz_263_175 {b : Bool} : g_nt (gX b) 263 175 = 10 + 5 := rfl
theorem ym_263_105 {b : Bool} : g_ml (gX b) 263 105 = some (0, 266, 1, 6) := rfl
theorem ym_263_94 {b : Bool} : g_ml (gX b) 263 94 = some (0, 270, 1, 6) := rfl
theorem ym_263_125 {b : Bool} : g_ml (gX b) 263 125 = some (0, 265, 1, 6) := rfl
theorem ym_263_80 {b : Bool} : g_ml (gX b) 263 80 = some (0, 271, 1, 6) := rfl
theorem yf_263_18 {b : Bool} : g_fl (gX b) 263 18 = some (6, 3, 0) := rfl
theorem yk_263_177 {b : Bool} : g_cn (gX b) 263 177 = none := rfl
theorem yz_263_177 {b : Bool} : g_nt (gX b) 263 177 = 10 + 11 := rfl
theorem yk_263_179 {b : Bool} : g_cn (gX b) 263 179 = none := rfl
theorem yz_263_179 {b : Bool} : g_nt (gX b) 263 179 = 10 + 13 := rfl
theorem ym_263_70 {b : Bool} : g_ml (gX b) 263 70 = some (0, 276, 2, 6) := rfl
theorem yx_264 {b : Bool} : g_mx (gX b) 264 = 4 := rfl
theorem yt_264 {b : Bool} : g_rt (gX b) 264 = 1 := rfl
theorem y_264_0 {b : Bool} : g_co (gX b) 264 0 = some (.aload_n 0) := rfl
theorem y_264_1 {b : Bool} : g_co (gX b) 264 1 = some (.invokevirtual 113) := rfl
theorem y_264_4 {b : Bool} : g_co (gX b) 264 4 = some (.aload_n 0) := rfl
theorem y_264_5 {b : Bool} : g_co (gX b) 264 5 = some (.getfield 15) := rfl
theorem y_264_8 {b : Bool} : g_co (gX b) 264 8 = some (.aload_n 0) := rfl
theorem y_264_9 {b : Bool} : g_co (gX b) 264 9 = some (.getfield 9) := rfl
theorem y_264_12 {b : Bool} : g_co (gX b) 264 12 = some (.if_icmp .ge 15) := rfl
theorem y_264_15 {b : Bool} : g_co (gX b) 264 15 = some (.aload_n 0) := rfl
theorem y_264_16 {b : Bool} : g_co (gX b) 264 16 = some (.getfield 27) := rfl
theorem y_264_19 {b : Bool} : g_co (gX b) 264 19 = some (.aload_n 0) := rfl
theorem y_264_20 {b : Bool} : g_co (gX b) 264 20 = some (.getfield 15) := rfl
theorem y_264_23 {b : Bool} : g_co (gX b) 264 23 = some (.iaload) := rfl
theorem y_264_24 {b : Bool} : g_co (gX b) 264 24 = some (.goto 5) := rfl
theorem y_264_27 {b : Bool} : g_co (gX b) 264 27 = some (.bipush 32) := rfl
theorem y_264_29 {b : Bool} : g_co (gX b) 264 29 = some (.istore_n 2) := rfl
theorem y_264_30 {b : Bool} : g_co (gX b) 264 30 = some (.iconst (-1)) := rfl
theorem y_264_31 {b : Bool} : g_co (gX b) 264 31 = some (.istore_n 3) := rfl
theorem y_264_32 {b : Bool} : g_co (gX b) 264 32 = some (.iload_n 1) := rfl
theorem y_264_33 {b : Bool} : g_co (gX b) 264 33 = some (.iconst 1) := rfl
theorem y_264_34 {b : Bool} : g_co (gX b) 264 34 = some (.if_icmp .ne 30) := rfl
theorem y_264_37 {b : Bool} : g_co (gX b) 264 37 = some (.iload_n 2) := rfl
theorem y_264_38 {b : Bool} : g_co (gX b) 264 38 = some (.bipush 42) := rfl
theorem y_264_40 {b : Bool} : g_co (gX b) 264 40 = some (.if_icmp .ne 8) := rfl
theorem y_264_43 {b : Bool} : g_co (gX b) 264 43 = some (.bipush 7) := rfl
theorem y_264_45 {b : Bool} : g_co (gX b) 264 45 = some (.goto 15) := rfl
theorem y_264_48 {b : Bool} : g_co (gX b) 264 48 = some (.iload_n 2) := rfl
theorem y_264_49 {b : Bool} : g_co (gX b) 264 49 = some (.bipush 47) := rfl
theorem y_264_51 {b : Bool} : g_co (gX b) 264 51 = some (.if_icmp .ne 8) := rfl
theorem y_264_54 {b : Bool} : g_co (gX b) 264 54 = some (.bipush 8) := rfl
theorem y_264_56 {b : Bool} : g_co (gX b) 264 56 = some (.goto 4) := rfl
theorem y_264_59 {b : Bool} : g_co (gX b) 264 59 = some (.iconst (-1)) := rfl
theorem y_264_60 {b : Bool} : g_co (gX b) 264 60 = some (.istore_n 3) := rfl
theorem y_264_61 {b : Bool} : g_co (gX b) 264 61 = some (.goto 26) := rfl
theorem y_264_64 {b : Bool} : g_co (gX b) 264 64 = some (.iload_n 2) := rfl
theorem y_264_65 {b : Bool} : g_co (gX b) 264 65 = some (.bipush 43) := rfl
theorem y_264_67 {b : Bool} : g_co (gX b) 264 67 = some (.if_icmp .ne 7) := rfl
theorem y_264_70 {b : Bool} : g_co (gX b) 264 70 = some (.iconst 5) := rfl
theorem y_264_71 {b : Bool} : g_co (gX b) 264 71 = some (.goto 15) := rfl
theorem y_264_74 {b : Bool} : g_co (gX b) 264 74 = some (.iload_n 2) := rfl
theorem y_264_75 {b : Bool} : g_co (gX b) 264 75 = some (.bipush 45) := rfl
theorem y_264_77 {b : Bool} : g_co (gX b) 264 77 = some (.if_icmp .ne 8) := rfl
theorem y_264_80 {b : Bool} : g_co (gX b) 264 80 = some (.bipush 6) := rfl
theorem y_264_82 {b : Bool} : g_co (gX b) 264 82 = some (.goto 4) := rfl
theorem y_264_85 {b : Bool} : g_co (gX b) 264 85 = some (.iconst (-1)) := rfl
theorem y_264_86 {b : Bool} : g_co (gX b) 264 86 = some (.istore_n 3) := rfl
theorem y_264_87 {b : Bool} : g_co (gX b) 264 87 = some (.iload_n 3) := rfl
theorem y_264_88 {b : Bool} : g_co (gX b) 264 88 = some (.ifCond .lt 13) := rfl
theorem y_264_91 {b : Bool} : g_co (gX b) 264 91 = some (.aload_n 0) := rfl
theorem y_264_92 {b : Bool} : g_co (gX b) 264 92 = some (.dup) := rfl
theorem y_264_93 {b : Bool} : g_co (gX b) 264 93 = some (.getfield 15) := rfl
theorem y_264_96 {b : Bool} : g_co (gX b) 264 96 = some (.iconst 1) := rfl
theorem y_264_97 {b : Bool} : g_co (gX b) 264 97 = some (.iadd) := rfl
theorem y_264_98 {b : Bool} : g_co (gX b) 264 98 = some (.putfield 15) := rfl
theorem y_264_101 {b : Bool} : g_co (gX b) 264 101 = some (.iload_n 3) := rfl
theorem y_264_102 {b : Bool} : g_co (gX b) 264 102 = some (.ireturn) := rfl
theorem ym_264_113 {b : Bool} : g_ml (gX b) 264 113 = some (0, 273, 0, 6) := rfl
theorem yf_264_15 {b : Bool} : g_fl (gX b) 264 15 = some (6, 2, 0) := rfl
theorem yf_264_9 {b : Bool} : g_fl (gX b) 264 9 = some (6, 1, 0) := rfl
theorem yf_264_27 {b : Bool} : g_fl (gX b) 264 27 = some (6, 0, 9) := rfl
theorem yx_265 {b : Bool} : g_mx (gX b) 265 = 2 := rfl
theorem yt_265 {b : Bool} : g_rt (gX b) 265 = 2 := rfl
theorem y_265_0 {b : Bool} : g_co (gX b) 265 0 = some (.aload_n 0) := rfl
theorem y_265_1 {b : Bool} : g_co (gX b) 265 1 = some (.getfield 18) := rfl
theorem y_265_4 {b : Bool} : g_co (gX b) 265 4 = some (.bipush 6) := rfl
theorem y_265_6 {b : Bool} : g_co (gX b) 265 6 = some (.if_icmp .lt 9) := rfl
theorem y_265_9 {b : Bool} : g_co (gX b) 265 9 = some (.aload_n 0) := rfl
theorem y_265_10 {b : Bool} : g_co (gX b) 265 10 = some (.iconst 3) := rfl
theorem y_265_11 {b : Bool} : g_co (gX b) 265 11 = some (.iload_n 1) := rfl
theorem y_265_12 {b : Bool} : g_co (gX b) 265 12 = some (.invokevirtual 70) := rfl
theorem y_265_15 {b : Bool} : g_co (gX b) 265 15 = some (.aload_n 0) := rfl
theorem y_265_16 {b : Bool} : g_co (gX b) 265 16 = some (.getfield 21) := rfl
theorem y_265_19 {b : Bool} : g_co (gX b) 265 19 = some (.ifCond .eq 5) := rfl
theorem y_265_22 {b : Bool} : g_co (gX b) 265 22 = some (.iconst 0) := rfl
theorem y_265_23 {b : Bool} : g_co (gX b) 265 23 = some (.ireturn) := rfl
theorem y_265_24 {b : Bool} : g_co (gX b) 265 24 = some (.aload_n 0) := rfl
theorem y_265_25 {b : Bool} : g_co (gX b) 265 25 = some (.dup) := rfl
theorem y_265_26 {b : Bool} : g_co (gX b) 265 26 = some (.getfield 18) := rfl
theorem y_265_29 {b : Bool} : g_co (gX b) 265 29 = some (.iconst 1) := rfl
theorem y_265_30 {b : Bool} : g_co (gX b) 265 30 = some (.iadd) := rfl
theorem y_265_31 {b : Bool} : g_co (gX b) 265 31 = some (.putfield 18) := rfl
theorem y_265_34 {b : Bool} : g_co (gX b) 265 34 = some (.iconst 1) := rfl
theorem y_265_35 {b : Bool} : g_co (gX b) 265 35 = some (.ireturn) := rfl
theorem yf_265_18 {b : Bool} : g_fl (gX b) 265 18 = some (6, 3, 0) := rfl
theorem ym_265_70 {b : Bool} : g_ml (gX b) 265 70 = some (0, 276, 2, 6) := rfl
theorem yf_265_21 {b : Bool} : g_fl (gX b) 265 21 = some (6, 4, 0) := rfl
theorem yx_266 {b : Bool} : g_mx (gX b) 266 = 4 := rfl
theorem yt_266 {b : Bool} : g_rt (gX b) 266 = 1 := rfl
theorem y_266_0 {b : Bool} : g_co (gX b) 266 0 = some (.aload_n 0) := rfl
theorem y_266_1 {b : Bool} : g_co (gX b) 266 1 = some (.invokevirtual 113) := rfl
theorem y_266_4 {b : Bool} : g_co (gX b) 266 4 = some (.aload_n 0) := rfl
theorem y_266_5 {b : Bool} : g_co (gX b) 266 5 = some (.getfield 15) := rfl
theorem y_266_8 {b : Bool} : g_co (gX b) 266 8 = some (.istore_n 2) := rfl
theorem y_266_9 {b : Bool} : g_co (gX b) 266 9 = some (.aload_n 0) := rfl
theorem y_266_10 {b : Bool} : g_co (gX b) 266 10 = some (.iload_n 2) := rfl
theorem y_266_11 {b : Bool} : g_co (gX b) 266 11 = some (.invokevirtual 170) := rfl
theorem y_266_14 {b : Bool} : g_co (gX b) 266 14 = some (.ifCond .ne 11) := rfl
theorem y_266_17 {b : Bool} : g_co (gX b) 266 17 = some (.aload_n 0) := rfl
theorem y_266_18 {b : Bool} : g_co (gX b) 266 18 = some (.iconst 1) := rfl
theorem y_266_19 {b : Bool} : g_co (gX b) 266 19 = some (.iload_n 2) := rfl
theorem y_266_20 {b : Bool} : g_co (gX b) 266 20 = some (.invokevirtual 70) := rfl
theorem y_266_23 {b : Bool} : g_co (gX b) 266 23 = some (.iconst 0) := rfl
theorem y_266_24 {b : Bool} : g_co (gX b) 266 24 = some (.ireturn) := rfl
theorem y_266_25 {b : Bool} : g_co (gX b) 266 25 = some (.aload_n 0) := rfl
theorem y_266_26 {b : Bool} : g_co (gX b) 266 26 = some (.getfield 27) := rfl
theorem y_266_29 {b : Bool} : g_co (gX b) 266 29 = some (.iload_n 2) := rfl
theorem y_266_30 {b : Bool} : g_co (gX b) 266 30 = some (.iaload) := rfl
theorem y_266_31 {b : Bool} : g_co (gX b) 266 31 = some (.bipush 48) := rfl
theorem y_266_33 {b : Bool} : g_co (gX b) 266 33 = some (.isub) := rfl
theorem y_266_34 {b : Bool} : g_co (gX b) 266 34 = some (.istore_n 3) := rfl
theorem y_266_35 {b : Bool} : g_co (gX b) 266 35 = some (.aload_n 0) := rfl
theorem y_266_36 {b : Bool} : g_co (gX b) 266 36 = some (.iload_n 2) := rfl
theorem y_266_37 {b : Bool} : g_co (gX b) 266 37 = some (.iconst 1) := rfl
theorem y_266_38 {b : Bool} : g_co (gX b) 266 38 = some (.iadd) := rfl
theorem y_266_39 {b : Bool} : g_co (gX b) 266 39 = some (.invokevirtual 170) := rfl
theorem y_266_42 {b : Bool} : g_co (gX b) 266 42 = some (.ifCond .ne 8) := rfl
theorem y_266_45 {b : Bool} : g_co (gX b) 266 45 = some (.iload_n 3) := rfl
theorem y_266_46 {b : Bool} : g_co (gX b) 266 46 = some (.iload_n 1) := rfl
theorem y_266_47 {b : Bool} : g_co (gX b) 266 47 = some (.if_icmp .lt 11) := rfl
theorem y_266_50 {b : Bool} : g_co (gX b) 266 50 = some (.aload_n 0) := rfl
theorem y_266_51 {b : Bool} : g_co (gX b) 266 51 = some (.iconst 2) := rfl
theorem y_266_52 {b : Bool} : g_co (gX b) 266 52 = some (.iload_n 2) := rfl
theorem y_266_53 {b : Bool} : g_co (gX b) 266 53 = some (.invokevirtual 70) := rfl
theorem y_266_56 {b : Bool} : g_co (gX b) 266 56 = some (.iconst 0) := rfl
theorem y_266_57 {b : Bool} : g_co (gX b) 266 57 = some (.ireturn) := rfl
theorem y_266_58 {b : Bool} : g_co (gX b) 266 58 = some (.aload_n 0) := rfl
theorem y_266_59 {b : Bool} : g_co (gX b) 266 59 = some (.iload_n 2) := rfl
theorem y_266_60 {b : Bool} : g_co (gX b) 266 60 = some (.iconst 1) := rfl
theorem y_266_61 {b : Bool} : g_co (gX b) 266 61 = some (.iadd) := rfl
theorem y_266_62 {b : Bool} : g_co (gX b) 266 62 = some (.putfield 15) := rfl
theorem y_266_65 {b : Bool} : g_co (gX b) 266 65 = some (.iload_n 3) := rfl
theorem y_266_66 {b : Bool} : g_co (gX b) 266 66 = some (.ireturn) := rfl
theorem ym_266_113 {b : Bool} : g_ml (gX b) 266 113 = some (0, 273, 0, 6) := rfl
theorem yf_266_15 {b : Bool} : g_fl (gX b) 266 15 = some (6, 2, 0) := rfl
theorem ym_266_170 {b : Bool} : g_ml (gX b) 266 170 = some (0, 274, 1, 6) := rfl
theorem ym_266_70 {b : Bool} : g_ml (gX b) 266 70 = some (0, 276, 2, 6) := rfl
theorem yf_266_27 {b : Bool} : g_fl (gX b) 266 27 = some (6, 0, 9) := rfl
theorem yx_267 {b : Bool} : g_mx (gX b) 267 = 4 := rfl
theorem yt_267 {b : Bool} : g_rt (gX b) 267 = 1 := rfl
theorem y_267_0 {b : Bool} : g_co (gX b) 267 0 = some (.aload_n 0) := rfl
theorem y_267_1 {b : Bool} : g_co (gX b) 267 1 = some (.invokevirtual 113) := rfl
theorem y_267_4 {b : Bool} : g_co (gX b) 267 4 = some (.aload_n 0) := rfl
theorem y_267_5 {b : Bool} : g_co (gX b) 267 5 = some (.getfield 15) := rfl
theorem y_267_8 {b : Bool} : g_co (gX b) 267 8 = some (.istore_n 1) := rfl
theorem y_267_9 {b : Bool} : g_co (gX b) 267 9 = some (.aload_n 0) := rfl
theorem y_267_10 {b : Bool} : g_co (gX b) 267 10 = some (.iload_n 1) := rfl
theorem y_267_11 {b : Bool} : g_co (gX b) 267 11 = some (.invokevirtual 170) := rfl
theorem y_267_14 {b : Bool} : g_co (gX b) 267 14 = some (.ifCond .ne 11) := rfl
theorem y_267_17 {b : Bool} : g_co (gX b) 267 17 = some (.aload_n 0) := rfl
theorem y_267_18 {b : Bool} : g_co (gX b) 267 18 = some (.iconst 1) := rfl
theorem y_267_19 {b : Bool} : g_co (gX b) 267 19 = some (.iload_n 1) := rfl
theorem y_267_20 {b : Bool} : g_co (gX b) 267 20 = some (.invokevirtual 70) := rfl
theorem y_267_23 {b : Bool} : g_co (gX b) 267 23 = some (.iconst 0) := rfl
theorem y_267_24 {b : Bool} : g_co (gX b) 267 24 = some (.ireturn) := rfl
theorem y_267_25 {b : Bool} : g_co (gX b) 267 25 = some (.iconst 0) := rfl
theorem y_267_26 {b : Bool} : g_co (gX b) 267 26 = some (.istore_n 2) := rfl
theorem y_267_27 {b : Bool} : g_co (gX b) 267 27 = some (.iload_n 1) := rfl
theorem y_267_28 {b : Bool} : g_co (gX b) 267 28 = some (.istore_n 3) := rfl
theorem y_267_29 {b : Bool} : g_co (gX b) 267 29 = some (.iload_n 3) := rfl
theorem y_267_30 {b : Bool} : g_co (gX b) 267 30 = some (.aload_n 0) := rfl
theorem y_267_31 {b : Bool} : g_co (gX b) 267 31 = some (.getfield 9) := rfl
theorem y_267_34 {b : Bool} : g_co (gX b) 267 34 = some (.if_icmp .ge 45) := rfl
theorem y_267_37 {b : Bool} : g_co (gX b) 267 37 = some (.aload_n 0) := rfl
theorem y_267_38 {b : Bool} : g_co (gX b) 267 38 = some (.iload_n 3) := rfl
theorem y_267_39 {b : Bool} : g_co (gX b) 267 39 = some (.invokevirtual 170) := rfl
theorem y_267_42 {b : Bool} : g_co (gX b) 267 42 = some (.ifCond .eq 37) := rfl
theorem y_267_45 {b : Bool} : g_co (gX b) 267 45 = some (.iload_n 2) := rfl
theorem y_267_46 {b : Bool} : g_co (gX b) 267 46 = some (.bipush 10) := rfl
theorem y_267_48 {b : Bool} : g_co (gX b) 267 48 = some (.imul) := rfl
theorem y_267_49 {b : Bool} : g_co (gX b) 267 49 = some (.aload_n 0) := rfl
theorem y_267_50 {b : Bool} : g_co (gX b) 267 50 = some (.getfield 27) := rfl
theorem y_267_53 {b : Bool} : g_co (gX b) 267 53 = some (.iload_n 3) := rfl
theorem y_267_54 {b : Bool} : g_co (gX b) 267 54 = some (.iaload) := rfl
theorem y_267_55 {b : Bool} : g_co (gX b) 267 55 = some (.iadd) := rfl
theorem y_267_56 {b : Bool} : g_co (gX b) 267 56 = some (.bipush 48) := rfl
theorem y_267_58 {b : Bool} : g_co (gX b) 267 58 = some (.isub) := rfl
theorem y_267_59 {b : Bool} : g_co (gX b) 267 59 = some (.sipush 1000) := rfl
theorem y_267_62 {b : Bool} : g_co (gX b) 267 62 = some (.invokestatic 35) := rfl
theorem y_267_65 {b : Bool} : g_co (gX b) 267 65 = some (.istore_n 2) := rfl
theorem y_267_66 {b : Bool} : g_co (gX b) 267 66 = some (.aload_n 0) := rfl
theorem y_267_67 {b : Bool} : g_co (gX b) 267 67 = some (.iload_n 3) := rfl
theorem y_267_68 {b : Bool} : g_co (gX b) 267 68 = some (.iconst 1) := rfl
theorem y_267_69 {b : Bool} : g_co (gX b) 267 69 = some (.iadd) := rfl
theorem y_267_70 {b : Bool} : g_co (gX b) 267 70 = some (.putfield 15) := rfl
theorem y_267_73 {b : Bool} : g_co (gX b) 267 73 = some (.iinc 3 1) := rfl
theorem y_267_76 {b : Bool} : g_co (gX b) 267 76 = some (.goto (-47)) := rfl
theorem y_267_79 {b : Bool} : g_co (gX b) 267 79 = some (.iload_n 2) := rfl
theorem y_267_80 {b : Bool} : g_co (gX b) 267 80 = some (.sipush 999) := rfl
theorem y_267_83 {b : Bool} : g_co (gX b) 267 83 = some (.if_icmp .le 11) := rfl
theorem y_267_86 {b : Bool} : g_co (gX b) 267 86 = some (.aload_n 0) := rfl
theorem y_267_87 {b : Bool} : g_co (gX b) 267 87 = some (.iconst 2) := rfl
theorem y_267_88 {b : Bool} : g_co (gX b) 267 88 = some (.iload_n 1) := rfl
theorem y_267_89 {b : Bool} : g_co (gX b) 267 89 = some (.invokevirtual 70) := rfl
theorem y_267_92 {b : Bool} : g_co (gX b) 267 92 = some (.iconst 0) := rfl
theorem y_267_93 {b : Bool} : g_co (gX b) 267 93 = some (.ireturn) := rfl
theorem y_267_94 {b : Bool} : g_co (gX b) 267 94 = some (.iload_n 2) := rfl
theorem y_267_95 {b : Bool} : g_co (gX b) 267 95 = some (.ireturn) := rfl
theorem ym_267_113 {b : Bool} : g_ml (gX b) 267 113 = some (0, 273, 0, 6) := rfl
theorem yf_267_15 {b : Bool} : g_fl (gX b) 267 15 = some (6, 2, 0) := rfl
theorem ym_267_170 {b : Bool} : g_ml (gX b) 267 170 = some (0, 274, 1, 6) := rfl
theorem ym_267_70 {b : Bool} : g_ml (gX b) 267 70 = some (0, 276, 2, 6) := rfl
theorem yf_267_9 {b : Bool} : g_fl (gX b) 267 9 = some (6, 1, 0) := rfl
theorem yf_267_27 {b : Bool} : g_fl (gX b) 267 27 = some (6, 0, 9) := rfl
theorem yn_267_35 {b : Bool} : g_ml (gX b) 267 35 = none := rfl
theorem yz_267_35 {b : Bool} : g_nt (gX b) 267 35 = 3 := rfl
theorem yx_268 {b : Bool} : g_mx (gX b) 268 = 2 := rfl
theorem yt_268 {b : Bool} : g_rt (gX b) 268 = 1 := rfl
theorem y_268_0 {b : Bool} : g_co (gX b) 268 0 = some (.aload_n 0) := rfl
theorem y_268_1 {b : Bool} : g_co (gX b) 268 1 = some (.invokevirtual 113) := rfl
theorem y_268_4 {b : Bool} : g_co (gX b) 268 4 = some (.aload_n 0) := rfl
theorem y_268_5 {b : Bool} : g_co (gX b) 268 5 = some (.aload_n 0) := rfl
theorem y_268_6 {b : Bool} : g_co (gX b) 268 6 = some (.getfield 15) := rfl
theorem y_268_9 {b : Bool} : g_co (gX b) 268 9 = some (.invokevirtual 181) := rfl
theorem y_268_12 {b : Bool} : g_co (gX b) 268 12 = some (.ifCond .eq 30) := rfl
theorem y_268_15 {b : Bool} : g_co (gX b) 268 15 = some (.aload_n 0) := rfl
theorem y_268_16 {b : Bool} : g_co (gX b) 268 16 = some (.aload_n 0) := rfl
theorem y_268_17 {b : Bool} : g_co (gX b) 268 17 = some (.getfield 15) := rfl
theorem y_268_20 {b : Bool} : g_co (gX b) 268 20 = some (.iconst 1) := rfl
theorem y_268_21 {b : Bool} : g_co (gX b) 268 21 = some (.iadd) := rfl
theorem y_268_22 {b : Bool} : g_co (gX b) 268 22 = some (.invokevirtual 181) := rfl
theorem y_268_25 {b : Bool} : g_co (gX b) 268 25 = some (.ifCond .ne 17) := rfl
theorem y_268_28 {b : Bool} : g_co (gX b) 268 28 = some (.aload_n 0) := rfl
theorem y_268_29 {b : Bool} : g_co (gX b) 268 29 = some (.getfield 27) := rfl
theorem y_268_32 {b : Bool} : g_co (gX b) 268 32 = some (.aload_n 0) := rfl
theorem y_268_33 {b : Bool} : g_co (gX b) 268 33 = some (.getfield 15) := rfl
theorem y_268_36 {b : Bool} : g_co (gX b) 268 36 = some (.iaload) := rfl
theorem y_268_37 {b : Bool} : g_co (gX b) 268 37 = some (.bipush 104) := rfl
theorem y_268_39 {b : Bool} : g_co (gX b) 268 39 = some (.if_icmp .le 5) := rfl
theorem y_268_42 {b : Bool} : g_co (gX b) 268 42 = some (.iconst (-1)) := rfl
theorem y_268_43 {b : Bool} : g_co (gX b) 268 43 = some (.ireturn) := rfl
theorem y_268_44 {b : Bool} : g_co (gX b) 268 44 = some (.aload_n 0) := rfl
theorem y_268_45 {b : Bool} : g_co (gX b) 268 45 = some (.getfield 27) := rfl
theorem y_268_48 {b : Bool} : g_co (gX b) 268 48 = some (.aload_n 0) := rfl
theorem y_268_49 {b : Bool} : g_co (gX b) 268 49 = some (.getfield 15) := rfl
theorem y_268_52 {b : Bool} : g_co (gX b) 268 52 = some (.iaload) := rfl
theorem y_268_53 {b : Bool} : g_co (gX b) 268 53 = some (.bipush 97) := rfl
theorem y_268_55 {b : Bool} : g_co (gX b) 268 55 = some (.isub) := rfl
theorem y_268_56 {b : Bool} : g_co (gX b) 268 56 = some (.istore_n 1) := rfl
theorem y_268_57 {b : Bool} : g_co (gX b) 268 57 = some (.aload_n 0) := rfl
theorem y_268_58 {b : Bool} : g_co (gX b) 268 58 = some (.dup) := rfl
theorem y_268_59 {b : Bool} : g_co (gX b) 268 59 = some (.getfield 15) := rfl
theorem y_268_62 {b : Bool} : g_co (gX b) 268 62 = some (.iconst 1) := rfl
theorem y_268_63 {b : Bool} : g_co (gX b) 268 63 = some (.iadd) := rfl
theorem y_268_64 {b : Bool} : g_co (gX b) 268 64 = some (.putfield 15) := rfl
theorem y_268_67 {b : Bool} : g_co (gX b) 268 67 = some (.iload_n 1) := rfl
theorem y_268_68 {b : Bool} : g_co (gX b) 268 68 = some (.ireturn) := rfl
theorem ym_268_113 {b : Bool} : g_ml (gX b) 268 113 = some (0, 273, 0, 6) := rfl
theorem yf_268_15 {b : Bool} : g_fl (gX b) 268 15 = some (6, 2, 0) := rfl
theorem ym_268_181 {b : Bool} : g_ml (gX b) 268 181 = some (0, 275, 1, 6) := rfl
theorem yf_268_27 {b : Bool} : g_fl (gX b) 268 27 = some (6, 0, 9) := rfl
theorem yx_269 {b : Bool} : g_mx (gX b) 269 = 4 := rfl
theorem yt_269 {b : Bool} : g_rt (gX b) 269 = 2 := rfl
theorem y_269_0 {b : Bool} : g_co (gX b) 269 0 = some (.aload_n 0) := rfl
theorem y_269_1 {b : Bool} : g_co (gX b) 269 1 = some (.invokevirtual 113) := rfl
theorem y_269_4 {b : Bool} : g_co (gX b) 269 4 = some (.aload_n 1) := rfl
theorem y_269_5 {b : Bool} : g_co (gX b) 269 5 = some (.invokevirtual 184) := rfl
theorem y_269_8 {b : Bool} : g_co (gX b) 269 8 = some (.istore_n 2) := rfl
theorem y_269_9 {b : Bool} : g_co (gX b) 269 9 = some (.iconst 0) := rfl
theorem y_269_10 {b : Bool} : g_co (gX b) 269 10 = some (.istore_n 3) := rfl
theorem y_269_11 {b : Bool} : g_co (gX b) 269 11 = some (.iload_n 3) := rfl
theorem y_269_12 {b : Bool} : g_co (gX b) 269 12 = some (.iload_n 2) := rfl
theorem y_269_13 {b : Bool} : g_co (gX b) 269 13 = some (.if_icmp .ge 43) := rfl
theorem y_269_16 {b : Bool} : g_co (gX b) 269 16 = some (.aload_n 0) := rfl
theorem y_269_17 {b : Bool} : g_co (gX b) 269 17 = some (.getfield 15) := rfl
theorem y_269_20 {b : Bool} : g_co (gX b) 269 20 = some (.iload_n 3) := rfl
theorem y_269_21 {b : Bool} : g_co (gX b) 269 21 = some (.iadd) := rfl
theorem y_269_22 {b : Bool} : g_co (gX b) 269 22 = some (.aload_n 0) := rfl
theorem y_269_23 {b : Bool} : g_co (gX b) 269 23 = some (.getfield 9) := rfl
theorem y_269_26 {b : Bool} : g_co (gX b) 269 26 = some (.if_icmp .ge 22) := rfl
theorem y_269_29 {b : Bool} : g_co (gX b) 269 29 = some (.aload_n 0) := rfl
theorem y_269_30 {b : Bool} : g_co (gX b) 269 30 = some (.getfield 27) := rfl
theorem y_269_33 {b : Bool} : g_co (gX b) 269 33 = some (.aload_n 0) := rfl
theorem y_269_34 {b : Bool} : g_co (gX b) 269 34 = some (.getfield 15) := rfl
theorem y_269_37 {b : Bool} : g_co (gX b) 269 37 = some (.iload_n 3) := rfl
theorem y_269_38 {b : Bool} : g_co (gX b) 269 38 = some (.iadd) := rfl
theorem y_269_39 {b : Bool} : g_co (gX b) 269 39 = some (.iaload) := rfl
theorem y_269_40 {b : Bool} : g_co (gX b) 269 40 = some (.aload_n 1) := rfl
theorem y_269_41 {b : Bool} : g_co (gX b) 269 41 = some (.iload_n 3) := rfl
theorem y_269_42 {b : Bool} : g_co (gX b) 269 42 = some (.invokevirtual 188) := rfl
theorem y_269_45 {b : Bool} : g_co (gX b) 269 45 = some (.if_icmp .eq 5) := rfl
theorem y_269_48 {b : Bool} : g_co (gX b) 269 48 = some (.iconst 0) := rfl
theorem y_269_49 {b : Bool} : g_co (gX b) 269 49 = some (.ireturn) := rfl
theorem y_269_50 {b : Bool} : g_co (gX b) 269 50 = some (.iinc 3 1) := rfl
theorem y_269_53 {b : Bool} : g_co (gX b) 269 53 = some (.goto (-42)) := rfl
theorem y_269_56 {b : Bool} : g_co (gX b) 269 56 = some (.aload_n 0) := rfl
theorem y_269_57 {b : Bool} : g_co (gX b) 269 57 = some (.aload_n 0) := rfl
theorem y_269_58 {b : Bool} : g_co (gX b) 269 58 = some (.getfield 15) := rfl
theorem y_269_61 {b : Bool} : g_co (gX b) 269 61 = some (.iload_n 2) := rfl
theorem y_269_62 {b : Bool} : g_co (gX b) 269 62 = some (.iadd) := rfl
theorem y_269_63 {b : Bool} : g_co (gX b) 269 63 = some (.invokevirtual 181) := rfl
theorem y_269_66 {b : Bool} : g_co (gX b) 269 66 = some (.ifCond .eq 5) := rfl
theorem y_269_69 {b : Bool} : g_co (gX b) 269 69 = some (.iconst 0) := rfl
theorem y_269_70 {b : Bool} : g_co (gX b) 269 70 = some (.ireturn) := rfl
theorem y_269_71 {b : Bool} : g_co (gX b) 269 71 = some (.aload_n 0) := rfl
theorem y_269_72 {b : Bool} : g_co (gX b) 269 72 = some (.dup) := rfl
theorem y_269_73 {b : Bool} : g_co (gX b) 269 73 = some (.getfield 15) := rfl
theorem y_269_76 {b : Bool} : g_co (gX b) 269 76 = some (.iload_n 2) := rfl
theorem y_269_77 {b : Bool} : g_co (gX b) 269 77 = some (.iadd) := rfl
theorem y_269_78 {b : Bool} : g_co (gX b) 269 78 = some (.putfield 15) := rfl
theorem y_269_81 {b : Bool} : g_co (gX b) 269 81 = some (.iconst 1) := rfl
theorem y_269_82 {b : Bool} : g_co (gX b) 269 82 = some (.ireturn) := rfl
theorem ym_269_113 {b : Bool} : g_ml (gX b) 269 113 = some (0, 273, 0, 6) := rfl
theorem yn_269_184 {b : Bool} : g_ml (gX b) 269 184 = none := rfl
theorem yz_269_184 {b : Bool} : g_nt (gX b) 269 184 = 4 := rfl
theorem yf_269_15 {b : Bool} : g_fl (gX b) 269 15 = some (6, 2, 0) := rfl
theorem yf_269_9 {b : Bool} : g_fl (gX b) 269 9 = some (6, 1, 0) := rfl
theorem yf_269_27 {b : Bool} : g_fl (gX b) 269 27 = some (6, 0, 9) := rfl
theorem yn_269_188 {b : Bool} : g_ml (gX b) 269 188 = none := rfl
theorem yz_269_188 {b : Bool} : g_nt (gX b) 269 188 = 5 := rfl
theorem ym_269_181 {b : Bool} : g_ml (gX b) 269 181 = some (0, 275, 1, 6) := rfl
theorem yx_270 {b : Bool} : g_mx (gX b) 270 = 2 := rfl
theorem yt_270 {b : Bool} : g_rt (gX b) 270 = 2 := rfl
theorem y_270_0 {b : Bool} : g_co (gX b) 270 0 = some (.aload_n 0) := rfl
theorem y_270_1 {b : Bool} : g_co (gX b) 270 1 = some (.invokevirtual 113) := rfl
theorem y_270_4 {b : Bool} : g_co (gX b) 270 4 = some (.aload_n 0) := rfl
theorem y_270_5 {b : Bool} : g_co (gX b) 270 5 = some (.getfield 15) := rfl
theorem y_270_8 {b : Bool} : g_co (gX b) 270 8 = some (.aload_n 0) := rfl
theorem y_270_9 {b : Bool} : g_co (gX b) 270 9 = some (.getfield 9) := rfl
theorem y_270_12 {b : Bool} : g_co (gX b) 270 12 = some (.if_icmp .ge 16) := rfl
theorem y_270_15 {b : Bool} : g_co (gX b) 270 15 = some (.aload_n 0) := rfl
theorem y_270_16 {b : Bool} : g_co (gX b) 270 16 = some (.getfield 27) := rfl
theorem y_270_19 {b : Bool} : g_co (gX b) 270 19 = some (.aload_n 0) := rfl
theorem y_270_20 {b : Bool} : g_co (gX b) 270 20 = some (.getfield 15) := rfl
theorem y_270_23 {b : Bool} : g_co (gX b) 270 23 = some (.iaload) := rfl
theorem y_270_24 {b : Bool} : g_co (gX b) 270 24 = some (.iload_n 1) := rfl
theorem y_270_25 {b : Bool} : g_co (gX b) 270 25 = some (.if_icmp .eq 5) := rfl
theorem y_270_28 {b : Bool} : g_co (gX b) 270 28 = some (.iconst 0) := rfl
theorem y_270_29 {b : Bool} : g_co (gX b) 270 29 = some (.ireturn) := rfl
theorem y_270_30 {b : Bool} : g_co (gX b) 270 30 = some (.aload_n 0) := rfl
theorem y_270_31 {b : Bool} : g_co (gX b) 270 31 = some (.dup) := rfl
theorem y_270_32 {b : Bool} : g_co (gX b) 270 32 = some (.getfield 15) := rfl
theorem y_270_35 {b : Bool} : g_co (gX b) 270 35 = some (.iconst 1) := rfl
theorem y_270_36 {b : Bool} : g_co (gX b) 270 36 = some (.iadd) := rfl
theorem y_270_37 {b : Bool} : g_co (gX b) 270 37 = some (.putfield 15) := rfl
theorem y_270_40 {b : Bool} : g_co (gX b) 270 40 = some (.iconst 1) := rfl
theorem y_270_41 {b : Bool} : g_co (gX b) 270 41 = some (.ireturn) := rfl
theorem ym_270_113 {b : Bool} : g_ml (gX b) 270 113 = some (0, 273, 0, 6) := rfl
theorem yf_270_15 {b : Bool} : g_fl (gX b) 270 15 = some (6, 2, 0) := rfl
theorem yf_270_9 {b : Bool} : g_fl (gX b) 270 9 = some (6, 1, 0) := rfl
theorem yf_270_27 {b : Bool} : g_fl (gX b) 270 27 = some (6, 0, 9) := rfl
theorem yx_271 {b : Bool} : g_mx (gX b) 271 = 2 := rfl
theorem yt_271 {b : Bool} : g_rt (gX b) 271 = 0 := rfl
theorem y_271_0 {b : Bool} : g_co (gX b) 271 0 = some (.aload_n 0) := rfl
theorem y_271_1 {b : Bool} : g_co (gX b) 271 1 = some (.invokevirtual 113) := rfl
theorem y_271_4 {b : Bool} : g_co (gX b) 271 4 = some (.aload_n 0) := rfl
theorem y_271_5 {b : Bool} : g_co (gX b) 271 5 = some (.getfield 15) := rfl
theorem y_271_8 {b : Bool} : g_co (gX b) 271 8 = some (.aload_n 0) := rfl
theorem y_271_9 {b : Bool} : g_co (gX b) 271 9 = some (.getfield 9) := rfl
theorem y_271_12 {b : Bool} : g_co (gX b) 271 12 = some (.if_icmp .ge 29) := rfl
theorem y_271_15 {b : Bool} : g_co (gX b) 271 15 = some (.aload_n 0) := rfl
theorem y_271_16 {b : Bool} : g_co (gX b) 271 16 = some (.getfield 27) := rfl
theorem y_271_19 {b : Bool} : g_co (gX b) 271 19 = some (.aload_n 0) := rfl
theorem y_271_20 {b : Bool} : g_co (gX b) 271 20 = some (.getfield 15) := rfl
theorem y_271_23 {b : Bool} : g_co (gX b) 271 23 = some (.iaload) := rfl
theorem y_271_24 {b : Bool} : g_co (gX b) 271 24 = some (.iload_n 1) := rfl
theorem y_271_25 {b : Bool} : g_co (gX b) 271 25 = some (.if_icmp .ne 16) := rfl
theorem y_271_28 {b : Bool} : g_co (gX b) 271 28 = some (.aload_n 0) := rfl
theorem y_271_29 {b : Bool} : g_co (gX b) 271 29 = some (.dup) := rfl
theorem y_271_30 {b : Bool} : g_co (gX b) 271 30 = some (.getfield 15) := rfl
theorem y_271_33 {b : Bool} : g_co (gX b) 271 33 = some (.iconst 1) := rfl
theorem y_271_34 {b : Bool} : g_co (gX b) 271 34 = some (.iadd) := rfl
theorem y_271_35 {b : Bool} : g_co (gX b) 271 35 = some (.putfield 15) := rfl
theorem y_271_38 {b : Bool} : g_co (gX b) 271 38 = some (.goto 12) := rfl
theorem y_271_41 {b : Bool} : g_co (gX b) 271 41 = some (.aload_n 0) := rfl
theorem y_271_42 {b : Bool} : g_co (gX b) 271 42 = some (.iconst 1) := rfl
theorem y_271_43 {b : Bool} : g_co (gX b) 271 43 = some (.aload_n 0) := rfl
theorem y_271_44 {b : Bool} : g_co (gX b) 271 44 = some (.getfield 15) := rfl
theorem y_271_47 {b : Bool} : g_co (gX b) 271 47 = some (.invokevirtual 70) := rfl
theorem y_271_50 {b : Bool} : g_co (gX b) 271 50 = some (.return_) := rfl
theorem ym_271_113 {b : Bool} : g_ml (gX b) 271 113 = some (0, 273, 0, 6) := rfl
theorem yf_271_15 {b : Bool} : g_fl (gX b) 271 15 = some (6, 2, 0) := rfl
theorem yf_271_9 {b : Bool} : g_fl (gX b) 271 9 = some (6, 1, 0) := rfl
theorem yf_271_27 {b : Bool} : g_fl (gX b) 271 27 = some (6, 0, 9) := rfl
theorem ym_271_70 {b : Bool} : g_ml (gX b) 271 70 = some (0, 276, 2, 6) := rfl
theorem yx_272 {b : Bool} : g_mx (gX b) 272 = 1 := rfl
theorem yt_272 {b : Bool} : g_rt (gX b) 272 = 2 := rfl
theorem y_272_0 {b : Bool} : g_co (gX b) 272 0 = some (.aload_n 0) := rfl
theorem y_272_1 {b : Bool} : g_co (gX b) 272 1 = some (.invokevirtual 113) := rfl
theorem y_272_4 {b : Bool} : g_co (gX b) 272 4 = some (.aload_n 0) := rfl
theorem y_272_5 {b : Bool} : g_co (gX b) 272 5 = some (.getfield 15) := rfl
theorem y_272_8 {b : Bool} : g_co (gX b) 272 8 = some (.aload_n 0) := rfl
theorem y_272_9 {b : Bool} : g_co (gX b) 272 9 = some (.getfield 9) := rfl
theorem y_272_12 {b : Bool} : g_co (gX b) 272 12 = some (.if_icmp .lt 7) := rfl
theorem y_272_15 {b : Bool} : g_co (gX b) 272 15 = some (.iconst 1) := rfl
theorem y_272_16 {b : Bool} : g_co (gX b) 272 16 = some (.goto 4) := rfl
theorem y_272_19 {b : Bool} : g_co (gX b) 272 19 = some (.iconst 0) := rfl
theorem y_272_20 {b : Bool} : g_co (gX b) 272 20 = some (.ireturn) := rfl
theorem ym_272_113 {b : Bool} : g_ml (gX b) 272 113 = some (0, 273, 0, 6) := rfl
theorem yf_272_15 {b : Bool} : g_fl (gX b) 272 15 = some (6, 2, 0) := rfl
theorem yf_272_9 {b : Bool} : g_fl (gX b) 272 9 = some (6, 1, 0) := rfl
theorem yx_273 {b : Bool} : g_mx (gX b) 273 = 2 := rfl
theorem yt_273 {b : Bool} : g_rt (gX b) 273 = 0 := rfl
theorem y_273_0 {b : Bool} : g_co (gX b) 273 0 = some (.aload_n 0) := rfl
theorem y_273_1 {b : Bool} : g_co (gX b) 273 1 = some (.getfield 15) := rfl
theorem y_273_4 {b : Bool} : g_co (gX b) 273 4 = some (.istore_n 1) := rfl
theorem y_273_5 {b : Bool} : g_co (gX b) 273 5 = some (.iload_n 1) := rfl
theorem y_273_6 {b : Bool} : g_co (gX b) 273 6 = some (.aload_n 0) := rfl
theorem y_273_7 {b : Bool} : g_co (gX b) 273 7 = some (.getfield 9) := rfl
theorem y_273_10 {b : Bool} : g_co (gX b) 273 10 = some (.if_icmp .ge 27) := rfl
theorem y_273_13 {b : Bool} : g_co (gX b) 273 13 = some (.aload_n 0) := rfl
theorem y_273_14 {b : Bool} : g_co (gX b) 273 14 = some (.getfield 27) := rfl
theorem y_273_17 {b : Bool} : g_co (gX b) 273 17 = some (.iload_n 1) := rfl
theorem y_273_18 {b : Bool} : g_co (gX b) 273 18 = some (.iaload) := rfl
theorem y_273_19 {b : Bool} : g_co (gX b) 273 19 = some (.bipush 32) := rfl
theorem y_273_21 {b : Bool} : g_co (gX b) 273 21 = some (.if_icmp .ne 16) := rfl
theorem y_273_24 {b : Bool} : g_co (gX b) 273 24 = some (.aload_n 0) := rfl
theorem y_273_25 {b : Bool} : g_co (gX b) 273 25 = some (.iload_n 1) := rfl
theorem y_273_26 {b : Bool} : g_co (gX b) 273 26 = some (.iconst 1) := rfl
theorem y_273_27 {b : Bool} : g_co (gX b) 273 27 = some (.iadd) := rfl
theorem y_273_28 {b : Bool} : g_co (gX b) 273 28 = some (.putfield 15) := rfl
theorem y_273_31 {b : Bool} : g_co (gX b) 273 31 = some (.iinc 1 1) := rfl
theorem y_273_34 {b : Bool} : g_co (gX b) 273 34 = some (.goto (-29)) := rfl
theorem y_273_37 {b : Bool} : g_co (gX b) 273 37 = some (.return_) := rfl
theorem yf_273_15 {b : Bool} : g_fl (gX b) 273 15 = some (6, 2, 0) := rfl
theorem yf_273_9 {b : Bool} : g_fl (gX b) 273 9 = some (6, 1, 0) := rfl
theorem yf_273_27 {b : Bool} : g_fl (gX b) 273 27 = some (6, 0, 9) := rfl
theorem yx_274 {b : Bool} : g_mx (gX b) 274 = 2 := rfl
theorem yt_274 {b : Bool} : g_rt (gX b) 274 = 2 := rfl
theorem y_274_0 {b : Bool} : g_co (gX b) 274 0 = some (.iload_n 1) := rfl
theorem y_274_1 {b : Bool} : g_co (gX b) 274 1 = some (.ifCond .lt 37) := rfl
theorem y_274_4 {b : Bool} : g_co (gX b) 274 4 = some (.iload_n 1) := rfl
theorem y_274_5 {b : Bool} : g_co (gX b) 274 5 = some (.aload_n 0) := rfl
theorem y_274_6 {b : Bool} : g_co (gX b) 274 6 = some (.getfield 9) := rfl
theorem y_274_9 {b : Bool} : g_co (gX b) 274 9 = some (.if_icmp .ge 29) := rfl
theorem y_274_12 {b : Bool} : g_co (gX b) 274 12 = some (.aload_n 0) := rfl
theorem y_274_13 {b : Bool} : g_co (gX b) 274 13 = some (.getfield 27) := rfl
theorem y_274_16 {b : Bool} : g_co (gX b) 274 16 = some (.iload_n 1) := rfl
theorem y_274_17 {b : Bool} : g_co (gX b) 274 17 = some (.iaload) := rfl
theorem y_274_18 {b : Bool} : g_co (gX b) 274 18 = some (.bipush 48) := rfl
theorem y_274_20 {b : Bool} : g_co (gX b) 274 20 = some (.if_icmp .lt 18) := rfl
theorem y_274_23 {b : Bool} : g_co (gX b) 274 23 = some (.aload_n 0) := rfl
theorem y_274_24 {b : Bool} : g_co (gX b) 274 24 = some (.getfield 27) := rfl
theorem y_274_27 {b : Bool} : g_co (gX b) 274 27 = some (.iload_n 1) := rfl
theorem y_274_28 {b : Bool} : g_co (gX b) 274 28 = some (.iaload) := rfl
theorem y_274_29 {b : Bool} : g_co (gX b) 274 29 = some (.bipush 57) := rfl
theorem y_274_31 {b : Bool} : g_co (gX b) 274 31 = some (.if_icmp .gt 7) := rfl
theorem y_274_34 {b : Bool} : g_co (gX b) 274 34 = some (.iconst 1) := rfl
theorem y_274_35 {b : Bool} : g_co (gX b) 274 35 = some (.goto 4) := rfl
theorem y_274_38 {b : Bool} : g_co (gX b) 274 38 = some (.iconst 0) := rfl
theorem y_274_39 {b : Bool} : g_co (gX b) 274 39 = some (.ireturn) := rfl
theorem yf_274_9 {b : Bool} : g_fl (gX b) 274 9 = some (6, 1, 0) := rfl
theorem yf_274_27 {b : Bool} : g_fl (gX b) 274 27 = some (6, 0, 9) := rfl
theorem yx_275 {b : Bool} : g_mx (gX b) 275 = 2 := rfl
theorem yt_275 {b : Bool} : g_rt (gX b) 275 = 2 := rfl
theorem y_275_0 {b : Bool} : g_co (gX b) 275 0 = some (.iload_n 1) := rfl
theorem y_275_1 {b : Bool} : g_co (gX b) 275 1 = some (.ifCond .lt 37) := rfl
theorem y_275_4 {b : Bool} : g_co (gX b) 275 4 = some (.iload_n 1) := rfl
theorem y_275_5 {b : Bool} : g_co (gX b) 275 5 = some (.aload_n 0) := rfl
theorem y_275_6 {b : Bool} : g_co (gX b) 275 6 = some (.getfield 9) := rfl
theorem y_275_9 {b : Bool} : g_co (gX b) 275 9 = some (.if_icmp .ge 29) := rfl
theorem y_275_12 {b : Bool} : g_co (gX b) 275 12 = some (.aload_n 0) := rfl
theorem y_275_13 {b : Bool} : g_co (gX b) 275 13 = some (.getfield 27) := rfl
theorem y_275_16 {b : Bool} : g_co (gX b) 275 16 = some (.iload_n 1) := rfl
theorem y_275_17 {b : Bool} : g_co (gX b) 275 17 = some (.iaload) := rfl
theorem y_275_18 {b : Bool} : g_co (gX b) 275 18 = some (.bipush 97) := rfl
theorem y_275_20 {b : Bool} : g_co (gX b) 275 20 = some (.if_icmp .lt 18) := rfl
theorem y_275_23 {b : Bool} : g_co (gX b) 275 23 = some (.aload_n 0) := rfl
theorem y_275_24 {b : Bool} : g_co (gX b) 275 24 = some (.getfield 27) := rfl
theorem y_275_27 {b : Bool} : g_co (gX b) 275 27 = some (.iload_n 1) := rfl
theorem y_275_28 {b : Bool} : g_co (gX b) 275 28 = some (.iaload) := rfl
theorem y_275_29 {b : Bool} : g_co (gX b) 275 29 = some (.bipush 122) := rfl
theorem y_275_31 {b : Bool} : g_co (gX b) 275 31 = some (.if_icmp .gt 7) := rfl
theorem y_275_34 {b : Bool} : g_co (gX b) 275 34 = some (.iconst 1) := rfl
theorem y_275_35 {b : Bool} : g_co (gX b) 275 35 = some (.goto 4) := rfl
theorem y_275_38 {b : Bool} : g_co (gX b) 275 38 = some (.iconst 0) := rfl
theorem y_275_39 {b : Bool} : g_co (gX b) 275 39 = some (.ireturn) := rfl
theorem yf_275_9 {b : Bool} : g_fl (gX b) 275 9 = some (6, 1, 0) := rfl
theorem yf_275_27 {b : Bool} : g_fl (gX b) 275 27 = some (6, 0, 9) := rfl
theorem yx_276 {b : Bool} : g_mx (gX b) 276 = 3 := rfl
theorem yt_276 {b : Bool} : g_rt (gX b) 276 = 0 := rfl
theorem y_276_0 {b : Bool} : g_co (gX b) 276 0 = some (.aload_n 0) := rfl
theorem y_276_1 {b : Bool} : g_co (gX b) 276 1 = some (.getfield 21) := rfl
theorem y_276_4 {b : Bool} : g_co (gX b) 276 4 = some (.ifCond .ne 13) := rfl
theorem y_276_7 {b : Bool} : g_co (gX b) 276 7 = some (.aload_n 0) := rfl
theorem y_276_8 {b : Bool} : g_co (gX b) 276 8 = some (.iload_n 1) := rfl
theorem y_276_9 {b : Bool} : g_co (gX b) 276 9 = some (.putfield 21) := rfl
theorem y_276_12 {b : Bool} : g_co (gX b) 276 12 = some (.aload_n 0) := rfl
theorem y_276_13 {b : Bool} : g_co (gX b) 276 13 = some (.iload_n 2) := rfl
theorem y_276_14 {b : Bool} : g_co (gX b) 276 14 = some (.putfield 24) := rfl
theorem y_276_17 {b : Bool} : g_co (gX b) 276 17 = some (.aload_n 0) := rfl
theorem y_276_18 {b : Bool} : g_co (gX b) 276 18 = some (.aload_n 0) := rfl
theorem y_276_19 {b : Bool} : g_co (gX b) 276 19 = some (.getfield 9) := rfl
theorem y_276_22 {b : Bool} : g_co (gX b) 276 22 = some (.putfield 15) := rfl
theorem y_276_25 {b : Bool} : g_co (gX b) 276 25 = some (.return_) := rfl
theorem yf_276_21 {b : Bool} : g_fl (gX b) 276 21 = some (6, 4, 0) := rfl
theorem yf_276_24 {b : Bool} : g_fl (gX b) 276 24 = some (6, 6, 0) := rfl
theorem yf_276_9 {b : Bool} : g_fl (gX b) 276 9 = some (6, 1, 0) := rfl
theorem yf_276_15 {b : Bool} : g_fl (gX b) 276 15 = some (6, 2, 0) := rfl
theorem yx_277 {b : Bool} : g_mx (gX b) 277 = 2 := rfl
theorem yt_277 {b : Bool} : g_rt (gX b) 277 = 1 := rfl
theorem y_277_0 {b : Bool} : g_co (gX b) 277 0 = some (.aload_n 0) := rfl
theorem y_277_1 {b : Bool} : g_co (gX b) 277 1 = some (.getfield 15) := rfl
theorem y_277_4 {b : Bool} : g_co (gX b) 277 4 = some (.bipush 40) := rfl
theorem y_277_6 {b : Bool} : g_co (gX b) 277 6 = some (.if_icmp .lt 5) := rfl
theorem y_277_9 {b : Bool} : g_co (gX b) 277 9 = some (.iconst (-1)) := rfl
theorem y_277_10 {b : Bool} : g_co (gX b) 277 10 = some (.ireturn) := rfl
theorem y_277_11 {b : Bool} : g_co (gX b) 277 11 = some (.aload_n 0) := rfl
theorem y_277_12 {b : Bool} : g_co (gX b) 277 12 = some (.getfield 11) := rfl
theorem y_277_15 {b : Bool} : g_co (gX b) 277 15 = some (.aload_n 0) := rfl
theorem y_277_16 {b : Bool} : g_co (gX b) 277 16 = some (.getfield 15) := rfl
theorem y_277_19 {b : Bool} : g_co (gX b) 277 19 = some (.iload_n 1) := rfl
theorem y_277_20 {b : Bool} : g_co (gX b) 277 20 = some (.iastore) := rfl
theorem y_277_21 {b : Bool} : g_co (gX b) 277 21 = some (.aload_n 0) := rfl
theorem y_277_22 {b : Bool} : g_co (gX b) 277 22 = some (.dup) := rfl
theorem y_277_23 {b : Bool} : g_co (gX b) 277 23 = some (.getfield 15) := rfl
theorem y_277_26 {b : Bool} : g_co (gX b) 277 26 = some (.iconst 1) := rfl
theorem y_277_27 {b : Bool} : g_co (gX b) 277 27 = some (.iadd) := rfl
theorem y_277_28 {b : Bool} : g_co (gX b) 277 28 = some (.putfield 15) := rfl
theorem y_277_31 {b : Bool} : g_co (gX b) 277 31 = some (.aload_n 0) := rfl
theorem y_277_32 {b : Bool} : g_co (gX b) 277 32 = some (.getfield 15) := rfl
theorem y_277_35 {b : Bool} : g_co (gX b) 277 35 = some (.ireturn) := rfl
theorem yf_277_15 {b : Bool} : g_fl (gX b) 277 15 = some (7, 1, 0) := rfl
theorem yf_277_11 {b : Bool} : g_fl (gX b) 277 11 = some (7, 0, 9) := rfl
theorem yx_278 {b : Bool} : g_mx (gX b) 278 = 2 := rfl
theorem yt_278 {b : Bool} : g_rt (gX b) 278 = 1 := rfl
theorem y_278_0 {b : Bool} : g_co (gX b) 278 0 = some (.aload_n 0) := rfl
theorem y_278_1 {b : Bool} : g_co (gX b) 278 1 = some (.getfield 26) := rfl
theorem y_278_4 {b : Bool} : g_co (gX b) 278 4 = some (.aload_n 0) := rfl
theorem y_278_5 {b : Bool} : g_co (gX b) 278 5 = some (.getfield 22) := rfl
theorem y_278_8 {b : Bool} : g_co (gX b) 278 8 = some (.invokevirtual 30) := rfl
theorem y_278_11 {b : Bool} : g_co (gX b) 278 11 = some (.iconst 0) := rfl
theorem y_278_12 {b : Bool} : g_co (gX b) 278 12 = some (.istore_n 1) := rfl
theorem y_278_13 {b : Bool} : g_co (gX b) 278 13 = some (.iload_n 1) := rfl
theorem y_278_14 {b : Bool} : g_co (gX b) 278 14 = some (.aload_n 0) := rfl
theorem y_278_15 {b : Bool} : g_co (gX b) 278 15 = some (.getfield 15) := rfl
theorem y_278_18 {b : Bool} : g_co (gX b) 278 18 = some (.if_icmp .ge 50) := rfl
theorem y_278_21 {b : Bool} : g_co (gX b) 278 21 = some (.aload_n 0) := rfl
theorem y_278_22 {b : Bool} : g_co (gX b) 278 22 = some (.getfield 26) := rfl
theorem y_278_25 {b : Bool} : g_co (gX b) 278 25 = some (.aload_n 0) := rfl
theorem y_278_26 {b : Bool} : g_co (gX b) 278 26 = some (.getfield 22) := rfl
theorem y_278_29 {b : Bool} : g_co (gX b) 278 29 = some (.aload_n 0) := rfl
theorem y_278_30 {b : Bool} : g_co (gX b) 278 30 = some (.getfield 11) := rfl
theorem y_278_33 {b : Bool} : g_co (gX b) 278 33 = some (.iload_n 1) := rfl
theorem y_278_34 {b : Bool} : g_co (gX b) 278 34 = some (.iaload) := rfl
theorem y_278_35 {b : Bool} : g_co (gX b) 278 35 = some (.invokevirtual 36) := rfl
theorem y_278_38 {b : Bool} : g_co (gX b) 278 38 = some (.ifCond .ne 5) := rfl
theorem y_278_41 {b : Bool} : g_co (gX b) 278 41 = some (.iload_n 1) := rfl
theorem y_278_42 {b : Bool} : g_co (gX b) 278 42 = some (.ireturn) := rfl
theorem y_278_43 {b : Bool} : g_co (gX b) 278 43 = some (.aload_n 0) := rfl
theorem y_278_44 {b : Bool} : g_co (gX b) 278 44 = some (.getfield 26) := rfl
theorem y_278_47 {b : Bool} : g_co (gX b) 278 47 = some (.aload_n 0) := rfl
theorem y_278_48 {b : Bool} : g_co (gX b) 278 48 = some (.getfield 22) := rfl
theorem y_278_51 {b : Bool} : g_co (gX b) 278 51 = some (.aload_n 0) := rfl
theorem y_278_52 {b : Bool} : g_co (gX b) 278 52 = some (.getfield 11) := rfl
theorem y_278_55 {b : Bool} : g_co (gX b) 278 55 = some (.iload_n 1) := rfl
theorem y_278_56 {b : Bool} : g_co (gX b) 278 56 = some (.iaload) := rfl
theorem y_278_57 {b : Bool} : g_co (gX b) 278 57 = some (.iconst (-1)) := rfl
theorem y_278_58 {b : Bool} : g_co (gX b) 278 58 = some (.invokevirtual 40) := rfl
theorem y_278_61 {b : Bool} : g_co (gX b) 278 61 = some (.pop) := rfl
theorem y_278_62 {b : Bool} : g_co (gX b) 278 62 = some (.iinc 1 1) := rfl
theorem y_278_65 {b : Bool} : g_co (gX b) 278 65 = some (.goto (-52)) := rfl
theorem y_278_68 {b : Bool} : g_co (gX b) 278 68 = some (.iconst (-1)) := rfl
theorem y_278_69 {b : Bool} : g_co (gX b) 278 69 = some (.ireturn) := rfl
theorem yf_278_26 {b : Bool} : g_fl (gX b) 278 26 = some (7, 2, 9) := rfl
theorem yf_278_22 {b : Bool} : g_fl (gX b) 278 22 = some (7, 3, 9) := rfl
theorem ym_278_30 {b : Bool} : g_ml (gX b) 278 30 = some (0, 207, 1, 1) := rfl
theorem yf_278_15 {b : Bool} : g_fl (gX b) 278 15 = some (7, 1, 0) := rfl
theorem yf_278_11 {b : Bool} : g_fl (gX b) 278 11 = some (7, 0, 9) := rfl
theorem ym_278_36 {b : Bool} : g_ml (gX b) 278 36 = some (0, 206, 2, 1) := rfl
theorem ym_278_40 {b : Bool} : g_ml (gX b) 278 40 = some (0, 209, 3, 1) := rfl
theorem yx_279 {b : Bool} : g_mx (gX b) 279 = 3 := rfl
theorem yt_279 {b : Bool} : g_rt (gX b) 279 = 1 := rfl
theorem y_279_0 {b : Bool} : g_co (gX b) 279 0 = some (.aload_n 0) := rfl
theorem y_279_1 {b : Bool} : g_co (gX b) 279 1 = some (.iconst (-1)) := rfl
theorem y_279_2 {b : Bool} : g_co (gX b) 279 2 = some (.invokevirtual 44) := rfl
theorem y_279_5 {b : Bool} : g_co (gX b) 279 5 = some (.ifCond .ne 5) := rfl
theorem y_279_8 {b : Bool} : g_co (gX b) 279 8 = some (.iconst (-1)) := rfl
theorem y_279_9 {b : Bool} : g_co (gX b) 279 9 = some (.ireturn) := rfl
theorem y_279_10 {b : Bool} : g_co (gX b) 279 10 = some (.iconst 1) := rfl
theorem y_279_11 {b : Bool} : g_co (gX b) 279 11 = some (.istore_n 1) := rfl
theorem y_279_12 {b : Bool} : g_co (gX b) 279 12 = some (.iconst 0) := rfl
theorem y_279_13 {b : Bool} : g_co (gX b) 279 13 = some (.istore_n 2) := rfl
theorem y_279_14 {b : Bool} : g_co (gX b) 279 14 = some (.iload_n 2) := rfl
theorem y_279_15 {b : Bool} : g_co (gX b) 279 15 = some (.bipush 40) := rfl
theorem y_279_17 {b : Bool} : g_co (gX b) 279 17 = some (.if_icmp .gt 18) := rfl
theorem y_279_20 {b : Bool} : g_co (gX b) 279 20 = some (.iload_n 1) := rfl
theorem y_279_21 {b : Bool} : g_co (gX b) 279 21 = some (.ifCond .eq 14) := rfl
theorem y_279_24 {b : Bool} : g_co (gX b) 279 24 = some (.aload_n 0) := rfl
theorem y_279_25 {b : Bool} : g_co (gX b) 279 25 = some (.invokevirtual 48) := rfl
theorem y_279_28 {b : Bool} : g_co (gX b) 279 28 = some (.istore_n 1) := rfl
theorem y_279_29 {b : Bool} : g_co (gX b) 279 29 = some (.iinc 2 1) := rfl
theorem y_279_32 {b : Bool} : g_co (gX b) 279 32 = some (.goto (-18)) := rfl
theorem y_279_35 {b : Bool} : g_co (gX b) 279 35 = some (.aload_n 0) := rfl
theorem y_279_36 {b : Bool} : g_co (gX b) 279 36 = some (.getfield 15) := rfl
theorem y_279_39 {b : Bool} : g_co (gX b) 279 39 = some (.ireturn) := rfl
theorem ym_279_44 {b : Bool} : g_ml (gX b) 279 44 = some (0, 282, 1, 7) := rfl
theorem ym_279_48 {b : Bool} : g_ml (gX b) 279 48 = some (0, 280, 0, 7) := rfl
theorem yf_279_15 {b : Bool} : g_fl (gX b) 279 15 = some (7, 1, 0) := rfl
theorem yx_280 {b : Bool} : g_mx (gX b) 280 = 4 := rfl
theorem yt_280 {b : Bool} : g_rt (gX b) 280 = 2 := rfl
theorem y_280_0 {b : Bool} : g_co (gX b) 280 0 = some (.aload_n 0) := rfl
theorem y_280_1 {b : Bool} : g_co (gX b) 280 1 = some (.getfield 15) := rfl
theorem y_280_4 {b : Bool} : g_co (gX b) 280 4 = some (.istore_n 1) := rfl
theorem y_280_5 {b : Bool} : g_co (gX b) 280 5 = some (.iconst 0) := rfl
theorem y_280_6 {b : Bool} : g_co (gX b) 280 6 = some (.istore_n 2) := rfl
theorem y_280_7 {b : Bool} : g_co (gX b) 280 7 = some (.iconst 0) := rfl
theorem y_280_8 {b : Bool} : g_co (gX b) 280 8 = some (.istore_n 3) := rfl
theorem y_280_9 {b : Bool} : g_co (gX b) 280 9 = some (.iload_n 3) := rfl
theorem y_280_10 {b : Bool} : g_co (gX b) 280 10 = some (.iload_n 1) := rfl
theorem y_280_11 {b : Bool} : g_co (gX b) 280 11 = some (.if_icmp .ge 28) := rfl
theorem y_280_14 {b : Bool} : g_co (gX b) 280 14 = some (.aload_n 0) := rfl
theorem y_280_15 {b : Bool} : g_co (gX b) 280 15 = some (.iload_n 2) := rfl
theorem y_280_16 {b : Bool} : g_co (gX b) 280 16 = some (.invokevirtual 44) := rfl
theorem y_280_19 {b : Bool} : g_co (gX b) 280 19 = some (.ifCond .eq 11) := rfl
theorem y_280_22 {b : Bool} : g_co (gX b) 280 22 = some (.aload_n 0) := rfl
theorem y_280_23 {b : Bool} : g_co (gX b) 280 23 = some (.iload_n 2) := rfl
theorem y_280_24 {b : Bool} : g_co (gX b) 280 24 = some (.invokevirtual 52) := rfl
theorem y_280_27 {b : Bool} : g_co (gX b) 280 27 = some (.goto 6) := rfl
theorem y_280_30 {b : Bool} : g_co (gX b) 280 30 = some (.iinc 2 1) := rfl
theorem y_280_33 {b : Bool} : g_co (gX b) 280 33 = some (.iinc 3 1) := rfl
theorem y_280_36 {b : Bool} : g_co (gX b) 280 36 = some (.goto (-27)) := rfl
theorem y_280_39 {b : Bool} : g_co (gX b) 280 39 = some (.aload_n 0) := rfl
theorem y_280_40 {b : Bool} : g_co (gX b) 280 40 = some (.getfield 15) := rfl
theorem y_280_43 {b : Bool} : g_co (gX b) 280 43 = some (.iload_n 1) := rfl
theorem y_280_44 {b : Bool} : g_co (gX b) 280 44 = some (.if_icmp .ge 7) := rfl
theorem y_280_47 {b : Bool} : g_co (gX b) 280 47 = some (.iconst 1) := rfl
theorem y_280_48 {b : Bool} : g_co (gX b) 280 48 = some (.goto 4) := rfl
theorem y_280_51 {b : Bool} : g_co (gX b) 280 51 = some (.iconst 0) := rfl
theorem y_280_52 {b : Bool} : g_co (gX b) 280 52 = some (.ireturn) := rfl
theorem yf_280_15 {b : Bool} : g_fl (gX b) 280 15 = some (7, 1, 0) := rfl
theorem ym_280_44 {b : Bool} : g_ml (gX b) 280 44 = some (0, 282, 1, 7) := rfl
theorem ym_280_52 {b : Bool} : g_ml (gX b) 280 52 = some (0, 281, 1, 7) := rfl
theorem yx_281 {b : Bool} : g_mx (gX b) 281 = 3 := rfl
theorem yt_281 {b : Bool} : g_rt (gX b) 281 = 0 := rfl
theorem y_281_0 {b : Bool} : g_co (gX b) 281 0 = some (.iload_n 1) := rfl
theorem y_281_1 {b : Bool} : g_co (gX b) 281 1 = some (.istore_n 2) := rfl
theorem y_281_2 {b : Bool} : g_co (gX b) 281 2 = some (.iload_n 2) := rfl
theorem y_281_3 {b : Bool} : g_co (gX b) 281 3 = some (.iconst 1) := rfl
theorem y_281_4 {b : Bool} : g_co (gX b) 281 4 = some (.iadd) := rfl
theorem y_281_5 {b : Bool} : g_co (gX b) 281 5 = some (.aload_n 0) := rfl
theorem y_281_6 {b : Bool} : g_co (gX b) 281 6 = some (.getfield 15) := rfl
theorem y_281_9 {b : Bool} : g_co (gX b) 281 9 = some (.if_icmp .ge 23) := rfl
theorem y_281_12 {b : Bool} : g_co (gX b) 281 12 = some (.aload_n 0) := rfl
theorem y_281_13 {b : Bool} : g_co (gX b) 281 13 = some (.getfield 11) := rfl
theorem y_281_16 {b : Bool} : g_co (gX b) 281 16 = some (.iload_n 2) := rfl
theorem y_281_17 {b : Bool} : g_co (gX b) 281 17 = some (.aload_n 0) := rfl
theorem y_281_18 {b : Bool} : g_co (gX b) 281 18 = some (.getfield 11) := rfl
theorem y_281_21 {b : Bool} : g_co (gX b) 281 21 = some (.iload_n 2) := rfl
theorem y_281_22 {b : Bool} : g_co (gX b) 281 22 = some (.iconst 1) := rfl
theorem y_281_23 {b : Bool} : g_co (gX b) 281 23 = some (.iadd) := rfl
theorem y_281_24 {b : Bool} : g_co (gX b) 281 24 = some (.iaload) := rfl
theorem y_281_25 {b : Bool} : g_co (gX b) 281 25 = some (.iastore) := rfl
theorem y_281_26 {b : Bool} : g_co (gX b) 281 26 = some (.iinc 2 1) := rfl
theorem y_281_29 {b : Bool} : g_co (gX b) 281 29 = some (.goto (-27)) := rfl
theorem y_281_32 {b : Bool} : g_co (gX b) 281 32 = some (.aload_n 0) := rfl
theorem y_281_33 {b : Bool} : g_co (gX b) 281 33 = some (.dup) := rfl
theorem y_281_34 {b : Bool} : g_co (gX b) 281 34 = some (.getfield 15) := rfl
theorem y_281_37 {b : Bool} : g_co (gX b) 281 37 = some (.iconst 1) := rfl
theorem y_281_38 {b : Bool} : g_co (gX b) 281 38 = some (.isub) := rfl
theorem y_281_39 {b : Bool} : g_co (gX b) 281 39 = some (.putfield 15) := rfl
theorem y_281_42 {b : Bool} : g_co (gX b) 281 42 = some (.return_) := rfl
theorem yf_281_15 {b : Bool} : g_fl (gX b) 281 15 = some (7, 1, 0) := rfl
theorem yf_281_11 {b : Bool} : g_fl (gX b) 281 11 = some (7, 0, 9) := rfl
theorem yx_282 {b : Bool} : g_mx (gX b) 282 = 3 := rfl
theorem yt_282 {b : Bool} : g_rt (gX b) 282 = 2 := rfl
theorem y_282_0 {b : Bool} : g_co (gX b) 282 0 = some (.aload_n 0) := rfl
theorem y_282_1 {b : Bool} : g_co (gX b) 282 1 = some (.getfield 26) := rfl
theorem y_282_4 {b : Bool} : g_co (gX b) 282 4 = some (.aload_n 0) := rfl
theorem y_282_5 {b : Bool} : g_co (gX b) 282 5 = some (.getfield 22) := rfl
theorem y_282_8 {b : Bool} : g_co (gX b) 282 8 = some (.invokevirtual 30) := rfl
theorem y_282_11 {b : Bool} : g_co (gX b) 282 11 = some (.iconst 0) := rfl
theorem y_282_12 {b : Bool} : g_co (gX b) 282 12 = some (.istore_n 2) := rfl
theorem y_282_13 {b : Bool} : g_co (gX b) 282 13 = some (.iload_n 2) := rfl
theorem y_282_14 {b : Bool} : g_co (gX b) 282 14 = some (.aload_n 0) := rfl
theorem y_282_15 {b : Bool} : g_co (gX b) 282 15 = some (.getfield 15) := rfl
theorem y_282_18 {b : Bool} : g_co (gX b) 282 18 = some (.if_icmp .ge 53) := rfl
theorem y_282_21 {b : Bool} : g_co (gX b) 282 21 = some (.iload_n 2) := rfl
theorem y_282_22 {b : Bool} : g_co (gX b) 282 22 = some (.iload_n 1) := rfl
theorem y_282_23 {b : Bool} : g_co (gX b) 282 23 = some (.if_icmp .eq 42) := rfl
theorem y_282_26 {b : Bool} : g_co (gX b) 282 26 = some (.aload_n 0) := rfl
theorem y_282_27 {b : Bool} : g_co (gX b) 282 27 = some (.getfield 26) := rfl
theorem y_282_30 {b : Bool} : g_co (gX b) 282 30 = some (.aload_n 0) := rfl
theorem y_282_31 {b : Bool} : g_co (gX b) 282 31 = some (.getfield 22) := rfl
theorem y_282_34 {b : Bool} : g_co (gX b) 282 34 = some (.aload_n 0) := rfl
theorem y_282_35 {b : Bool} : g_co (gX b) 282 35 = some (.getfield 11) := rfl
theorem y_282_38 {b : Bool} : g_co (gX b) 282 38 = some (.iload_n 2) := rfl
theorem y_282_39 {b : Bool} : g_co (gX b) 282 39 = some (.iaload) := rfl
theorem y_282_40 {b : Bool} : g_co (gX b) 282 40 = some (.invokevirtual 36) := rfl
theorem y_282_43 {b : Bool} : g_co (gX b) 282 43 = some (.ifCond .eq 22) := rfl
theorem y_282_46 {b : Bool} : g_co (gX b) 282 46 = some (.aload_n 0) := rfl
theorem y_282_47 {b : Bool} : g_co (gX b) 282 47 = some (.getfield 26) := rfl
theorem y_282_50 {b : Bool} : g_co (gX b) 282 50 = some (.aload_n 0) := rfl
theorem y_282_51 {b : Bool} : g_co (gX b) 282 51 = some (.getfield 22) := rfl
theorem y_282_54 {b : Bool} : g_co (gX b) 282 54 = some (.aload_n 0) := rfl
theorem y_282_55 {b : Bool} : g_co (gX b) 282 55 = some (.getfield 11) := rfl
theorem y_282_58 {b : Bool} : g_co (gX b) 282 58 = some (.iload_n 2) := rfl
theorem y_282_59 {b : Bool} : g_co (gX b) 282 59 = some (.iaload) := rfl
theorem y_282_60 {b : Bool} : g_co (gX b) 282 60 = some (.iconst (-1)) := rfl
theorem y_282_61 {b : Bool} : g_co (gX b) 282 61 = some (.invokevirtual 40) := rfl
theorem y_282_64 {b : Bool} : g_co (gX b) 282 64 = some (.pop) := rfl
theorem y_282_65 {b : Bool} : g_co (gX b) 282 65 = some (.iinc 2 1) := rfl
theorem y_282_68 {b : Bool} : g_co (gX b) 282 68 = some (.goto (-55)) := rfl
theorem y_282_71 {b : Bool} : g_co (gX b) 282 71 = some (.aload_n 0) := rfl
theorem y_282_72 {b : Bool} : g_co (gX b) 282 72 = some (.getfield 26) := rfl
theorem y_282_75 {b : Bool} : g_co (gX b) 282 75 = some (.aload_n 0) := rfl
theorem y_282_76 {b : Bool} : g_co (gX b) 282 76 = some (.getfield 22) := rfl
theorem y_282_79 {b : Bool} : g_co (gX b) 282 79 = some (.invokevirtual 56) := rfl
theorem y_282_82 {b : Bool} : g_co (gX b) 282 82 = some (.ireturn) := rfl
theorem yf_282_26 {b : Bool} : g_fl (gX b) 282 26 = some (7, 2, 9) := rfl
theorem yf_282_22 {b : Bool} : g_fl (gX b) 282 22 = some (7, 3, 9) := rfl
theorem ym_282_30 {b : Bool} : g_ml (gX b) 282 30 = some (0, 207, 1, 1) := rfl
theorem yf_282_15 {b : Bool} : g_fl (gX b) 282 15 = some (7, 1, 0) := rfl
theorem yf_282_11 {b : Bool} : g_fl (gX b) 282 11 = some (7, 0, 9) := rfl
theorem ym_282_36 {b : Bool} : g_ml (gX b) 282 36 = some (0, 206, 2, 1) := rfl
theorem ym_282_40 {b : Bool} : g_ml (gX b) 282 40 = some (0, 209, 3, 1) := rfl
theorem ym_282_56 {b : Bool} : g_ml (gX b) 282 56 = some (0, 210, 1, 1) := rfl
theorem yx_283 {b : Bool} : g_mx (gX b) 283 = 1 := rfl
theorem yt_283 {b : Bool} : g_rt (gX b) 283 = 0 := rfl
theorem y_283_0 {b : Bool} : g_co (gX b) 283 0 = some (.aload_n 0) := rfl
theorem y_283_1 {b : Bool} : g_co (gX b) 283 1 = some (.iconst (-1)) := rfl
theorem y_283_2 {b : Bool} : g_co (gX b) 283 2 = some (.putfield 69) := rfl
theorem y_283_5 {b : Bool} : g_co (gX b) 283 5 = some (.return_) := rfl
theorem yf_283_69 {b : Bool} : g_fl (gX b) 283 69 = some (8, 16, 0) := rfl
theorem yx_284 {b : Bool} : g_mx (gX b) 284 = 1 := rfl
theorem yt_284 {b : Bool} : g_rt (gX b) 284 = 0 := rfl
theorem y_284_0 {b : Bool} : g_co (gX b) 284 0 = some (.aload_n 0) := rfl
theorem y_284_1 {b : Bool} : g_co (gX b) 284 1 = some (.iconst (-1)) := rfl
theorem y_284_2 {b : Bool} : g_co (gX b) 284 2 = some (.putfield 75) := rfl
theorem y_284_5 {b : Bool} : g_co (gX b) 284 5 = some (.return_) := rfl
theorem yf_284_75 {b : Bool} : g_fl (gX b) 284 75 = some (8, 18, 0) := rfl
theorem yx_285 {b : Bool} : g_mx (gX b) 285 = 9 := rfl
theorem yt_285 {b : Bool} : g_rt (gX b) 285 = 0 := rfl
theorem y_285_0 {b : Bool} : g_co (gX b) 285 0 = some (.iload_n 1) := rfl
theorem y_285_1 {b : Bool} : g_co (gX b) 285 1 = some (.sipush 1024) := rfl
theorem y_285_4 {b : Bool} : g_co (gX b) 285 4 = some (.imul) := rfl
theorem y_285_5 {b : Bool} : g_co (gX b) 285 5 = some (.iload_n 2) := rfl
theorem y_285_6 {b : Bool} : g_co (gX b) 285 6 = some (.iadd) := rfl
theorem y_285_7 {b : Bool} : g_co (gX b) 285 7 = some (.istore 4) := rfl
theorem y_285_9 {b : Bool} : g_co (gX b) 285 9 = some (.iload 4) := rfl
theorem y_285_11 {b : Bool} : g_co (gX b) 285 11 = some (.aload_n 0) := rfl
theorem y_285_12 {b : Bool} : g_co (gX b) 285 12 = some (.getfield 69) := rfl
theorem y_285_15 {b : Bool} : g_co (gX b) 285 15 = some (.if_icmp .ne 15) := rfl
theorem y_285_18 {b : Bool} : g_co (gX b) 285 18 = some (.aload_n 0) := rfl
theorem y_285_19 {b : Bool} : g_co (gX b) 285 19 = some (.getfield 66) := rfl
theorem y_285_22 {b : Bool} : g_co (gX b) 285 22 = some (.ifCond .ne 7) := rfl
theorem y_285_25 {b : Bool} : g_co (gX b) 285 25 = some (.iload_n 3) := rfl
theorem y_285_26 {b : Bool} : g_co (gX b) 285 26 = some (.ifCond .ne 4) := rfl
theorem y_285_29 {b : Bool} : g_co (gX b) 285 29 = some (.return_) := rfl
theorem y_285_30 {b : Bool} : g_co (gX b) 285 30 = some (.aload_n 0) := rfl
theorem y_285_31 {b : Bool} : g_co (gX b) 285 31 = some (.iload 4) := rfl
theorem y_285_33 {b : Bool} : g_co (gX b) 285 33 = some (.putfield 69) := rfl
theorem y_285_36 {b : Bool} : g_co (gX b) 285 36 = some (.aload_n 0) := rfl
theorem y_285_37 {b : Bool} : g_co (gX b) 285 37 = some (.iload_n 3) := rfl
theorem y_285_38 {b : Bool} : g_co (gX b) 285 38 = some (.putfield 66) := rfl
theorem y_285_41 {b : Bool} : g_co (gX b) 285 41 = some (.aload_n 0) := rfl
theorem y_285_42 {b : Bool} : g_co (gX b) 285 42 = some (.iload_n 2) := rfl
theorem y_285_43 {b : Bool} : g_co (gX b) 285 43 = some (.sipush 600) := rfl
theorem y_285_46 {b : Bool} : g_co (gX b) 285 46 = some (.invokestatic 82) := rfl
theorem y_285_49 {b : Bool} : g_co (gX b) 285 49 = some (.putfield 63) := rfl
theorem y_285_52 {b : Bool} : g_co (gX b) 285 52 = some (.aload_n 0) := rfl
theorem y_285_53 {b : Bool} : g_co (gX b) 285 53 = some (.iconst 0) := rfl
theorem y_285_54 {b : Bool} : g_co (gX b) 285 54 = some (.putfield 15) := rfl
theorem y_285_57 {b : Bool} : g_co (gX b) 285 57 = some (.aload_n 0) := rfl
theorem y_285_58 {b : Bool} : g_co (gX b) 285 58 = some (.getfield 22) := rfl
theorem y_285_61 {b : Bool} : g_co (gX b) 285 61 = some (.invokevirtual 88) := rfl
theorem y_285_64 {b : Bool} : g_co (gX b) 285 64 = some (.aload_n 0) := rfl
theorem y_285_65 {b : Bool} : g_co (gX b) 285 65 = some (.getfield 78) := rfl
theorem y_285_68 {b : Bool} : g_co (gX b) 285 68 = some (.aload_n 0) := rfl
theorem y_285_69 {b : Bool} : g_co (gX b) 285 69 = some (.getfield 33) := rfl
theorem y_285_72 {b : Bool} : g_co (gX b) 285 72 = some (.invokevirtual 91) := rfl
theorem y_285_75 {b : Bool} : g_co (gX b) 285 75 = some (.aload_n 0) := rfl
theorem y_285_76 {b : Bool} : g_co (gX b) 285 76 = some (.getfield 22) := rfl
theorem y_285_79 {b : Bool} : g_co (gX b) 285 79 = some (.aload_n 0) := rfl
theorem y_285_80 {b : Bool} : g_co (gX b) 285 80 = some (.getfield 33) := rfl
theorem y_285_83 {b : Bool} : g_co (gX b) 285 83 = some (.invokevirtual 97) := rfl
theorem y_285_86 {b : Bool} : g_co (gX b) 285 86 = some (.pop) := rfl
theorem y_285_87 {b : Bool} : g_co (gX b) 285 87 = some (.aload_n 0) := rfl
theorem y_285_88 {b : Bool} : g_co (gX b) 285 88 = some (.iconst (-1)) := rfl
theorem y_285_89 {b : Bool} : g_co (gX b) 285 89 = some (.iconst (-1)) := rfl
theorem y_285_90 {b : Bool} : g_co (gX b) 285 90 = some (.invokevirtual 101) := rfl
theorem y_285_93 {b : Bool} : g_co (gX b) 285 93 = some (.pop) := rfl
theorem y_285_94 {b : Bool} : g_co (gX b) 285 94 = some (.aload_n 0) := rfl
theorem y_285_95 {b : Bool} : g_co (gX b) 285 95 = some (.aload_n 0) := rfl
theorem y_285_96 {b : Bool} : g_co (gX b) 285 96 = some (.getfield 78) := rfl
theorem y_285_99 {b : Bool} : g_co (gX b) 285 99 = some (.aload_n 0) := rfl
theorem y_285_100 {b : Bool} : g_co (gX b) 285 100 = some (.getfield 33) := rfl
theorem y_285_103 {b : Bool} : g_co (gX b) 285 103 = some (.invokevirtual 104) := rfl
theorem y_285_106 {b : Bool} : g_co (gX b) 285 106 = some (.ifCond .eq 7) := rfl
theorem y_285_109 {b : Bool} : g_co (gX b) 285 109 = some (.iconst 0) := rfl
theorem y_285_110 {b : Bool} : g_co (gX b) 285 110 = some (.goto 4) := rfl
theorem y_285_113 {b : Bool} : g_co (gX b) 285 113 = some (.iconst (-1)) := rfl
theorem y_285_114 {b : Bool} : g_co (gX b) 285 114 = some (.putfield 60) := rfl
theorem y_285_117 {b : Bool} : g_co (gX b) 285 117 = some (.iconst 0) := rfl
theorem y_285_118 {b : Bool} : g_co (gX b) 285 118 = some (.istore 5) := rfl
theorem y_285_120 {b : Bool} : g_co (gX b) 285 120 = some (.aload_n 0) := rfl
theorem y_285_121 {b : Bool} : g_co (gX b) 285 121 = some (.getfield 22) := rfl
theorem y_285_124 {b : Bool} : g_co (gX b) 285 124 = some (.getfield 108) := rfl
theorem y_285_127 {b : Bool} : g_co (gX b) 285 127 = some (.istore 6) := rfl
theorem y_285_129 {b : Bool} : g_co (gX b) 285 129 = some (.iconst 0) := rfl
theorem y_285_130 {b : Bool} : g_co (gX b) 285 130 = some (.istore 7) := rfl
theorem y_285_132 {b : Bool} : g_co (gX b) 285 132 = some (.iload 7) := rfl
theorem y_285_134 {b : Bool} : g_co (gX b) 285 134 = some (.iload_n 1) := rfl
theorem y_285_135 {b : Bool} : g_co (gX b) 285 135 = some (.if_icmp .ge 72) := rfl
theorem y_285_138 {b : Bool} : g_co (gX b) 285 138 = some (.iload 5) := rfl
theorem y_285_140 {b : Bool} : g_co (gX b) 285 140 = some (.iload 6) := rfl
theorem y_285_142 {b : Bool} : g_co (gX b) 285 142 = some (.if_icmp .ge 65) := rfl
theorem y_285_145 {b : Bool} : g_co (gX b) 285 145 = some (.iload 5) := rfl
theorem y_285_147 {b : Bool} : g_co (gX b) 285 147 = some (.istore 8) := rfl
theorem y_285_149 {b : Bool} : g_co (gX b) 285 149 = some (.iload 8) := rfl
theorem y_285_151 {b : Bool} : g_co (gX b) 285 151 = some (.iload 6) := rfl
theorem y_285_153 {b : Bool} : g_co (gX b) 285 153 = some (.if_icmp .ge 23) := rfl
theorem y_285_156 {b : Bool} : g_co (gX b) 285 156 = some (.aload_n 0) := rfl
theorem y_285_157 {b : Bool} : g_co (gX b) 285 157 = some (.invokevirtual 111) := rfl
theorem y_285_160 {b : Bool} : g_co (gX b) 285 160 = some (.ifCond .ne 16) := rfl
theorem y_285_163 {b : Bool} : g_co (gX b) 285 163 = some (.aload_n 0) := rfl
theorem y_285_164 {b : Bool} : g_co (gX b) 285 164 = some (.iload 8) := rfl
theorem y_285_166 {b : Bool} : g_co (gX b) 285 166 = some (.iconst 0) := rfl
theorem y_285_167 {b : Bool} : g_co (gX b) 285 167 = some (.invokevirtual 115) := rfl
theorem y_285_170 {b : Bool} : g_co (gX b) 285 170 = some (.iinc 8 1) := rfl
theorem y_285_173 {b : Bool} : g_co (gX b) 285 173 = some (.goto (-24)) := rfl
theorem y_285_176 {b : Bool} : g_co (gX b) 285 176 = some (.iload 6) := rfl
theorem y_285_178 {b : Bool} : g_co (gX b) 285 178 = some (.istore 5) := rfl
theorem y_285_180 {b : Bool} : g_co (gX b) 285 180 = some (.aload_n 0) := rfl
theorem y_285_181 {b : Bool} : g_co (gX b) 285 181 = some (.invokevirtual 111) := rfl
theorem y_285_184 {b : Bool} : g_co (gX b) 285 184 = some (.ifCond .eq 8) := rfl
theorem y_285_187 {b : Bool} : g_co (gX b) 285 187 = some (.iload 5) := rfl
theorem y_285_189 {b : Bool} : g_co (gX b) 285 189 = some (.goto 10) := rfl
theorem y_285_192 {b : Bool} : g_co (gX b) 285 192 = some (.aload_n 0) := rfl
theorem y_285_193 {b : Bool} : g_co (gX b) 285 193 = some (.getfield 22) := rfl
theorem y_285_196 {b : Bool} : g_co (gX b) 285 196 = some (.getfield 108) := rfl
theorem y_285_199 {b : Bool} : g_co (gX b) 285 199 = some (.istore 6) := rfl
theorem y_285_201 {b : Bool} : g_co (gX b) 285 201 = some (.iinc 7 1) := rfl
theorem y_285_204 {b : Bool} : g_co (gX b) 285 204 = some (.goto (-72)) := rfl
theorem y_285_207 {b : Bool} : g_co (gX b) 285 207 = some (.aload_n 0) := rfl
theorem y_285_208 {b : Bool} : g_co (gX b) 285 208 = some (.aload_n 0) := rfl
theorem y_285_209 {b : Bool} : g_co (gX b) 285 209 = some (.getfield 22) := rfl
theorem y_285_212 {b : Bool} : g_co (gX b) 285 212 = some (.getfield 108) := rfl
theorem y_285_215 {b : Bool} : g_co (gX b) 285 215 = some (.putfield 9) := rfl
theorem y_285_218 {b : Bool} : g_co (gX b) 285 218 = some (.return_) := rfl
theorem yf_285_69 {b : Bool} : g_fl (gX b) 285 69 = some (8, 16, 0) := rfl
theorem yf_285_66 {b : Bool} : g_fl (gX b) 285 66 = some (8, 15, 1) := rfl
theorem yn_285_82 {b : Bool} : g_ml (gX b) 285 82 = none := rfl
theorem yz_285_82 {b : Bool} : g_nt (gX b) 285 82 = 3 := rfl
theorem yf_285_63 {b : Bool} : g_fl (gX b) 285 63 = some (8, 14, 0) := rfl
theorem yf_285_15 {b : Bool} : g_fl (gX b) 285 15 = some (8, 1, 1) := rfl
theorem yf_285_22 {b : Bool} : g_fl (gX b) 285 22 = some (8, 3, 9) := rfl
theorem ym_285_88 {b : Bool} : g_ml (gX b) 285 88 = some (0, 219, 0, 2) := rfl
theorem yf_285_78 {b : Bool} : g_fl (gX b) 285 78 = some (8, 2, 9) := rfl
theorem yf_285_33 {b : Bool} : g_fl (gX b) 285 33 = some (8, 5, 9) := rfl
theorem ym_285_91 {b : Bool} : g_ml (gX b) 285 91 = some (0, 207, 1, 1) := rfl
theorem ym_285_97 {b : Bool} : g_ml (gX b) 285 97 = some (0, 220, 1, 2) := rfl
theorem ym_285_101 {b : Bool} : g_ml (gX b) 285 101 = some (0, 294, 2, 8) := rfl
theorem ym_285_104 {b : Bool} : g_ml (gX b) 285 104 = some (0, 210, 1, 1) := rfl
theorem yf_285_60 {b : Bool} : g_fl (gX b) 285 60 = some (8, 13, 0) := rfl
theorem yf_285_108 {b : Bool} : g_fl (gX b) 285 108 = some (2, 0, 0) := rfl
theorem ym_285_111 {b : Bool} : g_ml (gX b) 285 111 = some (0, 291, 0, 8) := rfl
theorem ym_285_115 {b : Bool} : g_ml (gX b) 285 115 = some (0, 293, 2, 8) := rfl
theorem yf_285_9 {b : Bool} : g_fl (gX b) 285 9 = some (8, 0, 0) := rfl
theorem yx_286 {b : Bool} : g_mx (gX b) 286 = 1 := rfl
theorem yt_286 {b : Bool} : g_rt (gX b) 286 = 1 := rfl
theorem y_286_0 {b : Bool} : g_co (gX b) 286 0 = some (.aload_n 0) := rfl
theorem y_286_1 {b : Bool} : g_co (gX b) 286 1 = some (.getfield 60) := rfl
theorem y_286_4 {b : Bool} : g_co (gX b) 286 4 = some (.ifCond .ge 17) := rfl
theorem y_286_7 {b : Bool} : g_co (gX b) 286 7 = some (.aload_n 0) := rfl
theorem y_286_8 {b : Bool} : g_co (gX b) 286 8 = some (.getfield 15) := rfl
theorem y_286_11 {b : Bool} : g_co (gX b) 286 11 = some (.ifCond .eq 8) := rfl
theorem y_286_14 {b : Bool} : g_co (gX b) 286 14 = some (.bipush (-2)) := rfl
theorem y_286_16 {b : Bool} : g_co (gX b) 286 16 = some (.goto 4) := rfl
theorem y_286_19 {b : Bool} : g_co (gX b) 286 19 = some (.iconst (-1)) := rfl
theorem y_286_20 {b : Bool} : g_co (gX b) 286 20 = some (.ireturn) := rfl
theorem y_286_21 {b : Bool} : g_co (gX b) 286 21 = some (.aload_n 0) := rfl
theorem y_286_22 {b : Bool} : g_co (gX b) 286 22 = some (.aload_n 0) := rfl
theorem y_286_23 {b : Bool} : g_co (gX b) 286 23 = some (.getfield 60) := rfl
theorem y_286_26 {b : Bool} : g_co (gX b) 286 26 = some (.invokevirtual 119) := rfl
theorem y_286_29 {b : Bool} : g_co (gX b) 286 29 = some (.ireturn) := rfl
theorem yf_286_60 {b : Bool} : g_fl (gX b) 286 60 = some (8, 13, 0) := rfl
theorem yf_286_15 {b : Bool} : g_fl (gX b) 286 15 = some (8, 1, 1) := rfl
theorem ym_286_119 {b : Bool} : g_ml (gX b) 286 119 = some (0, 292, 1, 8) := rfl
theorem yx_287 {b : Bool} : g_mx (gX b) 287 = 5 := rfl
theorem yt_287 {b : Bool} : g_rt (gX b) 287 = 1 := rfl
theorem y_287_0 {b : Bool} : g_co (gX b) 287 0 = some (.aload_n 0) := rfl
theorem y_287_1 {b : Bool} : g_co (gX b) 287 1 = some (.getfield 60) := rfl
theorem y_287_4 {b : Bool} : g_co (gX b) 287 4 = some (.ifCond .ge 7) := rfl
theorem y_287_7 {b : Bool} : g_co (gX b) 287 7 = some (.iconst 0) := rfl
theorem y_287_8 {b : Bool} : g_co (gX b) 287 8 = some (.goto 11) := rfl
theorem y_287_11 {b : Bool} : g_co (gX b) 287 11 = some (.aload_n 0) := rfl
theorem y_287_12 {b : Bool} : g_co (gX b) 287 12 = some (.aload_n 0) := rfl
theorem y_287_13 {b : Bool} : g_co (gX b) 287 13 = some (.getfield 60) := rfl
theorem y_287_16 {b : Bool} : g_co (gX b) 287 16 = some (.invokevirtual 119) := rfl
theorem y_287_19 {b : Bool} : g_co (gX b) 287 19 = some (.istore_n 2) := rfl
theorem y_287_20 {b : Bool} : g_co (gX b) 287 20 = some (.iload_n 1) := rfl
theorem y_287_21 {b : Bool} : g_co (gX b) 287 21 = some (.ifCond .lt 8) := rfl
theorem y_287_24 {b : Bool} : g_co (gX b) 287 24 = some (.iload_n 1) := rfl
theorem y_287_25 {b : Bool} : g_co (gX b) 287 25 = some (.iload_n 2) := rfl
theorem y_287_26 {b : Bool} : g_co (gX b) 287 26 = some (.if_icmp .lt 5) := rfl
theorem y_287_29 {b : Bool} : g_co (gX b) 287 29 = some (.iconst (-1)) := rfl
theorem y_287_30 {b : Bool} : g_co (gX b) 287 30 = some (.ireturn) := rfl
theorem y_287_31 {b : Bool} : g_co (gX b) 287 31 = some (.aload_n 0) := rfl
theorem y_287_32 {b : Bool} : g_co (gX b) 287 32 = some (.getfield 60) := rfl
theorem y_287_35 {b : Bool} : g_co (gX b) 287 35 = some (.istore_n 3) := rfl
theorem y_287_36 {b : Bool} : g_co (gX b) 287 36 = some (.iload_n 2) := rfl
theorem y_287_37 {b : Bool} : g_co (gX b) 287 37 = some (.iconst 1) := rfl
theorem y_287_38 {b : Bool} : g_co (gX b) 287 38 = some (.isub) := rfl
theorem y_287_39 {b : Bool} : g_co (gX b) 287 39 = some (.istore 4) := rfl
theorem y_287_41 {b : Bool} : g_co (gX b) 287 41 = some (.iload 4) := rfl
theorem y_287_43 {b : Bool} : g_co (gX b) 287 43 = some (.iload_n 1) := rfl
theorem y_287_44 {b : Bool} : g_co (gX b) 287 44 = some (.if_icmp .le 16) := rfl
theorem y_287_47 {b : Bool} : g_co (gX b) 287 47 = some (.aload_n 0) := rfl
theorem y_287_48 {b : Bool} : g_co (gX b) 287 48 = some (.getfield 40) := rfl
theorem y_287_51 {b : Bool} : g_co (gX b) 287 51 = some (.iload_n 3) := rfl
theorem y_287_52 {b : Bool} : g_co (gX b) 287 52 = some (.iaload) := rfl
theorem y_287_53 {b : Bool} : g_co (gX b) 287 53 = some (.istore_n 3) := rfl
theorem y_287_54 {b : Bool} : g_co (gX b) 287 54 = some (.iinc 4 (-1)) := rfl
theorem y_287_57 {b : Bool} : g_co (gX b) 287 57 = some (.goto (-16)) := rfl
theorem y_287_60 {b : Bool} : g_co (gX b) 287 60 = some (.aload_n 0) := rfl
theorem y_287_61 {b : Bool} : g_co (gX b) 287 61 = some (.getfield 44) := rfl
theorem y_287_64 {b : Bool} : g_co (gX b) 287 64 = some (.iload_n 3) := rfl
theorem y_287_65 {b : Bool} : g_co (gX b) 287 65 = some (.iaload) := rfl
theorem y_287_66 {b : Bool} : g_co (gX b) 287 66 = some (.ireturn) := rfl
theorem yf_287_60 {b : Bool} : g_fl (gX b) 287 60 = some (8, 13, 0) := rfl
theorem ym_287_119 {b : Bool} : g_ml (gX b) 287 119 = some (0, 292, 1, 8) := rfl
theorem yf_287_40 {b : Bool} : g_fl (gX b) 287 40 = some (8, 7, 9) := rfl
theorem yf_287_44 {b : Bool} : g_fl (gX b) 287 44 = some (8, 8, 9) := rfl
theorem yx_288 {b : Bool} : g_mx (gX b) 288 = 5 := rfl
theorem yt_288 {b : Bool} : g_rt (gX b) 288 = 1 := rfl
theorem y_288_0 {b : Bool} : g_co (gX b) 288 0 = some (.aload_n 0) := rfl
theorem y_288_1 {b : Bool} : g_co (gX b) 288 1 = some (.getfield 78) := rfl
theorem y_288_4 {b : Bool} : g_co (gX b) 288 4 = some (.getfield 123) := rfl
theorem y_288_7 {b : Bool} : g_co (gX b) 288 7 = some (.getfield 127) := rfl
theorem y_288_10 {b : Bool} : g_co (gX b) 288 10 = some (.ifCond .ge 5) := rfl
theorem y_288_13 {b : Bool} : g_co (gX b) 288 13 = some (.iconst 0) := rfl
theorem y_288_14 {b : Bool} : g_co (gX b) 288 14 = some (.ireturn) := rfl
theorem y_288_15 {b : Bool} : g_co (gX b) 288 15 = some (.aload_n 0) := rfl
theorem y_288_16 {b : Bool} : g_co (gX b) 288 16 = some (.getfield 54) := rfl
theorem y_288_19 {b : Bool} : g_co (gX b) 288 19 = some (.iconst 0) := rfl
theorem y_288_20 {b : Bool} : g_co (gX b) 288 20 = some (.aload_n 0) := rfl
theorem y_288_21 {b : Bool} : g_co (gX b) 288 21 = some (.getfield 22) := rfl
theorem y_288_24 {b : Bool} : g_co (gX b) 288 24 = some (.getfield 108) := rfl
theorem y_288_27 {b : Bool} : g_co (gX b) 288 27 = some (.bipush 9) := rfl
theorem y_288_29 {b : Bool} : g_co (gX b) 288 29 = some (.invokestatic 132) := rfl
theorem y_288_32 {b : Bool} : g_co (gX b) 288 32 = some (.aload_n 0) := rfl
theorem y_288_33 {b : Bool} : g_co (gX b) 288 33 = some (.getfield 57) := rfl
theorem y_288_36 {b : Bool} : g_co (gX b) 288 36 = some (.iconst 0) := rfl
theorem y_288_37 {b : Bool} : g_co (gX b) 288 37 = some (.aload_n 0) := rfl
theorem y_288_38 {b : Bool} : g_co (gX b) 288 38 = some (.getfield 22) := rfl
theorem y_288_41 {b : Bool} : g_co (gX b) 288 41 = some (.getfield 108) := rfl
theorem y_288_44 {b : Bool} : g_co (gX b) 288 44 = some (.iconst (-1)) := rfl
theorem y_288_45 {b : Bool} : g_co (gX b) 288 45 = some (.invokestatic 132) := rfl
theorem y_288_48 {b : Bool} : g_co (gX b) 288 48 = some (.iconst 0) := rfl
theorem y_288_49 {b : Bool} : g_co (gX b) 288 49 = some (.istore_n 3) := rfl
theorem y_288_50 {b : Bool} : g_co (gX b) 288 50 = some (.iconst 0) := rfl
theorem y_288_51 {b : Bool} : g_co (gX b) 288 51 = some (.istore 4) := rfl
theorem y_288_53 {b : Bool} : g_co (gX b) 288 53 = some (.iload 4) := rfl
theorem y_288_55 {b : Bool} : g_co (gX b) 288 55 = some (.aload_n 0) := rfl
theorem y_288_56 {b : Bool} : g_co (gX b) 288 56 = some (.getfield 9) := rfl
theorem y_288_59 {b : Bool} : g_co (gX b) 288 59 = some (.if_icmp .ge 27) := rfl
theorem y_288_62 {b : Bool} : g_co (gX b) 288 62 = some (.iload_n 3) := rfl
theorem y_288_63 {b : Bool} : g_co (gX b) 288 63 = some (.iload_n 2) := rfl
theorem y_288_64 {b : Bool} : g_co (gX b) 288 64 = some (.if_icmp .ge 22) := rfl
theorem y_288_67 {b : Bool} : g_co (gX b) 288 67 = some (.aload_n 0) := rfl
theorem y_288_68 {b : Bool} : g_co (gX b) 288 68 = some (.iload 4) := rfl
theorem y_288_70 {b : Bool} : g_co (gX b) 288 70 = some (.iload_n 1) := rfl
theorem y_288_71 {b : Bool} : g_co (gX b) 288 71 = some (.invokevirtual 138) := rfl
theorem y_288_74 {b : Bool} : g_co (gX b) 288 74 = some (.ifCond .ne 6) := rfl
theorem y_288_77 {b : Bool} : g_co (gX b) 288 77 = some (.iinc 3 1) := rfl
theorem y_288_80 {b : Bool} : g_co (gX b) 288 80 = some (.iinc 4 1) := rfl
theorem y_288_83 {b : Bool} : g_co (gX b) 288 83 = some (.goto (-30)) := rfl
theorem y_288_86 {b : Bool} : g_co (gX b) 288 86 = some (.iload_n 3) := rfl
theorem y_288_87 {b : Bool} : g_co (gX b) 288 87 = some (.ireturn) := rfl
theorem yf_288_78 {b : Bool} : g_fl (gX b) 288 78 = some (8, 2, 9) := rfl
theorem yf_288_123 {b : Bool} : g_fl (gX b) 288 123 = some (1, 2, 2) := rfl
theorem yf_288_127 {b : Bool} : g_fl (gX b) 288 127 = some (5, 8, 0) := rfl
theorem yf_288_54 {b : Bool} : g_fl (gX b) 288 54 = some (8, 11, 9) := rfl
theorem yf_288_22 {b : Bool} : g_fl (gX b) 288 22 = some (8, 3, 9) := rfl
theorem yf_288_108 {b : Bool} : g_fl (gX b) 288 108 = some (2, 0, 0) := rfl
theorem ym_288_132 {b : Bool} : g_ml (gX b) 288 132 = some (1, 504, 4, 0) := rfl
theorem yf_288_57 {b : Bool} : g_fl (gX b) 288 57 = some (8, 12, 9) := rfl
theorem yf_288_9 {b : Bool} : g_fl (gX b) 288 9 = some (8, 0, 0) := rfl
theorem ym_288_138 {b : Bool} : g_ml (gX b) 288 138 = some (0, 296, 2, 8) := rfl
theorem yx_289 {b : Bool} : g_mx (gX b) 289 = 4 := rfl
theorem yt_289 {b : Bool} : g_rt (gX b) 289 = 2 := rfl
theorem y_289_0 {b : Bool} : g_co (gX b) 289 0 = some (.aload_n 0) := rfl
theorem y_289_1 {b : Bool} : g_co (gX b) 289 1 = some (.getfield 75) := rfl
theorem y_289_4 {b : Bool} : g_co (gX b) 289 4 = some (.ifCond .lt 12) := rfl
theorem y_289_7 {b : Bool} : g_co (gX b) 289 7 = some (.aload_n 0) := rfl
theorem y_289_8 {b : Bool} : g_co (gX b) 289 8 = some (.invokevirtual 142) := rfl
theorem y_289_11 {b : Bool} : g_co (gX b) 289 11 = some (.ifCond .eq 5) := rfl
theorem y_289_14 {b : Bool} : g_co (gX b) 289 14 = some (.iconst 0) := rfl
theorem y_289_15 {b : Bool} : g_co (gX b) 289 15 = some (.ireturn) := rfl
theorem y_289_16 {b : Bool} : g_co (gX b) 289 16 = some (.aload_n 0) := rfl
theorem y_289_17 {b : Bool} : g_co (gX b) 289 17 = some (.invokevirtual 145) := rfl
theorem y_289_20 {b : Bool} : g_co (gX b) 289 20 = some (.aload_n 0) := rfl
theorem y_289_21 {b : Bool} : g_co (gX b) 289 21 = some (.iload_n 1) := rfl
theorem y_289_22 {b : Bool} : g_co (gX b) 289 22 = some (.iload_n 2) := rfl
theorem y_289_23 {b : Bool} : g_co (gX b) 289 23 = some (.iconst 0) := rfl
theorem y_289_24 {b : Bool} : g_co (gX b) 289 24 = some (.invokevirtual 148) := rfl
theorem y_289_27 {b : Bool} : g_co (gX b) 289 27 = some (.aload_n 0) := rfl
theorem y_289_28 {b : Bool} : g_co (gX b) 289 28 = some (.getfield 60) := rfl
theorem y_289_31 {b : Bool} : g_co (gX b) 289 31 = some (.ifCond .lt 42) := rfl
theorem y_289_34 {b : Bool} : g_co (gX b) 289 34 = some (.aload_n 0) := rfl
theorem y_289_35 {b : Bool} : g_co (gX b) 289 35 = some (.aload_n 0) := rfl
theorem y_289_36 {b : Bool} : g_co (gX b) 289 36 = some (.aload_n 0) := rfl
theorem y_289_37 {b : Bool} : g_co (gX b) 289 37 = some (.getfield 60) := rfl
theorem y_289_40 {b : Bool} : g_co (gX b) 289 40 = some (.invokevirtual 119) := rfl
theorem y_289_43 {b : Bool} : g_co (gX b) 289 43 = some (.putfield 75) := rfl
theorem y_289_46 {b : Bool} : g_co (gX b) 289 46 = some (.iconst 0) := rfl
theorem y_289_47 {b : Bool} : g_co (gX b) 289 47 = some (.istore_n 3) := rfl
theorem y_289_48 {b : Bool} : g_co (gX b) 289 48 = some (.iload_n 3) := rfl
theorem y_289_49 {b : Bool} : g_co (gX b) 289 49 = some (.aload_n 0) := rfl
theorem y_289_50 {b : Bool} : g_co (gX b) 289 50 = some (.getfield 75) := rfl
theorem y_289_53 {b : Bool} : g_co (gX b) 289 53 = some (.if_icmp .ge 20) := rfl
theorem y_289_56 {b : Bool} : g_co (gX b) 289 56 = some (.aload_n 0) := rfl
theorem y_289_57 {b : Bool} : g_co (gX b) 289 57 = some (.getfield 72) := rfl
theorem y_289_60 {b : Bool} : g_co (gX b) 289 60 = some (.iload_n 3) := rfl
theorem y_289_61 {b : Bool} : g_co (gX b) 289 61 = some (.aload_n 0) := rfl
theorem y_289_62 {b : Bool} : g_co (gX b) 289 62 = some (.iload_n 3) := rfl
theorem y_289_63 {b : Bool} : g_co (gX b) 289 63 = some (.invokevirtual 152) := rfl
theorem y_289_66 {b : Bool} : g_co (gX b) 289 66 = some (.iastore) := rfl
theorem y_289_67 {b : Bool} : g_co (gX b) 289 67 = some (.iinc 3 1) := rfl
theorem y_289_70 {b : Bool} : g_co (gX b) 289 70 = some (.goto (-22)) := rfl
theorem y_289_73 {b : Bool} : g_co (gX b) 289 73 = some (.aload_n 0) := rfl
theorem y_289_74 {b : Bool} : g_co (gX b) 289 74 = some (.getfield 60) := rfl
theorem y_289_77 {b : Bool} : g_co (gX b) 289 77 = some (.ifCond .ge 14) := rfl
theorem y_289_80 {b : Bool} : g_co (gX b) 289 80 = some (.aload_n 0) := rfl
theorem y_289_81 {b : Bool} : g_co (gX b) 289 81 = some (.getfield 15) := rfl
theorem y_289_84 {b : Bool} : g_co (gX b) 289 84 = some (.ifCond .ne 7) := rfl
theorem y_289_87 {b : Bool} : g_co (gX b) 289 87 = some (.iconst 1) := rfl
theorem y_289_88 {b : Bool} : g_co (gX b) 289 88 = some (.goto 4) := rfl
theorem y_289_91 {b : Bool} : g_co (gX b) 289 91 = some (.iconst 0) := rfl
theorem y_289_92 {b : Bool} : g_co (gX b) 289 92 = some (.ireturn) := rfl
theorem yf_289_75 {b : Bool} : g_fl (gX b) 289 75 = some (8, 18, 0) := rfl
theorem ym_289_142 {b : Bool} : g_ml (gX b) 289 142 = some (0, 290, 0, 8) := rfl
theorem ym_289_145 {b : Bool} : g_ml (gX b) 289 145 = some (0, 283, 0, 8) := rfl
theorem ym_289_148 {b : Bool} : g_ml (gX b) 289 148 = some (0, 285, 3, 8) := rfl
theorem yf_289_60 {b : Bool} : g_fl (gX b) 289 60 = some (8, 13, 0) := rfl
theorem ym_289_119 {b : Bool} : g_ml (gX b) 289 119 = some (0, 292, 1, 8) := rfl
theorem yf_289_72 {b : Bool} : g_fl (gX b) 289 72 = some (8, 17, 9) := rfl
theorem ym_289_152 {b : Bool} : g_ml (gX b) 289 152 = some (0, 287, 1, 8) := rfl
theorem yf_289_15 {b : Bool} : g_fl (gX b) 289 15 = some (8, 1, 1) := rfl
theorem yx_290 {b : Bool} : g_mx (gX b) 290 = 2 := rfl
theorem yt_290 {b : Bool} : g_rt (gX b) 290 = 2 := rfl
theorem y_290_0 {b : Bool} : g_co (gX b) 290 0 = some (.aload_n 0) := rfl
theorem y_290_1 {b : Bool} : g_co (gX b) 290 1 = some (.getfield 78) := rfl
theorem y_290_4 {b : Bool} : g_co (gX b) 290 4 = some (.aload_n 0) := rfl
theorem y_290_5 {b : Bool} : g_co (gX b) 290 5 = some (.getfield 33) := rfl
theorem y_290_8 {b : Bool} : g_co (gX b) 290 8 = some (.invokevirtual 91) := rfl
theorem y_290_11 {b : Bool} : g_co (gX b) 290 11 = some (.iconst 0) := rfl
theorem y_290_12 {b : Bool} : g_co (gX b) 290 12 = some (.istore_n 1) := rfl
theorem y_290_13 {b : Bool} : g_co (gX b) 290 13 = some (.iload_n 1) := rfl
theorem y_290_14 {b : Bool} : g_co (gX b) 290 14 = some (.aload_n 0) := rfl
theorem y_290_15 {b : Bool} : g_co (gX b) 290 15 = some (.getfield 75) := rfl
theorem y_290_18 {b : Bool} : g_co (gX b) 290 18 = some (.if_icmp .ge 48) := rfl
theorem y_290_21 {b : Bool} : g_co (gX b) 290 21 = some (.aload_n 0) := rfl
theorem y_290_22 {b : Bool} : g_co (gX b) 290 22 = some (.getfield 78) := rfl
theorem y_290_25 {b : Bool} : g_co (gX b) 290 25 = some (.aload_n 0) := rfl
theorem y_290_26 {b : Bool} : g_co (gX b) 290 26 = some (.getfield 33) := rfl
theorem y_290_29 {b : Bool} : g_co (gX b) 290 29 = some (.aload_n 0) := rfl
theorem y_290_30 {b : Bool} : g_co (gX b) 290 30 = some (.getfield 72) := rfl
theorem y_290_33 {b : Bool} : g_co (gX b) 290 33 = some (.iload_n 1) := rfl
theorem y_290_34 {b : Bool} : g_co (gX b) 290 34 = some (.iaload) := rfl
theorem y_290_35 {b : Bool} : g_co (gX b) 290 35 = some (.invokevirtual 155) := rfl
theorem y_290_38 {b : Bool} : g_co (gX b) 290 38 = some (.ifCond .eq 22) := rfl
theorem y_290_41 {b : Bool} : g_co (gX b) 290 41 = some (.aload_n 0) := rfl
theorem y_290_42 {b : Bool} : g_co (gX b) 290 42 = some (.getfield 78) := rfl
theorem y_290_45 {b : Bool} : g_co (gX b) 290 45 = some (.aload_n 0) := rfl
theorem y_290_46 {b : Bool} : g_co (gX b) 290 46 = some (.getfield 33) := rfl
theorem y_290_49 {b : Bool} : g_co (gX b) 290 49 = some (.aload_n 0) := rfl
theorem y_290_50 {b : Bool} : g_co (gX b) 290 50 = some (.getfield 72) := rfl
theorem y_290_53 {b : Bool} : g_co (gX b) 290 53 = some (.iload_n 1) := rfl
theorem y_290_54 {b : Bool} : g_co (gX b) 290 54 = some (.iaload) := rfl
theorem y_290_55 {b : Bool} : g_co (gX b) 290 55 = some (.iconst (-1)) := rfl
theorem y_290_56 {b : Bool} : g_co (gX b) 290 56 = some (.invokevirtual 159) := rfl
theorem y_290_59 {b : Bool} : g_co (gX b) 290 59 = some (.pop) := rfl
theorem y_290_60 {b : Bool} : g_co (gX b) 290 60 = some (.iinc 1 1) := rfl
theorem y_290_63 {b : Bool} : g_co (gX b) 290 63 = some (.goto (-50)) := rfl
theorem y_290_66 {b : Bool} : g_co (gX b) 290 66 = some (.aload_n 0) := rfl
theorem y_290_67 {b : Bool} : g_co (gX b) 290 67 = some (.getfield 78) := rfl
theorem y_290_70 {b : Bool} : g_co (gX b) 290 70 = some (.aload_n 0) := rfl
theorem y_290_71 {b : Bool} : g_co (gX b) 290 71 = some (.getfield 33) := rfl
theorem y_290_74 {b : Bool} : g_co (gX b) 290 74 = some (.invokevirtual 104) := rfl
theorem y_290_77 {b : Bool} : g_co (gX b) 290 77 = some (.ireturn) := rfl
theorem yf_290_78 {b : Bool} : g_fl (gX b) 290 78 = some (8, 2, 9) := rfl
theorem yf_290_33 {b : Bool} : g_fl (gX b) 290 33 = some (8, 5, 9) := rfl
theorem ym_290_91 {b : Bool} : g_ml (gX b) 290 91 = some (0, 207, 1, 1) := rfl
theorem yf_290_75 {b : Bool} : g_fl (gX b) 290 75 = some (8, 18, 0) := rfl
theorem yf_290_72 {b : Bool} : g_fl (gX b) 290 72 = some (8, 17, 9) := rfl
theorem ym_290_155 {b : Bool} : g_ml (gX b) 290 155 = some (0, 206, 2, 1) := rfl
theorem ym_290_159 {b : Bool} : g_ml (gX b) 290 159 = some (0, 209, 3, 1) := rfl
theorem ym_290_104 {b : Bool} : g_ml (gX b) 290 104 = some (0, 210, 1, 1) := rfl
theorem yx_291 {b : Bool} : g_mx (gX b) 291 = 1 := rfl
theorem yt_291 {b : Bool} : g_rt (gX b) 291 = 2 := rfl
theorem y_291_0 {b : Bool} : g_co (gX b) 291 0 = some (.aload_n 0) := rfl
theorem y_291_1 {b : Bool} : g_co (gX b) 291 1 = some (.getfield 15) := rfl
theorem y_291_4 {b : Bool} : g_co (gX b) 291 4 = some (.ifCond .ne 17) := rfl
theorem y_291_7 {b : Bool} : g_co (gX b) 291 7 = some (.aload_n 0) := rfl
theorem y_291_8 {b : Bool} : g_co (gX b) 291 8 = some (.getfield 60) := rfl
theorem y_291_11 {b : Bool} : g_co (gX b) 291 11 = some (.ifCond .lt 14) := rfl
theorem y_291_14 {b : Bool} : g_co (gX b) 291 14 = some (.aload_n 0) := rfl
theorem y_291_15 {b : Bool} : g_co (gX b) 291 15 = some (.getfield 66) := rfl
theorem y_291_18 {b : Bool} : g_co (gX b) 291 18 = some (.ifCond .ne 7) := rfl
theorem y_291_21 {b : Bool} : g_co (gX b) 291 21 = some (.iconst 1) := rfl
theorem y_291_22 {b : Bool} : g_co (gX b) 291 22 = some (.goto 4) := rfl
theorem y_291_25 {b : Bool} : g_co (gX b) 291 25 = some (.iconst 0) := rfl
theorem y_291_26 {b : Bool} : g_co (gX b) 291 26 = some (.ireturn) := rfl
theorem yf_291_15 {b : Bool} : g_fl (gX b) 291 15 = some (8, 1, 1) := rfl
theorem yf_291_60 {b : Bool} : g_fl (gX b) 291 60 = some (8, 13, 0) := rfl
theorem yf_291_66 {b : Bool} : g_fl (gX b) 291 66 = some (8, 15, 1) := rfl
theorem yx_292 {b : Bool} : g_mx (gX b) 292 = 5 := rfl
theorem yt_292 {b : Bool} : g_rt (gX b) 292 = 1 := rfl
theorem y_292_0 {b : Bool} : g_co (gX b) 292 0 = some (.iconst 0) := rfl
theorem y_292_1 {b : Bool} : g_co (gX b) 292 1 = some (.istore_n 2) := rfl
theorem y_292_2 {b : Bool} : g_co (gX b) 292 2 = some (.iload_n 1) := rfl
theorem y_292_3 {b : Bool} : g_co (gX b) 292 3 = some (.istore_n 3) := rfl
theorem y_292_4 {b : Bool} : g_co (gX b) 292 4 = some (.iconst 0) := rfl
theorem y_292_5 {b : Bool} : g_co (gX b) 292 5 = some (.istore 4) := rfl
theorem y_292_7 {b : Bool} : g_co (gX b) 292 7 = some (.iload 4) := rfl
theorem y_292_9 {b : Bool} : g_co (gX b) 292 9 = some (.bipush 8) := rfl
theorem y_292_11 {b : Bool} : g_co (gX b) 292 11 = some (.if_icmp .ge 23) := rfl
theorem y_292_14 {b : Bool} : g_co (gX b) 292 14 = some (.iload_n 3) := rfl
theorem y_292_15 {b : Bool} : g_co (gX b) 292 15 = some (.ifCond .le 19) := rfl
theorem y_292_18 {b : Bool} : g_co (gX b) 292 18 = some (.aload_n 0) := rfl
theorem y_292_19 {b : Bool} : g_co (gX b) 292 19 = some (.getfield 40) := rfl
theorem y_292_22 {b : Bool} : g_co (gX b) 292 22 = some (.iload_n 3) := rfl
theorem y_292_23 {b : Bool} : g_co (gX b) 292 23 = some (.iaload) := rfl
theorem y_292_24 {b : Bool} : g_co (gX b) 292 24 = some (.istore_n 3) := rfl
theorem y_292_25 {b : Bool} : g_co (gX b) 292 25 = some (.iinc 2 1) := rfl
theorem y_292_28 {b : Bool} : g_co (gX b) 292 28 = some (.iinc 4 1) := rfl
theorem y_292_31 {b : Bool} : g_co (gX b) 292 31 = some (.goto (-24)) := rfl
theorem y_292_34 {b : Bool} : g_co (gX b) 292 34 = some (.iload_n 2) := rfl
theorem y_292_35 {b : Bool} : g_co (gX b) 292 35 = some (.ireturn) := rfl
theorem yf_292_40 {b : Bool} : g_fl (gX b) 292 40 = some (8, 7, 9) := rfl
theorem yx_293 {b : Bool} : g_mx (gX b) 293 = 7 := rfl
theorem yt_293 {b : Bool} : g_rt (gX b) 293 = 0 := rfl
theorem y_293_0 {b : Bool} : g_co (gX b) 293 0 = some (.aload_n 0) := rfl
theorem y_293_1 {b : Bool} : g_co (gX b) 293 1 = some (.getfield 22) := rfl
theorem y_293_4 {b : Bool} : g_co (gX b) 293 4 = some (.iload_n 1) := rfl
theorem y_293_5 {b : Bool} : g_co (gX b) 293 5 = some (.aload_n 0) := rfl
theorem y_293_6 {b : Bool} : g_co (gX b) 293 6 = some (.getfield 29) := rfl
theorem y_293_9 {b : Bool} : g_co (gX b) 293 9 = some (.invokevirtual 163) := rfl
theorem y_293_12 {b : Bool} : g_co (gX b) 293 12 = some (.aload_n 0) := rfl
theorem y_293_13 {b : Bool} : g_co (gX b) 293 13 = some (.getfield 29) := rfl
theorem y_293_16 {b : Bool} : g_co (gX b) 293 16 = some (.invokevirtual 167) := rfl
theorem y_293_19 {b : Bool} : g_co (gX b) 293 19 = some (.ifCond .ne 7) := rfl
theorem y_293_22 {b : Bool} : g_co (gX b) 293 22 = some (.iload_n 1) := rfl
theorem y_293_23 {b : Bool} : g_co (gX b) 293 23 = some (.goto 4) := rfl
theorem y_293_26 {b : Bool} : g_co (gX b) 293 26 = some (.iconst (-1)) := rfl
theorem y_293_27 {b : Bool} : g_co (gX b) 293 27 = some (.istore_n 3) := rfl
theorem y_293_28 {b : Bool} : g_co (gX b) 293 28 = some (.iconst 0) := rfl
theorem y_293_29 {b : Bool} : g_co (gX b) 293 29 = some (.istore 4) := rfl
theorem y_293_31 {b : Bool} : g_co (gX b) 293 31 = some (.iload 4) := rfl
theorem y_293_33 {b : Bool} : g_co (gX b) 293 33 = some (.bipush 13) := rfl
theorem y_293_35 {b : Bool} : g_co (gX b) 293 35 = some (.if_icmp .ge 204) := rfl
theorem y_293_38 {b : Bool} : g_co (gX b) 293 38 = some (.aload_n 0) := rfl
theorem y_293_39 {b : Bool} : g_co (gX b) 293 39 = some (.getfield 78) := rfl
theorem y_293_42 {b : Bool} : g_co (gX b) 293 42 = some (.getfield 123) := rfl
theorem y_293_45 {b : Bool} : g_co (gX b) 293 45 = some (.iload 4) := rfl
theorem y_293_47 {b : Bool} : g_co (gX b) 293 47 = some (.invokevirtual 171) := rfl
theorem y_293_50 {b : Bool} : g_co (gX b) 293 50 = some (.istore 5) := rfl
theorem y_293_52 {b : Bool} : g_co (gX b) 293 52 = some (.iconst (-1)) := rfl
theorem y_293_53 {b : Bool} : g_co (gX b) 293 53 = some (.istore 6) := rfl
theorem y_293_55 {b : Bool} : g_co (gX b) 293 55 = some (.aload_n 0) := rfl
theorem y_293_56 {b : Bool} : g_co (gX b) 293 56 = some (.getfield 78) := rfl
theorem y_293_59 {b : Bool} : g_co (gX b) 293 59 = some (.aload_n 0) := rfl
theorem y_293_60 {b : Bool} : g_co (gX b) 293 60 = some (.getfield 29) := rfl
theorem y_293_63 {b : Bool} : g_co (gX b) 293 63 = some (.iload 4) := rfl
theorem y_293_65 {b : Bool} : g_co (gX b) 293 65 = some (.invokevirtual 155) := rfl
theorem y_293_68 {b : Bool} : g_co (gX b) 293 68 = some (.ifCond .eq 139) := rfl
theorem y_293_71 {b : Bool} : g_co (gX b) 293 71 = some (.iload_n 3) := rfl
theorem y_293_72 {b : Bool} : g_co (gX b) 293 72 = some (.istore 6) := rfl
theorem y_293_74 {b : Bool} : g_co (gX b) 293 74 = some (.iload 5) := rfl
theorem y_293_76 {b : Bool} : g_co (gX b) 293 76 = some (.ifCond .eq 7) := rfl
theorem y_293_79 {b : Bool} : g_co (gX b) 293 79 = some (.iload_n 3) := rfl
theorem y_293_80 {b : Bool} : g_co (gX b) 293 80 = some (.ifCond .ge 110) := rfl
theorem y_293_83 {b : Bool} : g_co (gX b) 293 83 = some (.aload_n 0) := rfl
theorem y_293_84 {b : Bool} : g_co (gX b) 293 84 = some (.getfield 33) := rfl
theorem y_293_87 {b : Bool} : g_co (gX b) 293 87 = some (.aload_n 0) := rfl
theorem y_293_88 {b : Bool} : g_co (gX b) 293 88 = some (.getfield 29) := rfl
theorem y_293_91 {b : Bool} : g_co (gX b) 293 91 = some (.invokevirtual 175) := rfl
theorem y_293_94 {b : Bool} : g_co (gX b) 293 94 = some (.aload_n 0) := rfl
theorem y_293_95 {b : Bool} : g_co (gX b) 293 95 = some (.getfield 78) := rfl
theorem y_293_98 {b : Bool} : g_co (gX b) 293 98 = some (.aload_n 0) := rfl
theorem y_293_99 {b : Bool} : g_co (gX b) 293 99 = some (.getfield 33) := rfl
theorem y_293_102 {b : Bool} : g_co (gX b) 293 102 = some (.iload 4) := rfl
theorem y_293_104 {b : Bool} : g_co (gX b) 293 104 = some (.iconst (-1)) := rfl
theorem y_293_105 {b : Bool} : g_co (gX b) 293 105 = some (.invokevirtual 159) := rfl
theorem y_293_108 {b : Bool} : g_co (gX b) 293 108 = some (.pop) := rfl
theorem y_293_109 {b : Bool} : g_co (gX b) 293 109 = some (.aload_n 0) := rfl
theorem y_293_110 {b : Bool} : g_co (gX b) 293 110 = some (.getfield 22) := rfl
theorem y_293_113 {b : Bool} : g_co (gX b) 293 113 = some (.aload_n 0) := rfl
theorem y_293_114 {b : Bool} : g_co (gX b) 293 114 = some (.getfield 33) := rfl
theorem y_293_117 {b : Bool} : g_co (gX b) 293 117 = some (.invokevirtual 97) := rfl
theorem y_293_120 {b : Bool} : g_co (gX b) 293 120 = some (.istore 6) := rfl
theorem y_293_122 {b : Bool} : g_co (gX b) 293 122 = some (.iload 6) := rfl
theorem y_293_124 {b : Bool} : g_co (gX b) 293 124 = some (.ifCond .ge 66) := rfl
theorem y_293_127 {b : Bool} : g_co (gX b) 293 127 = some (.iload_n 2) := rfl
theorem y_293_128 {b : Bool} : g_co (gX b) 293 128 = some (.ifCond .eq 10) := rfl
theorem y_293_131 {b : Bool} : g_co (gX b) 293 131 = some (.aload_n 0) := rfl
theorem y_293_132 {b : Bool} : g_co (gX b) 293 132 = some (.invokevirtual 177) := rfl
theorem y_293_135 {b : Bool} : g_co (gX b) 293 135 = some (.goto 10) := rfl
theorem y_293_138 {b : Bool} : g_co (gX b) 293 138 = some (.aload_n 0) := rfl
theorem y_293_139 {b : Bool} : g_co (gX b) 293 139 = some (.iload_n 1) := rfl
theorem y_293_140 {b : Bool} : g_co (gX b) 293 140 = some (.iload 4) := rfl
theorem y_293_142 {b : Bool} : g_co (gX b) 293 142 = some (.invokevirtual 101) := rfl
theorem y_293_145 {b : Bool} : g_co (gX b) 293 145 = some (.istore 6) := rfl
theorem y_293_147 {b : Bool} : g_co (gX b) 293 147 = some (.aload_n 0) := rfl
theorem y_293_148 {b : Bool} : g_co (gX b) 293 148 = some (.aload_n 0) := rfl
theorem y_293_149 {b : Bool} : g_co (gX b) 293 149 = some (.getfield 60) := rfl
theorem y_293_152 {b : Bool} : g_co (gX b) 293 152 = some (.ifCond .ge 31) := rfl
theorem y_293_155 {b : Bool} : g_co (gX b) 293 155 = some (.iload 6) := rfl
theorem y_293_157 {b : Bool} : g_co (gX b) 293 157 = some (.ifCond .lt 26) := rfl
theorem y_293_160 {b : Bool} : g_co (gX b) 293 160 = some (.iload_n 2) := rfl
theorem y_293_161 {b : Bool} : g_co (gX b) 293 161 = some (.ifCond .ne 22) := rfl
theorem y_293_164 {b : Bool} : g_co (gX b) 293 164 = some (.aload_n 0) := rfl
theorem y_293_165 {b : Bool} : g_co (gX b) 293 165 = some (.getfield 78) := rfl
theorem y_293_168 {b : Bool} : g_co (gX b) 293 168 = some (.aload_n 0) := rfl
theorem y_293_169 {b : Bool} : g_co (gX b) 293 169 = some (.getfield 33) := rfl
theorem y_293_172 {b : Bool} : g_co (gX b) 293 172 = some (.invokevirtual 104) := rfl
theorem y_293_175 {b : Bool} : g_co (gX b) 293 175 = some (.ifCond .eq 8) := rfl
theorem y_293_178 {b : Bool} : g_co (gX b) 293 178 = some (.iload 6) := rfl
theorem y_293_180 {b : Bool} : g_co (gX b) 293 180 = some (.goto 7) := rfl
theorem y_293_183 {b : Bool} : g_co (gX b) 293 183 = some (.aload_n 0) := rfl
theorem y_293_184 {b : Bool} : g_co (gX b) 293 184 = some (.getfield 60) := rfl
theorem y_293_187 {b : Bool} : g_co (gX b) 293 187 = some (.putfield 60) := rfl
theorem y_293_190 {b : Bool} : g_co (gX b) 293 190 = some (.iload 5) := rfl
theorem y_293_192 {b : Bool} : g_co (gX b) 293 192 = some (.ifCond .eq 13) := rfl
theorem y_293_195 {b : Bool} : g_co (gX b) 293 195 = some (.iload 6) := rfl
theorem y_293_197 {b : Bool} : g_co (gX b) 293 197 = some (.ifCond .lt 8) := rfl
theorem y_293_200 {b : Bool} : g_co (gX b) 293 200 = some (.iload 6) := rfl
theorem y_293_202 {b : Bool} : g_co (gX b) 293 202 = some (.goto 4) := rfl
theorem y_293_205 {b : Bool} : g_co (gX b) 293 205 = some (.iload_n 3) := rfl
theorem y_293_206 {b : Bool} : g_co (gX b) 293 206 = some (.istore_n 3) := rfl
theorem y_293_207 {b : Bool} : g_co (gX b) 293 207 = some (.aload_n 0) := rfl
theorem y_293_208 {b : Bool} : g_co (gX b) 293 208 = some (.getfield 47) := rfl
theorem y_293_211 {b : Bool} : g_co (gX b) 293 211 = some (.iload_n 1) := rfl
theorem y_293_212 {b : Bool} : g_co (gX b) 293 212 = some (.bipush 13) := rfl
theorem y_293_214 {b : Bool} : g_co (gX b) 293 214 = some (.imul) := rfl
theorem y_293_215 {b : Bool} : g_co (gX b) 293 215 = some (.iload 4) := rfl
theorem y_293_217 {b : Bool} : g_co (gX b) 293 217 = some (.iadd) := rfl
theorem y_293_218 {b : Bool} : g_co (gX b) 293 218 = some (.iload 6) := rfl
theorem y_293_220 {b : Bool} : g_co (gX b) 293 220 = some (.iastore) := rfl
theorem y_293_221 {b : Bool} : g_co (gX b) 293 221 = some (.iload_n 2) := rfl
theorem y_293_222 {b : Bool} : g_co (gX b) 293 222 = some (.ifCond .ne 11) := rfl
theorem y_293_225 {b : Bool} : g_co (gX b) 293 225 = some (.aload_n 0) := rfl
theorem y_293_226 {b : Bool} : g_co (gX b) 293 226 = some (.invokevirtual 111) := rfl
theorem y_293_229 {b : Bool} : g_co (gX b) 293 229 = some (.ifCond .eq 4) := rfl
theorem y_293_232 {b : Bool} : g_co (gX b) 293 232 = some (.return_) := rfl
theorem y_293_233 {b : Bool} : g_co (gX b) 293 233 = some (.iinc 4 1) := rfl
theorem y_293_236 {b : Bool} : g_co (gX b) 293 236 = some (.goto (-205)) := rfl
theorem y_293_239 {b : Bool} : g_co (gX b) 293 239 = some (.aload_n 0) := rfl
theorem y_293_240 {b : Bool} : g_co (gX b) 293 240 = some (.getfield 50) := rfl
theorem y_293_243 {b : Bool} : g_co (gX b) 293 243 = some (.iload_n 1) := rfl
theorem y_293_244 {b : Bool} : g_co (gX b) 293 244 = some (.iconst 1) := rfl
theorem y_293_245 {b : Bool} : g_co (gX b) 293 245 = some (.bastore) := rfl
theorem y_293_246 {b : Bool} : g_co (gX b) 293 246 = some (.return_) := rfl
theorem yf_293_22 {b : Bool} : g_fl (gX b) 293 22 = some (8, 3, 9) := rfl
theorem yf_293_29 {b : Bool} : g_fl (gX b) 293 29 = some (8, 4, 9) := rfl
theorem ym_293_163 {b : Bool} : g_ml (gX b) 293 163 = some (0, 222, 2, 2) := rfl
theorem ym_293_167 {b : Bool} : g_ml (gX b) 293 167 = some (0, 233, 0, 3) := rfl
theorem yf_293_78 {b : Bool} : g_fl (gX b) 293 78 = some (8, 2, 9) := rfl
theorem yf_293_123 {b : Bool} : g_fl (gX b) 293 123 = some (1, 2, 2) := rfl
theorem ym_293_171 {b : Bool} : g_ml (gX b) 293 171 = some (0, 254, 1, 5) := rfl
theorem ym_293_155 {b : Bool} : g_ml (gX b) 293 155 = some (0, 206, 2, 1) := rfl
theorem yf_293_33 {b : Bool} : g_fl (gX b) 293 33 = some (8, 5, 9) := rfl
theorem ym_293_175 {b : Bool} : g_ml (gX b) 293 175 = some (0, 226, 1, 3) := rfl
theorem ym_293_159 {b : Bool} : g_ml (gX b) 293 159 = some (0, 209, 3, 1) := rfl
theorem ym_293_97 {b : Bool} : g_ml (gX b) 293 97 = some (0, 220, 1, 2) := rfl
theorem ym_293_177 {b : Bool} : g_ml (gX b) 293 177 = some (0, 295, 0, 8) := rfl
theorem ym_293_101 {b : Bool} : g_ml (gX b) 293 101 = some (0, 294, 2, 8) := rfl
theorem yf_293_60 {b : Bool} : g_fl (gX b) 293 60 = some (8, 13, 0) := rfl
theorem ym_293_104 {b : Bool} : g_ml (gX b) 293 104 = some (0, 210, 1, 1) := rfl
theorem yf_293_47 {b : Bool} : g_fl (gX b) 293 47 = some (8, 9, 9) := rfl
theorem ym_293_111 {b : Bool} : g_ml (gX b) 293 111 = some (0, 291, 0, 8) := rfl
theorem yf_293_50 {b : Bool} : g_fl (gX b) 293 50 = some (8, 10, 9) := rfl
theorem yx_294 {b : Bool} : g_mx (gX b) 294 = 4 := rfl
theorem yt_294 {b : Bool} : g_rt (gX b) 294 = 1 := rfl
theorem y_294_0 {b : Bool} : g_co (gX b) 294 0 = some (.aload_n 0) := rfl
theorem y_294_1 {b : Bool} : g_co (gX b) 294 1 = some (.getfield 22) := rfl
theorem y_294_4 {b : Bool} : g_co (gX b) 294 4 = some (.getfield 108) := rfl
theorem y_294_7 {b : Bool} : g_co (gX b) 294 7 = some (.aload_n 0) := rfl
theorem y_294_8 {b : Bool} : g_co (gX b) 294 8 = some (.getfield 63) := rfl
theorem y_294_11 {b : Bool} : g_co (gX b) 294 11 = some (.if_icmp .lt 10) := rfl
theorem y_294_14 {b : Bool} : g_co (gX b) 294 14 = some (.aload_n 0) := rfl
theorem y_294_15 {b : Bool} : g_co (gX b) 294 15 = some (.iconst 1) := rfl
theorem y_294_16 {b : Bool} : g_co (gX b) 294 16 = some (.putfield 15) := rfl
theorem y_294_19 {b : Bool} : g_co (gX b) 294 19 = some (.iconst (-1)) := rfl
theorem y_294_20 {b : Bool} : g_co (gX b) 294 20 = some (.ireturn) := rfl
theorem y_294_21 {b : Bool} : g_co (gX b) 294 21 = some (.aload_n 0) := rfl
theorem y_294_22 {b : Bool} : g_co (gX b) 294 22 = some (.getfield 22) := rfl
theorem y_294_25 {b : Bool} : g_co (gX b) 294 25 = some (.aload_n 0) := rfl
theorem y_294_26 {b : Bool} : g_co (gX b) 294 26 = some (.getfield 33) := rfl
theorem y_294_29 {b : Bool} : g_co (gX b) 294 29 = some (.invokevirtual 180) := rfl
theorem y_294_32 {b : Bool} : g_co (gX b) 294 32 = some (.istore_n 3) := rfl
theorem y_294_33 {b : Bool} : g_co (gX b) 294 33 = some (.iload_n 3) := rfl
theorem y_294_34 {b : Bool} : g_co (gX b) 294 34 = some (.ifCond .lt 24) := rfl
theorem y_294_37 {b : Bool} : g_co (gX b) 294 37 = some (.aload_n 0) := rfl
theorem y_294_38 {b : Bool} : g_co (gX b) 294 38 = some (.getfield 40) := rfl
theorem y_294_41 {b : Bool} : g_co (gX b) 294 41 = some (.iload_n 3) := rfl
theorem y_294_42 {b : Bool} : g_co (gX b) 294 42 = some (.iload_n 1) := rfl
theorem y_294_43 {b : Bool} : g_co (gX b) 294 43 = some (.iastore) := rfl
theorem y_294_44 {b : Bool} : g_co (gX b) 294 44 = some (.aload_n 0) := rfl
theorem y_294_45 {b : Bool} : g_co (gX b) 294 45 = some (.getfield 44) := rfl
theorem y_294_48 {b : Bool} : g_co (gX b) 294 48 = some (.iload_n 3) := rfl
theorem y_294_49 {b : Bool} : g_co (gX b) 294 49 = some (.iload_n 2) := rfl
theorem y_294_50 {b : Bool} : g_co (gX b) 294 50 = some (.iastore) := rfl
theorem y_294_51 {b : Bool} : g_co (gX b) 294 51 = some (.aload_n 0) := rfl
theorem y_294_52 {b : Bool} : g_co (gX b) 294 52 = some (.getfield 50) := rfl
theorem y_294_55 {b : Bool} : g_co (gX b) 294 55 = some (.iload_n 3) := rfl
theorem y_294_56 {b : Bool} : g_co (gX b) 294 56 = some (.iconst 0) := rfl
theorem y_294_57 {b : Bool} : g_co (gX b) 294 57 = some (.bastore) := rfl
theorem y_294_58 {b : Bool} : g_co (gX b) 294 58 = some (.iload_n 3) := rfl
theorem y_294_59 {b : Bool} : g_co (gX b) 294 59 = some (.ireturn) := rfl
theorem yf_294_22 {b : Bool} : g_fl (gX b) 294 22 = some (8, 3, 9) := rfl
theorem yf_294_108 {b : Bool} : g_fl (gX b) 294 108 = some (2, 0, 0) := rfl
theorem yf_294_63 {b : Bool} : g_fl (gX b) 294 63 = some (8, 14, 0) := rfl
theorem yf_294_15 {b : Bool} : g_fl (gX b) 294 15 = some (8, 1, 1) := rfl
theorem yf_294_33 {b : Bool} : g_fl (gX b) 294 33 = some (8, 5, 9) := rfl
theorem ym_294_180 {b : Bool} : g_ml (gX b) 294 180 = some (0, 221, 1, 2) := rfl
theorem yf_294_40 {b : Bool} : g_fl (gX b) 294 40 = some (8, 7, 9) := rfl
theorem yf_294_44 {b : Bool} : g_fl (gX b) 294 44 = some (8, 8, 9) := rfl
theorem yf_294_50 {b : Bool} : g_fl (gX b) 294 50 = some (8, 10, 9) := rfl
theorem yx_295 {b : Bool} : g_mx (gX b) 295 = 2 := rfl
theorem yt_295 {b : Bool} : g_rt (gX b) 295 = 1 := rfl
theorem y_295_0 {b : Bool} : g_co (gX b) 295 0 = some (.aload_n 0) := rfl
theorem y_295_1 {b : Bool} : g_co (gX b) 295 1 = some (.getfield 22) := rfl
theorem y_295_4 {b : Bool} : g_co (gX b) 295 4 = some (.aload_n 0) := rfl
theorem y_295_5 {b : Bool} : g_co (gX b) 295 5 = some (.getfield 33) := rfl
theorem y_295_8 {b : Bool} : g_co (gX b) 295 8 = some (.invokevirtual 180) := rfl
theorem y_295_11 {b : Bool} : g_co (gX b) 295 11 = some (.istore_n 1) := rfl
theorem y_295_12 {b : Bool} : g_co (gX b) 295 12 = some (.iload_n 1) := rfl
theorem y_295_13 {b : Bool} : g_co (gX b) 295 13 = some (.ifCond .ge 6) := rfl
theorem y_295_16 {b : Bool} : g_co (gX b) 295 16 = some (.bipush (-2)) := rfl
theorem y_295_18 {b : Bool} : g_co (gX b) 295 18 = some (.ireturn) := rfl
theorem y_295_19 {b : Bool} : g_co (gX b) 295 19 = some (.aload_n 0) := rfl
theorem y_295_20 {b : Bool} : g_co (gX b) 295 20 = some (.getfield 50) := rfl
theorem y_295_23 {b : Bool} : g_co (gX b) 295 23 = some (.iload_n 1) := rfl
theorem y_295_24 {b : Bool} : g_co (gX b) 295 24 = some (.iconst 0) := rfl
theorem y_295_25 {b : Bool} : g_co (gX b) 295 25 = some (.bastore) := rfl
theorem y_295_26 {b : Bool} : g_co (gX b) 295 26 = some (.aload_n 0) := rfl
theorem y_295_27 {b : Bool} : g_co (gX b) 295 27 = some (.getfield 54) := rfl
theorem y_295_30 {b : Bool} : g_co (gX b) 295 30 = some (.iload_n 1) := rfl
theorem y_295_31 {b : Bool} : g_co (gX b) 295 31 = some (.bipush 9) := rfl
theorem y_295_33 {b : Bool} : g_co (gX b) 295 33 = some (.iastore) := rfl
theorem y_295_34 {b : Bool} : g_co (gX b) 295 34 = some (.aload_n 0) := rfl
theorem y_295_35 {b : Bool} : g_co (gX b) 295 35 = some (.getfield 57) := rfl
theorem y_295_38 {b : Bool} : g_co (gX b) 295 38 = some (.iload_n 1) := rfl
theorem y_295_39 {b : Bool} : g_co (gX b) 295 39 = some (.iconst (-1)) := rfl
theorem y_295_40 {b : Bool} : g_co (gX b) 295 40 = some (.iastore) := rfl
theorem y_295_41 {b : Bool} : g_co (gX b) 295 41 = some (.iload_n 1) := rfl
theorem y_295_42 {b : Bool} : g_co (gX b) 295 42 = some (.ireturn) := rfl
theorem yf_295_22 {b : Bool} : g_fl (gX b) 295 22 = some (8, 3, 9) := rfl
theorem yf_295_33 {b : Bool} : g_fl (gX b) 295 33 = some (8, 5, 9) := rfl
theorem ym_295_180 {b : Bool} : g_ml (gX b) 295 180 = some (0, 221, 1, 2) := rfl
theorem yf_295_50 {b : Bool} : g_fl (gX b) 295 50 = some (8, 10, 9) := rfl
theorem yf_295_54 {b : Bool} : g_fl (gX b) 295 54 = some (8, 11, 9) := rfl
theorem yf_295_57 {b : Bool} : g_fl (gX b) 295 57 = some (8, 12, 9) := rfl
theorem yx_296 {b : Bool} : g_mx (gX b) 296 = 7 := rfl
theorem yt_296 {b : Bool} : g_rt (gX b) 296 = 2 := rfl
theorem y_296_0 {b : Bool} : g_co (gX b) 296 0 = some (.aload_n 0) := rfl
theorem y_296_1 {b : Bool} : g_co (gX b) 296 1 = some (.getfield 54) := rfl
theorem y_296_4 {b : Bool} : g_co (gX b) 296 4 = some (.iload_n 1) := rfl
theorem y_296_5 {b : Bool} : g_co (gX b) 296 5 = some (.iaload) := rfl
theorem y_296_6 {b : Bool} : g_co (gX b) 296 6 = some (.iload_n 2) := rfl
theorem y_296_7 {b : Bool} : g_co (gX b) 296 7 = some (.if_icmp .le 13) := rfl
theorem y_296_10 {b : Bool} : g_co (gX b) 296 10 = some (.aload_n 0) := rfl
theorem y_296_11 {b : Bool} : g_co (gX b) 296 11 = some (.getfield 57) := rfl
theorem y_296_14 {b : Bool} : g_co (gX b) 296 14 = some (.iload_n 1) := rfl
theorem y_296_15 {b : Bool} : g_co (gX b) 296 15 = some (.iaload) := rfl
theorem y_296_16 {b : Bool} : g_co (gX b) 296 16 = some (.iload_n 2) := rfl
theorem y_296_17 {b : Bool} : g_co (gX b) 296 17 = some (.if_icmp .lt 19) := rfl
theorem y_296_20 {b : Bool} : g_co (gX b) 296 20 = some (.aload_n 0) := rfl
theorem y_296_21 {b : Bool} : g_co (gX b) 296 21 = some (.getfield 54) := rfl
theorem y_296_24 {b : Bool} : g_co (gX b) 296 24 = some (.iload_n 1) := rfl
theorem y_296_25 {b : Bool} : g_co (gX b) 296 25 = some (.iaload) := rfl
theorem y_296_26 {b : Bool} : g_co (gX b) 296 26 = some (.iload_n 2) := rfl
theorem y_296_27 {b : Bool} : g_co (gX b) 296 27 = some (.if_icmp .gt 7) := rfl
theorem y_296_30 {b : Bool} : g_co (gX b) 296 30 = some (.iconst 1) := rfl
theorem y_296_31 {b : Bool} : g_co (gX b) 296 31 = some (.goto 4) := rfl
theorem y_296_34 {b : Bool} : g_co (gX b) 296 34 = some (.iconst 0) := rfl
theorem y_296_35 {b : Bool} : g_co (gX b) 296 35 = some (.ireturn) := rfl
theorem y_296_36 {b : Bool} : g_co (gX b) 296 36 = some (.aload_n 0) := rfl
theorem y_296_37 {b : Bool} : g_co (gX b) 296 37 = some (.getfield 57) := rfl
theorem y_296_40 {b : Bool} : g_co (gX b) 296 40 = some (.iload_n 1) := rfl
theorem y_296_41 {b : Bool} : g_co (gX b) 296 41 = some (.iaload) := rfl
theorem y_296_42 {b : Bool} : g_co (gX b) 296 42 = some (.ifCond .ge 45) := rfl
theorem y_296_45 {b : Bool} : g_co (gX b) 296 45 = some (.aload_n 0) := rfl
theorem y_296_46 {b : Bool} : g_co (gX b) 296 46 = some (.getfield 22) := rfl
theorem y_296_49 {b : Bool} : g_co (gX b) 296 49 = some (.iload_n 1) := rfl
theorem y_296_50 {b : Bool} : g_co (gX b) 296 50 = some (.aload_n 0) := rfl
theorem y_296_51 {b : Bool} : g_co (gX b) 296 51 = some (.getfield 33) := rfl
theorem y_296_54 {b : Bool} : g_co (gX b) 296 54 = some (.invokevirtual 163) := rfl
theorem y_296_57 {b : Bool} : g_co (gX b) 296 57 = some (.aload_n 0) := rfl
theorem y_296_58 {b : Bool} : g_co (gX b) 296 58 = some (.getfield 78) := rfl
theorem y_296_61 {b : Bool} : g_co (gX b) 296 61 = some (.aload_n 0) := rfl
theorem y_296_62 {b : Bool} : g_co (gX b) 296 62 = some (.getfield 33) := rfl
theorem y_296_65 {b : Bool} : g_co (gX b) 296 65 = some (.invokevirtual 183) := rfl
theorem y_296_68 {b : Bool} : g_co (gX b) 296 68 = some (.ifCond .eq 12) := rfl
theorem y_296_71 {b : Bool} : g_co (gX b) 296 71 = some (.aload_n 0) := rfl
theorem y_296_72 {b : Bool} : g_co (gX b) 296 72 = some (.getfield 54) := rfl
theorem y_296_75 {b : Bool} : g_co (gX b) 296 75 = some (.iload_n 1) := rfl
theorem y_296_76 {b : Bool} : g_co (gX b) 296 76 = some (.iconst 0) := rfl
theorem y_296_77 {b : Bool} : g_co (gX b) 296 77 = some (.iastore) := rfl
theorem y_296_78 {b : Bool} : g_co (gX b) 296 78 = some (.iconst 1) := rfl
theorem y_296_79 {b : Bool} : g_co (gX b) 296 79 = some (.ireturn) := rfl
theorem y_296_80 {b : Bool} : g_co (gX b) 296 80 = some (.aload_n 0) := rfl
theorem y_296_81 {b : Bool} : g_co (gX b) 296 81 = some (.getfield 57) := rfl
theorem y_296_84 {b : Bool} : g_co (gX b) 296 84 = some (.iload_n 1) := rfl
theorem y_296_85 {b : Bool} : g_co (gX b) 296 85 = some (.iconst 0) := rfl
theorem y_296_86 {b : Bool} : g_co (gX b) 296 86 = some (.iastore) := rfl
theorem y_296_87 {b : Bool} : g_co (gX b) 296 87 = some (.aload_n 0) := rfl
theorem y_296_88 {b : Bool} : g_co (gX b) 296 88 = some (.getfield 36) := rfl
theorem y_296_91 {b : Bool} : g_co (gX b) 296 91 = some (.iconst 2) := rfl
theorem y_296_92 {b : Bool} : g_co (gX b) 296 92 = some (.aaload) := rfl
theorem y_296_93 {b : Bool} : g_co (gX b) 296 93 = some (.astore_n 3) := rfl
theorem y_296_94 {b : Bool} : g_co (gX b) 296 94 = some (.iconst 0) := rfl
theorem y_296_95 {b : Bool} : g_co (gX b) 296 95 = some (.istore 4) := rfl
theorem y_296_97 {b : Bool} : g_co (gX b) 296 97 = some (.iload_n 2) := rfl
theorem y_296_98 {b : Bool} : g_co (gX b) 296 98 = some (.iconst 1) := rfl
theorem y_296_99 {b : Bool} : g_co (gX b) 296 99 = some (.if_icmp .ne 32) := rfl
theorem y_296_102 {b : Bool} : g_co (gX b) 296 102 = some (.aload_n 0) := rfl
theorem y_296_103 {b : Bool} : g_co (gX b) 296 103 = some (.getfield 50) := rfl
theorem y_296_106 {b : Bool} : g_co (gX b) 296 106 = some (.iload_n 1) := rfl
theorem y_296_107 {b : Bool} : g_co (gX b) 296 107 = some (.baload) := rfl
theorem y_296_108 {b : Bool} : g_co (gX b) 296 108 = some (.ifCond .ne 23) := rfl
theorem y_296_111 {b : Bool} : g_co (gX b) 296 111 = some (.aload_n 0) := rfl
theorem y_296_112 {b : Bool} : g_co (gX b) 296 112 = some (.getfield 22) := rfl
theorem y_296_115 {b : Bool} : g_co (gX b) 296 115 = some (.iload_n 1) := rfl
theorem y_296_116 {b : Bool} : g_co (gX b) 296 116 = some (.aload_n 3) := rfl
theorem y_296_117 {b : Bool} : g_co (gX b) 296 117 = some (.invokevirtual 163) := rfl
theorem y_296_120 {b : Bool} : g_co (gX b) 296 120 = some (.aload_n 0) := rfl
theorem y_296_121 {b : Bool} : g_co (gX b) 296 121 = some (.aload_n 3) := rfl
theorem y_296_122 {b : Bool} : g_co (gX b) 296 122 = some (.iconst 1) := rfl
theorem y_296_123 {b : Bool} : g_co (gX b) 296 123 = some (.invokevirtual 186) := rfl
theorem y_296_126 {b : Bool} : g_co (gX b) 296 126 = some (.istore 4) := rfl
theorem y_296_128 {b : Bool} : g_co (gX b) 296 128 = some (.goto 128) := rfl
theorem y_296_131 {b : Bool} : g_co (gX b) 296 131 = some (.iload_n 2) := rfl
theorem y_296_132 {b : Bool} : g_co (gX b) 296 132 = some (.ifCond .le 124) := rfl
theorem y_296_135 {b : Bool} : g_co (gX b) 296 135 = some (.aload_n 0) := rfl
theorem y_296_136 {b : Bool} : g_co (gX b) 296 136 = some (.getfield 50) := rfl
theorem y_296_139 {b : Bool} : g_co (gX b) 296 139 = some (.iload_n 1) := rfl
theorem y_296_140 {b : Bool} : g_co (gX b) 296 140 = some (.baload) := rfl
theorem y_296_141 {b : Bool} : g_co (gX b) 296 141 = some (.ifCond .ne 9) := rfl
theorem y_296_144 {b : Bool} : g_co (gX b) 296 144 = some (.aload_n 0) := rfl
theorem y_296_145 {b : Bool} : g_co (gX b) 296 145 = some (.iload_n 1) := rfl
theorem y_296_146 {b : Bool} : g_co (gX b) 296 146 = some (.iconst 1) := rfl
theorem y_296_147 {b : Bool} : g_co (gX b) 296 147 = some (.invokevirtual 115) := rfl
theorem y_296_150 {b : Bool} : g_co (gX b) 296 150 = some (.iconst 0) := rfl
theorem y_296_151 {b : Bool} : g_co (gX b) 296 151 = some (.istore 5) := rfl
theorem y_296_153 {b : Bool} : g_co (gX b) 296 153 = some (.iload 5) := rfl
theorem y_296_155 {b : Bool} : g_co (gX b) 296 155 = some (.bipush 13) := rfl
theorem y_296_157 {b : Bool} : g_co (gX b) 296 157 = some (.if_icmp .ge 99) := rfl
theorem y_296_160 {b : Bool} : g_co (gX b) 296 160 = some (.iload 4) := rfl
theorem y_296_162 {b : Bool} : g_co (gX b) 296 162 = some (.ifCond .ne 94) := rfl
theorem y_296_165 {b : Bool} : g_co (gX b) 296 165 = some (.aload_n 0) := rfl
theorem y_296_166 {b : Bool} : g_co (gX b) 296 166 = some (.getfield 47) := rfl
theorem y_296_169 {b : Bool} : g_co (gX b) 296 169 = some (.iload_n 1) := rfl
theorem y_296_170 {b : Bool} : g_co (gX b) 296 170 = some (.bipush 13) := rfl
theorem y_296_172 {b : Bool} : g_co (gX b) 296 172 = some (.imul) := rfl
theorem y_296_173 {b : Bool} : g_co (gX b) 296 173 = some (.iload 5) := rfl
theorem y_296_175 {b : Bool} : g_co (gX b) 296 175 = some (.iadd) := rfl
theorem y_296_176 {b : Bool} : g_co (gX b) 296 176 = some (.iaload) := rfl
theorem y_296_177 {b : Bool} : g_co (gX b) 296 177 = some (.istore 6) := rfl
theorem y_296_179 {b : Bool} : g_co (gX b) 296 179 = some (.iload 6) := rfl
theorem y_296_181 {b : Bool} : g_co (gX b) 296 181 = some (.bipush (-2)) := rfl
theorem y_296_183 {b : Bool} : g_co (gX b) 296 183 = some (.if_icmp .ne 37) := rfl
theorem y_296_186 {b : Bool} : g_co (gX b) 296 186 = some (.aload_n 0) := rfl
theorem y_296_187 {b : Bool} : g_co (gX b) 296 187 = some (.getfield 22) := rfl
theorem y_296_190 {b : Bool} : g_co (gX b) 296 190 = some (.iload_n 1) := rfl
theorem y_296_191 {b : Bool} : g_co (gX b) 296 191 = some (.aload_n 3) := rfl
theorem y_296_192 {b : Bool} : g_co (gX b) 296 192 = some (.invokevirtual 163) := rfl
theorem y_296_195 {b : Bool} : g_co (gX b) 296 195 = some (.aload_n 0) := rfl
theorem y_296_196 {b : Bool} : g_co (gX b) 296 196 = some (.getfield 78) := rfl
theorem y_296_199 {b : Bool} : g_co (gX b) 296 199 = some (.aload_n 3) := rfl
theorem y_296_200 {b : Bool} : g_co (gX b) 296 200 = some (.iload 5) := rfl
theorem y_296_202 {b : Bool} : g_co (gX b) 296 202 = some (.iconst (-1)) := rfl
theorem y_296_203 {b : Bool} : g_co (gX b) 296 203 = some (.invokevirtual 159) := rfl
theorem y_296_206 {b : Bool} : g_co (gX b) 296 206 = some (.pop) := rfl
theorem y_296_207 {b : Bool} : g_co (gX b) 296 207 = some (.aload_n 0) := rfl
theorem y_296_208 {b : Bool} : g_co (gX b) 296 208 = some (.aload_n 3) := rfl
theorem y_296_209 {b : Bool} : g_co (gX b) 296 209 = some (.iload_n 2) := rfl
theorem y_296_210 {b : Bool} : g_co (gX b) 296 210 = some (.iconst 1) := rfl
theorem y_296_211 {b : Bool} : g_co (gX b) 296 211 = some (.isub) := rfl
theorem y_296_212 {b : Bool} : g_co (gX b) 296 212 = some (.invokevirtual 186) := rfl
theorem y_296_215 {b : Bool} : g_co (gX b) 296 215 = some (.istore 4) := rfl
theorem y_296_217 {b : Bool} : g_co (gX b) 296 217 = some (.goto 33) := rfl
theorem y_296_220 {b : Bool} : g_co (gX b) 296 220 = some (.iload 6) := rfl
theorem y_296_222 {b : Bool} : g_co (gX b) 296 222 = some (.ifCond .lt 25) := rfl
theorem y_296_225 {b : Bool} : g_co (gX b) 296 225 = some (.iload 6) := rfl
theorem y_296_227 {b : Bool} : g_co (gX b) 296 227 = some (.iload_n 1) := rfl
theorem y_296_228 {b : Bool} : g_co (gX b) 296 228 = some (.if_icmp .eq 19) := rfl
theorem y_296_231 {b : Bool} : g_co (gX b) 296 231 = some (.aload_n 0) := rfl
theorem y_296_232 {b : Bool} : g_co (gX b) 296 232 = some (.iload 6) := rfl
theorem y_296_234 {b : Bool} : g_co (gX b) 296 234 = some (.iload_n 2) := rfl
theorem y_296_235 {b : Bool} : g_co (gX b) 296 235 = some (.iconst 1) := rfl
theorem y_296_236 {b : Bool} : g_co (gX b) 296 236 = some (.isub) := rfl
theorem y_296_237 {b : Bool} : g_co (gX b) 296 237 = some (.invokevirtual 138) := rfl
theorem y_296_240 {b : Bool} : g_co (gX b) 296 240 = some (.ifCond .eq 7) := rfl
theorem y_296_243 {b : Bool} : g_co (gX b) 296 243 = some (.iconst 1) := rfl
theorem y_296_244 {b : Bool} : g_co (gX b) 296 244 = some (.goto 4) := rfl
theorem y_296_247 {b : Bool} : g_co (gX b) 296 247 = some (.iconst 0) := rfl
theorem y_296_248 {b : Bool} : g_co (gX b) 296 248 = some (.istore 4) := rfl
theorem y_296_250 {b : Bool} : g_co (gX b) 296 250 = some (.iinc 5 1) := rfl
theorem y_296_253 {b : Bool} : g_co (gX b) 296 253 = some (.goto (-100)) := rfl
theorem y_296_256 {b : Bool} : g_co (gX b) 296 256 = some (.iload 4) := rfl
theorem y_296_258 {b : Bool} : g_co (gX b) 296 258 = some (.ifCond .eq 13) := rfl
theorem y_296_261 {b : Bool} : g_co (gX b) 296 261 = some (.aload_n 0) := rfl
theorem y_296_262 {b : Bool} : g_co (gX b) 296 262 = some (.getfield 54) := rfl
theorem y_296_265 {b : Bool} : g_co (gX b) 296 265 = some (.iload_n 1) := rfl
theorem y_296_266 {b : Bool} : g_co (gX b) 296 266 = some (.iload_n 2) := rfl
theorem y_296_267 {b : Bool} : g_co (gX b) 296 267 = some (.iastore) := rfl
theorem y_296_268 {b : Bool} : g_co (gX b) 296 268 = some (.goto 10) := rfl
theorem y_296_271 {b : Bool} : g_co (gX b) 296 271 = some (.aload_n 0) := rfl
theorem y_296_272 {b : Bool} : g_co (gX b) 296 272 = some (.getfield 57) := rfl
theorem y_296_275 {b : Bool} : g_co (gX b) 296 275 = some (.iload_n 1) := rfl
theorem y_296_276 {b : Bool} : g_co (gX b) 296 276 = some (.iload_n 2) := rfl
theorem y_296_277 {b : Bool} : g_co (gX b) 296 277 = some (.iastore) := rfl
theorem y_296_278 {b : Bool} : g_co (gX b) 296 278 = some (.iload 4) := rfl
theorem y_296_280 {b : Bool} : g_co (gX b) 296 280 = some (.ireturn) := rfl
theorem yf_296_54 {b : Bool} : g_fl (gX b) 296 54 = some (8, 11, 9) := rfl
theorem yf_296_57 {b : Bool} : g_fl (gX b) 296 57 = some (8, 12, 9) := rfl
theorem yf_296_22 {b : Bool} : g_fl (gX b) 296 22 = some (8, 3, 9) := rfl
theorem yf_296_33 {b : Bool} : g_fl (gX b) 296 33 = some (8, 5, 9) := rfl
theorem ym_296_163 {b : Bool} : g_ml (gX b) 296 163 = some (0, 222, 2, 2) := rfl
theorem yf_296_78 {b : Bool} : g_fl (gX b) 296 78 = some (8, 2, 9) := rfl
theorem ym_296_183 {b : Bool} : g_ml (gX b) 296 183 = some (0, 211, 1, 1) := rfl
theorem yf_296_36 {b : Bool} : g_fl (gX b) 296 36 = some (8, 6, 9) := rfl
theorem yf_296_50 {b : Bool} : g_fl (gX b) 296 50 = some (8, 10, 9) := rfl
theorem ym_296_186 {b : Bool} : g_ml (gX b) 296 186 = some (0, 297, 2, 8) := rfl
theorem ym_296_115 {b : Bool} : g_ml (gX b) 296 115 = some (0, 293, 2, 8) := rfl
theorem yf_296_47 {b : Bool} : g_fl (gX b) 296 47 = some (8, 9, 9) := rfl
theorem ym_296_159 {b : Bool} : g_ml (gX b) 296 159 = some (0, 209, 3, 1) := rfl
theorem ym_296_138 {b : Bool} : g_ml (gX b) 296 138 = some (0, 296, 2, 8) := rfl
theorem yx_297 {b : Bool} : g_mx (gX b) 297 = 7 := rfl
theorem yt_297 {b : Bool} : g_rt (gX b) 297 = 2 := rfl
theorem y_297_0 {b : Bool} : g_co (gX b) 297 0 = some (.aload_n 0) := rfl
theorem y_297_1 {b : Bool} : g_co (gX b) 297 1 = some (.getfield 78) := rfl
theorem y_297_4 {b : Bool} : g_co (gX b) 297 4 = some (.aload_n 1) := rfl
theorem y_297_5 {b : Bool} : g_co (gX b) 297 5 = some (.invokevirtual 183) := rfl
theorem y_297_8 {b : Bool} : g_co (gX b) 297 8 = some (.ifCond .eq 5) := rfl
theorem y_297_11 {b : Bool} : g_co (gX b) 297 11 = some (.iconst 1) := rfl
theorem y_297_12 {b : Bool} : g_co (gX b) 297 12 = some (.ireturn) := rfl
theorem y_297_13 {b : Bool} : g_co (gX b) 297 13 = some (.iload_n 2) := rfl
theorem y_297_14 {b : Bool} : g_co (gX b) 297 14 = some (.ifCond .le 8) := rfl
theorem y_297_17 {b : Bool} : g_co (gX b) 297 17 = some (.iload_n 2) := rfl
theorem y_297_18 {b : Bool} : g_co (gX b) 297 18 = some (.iconst 3) := rfl
theorem y_297_19 {b : Bool} : g_co (gX b) 297 19 = some (.if_icmp .lt 5) := rfl
theorem y_297_22 {b : Bool} : g_co (gX b) 297 22 = some (.iconst 0) := rfl
theorem y_297_23 {b : Bool} : g_co (gX b) 297 23 = some (.ireturn) := rfl
theorem y_297_24 {b : Bool} : g_co (gX b) 297 24 = some (.aload_n 0) := rfl
theorem y_297_25 {b : Bool} : g_co (gX b) 297 25 = some (.getfield 36) := rfl
theorem y_297_28 {b : Bool} : g_co (gX b) 297 28 = some (.iload_n 2) := rfl
theorem y_297_29 {b : Bool} : g_co (gX b) 297 29 = some (.iconst 1) := rfl
theorem y_297_30 {b : Bool} : g_co (gX b) 297 30 = some (.isub) := rfl
theorem y_297_31 {b : Bool} : g_co (gX b) 297 31 = some (.aaload) := rfl
theorem y_297_32 {b : Bool} : g_co (gX b) 297 32 = some (.astore_n 3) := rfl
theorem y_297_33 {b : Bool} : g_co (gX b) 297 33 = some (.aload_n 1) := rfl
theorem y_297_34 {b : Bool} : g_co (gX b) 297 34 = some (.invokevirtual 167) := rfl
theorem y_297_37 {b : Bool} : g_co (gX b) 297 37 = some (.ifCond .ne 7) := rfl
theorem y_297_40 {b : Bool} : g_co (gX b) 297 40 = some (.iconst 1) := rfl
theorem y_297_41 {b : Bool} : g_co (gX b) 297 41 = some (.goto 4) := rfl
theorem y_297_44 {b : Bool} : g_co (gX b) 297 44 = some (.iconst 0) := rfl
theorem y_297_45 {b : Bool} : g_co (gX b) 297 45 = some (.istore 4) := rfl
theorem y_297_47 {b : Bool} : g_co (gX b) 297 47 = some (.iconst 0) := rfl
theorem y_297_48 {b : Bool} : g_co (gX b) 297 48 = some (.istore 5) := rfl
theorem y_297_50 {b : Bool} : g_co (gX b) 297 50 = some (.iload 5) := rfl
theorem y_297_52 {b : Bool} : g_co (gX b) 297 52 = some (.bipush 13) := rfl
theorem y_297_54 {b : Bool} : g_co (gX b) 297 54 = some (.if_icmp .ge 96) := rfl
theorem y_297_57 {b : Bool} : g_co (gX b) 297 57 = some (.aload_n 0) := rfl
theorem y_297_58 {b : Bool} : g_co (gX b) 297 58 = some (.getfield 78) := rfl
theorem y_297_61 {b : Bool} : g_co (gX b) 297 61 = some (.getfield 123) := rfl
theorem y_297_64 {b : Bool} : g_co (gX b) 297 64 = some (.iload 5) := rfl
theorem y_297_66 {b : Bool} : g_co (gX b) 297 66 = some (.invokevirtual 171) := rfl
theorem y_297_69 {b : Bool} : g_co (gX b) 297 69 = some (.istore 6) := rfl
theorem y_297_71 {b : Bool} : g_co (gX b) 297 71 = some (.iload 6) := rfl
theorem y_297_73 {b : Bool} : g_co (gX b) 297 73 = some (.ifCond .eq 8) := rfl
theorem y_297_76 {b : Bool} : g_co (gX b) 297 76 = some (.iload 4) := rfl
theorem y_297_78 {b : Bool} : g_co (gX b) 297 78 = some (.ifCond .ne 66) := rfl
theorem y_297_81 {b : Bool} : g_co (gX b) 297 81 = some (.aload_n 0) := rfl
theorem y_297_82 {b : Bool} : g_co (gX b) 297 82 = some (.getfield 78) := rfl
theorem y_297_85 {b : Bool} : g_co (gX b) 297 85 = some (.aload_n 1) := rfl
theorem y_297_86 {b : Bool} : g_co (gX b) 297 86 = some (.iload 5) := rfl
theorem y_297_88 {b : Bool} : g_co (gX b) 297 88 = some (.invokevirtual 155) := rfl
theorem y_297_91 {b : Bool} : g_co (gX b) 297 91 = some (.ifCond .ne 6) := rfl
theorem y_297_94 {b : Bool} : g_co (gX b) 297 94 = some (.goto 50) := rfl
theorem y_297_97 {b : Bool} : g_co (gX b) 297 97 = some (.iload 4) := rfl
theorem y_297_99 {b : Bool} : g_co (gX b) 297 99 = some (.ifCond .ne 8) := rfl
theorem y_297_102 {b : Bool} : g_co (gX b) 297 102 = some (.iload 6) := rfl
theorem y_297_104 {b : Bool} : g_co (gX b) 297 104 = some (.ifCond .eq 7) := rfl
theorem y_297_107 {b : Bool} : g_co (gX b) 297 107 = some (.iconst 1) := rfl
theorem y_297_108 {b : Bool} : g_co (gX b) 297 108 = some (.goto 4) := rfl
theorem y_297_111 {b : Bool} : g_co (gX b) 297 111 = some (.iconst 0) := rfl
theorem y_297_112 {b : Bool} : g_co (gX b) 297 112 = some (.istore 4) := rfl
theorem y_297_114 {b : Bool} : g_co (gX b) 297 114 = some (.aload_n 3) := rfl
theorem y_297_115 {b : Bool} : g_co (gX b) 297 115 = some (.aload_n 1) := rfl
theorem y_297_116 {b : Bool} : g_co (gX b) 297 116 = some (.invokevirtual 175) := rfl
theorem y_297_119 {b : Bool} : g_co (gX b) 297 119 = some (.aload_n 0) := rfl
theorem y_297_120 {b : Bool} : g_co (gX b) 297 120 = some (.getfield 78) := rfl
theorem y_297_123 {b : Bool} : g_co (gX b) 297 123 = some (.aload_n 3) := rfl
theorem y_297_124 {b : Bool} : g_co (gX b) 297 124 = some (.iload 5) := rfl
theorem y_297_126 {b : Bool} : g_co (gX b) 297 126 = some (.iconst (-1)) := rfl
theorem y_297_127 {b : Bool} : g_co (gX b) 297 127 = some (.invokevirtual 159) := rfl
theorem y_297_130 {b : Bool} : g_co (gX b) 297 130 = some (.pop) := rfl
theorem y_297_131 {b : Bool} : g_co (gX b) 297 131 = some (.aload_n 0) := rfl
theorem y_297_132 {b : Bool} : g_co (gX b) 297 132 = some (.aload_n 3) := rfl
theorem y_297_133 {b : Bool} : g_co (gX b) 297 133 = some (.iload_n 2) := rfl
theorem y_297_134 {b : Bool} : g_co (gX b) 297 134 = some (.iconst 1) := rfl
theorem y_297_135 {b : Bool} : g_co (gX b) 297 135 = some (.isub) := rfl
theorem y_297_136 {b : Bool} : g_co (gX b) 297 136 = some (.invokevirtual 186) := rfl
theorem y_297_139 {b : Bool} : g_co (gX b) 297 139 = some (.ifCond .eq 5) := rfl
theorem y_297_142 {b : Bool} : g_co (gX b) 297 142 = some (.iconst 1) := rfl
theorem y_297_143 {b : Bool} : g_co (gX b) 297 143 = some (.ireturn) := rfl
theorem y_297_144 {b : Bool} : g_co (gX b) 297 144 = some (.iinc 5 1) := rfl
theorem y_297_147 {b : Bool} : g_co (gX b) 297 147 = some (.goto (-97)) := rfl
theorem y_297_150 {b : Bool} : g_co (gX b) 297 150 = some (.iconst 0) := rfl
theorem y_297_151 {b : Bool} : g_co (gX b) 297 151 = some (.ireturn) := rfl
theorem yf_297_78 {b : Bool} : g_fl (gX b) 297 78 = some (8, 2, 9) := rfl
theorem ym_297_183 {b : Bool} : g_ml (gX b) 297 183 = some (0, 211, 1, 1) := rfl
theorem yf_297_36 {b : Bool} : g_fl (gX b) 297 36 = some (8, 6, 9) := rfl
theorem ym_297_167 {b : Bool} : g_ml (gX b) 297 167 = some (0, 233, 0, 3) := rfl
theorem yf_297_123 {b : Bool} : g_fl (gX b) 297 123 = some (1, 2, 2) := rfl
theorem ym_297_171 {b : Bool} : g_ml (gX b) 297 171 = some (0, 254, 1, 5) := rfl
theorem ym_297_155 {b : Bool} : g_ml (gX b) 297 155 = some (0, 206, 2, 1) := rfl
theorem ym_297_175 {b : Bool} : g_ml (gX b) 297 175 = some (0, 226, 1, 3) := rfl
theorem ym_297_159 {b : Bool} : g_ml (gX b) 297 159 = some (0, 209, 3, 1) := rfl
theorem ym_297_186 {b : Bool} : g_ml (gX b) 297 186 = some (0, 297, 2, 8) := rfl
theorem yx_298 {b : Bool} : g_mx (gX b) 298 = 1 := rfl
theorem yt_298 {b : Bool} : g_rt (gX b) 298 = 0 := rfl
theorem y_298_0 {b : Bool} : g_co (gX b) 298 0 = some (.aload_n 0) := rfl
theorem y_298_1 {b : Bool} : g_co (gX b) 298 1 = some (.getfield 61) := rfl
theorem y_298_4 {b : Bool} : g_co (gX b) 298 4 = some (.aload_n 0) := rfl
theorem y_298_5 {b : Bool} : g_co (gX b) 298 5 = some (.getfield 12) := rfl
theorem y_298_8 {b : Bool} : g_co (gX b) 298 8 = some (.invokevirtual 65) := rfl
theorem y_298_11 {b : Bool} : g_co (gX b) 298 11 = some (.aload_n 0) := rfl
theorem y_298_12 {b : Bool} : g_co (gX b) 298 12 = some (.iconst 0) := rfl
theorem y_298_13 {b : Bool} : g_co (gX b) 298 13 = some (.putfield 31) := rfl
theorem y_298_16 {b : Bool} : g_co (gX b) 298 16 = some (.aload_n 0) := rfl
theorem y_298_17 {b : Bool} : g_co (gX b) 298 17 = some (.invokevirtual 71) := rfl
theorem y_298_20 {b : Bool} : g_co (gX b) 298 20 = some (.aload_n 0) := rfl
theorem y_298_21 {b : Bool} : g_co (gX b) 298 21 = some (.iconst 0) := rfl
theorem y_298_22 {b : Bool} : g_co (gX b) 298 22 = some (.putfield 57) := rfl
theorem y_298_25 {b : Bool} : g_co (gX b) 298 25 = some (.return_) := rfl
theorem yf_298_61 {b : Bool} : g_fl (gX b) 298 61 = some (9, 6, 9) := rfl
theorem yf_298_12 {b : Bool} : g_fl (gX b) 298 12 = some (9, 0, 9) := rfl
theorem ym_298_65 {b : Bool} : g_ml (gX b) 298 65 = some (0, 207, 1, 1) := rfl
theorem yf_298_31 {b : Bool} : g_fl (gX b) 298 31 = some (9, 5, 0) := rfl
theorem ym_298_71 {b : Bool} : g_ml (gX b) 298 71 = some (0, 310, 0, 9) := rfl
theorem yf_298_57 {b : Bool} : g_fl (gX b) 298 57 = some (9, 14, 1) := rfl
theorem yx_299 {b : Bool} : g_mx (gX b) 299 = 3 := rfl
theorem yt_299 {b : Bool} : g_rt (gX b) 299 = 1 := rfl
theorem y_299_0 {b : Bool} : g_co (gX b) 299 0 = some (.aload_n 0) := rfl
theorem y_299_1 {b : Bool} : g_co (gX b) 299 1 = some (.getfield 31) := rfl
theorem y_299_4 {b : Bool} : g_co (gX b) 299 4 = some (.bipush 40) := rfl
theorem y_299_6 {b : Bool} : g_co (gX b) 299 6 = some (.if_icmp .lt 5) := rfl
theorem y_299_9 {b : Bool} : g_co (gX b) 299 9 = some (.iconst (-1)) := rfl
theorem y_299_10 {b : Bool} : g_co (gX b) 299 10 = some (.ireturn) := rfl
theorem y_299_11 {b : Bool} : g_co (gX b) 299 11 = some (.aload_n 0) := rfl
theorem y_299_12 {b : Bool} : g_co (gX b) 299 12 = some (.getfield 31) := rfl
theorem y_299_15 {b : Bool} : g_co (gX b) 299 15 = some (.istore_n 2) := rfl
theorem y_299_16 {b : Bool} : g_co (gX b) 299 16 = some (.aload_n 0) := rfl
theorem y_299_17 {b : Bool} : g_co (gX b) 299 17 = some (.getfield 18) := rfl
theorem y_299_20 {b : Bool} : g_co (gX b) 299 20 = some (.iload_n 2) := rfl
theorem y_299_21 {b : Bool} : g_co (gX b) 299 21 = some (.iload_n 1) := rfl
theorem y_299_22 {b : Bool} : g_co (gX b) 299 22 = some (.iastore) := rfl
theorem y_299_23 {b : Bool} : g_co (gX b) 299 23 = some (.aload_n 0) := rfl
theorem y_299_24 {b : Bool} : g_co (gX b) 299 24 = some (.getfield 22) := rfl
theorem y_299_27 {b : Bool} : g_co (gX b) 299 27 = some (.iload_n 2) := rfl
theorem y_299_28 {b : Bool} : g_co (gX b) 299 28 = some (.aload_n 0) := rfl
theorem y_299_29 {b : Bool} : g_co (gX b) 299 29 = some (.getfield 61) := rfl
theorem y_299_32 {b : Bool} : g_co (gX b) 299 32 = some (.aload_n 0) := rfl
theorem y_299_33 {b : Bool} : g_co (gX b) 299 33 = some (.getfield 12) := rfl
theorem y_299_36 {b : Bool} : g_co (gX b) 299 36 = some (.iload_n 1) := rfl
theorem y_299_37 {b : Bool} : g_co (gX b) 299 37 = some (.iload_n 2) := rfl
theorem y_299_38 {b : Bool} : g_co (gX b) 299 38 = some (.invokevirtual 74) := rfl
theorem y_299_41 {b : Bool} : g_co (gX b) 299 41 = some (.iastore) := rfl
theorem y_299_42 {b : Bool} : g_co (gX b) 299 42 = some (.aload_n 0) := rfl
theorem y_299_43 {b : Bool} : g_co (gX b) 299 43 = some (.getfield 25) := rfl
theorem y_299_46 {b : Bool} : g_co (gX b) 299 46 = some (.iload_n 2) := rfl
theorem y_299_47 {b : Bool} : g_co (gX b) 299 47 = some (.aload_n 0) := rfl
theorem y_299_48 {b : Bool} : g_co (gX b) 299 48 = some (.getfield 61) := rfl
theorem y_299_51 {b : Bool} : g_co (gX b) 299 51 = some (.getfield 78) := rfl
theorem y_299_54 {b : Bool} : g_co (gX b) 299 54 = some (.iastore) := rfl
theorem y_299_55 {b : Bool} : g_co (gX b) 299 55 = some (.aload_n 0) := rfl
theorem y_299_56 {b : Bool} : g_co (gX b) 299 56 = some (.getfield 28) := rfl
theorem y_299_59 {b : Bool} : g_co (gX b) 299 59 = some (.iload_n 2) := rfl
theorem y_299_60 {b : Bool} : g_co (gX b) 299 60 = some (.aload_n 0) := rfl
theorem y_299_61 {b : Bool} : g_co (gX b) 299 61 = some (.getfield 61) := rfl
theorem y_299_64 {b : Bool} : g_co (gX b) 299 64 = some (.getfield 80) := rfl
theorem y_299_67 {b : Bool} : g_co (gX b) 299 67 = some (.iastore) := rfl
theorem y_299_68 {b : Bool} : g_co (gX b) 299 68 = some (.aload_n 0) := rfl
theorem y_299_69 {b : Bool} : g_co (gX b) 299 69 = some (.getfield 38) := rfl
theorem y_299_72 {b : Bool} : g_co (gX b) 299 72 = some (.iload_n 2) := rfl
theorem y_299_73 {b : Bool} : g_co (gX b) 299 73 = some (.aload_n 0) := rfl
theorem y_299_74 {b : Bool} : g_co (gX b) 299 74 = some (.iload_n 2) := rfl
theorem y_299_75 {b : Bool} : g_co (gX b) 299 75 = some (.invokevirtual 82) := rfl
theorem y_299_78 {b : Bool} : g_co (gX b) 299 78 = some (.lastore) := rfl
theorem y_299_79 {b : Bool} : g_co (gX b) 299 79 = some (.aload_n 0) := rfl
theorem y_299_80 {b : Bool} : g_co (gX b) 299 80 = some (.dup) := rfl
theorem y_299_81 {b : Bool} : g_co (gX b) 299 81 = some (.getfield 31) := rfl
theorem y_299_84 {b : Bool} : g_co (gX b) 299 84 = some (.iconst 1) := rfl
theorem y_299_85 {b : Bool} : g_co (gX b) 299 85 = some (.iadd) := rfl
theorem y_299_86 {b : Bool} : g_co (gX b) 299 86 = some (.putfield 31) := rfl
theorem y_299_89 {b : Bool} : g_co (gX b) 299 89 = some (.aload_n 0) := rfl
theorem y_299_90 {b : Bool} : g_co (gX b) 299 90 = some (.invokevirtual 71) := rfl
theorem y_299_93 {b : Bool} : g_co (gX b) 299 93 = some (.aload_n 0) := rfl
theorem y_299_94 {b : Bool} : g_co (gX b) 299 94 = some (.iconst 0) := rfl
theorem y_299_95 {b : Bool} : g_co (gX b) 299 95 = some (.putfield 57) := rfl
theorem y_299_98 {b : Bool} : g_co (gX b) 299 98 = some (.iload_n 2) := rfl
theorem y_299_99 {b : Bool} : g_co (gX b) 299 99 = some (.ireturn) := rfl
theorem yf_299_31 {b : Bool} : g_fl (gX b) 299 31 = some (9, 5, 0) := rfl
theorem yf_299_18 {b : Bool} : g_fl (gX b) 299 18 = some (9, 1, 9) := rfl
theorem yf_299_22 {b : Bool} : g_fl (gX b) 299 22 = some (9, 2, 9) := rfl
theorem yf_299_61 {b : Bool} : g_fl (gX b) 299 61 = some (9, 6, 9) := rfl
theorem yf_299_12 {b : Bool} : g_fl (gX b) 299 12 = some (9, 0, 9) := rfl
theorem ym_299_74 {b : Bool} : g_ml (gX b) 299 74 = some (0, 209, 3, 1) := rfl
theorem yf_299_25 {b : Bool} : g_fl (gX b) 299 25 = some (9, 3, 9) := rfl
theorem yf_299_78 {b : Bool} : g_fl (gX b) 299 78 = some (1, 3, 0) := rfl
theorem yf_299_28 {b : Bool} : g_fl (gX b) 299 28 = some (9, 4, 9) := rfl
theorem yf_299_80 {b : Bool} : g_fl (gX b) 299 80 = some (1, 4, 0) := rfl
theorem yf_299_38 {b : Bool} : g_fl (gX b) 299 38 = some (9, 8, 9) := rfl
theorem ym_299_82 {b : Bool} : g_ml (gX b) 299 82 = some (0, 311, 1, 9) := rfl
theorem ym_299_71 {b : Bool} : g_ml (gX b) 299 71 = some (0, 310, 0, 9) := rfl
theorem yf_299_57 {b : Bool} : g_fl (gX b) 299 57 = some (9, 14, 1) := rfl
theorem yx_300 {b : Bool} : g_mx (gX b) 300 = 3 := rfl
theorem yt_300 {b : Bool} : g_rt (gX b) 300 = 2 := rfl
theorem y_300_0 {b : Bool} : g_co (gX b) 300 0 = some (.iload_n 1) := rfl
theorem y_300_1 {b : Bool} : g_co (gX b) 300 1 = some (.iload_n 2) := rfl
theorem y_300_2 {b : Bool} : g_co (gX b) 300 2 = some (.if_icmp .ge 22) := rfl
theorem y_300_5 {b : Bool} : g_co (gX b) 300 5 = some (.aload_n 0) := rfl
theorem y_300_6 {b : Bool} : g_co (gX b) 300 6 = some (.getfield 38) := rfl
theorem y_300_9 {b : Bool} : g_co (gX b) 300 9 = some (.iload_n 2) := rfl
theorem y_300_10 {b : Bool} : g_co (gX b) 300 10 = some (.laload) := rfl
theorem y_300_11 {b : Bool} : g_co (gX b) 300 11 = some (.iload_n 1) := rfl
theorem y_300_12 {b : Bool} : g_co (gX b) 300 12 = some (.lshr) := rfl
theorem y_300_13 {b : Bool} : g_co (gX b) 300 13 = some (.lconst 1) := rfl
theorem y_300_14 {b : Bool} : g_co (gX b) 300 14 = some (.land) := rfl
theorem y_300_15 {b : Bool} : g_co (gX b) 300 15 = some (.lconst 0) := rfl
theorem y_300_16 {b : Bool} : g_co (gX b) 300 16 = some (.lcmp) := rfl
theorem y_300_17 {b : Bool} : g_co (gX b) 300 17 = some (.ifCond .eq 7) := rfl
theorem y_300_20 {b : Bool} : g_co (gX b) 300 20 = some (.iconst 1) := rfl
theorem y_300_21 {b : Bool} : g_co (gX b) 300 21 = some (.goto 4) := rfl
theorem y_300_24 {b : Bool} : g_co (gX b) 300 24 = some (.iconst 0) := rfl
theorem y_300_25 {b : Bool} : g_co (gX b) 300 25 = some (.ireturn) := rfl
theorem yf_300_38 {b : Bool} : g_fl (gX b) 300 38 = some (9, 8, 9) := rfl
theorem yx_301 {b : Bool} : g_mx (gX b) 301 = 3 := rfl
theorem yt_301 {b : Bool} : g_rt (gX b) 301 = 1 := rfl
theorem y_301_0 {b : Bool} : g_co (gX b) 301 0 = some (.iload_n 1) := rfl
theorem y_301_1 {b : Bool} : g_co (gX b) 301 1 = some (.iload_n 2) := rfl
theorem y_301_2 {b : Bool} : g_co (gX b) 301 2 = some (.if_icmp .eq 12) := rfl
theorem y_301_5 {b : Bool} : g_co (gX b) 301 5 = some (.aload_n 0) := rfl
theorem y_301_6 {b : Bool} : g_co (gX b) 301 6 = some (.iload_n 1) := rfl
theorem y_301_7 {b : Bool} : g_co (gX b) 301 7 = some (.iload_n 2) := rfl
theorem y_301_8 {b : Bool} : g_co (gX b) 301 8 = some (.invokevirtual 86) := rfl
theorem y_301_11 {b : Bool} : g_co (gX b) 301 11 = some (.ifCond .eq 5) := rfl
theorem y_301_14 {b : Bool} : g_co (gX b) 301 14 = some (.iconst 0) := rfl
theorem y_301_15 {b : Bool} : g_co (gX b) 301 15 = some (.ireturn) := rfl
theorem y_301_16 {b : Bool} : g_co (gX b) 301 16 = some (.aload_n 0) := rfl
theorem y_301_17 {b : Bool} : g_co (gX b) 301 17 = some (.getfield 28) := rfl
theorem y_301_20 {b : Bool} : g_co (gX b) 301 20 = some (.iload_n 1) := rfl
theorem y_301_21 {b : Bool} : g_co (gX b) 301 21 = some (.iaload) := rfl
theorem y_301_22 {b : Bool} : g_co (gX b) 301 22 = some (.aload_n 0) := rfl
theorem y_301_23 {b : Bool} : g_co (gX b) 301 23 = some (.getfield 25) := rfl
theorem y_301_26 {b : Bool} : g_co (gX b) 301 26 = some (.iload_n 2) := rfl
theorem y_301_27 {b : Bool} : g_co (gX b) 301 27 = some (.iaload) := rfl
theorem y_301_28 {b : Bool} : g_co (gX b) 301 28 = some (.aload_n 0) := rfl
theorem y_301_29 {b : Bool} : g_co (gX b) 301 29 = some (.getfield 28) := rfl
theorem y_301_32 {b : Bool} : g_co (gX b) 301 32 = some (.iload_n 2) := rfl
theorem y_301_33 {b : Bool} : g_co (gX b) 301 33 = some (.iaload) := rfl
theorem y_301_34 {b : Bool} : g_co (gX b) 301 34 = some (.ior) := rfl
theorem y_301_35 {b : Bool} : g_co (gX b) 301 35 = some (.iand) := rfl
theorem y_301_36 {b : Bool} : g_co (gX b) 301 36 = some (.aload_n 0) := rfl
theorem y_301_37 {b : Bool} : g_co (gX b) 301 37 = some (.getfield 28) := rfl
theorem y_301_40 {b : Bool} : g_co (gX b) 301 40 = some (.iload_n 2) := rfl
theorem y_301_41 {b : Bool} : g_co (gX b) 301 41 = some (.iaload) := rfl
theorem y_301_42 {b : Bool} : g_co (gX b) 301 42 = some (.aload_n 0) := rfl
theorem y_301_43 {b : Bool} : g_co (gX b) 301 43 = some (.getfield 25) := rfl
theorem y_301_46 {b : Bool} : g_co (gX b) 301 46 = some (.iload_n 1) := rfl
theorem y_301_47 {b : Bool} : g_co (gX b) 301 47 = some (.iaload) := rfl
theorem y_301_48 {b : Bool} : g_co (gX b) 301 48 = some (.aload_n 0) := rfl
theorem y_301_49 {b : Bool} : g_co (gX b) 301 49 = some (.getfield 28) := rfl
theorem y_301_52 {b : Bool} : g_co (gX b) 301 52 = some (.iload_n 1) := rfl
theorem y_301_53 {b : Bool} : g_co (gX b) 301 53 = some (.iaload) := rfl
theorem y_301_54 {b : Bool} : g_co (gX b) 301 54 = some (.ior) := rfl
theorem y_301_55 {b : Bool} : g_co (gX b) 301 55 = some (.iand) := rfl
theorem y_301_56 {b : Bool} : g_co (gX b) 301 56 = some (.ior) := rfl
theorem y_301_57 {b : Bool} : g_co (gX b) 301 57 = some (.ireturn) := rfl
theorem ym_301_86 {b : Bool} : g_ml (gX b) 301 86 = some (0, 300, 2, 9) := rfl
theorem yf_301_28 {b : Bool} : g_fl (gX b) 301 28 = some (9, 4, 9) := rfl
theorem yf_301_25 {b : Bool} : g_fl (gX b) 301 25 = some (9, 3, 9) := rfl
theorem yx_302 {b : Bool} : g_mx (gX b) 302 = 4 := rfl
theorem yt_302 {b : Bool} : g_rt (gX b) 302 = 1 := rfl
theorem y_302_0 {b : Bool} : g_co (gX b) 302 0 = some (.iconst 0) := rfl
theorem y_302_1 {b : Bool} : g_co (gX b) 302 1 = some (.istore_n 1) := rfl
theorem y_302_2 {b : Bool} : g_co (gX b) 302 2 = some (.iconst 0) := rfl
theorem y_302_3 {b : Bool} : g_co (gX b) 302 3 = some (.istore_n 2) := rfl
theorem y_302_4 {b : Bool} : g_co (gX b) 302 4 = some (.iload_n 2) := rfl
theorem y_302_5 {b : Bool} : g_co (gX b) 302 5 = some (.aload_n 0) := rfl
theorem y_302_6 {b : Bool} : g_co (gX b) 302 6 = some (.getfield 31) := rfl
theorem y_302_9 {b : Bool} : g_co (gX b) 302 9 = some (.if_icmp .ge 39) := rfl
theorem y_302_12 {b : Bool} : g_co (gX b) 302 12 = some (.iload_n 2) := rfl
theorem y_302_13 {b : Bool} : g_co (gX b) 302 13 = some (.iconst 1) := rfl
theorem y_302_14 {b : Bool} : g_co (gX b) 302 14 = some (.iadd) := rfl
theorem y_302_15 {b : Bool} : g_co (gX b) 302 15 = some (.istore_n 3) := rfl
theorem y_302_16 {b : Bool} : g_co (gX b) 302 16 = some (.iload_n 3) := rfl
theorem y_302_17 {b : Bool} : g_co (gX b) 302 17 = some (.aload_n 0) := rfl
theorem y_302_18 {b : Bool} : g_co (gX b) 302 18 = some (.getfield 31) := rfl
theorem y_302_21 {b : Bool} : g_co (gX b) 302 21 = some (.if_icmp .ge 21) := rfl
theorem y_302_24 {b : Bool} : g_co (gX b) 302 24 = some (.aload_n 0) := rfl
theorem y_302_25 {b : Bool} : g_co (gX b) 302 25 = some (.iload_n 2) := rfl
theorem y_302_26 {b : Bool} : g_co (gX b) 302 26 = some (.iload_n 3) := rfl
theorem y_302_27 {b : Bool} : g_co (gX b) 302 27 = some (.invokevirtual 90) := rfl
theorem y_302_30 {b : Bool} : g_co (gX b) 302 30 = some (.ifCond .eq 6) := rfl
theorem y_302_33 {b : Bool} : g_co (gX b) 302 33 = some (.iinc 1 1) := rfl
theorem y_302_36 {b : Bool} : g_co (gX b) 302 36 = some (.iinc 3 1) := rfl
theorem y_302_39 {b : Bool} : g_co (gX b) 302 39 = some (.goto (-23)) := rfl
theorem y_302_42 {b : Bool} : g_co (gX b) 302 42 = some (.iinc 2 1) := rfl
theorem y_302_45 {b : Bool} : g_co (gX b) 302 45 = some (.goto (-41)) := rfl
theorem y_302_48 {b : Bool} : g_co (gX b) 302 48 = some (.iload_n 1) := rfl
theorem y_302_49 {b : Bool} : g_co (gX b) 302 49 = some (.ireturn) := rfl
theorem yf_302_31 {b : Bool} : g_fl (gX b) 302 31 = some (9, 5, 0) := rfl
theorem ym_302_90 {b : Bool} : g_ml (gX b) 302 90 = some (0, 301, 2, 9) := rfl
theorem yx_303 {b : Bool} : g_mx (gX b) 303 = 5 := rfl
theorem yt_303 {b : Bool} : g_rt (gX b) 303 = 1 := rfl
theorem y_303_0 {b : Bool} : g_co (gX b) 303 0 = some (.iload_n 1) := rfl
theorem y_303_1 {b : Bool} : g_co (gX b) 303 1 = some (.istore_n 2) := rfl
theorem y_303_2 {b : Bool} : g_co (gX b) 303 2 = some (.iconst 0) := rfl
theorem y_303_3 {b : Bool} : g_co (gX b) 303 3 = some (.istore_n 3) := rfl
theorem y_303_4 {b : Bool} : g_co (gX b) 303 4 = some (.iload_n 3) := rfl
theorem y_303_5 {b : Bool} : g_co (gX b) 303 5 = some (.aload_n 0) := rfl
theorem y_303_6 {b : Bool} : g_co (gX b) 303 6 = some (.getfield 31) := rfl
theorem y_303_9 {b : Bool} : g_co (gX b) 303 9 = some (.if_icmp .ge 61) := rfl
theorem y_303_12 {b : Bool} : g_co (gX b) 303 12 = some (.iload_n 1) := rfl
theorem y_303_13 {b : Bool} : g_co (gX b) 303 13 = some (.ifCond .lt 57) := rfl
theorem y_303_16 {b : Bool} : g_co (gX b) 303 16 = some (.iload_n 3) := rfl
theorem y_303_17 {b : Bool} : g_co (gX b) 303 17 = some (.iconst 1) := rfl
theorem y_303_18 {b : Bool} : g_co (gX b) 303 18 = some (.iadd) := rfl
theorem y_303_19 {b : Bool} : g_co (gX b) 303 19 = some (.istore 4) := rfl
theorem y_303_21 {b : Bool} : g_co (gX b) 303 21 = some (.iload 4) := rfl
theorem y_303_23 {b : Bool} : g_co (gX b) 303 23 = some (.aload_n 0) := rfl
theorem y_303_24 {b : Bool} : g_co (gX b) 303 24 = some (.getfield 31) := rfl
theorem y_303_27 {b : Bool} : g_co (gX b) 303 27 = some (.if_icmp .ge 37) := rfl
theorem y_303_30 {b : Bool} : g_co (gX b) 303 30 = some (.aload_n 0) := rfl
theorem y_303_31 {b : Bool} : g_co (gX b) 303 31 = some (.iload_n 3) := rfl
theorem y_303_32 {b : Bool} : g_co (gX b) 303 32 = some (.iload 4) := rfl
theorem y_303_34 {b : Bool} : g_co (gX b) 303 34 = some (.invokevirtual 90) := rfl
theorem y_303_37 {b : Bool} : g_co (gX b) 303 37 = some (.ifCond .ne 6) := rfl
theorem y_303_40 {b : Bool} : g_co (gX b) 303 40 = some (.goto 18) := rfl
theorem y_303_43 {b : Bool} : g_co (gX b) 303 43 = some (.iload_n 2) := rfl
theorem y_303_44 {b : Bool} : g_co (gX b) 303 44 = some (.ifCond .ne 11) := rfl
theorem y_303_47 {b : Bool} : g_co (gX b) 303 47 = some (.bipush 64) := rfl
theorem y_303_49 {b : Bool} : g_co (gX b) 303 49 = some (.iload_n 3) := rfl
theorem y_303_50 {b : Bool} : g_co (gX b) 303 50 = some (.imul) := rfl
theorem y_303_51 {b : Bool} : g_co (gX b) 303 51 = some (.iload 4) := rfl
theorem y_303_53 {b : Bool} : g_co (gX b) 303 53 = some (.iadd) := rfl
theorem y_303_54 {b : Bool} : g_co (gX b) 303 54 = some (.ireturn) := rfl
theorem y_303_55 {b : Bool} : g_co (gX b) 303 55 = some (.iinc 2 (-1)) := rfl
theorem y_303_58 {b : Bool} : g_co (gX b) 303 58 = some (.iinc 4 1) := rfl
theorem y_303_61 {b : Bool} : g_co (gX b) 303 61 = some (.goto (-40)) := rfl
theorem y_303_64 {b : Bool} : g_co (gX b) 303 64 = some (.iinc 3 1) := rfl
theorem y_303_67 {b : Bool} : g_co (gX b) 303 67 = some (.goto (-63)) := rfl
theorem y_303_70 {b : Bool} : g_co (gX b) 303 70 = some (.iconst (-1)) := rfl
theorem y_303_71 {b : Bool} : g_co (gX b) 303 71 = some (.ireturn) := rfl
theorem yf_303_31 {b : Bool} : g_fl (gX b) 303 31 = some (9, 5, 0) := rfl
theorem ym_303_90 {b : Bool} : g_ml (gX b) 303 90 = some (0, 301, 2, 9) := rfl
theorem yx_304 {b : Bool} : g_mx (gX b) 304 = 4 := rfl
theorem yt_304 {b : Bool} : g_rt (gX b) 304 = 1 := rfl
theorem y_304_0 {b : Bool} : g_co (gX b) 304 0 = some (.aload_n 0) := rfl
theorem y_304_1 {b : Bool} : g_co (gX b) 304 1 = some (.getfield 57) := rfl
theorem y_304_4 {b : Bool} : g_co (gX b) 304 4 = some (.ifCond .ne 74) := rfl
theorem y_304_7 {b : Bool} : g_co (gX b) 304 7 = some (.aload_n 0) := rfl
theorem y_304_8 {b : Bool} : g_co (gX b) 304 8 = some (.getfield 54) := rfl
theorem y_304_11 {b : Bool} : g_co (gX b) 304 11 = some (.iconst 0) := rfl
theorem y_304_12 {b : Bool} : g_co (gX b) 304 12 = some (.invokestatic 94) := rfl
theorem y_304_15 {b : Bool} : g_co (gX b) 304 15 = some (.iconst 0) := rfl
theorem y_304_16 {b : Bool} : g_co (gX b) 304 16 = some (.istore_n 2) := rfl
theorem y_304_17 {b : Bool} : g_co (gX b) 304 17 = some (.iload_n 2) := rfl
theorem y_304_18 {b : Bool} : g_co (gX b) 304 18 = some (.aload_n 0) := rfl
theorem y_304_19 {b : Bool} : g_co (gX b) 304 19 = some (.getfield 31) := rfl
theorem y_304_22 {b : Bool} : g_co (gX b) 304 22 = some (.if_icmp .ge 51) := rfl
theorem y_304_25 {b : Bool} : g_co (gX b) 304 25 = some (.iload_n 2) := rfl
theorem y_304_26 {b : Bool} : g_co (gX b) 304 26 = some (.iconst 1) := rfl
theorem y_304_27 {b : Bool} : g_co (gX b) 304 27 = some (.iadd) := rfl
theorem y_304_28 {b : Bool} : g_co (gX b) 304 28 = some (.istore_n 3) := rfl
theorem y_304_29 {b : Bool} : g_co (gX b) 304 29 = some (.iload_n 3) := rfl
theorem y_304_30 {b : Bool} : g_co (gX b) 304 30 = some (.aload_n 0) := rfl
theorem y_304_31 {b : Bool} : g_co (gX b) 304 31 = some (.getfield 31) := rfl
theorem y_304_34 {b : Bool} : g_co (gX b) 304 34 = some (.if_icmp .ge 33) := rfl
theorem y_304_37 {b : Bool} : g_co (gX b) 304 37 = some (.aload_n 0) := rfl
theorem y_304_38 {b : Bool} : g_co (gX b) 304 38 = some (.iload_n 2) := rfl
theorem y_304_39 {b : Bool} : g_co (gX b) 304 39 = some (.iload_n 3) := rfl
theorem y_304_40 {b : Bool} : g_co (gX b) 304 40 = some (.invokevirtual 90) := rfl
theorem y_304_43 {b : Bool} : g_co (gX b) 304 43 = some (.ifCond .eq 18) := rfl
theorem y_304_46 {b : Bool} : g_co (gX b) 304 46 = some (.aload_n 0) := rfl
theorem y_304_47 {b : Bool} : g_co (gX b) 304 47 = some (.getfield 54) := rfl
theorem y_304_50 {b : Bool} : g_co (gX b) 304 50 = some (.aload_n 0) := rfl
theorem y_304_51 {b : Bool} : g_co (gX b) 304 51 = some (.iload_n 2) := rfl
theorem y_304_52 {b : Bool} : g_co (gX b) 304 52 = some (.iload_n 3) := rfl
theorem y_304_53 {b : Bool} : g_co (gX b) 304 53 = some (.invokevirtual 100) := rfl
theorem y_304_56 {b : Bool} : g_co (gX b) 304 56 = some (.dup2) := rfl
theorem y_304_57 {b : Bool} : g_co (gX b) 304 57 = some (.iaload) := rfl
theorem y_304_58 {b : Bool} : g_co (gX b) 304 58 = some (.iconst 1) := rfl
theorem y_304_59 {b : Bool} : g_co (gX b) 304 59 = some (.iadd) := rfl
theorem y_304_60 {b : Bool} : g_co (gX b) 304 60 = some (.iastore) := rfl
theorem y_304_61 {b : Bool} : g_co (gX b) 304 61 = some (.iinc 3 1) := rfl
theorem y_304_64 {b : Bool} : g_co (gX b) 304 64 = some (.goto (-35)) := rfl
theorem y_304_67 {b : Bool} : g_co (gX b) 304 67 = some (.iinc 2 1) := rfl
theorem y_304_70 {b : Bool} : g_co (gX b) 304 70 = some (.goto (-53)) := rfl
theorem y_304_73 {b : Bool} : g_co (gX b) 304 73 = some (.aload_n 0) := rfl
theorem y_304_74 {b : Bool} : g_co (gX b) 304 74 = some (.iconst 1) := rfl
theorem y_304_75 {b : Bool} : g_co (gX b) 304 75 = some (.putfield 57) := rfl
theorem y_304_78 {b : Bool} : g_co (gX b) 304 78 = some (.aload_n 0) := rfl
theorem y_304_79 {b : Bool} : g_co (gX b) 304 79 = some (.getfield 54) := rfl
theorem y_304_82 {b : Bool} : g_co (gX b) 304 82 = some (.iload_n 1) := rfl
theorem y_304_83 {b : Bool} : g_co (gX b) 304 83 = some (.iaload) := rfl
theorem y_304_84 {b : Bool} : g_co (gX b) 304 84 = some (.ireturn) := rfl
theorem yf_304_57 {b : Bool} : g_fl (gX b) 304 57 = some (9, 14, 1) := rfl
theorem yf_304_54 {b : Bool} : g_fl (gX b) 304 54 = some (9, 13, 9) := rfl
theorem ym_304_94 {b : Bool} : g_ml (gX b) 304 94 = some (1, 503, 2, 0) := rfl
theorem yf_304_31 {b : Bool} : g_fl (gX b) 304 31 = some (9, 5, 0) := rfl
theorem ym_304_90 {b : Bool} : g_ml (gX b) 304 90 = some (0, 301, 2, 9) := rfl
theorem ym_304_100 {b : Bool} : g_ml (gX b) 304 100 = some (0, 306, 2, 9) := rfl
theorem yx_305 {b : Bool} : g_mx (gX b) 305 = 1 := rfl
theorem yt_305 {b : Bool} : g_rt (gX b) 305 = 0 := rfl
theorem y_305_0 {b : Bool} : g_co (gX b) 305 0 = some (.aload_n 0) := rfl
theorem y_305_1 {b : Bool} : g_co (gX b) 305 1 = some (.iconst 0) := rfl
theorem y_305_2 {b : Bool} : g_co (gX b) 305 2 = some (.putfield 57) := rfl
theorem y_305_5 {b : Bool} : g_co (gX b) 305 5 = some (.return_) := rfl
theorem yf_305_57 {b : Bool} : g_fl (gX b) 305 57 = some (9, 14, 1) := rfl
theorem yx_306 {b : Bool} : g_mx (gX b) 306 = 4 := rfl
theorem yt_306 {b : Bool} : g_rt (gX b) 306 = 1 := rfl
theorem y_306_0 {b : Bool} : g_co (gX b) 306 0 = some (.aload_n 0) := rfl
theorem y_306_1 {b : Bool} : g_co (gX b) 306 1 = some (.getfield 61) := rfl
theorem y_306_4 {b : Bool} : g_co (gX b) 306 4 = some (.aload_n 0) := rfl
theorem y_306_5 {b : Bool} : g_co (gX b) 306 5 = some (.getfield 35) := rfl
theorem y_306_8 {b : Bool} : g_co (gX b) 306 8 = some (.invokevirtual 65) := rfl
theorem y_306_11 {b : Bool} : g_co (gX b) 306 11 = some (.aload_n 0) := rfl
theorem y_306_12 {b : Bool} : g_co (gX b) 306 12 = some (.iconst 0) := rfl
theorem y_306_13 {b : Bool} : g_co (gX b) 306 13 = some (.putfield 51) := rfl
theorem y_306_16 {b : Bool} : g_co (gX b) 306 16 = some (.iconst 0) := rfl
theorem y_306_17 {b : Bool} : g_co (gX b) 306 17 = some (.istore_n 3) := rfl
theorem y_306_18 {b : Bool} : g_co (gX b) 306 18 = some (.iload_n 3) := rfl
theorem y_306_19 {b : Bool} : g_co (gX b) 306 19 = some (.iload_n 1) := rfl
theorem y_306_20 {b : Bool} : g_co (gX b) 306 20 = some (.if_icmp .ge 15) := rfl
theorem y_306_23 {b : Bool} : g_co (gX b) 306 23 = some (.aload_n 0) := rfl
theorem y_306_24 {b : Bool} : g_co (gX b) 306 24 = some (.iload_n 3) := rfl
theorem y_306_25 {b : Bool} : g_co (gX b) 306 25 = some (.invokevirtual 103) := rfl
theorem y_306_28 {b : Bool} : g_co (gX b) 306 28 = some (.pop) := rfl
theorem y_306_29 {b : Bool} : g_co (gX b) 306 29 = some (.iinc 3 1) := rfl
theorem y_306_32 {b : Bool} : g_co (gX b) 306 32 = some (.goto (-14)) := rfl
theorem y_306_35 {b : Bool} : g_co (gX b) 306 35 = some (.iload_n 1) := rfl
theorem y_306_36 {b : Bool} : g_co (gX b) 306 36 = some (.iconst 1) := rfl
theorem y_306_37 {b : Bool} : g_co (gX b) 306 37 = some (.iadd) := rfl
theorem y_306_38 {b : Bool} : g_co (gX b) 306 38 = some (.istore_n 3) := rfl
theorem y_306_39 {b : Bool} : g_co (gX b) 306 39 = some (.iload_n 3) := rfl
theorem y_306_40 {b : Bool} : g_co (gX b) 306 40 = some (.iload_n 2) := rfl
theorem y_306_41 {b : Bool} : g_co (gX b) 306 41 = some (.if_icmp .ge 24) := rfl
theorem y_306_44 {b : Bool} : g_co (gX b) 306 44 = some (.aload_n 0) := rfl
theorem y_306_45 {b : Bool} : g_co (gX b) 306 45 = some (.iload_n 3) := rfl
theorem y_306_46 {b : Bool} : g_co (gX b) 306 46 = some (.iload_n 2) := rfl
theorem y_306_47 {b : Bool} : g_co (gX b) 306 47 = some (.invokevirtual 86) := rfl
theorem y_306_50 {b : Bool} : g_co (gX b) 306 50 = some (.ifCond .eq 9) := rfl
theorem y_306_53 {b : Bool} : g_co (gX b) 306 53 = some (.aload_n 0) := rfl
theorem y_306_54 {b : Bool} : g_co (gX b) 306 54 = some (.iload_n 3) := rfl
theorem y_306_55 {b : Bool} : g_co (gX b) 306 55 = some (.invokevirtual 103) := rfl
theorem y_306_58 {b : Bool} : g_co (gX b) 306 58 = some (.pop) := rfl
theorem y_306_59 {b : Bool} : g_co (gX b) 306 59 = some (.iinc 3 1) := rfl
theorem y_306_62 {b : Bool} : g_co (gX b) 306 62 = some (.goto (-23)) := rfl
theorem y_306_65 {b : Bool} : g_co (gX b) 306 65 = some (.aload_n 0) := rfl
theorem y_306_66 {b : Bool} : g_co (gX b) 306 66 = some (.iload_n 2) := rfl
theorem y_306_67 {b : Bool} : g_co (gX b) 306 67 = some (.invokevirtual 103) := rfl
theorem y_306_70 {b : Bool} : g_co (gX b) 306 70 = some (.ifCond .ne 5) := rfl
theorem y_306_73 {b : Bool} : g_co (gX b) 306 73 = some (.iconst 0) := rfl
theorem y_306_74 {b : Bool} : g_co (gX b) 306 74 = some (.ireturn) := rfl
theorem y_306_75 {b : Bool} : g_co (gX b) 306 75 = some (.aload_n 0) := rfl
theorem y_306_76 {b : Bool} : g_co (gX b) 306 76 = some (.iload_n 1) := rfl
theorem y_306_77 {b : Bool} : g_co (gX b) 306 77 = some (.invokevirtual 103) := rfl
theorem y_306_80 {b : Bool} : g_co (gX b) 306 80 = some (.pop) := rfl
theorem y_306_81 {b : Bool} : g_co (gX b) 306 81 = some (.iload_n 1) := rfl
theorem y_306_82 {b : Bool} : g_co (gX b) 306 82 = some (.iconst 1) := rfl
theorem y_306_83 {b : Bool} : g_co (gX b) 306 83 = some (.iadd) := rfl
theorem y_306_84 {b : Bool} : g_co (gX b) 306 84 = some (.istore_n 3) := rfl
theorem y_306_85 {b : Bool} : g_co (gX b) 306 85 = some (.iload_n 3) := rfl
theorem y_306_86 {b : Bool} : g_co (gX b) 306 86 = some (.iload_n 2) := rfl
theorem y_306_87 {b : Bool} : g_co (gX b) 306 87 = some (.if_icmp .ge 24) := rfl
theorem y_306_90 {b : Bool} : g_co (gX b) 306 90 = some (.aload_n 0) := rfl
theorem y_306_91 {b : Bool} : g_co (gX b) 306 91 = some (.iload_n 3) := rfl
theorem y_306_92 {b : Bool} : g_co (gX b) 306 92 = some (.iload_n 2) := rfl
theorem y_306_93 {b : Bool} : g_co (gX b) 306 93 = some (.invokevirtual 86) := rfl
theorem y_306_96 {b : Bool} : g_co (gX b) 306 96 = some (.ifCond .ne 9) := rfl
theorem y_306_99 {b : Bool} : g_co (gX b) 306 99 = some (.aload_n 0) := rfl
theorem y_306_100 {b : Bool} : g_co (gX b) 306 100 = some (.iload_n 3) := rfl
theorem y_306_101 {b : Bool} : g_co (gX b) 306 101 = some (.invokevirtual 103) := rfl
theorem y_306_104 {b : Bool} : g_co (gX b) 306 104 = some (.pop) := rfl
theorem y_306_105 {b : Bool} : g_co (gX b) 306 105 = some (.iinc 3 1) := rfl
theorem y_306_108 {b : Bool} : g_co (gX b) 306 108 = some (.goto (-23)) := rfl
theorem y_306_111 {b : Bool} : g_co (gX b) 306 111 = some (.iload_n 2) := rfl
theorem y_306_112 {b : Bool} : g_co (gX b) 306 112 = some (.iconst 1) := rfl
theorem y_306_113 {b : Bool} : g_co (gX b) 306 113 = some (.iadd) := rfl
theorem y_306_114 {b : Bool} : g_co (gX b) 306 114 = some (.istore_n 3) := rfl
theorem y_306_115 {b : Bool} : g_co (gX b) 306 115 = some (.iload_n 3) := rfl
theorem y_306_116 {b : Bool} : g_co (gX b) 306 116 = some (.aload_n 0) := rfl
theorem y_306_117 {b : Bool} : g_co (gX b) 306 117 = some (.getfield 31) := rfl
theorem y_306_120 {b : Bool} : g_co (gX b) 306 120 = some (.if_icmp .ge 15) := rfl
theorem y_306_123 {b : Bool} : g_co (gX b) 306 123 = some (.aload_n 0) := rfl
theorem y_306_124 {b : Bool} : g_co (gX b) 306 124 = some (.iload_n 3) := rfl
theorem y_306_125 {b : Bool} : g_co (gX b) 306 125 = some (.invokevirtual 103) := rfl
theorem y_306_128 {b : Bool} : g_co (gX b) 306 128 = some (.pop) := rfl
theorem y_306_129 {b : Bool} : g_co (gX b) 306 129 = some (.iinc 3 1) := rfl
theorem y_306_132 {b : Bool} : g_co (gX b) 306 132 = some (.goto (-17)) := rfl
theorem y_306_135 {b : Bool} : g_co (gX b) 306 135 = some (.aload_n 0) := rfl
theorem y_306_136 {b : Bool} : g_co (gX b) 306 136 = some (.getfield 35) := rfl
theorem y_306_139 {b : Bool} : g_co (gX b) 306 139 = some (.invokevirtual 107) := rfl
theorem y_306_142 {b : Bool} : g_co (gX b) 306 142 = some (.ifCond .eq 15) := rfl
theorem y_306_145 {b : Bool} : g_co (gX b) 306 145 = some (.aload_n 0) := rfl
theorem y_306_146 {b : Bool} : g_co (gX b) 306 146 = some (.getfield 12) := rfl
theorem y_306_149 {b : Bool} : g_co (gX b) 306 149 = some (.invokevirtual 107) := rfl
theorem y_306_152 {b : Bool} : g_co (gX b) 306 152 = some (.ifCond .ne 5) := rfl
theorem y_306_155 {b : Bool} : g_co (gX b) 306 155 = some (.iconst 4) := rfl
theorem y_306_156 {b : Bool} : g_co (gX b) 306 156 = some (.ireturn) := rfl
theorem y_306_157 {b : Bool} : g_co (gX b) 306 157 = some (.aload_n 0) := rfl
theorem y_306_158 {b : Bool} : g_co (gX b) 306 158 = some (.getfield 35) := rfl
theorem y_306_161 {b : Bool} : g_co (gX b) 306 161 = some (.aload_n 0) := rfl
theorem y_306_162 {b : Bool} : g_co (gX b) 306 162 = some (.getfield 12) := rfl
theorem y_306_165 {b : Bool} : g_co (gX b) 306 165 = some (.invokevirtual 111) := rfl
theorem y_306_168 {b : Bool} : g_co (gX b) 306 168 = some (.ifCond .ne 5) := rfl
theorem y_306_171 {b : Bool} : g_co (gX b) 306 171 = some (.iconst 3) := rfl
theorem y_306_172 {b : Bool} : g_co (gX b) 306 172 = some (.ireturn) := rfl
theorem y_306_173 {b : Bool} : g_co (gX b) 306 173 = some (.aload_n 0) := rfl
theorem y_306_174 {b : Bool} : g_co (gX b) 306 174 = some (.invokevirtual 115) := rfl
theorem y_306_177 {b : Bool} : g_co (gX b) 306 177 = some (.ifCond .eq 7) := rfl
theorem y_306_180 {b : Bool} : g_co (gX b) 306 180 = some (.iconst 2) := rfl
theorem y_306_181 {b : Bool} : g_co (gX b) 306 181 = some (.goto 4) := rfl
theorem y_306_184 {b : Bool} : g_co (gX b) 306 184 = some (.iconst 1) := rfl
theorem y_306_185 {b : Bool} : g_co (gX b) 306 185 = some (.ireturn) := rfl
theorem yf_306_61 {b : Bool} : g_fl (gX b) 306 61 = some (9, 6, 9) := rfl
theorem yf_306_35 {b : Bool} : g_fl (gX b) 306 35 = some (9, 7, 9) := rfl
theorem ym_306_65 {b : Bool} : g_ml (gX b) 306 65 = some (0, 207, 1, 1) := rfl
theorem yf_306_51 {b : Bool} : g_fl (gX b) 306 51 = some (9, 12, 0) := rfl
theorem ym_306_103 {b : Bool} : g_ml (gX b) 306 103 = some (0, 307, 1, 9) := rfl
theorem ym_306_86 {b : Bool} : g_ml (gX b) 306 86 = some (0, 300, 2, 9) := rfl
theorem yf_306_31 {b : Bool} : g_fl (gX b) 306 31 = some (9, 5, 0) := rfl
theorem ym_306_107 {b : Bool} : g_ml (gX b) 306 107 = some (0, 228, 0, 3) := rfl
theorem yf_306_12 {b : Bool} : g_fl (gX b) 306 12 = some (9, 0, 9) := rfl
theorem ym_306_111 {b : Bool} : g_ml (gX b) 306 111 = some (0, 227, 1, 3) := rfl
theorem ym_306_115 {b : Bool} : g_ml (gX b) 306 115 = some (0, 308, 0, 9) := rfl
theorem yx_307 {b : Bool} : g_mx (gX b) 307 = 2 := rfl
theorem yt_307 {b : Bool} : g_rt (gX b) 307 = 2 := rfl
theorem y_307_0 {b : Bool} : g_co (gX b) 307 0 = some (.aload_n 0) := rfl
theorem y_307_1 {b : Bool} : g_co (gX b) 307 1 = some (.getfield 61) := rfl
theorem y_307_4 {b : Bool} : g_co (gX b) 307 4 = some (.aload_n 0) := rfl
theorem y_307_5 {b : Bool} : g_co (gX b) 307 5 = some (.getfield 35) := rfl
theorem y_307_8 {b : Bool} : g_co (gX b) 307 8 = some (.aload_n 0) := rfl
theorem y_307_9 {b : Bool} : g_co (gX b) 307 9 = some (.getfield 18) := rfl
theorem y_307_12 {b : Bool} : g_co (gX b) 307 12 = some (.iload_n 1) := rfl
theorem y_307_13 {b : Bool} : g_co (gX b) 307 13 = some (.iaload) := rfl
theorem y_307_14 {b : Bool} : g_co (gX b) 307 14 = some (.invokevirtual 118) := rfl
theorem y_307_17 {b : Bool} : g_co (gX b) 307 17 = some (.ifCond .eq 12) := rfl
theorem y_307_20 {b : Bool} : g_co (gX b) 307 20 = some (.aload_n 0) := rfl
theorem y_307_21 {b : Bool} : g_co (gX b) 307 21 = some (.getfield 51) := rfl
theorem y_307_24 {b : Bool} : g_co (gX b) 307 24 = some (.bipush 40) := rfl
theorem y_307_26 {b : Bool} : g_co (gX b) 307 26 = some (.if_icmp .lt 5) := rfl
theorem y_307_29 {b : Bool} : g_co (gX b) 307 29 = some (.iconst 0) := rfl
theorem y_307_30 {b : Bool} : g_co (gX b) 307 30 = some (.ireturn) := rfl
theorem y_307_31 {b : Bool} : g_co (gX b) 307 31 = some (.aload_n 0) := rfl
theorem y_307_32 {b : Bool} : g_co (gX b) 307 32 = some (.getfield 61) := rfl
theorem y_307_35 {b : Bool} : g_co (gX b) 307 35 = some (.aload_n 0) := rfl
theorem y_307_36 {b : Bool} : g_co (gX b) 307 36 = some (.getfield 35) := rfl
theorem y_307_39 {b : Bool} : g_co (gX b) 307 39 = some (.aload_n 0) := rfl
theorem y_307_40 {b : Bool} : g_co (gX b) 307 40 = some (.getfield 18) := rfl
theorem y_307_43 {b : Bool} : g_co (gX b) 307 43 = some (.iload_n 1) := rfl
theorem y_307_44 {b : Bool} : g_co (gX b) 307 44 = some (.iaload) := rfl
theorem y_307_45 {b : Bool} : g_co (gX b) 307 45 = some (.iconst (-1)) := rfl
theorem y_307_46 {b : Bool} : g_co (gX b) 307 46 = some (.invokevirtual 74) := rfl
theorem y_307_49 {b : Bool} : g_co (gX b) 307 49 = some (.pop) := rfl
theorem y_307_50 {b : Bool} : g_co (gX b) 307 50 = some (.aload_n 0) := rfl
theorem y_307_51 {b : Bool} : g_co (gX b) 307 51 = some (.getfield 35) := rfl
theorem y_307_54 {b : Bool} : g_co (gX b) 307 54 = some (.getfield 122) := rfl
theorem y_307_57 {b : Bool} : g_co (gX b) 307 57 = some (.iconst 0) := rfl
theorem y_307_58 {b : Bool} : g_co (gX b) 307 58 = some (.aload_n 0) := rfl
theorem y_307_59 {b : Bool} : g_co (gX b) 307 59 = some (.getfield 48) := rfl
theorem y_307_62 {b : Bool} : g_co (gX b) 307 62 = some (.aload_n 0) := rfl
theorem y_307_63 {b : Bool} : g_co (gX b) 307 63 = some (.getfield 51) := rfl
theorem y_307_66 {b : Bool} : g_co (gX b) 307 66 = some (.bipush 10) := rfl
theorem y_307_68 {b : Bool} : g_co (gX b) 307 68 = some (.imul) := rfl
theorem y_307_69 {b : Bool} : g_co (gX b) 307 69 = some (.bipush 10) := rfl
theorem y_307_71 {b : Bool} : g_co (gX b) 307 71 = some (.invokestatic 125) := rfl
theorem y_307_74 {b : Bool} : g_co (gX b) 307 74 = some (.aload_n 0) := rfl
theorem y_307_75 {b : Bool} : g_co (gX b) 307 75 = some (.dup) := rfl
theorem y_307_76 {b : Bool} : g_co (gX b) 307 76 = some (.getfield 51) := rfl
theorem y_307_79 {b : Bool} : g_co (gX b) 307 79 = some (.iconst 1) := rfl
theorem y_307_80 {b : Bool} : g_co (gX b) 307 80 = some (.iadd) := rfl
theorem y_307_81 {b : Bool} : g_co (gX b) 307 81 = some (.putfield 51) := rfl
theorem y_307_84 {b : Bool} : g_co (gX b) 307 84 = some (.iconst 1) := rfl
theorem y_307_85 {b : Bool} : g_co (gX b) 307 85 = some (.ireturn) := rfl
theorem yf_307_61 {b : Bool} : g_fl (gX b) 307 61 = some (9, 6, 9) := rfl
theorem yf_307_35 {b : Bool} : g_fl (gX b) 307 35 = some (9, 7, 9) := rfl
theorem yf_307_18 {b : Bool} : g_fl (gX b) 307 18 = some (9, 1, 9) := rfl
theorem ym_307_118 {b : Bool} : g_ml (gX b) 307 118 = some (0, 206, 2, 1) := rfl
theorem yf_307_51 {b : Bool} : g_fl (gX b) 307 51 = some (9, 12, 0) := rfl
theorem ym_307_74 {b : Bool} : g_ml (gX b) 307 74 = some (0, 209, 3, 1) := rfl
theorem yf_307_122 {b : Bool} : g_fl (gX b) 307 122 = some (3, 0, 9) := rfl
theorem yf_307_48 {b : Bool} : g_fl (gX b) 307 48 = some (9, 11, 9) := rfl
theorem yn_307_125 {b : Bool} : g_ml (gX b) 307 125 = none := rfl
theorem yz_307_125 {b : Bool} : g_nt (gX b) 307 125 = 1 := rfl
theorem yx_308 {b : Bool} : g_mx (gX b) 308 = 4 := rfl
theorem yt_308 {b : Bool} : g_rt (gX b) 308 = 2 := rfl
theorem y_308_0 {b : Bool} : g_co (gX b) 308 0 = some (.iconst 0) := rfl
theorem y_308_1 {b : Bool} : g_co (gX b) 308 1 = some (.istore_n 1) := rfl
theorem y_308_2 {b : Bool} : g_co (gX b) 308 2 = some (.iload_n 1) := rfl
theorem y_308_3 {b : Bool} : g_co (gX b) 308 3 = some (.aload_n 0) := rfl
theorem y_308_4 {b : Bool} : g_co (gX b) 308 4 = some (.getfield 51) := rfl
theorem y_308_7 {b : Bool} : g_co (gX b) 308 7 = some (.if_icmp .ge 50) := rfl
theorem y_308_10 {b : Bool} : g_co (gX b) 308 10 = some (.iconst 0) := rfl
theorem y_308_11 {b : Bool} : g_co (gX b) 308 11 = some (.istore_n 2) := rfl
theorem y_308_12 {b : Bool} : g_co (gX b) 308 12 = some (.iconst 0) := rfl
theorem y_308_13 {b : Bool} : g_co (gX b) 308 13 = some (.istore_n 3) := rfl
theorem y_308_14 {b : Bool} : g_co (gX b) 308 14 = some (.iload_n 3) := rfl
theorem y_308_15 {b : Bool} : g_co (gX b) 308 15 = some (.aload_n 0) := rfl
theorem y_308_16 {b : Bool} : g_co (gX b) 308 16 = some (.getfield 31) := rfl
theorem y_308_19 {b : Bool} : g_co (gX b) 308 19 = some (.if_icmp .gt 26) := rfl
theorem y_308_22 {b : Bool} : g_co (gX b) 308 22 = some (.iload_n 2) := rfl
theorem y_308_23 {b : Bool} : g_co (gX b) 308 23 = some (.ifCond .ne 22) := rfl
theorem y_308_26 {b : Bool} : g_co (gX b) 308 26 = some (.aload_n 0) := rfl
theorem y_308_27 {b : Bool} : g_co (gX b) 308 27 = some (.iload_n 1) := rfl
theorem y_308_28 {b : Bool} : g_co (gX b) 308 28 = some (.bipush 10) := rfl
theorem y_308_30 {b : Bool} : g_co (gX b) 308 30 = some (.imul) := rfl
theorem y_308_31 {b : Bool} : g_co (gX b) 308 31 = some (.iload_n 3) := rfl
theorem y_308_32 {b : Bool} : g_co (gX b) 308 32 = some (.bipush 10) := rfl
theorem y_308_34 {b : Bool} : g_co (gX b) 308 34 = some (.imul) := rfl
theorem y_308_35 {b : Bool} : g_co (gX b) 308 35 = some (.invokevirtual 131) := rfl
theorem y_308_38 {b : Bool} : g_co (gX b) 308 38 = some (.istore_n 2) := rfl
theorem y_308_39 {b : Bool} : g_co (gX b) 308 39 = some (.iinc 3 1) := rfl
theorem y_308_42 {b : Bool} : g_co (gX b) 308 42 = some (.goto (-28)) := rfl
theorem y_308_45 {b : Bool} : g_co (gX b) 308 45 = some (.iload_n 2) := rfl
theorem y_308_46 {b : Bool} : g_co (gX b) 308 46 = some (.ifCond .ne 5) := rfl
theorem y_308_49 {b : Bool} : g_co (gX b) 308 49 = some (.iconst 1) := rfl
theorem y_308_50 {b : Bool} : g_co (gX b) 308 50 = some (.ireturn) := rfl
theorem y_308_51 {b : Bool} : g_co (gX b) 308 51 = some (.iinc 1 1) := rfl
theorem y_308_54 {b : Bool} : g_co (gX b) 308 54 = some (.goto (-52)) := rfl
theorem y_308_57 {b : Bool} : g_co (gX b) 308 57 = some (.iconst 0) := rfl
theorem y_308_58 {b : Bool} : g_co (gX b) 308 58 = some (.ireturn) := rfl
theorem yf_308_51 {b : Bool} : g_fl (gX b) 308 51 = some (9, 12, 0) := rfl
theorem yf_308_31 {b : Bool} : g_fl (gX b) 308 31 = some (9, 5, 0) := rfl
theorem ym_308_131 {b : Bool} : g_ml (gX b) 308 131 = some (0, 309, 2, 9) := rfl
theorem yx_309 {b : Bool} : g_mx (gX b) 309 = 4 := rfl
theorem yt_309 {b : Bool} : g_rt (gX b) 309 = 2 := rfl
theorem y_309_0 {b : Bool} : g_co (gX b) 309 0 = some (.iconst 0) := rfl
theorem y_309_1 {b : Bool} : g_co (gX b) 309 1 = some (.istore_n 3) := rfl
theorem y_309_2 {b : Bool} : g_co (gX b) 309 2 = some (.iload_n 3) := rfl
theorem y_309_3 {b : Bool} : g_co (gX b) 309 3 = some (.bipush 10) := rfl
theorem y_309_5 {b : Bool} : g_co (gX b) 309 5 = some (.if_icmp .ge 30) := rfl
theorem y_309_8 {b : Bool} : g_co (gX b) 309 8 = some (.aload_n 0) := rfl
theorem y_309_9 {b : Bool} : g_co (gX b) 309 9 = some (.getfield 48) := rfl
theorem y_309_12 {b : Bool} : g_co (gX b) 309 12 = some (.iload_n 1) := rfl
theorem y_309_13 {b : Bool} : g_co (gX b) 309 13 = some (.iload_n 3) := rfl
theorem y_309_14 {b : Bool} : g_co (gX b) 309 14 = some (.iadd) := rfl
theorem y_309_15 {b : Bool} : g_co (gX b) 309 15 = some (.iaload) := rfl
theorem y_309_16 {b : Bool} : g_co (gX b) 309 16 = some (.aload_n 0) := rfl
theorem y_309_17 {b : Bool} : g_co (gX b) 309 17 = some (.getfield 45) := rfl
theorem y_309_20 {b : Bool} : g_co (gX b) 309 20 = some (.iload_n 2) := rfl
theorem y_309_21 {b : Bool} : g_co (gX b) 309 21 = some (.iload_n 3) := rfl
theorem y_309_22 {b : Bool} : g_co (gX b) 309 22 = some (.iadd) := rfl
theorem y_309_23 {b : Bool} : g_co (gX b) 309 23 = some (.iaload) := rfl
theorem y_309_24 {b : Bool} : g_co (gX b) 309 24 = some (.if_icmp .eq 5) := rfl
theorem y_309_27 {b : Bool} : g_co (gX b) 309 27 = some (.iconst 0) := rfl
theorem y_309_28 {b : Bool} : g_co (gX b) 309 28 = some (.ireturn) := rfl
theorem y_309_29 {b : Bool} : g_co (gX b) 309 29 = some (.iinc 3 1) := rfl
theorem y_309_32 {b : Bool} : g_co (gX b) 309 32 = some (.goto (-30)) := rfl
theorem y_309_35 {b : Bool} : g_co (gX b) 309 35 = some (.iconst 1) := rfl
theorem y_309_36 {b : Bool} : g_co (gX b) 309 36 = some (.ireturn) := rfl
theorem yf_309_48 {b : Bool} : g_fl (gX b) 309 48 = some (9, 11, 9) := rfl
theorem yf_309_45 {b : Bool} : g_fl (gX b) 309 45 = some (9, 10, 9) := rfl
theorem yx_310 {b : Bool} : g_mx (gX b) 310 = 1 := rfl
theorem yt_310 {b : Bool} : g_rt (gX b) 310 = 0 := rfl
theorem y_310_0 {b : Bool} : g_co (gX b) 310 0 = some (.aload_n 0) := rfl
theorem y_310_1 {b : Bool} : g_co (gX b) 310 1 = some (.getfield 42) := rfl
theorem y_310_4 {b : Bool} : g_co (gX b) 310 4 = some (.aload_n 0) := rfl
theorem y_310_5 {b : Bool} : g_co (gX b) 310 5 = some (.getfield 31) := rfl
theorem y_310_8 {b : Bool} : g_co (gX b) 310 8 = some (.aload_n 0) := rfl
theorem y_310_9 {b : Bool} : g_co (gX b) 310 9 = some (.getfield 12) := rfl
theorem y_310_12 {b : Bool} : g_co (gX b) 310 12 = some (.invokevirtual 134) := rfl
theorem y_310_15 {b : Bool} : g_co (gX b) 310 15 = some (.iastore) := rfl
theorem y_310_16 {b : Bool} : g_co (gX b) 310 16 = some (.aload_n 0) := rfl
theorem y_310_17 {b : Bool} : g_co (gX b) 310 17 = some (.getfield 12) := rfl
theorem y_310_20 {b : Bool} : g_co (gX b) 310 20 = some (.getfield 122) := rfl
theorem y_310_23 {b : Bool} : g_co (gX b) 310 23 = some (.iconst 0) := rfl
theorem y_310_24 {b : Bool} : g_co (gX b) 310 24 = some (.aload_n 0) := rfl
theorem y_310_25 {b : Bool} : g_co (gX b) 310 25 = some (.getfield 45) := rfl
theorem y_310_28 {b : Bool} : g_co (gX b) 310 28 = some (.aload_n 0) := rfl
theorem y_310_29 {b : Bool} : g_co (gX b) 310 29 = some (.getfield 31) := rfl
theorem y_310_32 {b : Bool} : g_co (gX b) 310 32 = some (.bipush 10) := rfl
theorem y_310_34 {b : Bool} : g_co (gX b) 310 34 = some (.imul) := rfl
theorem y_310_35 {b : Bool} : g_co (gX b) 310 35 = some (.bipush 10) := rfl
theorem y_310_37 {b : Bool} : g_co (gX b) 310 37 = some (.invokestatic 125) := rfl
theorem y_310_40 {b : Bool} : g_co (gX b) 310 40 = some (.return_) := rfl
theorem yf_310_42 {b : Bool} : g_fl (gX b) 310 42 = some (9, 9, 9) := rfl
theorem yf_310_31 {b : Bool} : g_fl (gX b) 310 31 = some (9, 5, 0) := rfl
theorem yf_310_12 {b : Bool} : g_fl (gX b) 310 12 = some (9, 0, 9) := rfl
theorem ym_310_134 {b : Bool} : g_ml (gX b) 310 134 = some (0, 229, 0, 3) := rfl
theorem yf_310_122 {b : Bool} : g_fl (gX b) 310 122 = some (3, 0, 9) := rfl
theorem yf_310_45 {b : Bool} : g_fl (gX b) 310 45 = some (9, 10, 9) := rfl
theorem yn_310_125 {b : Bool} : g_ml (gX b) 310 125 = none := rfl
theorem yz_310_125 {b : Bool} : g_nt (gX b) 310 125 = 1 := rfl
theorem yx_311 {b : Bool} : g_mx (gX b) 311 = 7 := rfl
theorem yt_311 {b : Bool} : g_rt (gX b) 311 = 3 := rfl
theorem y_311_0 {b : Bool} : g_co (gX b) 311 0 = some (.lconst 0) := rfl
theorem y_311_1 {b : Bool} : g_co (gX b) 311 1 = some (.lstore_n 2) := rfl
theorem y_311_2 {b : Bool} : g_co (gX b) 311 2 = some (.aload_n 0) := rfl
theorem y_311_3 {b : Bool} : g_co (gX b) 311 3 = some (.iload_n 1) := rfl
theorem y_311_4 {b : Bool} : g_co (gX b) 311 4 = some (.invokevirtual 138) := rfl
theorem y_311_7 {b : Bool} : g_co (gX b) 311 7 = some (.istore 4) := rfl
theorem y_311_9 {b : Bool} : g_co (gX b) 311 9 = some (.iconst 0) := rfl
theorem y_311_10 {b : Bool} : g_co (gX b) 311 10 = some (.istore 5) := rfl
theorem y_311_12 {b : Bool} : g_co (gX b) 311 12 = some (.iload 5) := rfl
theorem y_311_14 {b : Bool} : g_co (gX b) 311 14 = some (.iload_n 1) := rfl
theorem y_311_15 {b : Bool} : g_co (gX b) 311 15 = some (.if_icmp .ge 81) := rfl
theorem y_311_18 {b : Bool} : g_co (gX b) 311 18 = some (.aload_n 0) := rfl
theorem y_311_19 {b : Bool} : g_co (gX b) 311 19 = some (.getfield 18) := rfl
theorem y_311_22 {b : Bool} : g_co (gX b) 311 22 = some (.iload_n 1) := rfl
theorem y_311_23 {b : Bool} : g_co (gX b) 311 23 = some (.iaload) := rfl
theorem y_311_24 {b : Bool} : g_co (gX b) 311 24 = some (.bipush 8) := rfl
theorem y_311_26 {b : Bool} : g_co (gX b) 311 26 = some (.if_icmp .lt 23) := rfl
theorem y_311_29 {b : Bool} : g_co (gX b) 311 29 = some (.aload_n 0) := rfl
theorem y_311_30 {b : Bool} : g_co (gX b) 311 30 = some (.getfield 18) := rfl
theorem y_311_33 {b : Bool} : g_co (gX b) 311 33 = some (.iload 5) := rfl
theorem y_311_35 {b : Bool} : g_co (gX b) 311 35 = some (.iaload) := rfl
theorem y_311_36 {b : Bool} : g_co (gX b) 311 36 = some (.aload_n 0) := rfl
theorem y_311_37 {b : Bool} : g_co (gX b) 311 37 = some (.getfield 18) := rfl
theorem y_311_40 {b : Bool} : g_co (gX b) 311 40 = some (.iload_n 1) := rfl
theorem y_311_41 {b : Bool} : g_co (gX b) 311 41 = some (.iaload) := rfl
theorem y_311_42 {b : Bool} : g_co (gX b) 311 42 = some (.if_icmp .ne 7) := rfl
theorem y_311_45 {b : Bool} : g_co (gX b) 311 45 = some (.iconst 1) := rfl
theorem y_311_46 {b : Bool} : g_co (gX b) 311 46 = some (.goto 4) := rfl
theorem y_311_49 {b : Bool} : g_co (gX b) 311 49 = some (.iconst 0) := rfl
theorem y_311_50 {b : Bool} : g_co (gX b) 311 50 = some (.istore 6) := rfl
theorem y_311_52 {b : Bool} : g_co (gX b) 311 52 = some (.iload 6) := rfl
theorem y_311_54 {b : Bool} : g_co (gX b) 311 54 = some (.ifCond .ne 21) := rfl
theorem y_311_57 {b : Bool} : g_co (gX b) 311 57 = some (.iload 5) := rfl
theorem y_311_59 {b : Bool} : g_co (gX b) 311 59 = some (.aload_n 0) := rfl
theorem y_311_60 {b : Bool} : g_co (gX b) 311 60 = some (.getfield 22) := rfl
theorem y_311_63 {b : Bool} : g_co (gX b) 311 63 = some (.iload_n 1) := rfl
theorem y_311_64 {b : Bool} : g_co (gX b) 311 64 = some (.iaload) := rfl
theorem y_311_65 {b : Bool} : g_co (gX b) 311 65 = some (.if_icmp .eq 10) := rfl
theorem y_311_68 {b : Bool} : g_co (gX b) 311 68 = some (.iload 5) := rfl
theorem y_311_70 {b : Bool} : g_co (gX b) 311 70 = some (.iload 4) := rfl
theorem y_311_72 {b : Bool} : g_co (gX b) 311 72 = some (.if_icmp .ne 18) := rfl
theorem y_311_75 {b : Bool} : g_co (gX b) 311 75 = some (.lload_n 2) := rfl
theorem y_311_76 {b : Bool} : g_co (gX b) 311 76 = some (.lconst 1) := rfl
theorem y_311_77 {b : Bool} : g_co (gX b) 311 77 = some (.iload 5) := rfl
theorem y_311_79 {b : Bool} : g_co (gX b) 311 79 = some (.lshl) := rfl
theorem y_311_80 {b : Bool} : g_co (gX b) 311 80 = some (.aload_n 0) := rfl
theorem y_311_81 {b : Bool} : g_co (gX b) 311 81 = some (.getfield 38) := rfl
theorem y_311_84 {b : Bool} : g_co (gX b) 311 84 = some (.iload 5) := rfl
theorem y_311_86 {b : Bool} : g_co (gX b) 311 86 = some (.laload) := rfl
theorem y_311_87 {b : Bool} : g_co (gX b) 311 87 = some (.lor) := rfl
theorem y_311_88 {b : Bool} : g_co (gX b) 311 88 = some (.lor) := rfl
theorem y_311_89 {b : Bool} : g_co (gX b) 311 89 = some (.lstore_n 2) := rfl
theorem y_311_90 {b : Bool} : g_co (gX b) 311 90 = some (.iinc 5 1) := rfl
theorem y_311_93 {b : Bool} : g_co (gX b) 311 93 = some (.goto (-81)) := rfl
theorem y_311_96 {b : Bool} : g_co (gX b) 311 96 = some (.lload_n 2) := rfl
theorem y_311_97 {b : Bool} : g_co (gX b) 311 97 = some (.lreturn) := rfl
theorem ym_311_138 {b : Bool} : g_ml (gX b) 311 138 = some (0, 312, 1, 9) := rfl
theorem yf_311_18 {b : Bool} : g_fl (gX b) 311 18 = some (9, 1, 9) := rfl
theorem yf_311_22 {b : Bool} : g_fl (gX b) 311 22 = some (9, 2, 9) := rfl
theorem yf_311_38 {b : Bool} : g_fl (gX b) 311 38 = some (9, 8, 9) := rfl
theorem yx_312 {b : Bool} : g_mx (gX b) 312 = 4 := rfl
theorem yt_312 {b : Bool} : g_rt (gX b) 312 = 1 := rfl
theorem y_312_0 {b : Bool} : g_co (gX b) 312 0 = some (.aload_n 0) := rfl
theorem y_312_1 {b : Bool} : g_co (gX b) 312 1 = some (.getfield 18) := rfl
theorem y_312_4 {b : Bool} : g_co (gX b) 312 4 = some (.iload_n 1) := rfl
theorem y_312_5 {b : Bool} : g_co (gX b) 312 5 = some (.iaload) := rfl
theorem y_312_6 {b : Bool} : g_co (gX b) 312 6 = some (.bipush 8) := rfl
theorem y_312_8 {b : Bool} : g_co (gX b) 312 8 = some (.if_icmp .lt 5) := rfl
theorem y_312_11 {b : Bool} : g_co (gX b) 312 11 = some (.iconst (-1)) := rfl
theorem y_312_12 {b : Bool} : g_co (gX b) 312 12 = some (.ireturn) := rfl
theorem y_312_13 {b : Bool} : g_co (gX b) 312 13 = some (.iconst 1) := rfl
theorem y_312_14 {b : Bool} : g_co (gX b) 312 14 = some (.aload_n 0) := rfl
theorem y_312_15 {b : Bool} : g_co (gX b) 312 15 = some (.getfield 18) := rfl
theorem y_312_18 {b : Bool} : g_co (gX b) 312 18 = some (.iload_n 1) := rfl
theorem y_312_19 {b : Bool} : g_co (gX b) 312 19 = some (.iaload) := rfl
theorem y_312_20 {b : Bool} : g_co (gX b) 312 20 = some (.ishl) := rfl
theorem y_312_21 {b : Bool} : g_co (gX b) 312 21 = some (.istore_n 2) := rfl
theorem y_312_22 {b : Bool} : g_co (gX b) 312 22 = some (.iload_n 1) := rfl
theorem y_312_23 {b : Bool} : g_co (gX b) 312 23 = some (.iconst 1) := rfl
theorem y_312_24 {b : Bool} : g_co (gX b) 312 24 = some (.isub) := rfl
theorem y_312_25 {b : Bool} : g_co (gX b) 312 25 = some (.istore_n 3) := rfl
theorem y_312_26 {b : Bool} : g_co (gX b) 312 26 = some (.iload_n 3) := rfl
theorem y_312_27 {b : Bool} : g_co (gX b) 312 27 = some (.ifCond .lt 35) := rfl
theorem y_312_30 {b : Bool} : g_co (gX b) 312 30 = some (.aload_n 0) := rfl
theorem y_312_31 {b : Bool} : g_co (gX b) 312 31 = some (.getfield 42) := rfl
theorem y_312_34 {b : Bool} : g_co (gX b) 312 34 = some (.iload_n 3) := rfl
theorem y_312_35 {b : Bool} : g_co (gX b) 312 35 = some (.iconst 1) := rfl
theorem y_312_36 {b : Bool} : g_co (gX b) 312 36 = some (.iadd) := rfl
theorem y_312_37 {b : Bool} : g_co (gX b) 312 37 = some (.iaload) := rfl
theorem y_312_38 {b : Bool} : g_co (gX b) 312 38 = some (.iload_n 2) := rfl
theorem y_312_39 {b : Bool} : g_co (gX b) 312 39 = some (.iand) := rfl
theorem y_312_40 {b : Bool} : g_co (gX b) 312 40 = some (.ifCond .eq 16) := rfl
theorem y_312_43 {b : Bool} : g_co (gX b) 312 43 = some (.aload_n 0) := rfl
theorem y_312_44 {b : Bool} : g_co (gX b) 312 44 = some (.getfield 42) := rfl
theorem y_312_47 {b : Bool} : g_co (gX b) 312 47 = some (.iload_n 3) := rfl
theorem y_312_48 {b : Bool} : g_co (gX b) 312 48 = some (.iaload) := rfl
theorem y_312_49 {b : Bool} : g_co (gX b) 312 49 = some (.iload_n 2) := rfl
theorem y_312_50 {b : Bool} : g_co (gX b) 312 50 = some (.iand) := rfl
theorem y_312_51 {b : Bool} : g_co (gX b) 312 51 = some (.ifCond .ne 5) := rfl
theorem y_312_54 {b : Bool} : g_co (gX b) 312 54 = some (.iload_n 3) := rfl
theorem y_312_55 {b : Bool} : g_co (gX b) 312 55 = some (.ireturn) := rfl
theorem y_312_56 {b : Bool} : g_co (gX b) 312 56 = some (.iinc 3 (-1)) := rfl
theorem y_312_59 {b : Bool} : g_co (gX b) 312 59 = some (.goto (-33)) := rfl
theorem y_312_62 {b : Bool} : g_co (gX b) 312 62 = some (.iconst (-1)) := rfl
theorem y_312_63 {b : Bool} : g_co (gX b) 312 63 = some (.ireturn) := rfl
theorem yf_312_18 {b : Bool} : g_fl (gX b) 312 18 = some (9, 1, 9) := rfl
theorem yf_312_42 {b : Bool} : g_fl (gX b) 312 42 = some (9, 9, 9) := rfl
theorem yx_313 {b : Bool} : g_mx (gX b) 313 = 6 := rfl
theorem yt_313 {b : Bool} : g_rt (gX b) 313 = 1 := rfl
theorem y_313_0 {b : Bool} : g_co (gX b) 313 0 = some (.aload_n 0) := rfl
theorem y_313_1 {b : Bool} : g_co (gX b) 313 1 = some (.getfield 81) := rfl
theorem y_313_4 {b : Bool} : g_co (gX b) 313 4 = some (.bipush 20) := rfl
theorem y_313_6 {b : Bool} : g_co (gX b) 313 6 = some (.iadd) := rfl
theorem y_313_7 {b : Bool} : g_co (gX b) 313 7 = some (.sipush 600) := rfl
theorem y_313_10 {b : Bool} : g_co (gX b) 313 10 = some (.if_icmp .le 5) := rfl
theorem y_313_13 {b : Bool} : g_co (gX b) 313 13 = some (.iconst (-1)) := rfl
theorem y_313_14 {b : Bool} : g_co (gX b) 313 14 = some (.ireturn) := rfl
theorem y_313_15 {b : Bool} : g_co (gX b) 313 15 = some (.aload_n 0) := rfl
theorem y_313_16 {b : Bool} : g_co (gX b) 313 16 = some (.iload_n 1) := rfl
theorem y_313_17 {b : Bool} : g_co (gX b) 313 17 = some (.invokevirtual 98) := rfl
theorem y_313_20 {b : Bool} : g_co (gX b) 313 20 = some (.aload_n 0) := rfl
theorem y_313_21 {b : Bool} : g_co (gX b) 313 21 = some (.iload_n 2) := rfl
theorem y_313_22 {b : Bool} : g_co (gX b) 313 22 = some (.invokevirtual 98) := rfl
theorem y_313_25 {b : Bool} : g_co (gX b) 313 25 = some (.aload_n 0) := rfl
theorem y_313_26 {b : Bool} : g_co (gX b) 313 26 = some (.iload_n 3) := rfl
theorem y_313_27 {b : Bool} : g_co (gX b) 313 27 = some (.invokevirtual 98) := rfl
theorem y_313_30 {b : Bool} : g_co (gX b) 313 30 = some (.aload_n 0) := rfl
theorem y_313_31 {b : Bool} : g_co (gX b) 313 31 = some (.iload 4) := rfl
theorem y_313_33 {b : Bool} : g_co (gX b) 313 33 = some (.invokevirtual 98) := rfl
theorem y_313_36 {b : Bool} : g_co (gX b) 313 36 = some (.aload_n 0) := rfl
theorem y_313_37 {b : Bool} : g_co (gX b) 313 37 = some (.iload 5) := rfl
theorem y_313_39 {b : Bool} : g_co (gX b) 313 39 = some (.invokevirtual 98) := rfl
theorem y_313_42 {b : Bool} : g_co (gX b) 313 42 = some (.aload_n 0) := rfl
theorem y_313_43 {b : Bool} : g_co (gX b) 313 43 = some (.getfield 81) := rfl
theorem y_313_46 {b : Bool} : g_co (gX b) 313 46 = some (.ireturn) := rfl
theorem yf_313_81 {b : Bool} : g_fl (gX b) 313 81 = some (10, 11, 0) := rfl
theorem ym_313_98 {b : Bool} : g_ml (gX b) 313 98 = some (0, 351, 1, 10) := rfl
theorem yx_314 {b : Bool} : g_mx (gX b) 314 = 4 := rfl
theorem yt_314 {b : Bool} : g_rt (gX b) 314 = 1 := rfl
theorem y_314_0 {b : Bool} : g_co (gX b) 314 0 = some (.iload_n 1) := rfl
theorem y_314_1 {b : Bool} : g_co (gX b) 314 1 = some (.ifCond .lt 11) := rfl
theorem y_314_4 {b : Bool} : g_co (gX b) 314 4 = some (.iload_n 1) := rfl
theorem y_314_5 {b : Bool} : g_co (gX b) 314 5 = some (.aload_n 0) := rfl
theorem y_314_6 {b : Bool} : g_co (gX b) 314 6 = some (.getfield 81) := rfl
theorem y_314_9 {b : Bool} : g_co (gX b) 314 9 = some (.if_icmp .le 11) := rfl
theorem y_314_12 {b : Bool} : g_co (gX b) 314 12 = some (.new 102) := rfl
theorem y_314_15 {b : Bool} : g_co (gX b) 314 15 = some (.dup) := rfl
theorem y_314_16 {b : Bool} : g_co (gX b) 314 16 = some (.invokespecial 104) := rfl
theorem y_314_19 {b : Bool} : g_co (gX b) 314 19 = some (.athrow) := rfl
theorem y_314_20 {b : Bool} : g_co (gX b) 314 20 = some (.aload_n 0) := rfl
theorem y_314_21 {b : Bool} : g_co (gX b) 314 21 = some (.getfield 38) := rfl
theorem y_314_24 {b : Bool} : g_co (gX b) 314 24 = some (.iload_n 1) := rfl
theorem y_314_25 {b : Bool} : g_co (gX b) 314 25 = some (.aload_n 0) := rfl
theorem y_314_26 {b : Bool} : g_co (gX b) 314 26 = some (.getfield 30) := rfl
theorem y_314_29 {b : Bool} : g_co (gX b) 314 29 = some (.invokevirtual 105) := rfl
theorem y_314_32 {b : Bool} : g_co (gX b) 314 32 = some (.istore_n 2) := rfl
theorem y_314_33 {b : Bool} : g_co (gX b) 314 33 = some (.aload_n 0) := rfl
theorem y_314_34 {b : Bool} : g_co (gX b) 314 34 = some (.iconst 0) := rfl
theorem y_314_35 {b : Bool} : g_co (gX b) 314 35 = some (.putfield 81) := rfl
theorem y_314_38 {b : Bool} : g_co (gX b) 314 38 = some (.aload_n 0) := rfl
theorem y_314_39 {b : Bool} : g_co (gX b) 314 39 = some (.aload_n 0) := rfl
theorem y_314_40 {b : Bool} : g_co (gX b) 314 40 = some (.getfield 38) := rfl
theorem y_314_43 {b : Bool} : g_co (gX b) 314 43 = some (.getfield 109) := rfl
theorem y_314_46 {b : Bool} : g_co (gX b) 314 46 = some (.putfield 85) := rfl
theorem y_314_49 {b : Bool} : g_co (gX b) 314 49 = some (.iload_n 2) := rfl
theorem y_314_50 {b : Bool} : g_co (gX b) 314 50 = some (.ifCond .eq 8) := rfl
theorem y_314_53 {b : Bool} : g_co (gX b) 314 53 = some (.iload_n 2) := rfl
theorem y_314_54 {b : Bool} : g_co (gX b) 314 54 = some (.bipush 10) := rfl
theorem y_314_56 {b : Bool} : g_co (gX b) 314 56 = some (.isub) := rfl
theorem y_314_57 {b : Bool} : g_co (gX b) 314 57 = some (.ireturn) := rfl
theorem y_314_58 {b : Bool} : g_co (gX b) 314 58 = some (.aload_n 0) := rfl
theorem y_314_59 {b : Bool} : g_co (gX b) 314 59 = some (.getfield 27) := rfl
theorem y_314_62 {b : Bool} : g_co (gX b) 314 62 = some (.astore_n 3) := rfl
theorem y_314_63 {b : Bool} : g_co (gX b) 314 63 = some (.aload_n 0) := rfl
theorem y_314_64 {b : Bool} : g_co (gX b) 314 64 = some (.aload_n 0) := rfl
theorem y_314_65 {b : Bool} : g_co (gX b) 314 65 = some (.getfield 23) := rfl
theorem y_314_68 {b : Bool} : g_co (gX b) 314 68 = some (.putfield 27) := rfl
theorem y_314_71 {b : Bool} : g_co (gX b) 314 71 = some (.aload_n 0) := rfl
theorem y_314_72 {b : Bool} : g_co (gX b) 314 72 = some (.aload_n 0) := rfl
theorem y_314_73 {b : Bool} : g_co (gX b) 314 73 = some (.getfield 30) := rfl
theorem y_314_76 {b : Bool} : g_co (gX b) 314 76 = some (.putfield 23) := rfl
theorem y_314_79 {b : Bool} : g_co (gX b) 314 79 = some (.aload_n 0) := rfl
theorem y_314_80 {b : Bool} : g_co (gX b) 314 80 = some (.aload_n 3) := rfl
theorem y_314_81 {b : Bool} : g_co (gX b) 314 81 = some (.putfield 30) := rfl
theorem y_314_84 {b : Bool} : g_co (gX b) 314 84 = some (.aload_n 0) := rfl
theorem y_314_85 {b : Bool} : g_co (gX b) 314 85 = some (.getfield 47) := rfl
theorem y_314_88 {b : Bool} : g_co (gX b) 314 88 = some (.aload_n 0) := rfl
theorem y_314_89 {b : Bool} : g_co (gX b) 314 89 = some (.getfield 23) := rfl
theorem y_314_92 {b : Bool} : g_co (gX b) 314 92 = some (.putfield 112) := rfl
theorem y_314_95 {b : Bool} : g_co (gX b) 314 95 = some (.aload_n 0) := rfl
theorem y_314_96 {b : Bool} : g_co (gX b) 314 96 = some (.invokevirtual 115) := rfl
theorem y_314_99 {b : Bool} : g_co (gX b) 314 99 = some (.aload_n 0) := rfl
theorem y_314_100 {b : Bool} : g_co (gX b) 314 100 = some (.getfield 56) := rfl
theorem y_314_103 {b : Bool} : g_co (gX b) 314 103 = some (.invokevirtual 94) := rfl
theorem y_314_106 {b : Bool} : g_co (gX b) 314 106 = some (.aload_n 0) := rfl
theorem y_314_107 {b : Bool} : g_co (gX b) 314 107 = some (.getfield 70) := rfl
theorem y_314_110 {b : Bool} : g_co (gX b) 314 110 = some (.invokevirtual 97) := rfl
theorem y_314_113 {b : Bool} : g_co (gX b) 314 113 = some (.aload_n 0) := rfl
theorem y_314_114 {b : Bool} : g_co (gX b) 314 114 = some (.getfield 23) := rfl
theorem y_314_117 {b : Bool} : g_co (gX b) 314 117 = some (.getfield 118) := rfl
theorem y_314_120 {b : Bool} : g_co (gX b) 314 120 = some (.ireturn) := rfl
theorem yf_314_81 {b : Bool} : g_fl (gX b) 314 81 = some (10, 11, 0) := rfl
theorem yf_314_38 {b : Bool} : g_fl (gX b) 314 38 = some (10, 5, 9) := rfl
theorem yf_314_30 {b : Bool} : g_fl (gX b) 314 30 = some (10, 4, 2) := rfl
theorem ym_314_105 {b : Bool} : g_ml (gX b) 314 105 = some (0, 255, 2, 6) := rfl
theorem yf_314_109 {b : Bool} : g_fl (gX b) 314 109 = some (6, 6, 0) := rfl
theorem yf_314_85 {b : Bool} : g_fl (gX b) 314 85 = some (10, 12, 0) := rfl
theorem yf_314_27 {b : Bool} : g_fl (gX b) 314 27 = some (10, 3, 2) := rfl
theorem yf_314_23 {b : Bool} : g_fl (gX b) 314 23 = some (10, 2, 2) := rfl
theorem yf_314_47 {b : Bool} : g_fl (gX b) 314 47 = some (10, 6, 9) := rfl
theorem yf_314_112 {b : Bool} : g_fl (gX b) 314 112 = some (1, 2, 2) := rfl
theorem ym_314_115 {b : Bool} : g_ml (gX b) 314 115 = some (0, 352, 0, 10) := rfl
theorem yf_314_56 {b : Bool} : g_fl (gX b) 314 56 = some (10, 7, 9) := rfl
theorem ym_314_94 {b : Bool} : g_ml (gX b) 314 94 = some (0, 298, 0, 9) := rfl
theorem yf_314_70 {b : Bool} : g_fl (gX b) 314 70 = some (10, 9, 9) := rfl
theorem ym_314_97 {b : Bool} : g_ml (gX b) 314 97 = some (0, 244, 0, 4) := rfl
theorem yf_314_118 {b : Bool} : g_fl (gX b) 314 118 = some (5, 4, 0) := rfl
theorem yx_315 {b : Bool} : g_mx (gX b) 315 = 1 := rfl
theorem yt_315 {b : Bool} : g_rt (gX b) 315 = 1 := rfl
theorem y_315_0 {b : Bool} : g_co (gX b) 315 0 = some (.aload_n 0) := rfl
theorem y_315_1 {b : Bool} : g_co (gX b) 315 1 = some (.getfield 85) := rfl
theorem y_315_4 {b : Bool} : g_co (gX b) 315 4 = some (.ireturn) := rfl
theorem yf_315_85 {b : Bool} : g_fl (gX b) 315 85 = some (10, 12, 0) := rfl
theorem yx_316 {b : Bool} : g_mx (gX b) 316 = 2 := rfl
theorem yt_316 {b : Bool} : g_rt (gX b) 316 = 1 := rfl
theorem y_316_0 {b : Bool} : g_co (gX b) 316 0 = some (.aload_n 0) := rfl
theorem y_316_1 {b : Bool} : g_co (gX b) 316 1 = some (.getfield 56) := rfl
theorem y_316_4 {b : Bool} : g_co (gX b) 316 4 = some (.getfield 121) := rfl
theorem y_316_7 {b : Bool} : g_co (gX b) 316 7 = some (.istore_n 1) := rfl
theorem y_316_8 {b : Bool} : g_co (gX b) 316 8 = some (.aload_n 0) := rfl
theorem y_316_9 {b : Bool} : g_co (gX b) 316 9 = some (.getfield 56) := rfl
theorem y_316_12 {b : Bool} : g_co (gX b) 316 12 = some (.invokevirtual 94) := rfl
theorem y_316_15 {b : Bool} : g_co (gX b) 316 15 = some (.iload_n 1) := rfl
theorem y_316_16 {b : Bool} : g_co (gX b) 316 16 = some (.ireturn) := rfl
theorem yf_316_56 {b : Bool} : g_fl (gX b) 316 56 = some (10, 7, 9) := rfl
theorem yf_316_121 {b : Bool} : g_fl (gX b) 316 121 = some (9, 5, 0) := rfl
theorem ym_316_94 {b : Bool} : g_ml (gX b) 316 94 = some (0, 298, 0, 9) := rfl
theorem yx_317 {b : Bool} : g_mx (gX b) 317 = 2 := rfl
theorem yt_317 {b : Bool} : g_rt (gX b) 317 = 2 := rfl
theorem y_317_0 {b : Bool} : g_co (gX b) 317 0 = some (.aload_n 0) := rfl
theorem y_317_1 {b : Bool} : g_co (gX b) 317 1 = some (.iload_n 1) := rfl
theorem y_317_2 {b : Bool} : g_co (gX b) 317 2 = some (.invokevirtual 124) := rfl
theorem y_317_5 {b : Bool} : g_co (gX b) 317 5 = some (.aload_n 0) := rfl
theorem y_317_6 {b : Bool} : g_co (gX b) 317 6 = some (.getfield 47) := rfl
theorem y_317_9 {b : Bool} : g_co (gX b) 317 9 = some (.aload_n 0) := rfl
theorem y_317_10 {b : Bool} : g_co (gX b) 317 10 = some (.getfield 56) := rfl
theorem y_317_13 {b : Bool} : g_co (gX b) 317 13 = some (.getfield 127) := rfl
theorem y_317_16 {b : Bool} : g_co (gX b) 317 16 = some (.iload_n 1) := rfl
theorem y_317_17 {b : Bool} : g_co (gX b) 317 17 = some (.invokevirtual 131) := rfl
theorem y_317_20 {b : Bool} : g_co (gX b) 317 20 = some (.ireturn) := rfl
theorem ym_317_124 {b : Bool} : g_ml (gX b) 317 124 = some (0, 354, 1, 10) := rfl
theorem yf_317_47 {b : Bool} : g_fl (gX b) 317 47 = some (10, 6, 9) := rfl
theorem yf_317_56 {b : Bool} : g_fl (gX b) 317 56 = some (10, 7, 9) := rfl
theorem yf_317_127 {b : Bool} : g_fl (gX b) 317 127 = some (9, 0, 9) := rfl
theorem ym_317_131 {b : Bool} : g_ml (gX b) 317 131 = some (0, 206, 2, 1) := rfl
theorem yx_318 {b : Bool} : g_mx (gX b) 318 = 2 := rfl
theorem yt_318 {b : Bool} : g_rt (gX b) 318 = 1 := rfl
theorem y_318_0 {b : Bool} : g_co (gX b) 318 0 = some (.aload_n 0) := rfl
theorem y_318_1 {b : Bool} : g_co (gX b) 318 1 = some (.iload_n 1) := rfl
theorem y_318_2 {b : Bool} : g_co (gX b) 318 2 = some (.invokevirtual 124) := rfl
theorem y_318_5 {b : Bool} : g_co (gX b) 318 5 = some (.aload_n 0) := rfl
theorem y_318_6 {b : Bool} : g_co (gX b) 318 6 = some (.getfield 47) := rfl
theorem y_318_9 {b : Bool} : g_co (gX b) 318 9 = some (.aload_n 0) := rfl
theorem y_318_10 {b : Bool} : g_co (gX b) 318 10 = some (.getfield 56) := rfl
theorem y_318_13 {b : Bool} : g_co (gX b) 318 13 = some (.getfield 127) := rfl
theorem y_318_16 {b : Bool} : g_co (gX b) 318 16 = some (.iload_n 1) := rfl
theorem y_318_17 {b : Bool} : g_co (gX b) 318 17 = some (.invokevirtual 131) := rfl
theorem y_318_20 {b : Bool} : g_co (gX b) 318 20 = some (.ifCond .ne 5) := rfl
theorem y_318_23 {b : Bool} : g_co (gX b) 318 23 = some (.iconst (-1)) := rfl
theorem y_318_24 {b : Bool} : g_co (gX b) 318 24 = some (.ireturn) := rfl
theorem y_318_25 {b : Bool} : g_co (gX b) 318 25 = some (.aload_n 0) := rfl
theorem y_318_26 {b : Bool} : g_co (gX b) 318 26 = some (.getfield 56) := rfl
theorem y_318_29 {b : Bool} : g_co (gX b) 318 29 = some (.getfield 121) := rfl
theorem y_318_32 {b : Bool} : g_co (gX b) 318 32 = some (.bipush 40) := rfl
theorem y_318_34 {b : Bool} : g_co (gX b) 318 34 = some (.if_icmp .lt 6) := rfl
theorem y_318_37 {b : Bool} : g_co (gX b) 318 37 = some (.bipush (-2)) := rfl
theorem y_318_39 {b : Bool} : g_co (gX b) 318 39 = some (.ireturn) := rfl
theorem y_318_40 {b : Bool} : g_co (gX b) 318 40 = some (.aload_n 0) := rfl
theorem y_318_41 {b : Bool} : g_co (gX b) 318 41 = some (.getfield 56) := rfl
theorem y_318_44 {b : Bool} : g_co (gX b) 318 44 = some (.iload_n 1) := rfl
theorem y_318_45 {b : Bool} : g_co (gX b) 318 45 = some (.invokevirtual 135) := rfl
theorem y_318_48 {b : Bool} : g_co (gX b) 318 48 = some (.ireturn) := rfl
theorem ym_318_124 {b : Bool} : g_ml (gX b) 318 124 = some (0, 354, 1, 10) := rfl
theorem yf_318_47 {b : Bool} : g_fl (gX b) 318 47 = some (10, 6, 9) := rfl
theorem yf_318_56 {b : Bool} : g_fl (gX b) 318 56 = some (10, 7, 9) := rfl
theorem yf_318_127 {b : Bool} : g_fl (gX b) 318 127 = some (9, 0, 9) := rfl
theorem ym_318_131 {b : Bool} : g_ml (gX b) 318 131 = some (0, 206, 2, 1) := rfl
theorem yf_318_121 {b : Bool} : g_fl (gX b) 318 121 = some (9, 5, 0) := rfl
theorem ym_318_135 {b : Bool} : g_ml (gX b) 318 135 = some (0, 299, 1, 9) := rfl
theorem yx_319 {b : Bool} : g_mx (gX b) 319 = 2 := rfl
theorem yt_319 {b : Bool} : g_rt (gX b) 319 = 1 := rfl
theorem y_319_0 {b : Bool} : g_co (gX b) 319 0 = some (.aload_n 0) := rfl
theorem y_319_1 {b : Bool} : g_co (gX b) 319 1 = some (.iload_n 1) := rfl
theorem y_319_2 {b : Bool} : g_co (gX b) 319 2 = some (.bipush 8) := rfl
theorem y_319_4 {b : Bool} : g_co (gX b) 319 4 = some (.invokevirtual 139) := rfl
theorem y_319_7 {b : Bool} : g_co (gX b) 319 7 = some (.aload_n 0) := rfl
theorem y_319_8 {b : Bool} : g_co (gX b) 319 8 = some (.getfield 56) := rfl
theorem y_319_11 {b : Bool} : g_co (gX b) 319 11 = some (.getfield 127) := rfl
theorem y_319_14 {b : Bool} : g_co (gX b) 319 14 = some (.getfield 143) := rfl
theorem y_319_17 {b : Bool} : g_co (gX b) 319 17 = some (.iload_n 1) := rfl
theorem y_319_18 {b : Bool} : g_co (gX b) 319 18 = some (.iaload) := rfl
theorem y_319_19 {b : Bool} : g_co (gX b) 319 19 = some (.ireturn) := rfl
theorem ym_319_139 {b : Bool} : g_ml (gX b) 319 139 = some (0, 355, 2, 10) := rfl
theorem yf_319_56 {b : Bool} : g_fl (gX b) 319 56 = some (10, 7, 9) := rfl
theorem yf_319_127 {b : Bool} : g_fl (gX b) 319 127 = some (9, 0, 9) := rfl
theorem yf_319_143 {b : Bool} : g_fl (gX b) 319 143 = some (3, 0, 9) := rfl
theorem yx_320 {b : Bool} : g_mx (gX b) 320 = 4 := rfl
theorem yt_320 {b : Bool} : g_rt (gX b) 320 = 1 := rfl
theorem y_320_0 {b : Bool} : g_co (gX b) 320 0 = some (.aload_n 0) := rfl
theorem y_320_1 {b : Bool} : g_co (gX b) 320 1 = some (.iload_n 1) := rfl
theorem y_320_2 {b : Bool} : g_co (gX b) 320 2 = some (.bipush 8) := rfl
theorem y_320_4 {b : Bool} : g_co (gX b) 320 4 = some (.invokevirtual 139) := rfl
theorem y_320_7 {b : Bool} : g_co (gX b) 320 7 = some (.aload_n 0) := rfl
theorem y_320_8 {b : Bool} : g_co (gX b) 320 8 = some (.getfield 56) := rfl
theorem y_320_11 {b : Bool} : g_co (gX b) 320 11 = some (.getfield 127) := rfl
theorem y_320_14 {b : Bool} : g_co (gX b) 320 14 = some (.getfield 143) := rfl
theorem y_320_17 {b : Bool} : g_co (gX b) 320 17 = some (.bipush 8) := rfl
theorem y_320_19 {b : Bool} : g_co (gX b) 320 19 = some (.iaload) := rfl
theorem y_320_20 {b : Bool} : g_co (gX b) 320 20 = some (.iload_n 1) := rfl
theorem y_320_21 {b : Bool} : g_co (gX b) 320 21 = some (.ishr) := rfl
theorem y_320_22 {b : Bool} : g_co (gX b) 320 22 = some (.iconst 1) := rfl
theorem y_320_23 {b : Bool} : g_co (gX b) 320 23 = some (.iand) := rfl
theorem y_320_24 {b : Bool} : g_co (gX b) 320 24 = some (.istore_n 2) := rfl
theorem y_320_25 {b : Bool} : g_co (gX b) 320 25 = some (.aload_n 0) := rfl
theorem y_320_26 {b : Bool} : g_co (gX b) 320 26 = some (.getfield 56) := rfl
theorem y_320_29 {b : Bool} : g_co (gX b) 320 29 = some (.getfield 127) := rfl
theorem y_320_32 {b : Bool} : g_co (gX b) 320 32 = some (.getfield 143) := rfl
theorem y_320_35 {b : Bool} : g_co (gX b) 320 35 = some (.bipush 9) := rfl
theorem y_320_37 {b : Bool} : g_co (gX b) 320 37 = some (.iaload) := rfl
theorem y_320_38 {b : Bool} : g_co (gX b) 320 38 = some (.iload_n 1) := rfl
theorem y_320_39 {b : Bool} : g_co (gX b) 320 39 = some (.ishr) := rfl
theorem y_320_40 {b : Bool} : g_co (gX b) 320 40 = some (.iconst 1) := rfl
theorem y_320_41 {b : Bool} : g_co (gX b) 320 41 = some (.iand) := rfl
theorem y_320_42 {b : Bool} : g_co (gX b) 320 42 = some (.istore_n 3) := rfl
theorem y_320_43 {b : Bool} : g_co (gX b) 320 43 = some (.iload_n 2) := rfl
theorem y_320_44 {b : Bool} : g_co (gX b) 320 44 = some (.iconst 2) := rfl
theorem y_320_45 {b : Bool} : g_co (gX b) 320 45 = some (.iload_n 3) := rfl
theorem y_320_46 {b : Bool} : g_co (gX b) 320 46 = some (.imul) := rfl
theorem y_320_47 {b : Bool} : g_co (gX b) 320 47 = some (.iadd) := rfl
theorem y_320_48 {b : Bool} : g_co (gX b) 320 48 = some (.ireturn) := rfl
theorem ym_320_139 {b : Bool} : g_ml (gX b) 320 139 = some (0, 355, 2, 10) := rfl
theorem yf_320_56 {b : Bool} : g_fl (gX b) 320 56 = some (10, 7, 9) := rfl
theorem yf_320_127 {b : Bool} : g_fl (gX b) 320 127 = some (9, 0, 9) := rfl
theorem yf_320_143 {b : Bool} : g_fl (gX b) 320 143 = some (3, 0, 9) := rfl
theorem yx_321 {b : Bool} : g_mx (gX b) 321 = 2 := rfl
theorem yt_321 {b : Bool} : g_rt (gX b) 321 = 1 := rfl
theorem y_321_0 {b : Bool} : g_co (gX b) 321 0 = some (.aload_n 0) := rfl
theorem y_321_1 {b : Bool} : g_co (gX b) 321 1 = some (.iload_n 1) := rfl
theorem y_321_2 {b : Bool} : g_co (gX b) 321 2 = some (.iconst 4) := rfl
theorem y_321_3 {b : Bool} : g_co (gX b) 321 3 = some (.invokevirtual 139) := rfl
theorem y_321_6 {b : Bool} : g_co (gX b) 321 6 = some (.aload_n 0) := rfl
theorem y_321_7 {b : Bool} : g_co (gX b) 321 7 = some (.getfield 56) := rfl
theorem y_321_10 {b : Bool} : g_co (gX b) 321 10 = some (.getfield 127) := rfl
theorem y_321_13 {b : Bool} : g_co (gX b) 321 13 = some (.getfield 143) := rfl
theorem y_321_16 {b : Bool} : g_co (gX b) 321 16 = some (.bipush 10) := rfl
theorem y_321_18 {b : Bool} : g_co (gX b) 321 18 = some (.iload_n 1) := rfl
theorem y_321_19 {b : Bool} : g_co (gX b) 321 19 = some (.iadd) := rfl
theorem y_321_20 {b : Bool} : g_co (gX b) 321 20 = some (.iaload) := rfl
theorem y_321_21 {b : Bool} : g_co (gX b) 321 21 = some (.ireturn) := rfl
theorem ym_321_139 {b : Bool} : g_ml (gX b) 321 139 = some (0, 355, 2, 10) := rfl
theorem yf_321_56 {b : Bool} : g_fl (gX b) 321 56 = some (10, 7, 9) := rfl
theorem yf_321_127 {b : Bool} : g_fl (gX b) 321 127 = some (9, 0, 9) := rfl
theorem yf_321_143 {b : Bool} : g_fl (gX b) 321 143 = some (3, 0, 9) := rfl
theorem yx_322 {b : Bool} : g_mx (gX b) 322 = 4 := rfl
theorem yt_322 {b : Bool} : g_rt (gX b) 322 = 1 := rfl
theorem y_322_0 {b : Bool} : g_co (gX b) 322 0 = some (.aload_n 0) := rfl
theorem y_322_1 {b : Bool} : g_co (gX b) 322 1 = some (.iload_n 1) := rfl
theorem y_322_2 {b : Bool} : g_co (gX b) 322 2 = some (.iconst 4) := rfl
theorem y_322_3 {b : Bool} : g_co (gX b) 322 3 = some (.invokevirtual 139) := rfl
theorem y_322_6 {b : Bool} : g_co (gX b) 322 6 = some (.aload_n 0) := rfl
theorem y_322_7 {b : Bool} : g_co (gX b) 322 7 = some (.getfield 56) := rfl
theorem y_322_10 {b : Bool} : g_co (gX b) 322 10 = some (.getfield 127) := rfl
theorem y_322_13 {b : Bool} : g_co (gX b) 322 13 = some (.iload_n 1) := rfl
theorem y_322_14 {b : Bool} : g_co (gX b) 322 14 = some (.invokevirtual 148) := rfl
theorem y_322_17 {b : Bool} : g_co (gX b) 322 17 = some (.istore_n 3) := rfl
theorem y_322_18 {b : Bool} : g_co (gX b) 322 18 = some (.iload_n 2) := rfl
theorem y_322_19 {b : Bool} : g_co (gX b) 322 19 = some (.iconst (-1)) := rfl
theorem y_322_20 {b : Bool} : g_co (gX b) 322 20 = some (.if_icmp .ne 5) := rfl
theorem y_322_23 {b : Bool} : g_co (gX b) 322 23 = some (.iload_n 3) := rfl
theorem y_322_24 {b : Bool} : g_co (gX b) 322 24 = some (.ireturn) := rfl
theorem y_322_25 {b : Bool} : g_co (gX b) 322 25 = some (.iload_n 2) := rfl
theorem y_322_26 {b : Bool} : g_co (gX b) 322 26 = some (.ifCond .lt 8) := rfl
theorem y_322_29 {b : Bool} : g_co (gX b) 322 29 = some (.iload_n 2) := rfl
theorem y_322_30 {b : Bool} : g_co (gX b) 322 30 = some (.iload_n 3) := rfl
theorem y_322_31 {b : Bool} : g_co (gX b) 322 31 = some (.if_icmp .lt 6) := rfl
theorem y_322_34 {b : Bool} : g_co (gX b) 322 34 = some (.ldc 151) := rfl
theorem y_322_36 {b : Bool} : g_co (gX b) 322 36 = some (.ireturn) := rfl
theorem y_322_37 {b : Bool} : g_co (gX b) 322 37 = some (.aload_n 0) := rfl
theorem y_322_38 {b : Bool} : g_co (gX b) 322 38 = some (.getfield 56) := rfl
theorem y_322_41 {b : Bool} : g_co (gX b) 322 41 = some (.getfield 127) := rfl
theorem y_322_44 {b : Bool} : g_co (gX b) 322 44 = some (.getfield 143) := rfl
theorem y_322_47 {b : Bool} : g_co (gX b) 322 47 = some (.bipush 20) := rfl
theorem y_322_49 {b : Bool} : g_co (gX b) 322 49 = some (.iload_n 1) := rfl
theorem y_322_50 {b : Bool} : g_co (gX b) 322 50 = some (.iconst 3) := rfl
theorem y_322_51 {b : Bool} : g_co (gX b) 322 51 = some (.imul) := rfl
theorem y_322_52 {b : Bool} : g_co (gX b) 322 52 = some (.iadd) := rfl
theorem y_322_53 {b : Bool} : g_co (gX b) 322 53 = some (.iload_n 2) := rfl
theorem y_322_54 {b : Bool} : g_co (gX b) 322 54 = some (.iadd) := rfl
theorem y_322_55 {b : Bool} : g_co (gX b) 322 55 = some (.iaload) := rfl
theorem y_322_56 {b : Bool} : g_co (gX b) 322 56 = some (.ireturn) := rfl
theorem ym_322_139 {b : Bool} : g_ml (gX b) 322 139 = some (0, 355, 2, 10) := rfl
theorem yf_322_56 {b : Bool} : g_fl (gX b) 322 56 = some (10, 7, 9) := rfl
theorem yf_322_127 {b : Bool} : g_fl (gX b) 322 127 = some (9, 0, 9) := rfl
theorem ym_322_148 {b : Bool} : g_ml (gX b) 322 148 = some (0, 230, 1, 3) := rfl
theorem yc_322_151 {b : Bool} : g_cn (gX b) 322 151 = some (-2147483648) := rfl
theorem yf_322_143 {b : Bool} : g_fl (gX b) 322 143 = some (3, 0, 9) := rfl
theorem yx_323 {b : Bool} : g_mx (gX b) 323 = 3 := rfl
theorem yt_323 {b : Bool} : g_rt (gX b) 323 = 1 := rfl
theorem y_323_0 {b : Bool} : g_co (gX b) 323 0 = some (.aload_n 0) := rfl
theorem y_323_1 {b : Bool} : g_co (gX b) 323 1 = some (.getfield 56) := rfl
theorem y_323_4 {b : Bool} : g_co (gX b) 323 4 = some (.getfield 127) := rfl
theorem y_323_7 {b : Bool} : g_co (gX b) 323 7 = some (.invokevirtual 152) := rfl
theorem y_323_10 {b : Bool} : g_co (gX b) 323 10 = some (.istore_n 2) := rfl
theorem y_323_11 {b : Bool} : g_co (gX b) 323 11 = some (.iload_n 1) := rfl
theorem y_323_12 {b : Bool} : g_co (gX b) 323 12 = some (.iconst (-1)) := rfl
theorem y_323_13 {b : Bool} : g_co (gX b) 323 13 = some (.if_icmp .ne 5) := rfl
theorem y_323_16 {b : Bool} : g_co (gX b) 323 16 = some (.iload_n 2) := rfl
theorem y_323_17 {b : Bool} : g_co (gX b) 323 17 = some (.ireturn) := rfl
theorem y_323_18 {b : Bool} : g_co (gX b) 323 18 = some (.iload_n 1) := rfl
theorem y_323_19 {b : Bool} : g_co (gX b) 323 19 = some (.ifCond .lt 8) := rfl
theorem y_323_22 {b : Bool} : g_co (gX b) 323 22 = some (.iload_n 1) := rfl
theorem y_323_23 {b : Bool} : g_co (gX b) 323 23 = some (.iload_n 2) := rfl
theorem y_323_24 {b : Bool} : g_co (gX b) 323 24 = some (.if_icmp .lt 5) := rfl
theorem y_323_27 {b : Bool} : g_co (gX b) 323 27 = some (.iconst (-1)) := rfl
theorem y_323_28 {b : Bool} : g_co (gX b) 323 28 = some (.ireturn) := rfl
theorem y_323_29 {b : Bool} : g_co (gX b) 323 29 = some (.aload_n 0) := rfl
theorem y_323_30 {b : Bool} : g_co (gX b) 323 30 = some (.getfield 56) := rfl
theorem y_323_33 {b : Bool} : g_co (gX b) 323 33 = some (.getfield 127) := rfl
theorem y_323_36 {b : Bool} : g_co (gX b) 323 36 = some (.iload_n 1) := rfl
theorem y_323_37 {b : Bool} : g_co (gX b) 323 37 = some (.invokevirtual 156) := rfl
theorem y_323_40 {b : Bool} : g_co (gX b) 323 40 = some (.ireturn) := rfl
theorem yf_323_56 {b : Bool} : g_fl (gX b) 323 56 = some (10, 7, 9) := rfl
theorem yf_323_127 {b : Bool} : g_fl (gX b) 323 127 = some (9, 0, 9) := rfl
theorem ym_323_152 {b : Bool} : g_ml (gX b) 323 152 = some (0, 233, 0, 3) := rfl
theorem ym_323_156 {b : Bool} : g_ml (gX b) 323 156 = some (0, 243, 1, 3) := rfl
theorem yx_324 {b : Bool} : g_mx (gX b) 324 = 1 := rfl
theorem yt_324 {b : Bool} : g_rt (gX b) 324 = 2 := rfl
theorem y_324_0 {b : Bool} : g_co (gX b) 324 0 = some (.aload_n 0) := rfl
theorem y_324_1 {b : Bool} : g_co (gX b) 324 1 = some (.getfield 56) := rfl
theorem y_324_4 {b : Bool} : g_co (gX b) 324 4 = some (.getfield 127) := rfl
theorem y_324_7 {b : Bool} : g_co (gX b) 324 7 = some (.invokevirtual 159) := rfl
theorem y_324_10 {b : Bool} : g_co (gX b) 324 10 = some (.ireturn) := rfl
theorem yf_324_56 {b : Bool} : g_fl (gX b) 324 56 = some (10, 7, 9) := rfl
theorem yf_324_127 {b : Bool} : g_fl (gX b) 324 127 = some (9, 0, 9) := rfl
theorem ym_324_159 {b : Bool} : g_ml (gX b) 324 159 = some (0, 228, 0, 3) := rfl
theorem yx_325 {b : Bool} : g_mx (gX b) 325 = 1 := rfl
theorem yt_325 {b : Bool} : g_rt (gX b) 325 = 2 := rfl
theorem y_325_0 {b : Bool} : g_co (gX b) 325 0 = some (.aload_n 0) := rfl
theorem y_325_1 {b : Bool} : g_co (gX b) 325 1 = some (.getfield 47) := rfl
theorem y_325_4 {b : Bool} : g_co (gX b) 325 4 = some (.aload_n 0) := rfl
theorem y_325_5 {b : Bool} : g_co (gX b) 325 5 = some (.getfield 56) := rfl
theorem y_325_8 {b : Bool} : g_co (gX b) 325 8 = some (.getfield 127) := rfl
theorem y_325_11 {b : Bool} : g_co (gX b) 325 11 = some (.invokevirtual 163) := rfl
theorem y_325_14 {b : Bool} : g_co (gX b) 325 14 = some (.ireturn) := rfl
theorem yf_325_47 {b : Bool} : g_fl (gX b) 325 47 = some (10, 6, 9) := rfl
theorem yf_325_56 {b : Bool} : g_fl (gX b) 325 56 = some (10, 7, 9) := rfl
theorem yf_325_127 {b : Bool} : g_fl (gX b) 325 127 = some (9, 0, 9) := rfl
theorem ym_325_163 {b : Bool} : g_ml (gX b) 325 163 = some (0, 210, 1, 1) := rfl
theorem yx_326 {b : Bool} : g_mx (gX b) 326 = 3 := rfl
theorem yt_326 {b : Bool} : g_rt (gX b) 326 = 1 := rfl
theorem y_326_0 {b : Bool} : g_co (gX b) 326 0 = some (.aload_n 0) := rfl
theorem y_326_1 {b : Bool} : g_co (gX b) 326 1 = some (.iload_n 1) := rfl
theorem y_326_2 {b : Bool} : g_co (gX b) 326 2 = some (.invokevirtual 167) := rfl
theorem y_326_5 {b : Bool} : g_co (gX b) 326 5 = some (.iload_n 2) := rfl
theorem y_326_6 {b : Bool} : g_co (gX b) 326 6 = some (.tableswitch 70 0 3 #[30, 40, 50, 60]) := rfl
theorem y_326_36 {b : Bool} : g_co (gX b) 326 36 = some (.aload_n 0) := rfl
theorem y_326_37 {b : Bool} : g_co (gX b) 326 37 = some (.getfield 56) := rfl
theorem y_326_40 {b : Bool} : g_co (gX b) 326 40 = some (.getfield 170) := rfl
theorem y_326_43 {b : Bool} : g_co (gX b) 326 43 = some (.iload_n 1) := rfl
theorem y_326_44 {b : Bool} : g_co (gX b) 326 44 = some (.iaload) := rfl
theorem y_326_45 {b : Bool} : g_co (gX b) 326 45 = some (.ireturn) := rfl
theorem y_326_46 {b : Bool} : g_co (gX b) 326 46 = some (.aload_n 0) := rfl
theorem y_326_47 {b : Bool} : g_co (gX b) 326 47 = some (.getfield 56) := rfl
theorem y_326_50 {b : Bool} : g_co (gX b) 326 50 = some (.getfield 173) := rfl
theorem y_326_53 {b : Bool} : g_co (gX b) 326 53 = some (.iload_n 1) := rfl
theorem y_326_54 {b : Bool} : g_co (gX b) 326 54 = some (.iaload) := rfl
theorem y_326_55 {b : Bool} : g_co (gX b) 326 55 = some (.ireturn) := rfl
theorem y_326_56 {b : Bool} : g_co (gX b) 326 56 = some (.aload_n 0) := rfl
theorem y_326_57 {b : Bool} : g_co (gX b) 326 57 = some (.getfield 56) := rfl
theorem y_326_60 {b : Bool} : g_co (gX b) 326 60 = some (.getfield 176) := rfl
theorem y_326_63 {b : Bool} : g_co (gX b) 326 63 = some (.iload_n 1) := rfl
theorem y_326_64 {b : Bool} : g_co (gX b) 326 64 = some (.iaload) := rfl
theorem y_326_65 {b : Bool} : g_co (gX b) 326 65 = some (.ireturn) := rfl
theorem y_326_66 {b : Bool} : g_co (gX b) 326 66 = some (.aload_n 0) := rfl
theorem y_326_67 {b : Bool} : g_co (gX b) 326 67 = some (.getfield 56) := rfl
theorem y_326_70 {b : Bool} : g_co (gX b) 326 70 = some (.getfield 178) := rfl
theorem y_326_73 {b : Bool} : g_co (gX b) 326 73 = some (.iload_n 1) := rfl
theorem y_326_74 {b : Bool} : g_co (gX b) 326 74 = some (.iaload) := rfl
theorem y_326_75 {b : Bool} : g_co (gX b) 326 75 = some (.ireturn) := rfl
theorem y_326_76 {b : Bool} : g_co (gX b) 326 76 = some (.new 102) := rfl
theorem y_326_79 {b : Bool} : g_co (gX b) 326 79 = some (.dup) := rfl
theorem y_326_80 {b : Bool} : g_co (gX b) 326 80 = some (.invokespecial 104) := rfl
theorem y_326_83 {b : Bool} : g_co (gX b) 326 83 = some (.athrow) := rfl
theorem ym_326_167 {b : Bool} : g_ml (gX b) 326 167 = some (0, 356, 1, 10) := rfl
theorem yf_326_56 {b : Bool} : g_fl (gX b) 326 56 = some (10, 7, 9) := rfl
theorem yf_326_170 {b : Bool} : g_fl (gX b) 326 170 = some (9, 1, 9) := rfl
theorem yf_326_173 {b : Bool} : g_fl (gX b) 326 173 = some (9, 2, 9) := rfl
theorem yf_326_176 {b : Bool} : g_fl (gX b) 326 176 = some (9, 3, 9) := rfl
theorem yf_326_178 {b : Bool} : g_fl (gX b) 326 178 = some (9, 4, 9) := rfl
theorem yx_327 {b : Bool} : g_mx (gX b) 327 = 3 := rfl
theorem yt_327 {b : Bool} : g_rt (gX b) 327 = 2 := rfl
theorem y_327_0 {b : Bool} : g_co (gX b) 327 0 = some (.aload_n 0) := rfl
theorem y_327_1 {b : Bool} : g_co (gX b) 327 1 = some (.iload_n 1) := rfl
theorem y_327_2 {b : Bool} : g_co (gX b) 327 2 = some (.invokevirtual 167) := rfl
theorem y_327_5 {b : Bool} : g_co (gX b) 327 5 = some (.aload_n 0) := rfl
theorem y_327_6 {b : Bool} : g_co (gX b) 327 6 = some (.iload_n 2) := rfl
theorem y_327_7 {b : Bool} : g_co (gX b) 327 7 = some (.invokevirtual 167) := rfl
theorem y_327_10 {b : Bool} : g_co (gX b) 327 10 = some (.aload_n 0) := rfl
theorem y_327_11 {b : Bool} : g_co (gX b) 327 11 = some (.getfield 56) := rfl
theorem y_327_14 {b : Bool} : g_co (gX b) 327 14 = some (.iload_n 1) := rfl
theorem y_327_15 {b : Bool} : g_co (gX b) 327 15 = some (.iload_n 2) := rfl
theorem y_327_16 {b : Bool} : g_co (gX b) 327 16 = some (.invokevirtual 181) := rfl
theorem y_327_19 {b : Bool} : g_co (gX b) 327 19 = some (.ireturn) := rfl
theorem ym_327_167 {b : Bool} : g_ml (gX b) 327 167 = some (0, 356, 1, 10) := rfl
theorem yf_327_56 {b : Bool} : g_fl (gX b) 327 56 = some (10, 7, 9) := rfl
theorem ym_327_181 {b : Bool} : g_ml (gX b) 327 181 = some (0, 300, 2, 9) := rfl
theorem yx_328 {b : Bool} : g_mx (gX b) 328 = 1 := rfl
theorem yt_328 {b : Bool} : g_rt (gX b) 328 = 1 := rfl
theorem y_328_0 {b : Bool} : g_co (gX b) 328 0 = some (.aload_n 0) := rfl
theorem y_328_1 {b : Bool} : g_co (gX b) 328 1 = some (.getfield 56) := rfl
theorem y_328_4 {b : Bool} : g_co (gX b) 328 4 = some (.invokevirtual 185) := rfl
theorem y_328_7 {b : Bool} : g_co (gX b) 328 7 = some (.ireturn) := rfl
theorem yf_328_56 {b : Bool} : g_fl (gX b) 328 56 = some (10, 7, 9) := rfl
theorem ym_328_185 {b : Bool} : g_ml (gX b) 328 185 = some (0, 302, 0, 9) := rfl
theorem yx_329 {b : Bool} : g_mx (gX b) 329 = 2 := rfl
theorem yt_329 {b : Bool} : g_rt (gX b) 329 = 1 := rfl
theorem y_329_0 {b : Bool} : g_co (gX b) 329 0 = some (.aload_n 0) := rfl
theorem y_329_1 {b : Bool} : g_co (gX b) 329 1 = some (.getfield 56) := rfl
theorem y_329_4 {b : Bool} : g_co (gX b) 329 4 = some (.iload_n 1) := rfl
theorem y_329_5 {b : Bool} : g_co (gX b) 329 5 = some (.invokevirtual 188) := rfl
theorem y_329_8 {b : Bool} : g_co (gX b) 329 8 = some (.ireturn) := rfl
theorem yf_329_56 {b : Bool} : g_fl (gX b) 329 56 = some (10, 7, 9) := rfl
theorem ym_329_188 {b : Bool} : g_ml (gX b) 329 188 = some (0, 303, 1, 9) := rfl
theorem yx_330 {b : Bool} : g_mx (gX b) 330 = 4 := rfl
theorem yt_330 {b : Bool} : g_rt (gX b) 330 = 1 := rfl
theorem y_330_0 {b : Bool} : g_co (gX b) 330 0 = some (.aload_n 0) := rfl
theorem y_330_1 {b : Bool} : g_co (gX b) 330 1 = some (.iload_n 1) := rfl
theorem y_330_2 {b : Bool} : g_co (gX b) 330 2 = some (.invokevirtual 167) := rfl
theorem y_330_5 {b : Bool} : g_co (gX b) 330 5 = some (.aload_n 0) := rfl
theorem y_330_6 {b : Bool} : g_co (gX b) 330 6 = some (.iload_n 2) := rfl
theorem y_330_7 {b : Bool} : g_co (gX b) 330 7 = some (.invokevirtual 167) := rfl
theorem y_330_10 {b : Bool} : g_co (gX b) 330 10 = some (.aload_n 0) := rfl
theorem y_330_11 {b : Bool} : g_co (gX b) 330 11 = some (.getfield 56) := rfl
theorem y_330_14 {b : Bool} : g_co (gX b) 330 14 = some (.iload_n 1) := rfl
theorem y_330_15 {b : Bool} : g_co (gX b) 330 15 = some (.iload_n 2) := rfl
theorem y_330_16 {b : Bool} : g_co (gX b) 330 16 = some (.invokestatic 191) := rfl
theorem y_330_19 {b : Bool} : g_co (gX b) 330 19 = some (.iload_n 1) := rfl
theorem y_330_20 {b : Bool} : g_co (gX b) 330 20 = some (.iload_n 2) := rfl
theorem y_330_21 {b : Bool} : g_co (gX b) 330 21 = some (.invokestatic 197) := rfl
theorem y_330_24 {b : Bool} : g_co (gX b) 330 24 = some (.invokevirtual 200) := rfl
theorem y_330_27 {b : Bool} : g_co (gX b) 330 27 = some (.istore_n 3) := rfl
theorem y_330_28 {b : Bool} : g_co (gX b) 330 28 = some (.iload_n 3) := rfl
theorem y_330_29 {b : Bool} : g_co (gX b) 330 29 = some (.ifCond .ne 7) := rfl
theorem y_330_32 {b : Bool} : g_co (gX b) 330 32 = some (.iconst (-1)) := rfl
theorem y_330_33 {b : Bool} : g_co (gX b) 330 33 = some (.goto 7) := rfl
theorem y_330_36 {b : Bool} : g_co (gX b) 330 36 = some (.iload_n 3) := rfl
theorem y_330_37 {b : Bool} : g_co (gX b) 330 37 = some (.invokestatic 203) := rfl
theorem y_330_40 {b : Bool} : g_co (gX b) 330 40 = some (.ireturn) := rfl
theorem ym_330_167 {b : Bool} : g_ml (gX b) 330 167 = some (0, 356, 1, 10) := rfl
theorem yf_330_56 {b : Bool} : g_fl (gX b) 330 56 = some (10, 7, 9) := rfl
theorem yn_330_191 {b : Bool} : g_ml (gX b) 330 191 = none := rfl
theorem yz_330_191 {b : Bool} : g_nt (gX b) 330 191 = 3 := rfl
theorem yn_330_197 {b : Bool} : g_ml (gX b) 330 197 = none := rfl
theorem yz_330_197 {b : Bool} : g_nt (gX b) 330 197 = 2 := rfl
theorem ym_330_200 {b : Bool} : g_ml (gX b) 330 200 = some (0, 301, 2, 9) := rfl
theorem ym_330_203 {b : Bool} : g_ml (gX b) 330 203 = some (1, 500, 1, 0) := rfl
theorem yx_331 {b : Bool} : g_mx (gX b) 331 = 5 := rfl
theorem yt_331 {b : Bool} : g_rt (gX b) 331 = 1 := rfl
theorem y_331_0 {b : Bool} : g_co (gX b) 331 0 = some (.aload_n 0) := rfl
theorem y_331_1 {b : Bool} : g_co (gX b) 331 1 = some (.iload_n 1) := rfl
theorem y_331_2 {b : Bool} : g_co (gX b) 331 2 = some (.invokevirtual 167) := rfl
theorem y_331_5 {b : Bool} : g_co (gX b) 331 5 = some (.aload_n 0) := rfl
theorem y_331_6 {b : Bool} : g_co (gX b) 331 6 = some (.iload_n 2) := rfl
theorem y_331_7 {b : Bool} : g_co (gX b) 331 7 = some (.invokevirtual 167) := rfl
theorem y_331_10 {b : Bool} : g_co (gX b) 331 10 = some (.iload_n 1) := rfl
theorem y_331_11 {b : Bool} : g_co (gX b) 331 11 = some (.iload_n 2) := rfl
theorem y_331_12 {b : Bool} : g_co (gX b) 331 12 = some (.invokestatic 191) := rfl
theorem y_331_15 {b : Bool} : g_co (gX b) 331 15 = some (.istore_n 3) := rfl
theorem y_331_16 {b : Bool} : g_co (gX b) 331 16 = some (.iload_n 1) := rfl
theorem y_331_17 {b : Bool} : g_co (gX b) 331 17 = some (.iload_n 2) := rfl
theorem y_331_18 {b : Bool} : g_co (gX b) 331 18 = some (.invokestatic 197) := rfl
theorem y_331_21 {b : Bool} : g_co (gX b) 331 21 = some (.istore 4) := rfl
theorem y_331_23 {b : Bool} : g_co (gX b) 331 23 = some (.aload_n 0) := rfl
theorem y_331_24 {b : Bool} : g_co (gX b) 331 24 = some (.getfield 56) := rfl
theorem y_331_27 {b : Bool} : g_co (gX b) 331 27 = some (.iload_n 3) := rfl
theorem y_331_28 {b : Bool} : g_co (gX b) 331 28 = some (.iload 4) := rfl
theorem y_331_30 {b : Bool} : g_co (gX b) 331 30 = some (.invokevirtual 200) := rfl
theorem y_331_33 {b : Bool} : g_co (gX b) 331 33 = some (.ifCond .ne 7) := rfl
theorem y_331_36 {b : Bool} : g_co (gX b) 331 36 = some (.iconst (-1)) := rfl
theorem y_331_37 {b : Bool} : g_co (gX b) 331 37 = some (.goto 13) := rfl
theorem y_331_40 {b : Bool} : g_co (gX b) 331 40 = some (.aload_n 0) := rfl
theorem y_331_41 {b : Bool} : g_co (gX b) 331 41 = some (.getfield 56) := rfl
theorem y_331_44 {b : Bool} : g_co (gX b) 331 44 = some (.iload_n 3) := rfl
theorem y_331_45 {b : Bool} : g_co (gX b) 331 45 = some (.iload 4) := rfl
theorem y_331_47 {b : Bool} : g_co (gX b) 331 47 = some (.invokevirtual 208) := rfl
theorem y_331_50 {b : Bool} : g_co (gX b) 331 50 = some (.ireturn) := rfl
theorem ym_331_167 {b : Bool} : g_ml (gX b) 331 167 = some (0, 356, 1, 10) := rfl
theorem yn_331_191 {b : Bool} : g_ml (gX b) 331 191 = none := rfl
theorem yz_331_191 {b : Bool} : g_nt (gX b) 331 191 = 3 := rfl
theorem yn_331_197 {b : Bool} : g_ml (gX b) 331 197 = none := rfl
theorem yz_331_197 {b : Bool} : g_nt (gX b) 331 197 = 2 := rfl
theorem yf_331_56 {b : Bool} : g_fl (gX b) 331 56 = some (10, 7, 9) := rfl
theorem ym_331_200 {b : Bool} : g_ml (gX b) 331 200 = some (0, 301, 2, 9) := rfl
theorem ym_331_208 {b : Bool} : g_ml (gX b) 331 208 = some (0, 306, 2, 9) := rfl
theorem yx_332 {b : Bool} : g_mx (gX b) 332 = 2 := rfl
theorem yt_332 {b : Bool} : g_rt (gX b) 332 = 1 := rfl
theorem y_332_0 {b : Bool} : g_co (gX b) 332 0 = some (.iload_n 1) := rfl
theorem y_332_1 {b : Bool} : g_co (gX b) 332 1 = some (.ifCond .lt 8) := rfl
theorem y_332_4 {b : Bool} : g_co (gX b) 332 4 = some (.iload_n 1) := rfl
theorem y_332_5 {b : Bool} : g_co (gX b) 332 5 = some (.iconst 5) := rfl
theorem y_332_6 {b : Bool} : g_co (gX b) 332 6 = some (.if_icmp .lt 11) := rfl
theorem y_332_9 {b : Bool} : g_co (gX b) 332 9 = some (.new 102) := rfl
theorem y_332_12 {b : Bool} : g_co (gX b) 332 12 = some (.dup) := rfl
theorem y_332_13 {b : Bool} : g_co (gX b) 332 13 = some (.invokespecial 104) := rfl
theorem y_332_16 {b : Bool} : g_co (gX b) 332 16 = some (.athrow) := rfl
theorem y_332_17 {b : Bool} : g_co (gX b) 332 17 = some (.aload_n 0) := rfl
theorem y_332_18 {b : Bool} : g_co (gX b) 332 18 = some (.getfield 56) := rfl
theorem y_332_21 {b : Bool} : g_co (gX b) 332 21 = some (.iload_n 1) := rfl
theorem y_332_22 {b : Bool} : g_co (gX b) 332 22 = some (.invokevirtual 211) := rfl
theorem y_332_25 {b : Bool} : g_co (gX b) 332 25 = some (.ireturn) := rfl
theorem yf_332_56 {b : Bool} : g_fl (gX b) 332 56 = some (10, 7, 9) := rfl
theorem ym_332_211 {b : Bool} : g_ml (gX b) 332 211 = some (0, 304, 1, 9) := rfl
theorem yx_333 {b : Bool} : g_mx (gX b) 333 = 3 := rfl
theorem yt_333 {b : Bool} : g_rt (gX b) 333 = 1 := rfl
theorem y_333_0 {b : Bool} : g_co (gX b) 333 0 = some (.aload_n 0) := rfl
theorem y_333_1 {b : Bool} : g_co (gX b) 333 1 = some (.iload_n 1) := rfl
theorem y_333_2 {b : Bool} : g_co (gX b) 333 2 = some (.iload_n 2) := rfl
theorem y_333_3 {b : Bool} : g_co (gX b) 333 3 = some (.invokevirtual 214) := rfl
theorem y_333_6 {b : Bool} : g_co (gX b) 333 6 = some (.aload_n 0) := rfl
theorem y_333_7 {b : Bool} : g_co (gX b) 333 7 = some (.getfield 63) := rfl
theorem y_333_10 {b : Bool} : g_co (gX b) 333 10 = some (.iload_n 1) := rfl
theorem y_333_11 {b : Bool} : g_co (gX b) 333 11 = some (.iload_n 2) := rfl
theorem y_333_12 {b : Bool} : g_co (gX b) 333 12 = some (.iconst 0) := rfl
theorem y_333_13 {b : Bool} : g_co (gX b) 333 13 = some (.invokevirtual 217) := rfl
theorem y_333_16 {b : Bool} : g_co (gX b) 333 16 = some (.aload_n 0) := rfl
theorem y_333_17 {b : Bool} : g_co (gX b) 333 17 = some (.getfield 63) := rfl
theorem y_333_20 {b : Bool} : g_co (gX b) 333 20 = some (.invokevirtual 221) := rfl
theorem y_333_23 {b : Bool} : g_co (gX b) 333 23 = some (.ireturn) := rfl
theorem ym_333_214 {b : Bool} : g_ml (gX b) 333 214 = some (0, 357, 2, 10) := rfl
theorem yf_333_63 {b : Bool} : g_fl (gX b) 333 63 = some (10, 8, 9) := rfl
theorem ym_333_217 {b : Bool} : g_ml (gX b) 333 217 = some (0, 285, 3, 8) := rfl
theorem ym_333_221 {b : Bool} : g_ml (gX b) 333 221 = some (0, 286, 0, 8) := rfl
theorem yx_334 {b : Bool} : g_mx (gX b) 334 = 4 := rfl
theorem yt_334 {b : Bool} : g_rt (gX b) 334 = 1 := rfl
theorem y_334_0 {b : Bool} : g_co (gX b) 334 0 = some (.aload_n 0) := rfl
theorem y_334_1 {b : Bool} : g_co (gX b) 334 1 = some (.iload_n 1) := rfl
theorem y_334_2 {b : Bool} : g_co (gX b) 334 2 = some (.iload_n 2) := rfl
theorem y_334_3 {b : Bool} : g_co (gX b) 334 3 = some (.invokevirtual 214) := rfl
theorem y_334_6 {b : Bool} : g_co (gX b) 334 6 = some (.aload_n 0) := rfl
theorem y_334_7 {b : Bool} : g_co (gX b) 334 7 = some (.getfield 63) := rfl
theorem y_334_10 {b : Bool} : g_co (gX b) 334 10 = some (.iload_n 1) := rfl
theorem y_334_11 {b : Bool} : g_co (gX b) 334 11 = some (.iload_n 2) := rfl
theorem y_334_12 {b : Bool} : g_co (gX b) 334 12 = some (.iconst 0) := rfl
theorem y_334_13 {b : Bool} : g_co (gX b) 334 13 = some (.invokevirtual 217) := rfl
theorem y_334_16 {b : Bool} : g_co (gX b) 334 16 = some (.aload_n 0) := rfl
theorem y_334_17 {b : Bool} : g_co (gX b) 334 17 = some (.getfield 63) := rfl
theorem y_334_20 {b : Bool} : g_co (gX b) 334 20 = some (.iload_n 3) := rfl
theorem y_334_21 {b : Bool} : g_co (gX b) 334 21 = some (.invokevirtual 224) := rfl
theorem y_334_24 {b : Bool} : g_co (gX b) 334 24 = some (.ireturn) := rfl
theorem ym_334_214 {b : Bool} : g_ml (gX b) 334 214 = some (0, 357, 2, 10) := rfl
theorem yf_334_63 {b : Bool} : g_fl (gX b) 334 63 = some (10, 8, 9) := rfl
theorem ym_334_217 {b : Bool} : g_ml (gX b) 334 217 = some (0, 285, 3, 8) := rfl
theorem ym_334_224 {b : Bool} : g_ml (gX b) 334 224 = some (0, 287, 1, 8) := rfl
theorem yx_335 {b : Bool} : g_mx (gX b) 335 = 3 := rfl
theorem yt_335 {b : Bool} : g_rt (gX b) 335 = 1 := rfl
theorem y_335_0 {b : Bool} : g_co (gX b) 335 0 = some (.aload_n 0) := rfl
theorem y_335_1 {b : Bool} : g_co (gX b) 335 1 = some (.iload_n 1) := rfl
theorem y_335_2 {b : Bool} : g_co (gX b) 335 2 = some (.iload_n 2) := rfl
theorem y_335_3 {b : Bool} : g_co (gX b) 335 3 = some (.invokevirtual 214) := rfl
theorem y_335_6 {b : Bool} : g_co (gX b) 335 6 = some (.aload_n 0) := rfl
theorem y_335_7 {b : Bool} : g_co (gX b) 335 7 = some (.getfield 63) := rfl
theorem y_335_10 {b : Bool} : g_co (gX b) 335 10 = some (.iload_n 1) := rfl
theorem y_335_11 {b : Bool} : g_co (gX b) 335 11 = some (.iload_n 2) := rfl
theorem y_335_12 {b : Bool} : g_co (gX b) 335 12 = some (.iconst 1) := rfl
theorem y_335_13 {b : Bool} : g_co (gX b) 335 13 = some (.invokevirtual 217) := rfl
theorem y_335_16 {b : Bool} : g_co (gX b) 335 16 = some (.aload_n 0) := rfl
theorem y_335_17 {b : Bool} : g_co (gX b) 335 17 = some (.getfield 63) := rfl
theorem y_335_20 {b : Bool} : g_co (gX b) 335 20 = some (.getfield 227) := rfl
theorem y_335_23 {b : Bool} : g_co (gX b) 335 23 = some (.ifCond .eq 8) := rfl
theorem y_335_26 {b : Bool} : g_co (gX b) 335 26 = some (.bipush (-2)) := rfl
theorem y_335_28 {b : Bool} : g_co (gX b) 335 28 = some (.goto 10) := rfl
theorem y_335_31 {b : Bool} : g_co (gX b) 335 31 = some (.aload_n 0) := rfl
theorem y_335_32 {b : Bool} : g_co (gX b) 335 32 = some (.getfield 63) := rfl
theorem y_335_35 {b : Bool} : g_co (gX b) 335 35 = some (.getfield 231) := rfl
theorem y_335_38 {b : Bool} : g_co (gX b) 335 38 = some (.ireturn) := rfl
theorem ym_335_214 {b : Bool} : g_ml (gX b) 335 214 = some (0, 357, 2, 10) := rfl
theorem yf_335_63 {b : Bool} : g_fl (gX b) 335 63 = some (10, 8, 9) := rfl
theorem ym_335_217 {b : Bool} : g_ml (gX b) 335 217 = some (0, 285, 3, 8) := rfl
theorem yf_335_227 {b : Bool} : g_fl (gX b) 335 227 = some (8, 1, 1) := rfl
theorem yf_335_231 {b : Bool} : g_fl (gX b) 335 231 = some (8, 0, 0) := rfl
theorem yx_336 {b : Bool} : g_mx (gX b) 336 = 4 := rfl
theorem yt_336 {b : Bool} : g_rt (gX b) 336 = 1 := rfl
theorem y_336_0 {b : Bool} : g_co (gX b) 336 0 = some (.aload_n 0) := rfl
theorem y_336_1 {b : Bool} : g_co (gX b) 336 1 = some (.iload_n 1) := rfl
theorem y_336_2 {b : Bool} : g_co (gX b) 336 2 = some (.iload_n 3) := rfl
theorem y_336_3 {b : Bool} : g_co (gX b) 336 3 = some (.invokevirtual 214) := rfl
theorem y_336_6 {b : Bool} : g_co (gX b) 336 6 = some (.aload_n 0) := rfl
theorem y_336_7 {b : Bool} : g_co (gX b) 336 7 = some (.iload_n 2) := rfl
theorem y_336_8 {b : Bool} : g_co (gX b) 336 8 = some (.invokevirtual 234) := rfl
theorem y_336_11 {b : Bool} : g_co (gX b) 336 11 = some (.aload_n 0) := rfl
theorem y_336_12 {b : Bool} : g_co (gX b) 336 12 = some (.getfield 63) := rfl
theorem y_336_15 {b : Bool} : g_co (gX b) 336 15 = some (.iload_n 1) := rfl
theorem y_336_16 {b : Bool} : g_co (gX b) 336 16 = some (.iload_n 3) := rfl
theorem y_336_17 {b : Bool} : g_co (gX b) 336 17 = some (.iconst 1) := rfl
theorem y_336_18 {b : Bool} : g_co (gX b) 336 18 = some (.invokevirtual 217) := rfl
theorem y_336_21 {b : Bool} : g_co (gX b) 336 21 = some (.aload_n 0) := rfl
theorem y_336_22 {b : Bool} : g_co (gX b) 336 22 = some (.getfield 63) := rfl
theorem y_336_25 {b : Bool} : g_co (gX b) 336 25 = some (.getfield 227) := rfl
theorem y_336_28 {b : Bool} : g_co (gX b) 336 28 = some (.ifCond .eq 8) := rfl
theorem y_336_31 {b : Bool} : g_co (gX b) 336 31 = some (.bipush (-2)) := rfl
theorem y_336_33 {b : Bool} : g_co (gX b) 336 33 = some (.goto 14) := rfl
theorem y_336_36 {b : Bool} : g_co (gX b) 336 36 = some (.aload_n 0) := rfl
theorem y_336_37 {b : Bool} : g_co (gX b) 336 37 = some (.getfield 63) := rfl
theorem y_336_40 {b : Bool} : g_co (gX b) 336 40 = some (.iload_n 2) := rfl
theorem y_336_41 {b : Bool} : g_co (gX b) 336 41 = some (.sipush 600) := rfl
theorem y_336_44 {b : Bool} : g_co (gX b) 336 44 = some (.invokevirtual 237) := rfl
theorem y_336_47 {b : Bool} : g_co (gX b) 336 47 = some (.ireturn) := rfl
theorem ym_336_214 {b : Bool} : g_ml (gX b) 336 214 = some (0, 357, 2, 10) := rfl
theorem ym_336_234 {b : Bool} : g_ml (gX b) 336 234 = some (0, 358, 1, 10) := rfl
theorem yf_336_63 {b : Bool} : g_fl (gX b) 336 63 = some (10, 8, 9) := rfl
theorem ym_336_217 {b : Bool} : g_ml (gX b) 336 217 = some (0, 285, 3, 8) := rfl
theorem yf_336_227 {b : Bool} : g_fl (gX b) 336 227 = some (8, 1, 1) := rfl
theorem ym_336_237 {b : Bool} : g_ml (gX b) 336 237 = some (0, 288, 2, 8) := rfl
theorem yx_337 {b : Bool} : g_mx (gX b) 337 = 2 := rfl
theorem yt_337 {b : Bool} : g_rt (gX b) 337 = 1 := rfl
theorem y_337_0 {b : Bool} : g_co (gX b) 337 0 = some (.aload_n 0) := rfl
theorem y_337_1 {b : Bool} : g_co (gX b) 337 1 = some (.iload_n 1) := rfl
theorem y_337_2 {b : Bool} : g_co (gX b) 337 2 = some (.invokevirtual 124) := rfl
theorem y_337_5 {b : Bool} : g_co (gX b) 337 5 = some (.aload_n 0) := rfl
theorem y_337_6 {b : Bool} : g_co (gX b) 337 6 = some (.getfield 77) := rfl
theorem y_337_9 {b : Bool} : g_co (gX b) 337 9 = some (.iload_n 1) := rfl
theorem y_337_10 {b : Bool} : g_co (gX b) 337 10 = some (.invokevirtual 240) := rfl
theorem y_337_13 {b : Bool} : g_co (gX b) 337 13 = some (.ireturn) := rfl
theorem ym_337_124 {b : Bool} : g_ml (gX b) 337 124 = some (0, 354, 1, 10) := rfl
theorem yf_337_77 {b : Bool} : g_fl (gX b) 337 77 = some (10, 10, 9) := rfl
theorem ym_337_240 {b : Bool} : g_ml (gX b) 337 240 = some (0, 277, 1, 7) := rfl
theorem yx_338 {b : Bool} : g_mx (gX b) 338 = 2 := rfl
theorem yt_338 {b : Bool} : g_rt (gX b) 338 = 1 := rfl
theorem y_338_0 {b : Bool} : g_co (gX b) 338 0 = some (.aload_n 0) := rfl
theorem y_338_1 {b : Bool} : g_co (gX b) 338 1 = some (.getfield 77) := rfl
theorem y_338_4 {b : Bool} : g_co (gX b) 338 4 = some (.getfield 241) := rfl
theorem y_338_7 {b : Bool} : g_co (gX b) 338 7 = some (.istore_n 1) := rfl
theorem y_338_8 {b : Bool} : g_co (gX b) 338 8 = some (.aload_n 0) := rfl
theorem y_338_9 {b : Bool} : g_co (gX b) 338 9 = some (.getfield 77) := rfl
theorem y_338_12 {b : Bool} : g_co (gX b) 338 12 = some (.iconst 0) := rfl
theorem y_338_13 {b : Bool} : g_co (gX b) 338 13 = some (.putfield 241) := rfl
theorem y_338_16 {b : Bool} : g_co (gX b) 338 16 = some (.iload_n 1) := rfl
theorem y_338_17 {b : Bool} : g_co (gX b) 338 17 = some (.ireturn) := rfl
theorem yf_338_77 {b : Bool} : g_fl (gX b) 338 77 = some (10, 10, 9) := rfl
theorem yf_338_241 {b : Bool} : g_fl (gX b) 338 241 = some (7, 1, 0) := rfl
theorem yx_339 {b : Bool} : g_mx (gX b) 339 = 1 := rfl
theorem yt_339 {b : Bool} : g_rt (gX b) 339 = 1 := rfl
theorem y_339_0 {b : Bool} : g_co (gX b) 339 0 = some (.aload_n 0) := rfl
theorem y_339_1 {b : Bool} : g_co (gX b) 339 1 = some (.getfield 77) := rfl
theorem y_339_4 {b : Bool} : g_co (gX b) 339 4 = some (.invokevirtual 242) := rfl
theorem y_339_7 {b : Bool} : g_co (gX b) 339 7 = some (.ireturn) := rfl
theorem yf_339_77 {b : Bool} : g_fl (gX b) 339 77 = some (10, 10, 9) := rfl
theorem ym_339_242 {b : Bool} : g_ml (gX b) 339 242 = some (0, 278, 0, 7) := rfl
theorem yx_340 {b : Bool} : g_mx (gX b) 340 = 1 := rfl
theorem yt_340 {b : Bool} : g_rt (gX b) 340 = 1 := rfl
theorem y_340_0 {b : Bool} : g_co (gX b) 340 0 = some (.aload_n 0) := rfl
theorem y_340_1 {b : Bool} : g_co (gX b) 340 1 = some (.getfield 77) := rfl
theorem y_340_4 {b : Bool} : g_co (gX b) 340 4 = some (.invokevirtual 245) := rfl
theorem y_340_7 {b : Bool} : g_co (gX b) 340 7 = some (.ireturn) := rfl
theorem yf_340_77 {b : Bool} : g_fl (gX b) 340 77 = some (10, 10, 9) := rfl
theorem ym_340_245 {b : Bool} : g_ml (gX b) 340 245 = some (0, 279, 0, 7) := rfl
theorem yx_341 {b : Bool} : g_mx (gX b) 341 = 2 := rfl
theorem yt_341 {b : Bool} : g_rt (gX b) 341 = 1 := rfl
theorem y_341_0 {b : Bool} : g_co (gX b) 341 0 = some (.iload_n 1) := rfl
theorem y_341_1 {b : Bool} : g_co (gX b) 341 1 = some (.ifCond .lt 14) := rfl
theorem y_341_4 {b : Bool} : g_co (gX b) 341 4 = some (.iload_n 1) := rfl
theorem y_341_5 {b : Bool} : g_co (gX b) 341 5 = some (.aload_n 0) := rfl
theorem y_341_6 {b : Bool} : g_co (gX b) 341 6 = some (.getfield 77) := rfl
theorem y_341_9 {b : Bool} : g_co (gX b) 341 9 = some (.getfield 241) := rfl
theorem y_341_12 {b : Bool} : g_co (gX b) 341 12 = some (.if_icmp .lt 7) := rfl
theorem y_341_15 {b : Bool} : g_co (gX b) 341 15 = some (.iconst (-1)) := rfl
theorem y_341_16 {b : Bool} : g_co (gX b) 341 16 = some (.goto 12) := rfl
theorem y_341_19 {b : Bool} : g_co (gX b) 341 19 = some (.aload_n 0) := rfl
theorem y_341_20 {b : Bool} : g_co (gX b) 341 20 = some (.getfield 77) := rfl
theorem y_341_23 {b : Bool} : g_co (gX b) 341 23 = some (.getfield 248) := rfl
theorem y_341_26 {b : Bool} : g_co (gX b) 341 26 = some (.iload_n 1) := rfl
theorem y_341_27 {b : Bool} : g_co (gX b) 341 27 = some (.iaload) := rfl
theorem y_341_28 {b : Bool} : g_co (gX b) 341 28 = some (.ireturn) := rfl
theorem yf_341_77 {b : Bool} : g_fl (gX b) 341 77 = some (10, 10, 9) := rfl
theorem yf_341_241 {b : Bool} : g_fl (gX b) 341 241 = some (7, 1, 0) := rfl
theorem yf_341_248 {b : Bool} : g_fl (gX b) 341 248 = some (7, 0, 9) := rfl
theorem yx_342 {b : Bool} : g_mx (gX b) 342 = 8 := rfl
theorem yt_342 {b : Bool} : g_rt (gX b) 342 = 1 := rfl
theorem y_342_0 {b : Bool} : g_co (gX b) 342 0 = some (.iload_n 1) := rfl
theorem y_342_1 {b : Bool} : g_co (gX b) 342 1 = some (.ifCond .lt 12) := rfl
theorem y_342_4 {b : Bool} : g_co (gX b) 342 4 = some (.iload_n 1) := rfl
theorem y_342_5 {b : Bool} : g_co (gX b) 342 5 = some (.iconst 3) := rfl
theorem y_342_6 {b : Bool} : g_co (gX b) 342 6 = some (.if_icmp .ge 7) := rfl
theorem y_342_9 {b : Bool} : g_co (gX b) 342 9 = some (.iconst 1) := rfl
theorem y_342_10 {b : Bool} : g_co (gX b) 342 10 = some (.goto 4) := rfl
theorem y_342_13 {b : Bool} : g_co (gX b) 342 13 = some (.iconst 0) := rfl
theorem y_342_14 {b : Bool} : g_co (gX b) 342 14 = some (.istore 5) := rfl
theorem y_342_16 {b : Bool} : g_co (gX b) 342 16 = some (.iload_n 1) := rfl
theorem y_342_17 {b : Bool} : g_co (gX b) 342 17 = some (.ifCond .ne 13) := rfl
theorem y_342_20 {b : Bool} : g_co (gX b) 342 20 = some (.iload_n 2) := rfl
theorem y_342_21 {b : Bool} : g_co (gX b) 342 21 = some (.ifCond .lt 13) := rfl
theorem y_342_24 {b : Bool} : g_co (gX b) 342 24 = some (.iload_n 2) := rfl
theorem y_342_25 {b : Bool} : g_co (gX b) 342 25 = some (.bipush 8) := rfl
theorem y_342_27 {b : Bool} : g_co (gX b) 342 27 = some (.if_icmp .ge 7) := rfl
theorem y_342_30 {b : Bool} : g_co (gX b) 342 30 = some (.iconst 1) := rfl
theorem y_342_31 {b : Bool} : g_co (gX b) 342 31 = some (.goto 4) := rfl
theorem y_342_34 {b : Bool} : g_co (gX b) 342 34 = some (.iconst 0) := rfl
theorem y_342_35 {b : Bool} : g_co (gX b) 342 35 = some (.istore 6) := rfl
theorem y_342_37 {b : Bool} : g_co (gX b) 342 37 = some (.iload_n 3) := rfl
theorem y_342_38 {b : Bool} : g_co (gX b) 342 38 = some (.ifCond .lt 12) := rfl
theorem y_342_41 {b : Bool} : g_co (gX b) 342 41 = some (.iload_n 3) := rfl
theorem y_342_42 {b : Bool} : g_co (gX b) 342 42 = some (.iconst 4) := rfl
theorem y_342_43 {b : Bool} : g_co (gX b) 342 43 = some (.if_icmp .ge 7) := rfl
theorem y_342_46 {b : Bool} : g_co (gX b) 342 46 = some (.iconst 1) := rfl
theorem y_342_47 {b : Bool} : g_co (gX b) 342 47 = some (.goto 4) := rfl
theorem y_342_50 {b : Bool} : g_co (gX b) 342 50 = some (.iconst 0) := rfl
theorem y_342_51 {b : Bool} : g_co (gX b) 342 51 = some (.istore 7) := rfl
theorem y_342_53 {b : Bool} : g_co (gX b) 342 53 = some (.iload 5) := rfl
theorem y_342_55 {b : Bool} : g_co (gX b) 342 55 = some (.ifCond .eq 25) := rfl
theorem y_342_58 {b : Bool} : g_co (gX b) 342 58 = some (.iload 6) := rfl
theorem y_342_60 {b : Bool} : g_co (gX b) 342 60 = some (.ifCond .eq 20) := rfl
theorem y_342_63 {b : Bool} : g_co (gX b) 342 63 = some (.iload 7) := rfl
theorem y_342_65 {b : Bool} : g_co (gX b) 342 65 = some (.ifCond .eq 15) := rfl
theorem y_342_68 {b : Bool} : g_co (gX b) 342 68 = some (.iload 4) := rfl
theorem y_342_70 {b : Bool} : g_co (gX b) 342 70 = some (.ifCond .lt 10) := rfl
theorem y_342_73 {b : Bool} : g_co (gX b) 342 73 = some (.iload 4) := rfl
theorem y_342_75 {b : Bool} : g_co (gX b) 342 75 = some (.bipush 100) := rfl
theorem y_342_77 {b : Bool} : g_co (gX b) 342 77 = some (.if_icmp .le 11) := rfl
theorem y_342_80 {b : Bool} : g_co (gX b) 342 80 = some (.new 102) := rfl
theorem y_342_83 {b : Bool} : g_co (gX b) 342 83 = some (.dup) := rfl
theorem y_342_84 {b : Bool} : g_co (gX b) 342 84 = some (.invokespecial 104) := rfl
theorem y_342_87 {b : Bool} : g_co (gX b) 342 87 = some (.athrow) := rfl
theorem y_342_88 {b : Bool} : g_co (gX b) 342 88 = some (.aload_n 0) := rfl
theorem y_342_89 {b : Bool} : g_co (gX b) 342 89 = some (.invokevirtual 115) := rfl
theorem y_342_92 {b : Bool} : g_co (gX b) 342 92 = some (.aload_n 0) := rfl
theorem y_342_93 {b : Bool} : g_co (gX b) 342 93 = some (.getfield 16) := rfl
theorem y_342_96 {b : Bool} : g_co (gX b) 342 96 = some (.iload_n 1) := rfl
theorem y_342_97 {b : Bool} : g_co (gX b) 342 97 = some (.iload_n 2) := rfl
theorem y_342_98 {b : Bool} : g_co (gX b) 342 98 = some (.iload_n 3) := rfl
theorem y_342_99 {b : Bool} : g_co (gX b) 342 99 = some (.iload 4) := rfl
theorem y_342_101 {b : Bool} : g_co (gX b) 342 101 = some (.invokevirtual 249) := rfl
theorem y_342_104 {b : Bool} : g_co (gX b) 342 104 = some (.ireturn) := rfl
theorem ym_342_115 {b : Bool} : g_ml (gX b) 342 115 = some (0, 352, 0, 10) := rfl
theorem yf_342_16 {b : Bool} : g_fl (gX b) 342 16 = some (10, 1, 9) := rfl
theorem ym_342_249 {b : Bool} : g_ml (gX b) 342 249 = some (0, 200, 4, 0) := rfl
theorem yx_343 {b : Bool} : g_mx (gX b) 343 = 5 := rfl
theorem yt_343 {b : Bool} : g_rt (gX b) 343 = 2 := rfl
theorem y_343_0 {b : Bool} : g_co (gX b) 343 0 = some (.aload_n 0) := rfl
theorem y_343_1 {b : Bool} : g_co (gX b) 343 1 = some (.iload_n 1) := rfl
theorem y_343_2 {b : Bool} : g_co (gX b) 343 2 = some (.aload_n 0) := rfl
theorem y_343_3 {b : Bool} : g_co (gX b) 343 3 = some (.getfield 16) := rfl
theorem y_343_6 {b : Bool} : g_co (gX b) 343 6 = some (.getfield 252) := rfl
theorem y_343_9 {b : Bool} : g_co (gX b) 343 9 = some (.invokevirtual 139) := rfl
theorem y_343_12 {b : Bool} : g_co (gX b) 343 12 = some (.iconst 1) := rfl
theorem y_343_13 {b : Bool} : g_co (gX b) 343 13 = some (.iload_n 1) := rfl
theorem y_343_14 {b : Bool} : g_co (gX b) 343 14 = some (.ishl) := rfl
theorem y_343_15 {b : Bool} : g_co (gX b) 343 15 = some (.istore_n 3) := rfl
theorem y_343_16 {b : Bool} : g_co (gX b) 343 16 = some (.aload_n 0) := rfl
theorem y_343_17 {b : Bool} : g_co (gX b) 343 17 = some (.getfield 16) := rfl
theorem y_343_20 {b : Bool} : g_co (gX b) 343 20 = some (.getfield 253) := rfl
theorem y_343_23 {b : Bool} : g_co (gX b) 343 23 = some (.iload_n 3) := rfl
theorem y_343_24 {b : Bool} : g_co (gX b) 343 24 = some (.iand) := rfl
theorem y_343_25 {b : Bool} : g_co (gX b) 343 25 = some (.ifCond .eq 7) := rfl
theorem y_343_28 {b : Bool} : g_co (gX b) 343 28 = some (.iconst 1) := rfl
theorem y_343_29 {b : Bool} : g_co (gX b) 343 29 = some (.goto 4) := rfl
theorem y_343_32 {b : Bool} : g_co (gX b) 343 32 = some (.iconst 0) := rfl
theorem y_343_33 {b : Bool} : g_co (gX b) 343 33 = some (.istore 4) := rfl
theorem y_343_35 {b : Bool} : g_co (gX b) 343 35 = some (.iload 4) := rfl
theorem y_343_37 {b : Bool} : g_co (gX b) 343 37 = some (.iload_n 2) := rfl
theorem y_343_38 {b : Bool} : g_co (gX b) 343 38 = some (.if_icmp .eq 23) := rfl
theorem y_343_41 {b : Bool} : g_co (gX b) 343 41 = some (.aload_n 0) := rfl
theorem y_343_42 {b : Bool} : g_co (gX b) 343 42 = some (.getfield 16) := rfl
theorem y_343_45 {b : Bool} : g_co (gX b) 343 45 = some (.aload_n 0) := rfl
theorem y_343_46 {b : Bool} : g_co (gX b) 343 46 = some (.getfield 16) := rfl
theorem y_343_49 {b : Bool} : g_co (gX b) 343 49 = some (.getfield 253) := rfl
theorem y_343_52 {b : Bool} : g_co (gX b) 343 52 = some (.iload_n 3) := rfl
theorem y_343_53 {b : Bool} : g_co (gX b) 343 53 = some (.ixor) := rfl
theorem y_343_54 {b : Bool} : g_co (gX b) 343 54 = some (.invokevirtual 256) := rfl
theorem y_343_57 {b : Bool} : g_co (gX b) 343 57 = some (.aload_n 0) := rfl
theorem y_343_58 {b : Bool} : g_co (gX b) 343 58 = some (.invokevirtual 259) := rfl
theorem y_343_61 {b : Bool} : g_co (gX b) 343 61 = some (.iload 4) := rfl
theorem y_343_63 {b : Bool} : g_co (gX b) 343 63 = some (.ireturn) := rfl
theorem yf_343_16 {b : Bool} : g_fl (gX b) 343 16 = some (10, 1, 9) := rfl
theorem yf_343_252 {b : Bool} : g_fl (gX b) 343 252 = some (0, 5, 0) := rfl
theorem ym_343_139 {b : Bool} : g_ml (gX b) 343 139 = some (0, 355, 2, 10) := rfl
theorem yf_343_253 {b : Bool} : g_fl (gX b) 343 253 = some (0, 6, 0) := rfl
theorem ym_343_256 {b : Bool} : g_ml (gX b) 343 256 = some (0, 201, 1, 0) := rfl
theorem ym_343_259 {b : Bool} : g_ml (gX b) 343 259 = some (0, 353, 0, 10) := rfl
theorem yx_344 {b : Bool} : g_mx (gX b) 344 = 9 := rfl
theorem yt_344 {b : Bool} : g_rt (gX b) 344 = 1 := rfl
theorem y_344_0 {b : Bool} : g_co (gX b) 344 0 = some (.aload_n 0) := rfl
theorem y_344_1 {b : Bool} : g_co (gX b) 344 1 = some (.iload_n 1) := rfl
theorem y_344_2 {b : Bool} : g_co (gX b) 344 2 = some (.iload_n 3) := rfl
theorem y_344_3 {b : Bool} : g_co (gX b) 344 3 = some (.invokevirtual 214) := rfl
theorem y_344_6 {b : Bool} : g_co (gX b) 344 6 = some (.aload_n 0) := rfl
theorem y_344_7 {b : Bool} : g_co (gX b) 344 7 = some (.iload_n 2) := rfl
theorem y_344_8 {b : Bool} : g_co (gX b) 344 8 = some (.invokevirtual 234) := rfl
theorem y_344_11 {b : Bool} : g_co (gX b) 344 11 = some (.iload 4) := rfl
theorem y_344_13 {b : Bool} : g_co (gX b) 344 13 = some (.ifCond .lt 9) := rfl
theorem y_344_16 {b : Bool} : g_co (gX b) 344 16 = some (.iload 4) := rfl
theorem y_344_18 {b : Bool} : g_co (gX b) 344 18 = some (.iconst 1) := rfl
theorem y_344_19 {b : Bool} : g_co (gX b) 344 19 = some (.if_icmp .le 11) := rfl
theorem y_344_22 {b : Bool} : g_co (gX b) 344 22 = some (.new 102) := rfl
theorem y_344_25 {b : Bool} : g_co (gX b) 344 25 = some (.dup) := rfl
theorem y_344_26 {b : Bool} : g_co (gX b) 344 26 = some (.invokespecial 104) := rfl
theorem y_344_29 {b : Bool} : g_co (gX b) 344 29 = some (.athrow) := rfl
theorem y_344_30 {b : Bool} : g_co (gX b) 344 30 = some (.iload_n 1) := rfl
theorem y_344_31 {b : Bool} : g_co (gX b) 344 31 = some (.iconst 4) := rfl
theorem y_344_32 {b : Bool} : g_co (gX b) 344 32 = some (.imul) := rfl
theorem y_344_33 {b : Bool} : g_co (gX b) 344 33 = some (.iload_n 2) := rfl
theorem y_344_34 {b : Bool} : g_co (gX b) 344 34 = some (.iadd) := rfl
theorem y_344_35 {b : Bool} : g_co (gX b) 344 35 = some (.sipush 1024) := rfl
theorem y_344_38 {b : Bool} : g_co (gX b) 344 38 = some (.imul) := rfl
theorem y_344_39 {b : Bool} : g_co (gX b) 344 39 = some (.iload_n 3) := rfl
theorem y_344_40 {b : Bool} : g_co (gX b) 344 40 = some (.iadd) := rfl
theorem y_344_41 {b : Bool} : g_co (gX b) 344 41 = some (.istore 5) := rfl
theorem y_344_43 {b : Bool} : g_co (gX b) 344 43 = some (.iload 5) := rfl
theorem y_344_45 {b : Bool} : g_co (gX b) 344 45 = some (.aload_n 0) := rfl
theorem y_344_46 {b : Bool} : g_co (gX b) 344 46 = some (.getfield 88) := rfl
theorem y_344_49 {b : Bool} : g_co (gX b) 344 49 = some (.if_icmp .eq 158) := rfl
theorem y_344_52 {b : Bool} : g_co (gX b) 344 52 = some (.aload_n 0) := rfl
theorem y_344_53 {b : Bool} : g_co (gX b) 344 53 = some (.iload 5) := rfl
theorem y_344_55 {b : Bool} : g_co (gX b) 344 55 = some (.putfield 88) := rfl
theorem y_344_58 {b : Bool} : g_co (gX b) 344 58 = some (.aload_n 0) := rfl
theorem y_344_59 {b : Bool} : g_co (gX b) 344 59 = some (.iconst (-1)) := rfl
theorem y_344_60 {b : Bool} : g_co (gX b) 344 60 = some (.putfield 91) := rfl
theorem y_344_63 {b : Bool} : g_co (gX b) 344 63 = some (.aload_n 0) := rfl
theorem y_344_64 {b : Bool} : g_co (gX b) 344 64 = some (.getfield 16) := rfl
theorem y_344_67 {b : Bool} : g_co (gX b) 344 67 = some (.getfield 253) := rfl
theorem y_344_70 {b : Bool} : g_co (gX b) 344 70 = some (.istore 6) := rfl
theorem y_344_72 {b : Bool} : g_co (gX b) 344 72 = some (.aload_n 0) := rfl
theorem y_344_73 {b : Bool} : g_co (gX b) 344 73 = some (.getfield 16) := rfl
theorem y_344_76 {b : Bool} : g_co (gX b) 344 76 = some (.invokevirtual 262) := rfl
theorem y_344_79 {b : Bool} : g_co (gX b) 344 79 = some (.aload_n 0) := rfl
theorem y_344_80 {b : Bool} : g_co (gX b) 344 80 = some (.getfield 63) := rfl
theorem y_344_83 {b : Bool} : g_co (gX b) 344 83 = some (.invokevirtual 265) := rfl
theorem y_344_86 {b : Bool} : g_co (gX b) 344 86 = some (.aload_n 0) := rfl
theorem y_344_87 {b : Bool} : g_co (gX b) 344 87 = some (.getfield 16) := rfl
theorem y_344_90 {b : Bool} : g_co (gX b) 344 90 = some (.iconst (-1)) := rfl
theorem y_344_91 {b : Bool} : g_co (gX b) 344 91 = some (.invokevirtual 268) := rfl
theorem y_344_94 {b : Bool} : g_co (gX b) 344 94 = some (.istore 7) := rfl
theorem y_344_96 {b : Bool} : g_co (gX b) 344 96 = some (.iconst 0) := rfl
theorem y_344_97 {b : Bool} : g_co (gX b) 344 97 = some (.istore 8) := rfl
theorem y_344_99 {b : Bool} : g_co (gX b) 344 99 = some (.iload 8) := rfl
theorem y_344_101 {b : Bool} : g_co (gX b) 344 101 = some (.bipush 64) := rfl
theorem y_344_103 {b : Bool} : g_co (gX b) 344 103 = some (.if_icmp .ge 88) := rfl
theorem y_344_106 {b : Bool} : g_co (gX b) 344 106 = some (.iload 7) := rfl
theorem y_344_108 {b : Bool} : g_co (gX b) 344 108 = some (.ifCond .lt 83) := rfl
theorem y_344_111 {b : Bool} : g_co (gX b) 344 111 = some (.aload_n 0) := rfl
theorem y_344_112 {b : Bool} : g_co (gX b) 344 112 = some (.getfield 91) := rfl
theorem y_344_115 {b : Bool} : g_co (gX b) 344 115 = some (.ifCond .ge 76) := rfl
theorem y_344_118 {b : Bool} : g_co (gX b) 344 118 = some (.aload_n 0) := rfl
theorem y_344_119 {b : Bool} : g_co (gX b) 344 119 = some (.getfield 16) := rfl
theorem y_344_122 {b : Bool} : g_co (gX b) 344 122 = some (.iload 7) := rfl
theorem y_344_124 {b : Bool} : g_co (gX b) 344 124 = some (.invokevirtual 256) := rfl
theorem y_344_127 {b : Bool} : g_co (gX b) 344 127 = some (.aload_n 0) := rfl
theorem y_344_128 {b : Bool} : g_co (gX b) 344 128 = some (.getfield 16) := rfl
theorem y_344_131 {b : Bool} : g_co (gX b) 344 131 = some (.aload_n 0) := rfl
theorem y_344_132 {b : Bool} : g_co (gX b) 344 132 = some (.getfield 23) := rfl
theorem y_344_135 {b : Bool} : g_co (gX b) 344 135 = some (.getfield 271) := rfl
theorem y_344_138 {b : Bool} : g_co (gX b) 344 138 = some (.invokevirtual 274) := rfl
theorem y_344_141 {b : Bool} : g_co (gX b) 344 141 = some (.ifCond .eq 33) := rfl
theorem y_344_144 {b : Bool} : g_co (gX b) 344 144 = some (.aload_n 0) := rfl
theorem y_344_145 {b : Bool} : g_co (gX b) 344 145 = some (.getfield 63) := rfl
theorem y_344_148 {b : Bool} : g_co (gX b) 344 148 = some (.iload_n 1) := rfl
theorem y_344_149 {b : Bool} : g_co (gX b) 344 149 = some (.iload_n 3) := rfl
theorem y_344_150 {b : Bool} : g_co (gX b) 344 150 = some (.invokevirtual 278) := rfl
theorem y_344_153 {b : Bool} : g_co (gX b) 344 153 = some (.ifCond .eq 21) := rfl
theorem y_344_156 {b : Bool} : g_co (gX b) 344 156 = some (.aload_n 0) := rfl
theorem y_344_157 {b : Bool} : g_co (gX b) 344 157 = some (.getfield 63) := rfl
theorem y_344_160 {b : Bool} : g_co (gX b) 344 160 = some (.iload_n 2) := rfl
theorem y_344_161 {b : Bool} : g_co (gX b) 344 161 = some (.iconst 1) := rfl
theorem y_344_162 {b : Bool} : g_co (gX b) 344 162 = some (.invokevirtual 237) := rfl
theorem y_344_165 {b : Bool} : g_co (gX b) 344 165 = some (.ifCond .ne 9) := rfl
theorem y_344_168 {b : Bool} : g_co (gX b) 344 168 = some (.aload_n 0) := rfl
theorem y_344_169 {b : Bool} : g_co (gX b) 344 169 = some (.iload 7) := rfl
theorem y_344_171 {b : Bool} : g_co (gX b) 344 171 = some (.putfield 91) := rfl
theorem y_344_174 {b : Bool} : g_co (gX b) 344 174 = some (.aload_n 0) := rfl
theorem y_344_175 {b : Bool} : g_co (gX b) 344 175 = some (.getfield 16) := rfl
theorem y_344_178 {b : Bool} : g_co (gX b) 344 178 = some (.iload 7) := rfl
theorem y_344_180 {b : Bool} : g_co (gX b) 344 180 = some (.invokevirtual 268) := rfl
theorem y_344_183 {b : Bool} : g_co (gX b) 344 183 = some (.istore 7) := rfl
theorem y_344_185 {b : Bool} : g_co (gX b) 344 185 = some (.iinc 8 1) := rfl
theorem y_344_188 {b : Bool} : g_co (gX b) 344 188 = some (.goto (-89)) := rfl
theorem y_344_191 {b : Bool} : g_co (gX b) 344 191 = some (.aload_n 0) := rfl
theorem y_344_192 {b : Bool} : g_co (gX b) 344 192 = some (.getfield 16) := rfl
theorem y_344_195 {b : Bool} : g_co (gX b) 344 195 = some (.iload 6) := rfl
theorem y_344_197 {b : Bool} : g_co (gX b) 344 197 = some (.invokevirtual 256) := rfl
theorem y_344_200 {b : Bool} : g_co (gX b) 344 200 = some (.aload_n 0) := rfl
theorem y_344_201 {b : Bool} : g_co (gX b) 344 201 = some (.getfield 63) := rfl
theorem y_344_204 {b : Bool} : g_co (gX b) 344 204 = some (.invokevirtual 281) := rfl
theorem y_344_207 {b : Bool} : g_co (gX b) 344 207 = some (.aload_n 0) := rfl
theorem y_344_208 {b : Bool} : g_co (gX b) 344 208 = some (.getfield 91) := rfl
theorem y_344_211 {b : Bool} : g_co (gX b) 344 211 = some (.ifCond .lt 8) := rfl
theorem y_344_214 {b : Bool} : g_co (gX b) 344 214 = some (.iload 4) := rfl
theorem y_344_216 {b : Bool} : g_co (gX b) 344 216 = some (.ifCond .ne 10) := rfl
theorem y_344_219 {b : Bool} : g_co (gX b) 344 219 = some (.aload_n 0) := rfl
theorem y_344_220 {b : Bool} : g_co (gX b) 344 220 = some (.getfield 91) := rfl
theorem y_344_223 {b : Bool} : g_co (gX b) 344 223 = some (.goto 14) := rfl
theorem y_344_226 {b : Bool} : g_co (gX b) 344 226 = some (.aload_n 0) := rfl
theorem y_344_227 {b : Bool} : g_co (gX b) 344 227 = some (.getfield 16) := rfl
theorem y_344_230 {b : Bool} : g_co (gX b) 344 230 = some (.aload_n 0) := rfl
theorem y_344_231 {b : Bool} : g_co (gX b) 344 231 = some (.getfield 91) := rfl
theorem y_344_234 {b : Bool} : g_co (gX b) 344 234 = some (.invokevirtual 284) := rfl
theorem y_344_237 {b : Bool} : g_co (gX b) 344 237 = some (.ireturn) := rfl
theorem ym_344_214 {b : Bool} : g_ml (gX b) 344 214 = some (0, 357, 2, 10) := rfl
theorem ym_344_234 {b : Bool} : g_ml (gX b) 344 234 = some (0, 358, 1, 10) := rfl
theorem yf_344_88 {b : Bool} : g_fl (gX b) 344 88 = some (10, 13, 0) := rfl
theorem yf_344_91 {b : Bool} : g_fl (gX b) 344 91 = some (10, 14, 0) := rfl
theorem yf_344_16 {b : Bool} : g_fl (gX b) 344 16 = some (10, 1, 9) := rfl
theorem yf_344_253 {b : Bool} : g_fl (gX b) 344 253 = some (0, 6, 0) := rfl
theorem ym_344_262 {b : Bool} : g_ml (gX b) 344 262 = some (0, 203, 0, 0) := rfl
theorem yf_344_63 {b : Bool} : g_fl (gX b) 344 63 = some (10, 8, 9) := rfl
theorem ym_344_265 {b : Bool} : g_ml (gX b) 344 265 = some (0, 284, 0, 8) := rfl
theorem ym_344_268 {b : Bool} : g_ml (gX b) 344 268 = some (0, 204, 1, 0) := rfl
theorem ym_344_256 {b : Bool} : g_ml (gX b) 344 256 = some (0, 201, 1, 0) := rfl
theorem yf_344_23 {b : Bool} : g_fl (gX b) 344 23 = some (10, 2, 2) := rfl
theorem yf_344_271 {b : Bool} : g_fl (gX b) 344 271 = some (5, 6, 0) := rfl
theorem ym_344_274 {b : Bool} : g_ml (gX b) 344 274 = some (0, 205, 1, 0) := rfl
theorem ym_344_278 {b : Bool} : g_ml (gX b) 344 278 = some (0, 289, 2, 8) := rfl
theorem ym_344_237 {b : Bool} : g_ml (gX b) 344 237 = some (0, 288, 2, 8) := rfl
theorem ym_344_281 {b : Bool} : g_ml (gX b) 344 281 = some (0, 283, 0, 8) := rfl
theorem ym_344_284 {b : Bool} : g_ml (gX b) 344 284 = some (0, 202, 1, 0) := rfl
theorem yx_345 {b : Bool} : g_mx (gX b) 345 = 2 := rfl
theorem yt_345 {b : Bool} : g_rt (gX b) 345 = 1 := rfl
theorem y_345_0 {b : Bool} : g_co (gX b) 345 0 = some (.aload_n 0) := rfl
theorem y_345_1 {b : Bool} : g_co (gX b) 345 1 = some (.getfield 70) := rfl
theorem y_345_4 {b : Bool} : g_co (gX b) 345 4 = some (.getfield 287) := rfl
theorem y_345_7 {b : Bool} : g_co (gX b) 345 7 = some (.istore_n 1) := rfl
theorem y_345_8 {b : Bool} : g_co (gX b) 345 8 = some (.aload_n 0) := rfl
theorem y_345_9 {b : Bool} : g_co (gX b) 345 9 = some (.getfield 70) := rfl
theorem y_345_12 {b : Bool} : g_co (gX b) 345 12 = some (.invokevirtual 97) := rfl
theorem y_345_15 {b : Bool} : g_co (gX b) 345 15 = some (.iload_n 1) := rfl
theorem y_345_16 {b : Bool} : g_co (gX b) 345 16 = some (.ireturn) := rfl
theorem yf_345_70 {b : Bool} : g_fl (gX b) 345 70 = some (10, 9, 9) := rfl
theorem yf_345_287 {b : Bool} : g_fl (gX b) 345 287 = some (4, 1, 0) := rfl
theorem ym_345_97 {b : Bool} : g_ml (gX b) 345 97 = some (0, 244, 0, 4) := rfl
theorem yx_346 {b : Bool} : g_mx (gX b) 346 = 3 := rfl
theorem yt_346 {b : Bool} : g_rt (gX b) 346 = 1 := rfl
theorem y_346_0 {b : Bool} : g_co (gX b) 346 0 = some (.aload_n 0) := rfl
theorem y_346_1 {b : Bool} : g_co (gX b) 346 1 = some (.iload_n 2) := rfl
theorem y_346_2 {b : Bool} : g_co (gX b) 346 2 = some (.invokevirtual 124) := rfl
theorem y_346_5 {b : Bool} : g_co (gX b) 346 5 = some (.iload_n 1) := rfl
theorem y_346_6 {b : Bool} : g_co (gX b) 346 6 = some (.ifCond .lt 8) := rfl
theorem y_346_9 {b : Bool} : g_co (gX b) 346 9 = some (.iload_n 1) := rfl
theorem y_346_10 {b : Bool} : g_co (gX b) 346 10 = some (.iconst 1) := rfl
theorem y_346_11 {b : Bool} : g_co (gX b) 346 11 = some (.if_icmp .le 11) := rfl
theorem y_346_14 {b : Bool} : g_co (gX b) 346 14 = some (.new 102) := rfl
theorem y_346_17 {b : Bool} : g_co (gX b) 346 17 = some (.dup) := rfl
theorem y_346_18 {b : Bool} : g_co (gX b) 346 18 = some (.invokespecial 104) := rfl
theorem y_346_21 {b : Bool} : g_co (gX b) 346 21 = some (.athrow) := rfl
theorem y_346_22 {b : Bool} : g_co (gX b) 346 22 = some (.aload_n 0) := rfl
theorem y_346_23 {b : Bool} : g_co (gX b) 346 23 = some (.getfield 70) := rfl
theorem y_346_26 {b : Bool} : g_co (gX b) 346 26 = some (.iload_n 1) := rfl
theorem y_346_27 {b : Bool} : g_co (gX b) 346 27 = some (.iload_n 2) := rfl
theorem y_346_28 {b : Bool} : g_co (gX b) 346 28 = some (.invokevirtual 290) := rfl
theorem y_346_31 {b : Bool} : g_co (gX b) 346 31 = some (.ireturn) := rfl
theorem ym_346_124 {b : Bool} : g_ml (gX b) 346 124 = some (0, 354, 1, 10) := rfl
theorem yf_346_70 {b : Bool} : g_fl (gX b) 346 70 = some (10, 9, 9) := rfl
theorem ym_346_290 {b : Bool} : g_ml (gX b) 346 290 = some (0, 245, 2, 4) := rfl
theorem yx_347 {b : Bool} : g_mx (gX b) 347 = 3 := rfl
theorem yt_347 {b : Bool} : g_rt (gX b) 347 = 1 := rfl
theorem y_347_0 {b : Bool} : g_co (gX b) 347 0 = some (.aload_n 0) := rfl
theorem y_347_1 {b : Bool} : g_co (gX b) 347 1 = some (.iload_n 2) := rfl
theorem y_347_2 {b : Bool} : g_co (gX b) 347 2 = some (.bipush 8) := rfl
theorem y_347_4 {b : Bool} : g_co (gX b) 347 4 = some (.invokevirtual 139) := rfl
theorem y_347_7 {b : Bool} : g_co (gX b) 347 7 = some (.iload_n 1) := rfl
theorem y_347_8 {b : Bool} : g_co (gX b) 347 8 = some (.ifCond .lt 8) := rfl
theorem y_347_11 {b : Bool} : g_co (gX b) 347 11 = some (.iload_n 1) := rfl
theorem y_347_12 {b : Bool} : g_co (gX b) 347 12 = some (.iconst 1) := rfl
theorem y_347_13 {b : Bool} : g_co (gX b) 347 13 = some (.if_icmp .le 11) := rfl
theorem y_347_16 {b : Bool} : g_co (gX b) 347 16 = some (.new 102) := rfl
theorem y_347_19 {b : Bool} : g_co (gX b) 347 19 = some (.dup) := rfl
theorem y_347_20 {b : Bool} : g_co (gX b) 347 20 = some (.invokespecial 104) := rfl
theorem y_347_23 {b : Bool} : g_co (gX b) 347 23 = some (.athrow) := rfl
theorem y_347_24 {b : Bool} : g_co (gX b) 347 24 = some (.aload_n 0) := rfl
theorem y_347_25 {b : Bool} : g_co (gX b) 347 25 = some (.getfield 70) := rfl
theorem y_347_28 {b : Bool} : g_co (gX b) 347 28 = some (.getfield 293) := rfl
theorem y_347_31 {b : Bool} : g_co (gX b) 347 31 = some (.iload_n 1) := rfl
theorem y_347_32 {b : Bool} : g_co (gX b) 347 32 = some (.aaload) := rfl
theorem y_347_33 {b : Bool} : g_co (gX b) 347 33 = some (.getfield 143) := rfl
theorem y_347_36 {b : Bool} : g_co (gX b) 347 36 = some (.iload_n 2) := rfl
theorem y_347_37 {b : Bool} : g_co (gX b) 347 37 = some (.iaload) := rfl
theorem y_347_38 {b : Bool} : g_co (gX b) 347 38 = some (.ireturn) := rfl
theorem ym_347_139 {b : Bool} : g_ml (gX b) 347 139 = some (0, 355, 2, 10) := rfl
theorem yf_347_70 {b : Bool} : g_fl (gX b) 347 70 = some (10, 9, 9) := rfl
theorem yf_347_293 {b : Bool} : g_fl (gX b) 347 293 = some (4, 0, 9) := rfl
theorem yf_347_143 {b : Bool} : g_fl (gX b) 347 143 = some (3, 0, 9) := rfl
theorem yx_348 {b : Bool} : g_mx (gX b) 348 = 2 := rfl
theorem yt_348 {b : Bool} : g_rt (gX b) 348 = 1 := rfl
theorem y_348_0 {b : Bool} : g_co (gX b) 348 0 = some (.aload_n 0) := rfl
theorem y_348_1 {b : Bool} : g_co (gX b) 348 1 = some (.iload_n 1) := rfl
theorem y_348_2 {b : Bool} : g_co (gX b) 348 2 = some (.invokevirtual 234) := rfl
theorem y_348_5 {b : Bool} : g_co (gX b) 348 5 = some (.aload_n 0) := rfl
theorem y_348_6 {b : Bool} : g_co (gX b) 348 6 = some (.getfield 70) := rfl
theorem y_348_9 {b : Bool} : g_co (gX b) 348 9 = some (.iload_n 1) := rfl
theorem y_348_10 {b : Bool} : g_co (gX b) 348 10 = some (.invokevirtual 297) := rfl
theorem y_348_13 {b : Bool} : g_co (gX b) 348 13 = some (.ireturn) := rfl
theorem ym_348_234 {b : Bool} : g_ml (gX b) 348 234 = some (0, 358, 1, 10) := rfl
theorem yf_348_70 {b : Bool} : g_fl (gX b) 348 70 = some (10, 9, 9) := rfl
theorem ym_348_297 {b : Bool} : g_ml (gX b) 348 297 = some (0, 247, 1, 4) := rfl
theorem yx_349 {b : Bool} : g_mx (gX b) 349 = 4 := rfl
theorem yt_349 {b : Bool} : g_rt (gX b) 349 = 1 := rfl
theorem y_349_0 {b : Bool} : g_co (gX b) 349 0 = some (.aload_n 0) := rfl
theorem y_349_1 {b : Bool} : g_co (gX b) 349 1 = some (.iload_n 1) := rfl
theorem y_349_2 {b : Bool} : g_co (gX b) 349 2 = some (.iload_n 2) := rfl
theorem y_349_3 {b : Bool} : g_co (gX b) 349 3 = some (.invokevirtual 214) := rfl
theorem y_349_6 {b : Bool} : g_co (gX b) 349 6 = some (.aload_n 0) := rfl
theorem y_349_7 {b : Bool} : g_co (gX b) 349 7 = some (.getfield 47) := rfl
theorem y_349_10 {b : Bool} : g_co (gX b) 349 10 = some (.aload_n 0) := rfl
theorem y_349_11 {b : Bool} : g_co (gX b) 349 11 = some (.getfield 27) := rfl
theorem y_349_14 {b : Bool} : g_co (gX b) 349 14 = some (.putfield 112) := rfl
theorem y_349_17 {b : Bool} : g_co (gX b) 349 17 = some (.aload_n 0) := rfl
theorem y_349_18 {b : Bool} : g_co (gX b) 349 18 = some (.getfield 63) := rfl
theorem y_349_21 {b : Bool} : g_co (gX b) 349 21 = some (.invokevirtual 281) := rfl
theorem y_349_24 {b : Bool} : g_co (gX b) 349 24 = some (.aload_n 0) := rfl
theorem y_349_25 {b : Bool} : g_co (gX b) 349 25 = some (.getfield 63) := rfl
theorem y_349_28 {b : Bool} : g_co (gX b) 349 28 = some (.iload_n 1) := rfl
theorem y_349_29 {b : Bool} : g_co (gX b) 349 29 = some (.iload_n 2) := rfl
theorem y_349_30 {b : Bool} : g_co (gX b) 349 30 = some (.iconst 0) := rfl
theorem y_349_31 {b : Bool} : g_co (gX b) 349 31 = some (.invokevirtual 217) := rfl
theorem y_349_34 {b : Bool} : g_co (gX b) 349 34 = some (.aload_n 0) := rfl
theorem y_349_35 {b : Bool} : g_co (gX b) 349 35 = some (.getfield 63) := rfl
theorem y_349_38 {b : Bool} : g_co (gX b) 349 38 = some (.invokevirtual 221) := rfl
theorem y_349_41 {b : Bool} : g_co (gX b) 349 41 = some (.istore_n 3) := rfl
theorem y_349_42 {b : Bool} : g_co (gX b) 349 42 = some (.aload_n 0) := rfl
theorem y_349_43 {b : Bool} : g_co (gX b) 349 43 = some (.getfield 47) := rfl
theorem y_349_46 {b : Bool} : g_co (gX b) 349 46 = some (.aload_n 0) := rfl
theorem y_349_47 {b : Bool} : g_co (gX b) 349 47 = some (.getfield 23) := rfl
theorem y_349_50 {b : Bool} : g_co (gX b) 349 50 = some (.putfield 112) := rfl
theorem y_349_53 {b : Bool} : g_co (gX b) 349 53 = some (.aload_n 0) := rfl
theorem y_349_54 {b : Bool} : g_co (gX b) 349 54 = some (.getfield 63) := rfl
theorem y_349_57 {b : Bool} : g_co (gX b) 349 57 = some (.invokevirtual 281) := rfl
theorem y_349_60 {b : Bool} : g_co (gX b) 349 60 = some (.iload_n 3) := rfl
theorem y_349_61 {b : Bool} : g_co (gX b) 349 61 = some (.ifCond .lt 5) := rfl
theorem y_349_64 {b : Bool} : g_co (gX b) 349 64 = some (.iconst (-1)) := rfl
theorem y_349_65 {b : Bool} : g_co (gX b) 349 65 = some (.ireturn) := rfl
theorem y_349_66 {b : Bool} : g_co (gX b) 349 66 = some (.aload_n 0) := rfl
theorem y_349_67 {b : Bool} : g_co (gX b) 349 67 = some (.getfield 63) := rfl
theorem y_349_70 {b : Bool} : g_co (gX b) 349 70 = some (.iload_n 1) := rfl
theorem y_349_71 {b : Bool} : g_co (gX b) 349 71 = some (.iload_n 2) := rfl
theorem y_349_72 {b : Bool} : g_co (gX b) 349 72 = some (.iconst 0) := rfl
theorem y_349_73 {b : Bool} : g_co (gX b) 349 73 = some (.invokevirtual 217) := rfl
theorem y_349_76 {b : Bool} : g_co (gX b) 349 76 = some (.aload_n 0) := rfl
theorem y_349_77 {b : Bool} : g_co (gX b) 349 77 = some (.getfield 63) := rfl
theorem y_349_80 {b : Bool} : g_co (gX b) 349 80 = some (.invokevirtual 221) := rfl
theorem y_349_83 {b : Bool} : g_co (gX b) 349 83 = some (.iconst (-1)) := rfl
theorem y_349_84 {b : Bool} : g_co (gX b) 349 84 = some (.invokestatic 197) := rfl
theorem y_349_87 {b : Bool} : g_co (gX b) 349 87 = some (.ireturn) := rfl
theorem ym_349_214 {b : Bool} : g_ml (gX b) 349 214 = some (0, 357, 2, 10) := rfl
theorem yf_349_47 {b : Bool} : g_fl (gX b) 349 47 = some (10, 6, 9) := rfl
theorem yf_349_27 {b : Bool} : g_fl (gX b) 349 27 = some (10, 3, 2) := rfl
theorem yf_349_112 {b : Bool} : g_fl (gX b) 349 112 = some (1, 2, 2) := rfl
theorem yf_349_63 {b : Bool} : g_fl (gX b) 349 63 = some (10, 8, 9) := rfl
theorem ym_349_281 {b : Bool} : g_ml (gX b) 349 281 = some (0, 283, 0, 8) := rfl
theorem ym_349_217 {b : Bool} : g_ml (gX b) 349 217 = some (0, 285, 3, 8) := rfl
theorem ym_349_221 {b : Bool} : g_ml (gX b) 349 221 = some (0, 286, 0, 8) := rfl
theorem yf_349_23 {b : Bool} : g_fl (gX b) 349 23 = some (10, 2, 2) := rfl
theorem yn_349_197 {b : Bool} : g_ml (gX b) 349 197 = none := rfl
theorem yz_349_197 {b : Bool} : g_nt (gX b) 349 197 = 2 := rfl
theorem yx_350 {b : Bool} : g_mx (gX b) 350 = 2 := rfl
theorem yt_350 {b : Bool} : g_rt (gX b) 350 = 1 := rfl
theorem y_350_0 {b : Bool} : g_co (gX b) 350 0 = some (.iload_n 1) := rfl
theorem y_350_1 {b : Bool} : g_co (gX b) 350 1 = some (.tableswitch 114 0 7 #[47, 55, 63, 71, 82, 93, 101, 109]) := rfl
theorem y_350_48 {b : Bool} : g_co (gX b) 350 48 = some (.aload_n 0) := rfl
theorem y_350_49 {b : Bool} : g_co (gX b) 350 49 = some (.getfield 23) := rfl
theorem y_350_52 {b : Bool} : g_co (gX b) 350 52 = some (.getfield 118) := rfl
theorem y_350_55 {b : Bool} : g_co (gX b) 350 55 = some (.ireturn) := rfl
theorem y_350_56 {b : Bool} : g_co (gX b) 350 56 = some (.aload_n 0) := rfl
theorem y_350_57 {b : Bool} : g_co (gX b) 350 57 = some (.getfield 23) := rfl
theorem y_350_60 {b : Bool} : g_co (gX b) 350 60 = some (.getfield 300) := rfl
theorem y_350_63 {b : Bool} : g_co (gX b) 350 63 = some (.ireturn) := rfl
theorem y_350_64 {b : Bool} : g_co (gX b) 350 64 = some (.aload_n 0) := rfl
theorem y_350_65 {b : Bool} : g_co (gX b) 350 65 = some (.getfield 56) := rfl
theorem y_350_68 {b : Bool} : g_co (gX b) 350 68 = some (.getfield 121) := rfl
theorem y_350_71 {b : Bool} : g_co (gX b) 350 71 = some (.ireturn) := rfl
theorem y_350_72 {b : Bool} : g_co (gX b) 350 72 = some (.aload_n 0) := rfl
theorem y_350_73 {b : Bool} : g_co (gX b) 350 73 = some (.getfield 56) := rfl
theorem y_350_76 {b : Bool} : g_co (gX b) 350 76 = some (.getfield 127) := rfl
theorem y_350_79 {b : Bool} : g_co (gX b) 350 79 = some (.invokevirtual 303) := rfl
theorem y_350_82 {b : Bool} : g_co (gX b) 350 82 = some (.ireturn) := rfl
theorem y_350_83 {b : Bool} : g_co (gX b) 350 83 = some (.aload_n 0) := rfl
theorem y_350_84 {b : Bool} : g_co (gX b) 350 84 = some (.getfield 56) := rfl
theorem y_350_87 {b : Bool} : g_co (gX b) 350 87 = some (.getfield 127) := rfl
theorem y_350_90 {b : Bool} : g_co (gX b) 350 90 = some (.invokevirtual 152) := rfl
theorem y_350_93 {b : Bool} : g_co (gX b) 350 93 = some (.ireturn) := rfl
theorem y_350_94 {b : Bool} : g_co (gX b) 350 94 = some (.aload_n 0) := rfl
theorem y_350_95 {b : Bool} : g_co (gX b) 350 95 = some (.getfield 16) := rfl
theorem y_350_98 {b : Bool} : g_co (gX b) 350 98 = some (.getfield 252) := rfl
theorem y_350_101 {b : Bool} : g_co (gX b) 350 101 = some (.ireturn) := rfl
theorem y_350_102 {b : Bool} : g_co (gX b) 350 102 = some (.aload_n 0) := rfl
theorem y_350_103 {b : Bool} : g_co (gX b) 350 103 = some (.getfield 77) := rfl
theorem y_350_106 {b : Bool} : g_co (gX b) 350 106 = some (.getfield 241) := rfl
theorem y_350_109 {b : Bool} : g_co (gX b) 350 109 = some (.ireturn) := rfl
theorem y_350_110 {b : Bool} : g_co (gX b) 350 110 = some (.aload_n 0) := rfl
theorem y_350_111 {b : Bool} : g_co (gX b) 350 111 = some (.getfield 81) := rfl
theorem y_350_114 {b : Bool} : g_co (gX b) 350 114 = some (.ireturn) := rfl
theorem y_350_115 {b : Bool} : g_co (gX b) 350 115 = some (.iconst (-1)) := rfl
theorem y_350_116 {b : Bool} : g_co (gX b) 350 116 = some (.ireturn) := rfl
theorem yf_350_23 {b : Bool} : g_fl (gX b) 350 23 = some (10, 2, 2) := rfl
theorem yf_350_118 {b : Bool} : g_fl (gX b) 350 118 = some (5, 4, 0) := rfl
theorem yf_350_300 {b : Bool} : g_fl (gX b) 350 300 = some (5, 5, 0) := rfl
theorem yf_350_56 {b : Bool} : g_fl (gX b) 350 56 = some (10, 7, 9) := rfl
theorem yf_350_121 {b : Bool} : g_fl (gX b) 350 121 = some (9, 5, 0) := rfl
theorem yf_350_127 {b : Bool} : g_fl (gX b) 350 127 = some (9, 0, 9) := rfl
theorem ym_350_303 {b : Bool} : g_ml (gX b) 350 303 = some (0, 231, 0, 3) := rfl
theorem ym_350_152 {b : Bool} : g_ml (gX b) 350 152 = some (0, 233, 0, 3) := rfl
theorem yf_350_16 {b : Bool} : g_fl (gX b) 350 16 = some (10, 1, 9) := rfl
theorem yf_350_252 {b : Bool} : g_fl (gX b) 350 252 = some (0, 5, 0) := rfl
theorem yf_350_77 {b : Bool} : g_fl (gX b) 350 77 = some (10, 10, 9) := rfl
theorem yf_350_241 {b : Bool} : g_fl (gX b) 350 241 = some (7, 1, 0) := rfl
theorem yf_350_81 {b : Bool} : g_fl (gX b) 350 81 = some (10, 11, 0) := rfl
theorem yx_351 {b : Bool} : g_mx (gX b) 351 = 3 := rfl
theorem yt_351 {b : Bool} : g_rt (gX b) 351 = 0 := rfl
theorem y_351_0 {b : Bool} : g_co (gX b) 351 0 = some (.bipush 24) := rfl
theorem y_351_2 {b : Bool} : g_co (gX b) 351 2 = some (.istore_n 2) := rfl
theorem y_351_3 {b : Bool} : g_co (gX b) 351 3 = some (.iload_n 2) := rfl
theorem y_351_4 {b : Bool} : g_co (gX b) 351 4 = some (.ifCond .lt 45) := rfl
theorem y_351_7 {b : Bool} : g_co (gX b) 351 7 = some (.aload_n 0) := rfl
theorem y_351_8 {b : Bool} : g_co (gX b) 351 8 = some (.getfield 81) := rfl
theorem y_351_11 {b : Bool} : g_co (gX b) 351 11 = some (.sipush 600) := rfl
theorem y_351_14 {b : Bool} : g_co (gX b) 351 14 = some (.if_icmp .ge 29) := rfl
theorem y_351_17 {b : Bool} : g_co (gX b) 351 17 = some (.aload_n 0) := rfl
theorem y_351_18 {b : Bool} : g_co (gX b) 351 18 = some (.getfield 9) := rfl
theorem y_351_21 {b : Bool} : g_co (gX b) 351 21 = some (.aload_n 0) := rfl
theorem y_351_22 {b : Bool} : g_co (gX b) 351 22 = some (.getfield 81) := rfl
theorem y_351_25 {b : Bool} : g_co (gX b) 351 25 = some (.iload_n 1) := rfl
theorem y_351_26 {b : Bool} : g_co (gX b) 351 26 = some (.iload_n 2) := rfl
theorem y_351_27 {b : Bool} : g_co (gX b) 351 27 = some (.ishr) := rfl
theorem y_351_28 {b : Bool} : g_co (gX b) 351 28 = some (.sipush 255) := rfl
theorem y_351_31 {b : Bool} : g_co (gX b) 351 31 = some (.iand) := rfl
theorem y_351_32 {b : Bool} : g_co (gX b) 351 32 = some (.iastore) := rfl
theorem y_351_33 {b : Bool} : g_co (gX b) 351 33 = some (.aload_n 0) := rfl
theorem y_351_34 {b : Bool} : g_co (gX b) 351 34 = some (.dup) := rfl
theorem y_351_35 {b : Bool} : g_co (gX b) 351 35 = some (.getfield 81) := rfl
theorem y_351_38 {b : Bool} : g_co (gX b) 351 38 = some (.iconst 1) := rfl
theorem y_351_39 {b : Bool} : g_co (gX b) 351 39 = some (.iadd) := rfl
theorem y_351_40 {b : Bool} : g_co (gX b) 351 40 = some (.putfield 81) := rfl
theorem y_351_43 {b : Bool} : g_co (gX b) 351 43 = some (.iinc 2 (-8)) := rfl
theorem y_351_46 {b : Bool} : g_co (gX b) 351 46 = some (.goto (-43)) := rfl
theorem y_351_49 {b : Bool} : g_co (gX b) 351 49 = some (.return_) := rfl
theorem yf_351_81 {b : Bool} : g_fl (gX b) 351 81 = some (10, 11, 0) := rfl
theorem yf_351_9 {b : Bool} : g_fl (gX b) 351 9 = some (10, 0, 9) := rfl
theorem yx_352 {b : Bool} : g_mx (gX b) 352 = 1 := rfl
theorem yt_352 {b : Bool} : g_rt (gX b) 352 = 0 := rfl
theorem y_352_0 {b : Bool} : g_co (gX b) 352 0 = some (.aload_n 0) := rfl
theorem y_352_1 {b : Bool} : g_co (gX b) 352 1 = some (.iconst (-1)) := rfl
theorem y_352_2 {b : Bool} : g_co (gX b) 352 2 = some (.putfield 88) := rfl
theorem y_352_5 {b : Bool} : g_co (gX b) 352 5 = some (.aload_n 0) := rfl
theorem y_352_6 {b : Bool} : g_co (gX b) 352 6 = some (.invokevirtual 259) := rfl
theorem y_352_9 {b : Bool} : g_co (gX b) 352 9 = some (.return_) := rfl
theorem yf_352_88 {b : Bool} : g_fl (gX b) 352 88 = some (10, 13, 0) := rfl
theorem ym_352_259 {b : Bool} : g_ml (gX b) 352 259 = some (0, 353, 0, 10) := rfl
theorem yx_353 {b : Bool} : g_mx (gX b) 353 = 1 := rfl
theorem yt_353 {b : Bool} : g_rt (gX b) 353 = 0 := rfl
theorem y_353_0 {b : Bool} : g_co (gX b) 353 0 = some (.aload_n 0) := rfl
theorem y_353_1 {b : Bool} : g_co (gX b) 353 1 = some (.getfield 63) := rfl
theorem y_353_4 {b : Bool} : g_co (gX b) 353 4 = some (.invokevirtual 281) := rfl
theorem y_353_7 {b : Bool} : g_co (gX b) 353 7 = some (.aload_n 0) := rfl
theorem y_353_8 {b : Bool} : g_co (gX b) 353 8 = some (.getfield 70) := rfl
theorem y_353_11 {b : Bool} : g_co (gX b) 353 11 = some (.invokevirtual 306) := rfl
theorem y_353_14 {b : Bool} : g_co (gX b) 353 14 = some (.aload_n 0) := rfl
theorem y_353_15 {b : Bool} : g_co (gX b) 353 15 = some (.getfield 56) := rfl
theorem y_353_18 {b : Bool} : g_co (gX b) 353 18 = some (.invokevirtual 309) := rfl
theorem y_353_21 {b : Bool} : g_co (gX b) 353 21 = some (.return_) := rfl
theorem yf_353_63 {b : Bool} : g_fl (gX b) 353 63 = some (10, 8, 9) := rfl
theorem ym_353_281 {b : Bool} : g_ml (gX b) 353 281 = some (0, 283, 0, 8) := rfl
theorem yf_353_70 {b : Bool} : g_fl (gX b) 353 70 = some (10, 9, 9) := rfl
theorem ym_353_306 {b : Bool} : g_ml (gX b) 353 306 = some (0, 246, 0, 4) := rfl
theorem yf_353_56 {b : Bool} : g_fl (gX b) 353 56 = some (10, 7, 9) := rfl
theorem ym_353_309 {b : Bool} : g_ml (gX b) 353 309 = some (0, 305, 0, 9) := rfl
theorem yx_354 {b : Bool} : g_mx (gX b) 354 = 2 := rfl
theorem yt_354 {b : Bool} : g_rt (gX b) 354 = 0 := rfl
theorem y_354_0 {b : Bool} : g_co (gX b) 354 0 = some (.iload_n 1) := rfl
theorem y_354_1 {b : Bool} : g_co (gX b) 354 1 = some (.ifCond .lt 9) := rfl
theorem y_354_4 {b : Bool} : g_co (gX b) 354 4 = some (.iload_n 1) := rfl
theorem y_354_5 {b : Bool} : g_co (gX b) 354 5 = some (.bipush 13) := rfl
theorem y_354_7 {b : Bool} : g_co (gX b) 354 7 = some (.if_icmp .lt 11) := rfl
theorem y_354_10 {b : Bool} : g_co (gX b) 354 10 = some (.new 102) := rfl
theorem y_354_13 {b : Bool} : g_co (gX b) 354 13 = some (.dup) := rfl
theorem y_354_14 {b : Bool} : g_co (gX b) 354 14 = some (.invokespecial 104) := rfl
theorem y_354_17 {b : Bool} : g_co (gX b) 354 17 = some (.athrow) := rfl
theorem y_354_18 {b : Bool} : g_co (gX b) 354 18 = some (.return_) := rfl
theorem yx_355 {b : Bool} : g_mx (gX b) 355 = 3 := rfl
theorem yt_355 {b : Bool} : g_rt (gX b) 355 = 0 := rfl
theorem y_355_0 {b : Bool} : g_co (gX b) 355 0 = some (.iload_n 1) := rfl
theorem y_355_1 {b : Bool} : g_co (gX b) 355 1 = some (.ifCond .lt 8) := rfl
theorem y_355_4 {b : Bool} : g_co (gX b) 355 4 = some (.iload_n 1) := rfl
theorem y_355_5 {b : Bool} : g_co (gX b) 355 5 = some (.iload_n 2) := rfl
theorem y_355_6 {b : Bool} : g_co (gX b) 355 6 = some (.if_icmp .lt 11) := rfl
theorem y_355_9 {b : Bool} : g_co (gX b) 355 9 = some (.new 312) := rfl
theorem y_355_12 {b : Bool} : g_co (gX b) 355 12 = some (.dup) := rfl
theorem y_355_13 {b : Bool} : g_co (gX b) 355 13 = some (.invokespecial 314) := rfl
theorem y_355_16 {b : Bool} : g_co (gX b) 355 16 = some (.athrow) := rfl
theorem y_355_17 {b : Bool} : g_co (gX b) 355 17 = some (.return_) := rfl
theorem yx_356 {b : Bool} : g_mx (gX b) 356 = 2 := rfl
theorem yt_356 {b : Bool} : g_rt (gX b) 356 = 0 := rfl
theorem y_356_0 {b : Bool} : g_co (gX b) 356 0 = some (.iload_n 1) := rfl
theorem y_356_1 {b : Bool} : g_co (gX b) 356 1 = some (.ifCond .lt 14) := rfl
theorem y_356_4 {b : Bool} : g_co (gX b) 356 4 = some (.iload_n 1) := rfl
theorem y_356_5 {b : Bool} : g_co (gX b) 356 5 = some (.aload_n 0) := rfl
theorem y_356_6 {b : Bool} : g_co (gX b) 356 6 = some (.getfield 56) := rfl
theorem y_356_9 {b : Bool} : g_co (gX b) 356 9 = some (.getfield 121) := rfl
theorem y_356_12 {b : Bool} : g_co (gX b) 356 12 = some (.if_icmp .lt 11) := rfl
theorem y_356_15 {b : Bool} : g_co (gX b) 356 15 = some (.new 315) := rfl
theorem y_356_18 {b : Bool} : g_co (gX b) 356 18 = some (.dup) := rfl
theorem y_356_19 {b : Bool} : g_co (gX b) 356 19 = some (.invokespecial 317) := rfl
theorem y_356_22 {b : Bool} : g_co (gX b) 356 22 = some (.athrow) := rfl
theorem y_356_23 {b : Bool} : g_co (gX b) 356 23 = some (.return_) := rfl
theorem yf_356_56 {b : Bool} : g_fl (gX b) 356 56 = some (10, 7, 9) := rfl
theorem yf_356_121 {b : Bool} : g_fl (gX b) 356 121 = some (9, 5, 0) := rfl
theorem yx_357 {b : Bool} : g_mx (gX b) 357 = 3 := rfl
theorem yt_357 {b : Bool} : g_rt (gX b) 357 = 0 := rfl
theorem y_357_0 {b : Bool} : g_co (gX b) 357 0 = some (.iload_n 1) := rfl
theorem y_357_1 {b : Bool} : g_co (gX b) 357 1 = some (.ifCond .lt 21) := rfl
theorem y_357_4 {b : Bool} : g_co (gX b) 357 4 = some (.iload_n 1) := rfl
theorem y_357_5 {b : Bool} : g_co (gX b) 357 5 = some (.bipush 8) := rfl
theorem y_357_7 {b : Bool} : g_co (gX b) 357 7 = some (.if_icmp .gt 15) := rfl
theorem y_357_10 {b : Bool} : g_co (gX b) 357 10 = some (.iload_n 2) := rfl
theorem y_357_11 {b : Bool} : g_co (gX b) 357 11 = some (.iconst 1) := rfl
theorem y_357_12 {b : Bool} : g_co (gX b) 357 12 = some (.if_icmp .lt 10) := rfl
theorem y_357_15 {b : Bool} : g_co (gX b) 357 15 = some (.iload_n 2) := rfl
theorem y_357_16 {b : Bool} : g_co (gX b) 357 16 = some (.sipush 600) := rfl
theorem y_357_19 {b : Bool} : g_co (gX b) 357 19 = some (.if_icmp .le 11) := rfl
theorem y_357_22 {b : Bool} : g_co (gX b) 357 22 = some (.new 102) := rfl
theorem y_357_25 {b : Bool} : g_co (gX b) 357 25 = some (.dup) := rfl
theorem y_357_26 {b : Bool} : g_co (gX b) 357 26 = some (.invokespecial 104) := rfl
theorem y_357_29 {b : Bool} : g_co (gX b) 357 29 = some (.athrow) := rfl
theorem y_357_30 {b : Bool} : g_co (gX b) 357 30 = some (.return_) := rfl
theorem yx_358 {b : Bool} : g_mx (gX b) 358 = 2 := rfl
theorem yt_358 {b : Bool} : g_rt (gX b) 358 = 0 := rfl
theorem y_358_0 {b : Bool} : g_co (gX b) 358 0 = some (.iload_n 1) := rfl
theorem y_358_1 {b : Bool} : g_co (gX b) 358 1 = some (.ifCond .lt 8) := rfl
theorem y_358_4 {b : Bool} : g_co (gX b) 358 4 = some (.iload_n 1) := rfl
theorem y_358_5 {b : Bool} : g_co (gX b) 358 5 = some (.iconst 3) := rfl
theorem y_358_6 {b : Bool} : g_co (gX b) 358 6 = some (.if_icmp .le 11) := rfl
theorem y_358_9 {b : Bool} : g_co (gX b) 358 9 = some (.new 102) := rfl
theorem y_358_12 {b : Bool} : g_co (gX b) 358 12 = some (.dup) := rfl
theorem y_358_13 {b : Bool} : g_co (gX b) 358 13 = some (.invokespecial 104) := rfl
theorem y_358_16 {b : Bool} : g_co (gX b) 358 16 = some (.athrow) := rfl
theorem y_358_17 {b : Bool} : g_co (gX b) 358 17 = some (.return_) := rfl
theorem yx_500 {b : Bool} : g_mx (gX b) 500 = 2 := rfl
theorem yt_500 {b : Bool} : g_rt (gX b) 500 = 1 := rfl
theorem y_500_0 {b : Bool} : g_co (gX b) 500 0 = some (.iload_n 0) := rfl
theorem y_500_1 {b : Bool} : g_co (gX b) 500 1 = some (.iconst (-1)) := rfl
theorem y_500_2 {b : Bool} : g_co (gX b) 500 2 = some (.ixor) := rfl
theorem y_500_3 {b : Bool} : g_co (gX b) 500 3 = some (.iload_n 0) := rfl
theorem y_500_4 {b : Bool} : g_co (gX b) 500 4 = some (.iconst 1) := rfl
theorem y_500_5 {b : Bool} : g_co (gX b) 500 5 = some (.isub) := rfl
theorem y_500_6 {b : Bool} : g_co (gX b) 500 6 = some (.iand) := rfl
theorem y_500_7 {b : Bool} : g_co (gX b) 500 7 = some (.istore_n 0) := rfl
theorem y_500_8 {b : Bool} : g_co (gX b) 500 8 = some (.iload_n 0) := rfl
theorem y_500_9 {b : Bool} : g_co (gX b) 500 9 = some (.ifCond .gt 8) := rfl
theorem y_500_12 {b : Bool} : g_co (gX b) 500 12 = some (.iload_n 0) := rfl
theorem y_500_13 {b : Bool} : g_co (gX b) 500 13 = some (.bipush 32) := rfl
theorem y_500_15 {b : Bool} : g_co (gX b) 500 15 = some (.iand) := rfl
theorem y_500_16 {b : Bool} : g_co (gX b) 500 16 = some (.ireturn) := rfl
theorem y_500_17 {b : Bool} : g_co (gX b) 500 17 = some (.iconst 1) := rfl
theorem y_500_18 {b : Bool} : g_co (gX b) 500 18 = some (.istore_n 1) := rfl
theorem y_500_19 {b : Bool} : g_co (gX b) 500 19 = some (.iload_n 0) := rfl
theorem y_500_20 {b : Bool} : g_co (gX b) 500 20 = some (.ldc_w 264) := rfl
theorem y_500_23 {b : Bool} : g_co (gX b) 500 23 = some (.if_icmp .le 11) := rfl
theorem y_500_26 {b : Bool} : g_co (gX b) 500 26 = some (.iinc 1 16) := rfl
theorem y_500_29 {b : Bool} : g_co (gX b) 500 29 = some (.iload_n 0) := rfl
theorem y_500_30 {b : Bool} : g_co (gX b) 500 30 = some (.bipush 16) := rfl
theorem y_500_32 {b : Bool} : g_co (gX b) 500 32 = some (.iushr) := rfl
theorem y_500_33 {b : Bool} : g_co (gX b) 500 33 = some (.istore_n 0) := rfl
theorem y_500_34 {b : Bool} : g_co (gX b) 500 34 = some (.iload_n 0) := rfl
theorem y_500_35 {b : Bool} : g_co (gX b) 500 35 = some (.sipush 256) := rfl
theorem y_500_38 {b : Bool} : g_co (gX b) 500 38 = some (.if_icmp .le 11) := rfl
theorem y_500_41 {b : Bool} : g_co (gX b) 500 41 = some (.iinc 1 8) := rfl
theorem y_500_44 {b : Bool} : g_co (gX b) 500 44 = some (.iload_n 0) := rfl
theorem y_500_45 {b : Bool} : g_co (gX b) 500 45 = some (.bipush 8) := rfl
theorem y_500_47 {b : Bool} : g_co (gX b) 500 47 = some (.iushr) := rfl
theorem y_500_48 {b : Bool} : g_co (gX b) 500 48 = some (.istore_n 0) := rfl
theorem y_500_49 {b : Bool} : g_co (gX b) 500 49 = some (.iload_n 0) := rfl
theorem y_500_50 {b : Bool} : g_co (gX b) 500 50 = some (.bipush 16) := rfl
theorem y_500_52 {b : Bool} : g_co (gX b) 500 52 = some (.if_icmp .le 10) := rfl
theorem y_500_55 {b : Bool} : g_co (gX b) 500 55 = some (.iinc 1 4) := rfl
theorem y_500_58 {b : Bool} : g_co (gX b) 500 58 = some (.iload_n 0) := rfl
theorem y_500_59 {b : Bool} : g_co (gX b) 500 59 = some (.iconst 4) := rfl
theorem y_500_60 {b : Bool} : g_co (gX b) 500 60 = some (.iushr) := rfl
theorem y_500_61 {b : Bool} : g_co (gX b) 500 61 = some (.istore_n 0) := rfl
theorem y_500_62 {b : Bool} : g_co (gX b) 500 62 = some (.iload_n 0) := rfl
theorem y_500_63 {b : Bool} : g_co (gX b) 500 63 = some (.iconst 4) := rfl
theorem y_500_64 {b : Bool} : g_co (gX b) 500 64 = some (.if_icmp .le 10) := rfl
theorem y_500_67 {b : Bool} : g_co (gX b) 500 67 = some (.iinc 1 2) := rfl
theorem y_500_70 {b : Bool} : g_co (gX b) 500 70 = some (.iload_n 0) := rfl
theorem y_500_71 {b : Bool} : g_co (gX b) 500 71 = some (.iconst 2) := rfl
theorem y_500_72 {b : Bool} : g_co (gX b) 500 72 = some (.iushr) := rfl
theorem y_500_73 {b : Bool} : g_co (gX b) 500 73 = some (.istore_n 0) := rfl
theorem y_500_74 {b : Bool} : g_co (gX b) 500 74 = some (.iload_n 1) := rfl
theorem y_500_75 {b : Bool} : g_co (gX b) 500 75 = some (.iload_n 0) := rfl
theorem y_500_76 {b : Bool} : g_co (gX b) 500 76 = some (.iconst 1) := rfl
theorem y_500_77 {b : Bool} : g_co (gX b) 500 77 = some (.iushr) := rfl
theorem y_500_78 {b : Bool} : g_co (gX b) 500 78 = some (.iadd) := rfl
theorem y_500_79 {b : Bool} : g_co (gX b) 500 79 = some (.ireturn) := rfl
theorem yc_500_264 {b : Bool} : g_cn (gX b) 500 264 = some (65536) := rfl
theorem yx_501 {b : Bool} : g_mx (gX b) 501 = 1 := rfl
theorem yt_501 {b : Bool} : g_rt (gX b) 501 = 1 := rfl
theorem y_501_0 {b : Bool} : g_co (gX b) 501 0 = some (.iload_n 0) := rfl
theorem y_501_1 {b : Bool} : g_co (gX b) 501 1 = some (.iload_n 0) := rfl
theorem y_501_2 {b : Bool} : g_co (gX b) 501 2 = some (.iconst 1) := rfl
theorem y_501_3 {b : Bool} : g_co (gX b) 501 3 = some (.iushr) := rfl
theorem y_501_4 {b : Bool} : g_co (gX b) 501 4 = some (.ldc_w 265) := rfl
theorem y_501_7 {b : Bool} : g_co (gX b) 501 7 = some (.iand) := rfl
theorem y_501_8 {b : Bool} : g_co (gX b) 501 8 = some (.isub) := rfl
theorem y_501_9 {b : Bool} : g_co (gX b) 501 9 = some (.istore_n 0) := rfl
theorem y_501_10 {b : Bool} : g_co (gX b) 501 10 = some (.iload_n 0) := rfl
theorem y_501_11 {b : Bool} : g_co (gX b) 501 11 = some (.ldc_w 266) := rfl
theorem y_501_14 {b : Bool} : g_co (gX b) 501 14 = some (.iand) := rfl
theorem y_501_15 {b : Bool} : g_co (gX b) 501 15 = some (.iload_n 0) := rfl
theorem y_501_16 {b : Bool} : g_co (gX b) 501 16 = some (.iconst 2) := rfl
theorem y_501_17 {b : Bool} : g_co (gX b) 501 17 = some (.iushr) := rfl
theorem y_501_18 {b : Bool} : g_co (gX b) 501 18 = some (.ldc_w 266) := rfl
theorem y_501_21 {b : Bool} : g_co (gX b) 501 21 = some (.iand) := rfl
theorem y_501_22 {b : Bool} : g_co (gX b) 501 22 = some (.iadd) := rfl
theorem y_501_23 {b : Bool} : g_co (gX b) 501 23 = some (.istore_n 0) := rfl
theorem y_501_24 {b : Bool} : g_co (gX b) 501 24 = some (.iload_n 0) := rfl
theorem y_501_25 {b : Bool} : g_co (gX b) 501 25 = some (.iload_n 0) := rfl
theorem y_501_26 {b : Bool} : g_co (gX b) 501 26 = some (.iconst 4) := rfl
theorem y_501_27 {b : Bool} : g_co (gX b) 501 27 = some (.iushr) := rfl
theorem y_501_28 {b : Bool} : g_co (gX b) 501 28 = some (.iadd) := rfl
theorem y_501_29 {b : Bool} : g_co (gX b) 501 29 = some (.ldc_w 267) := rfl
theorem y_501_32 {b : Bool} : g_co (gX b) 501 32 = some (.iand) := rfl
theorem y_501_33 {b : Bool} : g_co (gX b) 501 33 = some (.istore_n 0) := rfl
theorem y_501_34 {b : Bool} : g_co (gX b) 501 34 = some (.iload_n 0) := rfl
theorem y_501_35 {b : Bool} : g_co (gX b) 501 35 = some (.iload_n 0) := rfl
theorem y_501_36 {b : Bool} : g_co (gX b) 501 36 = some (.bipush 8) := rfl
theorem y_501_38 {b : Bool} : g_co (gX b) 501 38 = some (.iushr) := rfl
theorem y_501_39 {b : Bool} : g_co (gX b) 501 39 = some (.iadd) := rfl
theorem y_501_40 {b : Bool} : g_co (gX b) 501 40 = some (.istore_n 0) := rfl
theorem y_501_41 {b : Bool} : g_co (gX b) 501 41 = some (.iload_n 0) := rfl
theorem y_501_42 {b : Bool} : g_co (gX b) 501 42 = some (.iload_n 0) := rfl
theorem y_501_43 {b : Bool} : g_co (gX b) 501 43 = some (.bipush 16) := rfl
theorem y_501_45 {b : Bool} : g_co (gX b) 501 45 = some (.iushr) := rfl
theorem y_501_46 {b : Bool} : g_co (gX b) 501 46 = some (.iadd) := rfl
theorem y_501_47 {b : Bool} : g_co (gX b) 501 47 = some (.istore_n 0) := rfl
theorem y_501_48 {b : Bool} : g_co (gX b) 501 48 = some (.iload_n 0) := rfl
theorem y_501_49 {b : Bool} : g_co (gX b) 501 49 = some (.bipush 63) := rfl
theorem y_501_51 {b : Bool} : g_co (gX b) 501 51 = some (.iand) := rfl
theorem y_501_52 {b : Bool} : g_co (gX b) 501 52 = some (.ireturn) := rfl
theorem yc_501_265 {b : Bool} : g_cn (gX b) 501 265 = some (1431655765) := rfl
theorem yc_501_266 {b : Bool} : g_cn (gX b) 501 266 = some (858993459) := rfl
theorem yc_501_267 {b : Bool} : g_cn (gX b) 501 267 = some (252645135) := rfl
theorem yx_502 {b : Bool} : g_mx (gX b) 502 = 3 := rfl
theorem yt_502 {b : Bool} : g_rt (gX b) 502 = 0 := rfl
theorem y_502_0 {b : Bool} : g_co (gX b) 502 0 = some (.iload_n 1) := rfl
theorem y_502_1 {b : Bool} : g_co (gX b) 502 1 = some (.iload_n 2) := rfl
theorem y_502_2 {b : Bool} : g_co (gX b) 502 2 = some (.if_icmp .le 44) := rfl
theorem y_502_5 {b : Bool} : g_co (gX b) 502 5 = some (.new 43) := rfl
theorem y_502_8 {b : Bool} : g_co (gX b) 502 8 = some (.dup) := rfl
theorem y_502_9 {b : Bool} : g_co (gX b) 502 9 = some (.new 45) := rfl
theorem y_502_12 {b : Bool} : g_co (gX b) 502 12 = some (.dup) := rfl
theorem y_502_13 {b : Bool} : g_co (gX b) 502 13 = some (.invokespecial 47) := rfl
theorem y_502_16 {b : Bool} : g_co (gX b) 502 16 = some (.ldc 48) := rfl
theorem y_502_18 {b : Bool} : g_co (gX b) 502 18 = some (.invokevirtual 50) := rfl
theorem y_502_21 {b : Bool} : g_co (gX b) 502 21 = some (.iload_n 1) := rfl
theorem y_502_22 {b : Bool} : g_co (gX b) 502 22 = some (.invokevirtual 54) := rfl
theorem y_502_25 {b : Bool} : g_co (gX b) 502 25 = some (.ldc 57) := rfl
theorem y_502_27 {b : Bool} : g_co (gX b) 502 27 = some (.invokevirtual 50) := rfl
theorem y_502_30 {b : Bool} : g_co (gX b) 502 30 = some (.iload_n 2) := rfl
theorem y_502_31 {b : Bool} : g_co (gX b) 502 31 = some (.invokevirtual 54) := rfl
theorem y_502_34 {b : Bool} : g_co (gX b) 502 34 = some (.ldc 59) := rfl
theorem y_502_36 {b : Bool} : g_co (gX b) 502 36 = some (.invokevirtual 50) := rfl
theorem y_502_39 {b : Bool} : g_co (gX b) 502 39 = some (.invokevirtual 61) := rfl
theorem y_502_42 {b : Bool} : g_co (gX b) 502 42 = some (.invokespecial 65) := rfl
theorem y_502_45 {b : Bool} : g_co (gX b) 502 45 = some (.athrow) := rfl
theorem y_502_46 {b : Bool} : g_co (gX b) 502 46 = some (.iload_n 1) := rfl
theorem y_502_47 {b : Bool} : g_co (gX b) 502 47 = some (.ifCond .ge 12) := rfl
theorem y_502_50 {b : Bool} : g_co (gX b) 502 50 = some (.new 68) := rfl
theorem y_502_53 {b : Bool} : g_co (gX b) 502 53 = some (.dup) := rfl
theorem y_502_54 {b : Bool} : g_co (gX b) 502 54 = some (.iload_n 1) := rfl
theorem y_502_55 {b : Bool} : g_co (gX b) 502 55 = some (.invokespecial 70) := rfl
theorem y_502_58 {b : Bool} : g_co (gX b) 502 58 = some (.athrow) := rfl
theorem y_502_59 {b : Bool} : g_co (gX b) 502 59 = some (.iload_n 2) := rfl
theorem y_502_60 {b : Bool} : g_co (gX b) 502 60 = some (.iload_n 0) := rfl
theorem y_502_61 {b : Bool} : g_co (gX b) 502 61 = some (.if_icmp .le 12) := rfl
theorem y_502_64 {b : Bool} : g_co (gX b) 502 64 = some (.new 68) := rfl
theorem y_502_67 {b : Bool} : g_co (gX b) 502 67 = some (.dup) := rfl
theorem y_502_68 {b : Bool} : g_co (gX b) 502 68 = some (.iload_n 2) := rfl
theorem y_502_69 {b : Bool} : g_co (gX b) 502 69 = some (.invokespecial 70) := rfl
theorem y_502_72 {b : Bool} : g_co (gX b) 502 72 = some (.athrow) := rfl
theorem y_502_73 {b : Bool} : g_co (gX b) 502 73 = some (.return_) := rfl
theorem yn_502_50 {b : Bool} : g_ml (gX b) 502 50 = none := rfl
theorem yn_502_54 {b : Bool} : g_ml (gX b) 502 54 = none := rfl
theorem yn_502_61 {b : Bool} : g_ml (gX b) 502 61 = none := rfl
theorem yx_503 {b : Bool} : g_mx (gX b) 503 = 4 := rfl
theorem yt_503 {b : Bool} : g_rt (gX b) 503 = 0 := rfl
theorem y_503_0 {b : Bool} : g_co (gX b) 503 0 = some (.iconst 0) := rfl
theorem y_503_1 {b : Bool} : g_co (gX b) 503 1 = some (.istore_n 2) := rfl
theorem y_503_2 {b : Bool} : g_co (gX b) 503 2 = some (.aload_n 0) := rfl
theorem y_503_3 {b : Bool} : g_co (gX b) 503 3 = some (.arraylength) := rfl
theorem y_503_4 {b : Bool} : g_co (gX b) 503 4 = some (.istore_n 3) := rfl
theorem y_503_5 {b : Bool} : g_co (gX b) 503 5 = some (.iload_n 2) := rfl
theorem y_503_6 {b : Bool} : g_co (gX b) 503 6 = some (.iload_n 3) := rfl
theorem y_503_7 {b : Bool} : g_co (gX b) 503 7 = some (.if_icmp .ge 13) := rfl
theorem y_503_10 {b : Bool} : g_co (gX b) 503 10 = some (.aload_n 0) := rfl
theorem y_503_11 {b : Bool} : g_co (gX b) 503 11 = some (.iload_n 2) := rfl
theorem y_503_12 {b : Bool} : g_co (gX b) 503 12 = some (.iload_n 1) := rfl
theorem y_503_13 {b : Bool} : g_co (gX b) 503 13 = some (.iastore) := rfl
theorem y_503_14 {b : Bool} : g_co (gX b) 503 14 = some (.iinc 2 1) := rfl
theorem y_503_17 {b : Bool} : g_co (gX b) 503 17 = some (.goto (-12)) := rfl
theorem y_503_20 {b : Bool} : g_co (gX b) 503 20 = some (.return_) := rfl
theorem yx_504 {b : Bool} : g_mx (gX b) 504 = 5 := rfl
theorem yt_504 {b : Bool} : g_rt (gX b) 504 = 0 := rfl
theorem y_504_0 {b : Bool} : g_co (gX b) 504 0 = some (.aload_n 0) := rfl
theorem y_504_1 {b : Bool} : g_co (gX b) 504 1 = some (.arraylength) := rfl
theorem y_504_2 {b : Bool} : g_co (gX b) 504 2 = some (.iload_n 1) := rfl
theorem y_504_3 {b : Bool} : g_co (gX b) 504 3 = some (.iload_n 2) := rfl
theorem y_504_4 {b : Bool} : g_co (gX b) 504 4 = some (.invokestatic 13) := rfl
theorem y_504_7 {b : Bool} : g_co (gX b) 504 7 = some (.iload_n 1) := rfl
theorem y_504_8 {b : Bool} : g_co (gX b) 504 8 = some (.istore 4) := rfl
theorem y_504_10 {b : Bool} : g_co (gX b) 504 10 = some (.iload 4) := rfl
theorem y_504_12 {b : Bool} : g_co (gX b) 504 12 = some (.iload_n 2) := rfl
theorem y_504_13 {b : Bool} : g_co (gX b) 504 13 = some (.if_icmp .ge 14) := rfl
theorem y_504_16 {b : Bool} : g_co (gX b) 504 16 = some (.aload_n 0) := rfl
theorem y_504_17 {b : Bool} : g_co (gX b) 504 17 = some (.iload 4) := rfl
theorem y_504_19 {b : Bool} : g_co (gX b) 504 19 = some (.iload_n 3) := rfl
theorem y_504_20 {b : Bool} : g_co (gX b) 504 20 = some (.iastore) := rfl
theorem y_504_21 {b : Bool} : g_co (gX b) 504 21 = some (.iinc 4 1) := rfl
theorem y_504_24 {b : Bool} : g_co (gX b) 504 24 = some (.goto (-14)) := rfl
theorem y_504_27 {b : Bool} : g_co (gX b) 504 27 = some (.return_) := rfl
theorem ym_504_13 {b : Bool} : g_ml (gX b) 504 13 = some (1, 502, 3, 0) := rfl
