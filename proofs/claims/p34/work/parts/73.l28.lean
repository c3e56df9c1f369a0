/-! the law's loop, printed by wip/p34/genall.py -/
theorem zt_l2731 : zchk zRUL 3 xBY zIN zCF [] zgl_l2731 20000 [(12, 3, 92), (12, 3, 93), (5, 0, 0), (5, 1, 0)] zc_l2731 = true := by decide +kernel
theorem zt_l2732 : zchk zRUL 3 xBY zIN zCF [] zgl_l2731 20000 [(12, 2, 91), (21, 2, 90)] zc_l2732 = true := by decide +kernel
theorem zt_l2733 : zchk zRUL 3 xBY zIN zCF [] zgl_l2731 20000 [(12, 2, 91), (21, 2, 90)] zc_l2733 = true := by decide +kernel
theorem zt_l2734 : zchk zRUL 3 xBY zIN zCF [] zgl_l2731 20000 [(12, 2, 91), (21, 2, 90)] zc_l2734 = true := by decide +kernel
theorem zt_l2735 : zchk zRUL 3 xBY zIN zCF [] zgl_l2731 20000 [(12, 2, 91), (21, 2, 90)] zc_l2735 = true := by decide +kernel
theorem zt_l2736 : zchk zRUL 3 xBY zIN zCF [] zgl_l2731 20000 [(12, 2, 91), (21, 2, 90)] zc_l2736 = true := by decide +kernel
theorem zt_l2737 : zchk zRUL 3 xBY zIN zCF [] zgl_l2731 20000 [(12, 2, 91), (21, 2, 90)] zc_l2737 = true := by decide +kernel
theorem zt_l2738 : zchk zRUL 3 xBY zIN zCF [] zgl_l2731 20000 [(12, 2, 91), (21, 2, 90)] zc_l2738 = true := by decide +kernel
theorem zt_l2739 : zchk zRUL 3 xBY zIN zCF [] zgl_l2731 20000 [(12, 2, 91), (21, 2, 90)] zc_l2739 = true := by decide +kernel
theorem zt_l2740 : zchk zRUL 3 xBY zIN zCF [] zgl_l2731 20000 [(12, 2, 91), (21, 2, 90)] zc_l2740 = true := by decide +kernel
theorem zt_l2741 : zchk zRUL 3 xBY zIN zCF [] zgl_l2731 20000 [(12, 2, 91), (21, 2, 90)] zc_l2741 = true := by decide +kernel
theorem zt_l2742 : zchk zRUL 3 xBY zIN zCF [] zgl_l2731 20000 [(12, 2, 91), (21, 2, 90)] zc_l2742 = true := by decide +kernel
theorem zt_l2743 : zchk zRUL 3 xBY zIN zCF [] zgl_l2731 20000 [(12, 2, 91), (21, 2, 90)] zc_l2743 = true := by decide +kernel
theorem zt_l2744 : zchk zRUL 3 xBY zIN zCF [] zgl_l2731 20000 [(12, 2, 91), (21, 2, 90)] zc_l2744 = true := by decide +kernel
theorem zt_l2745 : zchk zRUL 3 xBY zIN zCF [] zgl_l2731 20000 [(12, 2, 91), (21, 2, 90)] zc_l2745 = true := by decide +kernel
theorem zt_l2746 : zchk zRUL 3 xBY zIN zCF [] zgl_l2731 20000 [(12, 2, 91), (21, 2, 90)] zc_l2746 = true := by decide +kernel
theorem zga_l2731_0 : ∀ p ∈ zgh_l2731_0, zchk zRUL 3 xBY zIN zCF [] zgl_l2731 20000 p.2 p.1 = true := List.forall_mem_cons.mpr ⟨zt_l2731, List.forall_mem_cons.mpr ⟨zt_l2732, List.forall_mem_cons.mpr ⟨zt_l2733, List.forall_mem_cons.mpr ⟨zt_l2734, List.forall_mem_cons.mpr ⟨zt_l2735, List.forall_mem_cons.mpr ⟨zt_l2736, List.forall_mem_cons.mpr ⟨zt_l2737, List.forall_mem_cons.mpr ⟨zt_l2738, List.forall_mem_cons.mpr ⟨zt_l2739, List.forall_mem_cons.mpr ⟨zt_l2740, List.forall_mem_cons.mpr ⟨zt_l2741, List.forall_mem_cons.mpr ⟨zt_l2742, List.forall_mem_cons.mpr ⟨zt_l2743, List.forall_mem_cons.mpr ⟨zt_l2744, List.forall_mem_cons.mpr ⟨zt_l2745, List.forall_mem_cons.mpr ⟨zt_l2746, fun _ h => absurd h List.not_mem_nil⟩⟩⟩⟩⟩⟩⟩⟩⟩⟩⟩⟩⟩⟩⟩⟩
theorem zt_l2747 : zchk zRUL 3 xBY zIN zCF [] zgl_l2731 20000 [(12, 2, 91), (21, 2, 90)] zc_l2747 = true := by decide +kernel
theorem zt_l2748 : zchk zRUL 3 xBY zIN zCF [] zgl_l2731 20000 [(12, 2, 91), (21, 2, 90)] zc_l2748 = true := by decide +kernel
theorem zt_l2749 : zchk zRUL 3 xBY zIN zCF [] zgl_l2731 20000 [(12, 2, 91), (21, 2, 90)] zc_l2749 = true := by decide +kernel
theorem zt_l2750 : zchk zRUL 3 xBY zIN zCF [] zgl_l2731 20000 [(12, 2, 91), (21, 2, 90)] zc_l2750 = true := by decide +kernel
theorem zt_l2751 : zchk zRUL 3 xBY zIN zCF [] zgl_l2731 20000 [(12, 2, 91), (21, 2, 90)] zc_l2751 = true := by decide +kernel
theorem zt_l2752 : zchk zRUL 3 xBY zIN zCF [] zgl_l2731 20000 [(12, 2, 91), (21, 2, 90)] zc_l2752 = true := by decide +kernel
theorem zt_l2753 : zchk zRUL 3 xBY zIN zCF [] zgl_l2731 20000 [(12, 2, 91), (21, 2, 90)] zc_l2753 = true := by decide +kernel
theorem zt_l2754 : zchk zRUL 3 xBY zIN zCF [] zgl_l2731 20000 [(12, 2, 91), (21, 2, 90)] zc_l2754 = true := by decide +kernel
theorem zt_l2755 : zchk zRUL 3 xBY zIN zCF [] zgl_l2731 20000 [(12, 2, 91), (21, 2, 90)] zc_l2755 = true := by decide +kernel
theorem zt_l2756 : zchk zRUL 3 xBY zIN zCF [] zgl_l2731 20000 [(12, 2, 91), (21, 2, 90)] zc_l2756 = true := by decide +kernel
theorem zt_l2757 : zchk zRUL 3 xBY zIN zCF [] zgl_l2731 20000 [(12, 2, 91), (21, 2, 90)] zc_l2757 = true := by decide +kernel
theorem zt_l2758 : zchk zRUL 3 xBY zIN zCF [] zgl_l2731 20000 [(12, 2, 91), (21, 2, 90)] zc_l2758 = true := by decide +kernel
theorem zt_l2759 : zchk zRUL 3 xBY zIN zCF [] zgl_l2731 20000 [(12, 2, 91), (21, 2, 90)] zc_l2759 = true := by decide +kernel
theorem zt_l2760 : zchk zRUL 3 xBY zIN zCF [] zgl_l2731 20000 [(12, 2, 91), (21, 2, 90)] zc_l2760 = true := by decide +kernel
theorem zt_l2761 : zchk zRUL 3 xBY zIN zCF [] zgl_l2731 20000 [(12, 2, 91), (21, 2, 90)] zc_l2761 = true := by decide +kernel
theorem zt_l2762 : zchk zRUL 3 xBY zIN zCF [] zgl_l2731 20000 [(12, 2, 91), (21, 2, 90)] zc_l2762 = true := by decide +kernel
theorem zga_l2731_1 : ∀ p ∈ zgh_l2731_1, zchk zRUL 3 xBY zIN zCF [] zgl_l2731 20000 p.2 p.1 = true := List.forall_mem_cons.mpr ⟨zt_l2747, List.forall_mem_cons.mpr ⟨zt_l2748, List.forall_mem_cons.mpr ⟨zt_l2749, List.forall_mem_cons.mpr ⟨zt_l2750, List.forall_mem_cons.mpr ⟨zt_l2751, List.forall_mem_cons.mpr ⟨zt_l2752, List.forall_mem_cons.mpr ⟨zt_l2753, List.forall_mem_cons.mpr ⟨zt_l2754, List.forall_mem_cons.mpr ⟨zt_l2755, List.forall_mem_cons.mpr ⟨zt_l2756, List.forall_mem_cons.mpr ⟨zt_l2757, List.forall_mem_cons.mpr ⟨zt_l2758, List.forall_mem_cons.mpr ⟨zt_l2759, List.forall_mem_cons.mpr ⟨zt_l2760, List.forall_mem_cons.mpr ⟨zt_l2761, List.forall_mem_cons.mpr ⟨zt_l2762, fun _ h => absurd h List.not_mem_nil⟩⟩⟩⟩⟩⟩⟩⟩⟩⟩⟩⟩⟩⟩⟩⟩
theorem zt_l2763 : zchk zRUL 3 xBY zIN zCF [] zgl_l2731 20000 [(12, 2, 91), (21, 2, 90)] zc_l2763 = true := by decide +kernel
theorem zt_l2764 : zchk zRUL 3 xBY zIN zCF [] zgl_l2731 20000 [(12, 2, 91), (21, 2, 90)] zc_l2764 = true := by decide +kernel
theorem zt_l2765 : zchk zRUL 3 xBY zIN zCF [] zgl_l2731 20000 [(12, 2, 91), (21, 2, 90)] zc_l2765 = true := by decide +kernel
theorem zt_l2766 : zchk zRUL 3 xBY zIN zCF [] zgl_l2731 20000 [(12, 2, 91), (21, 2, 90)] zc_l2766 = true := by decide +kernel
theorem zt_l2767 : zchk zRUL 3 xBY zIN zCF [] zgl_l2731 20000 [(12, 2, 91), (21, 2, 90)] zc_l2767 = true := by decide +kernel
theorem zt_l2768 : zchk zRUL 3 xBY zIN zCF [] zgl_l2731 20000 [(12, 2, 91), (21, 2, 90)] zc_l2768 = true := by decide +kernel
theorem zt_l2769 : zchk zRUL 3 xBY zIN zCF [] zgl_l2731 20000 [(12, 2, 91), (21, 2, 90)] zc_l2769 = true := by decide +kernel
theorem zt_l2770 : zchk zRUL 3 xBY zIN zCF [] zgl_l2731 20000 [(12, 2, 91), (21, 2, 90)] zc_l2770 = true := by decide +kernel
theorem zt_l2771 : zchk zRUL 3 xBY zIN zCF [] zgl_l2731 20000 [(12, 2, 91), (21, 2, 90)] zc_l2771 = true := by decide +kernel
theorem zt_l2772 : zchk zRUL 3 xBY zIN zCF [] zgl_l2731 20000 [(12, 2, 91), (21, 2, 90)] zc_l2772 = true := by decide +kernel
theorem zt_l2773 : zchk zRUL 3 xBY zIN zCF [] zgl_l2731 20000 [(12, 2, 91), (21, 2, 90)] zc_l2773 = true := by decide +kernel
theorem zt_l2774 : zchk zRUL 3 xBY zIN zCF [] zgl_l2731 20000 [(12, 2, 91), (21, 2, 90)] zc_l2774 = true := by decide +kernel
theorem zt_l2775 : zchk zRUL 3 xBY zIN zCF [] zgl_l2731 20000 [(12, 2, 91), (21, 2, 90)] zc_l2775 = true := by decide +kernel
theorem zt_l2776 : zchk zRUL 3 xBY zIN zCF [] zgl_l2731 20000 [(12, 2, 91), (21, 2, 90)] zc_l2776 = true := by decide +kernel
theorem zt_l2777 : zchk zRUL 3 xBY zIN zCF [] zgl_l2731 20000 [(12, 2, 91), (21, 2, 90)] zc_l2777 = true := by decide +kernel
theorem zt_l2778 : zchk zRUL 3 xBY zIN zCF [] zgl_l2731 20000 [(12, 2, 91), (21, 2, 90)] zc_l2778 = true := by decide +kernel
theorem zga_l2731_2 : ∀ p ∈ zgh_l2731_2, zchk zRUL 3 xBY zIN zCF [] zgl_l2731 20000 p.2 p.1 = true := List.forall_mem_cons.mpr ⟨zt_l2763, List.forall_mem_cons.mpr ⟨zt_l2764, List.forall_mem_cons.mpr ⟨zt_l2765, List.forall_mem_cons.mpr ⟨zt_l2766, List.forall_mem_cons.mpr ⟨zt_l2767, List.forall_mem_cons.mpr ⟨zt_l2768, List.forall_mem_cons.mpr ⟨zt_l2769, List.forall_mem_cons.mpr ⟨zt_l2770, List.forall_mem_cons.mpr ⟨zt_l2771, List.forall_mem_cons.mpr ⟨zt_l2772, List.forall_mem_cons.mpr ⟨zt_l2773, List.forall_mem_cons.mpr ⟨zt_l2774, List.forall_mem_cons.mpr ⟨zt_l2775, List.forall_mem_cons.mpr ⟨zt_l2776, List.forall_mem_cons.mpr ⟨zt_l2777, List.forall_mem_cons.mpr ⟨zt_l2778, fun _ h => absurd h List.not_mem_nil⟩⟩⟩⟩⟩⟩⟩⟩⟩⟩⟩⟩⟩⟩⟩⟩
theorem zt_l2779 : zchk zRUL 3 xBY zIN zCF [] zgl_l2731 20000 [(12, 2, 91), (21, 2, 90)] zc_l2779 = true := by decide +kernel
theorem zt_l2780 : zchk zRUL 3 xBY zIN zCF [] zgl_l2731 20000 [(12, 2, 91), (21, 2, 90)] zc_l2780 = true := by decide +kernel
theorem zt_l2781 : zchk zRUL 3 xBY zIN zCF [] zgl_l2731 20000 [(12, 2, 91), (21, 2, 90)] zc_l2781 = true := by decide +kernel
theorem zt_l2782 : zchk zRUL 3 xBY zIN zCF [] zgl_l2731 20000 [(12, 2, 91), (21, 2, 90)] zc_l2782 = true := by decide +kernel
theorem zt_l2783 : zchk zRUL 3 xBY zIN zCF [] zgl_l2731 20000 [(12, 2, 91), (21, 2, 90)] zc_l2783 = true := by decide +kernel
theorem zt_l2784 : zchk zRUL 3 xBY zIN zCF [] zgl_l2731 20000 [(12, 2, 91), (21, 2, 90)] zc_l2784 = true := by decide +kernel
theorem zt_l2785 : zchk zRUL 3 xBY zIN zCF [] zgl_l2731 20000 [(12, 2, 91), (21, 2, 90)] zc_l2785 = true := by decide +kernel
theorem zt_l2786 : zchk zRUL 3 xBY zIN zCF [] zgl_l2731 20000 [(12, 2, 91), (21, 2, 90)] zc_l2786 = true := by decide +kernel
theorem zt_l2787 : zchk zRUL 3 xBY zIN zCF [] zgl_l2731 20000 [(12, 2, 91), (21, 2, 90)] zc_l2787 = true := by decide +kernel
theorem zt_l2788 : zchk zRUL 3 xBY zIN zCF [] zgl_l2731 20000 [(12, 2, 91), (21, 2, 90)] zc_l2788 = true := by decide +kernel
theorem zt_l2789 : zchk zRUL 3 xBY zIN zCF [] zgl_l2731 20000 [(12, 2, 91), (21, 2, 90)] zc_l2789 = true := by decide +kernel
theorem zt_l2790 : zchk zRUL 3 xBY zIN zCF [] zgl_l2731 20000 [(12, 2, 91), (21, 2, 90)] zc_l2790 = true := by decide +kernel
theorem zt_l2791 : zchk zRUL 3 xBY zIN zCF [] zgl_l2731 20000 [(12, 2, 91), (21, 2, 90)] zc_l2791 = true := by decide +kernel
theorem zt_l2792 : zchk zRUL 3 xBY zIN zCF [] zgl_l2731 20000 [(12, 2, 91), (21, 2, 90)] zc_l2792 = true := by decide +kernel
theorem zt_l2793 : zchk zRUL 3 xBY zIN zCF [] zgl_l2731 20000 [(12, 2, 91), (21, 2, 90)] zc_l2793 = true := by decide +kernel
theorem zt_l2794 : zchk zRUL 3 xBY zIN zCF [] zgl_l2731 20000 [(12, 2, 91), (21, 2, 90)] zc_l2794 = true := by decide +kernel
theorem zga_l2731_3 : ∀ p ∈ zgh_l2731_3, zchk zRUL 3 xBY zIN zCF [] zgl_l2731 20000 p.2 p.1 = true := List.forall_mem_cons.mpr ⟨zt_l2779, List.forall_mem_cons.mpr ⟨zt_l2780, List.forall_mem_cons.mpr ⟨zt_l2781, List.forall_mem_cons.mpr ⟨zt_l2782, List.forall_mem_cons.mpr ⟨zt_l2783, List.forall_mem_cons.mpr ⟨zt_l2784, List.forall_mem_cons.mpr ⟨zt_l2785, List.forall_mem_cons.mpr ⟨zt_l2786, List.forall_mem_cons.mpr ⟨zt_l2787, List.forall_mem_cons.mpr ⟨zt_l2788, List.forall_mem_cons.mpr ⟨zt_l2789, List.forall_mem_cons.mpr ⟨zt_l2790, List.forall_mem_cons.mpr ⟨zt_l2791, List.forall_mem_cons.mpr ⟨zt_l2792, List.forall_mem_cons.mpr ⟨zt_l2793, List.forall_mem_cons.mpr ⟨zt_l2794, fun _ h => absurd h List.not_mem_nil⟩⟩⟩⟩⟩⟩⟩⟩⟩⟩⟩⟩⟩⟩⟩⟩
theorem zt_l2795 : zchk zRUL 3 xBY zIN zCF [] zgl_l2731 20000 [(12, 2, 91), (21, 2, 90)] zc_l2795 = true := by decide +kernel
theorem zt_l2796 : zchk zRUL 3 xBY zIN zCF [] zgl_l2731 20000 [(12, 2, 91), (21, 2, 90)] zc_l2796 = true := by decide +kernel
theorem zt_l2797 : zchk zRUL 3 xBY zIN zCF [] zgl_l2731 20000 [(12, 2, 91), (21, 2, 90)] zc_l2797 = true := by decide +kernel
theorem zt_l2798 : zchk zRUL 3 xBY zIN zCF [] zgl_l2731 20000 [(12, 2, 91), (21, 2, 90)] zc_l2798 = true := by decide +kernel
theorem zt_l2799 : zchk zRUL 3 xBY zIN zCF [] zgl_l2731 20000 [(12, 2, 91), (21, 2, 90)] zc_l2799 = true := by decide +kernel
theorem zt_l2800 : zchk zRUL 3 xBY zIN zCF [] zgl_l2731 20000 [(12, 2, 91), (21, 2, 90)] zc_l2800 = true := by decide +kernel
theorem zt_l2801 : zchk zRUL 3 xBY zIN zCF [] zgl_l2731 20000 [(12, 2, 91), (21, 2, 90)] zc_l2801 = true := by decide +kernel
theorem zt_l2802 : zchk zRUL 3 xBY zIN zCF [] zgl_l2731 20000 [(12, 2, 91), (21, 2, 90)] zc_l2802 = true := by decide +kernel
theorem zt_l2803 : zchk zRUL 3 xBY zIN zCF [] zgl_l2731 20000 [(12, 2, 91), (21, 2, 90)] zc_l2803 = true := by decide +kernel
theorem zt_l2804 : zchk zRUL 3 xBY zIN zCF [] zgl_l2731 20000 [(12, 2, 91), (21, 2, 90)] zc_l2804 = true := by decide +kernel
theorem zt_l2805 : zchk zRUL 3 xBY zIN zCF [] zgl_l2731 20000 [(12, 2, 91), (21, 2, 90)] zc_l2805 = true := by decide +kernel
theorem zt_l2806 : zchk zRUL 3 xBY zIN zCF [] zgl_l2731 20000 [(12, 2, 91), (21, 2, 90)] zc_l2806 = true := by decide +kernel
theorem zt_l2807 : zchk zRUL 3 xBY zIN zCF [] zgl_l2731 20000 [(12, 2, 91), (21, 2, 90)] zc_l2807 = true := by decide +kernel
theorem zt_l2808 : zchk zRUL 3 xBY zIN zCF [] zgl_l2731 20000 [(12, 2, 91), (21, 2, 90)] zc_l2808 = true := by decide +kernel
theorem zt_l2809 : zchk zRUL 3 xBY zIN zCF [] zgl_l2731 20000 [(12, 2, 91), (21, 2, 90)] zc_l2809 = true := by decide +kernel
theorem zt_l2810 : zchk zRUL 3 xBY zIN zCF [] zgl_l2731 20000 [(12, 2, 91), (21, 2, 90)] zc_l2810 = true := by decide +kernel
theorem zga_l2731_4 : ∀ p ∈ zgh_l2731_4, zchk zRUL 3 xBY zIN zCF [] zgl_l2731 20000 p.2 p.1 = true := List.forall_mem_cons.mpr ⟨zt_l2795, List.forall_mem_cons.mpr ⟨zt_l2796, List.forall_mem_cons.mpr ⟨zt_l2797, List.forall_mem_cons.mpr ⟨zt_l2798, List.forall_mem_cons.mpr ⟨zt_l2799, List.forall_mem_cons.mpr ⟨zt_l2800, List.forall_mem_cons.mpr ⟨zt_l2801, List.forall_mem_cons.mpr ⟨zt_l2802, List.forall_mem_cons.mpr ⟨zt_l2803, List.forall_mem_cons.mpr ⟨zt_l2804, List.forall_mem_cons.mpr ⟨zt_l2805, List.forall_mem_cons.mpr ⟨zt_l2806, List.forall_mem_cons.mpr ⟨zt_l2807, List.forall_mem_cons.mpr ⟨zt_l2808, List.forall_mem_cons.mpr ⟨zt_l2809, List.forall_mem_cons.mpr ⟨zt_l2810, fun _ h => absurd h List.not_mem_nil⟩⟩⟩⟩⟩⟩⟩⟩⟩⟩⟩⟩⟩⟩⟩⟩
theorem zt_l2811 : zchk zRUL 3 xBY zIN zCF [] zgl_l2731 20000 [(12, 2, 91), (21, 2, 90)] zc_l2811 = true := by decide +kernel
theorem zt_l2812 : zchk zRUL 3 xBY zIN zCF [] zgl_l2731 20000 [(12, 2, 91), (21, 2, 90)] zc_l2812 = true := by decide +kernel
theorem zt_l2813 : zchk zRUL 3 xBY zIN zCF [] zgl_l2731 20000 [(12, 2, 91), (21, 2, 90)] zc_l2813 = true := by decide +kernel
theorem zt_l2814 : zchk zRUL 3 xBY zIN zCF [] zgl_l2731 20000 [(12, 2, 91), (21, 2, 90)] zc_l2814 = true := by decide +kernel
theorem zt_l2815 : zchk zRUL 3 xBY zIN zCF [] zgl_l2731 20000 [(12, 2, 91), (21, 2, 90)] zc_l2815 = true := by decide +kernel
theorem zt_l2816 : zchk zRUL 3 xBY zIN zCF [] zgl_l2731 20000 [(12, 2, 91), (21, 2, 90)] zc_l2816 = true := by decide +kernel
theorem zt_l2817 : zchk zRUL 3 xBY zIN zCF [] zgl_l2731 20000 [(12, 2, 91), (21, 2, 90)] zc_l2817 = true := by decide +kernel
theorem zt_l2818 : zchk zRUL 3 xBY zIN zCF [] zgl_l2731 20000 [(12, 2, 91), (21, 2, 90)] zc_l2818 = true := by decide +kernel
theorem zt_l2819 : zchk zRUL 3 xBY zIN zCF [] zgl_l2731 20000 [(12, 2, 91), (21, 2, 90)] zc_l2819 = true := by decide +kernel
theorem zt_l2820 : zchk zRUL 3 xBY zIN zCF [] zgl_l2731 20000 [(12, 2, 91), (21, 2, 90)] zc_l2820 = true := by decide +kernel
theorem zt_l2821 : zchk zRUL 3 xBY zIN zCF [] zgl_l2731 20000 [(12, 2, 91), (21, 2, 90)] zc_l2821 = true := by decide +kernel
theorem zt_l2822 : zchk zRUL 3 xBY zIN zCF [] zgl_l2731 20000 [(12, 2, 91), (21, 2, 90)] zc_l2822 = true := by decide +kernel
theorem zt_l2823 : zchk zRUL 3 xBY zIN zCF [] zgl_l2731 20000 [(12, 2, 91), (21, 2, 90)] zc_l2823 = true := by decide +kernel
theorem zt_l2824 : zchk zRUL 3 xBY zIN zCF [] zgl_l2731 20000 [(12, 2, 91), (21, 2, 90)] zc_l2824 = true := by decide +kernel
theorem zt_l2825 : zchk zRUL 3 xBY zIN zCF [] zgl_l2731 20000 [(12, 2, 91), (21, 2, 90)] zc_l2825 = true := by decide +kernel
theorem zt_l2826 : zchk zRUL 3 xBY zIN zCF [] zgl_l2731 20000 [(12, 2, 91), (21, 2, 90)] zc_l2826 = true := by decide +kernel
theorem zga_l2731_5 : ∀ p ∈ zgh_l2731_5, zchk zRUL 3 xBY zIN zCF [] zgl_l2731 20000 p.2 p.1 = true := List.forall_mem_cons.mpr ⟨zt_l2811, List.forall_mem_cons.mpr ⟨zt_l2812, List.forall_mem_cons.mpr ⟨zt_l2813, List.forall_mem_cons.mpr ⟨zt_l2814, List.forall_mem_cons.mpr ⟨zt_l2815, List.forall_mem_cons.mpr ⟨zt_l2816, List.forall_mem_cons.mpr ⟨zt_l2817, List.forall_mem_cons.mpr ⟨zt_l2818, List.forall_mem_cons.mpr ⟨zt_l2819, List.forall_mem_cons.mpr ⟨zt_l2820, List.forall_mem_cons.mpr ⟨zt_l2821, List.forall_mem_cons.mpr ⟨zt_l2822, List.forall_mem_cons.mpr ⟨zt_l2823, List.forall_mem_cons.mpr ⟨zt_l2824, List.forall_mem_cons.mpr ⟨zt_l2825, List.forall_mem_cons.mpr ⟨zt_l2826, fun _ h => absurd h List.not_mem_nil⟩⟩⟩⟩⟩⟩⟩⟩⟩⟩⟩⟩⟩⟩⟩⟩
theorem zt_l2827 : zchk zRUL 3 xBY zIN zCF [] zgl_l2731 20000 [(12, 2, 91), (21, 2, 90)] zc_l2827 = true := by decide +kernel
theorem zt_l2828 : zchk zRUL 3 xBY zIN zCF [] zgl_l2731 20000 [(12, 2, 91), (21, 2, 90)] zc_l2828 = true := by decide +kernel
theorem zt_l2829 : zchk zRUL 3 xBY zIN zCF [] zgl_l2731 20000 [(12, 2, 91), (21, 2, 90)] zc_l2829 = true := by decide +kernel
theorem zt_l2830 : zchk zRUL 3 xBY zIN zCF [] zgl_l2731 20000 [(12, 2, 91), (21, 2, 90)] zc_l2830 = true := by decide +kernel
theorem zt_l2831 : zchk zRUL 3 xBY zIN zCF [] zgl_l2731 20000 [(12, 2, 91), (21, 2, 90)] zc_l2831 = true := by decide +kernel
theorem zga_l2731_6 : ∀ p ∈ zgh_l2731_6, zchk zRUL 3 xBY zIN zCF [] zgl_l2731 20000 p.2 p.1 = true := List.forall_mem_cons.mpr ⟨zt_l2827, List.forall_mem_cons.mpr ⟨zt_l2828, List.forall_mem_cons.mpr ⟨zt_l2829, List.forall_mem_cons.mpr ⟨zt_l2830, List.forall_mem_cons.mpr ⟨zt_l2831, fun _ h => absurd h List.not_mem_nil⟩⟩⟩⟩⟩
theorem zk_l2731 {g : yG} {J : zJp} (hy : zHy g J) : zCok g zCF J zc_l2731 := zgp2 hy (CT := []) (fun _ h => absurd h List.not_mem_nil) (fuel := 20000) (L := zgh_l2731_0 ++ (zgh_l2731_1 ++ (zgh_l2731_2 ++ (zgh_l2731_3 ++ (zgh_l2731_4 ++ (zgh_l2731_5 ++ (zgh_l2731_6))))))) zge_l2731 (List.forall_mem_append.mpr ⟨zga_l2731_0, List.forall_mem_append.mpr ⟨zga_l2731_1, List.forall_mem_append.mpr ⟨zga_l2731_2, List.forall_mem_append.mpr ⟨zga_l2731_3, List.forall_mem_append.mpr ⟨zga_l2731_4, List.forall_mem_append.mpr ⟨zga_l2731_5, zga_l2731_6⟩⟩⟩⟩⟩⟩) (zc_l2731, [(12, 3, 92), (12, 3, 93), (5, 0, 0), (5, 1, 0)]) (List.mem_append_left _ List.mem_cons_self)
/-- GridLawsModel.later, row 0 -/
def zc_l2832 : zC := (287, 0, 1, [(3, 88, .ofNat 0), (1, 0, .ofNat 0)], ([(88, (0, 0, .ofNat 28), (1, 1, .ofNat 0)), (1049, (1, 0, .ofNat 0), (0, 0, .ofNat 0))], []), [(.ofNat 900, .ofNat 999, 0, .ofNat 0), (.ofNat 0, .ofNat 100000, 0, .ofNat 0)], [], [(some (0, 0, .negSucc 0), ([], []), [(.ofNat 900, .ofNat 999, 0, .ofNat 0), (.ofNat 0, .ofNat 100000, 0, .ofNat 0)])], [(false, (0, 0, .ofNat 1))])
/-- GridLawsModel.later, row 5 -/
def zc_l2833 : zC := (287, 5, 1, [(3, 88, .ofNat 0), (0, 0, .ofNat 900)], ([(88, (0, 0, .ofNat 28), (1, 0, .ofNat 0)), (1049, (0, 0, .ofNat 900), (0, 0, .ofNat 0))], []), [(.ofNat 0, .ofNat 100000, 0, .ofNat 0)], [], [(some (0, 0, .negSucc 0), ([], []), [(.ofNat 0, .ofNat 100000, 0, .ofNat 0)])], [(false, (0, 0, .ofNat 0))])
/-- GridLawsModel.later, row 5 -/
def zc_l2834 : zC := (287, 5, 1, [(3, 88, .ofNat 0), (0, 0, .ofNat 901)], ([(88, (0, 0, .ofNat 28), (1, 0, .ofNat 0)), (1049, (0, 0, .ofNat 901), (0, 0, .ofNat 0))], []), [(.ofNat 0, .ofNat 100000, 0, .ofNat 0)], [], [(some (0, 0, .negSucc 0), ([], []), [(.ofNat 0, .ofNat 100000, 0, .ofNat 0)])], [(false, (0, 0, .ofNat 0))])
/-- GridLawsModel.later, row 5 -/
def zc_l2835 : zC := (287, 5, 1, [(3, 88, .ofNat 0), (0, 0, .ofNat 902)], ([(88, (0, 0, .ofNat 28), (1, 0, .ofNat 0)), (1049, (0, 0, .ofNat 902), (0, 0, .ofNat 0))], []), [(.ofNat 0, .ofNat 100000, 0, .ofNat 0)], [], [(some (0, 0, .negSucc 0), ([], []), [(.ofNat 0, .ofNat 100000, 0, .ofNat 0)])], [(false, (0, 0, .ofNat 0))])
/-- GridLawsModel.later, row 5 -/
def zc_l2836 : zC := (287, 5, 1, [(3, 88, .ofNat 0), (0, 0, .ofNat 903)], ([(88, (0, 0, .ofNat 28), (1, 0, .ofNat 0)), (1049, (0, 0, .ofNat 903), (0, 0, .ofNat 0))], []), [(.ofNat 0, .ofNat 100000, 0, .ofNat 0)], [], [(some (0, 0, .negSucc 0), ([], []), [(.ofNat 0, .ofNat 100000, 0, .ofNat 0)])], [(false, (0, 0, .ofNat 0))])
/-- GridLawsModel.later, row 5 -/
def zc_l2837 : zC := (287, 5, 1, [(3, 88, .ofNat 0), (0, 0, .ofNat 904)], ([(88, (0, 0, .ofNat 28), (1, 0, .ofNat 0)), (1049, (0, 0, .ofNat 904), (0, 0, .ofNat 0))], []), [(.ofNat 0, .ofNat 100000, 0, .ofNat 0)], [], [(some (0, 0, .negSucc 0), ([], []), [(.ofNat 0, .ofNat 100000, 0, .ofNat 0)])], [(false, (0, 0, .ofNat 0))])
/-- GridLawsModel.later, row 5 -/
def zc_l2838 : zC := (287, 5, 1, [(3, 88, .ofNat 0), (0, 0, .ofNat 905)], ([(88, (0, 0, .ofNat 28), (1, 0, .ofNat 0)), (1049, (0, 0, .ofNat 905), (0, 0, .ofNat 0))], []), [(.ofNat 0, .ofNat 100000, 0, .ofNat 0)], [], [(some (0, 0, .negSucc 0), ([], []), [(.ofNat 0, .ofNat 100000, 0, .ofNat 0)])], [(false, (0, 0, .ofNat 0))])
/-- GridLawsModel.later, row 5 -/
def zc_l2839 : zC := (287, 5, 1, [(3, 88, .ofNat 0), (0, 0, .ofNat 906)], ([(88, (0, 0, .ofNat 28), (1, 0, .ofNat 0)), (1049, (0, 0, .ofNat 906), (0, 0, .ofNat 0))], []), [(.ofNat 0, .ofNat 100000, 0, .ofNat 0)], [], [(some (0, 0, .negSucc 0), ([], []), [(.ofNat 0, .ofNat 100000, 0, .ofNat 0)])], [(false, (0, 0, .ofNat 0))])
/-- GridLawsModel.later, row 5 -/
def zc_l2840 : zC := (287, 5, 1, [(3, 88, .ofNat 0), (0, 0, .ofNat 907)], ([(88, (0, 0, .ofNat 28), (1, 0, .ofNat 0)), (1049, (0, 0, .ofNat 907), (0, 0, .ofNat 0))], []), [(.ofNat 0, .ofNat 100000, 0, .ofNat 0)], [], [(some (0, 0, .negSucc 0), ([], []), [(.ofNat 0, .ofNat 100000, 0, .ofNat 0)])], [(false, (0, 0, .ofNat 0))])
/-- GridLawsModel.later, row 5 -/
def zc_l2841 : zC := (287, 5, 1, [(3, 88, .ofNat 0), (0, 0, .ofNat 908)], ([(88, (0, 0, .ofNat 28), (1, 0, .ofNat 0)), (1049, (0, 0, .ofNat 908), (0, 0, .ofNat 0))], []), [(.ofNat 0, .ofNat 100000, 0, .ofNat 0)], [], [(some (0, 0, .negSucc 0), ([], []), [(.ofNat 0, .ofNat 100000, 0, .ofNat 0)])], [(false, (0, 0, .ofNat 0))])
/-- GridLawsModel.later, row 5 -/
def zc_l2842 : zC := (287, 5, 1, [(3, 88, .ofNat 0), (0, 0, .ofNat 909)], ([(88, (0, 0, .ofNat 28), (1, 0, .ofNat 0)), (1049, (0, 0, .ofNat 909), (0, 0, .ofNat 0))], []), [(.ofNat 0, .ofNat 100000, 0, .ofNat 0)], [], [(some (0, 0, .negSucc 0), ([], []), [(.ofNat 0, .ofNat 100000, 0, .ofNat 0)])], [(false, (0, 0, .ofNat 0))])
/-- GridLawsModel.later, row 5 -/
def zc_l2843 : zC := (287, 5, 1, [(3, 88, .ofNat 0), (0, 0, .ofNat 910)], ([(88, (0, 0, .ofNat 28), (1, 0, .ofNat 0)), (1049, (0, 0, .ofNat 910), (0, 0, .ofNat 0))], []), [(.ofNat 0, .ofNat 100000, 0, .ofNat 0)], [], [(some (0, 0, .negSucc 0), ([], []), [(.ofNat 0, .ofNat 100000, 0, .ofNat 0)])], [(false, (0, 0, .ofNat 0))])
/-- GridLawsModel.later, row 5 -/
def zc_l2844 : zC := (287, 5, 1, [(3, 88, .ofNat 0), (0, 0, .ofNat 911)], ([(88, (0, 0, .ofNat 28), (1, 0, .ofNat 0)), (1049, (0, 0, .ofNat 911), (0, 0, .ofNat 0))], []), [(.ofNat 0, .ofNat 100000, 0, .ofNat 0)], [], [(some (0, 0, .negSucc 0), ([], []), [(.ofNat 0, .ofNat 100000, 0, .ofNat 0)])], [(false, (0, 0, .ofNat 0))])
/-- GridLawsModel.later, row 5 -/
def zc_l2845 : zC := (287, 5, 1, [(3, 88, .ofNat 0), (0, 0, .ofNat 912)], ([(88, (0, 0, .ofNat 28), (1, 0, .ofNat 0)), (1049, (0, 0, .ofNat 912), (0, 0, .ofNat 0))], []), [(.ofNat 0, .ofNat 100000, 0, .ofNat 0)], [], [(some (0, 0, .negSucc 0), ([], []), [(.ofNat 0, .ofNat 100000, 0, .ofNat 0)])], [(false, (0, 0, .ofNat 0))])
/-- GridLawsModel.later, row 5 -/
def zc_l2846 : zC := (287, 5, 1, [(3, 88, .ofNat 0), (0, 0, .ofNat 913)], ([(88, (0, 0, .ofNat 28), (1, 0, .ofNat 0)), (1049, (0, 0, .ofNat 913), (0, 0, .ofNat 0))], []), [(.ofNat 0, .ofNat 100000, 0, .ofNat 0)], [], [(some (0, 0, .negSucc 0), ([], []), [(.ofNat 0, .ofNat 100000, 0, .ofNat 0)])], [(false, (0, 0, .ofNat 0))])
/-- GridLawsModel.later, row 5 -/
def zc_l2847 : zC := (287, 5, 1, [(3, 88, .ofNat 0), (0, 0, .ofNat 914)], ([(88, (0, 0, .ofNat 28), (1, 0, .ofNat 0)), (1049, (0, 0, .ofNat 914), (0, 0, .ofNat 0))], []), [(.ofNat 0, .ofNat 100000, 0, .ofNat 0)], [], [(some (0, 0, .negSucc 0), ([], []), [(.ofNat 0, .ofNat 100000, 0, .ofNat 0)])], [(false, (0, 0, .ofNat 0))])
/-- GridLawsModel.later, row 5 -/
def zc_l2848 : zC := (287, 5, 1, [(3, 88, .ofNat 0), (0, 0, .ofNat 915)], ([(88, (0, 0, .ofNat 28), (1, 0, .ofNat 0)), (1049, (0, 0, .ofNat 915), (0, 0, .ofNat 0))], []), [(.ofNat 0, .ofNat 100000, 0, .ofNat 0)], [], [(some (0, 0, .negSucc 0), ([], []), [(.ofNat 0, .ofNat 100000, 0, .ofNat 0)])], [(false, (0, 0, .ofNat 0))])
/-- GridLawsModel.later, row 5 -/
def zc_l2849 : zC := (287, 5, 1, [(3, 88, .ofNat 0), (0, 0, .ofNat 916)], ([(88, (0, 0, .ofNat 28), (1, 0, .ofNat 0)), (1049, (0, 0, .ofNat 916), (0, 0, .ofNat 0))], []), [(.ofNat 0, .ofNat 100000, 0, .ofNat 0)], [], [(some (0, 0, .negSucc 0), ([], []), [(.ofNat 0, .ofNat 100000, 0, .ofNat 0)])], [(false, (0, 0, .ofNat 0))])
/-- GridLawsModel.later, row 5 -/
def zc_l2850 : zC := (287, 5, 1, [(3, 88, .ofNat 0), (0, 0, .ofNat 917)], ([(88, (0, 0, .ofNat 28), (1, 0, .ofNat 0)), (1049, (0, 0, .ofNat 917), (0, 0, .ofNat 0))], []), [(.ofNat 0, .ofNat 100000, 0, .ofNat 0)], [], [(some (0, 0, .negSucc 0), ([], []), [(.ofNat 0, .ofNat 100000, 0, .ofNat 0)])], [(false, (0, 0, .ofNat 0))])
/-- GridLawsModel.later, row 5 -/
def zc_l2851 : zC := (287, 5, 1, [(3, 88, .ofNat 0), (0, 0, .ofNat 918)], ([(88, (0, 0, .ofNat 28), (1, 0, .ofNat 0)), (1049, (0, 0, .ofNat 918), (0, 0, .ofNat 0))], []), [(.ofNat 0, .ofNat 100000, 0, .ofNat 0)], [], [(some (0, 0, .negSucc 0), ([], []), [(.ofNat 0, .ofNat 100000, 0, .ofNat 0)])], [(false, (0, 0, .ofNat 0))])
/-- GridLawsModel.later, row 5 -/
def zc_l2852 : zC := (287, 5, 1, [(3, 88, .ofNat 0), (0, 0, .ofNat 919)], ([(88, (0, 0, .ofNat 28), (1, 0, .ofNat 0)), (1049, (0, 0, .ofNat 919), (0, 0, .ofNat 0))], []), [(.ofNat 0, .ofNat 100000, 0, .ofNat 0)], [], [(some (0, 0, .negSucc 0), ([], []), [(.ofNat 0, .ofNat 100000, 0, .ofNat 0)])], [(false, (0, 0, .ofNat 0))])
/-- GridLawsModel.later, row 5 -/
def zc_l2853 : zC := (287, 5, 1, [(3, 88, .ofNat 0), (0, 0, .ofNat 920)], ([(88, (0, 0, .ofNat 28), (1, 0, .ofNat 0)), (1049, (0, 0, .ofNat 920), (0, 0, .ofNat 0))], []), [(.ofNat 0, .ofNat 100000, 0, .ofNat 0)], [], [(some (0, 0, .negSucc 0), ([], []), [(.ofNat 0, .ofNat 100000, 0, .ofNat 0)])], [(false, (0, 0, .ofNat 0))])
/-- GridLawsModel.later, row 5 -/
def zc_l2854 : zC := (287, 5, 1, [(3, 88, .ofNat 0), (0, 0, .ofNat 921)], ([(88, (0, 0, .ofNat 28), (1, 0, .ofNat 0)), (1049, (0, 0, .ofNat 921), (0, 0, .ofNat 0))], []), [(.ofNat 0, .ofNat 100000, 0, .ofNat 0)], [], [(some (0, 0, .negSucc 0), ([], []), [(.ofNat 0, .ofNat 100000, 0, .ofNat 0)])], [(false, (0, 0, .ofNat 0))])
/-- GridLawsModel.later, row 5 -/
def zc_l2855 : zC := (287, 5, 1, [(3, 88, .ofNat 0), (0, 0, .ofNat 922)], ([(88, (0, 0, .ofNat 28), (1, 0, .ofNat 0)), (1049, (0, 0, .ofNat 922), (0, 0, .ofNat 0))], []), [(.ofNat 0, .ofNat 100000, 0, .ofNat 0)], [], [(some (0, 0, .negSucc 0), ([], []), [(.ofNat 0, .ofNat 100000, 0, .ofNat 0)])], [(false, (0, 0, .ofNat 0))])
/-- GridLawsModel.later, row 5 -/
def zc_l2856 : zC := (287, 5, 1, [(3, 88, .ofNat 0), (0, 0, .ofNat 923)], ([(88, (0, 0, .ofNat 28), (1, 0, .ofNat 0)), (1049, (0, 0, .ofNat 923), (0, 0, .ofNat 0))], []), [(.ofNat 0, .ofNat 100000, 0, .ofNat 0)], [], [(some (0, 0, .negSucc 0), ([], []), [(.ofNat 0, .ofNat 100000, 0, .ofNat 0)])], [(false, (0, 0, .ofNat 0))])
/-- GridLawsModel.later, row 5 -/
def zc_l2857 : zC := (287, 5, 1, [(3, 88, .ofNat 0), (0, 0, .ofNat 924)], ([(88, (0, 0, .ofNat 28), (1, 0, .ofNat 0)), (1049, (0, 0, .ofNat 924), (0, 0, .ofNat 0))], []), [(.ofNat 0, .ofNat 100000, 0, .ofNat 0)], [], [(some (0, 0, .negSucc 0), ([], []), [(.ofNat 0, .ofNat 100000, 0, .ofNat 0)])], [(false, (0, 0, .ofNat 0))])
/-- GridLawsModel.later, row 5 -/
def zc_l2858 : zC := (287, 5, 1, [(3, 88, .ofNat 0), (0, 0, .ofNat 925)], ([(88, (0, 0, .ofNat 28), (1, 0, .ofNat 0)), (1049, (0, 0, .ofNat 925), (0, 0, .ofNat 0))], []), [(.ofNat 0, .ofNat 100000, 0, .ofNat 0)], [], [(some (0, 0, .negSucc 0), ([], []), [(.ofNat 0, .ofNat 100000, 0, .ofNat 0)])], [(false, (0, 0, .ofNat 0))])
/-- GridLawsModel.later, row 5 -/
def zc_l2859 : zC := (287, 5, 1, [(3, 88, .ofNat 0), (0, 0, .ofNat 926)], ([(88, (0, 0, .ofNat 28), (1, 0, .ofNat 0)), (1049, (0, 0, .ofNat 926), (0, 0, .ofNat 0))], []), [(.ofNat 0, .ofNat 100000, 0, .ofNat 0)], [], [(some (0, 0, .negSucc 0), ([], []), [(.ofNat 0, .ofNat 100000, 0, .ofNat 0)])], [(false, (0, 0, .ofNat 0))])
/-- GridLawsModel.later, row 5 -/
def zc_l2860 : zC := (287, 5, 1, [(3, 88, .ofNat 0), (0, 0, .ofNat 927)], ([(88, (0, 0, .ofNat 28), (1, 0, .ofNat 0)), (1049, (0, 0, .ofNat 927), (0, 0, .ofNat 0))], []), [(.ofNat 0, .ofNat 100000, 0, .ofNat 0)], [], [(some (0, 0, .negSucc 0), ([], []), [(.ofNat 0, .ofNat 100000, 0, .ofNat 0)])], [(false, (0, 0, .ofNat 0))])
/-- GridLawsModel.later, row 5 -/
def zc_l2861 : zC := (287, 5, 1, [(3, 88, .ofNat 0), (0, 0, .ofNat 928)], ([(88, (0, 0, .ofNat 28), (1, 0, .ofNat 0)), (1049, (0, 0, .ofNat 928), (0, 0, .ofNat 0))], []), [(.ofNat 0, .ofNat 100000, 0, .ofNat 0)], [], [(some (0, 0, .negSucc 0), ([], []), [(.ofNat 0, .ofNat 100000, 0, .ofNat 0)])], [(false, (0, 0, .ofNat 0))])
/-- GridLawsModel.later, row 5 -/
def zc_l2862 : zC := (287, 5, 1, [(3, 88, .ofNat 0), (0, 0, .ofNat 929)], ([(88, (0, 0, .ofNat 28), (1, 0, .ofNat 0)), (1049, (0, 0, .ofNat 929), (0, 0, .ofNat 0))], []), [(.ofNat 0, .ofNat 100000, 0, .ofNat 0)], [], [(some (0, 0, .negSucc 0), ([], []), [(.ofNat 0, .ofNat 100000, 0, .ofNat 0)])], [(false, (0, 0, .ofNat 0))])
/-- GridLawsModel.later, row 5 -/
def zc_l2863 : zC := (287, 5, 1, [(3, 88, .ofNat 0), (0, 0, .ofNat 930)], ([(88, (0, 0, .ofNat 28), (1, 0, .ofNat 0)), (1049, (0, 0, .ofNat 930), (0, 0, .ofNat 0))], []), [(.ofNat 0, .ofNat 100000, 0, .ofNat 0)], [], [(some (0, 0, .negSucc 0), ([], []), [(.ofNat 0, .ofNat 100000, 0, .ofNat 0)])], [(false, (0, 0, .ofNat 0))])
/-- GridLawsModel.later, row 5 -/
def zc_l2864 : zC := (287, 5, 1, [(3, 88, .ofNat 0), (0, 0, .ofNat 931)], ([(88, (0, 0, .ofNat 28), (1, 0, .ofNat 0)), (1049, (0, 0, .ofNat 931), (0, 0, .ofNat 0))], []), [(.ofNat 0, .ofNat 100000, 0, .ofNat 0)], [], [(some (0, 0, .negSucc 0), ([], []), [(.ofNat 0, .ofNat 100000, 0, .ofNat 0)])], [(false, (0, 0, .ofNat 0))])
/-- GridLawsModel.later, row 5 -/
def zc_l2865 : zC := (287, 5, 1, [(3, 88, .ofNat 0), (0, 0, .ofNat 932)], ([(88, (0, 0, .ofNat 28), (1, 0, .ofNat 0)), (1049, (0, 0, .ofNat 932), (0, 0, .ofNat 0))], []), [(.ofNat 0, .ofNat 100000, 0, .ofNat 0)], [], [(some (0, 0, .negSucc 0), ([], []), [(.ofNat 0, .ofNat 100000, 0, .ofNat 0)])], [(false, (0, 0, .ofNat 0))])
/-- GridLawsModel.later, row 5 -/
def zc_l2866 : zC := (287, 5, 1, [(3, 88, .ofNat 0), (0, 0, .ofNat 933)], ([(88, (0, 0, .ofNat 28), (1, 0, .ofNat 0)), (1049, (0, 0, .ofNat 933), (0, 0, .ofNat 0))], []), [(.ofNat 0, .ofNat 100000, 0, .ofNat 0)], [], [(some (0, 0, .negSucc 0), ([], []), [(.ofNat 0, .ofNat 100000, 0, .ofNat 0)])], [(false, (0, 0, .ofNat 0))])
/-- GridLawsModel.later, row 5 -/
def zc_l2867 : zC := (287, 5, 1, [(3, 88, .ofNat 0), (0, 0, .ofNat 934)], ([(88, (0, 0, .ofNat 28), (1, 0, .ofNat 0)), (1049, (0, 0, .ofNat 934), (0, 0, .ofNat 0))], []), [(.ofNat 0, .ofNat 100000, 0, .ofNat 0)], [], [(some (0, 0, .negSucc 0), ([], []), [(.ofNat 0, .ofNat 100000, 0, .ofNat 0)])], [(false, (0, 0, .ofNat 0))])
/-- GridLawsModel.later, row 5 -/
def zc_l2868 : zC := (287, 5, 1, [(3, 88, .ofNat 0), (0, 0, .ofNat 935)], ([(88, (0, 0, .ofNat 28), (1, 0, .ofNat 0)), (1049, (0, 0, .ofNat 935), (0, 0, .ofNat 0))], []), [(.ofNat 0, .ofNat 100000, 0, .ofNat 0)], [], [(some (0, 0, .negSucc 0), ([], []), [(.ofNat 0, .ofNat 100000, 0, .ofNat 0)])], [(false, (0, 0, .ofNat 0))])
/-- GridLawsModel.later, row 5 -/
def zc_l2869 : zC := (287, 5, 1, [(3, 88, .ofNat 0), (0, 0, .ofNat 936)], ([(88, (0, 0, .ofNat 28), (1, 0, .ofNat 0)), (1049, (0, 0, .ofNat 936), (0, 0, .ofNat 0))], []), [(.ofNat 0, .ofNat 100000, 0, .ofNat 0)], [], [(some (0, 0, .negSucc 0), ([], []), [(.ofNat 0, .ofNat 100000, 0, .ofNat 0)])], [(false, (0, 0, .ofNat 0))])
/-- GridLawsModel.later, row 5 -/
def zc_l2870 : zC := (287, 5, 1, [(3, 88, .ofNat 0), (0, 0, .ofNat 937)], ([(88, (0, 0, .ofNat 28), (1, 0, .ofNat 0)), (1049, (0, 0, .ofNat 937), (0, 0, .ofNat 0))], []), [(.ofNat 0, .ofNat 100000, 0, .ofNat 0)], [], [(some (0, 0, .negSucc 0), ([], []), [(.ofNat 0, .ofNat 100000, 0, .ofNat 0)])], [(false, (0, 0, .ofNat 0))])
/-- GridLawsModel.later, row 5 -/
def zc_l2871 : zC := (287, 5, 1, [(3, 88, .ofNat 0), (0, 0, .ofNat 938)], ([(88, (0, 0, .ofNat 28), (1, 0, .ofNat 0)), (1049, (0, 0, .ofNat 938), (0, 0, .ofNat 0))], []), [(.ofNat 0, .ofNat 100000, 0, .ofNat 0)], [], [(some (0, 0, .negSucc 0), ([], []), [(.ofNat 0, .ofNat 100000, 0, .ofNat 0)])], [(false, (0, 0, .ofNat 0))])
/-- GridLawsModel.later, row 5 -/
def zc_l2872 : zC := (287, 5, 1, [(3, 88, .ofNat 0), (0, 0, .ofNat 939)], ([(88, (0, 0, .ofNat 28), (1, 0, .ofNat 0)), (1049, (0, 0, .ofNat 939), (0, 0, .ofNat 0))], []), [(.ofNat 0, .ofNat 100000, 0, .ofNat 0)], [], [(some (0, 0, .negSucc 0), ([], []), [(.ofNat 0, .ofNat 100000, 0, .ofNat 0)])], [(false, (0, 0, .ofNat 0))])
/-- GridLawsModel.later, row 5 -/
def zc_l2873 : zC := (287, 5, 1, [(3, 88, .ofNat 0), (0, 0, .ofNat 940)], ([(88, (0, 0, .ofNat 28), (1, 0, .ofNat 0)), (1049, (0, 0, .ofNat 940), (0, 0, .ofNat 0))], []), [(.ofNat 0, .ofNat 100000, 0, .ofNat 0)], [], [(some (0, 0, .negSucc 0), ([], []), [(.ofNat 0, .ofNat 100000, 0, .ofNat 0)])], [(false, (0, 0, .ofNat 0))])
/-- GridLawsModel.later, row 5 -/
def zc_l2874 : zC := (287, 5, 1, [(3, 88, .ofNat 0), (0, 0, .ofNat 941)], ([(88, (0, 0, .ofNat 28), (1, 0, .ofNat 0)), (1049, (0, 0, .ofNat 941), (0, 0, .ofNat 0))], []), [(.ofNat 0, .ofNat 100000, 0, .ofNat 0)], [], [(some (0, 0, .negSucc 0), ([], []), [(.ofNat 0, .ofNat 100000, 0, .ofNat 0)])], [(false, (0, 0, .ofNat 0))])
/-- GridLawsModel.later, row 5 -/
def zc_l2875 : zC := (287, 5, 1, [(3, 88, .ofNat 0), (0, 0, .ofNat 942)], ([(88, (0, 0, .ofNat 28), (1, 0, .ofNat 0)), (1049, (0, 0, .ofNat 942), (0, 0, .ofNat 0))], []), [(.ofNat 0, .ofNat 100000, 0, .ofNat 0)], [], [(some (0, 0, .negSucc 0), ([], []), [(.ofNat 0, .ofNat 100000, 0, .ofNat 0)])], [(false, (0, 0, .ofNat 0))])
/-- GridLawsModel.later, row 5 -/
def zc_l2876 : zC := (287, 5, 1, [(3, 88, .ofNat 0), (0, 0, .ofNat 943)], ([(88, (0, 0, .ofNat 28), (1, 0, .ofNat 0)), (1049, (0, 0, .ofNat 943), (0, 0, .ofNat 0))], []), [(.ofNat 0, .ofNat 100000, 0, .ofNat 0)], [], [(some (0, 0, .negSucc 0), ([], []), [(.ofNat 0, .ofNat 100000, 0, .ofNat 0)])], [(false, (0, 0, .ofNat 0))])
/-- GridLawsModel.later, row 5 -/
def zc_l2877 : zC := (287, 5, 1, [(3, 88, .ofNat 0), (0, 0, .ofNat 944)], ([(88, (0, 0, .ofNat 28), (1, 0, .ofNat 0)), (1049, (0, 0, .ofNat 944), (0, 0, .ofNat 0))], []), [(.ofNat 0, .ofNat 100000, 0, .ofNat 0)], [], [(some (0, 0, .negSucc 0), ([], []), [(.ofNat 0, .ofNat 100000, 0, .ofNat 0)])], [(false, (0, 0, .ofNat 0))])
/-- GridLawsModel.later, row 5 -/
def zc_l2878 : zC := (287, 5, 1, [(3, 88, .ofNat 0), (0, 0, .ofNat 945)], ([(88, (0, 0, .ofNat 28), (1, 0, .ofNat 0)), (1049, (0, 0, .ofNat 945), (0, 0, .ofNat 0))], []), [(.ofNat 0, .ofNat 100000, 0, .ofNat 0)], [], [(some (0, 0, .negSucc 0), ([], []), [(.ofNat 0, .ofNat 100000, 0, .ofNat 0)])], [(false, (0, 0, .ofNat 0))])
/-- GridLawsModel.later, row 5 -/
def zc_l2879 : zC := (287, 5, 1, [(3, 88, .ofNat 0), (0, 0, .ofNat 946)], ([(88, (0, 0, .ofNat 28), (1, 0, .ofNat 0)), (1049, (0, 0, .ofNat 946), (0, 0, .ofNat 0))], []), [(.ofNat 0, .ofNat 100000, 0, .ofNat 0)], [], [(some (0, 0, .negSucc 0), ([], []), [(.ofNat 0, .ofNat 100000, 0, .ofNat 0)])], [(false, (0, 0, .ofNat 0))])
/-- GridLawsModel.later, row 5 -/
def zc_l2880 : zC := (287, 5, 1, [(3, 88, .ofNat 0), (0, 0, .ofNat 947)], ([(88, (0, 0, .ofNat 28), (1, 0, .ofNat 0)), (1049, (0, 0, .ofNat 947), (0, 0, .ofNat 0))], []), [(.ofNat 0, .ofNat 100000, 0, .ofNat 0)], [], [(some (0, 0, .negSucc 0), ([], []), [(.ofNat 0, .ofNat 100000, 0, .ofNat 0)])], [(false, (0, 0, .ofNat 0))])
/-- GridLawsModel.later, row 5 -/
def zc_l2881 : zC := (287, 5, 1, [(3, 88, .ofNat 0), (0, 0, .ofNat 948)], ([(88, (0, 0, .ofNat 28), (1, 0, .ofNat 0)), (1049, (0, 0, .ofNat 948), (0, 0, .ofNat 0))], []), [(.ofNat 0, .ofNat 100000, 0, .ofNat 0)], [], [(some (0, 0, .negSucc 0), ([], []), [(.ofNat 0, .ofNat 100000, 0, .ofNat 0)])], [(false, (0, 0, .ofNat 0))])
/-- GridLawsModel.later, row 5 -/
def zc_l2882 : zC := (287, 5, 1, [(3, 88, .ofNat 0), (0, 0, .ofNat 949)], ([(88, (0, 0, .ofNat 28), (1, 0, .ofNat 0)), (1049, (0, 0, .ofNat 949), (0, 0, .ofNat 0))], []), [(.ofNat 0, .ofNat 100000, 0, .ofNat 0)], [], [(some (0, 0, .negSucc 0), ([], []), [(.ofNat 0, .ofNat 100000, 0, .ofNat 0)])], [(false, (0, 0, .ofNat 0))])
/-- GridLawsModel.later, row 5 -/
def zc_l2883 : zC := (287, 5, 1, [(3, 88, .ofNat 0), (0, 0, .ofNat 950)], ([(88, (0, 0, .ofNat 28), (1, 0, .ofNat 0)), (1049, (0, 0, .ofNat 950), (0, 0, .ofNat 0))], []), [(.ofNat 0, .ofNat 100000, 0, .ofNat 0)], [], [(some (0, 0, .negSucc 0), ([], []), [(.ofNat 0, .ofNat 100000, 0, .ofNat 0)])], [(false, (0, 0, .ofNat 0))])
/-- GridLawsModel.later, row 5 -/
def zc_l2884 : zC := (287, 5, 1, [(3, 88, .ofNat 0), (0, 0, .ofNat 951)], ([(88, (0, 0, .ofNat 28), (1, 0, .ofNat 0)), (1049, (0, 0, .ofNat 951), (0, 0, .ofNat 0))], []), [(.ofNat 0, .ofNat 100000, 0, .ofNat 0)], [], [(some (0, 0, .negSucc 0), ([], []), [(.ofNat 0, .ofNat 100000, 0, .ofNat 0)])], [(false, (0, 0, .ofNat 0))])
/-- GridLawsModel.later, row 5 -/
def zc_l2885 : zC := (287, 5, 1, [(3, 88, .ofNat 0), (0, 0, .ofNat 952)], ([(88, (0, 0, .ofNat 28), (1, 0, .ofNat 0)), (1049, (0, 0, .ofNat 952), (0, 0, .ofNat 0))], []), [(.ofNat 0, .ofNat 100000, 0, .ofNat 0)], [], [(some (0, 0, .negSucc 0), ([], []), [(.ofNat 0, .ofNat 100000, 0, .ofNat 0)])], [(false, (0, 0, .ofNat 0))])
/-- GridLawsModel.later, row 5 -/
def zc_l2886 : zC := (287, 5, 1, [(3, 88, .ofNat 0), (0, 0, .ofNat 953)], ([(88, (0, 0, .ofNat 28), (1, 0, .ofNat 0)), (1049, (0, 0, .ofNat 953), (0, 0, .ofNat 0))], []), [(.ofNat 0, .ofNat 100000, 0, .ofNat 0)], [], [(some (0, 0, .negSucc 0), ([], []), [(.ofNat 0, .ofNat 100000, 0, .ofNat 0)])], [(false, (0, 0, .ofNat 0))])
/-- GridLawsModel.later, row 5 -/
def zc_l2887 : zC := (287, 5, 1, [(3, 88, .ofNat 0), (0, 0, .ofNat 954)], ([(88, (0, 0, .ofNat 28), (1, 0, .ofNat 0)), (1049, (0, 0, .ofNat 954), (0, 0, .ofNat 0))], []), [(.ofNat 0, .ofNat 100000, 0, .ofNat 0)], [], [(some (0, 0, .negSucc 0), ([], []), [(.ofNat 0, .ofNat 100000, 0, .ofNat 0)])], [(false, (0, 0, .ofNat 0))])
/-- GridLawsModel.later, row 5 -/
def zc_l2888 : zC := (287, 5, 1, [(3, 88, .ofNat 0), (0, 0, .ofNat 955)], ([(88, (0, 0, .ofNat 28), (1, 0, .ofNat 0)), (1049, (0, 0, .ofNat 955), (0, 0, .ofNat 0))], []), [(.ofNat 0, .ofNat 100000, 0, .ofNat 0)], [], [(some (0, 0, .negSucc 0), ([], []), [(.ofNat 0, .ofNat 100000, 0, .ofNat 0)])], [(false, (0, 0, .ofNat 0))])
/-- GridLawsModel.later, row 5 -/
def zc_l2889 : zC := (287, 5, 1, [(3, 88, .ofNat 0), (0, 0, .ofNat 956)], ([(88, (0, 0, .ofNat 28), (1, 0, .ofNat 0)), (1049, (0, 0, .ofNat 956), (0, 0, .ofNat 0))], []), [(.ofNat 0, .ofNat 100000, 0, .ofNat 0)], [], [(some (0, 0, .negSucc 0), ([], []), [(.ofNat 0, .ofNat 100000, 0, .ofNat 0)])], [(false, (0, 0, .ofNat 0))])
/-- GridLawsModel.later, row 5 -/
def zc_l2890 : zC := (287, 5, 1, [(3, 88, .ofNat 0), (0, 0, .ofNat 957)], ([(88, (0, 0, .ofNat 28), (1, 0, .ofNat 0)), (1049, (0, 0, .ofNat 957), (0, 0, .ofNat 0))], []), [(.ofNat 0, .ofNat 100000, 0, .ofNat 0)], [], [(some (0, 0, .negSucc 0), ([], []), [(.ofNat 0, .ofNat 100000, 0, .ofNat 0)])], [(false, (0, 0, .ofNat 0))])
/-- GridLawsModel.later, row 5 -/
def zc_l2891 : zC := (287, 5, 1, [(3, 88, .ofNat 0), (0, 0, .ofNat 958)], ([(88, (0, 0, .ofNat 28), (1, 0, .ofNat 0)), (1049, (0, 0, .ofNat 958), (0, 0, .ofNat 0))], []), [(.ofNat 0, .ofNat 100000, 0, .ofNat 0)], [], [(some (0, 0, .negSucc 0), ([], []), [(.ofNat 0, .ofNat 100000, 0, .ofNat 0)])], [(false, (0, 0, .ofNat 0))])
/-- GridLawsModel.later, row 5 -/
def zc_l2892 : zC := (287, 5, 1, [(3, 88, .ofNat 0), (0, 0, .ofNat 959)], ([(88, (0, 0, .ofNat 28), (1, 0, .ofNat 0)), (1049, (0, 0, .ofNat 959), (0, 0, .ofNat 0))], []), [(.ofNat 0, .ofNat 100000, 0, .ofNat 0)], [], [(some (0, 0, .negSucc 0), ([], []), [(.ofNat 0, .ofNat 100000, 0, .ofNat 0)])], [(false, (0, 0, .ofNat 0))])
/-- GridLawsModel.later, row 5 -/
def zc_l2893 : zC := (287, 5, 1, [(3, 88, .ofNat 0), (0, 0, .ofNat 960)], ([(88, (0, 0, .ofNat 28), (1, 0, .ofNat 0)), (1049, (0, 0, .ofNat 960), (0, 0, .ofNat 0))], []), [(.ofNat 0, .ofNat 100000, 0, .ofNat 0)], [], [(some (0, 0, .negSucc 0), ([], []), [(.ofNat 0, .ofNat 100000, 0, .ofNat 0)])], [(false, (0, 0, .ofNat 0))])
/-- GridLawsModel.later, row 5 -/
def zc_l2894 : zC := (287, 5, 1, [(3, 88, .ofNat 0), (0, 0, .ofNat 961)], ([(88, (0, 0, .ofNat 28), (1, 0, .ofNat 0)), (1049, (0, 0, .ofNat 961), (0, 0, .ofNat 0))], []), [(.ofNat 0, .ofNat 100000, 0, .ofNat 0)], [], [(some (0, 0, .negSucc 0), ([], []), [(.ofNat 0, .ofNat 100000, 0, .ofNat 0)])], [(false, (0, 0, .ofNat 0))])
/-- GridLawsModel.later, row 5 -/
def zc_l2895 : zC := (287, 5, 1, [(3, 88, .ofNat 0), (0, 0, .ofNat 962)], ([(88, (0, 0, .ofNat 28), (1, 0, .ofNat 0)), (1049, (0, 0, .ofNat 962), (0, 0, .ofNat 0))], []), [(.ofNat 0, .ofNat 100000, 0, .ofNat 0)], [], [(some (0, 0, .negSucc 0), ([], []), [(.ofNat 0, .ofNat 100000, 0, .ofNat 0)])], [(false, (0, 0, .ofNat 0))])
/-- GridLawsModel.later, row 5 -/
def zc_l2896 : zC := (287, 5, 1, [(3, 88, .ofNat 0), (0, 0, .ofNat 963)], ([(88, (0, 0, .ofNat 28), (1, 0, .ofNat 0)), (1049, (0, 0, .ofNat 963), (0, 0, .ofNat 0))], []), [(.ofNat 0, .ofNat 100000, 0, .ofNat 0)], [], [(some (0, 0, .negSucc 0), ([], []), [(.ofNat 0, .ofNat 100000, 0, .ofNat 0)])], [(false, (0, 0, .ofNat 0))])
/-- GridLawsModel.later, row 5 -/
def zc_l2897 : zC := (287, 5, 1, [(3, 88, .ofNat 0), (0, 0, .ofNat 964)], ([(88, (0, 0, .ofNat 28), (1, 0, .ofNat 0)), (1049, (0, 0, .ofNat 964), (0, 0, .ofNat 0))], []), [(.ofNat 0, .ofNat 100000, 0, .ofNat 0)], [], [(some (0, 0, .negSucc 0), ([], []), [(.ofNat 0, .ofNat 100000, 0, .ofNat 0)])], [(false, (0, 0, .ofNat 0))])
/-- GridLawsModel.later, row 5 -/
def zc_l2898 : zC := (287, 5, 1, [(3, 88, .ofNat 0), (0, 0, .ofNat 965)], ([(88, (0, 0, .ofNat 28), (1, 0, .ofNat 0)), (1049, (0, 0, .ofNat 965), (0, 0, .ofNat 0))], []), [(.ofNat 0, .ofNat 100000, 0, .ofNat 0)], [], [(some (0, 0, .negSucc 0), ([], []), [(.ofNat 0, .ofNat 100000, 0, .ofNat 0)])], [(false, (0, 0, .ofNat 0))])
/-- GridLawsModel.later, row 5 -/
def zc_l2899 : zC := (287, 5, 1, [(3, 88, .ofNat 0), (0, 0, .ofNat 966)], ([(88, (0, 0, .ofNat 28), (1, 0, .ofNat 0)), (1049, (0, 0, .ofNat 966), (0, 0, .ofNat 0))], []), [(.ofNat 0, .ofNat 100000, 0, .ofNat 0)], [], [(some (0, 0, .negSucc 0), ([], []), [(.ofNat 0, .ofNat 100000, 0, .ofNat 0)])], [(false, (0, 0, .ofNat 0))])
/-- GridLawsModel.later, row 5 -/
def zc_l2900 : zC := (287, 5, 1, [(3, 88, .ofNat 0), (0, 0, .ofNat 967)], ([(88, (0, 0, .ofNat 28), (1, 0, .ofNat 0)), (1049, (0, 0, .ofNat 967), (0, 0, .ofNat 0))], []), [(.ofNat 0, .ofNat 100000, 0, .ofNat 0)], [], [(some (0, 0, .negSucc 0), ([], []), [(.ofNat 0, .ofNat 100000, 0, .ofNat 0)])], [(false, (0, 0, .ofNat 0))])
/-- GridLawsModel.later, row 5 -/
def zc_l2901 : zC := (287, 5, 1, [(3, 88, .ofNat 0), (0, 0, .ofNat 968)], ([(88, (0, 0, .ofNat 28), (1, 0, .ofNat 0)), (1049, (0, 0, .ofNat 968), (0, 0, .ofNat 0))], []), [(.ofNat 0, .ofNat 100000, 0, .ofNat 0)], [], [(some (0, 0, .negSucc 0), ([], []), [(.ofNat 0, .ofNat 100000, 0, .ofNat 0)])], [(false, (0, 0, .ofNat 0))])
/-- GridLawsModel.later, row 5 -/
def zc_l2902 : zC := (287, 5, 1, [(3, 88, .ofNat 0), (0, 0, .ofNat 969)], ([(88, (0, 0, .ofNat 28), (1, 0, .ofNat 0)), (1049, (0, 0, .ofNat 969), (0, 0, .ofNat 0))], []), [(.ofNat 0, .ofNat 100000, 0, .ofNat 0)], [], [(some (0, 0, .negSucc 0), ([], []), [(.ofNat 0, .ofNat 100000, 0, .ofNat 0)])], [(false, (0, 0, .ofNat 0))])
/-- GridLawsModel.later, row 5 -/
def zc_l2903 : zC := (287, 5, 1, [(3, 88, .ofNat 0), (0, 0, .ofNat 970)], ([(88, (0, 0, .ofNat 28), (1, 0, .ofNat 0)), (1049, (0, 0, .ofNat 970), (0, 0, .ofNat 0))], []), [(.ofNat 0, .ofNat 100000, 0, .ofNat 0)], [], [(some (0, 0, .negSucc 0), ([], []), [(.ofNat 0, .ofNat 100000, 0, .ofNat 0)])], [(false, (0, 0, .ofNat 0))])
/-- GridLawsModel.later, row 5 -/
def zc_l2904 : zC := (287, 5, 1, [(3, 88, .ofNat 0), (0, 0, .ofNat 971)], ([(88, (0, 0, .ofNat 28), (1, 0, .ofNat 0)), (1049, (0, 0, .ofNat 971), (0, 0, .ofNat 0))], []), [(.ofNat 0, .ofNat 100000, 0, .ofNat 0)], [], [(some (0, 0, .negSucc 0), ([], []), [(.ofNat 0, .ofNat 100000, 0, .ofNat 0)])], [(false, (0, 0, .ofNat 0))])
/-- GridLawsModel.later, row 5 -/
def zc_l2905 : zC := (287, 5, 1, [(3, 88, .ofNat 0), (0, 0, .ofNat 972)], ([(88, (0, 0, .ofNat 28), (1, 0, .ofNat 0)), (1049, (0, 0, .ofNat 972), (0, 0, .ofNat 0))], []), [(.ofNat 0, .ofNat 100000, 0, .ofNat 0)], [], [(some (0, 0, .negSucc 0), ([], []), [(.ofNat 0, .ofNat 100000, 0, .ofNat 0)])], [(false, (0, 0, .ofNat 0))])
/-- GridLawsModel.later, row 5 -/
def zc_l2906 : zC := (287, 5, 1, [(3, 88, .ofNat 0), (0, 0, .ofNat 973)], ([(88, (0, 0, .ofNat 28), (1, 0, .ofNat 0)), (1049, (0, 0, .ofNat 973), (0, 0, .ofNat 0))], []), [(.ofNat 0, .ofNat 100000, 0, .ofNat 0)], [], [(some (0, 0, .negSucc 0), ([], []), [(.ofNat 0, .ofNat 100000, 0, .ofNat 0)])], [(false, (0, 0, .ofNat 0))])
/-- GridLawsModel.later, row 5 -/
def zc_l2907 : zC := (287, 5, 1, [(3, 88, .ofNat 0), (0, 0, .ofNat 974)], ([(88, (0, 0, .ofNat 28), (1, 0, .ofNat 0)), (1049, (0, 0, .ofNat 974), (0, 0, .ofNat 0))], []), [(.ofNat 0, .ofNat 100000, 0, .ofNat 0)], [], [(some (0, 0, .negSucc 0), ([], []), [(.ofNat 0, .ofNat 100000, 0, .ofNat 0)])], [(false, (0, 0, .ofNat 0))])
/-- GridLawsModel.later, row 5 -/
def zc_l2908 : zC := (287, 5, 1, [(3, 88, .ofNat 0), (0, 0, .ofNat 975)], ([(88, (0, 0, .ofNat 28), (1, 0, .ofNat 0)), (1049, (0, 0, .ofNat 975), (0, 0, .ofNat 0))], []), [(.ofNat 0, .ofNat 100000, 0, .ofNat 0)], [], [(some (0, 0, .negSucc 0), ([], []), [(.ofNat 0, .ofNat 100000, 0, .ofNat 0)])], [(false, (0, 0, .ofNat 0))])
/-- GridLawsModel.later, row 5 -/
def zc_l2909 : zC := (287, 5, 1, [(3, 88, .ofNat 0), (0, 0, .ofNat 976)], ([(88, (0, 0, .ofNat 28), (1, 0, .ofNat 0)), (1049, (0, 0, .ofNat 976), (0, 0, .ofNat 0))], []), [(.ofNat 0, .ofNat 100000, 0, .ofNat 0)], [], [(some (0, 0, .negSucc 0), ([], []), [(.ofNat 0, .ofNat 100000, 0, .ofNat 0)])], [(false, (0, 0, .ofNat 0))])
/-- GridLawsModel.later, row 5 -/
def zc_l2910 : zC := (287, 5, 1, [(3, 88, .ofNat 0), (0, 0, .ofNat 977)], ([(88, (0, 0, .ofNat 28), (1, 0, .ofNat 0)), (1049, (0, 0, .ofNat 977), (0, 0, .ofNat 0))], []), [(.ofNat 0, .ofNat 100000, 0, .ofNat 0)], [], [(some (0, 0, .negSucc 0), ([], []), [(.ofNat 0, .ofNat 100000, 0, .ofNat 0)])], [(false, (0, 0, .ofNat 0))])
/-- GridLawsModel.later, row 5 -/
def zc_l2911 : zC := (287, 5, 1, [(3, 88, .ofNat 0), (0, 0, .ofNat 978)], ([(88, (0, 0, .ofNat 28), (1, 0, .ofNat 0)), (1049, (0, 0, .ofNat 978), (0, 0, .ofNat 0))], []), [(.ofNat 0, .ofNat 100000, 0, .ofNat 0)], [], [(some (0, 0, .negSucc 0), ([], []), [(.ofNat 0, .ofNat 100000, 0, .ofNat 0)])], [(false, (0, 0, .ofNat 0))])
/-- GridLawsModel.later, row 5 -/
def zc_l2912 : zC := (287, 5, 1, [(3, 88, .ofNat 0), (0, 0, .ofNat 979)], ([(88, (0, 0, .ofNat 28), (1, 0, .ofNat 0)), (1049, (0, 0, .ofNat 979), (0, 0, .ofNat 0))], []), [(.ofNat 0, .ofNat 100000, 0, .ofNat 0)], [], [(some (0, 0, .negSucc 0), ([], []), [(.ofNat 0, .ofNat 100000, 0, .ofNat 0)])], [(false, (0, 0, .ofNat 0))])
/-- GridLawsModel.later, row 5 -/
def zc_l2913 : zC := (287, 5, 1, [(3, 88, .ofNat 0), (0, 0, .ofNat 980)], ([(88, (0, 0, .ofNat 28), (1, 0, .ofNat 0)), (1049, (0, 0, .ofNat 980), (0, 0, .ofNat 0))], []), [(.ofNat 0, .ofNat 100000, 0, .ofNat 0)], [], [(some (0, 0, .negSucc 0), ([], []), [(.ofNat 0, .ofNat 100000, 0, .ofNat 0)])], [(false, (0, 0, .ofNat 0))])
/-- GridLawsModel.later, row 5 -/
def zc_l2914 : zC := (287, 5, 1, [(3, 88, .ofNat 0), (0, 0, .ofNat 981)], ([(88, (0, 0, .ofNat 28), (1, 0, .ofNat 0)), (1049, (0, 0, .ofNat 981), (0, 0, .ofNat 0))], []), [(.ofNat 0, .ofNat 100000, 0, .ofNat 0)], [], [(some (0, 0, .negSucc 0), ([], []), [(.ofNat 0, .ofNat 100000, 0, .ofNat 0)])], [(false, (0, 0, .ofNat 0))])
/-- GridLawsModel.later, row 5 -/
def zc_l2915 : zC := (287, 5, 1, [(3, 88, .ofNat 0), (0, 0, .ofNat 982)], ([(88, (0, 0, .ofNat 28), (1, 0, .ofNat 0)), (1049, (0, 0, .ofNat 982), (0, 0, .ofNat 0))], []), [(.ofNat 0, .ofNat 100000, 0, .ofNat 0)], [], [(some (0, 0, .negSucc 0), ([], []), [(.ofNat 0, .ofNat 100000, 0, .ofNat 0)])], [(false, (0, 0, .ofNat 0))])
/-- GridLawsModel.later, row 5 -/
def zc_l2916 : zC := (287, 5, 1, [(3, 88, .ofNat 0), (0, 0, .ofNat 983)], ([(88, (0, 0, .ofNat 28), (1, 0, .ofNat 0)), (1049, (0, 0, .ofNat 983), (0, 0, .ofNat 0))], []), [(.ofNat 0, .ofNat 100000, 0, .ofNat 0)], [], [(some (0, 0, .negSucc 0), ([], []), [(.ofNat 0, .ofNat 100000, 0, .ofNat 0)])], [(false, (0, 0, .ofNat 0))])
/-- GridLawsModel.later, row 5 -/
def zc_l2917 : zC := (287, 5, 1, [(3, 88, .ofNat 0), (0, 0, .ofNat 984)], ([(88, (0, 0, .ofNat 28), (1, 0, .ofNat 0)), (1049, (0, 0, .ofNat 984), (0, 0, .ofNat 0))], []), [(.ofNat 0, .ofNat 100000, 0, .ofNat 0)], [], [(some (0, 0, .negSucc 0), ([], []), [(.ofNat 0, .ofNat 100000, 0, .ofNat 0)])], [(false, (0, 0, .ofNat 0))])
/-- GridLawsModel.later, row 5 -/
def zc_l2918 : zC := (287, 5, 1, [(3, 88, .ofNat 0), (0, 0, .ofNat 985)], ([(88, (0, 0, .ofNat 28), (1, 0, .ofNat 0)), (1049, (0, 0, .ofNat 985), (0, 0, .ofNat 0))], []), [(.ofNat 0, .ofNat 100000, 0, .ofNat 0)], [], [(some (0, 0, .negSucc 0), ([], []), [(.ofNat 0, .ofNat 100000, 0, .ofNat 0)])], [(false, (0, 0, .ofNat 0))])
/-- GridLawsModel.later, row 5 -/
def zc_l2919 : zC := (287, 5, 1, [(3, 88, .ofNat 0), (0, 0, .ofNat 986)], ([(88, (0, 0, .ofNat 28), (1, 0, .ofNat 0)), (1049, (0, 0, .ofNat 986), (0, 0, .ofNat 0))], []), [(.ofNat 0, .ofNat 100000, 0, .ofNat 0)], [], [(some (0, 0, .negSucc 0), ([], []), [(.ofNat 0, .ofNat 100000, 0, .ofNat 0)])], [(false, (0, 0, .ofNat 0))])
/-- GridLawsModel.later, row 5 -/
def zc_l2920 : zC := (287, 5, 1, [(3, 88, .ofNat 0), (0, 0, .ofNat 987)], ([(88, (0, 0, .ofNat 28), (1, 0, .ofNat 0)), (1049, (0, 0, .ofNat 987), (0, 0, .ofNat 0))], []), [(.ofNat 0, .ofNat 100000, 0, .ofNat 0)], [], [(some (0, 0, .negSucc 0), ([], []), [(.ofNat 0, .ofNat 100000, 0, .ofNat 0)])], [(false, (0, 0, .ofNat 0))])
/-- GridLawsModel.later, row 5 -/
def zc_l2921 : zC := (287, 5, 1, [(3, 88, .ofNat 0), (0, 0, .ofNat 988)], ([(88, (0, 0, .ofNat 28), (1, 0, .ofNat 0)), (1049, (0, 0, .ofNat 988), (0, 0, .ofNat 0))], []), [(.ofNat 0, .ofNat 100000, 0, .ofNat 0)], [], [(some (0, 0, .negSucc 0), ([], []), [(.ofNat 0, .ofNat 100000, 0, .ofNat 0)])], [(false, (0, 0, .ofNat 0))])
/-- GridLawsModel.later, row 5 -/
def zc_l2922 : zC := (287, 5, 1, [(3, 88, .ofNat 0), (0, 0, .ofNat 989)], ([(88, (0, 0, .ofNat 28), (1, 0, .ofNat 0)), (1049, (0, 0, .ofNat 989), (0, 0, .ofNat 0))], []), [(.ofNat 0, .ofNat 100000, 0, .ofNat 0)], [], [(some (0, 0, .negSucc 0), ([], []), [(.ofNat 0, .ofNat 100000, 0, .ofNat 0)])], [(false, (0, 0, .ofNat 0))])
/-- GridLawsModel.later, row 5 -/
def zc_l2923 : zC := (287, 5, 1, [(3, 88, .ofNat 0), (0, 0, .ofNat 990)], ([(88, (0, 0, .ofNat 28), (1, 0, .ofNat 0)), (1049, (0, 0, .ofNat 990), (0, 0, .ofNat 0))], []), [(.ofNat 0, .ofNat 100000, 0, .ofNat 0)], [], [(some (0, 0, .negSucc 0), ([], []), [(.ofNat 0, .ofNat 100000, 0, .ofNat 0)])], [(false, (0, 0, .ofNat 0))])
/-- GridLawsModel.later, row 5 -/
def zc_l2924 : zC := (287, 5, 1, [(3, 88, .ofNat 0), (0, 0, .ofNat 991)], ([(88, (0, 0, .ofNat 28), (1, 0, .ofNat 0)), (1049, (0, 0, .ofNat 991), (0, 0, .ofNat 0))], []), [(.ofNat 0, .ofNat 100000, 0, .ofNat 0)], [], [(some (0, 0, .negSucc 0), ([], []), [(.ofNat 0, .ofNat 100000, 0, .ofNat 0)])], [(false, (0, 0, .ofNat 0))])
/-- GridLawsModel.later, row 5 -/
def zc_l2925 : zC := (287, 5, 1, [(3, 88, .ofNat 0), (0, 0, .ofNat 992)], ([(88, (0, 0, .ofNat 28), (1, 0, .ofNat 0)), (1049, (0, 0, .ofNat 992), (0, 0, .ofNat 0))], []), [(.ofNat 0, .ofNat 100000, 0, .ofNat 0)], [], [(some (0, 0, .negSucc 0), ([], []), [(.ofNat 0, .ofNat 100000, 0, .ofNat 0)])], [(false, (0, 0, .ofNat 0))])
/-- GridLawsModel.later, row 5 -/
def zc_l2926 : zC := (287, 5, 1, [(3, 88, .ofNat 0), (0, 0, .ofNat 993)], ([(88, (0, 0, .ofNat 28), (1, 0, .ofNat 0)), (1049, (0, 0, .ofNat 993), (0, 0, .ofNat 0))], []), [(.ofNat 0, .ofNat 100000, 0, .ofNat 0)], [], [(some (0, 0, .negSucc 0), ([], []), [(.ofNat 0, .ofNat 100000, 0, .ofNat 0)])], [(false, (0, 0, .ofNat 0))])
/-- GridLawsModel.later, row 5 -/
def zc_l2927 : zC := (287, 5, 1, [(3, 88, .ofNat 0), (0, 0, .ofNat 994)], ([(88, (0, 0, .ofNat 28), (1, 0, .ofNat 0)), (1049, (0, 0, .ofNat 994), (0, 0, .ofNat 0))], []), [(.ofNat 0, .ofNat 100000, 0, .ofNat 0)], [], [(some (0, 0, .negSucc 0), ([], []), [(.ofNat 0, .ofNat 100000, 0, .ofNat 0)])], [(false, (0, 0, .ofNat 0))])
/-- GridLawsModel.later, row 5 -/
def zc_l2928 : zC := (287, 5, 1, [(3, 88, .ofNat 0), (0, 0, .ofNat 995)], ([(88, (0, 0, .ofNat 28), (1, 0, .ofNat 0)), (1049, (0, 0, .ofNat 995), (0, 0, .ofNat 0))], []), [(.ofNat 0, .ofNat 100000, 0, .ofNat 0)], [], [(some (0, 0, .negSucc 0), ([], []), [(.ofNat 0, .ofNat 100000, 0, .ofNat 0)])], [(false, (0, 0, .ofNat 0))])
/-- GridLawsModel.later, row 5 -/
def zc_l2929 : zC := (287, 5, 1, [(3, 88, .ofNat 0), (0, 0, .ofNat 996)], ([(88, (0, 0, .ofNat 28), (1, 0, .ofNat 0)), (1049, (0, 0, .ofNat 996), (0, 0, .ofNat 0))], []), [(.ofNat 0, .ofNat 100000, 0, .ofNat 0)], [], [(some (0, 0, .negSucc 0), ([], []), [(.ofNat 0, .ofNat 100000, 0, .ofNat 0)])], [(false, (0, 0, .ofNat 0))])
/-- GridLawsModel.later, row 5 -/
def zc_l2930 : zC := (287, 5, 1, [(3, 88, .ofNat 0), (0, 0, .ofNat 997)], ([(88, (0, 0, .ofNat 28), (1, 0, .ofNat 0)), (1049, (0, 0, .ofNat 997), (0, 0, .ofNat 0))], []), [(.ofNat 0, .ofNat 100000, 0, .ofNat 0)], [], [(some (0, 0, .negSucc 0), ([], []), [(.ofNat 0, .ofNat 100000, 0, .ofNat 0)])], [(false, (0, 0, .ofNat 0))])
/-- GridLawsModel.later, row 5 -/
def zc_l2931 : zC := (287, 5, 1, [(3, 88, .ofNat 0), (0, 0, .ofNat 998)], ([(88, (0, 0, .ofNat 28), (1, 0, .ofNat 0)), (1049, (0, 0, .ofNat 998), (0, 0, .ofNat 0))], []), [(.ofNat 0, .ofNat 100000, 0, .ofNat 0)], [], [(some (0, 0, .negSucc 0), ([], []), [(.ofNat 0, .ofNat 100000, 0, .ofNat 0)])], [(false, (0, 0, .ofNat 0))])
/-- GridLawsModel.later, row 5 -/
def zc_l2932 : zC := (287, 5, 1, [(3, 88, .ofNat 0), (0, 0, .ofNat 999)], ([(88, (0, 0, .ofNat 28), (1, 0, .ofNat 0)), (1049, (0, 0, .ofNat 999), (0, 0, .ofNat 0))], []), [(.ofNat 0, .ofNat 100000, 0, .ofNat 0)], [], [(some (0, 0, .negSucc 0), ([], []), [(.ofNat 0, .ofNat 100000, 0, .ofNat 0)])], [(false, (0, 0, .ofNat 0))])
def zgl_l2832_0 : List zC := [zc_l2832, zc_l2833, zc_l2834, zc_l2835, zc_l2836, zc_l2837, zc_l2838, zc_l2839, zc_l2840, zc_l2841, zc_l2842, zc_l2843, zc_l2844, zc_l2845, zc_l2846, zc_l2847]
def zgl_l2832_1 : List zC := [zc_l2848, zc_l2849, zc_l2850, zc_l2851, zc_l2852, zc_l2853, zc_l2854, zc_l2855, zc_l2856, zc_l2857, zc_l2858, zc_l2859, zc_l2860, zc_l2861, zc_l2862, zc_l2863]
def zgl_l2832_2 : List zC := [zc_l2864, zc_l2865, zc_l2866, zc_l2867, zc_l2868, zc_l2869, zc_l2870, zc_l2871, zc_l2872, zc_l2873, zc_l2874, zc_l2875, zc_l2876, zc_l2877, zc_l2878, zc_l2879]
def zgl_l2832_3 : List zC := [zc_l2880, zc_l2881, zc_l2882, zc_l2883, zc_l2884, zc_l2885, zc_l2886, zc_l2887, zc_l2888, zc_l2889, zc_l2890, zc_l2891, zc_l2892, zc_l2893, zc_l2894, zc_l2895]
def zgl_l2832_4 : List zC := [zc_l2896, zc_l2897, zc_l2898, zc_l2899, zc_l2900, zc_l2901, zc_l2902, zc_l2903, zc_l2904, zc_l2905, zc_l2906, zc_l2907, zc_l2908, zc_l2909, zc_l2910, zc_l2911]
def zgl_l2832_5 : List zC := [zc_l2912, zc_l2913, zc_l2914, zc_l2915, zc_l2916, zc_l2917, zc_l2918, zc_l2919, zc_l2920, zc_l2921, zc_l2922, zc_l2923, zc_l2924, zc_l2925, zc_l2926, zc_l2927]
def zgl_l2832_6 : List zC := [zc_l2928, zc_l2929, zc_l2930, zc_l2931, zc_l2932]
def zgl_l2832 : List zC := zgl_l2832_0 ++ (zgl_l2832_1 ++ (zgl_l2832_2 ++ (zgl_l2832_3 ++ (zgl_l2832_4 ++ (zgl_l2832_5 ++ (zgl_l2832_6))))))
def zgh_l2832_0 : List (zC × zHt) := [(zc_l2832, [(5, 0, 0), (5, 1, 0)]), (zc_l2833, [(13, 2, 94)]), (zc_l2834, [(13, 2, 94)]), (zc_l2835, [(13, 2, 94)]), (zc_l2836, [(13, 2, 94)]), (zc_l2837, [(13, 2, 94)]), (zc_l2838, [(13, 2, 94)]), (zc_l2839, [(13, 2, 94)]), (zc_l2840, [(13, 2, 94)]), (zc_l2841, [(13, 2, 94)]), (zc_l2842, [(13, 2, 94)]), (zc_l2843, [(13, 2, 94)]), (zc_l2844, [(13, 2, 94)]), (zc_l2845, [(13, 2, 94)]), (zc_l2846, [(13, 2, 94)]), (zc_l2847, [(13, 2, 94)])]
def zgh_l2832_1 : List (zC × zHt) := [(zc_l2848, [(13, 2, 94)]), (zc_l2849, [(13, 2, 94)]), (zc_l2850, [(13, 2, 94)]), (zc_l2851, [(13, 2, 94)]), (zc_l2852, [(13, 2, 94)]), (zc_l2853, [(13, 2, 94)]), (zc_l2854, [(13, 2, 94)]), (zc_l2855, [(13, 2, 94)]), (zc_l2856, [(13, 2, 94)]), (zc_l2857, [(13, 2, 94)]), (zc_l2858, [(13, 2, 94)]), (zc_l2859, [(13, 2, 94)]), (zc_l2860, [(13, 2, 94)]), (zc_l2861, [(13, 2, 94)]), (zc_l2862, [(13, 2, 94)]), (zc_l2863, [(13, 2, 94)])]
def zgh_l2832_2 : List (zC × zHt) := [(zc_l2864, [(13, 2, 94)]), (zc_l2865, [(13, 2, 94)]), (zc_l2866, [(13, 2, 94)]), (zc_l2867, [(13, 2, 94)]), (zc_l2868, [(13, 2, 94)]), (zc_l2869, [(13, 2, 94)]), (zc_l2870, [(13, 2, 94)]), (zc_l2871, [(13, 2, 94)]), (zc_l2872, [(13, 2, 94)]), (zc_l2873, [(13, 2, 94)]), (zc_l2874, [(13, 2, 94)]), (zc_l2875, [(13, 2, 94)]), (zc_l2876, [(13, 2, 94)]), (zc_l2877, [(13, 2, 94)]), (zc_l2878, [(13, 2, 94)]), (zc_l2879, [(13, 2, 94)])]
def zgh_l2832_3 : List (zC × zHt) := [(zc_l2880, [(13, 2, 94)]), (zc_l2881, [(13, 2, 94)]), (zc_l2882, [(13, 2, 94)]), (zc_l2883, [(13, 2, 94)]), (zc_l2884, [(13, 2, 94)]), (zc_l2885, [(13, 2, 94)]), (zc_l2886, [(13, 2, 94)]), (zc_l2887, [(13, 2, 94)]), (zc_l2888, [(13, 2, 94)]), (zc_l2889, [(13, 2, 94)]), (zc_l2890, [(13, 2, 94)]), (zc_l2891, [(13, 2, 94)]), (zc_l2892, [(13, 2, 94)]), (zc_l2893, [(13, 2, 94)]), (zc_l2894, [(13, 2, 94)]), (zc_l2895, [(13, 2, 94)])]
def zgh_l2832_4 : List (zC × zHt) := [(zc_l2896, [(13, 2, 94)]), (zc_l2897, [(13, 2, 94)]), (zc_l2898, [(13, 2, 94)]), (zc_l2899, [(13, 2, 94)]), (zc_l2900, [(13, 2, 94)]), (zc_l2901, [(13, 2, 94)]), (zc_l2902, [(13, 2, 94)]), (zc_l2903, [(13, 2, 94)]), (zc_l2904, [(13, 2, 94)]), (zc_l2905, [(13, 2, 94)]), (zc_l2906, [(13, 2, 94)]), (zc_l2907, [(13, 2, 94)]), (zc_l2908, [(13, 2, 94)]), (zc_l2909, [(13, 2, 94)]), (zc_l2910, [(13, 2, 94)]), (zc_l2911, [(13, 2, 94)])]
def zgh_l2832_5 : List (zC × zHt) := [(zc_l2912, [(13, 2, 94)]), (zc_l2913, [(13, 2, 94)]), (zc_l2914, [(13, 2, 94)]), (zc_l2915, [(13, 2, 94)]), (zc_l2916, [(13, 2, 94)]), (zc_l2917, [(13, 2, 94)]), (zc_l2918, [(13, 2, 94)]), (zc_l2919, [(13, 2, 94)]), (zc_l2920, [(13, 2, 94)]), (zc_l2921, [(13, 2, 94)]), (zc_l2922, [(13, 2, 94)]), (zc_l2923, [(13, 2, 94)]), (zc_l2924, [(13, 2, 94)]), (zc_l2925, [(13, 2, 94)]), (zc_l2926, [(13, 2, 94)]), (zc_l2927, [(13, 2, 94)])]
def zgh_l2832_6 : List (zC × zHt) := [(zc_l2928, [(13, 2, 94)]), (zc_l2929, [(13, 2, 94)]), (zc_l2930, [(13, 2, 94)]), (zc_l2931, [(13, 2, 94)]), (zc_l2932, [(13, 2, 94)])]
theorem zge_l2832_0 : zgh_l2832_0.map Prod.fst = zgl_l2832_0 := rfl
theorem zge_l2832_1 : zgh_l2832_1.map Prod.fst = zgl_l2832_1 := rfl
theorem zge_l2832_2 : zgh_l2832_2.map Prod.fst = zgl_l2832_2 := rfl
theorem zge_l2832_3 : zgh_l2832_3.map Prod.fst = zgl_l2832_3 := rfl
theorem zge_l2832_4 : zgh_l2832_4.map Prod.fst = zgl_l2832_4 := rfl
theorem zge_l2832_5 : zgh_l2832_5.map Prod.fst = zgl_l2832_5 := rfl
theorem zge_l2832_6 : zgh_l2832_6.map Prod.fst = zgl_l2832_6 := rfl
theorem zge_l2832 : (zgh_l2832_0 ++ (zgh_l2832_1 ++ (zgh_l2832_2 ++ (zgh_l2832_3 ++ (zgh_l2832_4 ++ (zgh_l2832_5 ++ (zgh_l2832_6))))))).map Prod.fst = zgl_l2832 := by
  rw [List.map_append, zge_l2832_0, List.map_append, zge_l2832_1, List.map_append, zge_l2832_2, List.map_append, zge_l2832_3, List.map_append, zge_l2832_4, List.map_append, zge_l2832_5, zge_l2832_6]
  rfl
