/-! the law's loop, printed by wip/p34/genall.py -/
theorem zt_l610 : zchk zRUL 3 xBY zIN zCF [] zgl_l610 20000 [(12, 3, 92), (12, 3, 93), (5, 0, 0), (5, 1, 0)] zc_l610 = true := by decide +kernel
theorem zt_l611 : zchk zRUL 3 xBY zIN zCF [] zgl_l610 20000 [(12, 2, 91), (21, 2, 90)] zc_l611 = true := by decide +kernel
theorem zt_l612 : zchk zRUL 3 xBY zIN zCF [] zgl_l610 20000 [(12, 2, 91), (21, 2, 90)] zc_l612 = true := by decide +kernel
theorem zt_l613 : zchk zRUL 3 xBY zIN zCF [] zgl_l610 20000 [(12, 2, 91), (21, 2, 90)] zc_l613 = true := by decide +kernel
theorem zt_l614 : zchk zRUL 3 xBY zIN zCF [] zgl_l610 20000 [(12, 2, 91), (21, 2, 90)] zc_l614 = true := by decide +kernel
theorem zt_l615 : zchk zRUL 3 xBY zIN zCF [] zgl_l610 20000 [(12, 2, 91), (21, 2, 90)] zc_l615 = true := by decide +kernel
theorem zt_l616 : zchk zRUL 3 xBY zIN zCF [] zgl_l610 20000 [(12, 2, 91), (21, 2, 90)] zc_l616 = true := by decide +kernel
theorem zt_l617 : zchk zRUL 3 xBY zIN zCF [] zgl_l610 20000 [(12, 2, 91), (21, 2, 90)] zc_l617 = true := by decide +kernel
theorem zt_l618 : zchk zRUL 3 xBY zIN zCF [] zgl_l610 20000 [(12, 2, 91), (21, 2, 90)] zc_l618 = true := by decide +kernel
theorem zt_l619 : zchk zRUL 3 xBY zIN zCF [] zgl_l610 20000 [(12, 2, 91), (21, 2, 90)] zc_l619 = true := by decide +kernel
theorem zt_l620 : zchk zRUL 3 xBY zIN zCF [] zgl_l610 20000 [(12, 2, 91), (21, 2, 90)] zc_l620 = true := by decide +kernel
theorem zt_l621 : zchk zRUL 3 xBY zIN zCF [] zgl_l610 20000 [(12, 2, 91), (21, 2, 90)] zc_l621 = true := by decide +kernel
theorem zt_l622 : zchk zRUL 3 xBY zIN zCF [] zgl_l610 20000 [(12, 2, 91), (21, 2, 90)] zc_l622 = true := by decide +kernel
theorem zt_l623 : zchk zRUL 3 xBY zIN zCF [] zgl_l610 20000 [(12, 2, 91), (21, 2, 90)] zc_l623 = true := by decide +kernel
theorem zt_l624 : zchk zRUL 3 xBY zIN zCF [] zgl_l610 20000 [(12, 2, 91), (21, 2, 90)] zc_l624 = true := by decide +kernel
theorem zt_l625 : zchk zRUL 3 xBY zIN zCF [] zgl_l610 20000 [(12, 2, 91), (21, 2, 90)] zc_l625 = true := by decide +kernel
theorem zga_l610_0 : ∀ p ∈ zgh_l610_0, zchk zRUL 3 xBY zIN zCF [] zgl_l610 20000 p.2 p.1 = true := List.forall_mem_cons.mpr ⟨zt_l610, List.forall_mem_cons.mpr ⟨zt_l611, List.forall_mem_cons.mpr ⟨zt_l612, List.forall_mem_cons.mpr ⟨zt_l613, List.forall_mem_cons.mpr ⟨zt_l614, List.forall_mem_cons.mpr ⟨zt_l615, List.forall_mem_cons.mpr ⟨zt_l616, List.forall_mem_cons.mpr ⟨zt_l617, List.forall_mem_cons.mpr ⟨zt_l618, List.forall_mem_cons.mpr ⟨zt_l619, List.forall_mem_cons.mpr ⟨zt_l620, List.forall_mem_cons.mpr ⟨zt_l621, List.forall_mem_cons.mpr ⟨zt_l622, List.forall_mem_cons.mpr ⟨zt_l623, List.forall_mem_cons.mpr ⟨zt_l624, List.forall_mem_cons.mpr ⟨zt_l625, fun _ h => absurd h List.not_mem_nil⟩⟩⟩⟩⟩⟩⟩⟩⟩⟩⟩⟩⟩⟩⟩⟩
theorem zt_l626 : zchk zRUL 3 xBY zIN zCF [] zgl_l610 20000 [(12, 2, 91), (21, 2, 90)] zc_l626 = true := by decide +kernel
theorem zt_l627 : zchk zRUL 3 xBY zIN zCF [] zgl_l610 20000 [(12, 2, 91), (21, 2, 90)] zc_l627 = true := by decide +kernel
theorem zt_l628 : zchk zRUL 3 xBY zIN zCF [] zgl_l610 20000 [(12, 2, 91), (21, 2, 90)] zc_l628 = true := by decide +kernel
theorem zt_l629 : zchk zRUL 3 xBY zIN zCF [] zgl_l610 20000 [(12, 2, 91), (21, 2, 90)] zc_l629 = true := by decide +kernel
theorem zt_l630 : zchk zRUL 3 xBY zIN zCF [] zgl_l610 20000 [(12, 2, 91), (21, 2, 90)] zc_l630 = true := by decide +kernel
theorem zt_l631 : zchk zRUL 3 xBY zIN zCF [] zgl_l610 20000 [(12, 2, 91), (21, 2, 90)] zc_l631 = true := by decide +kernel
theorem zt_l632 : zchk zRUL 3 xBY zIN zCF [] zgl_l610 20000 [(12, 2, 91), (21, 2, 90)] zc_l632 = true := by decide +kernel
theorem zt_l633 : zchk zRUL 3 xBY zIN zCF [] zgl_l610 20000 [(12, 2, 91), (21, 2, 90)] zc_l633 = true := by decide +kernel
theorem zt_l634 : zchk zRUL 3 xBY zIN zCF [] zgl_l610 20000 [(12, 2, 91), (21, 2, 90)] zc_l634 = true := by decide +kernel
theorem zt_l635 : zchk zRUL 3 xBY zIN zCF [] zgl_l610 20000 [(12, 2, 91), (21, 2, 90)] zc_l635 = true := by decide +kernel
theorem zt_l636 : zchk zRUL 3 xBY zIN zCF [] zgl_l610 20000 [(12, 2, 91), (21, 2, 90)] zc_l636 = true := by decide +kernel
theorem zt_l637 : zchk zRUL 3 xBY zIN zCF [] zgl_l610 20000 [(12, 2, 91), (21, 2, 90)] zc_l637 = true := by decide +kernel
theorem zt_l638 : zchk zRUL 3 xBY zIN zCF [] zgl_l610 20000 [(12, 2, 91), (21, 2, 90)] zc_l638 = true := by decide +kernel
theorem zt_l639 : zchk zRUL 3 xBY zIN zCF [] zgl_l610 20000 [(12, 2, 91), (21, 2, 90)] zc_l639 = true := by decide +kernel
theorem zt_l640 : zchk zRUL 3 xBY zIN zCF [] zgl_l610 20000 [(12, 2, 91), (21, 2, 90)] zc_l640 = true := by decide +kernel
theorem zt_l641 : zchk zRUL 3 xBY zIN zCF [] zgl_l610 20000 [(12, 2, 91), (21, 2, 90)] zc_l641 = true := by decide +kernel
theorem zga_l610_1 : ∀ p ∈ zgh_l610_1, zchk zRUL 3 xBY zIN zCF [] zgl_l610 20000 p.2 p.1 = true := List.forall_mem_cons.mpr ⟨zt_l626, List.forall_mem_cons.mpr ⟨zt_l627, List.forall_mem_cons.mpr ⟨zt_l628, List.forall_mem_cons.mpr ⟨zt_l629, List.forall_mem_cons.mpr ⟨zt_l630, List.forall_mem_cons.mpr ⟨zt_l631, List.forall_mem_cons.mpr ⟨zt_l632, List.forall_mem_cons.mpr ⟨zt_l633, List.forall_mem_cons.mpr ⟨zt_l634, List.forall_mem_cons.mpr ⟨zt_l635, List.forall_mem_cons.mpr ⟨zt_l636, List.forall_mem_cons.mpr ⟨zt_l637, List.forall_mem_cons.mpr ⟨zt_l638, List.forall_mem_cons.mpr ⟨zt_l639, List.forall_mem_cons.mpr ⟨zt_l640, List.forall_mem_cons.mpr ⟨zt_l641, fun _ h => absurd h List.not_mem_nil⟩⟩⟩⟩⟩⟩⟩⟩⟩⟩⟩⟩⟩⟩⟩⟩
theorem zt_l642 : zchk zRUL 3 xBY zIN zCF [] zgl_l610 20000 [(12, 2, 91), (21, 2, 90)] zc_l642 = true := by decide +kernel
theorem zt_l643 : zchk zRUL 3 xBY zIN zCF [] zgl_l610 20000 [(12, 2, 91), (21, 2, 90)] zc_l643 = true := by decide +kernel
theorem zt_l644 : zchk zRUL 3 xBY zIN zCF [] zgl_l610 20000 [(12, 2, 91), (21, 2, 90)] zc_l644 = true := by decide +kernel
theorem zt_l645 : zchk zRUL 3 xBY zIN zCF [] zgl_l610 20000 [(12, 2, 91), (21, 2, 90)] zc_l645 = true := by decide +kernel
theorem zt_l646 : zchk zRUL 3 xBY zIN zCF [] zgl_l610 20000 [(12, 2, 91), (21, 2, 90)] zc_l646 = true := by decide +kernel
theorem zt_l647 : zchk zRUL 3 xBY zIN zCF [] zgl_l610 20000 [(12, 2, 91), (21, 2, 90)] zc_l647 = true := by decide +kernel
theorem zt_l648 : zchk zRUL 3 xBY zIN zCF [] zgl_l610 20000 [(12, 2, 91), (21, 2, 90)] zc_l648 = true := by decide +kernel
theorem zt_l649 : zchk zRUL 3 xBY zIN zCF [] zgl_l610 20000 [(12, 2, 91), (21, 2, 90)] zc_l649 = true := by decide +kernel
theorem zt_l650 : zchk zRUL 3 xBY zIN zCF [] zgl_l610 20000 [(12, 2, 91), (21, 2, 90)] zc_l650 = true := by decide +kernel
theorem zt_l651 : zchk zRUL 3 xBY zIN zCF [] zgl_l610 20000 [(12, 2, 91), (21, 2, 90)] zc_l651 = true := by decide +kernel
theorem zt_l652 : zchk zRUL 3 xBY zIN zCF [] zgl_l610 20000 [(12, 2, 91), (21, 2, 90)] zc_l652 = true := by decide +kernel
theorem zt_l653 : zchk zRUL 3 xBY zIN zCF [] zgl_l610 20000 [(12, 2, 91), (21, 2, 90)] zc_l653 = true := by decide +kernel
theorem zt_l654 : zchk zRUL 3 xBY zIN zCF [] zgl_l610 20000 [(12, 2, 91), (21, 2, 90)] zc_l654 = true := by decide +kernel
theorem zt_l655 : zchk zRUL 3 xBY zIN zCF [] zgl_l610 20000 [(12, 2, 91), (21, 2, 90)] zc_l655 = true := by decide +kernel
theorem zt_l656 : zchk zRUL 3 xBY zIN zCF [] zgl_l610 20000 [(12, 2, 91), (21, 2, 90)] zc_l656 = true := by decide +kernel
theorem zt_l657 : zchk zRUL 3 xBY zIN zCF [] zgl_l610 20000 [(12, 2, 91), (21, 2, 90)] zc_l657 = true := by decide +kernel
theorem zga_l610_2 : ∀ p ∈ zgh_l610_2, zchk zRUL 3 xBY zIN zCF [] zgl_l610 20000 p.2 p.1 = true := List.forall_mem_cons.mpr ⟨zt_l642, List.forall_mem_cons.mpr ⟨zt_l643, List.forall_mem_cons.mpr ⟨zt_l644, List.forall_mem_cons.mpr ⟨zt_l645, List.forall_mem_cons.mpr ⟨zt_l646, List.forall_mem_cons.mpr ⟨zt_l647, List.forall_mem_cons.mpr ⟨zt_l648, List.forall_mem_cons.mpr ⟨zt_l649, List.forall_mem_cons.mpr ⟨zt_l650, List.forall_mem_cons.mpr ⟨zt_l651, List.forall_mem_cons.mpr ⟨zt_l652, List.forall_mem_cons.mpr ⟨zt_l653, List.forall_mem_cons.mpr ⟨zt_l654, List.forall_mem_cons.mpr ⟨zt_l655, List.forall_mem_cons.mpr ⟨zt_l656, List.forall_mem_cons.mpr ⟨zt_l657, fun _ h => absurd h List.not_mem_nil⟩⟩⟩⟩⟩⟩⟩⟩⟩⟩⟩⟩⟩⟩⟩⟩
theorem zt_l658 : zchk zRUL 3 xBY zIN zCF [] zgl_l610 20000 [(12, 2, 91), (21, 2, 90)] zc_l658 = true := by decide +kernel
theorem zt_l659 : zchk zRUL 3 xBY zIN zCF [] zgl_l610 20000 [(12, 2, 91), (21, 2, 90)] zc_l659 = true := by decide +kernel
theorem zt_l660 : zchk zRUL 3 xBY zIN zCF [] zgl_l610 20000 [(12, 2, 91), (21, 2, 90)] zc_l660 = true := by decide +kernel
theorem zt_l661 : zchk zRUL 3 xBY zIN zCF [] zgl_l610 20000 [(12, 2, 91), (21, 2, 90)] zc_l661 = true := by decide +kernel
theorem zt_l662 : zchk zRUL 3 xBY zIN zCF [] zgl_l610 20000 [(12, 2, 91), (21, 2, 90)] zc_l662 = true := by decide +kernel
theorem zt_l663 : zchk zRUL 3 xBY zIN zCF [] zgl_l610 20000 [(12, 2, 91), (21, 2, 90)] zc_l663 = true := by decide +kernel
theorem zt_l664 : zchk zRUL 3 xBY zIN zCF [] zgl_l610 20000 [(12, 2, 91), (21, 2, 90)] zc_l664 = true := by decide +kernel
theorem zt_l665 : zchk zRUL 3 xBY zIN zCF [] zgl_l610 20000 [(12, 2, 91), (21, 2, 90)] zc_l665 = true := by decide +kernel
theorem zt_l666 : zchk zRUL 3 xBY zIN zCF [] zgl_l610 20000 [(12, 2, 91), (21, 2, 90)] zc_l666 = true := by decide +kernel
theorem zt_l667 : zchk zRUL 3 xBY zIN zCF [] zgl_l610 20000 [(12, 2, 91), (21, 2, 90)] zc_l667 = true := by decide +kernel
theorem zt_l668 : zchk zRUL 3 xBY zIN zCF [] zgl_l610 20000 [(12, 2, 91), (21, 2, 90)] zc_l668 = true := by decide +kernel
theorem zt_l669 : zchk zRUL 3 xBY zIN zCF [] zgl_l610 20000 [(12, 2, 91), (21, 2, 90)] zc_l669 = true := by decide +kernel
theorem zt_l670 : zchk zRUL 3 xBY zIN zCF [] zgl_l610 20000 [(12, 2, 91), (21, 2, 90)] zc_l670 = true := by decide +kernel
theorem zt_l671 : zchk zRUL 3 xBY zIN zCF [] zgl_l610 20000 [(12, 2, 91), (21, 2, 90)] zc_l671 = true := by decide +kernel
theorem zt_l672 : zchk zRUL 3 xBY zIN zCF [] zgl_l610 20000 [(12, 2, 91), (21, 2, 90)] zc_l672 = true := by decide +kernel
theorem zt_l673 : zchk zRUL 3 xBY zIN zCF [] zgl_l610 20000 [(12, 2, 91), (21, 2, 90)] zc_l673 = true := by decide +kernel
theorem zga_l610_3 : ∀ p ∈ zgh_l610_3, zchk zRUL 3 xBY zIN zCF [] zgl_l610 20000 p.2 p.1 = true := List.forall_mem_cons.mpr ⟨zt_l658, List.forall_mem_cons.mpr ⟨zt_l659, List.forall_mem_cons.mpr ⟨zt_l660, List.forall_mem_cons.mpr ⟨zt_l661, List.forall_mem_cons.mpr ⟨zt_l662, List.forall_mem_cons.mpr ⟨zt_l663, List.forall_mem_cons.mpr ⟨zt_l664, List.forall_mem_cons.mpr ⟨zt_l665, List.forall_mem_cons.mpr ⟨zt_l666, List.forall_mem_cons.mpr ⟨zt_l667, List.forall_mem_cons.mpr ⟨zt_l668, List.forall_mem_cons.mpr ⟨zt_l669, List.forall_mem_cons.mpr ⟨zt_l670, List.forall_mem_cons.mpr ⟨zt_l671, List.forall_mem_cons.mpr ⟨zt_l672, List.forall_mem_cons.mpr ⟨zt_l673, fun _ h => absurd h List.not_mem_nil⟩⟩⟩⟩⟩⟩⟩⟩⟩⟩⟩⟩⟩⟩⟩⟩
theorem zt_l674 : zchk zRUL 3 xBY zIN zCF [] zgl_l610 20000 [(12, 2, 91), (21, 2, 90)] zc_l674 = true := by decide +kernel
theorem zt_l675 : zchk zRUL 3 xBY zIN zCF [] zgl_l610 20000 [(12, 2, 91), (21, 2, 90)] zc_l675 = true := by decide +kernel
theorem zt_l676 : zchk zRUL 3 xBY zIN zCF [] zgl_l610 20000 [(12, 2, 91), (21, 2, 90)] zc_l676 = true := by decide +kernel
theorem zt_l677 : zchk zRUL 3 xBY zIN zCF [] zgl_l610 20000 [(12, 2, 91), (21, 2, 90)] zc_l677 = true := by decide +kernel
theorem zt_l678 : zchk zRUL 3 xBY zIN zCF [] zgl_l610 20000 [(12, 2, 91), (21, 2, 90)] zc_l678 = true := by decide +kernel
theorem zt_l679 : zchk zRUL 3 xBY zIN zCF [] zgl_l610 20000 [(12, 2, 91), (21, 2, 90)] zc_l679 = true := by decide +kernel
theorem zt_l680 : zchk zRUL 3 xBY zIN zCF [] zgl_l610 20000 [(12, 2, 91), (21, 2, 90)] zc_l680 = true := by decide +kernel
theorem zt_l681 : zchk zRUL 3 xBY zIN zCF [] zgl_l610 20000 [(12, 2, 91), (21, 2, 90)] zc_l681 = true := by decide +kernel
theorem zt_l682 : zchk zRUL 3 xBY zIN zCF [] zgl_l610 20000 [(12, 2, 91), (21, 2, 90)] zc_l682 = true := by decide +kernel
theorem zt_l683 : zchk zRUL 3 xBY zIN zCF [] zgl_l610 20000 [(12, 2, 91), (21, 2, 90)] zc_l683 = true := by decide +kernel
theorem zt_l684 : zchk zRUL 3 xBY zIN zCF [] zgl_l610 20000 [(12, 2, 91), (21, 2, 90)] zc_l684 = true := by decide +kernel
theorem zt_l685 : zchk zRUL 3 xBY zIN zCF [] zgl_l610 20000 [(12, 2, 91), (21, 2, 90)] zc_l685 = true := by decide +kernel
theorem zt_l686 : zchk zRUL 3 xBY zIN zCF [] zgl_l610 20000 [(12, 2, 91), (21, 2, 90)] zc_l686 = true := by decide +kernel
theorem zt_l687 : zchk zRUL 3 xBY zIN zCF [] zgl_l610 20000 [(12, 2, 91), (21, 2, 90)] zc_l687 = true := by decide +kernel
theorem zt_l688 : zchk zRUL 3 xBY zIN zCF [] zgl_l610 20000 [(12, 2, 91), (21, 2, 90)] zc_l688 = true := by decide +kernel
theorem zt_l689 : zchk zRUL 3 xBY zIN zCF [] zgl_l610 20000 [(12, 2, 91), (21, 2, 90)] zc_l689 = true := by decide +kernel
theorem zga_l610_4 : ∀ p ∈ zgh_l610_4, zchk zRUL 3 xBY zIN zCF [] zgl_l610 20000 p.2 p.1 = true := List.forall_mem_cons.mpr ⟨zt_l674, List.forall_mem_cons.mpr ⟨zt_l675, List.forall_mem_cons.mpr ⟨zt_l676, List.forall_mem_cons.mpr ⟨zt_l677, List.forall_mem_cons.mpr ⟨zt_l678, List.forall_mem_cons.mpr ⟨zt_l679, List.forall_mem_cons.mpr ⟨zt_l680, List.forall_mem_cons.mpr ⟨zt_l681, List.forall_mem_cons.mpr ⟨zt_l682, List.forall_mem_cons.mpr ⟨zt_l683, List.forall_mem_cons.mpr ⟨zt_l684, List.forall_mem_cons.mpr ⟨zt_l685, List.forall_mem_cons.mpr ⟨zt_l686, List.forall_mem_cons.mpr ⟨zt_l687, List.forall_mem_cons.mpr ⟨zt_l688, List.forall_mem_cons.mpr ⟨zt_l689, fun _ h => absurd h List.not_mem_nil⟩⟩⟩⟩⟩⟩⟩⟩⟩⟩⟩⟩⟩⟩⟩⟩
theorem zt_l690 : zchk zRUL 3 xBY zIN zCF [] zgl_l610 20000 [(12, 2, 91), (21, 2, 90)] zc_l690 = true := by decide +kernel
theorem zt_l691 : zchk zRUL 3 xBY zIN zCF [] zgl_l610 20000 [(12, 2, 91), (21, 2, 90)] zc_l691 = true := by decide +kernel
theorem zt_l692 : zchk zRUL 3 xBY zIN zCF [] zgl_l610 20000 [(12, 2, 91), (21, 2, 90)] zc_l692 = true := by decide +kernel
theorem zt_l693 : zchk zRUL 3 xBY zIN zCF [] zgl_l610 20000 [(12, 2, 91), (21, 2, 90)] zc_l693 = true := by decide +kernel
theorem zt_l694 : zchk zRUL 3 xBY zIN zCF [] zgl_l610 20000 [(12, 2, 91), (21, 2, 90)] zc_l694 = true := by decide +kernel
theorem zt_l695 : zchk zRUL 3 xBY zIN zCF [] zgl_l610 20000 [(12, 2, 91), (21, 2, 90)] zc_l695 = true := by decide +kernel
theorem zt_l696 : zchk zRUL 3 xBY zIN zCF [] zgl_l610 20000 [(12, 2, 91), (21, 2, 90)] zc_l696 = true := by decide +kernel
theorem zt_l697 : zchk zRUL 3 xBY zIN zCF [] zgl_l610 20000 [(12, 2, 91), (21, 2, 90)] zc_l697 = true := by decide +kernel
theorem zt_l698 : zchk zRUL 3 xBY zIN zCF [] zgl_l610 20000 [(12, 2, 91), (21, 2, 90)] zc_l698 = true := by decide +kernel
theorem zt_l699 : zchk zRUL 3 xBY zIN zCF [] zgl_l610 20000 [(12, 2, 91), (21, 2, 90)] zc_l699 = true := by decide +kernel
theorem zt_l700 : zchk zRUL 3 xBY zIN zCF [] zgl_l610 20000 [(12, 2, 91), (21, 2, 90)] zc_l700 = true := by decide +kernel
theorem zt_l701 : zchk zRUL 3 xBY zIN zCF [] zgl_l610 20000 [(12, 2, 91), (21, 2, 90)] zc_l701 = true := by decide +kernel
theorem zt_l702 : zchk zRUL 3 xBY zIN zCF [] zgl_l610 20000 [(12, 2, 91), (21, 2, 90)] zc_l702 = true := by decide +kernel
theorem zt_l703 : zchk zRUL 3 xBY zIN zCF [] zgl_l610 20000 [(12, 2, 91), (21, 2, 90)] zc_l703 = true := by decide +kernel
theorem zt_l704 : zchk zRUL 3 xBY zIN zCF [] zgl_l610 20000 [(12, 2, 91), (21, 2, 90)] zc_l704 = true := by decide +kernel
theorem zt_l705 : zchk zRUL 3 xBY zIN zCF [] zgl_l610 20000 [(12, 2, 91), (21, 2, 90)] zc_l705 = true := by decide +kernel
theorem zga_l610_5 : ∀ p ∈ zgh_l610_5, zchk zRUL 3 xBY zIN zCF [] zgl_l610 20000 p.2 p.1 = true := List.forall_mem_cons.mpr ⟨zt_l690, List.forall_mem_cons.mpr ⟨zt_l691, List.forall_mem_cons.mpr ⟨zt_l692, List.forall_mem_cons.mpr ⟨zt_l693, List.forall_mem_cons.mpr ⟨zt_l694, List.forall_mem_cons.mpr ⟨zt_l695, List.forall_mem_cons.mpr ⟨zt_l696, List.forall_mem_cons.mpr ⟨zt_l697, List.forall_mem_cons.mpr ⟨zt_l698, List.forall_mem_cons.mpr ⟨zt_l699, List.forall_mem_cons.mpr ⟨zt_l700, List.forall_mem_cons.mpr ⟨zt_l701, List.forall_mem_cons.mpr ⟨zt_l702, List.forall_mem_cons.mpr ⟨zt_l703, List.forall_mem_cons.mpr ⟨zt_l704, List.forall_mem_cons.mpr ⟨zt_l705, fun _ h => absurd h List.not_mem_nil⟩⟩⟩⟩⟩⟩⟩⟩⟩⟩⟩⟩⟩⟩⟩⟩
theorem zt_l706 : zchk zRUL 3 xBY zIN zCF [] zgl_l610 20000 [(12, 2, 91), (21, 2, 90)] zc_l706 = true := by decide +kernel
theorem zt_l707 : zchk zRUL 3 xBY zIN zCF [] zgl_l610 20000 [(12, 2, 91), (21, 2, 90)] zc_l707 = true := by decide +kernel
theorem zt_l708 : zchk zRUL 3 xBY zIN zCF [] zgl_l610 20000 [(12, 2, 91), (21, 2, 90)] zc_l708 = true := by decide +kernel
theorem zt_l709 : zchk zRUL 3 xBY zIN zCF [] zgl_l610 20000 [(12, 2, 91), (21, 2, 90)] zc_l709 = true := by decide +kernel
theorem zt_l710 : zchk zRUL 3 xBY zIN zCF [] zgl_l610 20000 [(12, 2, 91), (21, 2, 90)] zc_l710 = true := by decide +kernel
theorem zga_l610_6 : ∀ p ∈ zgh_l610_6, zchk zRUL 3 xBY zIN zCF [] zgl_l610 20000 p.2 p.1 = true := List.forall_mem_cons.mpr ⟨zt_l706, List.forall_mem_cons.mpr ⟨zt_l707, List.forall_mem_cons.mpr ⟨zt_l708, List.forall_mem_cons.mpr ⟨zt_l709, List.forall_mem_cons.mpr ⟨zt_l710, fun _ h => absurd h List.not_mem_nil⟩⟩⟩⟩⟩
theorem zk_l610 {g : yG} {J : zJp} (hy : zHy g J) : zCok g zCF J zc_l610 := zgp2 hy (CT := []) (fun _ h => absurd h List.not_mem_nil) (fuel := 20000) (L := zgh_l610_0 ++ (zgh_l610_1 ++ (zgh_l610_2 ++ (zgh_l610_3 ++ (zgh_l610_4 ++ (zgh_l610_5 ++ (zgh_l610_6))))))) zge_l610 (List.forall_mem_append.mpr ⟨zga_l610_0, List.forall_mem_append.mpr ⟨zga_l610_1, List.forall_mem_append.mpr ⟨zga_l610_2, List.forall_mem_append.mpr ⟨zga_l610_3, List.forall_mem_append.mpr ⟨zga_l610_4, List.forall_mem_append.mpr ⟨zga_l610_5, zga_l610_6⟩⟩⟩⟩⟩⟩) (zc_l610, [(12, 3, 92), (12, 3, 93), (5, 0, 0), (5, 1, 0)]) (List.mem_append_left _ List.mem_cons_self)
/-- GridLawsModel.later, row 0 -/
def zc_l711 : zC := (287, 0, 1, [(3, 88, .ofNat 0), (1, 0, .ofNat 0)], ([(88, (0, 0, .ofNat 28), (1, 1, .ofNat 0)), (1049, (1, 0, .ofNat 0), (0, 0, .ofNat 0))], []), [(.ofNat 200, .ofNat 299, 0, .ofNat 0), (.ofNat 0, .ofNat 100000, 0, .ofNat 0)], [], [(some (0, 0, .negSucc 0), ([], []), [(.ofNat 200, .ofNat 299, 0, .ofNat 0), (.ofNat 0, .ofNat 100000, 0, .ofNat 0)])], [(false, (0, 0, .ofNat 1))])
/-- GridLawsModel.later, row 5 -/
def zc_l712 : zC := (287, 5, 1, [(3, 88, .ofNat 0), (0, 0, .ofNat 200)], ([(88, (0, 0, .ofNat 28), (1, 0, .ofNat 0)), (1049, (0, 0, .ofNat 200), (0, 0, .ofNat 0))], []), [(.ofNat 0, .ofNat 100000, 0, .ofNat 0)], [], [(some (0, 0, .negSucc 0), ([], []), [(.ofNat 0, .ofNat 100000, 0, .ofNat 0)])], [(false, (0, 0, .ofNat 0))])
/-- GridLawsModel.later, row 5 -/
def zc_l713 : zC := (287, 5, 1, [(3, 88, .ofNat 0), (0, 0, .ofNat 201)], ([(88, (0, 0, .ofNat 28), (1, 0, .ofNat 0)), (1049, (0, 0, .ofNat 201), (0, 0, .ofNat 0))], []), [(.ofNat 0, .ofNat 100000, 0, .ofNat 0)], [], [(some (0, 0, .negSucc 0), ([], []), [(.ofNat 0, .ofNat 100000, 0, .ofNat 0)])], [(false, (0, 0, .ofNat 0))])
/-- GridLawsModel.later, row 5 -/
def zc_l714 : zC := (287, 5, 1, [(3, 88, .ofNat 0), (0, 0, .ofNat 202)], ([(88, (0, 0, .ofNat 28), (1, 0, .ofNat 0)), (1049, (0, 0, .ofNat 202), (0, 0, .ofNat 0))], []), [(.ofNat 0, .ofNat 100000, 0, .ofNat 0)], [], [(some (0, 0, .negSucc 0), ([], []), [(.ofNat 0, .ofNat 100000, 0, .ofNat 0)])], [(false, (0, 0, .ofNat 0))])
/-- GridLawsModel.later, row 5 -/
def zc_l715 : zC := (287, 5, 1, [(3, 88, .ofNat 0), (0, 0, .ofNat 203)], ([(88, (0, 0, .ofNat 28), (1, 0, .ofNat 0)), (1049, (0, 0, .ofNat 203), (0, 0, .ofNat 0))], []), [(.ofNat 0, .ofNat 100000, 0, .ofNat 0)], [], [(some (0, 0, .negSucc 0), ([], []), [(.ofNat 0, .ofNat 100000, 0, .ofNat 0)])], [(false, (0, 0, .ofNat 0))])
/-- GridLawsModel.later, row 5 -/
def zc_l716 : zC := (287, 5, 1, [(3, 88, .ofNat 0), (0, 0, .ofNat 204)], ([(88, (0, 0, .ofNat 28), (1, 0, .ofNat 0)), (1049, (0, 0, .ofNat 204), (0, 0, .ofNat 0))], []), [(.ofNat 0, .ofNat 100000, 0, .ofNat 0)], [], [(some (0, 0, .negSucc 0), ([], []), [(.ofNat 0, .ofNat 100000, 0, .ofNat 0)])], [(false, (0, 0, .ofNat 0))])
/-- GridLawsModel.later, row 5 -/
def zc_l717 : zC := (287, 5, 1, [(3, 88, .ofNat 0), (0, 0, .ofNat 205)], ([(88, (0, 0, .ofNat 28), (1, 0, .ofNat 0)), (1049, (0, 0, .ofNat 205), (0, 0, .ofNat 0))], []), [(.ofNat 0, .ofNat 100000, 0, .ofNat 0)], [], [(some (0, 0, .negSucc 0), ([], []), [(.ofNat 0, .ofNat 100000, 0, .ofNat 0)])], [(false, (0, 0, .ofNat 0))])
/-- GridLawsModel.later, row 5 -/
def zc_l718 : zC := (287, 5, 1, [(3, 88, .ofNat 0), (0, 0, .ofNat 206)], ([(88, (0, 0, .ofNat 28), (1, 0, .ofNat 0)), (1049, (0, 0, .ofNat 206), (0, 0, .ofNat 0))], []), [(.ofNat 0, .ofNat 100000, 0, .ofNat 0)], [], [(some (0, 0, .negSucc 0), ([], []), [(.ofNat 0, .ofNat 100000, 0, .ofNat 0)])], [(false, (0, 0, .ofNat 0))])
/-- GridLawsModel.later, row 5 -/
def zc_l719 : zC := (287, 5, 1, [(3, 88, .ofNat 0), (0, 0, .ofNat 207)], ([(88, (0, 0, .ofNat 28), (1, 0, .ofNat 0)), (1049, (0, 0, .ofNat 207), (0, 0, .ofNat 0))], []), [(.ofNat 0, .ofNat 100000, 0, .ofNat 0)], [], [(some (0, 0, .negSucc 0), ([], []), [(.ofNat 0, .ofNat 100000, 0, .ofNat 0)])], [(false, (0, 0, .ofNat 0))])
/-- GridLawsModel.later, row 5 -/
def zc_l720 : zC := (287, 5, 1, [(3, 88, .ofNat 0), (0, 0, .ofNat 208)], ([(88, (0, 0, .ofNat 28), (1, 0, .ofNat 0)), (1049, (0, 0, .ofNat 208), (0, 0, .ofNat 0))], []), [(.ofNat 0, .ofNat 100000, 0, .ofNat 0)], [], [(some (0, 0, .negSucc 0), ([], []), [(.ofNat 0, .ofNat 100000, 0, .ofNat 0)])], [(false, (0, 0, .ofNat 0))])
/-- GridLawsModel.later, row 5 -/
def zc_l721 : zC := (287, 5, 1, [(3, 88, .ofNat 0), (0, 0, .ofNat 209)], ([(88, (0, 0, .ofNat 28), (1, 0, .ofNat 0)), (1049, (0, 0, .ofNat 209), (0, 0, .ofNat 0))], []), [(.ofNat 0, .ofNat 100000, 0, .ofNat 0)], [], [(some (0, 0, .negSucc 0), ([], []), [(.ofNat 0, .ofNat 100000, 0, .ofNat 0)])], [(false, (0, 0, .ofNat 0))])
/-- GridLawsModel.later, row 5 -/
def zc_l722 : zC := (287, 5, 1, [(3, 88, .ofNat 0), (0, 0, .ofNat 210)], ([(88, (0, 0, .ofNat 28), (1, 0, .ofNat 0)), (1049, (0, 0, .ofNat 210), (0, 0, .ofNat 0))], []), [(.ofNat 0, .ofNat 100000, 0, .ofNat 0)], [], [(some (0, 0, .negSucc 0), ([], []), [(.ofNat 0, .ofNat 100000, 0, .ofNat 0)])], [(false, (0, 0, .ofNat 0))])
/-- GridLawsModel.later, row 5 -/
def zc_l723 : zC := (287, 5, 1, [(3, 88, .ofNat 0), (0, 0, .ofNat 211)], ([(88, (0, 0, .ofNat 28), (1, 0, .ofNat 0)), (1049, (0, 0, .ofNat 211), (0, 0, .ofNat 0))], []), [(.ofNat 0, .ofNat 100000, 0, .ofNat 0)], [], [(some (0, 0, .negSucc 0), ([], []), [(.ofNat 0, .ofNat 100000, 0, .ofNat 0)])], [(false, (0, 0, .ofNat 0))])
/-- GridLawsModel.later, row 5 -/
def zc_l724 : zC := (287, 5, 1, [(3, 88, .ofNat 0), (0, 0, .ofNat 212)], ([(88, (0, 0, .ofNat 28), (1, 0, .ofNat 0)), (1049, (0, 0, .ofNat 212), (0, 0, .ofNat 0))], []), [(.ofNat 0, .ofNat 100000, 0, .ofNat 0)], [], [(some (0, 0, .negSucc 0), ([], []), [(.ofNat 0, .ofNat 100000, 0, .ofNat 0)])], [(false, (0, 0, .ofNat 0))])
/-- GridLawsModel.later, row 5 -/
def zc_l725 : zC := (287, 5, 1, [(3, 88, .ofNat 0), (0, 0, .ofNat 213)], ([(88, (0, 0, .ofNat 28), (1, 0, .ofNat 0)), (1049, (0, 0, .ofNat 213), (0, 0, .ofNat 0))], []), [(.ofNat 0, .ofNat 100000, 0, .ofNat 0)], [], [(some (0, 0, .negSucc 0), ([], []), [(.ofNat 0, .ofNat 100000, 0, .ofNat 0)])], [(false, (0, 0, .ofNat 0))])
/-- GridLawsModel.later, row 5 -/
def zc_l726 : zC := (287, 5, 1, [(3, 88, .ofNat 0), (0, 0, .ofNat 214)], ([(88, (0, 0, .ofNat 28), (1, 0, .ofNat 0)), (1049, (0, 0, .ofNat 214), (0, 0, .ofNat 0))], []), [(.ofNat 0, .ofNat 100000, 0, .ofNat 0)], [], [(some (0, 0, .negSucc 0), ([], []), [(.ofNat 0, .ofNat 100000, 0, .ofNat 0)])], [(false, (0, 0, .ofNat 0))])
/-- GridLawsModel.later, row 5 -/
def zc_l727 : zC := (287, 5, 1, [(3, 88, .ofNat 0), (0, 0, .ofNat 215)], ([(88, (0, 0, .ofNat 28), (1, 0, .ofNat 0)), (1049, (0, 0, .ofNat 215), (0, 0, .ofNat 0))], []), [(.ofNat 0, .ofNat 100000, 0, .ofNat 0)], [], [(some (0, 0, .negSucc 0), ([], []), [(.ofNat 0, .ofNat 100000, 0, .ofNat 0)])], [(false, (0, 0, .ofNat 0))])
/-- GridLawsModel.later, row 5 -/
def zc_l728 : zC := (287, 5, 1, [(3, 88, .ofNat 0), (0, 0, .ofNat 216)], ([(88, (0, 0, .ofNat 28), (1, 0, .ofNat 0)), (1049, (0, 0, .ofNat 216), (0, 0, .ofNat 0))], []), [(.ofNat 0, .ofNat 100000, 0, .ofNat 0)], [], [(some (0, 0, .negSucc 0), ([], []), [(.ofNat 0, .ofNat 100000, 0, .ofNat 0)])], [(false, (0, 0, .ofNat 0))])
/-- GridLawsModel.later, row 5 -/
def zc_l729 : zC := (287, 5, 1, [(3, 88, .ofNat 0), (0, 0, .ofNat 217)], ([(88, (0, 0, .ofNat 28), (1, 0, .ofNat 0)), (1049, (0, 0, .ofNat 217), (0, 0, .ofNat 0))], []), [(.ofNat 0, .ofNat 100000, 0, .ofNat 0)], [], [(some (0, 0, .negSucc 0), ([], []), [(.ofNat 0, .ofNat 100000, 0, .ofNat 0)])], [(false, (0, 0, .ofNat 0))])
/-- GridLawsModel.later, row 5 -/
def zc_l730 : zC := (287, 5, 1, [(3, 88, .ofNat 0), (0, 0, .ofNat 218)], ([(88, (0, 0, .ofNat 28), (1, 0, .ofNat 0)), (1049, (0, 0, .ofNat 218), (0, 0, .ofNat 0))], []), [(.ofNat 0, .ofNat 100000, 0, .ofNat 0)], [], [(some (0, 0, .negSucc 0), ([], []), [(.ofNat 0, .ofNat 100000, 0, .ofNat 0)])], [(false, (0, 0, .ofNat 0))])
/-- GridLawsModel.later, row 5 -/
def zc_l731 : zC := (287, 5, 1, [(3, 88, .ofNat 0), (0, 0, .ofNat 219)], ([(88, (0, 0, .ofNat 28), (1, 0, .ofNat 0)), (1049, (0, 0, .ofNat 219), (0, 0, .ofNat 0))], []), [(.ofNat 0, .ofNat 100000, 0, .ofNat 0)], [], [(some (0, 0, .negSucc 0), ([], []), [(.ofNat 0, .ofNat 100000, 0, .ofNat 0)])], [(false, (0, 0, .ofNat 0))])
/-- GridLawsModel.later, row 5 -/
def zc_l732 : zC := (287, 5, 1, [(3, 88, .ofNat 0), (0, 0, .ofNat 220)], ([(88, (0, 0, .ofNat 28), (1, 0, .ofNat 0)), (1049, (0, 0, .ofNat 220), (0, 0, .ofNat 0))], []), [(.ofNat 0, .ofNat 100000, 0, .ofNat 0)], [], [(some (0, 0, .negSucc 0), ([], []), [(.ofNat 0, .ofNat 100000, 0, .ofNat 0)])], [(false, (0, 0, .ofNat 0))])
/-- GridLawsModel.later, row 5 -/
def zc_l733 : zC := (287, 5, 1, [(3, 88, .ofNat 0), (0, 0, .ofNat 221)], ([(88, (0, 0, .ofNat 28), (1, 0, .ofNat 0)), (1049, (0, 0, .ofNat 221), (0, 0, .ofNat 0))], []), [(.ofNat 0, .ofNat 100000, 0, .ofNat 0)], [], [(some (0, 0, .negSucc 0), ([], []), [(.ofNat 0, .ofNat 100000, 0, .ofNat 0)])], [(false, (0, 0, .ofNat 0))])
/-- GridLawsModel.later, row 5 -/
def zc_l734 : zC := (287, 5, 1, [(3, 88, .ofNat 0), (0, 0, .ofNat 222)], ([(88, (0, 0, .ofNat 28), (1, 0, .ofNat 0)), (1049, (0, 0, .ofNat 222), (0, 0, .ofNat 0))], []), [(.ofNat 0, .ofNat 100000, 0, .ofNat 0)], [], [(some (0, 0, .negSucc 0), ([], []), [(.ofNat 0, .ofNat 100000, 0, .ofNat 0)])], [(false, (0, 0, .ofNat 0))])
/-- GridLawsModel.later, row 5 -/
def zc_l735 : zC := (287, 5, 1, [(3, 88, .ofNat 0), (0, 0, .ofNat 223)], ([(88, (0, 0, .ofNat 28), (1, 0, .ofNat 0)), (1049, (0, 0, .ofNat 223), (0, 0, .ofNat 0))], []), [(.ofNat 0, .ofNat 100000, 0, .ofNat 0)], [], [(some (0, 0, .negSucc 0), ([], []), [(.ofNat 0, .ofNat 100000, 0, .ofNat 0)])], [(false, (0, 0, .ofNat 0))])
/-- GridLawsModel.later, row 5 -/
def zc_l736 : zC := (287, 5, 1, [(3, 88, .ofNat 0), (0, 0, .ofNat 224)], ([(88, (0, 0, .ofNat 28), (1, 0, .ofNat 0)), (1049, (0, 0, .ofNat 224), (0, 0, .ofNat 0))], []), [(.ofNat 0, .ofNat 100000, 0, .ofNat 0)], [], [(some (0, 0, .negSucc 0), ([], []), [(.ofNat 0, .ofNat 100000, 0, .ofNat 0)])], [(false, (0, 0, .ofNat 0))])
/-- GridLawsModel.later, row 5 -/
def zc_l737 : zC := (287, 5, 1, [(3, 88, .ofNat 0), (0, 0, .ofNat 225)], ([(88, (0, 0, .ofNat 28), (1, 0, .ofNat 0)), (1049, (0, 0, .ofNat 225), (0, 0, .ofNat 0))], []), [(.ofNat 0, .ofNat 100000, 0, .ofNat 0)], [], [(some (0, 0, .negSucc 0), ([], []), [(.ofNat 0, .ofNat 100000, 0, .ofNat 0)])], [(false, (0, 0, .ofNat 0))])
/-- GridLawsModel.later, row 5 -/
def zc_l738 : zC := (287, 5, 1, [(3, 88, .ofNat 0), (0, 0, .ofNat 226)], ([(88, (0, 0, .ofNat 28), (1, 0, .ofNat 0)), (1049, (0, 0, .ofNat 226), (0, 0, .ofNat 0))], []), [(.ofNat 0, .ofNat 100000, 0, .ofNat 0)], [], [(some (0, 0, .negSucc 0), ([], []), [(.ofNat 0, .ofNat 100000, 0, .ofNat 0)])], [(false, (0, 0, .ofNat 0))])
/-- GridLawsModel.later, row 5 -/
def zc_l739 : zC := (287, 5, 1, [(3, 88, .ofNat 0), (0, 0, .ofNat 227)], ([(88, (0, 0, .ofNat 28), (1, 0, .ofNat 0)), (1049, (0, 0, .ofNat 227), (0, 0, .ofNat 0))], []), [(.ofNat 0, .ofNat 100000, 0, .ofNat 0)], [], [(some (0, 0, .negSucc 0), ([], []), [(.ofNat 0, .ofNat 100000, 0, .ofNat 0)])], [(false, (0, 0, .ofNat 0))])
/-- GridLawsModel.later, row 5 -/
def zc_l740 : zC := (287, 5, 1, [(3, 88, .ofNat 0), (0, 0, .ofNat 228)], ([(88, (0, 0, .ofNat 28), (1, 0, .ofNat 0)), (1049, (0, 0, .ofNat 228), (0, 0, .ofNat 0))], []), [(.ofNat 0, .ofNat 100000, 0, .ofNat 0)], [], [(some (0, 0, .negSucc 0), ([], []), [(.ofNat 0, .ofNat 100000, 0, .ofNat 0)])], [(false, (0, 0, .ofNat 0))])
/-- GridLawsModel.later, row 5 -/
def zc_l741 : zC := (287, 5, 1, [(3, 88, .ofNat 0), (0, 0, .ofNat 229)], ([(88, (0, 0, .ofNat 28), (1, 0, .ofNat 0)), (1049, (0, 0, .ofNat 229), (0, 0, .ofNat 0))], []), [(.ofNat 0, .ofNat 100000, 0, .ofNat 0)], [], [(some (0, 0, .negSucc 0), ([], []), [(.ofNat 0, .ofNat 100000, 0, .ofNat 0)])], [(false, (0, 0, .ofNat 0))])
/-- GridLawsModel.later, row 5 -/
def zc_l742 : zC := (287, 5, 1, [(3, 88, .ofNat 0), (0, 0, .ofNat 230)], ([(88, (0, 0, .ofNat 28), (1, 0, .ofNat 0)), (1049, (0, 0, .ofNat 230), (0, 0, .ofNat 0))], []), [(.ofNat 0, .ofNat 100000, 0, .ofNat 0)], [], [(some (0, 0, .negSucc 0), ([], []), [(.ofNat 0, .ofNat 100000, 0, .ofNat 0)])], [(false, (0, 0, .ofNat 0))])
/-- GridLawsModel.later, row 5 -/
def zc_l743 : zC := (287, 5, 1, [(3, 88, .ofNat 0), (0, 0, .ofNat 231)], ([(88, (0, 0, .ofNat 28), (1, 0, .ofNat 0)), (1049, (0, 0, .ofNat 231), (0, 0, .ofNat 0))], []), [(.ofNat 0, .ofNat 100000, 0, .ofNat 0)], [], [(some (0, 0, .negSucc 0), ([], []), [(.ofNat 0, .ofNat 100000, 0, .ofNat 0)])], [(false, (0, 0, .ofNat 0))])
/-- GridLawsModel.later, row 5 -/
def zc_l744 : zC := (287, 5, 1, [(3, 88, .ofNat 0), (0, 0, .ofNat 232)], ([(88, (0, 0, .ofNat 28), (1, 0, .ofNat 0)), (1049, (0, 0, .ofNat 232), (0, 0, .ofNat 0))], []), [(.ofNat 0, .ofNat 100000, 0, .ofNat 0)], [], [(some (0, 0, .negSucc 0), ([], []), [(.ofNat 0, .ofNat 100000, 0, .ofNat 0)])], [(false, (0, 0, .ofNat 0))])
/-- GridLawsModel.later, row 5 -/
def zc_l745 : zC := (287, 5, 1, [(3, 88, .ofNat 0), (0, 0, .ofNat 233)], ([(88, (0, 0, .ofNat 28), (1, 0, .ofNat 0)), (1049, (0, 0, .ofNat 233), (0, 0, .ofNat 0))], []), [(.ofNat 0, .ofNat 100000, 0, .ofNat 0)], [], [(some (0, 0, .negSucc 0), ([], []), [(.ofNat 0, .ofNat 100000, 0, .ofNat 0)])], [(false, (0, 0, .ofNat 0))])
/-- GridLawsModel.later, row 5 -/
def zc_l746 : zC := (287, 5, 1, [(3, 88, .ofNat 0), (0, 0, .ofNat 234)], ([(88, (0, 0, .ofNat 28), (1, 0, .ofNat 0)), (1049, (0, 0, .ofNat 234), (0, 0, .ofNat 0))], []), [(.ofNat 0, .ofNat 100000, 0, .ofNat 0)], [], [(some (0, 0, .negSucc 0), ([], []), [(.ofNat 0, .ofNat 100000, 0, .ofNat 0)])], [(false, (0, 0, .ofNat 0))])
/-- GridLawsModel.later, row 5 -/
def zc_l747 : zC := (287, 5, 1, [(3, 88, .ofNat 0), (0, 0, .ofNat 235)], ([(88, (0, 0, .ofNat 28), (1, 0, .ofNat 0)), (1049, (0, 0, .ofNat 235), (0, 0, .ofNat 0))], []), [(.ofNat 0, .ofNat 100000, 0, .ofNat 0)], [], [(some (0, 0, .negSucc 0), ([], []), [(.ofNat 0, .ofNat 100000, 0, .ofNat 0)])], [(false, (0, 0, .ofNat 0))])
/-- GridLawsModel.later, row 5 -/
def zc_l748 : zC := (287, 5, 1, [(3, 88, .ofNat 0), (0, 0, .ofNat 236)], ([(88, (0, 0, .ofNat 28), (1, 0, .ofNat 0)), (1049, (0, 0, .ofNat 236), (0, 0, .ofNat 0))], []), [(.ofNat 0, .ofNat 100000, 0, .ofNat 0)], [], [(some (0, 0, .negSucc 0), ([], []), [(.ofNat 0, .ofNat 100000, 0, .ofNat 0)])], [(false, (0, 0, .ofNat 0))])
/-- GridLawsModel.later, row 5 -/
def zc_l749 : zC := (287, 5, 1, [(3, 88, .ofNat 0), (0, 0, .ofNat 237)], ([(88, (0, 0, .ofNat 28), (1, 0, .ofNat 0)), (1049, (0, 0, .ofNat 237), (0, 0, .ofNat 0))], []), [(.ofNat 0, .ofNat 100000, 0, .ofNat 0)], [], [(some (0, 0, .negSucc 0), ([], []), [(.ofNat 0, .ofNat 100000, 0, .ofNat 0)])], [(false, (0, 0, .ofNat 0))])
/-- GridLawsModel.later, row 5 -/
def zc_l750 : zC := (287, 5, 1, [(3, 88, .ofNat 0), (0, 0, .ofNat 238)], ([(88, (0, 0, .ofNat 28), (1, 0, .ofNat 0)), (1049, (0, 0, .ofNat 238), (0, 0, .ofNat 0))], []), [(.ofNat 0, .ofNat 100000, 0, .ofNat 0)], [], [(some (0, 0, .negSucc 0), ([], []), [(.ofNat 0, .ofNat 100000, 0, .ofNat 0)])], [(false, (0, 0, .ofNat 0))])
/-- GridLawsModel.later, row 5 -/
def zc_l751 : zC := (287, 5, 1, [(3, 88, .ofNat 0), (0, 0, .ofNat 239)], ([(88, (0, 0, .ofNat 28), (1, 0, .ofNat 0)), (1049, (0, 0, .ofNat 239), (0, 0, .ofNat 0))], []), [(.ofNat 0, .ofNat 100000, 0, .ofNat 0)], [], [(some (0, 0, .negSucc 0), ([], []), [(.ofNat 0, .ofNat 100000, 0, .ofNat 0)])], [(false, (0, 0, .ofNat 0))])
/-- GridLawsModel.later, row 5 -/
def zc_l752 : zC := (287, 5, 1, [(3, 88, .ofNat 0), (0, 0, .ofNat 240)], ([(88, (0, 0, .ofNat 28), (1, 0, .ofNat 0)), (1049, (0, 0, .ofNat 240), (0, 0, .ofNat 0))], []), [(.ofNat 0, .ofNat 100000, 0, .ofNat 0)], [], [(some (0, 0, .negSucc 0), ([], []), [(.ofNat 0, .ofNat 100000, 0, .ofNat 0)])], [(false, (0, 0, .ofNat 0))])
/-- GridLawsModel.later, row 5 -/
def zc_l753 : zC := (287, 5, 1, [(3, 88, .ofNat 0), (0, 0, .ofNat 241)], ([(88, (0, 0, .ofNat 28), (1, 0, .ofNat 0)), (1049, (0, 0, .ofNat 241), (0, 0, .ofNat 0))], []), [(.ofNat 0, .ofNat 100000, 0, .ofNat 0)], [], [(some (0, 0, .negSucc 0), ([], []), [(.ofNat 0, .ofNat 100000, 0, .ofNat 0)])], [(false, (0, 0, .ofNat 0))])
/-- GridLawsModel.later, row 5 -/
def zc_l754 : zC := (287, 5, 1, [(3, 88, .ofNat 0), (0, 0, .ofNat 242)], ([(88, (0, 0, .ofNat 28), (1, 0, .ofNat 0)), (1049, (0, 0, .ofNat 242), (0, 0, .ofNat 0))], []), [(.ofNat 0, .ofNat 100000, 0, .ofNat 0)], [], [(some (0, 0, .negSucc 0), ([], []), [(.ofNat 0, .ofNat 100000, 0, .ofNat 0)])], [(false, (0, 0, .ofNat 0))])
/-- GridLawsModel.later, row 5 -/
def zc_l755 : zC := (287, 5, 1, [(3, 88, .ofNat 0), (0, 0, .ofNat 243)], ([(88, (0, 0, .ofNat 28), (1, 0, .ofNat 0)), (1049, (0, 0, .ofNat 243), (0, 0, .ofNat 0))], []), [(.ofNat 0, .ofNat 100000, 0, .ofNat 0)], [], [(some (0, 0, .negSucc 0), ([], []), [(.ofNat 0, .ofNat 100000, 0, .ofNat 0)])], [(false, (0, 0, .ofNat 0))])
/-- GridLawsModel.later, row 5 -/
def zc_l756 : zC := (287, 5, 1, [(3, 88, .ofNat 0), (0, 0, .ofNat 244)], ([(88, (0, 0, .ofNat 28), (1, 0, .ofNat 0)), (1049, (0, 0, .ofNat 244), (0, 0, .ofNat 0))], []), [(.ofNat 0, .ofNat 100000, 0, .ofNat 0)], [], [(some (0, 0, .negSucc 0), ([], []), [(.ofNat 0, .ofNat 100000, 0, .ofNat 0)])], [(false, (0, 0, .ofNat 0))])
/-- GridLawsModel.later, row 5 -/
def zc_l757 : zC := (287, 5, 1, [(3, 88, .ofNat 0), (0, 0, .ofNat 245)], ([(88, (0, 0, .ofNat 28), (1, 0, .ofNat 0)), (1049, (0, 0, .ofNat 245), (0, 0, .ofNat 0))], []), [(.ofNat 0, .ofNat 100000, 0, .ofNat 0)], [], [(some (0, 0, .negSucc 0), ([], []), [(.ofNat 0, .ofNat 100000, 0, .ofNat 0)])], [(false, (0, 0, .ofNat 0))])
/-- GridLawsModel.later, row 5 -/
def zc_l758 : zC := (287, 5, 1, [(3, 88, .ofNat 0), (0, 0, .ofNat 246)], ([(88, (0, 0, .ofNat 28), (1, 0, .ofNat 0)), (1049, (0, 0, .ofNat 246), (0, 0, .ofNat 0))], []), [(.ofNat 0, .ofNat 100000, 0, .ofNat 0)], [], [(some (0, 0, .negSucc 0), ([], []), [(.ofNat 0, .ofNat 100000, 0, .ofNat 0)])], [(false, (0, 0, .ofNat 0))])
/-- GridLawsModel.later, row 5 -/
def zc_l759 : zC := (287, 5, 1, [(3, 88, .ofNat 0), (0, 0, .ofNat 247)], ([(88, (0, 0, .ofNat 28), (1, 0, .ofNat 0)), (1049, (0, 0, .ofNat 247), (0, 0, .ofNat 0))], []), [(.ofNat 0, .ofNat 100000, 0, .ofNat 0)], [], [(some (0, 0, .negSucc 0), ([], []), [(.ofNat 0, .ofNat 100000, 0, .ofNat 0)])], [(false, (0, 0, .ofNat 0))])
/-- GridLawsModel.later, row 5 -/
def zc_l760 : zC := (287, 5, 1, [(3, 88, .ofNat 0), (0, 0, .ofNat 248)], ([(88, (0, 0, .ofNat 28), (1, 0, .ofNat 0)), (1049, (0, 0, .ofNat 248), (0, 0, .ofNat 0))], []), [(.ofNat 0, .ofNat 100000, 0, .ofNat 0)], [], [(some (0, 0, .negSucc 0), ([], []), [(.ofNat 0, .ofNat 100000, 0, .ofNat 0)])], [(false, (0, 0, .ofNat 0))])
/-- GridLawsModel.later, row 5 -/
def zc_l761 : zC := (287, 5, 1, [(3, 88, .ofNat 0), (0, 0, .ofNat 249)], ([(88, (0, 0, .ofNat 28), (1, 0, .ofNat 0)), (1049, (0, 0, .ofNat 249), (0, 0, .ofNat 0))], []), [(.ofNat 0, .ofNat 100000, 0, .ofNat 0)], [], [(some (0, 0, .negSucc 0), ([], []), [(.ofNat 0, .ofNat 100000, 0, .ofNat 0)])], [(false, (0, 0, .ofNat 0))])
/-- GridLawsModel.later, row 5 -/
def zc_l762 : zC := (287, 5, 1, [(3, 88, .ofNat 0), (0, 0, .ofNat 250)], ([(88, (0, 0, .ofNat 28), (1, 0, .ofNat 0)), (1049, (0, 0, .ofNat 250), (0, 0, .ofNat 0))], []), [(.ofNat 0, .ofNat 100000, 0, .ofNat 0)], [], [(some (0, 0, .negSucc 0), ([], []), [(.ofNat 0, .ofNat 100000, 0, .ofNat 0)])], [(false, (0, 0, .ofNat 0))])
/-- GridLawsModel.later, row 5 -/
def zc_l763 : zC := (287, 5, 1, [(3, 88, .ofNat 0), (0, 0, .ofNat 251)], ([(88, (0, 0, .ofNat 28), (1, 0, .ofNat 0)), (1049, (0, 0, .ofNat 251), (0, 0, .ofNat 0))], []), [(.ofNat 0, .ofNat 100000, 0, .ofNat 0)], [], [(some (0, 0, .negSucc 0), ([], []), [(.ofNat 0, .ofNat 100000, 0, .ofNat 0)])], [(false, (0, 0, .ofNat 0))])
/-- GridLawsModel.later, row 5 -/
def zc_l764 : zC := (287, 5, 1, [(3, 88, .ofNat 0), (0, 0, .ofNat 252)], ([(88, (0, 0, .ofNat 28), (1, 0, .ofNat 0)), (1049, (0, 0, .ofNat 252), (0, 0, .ofNat 0))], []), [(.ofNat 0, .ofNat 100000, 0, .ofNat 0)], [], [(some (0, 0, .negSucc 0), ([], []), [(.ofNat 0, .ofNat 100000, 0, .ofNat 0)])], [(false, (0, 0, .ofNat 0))])
/-- GridLawsModel.later, row 5 -/
def zc_l765 : zC := (287, 5, 1, [(3, 88, .ofNat 0), (0, 0, .ofNat 253)], ([(88, (0, 0, .ofNat 28), (1, 0, .ofNat 0)), (1049, (0, 0, .ofNat 253), (0, 0, .ofNat 0))], []), [(.ofNat 0, .ofNat 100000, 0, .ofNat 0)], [], [(some (0, 0, .negSucc 0), ([], []), [(.ofNat 0, .ofNat 100000, 0, .ofNat 0)])], [(false, (0, 0, .ofNat 0))])
/-- GridLawsModel.later, row 5 -/
def zc_l766 : zC := (287, 5, 1, [(3, 88, .ofNat 0), (0, 0, .ofNat 254)], ([(88, (0, 0, .ofNat 28), (1, 0, .ofNat 0)), (1049, (0, 0, .ofNat 254), (0, 0, .ofNat 0))], []), [(.ofNat 0, .ofNat 100000, 0, .ofNat 0)], [], [(some (0, 0, .negSucc 0), ([], []), [(.ofNat 0, .ofNat 100000, 0, .ofNat 0)])], [(false, (0, 0, .ofNat 0))])
/-- GridLawsModel.later, row 5 -/
def zc_l767 : zC := (287, 5, 1, [(3, 88, .ofNat 0), (0, 0, .ofNat 255)], ([(88, (0, 0, .ofNat 28), (1, 0, .ofNat 0)), (1049, (0, 0, .ofNat 255), (0, 0, .ofNat 0))], []), [(.ofNat 0, .ofNat 100000, 0, .ofNat 0)], [], [(some (0, 0, .negSucc 0), ([], []), [(.ofNat 0, .ofNat 100000, 0, .ofNat 0)])], [(false, (0, 0, .ofNat 0))])
/-- GridLawsModel.later, row 5 -/
def zc_l768 : zC := (287, 5, 1, [(3, 88, .ofNat 0), (0, 0, .ofNat 256)], ([(88, (0, 0, .ofNat 28), (1, 0, .ofNat 0)), (1049, (0, 0, .ofNat 256), (0, 0, .ofNat 0))], []), [(.ofNat 0, .ofNat 100000, 0, .ofNat 0)], [], [(some (0, 0, .negSucc 0), ([], []), [(.ofNat 0, .ofNat 100000, 0, .ofNat 0)])], [(false, (0, 0, .ofNat 0))])
/-- GridLawsModel.later, row 5 -/
def zc_l769 : zC := (287, 5, 1, [(3, 88, .ofNat 0), (0, 0, .ofNat 257)], ([(88, (0, 0, .ofNat 28), (1, 0, .ofNat 0)), (1049, (0, 0, .ofNat 257), (0, 0, .ofNat 0))], []), [(.ofNat 0, .ofNat 100000, 0, .ofNat 0)], [], [(some (0, 0, .negSucc 0), ([], []), [(.ofNat 0, .ofNat 100000, 0, .ofNat 0)])], [(false, (0, 0, .ofNat 0))])
/-- GridLawsModel.later, row 5 -/
def zc_l770 : zC := (287, 5, 1, [(3, 88, .ofNat 0), (0, 0, .ofNat 258)], ([(88, (0, 0, .ofNat 28), (1, 0, .ofNat 0)), (1049, (0, 0, .ofNat 258), (0, 0, .ofNat 0))], []), [(.ofNat 0, .ofNat 100000, 0, .ofNat 0)], [], [(some (0, 0, .negSucc 0), ([], []), [(.ofNat 0, .ofNat 100000, 0, .ofNat 0)])], [(false, (0, 0, .ofNat 0))])
/-- GridLawsModel.later, row 5 -/
def zc_l771 : zC := (287, 5, 1, [(3, 88, .ofNat 0), (0, 0, .ofNat 259)], ([(88, (0, 0, .ofNat 28), (1, 0, .ofNat 0)), (1049, (0, 0, .ofNat 259), (0, 0, .ofNat 0))], []), [(.ofNat 0, .ofNat 100000, 0, .ofNat 0)], [], [(some (0, 0, .negSucc 0), ([], []), [(.ofNat 0, .ofNat 100000, 0, .ofNat 0)])], [(false, (0, 0, .ofNat 0))])
/-- GridLawsModel.later, row 5 -/
def zc_l772 : zC := (287, 5, 1, [(3, 88, .ofNat 0), (0, 0, .ofNat 260)], ([(88, (0, 0, .ofNat 28), (1, 0, .ofNat 0)), (1049, (0, 0, .ofNat 260), (0, 0, .ofNat 0))], []), [(.ofNat 0, .ofNat 100000, 0, .ofNat 0)], [], [(some (0, 0, .negSucc 0), ([], []), [(.ofNat 0, .ofNat 100000, 0, .ofNat 0)])], [(false, (0, 0, .ofNat 0))])
/-- GridLawsModel.later, row 5 -/
def zc_l773 : zC := (287, 5, 1, [(3, 88, .ofNat 0), (0, 0, .ofNat 261)], ([(88, (0, 0, .ofNat 28), (1, 0, .ofNat 0)), (1049, (0, 0, .ofNat 261), (0, 0, .ofNat 0))], []), [(.ofNat 0, .ofNat 100000, 0, .ofNat 0)], [], [(some (0, 0, .negSucc 0), ([], []), [(.ofNat 0, .ofNat 100000, 0, .ofNat 0)])], [(false, (0, 0, .ofNat 0))])
/-- GridLawsModel.later, row 5 -/
def zc_l774 : zC := (287, 5, 1, [(3, 88, .ofNat 0), (0, 0, .ofNat 262)], ([(88, (0, 0, .ofNat 28), (1, 0, .ofNat 0)), (1049, (0, 0, .ofNat 262), (0, 0, .ofNat 0))], []), [(.ofNat 0, .ofNat 100000, 0, .ofNat 0)], [], [(some (0, 0, .negSucc 0), ([], []), [(.ofNat 0, .ofNat 100000, 0, .ofNat 0)])], [(false, (0, 0, .ofNat 0))])
/-- GridLawsModel.later, row 5 -/
def zc_l775 : zC := (287, 5, 1, [(3, 88, .ofNat 0), (0, 0, .ofNat 263)], ([(88, (0, 0, .ofNat 28), (1, 0, .ofNat 0)), (1049, (0, 0, .ofNat 263), (0, 0, .ofNat 0))], []), [(.ofNat 0, .ofNat 100000, 0, .ofNat 0)], [], [(some (0, 0, .negSucc 0), ([], []), [(.ofNat 0, .ofNat 100000, 0, .ofNat 0)])], [(false, (0, 0, .ofNat 0))])
/-- GridLawsModel.later, row 5 -/
def zc_l776 : zC := (287, 5, 1, [(3, 88, .ofNat 0), (0, 0, .ofNat 264)], ([(88, (0, 0, .ofNat 28), (1, 0, .ofNat 0)), (1049, (0, 0, .ofNat 264), (0, 0, .ofNat 0))], []), [(.ofNat 0, .ofNat 100000, 0, .ofNat 0)], [], [(some (0, 0, .negSucc 0), ([], []), [(.ofNat 0, .ofNat 100000, 0, .ofNat 0)])], [(false, (0, 0, .ofNat 0))])
/-- GridLawsModel.later, row 5 -/
def zc_l777 : zC := (287, 5, 1, [(3, 88, .ofNat 0), (0, 0, .ofNat 265)], ([(88, (0, 0, .ofNat 28), (1, 0, .ofNat 0)), (1049, (0, 0, .ofNat 265), (0, 0, .ofNat 0))], []), [(.ofNat 0, .ofNat 100000, 0, .ofNat 0)], [], [(some (0, 0, .negSucc 0), ([], []), [(.ofNat 0, .ofNat 100000, 0, .ofNat 0)])], [(false, (0, 0, .ofNat 0))])
/-- GridLawsModel.later, row 5 -/
def zc_l778 : zC := (287, 5, 1, [(3, 88, .ofNat 0), (0, 0, .ofNat 266)], ([(88, (0, 0, .ofNat 28), (1, 0, .ofNat 0)), (1049, (0, 0, .ofNat 266), (0, 0, .ofNat 0))], []), [(.ofNat 0, .ofNat 100000, 0, .ofNat 0)], [], [(some (0, 0, .negSucc 0), ([], []), [(.ofNat 0, .ofNat 100000, 0, .ofNat 0)])], [(false, (0, 0, .ofNat 0))])
/-- GridLawsModel.later, row 5 -/
def zc_l779 : zC := (287, 5, 1, [(3, 88, .ofNat 0), (0, 0, .ofNat 267)], ([(88, (0, 0, .ofNat 28), (1, 0, .ofNat 0)), (1049, (0, 0, .ofNat 267), (0, 0, .ofNat 0))], []), [(.ofNat 0, .ofNat 100000, 0, .ofNat 0)], [], [(some (0, 0, .negSucc 0), ([], []), [(.ofNat 0, .ofNat 100000, 0, .ofNat 0)])], [(false, (0, 0, .ofNat 0))])
/-- GridLawsModel.later, row 5 -/
def zc_l780 : zC := (287, 5, 1, [(3, 88, .ofNat 0), (0, 0, .ofNat 268)], ([(88, (0, 0, .ofNat 28), (1, 0, .ofNat 0)), (1049, (0, 0, .ofNat 268), (0, 0, .ofNat 0))], []), [(.ofNat 0, .ofNat 100000, 0, .ofNat 0)], [], [(some (0, 0, .negSucc 0), ([], []), [(.ofNat 0, .ofNat 100000, 0, .ofNat 0)])], [(false, (0, 0, .ofNat 0))])
/-- GridLawsModel.later, row 5 -/
def zc_l781 : zC := (287, 5, 1, [(3, 88, .ofNat 0), (0, 0, .ofNat 269)], ([(88, (0, 0, .ofNat 28), (1, 0, .ofNat 0)), (1049, (0, 0, .ofNat 269), (0, 0, .ofNat 0))], []), [(.ofNat 0, .ofNat 100000, 0, .ofNat 0)], [], [(some (0, 0, .negSucc 0), ([], []), [(.ofNat 0, .ofNat 100000, 0, .ofNat 0)])], [(false, (0, 0, .ofNat 0))])
/-- GridLawsModel.later, row 5 -/
def zc_l782 : zC := (287, 5, 1, [(3, 88, .ofNat 0), (0, 0, .ofNat 270)], ([(88, (0, 0, .ofNat 28), (1, 0, .ofNat 0)), (1049, (0, 0, .ofNat 270), (0, 0, .ofNat 0))], []), [(.ofNat 0, .ofNat 100000, 0, .ofNat 0)], [], [(some (0, 0, .negSucc 0), ([], []), [(.ofNat 0, .ofNat 100000, 0, .ofNat 0)])], [(false, (0, 0, .ofNat 0))])
/-- GridLawsModel.later, row 5 -/
def zc_l783 : zC := (287, 5, 1, [(3, 88, .ofNat 0), (0, 0, .ofNat 271)], ([(88, (0, 0, .ofNat 28), (1, 0, .ofNat 0)), (1049, (0, 0, .ofNat 271), (0, 0, .ofNat 0))], []), [(.ofNat 0, .ofNat 100000, 0, .ofNat 0)], [], [(some (0, 0, .negSucc 0), ([], []), [(.ofNat 0, .ofNat 100000, 0, .ofNat 0)])], [(false, (0, 0, .ofNat 0))])
/-- GridLawsModel.later, row 5 -/
def zc_l784 : zC := (287, 5, 1, [(3, 88, .ofNat 0), (0, 0, .ofNat 272)], ([(88, (0, 0, .ofNat 28), (1, 0, .ofNat 0)), (1049, (0, 0, .ofNat 272), (0, 0, .ofNat 0))], []), [(.ofNat 0, .ofNat 100000, 0, .ofNat 0)], [], [(some (0, 0, .negSucc 0), ([], []), [(.ofNat 0, .ofNat 100000, 0, .ofNat 0)])], [(false, (0, 0, .ofNat 0))])
/-- GridLawsModel.later, row 5 -/
def zc_l785 : zC := (287, 5, 1, [(3, 88, .ofNat 0), (0, 0, .ofNat 273)], ([(88, (0, 0, .ofNat 28), (1, 0, .ofNat 0)), (1049, (0, 0, .ofNat 273), (0, 0, .ofNat 0))], []), [(.ofNat 0, .ofNat 100000, 0, .ofNat 0)], [], [(some (0, 0, .negSucc 0), ([], []), [(.ofNat 0, .ofNat 100000, 0, .ofNat 0)])], [(false, (0, 0, .ofNat 0))])
/-- GridLawsModel.later, row 5 -/
def zc_l786 : zC := (287, 5, 1, [(3, 88, .ofNat 0), (0, 0, .ofNat 274)], ([(88, (0, 0, .ofNat 28), (1, 0, .ofNat 0)), (1049, (0, 0, .ofNat 274), (0, 0, .ofNat 0))], []), [(.ofNat 0, .ofNat 100000, 0, .ofNat 0)], [], [(some (0, 0, .negSucc 0), ([], []), [(.ofNat 0, .ofNat 100000, 0, .ofNat 0)])], [(false, (0, 0, .ofNat 0))])
/-- GridLawsModel.later, row 5 -/
def zc_l787 : zC := (287, 5, 1, [(3, 88, .ofNat 0), (0, 0, .ofNat 275)], ([(88, (0, 0, .ofNat 28), (1, 0, .ofNat 0)), (1049, (0, 0, .ofNat 275), (0, 0, .ofNat 0))], []), [(.ofNat 0, .ofNat 100000, 0, .ofNat 0)], [], [(some (0, 0, .negSucc 0), ([], []), [(.ofNat 0, .ofNat 100000, 0, .ofNat 0)])], [(false, (0, 0, .ofNat 0))])
/-- GridLawsModel.later, row 5 -/
def zc_l788 : zC := (287, 5, 1, [(3, 88, .ofNat 0), (0, 0, .ofNat 276)], ([(88, (0, 0, .ofNat 28), (1, 0, .ofNat 0)), (1049, (0, 0, .ofNat 276), (0, 0, .ofNat 0))], []), [(.ofNat 0, .ofNat 100000, 0, .ofNat 0)], [], [(some (0, 0, .negSucc 0), ([], []), [(.ofNat 0, .ofNat 100000, 0, .ofNat 0)])], [(false, (0, 0, .ofNat 0))])
/-- GridLawsModel.later, row 5 -/
def zc_l789 : zC := (287, 5, 1, [(3, 88, .ofNat 0), (0, 0, .ofNat 277)], ([(88, (0, 0, .ofNat 28), (1, 0, .ofNat 0)), (1049, (0, 0, .ofNat 277), (0, 0, .ofNat 0))], []), [(.ofNat 0, .ofNat 100000, 0, .ofNat 0)], [], [(some (0, 0, .negSucc 0), ([], []), [(.ofNat 0, .ofNat 100000, 0, .ofNat 0)])], [(false, (0, 0, .ofNat 0))])
/-- GridLawsModel.later, row 5 -/
def zc_l790 : zC := (287, 5, 1, [(3, 88, .ofNat 0), (0, 0, .ofNat 278)], ([(88, (0, 0, .ofNat 28), (1, 0, .ofNat 0)), (1049, (0, 0, .ofNat 278), (0, 0, .ofNat 0))], []), [(.ofNat 0, .ofNat 100000, 0, .ofNat 0)], [], [(some (0, 0, .negSucc 0), ([], []), [(.ofNat 0, .ofNat 100000, 0, .ofNat 0)])], [(false, (0, 0, .ofNat 0))])
/-- GridLawsModel.later, row 5 -/
def zc_l791 : zC := (287, 5, 1, [(3, 88, .ofNat 0), (0, 0, .ofNat 279)], ([(88, (0, 0, .ofNat 28), (1, 0, .ofNat 0)), (1049, (0, 0, .ofNat 279), (0, 0, .ofNat 0))], []), [(.ofNat 0, .ofNat 100000, 0, .ofNat 0)], [], [(some (0, 0, .negSucc 0), ([], []), [(.ofNat 0, .ofNat 100000, 0, .ofNat 0)])], [(false, (0, 0, .ofNat 0))])
/-- GridLawsModel.later, row 5 -/
def zc_l792 : zC := (287, 5, 1, [(3, 88, .ofNat 0), (0, 0, .ofNat 280)], ([(88, (0, 0, .ofNat 28), (1, 0, .ofNat 0)), (1049, (0, 0, .ofNat 280), (0, 0, .ofNat 0))], []), [(.ofNat 0, .ofNat 100000, 0, .ofNat 0)], [], [(some (0, 0, .negSucc 0), ([], []), [(.ofNat 0, .ofNat 100000, 0, .ofNat 0)])], [(false, (0, 0, .ofNat 0))])
/-- GridLawsModel.later, row 5 -/
def zc_l793 : zC := (287, 5, 1, [(3, 88, .ofNat 0), (0, 0, .ofNat 281)], ([(88, (0, 0, .ofNat 28), (1, 0, .ofNat 0)), (1049, (0, 0, .ofNat 281), (0, 0, .ofNat 0))], []), [(.ofNat 0, .ofNat 100000, 0, .ofNat 0)], [], [(some (0, 0, .negSucc 0), ([], []), [(.ofNat 0, .ofNat 100000, 0, .ofNat 0)])], [(false, (0, 0, .ofNat 0))])
/-- GridLawsModel.later, row 5 -/
def zc_l794 : zC := (287, 5, 1, [(3, 88, .ofNat 0), (0, 0, .ofNat 282)], ([(88, (0, 0, .ofNat 28), (1, 0, .ofNat 0)), (1049, (0, 0, .ofNat 282), (0, 0, .ofNat 0))], []), [(.ofNat 0, .ofNat 100000, 0, .ofNat 0)], [], [(some (0, 0, .negSucc 0), ([], []), [(.ofNat 0, .ofNat 100000, 0, .ofNat 0)])], [(false, (0, 0, .ofNat 0))])
/-- GridLawsModel.later, row 5 -/
def zc_l795 : zC := (287, 5, 1, [(3, 88, .ofNat 0), (0, 0, .ofNat 283)], ([(88, (0, 0, .ofNat 28), (1, 0, .ofNat 0)), (1049, (0, 0, .ofNat 283), (0, 0, .ofNat 0))], []), [(.ofNat 0, .ofNat 100000, 0, .ofNat 0)], [], [(some (0, 0, .negSucc 0), ([], []), [(.ofNat 0, .ofNat 100000, 0, .ofNat 0)])], [(false, (0, 0, .ofNat 0))])
/-- GridLawsModel.later, row 5 -/
def zc_l796 : zC := (287, 5, 1, [(3, 88, .ofNat 0), (0, 0, .ofNat 284)], ([(88, (0, 0, .ofNat 28), (1, 0, .ofNat 0)), (1049, (0, 0, .ofNat 284), (0, 0, .ofNat 0))], []), [(.ofNat 0, .ofNat 100000, 0, .ofNat 0)], [], [(some (0, 0, .negSucc 0), ([], []), [(.ofNat 0, .ofNat 100000, 0, .ofNat 0)])], [(false, (0, 0, .ofNat 0))])
/-- GridLawsModel.later, row 5 -/
def zc_l797 : zC := (287, 5, 1, [(3, 88, .ofNat 0), (0, 0, .ofNat 285)], ([(88, (0, 0, .ofNat 28), (1, 0, .ofNat 0)), (1049, (0, 0, .ofNat 285), (0, 0, .ofNat 0))], []), [(.ofNat 0, .ofNat 100000, 0, .ofNat 0)], [], [(some (0, 0, .negSucc 0), ([], []), [(.ofNat 0, .ofNat 100000, 0, .ofNat 0)])], [(false, (0, 0, .ofNat 0))])
/-- GridLawsModel.later, row 5 -/
def zc_l798 : zC := (287, 5, 1, [(3, 88, .ofNat 0), (0, 0, .ofNat 286)], ([(88, (0, 0, .ofNat 28), (1, 0, .ofNat 0)), (1049, (0, 0, .ofNat 286), (0, 0, .ofNat 0))], []), [(.ofNat 0, .ofNat 100000, 0, .ofNat 0)], [], [(some (0, 0, .negSucc 0), ([], []), [(.ofNat 0, .ofNat 100000, 0, .ofNat 0)])], [(false, (0, 0, .ofNat 0))])
/-- GridLawsModel.later, row 5 -/
def zc_l799 : zC := (287, 5, 1, [(3, 88, .ofNat 0), (0, 0, .ofNat 287)], ([(88, (0, 0, .ofNat 28), (1, 0, .ofNat 0)), (1049, (0, 0, .ofNat 287), (0, 0, .ofNat 0))], []), [(.ofNat 0, .ofNat 100000, 0, .ofNat 0)], [], [(some (0, 0, .negSucc 0), ([], []), [(.ofNat 0, .ofNat 100000, 0, .ofNat 0)])], [(false, (0, 0, .ofNat 0))])
/-- GridLawsModel.later, row 5 -/
def zc_l800 : zC := (287, 5, 1, [(3, 88, .ofNat 0), (0, 0, .ofNat 288)], ([(88, (0, 0, .ofNat 28), (1, 0, .ofNat 0)), (1049, (0, 0, .ofNat 288), (0, 0, .ofNat 0))], []), [(.ofNat 0, .ofNat 100000, 0, .ofNat 0)], [], [(some (0, 0, .negSucc 0), ([], []), [(.ofNat 0, .ofNat 100000, 0, .ofNat 0)])], [(false, (0, 0, .ofNat 0))])
/-- GridLawsModel.later, row 5 -/
def zc_l801 : zC := (287, 5, 1, [(3, 88, .ofNat 0), (0, 0, .ofNat 289)], ([(88, (0, 0, .ofNat 28), (1, 0, .ofNat 0)), (1049, (0, 0, .ofNat 289), (0, 0, .ofNat 0))], []), [(.ofNat 0, .ofNat 100000, 0, .ofNat 0)], [], [(some (0, 0, .negSucc 0), ([], []), [(.ofNat 0, .ofNat 100000, 0, .ofNat 0)])], [(false, (0, 0, .ofNat 0))])
/-- GridLawsModel.later, row 5 -/
def zc_l802 : zC := (287, 5, 1, [(3, 88, .ofNat 0), (0, 0, .ofNat 290)], ([(88, (0, 0, .ofNat 28), (1, 0, .ofNat 0)), (1049, (0, 0, .ofNat 290), (0, 0, .ofNat 0))], []), [(.ofNat 0, .ofNat 100000, 0, .ofNat 0)], [], [(some (0, 0, .negSucc 0), ([], []), [(.ofNat 0, .ofNat 100000, 0, .ofNat 0)])], [(false, (0, 0, .ofNat 0))])
/-- GridLawsModel.later, row 5 -/
def zc_l803 : zC := (287, 5, 1, [(3, 88, .ofNat 0), (0, 0, .ofNat 291)], ([(88, (0, 0, .ofNat 28), (1, 0, .ofNat 0)), (1049, (0, 0, .ofNat 291), (0, 0, .ofNat 0))], []), [(.ofNat 0, .ofNat 100000, 0, .ofNat 0)], [], [(some (0, 0, .negSucc 0), ([], []), [(.ofNat 0, .ofNat 100000, 0, .ofNat 0)])], [(false, (0, 0, .ofNat 0))])
/-- GridLawsModel.later, row 5 -/
def zc_l804 : zC := (287, 5, 1, [(3, 88, .ofNat 0), (0, 0, .ofNat 292)], ([(88, (0, 0, .ofNat 28), (1, 0, .ofNat 0)), (1049, (0, 0, .ofNat 292), (0, 0, .ofNat 0))], []), [(.ofNat 0, .ofNat 100000, 0, .ofNat 0)], [], [(some (0, 0, .negSucc 0), ([], []), [(.ofNat 0, .ofNat 100000, 0, .ofNat 0)])], [(false, (0, 0, .ofNat 0))])
/-- GridLawsModel.later, row 5 -/
def zc_l805 : zC := (287, 5, 1, [(3, 88, .ofNat 0), (0, 0, .ofNat 293)], ([(88, (0, 0, .ofNat 28), (1, 0, .ofNat 0)), (1049, (0, 0, .ofNat 293), (0, 0, .ofNat 0))], []), [(.ofNat 0, .ofNat 100000, 0, .ofNat 0)], [], [(some (0, 0, .negSucc 0), ([], []), [(.ofNat 0, .ofNat 100000, 0, .ofNat 0)])], [(false, (0, 0, .ofNat 0))])
/-- GridLawsModel.later, row 5 -/
def zc_l806 : zC := (287, 5, 1, [(3, 88, .ofNat 0), (0, 0, .ofNat 294)], ([(88, (0, 0, .ofNat 28), (1, 0, .ofNat 0)), (1049, (0, 0, .ofNat 294), (0, 0, .ofNat 0))], []), [(.ofNat 0, .ofNat 100000, 0, .ofNat 0)], [], [(some (0, 0, .negSucc 0), ([], []), [(.ofNat 0, .ofNat 100000, 0, .ofNat 0)])], [(false, (0, 0, .ofNat 0))])
/-- GridLawsModel.later, row 5 -/
def zc_l807 : zC := (287, 5, 1, [(3, 88, .ofNat 0), (0, 0, .ofNat 295)], ([(88, (0, 0, .ofNat 28), (1, 0, .ofNat 0)), (1049, (0, 0, .ofNat 295), (0, 0, .ofNat 0))], []), [(.ofNat 0, .ofNat 100000, 0, .ofNat 0)], [], [(some (0, 0, .negSucc 0), ([], []), [(.ofNat 0, .ofNat 100000, 0, .ofNat 0)])], [(false, (0, 0, .ofNat 0))])
/-- GridLawsModel.later, row 5 -/
def zc_l808 : zC := (287, 5, 1, [(3, 88, .ofNat 0), (0, 0, .ofNat 296)], ([(88, (0, 0, .ofNat 28), (1, 0, .ofNat 0)), (1049, (0, 0, .ofNat 296), (0, 0, .ofNat 0))], []), [(.ofNat 0, .ofNat 100000, 0, .ofNat 0)], [], [(some (0, 0, .negSucc 0), ([], []), [(.ofNat 0, .ofNat 100000, 0, .ofNat 0)])], [(false, (0, 0, .ofNat 0))])
/-- GridLawsModel.later, row 5 -/
def zc_l809 : zC := (287, 5, 1, [(3, 88, .ofNat 0), (0, 0, .ofNat 297)], ([(88, (0, 0, .ofNat 28), (1, 0, .ofNat 0)), (1049, (0, 0, .ofNat 297), (0, 0, .ofNat 0))], []), [(.ofNat 0, .ofNat 100000, 0, .ofNat 0)], [], [(some (0, 0, .negSucc 0), ([], []), [(.ofNat 0, .ofNat 100000, 0, .ofNat 0)])], [(false, (0, 0, .ofNat 0))])
/-- GridLawsModel.later, row 5 -/
def zc_l810 : zC := (287, 5, 1, [(3, 88, .ofNat 0), (0, 0, .ofNat 298)], ([(88, (0, 0, .ofNat 28), (1, 0, .ofNat 0)), (1049, (0, 0, .ofNat 298), (0, 0, .ofNat 0))], []), [(.ofNat 0, .ofNat 100000, 0, .ofNat 0)], [], [(some (0, 0, .negSucc 0), ([], []), [(.ofNat 0, .ofNat 100000, 0, .ofNat 0)])], [(false, (0, 0, .ofNat 0))])
/-- GridLawsModel.later, row 5 -/
def zc_l811 : zC := (287, 5, 1, [(3, 88, .ofNat 0), (0, 0, .ofNat 299)], ([(88, (0, 0, .ofNat 28), (1, 0, .ofNat 0)), (1049, (0, 0, .ofNat 299), (0, 0, .ofNat 0))], []), [(.ofNat 0, .ofNat 100000, 0, .ofNat 0)], [], [(some (0, 0, .negSucc 0), ([], []), [(.ofNat 0, .ofNat 100000, 0, .ofNat 0)])], [(false, (0, 0, .ofNat 0))])
def zgl_l711_0 : List zC := [zc_l711, zc_l712, zc_l713, zc_l714, zc_l715, zc_l716, zc_l717, zc_l718, zc_l719, zc_l720, zc_l721, zc_l722, zc_l723, zc_l724, zc_l725, zc_l726]
def zgl_l711_1 : List zC := [zc_l727, zc_l728, zc_l729, zc_l730, zc_l731, zc_l732, zc_l733, zc_l734, zc_l735, zc_l736, zc_l737, zc_l738, zc_l739, zc_l740, zc_l741, zc_l742]
def zgl_l711_2 : List zC := [zc_l743, zc_l744, zc_l745, zc_l746, zc_l747, zc_l748, zc_l749, zc_l750, zc_l751, zc_l752, zc_l753, zc_l754, zc_l755, zc_l756, zc_l757, zc_l758]
def zgl_l711_3 : List zC := [zc_l759, zc_l760, zc_l761, zc_l762, zc_l763, zc_l764, zc_l765, zc_l766, zc_l767, zc_l768, zc_l769, zc_l770, zc_l771, zc_l772, zc_l773, zc_l774]
def zgl_l711_4 : List zC := [zc_l775, zc_l776, zc_l777, zc_l778, zc_l779, zc_l780, zc_l781, zc_l782, zc_l783, zc_l784, zc_l785, zc_l786, zc_l787, zc_l788, zc_l789, zc_l790]
def zgl_l711_5 : List zC := [zc_l791, zc_l792, zc_l793, zc_l794, zc_l795, zc_l796, zc_l797, zc_l798, zc_l799, zc_l800, zc_l801, zc_l802, zc_l803, zc_l804, zc_l805, zc_l806]
def zgl_l711_6 : List zC := [zc_l807, zc_l808, zc_l809, zc_l810, zc_l811]
def zgl_l711 : List zC := zgl_l711_0 ++ (zgl_l711_1 ++ (zgl_l711_2 ++ (zgl_l711_3 ++ (zgl_l711_4 ++ (zgl_l711_5 ++ (zgl_l711_6))))))
def zgh_l711_0 : List (zC × zHt) := [(zc_l711, [(5, 0, 0), (5, 1, 0)]), (zc_l712, [(13, 2, 94)]), (zc_l713, [(13, 2, 94)]), (zc_l714, [(13, 2, 94)]), (zc_l715, [(13, 2, 94)]), (zc_l716, [(13, 2, 94)]), (zc_l717, [(13, 2, 94)]), (zc_l718, [(13, 2, 94)]), (zc_l719, [(13, 2, 94)]), (zc_l720, [(13, 2, 94)]), (zc_l721, [(13, 2, 94)]), (zc_l722, [(13, 2, 94)]), (zc_l723, [(13, 2, 94)]), (zc_l724, [(13, 2, 94)]), (zc_l725, [(13, 2, 94)]), (zc_l726, [(13, 2, 94)])]
def zgh_l711_1 : List (zC × zHt) := [(zc_l727, [(13, 2, 94)]), (zc_l728, [(13, 2, 94)]), (zc_l729, [(13, 2, 94)]), (zc_l730, [(13, 2, 94)]), (zc_l731, [(13, 2, 94)]), (zc_l732, [(13, 2, 94)]), (zc_l733, [(13, 2, 94)]), (zc_l734, [(13, 2, 94)]), (zc_l735, [(13, 2, 94)]), (zc_l736, [(13, 2, 94)]), (zc_l737, [(13, 2, 94)]), (zc_l738, [(13, 2, 94)]), (zc_l739, [(13, 2, 94)]), (zc_l740, [(13, 2, 94)]), (zc_l741, [(13, 2, 94)]), (zc_l742, [(13, 2, 94)])]
def zgh_l711_2 : List (zC × zHt) := [(zc_l743, [(13, 2, 94)]), (zc_l744, [(13, 2, 94)]), (zc_l745, [(13, 2, 94)]), (zc_l746, [(13, 2, 94)]), (zc_l747, [(13, 2, 94)]), (zc_l748, [(13, 2, 94)]), (zc_l749, [(13, 2, 94)]), (zc_l750, [(13, 2, 94)]), (zc_l751, [(13, 2, 94)]), (zc_l752, [(13, 2, 94)]), (zc_l753, [(13, 2, 94)]), (zc_l754, [(13, 2, 94)]), (zc_l755, [(13, 2, 94)]), (zc_l756, [(13, 2, 94)]), (zc_l757, [(13, 2, 94)]), (zc_l758, [(13, 2, 94)])]
def zgh_l711_3 : List (zC × zHt) := [(zc_l759, [(13, 2, 94)]), (zc_l760, [(13, 2, 94)]), (zc_l761, [(13, 2, 94)]), (zc_l762, [(13, 2, 94)]), (zc_l763, [(13, 2, 94)]), (zc_l764, [(13, 2, 94)]), (zc_l765, [(13, 2, 94)]), (zc_l766, [(13, 2, 94)]), (zc_l767, [(13, 2, 94)]), (zc_l768, [(13, 2, 94)]), (zc_l769, [(13, 2, 94)]), (zc_l770, [(13, 2, 94)]), (zc_l771, [(13, 2, 94)]), (zc_l772, [(13, 2, 94)]), (zc_l773, [(13, 2, 94)]), (zc_l774, [(13, 2, 94)])]
def zgh_l711_4 : List (zC × zHt) := [(zc_l775, [(13, 2, 94)]), (zc_l776, [(13, 2, 94)]), (zc_l777, [(13, 2, 94)]), (zc_l778, [(13, 2, 94)]), (zc_l779, [(13, 2, 94)]), (zc_l780, [(13, 2, 94)]), (zc_l781, [(13, 2, 94)]), (zc_l782, [(13, 2, 94)]), (zc_l783, [(13, 2, 94)]), (zc_l784, [(13, 2, 94)]), (zc_l785, [(13, 2, 94)]), (zc_l786, [(13, 2, 94)]), (zc_l787, [(13, 2, 94)]), (zc_l788, [(13, 2, 94)]), (zc_l789, [(13, 2, 94)]), (zc_l790, [(13, 2, 94)])]
def zgh_l711_5 : List (zC × zHt) := [(zc_l791, [(13, 2, 94)]), (zc_l792, [(13, 2, 94)]), (zc_l793, [(13, 2, 94)]), (zc_l794, [(13, 2, 94)]), (zc_l795, [(13, 2, 94)]), (zc_l796, [(13, 2, 94)]), (zc_l797, [(13, 2, 94)]), (zc_l798, [(13, 2, 94)]), (zc_l799, [(13, 2, 94)]), (zc_l800, [(13, 2, 94)]), (zc_l801, [(13, 2, 94)]), (zc_l802, [(13, 2, 94)]), (zc_l803, [(13, 2, 94)]), (zc_l804, [(13, 2, 94)]), (zc_l805, [(13, 2, 94)]), (zc_l806, [(13, 2, 94)])]
def zgh_l711_6 : List (zC × zHt) := [(zc_l807, [(13, 2, 94)]), (zc_l808, [(13, 2, 94)]), (zc_l809, [(13, 2, 94)]), (zc_l810, [(13, 2, 94)]), (zc_l811, [(13, 2, 94)])]
theorem zge_l711_0 : zgh_l711_0.map Prod.fst = zgl_l711_0 := rfl
theorem zge_l711_1 : zgh_l711_1.map Prod.fst = zgl_l711_1 := rfl
theorem zge_l711_2 : zgh_l711_2.map Prod.fst = zgl_l711_2 := rfl
theorem zge_l711_3 : zgh_l711_3.map Prod.fst = zgl_l711_3 := rfl
theorem zge_l711_4 : zgh_l711_4.map Prod.fst = zgl_l711_4 := rfl
theorem zge_l711_5 : zgh_l711_5.map Prod.fst = zgl_l711_5 := rfl
theorem zge_l711_6 : zgh_l711_6.map Prod.fst = zgl_l711_6 := rfl
theorem zge_l711 : (zgh_l711_0 ++ (zgh_l711_1 ++ (zgh_l711_2 ++ (zgh_l711_3 ++ (zgh_l711_4 ++ (zgh_l711_5 ++ (zgh_l711_6))))))).map Prod.fst = zgl_l711 := by
  rw [List.map_append, zge_l711_0, List.map_append, zge_l711_1, List.map_append, zge_l711_2, List.map_append, zge_l711_3, List.map_append, zge_l711_4, List.map_append, zge_l711_5, zge_l711_6]
  rfl
