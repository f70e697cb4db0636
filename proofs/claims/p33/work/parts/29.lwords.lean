theorem kw_581 : Cond.methodLink "BagTreeLaw" 13 yX8_knot ∈ G := inG (inT1 227 rfl) rfl
theorem kw_582 : Cond.instanceMethod yX8_knot ∈ G := inG (inT1 228 rfl) rfl
theorem kw_583 : Cond.selects yX8_knot.cls yX8_knot yX8_knot ∈ G := inG (inT1 229 rfl) rfl
theorem kw_584 : Cond.code yX8_knot cX8_knot 2 (some .int) ∈ G := inG (inT1 230 rfl) rfl
theorem kw_585 : Cond.methodLink "BagTreeLaw" 17 yX9_knot ∈ G := inG (inT4 97 rfl) rfl
theorem kw_586 : Cond.instanceMethod yX9_knot ∈ G := inG (inT4 98 rfl) rfl
theorem kw_587 : Cond.selects yX9_knot.cls yX9_knot yX9_knot ∈ G := inG (inT4 99 rfl) rfl
theorem kw_588 : Cond.code yX9_knot cX9_knot 2 (some .int) ∈ G := inG (inT4 100 rfl) rfl
theorem kw_589 : Cond.methodLink "BagTreeLaw" 18 yX8_edge ∈ G := inG (inT2 6 rfl) rfl
theorem kw_590 : Cond.instanceMethod yX8_edge ∈ G := inG (inT2 7 rfl) rfl
theorem kw_591 : Cond.selects yX8_edge.cls yX8_edge yX8_edge ∈ G := inG (inT2 8 rfl) rfl
theorem kw_592 : Cond.code yX8_edge cX8_edge 4 (some .int) ∈ G := inG (inT2 9 rfl) rfl
theorem kw_593 : Cond.methodLink "BagTreeLaw" 22 yX9_edge ∈ G := inG (inT4 105 rfl) rfl
theorem kw_594 : Cond.instanceMethod yX9_edge ∈ G := inG (inT4 106 rfl) rfl
theorem kw_595 : Cond.selects yX9_edge.cls yX9_edge yX9_edge ∈ G := inG (inT4 107 rfl) rfl
theorem kw_596 : Cond.code yX9_edge cX9_edge 5 (some .int) ∈ G := inG (inT4 108 rfl) rfl
theorem kw_597 : Cond.methodLink "BagTreeLaw" 23 yX8_cut ∈ G := inG (inT2 21 rfl) rfl
theorem kw_598 : Cond.instanceMethod yX8_cut ∈ G := inG (inT2 22 rfl) rfl
theorem kw_599 : Cond.selects yX8_cut.cls yX8_cut yX8_cut ∈ G := inG (inT2 23 rfl) rfl
theorem kw_600 : Cond.code yX8_cut cX8_cut 3 (some .int) ∈ G := inG (inT2 24 rfl) rfl
theorem kw_601 : Cond.methodLink "BagTreeLaw" 27 yX9_cut ∈ G := inG (inT4 113 rfl) rfl
theorem kw_602 : Cond.instanceMethod yX9_cut ∈ G := inG (inT4 114 rfl) rfl
theorem kw_603 : Cond.selects yX9_cut.cls yX9_cut yX9_cut ∈ G := inG (inT4 115 rfl) rfl
theorem kw_604 : Cond.code yX9_cut cX9_cut 3 (some .int) ∈ G := inG (inT4 116 rfl) rfl
theorem kw_605 : Cond.methodLink "BagTreeLaw" 28 yX8_weigh ∈ G := inG (inT2 34 rfl) rfl
theorem kw_606 : Cond.instanceMethod yX8_weigh ∈ G := inG (inT2 35 rfl) rfl
theorem kw_607 : Cond.selects yX8_weigh.cls yX8_weigh yX8_weigh ∈ G := inG (inT2 36 rfl) rfl
theorem kw_608 : Cond.code yX8_weigh cX8_weigh 4 (some .int) ∈ G := inG (inT2 37 rfl) rfl
theorem kw_609 : Cond.methodLink "BagTreeLaw" 31 yX9_weigh ∈ G := inG (inT4 121 rfl) rfl
theorem kw_610 : Cond.instanceMethod yX9_weigh ∈ G := inG (inT4 122 rfl) rfl
theorem kw_611 : Cond.selects yX9_weigh.cls yX9_weigh yX9_weigh ∈ G := inG (inT4 123 rfl) rfl
theorem kw_612 : Cond.code yX9_weigh cX9_weigh 4 (some .int) ∈ G := inG (inT4 124 rfl) rfl
theorem kw_613 : Cond.methodLink "BagTreeLaw" 32 yX8_weight ∈ G := inG (inT2 38 rfl) rfl
theorem kw_614 : Cond.instanceMethod yX8_weight ∈ G := inG (inT2 39 rfl) rfl
theorem kw_615 : Cond.selects yX8_weight.cls yX8_weight yX8_weight ∈ G := inG (inT2 40 rfl) rfl
theorem kw_616 : Cond.code yX8_weight cX8_weight 3 (some .int) ∈ G := inG (inT2 41 rfl) rfl
theorem kw_617 : Cond.methodLink "BagTreeLaw" 35 yX9_weight ∈ G := inG (inT4 125 rfl) rfl
theorem kw_618 : Cond.instanceMethod yX9_weight ∈ G := inG (inT4 126 rfl) rfl
theorem kw_619 : Cond.selects yX9_weight.cls yX9_weight yX9_weight ∈ G := inG (inT4 127 rfl) rfl
theorem kw_620 : Cond.code yX9_weight cX9_weight 3 (some .int) ∈ G := inG (inT4 128 rfl) rfl
theorem kw_621 : Cond.methodLink "BagTreeLaw" 36 yX8_beside ∈ G := inG (inT2 42 rfl) rfl
theorem kw_622 : Cond.instanceMethod yX8_beside ∈ G := inG (inT2 43 rfl) rfl
theorem kw_623 : Cond.selects yX8_beside.cls yX8_beside yX8_beside ∈ G := inG (inT2 44 rfl) rfl
theorem kw_624 : Cond.code yX8_beside cX8_beside 2 (some .int) ∈ G := inG (inT2 45 rfl) rfl
theorem kw_625 : Cond.methodLink "BagTreeLaw" 39 yX9_beside ∈ G := inG (inT4 129 rfl) rfl
theorem kw_626 : Cond.instanceMethod yX9_beside ∈ G := inG (inT4 130 rfl) rfl
theorem kw_627 : Cond.selects yX9_beside.cls yX9_beside yX9_beside ∈ G := inG (inT4 131 rfl) rfl
theorem kw_628 : Cond.code yX9_beside cX9_beside 2 (some .int) ∈ G := inG (inT4 132 rfl) rfl
theorem kw_629 : Cond.methodLink "BagTreeLaw" 40 yX8_put ∈ G := inG (inT2 46 rfl) rfl
theorem kw_630 : Cond.instanceMethod yX8_put ∈ G := inG (inT2 47 rfl) rfl
theorem kw_631 : Cond.selects yX8_put.cls yX8_put yX8_put ∈ G := inG (inT2 48 rfl) rfl
theorem kw_632 : Cond.code yX8_put cX8_put 2 (some .int) ∈ G := inG (inT2 49 rfl) rfl
theorem kw_633 : Cond.methodLink "BagTreeLaw" 43 yX9_put ∈ G := inG (inT4 133 rfl) rfl
theorem kw_634 : Cond.instanceMethod yX9_put ∈ G := inG (inT4 134 rfl) rfl
theorem kw_635 : Cond.selects yX9_put.cls yX9_put yX9_put ∈ G := inG (inT4 135 rfl) rfl
theorem kw_636 : Cond.code yX9_put cX9_put 2 (some .int) ∈ G := inG (inT4 136 rfl) rfl
theorem kw_637 : Cond.methodLink "BagTreeLaw" 44 yX8_wipe ∈ G := inG (inT2 59 rfl) rfl
theorem kw_638 : Cond.instanceMethod yX8_wipe ∈ G := inG (inT2 60 rfl) rfl
theorem kw_639 : Cond.selects yX8_wipe.cls yX8_wipe yX8_wipe ∈ G := inG (inT2 61 rfl) rfl
theorem kw_640 : Cond.code yX8_wipe cX8_wipe 2 (some .int) ∈ G := inG (inT2 62 rfl) rfl
theorem kw_641 : Cond.methodLink "BagTreeLaw" 48 yX9_wipe ∈ G := inG (inT4 141 rfl) rfl
theorem kw_642 : Cond.instanceMethod yX9_wipe ∈ G := inG (inT4 142 rfl) rfl
theorem kw_643 : Cond.selects yX9_wipe.cls yX9_wipe yX9_wipe ∈ G := inG (inT4 143 rfl) rfl
theorem kw_644 : Cond.code yX9_wipe cX9_wipe 2 (some .int) ∈ G := inG (inT4 144 rfl) rfl
theorem kw_645 : Cond.methodLink "BagTreeLaw" 49 yX8_make ∈ G := inG (inT2 63 rfl) rfl
theorem kw_646 : Cond.instanceMethod yX8_make ∈ G := inG (inT2 64 rfl) rfl
theorem kw_647 : Cond.selects yX8_make.cls yX8_make yX8_make ∈ G := inG (inT2 65 rfl) rfl
theorem kw_648 : Cond.code yX8_make cX8_make 1 (some .int) ∈ G := inG (inT2 66 rfl) rfl
theorem kw_649 : Cond.methodLink "BagTreeLaw" 52 yX9_make ∈ G := inG (inT4 149 rfl) rfl
theorem kw_650 : Cond.instanceMethod yX9_make ∈ G := inG (inT4 150 rfl) rfl
theorem kw_651 : Cond.selects yX9_make.cls yX9_make yX9_make ∈ G := inG (inT4 151 rfl) rfl
theorem kw_652 : Cond.code yX9_make cX9_make 5 (some .int) ∈ G := inG (inT4 152 rfl) rfl
theorem kw_653 : Cond.methodLink "BagTreeLaw" 53 yX8_fills ∈ G := inG (inT2 109 rfl) rfl
theorem kw_654 : Cond.instanceMethod yX8_fills ∈ G := inG (inT2 110 rfl) rfl
theorem kw_655 : Cond.selects yX8_fills.cls yX8_fills yX8_fills ∈ G := inG (inT2 111 rfl) rfl
theorem kw_656 : Cond.code yX8_fills cX8_fills 2 (some .int) ∈ G := inG (inT2 112 rfl) rfl
theorem kw_657 : Cond.methodLink "BagTreeLaw" 56 yX9_fills ∈ G := inG (inT4 169 rfl) rfl
theorem kw_658 : Cond.instanceMethod yX9_fills ∈ G := inG (inT4 170 rfl) rfl
theorem kw_659 : Cond.selects yX9_fills.cls yX9_fills yX9_fills ∈ G := inG (inT4 171 rfl) rfl
theorem kw_660 : Cond.code yX9_fills cX9_fills 7 (some .int) ∈ G := inG (inT4 172 rfl) rfl
theorem kw_661 : Cond.methodLink "BagTreeLaw" 57 yX8_fewest ∈ G := inG (inT2 114 rfl) rfl
theorem kw_662 : Cond.instanceMethod yX8_fewest ∈ G := inG (inT2 115 rfl) rfl
theorem kw_663 : Cond.selects yX8_fewest.cls yX8_fewest yX8_fewest ∈ G := inG (inT2 116 rfl) rfl
theorem kw_664 : Cond.code yX8_fewest cX8_fewest 4 (some .int) ∈ G := inG (inT2 117 rfl) rfl
theorem kw_665 : Cond.methodLink "BagTreeLaw" 60 yX9_fewest ∈ G := inG (inT4 173 rfl) rfl
theorem kw_666 : Cond.instanceMethod yX9_fewest ∈ G := inG (inT4 174 rfl) rfl
theorem kw_667 : Cond.selects yX9_fewest.cls yX9_fewest yX9_fewest ∈ G := inG (inT4 175 rfl) rfl
theorem kw_668 : Cond.code yX9_fewest cX9_fewest 4 (some .int) ∈ G := inG (inT4 176 rfl) rfl
theorem kw_669 : Cond.methodLink "BagTreeLaw" 64 yX9_least ∈ G := inG (inT4 181 rfl) rfl
theorem kw_670 : Cond.instanceMethod yX9_least ∈ G := inG (inT4 182 rfl) rfl
theorem kw_671 : Cond.selects yX9_least.cls yX9_least yX9_least ∈ G := inG (inT4 183 rfl) rfl
theorem kw_672 : Cond.code yX9_least cX9_least 5 (some .int) ∈ G := inG (inT4 184 rfl) rfl
theorem kw_673 : Cond.methodLink "BagTreeLaw" 61 yX8_least ∈ G := inG (inT2 124 rfl) rfl
theorem kw_674 : Cond.instanceMethod yX8_least ∈ G := inG (inT2 125 rfl) rfl
theorem kw_675 : Cond.selects yX8_least.cls yX8_least yX8_least ∈ G := inG (inT2 126 rfl) rfl
theorem kw_676 : Cond.code yX8_least cX8_least 1 (some .int) ∈ G := inG (inT2 127 rfl) rfl
theorem kw_677 : Cond.methodLink "BagTreeLaw" 65 yX8_row ∈ G := inG (inT2 197 rfl) rfl
theorem kw_678 : Cond.instanceMethod yX8_row ∈ G := inG (inT2 198 rfl) rfl
theorem kw_679 : Cond.selects yX8_row.cls yX8_row yX8_row ∈ G := inG (inT2 199 rfl) rfl
theorem kw_680 : Cond.code yX8_row cX8_row 2 (some .int) ∈ G := inG (inT2 200 rfl) rfl
theorem kw_681 : Cond.methodLink "BagTreeLaw" 68 yX9_row ∈ G := inG (inT4 145 rfl) rfl
theorem kw_682 : Cond.instanceMethod yX9_row ∈ G := inG (inT4 146 rfl) rfl
theorem kw_683 : Cond.selects yX9_row.cls yX9_row yX9_row ∈ G := inG (inT4 147 rfl) rfl
theorem kw_684 : Cond.code yX9_row cX9_row 2 (some .int) ∈ G := inG (inT4 148 rfl) rfl
theorem kw_685 : Cond.methodLink "BagTreeLaw" 69 yX8_below ∈ G := inG (inT2 201 rfl) rfl
theorem kw_686 : Cond.instanceMethod yX8_below ∈ G := inG (inT2 202 rfl) rfl
theorem kw_687 : Cond.selects yX8_below.cls yX8_below yX8_below ∈ G := inG (inT2 203 rfl) rfl
theorem kw_688 : Cond.code yX8_below cX8_below 1 (some .int) ∈ G := inG (inT2 204 rfl) rfl
theorem kw_689 : Cond.methodLink "BagTreeLaw" 72 yX9_below ∈ G := inG (inT4 189 rfl) rfl
theorem kw_690 : Cond.instanceMethod yX9_below ∈ G := inG (inT4 190 rfl) rfl
theorem kw_691 : Cond.selects yX9_below.cls yX9_below yX9_below ∈ G := inG (inT4 191 rfl) rfl
theorem kw_692 : Cond.code yX9_below cX9_below 5 (some .int) ∈ G := inG (inT4 192 rfl) rfl
theorem kw_693 : Cond.methodLink "BagTreeLaw" 73 yX8_clear ∈ G := inG (inT2 205 rfl) rfl
theorem kw_694 : Cond.instanceMethod yX8_clear ∈ G := inG (inT2 206 rfl) rfl
theorem kw_695 : Cond.selects yX8_clear.cls yX8_clear yX8_clear ∈ G := inG (inT2 207 rfl) rfl
theorem kw_696 : Cond.code yX8_clear cX8_clear 2 (some .int) ∈ G := inG (inT2 208 rfl) rfl
theorem kw_697 : Cond.methodLink "BagTreeLaw" 76 yX9_clear ∈ G := inG (inT4 193 rfl) rfl
theorem kw_698 : Cond.instanceMethod yX9_clear ∈ G := inG (inT4 194 rfl) rfl
theorem kw_699 : Cond.selects yX9_clear.cls yX9_clear yX9_clear ∈ G := inG (inT4 195 rfl) rfl
theorem kw_700 : Cond.code yX9_clear cX9_clear 2 (some .int) ∈ G := inG (inT4 196 rfl) rfl
theorem kw_701 : Cond.methodLink "BagTreeLaw" 77 yX8_bag ∈ G := inG (inT2 209 rfl) rfl
theorem kw_702 : Cond.instanceMethod yX8_bag ∈ G := inG (inT2 210 rfl) rfl
theorem kw_703 : Cond.selects yX8_bag.cls yX8_bag yX8_bag ∈ G := inG (inT2 211 rfl) rfl
theorem kw_704 : Cond.code yX8_bag cX8_bag 2 (some .int) ∈ G := inG (inT2 212 rfl) rfl
theorem kw_705 : Cond.methodLink "BagTreeLaw" 80 yX9_bag ∈ G := inG (inT4 197 rfl) rfl
theorem kw_706 : Cond.instanceMethod yX9_bag ∈ G := inG (inT4 198 rfl) rfl
theorem kw_707 : Cond.selects yX9_bag.cls yX9_bag yX9_bag ∈ G := inG (inT4 199 rfl) rfl
theorem kw_708 : Cond.code yX9_bag cX9_bag 2 (some .int) ∈ G := inG (inT4 200 rfl) rfl
theorem kw_709 : Cond.methodLink "BagTreeLaw" 81 yX8_hang ∈ G := inG (inT2 218 rfl) rfl
theorem kw_710 : Cond.instanceMethod yX8_hang ∈ G := inG (inT2 219 rfl) rfl
theorem kw_711 : Cond.selects yX8_hang.cls yX8_hang yX8_hang ∈ G := inG (inT2 220 rfl) rfl
theorem kw_712 : Cond.code yX8_hang cX8_hang 4 (some .int) ∈ G := inG (inT2 221 rfl) rfl
theorem kw_713 : Cond.methodLink "BagTreeLaw" 84 yX9_hang ∈ G := inG (inT4 201 rfl) rfl
theorem kw_714 : Cond.instanceMethod yX9_hang ∈ G := inG (inT4 202 rfl) rfl
theorem kw_715 : Cond.selects yX9_hang.cls yX9_hang yX9_hang ∈ G := inG (inT4 203 rfl) rfl
theorem kw_716 : Cond.code yX9_hang cX9_hang 4 (some .int) ∈ G := inG (inT4 204 rfl) rfl
theorem kw_717 : Cond.methodLink "BagTreeLaw" 85 yX8_bagged ∈ G := inG (inT2 226 rfl) rfl
theorem kw_718 : Cond.instanceMethod yX8_bagged ∈ G := inG (inT2 227 rfl) rfl
theorem kw_719 : Cond.selects yX8_bagged.cls yX8_bagged yX8_bagged ∈ G := inG (inT2 228 rfl) rfl
theorem kw_720 : Cond.code yX8_bagged cX8_bagged 3 (some .int) ∈ G := inG (inT2 229 rfl) rfl
theorem kw_721 : Cond.methodLink "BagTreeLaw" 88 yX9_bagged ∈ G := inG (inT4 205 rfl) rfl
theorem kw_722 : Cond.instanceMethod yX9_bagged ∈ G := inG (inT4 206 rfl) rfl
theorem kw_723 : Cond.selects yX9_bagged.cls yX9_bagged yX9_bagged ∈ G := inG (inT4 207 rfl) rfl
theorem kw_724 : Cond.code yX9_bagged cX9_bagged 5 (some .int) ∈ G := inG (inT4 208 rfl) rfl
theorem kw_725 : Cond.methodLink "BagTreeLaw" 89 yX8_sound ∈ G := inG (inT2 234 rfl) rfl
theorem kw_726 : Cond.instanceMethod yX8_sound ∈ G := inG (inT2 235 rfl) rfl
theorem kw_727 : Cond.selects yX8_sound.cls yX8_sound yX8_sound ∈ G := inG (inT2 236 rfl) rfl
theorem kw_728 : Cond.code yX8_sound cX8_sound 1 (some .int) ∈ G := inG (inT2 237 rfl) rfl
theorem kw_729 : Cond.methodLink "BagTreeLaw" 92 yX9_sound ∈ G := inG (inT4 209 rfl) rfl
theorem kw_730 : Cond.methodLink "BagTreeLaw" 93 yX8_width ∈ G := inG (inT3 25 rfl) rfl
theorem kw_731 : Cond.instanceMethod yX8_width ∈ G := inG (inT3 26 rfl) rfl
theorem kw_732 : Cond.selects yX8_width.cls yX8_width yX8_width ∈ G := inG (inT3 27 rfl) rfl
theorem kw_733 : Cond.code yX8_width cX8_width 1 (some .int) ∈ G := inG (inT3 28 rfl) rfl
theorem kw_734 : Cond.methodLink "BagTreeLaw" 96 yX9_width ∈ G := inG (inT4 217 rfl) rfl
theorem kw_735 : Cond.methodLink "BagTreeLaw" 97 yX8_separator ∈ G := inG (inT3 29 rfl) rfl
theorem kw_736 : Cond.instanceMethod yX8_separator ∈ G := inG (inT3 30 rfl) rfl
theorem kw_737 : Cond.selects yX8_separator.cls yX8_separator yX8_separator ∈ G := inG (inT3 31 rfl) rfl
theorem kw_738 : Cond.code yX8_separator cX8_separator 2 (some .int) ∈ G := inG (inT3 32 rfl) rfl
theorem kw_739 : Cond.methodLink "BagTreeLaw" 100 yX9_separator ∈ G := inG (inT4 218 rfl) rfl
theorem kw_740 : Cond.instanceMethod yX9_separator ∈ G := inG (inT4 219 rfl) rfl
theorem kw_741 : Cond.selects yX9_separator.cls yX9_separator yX9_separator ∈ G := inG (inT4 220 rfl) rfl
theorem kw_742 : Cond.code yX9_separator cX9_separator 7 (some .int) ∈ G := inG (inT4 221 rfl) rfl
theorem kw_743 : Cond.methodLink "BagTreeLaw" 101 yX8_states ∈ G := inG (inT3 47 rfl) rfl
theorem kw_744 : Cond.instanceMethod yX8_states ∈ G := inG (inT3 48 rfl) rfl
theorem kw_745 : Cond.selects yX8_states.cls yX8_states yX8_states ∈ G := inG (inT3 49 rfl) rfl
theorem kw_746 : Cond.code yX8_states cX8_states 3 (some .int) ∈ G := inG (inT3 50 rfl) rfl
theorem kw_747 : Cond.methodLink "BagTreeLaw" 104 yX9_states ∈ G := inG (inT4 223 rfl) rfl
theorem kw_748 : Cond.instanceMethod yX9_states ∈ G := inG (inT4 224 rfl) rfl
theorem kw_749 : Cond.selects yX9_states.cls yX9_states yX9_states ∈ G := inG (inT4 225 rfl) rfl
theorem kw_750 : Cond.code yX9_states cX9_states 4 (some .int) ∈ G := inG (inT4 226 rfl) rfl
theorem kw_751 : Cond.methodLink "BagTreeLaw" 105 yX8_factor ∈ G := inG (inT3 55 rfl) rfl
theorem kw_752 : Cond.instanceMethod yX8_factor ∈ G := inG (inT3 56 rfl) rfl
theorem kw_753 : Cond.selects yX8_factor.cls yX8_factor yX8_factor ∈ G := inG (inT3 57 rfl) rfl
theorem kw_754 : Cond.code yX8_factor cX8_factor 4 (some .int) ∈ G := inG (inT3 58 rfl) rfl
theorem kw_755 : Cond.methodLink "BagTreeLaw" 108 yX9_factor ∈ G := inG (inT4 227 rfl) rfl
theorem kw_756 : Cond.instanceMethod yX9_factor ∈ G := inG (inT4 228 rfl) rfl
theorem kw_757 : Cond.selects yX9_factor.cls yX9_factor yX9_factor ∈ G := inG (inT4 229 rfl) rfl
theorem kw_758 : Cond.code yX9_factor cX9_factor 4 (some .int) ∈ G := inG (inT4 230 rfl) rfl
theorem kw_759 : Cond.methodLink "BagTreeLaw" 109 yX8_pair ∈ G := inG (inT3 66 rfl) rfl
theorem kw_760 : Cond.instanceMethod yX8_pair ∈ G := inG (inT3 67 rfl) rfl
theorem kw_761 : Cond.selects yX8_pair.cls yX8_pair yX8_pair ∈ G := inG (inT3 68 rfl) rfl
theorem kw_762 : Cond.code yX8_pair cX8_pair 6 (some .int) ∈ G := inG (inT3 69 rfl) rfl
theorem kw_763 : Cond.methodLink "BagTreeLaw" 113 yX9_pair ∈ G := inG (inT4 239 rfl) rfl
theorem kw_764 : Cond.instanceMethod yX9_pair ∈ G := inG (inT5 0 rfl) rfl
theorem kw_765 : Cond.selects yX9_pair.cls yX9_pair yX9_pair ∈ G := inG (inT5 1 rfl) rfl
theorem kw_766 : Cond.code yX9_pair cX9_pair 6 (some .int) ∈ G := inG (inT5 2 rfl) rfl
theorem kw_767 : Cond.methodLink "BagTreeLaw" 114 yX8_forbid ∈ G := inG (inT3 74 rfl) rfl
theorem kw_768 : Cond.instanceMethod yX8_forbid ∈ G := inG (inT3 75 rfl) rfl
theorem kw_769 : Cond.selects yX8_forbid.cls yX8_forbid yX8_forbid ∈ G := inG (inT3 76 rfl) rfl
theorem kw_770 : Cond.code yX8_forbid cX8_forbid 4 (some .int) ∈ G := inG (inT3 77 rfl) rfl
theorem kw_771 : Cond.methodLink "BagTreeLaw" 117 yX9_forbid ∈ G := inG (inT5 3 rfl) rfl
theorem kw_772 : Cond.instanceMethod yX9_forbid ∈ G := inG (inT5 4 rfl) rfl
theorem kw_773 : Cond.selects yX9_forbid.cls yX9_forbid yX9_forbid ∈ G := inG (inT5 5 rfl) rfl
theorem kw_774 : Cond.code yX9_forbid cX9_forbid 4 (some .int) ∈ G := inG (inT5 6 rfl) rfl
theorem kw_775 : Cond.methodLink "BagTreeLaw" 122 yX9_ways ∈ G := inG (inT5 7 rfl) rfl
theorem kw_776 : Cond.instanceMethod yX9_ways ∈ G := inG (inT5 8 rfl) rfl
theorem kw_777 : Cond.selects yX9_ways.cls yX9_ways yX9_ways ∈ G := inG (inT5 9 rfl) rfl
theorem kw_778 : Cond.code yX9_ways cX9_ways 1 (some .long) ∈ G := inG (inT5 10 rfl) rfl
theorem kw_779 : Cond.methodLink "BagTreeLaw" 118 yX8_ways ∈ G := inG (inT3 78 rfl) rfl
theorem kw_780 : Cond.instanceMethod yX8_ways ∈ G := inG (inT3 79 rfl) rfl
theorem kw_781 : Cond.selects yX8_ways.cls yX8_ways yX8_ways ∈ G := inG (inT3 80 rfl) rfl
theorem kw_782 : Cond.code yX8_ways cX8_ways 2 (some .long) ∈ G := inG (inT3 81 rfl) rfl
theorem kw_783 : Cond.methodLink "BagTreeLaw" 127 yX9_best ∈ G := inG (inT5 48 rfl) rfl
theorem kw_784 : Cond.instanceMethod yX9_best ∈ G := inG (inT5 49 rfl) rfl
theorem kw_785 : Cond.selects yX9_best.cls yX9_best yX9_best ∈ G := inG (inT5 50 rfl) rfl
theorem kw_786 : Cond.code yX9_best cX9_best 2 (some .long) ∈ G := inG (inT5 51 rfl) rfl
theorem kw_787 : Cond.methodLink "BagTreeLaw" 123 yX8_best ∈ G := inG (inT3 225 rfl) rfl
theorem kw_788 : Cond.instanceMethod yX8_best ∈ G := inG (inT3 226 rfl) rfl
theorem kw_789 : Cond.selects yX8_best.cls yX8_best yX8_best ∈ G := inG (inT3 227 rfl) rfl
theorem kw_790 : Cond.code yX8_best cX8_best 3 (some .long) ∈ G := inG (inT3 228 rfl) rfl
theorem kw_791 : Cond.methodLink "BagTreeLaw" 131 yX9_bests ∈ G := inG (inT5 52 rfl) rfl
theorem kw_792 : Cond.instanceMethod yX9_bests ∈ G := inG (inT5 53 rfl) rfl
theorem kw_793 : Cond.selects yX9_bests.cls yX9_bests yX9_bests ∈ G := inG (inT5 54 rfl) rfl
theorem kw_794 : Cond.code yX9_bests cX9_bests 2 (some .long) ∈ G := inG (inT5 55 rfl) rfl
theorem kw_795 : Cond.methodLink "BagTreeLaw" 128 yX8_bests ∈ G := inG (inT3 232 rfl) rfl
theorem kw_796 : Cond.instanceMethod yX8_bests ∈ G := inG (inT3 233 rfl) rfl
theorem kw_797 : Cond.selects yX8_bests.cls yX8_bests yX8_bests ∈ G := inG (inT3 234 rfl) rfl
theorem kw_798 : Cond.code yX8_bests cX8_bests 3 (some .long) ∈ G := inG (inT3 235 rfl) rfl
theorem kw_799 : Cond.methodLink "BagTreeLaw" 136 yX9_choice ∈ G := inG (inT5 56 rfl) rfl
theorem kw_800 : Cond.instanceMethod yX9_choice ∈ G := inG (inT5 57 rfl) rfl
theorem kw_801 : Cond.selects yX9_choice.cls yX9_choice yX9_choice ∈ G := inG (inT5 58 rfl) rfl
theorem kw_802 : Cond.code yX9_choice cX9_choice 8 (some .int) ∈ G := inG (inT5 59 rfl) rfl
theorem kw_803 : Cond.methodLink "BagTreeLaw" 132 yX8_choice ∈ G := inG (inT3 236 rfl) rfl
theorem kw_804 : Cond.instanceMethod yX8_choice ∈ G := inG (inT3 237 rfl) rfl
theorem kw_805 : Cond.selects yX8_choice.cls yX8_choice yX8_choice ∈ G := inG (inT3 238 rfl) rfl
theorem kw_806 : Cond.code yX8_choice cX8_choice 3 (some .int) ∈ G := inG (inT3 239 rfl) rfl
theorem kw_807 : Cond.constantLong "BagTreeLaw" 137 (4294967295) ∈ G := inG (inT5 72 rfl) rfl
theorem kw_808 : Cond.methodLink "BagTreeLaw" 143 yX9_drawn ∈ G := inG (inT5 60 rfl) rfl
theorem kw_809 : Cond.instanceMethod yX9_drawn ∈ G := inG (inT5 61 rfl) rfl
theorem kw_810 : Cond.selects yX9_drawn.cls yX9_drawn yX9_drawn ∈ G := inG (inT5 62 rfl) rfl
theorem kw_811 : Cond.code yX9_drawn cX9_drawn 9 (some .int) ∈ G := inG (inT5 63 rfl) rfl
theorem kw_812 : Cond.methodLink "BagTreeLaw" 139 yX8_drawn ∈ G := inG (inT4 9 rfl) rfl
theorem kw_813 : Cond.instanceMethod yX8_drawn ∈ G := inG (inT4 10 rfl) rfl
theorem kw_814 : Cond.selects yX8_drawn.cls yX8_drawn yX8_drawn ∈ G := inG (inT4 11 rfl) rfl
theorem kw_815 : Cond.code yX8_drawn cX8_drawn 4 (some .int) ∈ G := inG (inT4 12 rfl) rfl
theorem kw_816 : Cond.methodLink "BagTreeLaw" 148 yX9_share ∈ G := inG (inT5 64 rfl) rfl
theorem kw_817 : Cond.instanceMethod yX9_share ∈ G := inG (inT5 65 rfl) rfl
theorem kw_818 : Cond.selects yX9_share.cls yX9_share yX9_share ∈ G := inG (inT5 66 rfl) rfl
theorem kw_819 : Cond.code yX9_share cX9_share 3 (some .long) ∈ G := inG (inT5 67 rfl) rfl
theorem kw_820 : Cond.methodLink "BagTreeLaw" 144 yX8_share ∈ G := inG (inT4 13 rfl) rfl
theorem kw_821 : Cond.instanceMethod yX8_share ∈ G := inG (inT4 14 rfl) rfl
theorem kw_822 : Cond.selects yX8_share.cls yX8_share yX8_share ∈ G := inG (inT4 15 rfl) rfl
theorem kw_823 : Cond.code yX8_share cX8_share 4 (some .long) ∈ G := inG (inT4 16 rfl) rfl
theorem kw_824 : Cond.methodLink "BagTreeLaw" 149 yX8_count ∈ G := inG (inT4 17 rfl) rfl
theorem kw_825 : Cond.instanceMethod yX8_count ∈ G := inG (inT4 18 rfl) rfl
theorem kw_826 : Cond.selects yX8_count.cls yX8_count yX8_count ∈ G := inG (inT4 19 rfl) rfl
theorem kw_827 : Cond.code yX8_count cX8_count 2 (some .int) ∈ G := inG (inT4 20 rfl) rfl
theorem kw_828 : Cond.methodLink "BagTreeLaw" 152 yX9_count ∈ G := inG (inT5 68 rfl) rfl
theorem kw_829 : Cond.instanceMethod yX9_count ∈ G := inG (inT5 69 rfl) rfl
theorem kw_830 : Cond.selects yX9_count.cls yX9_count yX9_count ∈ G := inG (inT5 70 rfl) rfl
theorem kw_831 : Cond.code yX9_count cX9_count 4 (some .int) ∈ G := inG (inT5 71 rfl) rfl
theorem kw_832 : Cond.classLink "BagTreeLaw" 7 RX8 ∈ G := inG (inT1 15 rfl) rfl
theorem kw_833 : Cond.instantiable RX8 8 ∈ G := inG (inT1 16 rfl) rfl
theorem kw_834 : Cond.methodLink "BagTreeLaw" 9 yX8_init ∈ G := inG (inT1 17 rfl) rfl
theorem kw_835 : Cond.instanceMethod yX8_init ∈ G := inG (inT1 18 rfl) rfl
theorem kw_836 : Cond.code yX8_init cX8_init 1 none ∈ G := inG (inT1 19 rfl) rfl
theorem kw_837 : Cond.classLink "BagTreeLaw" 10 RX9 ∈ G := inG (inT4 21 rfl) rfl
theorem kw_838 : Cond.instantiable RX9 23 ∈ G := inG (inT4 22 rfl) rfl
theorem kw_839 : Cond.methodLink "BagTreeLaw" 12 yX9_init ∈ G := inG (inT4 23 rfl) rfl
theorem kw_840 : Cond.instanceMethod yX9_init ∈ G := inG (inT4 24 rfl) rfl
theorem kw_841 : Cond.code yX9_init cX9_init 1 none ∈ G := inG (inT4 25 rfl) rfl
theorem ok_X8_bag : okY yX8_bag 1 := by decide +kernel
theorem ok_X8_bagged : okY yX8_bagged 2 := by decide +kernel
theorem ok_X8_below : okY yX8_below 0 := by decide +kernel
theorem ok_X8_beside : okY yX8_beside 1 := by decide +kernel
theorem ok_X8_best : okY yX8_best 1 := by decide +kernel
theorem ok_X8_bests : okY yX8_bests 1 := by decide +kernel
theorem ok_X8_choice : okY yX8_choice 2 := by decide +kernel
theorem ok_X8_clear : okY yX8_clear 0 := by decide +kernel
theorem ok_X8_count : okY yX8_count 1 := by decide +kernel
theorem ok_X8_cut : okY yX8_cut 2 := by decide +kernel
theorem ok_X8_drawn : okY yX8_drawn 2 := by decide +kernel
theorem ok_X8_edge : okY yX8_edge 3 := by decide +kernel
theorem ok_X8_factor : okY yX8_factor 2 := by decide +kernel
theorem ok_X8_fewest : okY yX8_fewest 0 := by decide +kernel
theorem ok_X8_fills : okY yX8_fills 0 := by decide +kernel
theorem ok_X8_forbid : okY yX8_forbid 2 := by decide +kernel
theorem ok_X8_hang : okY yX8_hang 2 := by decide +kernel
theorem ok_X8_init : okY yX8_init 0 := by decide +kernel
theorem ok_X8_knot : okY yX8_knot 1 := by decide +kernel
theorem ok_X8_least : okY yX8_least 0 := by decide +kernel
theorem ok_X8_make : okY yX8_make 0 := by decide +kernel
theorem ok_X8_pair : okY yX8_pair 4 := by decide +kernel
theorem ok_X8_put : okY yX8_put 1 := by decide +kernel
theorem ok_X8_row : okY yX8_row 1 := by decide +kernel
theorem ok_X8_separator : okY yX8_separator 0 := by decide +kernel
theorem ok_X8_share : okY yX8_share 2 := by decide +kernel
theorem ok_X8_sound : okY yX8_sound 0 := by decide +kernel
theorem ok_X8_states : okY yX8_states 1 := by decide +kernel
theorem ok_X8_ways : okY yX8_ways 0 := by decide +kernel
theorem ok_X8_weigh : okY yX8_weigh 2 := by decide +kernel
theorem ok_X8_weight : okY yX8_weight 2 := by decide +kernel
theorem ok_X8_width : okY yX8_width 0 := by decide +kernel
theorem ok_X8_wipe : okY yX8_wipe 0 := by decide +kernel
theorem ok_X9_bag : okY yX9_bag 1 := by decide +kernel
theorem ok_X9_bagged : okY yX9_bagged 2 := by decide +kernel
theorem ok_X9_below : okY yX9_below 0 := by decide +kernel
theorem ok_X9_beside : okY yX9_beside 1 := by decide +kernel
theorem ok_X9_best : okY yX9_best 1 := by decide +kernel
theorem ok_X9_bests : okY yX9_bests 1 := by decide +kernel
theorem ok_X9_choice : okY yX9_choice 2 := by decide +kernel
theorem ok_X9_clear : okY yX9_clear 0 := by decide +kernel
theorem ok_X9_count : okY yX9_count 1 := by decide +kernel
theorem ok_X9_cut : okY yX9_cut 2 := by decide +kernel
theorem ok_X9_drawn : okY yX9_drawn 2 := by decide +kernel
theorem ok_X9_edge : okY yX9_edge 3 := by decide +kernel
theorem ok_X9_factor : okY yX9_factor 2 := by decide +kernel
theorem ok_X9_fewest : okY yX9_fewest 0 := by decide +kernel
theorem ok_X9_fills : okY yX9_fills 0 := by decide +kernel
theorem ok_X9_forbid : okY yX9_forbid 2 := by decide +kernel
theorem ok_X9_hang : okY yX9_hang 2 := by decide +kernel
theorem ok_X9_init : okY yX9_init 0 := by decide +kernel
theorem ok_X9_knot : okY yX9_knot 1 := by decide +kernel
theorem ok_X9_least : okY yX9_least 0 := by decide +kernel
theorem ok_X9_make : okY yX9_make 0 := by decide +kernel
theorem ok_X9_pair : okY yX9_pair 4 := by decide +kernel
theorem ok_X9_put : okY yX9_put 1 := by decide +kernel
theorem ok_X9_row : okY yX9_row 1 := by decide +kernel
theorem ok_X9_separator : okY yX9_separator 0 := by decide +kernel
theorem ok_X9_share : okY yX9_share 2 := by decide +kernel
theorem ok_X9_states : okY yX9_states 1 := by decide +kernel
theorem ok_X9_ways : okY yX9_ways 0 := by decide +kernel
theorem ok_X9_weigh : okY yX9_weigh 2 := by decide +kernel
theorem ok_X9_weight : okY yX9_weight 2 := by decide +kernel
theorem ok_X9_wipe : okY yX9_wipe 0 := by decide +kernel
theorem dL_law_0 : decode cL_law 0 = .ok (.new 7, 3) := by decide +kernel
theorem dL_law_3 : decode cL_law 3 = .ok (.dup, 1) := by decide +kernel
theorem dL_law_4 : decode cL_law 4 = .ok (.invokespecial 9, 3) := by decide +kernel
theorem dL_law_7 : decode cL_law 7 = .ok (.astore_n 1, 1) := by decide +kernel
theorem dL_law_8 : decode cL_law 8 = .ok (.new 10, 3) := by decide +kernel
theorem dL_law_11 : decode cL_law 11 = .ok (.dup, 1) := by decide +kernel
theorem dL_law_12 : decode cL_law 12 = .ok (.invokespecial 12, 3) := by decide +kernel
theorem dL_law_15 : decode cL_law 15 = .ok (.astore_n 2, 1) := by decide +kernel
theorem dL_law_16 : decode cL_law 16 = .ok (.iconst 0, 1) := by decide +kernel
theorem dL_law_17 : decode cL_law 17 = .ok (.istore_n 3, 1) := by decide +kernel
theorem dL_law_18 : decode cL_law 18 = .ok (.iload_n 3, 1) := by decide +kernel
theorem dL_law_19 : decode cL_law 19 = .ok (.aload_n 0, 1) := by decide +kernel
theorem dL_law_20 : decode cL_law 20 = .ok (.arraylength, 1) := by decide +kernel
theorem dL_law_21 : decode cL_law 21 = .ok (.iconst 5, 1) := by decide +kernel
theorem dL_law_22 : decode cL_law 22 = .ok (.isub, 1) := by decide +kernel
theorem dL_law_23 : decode cL_law 23 = .ok (.if_icmp .gt 1013, 3) := by decide +kernel
theorem dL_law_26 : decode cL_law 26 = .ok (.aload_n 0, 1) := by decide +kernel
theorem dL_law_27 : decode cL_law 27 = .ok (.iload_n 3, 1) := by decide +kernel
theorem dL_law_28 : decode cL_law 28 = .ok (.iaload, 1) := by decide +kernel
theorem dL_law_29 : decode cL_law 29 = .ok (.bipush 31, 2) := by decide +kernel
theorem dL_law_31 : decode cL_law 31 = .ok (.iand, 1) := by decide +kernel
theorem dL_law_32 : decode cL_law 32 = .ok (.tableswitch 998 0 31 #[144, 167, 210, 243, 276, 309, 332, 355, 368, 381, 394, 407, 420, 443, 456, 469, 492, 525, 558, 571, 584, 597, 620, 653, 706, 739, 752, 791, 830, 879, 942, 975], 144) := by decide +kernel
theorem dL_law_176 : decode cL_law 176 = .ok (.aload_n 1, 1) := by decide +kernel
theorem dL_law_177 : decode cL_law 177 = .ok (.aload_n 0, 1) := by decide +kernel
theorem dL_law_178 : decode cL_law 178 = .ok (.iload_n 3, 1) := by decide +kernel
theorem dL_law_179 : decode cL_law 179 = .ok (.iconst 1, 1) := by decide +kernel
theorem dL_law_180 : decode cL_law 180 = .ok (.iadd, 1) := by decide +kernel
theorem dL_law_181 : decode cL_law 181 = .ok (.iaload, 1) := by decide +kernel
theorem dL_law_182 : decode cL_law 182 = .ok (.invokevirtual 13, 3) := by decide +kernel
theorem dL_law_185 : decode cL_law 185 = .ok (.pop, 1) := by decide +kernel
theorem dL_law_186 : decode cL_law 186 = .ok (.aload_n 2, 1) := by decide +kernel
theorem dL_law_187 : decode cL_law 187 = .ok (.aload_n 0, 1) := by decide +kernel
theorem dL_law_188 : decode cL_law 188 = .ok (.iload_n 3, 1) := by decide +kernel
theorem dL_law_189 : decode cL_law 189 = .ok (.iconst 1, 1) := by decide +kernel
theorem dL_law_190 : decode cL_law 190 = .ok (.iadd, 1) := by decide +kernel
theorem dL_law_191 : decode cL_law 191 = .ok (.iaload, 1) := by decide +kernel
theorem dL_law_192 : decode cL_law 192 = .ok (.invokevirtual 17, 3) := by decide +kernel
theorem dL_law_195 : decode cL_law 195 = .ok (.pop, 1) := by decide +kernel
theorem dL_law_196 : decode cL_law 196 = .ok (.goto 834, 3) := by decide +kernel
theorem dL_law_199 : decode cL_law 199 = .ok (.aload_n 1, 1) := by decide +kernel
theorem dL_law_200 : decode cL_law 200 = .ok (.aload_n 0, 1) := by decide +kernel
theorem dL_law_201 : decode cL_law 201 = .ok (.iload_n 3, 1) := by decide +kernel
theorem dL_law_202 : decode cL_law 202 = .ok (.iconst 1, 1) := by decide +kernel
theorem dL_law_203 : decode cL_law 203 = .ok (.iadd, 1) := by decide +kernel
theorem dL_law_204 : decode cL_law 204 = .ok (.iaload, 1) := by decide +kernel
theorem dL_law_205 : decode cL_law 205 = .ok (.aload_n 0, 1) := by decide +kernel
theorem dL_law_206 : decode cL_law 206 = .ok (.iload_n 3, 1) := by decide +kernel
theorem dL_law_207 : decode cL_law 207 = .ok (.iconst 2, 1) := by decide +kernel
theorem dL_law_208 : decode cL_law 208 = .ok (.iadd, 1) := by decide +kernel
theorem dL_law_209 : decode cL_law 209 = .ok (.iaload, 1) := by decide +kernel
theorem dL_law_210 : decode cL_law 210 = .ok (.aload_n 0, 1) := by decide +kernel
theorem dL_law_211 : decode cL_law 211 = .ok (.iload_n 3, 1) := by decide +kernel
theorem dL_law_212 : decode cL_law 212 = .ok (.iconst 3, 1) := by decide +kernel
theorem dL_law_213 : decode cL_law 213 = .ok (.iadd, 1) := by decide +kernel
theorem dL_law_214 : decode cL_law 214 = .ok (.iaload, 1) := by decide +kernel
theorem dL_law_215 : decode cL_law 215 = .ok (.invokevirtual 18, 3) := by decide +kernel
theorem dL_law_218 : decode cL_law 218 = .ok (.pop, 1) := by decide +kernel
theorem dL_law_219 : decode cL_law 219 = .ok (.aload_n 2, 1) := by decide +kernel
theorem dL_law_220 : decode cL_law 220 = .ok (.aload_n 0, 1) := by decide +kernel
theorem dL_law_221 : decode cL_law 221 = .ok (.iload_n 3, 1) := by decide +kernel
theorem dL_law_222 : decode cL_law 222 = .ok (.iconst 1, 1) := by decide +kernel
theorem dL_law_223 : decode cL_law 223 = .ok (.iadd, 1) := by decide +kernel
theorem dL_law_224 : decode cL_law 224 = .ok (.iaload, 1) := by decide +kernel
theorem dL_law_225 : decode cL_law 225 = .ok (.aload_n 0, 1) := by decide +kernel
theorem dL_law_226 : decode cL_law 226 = .ok (.iload_n 3, 1) := by decide +kernel
theorem dL_law_227 : decode cL_law 227 = .ok (.iconst 2, 1) := by decide +kernel
theorem dL_law_228 : decode cL_law 228 = .ok (.iadd, 1) := by decide +kernel
theorem dL_law_229 : decode cL_law 229 = .ok (.iaload, 1) := by decide +kernel
theorem dL_law_230 : decode cL_law 230 = .ok (.aload_n 0, 1) := by decide +kernel
theorem dL_law_231 : decode cL_law 231 = .ok (.iload_n 3, 1) := by decide +kernel
theorem dL_law_232 : decode cL_law 232 = .ok (.iconst 3, 1) := by decide +kernel
theorem dL_law_233 : decode cL_law 233 = .ok (.iadd, 1) := by decide +kernel
theorem dL_law_234 : decode cL_law 234 = .ok (.iaload, 1) := by decide +kernel
theorem dL_law_235 : decode cL_law 235 = .ok (.invokevirtual 22, 3) := by decide +kernel
theorem dL_law_238 : decode cL_law 238 = .ok (.pop, 1) := by decide +kernel
theorem dL_law_239 : decode cL_law 239 = .ok (.goto 791, 3) := by decide +kernel
theorem dL_law_242 : decode cL_law 242 = .ok (.aload_n 1, 1) := by decide +kernel
theorem dL_law_243 : decode cL_law 243 = .ok (.aload_n 0, 1) := by decide +kernel
theorem dL_law_244 : decode cL_law 244 = .ok (.iload_n 3, 1) := by decide +kernel
theorem dL_law_245 : decode cL_law 245 = .ok (.iconst 1, 1) := by decide +kernel
theorem dL_law_246 : decode cL_law 246 = .ok (.iadd, 1) := by decide +kernel
theorem dL_law_247 : decode cL_law 247 = .ok (.iaload, 1) := by decide +kernel
theorem dL_law_248 : decode cL_law 248 = .ok (.aload_n 0, 1) := by decide +kernel
theorem dL_law_249 : decode cL_law 249 = .ok (.iload_n 3, 1) := by decide +kernel
theorem dL_law_250 : decode cL_law 250 = .ok (.iconst 2, 1) := by decide +kernel
theorem dL_law_251 : decode cL_law 251 = .ok (.iadd, 1) := by decide +kernel
theorem dL_law_252 : decode cL_law 252 = .ok (.iaload, 1) := by decide +kernel
theorem dL_law_253 : decode cL_law 253 = .ok (.invokevirtual 23, 3) := by decide +kernel
theorem dL_law_256 : decode cL_law 256 = .ok (.pop, 1) := by decide +kernel
theorem dL_law_257 : decode cL_law 257 = .ok (.aload_n 2, 1) := by decide +kernel
theorem dL_law_258 : decode cL_law 258 = .ok (.aload_n 0, 1) := by decide +kernel
theorem dL_law_259 : decode cL_law 259 = .ok (.iload_n 3, 1) := by decide +kernel
theorem dL_law_260 : decode cL_law 260 = .ok (.iconst 1, 1) := by decide +kernel
theorem dL_law_261 : decode cL_law 261 = .ok (.iadd, 1) := by decide +kernel
theorem dL_law_262 : decode cL_law 262 = .ok (.iaload, 1) := by decide +kernel
theorem dL_law_263 : decode cL_law 263 = .ok (.aload_n 0, 1) := by decide +kernel
theorem dL_law_264 : decode cL_law 264 = .ok (.iload_n 3, 1) := by decide +kernel
theorem dL_law_265 : decode cL_law 265 = .ok (.iconst 2, 1) := by decide +kernel
theorem dL_law_266 : decode cL_law 266 = .ok (.iadd, 1) := by decide +kernel
theorem dL_law_267 : decode cL_law 267 = .ok (.iaload, 1) := by decide +kernel
theorem dL_law_268 : decode cL_law 268 = .ok (.invokevirtual 27, 3) := by decide +kernel
theorem dL_law_271 : decode cL_law 271 = .ok (.pop, 1) := by decide +kernel
theorem dL_law_272 : decode cL_law 272 = .ok (.goto 758, 3) := by decide +kernel
theorem dL_law_275 : decode cL_law 275 = .ok (.aload_n 1, 1) := by decide +kernel
theorem dL_law_276 : decode cL_law 276 = .ok (.aload_n 0, 1) := by decide +kernel
theorem dL_law_277 : decode cL_law 277 = .ok (.iload_n 3, 1) := by decide +kernel
theorem dL_law_278 : decode cL_law 278 = .ok (.iconst 1, 1) := by decide +kernel
theorem dL_law_279 : decode cL_law 279 = .ok (.iadd, 1) := by decide +kernel
theorem dL_law_280 : decode cL_law 280 = .ok (.iaload, 1) := by decide +kernel
theorem dL_law_281 : decode cL_law 281 = .ok (.aload_n 0, 1) := by decide +kernel
theorem dL_law_282 : decode cL_law 282 = .ok (.iload_n 3, 1) := by decide +kernel
theorem dL_law_283 : decode cL_law 283 = .ok (.iconst 2, 1) := by decide +kernel
theorem dL_law_284 : decode cL_law 284 = .ok (.iadd, 1) := by decide +kernel
theorem dL_law_285 : decode cL_law 285 = .ok (.iaload, 1) := by decide +kernel
theorem dL_law_286 : decode cL_law 286 = .ok (.invokevirtual 28, 3) := by decide +kernel
theorem dL_law_289 : decode cL_law 289 = .ok (.pop, 1) := by decide +kernel
theorem dL_law_290 : decode cL_law 290 = .ok (.aload_n 2, 1) := by decide +kernel
theorem dL_law_291 : decode cL_law 291 = .ok (.aload_n 0, 1) := by decide +kernel
theorem dL_law_292 : decode cL_law 292 = .ok (.iload_n 3, 1) := by decide +kernel
theorem dL_law_293 : decode cL_law 293 = .ok (.iconst 1, 1) := by decide +kernel
theorem dL_law_294 : decode cL_law 294 = .ok (.iadd, 1) := by decide +kernel
theorem dL_law_295 : decode cL_law 295 = .ok (.iaload, 1) := by decide +kernel
theorem dL_law_296 : decode cL_law 296 = .ok (.aload_n 0, 1) := by decide +kernel
theorem dL_law_297 : decode cL_law 297 = .ok (.iload_n 3, 1) := by decide +kernel
theorem dL_law_298 : decode cL_law 298 = .ok (.iconst 2, 1) := by decide +kernel
theorem dL_law_299 : decode cL_law 299 = .ok (.iadd, 1) := by decide +kernel
theorem dL_law_300 : decode cL_law 300 = .ok (.iaload, 1) := by decide +kernel
theorem dL_law_301 : decode cL_law 301 = .ok (.invokevirtual 31, 3) := by decide +kernel
theorem dL_law_304 : decode cL_law 304 = .ok (.pop, 1) := by decide +kernel
theorem dL_law_305 : decode cL_law 305 = .ok (.goto 725, 3) := by decide +kernel
theorem dL_law_308 : decode cL_law 308 = .ok (.aload_n 1, 1) := by decide +kernel
theorem dL_law_309 : decode cL_law 309 = .ok (.aload_n 0, 1) := by decide +kernel
theorem dL_law_310 : decode cL_law 310 = .ok (.iload_n 3, 1) := by decide +kernel
theorem dL_law_311 : decode cL_law 311 = .ok (.iconst 1, 1) := by decide +kernel
theorem dL_law_312 : decode cL_law 312 = .ok (.iadd, 1) := by decide +kernel
theorem dL_law_313 : decode cL_law 313 = .ok (.iaload, 1) := by decide +kernel
theorem dL_law_314 : decode cL_law 314 = .ok (.aload_n 0, 1) := by decide +kernel
theorem dL_law_315 : decode cL_law 315 = .ok (.iload_n 3, 1) := by decide +kernel
theorem dL_law_316 : decode cL_law 316 = .ok (.iconst 2, 1) := by decide +kernel
theorem dL_law_317 : decode cL_law 317 = .ok (.iadd, 1) := by decide +kernel
theorem dL_law_318 : decode cL_law 318 = .ok (.iaload, 1) := by decide +kernel
theorem dL_law_319 : decode cL_law 319 = .ok (.invokevirtual 32, 3) := by decide +kernel
theorem dL_law_322 : decode cL_law 322 = .ok (.pop, 1) := by decide +kernel
theorem dL_law_323 : decode cL_law 323 = .ok (.aload_n 2, 1) := by decide +kernel
theorem dL_law_324 : decode cL_law 324 = .ok (.aload_n 0, 1) := by decide +kernel
theorem dL_law_325 : decode cL_law 325 = .ok (.iload_n 3, 1) := by decide +kernel
theorem dL_law_326 : decode cL_law 326 = .ok (.iconst 1, 1) := by decide +kernel
theorem dL_law_327 : decode cL_law 327 = .ok (.iadd, 1) := by decide +kernel
theorem dL_law_328 : decode cL_law 328 = .ok (.iaload, 1) := by decide +kernel
theorem dL_law_329 : decode cL_law 329 = .ok (.aload_n 0, 1) := by decide +kernel
theorem dL_law_330 : decode cL_law 330 = .ok (.iload_n 3, 1) := by decide +kernel
theorem dL_law_331 : decode cL_law 331 = .ok (.iconst 2, 1) := by decide +kernel
theorem dL_law_332 : decode cL_law 332 = .ok (.iadd, 1) := by decide +kernel
theorem dL_law_333 : decode cL_law 333 = .ok (.iaload, 1) := by decide +kernel
theorem dL_law_334 : decode cL_law 334 = .ok (.invokevirtual 35, 3) := by decide +kernel
theorem dL_law_337 : decode cL_law 337 = .ok (.pop, 1) := by decide +kernel
theorem dL_law_338 : decode cL_law 338 = .ok (.goto 692, 3) := by decide +kernel
theorem dL_law_341 : decode cL_law 341 = .ok (.aload_n 1, 1) := by decide +kernel
theorem dL_law_342 : decode cL_law 342 = .ok (.aload_n 0, 1) := by decide +kernel
theorem dL_law_343 : decode cL_law 343 = .ok (.iload_n 3, 1) := by decide +kernel
theorem dL_law_344 : decode cL_law 344 = .ok (.iconst 1, 1) := by decide +kernel
theorem dL_law_345 : decode cL_law 345 = .ok (.iadd, 1) := by decide +kernel
theorem dL_law_346 : decode cL_law 346 = .ok (.iaload, 1) := by decide +kernel
theorem dL_law_347 : decode cL_law 347 = .ok (.invokevirtual 36, 3) := by decide +kernel
theorem dL_law_350 : decode cL_law 350 = .ok (.pop, 1) := by decide +kernel
theorem dL_law_351 : decode cL_law 351 = .ok (.aload_n 2, 1) := by decide +kernel
theorem dL_law_352 : decode cL_law 352 = .ok (.aload_n 0, 1) := by decide +kernel
theorem dL_law_353 : decode cL_law 353 = .ok (.iload_n 3, 1) := by decide +kernel
theorem dL_law_354 : decode cL_law 354 = .ok (.iconst 1, 1) := by decide +kernel
theorem dL_law_355 : decode cL_law 355 = .ok (.iadd, 1) := by decide +kernel
theorem dL_law_356 : decode cL_law 356 = .ok (.iaload, 1) := by decide +kernel
theorem dL_law_357 : decode cL_law 357 = .ok (.invokevirtual 39, 3) := by decide +kernel
theorem dL_law_360 : decode cL_law 360 = .ok (.pop, 1) := by decide +kernel
theorem dL_law_361 : decode cL_law 361 = .ok (.goto 669, 3) := by decide +kernel
theorem dL_law_364 : decode cL_law 364 = .ok (.aload_n 1, 1) := by decide +kernel
theorem dL_law_365 : decode cL_law 365 = .ok (.aload_n 0, 1) := by decide +kernel
theorem dL_law_366 : decode cL_law 366 = .ok (.iload_n 3, 1) := by decide +kernel
theorem dL_law_367 : decode cL_law 367 = .ok (.iconst 1, 1) := by decide +kernel
theorem dL_law_368 : decode cL_law 368 = .ok (.iadd, 1) := by decide +kernel
theorem dL_law_369 : decode cL_law 369 = .ok (.iaload, 1) := by decide +kernel
theorem dL_law_370 : decode cL_law 370 = .ok (.invokevirtual 40, 3) := by decide +kernel
theorem dL_law_373 : decode cL_law 373 = .ok (.pop, 1) := by decide +kernel
theorem dL_law_374 : decode cL_law 374 = .ok (.aload_n 2, 1) := by decide +kernel
theorem dL_law_375 : decode cL_law 375 = .ok (.aload_n 0, 1) := by decide +kernel
theorem dL_law_376 : decode cL_law 376 = .ok (.iload_n 3, 1) := by decide +kernel
theorem dL_law_377 : decode cL_law 377 = .ok (.iconst 1, 1) := by decide +kernel
theorem dL_law_378 : decode cL_law 378 = .ok (.iadd, 1) := by decide +kernel
theorem dL_law_379 : decode cL_law 379 = .ok (.iaload, 1) := by decide +kernel
theorem dL_law_380 : decode cL_law 380 = .ok (.invokevirtual 43, 3) := by decide +kernel
theorem dL_law_383 : decode cL_law 383 = .ok (.pop, 1) := by decide +kernel
theorem dL_law_384 : decode cL_law 384 = .ok (.goto 646, 3) := by decide +kernel
theorem dL_law_387 : decode cL_law 387 = .ok (.aload_n 1, 1) := by decide +kernel
theorem dL_law_388 : decode cL_law 388 = .ok (.invokevirtual 44, 3) := by decide +kernel
theorem dL_law_391 : decode cL_law 391 = .ok (.pop, 1) := by decide +kernel
theorem dL_law_392 : decode cL_law 392 = .ok (.aload_n 2, 1) := by decide +kernel
theorem dL_law_393 : decode cL_law 393 = .ok (.invokevirtual 48, 3) := by decide +kernel
theorem dL_law_396 : decode cL_law 396 = .ok (.pop, 1) := by decide +kernel
theorem dL_law_397 : decode cL_law 397 = .ok (.goto 633, 3) := by decide +kernel
theorem dL_law_400 : decode cL_law 400 = .ok (.aload_n 1, 1) := by decide +kernel
theorem dL_law_401 : decode cL_law 401 = .ok (.invokevirtual 49, 3) := by decide +kernel
theorem dL_law_404 : decode cL_law 404 = .ok (.pop, 1) := by decide +kernel
theorem dL_law_405 : decode cL_law 405 = .ok (.aload_n 2, 1) := by decide +kernel
theorem dL_law_406 : decode cL_law 406 = .ok (.invokevirtual 52, 3) := by decide +kernel
theorem dL_law_409 : decode cL_law 409 = .ok (.pop, 1) := by decide +kernel
theorem dL_law_410 : decode cL_law 410 = .ok (.goto 620, 3) := by decide +kernel
theorem dL_law_413 : decode cL_law 413 = .ok (.aload_n 1, 1) := by decide +kernel
theorem dL_law_414 : decode cL_law 414 = .ok (.invokevirtual 53, 3) := by decide +kernel
theorem dL_law_417 : decode cL_law 417 = .ok (.pop, 1) := by decide +kernel
theorem dL_law_418 : decode cL_law 418 = .ok (.aload_n 2, 1) := by decide +kernel
theorem dL_law_419 : decode cL_law 419 = .ok (.invokevirtual 56, 3) := by decide +kernel
theorem dL_law_422 : decode cL_law 422 = .ok (.pop, 1) := by decide +kernel
theorem dL_law_423 : decode cL_law 423 = .ok (.goto 607, 3) := by decide +kernel
theorem dL_law_426 : decode cL_law 426 = .ok (.aload_n 1, 1) := by decide +kernel
theorem dL_law_427 : decode cL_law 427 = .ok (.invokevirtual 57, 3) := by decide +kernel
theorem dL_law_430 : decode cL_law 430 = .ok (.pop, 1) := by decide +kernel
theorem dL_law_431 : decode cL_law 431 = .ok (.aload_n 2, 1) := by decide +kernel
theorem dL_law_432 : decode cL_law 432 = .ok (.invokevirtual 60, 3) := by decide +kernel
theorem dL_law_435 : decode cL_law 435 = .ok (.pop, 1) := by decide +kernel
theorem dL_law_436 : decode cL_law 436 = .ok (.goto 594, 3) := by decide +kernel
theorem dL_law_439 : decode cL_law 439 = .ok (.aload_n 1, 1) := by decide +kernel
theorem dL_law_440 : decode cL_law 440 = .ok (.invokevirtual 61, 3) := by decide +kernel
theorem dL_law_443 : decode cL_law 443 = .ok (.pop, 1) := by decide +kernel
theorem dL_law_444 : decode cL_law 444 = .ok (.aload_n 2, 1) := by decide +kernel
theorem dL_law_445 : decode cL_law 445 = .ok (.invokevirtual 64, 3) := by decide +kernel
theorem dL_law_448 : decode cL_law 448 = .ok (.pop, 1) := by decide +kernel
theorem dL_law_449 : decode cL_law 449 = .ok (.goto 581, 3) := by decide +kernel
theorem dL_law_452 : decode cL_law 452 = .ok (.aload_n 1, 1) := by decide +kernel
theorem dL_law_453 : decode cL_law 453 = .ok (.aload_n 0, 1) := by decide +kernel
theorem dL_law_454 : decode cL_law 454 = .ok (.iload_n 3, 1) := by decide +kernel
theorem dL_law_455 : decode cL_law 455 = .ok (.iconst 1, 1) := by decide +kernel
theorem dL_law_456 : decode cL_law 456 = .ok (.iadd, 1) := by decide +kernel
theorem dL_law_457 : decode cL_law 457 = .ok (.iaload, 1) := by decide +kernel
theorem dL_law_458 : decode cL_law 458 = .ok (.invokevirtual 65, 3) := by decide +kernel
theorem dL_law_461 : decode cL_law 461 = .ok (.pop, 1) := by decide +kernel
theorem dL_law_462 : decode cL_law 462 = .ok (.aload_n 2, 1) := by decide +kernel
theorem dL_law_463 : decode cL_law 463 = .ok (.aload_n 0, 1) := by decide +kernel
theorem dL_law_464 : decode cL_law 464 = .ok (.iload_n 3, 1) := by decide +kernel
theorem dL_law_465 : decode cL_law 465 = .ok (.iconst 1, 1) := by decide +kernel
theorem dL_law_466 : decode cL_law 466 = .ok (.iadd, 1) := by decide +kernel
theorem dL_law_467 : decode cL_law 467 = .ok (.iaload, 1) := by decide +kernel
theorem dL_law_468 : decode cL_law 468 = .ok (.invokevirtual 68, 3) := by decide +kernel
theorem dL_law_471 : decode cL_law 471 = .ok (.pop, 1) := by decide +kernel
theorem dL_law_472 : decode cL_law 472 = .ok (.goto 558, 3) := by decide +kernel
theorem dL_law_475 : decode cL_law 475 = .ok (.aload_n 1, 1) := by decide +kernel
theorem dL_law_476 : decode cL_law 476 = .ok (.invokevirtual 69, 3) := by decide +kernel
theorem dL_law_479 : decode cL_law 479 = .ok (.pop, 1) := by decide +kernel
theorem dL_law_480 : decode cL_law 480 = .ok (.aload_n 2, 1) := by decide +kernel
theorem dL_law_481 : decode cL_law 481 = .ok (.invokevirtual 72, 3) := by decide +kernel
theorem dL_law_484 : decode cL_law 484 = .ok (.pop, 1) := by decide +kernel
theorem dL_law_485 : decode cL_law 485 = .ok (.goto 545, 3) := by decide +kernel
theorem dL_law_488 : decode cL_law 488 = .ok (.aload_n 1, 1) := by decide +kernel
theorem dL_law_489 : decode cL_law 489 = .ok (.invokevirtual 73, 3) := by decide +kernel
theorem dL_law_492 : decode cL_law 492 = .ok (.pop, 1) := by decide +kernel
theorem dL_law_493 : decode cL_law 493 = .ok (.aload_n 2, 1) := by decide +kernel
theorem dL_law_494 : decode cL_law 494 = .ok (.invokevirtual 76, 3) := by decide +kernel
theorem dL_law_497 : decode cL_law 497 = .ok (.pop, 1) := by decide +kernel
theorem dL_law_498 : decode cL_law 498 = .ok (.goto 532, 3) := by decide +kernel
theorem dL_law_501 : decode cL_law 501 = .ok (.aload_n 1, 1) := by decide +kernel
theorem dL_law_502 : decode cL_law 502 = .ok (.aload_n 0, 1) := by decide +kernel
theorem dL_law_503 : decode cL_law 503 = .ok (.iload_n 3, 1) := by decide +kernel
theorem dL_law_504 : decode cL_law 504 = .ok (.iconst 1, 1) := by decide +kernel
theorem dL_law_505 : decode cL_law 505 = .ok (.iadd, 1) := by decide +kernel
theorem dL_law_506 : decode cL_law 506 = .ok (.iaload, 1) := by decide +kernel
theorem dL_law_507 : decode cL_law 507 = .ok (.invokevirtual 77, 3) := by decide +kernel
theorem dL_law_510 : decode cL_law 510 = .ok (.pop, 1) := by decide +kernel
theorem dL_law_511 : decode cL_law 511 = .ok (.aload_n 2, 1) := by decide +kernel
theorem dL_law_512 : decode cL_law 512 = .ok (.aload_n 0, 1) := by decide +kernel
theorem dL_law_513 : decode cL_law 513 = .ok (.iload_n 3, 1) := by decide +kernel
theorem dL_law_514 : decode cL_law 514 = .ok (.iconst 1, 1) := by decide +kernel
theorem dL_law_515 : decode cL_law 515 = .ok (.iadd, 1) := by decide +kernel
theorem dL_law_516 : decode cL_law 516 = .ok (.iaload, 1) := by decide +kernel
theorem dL_law_517 : decode cL_law 517 = .ok (.invokevirtual 80, 3) := by decide +kernel
theorem dL_law_520 : decode cL_law 520 = .ok (.pop, 1) := by decide +kernel
theorem dL_law_521 : decode cL_law 521 = .ok (.goto 509, 3) := by decide +kernel
theorem dL_law_524 : decode cL_law 524 = .ok (.aload_n 1, 1) := by decide +kernel
theorem dL_law_525 : decode cL_law 525 = .ok (.aload_n 0, 1) := by decide +kernel
theorem dL_law_526 : decode cL_law 526 = .ok (.iload_n 3, 1) := by decide +kernel
theorem dL_law_527 : decode cL_law 527 = .ok (.iconst 1, 1) := by decide +kernel
theorem dL_law_528 : decode cL_law 528 = .ok (.iadd, 1) := by decide +kernel
theorem dL_law_529 : decode cL_law 529 = .ok (.iaload, 1) := by decide +kernel
theorem dL_law_530 : decode cL_law 530 = .ok (.aload_n 0, 1) := by decide +kernel
theorem dL_law_531 : decode cL_law 531 = .ok (.iload_n 3, 1) := by decide +kernel
theorem dL_law_532 : decode cL_law 532 = .ok (.iconst 2, 1) := by decide +kernel
theorem dL_law_533 : decode cL_law 533 = .ok (.iadd, 1) := by decide +kernel
theorem dL_law_534 : decode cL_law 534 = .ok (.iaload, 1) := by decide +kernel
theorem dL_law_535 : decode cL_law 535 = .ok (.invokevirtual 81, 3) := by decide +kernel
theorem dL_law_538 : decode cL_law 538 = .ok (.pop, 1) := by decide +kernel
theorem dL_law_539 : decode cL_law 539 = .ok (.aload_n 2, 1) := by decide +kernel
theorem dL_law_540 : decode cL_law 540 = .ok (.aload_n 0, 1) := by decide +kernel
theorem dL_law_541 : decode cL_law 541 = .ok (.iload_n 3, 1) := by decide +kernel
theorem dL_law_542 : decode cL_law 542 = .ok (.iconst 1, 1) := by decide +kernel
theorem dL_law_543 : decode cL_law 543 = .ok (.iadd, 1) := by decide +kernel
theorem dL_law_544 : decode cL_law 544 = .ok (.iaload, 1) := by decide +kernel
theorem dL_law_545 : decode cL_law 545 = .ok (.aload_n 0, 1) := by decide +kernel
theorem dL_law_546 : decode cL_law 546 = .ok (.iload_n 3, 1) := by decide +kernel
theorem dL_law_547 : decode cL_law 547 = .ok (.iconst 2, 1) := by decide +kernel
theorem dL_law_548 : decode cL_law 548 = .ok (.iadd, 1) := by decide +kernel
theorem dL_law_549 : decode cL_law 549 = .ok (.iaload, 1) := by decide +kernel
theorem dL_law_550 : decode cL_law 550 = .ok (.invokevirtual 84, 3) := by decide +kernel
theorem dL_law_553 : decode cL_law 553 = .ok (.pop, 1) := by decide +kernel
theorem dL_law_554 : decode cL_law 554 = .ok (.goto 476, 3) := by decide +kernel
theorem dL_law_557 : decode cL_law 557 = .ok (.aload_n 1, 1) := by decide +kernel
theorem dL_law_558 : decode cL_law 558 = .ok (.aload_n 0, 1) := by decide +kernel
theorem dL_law_559 : decode cL_law 559 = .ok (.iload_n 3, 1) := by decide +kernel
theorem dL_law_560 : decode cL_law 560 = .ok (.iconst 1, 1) := by decide +kernel
theorem dL_law_561 : decode cL_law 561 = .ok (.iadd, 1) := by decide +kernel
theorem dL_law_562 : decode cL_law 562 = .ok (.iaload, 1) := by decide +kernel
theorem dL_law_563 : decode cL_law 563 = .ok (.aload_n 0, 1) := by decide +kernel
theorem dL_law_564 : decode cL_law 564 = .ok (.iload_n 3, 1) := by decide +kernel
theorem dL_law_565 : decode cL_law 565 = .ok (.iconst 2, 1) := by decide +kernel
theorem dL_law_566 : decode cL_law 566 = .ok (.iadd, 1) := by decide +kernel
theorem dL_law_567 : decode cL_law 567 = .ok (.iaload, 1) := by decide +kernel
theorem dL_law_568 : decode cL_law 568 = .ok (.invokevirtual 85, 3) := by decide +kernel
theorem dL_law_571 : decode cL_law 571 = .ok (.pop, 1) := by decide +kernel
theorem dL_law_572 : decode cL_law 572 = .ok (.aload_n 2, 1) := by decide +kernel
theorem dL_law_573 : decode cL_law 573 = .ok (.aload_n 0, 1) := by decide +kernel
theorem dL_law_574 : decode cL_law 574 = .ok (.iload_n 3, 1) := by decide +kernel
theorem dL_law_575 : decode cL_law 575 = .ok (.iconst 1, 1) := by decide +kernel
theorem dL_law_576 : decode cL_law 576 = .ok (.iadd, 1) := by decide +kernel
theorem dL_law_577 : decode cL_law 577 = .ok (.iaload, 1) := by decide +kernel
theorem dL_law_578 : decode cL_law 578 = .ok (.aload_n 0, 1) := by decide +kernel
theorem dL_law_579 : decode cL_law 579 = .ok (.iload_n 3, 1) := by decide +kernel
theorem dL_law_580 : decode cL_law 580 = .ok (.iconst 2, 1) := by decide +kernel
theorem dL_law_581 : decode cL_law 581 = .ok (.iadd, 1) := by decide +kernel
theorem dL_law_582 : decode cL_law 582 = .ok (.iaload, 1) := by decide +kernel
theorem dL_law_583 : decode cL_law 583 = .ok (.invokevirtual 88, 3) := by decide +kernel
theorem dL_law_586 : decode cL_law 586 = .ok (.pop, 1) := by decide +kernel
theorem dL_law_587 : decode cL_law 587 = .ok (.goto 443, 3) := by decide +kernel
theorem dL_law_590 : decode cL_law 590 = .ok (.aload_n 1, 1) := by decide +kernel
theorem dL_law_591 : decode cL_law 591 = .ok (.invokevirtual 89, 3) := by decide +kernel
theorem dL_law_594 : decode cL_law 594 = .ok (.pop, 1) := by decide +kernel
theorem dL_law_595 : decode cL_law 595 = .ok (.aload_n 2, 1) := by decide +kernel
theorem dL_law_596 : decode cL_law 596 = .ok (.invokevirtual 92, 3) := by decide +kernel
theorem dL_law_599 : decode cL_law 599 = .ok (.pop, 1) := by decide +kernel
theorem dL_law_600 : decode cL_law 600 = .ok (.goto 430, 3) := by decide +kernel
theorem dL_law_603 : decode cL_law 603 = .ok (.aload_n 1, 1) := by decide +kernel
theorem dL_law_604 : decode cL_law 604 = .ok (.invokevirtual 93, 3) := by decide +kernel
theorem dL_law_607 : decode cL_law 607 = .ok (.pop, 1) := by decide +kernel
theorem dL_law_608 : decode cL_law 608 = .ok (.aload_n 2, 1) := by decide +kernel
theorem dL_law_609 : decode cL_law 609 = .ok (.invokevirtual 96, 3) := by decide +kernel
theorem dL_law_612 : decode cL_law 612 = .ok (.pop, 1) := by decide +kernel
theorem dL_law_613 : decode cL_law 613 = .ok (.goto 417, 3) := by decide +kernel
theorem dL_law_616 : decode cL_law 616 = .ok (.aload_n 1, 1) := by decide +kernel
theorem dL_law_617 : decode cL_law 617 = .ok (.invokevirtual 97, 3) := by decide +kernel
theorem dL_law_620 : decode cL_law 620 = .ok (.pop, 1) := by decide +kernel
theorem dL_law_621 : decode cL_law 621 = .ok (.aload_n 2, 1) := by decide +kernel
theorem dL_law_622 : decode cL_law 622 = .ok (.invokevirtual 100, 3) := by decide +kernel
theorem dL_law_625 : decode cL_law 625 = .ok (.pop, 1) := by decide +kernel
theorem dL_law_626 : decode cL_law 626 = .ok (.goto 404, 3) := by decide +kernel
theorem dL_law_629 : decode cL_law 629 = .ok (.aload_n 1, 1) := by decide +kernel
theorem dL_law_630 : decode cL_law 630 = .ok (.aload_n 0, 1) := by decide +kernel
theorem dL_law_631 : decode cL_law 631 = .ok (.iload_n 3, 1) := by decide +kernel
theorem dL_law_632 : decode cL_law 632 = .ok (.iconst 1, 1) := by decide +kernel
theorem dL_law_633 : decode cL_law 633 = .ok (.iadd, 1) := by decide +kernel
theorem dL_law_634 : decode cL_law 634 = .ok (.iaload, 1) := by decide +kernel
theorem dL_law_635 : decode cL_law 635 = .ok (.invokevirtual 101, 3) := by decide +kernel
theorem dL_law_638 : decode cL_law 638 = .ok (.pop, 1) := by decide +kernel
theorem dL_law_639 : decode cL_law 639 = .ok (.aload_n 2, 1) := by decide +kernel
theorem dL_law_640 : decode cL_law 640 = .ok (.aload_n 0, 1) := by decide +kernel
theorem dL_law_641 : decode cL_law 641 = .ok (.iload_n 3, 1) := by decide +kernel
theorem dL_law_642 : decode cL_law 642 = .ok (.iconst 1, 1) := by decide +kernel
theorem dL_law_643 : decode cL_law 643 = .ok (.iadd, 1) := by decide +kernel
theorem dL_law_644 : decode cL_law 644 = .ok (.iaload, 1) := by decide +kernel
theorem dL_law_645 : decode cL_law 645 = .ok (.invokevirtual 104, 3) := by decide +kernel
theorem dL_law_648 : decode cL_law 648 = .ok (.pop, 1) := by decide +kernel
theorem dL_law_649 : decode cL_law 649 = .ok (.goto 381, 3) := by decide +kernel
theorem dL_law_652 : decode cL_law 652 = .ok (.aload_n 1, 1) := by decide +kernel
theorem dL_law_653 : decode cL_law 653 = .ok (.aload_n 0, 1) := by decide +kernel
theorem dL_law_654 : decode cL_law 654 = .ok (.iload_n 3, 1) := by decide +kernel
theorem dL_law_655 : decode cL_law 655 = .ok (.iconst 1, 1) := by decide +kernel
theorem dL_law_656 : decode cL_law 656 = .ok (.iadd, 1) := by decide +kernel
theorem dL_law_657 : decode cL_law 657 = .ok (.iaload, 1) := by decide +kernel
theorem dL_law_658 : decode cL_law 658 = .ok (.aload_n 0, 1) := by decide +kernel
theorem dL_law_659 : decode cL_law 659 = .ok (.iload_n 3, 1) := by decide +kernel
theorem dL_law_660 : decode cL_law 660 = .ok (.iconst 2, 1) := by decide +kernel
theorem dL_law_661 : decode cL_law 661 = .ok (.iadd, 1) := by decide +kernel
theorem dL_law_662 : decode cL_law 662 = .ok (.iaload, 1) := by decide +kernel
theorem dL_law_663 : decode cL_law 663 = .ok (.invokevirtual 105, 3) := by decide +kernel
theorem dL_law_666 : decode cL_law 666 = .ok (.pop, 1) := by decide +kernel
theorem dL_law_667 : decode cL_law 667 = .ok (.aload_n 2, 1) := by decide +kernel
theorem dL_law_668 : decode cL_law 668 = .ok (.aload_n 0, 1) := by decide +kernel
theorem dL_law_669 : decode cL_law 669 = .ok (.iload_n 3, 1) := by decide +kernel
theorem dL_law_670 : decode cL_law 670 = .ok (.iconst 1, 1) := by decide +kernel
theorem dL_law_671 : decode cL_law 671 = .ok (.iadd, 1) := by decide +kernel
theorem dL_law_672 : decode cL_law 672 = .ok (.iaload, 1) := by decide +kernel
theorem dL_law_673 : decode cL_law 673 = .ok (.aload_n 0, 1) := by decide +kernel
theorem dL_law_674 : decode cL_law 674 = .ok (.iload_n 3, 1) := by decide +kernel
theorem dL_law_675 : decode cL_law 675 = .ok (.iconst 2, 1) := by decide +kernel
theorem dL_law_676 : decode cL_law 676 = .ok (.iadd, 1) := by decide +kernel
theorem dL_law_677 : decode cL_law 677 = .ok (.iaload, 1) := by decide +kernel
theorem dL_law_678 : decode cL_law 678 = .ok (.invokevirtual 108, 3) := by decide +kernel
theorem dL_law_681 : decode cL_law 681 = .ok (.pop, 1) := by decide +kernel
theorem dL_law_682 : decode cL_law 682 = .ok (.goto 348, 3) := by decide +kernel
theorem dL_law_685 : decode cL_law 685 = .ok (.aload_n 1, 1) := by decide +kernel
theorem dL_law_686 : decode cL_law 686 = .ok (.aload_n 0, 1) := by decide +kernel
theorem dL_law_687 : decode cL_law 687 = .ok (.iload_n 3, 1) := by decide +kernel
theorem dL_law_688 : decode cL_law 688 = .ok (.iconst 1, 1) := by decide +kernel
theorem dL_law_689 : decode cL_law 689 = .ok (.iadd, 1) := by decide +kernel
theorem dL_law_690 : decode cL_law 690 = .ok (.iaload, 1) := by decide +kernel
theorem dL_law_691 : decode cL_law 691 = .ok (.aload_n 0, 1) := by decide +kernel
theorem dL_law_692 : decode cL_law 692 = .ok (.iload_n 3, 1) := by decide +kernel
theorem dL_law_693 : decode cL_law 693 = .ok (.iconst 2, 1) := by decide +kernel
theorem dL_law_694 : decode cL_law 694 = .ok (.iadd, 1) := by decide +kernel
theorem dL_law_695 : decode cL_law 695 = .ok (.iaload, 1) := by decide +kernel
theorem dL_law_696 : decode cL_law 696 = .ok (.aload_n 0, 1) := by decide +kernel
theorem dL_law_697 : decode cL_law 697 = .ok (.iload_n 3, 1) := by decide +kernel
theorem dL_law_698 : decode cL_law 698 = .ok (.iconst 3, 1) := by decide +kernel
theorem dL_law_699 : decode cL_law 699 = .ok (.iadd, 1) := by decide +kernel
theorem dL_law_700 : decode cL_law 700 = .ok (.iaload, 1) := by decide +kernel
theorem dL_law_701 : decode cL_law 701 = .ok (.aload_n 0, 1) := by decide +kernel
theorem dL_law_702 : decode cL_law 702 = .ok (.iload_n 3, 1) := by decide +kernel
theorem dL_law_703 : decode cL_law 703 = .ok (.iconst 4, 1) := by decide +kernel
theorem dL_law_704 : decode cL_law 704 = .ok (.iadd, 1) := by decide +kernel
theorem dL_law_705 : decode cL_law 705 = .ok (.iaload, 1) := by decide +kernel
theorem dL_law_706 : decode cL_law 706 = .ok (.invokevirtual 109, 3) := by decide +kernel
theorem dL_law_709 : decode cL_law 709 = .ok (.pop, 1) := by decide +kernel
theorem dL_law_710 : decode cL_law 710 = .ok (.aload_n 2, 1) := by decide +kernel
theorem dL_law_711 : decode cL_law 711 = .ok (.aload_n 0, 1) := by decide +kernel
theorem dL_law_712 : decode cL_law 712 = .ok (.iload_n 3, 1) := by decide +kernel
theorem dL_law_713 : decode cL_law 713 = .ok (.iconst 1, 1) := by decide +kernel
theorem dL_law_714 : decode cL_law 714 = .ok (.iadd, 1) := by decide +kernel
theorem dL_law_715 : decode cL_law 715 = .ok (.iaload, 1) := by decide +kernel
theorem dL_law_716 : decode cL_law 716 = .ok (.aload_n 0, 1) := by decide +kernel
theorem dL_law_717 : decode cL_law 717 = .ok (.iload_n 3, 1) := by decide +kernel
theorem dL_law_718 : decode cL_law 718 = .ok (.iconst 2, 1) := by decide +kernel
theorem dL_law_719 : decode cL_law 719 = .ok (.iadd, 1) := by decide +kernel
theorem dL_law_720 : decode cL_law 720 = .ok (.iaload, 1) := by decide +kernel
theorem dL_law_721 : decode cL_law 721 = .ok (.aload_n 0, 1) := by decide +kernel
theorem dL_law_722 : decode cL_law 722 = .ok (.iload_n 3, 1) := by decide +kernel
theorem dL_law_723 : decode cL_law 723 = .ok (.iconst 3, 1) := by decide +kernel
theorem dL_law_724 : decode cL_law 724 = .ok (.iadd, 1) := by decide +kernel
theorem dL_law_725 : decode cL_law 725 = .ok (.iaload, 1) := by decide +kernel
theorem dL_law_726 : decode cL_law 726 = .ok (.aload_n 0, 1) := by decide +kernel
theorem dL_law_727 : decode cL_law 727 = .ok (.iload_n 3, 1) := by decide +kernel
theorem dL_law_728 : decode cL_law 728 = .ok (.iconst 4, 1) := by decide +kernel
theorem dL_law_729 : decode cL_law 729 = .ok (.iadd, 1) := by decide +kernel
theorem dL_law_730 : decode cL_law 730 = .ok (.iaload, 1) := by decide +kernel
theorem dL_law_731 : decode cL_law 731 = .ok (.invokevirtual 113, 3) := by decide +kernel
theorem dL_law_734 : decode cL_law 734 = .ok (.pop, 1) := by decide +kernel
theorem dL_law_735 : decode cL_law 735 = .ok (.goto 295, 3) := by decide +kernel
theorem dL_law_738 : decode cL_law 738 = .ok (.aload_n 1, 1) := by decide +kernel
theorem dL_law_739 : decode cL_law 739 = .ok (.aload_n 0, 1) := by decide +kernel
theorem dL_law_740 : decode cL_law 740 = .ok (.iload_n 3, 1) := by decide +kernel
theorem dL_law_741 : decode cL_law 741 = .ok (.iconst 1, 1) := by decide +kernel
theorem dL_law_742 : decode cL_law 742 = .ok (.iadd, 1) := by decide +kernel
theorem dL_law_743 : decode cL_law 743 = .ok (.iaload, 1) := by decide +kernel
theorem dL_law_744 : decode cL_law 744 = .ok (.aload_n 0, 1) := by decide +kernel
theorem dL_law_745 : decode cL_law 745 = .ok (.iload_n 3, 1) := by decide +kernel
theorem dL_law_746 : decode cL_law 746 = .ok (.iconst 2, 1) := by decide +kernel
theorem dL_law_747 : decode cL_law 747 = .ok (.iadd, 1) := by decide +kernel
theorem dL_law_748 : decode cL_law 748 = .ok (.iaload, 1) := by decide +kernel
theorem dL_law_749 : decode cL_law 749 = .ok (.invokevirtual 114, 3) := by decide +kernel
theorem dL_law_752 : decode cL_law 752 = .ok (.pop, 1) := by decide +kernel
theorem dL_law_753 : decode cL_law 753 = .ok (.aload_n 2, 1) := by decide +kernel
theorem dL_law_754 : decode cL_law 754 = .ok (.aload_n 0, 1) := by decide +kernel
theorem dL_law_755 : decode cL_law 755 = .ok (.iload_n 3, 1) := by decide +kernel
theorem dL_law_756 : decode cL_law 756 = .ok (.iconst 1, 1) := by decide +kernel
theorem dL_law_757 : decode cL_law 757 = .ok (.iadd, 1) := by decide +kernel
theorem dL_law_758 : decode cL_law 758 = .ok (.iaload, 1) := by decide +kernel
theorem dL_law_759 : decode cL_law 759 = .ok (.aload_n 0, 1) := by decide +kernel
theorem dL_law_760 : decode cL_law 760 = .ok (.iload_n 3, 1) := by decide +kernel
theorem dL_law_761 : decode cL_law 761 = .ok (.iconst 2, 1) := by decide +kernel
theorem dL_law_762 : decode cL_law 762 = .ok (.iadd, 1) := by decide +kernel
theorem dL_law_763 : decode cL_law 763 = .ok (.iaload, 1) := by decide +kernel
theorem dL_law_764 : decode cL_law 764 = .ok (.invokevirtual 117, 3) := by decide +kernel
theorem dL_law_767 : decode cL_law 767 = .ok (.pop, 1) := by decide +kernel
theorem dL_law_768 : decode cL_law 768 = .ok (.goto 262, 3) := by decide +kernel
theorem dL_law_771 : decode cL_law 771 = .ok (.aload_n 1, 1) := by decide +kernel
theorem dL_law_772 : decode cL_law 772 = .ok (.invokevirtual 118, 3) := by decide +kernel
theorem dL_law_775 : decode cL_law 775 = .ok (.pop2, 1) := by decide +kernel
theorem dL_law_776 : decode cL_law 776 = .ok (.aload_n 2, 1) := by decide +kernel
theorem dL_law_777 : decode cL_law 777 = .ok (.invokevirtual 122, 3) := by decide +kernel
theorem dL_law_780 : decode cL_law 780 = .ok (.pop2, 1) := by decide +kernel
theorem dL_law_781 : decode cL_law 781 = .ok (.goto 249, 3) := by decide +kernel
theorem dL_law_784 : decode cL_law 784 = .ok (.aload_n 1, 1) := by decide +kernel
theorem dL_law_785 : decode cL_law 785 = .ok (.aload_n 0, 1) := by decide +kernel
theorem dL_law_786 : decode cL_law 786 = .ok (.iload_n 3, 1) := by decide +kernel
theorem dL_law_787 : decode cL_law 787 = .ok (.iconst 1, 1) := by decide +kernel
theorem dL_law_788 : decode cL_law 788 = .ok (.iadd, 1) := by decide +kernel
theorem dL_law_789 : decode cL_law 789 = .ok (.iaload, 1) := by decide +kernel
theorem dL_law_790 : decode cL_law 790 = .ok (.ifCond .eq 7, 3) := by decide +kernel
theorem dL_law_793 : decode cL_law 793 = .ok (.iconst 1, 1) := by decide +kernel
theorem dL_law_794 : decode cL_law 794 = .ok (.goto 4, 3) := by decide +kernel
theorem dL_law_797 : decode cL_law 797 = .ok (.iconst 0, 1) := by decide +kernel
theorem dL_law_798 : decode cL_law 798 = .ok (.invokevirtual 123, 3) := by decide +kernel
theorem dL_law_801 : decode cL_law 801 = .ok (.pop2, 1) := by decide +kernel
theorem dL_law_802 : decode cL_law 802 = .ok (.aload_n 2, 1) := by decide +kernel
theorem dL_law_803 : decode cL_law 803 = .ok (.aload_n 0, 1) := by decide +kernel
theorem dL_law_804 : decode cL_law 804 = .ok (.iload_n 3, 1) := by decide +kernel
theorem dL_law_805 : decode cL_law 805 = .ok (.iconst 1, 1) := by decide +kernel
theorem dL_law_806 : decode cL_law 806 = .ok (.iadd, 1) := by decide +kernel
theorem dL_law_807 : decode cL_law 807 = .ok (.iaload, 1) := by decide +kernel
theorem dL_law_808 : decode cL_law 808 = .ok (.ifCond .eq 7, 3) := by decide +kernel
theorem dL_law_811 : decode cL_law 811 = .ok (.iconst 1, 1) := by decide +kernel
theorem dL_law_812 : decode cL_law 812 = .ok (.goto 4, 3) := by decide +kernel
theorem dL_law_815 : decode cL_law 815 = .ok (.iconst 0, 1) := by decide +kernel
theorem dL_law_816 : decode cL_law 816 = .ok (.invokevirtual 127, 3) := by decide +kernel
theorem dL_law_819 : decode cL_law 819 = .ok (.pop2, 1) := by decide +kernel
theorem dL_law_820 : decode cL_law 820 = .ok (.goto 210, 3) := by decide +kernel
theorem dL_law_823 : decode cL_law 823 = .ok (.aload_n 1, 1) := by decide +kernel
theorem dL_law_824 : decode cL_law 824 = .ok (.aload_n 0, 1) := by decide +kernel
theorem dL_law_825 : decode cL_law 825 = .ok (.iload_n 3, 1) := by decide +kernel
theorem dL_law_826 : decode cL_law 826 = .ok (.iconst 1, 1) := by decide +kernel
theorem dL_law_827 : decode cL_law 827 = .ok (.iadd, 1) := by decide +kernel
theorem dL_law_828 : decode cL_law 828 = .ok (.iaload, 1) := by decide +kernel
theorem dL_law_829 : decode cL_law 829 = .ok (.ifCond .eq 7, 3) := by decide +kernel
theorem dL_law_832 : decode cL_law 832 = .ok (.iconst 1, 1) := by decide +kernel
theorem dL_law_833 : decode cL_law 833 = .ok (.goto 4, 3) := by decide +kernel
theorem dL_law_836 : decode cL_law 836 = .ok (.iconst 0, 1) := by decide +kernel
theorem dL_law_837 : decode cL_law 837 = .ok (.invokevirtual 128, 3) := by decide +kernel
theorem dL_law_840 : decode cL_law 840 = .ok (.pop2, 1) := by decide +kernel
theorem dL_law_841 : decode cL_law 841 = .ok (.aload_n 2, 1) := by decide +kernel
theorem dL_law_842 : decode cL_law 842 = .ok (.aload_n 0, 1) := by decide +kernel
theorem dL_law_843 : decode cL_law 843 = .ok (.iload_n 3, 1) := by decide +kernel
theorem dL_law_844 : decode cL_law 844 = .ok (.iconst 1, 1) := by decide +kernel
theorem dL_law_845 : decode cL_law 845 = .ok (.iadd, 1) := by decide +kernel
theorem dL_law_846 : decode cL_law 846 = .ok (.iaload, 1) := by decide +kernel
theorem dL_law_847 : decode cL_law 847 = .ok (.ifCond .eq 7, 3) := by decide +kernel
theorem dL_law_850 : decode cL_law 850 = .ok (.iconst 1, 1) := by decide +kernel
theorem dL_law_851 : decode cL_law 851 = .ok (.goto 4, 3) := by decide +kernel
theorem dL_law_854 : decode cL_law 854 = .ok (.iconst 0, 1) := by decide +kernel
theorem dL_law_855 : decode cL_law 855 = .ok (.invokevirtual 131, 3) := by decide +kernel
theorem dL_law_858 : decode cL_law 858 = .ok (.pop2, 1) := by decide +kernel
theorem dL_law_859 : decode cL_law 859 = .ok (.goto 171, 3) := by decide +kernel
theorem dL_law_862 : decode cL_law 862 = .ok (.aload_n 1, 1) := by decide +kernel
theorem dL_law_863 : decode cL_law 863 = .ok (.aload_n 0, 1) := by decide +kernel
theorem dL_law_864 : decode cL_law 864 = .ok (.iload_n 3, 1) := by decide +kernel
theorem dL_law_865 : decode cL_law 865 = .ok (.iconst 1, 1) := by decide +kernel
theorem dL_law_866 : decode cL_law 866 = .ok (.iadd, 1) := by decide +kernel
theorem dL_law_867 : decode cL_law 867 = .ok (.iaload, 1) := by decide +kernel
theorem dL_law_868 : decode cL_law 868 = .ok (.ifCond .eq 7, 3) := by decide +kernel
theorem dL_law_871 : decode cL_law 871 = .ok (.iconst 1, 1) := by decide +kernel
theorem dL_law_872 : decode cL_law 872 = .ok (.goto 4, 3) := by decide +kernel
theorem dL_law_875 : decode cL_law 875 = .ok (.iconst 0, 1) := by decide +kernel
theorem dL_law_876 : decode cL_law 876 = .ok (.aload_n 0, 1) := by decide +kernel
theorem dL_law_877 : decode cL_law 877 = .ok (.iload_n 3, 1) := by decide +kernel
theorem dL_law_878 : decode cL_law 878 = .ok (.iconst 2, 1) := by decide +kernel
theorem dL_law_879 : decode cL_law 879 = .ok (.iadd, 1) := by decide +kernel
theorem dL_law_880 : decode cL_law 880 = .ok (.iaload, 1) := by decide +kernel
theorem dL_law_881 : decode cL_law 881 = .ok (.invokevirtual 132, 3) := by decide +kernel
theorem dL_law_884 : decode cL_law 884 = .ok (.pop, 1) := by decide +kernel
theorem dL_law_885 : decode cL_law 885 = .ok (.aload_n 2, 1) := by decide +kernel
theorem dL_law_886 : decode cL_law 886 = .ok (.aload_n 0, 1) := by decide +kernel
theorem dL_law_887 : decode cL_law 887 = .ok (.iload_n 3, 1) := by decide +kernel
theorem dL_law_888 : decode cL_law 888 = .ok (.iconst 1, 1) := by decide +kernel
theorem dL_law_889 : decode cL_law 889 = .ok (.iadd, 1) := by decide +kernel
theorem dL_law_890 : decode cL_law 890 = .ok (.iaload, 1) := by decide +kernel
theorem dL_law_891 : decode cL_law 891 = .ok (.ifCond .eq 7, 3) := by decide +kernel
theorem dL_law_894 : decode cL_law 894 = .ok (.iconst 1, 1) := by decide +kernel
theorem dL_law_895 : decode cL_law 895 = .ok (.goto 4, 3) := by decide +kernel
theorem dL_law_898 : decode cL_law 898 = .ok (.iconst 0, 1) := by decide +kernel
theorem dL_law_899 : decode cL_law 899 = .ok (.aload_n 0, 1) := by decide +kernel
theorem dL_law_900 : decode cL_law 900 = .ok (.iload_n 3, 1) := by decide +kernel
theorem dL_law_901 : decode cL_law 901 = .ok (.iconst 2, 1) := by decide +kernel
theorem dL_law_902 : decode cL_law 902 = .ok (.iadd, 1) := by decide +kernel
theorem dL_law_903 : decode cL_law 903 = .ok (.iaload, 1) := by decide +kernel
theorem dL_law_904 : decode cL_law 904 = .ok (.invokevirtual 136, 3) := by decide +kernel
theorem dL_law_907 : decode cL_law 907 = .ok (.pop, 1) := by decide +kernel
theorem dL_law_908 : decode cL_law 908 = .ok (.goto 122, 3) := by decide +kernel
theorem dL_law_911 : decode cL_law 911 = .ok (.aload_n 1, 1) := by decide +kernel
theorem dL_law_912 : decode cL_law 912 = .ok (.aload_n 0, 1) := by decide +kernel
theorem dL_law_913 : decode cL_law 913 = .ok (.iload_n 3, 1) := by decide +kernel
theorem dL_law_914 : decode cL_law 914 = .ok (.iconst 1, 1) := by decide +kernel
theorem dL_law_915 : decode cL_law 915 = .ok (.iadd, 1) := by decide +kernel
theorem dL_law_916 : decode cL_law 916 = .ok (.iaload, 1) := by decide +kernel
theorem dL_law_917 : decode cL_law 917 = .ok (.i2l, 1) := by decide +kernel
theorem dL_law_918 : decode cL_law 918 = .ok (.bipush 32, 2) := by decide +kernel
theorem dL_law_920 : decode cL_law 920 = .ok (.lshl, 1) := by decide +kernel
theorem dL_law_921 : decode cL_law 921 = .ok (.aload_n 0, 1) := by decide +kernel
theorem dL_law_922 : decode cL_law 922 = .ok (.iload_n 3, 1) := by decide +kernel
theorem dL_law_923 : decode cL_law 923 = .ok (.iconst 2, 1) := by decide +kernel
theorem dL_law_924 : decode cL_law 924 = .ok (.iadd, 1) := by decide +kernel
theorem dL_law_925 : decode cL_law 925 = .ok (.iaload, 1) := by decide +kernel
theorem dL_law_926 : decode cL_law 926 = .ok (.i2l, 1) := by decide +kernel
theorem dL_law_927 : decode cL_law 927 = .ok (.ldc2_w 137, 3) := by decide +kernel
theorem dL_law_930 : decode cL_law 930 = .ok (.land, 1) := by decide +kernel
theorem dL_law_931 : decode cL_law 931 = .ok (.lor, 1) := by decide +kernel
theorem dL_law_932 : decode cL_law 932 = .ok (.aload_n 0, 1) := by decide +kernel
theorem dL_law_933 : decode cL_law 933 = .ok (.iload_n 3, 1) := by decide +kernel
theorem dL_law_934 : decode cL_law 934 = .ok (.iconst 3, 1) := by decide +kernel
theorem dL_law_935 : decode cL_law 935 = .ok (.iadd, 1) := by decide +kernel
theorem dL_law_936 : decode cL_law 936 = .ok (.iaload, 1) := by decide +kernel
theorem dL_law_937 : decode cL_law 937 = .ok (.invokevirtual 139, 3) := by decide +kernel
theorem dL_law_940 : decode cL_law 940 = .ok (.pop, 1) := by decide +kernel
theorem dL_law_941 : decode cL_law 941 = .ok (.aload_n 2, 1) := by decide +kernel
theorem dL_law_942 : decode cL_law 942 = .ok (.aload_n 0, 1) := by decide +kernel
theorem dL_law_943 : decode cL_law 943 = .ok (.iload_n 3, 1) := by decide +kernel
theorem dL_law_944 : decode cL_law 944 = .ok (.iconst 1, 1) := by decide +kernel
theorem dL_law_945 : decode cL_law 945 = .ok (.iadd, 1) := by decide +kernel
theorem dL_law_946 : decode cL_law 946 = .ok (.iaload, 1) := by decide +kernel
theorem dL_law_947 : decode cL_law 947 = .ok (.i2l, 1) := by decide +kernel
theorem dL_law_948 : decode cL_law 948 = .ok (.bipush 32, 2) := by decide +kernel
theorem dL_law_950 : decode cL_law 950 = .ok (.lshl, 1) := by decide +kernel
theorem dL_law_951 : decode cL_law 951 = .ok (.aload_n 0, 1) := by decide +kernel
theorem dL_law_952 : decode cL_law 952 = .ok (.iload_n 3, 1) := by decide +kernel
theorem dL_law_953 : decode cL_law 953 = .ok (.iconst 2, 1) := by decide +kernel
theorem dL_law_954 : decode cL_law 954 = .ok (.iadd, 1) := by decide +kernel
theorem dL_law_955 : decode cL_law 955 = .ok (.iaload, 1) := by decide +kernel
theorem dL_law_956 : decode cL_law 956 = .ok (.i2l, 1) := by decide +kernel
theorem dL_law_957 : decode cL_law 957 = .ok (.ldc2_w 137, 3) := by decide +kernel
theorem dL_law_960 : decode cL_law 960 = .ok (.land, 1) := by decide +kernel
theorem dL_law_961 : decode cL_law 961 = .ok (.lor, 1) := by decide +kernel
theorem dL_law_962 : decode cL_law 962 = .ok (.aload_n 0, 1) := by decide +kernel
theorem dL_law_963 : decode cL_law 963 = .ok (.iload_n 3, 1) := by decide +kernel
theorem dL_law_964 : decode cL_law 964 = .ok (.iconst 3, 1) := by decide +kernel
theorem dL_law_965 : decode cL_law 965 = .ok (.iadd, 1) := by decide +kernel
theorem dL_law_966 : decode cL_law 966 = .ok (.iaload, 1) := by decide +kernel
theorem dL_law_967 : decode cL_law 967 = .ok (.invokevirtual 143, 3) := by decide +kernel
theorem dL_law_970 : decode cL_law 970 = .ok (.pop, 1) := by decide +kernel
theorem dL_law_971 : decode cL_law 971 = .ok (.goto 59, 3) := by decide +kernel
theorem dL_law_974 : decode cL_law 974 = .ok (.aload_n 1, 1) := by decide +kernel
theorem dL_law_975 : decode cL_law 975 = .ok (.aload_n 0, 1) := by decide +kernel
theorem dL_law_976 : decode cL_law 976 = .ok (.iload_n 3, 1) := by decide +kernel
theorem dL_law_977 : decode cL_law 977 = .ok (.iconst 1, 1) := by decide +kernel
theorem dL_law_978 : decode cL_law 978 = .ok (.iadd, 1) := by decide +kernel
theorem dL_law_979 : decode cL_law 979 = .ok (.iaload, 1) := by decide +kernel
theorem dL_law_980 : decode cL_law 980 = .ok (.aload_n 0, 1) := by decide +kernel
theorem dL_law_981 : decode cL_law 981 = .ok (.iload_n 3, 1) := by decide +kernel
theorem dL_law_982 : decode cL_law 982 = .ok (.iconst 2, 1) := by decide +kernel
theorem dL_law_983 : decode cL_law 983 = .ok (.iadd, 1) := by decide +kernel
theorem dL_law_984 : decode cL_law 984 = .ok (.iaload, 1) := by decide +kernel
theorem dL_law_985 : decode cL_law 985 = .ok (.invokevirtual 144, 3) := by decide +kernel
theorem dL_law_988 : decode cL_law 988 = .ok (.pop2, 1) := by decide +kernel
theorem dL_law_989 : decode cL_law 989 = .ok (.aload_n 2, 1) := by decide +kernel
theorem dL_law_990 : decode cL_law 990 = .ok (.aload_n 0, 1) := by decide +kernel
theorem dL_law_991 : decode cL_law 991 = .ok (.iload_n 3, 1) := by decide +kernel
theorem dL_law_992 : decode cL_law 992 = .ok (.iconst 1, 1) := by decide +kernel
theorem dL_law_993 : decode cL_law 993 = .ok (.iadd, 1) := by decide +kernel
theorem dL_law_994 : decode cL_law 994 = .ok (.iaload, 1) := by decide +kernel
theorem dL_law_995 : decode cL_law 995 = .ok (.aload_n 0, 1) := by decide +kernel
theorem dL_law_996 : decode cL_law 996 = .ok (.iload_n 3, 1) := by decide +kernel
theorem dL_law_997 : decode cL_law 997 = .ok (.iconst 2, 1) := by decide +kernel
theorem dL_law_998 : decode cL_law 998 = .ok (.iadd, 1) := by decide +kernel
theorem dL_law_999 : decode cL_law 999 = .ok (.iaload, 1) := by decide +kernel
theorem dL_law_1000 : decode cL_law 1000 = .ok (.invokevirtual 148, 3) := by decide +kernel
theorem dL_law_1003 : decode cL_law 1003 = .ok (.pop2, 1) := by decide +kernel
theorem dL_law_1004 : decode cL_law 1004 = .ok (.goto 26, 3) := by decide +kernel
theorem dL_law_1007 : decode cL_law 1007 = .ok (.aload_n 1, 1) := by decide +kernel
theorem dL_law_1008 : decode cL_law 1008 = .ok (.aload_n 0, 1) := by decide +kernel
theorem dL_law_1009 : decode cL_law 1009 = .ok (.iload_n 3, 1) := by decide +kernel
theorem dL_law_1010 : decode cL_law 1010 = .ok (.iconst 1, 1) := by decide +kernel
theorem dL_law_1011 : decode cL_law 1011 = .ok (.iadd, 1) := by decide +kernel
theorem dL_law_1012 : decode cL_law 1012 = .ok (.iaload, 1) := by decide +kernel
theorem dL_law_1013 : decode cL_law 1013 = .ok (.invokevirtual 149, 3) := by decide +kernel
theorem dL_law_1016 : decode cL_law 1016 = .ok (.aload_n 2, 1) := by decide +kernel
theorem dL_law_1017 : decode cL_law 1017 = .ok (.aload_n 0, 1) := by decide +kernel
theorem dL_law_1018 : decode cL_law 1018 = .ok (.iload_n 3, 1) := by decide +kernel
theorem dL_law_1019 : decode cL_law 1019 = .ok (.iconst 1, 1) := by decide +kernel
theorem dL_law_1020 : decode cL_law 1020 = .ok (.iadd, 1) := by decide +kernel
theorem dL_law_1021 : decode cL_law 1021 = .ok (.iaload, 1) := by decide +kernel
theorem dL_law_1022 : decode cL_law 1022 = .ok (.invokevirtual 152, 3) := by decide +kernel
theorem dL_law_1025 : decode cL_law 1025 = .ok (.if_icmp .eq 5, 3) := by decide +kernel
theorem dL_law_1028 : decode cL_law 1028 = .ok (.iconst 0, 1) := by decide +kernel
theorem dL_law_1029 : decode cL_law 1029 = .ok (.ireturn, 1) := by decide +kernel
theorem dL_law_1030 : decode cL_law 1030 = .ok (.iinc 3 5, 3) := by decide +kernel
theorem dL_law_1033 : decode cL_law 1033 = .ok (.goto (-1015), 3) := by decide +kernel
theorem dL_law_1036 : decode cL_law 1036 = .ok (.iconst 1, 1) := by decide +kernel
theorem dL_law_1037 : decode cL_law 1037 = .ok (.ireturn, 1) := by decide +kernel
