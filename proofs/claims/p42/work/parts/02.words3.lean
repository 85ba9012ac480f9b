theorem tw_630 : Cond.methodLink RX6 110 yX6_readSelect ∈ TB := tb_2 (i := 62) (by decide +kernel) rfl
theorem tw_631 : Cond.instanceMethod yX6_readSelect ∈ TB := tb_2 (i := 64) (by decide +kernel) rfl
theorem tw_632 : Cond.selects RX6 yX6_readSelect yX6_readSelect ∈ TB := tb_p (q := (yX6_readSelect, 10)) (List.mem_of_getElem? (i := 5) (by decide +kernel))
theorem tw_633 : Cond.code yX6_readSelect cX6_readSelect 4 (some .boolean) ∈ TB := tb_2 (i := 65) (by decide +kernel) rfl
theorem tw_634 : Cond.methodLink RX6 119 yX6_takeDigit ∈ TB := tb_2 (i := 66) (by decide +kernel) rfl
theorem tw_635 : Cond.instanceMethod yX6_takeDigit ∈ TB := tb_2 (i := 68) (by decide +kernel) rfl
theorem tw_636 : Cond.selects RX6 yX6_takeDigit yX6_takeDigit ∈ TB := tb_p (q := (yX6_takeDigit, 10)) (List.mem_of_getElem? (i := 6) (by decide +kernel))
theorem tw_637 : Cond.code yX6_takeDigit cX6_takeDigit 3 (some .int) ∈ TB := tb_2 (i := 69) (by decide +kernel) rfl
theorem tw_638 : Cond.methodLink RX6 62 yX6_take ∈ TB := tb_2 (i := 70) (by decide +kernel) rfl
theorem tw_639 : Cond.instanceMethod yX6_take ∈ TB := tb_2 (i := 72) (by decide +kernel) rfl
theorem tw_640 : Cond.selects RX6 yX6_take yX6_take ∈ TB := tb_p (q := (yX6_take, 10)) (List.mem_of_getElem? (i := 7) (by decide +kernel))
theorem tw_641 : Cond.code yX6_take cX6_take 2 (some .boolean) ∈ TB := tb_2 (i := 73) (by decide +kernel) rfl
theorem tw_642 : Cond.methodLink RX6 113 yX6_readProject ∈ TB := tb_2 (i := 74) (by decide +kernel) rfl
theorem tw_643 : Cond.instanceMethod yX6_readProject ∈ TB := tb_2 (i := 76) (by decide +kernel) rfl
theorem tw_644 : Cond.selects RX6 yX6_readProject yX6_readProject ∈ TB := tb_p (q := (yX6_readProject, 10)) (List.mem_of_getElem? (i := 8) (by decide +kernel))
theorem tw_645 : Cond.code yX6_readProject cX6_readProject 5 (some .boolean) ∈ TB := tb_2 (i := 77) (by decide +kernel) rfl
theorem tw_646 : Cond.methodLink RX6 122 yX2_join ∈ TB := tb_2 (i := 78) (by decide +kernel) rfl
theorem tw_647 : Cond.static yX2_join ∈ TB := tb_2 (i := 79) (by decide +kernel) rfl
theorem tw_649 : Cond.code yX2_join cX2_join 3 (some .int) ∈ TB := tb_2 (i := 80) (by decide +kernel) rfl
theorem tw_650 : Cond.methodLink RX6 116 yX6_readJoin ∈ TB := tb_2 (i := 81) (by decide +kernel) rfl
theorem tw_651 : Cond.instanceMethod yX6_readJoin ∈ TB := tb_2 (i := 83) (by decide +kernel) rfl
theorem tw_652 : Cond.selects RX6 yX6_readJoin yX6_readJoin ∈ TB := tb_p (q := (yX6_readJoin, 10)) (List.mem_of_getElem? (i := 9) (by decide +kernel))
theorem tw_653 : Cond.code yX6_readJoin cX6_readJoin 3 (some .boolean) ∈ TB := tb_2 (i := 84) (by decide +kernel) rfl
theorem tw_654 : Cond.methodLink RX6 66 yX3_length ∈ TB := tb_2 (i := 85) (by decide +kernel) rfl
theorem tw_655 : Cond.methodLink RX10 183 yX6_stoppedAt ∈ TB := tb_4 (i := 125) (by decide +kernel) rfl
theorem tw_656 : Cond.instanceMethod yX6_stoppedAt ∈ TB := tb_4 (i := 126) (by decide +kernel) rfl
theorem tw_657 : Cond.selects RX6 yX6_stoppedAt yX6_stoppedAt ∈ TB := tb_4 (i := 127) (by decide +kernel) rfl
theorem tw_658 : Cond.code yX6_stoppedAt cX6_stoppedAt 1 (some .int) ∈ TB := tb_4 (i := 128) (by decide +kernel) rfl
theorem tw_659 : Cond.methodLink RL 110 yX10_setQuery ∈ TB := tb_4 (i := 129) (by decide +kernel) rfl
theorem tw_660 : Cond.instanceMethod yX10_setQuery ∈ TB := tb_4 (i := 130) (by decide +kernel) rfl
theorem tw_661 : Cond.selects RX10 yX10_setQuery yX10_setQuery ∈ TB := tb_4 (i := 131) (by decide +kernel) rfl
theorem tw_662 : Cond.code yX10_setQuery cX10_setQuery 1 (some .int) ∈ TB := tb_4 (i := 132) (by decide +kernel) rfl
theorem tw_664 : Cond.fieldLink RX10 22 "ProvenanceTables" "history" "LProvenanceTables$History;" ∈ TB := tb_1 (i := 206) (by decide +kernel) rfl
theorem tw_665 : Cond.fieldLink RX10 45 "ProvenanceTables" "current" "LProvenanceTables$Query;" ∈ TB := tb_1 (i := 210) (by decide +kernel) rfl
theorem tw_666 : Cond.methodLink RX10 159 yX6_fits ∈ TB := tb_4 (i := 133) (by decide +kernel) rfl
theorem tw_667 : Cond.instanceMethod yX6_fits ∈ TB := tb_4 (i := 134) (by decide +kernel) rfl
theorem tw_668 : Cond.selects RX6 yX6_fits yX6_fits ∈ TB := tb_4 (i := 135) (by decide +kernel) rfl
theorem tw_669 : Cond.code yX6_fits cX6_fits 7 (some .boolean) ∈ TB := tb_4 (i := 136) (by decide +kernel) rfl
theorem tw_670 : Cond.fieldLink RX6 21 "ProvenanceTables$Query" "widthStack" "[I" ∈ TB := tb_1 (i := 98) (by decide +kernel) rfl
theorem tw_671 : Cond.methodLink RX6 72 yX6_widthOfNode ∈ TB := tb_4 (i := 137) (by decide +kernel) rfl
theorem tw_672 : Cond.instanceMethod yX6_widthOfNode ∈ TB := tb_4 (i := 139) (by decide +kernel) rfl
theorem tw_673 : Cond.selects RX6 yX6_widthOfNode yX6_widthOfNode ∈ TB := tb_p (q := (yX6_widthOfNode, 10)) (List.mem_of_getElem? (i := 30) (by decide +kernel))
theorem tw_674 : Cond.code yX6_widthOfNode cX6_widthOfNode 7 (some .int) ∈ TB := tb_4 (i := 140) (by decide +kernel) rfl
theorem tw_675 : Cond.methodLink RX6 83 yX6_firstAt ∈ TB := tb_4 (i := 141) (by decide +kernel) rfl
theorem tw_676 : Cond.instanceMethod yX6_firstAt ∈ TB := tb_2 (i := 128) (by decide +kernel) rfl
theorem tw_677 : Cond.selects RX6 yX6_firstAt yX6_firstAt ∈ TB := tb_2 (i := 129) (by decide +kernel) rfl
theorem tw_678 : Cond.code yX6_firstAt cX6_firstAt 2 (some .int) ∈ TB := tb_2 (i := 130) (by decide +kernel) rfl
theorem tw_679 : Cond.methodLink RX6 39 yX6_hasNode ∈ TB := tb_2 (i := 118) (by decide +kernel) rfl
theorem tw_680 : Cond.instanceMethod yX6_hasNode ∈ TB := tb_2 (i := 120) (by decide +kernel) rfl
theorem tw_681 : Cond.selects RX6 yX6_hasNode yX6_hasNode ∈ TB := tb_p (q := (yX6_hasNode, 10)) (List.mem_of_getElem? (i := 13) (by decide +kernel))
theorem tw_682 : Cond.code yX6_hasNode cX6_hasNode 2 (some .boolean) ∈ TB := tb_2 (i := 121) (by decide +kernel) rfl
theorem tw_683 : Cond.methodLink RX6 86 yX6_secondAt ∈ TB := tb_4 (i := 142) (by decide +kernel) rfl
theorem tw_684 : Cond.instanceMethod yX6_secondAt ∈ TB := tb_2 (i := 132) (by decide +kernel) rfl
theorem tw_685 : Cond.selects RX6 yX6_secondAt yX6_secondAt ∈ TB := tb_2 (i := 133) (by decide +kernel) rfl
theorem tw_686 : Cond.code yX6_secondAt cX6_secondAt 2 (some .int) ∈ TB := tb_2 (i := 134) (by decide +kernel) rfl
theorem tw_687 : Cond.methodLink RX6 76 yX6_kindAt ∈ TB := tb_4 (i := 143) (by decide +kernel) rfl
theorem tw_688 : Cond.instanceMethod yX6_kindAt ∈ TB := tb_2 (i := 115) (by decide +kernel) rfl
theorem tw_689 : Cond.selects RX6 yX6_kindAt yX6_kindAt ∈ TB := tb_2 (i := 116) (by decide +kernel) rfl
theorem tw_690 : Cond.code yX6_kindAt cX6_kindAt 2 (some .int) ∈ TB := tb_2 (i := 117) (by decide +kernel) rfl
theorem tw_691 : Cond.methodLink RX6 89 yX8_widthOf ∈ TB := tb_4 (i := 144) (by decide +kernel) rfl
theorem tw_698 : Cond.methodLink RX6 94 yX6_namesColumnsBelow ∈ TB := tb_4 (i := 145) (by decide +kernel) rfl
theorem tw_699 : Cond.static yX6_namesColumnsBelow ∈ TB := tb_4 (i := 146) (by decide +kernel) rfl
theorem tw_700 : Cond.code yX6_namesColumnsBelow cX6_namesColumnsBelow 4 (some .boolean) ∈ TB := tb_4 (i := 147) (by decide +kernel) rfl
theorem tw_701 : Cond.methodLink RX6 98 yX2_digit ∈ TB := tb_4 (i := 148) (by decide +kernel) rfl
theorem tw_704 : Cond.methodLink RX10 112 yX0_compute ∈ TB := tb_2 (i := 90) (by decide +kernel) rfl
theorem tw_705 : Cond.instanceMethod yX0_compute ∈ TB := tb_2 (i := 91) (by decide +kernel) rfl
theorem tw_706 : Cond.selects RX0 yX0_compute yX0_compute ∈ TB := tb_2 (i := 92) (by decide +kernel) rfl
theorem tw_708 : Cond.code yX0_compute cX0_compute 4 (some .boolean) ∈ TB := tb_2 (i := 93) (by decide +kernel) rfl
theorem tw_709 : Cond.fieldLink RX0 25 "ProvenanceTables$Evaluator" "top" "I" ∈ TB := tb_1 (i := 173) (by decide +kernel) rfl
theorem tw_710 : Cond.fieldLink RX0 18 "ProvenanceTables$Evaluator" "spare" "LProvenanceTables$Relation;" ∈ TB := tb_1 (i := 171) (by decide +kernel) rfl
theorem tw_711 : Cond.methodLink RX0 29 yX6_isWhole ∈ TB := tb_2 (i := 94) (by decide +kernel) rfl
theorem tw_712 : Cond.instanceMethod yX6_isWhole ∈ TB := tb_2 (i := 95) (by decide +kernel) rfl
theorem tw_713 : Cond.selects RX6 yX6_isWhole yX6_isWhole ∈ TB := tb_2 (i := 96) (by decide +kernel) rfl
theorem tw_714 : Cond.code yX6_isWhole cX6_isWhole 1 (some .boolean) ∈ TB := tb_2 (i := 97) (by decide +kernel) rfl
theorem tw_715 : Cond.methodLink RX0 35 yX7_clear ∈ TB := tb_2 (i := 98) (by decide +kernel) rfl
theorem tw_716 : Cond.instanceMethod yX7_clear ∈ TB := tb_2 (i := 99) (by decide +kernel) rfl
theorem tw_717 : Cond.selects RX7 yX7_clear yX7_clear ∈ TB := tb_2 (i := 100) (by decide +kernel) rfl
theorem tw_719 : Cond.code yX7_clear cX7_clear 2 none ∈ TB := tb_2 (i := 101) (by decide +kernel) rfl
theorem tw_722 : Cond.methodLink RX0 39 yX0_pushSpare ∈ TB := tb_2 (i := 102) (by decide +kernel) rfl
theorem tw_723 : Cond.instanceMethod yX0_pushSpare ∈ TB := tb_2 (i := 104) (by decide +kernel) rfl
theorem tw_724 : Cond.selects RX0 yX0_pushSpare yX0_pushSpare ∈ TB := tb_p (q := (yX0_pushSpare, 4)) (List.mem_of_getElem? (i := 11) (by decide +kernel))
theorem tw_725 : Cond.code yX0_pushSpare cX0_pushSpare 4 (some .boolean) ∈ TB := tb_2 (i := 105) (by decide +kernel) rfl
theorem tw_726 : Cond.fieldLink RX0 13 "ProvenanceTables$Evaluator" "stack" "[LProvenanceTables$Relation;" ∈ TB := tb_1 (i := 170) (by decide +kernel) rfl
theorem tw_727 : Cond.methodLink RX0 43 yX6_size ∈ TB := tb_2 (i := 106) (by decide +kernel) rfl
theorem tw_728 : Cond.instanceMethod yX6_size ∈ TB := tb_2 (i := 107) (by decide +kernel) rfl
theorem tw_729 : Cond.selects RX6 yX6_size yX6_size ∈ TB := tb_2 (i := 108) (by decide +kernel) rfl
theorem tw_730 : Cond.code yX6_size cX6_size 1 (some .int) ∈ TB := tb_2 (i := 109) (by decide +kernel) rfl
theorem tw_731 : Cond.methodLink RX0 47 yX0_computeNode ∈ TB := tb_2 (i := 110) (by decide +kernel) rfl
theorem tw_732 : Cond.instanceMethod yX0_computeNode ∈ TB := tb_2 (i := 112) (by decide +kernel) rfl
theorem tw_733 : Cond.selects RX0 yX0_computeNode yX0_computeNode ∈ TB := tb_p (q := (yX0_computeNode, 4)) (List.mem_of_getElem? (i := 12) (by decide +kernel))
theorem tw_734 : Cond.code yX0_computeNode cX0_computeNode 11 (some .boolean) ∈ TB := tb_2 (i := 113) (by decide +kernel) rfl
theorem tw_735 : Cond.methodLink RX0 51 yX6_kindAt ∈ TB := tb_2 (i := 114) (by decide +kernel) rfl
theorem tw_736 : Cond.methodLink RX0 55 yX6_partsOf ∈ TB := tb_2 (i := 122) (by decide +kernel) rfl
theorem tw_737 : Cond.methodLink RX0 58 yX0_waiting ∈ TB := tb_2 (i := 123) (by decide +kernel) rfl
theorem tw_738 : Cond.instanceMethod yX0_waiting ∈ TB := tb_2 (i := 125) (by decide +kernel) rfl
theorem tw_739 : Cond.selects RX0 yX0_waiting yX0_waiting ∈ TB := tb_p (q := (yX0_waiting, 4)) (List.mem_of_getElem? (i := 14) (by decide +kernel))
theorem tw_740 : Cond.code yX0_waiting cX0_waiting 3 (some (.object "ProvenanceTables$Relation")) ∈ TB := tb_2 (i := 126) (by decide +kernel) rfl
theorem tw_741 : Cond.methodLink RX0 62 yX6_firstAt ∈ TB := tb_2 (i := 127) (by decide +kernel) rfl
theorem tw_742 : Cond.methodLink RX0 65 yX6_secondAt ∈ TB := tb_2 (i := 131) (by decide +kernel) rfl
theorem tw_743 : Cond.methodLink RX0 68 yX0_fillTable ∈ TB := tb_2 (i := 135) (by decide +kernel) rfl
theorem tw_744 : Cond.instanceMethod yX0_fillTable ∈ TB := tb_2 (i := 137) (by decide +kernel) rfl
theorem tw_745 : Cond.selects RX0 yX0_fillTable yX0_fillTable ∈ TB := tb_p (q := (yX0_fillTable, 4)) (List.mem_of_getElem? (i := 15) (by decide +kernel))
theorem tw_746 : Cond.code yX0_fillTable cX0_fillTable 5 (some .boolean) ∈ TB := tb_2 (i := 138) (by decide +kernel) rfl
theorem tw_747 : Cond.methodLink RX0 88 yX8_widthOf ∈ TB := tb_2 (i := 139) (by decide +kernel) rfl
theorem tw_748 : Cond.methodLink RX0 93 yX8_tableAt ∈ TB := tb_2 (i := 146) (by decide +kernel) rfl
theorem tw_758 : Cond.methodLink RX0 96 yX8_keyOf ∈ TB := tb_2 (i := 154) (by decide +kernel) rfl
theorem tw_763 : Cond.methodLink RX0 99 yX7_rowWith ∈ TB := tb_2 (i := 158) (by decide +kernel) rfl
theorem tw_764 : Cond.instanceMethod yX7_rowWith ∈ TB := tb_2 (i := 159) (by decide +kernel) rfl
theorem tw_765 : Cond.selects RX7 yX7_rowWith yX7_rowWith ∈ TB := tb_2 (i := 160) (by decide +kernel) rfl
theorem tw_766 : Cond.code yX7_rowWith cX7_rowWith 5 (some (.object "ProvenanceTables$Polynomial")) ∈ TB := tb_2 (i := 161) (by decide +kernel) rfl
theorem tw_769 : Cond.methodLink RX7 47 yX5_clear ∈ TB := tb_2 (i := 162) (by decide +kernel) rfl
theorem tw_775 : Cond.methodLink RX0 103 yX4_ofTag ∈ TB := tb_2 (i := 166) (by decide +kernel) rfl
theorem tw_776 : Cond.static yX4_ofTag ∈ TB := tb_2 (i := 167) (by decide +kernel) rfl
theorem tw_778 : Cond.code yX4_ofTag cX4_ofTag 1 (some .long) ∈ TB := tb_2 (i := 168) (by decide +kernel) rfl
theorem tw_779 : Cond.methodLink RX0 109 yX5_addTerm ∈ TB := tb_2 (i := 169) (by decide +kernel) rfl
theorem tw_786 : Cond.methodLink RX0 72 yX0_fillSelect ∈ TB := tb_2 (i := 174) (by decide +kernel) rfl
theorem tw_787 : Cond.instanceMethod yX0_fillSelect ∈ TB := tb_2 (i := 176) (by decide +kernel) rfl
theorem tw_788 : Cond.selects RX0 yX0_fillSelect yX0_fillSelect ∈ TB := tb_p (q := (yX0_fillSelect, 4)) (List.mem_of_getElem? (i := 16) (by decide +kernel))
theorem tw_789 : Cond.code yX0_fillSelect cX0_fillSelect 9 (some .boolean) ∈ TB := tb_2 (i := 177) (by decide +kernel) rfl
theorem tw_790 : Cond.methodLink RX0 115 yX7_width ∈ TB := tb_2 (i := 178) (by decide +kernel) rfl
theorem tw_794 : Cond.methodLink RX0 118 yX7_size ∈ TB := tb_2 (i := 182) (by decide +kernel) rfl
theorem tw_798 : Cond.methodLink RX0 119 yX7_keyAt ∈ TB := tb_2 (i := 186) (by decide +kernel) rfl
theorem tw_806 : Cond.methodLink RX0 122 yX2_digit ∈ TB := tb_2 (i := 194) (by decide +kernel) rfl
theorem tw_807 : Cond.methodLink RX0 128 yX0_addToSpare ∈ TB := tb_2 (i := 197) (by decide +kernel) rfl
theorem tw_808 : Cond.instanceMethod yX0_addToSpare ∈ TB := tb_2 (i := 199) (by decide +kernel) rfl
theorem tw_809 : Cond.selects RX0 yX0_addToSpare yX0_addToSpare ∈ TB := tb_p (q := (yX0_addToSpare, 4)) (List.mem_of_getElem? (i := 17) (by decide +kernel))
theorem tw_810 : Cond.code yX0_addToSpare cX0_addToSpare 6 (some .boolean) ∈ TB := tb_2 (i := 200) (by decide +kernel) rfl
theorem tw_811 : Cond.methodLink RX0 135 yX7_polynomialAt ∈ TB := tb_2 (i := 201) (by decide +kernel) rfl
theorem tw_815 : Cond.methodLink RX0 142 yX5_addAll ∈ TB := tb_2 (i := 205) (by decide +kernel) rfl
theorem tw_816 : Cond.instanceMethod yX5_addAll ∈ TB := tb_2 (i := 206) (by decide +kernel) rfl
theorem tw_817 : Cond.selects RX5 yX5_addAll yX5_addAll ∈ TB := tb_2 (i := 207) (by decide +kernel) rfl
theorem tw_818 : Cond.code yX5_addAll cX5_addAll 3 (some .boolean) ∈ TB := tb_2 (i := 208) (by decide +kernel) rfl
theorem tw_820 : Cond.methodLink RX0 76 yX0_fillProject ∈ TB := tb_2 (i := 210) (by decide +kernel) rfl
theorem tw_821 : Cond.instanceMethod yX0_fillProject ∈ TB := tb_2 (i := 212) (by decide +kernel) rfl
theorem tw_822 : Cond.selects RX0 yX0_fillProject yX0_fillProject ∈ TB := tb_p (q := (yX0_fillProject, 4)) (List.mem_of_getElem? (i := 18) (by decide +kernel))
theorem tw_823 : Cond.code yX0_fillProject cX0_fillProject 8 (some .boolean) ∈ TB := tb_2 (i := 213) (by decide +kernel) rfl
theorem tw_824 : Cond.methodLink RX0 132 yX2_join ∈ TB := tb_2 (i := 214) (by decide +kernel) rfl
theorem tw_825 : Cond.methodLink RX0 80 yX0_fillJoin ∈ TB := tb_2 (i := 215) (by decide +kernel) rfl
theorem tw_826 : Cond.instanceMethod yX0_fillJoin ∈ TB := tb_2 (i := 217) (by decide +kernel) rfl
theorem tw_827 : Cond.selects RX0 yX0_fillJoin yX0_fillJoin ∈ TB := tb_p (q := (yX0_fillJoin, 4)) (List.mem_of_getElem? (i := 19) (by decide +kernel))
theorem tw_828 : Cond.code yX0_fillJoin cX0_fillJoin 11 (some .boolean) ∈ TB := tb_2 (i := 218) (by decide +kernel) rfl
theorem tw_829 : Cond.methodLink RX0 138 yX5_addProduct ∈ TB := tb_2 (i := 219) (by decide +kernel) rfl
theorem tw_830 : Cond.instanceMethod yX5_addProduct ∈ TB := tb_2 (i := 220) (by decide +kernel) rfl
theorem tw_831 : Cond.selects RX5 yX5_addProduct yX5_addProduct ∈ TB := tb_2 (i := 221) (by decide +kernel) rfl
theorem tw_832 : Cond.code yX5_addProduct cX5_addProduct 7 (some .boolean) ∈ TB := tb_2 (i := 222) (by decide +kernel) rfl
theorem tw_833 : Cond.methodLink RX0 84 yX0_fillUnion ∈ TB := tb_2 (i := 223) (by decide +kernel) rfl
theorem tw_834 : Cond.instanceMethod yX0_fillUnion ∈ TB := tb_2 (i := 225) (by decide +kernel) rfl
theorem tw_835 : Cond.selects RX0 yX0_fillUnion yX0_fillUnion ∈ TB := tb_p (q := (yX0_fillUnion, 4)) (List.mem_of_getElem? (i := 20) (by decide +kernel))
theorem tw_836 : Cond.code yX0_fillUnion cX0_fillUnion 4 (some .boolean) ∈ TB := tb_2 (i := 226) (by decide +kernel) rfl
theorem tw_837 : Cond.methodLink RX10 83 yX1_record ∈ TB := tb_4 (i := 45) (by decide +kernel) rfl
theorem tw_838 : Cond.instanceMethod yX1_record ∈ TB := tb_4 (i := 46) (by decide +kernel) rfl
theorem tw_839 : Cond.selects RX1 yX1_record yX1_record ∈ TB := tb_4 (i := 47) (by decide +kernel) rfl
theorem tw_840 : Cond.initialized RX1 ∈ TB := tb_1 (i := 5) (by decide +kernel) rfl
theorem tw_841 : Cond.code yX1_record cX1_record 3 none ∈ TB := tb_4 (i := 48) (by decide +kernel) rfl
theorem tw_842 : Cond.fieldLink RX1 18 "ProvenanceTables$History" "size" "I" ∈ TB := tb_1 (i := 81) (by decide +kernel) rfl
theorem tw_843 : Cond.fieldLink RX1 11 "ProvenanceTables$History" "states" "[LProvenanceTables$State;" ∈ TB := tb_1 (i := 80) (by decide +kernel) rfl
theorem tw_844 : Cond.methodLink RX1 22 yX1_moveOldestToEnd ∈ TB := tb_4 (i := 49) (by decide +kernel) rfl
theorem tw_845 : Cond.instanceMethod yX1_moveOldestToEnd ∈ TB := tb_4 (i := 51) (by decide +kernel) rfl
theorem tw_846 : Cond.selects RX1 yX1_moveOldestToEnd yX1_moveOldestToEnd ∈ TB := tb_p (q := (yX1_moveOldestToEnd, 2)) (List.mem_of_getElem? (i := 28) (by decide +kernel))
theorem tw_847 : Cond.code yX1_moveOldestToEnd cX1_moveOldestToEnd 3 none ∈ TB := tb_4 (i := 52) (by decide +kernel) rfl
theorem tw_848 : Cond.methodLink RX1 25 yX8_copy ∈ TB := tb_4 (i := 53) (by decide +kernel) rfl
theorem tw_849 : Cond.instanceMethod yX8_copy ∈ TB := tb_2 (i := 4) (by decide +kernel) rfl
theorem tw_850 : Cond.selects RX8 yX8_copy yX8_copy ∈ TB := tb_2 (i := 5) (by decide +kernel) rfl
theorem tw_851 : Cond.code yX8_copy cX8_copy 2 none ∈ TB := tb_2 (i := 6) (by decide +kernel) rfl
theorem tw_855 : Cond.methodLink RX8 36 yX8_copyNumbers ∈ TB := tb_2 (i := 7) (by decide +kernel) rfl
theorem tw_856 : Cond.static yX8_copyNumbers ∈ TB := tb_2 (i := 8) (by decide +kernel) rfl
theorem tw_857 : Cond.code yX8_copyNumbers cX8_copyNumbers 3 none ∈ TB := tb_2 (i := 9) (by decide +kernel) rfl
theorem tw_858 : Cond.methodLink RX8 40 yX3_copy ∈ TB := tb_2 (i := 10) (by decide +kernel) rfl
theorem tw_859 : Cond.instanceMethod yX3_copy ∈ TB := tb_2 (i := 11) (by decide +kernel) rfl
theorem tw_860 : Cond.selects RX3 yX3_copy yX3_copy ∈ TB := tb_2 (i := 12) (by decide +kernel) rfl
theorem tw_861 : Cond.code yX3_copy cX3_copy 3 none ∈ TB := tb_2 (i := 13) (by decide +kernel) rfl
theorem tw_862 : Cond.methodLink RX3 37 yX3_clear ∈ TB := tb_2 (i := 14) (by decide +kernel) rfl
theorem tw_863 : Cond.methodLink RX3 40 yX3_length ∈ TB := tb_2 (i := 18) (by decide +kernel) rfl
theorem tw_864 : Cond.methodLink RX3 33 yX3_codeAt ∈ TB := tb_2 (i := 22) (by decide +kernel) rfl
theorem tw_865 : Cond.methodLink RX3 29 yX3_add ∈ TB := tb_2 (i := 26) (by decide +kernel) rfl
theorem tw_866 : Cond.methodLink RX10 167 yX3_copy ∈ TB := tb_4 (i := 149) (by decide +kernel) rfl
theorem tw_867 : Cond.methodLink RX10 116 yX0_keepResult ∈ TB := tb_2 (i := 227) (by decide +kernel) rfl
theorem tw_868 : Cond.instanceMethod yX0_keepResult ∈ TB := tb_2 (i := 228) (by decide +kernel) rfl
theorem tw_869 : Cond.selects RX0 yX0_keepResult yX0_keepResult ∈ TB := tb_2 (i := 229) (by decide +kernel) rfl
theorem tw_870 : Cond.code yX0_keepResult cX0_keepResult 2 none ∈ TB := tb_2 (i := 230) (by decide +kernel) rfl
theorem tw_872 : Cond.methodLink RX10 170 yX10_answerRows ∈ TB := tb_4 (i := 150) (by decide +kernel) rfl
theorem tw_928 : Cond.methodLink RL 113 yX10_addRow ∈ TB := tb_4 (i := 27) (by decide +kernel) rfl
theorem tw_929 : Cond.instanceMethod yX10_addRow ∈ TB := tb_4 (i := 28) (by decide +kernel) rfl
theorem tw_930 : Cond.selects RX10 yX10_addRow yX10_addRow ∈ TB := tb_4 (i := 29) (by decide +kernel) rfl
theorem tw_931 : Cond.code yX10_addRow cX10_addRow 5 (some .int) ∈ TB := tb_4 (i := 30) (by decide +kernel) rfl
theorem tw_932 : Cond.fieldLink RX10 16 "ProvenanceTables" "trial" "LProvenanceTables$State;" ∈ TB := tb_1 (i := 205) (by decide +kernel) rfl
theorem tw_935 : Cond.methodLink RX10 91 yX2_hasMoreDigits ∈ TB := tb_4 (i := 31) (by decide +kernel) rfl
theorem tw_936 : Cond.static yX2_hasMoreDigits ∈ TB := tb_4 (i := 32) (by decide +kernel) rfl
theorem tw_938 : Cond.code yX2_hasMoreDigits cX2_hasMoreDigits 4 (some .boolean) ∈ TB := tb_4 (i := 33) (by decide +kernel) rfl
theorem tw_939 : Cond.methodLink RX10 97 yX8_freeTag ∈ TB := tb_4 (i := 34) (by decide +kernel) rfl
theorem tw_940 : Cond.instanceMethod yX8_freeTag ∈ TB := tb_4 (i := 35) (by decide +kernel) rfl
theorem tw_941 : Cond.selects RX8 yX8_freeTag yX8_freeTag ∈ TB := tb_4 (i := 36) (by decide +kernel) rfl
theorem tw_942 : Cond.code yX8_freeTag cX8_freeTag 2 (some .int) ∈ TB := tb_4 (i := 37) (by decide +kernel) rfl
theorem tw_947 : Cond.methodLink RX10 101 yX8_copy ∈ TB := tb_2 (i := 3) (by decide +kernel) rfl
theorem tw_983 : Cond.methodLink RX10 104 yX2_ofDecimal ∈ TB := tb_4 (i := 38) (by decide +kernel) rfl
theorem tw_984 : Cond.static yX2_ofDecimal ∈ TB := tb_4 (i := 39) (by decide +kernel) rfl
theorem tw_985 : Cond.code yX2_ofDecimal cX2_ofDecimal 5 (some .int) ∈ TB := tb_4 (i := 40) (by decide +kernel) rfl
theorem tw_986 : Cond.methodLink RX10 108 yX8_place ∈ TB := tb_4 (i := 41) (by decide +kernel) rfl
theorem tw_987 : Cond.instanceMethod yX8_place ∈ TB := tb_4 (i := 42) (by decide +kernel) rfl
theorem tw_988 : Cond.selects RX8 yX8_place yX8_place ∈ TB := tb_4 (i := 43) (by decide +kernel) rfl
theorem tw_989 : Cond.code yX8_place cX8_place 4 none ∈ TB := tb_4 (i := 44) (by decide +kernel) rfl
theorem tw_1190 : Cond.methodLink RL 116 yX10_dropRow ∈ TB := tb_4 (i := 54) (by decide +kernel) rfl
theorem tw_1191 : Cond.instanceMethod yX10_dropRow ∈ TB := tb_4 (i := 55) (by decide +kernel) rfl
theorem tw_1192 : Cond.selects RX10 yX10_dropRow yX10_dropRow ∈ TB := tb_4 (i := 56) (by decide +kernel) rfl
theorem tw_1193 : Cond.code yX10_dropRow cX10_dropRow 2 (some .int) ∈ TB := tb_4 (i := 57) (by decide +kernel) rfl
