theorem tw_1194 : Cond.methodLink RX10 122 yX8_remove ∈ TB := tb_4 (i := 58) (by decide +kernel) rfl
theorem tw_1195 : Cond.instanceMethod yX8_remove ∈ TB := tb_4 (i := 59) (by decide +kernel) rfl
theorem tw_1196 : Cond.selects RX8 yX8_remove yX8_remove ∈ TB := tb_4 (i := 60) (by decide +kernel) rfl
theorem tw_1197 : Cond.code yX8_remove cX8_remove 2 none ∈ TB := tb_4 (i := 61) (by decide +kernel) rfl
theorem tw_1198 : Cond.methodLink RX10 125 yX10_refreshAnswer ∈ TB := tb_2 (i := 86) (by decide +kernel) rfl
theorem tw_1199 : Cond.instanceMethod yX10_refreshAnswer ∈ TB := tb_2 (i := 88) (by decide +kernel) rfl
theorem tw_1200 : Cond.selects RX10 yX10_refreshAnswer yX10_refreshAnswer ∈ TB := tb_p (q := (yX10_refreshAnswer, 10)) (List.mem_of_getElem? (i := 10) (by decide +kernel))
theorem tw_1201 : Cond.code yX10_refreshAnswer cX10_refreshAnswer 1 none ∈ TB := tb_2 (i := 89) (by decide +kernel) rfl
theorem tw_1202 : Cond.methodLink RX10 131 yJ6_bitCount_0f7a4 ∈ TB := tb_4 (i := 62) (by decide +kernel) rfl
theorem tw_1209 : Cond.methodLink RL 119 yX10_setCost ∈ TB := tb_4 (i := 63) (by decide +kernel) rfl
theorem tw_1210 : Cond.instanceMethod yX10_setCost ∈ TB := tb_4 (i := 64) (by decide +kernel) rfl
theorem tw_1211 : Cond.selects RX10 yX10_setCost yX10_setCost ∈ TB := tb_4 (i := 65) (by decide +kernel) rfl
theorem tw_1212 : Cond.code yX10_setCost cX10_setCost 4 (some .int) ∈ TB := tb_4 (i := 66) (by decide +kernel) rfl
theorem tw_1213 : Cond.methodLink RX10 139 yX8_changeCost ∈ TB := tb_4 (i := 67) (by decide +kernel) rfl
theorem tw_1214 : Cond.instanceMethod yX8_changeCost ∈ TB := tb_4 (i := 68) (by decide +kernel) rfl
theorem tw_1215 : Cond.selects RX8 yX8_changeCost yX8_changeCost ∈ TB := tb_4 (i := 69) (by decide +kernel) rfl
theorem tw_1216 : Cond.code yX8_changeCost cX8_changeCost 3 none ∈ TB := tb_4 (i := 70) (by decide +kernel) rfl
theorem tw_1217 : Cond.methodLink RL 122 yX10_setTrust ∈ TB := tb_4 (i := 71) (by decide +kernel) rfl
theorem tw_1218 : Cond.instanceMethod yX10_setTrust ∈ TB := tb_4 (i := 72) (by decide +kernel) rfl
theorem tw_1219 : Cond.selects RX10 yX10_setTrust yX10_setTrust ∈ TB := tb_4 (i := 73) (by decide +kernel) rfl
theorem tw_1220 : Cond.code yX10_setTrust cX10_setTrust 4 (some .int) ∈ TB := tb_4 (i := 74) (by decide +kernel) rfl
theorem tw_1221 : Cond.methodLink RX10 145 yX8_changeTrust ∈ TB := tb_4 (i := 75) (by decide +kernel) rfl
theorem tw_1222 : Cond.instanceMethod yX8_changeTrust ∈ TB := tb_4 (i := 76) (by decide +kernel) rfl
theorem tw_1223 : Cond.selects RX8 yX8_changeTrust yX8_changeTrust ∈ TB := tb_4 (i := 77) (by decide +kernel) rfl
theorem tw_1224 : Cond.code yX8_changeTrust cX8_changeTrust 3 none ∈ TB := tb_4 (i := 78) (by decide +kernel) rfl
theorem tw_1230 : Cond.methodLink RL 125 yL_rows ∈ TB := tb_4 (i := 24) (by decide +kernel) rfl
theorem tw_1231 : Cond.static yL_rows ∈ TB := tb_4 (i := 25) (by decide +kernel) rfl
theorem tw_1232 : Cond.code yL_rows cL_rows 14 (some .boolean) ∈ TB := tb_4 (i := 26) (by rfl) rfl
theorem tw_1609 : Cond.methodLink RL 129 yX10_lostIf ∈ TB := tb_4 (i := 79) (by decide +kernel) rfl
theorem tw_1610 : Cond.instanceMethod yX10_lostIf ∈ TB := tb_4 (i := 80) (by decide +kernel) rfl
theorem tw_1611 : Cond.selects RX10 yX10_lostIf yX10_lostIf ∈ TB := tb_4 (i := 81) (by decide +kernel) rfl
theorem tw_1612 : Cond.code yX10_lostIf cX10_lostIf 4 (some .int) ∈ TB := tb_4 (i := 82) (by decide +kernel) rfl
theorem tw_1613 : Cond.methodLink RX10 296 yX7_countPresent ∈ TB := tb_4 (i := 83) (by decide +kernel) rfl
theorem tw_1614 : Cond.instanceMethod yX7_countPresent ∈ TB := tb_4 (i := 84) (by decide +kernel) rfl
theorem tw_1615 : Cond.selects RX7 yX7_countPresent yX7_countPresent ∈ TB := tb_4 (i := 85) (by decide +kernel) rfl
theorem tw_1616 : Cond.code yX7_countPresent cX7_countPresent 7 (some .int) ∈ TB := tb_4 (i := 86) (by decide +kernel) rfl
theorem tw_1617 : Cond.methodLink RX7 33 yX4_maskOf ∈ TB := tb_4 (i := 87) (by decide +kernel) rfl
theorem tw_1618 : Cond.methodLink RX7 39 yX7_polynomialAt ∈ TB := tb_4 (i := 88) (by decide +kernel) rfl
theorem tw_1619 : Cond.methodLink RX7 43 yX5_hasTermWithout ∈ TB := tb_4 (i := 89) (by decide +kernel) rfl
theorem tw_1620 : Cond.instanceMethod yX5_hasTermWithout ∈ TB := tb_4 (i := 90) (by decide +kernel) rfl
theorem tw_1621 : Cond.selects RX5 yX5_hasTermWithout yX5_hasTermWithout ∈ TB := tb_4 (i := 91) (by decide +kernel) rfl
theorem tw_1622 : Cond.code yX5_hasTermWithout cX5_hasTermWithout 4 (some .boolean) ∈ TB := tb_4 (i := 92) (by decide +kernel) rfl
theorem tw_1623 : Cond.methodLink RL 132 yX10_setWithdrawn ∈ TB := tb_4 (i := 93) (by decide +kernel) rfl
theorem tw_1624 : Cond.instanceMethod yX10_setWithdrawn ∈ TB := tb_4 (i := 94) (by decide +kernel) rfl
theorem tw_1625 : Cond.selects RX10 yX10_setWithdrawn yX10_setWithdrawn ∈ TB := tb_4 (i := 95) (by decide +kernel) rfl
theorem tw_1626 : Cond.code yX10_setWithdrawn cX10_setWithdrawn 3 (some .int) ∈ TB := tb_4 (i := 96) (by decide +kernel) rfl
theorem tw_1627 : Cond.methodLink RX10 148 yX8_withdraw ∈ TB := tb_4 (i := 97) (by decide +kernel) rfl
theorem tw_1628 : Cond.instanceMethod yX8_withdraw ∈ TB := tb_4 (i := 98) (by decide +kernel) rfl
theorem tw_1629 : Cond.selects RX8 yX8_withdraw yX8_withdraw ∈ TB := tb_4 (i := 99) (by decide +kernel) rfl
theorem tw_1630 : Cond.code yX8_withdraw cX8_withdraw 3 none ∈ TB := tb_4 (i := 100) (by decide +kernel) rfl
theorem tw_1631 : Cond.methodLink RX10 152 yX10_presentRows ∈ TB := tb_4 (i := 101) (by decide +kernel) rfl
theorem tw_1632 : Cond.instanceMethod yX10_presentRows ∈ TB := tb_4 (i := 103) (by decide +kernel) rfl
theorem tw_1633 : Cond.selects RX10 yX10_presentRows yX10_presentRows ∈ TB := tb_p (q := (yX10_presentRows, 10)) (List.mem_of_getElem? (i := 29) (by decide +kernel))
theorem tw_1634 : Cond.code yX10_presentRows cX10_presentRows 1 (some .int) ∈ TB := tb_4 (i := 104) (by decide +kernel) rfl
theorem tw_1635 : Cond.methodLink RL 136 yL_asks ∈ TB := tb_4 (i := 105) (by decide +kernel) rfl
theorem tw_1636 : Cond.static yL_asks ∈ TB := tb_4 (i := 106) (by decide +kernel) rfl
theorem tw_1637 : Cond.code yL_asks cL_asks 8 (some .boolean) ∈ TB := tb_4 (i := 107) (by rfl) rfl
theorem tw_1736 : Cond.methodLink RL 140 yX10_dropQuery ∈ TB := tb_4 (i := 151) (by decide +kernel) rfl
theorem tw_1737 : Cond.instanceMethod yX10_dropQuery ∈ TB := tb_4 (i := 152) (by decide +kernel) rfl
theorem tw_1738 : Cond.selects RX10 yX10_dropQuery yX10_dropQuery ∈ TB := tb_4 (i := 153) (by decide +kernel) rfl
theorem tw_1739 : Cond.code yX10_dropQuery cX10_dropQuery 2 (some .int) ∈ TB := tb_4 (i := 154) (by decide +kernel) rfl
theorem tw_1750 : Cond.methodLink RL 143 yX10_setColumns ∈ TB := tb_4 (i := 155) (by decide +kernel) rfl
theorem tw_1751 : Cond.instanceMethod yX10_setColumns ∈ TB := tb_4 (i := 156) (by decide +kernel) rfl
theorem tw_1752 : Cond.selects RX10 yX10_setColumns yX10_setColumns ∈ TB := tb_4 (i := 157) (by decide +kernel) rfl
theorem tw_1753 : Cond.code yX10_setColumns cX10_setColumns 4 (some .int) ∈ TB := tb_4 (i := 158) (by decide +kernel) rfl
theorem tw_1754 : Cond.methodLink RX10 73 yX8_hasRowIn ∈ TB := tb_4 (i := 159) (by decide +kernel) rfl
theorem tw_1755 : Cond.instanceMethod yX8_hasRowIn ∈ TB := tb_4 (i := 160) (by decide +kernel) rfl
theorem tw_1756 : Cond.selects RX8 yX8_hasRowIn yX8_hasRowIn ∈ TB := tb_4 (i := 161) (by decide +kernel) rfl
theorem tw_1757 : Cond.code yX8_hasRowIn cX8_hasRowIn 3 (some .boolean) ∈ TB := tb_4 (i := 162) (by decide +kernel) rfl
theorem tw_1758 : Cond.methodLink RX10 76 yX8_queryNames ∈ TB := tb_4 (i := 163) (by decide +kernel) rfl
theorem tw_1759 : Cond.instanceMethod yX8_queryNames ∈ TB := tb_4 (i := 164) (by decide +kernel) rfl
theorem tw_1760 : Cond.selects RX8 yX8_queryNames yX8_queryNames ∈ TB := tb_4 (i := 165) (by decide +kernel) rfl
theorem tw_1761 : Cond.code yX8_queryNames cX8_queryNames 2 (some .boolean) ∈ TB := tb_4 (i := 166) (by decide +kernel) rfl
theorem tw_1762 : Cond.methodLink RX8 55 yX3_contains ∈ TB := tb_4 (i := 167) (by decide +kernel) rfl
theorem tw_1763 : Cond.instanceMethod yX3_contains ∈ TB := tb_4 (i := 168) (by decide +kernel) rfl
theorem tw_1764 : Cond.selects RX3 yX3_contains yX3_contains ∈ TB := tb_4 (i := 169) (by decide +kernel) rfl
theorem tw_1765 : Cond.code yX3_contains cX3_contains 3 (some .boolean) ∈ TB := tb_4 (i := 170) (by decide +kernel) rfl
theorem tw_1766 : Cond.methodLink RX10 87 yX8_setWidth ∈ TB := tb_4 (i := 171) (by decide +kernel) rfl
theorem tw_1767 : Cond.instanceMethod yX8_setWidth ∈ TB := tb_4 (i := 172) (by decide +kernel) rfl
theorem tw_1768 : Cond.selects RX8 yX8_setWidth yX8_setWidth ∈ TB := tb_4 (i := 173) (by decide +kernel) rfl
theorem tw_1769 : Cond.code yX8_setWidth cX8_setWidth 3 none ∈ TB := tb_4 (i := 174) (by decide +kernel) rfl
theorem tw_1770 : Cond.classLink RL 14 RX10 ∈ TB := tb_1 (i := 14) (by decide +kernel) rfl
theorem tw_1771 : Cond.instantiable RX10 10 ∈ TB := tb_1 (i := 15) (by decide +kernel) rfl
theorem tw_1773 : Cond.arrayClass .int ∈ TB := tb_1 (i := 44) (by decide +kernel) rfl
theorem tw_1774 : Cond.methodLink RL 146 yX10_init ∈ TB := tb_1 (i := 16) (by decide +kernel) rfl
theorem tw_1775 : Cond.instanceMethod yX10_init ∈ TB := tb_1 (i := 17) (by decide +kernel) rfl
theorem tw_1776 : Cond.code yX10_init cX10_init 1 none ∈ TB := tb_1 (i := 18) (by decide +kernel) rfl
theorem tw_1777 : Cond.methodLink RX10 1 objectInit ∈ TB := tb_1 (i := 19) (by decide +kernel) rfl
theorem tw_1778 : Cond.instanceMethod objectInit ∈ TB := tb_1 (i := 20) (by decide +kernel) rfl
theorem tw_1779 : Cond.code objectInit ⟨#[0xb1]⟩ 1 none ∈ TB := tb_1 (i := 21) (by decide +kernel) rfl
theorem tw_1780 : Cond.classLink RX10 7 RX8 ∈ TB := tb_1 (i := 22) (by decide +kernel) rfl
theorem tw_1781 : Cond.instantiable RX8 8 ∈ TB := tb_1 (i := 23) (by decide +kernel) rfl
theorem tw_1785 : Cond.classLink RX10 19 RX1 ∈ TB := tb_1 (i := 71) (by decide +kernel) rfl
theorem tw_1786 : Cond.instantiable RX1 2 ∈ TB := tb_1 (i := 72) (by decide +kernel) rfl
theorem tw_1789 : Cond.classLink RX10 26 RX3 ∈ TB := tb_1 (i := 87) (by decide +kernel) rfl
theorem tw_1790 : Cond.instantiable RX3 2 ∈ TB := tb_1 (i := 29) (by decide +kernel) rfl
theorem tw_1793 : Cond.fieldLink RX10 35 "ProvenanceTables" "paper" "LProvenanceTables$Line;" ∈ TB := tb_1 (i := 208) (by decide +kernel) rfl
theorem tw_1794 : Cond.classLink RX10 38 RX6 ∈ TB := tb_1 (i := 89) (by decide +kernel) rfl
theorem tw_1795 : Cond.instantiable RX6 10 ∈ TB := tb_1 (i := 90) (by decide +kernel) rfl
theorem tw_1799 : Cond.classLink RX10 48 RX0 ∈ TB := tb_1 (i := 126) (by decide +kernel) rfl
theorem tw_1800 : Cond.instantiable RX0 4 ∈ TB := tb_1 (i := 127) (by decide +kernel) rfl
theorem tw_1803 : Cond.classLink RX10 55 RX5 ∈ TB := tb_1 (i := 183) (by decide +kernel) rfl
theorem tw_1804 : Cond.instantiable RX5 3 ∈ TB := tb_1 (i := 141) (by decide +kernel) rfl
theorem tw_1807 : Cond.classLink RX10 62 RX9 ∈ TB := tb_1 (i := 185) (by decide +kernel) rfl
theorem tw_1808 : Cond.instantiable RX9 4 ∈ TB := tb_1 (i := 186) (by decide +kernel) rfl
theorem tw_1811 : Cond.methodLink RX10 9 yX8_init ∈ TB := tb_1 (i := 24) (by decide +kernel) rfl
theorem tw_1812 : Cond.instanceMethod yX8_init ∈ TB := tb_1 (i := 25) (by decide +kernel) rfl
theorem tw_1813 : Cond.code yX8_init cX8_init 2 none ∈ TB := tb_1 (i := 26) (by decide +kernel) rfl
theorem tw_1814 : Cond.methodLink RX8 3 objectInit ∈ TB := tb_1 (i := 27) (by decide +kernel) rfl
theorem tw_1820 : Cond.classLink RX8 27 RX3 ∈ TB := tb_1 (i := 28) (by decide +kernel) rfl
theorem tw_1822 : Cond.methodLink RX8 29 yX3_init ∈ TB := tb_1 (i := 30) (by decide +kernel) rfl
theorem tw_1823 : Cond.instanceMethod yX3_init ∈ TB := tb_1 (i := 31) (by decide +kernel) rfl
theorem tw_1824 : Cond.code yX3_init cX3_init 2 none ∈ TB := tb_1 (i := 32) (by decide +kernel) rfl
theorem tw_1825 : Cond.methodLink RX3 3 objectInit ∈ TB := tb_1 (i := 33) (by decide +kernel) rfl
theorem tw_1826 : Cond.methodLink RX3 9 Lib.Math.max.name ∈ TB := tb_1 (i := 34) (by decide +kernel) rfl
theorem tw_1830 : Cond.arrayClass .char ∈ TB := tb_1 (i := 45) (by decide +kernel) rfl
theorem tw_1832 : Cond.methodLink RX10 21 yX1_init ∈ TB := tb_1 (i := 73) (by decide +kernel) rfl
theorem tw_1833 : Cond.instanceMethod yX1_init ∈ TB := tb_1 (i := 74) (by decide +kernel) rfl
theorem tw_1834 : Cond.code yX1_init cX1_init 2 none ∈ TB := tb_1 (i := 75) (by decide +kernel) rfl
theorem tw_1835 : Cond.methodLink RX1 3 objectInit ∈ TB := tb_1 (i := 76) (by decide +kernel) rfl
theorem tw_1836 : Cond.classLink RX1 9 RX8 ∈ TB := tb_1 (i := 77) (by decide +kernel) rfl
theorem tw_1838 : Cond.methodLink RX1 17 yX8_init ∈ TB := tb_1 (i := 79) (by decide +kernel) rfl
theorem tw_1839 : Cond.methodLink RX10 28 yX3_init ∈ TB := tb_1 (i := 88) (by decide +kernel) rfl
theorem tw_1840 : Cond.instanceMethod yX6_init ∈ TB := tb_1 (i := 92) (by decide +kernel) rfl
theorem tw_1841 : Cond.code yX6_init cX6_init 1 none ∈ TB := tb_1 (i := 93) (by decide +kernel) rfl
theorem tw_1842 : Cond.methodLink RX6 3 objectInit ∈ TB := tb_1 (i := 94) (by decide +kernel) rfl
theorem tw_1848 : Cond.methodLink RX10 50 yX0_init ∈ TB := tb_1 (i := 128) (by decide +kernel) rfl
theorem tw_1849 : Cond.instanceMethod yX0_init ∈ TB := tb_1 (i := 129) (by decide +kernel) rfl
theorem tw_1850 : Cond.code yX0_init cX0_init 2 none ∈ TB := tb_1 (i := 130) (by decide +kernel) rfl
theorem tw_1851 : Cond.methodLink RX0 3 objectInit ∈ TB := tb_1 (i := 131) (by decide +kernel) rfl
theorem tw_1852 : Cond.classLink RX0 11 RX7 ∈ TB := tb_1 (i := 132) (by decide +kernel) rfl
theorem tw_1854 : Cond.instantiable RX7 4 ∈ TB := tb_1 (i := 134) (by decide +kernel) rfl
theorem tw_1858 : Cond.methodLink RX0 17 yX7_init ∈ TB := tb_1 (i := 135) (by decide +kernel) rfl
theorem tw_1859 : Cond.instanceMethod yX7_init ∈ TB := tb_1 (i := 136) (by decide +kernel) rfl
theorem tw_1860 : Cond.code yX7_init cX7_init 2 none ∈ TB := tb_1 (i := 137) (by decide +kernel) rfl
theorem tw_1861 : Cond.methodLink RX7 3 objectInit ∈ TB := tb_1 (i := 138) (by decide +kernel) rfl
theorem tw_1863 : Cond.classLink RX7 15 RX5 ∈ TB := tb_1 (i := 139) (by decide +kernel) rfl
theorem tw_1865 : Cond.instanceMethod yX5_init ∈ TB := tb_1 (i := 143) (by decide +kernel) rfl
theorem tw_1866 : Cond.code yX5_init cX5_init 1 none ∈ TB := tb_1 (i := 144) (by decide +kernel) rfl
theorem tw_1867 : Cond.methodLink RX5 3 objectInit ∈ TB := tb_1 (i := 145) (by decide +kernel) rfl
theorem tw_1868 : Cond.arrayClass .long ∈ TB := tb_1 (i := 156) (by decide +kernel) rfl
theorem tw_1871 : Cond.instanceMethod yX9_init ∈ TB := tb_1 (i := 188) (by decide +kernel) rfl
theorem tw_1872 : Cond.code yX9_init cX9_init 1 none ∈ TB := tb_1 (i := 189) (by decide +kernel) rfl
theorem tw_1873 : Cond.methodLink RX9 3 objectInit ∈ TB := tb_1 (i := 190) (by decide +kernel) rfl
theorem tw_1877 : Cond.methodLink RL 147 yL_holds ∈ TB := tb_3 (i := 131) (by decide +kernel) rfl
theorem tw_1878 : Cond.static yL_holds ∈ TB := tb_3 (i := 132) (by decide +kernel) rfl
theorem tw_1880 : Cond.code yL_holds cL_holds 13 (some .boolean) ∈ TB := tb_3 (i := 133) (by rfl) rfl
theorem tw_2159 : Cond.methodLink RL 150 yX10_undo ∈ TB := tb_1 (i := 235) (by decide +kernel) rfl
theorem tw_2160 : Cond.instanceMethod yX10_undo ∈ TB := tb_1 (i := 236) (by decide +kernel) rfl
theorem tw_2161 : Cond.selects RX10 yX10_undo yX10_undo ∈ TB := tb_1 (i := 237) (by decide +kernel) rfl
theorem tw_2162 : Cond.code yX10_undo cX10_undo 2 (some .int) ∈ TB := tb_1 (i := 238) (by decide +kernel) rfl
theorem tw_2163 : Cond.methodLink RX10 186 yX1_takeLatest ∈ TB := tb_1 (i := 239) (by decide +kernel) rfl
theorem tw_2164 : Cond.instanceMethod yX1_takeLatest ∈ TB := tb_2 (i := 0) (by decide +kernel) rfl
theorem tw_2165 : Cond.selects RX1 yX1_takeLatest yX1_takeLatest ∈ TB := tb_2 (i := 1) (by decide +kernel) rfl
theorem tw_2166 : Cond.code yX1_takeLatest cX1_takeLatest 1 (some (.object "ProvenanceTables$State")) ∈ TB := tb_2 (i := 2) (by decide +kernel) rfl
theorem tw_2361 : Cond.methodLink RX10 190 yX1_size ∈ TB := tb_2 (i := 231) (by decide +kernel) rfl
theorem tw_2362 : Cond.instanceMethod yX1_size ∈ TB := tb_2 (i := 232) (by decide +kernel) rfl
theorem tw_2363 : Cond.selects RX1 yX1_size yX1_size ∈ TB := tb_2 (i := 233) (by decide +kernel) rfl
theorem tw_2364 : Cond.code yX1_size cX1_size 1 (some .int) ∈ TB := tb_2 (i := 234) (by decide +kernel) rfl
theorem tw_2365 : Cond.methodLink RL 153 yL_lot ∈ TB := tb_2 (i := 235) (by decide +kernel) rfl
theorem tw_2366 : Cond.static yL_lot ∈ TB := tb_2 (i := 236) (by decide +kernel) rfl
theorem tw_2367 : Cond.code yL_lot cL_lot 2 (some .int) ∈ TB := tb_2 (i := 237) (by rfl) rfl
theorem tw_2368 : Cond.constant RL 7 (-471800469) ∈ TB := tb_2 (i := 238) (by decide +kernel) rfl
theorem tw_2369 : Cond.methodLink RL 157 yL_look ∈ TB := tb_3 (i := 3) (by decide +kernel) rfl
theorem tw_2370 : Cond.static yL_look ∈ TB := tb_3 (i := 4) (by decide +kernel) rfl
theorem tw_2371 : Cond.code yL_look cL_look 5 (some .long) ∈ TB := tb_3 (i := 5) (by rfl) rfl
theorem tw_2400 : Cond.methodLink RL 161 yL_acts ∈ TB := tb_4 (i := 21) (by decide +kernel) rfl
theorem tw_2401 : Cond.static yL_acts ∈ TB := tb_4 (i := 22) (by decide +kernel) rfl
theorem tw_2402 : Cond.code yL_acts cL_acts 12 (some .boolean) ∈ TB := tb_4 (i := 23) (by rfl) rfl
set_option maxRecDepth 20000 in
theorem inX0 : ∀ w ∈ u_ws RX0 TX0 4, w ∈ TB := List.forall_mem_cons.mpr ⟨tb_1 (i := 174) (by decide +kernel) rfl, List.forall_mem_cons.mpr ⟨tb_1 (i := 176) (by decide +kernel) rfl, List.forall_mem_cons.mpr ⟨tb_1 (i := 178) (by decide +kernel) rfl, List.forall_mem_cons.mpr ⟨tb_1 (i := 180) (by decide +kernel) rfl, fun _ h => absurd h List.not_mem_nil⟩⟩⟩⟩
set_option maxRecDepth 20000 in
theorem inX1 : ∀ w ∈ u_ws RX1 TX1 2, w ∈ TB := List.forall_mem_cons.mpr ⟨tb_1 (i := 82) (by decide +kernel) rfl, List.forall_mem_cons.mpr ⟨tb_1 (i := 84) (by decide +kernel) rfl, fun _ h => absurd h List.not_mem_nil⟩⟩
set_option maxRecDepth 20000 in
theorem inX3 : ∀ w ∈ u_ws RX3 TX3 2, w ∈ TB := List.forall_mem_cons.mpr ⟨tb_1 (i := 39) (by decide +kernel) rfl, List.forall_mem_cons.mpr ⟨tb_1 (i := 41) (by decide +kernel) rfl, fun _ h => absurd h List.not_mem_nil⟩⟩
set_option maxRecDepth 20000 in
theorem inX5 : ∀ w ∈ u_ws RX5 TX5 3, w ∈ TB := List.forall_mem_cons.mpr ⟨tb_1 (i := 149) (by decide +kernel) rfl, List.forall_mem_cons.mpr ⟨tb_1 (i := 151) (by decide +kernel) rfl, List.forall_mem_cons.mpr ⟨tb_1 (i := 153) (by decide +kernel) rfl, fun _ h => absurd h List.not_mem_nil⟩⟩⟩
set_option maxRecDepth 20000 in
theorem inX6 : ∀ w ∈ u_ws RX6 TX6 10, w ∈ TB := List.forall_mem_cons.mpr ⟨tb_1 (i := 105) (by decide +kernel) rfl, List.forall_mem_cons.mpr ⟨tb_1 (i := 107) (by decide +kernel) rfl, List.forall_mem_cons.mpr ⟨tb_1 (i := 109) (by decide +kernel) rfl, List.forall_mem_cons.mpr ⟨tb_1 (i := 111) (by decide +kernel) rfl, List.forall_mem_cons.mpr ⟨tb_1 (i := 113) (by decide +kernel) rfl, List.forall_mem_cons.mpr ⟨tb_1 (i := 115) (by decide +kernel) rfl, List.forall_mem_cons.mpr ⟨tb_1 (i := 117) (by decide +kernel) rfl, List.forall_mem_cons.mpr ⟨tb_1 (i := 119) (by decide +kernel) rfl, List.forall_mem_cons.mpr ⟨tb_1 (i := 121) (by decide +kernel) rfl, List.forall_mem_cons.mpr ⟨tb_1 (i := 123) (by decide +kernel) rfl, fun _ h => absurd h List.not_mem_nil⟩⟩⟩⟩⟩⟩⟩⟩⟩⟩
set_option maxRecDepth 20000 in
theorem inX7 : ∀ w ∈ u_ws RX7 TX7 4, w ∈ TB := List.forall_mem_cons.mpr ⟨tb_1 (i := 161) (by decide +kernel) rfl, List.forall_mem_cons.mpr ⟨tb_1 (i := 163) (by decide +kernel) rfl, List.forall_mem_cons.mpr ⟨tb_1 (i := 165) (by decide +kernel) rfl, List.forall_mem_cons.mpr ⟨tb_1 (i := 167) (by decide +kernel) rfl, fun _ h => absurd h List.not_mem_nil⟩⟩⟩⟩
set_option maxRecDepth 20000 in
theorem inX8 : ∀ w ∈ u_ws RX8 TX8 8, w ∈ TB := List.forall_mem_cons.mpr ⟨tb_1 (i := 54) (by decide +kernel) rfl, List.forall_mem_cons.mpr ⟨tb_1 (i := 56) (by decide +kernel) rfl, List.forall_mem_cons.mpr ⟨tb_1 (i := 58) (by decide +kernel) rfl, List.forall_mem_cons.mpr ⟨tb_1 (i := 60) (by decide +kernel) rfl, List.forall_mem_cons.mpr ⟨tb_1 (i := 62) (by decide +kernel) rfl, List.forall_mem_cons.mpr ⟨tb_1 (i := 64) (by decide +kernel) rfl, List.forall_mem_cons.mpr ⟨tb_1 (i := 66) (by decide +kernel) rfl, List.forall_mem_cons.mpr ⟨tb_1 (i := 68) (by decide +kernel) rfl, fun _ h => absurd h List.not_mem_nil⟩⟩⟩⟩⟩⟩⟩⟩
set_option maxRecDepth 20000 in
theorem inX9 : ∀ w ∈ u_ws RX9 TX9 4, w ∈ TB := List.forall_mem_cons.mpr ⟨tb_1 (i := 195) (by decide +kernel) rfl, List.forall_mem_cons.mpr ⟨tb_1 (i := 197) (by decide +kernel) rfl, List.forall_mem_cons.mpr ⟨tb_1 (i := 199) (by decide +kernel) rfl, List.forall_mem_cons.mpr ⟨tb_1 (i := 201) (by decide +kernel) rfl, fun _ h => absurd h List.not_mem_nil⟩⟩⟩⟩
set_option maxRecDepth 20000 in
theorem inX10 : ∀ w ∈ u_ws RX10 TX10 10, w ∈ TB := List.forall_mem_cons.mpr ⟨tb_1 (i := 214) (by decide +kernel) rfl, List.forall_mem_cons.mpr ⟨tb_1 (i := 216) (by decide +kernel) rfl, List.forall_mem_cons.mpr ⟨tb_1 (i := 218) (by decide +kernel) rfl, List.forall_mem_cons.mpr ⟨tb_1 (i := 220) (by decide +kernel) rfl, List.forall_mem_cons.mpr ⟨tb_1 (i := 222) (by decide +kernel) rfl, List.forall_mem_cons.mpr ⟨tb_1 (i := 224) (by decide +kernel) rfl, List.forall_mem_cons.mpr ⟨tb_1 (i := 226) (by decide +kernel) rfl, List.forall_mem_cons.mpr ⟨tb_1 (i := 228) (by decide +kernel) rfl, List.forall_mem_cons.mpr ⟨tb_1 (i := 230) (by decide +kernel) rfl, List.forall_mem_cons.mpr ⟨tb_1 (i := 232) (by decide +kernel) rfl, fun _ h => absurd h List.not_mem_nil⟩⟩⟩⟩⟩⟩⟩⟩⟩⟩
