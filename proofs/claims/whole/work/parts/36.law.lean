theorem lkL_171 : Cond.methodLink RL 171 yX11_count ∈ mTs := mTs_in 1142 (by decide +kernel) (by decide +kernel)
theorem myX11_count : mYV yX11_count cX11_count 2 (some .int) 1 := ⟨⟨mTs_in 1145 (by decide +kernel) (by decide +kernel), mTs_in 116 (by decide +kernel) (by decide +kernel), ⟨by decide, by decide⟩, by decide +kernel⟩, mTs_in 1143 (by decide +kernel) (by decide +kernel), mTs_in 1144 (by decide +kernel) (by decide +kernel)⟩
theorem lkL_174 : Cond.methodLink RL 174 yX12_count ∈ mTs := mTs_in 1865 (by decide +kernel) (by decide +kernel)
theorem myX12_count : mYV yX12_count cX12_count 2 (some .int) 1 := ⟨⟨mTs_in 1868 (by decide +kernel) (by decide +kernel), mTs_in 127 (by decide +kernel) (by decide +kernel), ⟨by decide, by decide⟩, by decide +kernel⟩, mTs_in 1866 (by decide +kernel) (by decide +kernel), mTs_in 1867 (by decide +kernel) (by decide +kernel)⟩
theorem lkL_167 : Cond.methodLink RL 167 yX11_many ∈ mTs := mTs_in 1115 (by decide +kernel) (by decide +kernel)
theorem myX11_many : mYV yX11_many cX11_many 3 (some .int) 2 := ⟨⟨mTs_in 1118 (by decide +kernel) (by decide +kernel), mTs_in 116 (by decide +kernel) (by decide +kernel), ⟨by decide, by decide⟩, by decide +kernel⟩, mTs_in 1116 (by decide +kernel) (by decide +kernel), mTs_in 1117 (by decide +kernel) (by decide +kernel)⟩
theorem lkL_170 : Cond.methodLink RL 170 yX12_many ∈ mTs := mTs_in 1856 (by decide +kernel) (by decide +kernel)
theorem myX12_many : mYV yX12_many cX12_many 3 (some .int) 2 := ⟨⟨mTs_in 1859 (by decide +kernel) (by decide +kernel), mTs_in 127 (by decide +kernel) (by decide +kernel), ⟨by decide, by decide⟩, by decide +kernel⟩, mTs_in 1857 (by decide +kernel) (by decide +kernel), mTs_in 1858 (by decide +kernel) (by decide +kernel)⟩
theorem lkL_163 : Cond.methodLink RL 163 yX11_isTwoSided ∈ mTs := mTs_in 1107 (by decide +kernel) (by decide +kernel)
theorem myX11_isTwoSided : mYV yX11_isTwoSided cX11_isTwoSided 5 (some .int) 2 := ⟨⟨mTs_in 1110 (by decide +kernel) (by decide +kernel), mTs_in 116 (by decide +kernel) (by decide +kernel), ⟨by decide, by decide⟩, by decide +kernel⟩, mTs_in 1108 (by decide +kernel) (by decide +kernel), mTs_in 1109 (by decide +kernel) (by decide +kernel)⟩
theorem lkL_166 : Cond.methodLink RL 166 yX12_isTwoSided ∈ mTs := mTs_in 1848 (by decide +kernel) (by decide +kernel)
theorem myX12_isTwoSided : mYV yX12_isTwoSided cX12_isTwoSided 13 (some .int) 2 := ⟨⟨mTs_in 1851 (by decide +kernel) (by decide +kernel), mTs_in 127 (by decide +kernel) (by decide +kernel), ⟨by decide, by decide⟩, by decide +kernel⟩, mTs_in 1849 (by decide +kernel) (by decide +kernel), mTs_in 1850 (by decide +kernel) (by decide +kernel)⟩
theorem lkL_159 : Cond.methodLink RL 159 yX11_isInIdeal ∈ mTs := mTs_in 1093 (by decide +kernel) (by decide +kernel)
theorem myX11_isInIdeal : mYV yX11_isInIdeal cX11_isInIdeal 5 (some .int) 3 := ⟨⟨mTs_in 1096 (by decide +kernel) (by decide +kernel), mTs_in 116 (by decide +kernel) (by decide +kernel), ⟨by decide, by decide⟩, by decide +kernel⟩, mTs_in 1094 (by decide +kernel) (by decide +kernel), mTs_in 1095 (by decide +kernel) (by decide +kernel)⟩
theorem lkL_162 : Cond.methodLink RL 162 yX12_isInIdeal ∈ mTs := mTs_in 1840 (by decide +kernel) (by decide +kernel)
theorem myX12_isInIdeal : mYV yX12_isInIdeal cX12_isInIdeal 6 (some .int) 3 := ⟨⟨mTs_in 1843 (by decide +kernel) (by decide +kernel), mTs_in 127 (by decide +kernel) (by decide +kernel), ⟨by decide, by decide⟩, by decide +kernel⟩, mTs_in 1841 (by decide +kernel) (by decide +kernel), mTs_in 1842 (by decide +kernel) (by decide +kernel)⟩
theorem lkL_155 : Cond.methodLink RL 155 yX11_ideal ∈ mTs := mTs_in 1045 (by decide +kernel) (by decide +kernel)
theorem myX11_ideal : mYV yX11_ideal cX11_ideal 4 (some .long) 2 := ⟨⟨mTs_in 1048 (by decide +kernel) (by decide +kernel), mTs_in 116 (by decide +kernel) (by decide +kernel), ⟨by decide, by decide⟩, by decide +kernel⟩, mTs_in 1046 (by decide +kernel) (by decide +kernel), mTs_in 1047 (by decide +kernel) (by decide +kernel)⟩
theorem lkL_158 : Cond.methodLink RL 158 yX12_ideal ∈ mTs := mTs_in 1818 (by decide +kernel) (by decide +kernel)
theorem myX12_ideal : mYV yX12_ideal cX12_ideal 16 (some .long) 2 := ⟨⟨mTs_in 1821 (by decide +kernel) (by decide +kernel), mTs_in 127 (by decide +kernel) (by decide +kernel), ⟨by decide, by decide⟩, by decide +kernel⟩, mTs_in 1819 (by decide +kernel) (by decide +kernel), mTs_in 1820 (by decide +kernel) (by decide +kernel)⟩
theorem lkL_151 : Cond.methodLink RL 151 yX11_isIn ∈ mTs := mTs_in 1023 (by decide +kernel) (by decide +kernel)
theorem myX11_isIn : mYV yX11_isIn cX11_isIn 2 (some .int) 1 := ⟨⟨mTs_in 1026 (by decide +kernel) (by decide +kernel), mTs_in 116 (by decide +kernel) (by decide +kernel), ⟨by decide, by decide⟩, by decide +kernel⟩, mTs_in 1024 (by decide +kernel) (by decide +kernel), mTs_in 1025 (by decide +kernel) (by decide +kernel)⟩
theorem lkL_154 : Cond.methodLink RL 154 yX12_isIn ∈ mTs := mTs_in 1810 (by decide +kernel) (by decide +kernel)
theorem myX12_isIn : mYV yX12_isIn cX12_isIn 2 (some .int) 1 := ⟨⟨mTs_in 1813 (by decide +kernel) (by decide +kernel), mTs_in 127 (by decide +kernel) (by decide +kernel), ⟨by decide, by decide⟩, by decide +kernel⟩, mTs_in 1811 (by decide +kernel) (by decide +kernel), mTs_in 1812 (by decide +kernel) (by decide +kernel)⟩
theorem lkL_148 : Cond.methodLink RL 148 yL_table ∈ mTs := mTs_in 1278 (by decide +kernel) (by decide +kernel)
theorem lkL_150 : Cond.methodLink RL 150 yX12_table ∈ mTs := mTs_in 1802 (by decide +kernel) (by decide +kernel)
theorem myX12_table : mYV yX12_table cX12_table 7 (some .int) 4 := ⟨⟨mTs_in 1805 (by decide +kernel) (by decide +kernel), mTs_in 127 (by decide +kernel) (by decide +kernel), ⟨by decide, by decide⟩, by decide +kernel⟩, mTs_in 1803 (by decide +kernel) (by decide +kernel), mTs_in 1804 (by decide +kernel) (by decide +kernel)⟩
theorem lkL_57 : Cond.methodLink RL 57 yX12_thrown ∈ mTs := mTs_in 1404 (by decide +kernel) (by decide +kernel)
theorem myX12_thrown : mYV yX12_thrown cX12_thrown 1 (some .int) 0 := ⟨⟨mTs_in 1407 (by decide +kernel) (by decide +kernel), mTs_in 127 (by decide +kernel) (by decide +kernel), ⟨by decide, by decide⟩, by decide +kernel⟩, mTs_in 1405 (by decide +kernel) (by decide +kernel), mTs_in 1406 (by decide +kernel) (by decide +kernel)⟩
theorem lkL_143 : Cond.methodLink RL 143 yX11_plain ∈ mTs := mTs_in 1019 (by decide +kernel) (by decide +kernel)
theorem myX11_plain : mYV yX11_plain cX11_plain 2 (some .boolean) 1 := ⟨⟨mTs_in 1022 (by decide +kernel) (by decide +kernel), mTs_in 116 (by decide +kernel) (by decide +kernel), ⟨by decide, by decide⟩, by decide +kernel⟩, mTs_in 1020 (by decide +kernel) (by decide +kernel), mTs_in 1021 (by decide +kernel) (by decide +kernel)⟩
theorem lkL_147 : Cond.methodLink RL 147 yX12_plain ∈ mTs := mTs_in 1798 (by decide +kernel) (by decide +kernel)
theorem myX12_plain : mYV yX12_plain cX12_plain 2 (some .boolean) 1 := ⟨⟨mTs_in 1801 (by decide +kernel) (by decide +kernel), mTs_in 127 (by decide +kernel) (by decide +kernel), ⟨by decide, by decide⟩, by decide +kernel⟩, mTs_in 1799 (by decide +kernel) (by decide +kernel), mTs_in 1800 (by decide +kernel) (by decide +kernel)⟩
theorem lkL_139 : Cond.methodLink RL 139 yX11_greatest ∈ mTs := mTs_in 1015 (by decide +kernel) (by decide +kernel)
theorem myX11_greatest : mYV yX11_greatest cX11_greatest 6 (some .int) 1 := ⟨⟨mTs_in 1018 (by decide +kernel) (by decide +kernel), mTs_in 116 (by decide +kernel) (by decide +kernel), ⟨by decide, by decide⟩, by decide +kernel⟩, mTs_in 1016 (by decide +kernel) (by decide +kernel), mTs_in 1017 (by decide +kernel) (by decide +kernel)⟩
theorem lkL_142 : Cond.methodLink RL 142 yX12_greatest ∈ mTs := mTs_in 1794 (by decide +kernel) (by decide +kernel)
theorem myX12_greatest : mYV yX12_greatest cX12_greatest 4 (some .int) 1 := ⟨⟨mTs_in 1797 (by decide +kernel) (by decide +kernel), mTs_in 127 (by decide +kernel) (by decide +kernel), ⟨by decide, by decide⟩, by decide +kernel⟩, mTs_in 1795 (by decide +kernel) (by decide +kernel), mTs_in 1796 (by decide +kernel) (by decide +kernel)⟩
theorem lkL_135 : Cond.methodLink RL 135 yX11_enlarge ∈ mTs := mTs_in 931 (by decide +kernel) (by decide +kernel)
theorem myX11_enlarge : mYV yX11_enlarge cX11_enlarge 3 (some .int) 2 := ⟨⟨mTs_in 934 (by decide +kernel) (by decide +kernel), mTs_in 116 (by decide +kernel) (by decide +kernel), ⟨by decide, by decide⟩, by decide +kernel⟩, mTs_in 932 (by decide +kernel) (by decide +kernel), mTs_in 933 (by decide +kernel) (by decide +kernel)⟩
theorem lkL_138 : Cond.methodLink RL 138 yX12_enlarge ∈ mTs := mTs_in 1730 (by decide +kernel) (by decide +kernel)
theorem myX12_enlarge : mYV yX12_enlarge cX12_enlarge 4 (some .int) 2 := ⟨⟨mTs_in 1733 (by decide +kernel) (by decide +kernel), mTs_in 127 (by decide +kernel) (by decide +kernel), ⟨by decide, by decide⟩, by decide +kernel⟩, mTs_in 1731 (by decide +kernel) (by decide +kernel), mTs_in 1732 (by decide +kernel) (by decide +kernel)⟩
theorem lkL_131 : Cond.methodLink RL 131 yL_row ∈ mTs := mTs_in 1269 (by decide +kernel) (by decide +kernel)
theorem lkL_134 : Cond.methodLink RL 134 yX12_row ∈ mTs := mTs_in 1726 (by decide +kernel) (by decide +kernel)
theorem myX12_row : mYV yX12_row cX12_row 5 (some .int) 3 := ⟨⟨mTs_in 1729 (by decide +kernel) (by decide +kernel), mTs_in 127 (by decide +kernel) (by decide +kernel), ⟨by decide, by decide⟩, by decide +kernel⟩, mTs_in 1727 (by decide +kernel) (by decide +kernel), mTs_in 1728 (by decide +kernel) (by decide +kernel)⟩
theorem lkL_127 : Cond.methodLink RL 127 yX11_due ∈ mTs := mTs_in 923 (by decide +kernel) (by decide +kernel)
theorem myX11_due : mYV yX11_due cX11_due 2 (some .int) 1 := ⟨⟨mTs_in 926 (by decide +kernel) (by decide +kernel), mTs_in 116 (by decide +kernel) (by decide +kernel), ⟨by decide, by decide⟩, by decide +kernel⟩, mTs_in 924 (by decide +kernel) (by decide +kernel), mTs_in 925 (by decide +kernel) (by decide +kernel)⟩
theorem lkL_130 : Cond.methodLink RL 130 yX12_due ∈ mTs := mTs_in 1718 (by decide +kernel) (by decide +kernel)
theorem myX12_due : mYV yX12_due cX12_due 2 (some .int) 1 := ⟨⟨mTs_in 1721 (by decide +kernel) (by decide +kernel), mTs_in 127 (by decide +kernel) (by decide +kernel), ⟨by decide, by decide⟩, by decide +kernel⟩, mTs_in 1719 (by decide +kernel) (by decide +kernel), mTs_in 1720 (by decide +kernel) (by decide +kernel)⟩
theorem lkL_123 : Cond.methodLink RL 123 yX11_disc ∈ mTs := mTs_in 900 (by decide +kernel) (by decide +kernel)
theorem myX11_disc : mYV yX11_disc cX11_disc 2 (some .int) 1 := ⟨⟨mTs_in 903 (by decide +kernel) (by decide +kernel), mTs_in 116 (by decide +kernel) (by decide +kernel), ⟨by decide, by decide⟩, by decide +kernel⟩, mTs_in 901 (by decide +kernel) (by decide +kernel), mTs_in 902 (by decide +kernel) (by decide +kernel)⟩
theorem lkL_126 : Cond.methodLink RL 126 yX12_disc ∈ mTs := mTs_in 1705 (by decide +kernel) (by decide +kernel)
theorem myX12_disc : mYV yX12_disc cX12_disc 2 (some .int) 1 := ⟨⟨mTs_in 1708 (by decide +kernel) (by decide +kernel), mTs_in 127 (by decide +kernel) (by decide +kernel), ⟨by decide, by decide⟩, by decide +kernel⟩, mTs_in 1706 (by decide +kernel) (by decide +kernel), mTs_in 1707 (by decide +kernel) (by decide +kernel)⟩
theorem lkL_119 : Cond.methodLink RL 119 yL_matrix ∈ mTs := mTs_in 1250 (by decide +kernel) (by decide +kernel)
theorem lkL_122 : Cond.methodLink RL 122 yX12_matrix ∈ mTs := mTs_in 1697 (by decide +kernel) (by decide +kernel)
theorem myX12_matrix : mYV yX12_matrix cX12_matrix 6 (some .long) 4 := ⟨⟨mTs_in 1700 (by decide +kernel) (by decide +kernel), mTs_in 127 (by decide +kernel) (by decide +kernel), ⟨by decide, by decide⟩, by decide +kernel⟩, mTs_in 1698 (by decide +kernel) (by decide +kernel), mTs_in 1699 (by decide +kernel) (by decide +kernel)⟩
theorem lkL_115 : Cond.methodLink RL 115 yX11_solution ∈ mTs := mTs_in 879 (by decide +kernel) (by decide +kernel)
theorem myX11_solution : mYV yX11_solution cX11_solution 3 (some .int) 2 := ⟨⟨mTs_in 882 (by decide +kernel) (by decide +kernel), mTs_in 116 (by decide +kernel) (by decide +kernel), ⟨by decide, by decide⟩, by decide +kernel⟩, mTs_in 880 (by decide +kernel) (by decide +kernel), mTs_in 881 (by decide +kernel) (by decide +kernel)⟩
theorem lkL_118 : Cond.methodLink RL 118 yX12_solution ∈ mTs := mTs_in 1686 (by decide +kernel) (by decide +kernel)
theorem myX12_solution : mYV yX12_solution cX12_solution 3 (some .int) 2 := ⟨⟨mTs_in 1689 (by decide +kernel) (by decide +kernel), mTs_in 127 (by decide +kernel) (by decide +kernel), ⟨by decide, by decide⟩, by decide +kernel⟩, mTs_in 1687 (by decide +kernel) (by decide +kernel), mTs_in 1688 (by decide +kernel) (by decide +kernel)⟩
theorem lkL_112 : Cond.methodLink RL 112 yL_trace ∈ mTs := mTs_in 1242 (by decide +kernel) (by decide +kernel)
theorem lkL_114 : Cond.methodLink RL 114 yX12_trace ∈ mTs := mTs_in 1682 (by decide +kernel) (by decide +kernel)
theorem myX12_trace : mYV yX12_trace cX12_trace 3 (some .long) 2 := ⟨⟨mTs_in 1685 (by decide +kernel) (by decide +kernel), mTs_in 127 (by decide +kernel) (by decide +kernel), ⟨by decide, by decide⟩, by decide +kernel⟩, mTs_in 1683 (by decide +kernel) (by decide +kernel), mTs_in 1684 (by decide +kernel) (by decide +kernel)⟩
theorem lkL_109 : Cond.methodLink RL 109 yL_norm ∈ mTs := mTs_in 1230 (by decide +kernel) (by decide +kernel)
theorem lkL_111 : Cond.methodLink RL 111 yX12_norm ∈ mTs := mTs_in 1675 (by decide +kernel) (by decide +kernel)
theorem myX12_norm : mYV yX12_norm cX12_norm 3 (some .long) 2 := ⟨⟨mTs_in 1678 (by decide +kernel) (by decide +kernel), mTs_in 127 (by decide +kernel) (by decide +kernel), ⟨by decide, by decide⟩, by decide +kernel⟩, mTs_in 1676 (by decide +kernel) (by decide +kernel), mTs_in 1677 (by decide +kernel) (by decide +kernel)⟩
theorem lkL_105 : Cond.methodLink RL 105 yX11_inverse ∈ mTs := mTs_in 867 (by decide +kernel) (by decide +kernel)
theorem myX11_inverse : mYV yX11_inverse cX11_inverse 6 (some .int) 2 := ⟨⟨mTs_in 870 (by decide +kernel) (by decide +kernel), mTs_in 116 (by decide +kernel) (by decide +kernel), ⟨by decide, by decide⟩, by decide +kernel⟩, mTs_in 868 (by decide +kernel) (by decide +kernel), mTs_in 869 (by decide +kernel) (by decide +kernel)⟩
theorem lkL_108 : Cond.methodLink RL 108 yX12_inverse ∈ mTs := mTs_in 1663 (by decide +kernel) (by decide +kernel)
theorem myX12_inverse : mYV yX12_inverse cX12_inverse 6 (some .int) 2 := ⟨⟨mTs_in 1666 (by decide +kernel) (by decide +kernel), mTs_in 127 (by decide +kernel) (by decide +kernel), ⟨by decide, by decide⟩, by decide +kernel⟩, mTs_in 1664 (by decide +kernel) (by decide +kernel), mTs_in 1665 (by decide +kernel) (by decide +kernel)⟩
theorem lkL_101 : Cond.methodLink RL 101 yX11_mirror ∈ mTs := mTs_in 860 (by decide +kernel) (by decide +kernel)
theorem myX11_mirror : mYV yX11_mirror cX11_mirror 4 (some .int) 2 := ⟨⟨mTs_in 863 (by decide +kernel) (by decide +kernel), mTs_in 116 (by decide +kernel) (by decide +kernel), ⟨by decide, by decide⟩, by decide +kernel⟩, mTs_in 861 (by decide +kernel) (by decide +kernel), mTs_in 862 (by decide +kernel) (by decide +kernel)⟩
theorem lkL_104 : Cond.methodLink RL 104 yX12_mirror ∈ mTs := mTs_in 1658 (by decide +kernel) (by decide +kernel)
theorem myX12_mirror : mYV yX12_mirror cX12_mirror 3 (some .int) 2 := ⟨⟨mTs_in 1661 (by decide +kernel) (by decide +kernel), mTs_in 127 (by decide +kernel) (by decide +kernel), ⟨by decide, by decide⟩, by decide +kernel⟩, mTs_in 1659 (by decide +kernel) (by decide +kernel), mTs_in 1660 (by decide +kernel) (by decide +kernel)⟩
theorem lkL_97 : Cond.methodLink RL 97 yX11_plus ∈ mTs := mTs_in 856 (by decide +kernel) (by decide +kernel)
theorem myX11_plus : mYV yX11_plus cX11_plus 8 (some .int) 4 := ⟨⟨mTs_in 859 (by decide +kernel) (by decide +kernel), mTs_in 116 (by decide +kernel) (by decide +kernel), ⟨by decide, by decide⟩, by decide +kernel⟩, mTs_in 857 (by decide +kernel) (by decide +kernel), mTs_in 858 (by decide +kernel) (by decide +kernel)⟩
theorem lkL_100 : Cond.methodLink RL 100 yX12_plus ∈ mTs := mTs_in 1653 (by decide +kernel) (by decide +kernel)
theorem myX12_plus : mYV yX12_plus cX12_plus 6 (some .int) 4 := ⟨⟨mTs_in 1656 (by decide +kernel) (by decide +kernel), mTs_in 127 (by decide +kernel) (by decide +kernel), ⟨by decide, by decide⟩, by decide +kernel⟩, mTs_in 1654 (by decide +kernel) (by decide +kernel), mTs_in 1655 (by decide +kernel) (by decide +kernel)⟩
theorem lkL_93 : Cond.methodLink RL 93 yX11_times ∈ mTs := mTs_in 845 (by decide +kernel) (by decide +kernel)
theorem myX11_times : mYV yX11_times cX11_times 7 (some .int) 3 := ⟨⟨mTs_in 848 (by decide +kernel) (by decide +kernel), mTs_in 116 (by decide +kernel) (by decide +kernel), ⟨by decide, by decide⟩, by decide +kernel⟩, mTs_in 846 (by decide +kernel) (by decide +kernel), mTs_in 847 (by decide +kernel) (by decide +kernel)⟩
theorem lkL_96 : Cond.methodLink RL 96 yX12_times ∈ mTs := mTs_in 1633 (by decide +kernel) (by decide +kernel)
theorem myX12_times : mYV yX12_times cX12_times 5 (some .int) 3 := ⟨⟨mTs_in 1636 (by decide +kernel) (by decide +kernel), mTs_in 127 (by decide +kernel) (by decide +kernel), ⟨by decide, by decide⟩, by decide +kernel⟩, mTs_in 1634 (by decide +kernel) (by decide +kernel), mTs_in 1635 (by decide +kernel) (by decide +kernel)⟩
theorem lkL_90 : Cond.methodLink RL 90 yL_element ∈ mTs := mTs_in 1223 (by decide +kernel) (by decide +kernel)
theorem lkL_92 : Cond.methodLink RL 92 yX12_element ∈ mTs := mTs_in 1628 (by decide +kernel) (by decide +kernel)
theorem myX12_element : mYV yX12_element cX12_element 3 (some .int) 2 := ⟨⟨mTs_in 1631 (by decide +kernel) (by decide +kernel), mTs_in 127 (by decide +kernel) (by decide +kernel), ⟨by decide, by decide⟩, by decide +kernel⟩, mTs_in 1629 (by decide +kernel) (by decide +kernel), mTs_in 1630 (by decide +kernel) (by decide +kernel)⟩
theorem lkL_86 : Cond.methodLink RL 86 yX11_over ∈ mTs := mTs_in 833 (by decide +kernel) (by decide +kernel)
theorem myX11_over : mYV yX11_over cX11_over 5 (some .int) 2 := ⟨⟨mTs_in 836 (by decide +kernel) (by decide +kernel), mTs_in 116 (by decide +kernel) (by decide +kernel), ⟨by decide, by decide⟩, by decide +kernel⟩, mTs_in 834 (by decide +kernel) (by decide +kernel), mTs_in 835 (by decide +kernel) (by decide +kernel)⟩
theorem lkL_89 : Cond.methodLink RL 89 yX12_over ∈ mTs := mTs_in 1611 (by decide +kernel) (by decide +kernel)
theorem myX12_over : mYV yX12_over cX12_over 3 (some .int) 2 := ⟨⟨mTs_in 1614 (by decide +kernel) (by decide +kernel), mTs_in 127 (by decide +kernel) (by decide +kernel), ⟨by decide, by decide⟩, by decide +kernel⟩, mTs_in 1612 (by decide +kernel) (by decide +kernel), mTs_in 1613 (by decide +kernel) (by decide +kernel)⟩
theorem lkL_81 : Cond.methodLink RL 81 yX11_tell ∈ mTs := mTs_in 813 (by decide +kernel) (by decide +kernel)
theorem myX11_tell : mYV yX11_tell cX11_tell 7 (some .boolean) 6 := ⟨⟨mTs_in 816 (by decide +kernel) (by decide +kernel), mTs_in 116 (by decide +kernel) (by decide +kernel), ⟨by decide, by decide⟩, by decide +kernel⟩, mTs_in 814 (by decide +kernel) (by decide +kernel), mTs_in 815 (by decide +kernel) (by decide +kernel)⟩
theorem lkL_85 : Cond.methodLink RL 85 yX12_tell ∈ mTs := mTs_in 1593 (by decide +kernel) (by decide +kernel)
theorem myX12_tell : mYV yX12_tell cX12_tell 7 (some .boolean) 6 := ⟨⟨mTs_in 1596 (by decide +kernel) (by decide +kernel), mTs_in 127 (by decide +kernel) (by decide +kernel), ⟨by decide, by decide⟩, by decide +kernel⟩, mTs_in 1594 (by decide +kernel) (by decide +kernel), mTs_in 1595 (by decide +kernel) (by decide +kernel)⟩
theorem lkL_77 : Cond.methodLink RL 77 yX11_classes ∈ mTs := mTs_in 809 (by decide +kernel) (by decide +kernel)
theorem myX11_classes : mYV yX11_classes cX11_classes 5 (some .int) 0 := ⟨⟨mTs_in 812 (by decide +kernel) (by decide +kernel), mTs_in 116 (by decide +kernel) (by decide +kernel), ⟨by decide, by decide⟩, by decide +kernel⟩, mTs_in 810 (by decide +kernel) (by decide +kernel), mTs_in 811 (by decide +kernel) (by decide +kernel)⟩
theorem lkL_80 : Cond.methodLink RL 80 yX12_classes ∈ mTs := mTs_in 1589 (by decide +kernel) (by decide +kernel)
theorem myX12_classes : mYV yX12_classes cX12_classes 5 (some .int) 0 := ⟨⟨mTs_in 1592 (by decide +kernel) (by decide +kernel), mTs_in 127 (by decide +kernel) (by decide +kernel), ⟨by decide, by decide⟩, by decide +kernel⟩, mTs_in 1590 (by decide +kernel) (by decide +kernel), mTs_in 1591 (by decide +kernel) (by decide +kernel)⟩
theorem lkL_73 : Cond.methodLink RL 73 yX11_alike ∈ mTs := mTs_in 801 (by decide +kernel) (by decide +kernel)
theorem myX11_alike : mYV yX11_alike cX11_alike 3 (some .int) 2 := ⟨⟨mTs_in 804 (by decide +kernel) (by decide +kernel), mTs_in 116 (by decide +kernel) (by decide +kernel), ⟨by decide, by decide⟩, by decide +kernel⟩, mTs_in 802 (by decide +kernel) (by decide +kernel), mTs_in 803 (by decide +kernel) (by decide +kernel)⟩
theorem lkL_76 : Cond.methodLink RL 76 yX12_alike ∈ mTs := mTs_in 1581 (by decide +kernel) (by decide +kernel)
theorem myX12_alike : mYV yX12_alike cX12_alike 3 (some .int) 2 := ⟨⟨mTs_in 1584 (by decide +kernel) (by decide +kernel), mTs_in 127 (by decide +kernel) (by decide +kernel), ⟨by decide, by decide⟩, by decide +kernel⟩, mTs_in 1582 (by decide +kernel) (by decide +kernel), mTs_in 1583 (by decide +kernel) (by decide +kernel)⟩
theorem lkL_69 : Cond.methodLink RL 69 yX11_index ∈ mTs := mTs_in 787 (by decide +kernel) (by decide +kernel)
theorem myX11_index : mYV yX11_index cX11_index 2 (some .int) 1 := ⟨⟨mTs_in 790 (by decide +kernel) (by decide +kernel), mTs_in 116 (by decide +kernel) (by decide +kernel), ⟨by decide, by decide⟩, by decide +kernel⟩, mTs_in 788 (by decide +kernel) (by decide +kernel), mTs_in 789 (by decide +kernel) (by decide +kernel)⟩
theorem lkL_72 : Cond.methodLink RL 72 yX12_index ∈ mTs := mTs_in 1573 (by decide +kernel) (by decide +kernel)
theorem myX12_index : mYV yX12_index cX12_index 2 (some .int) 1 := ⟨⟨mTs_in 1576 (by decide +kernel) (by decide +kernel), mTs_in 127 (by decide +kernel) (by decide +kernel), ⟨by decide, by decide⟩, by decide +kernel⟩, mTs_in 1574 (by decide +kernel) (by decide +kernel), mTs_in 1575 (by decide +kernel) (by decide +kernel)⟩
theorem lkL_65 : Cond.methodLink RL 65 yX11_place ∈ mTs := mTs_in 775 (by decide +kernel) (by decide +kernel)
theorem myX11_place : mYV yX11_place cX11_place 3 (some .int) 2 := ⟨⟨mTs_in 778 (by decide +kernel) (by decide +kernel), mTs_in 116 (by decide +kernel) (by decide +kernel), ⟨by decide, by decide⟩, by decide +kernel⟩, mTs_in 776 (by decide +kernel) (by decide +kernel), mTs_in 777 (by decide +kernel) (by decide +kernel)⟩
theorem lkL_68 : Cond.methodLink RL 68 yX12_place ∈ mTs := mTs_in 1565 (by decide +kernel) (by decide +kernel)
theorem myX12_place : mYV yX12_place cX12_place 5 (some .int) 2 := ⟨⟨mTs_in 1568 (by decide +kernel) (by decide +kernel), mTs_in 127 (by decide +kernel) (by decide +kernel), ⟨by decide, by decide⟩, by decide +kernel⟩, mTs_in 1566 (by decide +kernel) (by decide +kernel), mTs_in 1567 (by decide +kernel) (by decide +kernel)⟩
theorem lkL_61 : Cond.methodLink RL 61 yX11_local ∈ mTs := mTs_in 762 (by decide +kernel) (by decide +kernel)
theorem myX11_local : mYV yX11_local cX11_local 3 (some .int) 2 := ⟨⟨mTs_in 765 (by decide +kernel) (by decide +kernel), mTs_in 116 (by decide +kernel) (by decide +kernel), ⟨by decide, by decide⟩, by decide +kernel⟩, mTs_in 763 (by decide +kernel) (by decide +kernel), mTs_in 764 (by decide +kernel) (by decide +kernel)⟩
theorem lkL_64 : Cond.methodLink RL 64 yX12_local ∈ mTs := mTs_in 1525 (by decide +kernel) (by decide +kernel)
theorem myX12_local : mYV yX12_local cX12_local 3 (some .int) 2 := ⟨⟨mTs_in 1528 (by decide +kernel) (by decide +kernel), mTs_in 127 (by decide +kernel) (by decide +kernel), ⟨by decide, by decide⟩, by decide +kernel⟩, mTs_in 1526 (by decide +kernel) (by decide +kernel), mTs_in 1527 (by decide +kernel) (by decide +kernel)⟩
theorem lkL_51 : Cond.methodLink RL 51 yL_algebra ∈ mTs := mTs_in 1150 (by decide +kernel) (by decide +kernel)
theorem lkL_56 : Cond.methodLink RL 56 yX12_algebra ∈ mTs := mTs_in 1512 (by decide +kernel) (by decide +kernel)
theorem myX12_algebra : mYV yX12_algebra cX12_algebra 3 (some .int) 2 := ⟨⟨mTs_in 1515 (by decide +kernel) (by decide +kernel), mTs_in 127 (by decide +kernel) (by decide +kernel), ⟨by decide, by decide⟩, by decide +kernel⟩, mTs_in 1513 (by decide +kernel) (by decide +kernel), mTs_in 1514 (by decide +kernel) (by decide +kernel)⟩
theorem lkL_46 : Cond.methodLink RL 46 yX11_text ∈ mTs := mTs_in 434 (by decide +kernel) (by decide +kernel)
theorem myX11_text : mYV yX11_text cX11_text 4 (some .int) 1 := ⟨⟨mTs_in 437 (by decide +kernel) (by decide +kernel), mTs_in 116 (by decide +kernel) (by decide +kernel), ⟨by decide, by decide⟩, by decide +kernel⟩, mTs_in 435 (by decide +kernel) (by decide +kernel), mTs_in 436 (by decide +kernel) (by decide +kernel)⟩
theorem lkL_50 : Cond.methodLink RL 50 yX12_text ∈ mTs := mTs_in 1416 (by decide +kernel) (by decide +kernel)
theorem myX12_text : mYV yX12_text cX12_text 4 (some .int) 1 := ⟨⟨mTs_in 1419 (by decide +kernel) (by decide +kernel), mTs_in 127 (by decide +kernel) (by decide +kernel), ⟨by decide, by decide⟩, by decide +kernel⟩, mTs_in 1417 (by decide +kernel) (by decide +kernel), mTs_in 1418 (by decide +kernel) (by decide +kernel)⟩
theorem lkL_41 : Cond.methodLink RL 41 yX11_feed ∈ mTs := mTs_in 426 (by decide +kernel) (by decide +kernel)
theorem myX11_feed : mYV yX11_feed cX11_feed 6 (some .int) 5 := ⟨⟨mTs_in 429 (by decide +kernel) (by decide +kernel), mTs_in 116 (by decide +kernel) (by decide +kernel), ⟨by decide, by decide⟩, by decide +kernel⟩, mTs_in 427 (by decide +kernel) (by decide +kernel), mTs_in 428 (by decide +kernel) (by decide +kernel)⟩
theorem lkL_45 : Cond.methodLink RL 45 yX12_feed ∈ mTs := mTs_in 1408 (by decide +kernel) (by decide +kernel)
theorem myX12_feed : mYV yX12_feed cX12_feed 6 (some .int) 5 := ⟨⟨mTs_in 1411 (by decide +kernel) (by decide +kernel), mTs_in 127 (by decide +kernel) (by decide +kernel), ⟨by decide, by decide⟩, by decide +kernel⟩, mTs_in 1409 (by decide +kernel) (by decide +kernel), mTs_in 1410 (by decide +kernel) (by decide +kernel)⟩
theorem dL_law_0 : decode code 0 = .ok (.new 8, 3) := by decide +kernel
theorem dL_law_3 : decode code 3 = .ok (.dup, 1) := by decide +kernel
theorem dL_law_4 : decode code 4 = .ok (.invokespecial 37, 3) := by decide +kernel
theorem dL_law_7 : decode code 7 = .ok (.astore_n 1, 1) := by decide +kernel
theorem dL_law_8 : decode code 8 = .ok (.new 38, 3) := by decide +kernel
theorem dL_law_11 : decode code 11 = .ok (.dup, 1) := by decide +kernel
theorem dL_law_12 : decode code 12 = .ok (.invokespecial 40, 3) := by decide +kernel
theorem dL_law_15 : decode code 15 = .ok (.astore_n 2, 1) := by decide +kernel
theorem dL_law_16 : decode code 16 = .ok (.iconst 1, 1) := by decide +kernel
theorem dL_law_17 : decode code 17 = .ok (.newarray .long, 2) := by decide +kernel
theorem dL_law_19 : decode code 19 = .ok (.astore_n 3, 1) := by decide +kernel
theorem dL_law_20 : decode code 20 = .ok (.iconst 0, 1) := by decide +kernel
theorem dL_law_21 : decode code 21 = .ok (.istore 4, 2) := by decide +kernel
theorem dL_law_23 : decode code 23 = .ok (.iload 4, 2) := by decide +kernel
theorem dL_law_25 : decode code 25 = .ok (.aload_n 0, 1) := by decide +kernel
theorem dL_law_26 : decode code 26 = .ok (.arraylength, 1) := by decide +kernel
theorem dL_law_27 : decode code 27 = .ok (.bipush 7, 2) := by decide +kernel
theorem dL_law_29 : decode code 29 = .ok (.isub, 1) := by decide +kernel
theorem dL_law_30 : decode code 30 = .ok (.if_icmp .gt 1633, 3) := by decide +kernel
theorem dL_law_33 : decode code 33 = .ok (.aload_n 0, 1) := by decide +kernel
theorem dL_law_34 : decode code 34 = .ok (.iload 4, 2) := by decide +kernel
theorem dL_law_36 : decode code 36 = .ok (.iaload, 1) := by decide +kernel
theorem dL_law_37 : decode code 37 = .ok (.bipush 31, 2) := by decide +kernel
theorem dL_law_39 : decode code 39 = .ok (.iand, 1) := by decide +kernel
theorem dL_law_40 : decode code 40 = .ok (.tableswitch 1617 0 31 #[144, 217, 242, 310, 347, 384, 409, 446, 459, 546, 583, 651, 700, 761, 798, 835, 902, 969, 1006, 1097, 1122, 1147, 1227, 1264, 1289, 1314, 1406, 1431, 1469, 1518, 1555, 1592], 144) := by decide +kernel
theorem dL_law_184 : decode code 184 = .ok (.aload_n 1, 1) := by decide +kernel
theorem dL_law_185 : decode code 185 = .ok (.aload_n 0, 1) := by decide +kernel
theorem dL_law_186 : decode code 186 = .ok (.iload 4, 2) := by decide +kernel
theorem dL_law_188 : decode code 188 = .ok (.iconst 1, 1) := by decide +kernel
theorem dL_law_189 : decode code 189 = .ok (.iadd, 1) := by decide +kernel
theorem dL_law_190 : decode code 190 = .ok (.iaload, 1) := by decide +kernel
theorem dL_law_191 : decode code 191 = .ok (.aload_n 0, 1) := by decide +kernel
theorem dL_law_192 : decode code 192 = .ok (.iload 4, 2) := by decide +kernel
theorem dL_law_194 : decode code 194 = .ok (.iconst 2, 1) := by decide +kernel
theorem dL_law_195 : decode code 195 = .ok (.iadd, 1) := by decide +kernel
theorem dL_law_196 : decode code 196 = .ok (.iaload, 1) := by decide +kernel
theorem dL_law_197 : decode code 197 = .ok (.aload_n 0, 1) := by decide +kernel
theorem dL_law_198 : decode code 198 = .ok (.iload 4, 2) := by decide +kernel
theorem dL_law_200 : decode code 200 = .ok (.iconst 3, 1) := by decide +kernel
theorem dL_law_201 : decode code 201 = .ok (.iadd, 1) := by decide +kernel
theorem dL_law_202 : decode code 202 = .ok (.iaload, 1) := by decide +kernel
theorem dL_law_203 : decode code 203 = .ok (.aload_n 0, 1) := by decide +kernel
theorem dL_law_204 : decode code 204 = .ok (.iload 4, 2) := by decide +kernel
theorem dL_law_206 : decode code 206 = .ok (.iconst 4, 1) := by decide +kernel
theorem dL_law_207 : decode code 207 = .ok (.iadd, 1) := by decide +kernel
theorem dL_law_208 : decode code 208 = .ok (.iaload, 1) := by decide +kernel
theorem dL_law_209 : decode code 209 = .ok (.aload_n 0, 1) := by decide +kernel
theorem dL_law_210 : decode code 210 = .ok (.iload 4, 2) := by decide +kernel
theorem dL_law_212 : decode code 212 = .ok (.iconst 5, 1) := by decide +kernel
theorem dL_law_213 : decode code 213 = .ok (.iadd, 1) := by decide +kernel
theorem dL_law_214 : decode code 214 = .ok (.iaload, 1) := by decide +kernel
theorem dL_law_215 : decode code 215 = .ok (.invokevirtual 41, 3) := by decide +kernel
theorem dL_law_218 : decode code 218 = .ok (.aload_n 2, 1) := by decide +kernel
theorem dL_law_219 : decode code 219 = .ok (.aload_n 0, 1) := by decide +kernel
theorem dL_law_220 : decode code 220 = .ok (.iload 4, 2) := by decide +kernel
theorem dL_law_222 : decode code 222 = .ok (.iconst 1, 1) := by decide +kernel
theorem dL_law_223 : decode code 223 = .ok (.iadd, 1) := by decide +kernel
theorem dL_law_224 : decode code 224 = .ok (.iaload, 1) := by decide +kernel
theorem dL_law_225 : decode code 225 = .ok (.aload_n 0, 1) := by decide +kernel
theorem dL_law_226 : decode code 226 = .ok (.iload 4, 2) := by decide +kernel
theorem dL_law_228 : decode code 228 = .ok (.iconst 2, 1) := by decide +kernel
theorem dL_law_229 : decode code 229 = .ok (.iadd, 1) := by decide +kernel
theorem dL_law_230 : decode code 230 = .ok (.iaload, 1) := by decide +kernel
theorem dL_law_231 : decode code 231 = .ok (.aload_n 0, 1) := by decide +kernel
theorem dL_law_232 : decode code 232 = .ok (.iload 4, 2) := by decide +kernel
theorem dL_law_234 : decode code 234 = .ok (.iconst 3, 1) := by decide +kernel
theorem dL_law_235 : decode code 235 = .ok (.iadd, 1) := by decide +kernel
theorem dL_law_236 : decode code 236 = .ok (.iaload, 1) := by decide +kernel
theorem dL_law_237 : decode code 237 = .ok (.aload_n 0, 1) := by decide +kernel
theorem dL_law_238 : decode code 238 = .ok (.iload 4, 2) := by decide +kernel
theorem dL_law_240 : decode code 240 = .ok (.iconst 4, 1) := by decide +kernel
theorem dL_law_241 : decode code 241 = .ok (.iadd, 1) := by decide +kernel
theorem dL_law_242 : decode code 242 = .ok (.iaload, 1) := by decide +kernel
theorem dL_law_243 : decode code 243 = .ok (.aload_n 0, 1) := by decide +kernel
theorem dL_law_244 : decode code 244 = .ok (.iload 4, 2) := by decide +kernel
theorem dL_law_246 : decode code 246 = .ok (.iconst 5, 1) := by decide +kernel
theorem dL_law_247 : decode code 247 = .ok (.iadd, 1) := by decide +kernel
theorem dL_law_248 : decode code 248 = .ok (.iaload, 1) := by decide +kernel
theorem dL_law_249 : decode code 249 = .ok (.invokevirtual 45, 3) := by decide +kernel
theorem dL_law_252 : decode code 252 = .ok (.if_icmp .eq 1405, 3) := by decide +kernel
theorem dL_law_255 : decode code 255 = .ok (.iconst 0, 1) := by decide +kernel
theorem dL_law_256 : decode code 256 = .ok (.ireturn, 1) := by decide +kernel
theorem dL_law_257 : decode code 257 = .ok (.aload_n 1, 1) := by decide +kernel
theorem dL_law_258 : decode code 258 = .ok (.aload_n 0, 1) := by decide +kernel
theorem dL_law_259 : decode code 259 = .ok (.iload 4, 2) := by decide +kernel
theorem dL_law_261 : decode code 261 = .ok (.iconst 1, 1) := by decide +kernel
theorem dL_law_262 : decode code 262 = .ok (.iadd, 1) := by decide +kernel
theorem dL_law_263 : decode code 263 = .ok (.iaload, 1) := by decide +kernel
theorem dL_law_264 : decode code 264 = .ok (.invokevirtual 46, 3) := by decide +kernel
theorem dL_law_267 : decode code 267 = .ok (.aload_n 2, 1) := by decide +kernel
theorem dL_law_268 : decode code 268 = .ok (.aload_n 0, 1) := by decide +kernel
theorem dL_law_269 : decode code 269 = .ok (.iload 4, 2) := by decide +kernel
theorem dL_law_271 : decode code 271 = .ok (.iconst 1, 1) := by decide +kernel
theorem dL_law_272 : decode code 272 = .ok (.iadd, 1) := by decide +kernel
theorem dL_law_273 : decode code 273 = .ok (.iaload, 1) := by decide +kernel
theorem dL_law_274 : decode code 274 = .ok (.invokevirtual 50, 3) := by decide +kernel
theorem dL_law_277 : decode code 277 = .ok (.if_icmp .eq 1380, 3) := by decide +kernel
theorem dL_law_280 : decode code 280 = .ok (.iconst 0, 1) := by decide +kernel
theorem dL_law_281 : decode code 281 = .ok (.ireturn, 1) := by decide +kernel
theorem dL_law_282 : decode code 282 = .ok (.aload_n 1, 1) := by decide +kernel
theorem dL_law_283 : decode code 283 = .ok (.aload_n 0, 1) := by decide +kernel
theorem dL_law_284 : decode code 284 = .ok (.iload 4, 2) := by decide +kernel
theorem dL_law_286 : decode code 286 = .ok (.iconst 1, 1) := by decide +kernel
theorem dL_law_287 : decode code 287 = .ok (.iadd, 1) := by decide +kernel
theorem dL_law_288 : decode code 288 = .ok (.iaload, 1) := by decide +kernel
theorem dL_law_289 : decode code 289 = .ok (.aload_n 0, 1) := by decide +kernel
theorem dL_law_290 : decode code 290 = .ok (.iload 4, 2) := by decide +kernel
theorem dL_law_292 : decode code 292 = .ok (.iconst 2, 1) := by decide +kernel
theorem dL_law_293 : decode code 293 = .ok (.iadd, 1) := by decide +kernel
theorem dL_law_294 : decode code 294 = .ok (.iaload, 1) := by decide +kernel
theorem dL_law_295 : decode code 295 = .ok (.aload_n 3, 1) := by decide +kernel
theorem dL_law_296 : decode code 296 = .ok (.invokestatic 51, 3) := by decide +kernel
theorem dL_law_299 : decode code 299 = .ok (.istore 5, 2) := by decide +kernel
theorem dL_law_301 : decode code 301 = .ok (.aload_n 2, 1) := by decide +kernel
theorem dL_law_302 : decode code 302 = .ok (.aload_n 0, 1) := by decide +kernel
theorem dL_law_303 : decode code 303 = .ok (.iload 4, 2) := by decide +kernel
theorem dL_law_305 : decode code 305 = .ok (.iconst 1, 1) := by decide +kernel
theorem dL_law_306 : decode code 306 = .ok (.iadd, 1) := by decide +kernel
theorem dL_law_307 : decode code 307 = .ok (.iaload, 1) := by decide +kernel
theorem dL_law_308 : decode code 308 = .ok (.aload_n 0, 1) := by decide +kernel
theorem dL_law_309 : decode code 309 = .ok (.iload 4, 2) := by decide +kernel
theorem dL_law_311 : decode code 311 = .ok (.iconst 2, 1) := by decide +kernel
theorem dL_law_312 : decode code 312 = .ok (.iadd, 1) := by decide +kernel
theorem dL_law_313 : decode code 313 = .ok (.iaload, 1) := by decide +kernel
theorem dL_law_314 : decode code 314 = .ok (.invokevirtual 56, 3) := by decide +kernel
theorem dL_law_317 : decode code 317 = .ok (.istore 6, 2) := by decide +kernel
theorem dL_law_319 : decode code 319 = .ok (.aload_n 2, 1) := by decide +kernel
theorem dL_law_320 : decode code 320 = .ok (.invokevirtual 57, 3) := by decide +kernel
theorem dL_law_323 : decode code 323 = .ok (.iload 5, 2) := by decide +kernel
theorem dL_law_325 : decode code 325 = .ok (.if_icmp .eq 5, 3) := by decide +kernel
theorem dL_law_328 : decode code 328 = .ok (.iconst 0, 1) := by decide +kernel
theorem dL_law_329 : decode code 329 = .ok (.ireturn, 1) := by decide +kernel
theorem dL_law_330 : decode code 330 = .ok (.iload 5, 2) := by decide +kernel
theorem dL_law_332 : decode code 332 = .ok (.ifCond .ne 15, 3) := by decide +kernel
theorem dL_law_335 : decode code 335 = .ok (.aload_n 3, 1) := by decide +kernel
theorem dL_law_336 : decode code 336 = .ok (.iconst 0, 1) := by decide +kernel
theorem dL_law_337 : decode code 337 = .ok (.laload, 1) := by decide +kernel
theorem dL_law_338 : decode code 338 = .ok (.iload 6, 2) := by decide +kernel
theorem dL_law_340 : decode code 340 = .ok (.i2l, 1) := by decide +kernel
theorem dL_law_341 : decode code 341 = .ok (.lcmp, 1) := by decide +kernel
theorem dL_law_342 : decode code 342 = .ok (.ifCond .eq 5, 3) := by decide +kernel
theorem dL_law_345 : decode code 345 = .ok (.iconst 0, 1) := by decide +kernel
theorem dL_law_346 : decode code 346 = .ok (.ireturn, 1) := by decide +kernel
theorem dL_law_347 : decode code 347 = .ok (.goto 1310, 3) := by decide +kernel
theorem dL_law_350 : decode code 350 = .ok (.aload_n 1, 1) := by decide +kernel
theorem dL_law_351 : decode code 351 = .ok (.aload_n 0, 1) := by decide +kernel
theorem dL_law_352 : decode code 352 = .ok (.iload 4, 2) := by decide +kernel
theorem dL_law_354 : decode code 354 = .ok (.iconst 1, 1) := by decide +kernel
theorem dL_law_355 : decode code 355 = .ok (.iadd, 1) := by decide +kernel
theorem dL_law_356 : decode code 356 = .ok (.iaload, 1) := by decide +kernel
theorem dL_law_357 : decode code 357 = .ok (.aload_n 0, 1) := by decide +kernel
theorem dL_law_358 : decode code 358 = .ok (.iload 4, 2) := by decide +kernel
theorem dL_law_360 : decode code 360 = .ok (.iconst 2, 1) := by decide +kernel
theorem dL_law_361 : decode code 361 = .ok (.iadd, 1) := by decide +kernel
theorem dL_law_362 : decode code 362 = .ok (.iaload, 1) := by decide +kernel
theorem dL_law_363 : decode code 363 = .ok (.invokevirtual 61, 3) := by decide +kernel
theorem dL_law_366 : decode code 366 = .ok (.aload_n 2, 1) := by decide +kernel
theorem dL_law_367 : decode code 367 = .ok (.aload_n 0, 1) := by decide +kernel
theorem dL_law_368 : decode code 368 = .ok (.iload 4, 2) := by decide +kernel
theorem dL_law_370 : decode code 370 = .ok (.iconst 1, 1) := by decide +kernel
theorem dL_law_371 : decode code 371 = .ok (.iadd, 1) := by decide +kernel
theorem dL_law_372 : decode code 372 = .ok (.iaload, 1) := by decide +kernel
theorem dL_law_373 : decode code 373 = .ok (.aload_n 0, 1) := by decide +kernel
theorem dL_law_374 : decode code 374 = .ok (.iload 4, 2) := by decide +kernel
theorem dL_law_376 : decode code 376 = .ok (.iconst 2, 1) := by decide +kernel
theorem dL_law_377 : decode code 377 = .ok (.iadd, 1) := by decide +kernel
theorem dL_law_378 : decode code 378 = .ok (.iaload, 1) := by decide +kernel
theorem dL_law_379 : decode code 379 = .ok (.invokevirtual 64, 3) := by decide +kernel
theorem dL_law_382 : decode code 382 = .ok (.if_icmp .eq 1275, 3) := by decide +kernel
theorem dL_law_385 : decode code 385 = .ok (.iconst 0, 1) := by decide +kernel
theorem dL_law_386 : decode code 386 = .ok (.ireturn, 1) := by decide +kernel
theorem dL_law_387 : decode code 387 = .ok (.aload_n 1, 1) := by decide +kernel
theorem dL_law_388 : decode code 388 = .ok (.aload_n 0, 1) := by decide +kernel
theorem dL_law_389 : decode code 389 = .ok (.iload 4, 2) := by decide +kernel
theorem dL_law_391 : decode code 391 = .ok (.iconst 1, 1) := by decide +kernel
theorem dL_law_392 : decode code 392 = .ok (.iadd, 1) := by decide +kernel
theorem dL_law_393 : decode code 393 = .ok (.iaload, 1) := by decide +kernel
theorem dL_law_394 : decode code 394 = .ok (.aload_n 0, 1) := by decide +kernel
theorem dL_law_395 : decode code 395 = .ok (.iload 4, 2) := by decide +kernel
theorem dL_law_397 : decode code 397 = .ok (.iconst 2, 1) := by decide +kernel
theorem dL_law_398 : decode code 398 = .ok (.iadd, 1) := by decide +kernel
theorem dL_law_399 : decode code 399 = .ok (.iaload, 1) := by decide +kernel
theorem dL_law_400 : decode code 400 = .ok (.invokevirtual 65, 3) := by decide +kernel
theorem dL_law_403 : decode code 403 = .ok (.aload_n 2, 1) := by decide +kernel
theorem dL_law_404 : decode code 404 = .ok (.aload_n 0, 1) := by decide +kernel
theorem dL_law_405 : decode code 405 = .ok (.iload 4, 2) := by decide +kernel
theorem dL_law_407 : decode code 407 = .ok (.iconst 1, 1) := by decide +kernel
theorem dL_law_408 : decode code 408 = .ok (.iadd, 1) := by decide +kernel
theorem dL_law_409 : decode code 409 = .ok (.iaload, 1) := by decide +kernel
theorem dL_law_410 : decode code 410 = .ok (.aload_n 0, 1) := by decide +kernel
theorem dL_law_411 : decode code 411 = .ok (.iload 4, 2) := by decide +kernel
theorem dL_law_413 : decode code 413 = .ok (.iconst 2, 1) := by decide +kernel
theorem dL_law_414 : decode code 414 = .ok (.iadd, 1) := by decide +kernel
theorem dL_law_415 : decode code 415 = .ok (.iaload, 1) := by decide +kernel
theorem dL_law_416 : decode code 416 = .ok (.invokevirtual 68, 3) := by decide +kernel
theorem dL_law_419 : decode code 419 = .ok (.if_icmp .eq 1238, 3) := by decide +kernel
theorem dL_law_422 : decode code 422 = .ok (.iconst 0, 1) := by decide +kernel
theorem dL_law_423 : decode code 423 = .ok (.ireturn, 1) := by decide +kernel
theorem dL_law_424 : decode code 424 = .ok (.aload_n 1, 1) := by decide +kernel
theorem dL_law_425 : decode code 425 = .ok (.aload_n 0, 1) := by decide +kernel
theorem dL_law_426 : decode code 426 = .ok (.iload 4, 2) := by decide +kernel
theorem dL_law_428 : decode code 428 = .ok (.iconst 1, 1) := by decide +kernel
theorem dL_law_429 : decode code 429 = .ok (.iadd, 1) := by decide +kernel
theorem dL_law_430 : decode code 430 = .ok (.iaload, 1) := by decide +kernel
theorem dL_law_431 : decode code 431 = .ok (.invokevirtual 69, 3) := by decide +kernel
theorem dL_law_434 : decode code 434 = .ok (.aload_n 2, 1) := by decide +kernel
theorem dL_law_435 : decode code 435 = .ok (.aload_n 0, 1) := by decide +kernel
theorem dL_law_436 : decode code 436 = .ok (.iload 4, 2) := by decide +kernel
theorem dL_law_438 : decode code 438 = .ok (.iconst 1, 1) := by decide +kernel
theorem dL_law_439 : decode code 439 = .ok (.iadd, 1) := by decide +kernel
theorem dL_law_440 : decode code 440 = .ok (.iaload, 1) := by decide +kernel
theorem dL_law_441 : decode code 441 = .ok (.invokevirtual 72, 3) := by decide +kernel
theorem dL_law_444 : decode code 444 = .ok (.if_icmp .eq 1213, 3) := by decide +kernel
theorem dL_law_447 : decode code 447 = .ok (.iconst 0, 1) := by decide +kernel
theorem dL_law_448 : decode code 448 = .ok (.ireturn, 1) := by decide +kernel
theorem dL_law_449 : decode code 449 = .ok (.aload_n 1, 1) := by decide +kernel
theorem dL_law_450 : decode code 450 = .ok (.aload_n 0, 1) := by decide +kernel
theorem dL_law_451 : decode code 451 = .ok (.iload 4, 2) := by decide +kernel
theorem dL_law_453 : decode code 453 = .ok (.iconst 1, 1) := by decide +kernel
theorem dL_law_454 : decode code 454 = .ok (.iadd, 1) := by decide +kernel
theorem dL_law_455 : decode code 455 = .ok (.iaload, 1) := by decide +kernel
theorem dL_law_456 : decode code 456 = .ok (.aload_n 0, 1) := by decide +kernel
theorem dL_law_457 : decode code 457 = .ok (.iload 4, 2) := by decide +kernel
theorem dL_law_459 : decode code 459 = .ok (.iconst 2, 1) := by decide +kernel
theorem dL_law_460 : decode code 460 = .ok (.iadd, 1) := by decide +kernel
theorem dL_law_461 : decode code 461 = .ok (.iaload, 1) := by decide +kernel
theorem dL_law_462 : decode code 462 = .ok (.invokevirtual 73, 3) := by decide +kernel
theorem dL_law_465 : decode code 465 = .ok (.aload_n 2, 1) := by decide +kernel
theorem dL_law_466 : decode code 466 = .ok (.aload_n 0, 1) := by decide +kernel
theorem dL_law_467 : decode code 467 = .ok (.iload 4, 2) := by decide +kernel
theorem dL_law_469 : decode code 469 = .ok (.iconst 1, 1) := by decide +kernel
theorem dL_law_470 : decode code 470 = .ok (.iadd, 1) := by decide +kernel
theorem dL_law_471 : decode code 471 = .ok (.iaload, 1) := by decide +kernel
theorem dL_law_472 : decode code 472 = .ok (.aload_n 0, 1) := by decide +kernel
theorem dL_law_473 : decode code 473 = .ok (.iload 4, 2) := by decide +kernel
theorem dL_law_475 : decode code 475 = .ok (.iconst 2, 1) := by decide +kernel
theorem dL_law_476 : decode code 476 = .ok (.iadd, 1) := by decide +kernel
theorem dL_law_477 : decode code 477 = .ok (.iaload, 1) := by decide +kernel
theorem dL_law_478 : decode code 478 = .ok (.invokevirtual 76, 3) := by decide +kernel
theorem dL_law_481 : decode code 481 = .ok (.if_icmp .eq 1176, 3) := by decide +kernel
theorem dL_law_484 : decode code 484 = .ok (.iconst 0, 1) := by decide +kernel
theorem dL_law_485 : decode code 485 = .ok (.ireturn, 1) := by decide +kernel
theorem dL_law_486 : decode code 486 = .ok (.aload_n 1, 1) := by decide +kernel
theorem dL_law_487 : decode code 487 = .ok (.invokevirtual 77, 3) := by decide +kernel
theorem dL_law_490 : decode code 490 = .ok (.aload_n 2, 1) := by decide +kernel
theorem dL_law_491 : decode code 491 = .ok (.invokevirtual 80, 3) := by decide +kernel
theorem dL_law_494 : decode code 494 = .ok (.if_icmp .eq 1163, 3) := by decide +kernel
theorem dL_law_497 : decode code 497 = .ok (.iconst 0, 1) := by decide +kernel
theorem dL_law_498 : decode code 498 = .ok (.ireturn, 1) := by decide +kernel
theorem dL_law_499 : decode code 499 = .ok (.aload_n 1, 1) := by decide +kernel
theorem dL_law_500 : decode code 500 = .ok (.aload_n 0, 1) := by decide +kernel
theorem dL_law_501 : decode code 501 = .ok (.iload 4, 2) := by decide +kernel
theorem dL_law_503 : decode code 503 = .ok (.iconst 1, 1) := by decide +kernel
theorem dL_law_504 : decode code 504 = .ok (.iadd, 1) := by decide +kernel
theorem dL_law_505 : decode code 505 = .ok (.iaload, 1) := by decide +kernel
theorem dL_law_506 : decode code 506 = .ok (.aload_n 0, 1) := by decide +kernel
theorem dL_law_507 : decode code 507 = .ok (.iload 4, 2) := by decide +kernel
theorem dL_law_509 : decode code 509 = .ok (.iconst 2, 1) := by decide +kernel
theorem dL_law_510 : decode code 510 = .ok (.iadd, 1) := by decide +kernel
theorem dL_law_511 : decode code 511 = .ok (.iaload, 1) := by decide +kernel
theorem dL_law_512 : decode code 512 = .ok (.aload_n 0, 1) := by decide +kernel
theorem dL_law_513 : decode code 513 = .ok (.iload 4, 2) := by decide +kernel
theorem dL_law_515 : decode code 515 = .ok (.iconst 3, 1) := by decide +kernel
theorem dL_law_516 : decode code 516 = .ok (.iadd, 1) := by decide +kernel
theorem dL_law_517 : decode code 517 = .ok (.iaload, 1) := by decide +kernel
theorem dL_law_518 : decode code 518 = .ok (.aload_n 0, 1) := by decide +kernel
theorem dL_law_519 : decode code 519 = .ok (.iload 4, 2) := by decide +kernel
theorem dL_law_521 : decode code 521 = .ok (.iconst 4, 1) := by decide +kernel
theorem dL_law_522 : decode code 522 = .ok (.iadd, 1) := by decide +kernel
theorem dL_law_523 : decode code 523 = .ok (.iaload, 1) := by decide +kernel
theorem dL_law_524 : decode code 524 = .ok (.aload_n 0, 1) := by decide +kernel
theorem dL_law_525 : decode code 525 = .ok (.iload 4, 2) := by decide +kernel
theorem dL_law_527 : decode code 527 = .ok (.iconst 5, 1) := by decide +kernel
theorem dL_law_528 : decode code 528 = .ok (.iadd, 1) := by decide +kernel
theorem dL_law_529 : decode code 529 = .ok (.iaload, 1) := by decide +kernel
theorem dL_law_530 : decode code 530 = .ok (.aload_n 0, 1) := by decide +kernel
theorem dL_law_531 : decode code 531 = .ok (.iload 4, 2) := by decide +kernel
theorem dL_law_533 : decode code 533 = .ok (.bipush 6, 2) := by decide +kernel
theorem dL_law_535 : decode code 535 = .ok (.iadd, 1) := by decide +kernel
theorem dL_law_536 : decode code 536 = .ok (.iaload, 1) := by decide +kernel
theorem dL_law_537 : decode code 537 = .ok (.invokevirtual 81, 3) := by decide +kernel
theorem dL_law_540 : decode code 540 = .ok (.aload_n 2, 1) := by decide +kernel
theorem dL_law_541 : decode code 541 = .ok (.aload_n 0, 1) := by decide +kernel
theorem dL_law_542 : decode code 542 = .ok (.iload 4, 2) := by decide +kernel
theorem dL_law_544 : decode code 544 = .ok (.iconst 1, 1) := by decide +kernel
theorem dL_law_545 : decode code 545 = .ok (.iadd, 1) := by decide +kernel
theorem dL_law_546 : decode code 546 = .ok (.iaload, 1) := by decide +kernel
theorem dL_law_547 : decode code 547 = .ok (.aload_n 0, 1) := by decide +kernel
theorem dL_law_548 : decode code 548 = .ok (.iload 4, 2) := by decide +kernel
theorem dL_law_550 : decode code 550 = .ok (.iconst 2, 1) := by decide +kernel
theorem dL_law_551 : decode code 551 = .ok (.iadd, 1) := by decide +kernel
theorem dL_law_552 : decode code 552 = .ok (.iaload, 1) := by decide +kernel
theorem dL_law_553 : decode code 553 = .ok (.aload_n 0, 1) := by decide +kernel
theorem dL_law_554 : decode code 554 = .ok (.iload 4, 2) := by decide +kernel
theorem dL_law_556 : decode code 556 = .ok (.iconst 3, 1) := by decide +kernel
theorem dL_law_557 : decode code 557 = .ok (.iadd, 1) := by decide +kernel
theorem dL_law_558 : decode code 558 = .ok (.iaload, 1) := by decide +kernel
theorem dL_law_559 : decode code 559 = .ok (.aload_n 0, 1) := by decide +kernel
theorem dL_law_560 : decode code 560 = .ok (.iload 4, 2) := by decide +kernel
theorem dL_law_562 : decode code 562 = .ok (.iconst 4, 1) := by decide +kernel
theorem dL_law_563 : decode code 563 = .ok (.iadd, 1) := by decide +kernel
theorem dL_law_564 : decode code 564 = .ok (.iaload, 1) := by decide +kernel
theorem dL_law_565 : decode code 565 = .ok (.aload_n 0, 1) := by decide +kernel
theorem dL_law_566 : decode code 566 = .ok (.iload 4, 2) := by decide +kernel
theorem dL_law_568 : decode code 568 = .ok (.iconst 5, 1) := by decide +kernel
theorem dL_law_569 : decode code 569 = .ok (.iadd, 1) := by decide +kernel
theorem dL_law_570 : decode code 570 = .ok (.iaload, 1) := by decide +kernel
theorem dL_law_571 : decode code 571 = .ok (.aload_n 0, 1) := by decide +kernel
theorem dL_law_572 : decode code 572 = .ok (.iload 4, 2) := by decide +kernel
theorem dL_law_574 : decode code 574 = .ok (.bipush 6, 2) := by decide +kernel
theorem dL_law_576 : decode code 576 = .ok (.iadd, 1) := by decide +kernel
theorem dL_law_577 : decode code 577 = .ok (.iaload, 1) := by decide +kernel
theorem dL_law_578 : decode code 578 = .ok (.invokevirtual 85, 3) := by decide +kernel
theorem dL_law_581 : decode code 581 = .ok (.if_icmp .eq 1076, 3) := by decide +kernel
theorem dL_law_584 : decode code 584 = .ok (.iconst 0, 1) := by decide +kernel
theorem dL_law_585 : decode code 585 = .ok (.ireturn, 1) := by decide +kernel
theorem dL_law_586 : decode code 586 = .ok (.aload_n 1, 1) := by decide +kernel
theorem dL_law_587 : decode code 587 = .ok (.aload_n 0, 1) := by decide +kernel
theorem dL_law_588 : decode code 588 = .ok (.iload 4, 2) := by decide +kernel
theorem dL_law_590 : decode code 590 = .ok (.iconst 1, 1) := by decide +kernel
theorem dL_law_591 : decode code 591 = .ok (.iadd, 1) := by decide +kernel
theorem dL_law_592 : decode code 592 = .ok (.iaload, 1) := by decide +kernel
theorem dL_law_593 : decode code 593 = .ok (.aload_n 0, 1) := by decide +kernel
theorem dL_law_594 : decode code 594 = .ok (.iload 4, 2) := by decide +kernel
theorem dL_law_596 : decode code 596 = .ok (.iconst 2, 1) := by decide +kernel
theorem dL_law_597 : decode code 597 = .ok (.iadd, 1) := by decide +kernel
theorem dL_law_598 : decode code 598 = .ok (.iaload, 1) := by decide +kernel
theorem dL_law_599 : decode code 599 = .ok (.invokevirtual 86, 3) := by decide +kernel
theorem dL_law_602 : decode code 602 = .ok (.aload_n 2, 1) := by decide +kernel
theorem dL_law_603 : decode code 603 = .ok (.aload_n 0, 1) := by decide +kernel
theorem dL_law_604 : decode code 604 = .ok (.iload 4, 2) := by decide +kernel
theorem dL_law_606 : decode code 606 = .ok (.iconst 1, 1) := by decide +kernel
theorem dL_law_607 : decode code 607 = .ok (.iadd, 1) := by decide +kernel
theorem dL_law_608 : decode code 608 = .ok (.iaload, 1) := by decide +kernel
theorem dL_law_609 : decode code 609 = .ok (.aload_n 0, 1) := by decide +kernel
theorem dL_law_610 : decode code 610 = .ok (.iload 4, 2) := by decide +kernel
theorem dL_law_612 : decode code 612 = .ok (.iconst 2, 1) := by decide +kernel
theorem dL_law_613 : decode code 613 = .ok (.iadd, 1) := by decide +kernel
theorem dL_law_614 : decode code 614 = .ok (.iaload, 1) := by decide +kernel
theorem dL_law_615 : decode code 615 = .ok (.invokevirtual 89, 3) := by decide +kernel
theorem dL_law_618 : decode code 618 = .ok (.if_icmp .eq 1039, 3) := by decide +kernel
theorem dL_law_621 : decode code 621 = .ok (.iconst 0, 1) := by decide +kernel
theorem dL_law_622 : decode code 622 = .ok (.ireturn, 1) := by decide +kernel
theorem dL_law_623 : decode code 623 = .ok (.aload_n 1, 1) := by decide +kernel
theorem dL_law_624 : decode code 624 = .ok (.aload_n 0, 1) := by decide +kernel
theorem dL_law_625 : decode code 625 = .ok (.iload 4, 2) := by decide +kernel
theorem dL_law_627 : decode code 627 = .ok (.iconst 1, 1) := by decide +kernel
theorem dL_law_628 : decode code 628 = .ok (.iadd, 1) := by decide +kernel
theorem dL_law_629 : decode code 629 = .ok (.iaload, 1) := by decide +kernel
theorem dL_law_630 : decode code 630 = .ok (.aload_n 0, 1) := by decide +kernel
theorem dL_law_631 : decode code 631 = .ok (.iload 4, 2) := by decide +kernel
theorem dL_law_633 : decode code 633 = .ok (.iconst 2, 1) := by decide +kernel
theorem dL_law_634 : decode code 634 = .ok (.iadd, 1) := by decide +kernel
theorem dL_law_635 : decode code 635 = .ok (.iaload, 1) := by decide +kernel
theorem dL_law_636 : decode code 636 = .ok (.aload_n 3, 1) := by decide +kernel
theorem dL_law_637 : decode code 637 = .ok (.invokestatic 90, 3) := by decide +kernel
theorem dL_law_640 : decode code 640 = .ok (.istore 5, 2) := by decide +kernel
theorem dL_law_642 : decode code 642 = .ok (.aload_n 2, 1) := by decide +kernel
theorem dL_law_643 : decode code 643 = .ok (.aload_n 0, 1) := by decide +kernel
theorem dL_law_644 : decode code 644 = .ok (.iload 4, 2) := by decide +kernel
theorem dL_law_646 : decode code 646 = .ok (.iconst 1, 1) := by decide +kernel
theorem dL_law_647 : decode code 647 = .ok (.iadd, 1) := by decide +kernel
theorem dL_law_648 : decode code 648 = .ok (.iaload, 1) := by decide +kernel
theorem dL_law_649 : decode code 649 = .ok (.aload_n 0, 1) := by decide +kernel
theorem dL_law_650 : decode code 650 = .ok (.iload 4, 2) := by decide +kernel
theorem dL_law_652 : decode code 652 = .ok (.iconst 2, 1) := by decide +kernel
theorem dL_law_653 : decode code 653 = .ok (.iadd, 1) := by decide +kernel
theorem dL_law_654 : decode code 654 = .ok (.iaload, 1) := by decide +kernel
theorem dL_law_655 : decode code 655 = .ok (.invokevirtual 92, 3) := by decide +kernel
theorem dL_law_658 : decode code 658 = .ok (.istore 6, 2) := by decide +kernel
theorem dL_law_660 : decode code 660 = .ok (.aload_n 2, 1) := by decide +kernel
theorem dL_law_661 : decode code 661 = .ok (.invokevirtual 57, 3) := by decide +kernel
theorem dL_law_664 : decode code 664 = .ok (.iload 5, 2) := by decide +kernel
theorem dL_law_666 : decode code 666 = .ok (.if_icmp .eq 5, 3) := by decide +kernel
theorem dL_law_669 : decode code 669 = .ok (.iconst 0, 1) := by decide +kernel
theorem dL_law_670 : decode code 670 = .ok (.ireturn, 1) := by decide +kernel
theorem dL_law_671 : decode code 671 = .ok (.iload 5, 2) := by decide +kernel
theorem dL_law_673 : decode code 673 = .ok (.ifCond .ne 15, 3) := by decide +kernel
theorem dL_law_676 : decode code 676 = .ok (.aload_n 3, 1) := by decide +kernel
theorem dL_law_677 : decode code 677 = .ok (.iconst 0, 1) := by decide +kernel
theorem dL_law_678 : decode code 678 = .ok (.laload, 1) := by decide +kernel
theorem dL_law_679 : decode code 679 = .ok (.iload 6, 2) := by decide +kernel
theorem dL_law_681 : decode code 681 = .ok (.i2l, 1) := by decide +kernel
theorem dL_law_682 : decode code 682 = .ok (.lcmp, 1) := by decide +kernel
theorem dL_law_683 : decode code 683 = .ok (.ifCond .eq 5, 3) := by decide +kernel
theorem dL_law_686 : decode code 686 = .ok (.iconst 0, 1) := by decide +kernel
theorem dL_law_687 : decode code 687 = .ok (.ireturn, 1) := by decide +kernel
theorem dL_law_688 : decode code 688 = .ok (.goto 969, 3) := by decide +kernel
theorem dL_law_691 : decode code 691 = .ok (.aload_n 1, 1) := by decide +kernel
theorem dL_law_692 : decode code 692 = .ok (.aload_n 0, 1) := by decide +kernel
theorem dL_law_693 : decode code 693 = .ok (.iload 4, 2) := by decide +kernel
theorem dL_law_695 : decode code 695 = .ok (.iconst 1, 1) := by decide +kernel
theorem dL_law_696 : decode code 696 = .ok (.iadd, 1) := by decide +kernel
theorem dL_law_697 : decode code 697 = .ok (.iaload, 1) := by decide +kernel
theorem dL_law_698 : decode code 698 = .ok (.aload_n 0, 1) := by decide +kernel
theorem dL_law_699 : decode code 699 = .ok (.iload 4, 2) := by decide +kernel
theorem dL_law_701 : decode code 701 = .ok (.iconst 2, 1) := by decide +kernel
theorem dL_law_702 : decode code 702 = .ok (.iadd, 1) := by decide +kernel
theorem dL_law_703 : decode code 703 = .ok (.iaload, 1) := by decide +kernel
theorem dL_law_704 : decode code 704 = .ok (.aload_n 0, 1) := by decide +kernel
theorem dL_law_705 : decode code 705 = .ok (.iload 4, 2) := by decide +kernel
theorem dL_law_707 : decode code 707 = .ok (.iconst 3, 1) := by decide +kernel
theorem dL_law_708 : decode code 708 = .ok (.iadd, 1) := by decide +kernel
theorem dL_law_709 : decode code 709 = .ok (.iaload, 1) := by decide +kernel
theorem dL_law_710 : decode code 710 = .ok (.invokevirtual 93, 3) := by decide +kernel
theorem dL_law_713 : decode code 713 = .ok (.aload_n 2, 1) := by decide +kernel
theorem dL_law_714 : decode code 714 = .ok (.aload_n 0, 1) := by decide +kernel
theorem dL_law_715 : decode code 715 = .ok (.iload 4, 2) := by decide +kernel
theorem dL_law_717 : decode code 717 = .ok (.iconst 1, 1) := by decide +kernel
theorem dL_law_718 : decode code 718 = .ok (.iadd, 1) := by decide +kernel
theorem dL_law_719 : decode code 719 = .ok (.iaload, 1) := by decide +kernel
theorem dL_law_720 : decode code 720 = .ok (.aload_n 0, 1) := by decide +kernel
theorem dL_law_721 : decode code 721 = .ok (.iload 4, 2) := by decide +kernel
theorem dL_law_723 : decode code 723 = .ok (.iconst 2, 1) := by decide +kernel
theorem dL_law_724 : decode code 724 = .ok (.iadd, 1) := by decide +kernel
theorem dL_law_725 : decode code 725 = .ok (.iaload, 1) := by decide +kernel
theorem dL_law_726 : decode code 726 = .ok (.aload_n 0, 1) := by decide +kernel
theorem dL_law_727 : decode code 727 = .ok (.iload 4, 2) := by decide +kernel
theorem dL_law_729 : decode code 729 = .ok (.iconst 3, 1) := by decide +kernel
theorem dL_law_730 : decode code 730 = .ok (.iadd, 1) := by decide +kernel
theorem dL_law_731 : decode code 731 = .ok (.iaload, 1) := by decide +kernel
theorem dL_law_732 : decode code 732 = .ok (.invokevirtual 96, 3) := by decide +kernel
theorem dL_law_735 : decode code 735 = .ok (.if_icmp .eq 922, 3) := by decide +kernel
theorem dL_law_738 : decode code 738 = .ok (.iconst 0, 1) := by decide +kernel
theorem dL_law_739 : decode code 739 = .ok (.ireturn, 1) := by decide +kernel
theorem dL_law_740 : decode code 740 = .ok (.aload_n 1, 1) := by decide +kernel
theorem dL_law_741 : decode code 741 = .ok (.aload_n 0, 1) := by decide +kernel
theorem dL_law_742 : decode code 742 = .ok (.iload 4, 2) := by decide +kernel
theorem dL_law_744 : decode code 744 = .ok (.iconst 1, 1) := by decide +kernel
theorem dL_law_745 : decode code 745 = .ok (.iadd, 1) := by decide +kernel
theorem dL_law_746 : decode code 746 = .ok (.iaload, 1) := by decide +kernel
theorem dL_law_747 : decode code 747 = .ok (.aload_n 0, 1) := by decide +kernel
theorem dL_law_748 : decode code 748 = .ok (.iload 4, 2) := by decide +kernel
theorem dL_law_750 : decode code 750 = .ok (.iconst 2, 1) := by decide +kernel
theorem dL_law_751 : decode code 751 = .ok (.iadd, 1) := by decide +kernel
theorem dL_law_752 : decode code 752 = .ok (.iaload, 1) := by decide +kernel
theorem dL_law_753 : decode code 753 = .ok (.aload_n 0, 1) := by decide +kernel
theorem dL_law_754 : decode code 754 = .ok (.iload 4, 2) := by decide +kernel
theorem dL_law_756 : decode code 756 = .ok (.iconst 3, 1) := by decide +kernel
theorem dL_law_757 : decode code 757 = .ok (.iadd, 1) := by decide +kernel
theorem dL_law_758 : decode code 758 = .ok (.iaload, 1) := by decide +kernel
theorem dL_law_759 : decode code 759 = .ok (.aload_n 0, 1) := by decide +kernel
theorem dL_law_760 : decode code 760 = .ok (.iload 4, 2) := by decide +kernel
theorem dL_law_762 : decode code 762 = .ok (.iconst 4, 1) := by decide +kernel
theorem dL_law_763 : decode code 763 = .ok (.iadd, 1) := by decide +kernel
theorem dL_law_764 : decode code 764 = .ok (.iaload, 1) := by decide +kernel
theorem dL_law_765 : decode code 765 = .ok (.invokevirtual 97, 3) := by decide +kernel
theorem dL_law_768 : decode code 768 = .ok (.aload_n 2, 1) := by decide +kernel
theorem dL_law_769 : decode code 769 = .ok (.aload_n 0, 1) := by decide +kernel
theorem dL_law_770 : decode code 770 = .ok (.iload 4, 2) := by decide +kernel
theorem dL_law_772 : decode code 772 = .ok (.iconst 1, 1) := by decide +kernel
theorem dL_law_773 : decode code 773 = .ok (.iadd, 1) := by decide +kernel
theorem dL_law_774 : decode code 774 = .ok (.iaload, 1) := by decide +kernel
theorem dL_law_775 : decode code 775 = .ok (.aload_n 0, 1) := by decide +kernel
theorem dL_law_776 : decode code 776 = .ok (.iload 4, 2) := by decide +kernel
theorem dL_law_778 : decode code 778 = .ok (.iconst 2, 1) := by decide +kernel
theorem dL_law_779 : decode code 779 = .ok (.iadd, 1) := by decide +kernel
theorem dL_law_780 : decode code 780 = .ok (.iaload, 1) := by decide +kernel
theorem dL_law_781 : decode code 781 = .ok (.aload_n 0, 1) := by decide +kernel
theorem dL_law_782 : decode code 782 = .ok (.iload 4, 2) := by decide +kernel
theorem dL_law_784 : decode code 784 = .ok (.iconst 3, 1) := by decide +kernel
theorem dL_law_785 : decode code 785 = .ok (.iadd, 1) := by decide +kernel
theorem dL_law_786 : decode code 786 = .ok (.iaload, 1) := by decide +kernel
theorem dL_law_787 : decode code 787 = .ok (.aload_n 0, 1) := by decide +kernel
theorem dL_law_788 : decode code 788 = .ok (.iload 4, 2) := by decide +kernel
theorem dL_law_790 : decode code 790 = .ok (.iconst 4, 1) := by decide +kernel
theorem dL_law_791 : decode code 791 = .ok (.iadd, 1) := by decide +kernel
theorem dL_law_792 : decode code 792 = .ok (.iaload, 1) := by decide +kernel
theorem dL_law_793 : decode code 793 = .ok (.invokevirtual 100, 3) := by decide +kernel
theorem dL_law_796 : decode code 796 = .ok (.if_icmp .eq 861, 3) := by decide +kernel
theorem dL_law_799 : decode code 799 = .ok (.iconst 0, 1) := by decide +kernel
theorem dL_law_800 : decode code 800 = .ok (.ireturn, 1) := by decide +kernel
theorem dL_law_801 : decode code 801 = .ok (.aload_n 1, 1) := by decide +kernel
theorem dL_law_802 : decode code 802 = .ok (.aload_n 0, 1) := by decide +kernel
theorem dL_law_803 : decode code 803 = .ok (.iload 4, 2) := by decide +kernel
theorem dL_law_805 : decode code 805 = .ok (.iconst 1, 1) := by decide +kernel
theorem dL_law_806 : decode code 806 = .ok (.iadd, 1) := by decide +kernel
theorem dL_law_807 : decode code 807 = .ok (.iaload, 1) := by decide +kernel
theorem dL_law_808 : decode code 808 = .ok (.aload_n 0, 1) := by decide +kernel
theorem dL_law_809 : decode code 809 = .ok (.iload 4, 2) := by decide +kernel
theorem dL_law_811 : decode code 811 = .ok (.iconst 2, 1) := by decide +kernel
theorem dL_law_812 : decode code 812 = .ok (.iadd, 1) := by decide +kernel
theorem dL_law_813 : decode code 813 = .ok (.iaload, 1) := by decide +kernel
theorem dL_law_814 : decode code 814 = .ok (.invokevirtual 101, 3) := by decide +kernel
theorem dL_law_817 : decode code 817 = .ok (.aload_n 2, 1) := by decide +kernel
theorem dL_law_818 : decode code 818 = .ok (.aload_n 0, 1) := by decide +kernel
theorem dL_law_819 : decode code 819 = .ok (.iload 4, 2) := by decide +kernel
theorem dL_law_821 : decode code 821 = .ok (.iconst 1, 1) := by decide +kernel
theorem dL_law_822 : decode code 822 = .ok (.iadd, 1) := by decide +kernel
theorem dL_law_823 : decode code 823 = .ok (.iaload, 1) := by decide +kernel
theorem dL_law_824 : decode code 824 = .ok (.aload_n 0, 1) := by decide +kernel
theorem dL_law_825 : decode code 825 = .ok (.iload 4, 2) := by decide +kernel
theorem dL_law_827 : decode code 827 = .ok (.iconst 2, 1) := by decide +kernel
theorem dL_law_828 : decode code 828 = .ok (.iadd, 1) := by decide +kernel
theorem dL_law_829 : decode code 829 = .ok (.iaload, 1) := by decide +kernel
theorem dL_law_830 : decode code 830 = .ok (.invokevirtual 104, 3) := by decide +kernel
theorem dL_law_833 : decode code 833 = .ok (.if_icmp .eq 824, 3) := by decide +kernel
theorem dL_law_836 : decode code 836 = .ok (.iconst 0, 1) := by decide +kernel
theorem dL_law_837 : decode code 837 = .ok (.ireturn, 1) := by decide +kernel
theorem dL_law_838 : decode code 838 = .ok (.aload_n 1, 1) := by decide +kernel
theorem dL_law_839 : decode code 839 = .ok (.aload_n 0, 1) := by decide +kernel
theorem dL_law_840 : decode code 840 = .ok (.iload 4, 2) := by decide +kernel
theorem dL_law_842 : decode code 842 = .ok (.iconst 1, 1) := by decide +kernel
theorem dL_law_843 : decode code 843 = .ok (.iadd, 1) := by decide +kernel
theorem dL_law_844 : decode code 844 = .ok (.iaload, 1) := by decide +kernel
theorem dL_law_845 : decode code 845 = .ok (.aload_n 0, 1) := by decide +kernel
theorem dL_law_846 : decode code 846 = .ok (.iload 4, 2) := by decide +kernel
theorem dL_law_848 : decode code 848 = .ok (.iconst 2, 1) := by decide +kernel
theorem dL_law_849 : decode code 849 = .ok (.iadd, 1) := by decide +kernel
theorem dL_law_850 : decode code 850 = .ok (.iaload, 1) := by decide +kernel
theorem dL_law_851 : decode code 851 = .ok (.invokevirtual 105, 3) := by decide +kernel
theorem dL_law_854 : decode code 854 = .ok (.aload_n 2, 1) := by decide +kernel
theorem dL_law_855 : decode code 855 = .ok (.aload_n 0, 1) := by decide +kernel
theorem dL_law_856 : decode code 856 = .ok (.iload 4, 2) := by decide +kernel
theorem dL_law_858 : decode code 858 = .ok (.iconst 1, 1) := by decide +kernel
theorem dL_law_859 : decode code 859 = .ok (.iadd, 1) := by decide +kernel
theorem dL_law_860 : decode code 860 = .ok (.iaload, 1) := by decide +kernel
theorem dL_law_861 : decode code 861 = .ok (.aload_n 0, 1) := by decide +kernel
theorem dL_law_862 : decode code 862 = .ok (.iload 4, 2) := by decide +kernel
theorem dL_law_864 : decode code 864 = .ok (.iconst 2, 1) := by decide +kernel
theorem dL_law_865 : decode code 865 = .ok (.iadd, 1) := by decide +kernel
theorem dL_law_866 : decode code 866 = .ok (.iaload, 1) := by decide +kernel
theorem dL_law_867 : decode code 867 = .ok (.invokevirtual 108, 3) := by decide +kernel
theorem dL_law_870 : decode code 870 = .ok (.if_icmp .eq 787, 3) := by decide +kernel
theorem dL_law_873 : decode code 873 = .ok (.iconst 0, 1) := by decide +kernel
theorem dL_law_874 : decode code 874 = .ok (.ireturn, 1) := by decide +kernel
theorem dL_law_875 : decode code 875 = .ok (.aload_n 1, 1) := by decide +kernel
theorem dL_law_876 : decode code 876 = .ok (.aload_n 0, 1) := by decide +kernel
theorem dL_law_877 : decode code 877 = .ok (.iload 4, 2) := by decide +kernel
theorem dL_law_879 : decode code 879 = .ok (.iconst 1, 1) := by decide +kernel
theorem dL_law_880 : decode code 880 = .ok (.iadd, 1) := by decide +kernel
theorem dL_law_881 : decode code 881 = .ok (.iaload, 1) := by decide +kernel
theorem dL_law_882 : decode code 882 = .ok (.aload_n 0, 1) := by decide +kernel
theorem dL_law_883 : decode code 883 = .ok (.iload 4, 2) := by decide +kernel
theorem dL_law_885 : decode code 885 = .ok (.iconst 2, 1) := by decide +kernel
theorem dL_law_886 : decode code 886 = .ok (.iadd, 1) := by decide +kernel
theorem dL_law_887 : decode code 887 = .ok (.iaload, 1) := by decide +kernel
theorem dL_law_888 : decode code 888 = .ok (.aload_n 3, 1) := by decide +kernel
theorem dL_law_889 : decode code 889 = .ok (.invokestatic 109, 3) := by decide +kernel
theorem dL_law_892 : decode code 892 = .ok (.istore 5, 2) := by decide +kernel
theorem dL_law_894 : decode code 894 = .ok (.aload_n 2, 1) := by decide +kernel
theorem dL_law_895 : decode code 895 = .ok (.aload_n 0, 1) := by decide +kernel
theorem dL_law_896 : decode code 896 = .ok (.iload 4, 2) := by decide +kernel
theorem dL_law_898 : decode code 898 = .ok (.iconst 1, 1) := by decide +kernel
theorem dL_law_899 : decode code 899 = .ok (.iadd, 1) := by decide +kernel
theorem dL_law_900 : decode code 900 = .ok (.iaload, 1) := by decide +kernel
theorem dL_law_901 : decode code 901 = .ok (.aload_n 0, 1) := by decide +kernel
theorem dL_law_902 : decode code 902 = .ok (.iload 4, 2) := by decide +kernel
theorem dL_law_904 : decode code 904 = .ok (.iconst 2, 1) := by decide +kernel
theorem dL_law_905 : decode code 905 = .ok (.iadd, 1) := by decide +kernel
theorem dL_law_906 : decode code 906 = .ok (.iaload, 1) := by decide +kernel
theorem dL_law_907 : decode code 907 = .ok (.invokevirtual 111, 3) := by decide +kernel
theorem dL_law_910 : decode code 910 = .ok (.lstore 6, 2) := by decide +kernel
theorem dL_law_912 : decode code 912 = .ok (.aload_n 2, 1) := by decide +kernel
theorem dL_law_913 : decode code 913 = .ok (.invokevirtual 57, 3) := by decide +kernel
theorem dL_law_916 : decode code 916 = .ok (.iload 5, 2) := by decide +kernel
theorem dL_law_918 : decode code 918 = .ok (.if_icmp .eq 5, 3) := by decide +kernel
theorem dL_law_921 : decode code 921 = .ok (.iconst 0, 1) := by decide +kernel
theorem dL_law_922 : decode code 922 = .ok (.ireturn, 1) := by decide +kernel
theorem dL_law_923 : decode code 923 = .ok (.iload 5, 2) := by decide +kernel
theorem dL_law_925 : decode code 925 = .ok (.ifCond .ne 14, 3) := by decide +kernel
theorem dL_law_928 : decode code 928 = .ok (.aload_n 3, 1) := by decide +kernel
theorem dL_law_929 : decode code 929 = .ok (.iconst 0, 1) := by decide +kernel
theorem dL_law_930 : decode code 930 = .ok (.laload, 1) := by decide +kernel
theorem dL_law_931 : decode code 931 = .ok (.lload 6, 2) := by decide +kernel
theorem dL_law_933 : decode code 933 = .ok (.lcmp, 1) := by decide +kernel
theorem dL_law_934 : decode code 934 = .ok (.ifCond .eq 5, 3) := by decide +kernel
theorem dL_law_937 : decode code 937 = .ok (.iconst 0, 1) := by decide +kernel
theorem dL_law_938 : decode code 938 = .ok (.ireturn, 1) := by decide +kernel
theorem dL_law_939 : decode code 939 = .ok (.goto 718, 3) := by decide +kernel
theorem dL_law_942 : decode code 942 = .ok (.aload_n 1, 1) := by decide +kernel
theorem dL_law_943 : decode code 943 = .ok (.aload_n 0, 1) := by decide +kernel
theorem dL_law_944 : decode code 944 = .ok (.iload 4, 2) := by decide +kernel
theorem dL_law_946 : decode code 946 = .ok (.iconst 1, 1) := by decide +kernel
theorem dL_law_947 : decode code 947 = .ok (.iadd, 1) := by decide +kernel
theorem dL_law_948 : decode code 948 = .ok (.iaload, 1) := by decide +kernel
theorem dL_law_949 : decode code 949 = .ok (.aload_n 0, 1) := by decide +kernel
theorem dL_law_950 : decode code 950 = .ok (.iload 4, 2) := by decide +kernel
theorem dL_law_952 : decode code 952 = .ok (.iconst 2, 1) := by decide +kernel
theorem dL_law_953 : decode code 953 = .ok (.iadd, 1) := by decide +kernel
theorem dL_law_954 : decode code 954 = .ok (.iaload, 1) := by decide +kernel
theorem dL_law_955 : decode code 955 = .ok (.aload_n 3, 1) := by decide +kernel
theorem dL_law_956 : decode code 956 = .ok (.invokestatic 112, 3) := by decide +kernel
theorem dL_law_959 : decode code 959 = .ok (.istore 5, 2) := by decide +kernel
theorem dL_law_961 : decode code 961 = .ok (.aload_n 2, 1) := by decide +kernel
theorem dL_law_962 : decode code 962 = .ok (.aload_n 0, 1) := by decide +kernel
theorem dL_law_963 : decode code 963 = .ok (.iload 4, 2) := by decide +kernel
theorem dL_law_965 : decode code 965 = .ok (.iconst 1, 1) := by decide +kernel
theorem dL_law_966 : decode code 966 = .ok (.iadd, 1) := by decide +kernel
theorem dL_law_967 : decode code 967 = .ok (.iaload, 1) := by decide +kernel
theorem dL_law_968 : decode code 968 = .ok (.aload_n 0, 1) := by decide +kernel
theorem dL_law_969 : decode code 969 = .ok (.iload 4, 2) := by decide +kernel
theorem dL_law_971 : decode code 971 = .ok (.iconst 2, 1) := by decide +kernel
theorem dL_law_972 : decode code 972 = .ok (.iadd, 1) := by decide +kernel
theorem dL_law_973 : decode code 973 = .ok (.iaload, 1) := by decide +kernel
theorem dL_law_974 : decode code 974 = .ok (.invokevirtual 114, 3) := by decide +kernel
theorem dL_law_977 : decode code 977 = .ok (.lstore 6, 2) := by decide +kernel
theorem dL_law_979 : decode code 979 = .ok (.aload_n 2, 1) := by decide +kernel
theorem dL_law_980 : decode code 980 = .ok (.invokevirtual 57, 3) := by decide +kernel
theorem dL_law_983 : decode code 983 = .ok (.iload 5, 2) := by decide +kernel
theorem dL_law_985 : decode code 985 = .ok (.if_icmp .eq 5, 3) := by decide +kernel
theorem dL_law_988 : decode code 988 = .ok (.iconst 0, 1) := by decide +kernel
theorem dL_law_989 : decode code 989 = .ok (.ireturn, 1) := by decide +kernel
theorem dL_law_990 : decode code 990 = .ok (.iload 5, 2) := by decide +kernel
theorem dL_law_992 : decode code 992 = .ok (.ifCond .ne 14, 3) := by decide +kernel
theorem dL_law_995 : decode code 995 = .ok (.aload_n 3, 1) := by decide +kernel
theorem dL_law_996 : decode code 996 = .ok (.iconst 0, 1) := by decide +kernel
theorem dL_law_997 : decode code 997 = .ok (.laload, 1) := by decide +kernel
theorem dL_law_998 : decode code 998 = .ok (.lload 6, 2) := by decide +kernel
theorem dL_law_1000 : decode code 1000 = .ok (.lcmp, 1) := by decide +kernel
theorem dL_law_1001 : decode code 1001 = .ok (.ifCond .eq 5, 3) := by decide +kernel
theorem dL_law_1004 : decode code 1004 = .ok (.iconst 0, 1) := by decide +kernel
theorem dL_law_1005 : decode code 1005 = .ok (.ireturn, 1) := by decide +kernel
theorem dL_law_1006 : decode code 1006 = .ok (.goto 651, 3) := by decide +kernel
theorem dL_law_1009 : decode code 1009 = .ok (.aload_n 1, 1) := by decide +kernel
theorem dL_law_1010 : decode code 1010 = .ok (.aload_n 0, 1) := by decide +kernel
theorem dL_law_1011 : decode code 1011 = .ok (.iload 4, 2) := by decide +kernel
theorem dL_law_1013 : decode code 1013 = .ok (.iconst 1, 1) := by decide +kernel
theorem dL_law_1014 : decode code 1014 = .ok (.iadd, 1) := by decide +kernel
theorem dL_law_1015 : decode code 1015 = .ok (.iaload, 1) := by decide +kernel
theorem dL_law_1016 : decode code 1016 = .ok (.aload_n 0, 1) := by decide +kernel
theorem dL_law_1017 : decode code 1017 = .ok (.iload 4, 2) := by decide +kernel
theorem dL_law_1019 : decode code 1019 = .ok (.iconst 2, 1) := by decide +kernel
theorem dL_law_1020 : decode code 1020 = .ok (.iadd, 1) := by decide +kernel
theorem dL_law_1021 : decode code 1021 = .ok (.iaload, 1) := by decide +kernel
theorem dL_law_1022 : decode code 1022 = .ok (.invokevirtual 115, 3) := by decide +kernel
theorem dL_law_1025 : decode code 1025 = .ok (.aload_n 2, 1) := by decide +kernel
theorem dL_law_1026 : decode code 1026 = .ok (.aload_n 0, 1) := by decide +kernel
theorem dL_law_1027 : decode code 1027 = .ok (.iload 4, 2) := by decide +kernel
theorem dL_law_1029 : decode code 1029 = .ok (.iconst 1, 1) := by decide +kernel
theorem dL_law_1030 : decode code 1030 = .ok (.iadd, 1) := by decide +kernel
theorem dL_law_1031 : decode code 1031 = .ok (.iaload, 1) := by decide +kernel
theorem dL_law_1032 : decode code 1032 = .ok (.aload_n 0, 1) := by decide +kernel
theorem dL_law_1033 : decode code 1033 = .ok (.iload 4, 2) := by decide +kernel
theorem dL_law_1035 : decode code 1035 = .ok (.iconst 2, 1) := by decide +kernel
theorem dL_law_1036 : decode code 1036 = .ok (.iadd, 1) := by decide +kernel
theorem dL_law_1037 : decode code 1037 = .ok (.iaload, 1) := by decide +kernel
theorem dL_law_1038 : decode code 1038 = .ok (.invokevirtual 118, 3) := by decide +kernel
theorem dL_law_1041 : decode code 1041 = .ok (.if_icmp .eq 616, 3) := by decide +kernel
theorem dL_law_1044 : decode code 1044 = .ok (.iconst 0, 1) := by decide +kernel
theorem dL_law_1045 : decode code 1045 = .ok (.ireturn, 1) := by decide +kernel
theorem dL_law_1046 : decode code 1046 = .ok (.aload_n 1, 1) := by decide +kernel
theorem dL_law_1047 : decode code 1047 = .ok (.aload_n 0, 1) := by decide +kernel
theorem dL_law_1048 : decode code 1048 = .ok (.iload 4, 2) := by decide +kernel
theorem dL_law_1050 : decode code 1050 = .ok (.iconst 1, 1) := by decide +kernel
theorem dL_law_1051 : decode code 1051 = .ok (.iadd, 1) := by decide +kernel
theorem dL_law_1052 : decode code 1052 = .ok (.iaload, 1) := by decide +kernel
theorem dL_law_1053 : decode code 1053 = .ok (.aload_n 0, 1) := by decide +kernel
theorem dL_law_1054 : decode code 1054 = .ok (.iload 4, 2) := by decide +kernel
theorem dL_law_1056 : decode code 1056 = .ok (.iconst 2, 1) := by decide +kernel
theorem dL_law_1057 : decode code 1057 = .ok (.iadd, 1) := by decide +kernel
theorem dL_law_1058 : decode code 1058 = .ok (.iaload, 1) := by decide +kernel
theorem dL_law_1059 : decode code 1059 = .ok (.aload_n 0, 1) := by decide +kernel
theorem dL_law_1060 : decode code 1060 = .ok (.iload 4, 2) := by decide +kernel
theorem dL_law_1062 : decode code 1062 = .ok (.iconst 3, 1) := by decide +kernel
theorem dL_law_1063 : decode code 1063 = .ok (.iadd, 1) := by decide +kernel
theorem dL_law_1064 : decode code 1064 = .ok (.iaload, 1) := by decide +kernel
theorem dL_law_1065 : decode code 1065 = .ok (.aload_n 0, 1) := by decide +kernel
theorem dL_law_1066 : decode code 1066 = .ok (.iload 4, 2) := by decide +kernel
theorem dL_law_1068 : decode code 1068 = .ok (.iconst 4, 1) := by decide +kernel
theorem dL_law_1069 : decode code 1069 = .ok (.iadd, 1) := by decide +kernel
theorem dL_law_1070 : decode code 1070 = .ok (.iaload, 1) := by decide +kernel
theorem dL_law_1071 : decode code 1071 = .ok (.aload_n 3, 1) := by decide +kernel
theorem dL_law_1072 : decode code 1072 = .ok (.invokestatic 119, 3) := by decide +kernel
theorem dL_law_1075 : decode code 1075 = .ok (.istore 5, 2) := by decide +kernel
theorem dL_law_1077 : decode code 1077 = .ok (.aload_n 2, 1) := by decide +kernel
theorem dL_law_1078 : decode code 1078 = .ok (.aload_n 0, 1) := by decide +kernel
theorem dL_law_1079 : decode code 1079 = .ok (.iload 4, 2) := by decide +kernel
theorem dL_law_1081 : decode code 1081 = .ok (.iconst 1, 1) := by decide +kernel
theorem dL_law_1082 : decode code 1082 = .ok (.iadd, 1) := by decide +kernel
theorem dL_law_1083 : decode code 1083 = .ok (.iaload, 1) := by decide +kernel
theorem dL_law_1084 : decode code 1084 = .ok (.aload_n 0, 1) := by decide +kernel
theorem dL_law_1085 : decode code 1085 = .ok (.iload 4, 2) := by decide +kernel
theorem dL_law_1087 : decode code 1087 = .ok (.iconst 2, 1) := by decide +kernel
theorem dL_law_1088 : decode code 1088 = .ok (.iadd, 1) := by decide +kernel
theorem dL_law_1089 : decode code 1089 = .ok (.iaload, 1) := by decide +kernel
theorem dL_law_1090 : decode code 1090 = .ok (.aload_n 0, 1) := by decide +kernel
theorem dL_law_1091 : decode code 1091 = .ok (.iload 4, 2) := by decide +kernel
theorem dL_law_1093 : decode code 1093 = .ok (.iconst 3, 1) := by decide +kernel
theorem dL_law_1094 : decode code 1094 = .ok (.iadd, 1) := by decide +kernel
theorem dL_law_1095 : decode code 1095 = .ok (.iaload, 1) := by decide +kernel
theorem dL_law_1096 : decode code 1096 = .ok (.aload_n 0, 1) := by decide +kernel
theorem dL_law_1097 : decode code 1097 = .ok (.iload 4, 2) := by decide +kernel
theorem dL_law_1099 : decode code 1099 = .ok (.iconst 4, 1) := by decide +kernel
theorem dL_law_1100 : decode code 1100 = .ok (.iadd, 1) := by decide +kernel
theorem dL_law_1101 : decode code 1101 = .ok (.iaload, 1) := by decide +kernel
theorem dL_law_1102 : decode code 1102 = .ok (.invokevirtual 122, 3) := by decide +kernel
theorem dL_law_1105 : decode code 1105 = .ok (.lstore 6, 2) := by decide +kernel
theorem dL_law_1107 : decode code 1107 = .ok (.aload_n 2, 1) := by decide +kernel
theorem dL_law_1108 : decode code 1108 = .ok (.invokevirtual 57, 3) := by decide +kernel
theorem dL_law_1111 : decode code 1111 = .ok (.iload 5, 2) := by decide +kernel
theorem dL_law_1113 : decode code 1113 = .ok (.if_icmp .eq 5, 3) := by decide +kernel
theorem dL_law_1116 : decode code 1116 = .ok (.iconst 0, 1) := by decide +kernel
theorem dL_law_1117 : decode code 1117 = .ok (.ireturn, 1) := by decide +kernel
theorem dL_law_1118 : decode code 1118 = .ok (.iload 5, 2) := by decide +kernel
theorem dL_law_1120 : decode code 1120 = .ok (.ifCond .ne 14, 3) := by decide +kernel
theorem dL_law_1123 : decode code 1123 = .ok (.aload_n 3, 1) := by decide +kernel
theorem dL_law_1124 : decode code 1124 = .ok (.iconst 0, 1) := by decide +kernel
theorem dL_law_1125 : decode code 1125 = .ok (.laload, 1) := by decide +kernel
theorem dL_law_1126 : decode code 1126 = .ok (.lload 6, 2) := by decide +kernel
theorem dL_law_1128 : decode code 1128 = .ok (.lcmp, 1) := by decide +kernel
theorem dL_law_1129 : decode code 1129 = .ok (.ifCond .eq 5, 3) := by decide +kernel
theorem dL_law_1132 : decode code 1132 = .ok (.iconst 0, 1) := by decide +kernel
theorem dL_law_1133 : decode code 1133 = .ok (.ireturn, 1) := by decide +kernel
theorem dL_law_1134 : decode code 1134 = .ok (.goto 523, 3) := by decide +kernel
theorem dL_law_1137 : decode code 1137 = .ok (.aload_n 1, 1) := by decide +kernel
theorem dL_law_1138 : decode code 1138 = .ok (.aload_n 0, 1) := by decide +kernel
theorem dL_law_1139 : decode code 1139 = .ok (.iload 4, 2) := by decide +kernel
theorem dL_law_1141 : decode code 1141 = .ok (.iconst 1, 1) := by decide +kernel
theorem dL_law_1142 : decode code 1142 = .ok (.iadd, 1) := by decide +kernel
theorem dL_law_1143 : decode code 1143 = .ok (.iaload, 1) := by decide +kernel
theorem dL_law_1144 : decode code 1144 = .ok (.invokevirtual 123, 3) := by decide +kernel
theorem dL_law_1147 : decode code 1147 = .ok (.aload_n 2, 1) := by decide +kernel
theorem dL_law_1148 : decode code 1148 = .ok (.aload_n 0, 1) := by decide +kernel
theorem dL_law_1149 : decode code 1149 = .ok (.iload 4, 2) := by decide +kernel
theorem dL_law_1151 : decode code 1151 = .ok (.iconst 1, 1) := by decide +kernel
theorem dL_law_1152 : decode code 1152 = .ok (.iadd, 1) := by decide +kernel
theorem dL_law_1153 : decode code 1153 = .ok (.iaload, 1) := by decide +kernel
theorem dL_law_1154 : decode code 1154 = .ok (.invokevirtual 126, 3) := by decide +kernel
theorem dL_law_1157 : decode code 1157 = .ok (.if_icmp .eq 500, 3) := by decide +kernel
theorem dL_law_1160 : decode code 1160 = .ok (.iconst 0, 1) := by decide +kernel
theorem dL_law_1161 : decode code 1161 = .ok (.ireturn, 1) := by decide +kernel
theorem dL_law_1162 : decode code 1162 = .ok (.aload_n 1, 1) := by decide +kernel
theorem dL_law_1163 : decode code 1163 = .ok (.aload_n 0, 1) := by decide +kernel
theorem dL_law_1164 : decode code 1164 = .ok (.iload 4, 2) := by decide +kernel
theorem dL_law_1166 : decode code 1166 = .ok (.iconst 1, 1) := by decide +kernel
theorem dL_law_1167 : decode code 1167 = .ok (.iadd, 1) := by decide +kernel
theorem dL_law_1168 : decode code 1168 = .ok (.iaload, 1) := by decide +kernel
theorem dL_law_1169 : decode code 1169 = .ok (.invokevirtual 127, 3) := by decide +kernel
theorem dL_law_1172 : decode code 1172 = .ok (.aload_n 2, 1) := by decide +kernel
theorem dL_law_1173 : decode code 1173 = .ok (.aload_n 0, 1) := by decide +kernel
theorem dL_law_1174 : decode code 1174 = .ok (.iload 4, 2) := by decide +kernel
theorem dL_law_1176 : decode code 1176 = .ok (.iconst 1, 1) := by decide +kernel
theorem dL_law_1177 : decode code 1177 = .ok (.iadd, 1) := by decide +kernel
theorem dL_law_1178 : decode code 1178 = .ok (.iaload, 1) := by decide +kernel
theorem dL_law_1179 : decode code 1179 = .ok (.invokevirtual 130, 3) := by decide +kernel
theorem dL_law_1182 : decode code 1182 = .ok (.if_icmp .eq 475, 3) := by decide +kernel
theorem dL_law_1185 : decode code 1185 = .ok (.iconst 0, 1) := by decide +kernel
theorem dL_law_1186 : decode code 1186 = .ok (.ireturn, 1) := by decide +kernel
theorem dL_law_1187 : decode code 1187 = .ok (.aload_n 1, 1) := by decide +kernel
theorem dL_law_1188 : decode code 1188 = .ok (.aload_n 0, 1) := by decide +kernel
theorem dL_law_1189 : decode code 1189 = .ok (.iload 4, 2) := by decide +kernel
theorem dL_law_1191 : decode code 1191 = .ok (.iconst 1, 1) := by decide +kernel
theorem dL_law_1192 : decode code 1192 = .ok (.iadd, 1) := by decide +kernel
theorem dL_law_1193 : decode code 1193 = .ok (.iaload, 1) := by decide +kernel
theorem dL_law_1194 : decode code 1194 = .ok (.aload_n 0, 1) := by decide +kernel
theorem dL_law_1195 : decode code 1195 = .ok (.iload 4, 2) := by decide +kernel
theorem dL_law_1197 : decode code 1197 = .ok (.iconst 2, 1) := by decide +kernel
theorem dL_law_1198 : decode code 1198 = .ok (.iadd, 1) := by decide +kernel
theorem dL_law_1199 : decode code 1199 = .ok (.iaload, 1) := by decide +kernel
theorem dL_law_1200 : decode code 1200 = .ok (.aload_n 0, 1) := by decide +kernel
theorem dL_law_1201 : decode code 1201 = .ok (.iload 4, 2) := by decide +kernel
theorem dL_law_1203 : decode code 1203 = .ok (.iconst 3, 1) := by decide +kernel
theorem dL_law_1204 : decode code 1204 = .ok (.iadd, 1) := by decide +kernel
theorem dL_law_1205 : decode code 1205 = .ok (.iaload, 1) := by decide +kernel
theorem dL_law_1206 : decode code 1206 = .ok (.aload_n 3, 1) := by decide +kernel
theorem dL_law_1207 : decode code 1207 = .ok (.invokestatic 131, 3) := by decide +kernel
theorem dL_law_1210 : decode code 1210 = .ok (.istore 5, 2) := by decide +kernel
theorem dL_law_1212 : decode code 1212 = .ok (.aload_n 2, 1) := by decide +kernel
theorem dL_law_1213 : decode code 1213 = .ok (.aload_n 0, 1) := by decide +kernel
theorem dL_law_1214 : decode code 1214 = .ok (.iload 4, 2) := by decide +kernel
theorem dL_law_1216 : decode code 1216 = .ok (.iconst 1, 1) := by decide +kernel
theorem dL_law_1217 : decode code 1217 = .ok (.iadd, 1) := by decide +kernel
theorem dL_law_1218 : decode code 1218 = .ok (.iaload, 1) := by decide +kernel
theorem dL_law_1219 : decode code 1219 = .ok (.aload_n 0, 1) := by decide +kernel
theorem dL_law_1220 : decode code 1220 = .ok (.iload 4, 2) := by decide +kernel
theorem dL_law_1222 : decode code 1222 = .ok (.iconst 2, 1) := by decide +kernel
theorem dL_law_1223 : decode code 1223 = .ok (.iadd, 1) := by decide +kernel
theorem dL_law_1224 : decode code 1224 = .ok (.iaload, 1) := by decide +kernel
theorem dL_law_1225 : decode code 1225 = .ok (.aload_n 0, 1) := by decide +kernel
theorem dL_law_1226 : decode code 1226 = .ok (.iload 4, 2) := by decide +kernel
theorem dL_law_1228 : decode code 1228 = .ok (.iconst 3, 1) := by decide +kernel
theorem dL_law_1229 : decode code 1229 = .ok (.iadd, 1) := by decide +kernel
theorem dL_law_1230 : decode code 1230 = .ok (.iaload, 1) := by decide +kernel
theorem dL_law_1231 : decode code 1231 = .ok (.invokevirtual 134, 3) := by decide +kernel
theorem dL_law_1234 : decode code 1234 = .ok (.istore 6, 2) := by decide +kernel
theorem dL_law_1236 : decode code 1236 = .ok (.aload_n 2, 1) := by decide +kernel
theorem dL_law_1237 : decode code 1237 = .ok (.invokevirtual 57, 3) := by decide +kernel
theorem dL_law_1240 : decode code 1240 = .ok (.iload 5, 2) := by decide +kernel
theorem dL_law_1242 : decode code 1242 = .ok (.if_icmp .eq 5, 3) := by decide +kernel
theorem dL_law_1245 : decode code 1245 = .ok (.iconst 0, 1) := by decide +kernel
theorem dL_law_1246 : decode code 1246 = .ok (.ireturn, 1) := by decide +kernel
theorem dL_law_1247 : decode code 1247 = .ok (.iload 5, 2) := by decide +kernel
theorem dL_law_1249 : decode code 1249 = .ok (.ifCond .ne 15, 3) := by decide +kernel
theorem dL_law_1252 : decode code 1252 = .ok (.aload_n 3, 1) := by decide +kernel
theorem dL_law_1253 : decode code 1253 = .ok (.iconst 0, 1) := by decide +kernel
theorem dL_law_1254 : decode code 1254 = .ok (.laload, 1) := by decide +kernel
theorem dL_law_1255 : decode code 1255 = .ok (.iload 6, 2) := by decide +kernel
theorem dL_law_1257 : decode code 1257 = .ok (.i2l, 1) := by decide +kernel
theorem dL_law_1258 : decode code 1258 = .ok (.lcmp, 1) := by decide +kernel
theorem dL_law_1259 : decode code 1259 = .ok (.ifCond .eq 5, 3) := by decide +kernel
theorem dL_law_1262 : decode code 1262 = .ok (.iconst 0, 1) := by decide +kernel
theorem dL_law_1263 : decode code 1263 = .ok (.ireturn, 1) := by decide +kernel
theorem dL_law_1264 : decode code 1264 = .ok (.goto 393, 3) := by decide +kernel
theorem dL_law_1267 : decode code 1267 = .ok (.aload_n 1, 1) := by decide +kernel
theorem dL_law_1268 : decode code 1268 = .ok (.aload_n 0, 1) := by decide +kernel
theorem dL_law_1269 : decode code 1269 = .ok (.iload 4, 2) := by decide +kernel
theorem dL_law_1271 : decode code 1271 = .ok (.iconst 1, 1) := by decide +kernel
theorem dL_law_1272 : decode code 1272 = .ok (.iadd, 1) := by decide +kernel
theorem dL_law_1273 : decode code 1273 = .ok (.iaload, 1) := by decide +kernel
theorem dL_law_1274 : decode code 1274 = .ok (.aload_n 0, 1) := by decide +kernel
theorem dL_law_1275 : decode code 1275 = .ok (.iload 4, 2) := by decide +kernel
theorem dL_law_1277 : decode code 1277 = .ok (.iconst 2, 1) := by decide +kernel
theorem dL_law_1278 : decode code 1278 = .ok (.iadd, 1) := by decide +kernel
theorem dL_law_1279 : decode code 1279 = .ok (.iaload, 1) := by decide +kernel
theorem dL_law_1280 : decode code 1280 = .ok (.invokevirtual 135, 3) := by decide +kernel
theorem dL_law_1283 : decode code 1283 = .ok (.aload_n 2, 1) := by decide +kernel
theorem dL_law_1284 : decode code 1284 = .ok (.aload_n 0, 1) := by decide +kernel
theorem dL_law_1285 : decode code 1285 = .ok (.iload 4, 2) := by decide +kernel
theorem dL_law_1287 : decode code 1287 = .ok (.iconst 1, 1) := by decide +kernel
theorem dL_law_1288 : decode code 1288 = .ok (.iadd, 1) := by decide +kernel
theorem dL_law_1289 : decode code 1289 = .ok (.iaload, 1) := by decide +kernel
theorem dL_law_1290 : decode code 1290 = .ok (.aload_n 0, 1) := by decide +kernel
theorem dL_law_1291 : decode code 1291 = .ok (.iload 4, 2) := by decide +kernel
theorem dL_law_1293 : decode code 1293 = .ok (.iconst 2, 1) := by decide +kernel
theorem dL_law_1294 : decode code 1294 = .ok (.iadd, 1) := by decide +kernel
theorem dL_law_1295 : decode code 1295 = .ok (.iaload, 1) := by decide +kernel
theorem dL_law_1296 : decode code 1296 = .ok (.invokevirtual 138, 3) := by decide +kernel
theorem dL_law_1299 : decode code 1299 = .ok (.if_icmp .eq 358, 3) := by decide +kernel
theorem dL_law_1302 : decode code 1302 = .ok (.iconst 0, 1) := by decide +kernel
theorem dL_law_1303 : decode code 1303 = .ok (.ireturn, 1) := by decide +kernel
theorem dL_law_1304 : decode code 1304 = .ok (.aload_n 1, 1) := by decide +kernel
theorem dL_law_1305 : decode code 1305 = .ok (.aload_n 0, 1) := by decide +kernel
theorem dL_law_1306 : decode code 1306 = .ok (.iload 4, 2) := by decide +kernel
theorem dL_law_1308 : decode code 1308 = .ok (.iconst 1, 1) := by decide +kernel
theorem dL_law_1309 : decode code 1309 = .ok (.iadd, 1) := by decide +kernel
theorem dL_law_1310 : decode code 1310 = .ok (.iaload, 1) := by decide +kernel
theorem dL_law_1311 : decode code 1311 = .ok (.invokevirtual 139, 3) := by decide +kernel
theorem dL_law_1314 : decode code 1314 = .ok (.aload_n 2, 1) := by decide +kernel
theorem dL_law_1315 : decode code 1315 = .ok (.aload_n 0, 1) := by decide +kernel
theorem dL_law_1316 : decode code 1316 = .ok (.iload 4, 2) := by decide +kernel
theorem dL_law_1318 : decode code 1318 = .ok (.iconst 1, 1) := by decide +kernel
theorem dL_law_1319 : decode code 1319 = .ok (.iadd, 1) := by decide +kernel
theorem dL_law_1320 : decode code 1320 = .ok (.iaload, 1) := by decide +kernel
theorem dL_law_1321 : decode code 1321 = .ok (.invokevirtual 142, 3) := by decide +kernel
theorem dL_law_1324 : decode code 1324 = .ok (.if_icmp .eq 333, 3) := by decide +kernel
theorem dL_law_1327 : decode code 1327 = .ok (.iconst 0, 1) := by decide +kernel
theorem dL_law_1328 : decode code 1328 = .ok (.ireturn, 1) := by decide +kernel
theorem dL_law_1329 : decode code 1329 = .ok (.aload_n 1, 1) := by decide +kernel
theorem dL_law_1330 : decode code 1330 = .ok (.aload_n 0, 1) := by decide +kernel
theorem dL_law_1331 : decode code 1331 = .ok (.iload 4, 2) := by decide +kernel
theorem dL_law_1333 : decode code 1333 = .ok (.iconst 1, 1) := by decide +kernel
theorem dL_law_1334 : decode code 1334 = .ok (.iadd, 1) := by decide +kernel
theorem dL_law_1335 : decode code 1335 = .ok (.iaload, 1) := by decide +kernel
theorem dL_law_1336 : decode code 1336 = .ok (.invokevirtual 143, 3) := by decide +kernel
theorem dL_law_1339 : decode code 1339 = .ok (.aload_n 2, 1) := by decide +kernel
theorem dL_law_1340 : decode code 1340 = .ok (.aload_n 0, 1) := by decide +kernel
theorem dL_law_1341 : decode code 1341 = .ok (.iload 4, 2) := by decide +kernel
theorem dL_law_1343 : decode code 1343 = .ok (.iconst 1, 1) := by decide +kernel
theorem dL_law_1344 : decode code 1344 = .ok (.iadd, 1) := by decide +kernel
theorem dL_law_1345 : decode code 1345 = .ok (.iaload, 1) := by decide +kernel
theorem dL_law_1346 : decode code 1346 = .ok (.invokevirtual 147, 3) := by decide +kernel
theorem dL_law_1349 : decode code 1349 = .ok (.if_icmp .eq 308, 3) := by decide +kernel
theorem dL_law_1352 : decode code 1352 = .ok (.iconst 0, 1) := by decide +kernel
theorem dL_law_1353 : decode code 1353 = .ok (.ireturn, 1) := by decide +kernel
theorem dL_law_1354 : decode code 1354 = .ok (.aload_n 1, 1) := by decide +kernel
theorem dL_law_1355 : decode code 1355 = .ok (.aload_n 0, 1) := by decide +kernel
theorem dL_law_1356 : decode code 1356 = .ok (.iload 4, 2) := by decide +kernel
theorem dL_law_1358 : decode code 1358 = .ok (.iconst 1, 1) := by decide +kernel
theorem dL_law_1359 : decode code 1359 = .ok (.iadd, 1) := by decide +kernel
theorem dL_law_1360 : decode code 1360 = .ok (.iaload, 1) := by decide +kernel
theorem dL_law_1361 : decode code 1361 = .ok (.aload_n 0, 1) := by decide +kernel
theorem dL_law_1362 : decode code 1362 = .ok (.iload 4, 2) := by decide +kernel
theorem dL_law_1364 : decode code 1364 = .ok (.iconst 2, 1) := by decide +kernel
theorem dL_law_1365 : decode code 1365 = .ok (.iadd, 1) := by decide +kernel
theorem dL_law_1366 : decode code 1366 = .ok (.iaload, 1) := by decide +kernel
theorem dL_law_1367 : decode code 1367 = .ok (.aload_n 0, 1) := by decide +kernel
theorem dL_law_1368 : decode code 1368 = .ok (.iload 4, 2) := by decide +kernel
theorem dL_law_1370 : decode code 1370 = .ok (.iconst 3, 1) := by decide +kernel
theorem dL_law_1371 : decode code 1371 = .ok (.iadd, 1) := by decide +kernel
theorem dL_law_1372 : decode code 1372 = .ok (.iaload, 1) := by decide +kernel
theorem dL_law_1373 : decode code 1373 = .ok (.aload_n 0, 1) := by decide +kernel
theorem dL_law_1374 : decode code 1374 = .ok (.iload 4, 2) := by decide +kernel
theorem dL_law_1376 : decode code 1376 = .ok (.iconst 4, 1) := by decide +kernel
theorem dL_law_1377 : decode code 1377 = .ok (.iadd, 1) := by decide +kernel
theorem dL_law_1378 : decode code 1378 = .ok (.iaload, 1) := by decide +kernel
theorem dL_law_1379 : decode code 1379 = .ok (.aload_n 3, 1) := by decide +kernel
theorem dL_law_1380 : decode code 1380 = .ok (.invokestatic 148, 3) := by decide +kernel
theorem dL_law_1383 : decode code 1383 = .ok (.istore 5, 2) := by decide +kernel
theorem dL_law_1385 : decode code 1385 = .ok (.aload_n 2, 1) := by decide +kernel
theorem dL_law_1386 : decode code 1386 = .ok (.aload_n 0, 1) := by decide +kernel
theorem dL_law_1387 : decode code 1387 = .ok (.iload 4, 2) := by decide +kernel
theorem dL_law_1389 : decode code 1389 = .ok (.iconst 1, 1) := by decide +kernel
theorem dL_law_1390 : decode code 1390 = .ok (.iadd, 1) := by decide +kernel
theorem dL_law_1391 : decode code 1391 = .ok (.iaload, 1) := by decide +kernel
theorem dL_law_1392 : decode code 1392 = .ok (.aload_n 0, 1) := by decide +kernel
theorem dL_law_1393 : decode code 1393 = .ok (.iload 4, 2) := by decide +kernel
theorem dL_law_1395 : decode code 1395 = .ok (.iconst 2, 1) := by decide +kernel
theorem dL_law_1396 : decode code 1396 = .ok (.iadd, 1) := by decide +kernel
theorem dL_law_1397 : decode code 1397 = .ok (.iaload, 1) := by decide +kernel
theorem dL_law_1398 : decode code 1398 = .ok (.aload_n 0, 1) := by decide +kernel
theorem dL_law_1399 : decode code 1399 = .ok (.iload 4, 2) := by decide +kernel
theorem dL_law_1401 : decode code 1401 = .ok (.iconst 3, 1) := by decide +kernel
theorem dL_law_1402 : decode code 1402 = .ok (.iadd, 1) := by decide +kernel
theorem dL_law_1403 : decode code 1403 = .ok (.iaload, 1) := by decide +kernel
theorem dL_law_1404 : decode code 1404 = .ok (.aload_n 0, 1) := by decide +kernel
theorem dL_law_1405 : decode code 1405 = .ok (.iload 4, 2) := by decide +kernel
theorem dL_law_1407 : decode code 1407 = .ok (.iconst 4, 1) := by decide +kernel
theorem dL_law_1408 : decode code 1408 = .ok (.iadd, 1) := by decide +kernel
theorem dL_law_1409 : decode code 1409 = .ok (.iaload, 1) := by decide +kernel
theorem dL_law_1410 : decode code 1410 = .ok (.invokevirtual 150, 3) := by decide +kernel
theorem dL_law_1413 : decode code 1413 = .ok (.istore 6, 2) := by decide +kernel
theorem dL_law_1415 : decode code 1415 = .ok (.aload_n 2, 1) := by decide +kernel
theorem dL_law_1416 : decode code 1416 = .ok (.invokevirtual 57, 3) := by decide +kernel
theorem dL_law_1419 : decode code 1419 = .ok (.iload 5, 2) := by decide +kernel
theorem dL_law_1421 : decode code 1421 = .ok (.if_icmp .eq 5, 3) := by decide +kernel
theorem dL_law_1424 : decode code 1424 = .ok (.iconst 0, 1) := by decide +kernel
theorem dL_law_1425 : decode code 1425 = .ok (.ireturn, 1) := by decide +kernel
theorem dL_law_1426 : decode code 1426 = .ok (.iload 5, 2) := by decide +kernel
theorem dL_law_1428 : decode code 1428 = .ok (.ifCond .ne 15, 3) := by decide +kernel
theorem dL_law_1431 : decode code 1431 = .ok (.aload_n 3, 1) := by decide +kernel
theorem dL_law_1432 : decode code 1432 = .ok (.iconst 0, 1) := by decide +kernel
theorem dL_law_1433 : decode code 1433 = .ok (.laload, 1) := by decide +kernel
theorem dL_law_1434 : decode code 1434 = .ok (.iload 6, 2) := by decide +kernel
theorem dL_law_1436 : decode code 1436 = .ok (.i2l, 1) := by decide +kernel
theorem dL_law_1437 : decode code 1437 = .ok (.lcmp, 1) := by decide +kernel
theorem dL_law_1438 : decode code 1438 = .ok (.ifCond .eq 5, 3) := by decide +kernel
theorem dL_law_1441 : decode code 1441 = .ok (.iconst 0, 1) := by decide +kernel
theorem dL_law_1442 : decode code 1442 = .ok (.ireturn, 1) := by decide +kernel
theorem dL_law_1443 : decode code 1443 = .ok (.goto 214, 3) := by decide +kernel
theorem dL_law_1446 : decode code 1446 = .ok (.aload_n 1, 1) := by decide +kernel
theorem dL_law_1447 : decode code 1447 = .ok (.aload_n 0, 1) := by decide +kernel
theorem dL_law_1448 : decode code 1448 = .ok (.iload 4, 2) := by decide +kernel
theorem dL_law_1450 : decode code 1450 = .ok (.iconst 1, 1) := by decide +kernel
theorem dL_law_1451 : decode code 1451 = .ok (.iadd, 1) := by decide +kernel
theorem dL_law_1452 : decode code 1452 = .ok (.iaload, 1) := by decide +kernel
theorem dL_law_1453 : decode code 1453 = .ok (.invokevirtual 151, 3) := by decide +kernel
theorem dL_law_1456 : decode code 1456 = .ok (.aload_n 2, 1) := by decide +kernel
theorem dL_law_1457 : decode code 1457 = .ok (.aload_n 0, 1) := by decide +kernel
theorem dL_law_1458 : decode code 1458 = .ok (.iload 4, 2) := by decide +kernel
theorem dL_law_1460 : decode code 1460 = .ok (.iconst 1, 1) := by decide +kernel
theorem dL_law_1461 : decode code 1461 = .ok (.iadd, 1) := by decide +kernel
theorem dL_law_1462 : decode code 1462 = .ok (.iaload, 1) := by decide +kernel
theorem dL_law_1463 : decode code 1463 = .ok (.invokevirtual 154, 3) := by decide +kernel
theorem dL_law_1466 : decode code 1466 = .ok (.if_icmp .eq 191, 3) := by decide +kernel
theorem dL_law_1469 : decode code 1469 = .ok (.iconst 0, 1) := by decide +kernel
theorem dL_law_1470 : decode code 1470 = .ok (.ireturn, 1) := by decide +kernel
theorem dL_law_1471 : decode code 1471 = .ok (.aload_n 1, 1) := by decide +kernel
theorem dL_law_1472 : decode code 1472 = .ok (.aload_n 0, 1) := by decide +kernel
theorem dL_law_1473 : decode code 1473 = .ok (.iload 4, 2) := by decide +kernel
theorem dL_law_1475 : decode code 1475 = .ok (.iconst 1, 1) := by decide +kernel
theorem dL_law_1476 : decode code 1476 = .ok (.iadd, 1) := by decide +kernel
theorem dL_law_1477 : decode code 1477 = .ok (.iaload, 1) := by decide +kernel
theorem dL_law_1478 : decode code 1478 = .ok (.aload_n 0, 1) := by decide +kernel
theorem dL_law_1479 : decode code 1479 = .ok (.iload 4, 2) := by decide +kernel
theorem dL_law_1481 : decode code 1481 = .ok (.iconst 2, 1) := by decide +kernel
theorem dL_law_1482 : decode code 1482 = .ok (.iadd, 1) := by decide +kernel
theorem dL_law_1483 : decode code 1483 = .ok (.iaload, 1) := by decide +kernel
theorem dL_law_1484 : decode code 1484 = .ok (.invokevirtual 155, 3) := by decide +kernel
theorem dL_law_1487 : decode code 1487 = .ok (.aload_n 2, 1) := by decide +kernel
theorem dL_law_1488 : decode code 1488 = .ok (.aload_n 0, 1) := by decide +kernel
theorem dL_law_1489 : decode code 1489 = .ok (.iload 4, 2) := by decide +kernel
theorem dL_law_1491 : decode code 1491 = .ok (.iconst 1, 1) := by decide +kernel
theorem dL_law_1492 : decode code 1492 = .ok (.iadd, 1) := by decide +kernel
theorem dL_law_1493 : decode code 1493 = .ok (.iaload, 1) := by decide +kernel
theorem dL_law_1494 : decode code 1494 = .ok (.aload_n 0, 1) := by decide +kernel
theorem dL_law_1495 : decode code 1495 = .ok (.iload 4, 2) := by decide +kernel
theorem dL_law_1497 : decode code 1497 = .ok (.iconst 2, 1) := by decide +kernel
theorem dL_law_1498 : decode code 1498 = .ok (.iadd, 1) := by decide +kernel
theorem dL_law_1499 : decode code 1499 = .ok (.iaload, 1) := by decide +kernel
theorem dL_law_1500 : decode code 1500 = .ok (.invokevirtual 158, 3) := by decide +kernel
theorem dL_law_1503 : decode code 1503 = .ok (.lcmp, 1) := by decide +kernel
theorem dL_law_1504 : decode code 1504 = .ok (.ifCond .eq 153, 3) := by decide +kernel
theorem dL_law_1507 : decode code 1507 = .ok (.iconst 0, 1) := by decide +kernel
theorem dL_law_1508 : decode code 1508 = .ok (.ireturn, 1) := by decide +kernel
theorem dL_law_1509 : decode code 1509 = .ok (.aload_n 1, 1) := by decide +kernel
theorem dL_law_1510 : decode code 1510 = .ok (.aload_n 0, 1) := by decide +kernel
theorem dL_law_1511 : decode code 1511 = .ok (.iload 4, 2) := by decide +kernel
theorem dL_law_1513 : decode code 1513 = .ok (.iconst 1, 1) := by decide +kernel
theorem dL_law_1514 : decode code 1514 = .ok (.iadd, 1) := by decide +kernel
theorem dL_law_1515 : decode code 1515 = .ok (.iaload, 1) := by decide +kernel
theorem dL_law_1516 : decode code 1516 = .ok (.aload_n 0, 1) := by decide +kernel
theorem dL_law_1517 : decode code 1517 = .ok (.iload 4, 2) := by decide +kernel
theorem dL_law_1519 : decode code 1519 = .ok (.iconst 2, 1) := by decide +kernel
theorem dL_law_1520 : decode code 1520 = .ok (.iadd, 1) := by decide +kernel
theorem dL_law_1521 : decode code 1521 = .ok (.iaload, 1) := by decide +kernel
theorem dL_law_1522 : decode code 1522 = .ok (.aload_n 0, 1) := by decide +kernel
theorem dL_law_1523 : decode code 1523 = .ok (.iload 4, 2) := by decide +kernel
theorem dL_law_1525 : decode code 1525 = .ok (.iconst 3, 1) := by decide +kernel
theorem dL_law_1526 : decode code 1526 = .ok (.iadd, 1) := by decide +kernel
theorem dL_law_1527 : decode code 1527 = .ok (.iaload, 1) := by decide +kernel
theorem dL_law_1528 : decode code 1528 = .ok (.invokevirtual 159, 3) := by decide +kernel
theorem dL_law_1531 : decode code 1531 = .ok (.aload_n 2, 1) := by decide +kernel
theorem dL_law_1532 : decode code 1532 = .ok (.aload_n 0, 1) := by decide +kernel
theorem dL_law_1533 : decode code 1533 = .ok (.iload 4, 2) := by decide +kernel
theorem dL_law_1535 : decode code 1535 = .ok (.iconst 1, 1) := by decide +kernel
theorem dL_law_1536 : decode code 1536 = .ok (.iadd, 1) := by decide +kernel
theorem dL_law_1537 : decode code 1537 = .ok (.iaload, 1) := by decide +kernel
theorem dL_law_1538 : decode code 1538 = .ok (.aload_n 0, 1) := by decide +kernel
theorem dL_law_1539 : decode code 1539 = .ok (.iload 4, 2) := by decide +kernel
theorem dL_law_1541 : decode code 1541 = .ok (.iconst 2, 1) := by decide +kernel
theorem dL_law_1542 : decode code 1542 = .ok (.iadd, 1) := by decide +kernel
theorem dL_law_1543 : decode code 1543 = .ok (.iaload, 1) := by decide +kernel
theorem dL_law_1544 : decode code 1544 = .ok (.aload_n 0, 1) := by decide +kernel
theorem dL_law_1545 : decode code 1545 = .ok (.iload 4, 2) := by decide +kernel
theorem dL_law_1547 : decode code 1547 = .ok (.iconst 3, 1) := by decide +kernel
theorem dL_law_1548 : decode code 1548 = .ok (.iadd, 1) := by decide +kernel
theorem dL_law_1549 : decode code 1549 = .ok (.iaload, 1) := by decide +kernel
theorem dL_law_1550 : decode code 1550 = .ok (.invokevirtual 162, 3) := by decide +kernel
theorem dL_law_1553 : decode code 1553 = .ok (.if_icmp .eq 104, 3) := by decide +kernel
theorem dL_law_1556 : decode code 1556 = .ok (.iconst 0, 1) := by decide +kernel
theorem dL_law_1557 : decode code 1557 = .ok (.ireturn, 1) := by decide +kernel
theorem dL_law_1558 : decode code 1558 = .ok (.aload_n 1, 1) := by decide +kernel
theorem dL_law_1559 : decode code 1559 = .ok (.aload_n 0, 1) := by decide +kernel
theorem dL_law_1560 : decode code 1560 = .ok (.iload 4, 2) := by decide +kernel
theorem dL_law_1562 : decode code 1562 = .ok (.iconst 1, 1) := by decide +kernel
theorem dL_law_1563 : decode code 1563 = .ok (.iadd, 1) := by decide +kernel
theorem dL_law_1564 : decode code 1564 = .ok (.iaload, 1) := by decide +kernel
theorem dL_law_1565 : decode code 1565 = .ok (.aload_n 0, 1) := by decide +kernel
theorem dL_law_1566 : decode code 1566 = .ok (.iload 4, 2) := by decide +kernel
theorem dL_law_1568 : decode code 1568 = .ok (.iconst 2, 1) := by decide +kernel
theorem dL_law_1569 : decode code 1569 = .ok (.iadd, 1) := by decide +kernel
theorem dL_law_1570 : decode code 1570 = .ok (.iaload, 1) := by decide +kernel
theorem dL_law_1571 : decode code 1571 = .ok (.invokevirtual 163, 3) := by decide +kernel
theorem dL_law_1574 : decode code 1574 = .ok (.aload_n 2, 1) := by decide +kernel
theorem dL_law_1575 : decode code 1575 = .ok (.aload_n 0, 1) := by decide +kernel
theorem dL_law_1576 : decode code 1576 = .ok (.iload 4, 2) := by decide +kernel
theorem dL_law_1578 : decode code 1578 = .ok (.iconst 1, 1) := by decide +kernel
theorem dL_law_1579 : decode code 1579 = .ok (.iadd, 1) := by decide +kernel
theorem dL_law_1580 : decode code 1580 = .ok (.iaload, 1) := by decide +kernel
theorem dL_law_1581 : decode code 1581 = .ok (.aload_n 0, 1) := by decide +kernel
theorem dL_law_1582 : decode code 1582 = .ok (.iload 4, 2) := by decide +kernel
theorem dL_law_1584 : decode code 1584 = .ok (.iconst 2, 1) := by decide +kernel
theorem dL_law_1585 : decode code 1585 = .ok (.iadd, 1) := by decide +kernel
theorem dL_law_1586 : decode code 1586 = .ok (.iaload, 1) := by decide +kernel
theorem dL_law_1587 : decode code 1587 = .ok (.invokevirtual 166, 3) := by decide +kernel
theorem dL_law_1590 : decode code 1590 = .ok (.if_icmp .eq 67, 3) := by decide +kernel
theorem dL_law_1593 : decode code 1593 = .ok (.iconst 0, 1) := by decide +kernel
theorem dL_law_1594 : decode code 1594 = .ok (.ireturn, 1) := by decide +kernel
theorem dL_law_1595 : decode code 1595 = .ok (.aload_n 1, 1) := by decide +kernel
theorem dL_law_1596 : decode code 1596 = .ok (.aload_n 0, 1) := by decide +kernel
theorem dL_law_1597 : decode code 1597 = .ok (.iload 4, 2) := by decide +kernel
theorem dL_law_1599 : decode code 1599 = .ok (.iconst 1, 1) := by decide +kernel
theorem dL_law_1600 : decode code 1600 = .ok (.iadd, 1) := by decide +kernel
theorem dL_law_1601 : decode code 1601 = .ok (.iaload, 1) := by decide +kernel
theorem dL_law_1602 : decode code 1602 = .ok (.aload_n 0, 1) := by decide +kernel
theorem dL_law_1603 : decode code 1603 = .ok (.iload 4, 2) := by decide +kernel
theorem dL_law_1605 : decode code 1605 = .ok (.iconst 2, 1) := by decide +kernel
theorem dL_law_1606 : decode code 1606 = .ok (.iadd, 1) := by decide +kernel
theorem dL_law_1607 : decode code 1607 = .ok (.iaload, 1) := by decide +kernel
theorem dL_law_1608 : decode code 1608 = .ok (.invokevirtual 167, 3) := by decide +kernel
theorem dL_law_1611 : decode code 1611 = .ok (.aload_n 2, 1) := by decide +kernel
theorem dL_law_1612 : decode code 1612 = .ok (.aload_n 0, 1) := by decide +kernel
theorem dL_law_1613 : decode code 1613 = .ok (.iload 4, 2) := by decide +kernel
theorem dL_law_1615 : decode code 1615 = .ok (.iconst 1, 1) := by decide +kernel
theorem dL_law_1616 : decode code 1616 = .ok (.iadd, 1) := by decide +kernel
theorem dL_law_1617 : decode code 1617 = .ok (.iaload, 1) := by decide +kernel
theorem dL_law_1618 : decode code 1618 = .ok (.aload_n 0, 1) := by decide +kernel
theorem dL_law_1619 : decode code 1619 = .ok (.iload 4, 2) := by decide +kernel
theorem dL_law_1621 : decode code 1621 = .ok (.iconst 2, 1) := by decide +kernel
theorem dL_law_1622 : decode code 1622 = .ok (.iadd, 1) := by decide +kernel
theorem dL_law_1623 : decode code 1623 = .ok (.iaload, 1) := by decide +kernel
theorem dL_law_1624 : decode code 1624 = .ok (.invokevirtual 170, 3) := by decide +kernel
theorem dL_law_1627 : decode code 1627 = .ok (.if_icmp .eq 30, 3) := by decide +kernel
theorem dL_law_1630 : decode code 1630 = .ok (.iconst 0, 1) := by decide +kernel
theorem dL_law_1631 : decode code 1631 = .ok (.ireturn, 1) := by decide +kernel
theorem dL_law_1632 : decode code 1632 = .ok (.aload_n 1, 1) := by decide +kernel
theorem dL_law_1633 : decode code 1633 = .ok (.aload_n 0, 1) := by decide +kernel
theorem dL_law_1634 : decode code 1634 = .ok (.iload 4, 2) := by decide +kernel
theorem dL_law_1636 : decode code 1636 = .ok (.iconst 1, 1) := by decide +kernel
theorem dL_law_1637 : decode code 1637 = .ok (.iadd, 1) := by decide +kernel
theorem dL_law_1638 : decode code 1638 = .ok (.iaload, 1) := by decide +kernel
theorem dL_law_1639 : decode code 1639 = .ok (.invokevirtual 171, 3) := by decide +kernel
theorem dL_law_1642 : decode code 1642 = .ok (.aload_n 2, 1) := by decide +kernel
theorem dL_law_1643 : decode code 1643 = .ok (.aload_n 0, 1) := by decide +kernel
theorem dL_law_1644 : decode code 1644 = .ok (.iload 4, 2) := by decide +kernel
theorem dL_law_1646 : decode code 1646 = .ok (.iconst 1, 1) := by decide +kernel
theorem dL_law_1647 : decode code 1647 = .ok (.iadd, 1) := by decide +kernel
theorem dL_law_1648 : decode code 1648 = .ok (.iaload, 1) := by decide +kernel
theorem dL_law_1649 : decode code 1649 = .ok (.invokevirtual 174, 3) := by decide +kernel
theorem dL_law_1652 : decode code 1652 = .ok (.if_icmp .eq 5, 3) := by decide +kernel
theorem dL_law_1655 : decode code 1655 = .ok (.iconst 0, 1) := by decide +kernel
theorem dL_law_1656 : decode code 1656 = .ok (.ireturn, 1) := by decide +kernel
theorem dL_law_1657 : decode code 1657 = .ok (.iinc 4 7, 3) := by decide +kernel
theorem dL_law_1660 : decode code 1660 = .ok (.goto (-1637), 3) := by decide +kernel
theorem dL_law_1663 : decode code 1663 = .ok (.iconst 1, 1) := by decide +kernel
theorem dL_law_1664 : decode code 1664 = .ok (.ireturn, 1) := by decide +kernel
def mL_law_B1663 (xs : Nat → Int32) (L : Nat) (σ : mSt) : Option (Int × mSt) := some (1, σ)
def mL_law_B1632 (xs : Nat → Int32) (L : Nat) (v1 : Nat) (v2 : Nat) (v3 : Nat) (c23 : Int → mSt → Option (Int × mSt)) (x1663 : mSt → Option (Int × mSt)) (v4 : Int) (σ : mSt) : Option (Int × mSt) := mG (0 ≤ wI (v4 + 1) ∧ wI (v4 + 1) < (L : Int)) <| mCall (mX11_count v1 ((xs (wI (v4 + 1)).toNat).toInt) σ) fun b2 s3 => mCall (mX12_count v2 ((xs (wI (v4 + 1)).toNat).toInt) s3) fun b5 s6 => if wI b2 = wI b5 then (bnd (v4 + 7) fun a9 => c23 a9 s6) else some (0, s6)
def mL_law_B1595 (xs : Nat → Int32) (L : Nat) (v1 : Nat) (v2 : Nat) (v3 : Nat) (c23 : Int → mSt → Option (Int × mSt)) (x1663 : mSt → Option (Int × mSt)) (v4 : Int) (σ : mSt) : Option (Int × mSt) := mG (0 ≤ wI (v4 + 1) ∧ wI (v4 + 1) < (L : Int)) <| mG (0 ≤ wI (v4 + 2) ∧ wI (v4 + 2) < (L : Int)) <| mCall (mX11_many v1 ((xs (wI (v4 + 1)).toNat).toInt) ((xs (wI (v4 + 2)).toNat).toInt) σ) fun b13 s14 => mCall (mX12_many v2 ((xs (wI (v4 + 1)).toNat).toInt) ((xs (wI (v4 + 2)).toNat).toInt) s14) fun b16 s17 => if wI b13 = wI b16 then (bnd (v4 + 7) fun a20 => c23 a20 s17) else some (0, s17)
def mL_law_B1558 (xs : Nat → Int32) (L : Nat) (v1 : Nat) (v2 : Nat) (v3 : Nat) (c23 : Int → mSt → Option (Int × mSt)) (x1663 : mSt → Option (Int × mSt)) (v4 : Int) (σ : mSt) : Option (Int × mSt) := mG (0 ≤ wI (v4 + 1) ∧ wI (v4 + 1) < (L : Int)) <| mG (0 ≤ wI (v4 + 2) ∧ wI (v4 + 2) < (L : Int)) <| mCall (mX11_isTwoSided v1 ((xs (wI (v4 + 1)).toNat).toInt) ((xs (wI (v4 + 2)).toNat).toInt) σ) fun b24 s25 => mCall (mX12_isTwoSided v2 ((xs (wI (v4 + 1)).toNat).toInt) ((xs (wI (v4 + 2)).toNat).toInt) s25) fun b27 s28 => if wI b24 = wI b27 then (bnd (v4 + 7) fun a31 => c23 a31 s28) else some (0, s28)
def mL_law_B1509 (xs : Nat → Int32) (L : Nat) (v1 : Nat) (v2 : Nat) (v3 : Nat) (c23 : Int → mSt → Option (Int × mSt)) (x1663 : mSt → Option (Int × mSt)) (v4 : Int) (σ : mSt) : Option (Int × mSt) := mG (0 ≤ wI (v4 + 1) ∧ wI (v4 + 1) < (L : Int)) <| mG (0 ≤ wI (v4 + 2) ∧ wI (v4 + 2) < (L : Int)) <| mG (0 ≤ wI (v4 + 3) ∧ wI (v4 + 3) < (L : Int)) <| mCall (mX11_isInIdeal v1 ((xs (wI (v4 + 1)).toNat).toInt) ((xs (wI (v4 + 2)).toNat).toInt) ((xs (wI (v4 + 3)).toNat).toInt) σ) fun b36 s37 => mCall (mX12_isInIdeal v2 ((xs (wI (v4 + 1)).toNat).toInt) ((xs (wI (v4 + 2)).toNat).toInt) ((xs (wI (v4 + 3)).toNat).toInt) s37) fun b39 s40 => if wI b36 = wI b39 then (bnd (v4 + 7) fun a43 => c23 a43 s40) else some (0, s40)
def mL_law_B1471 (xs : Nat → Int32) (L : Nat) (v1 : Nat) (v2 : Nat) (v3 : Nat) (c23 : Int → mSt → Option (Int × mSt)) (x1663 : mSt → Option (Int × mSt)) (v4 : Int) (σ : mSt) : Option (Int × mSt) := mG (0 ≤ wI (v4 + 1) ∧ wI (v4 + 1) < (L : Int)) <| mG (0 ≤ wI (v4 + 2) ∧ wI (v4 + 2) < (L : Int)) <| mCall (mX11_ideal v1 ((xs (wI (v4 + 1)).toNat).toInt) ((xs (wI (v4 + 2)).toNat).toInt) σ) fun b47 s48 => mCall (mX12_ideal v2 ((xs (wI (v4 + 1)).toNat).toInt) ((xs (wI (v4 + 2)).toNat).toInt) s48) fun b50 s51 => if wL b47 = wL b50 then (bnd (v4 + 7) fun a54 => c23 a54 s51) else some (0, s51)
def mL_law_B1446 (xs : Nat → Int32) (L : Nat) (v1 : Nat) (v2 : Nat) (v3 : Nat) (c23 : Int → mSt → Option (Int × mSt)) (x1663 : mSt → Option (Int × mSt)) (v4 : Int) (σ : mSt) : Option (Int × mSt) := mG (0 ≤ wI (v4 + 1) ∧ wI (v4 + 1) < (L : Int)) <| mCall (mX11_isIn v1 ((xs (wI (v4 + 1)).toNat).toInt) σ) fun b57 s58 => mCall (mX12_isIn v2 ((xs (wI (v4 + 1)).toNat).toInt) s58) fun b60 s61 => if wI b57 = wI b60 then (bnd (v4 + 7) fun a64 => c23 a64 s61) else some (0, s61)
def mL_law_B1354 (xs : Nat → Int32) (L : Nat) (v1 : Nat) (v2 : Nat) (v3 : Nat) (c23 : Int → mSt → Option (Int × mSt)) (x1663 : mSt → Option (Int × mSt)) (v4 : Int) (σ : mSt) : Option (Int × mSt) := mG (0 ≤ wI (v4 + 1) ∧ wI (v4 + 1) < (L : Int)) <| mG (0 ≤ wI (v4 + 2) ∧ wI (v4 + 2) < (L : Int)) <| mG (0 ≤ wI (v4 + 3) ∧ wI (v4 + 3) < (L : Int)) <| mG (0 ≤ wI (v4 + 4) ∧ wI (v4 + 4) < (L : Int)) <| mCall (mL_table v1 ((xs (wI (v4 + 1)).toNat).toInt) ((xs (wI (v4 + 2)).toNat).toInt) ((xs (wI (v4 + 3)).toNat).toInt) ((xs (wI (v4 + 4)).toNat).toInt) v3 σ) fun b70 s71 => mCall (mX12_table v2 ((xs (wI (v4 + 1)).toNat).toInt) ((xs (wI (v4 + 2)).toNat).toInt) ((xs (wI (v4 + 3)).toNat).toInt) ((xs (wI (v4 + 4)).toNat).toInt) s71) fun b73 s74 => mCall (mX12_thrown v2 s74) fun b76 s77 => if wI b76 = wI b70 then (if wI b70 = 0 then (mG (ixOK v3 21 0) <| if wL (s77 v3 0) = wL (wI b73) then (bnd (v4 + 7) fun a85 => c23 a85 s77) else some (0, s77)) else bnd (v4 + 7) fun a81 => c23 a81 s77) else some (0, s77)
def mL_law_B1329 (xs : Nat → Int32) (L : Nat) (v1 : Nat) (v2 : Nat) (v3 : Nat) (c23 : Int → mSt → Option (Int × mSt)) (x1663 : mSt → Option (Int × mSt)) (v4 : Int) (σ : mSt) : Option (Int × mSt) := mG (0 ≤ wI (v4 + 1) ∧ wI (v4 + 1) < (L : Int)) <| mCall (mX11_plain v1 ((xs (wI (v4 + 1)).toNat).toInt) σ) fun b88 s89 => mCall (mX12_plain v2 ((xs (wI (v4 + 1)).toNat).toInt) s89) fun b91 s92 => if wI b88 = wI b91 then (bnd (v4 + 7) fun a95 => c23 a95 s92) else some (0, s92)
def mL_law_B1304 (xs : Nat → Int32) (L : Nat) (v1 : Nat) (v2 : Nat) (v3 : Nat) (c23 : Int → mSt → Option (Int × mSt)) (x1663 : mSt → Option (Int × mSt)) (v4 : Int) (σ : mSt) : Option (Int × mSt) := mG (0 ≤ wI (v4 + 1) ∧ wI (v4 + 1) < (L : Int)) <| mCall (mX11_greatest v1 ((xs (wI (v4 + 1)).toNat).toInt) σ) fun b98 s99 => mCall (mX12_greatest v2 ((xs (wI (v4 + 1)).toNat).toInt) s99) fun b101 s102 => if wI b98 = wI b101 then (bnd (v4 + 7) fun a105 => c23 a105 s102) else some (0, s102)
def mL_law_B1267 (xs : Nat → Int32) (L : Nat) (v1 : Nat) (v2 : Nat) (v3 : Nat) (c23 : Int → mSt → Option (Int × mSt)) (x1663 : mSt → Option (Int × mSt)) (v4 : Int) (σ : mSt) : Option (Int × mSt) := mG (0 ≤ wI (v4 + 1) ∧ wI (v4 + 1) < (L : Int)) <| mG (0 ≤ wI (v4 + 2) ∧ wI (v4 + 2) < (L : Int)) <| mCall (mX11_enlarge v1 ((xs (wI (v4 + 1)).toNat).toInt) ((xs (wI (v4 + 2)).toNat).toInt) σ) fun b109 s110 => mCall (mX12_enlarge v2 ((xs (wI (v4 + 1)).toNat).toInt) ((xs (wI (v4 + 2)).toNat).toInt) s110) fun b112 s113 => if wI b109 = wI b112 then (bnd (v4 + 7) fun a116 => c23 a116 s113) else some (0, s113)
def mL_law_B1187 (xs : Nat → Int32) (L : Nat) (v1 : Nat) (v2 : Nat) (v3 : Nat) (c23 : Int → mSt → Option (Int × mSt)) (x1663 : mSt → Option (Int × mSt)) (v4 : Int) (σ : mSt) : Option (Int × mSt) := mG (0 ≤ wI (v4 + 1) ∧ wI (v4 + 1) < (L : Int)) <| mG (0 ≤ wI (v4 + 2) ∧ wI (v4 + 2) < (L : Int)) <| mG (0 ≤ wI (v4 + 3) ∧ wI (v4 + 3) < (L : Int)) <| mCall (mL_row v1 ((xs (wI (v4 + 1)).toNat).toInt) ((xs (wI (v4 + 2)).toNat).toInt) ((xs (wI (v4 + 3)).toNat).toInt) v3 σ) fun b121 s122 => mCall (mX12_row v2 ((xs (wI (v4 + 1)).toNat).toInt) ((xs (wI (v4 + 2)).toNat).toInt) ((xs (wI (v4 + 3)).toNat).toInt) s122) fun b124 s125 => mCall (mX12_thrown v2 s125) fun b127 s128 => if wI b127 = wI b121 then (if wI b121 = 0 then (mG (ixOK v3 21 0) <| if wL (s128 v3 0) = wL (wI b124) then (bnd (v4 + 7) fun a136 => c23 a136 s128) else some (0, s128)) else bnd (v4 + 7) fun a132 => c23 a132 s128) else some (0, s128)
def mL_law_B1162 (xs : Nat → Int32) (L : Nat) (v1 : Nat) (v2 : Nat) (v3 : Nat) (c23 : Int → mSt → Option (Int × mSt)) (x1663 : mSt → Option (Int × mSt)) (v4 : Int) (σ : mSt) : Option (Int × mSt) := mG (0 ≤ wI (v4 + 1) ∧ wI (v4 + 1) < (L : Int)) <| mCall (mX11_due v1 ((xs (wI (v4 + 1)).toNat).toInt) σ) fun b139 s140 => mCall (mX12_due v2 ((xs (wI (v4 + 1)).toNat).toInt) s140) fun b142 s143 => if wI b139 = wI b142 then (bnd (v4 + 7) fun a146 => c23 a146 s143) else some (0, s143)
def mL_law_B1137 (xs : Nat → Int32) (L : Nat) (v1 : Nat) (v2 : Nat) (v3 : Nat) (c23 : Int → mSt → Option (Int × mSt)) (x1663 : mSt → Option (Int × mSt)) (v4 : Int) (σ : mSt) : Option (Int × mSt) := mG (0 ≤ wI (v4 + 1) ∧ wI (v4 + 1) < (L : Int)) <| mCall (mX11_disc v1 ((xs (wI (v4 + 1)).toNat).toInt) σ) fun b149 s150 => mCall (mX12_disc v2 ((xs (wI (v4 + 1)).toNat).toInt) s150) fun b152 s153 => if wI b149 = wI b152 then (bnd (v4 + 7) fun a156 => c23 a156 s153) else some (0, s153)
def mL_law_B1046 (xs : Nat → Int32) (L : Nat) (v1 : Nat) (v2 : Nat) (v3 : Nat) (c23 : Int → mSt → Option (Int × mSt)) (x1663 : mSt → Option (Int × mSt)) (v4 : Int) (σ : mSt) : Option (Int × mSt) := mG (0 ≤ wI (v4 + 1) ∧ wI (v4 + 1) < (L : Int)) <| mG (0 ≤ wI (v4 + 2) ∧ wI (v4 + 2) < (L : Int)) <| mG (0 ≤ wI (v4 + 3) ∧ wI (v4 + 3) < (L : Int)) <| mG (0 ≤ wI (v4 + 4) ∧ wI (v4 + 4) < (L : Int)) <| mCall (mL_matrix v1 ((xs (wI (v4 + 1)).toNat).toInt) ((xs (wI (v4 + 2)).toNat).toInt) ((xs (wI (v4 + 3)).toNat).toInt) ((xs (wI (v4 + 4)).toNat).toInt) v3 σ) fun b162 s163 => mCall (mX12_matrix v2 ((xs (wI (v4 + 1)).toNat).toInt) ((xs (wI (v4 + 2)).toNat).toInt) ((xs (wI (v4 + 3)).toNat).toInt) ((xs (wI (v4 + 4)).toNat).toInt) s163) fun b165 s166 => mCall (mX12_thrown v2 s166) fun b168 s169 => if wI b168 = wI b162 then (if wI b162 = 0 then (mG (ixOK v3 21 0) <| if wL (s169 v3 0) = wL b165 then (bnd (v4 + 7) fun a177 => c23 a177 s169) else some (0, s169)) else bnd (v4 + 7) fun a173 => c23 a173 s169) else some (0, s169)
def mL_law_B1009 (xs : Nat → Int32) (L : Nat) (v1 : Nat) (v2 : Nat) (v3 : Nat) (c23 : Int → mSt → Option (Int × mSt)) (x1663 : mSt → Option (Int × mSt)) (v4 : Int) (σ : mSt) : Option (Int × mSt) := mG (0 ≤ wI (v4 + 1) ∧ wI (v4 + 1) < (L : Int)) <| mG (0 ≤ wI (v4 + 2) ∧ wI (v4 + 2) < (L : Int)) <| mCall (mX11_solution v1 ((xs (wI (v4 + 1)).toNat).toInt) ((xs (wI (v4 + 2)).toNat).toInt) σ) fun b181 s182 => mCall (mX12_solution v2 ((xs (wI (v4 + 1)).toNat).toInt) ((xs (wI (v4 + 2)).toNat).toInt) s182) fun b184 s185 => if wI b181 = wI b184 then (bnd (v4 + 7) fun a188 => c23 a188 s185) else some (0, s185)
def mL_law_B942 (xs : Nat → Int32) (L : Nat) (v1 : Nat) (v2 : Nat) (v3 : Nat) (c23 : Int → mSt → Option (Int × mSt)) (x1663 : mSt → Option (Int × mSt)) (v4 : Int) (σ : mSt) : Option (Int × mSt) := mG (0 ≤ wI (v4 + 1) ∧ wI (v4 + 1) < (L : Int)) <| mG (0 ≤ wI (v4 + 2) ∧ wI (v4 + 2) < (L : Int)) <| mCall (mL_trace v1 ((xs (wI (v4 + 1)).toNat).toInt) ((xs (wI (v4 + 2)).toNat).toInt) v3 σ) fun b192 s193 => mCall (mX12_trace v2 ((xs (wI (v4 + 1)).toNat).toInt) ((xs (wI (v4 + 2)).toNat).toInt) s193) fun b195 s196 => mCall (mX12_thrown v2 s196) fun b198 s199 => if wI b198 = wI b192 then (if wI b192 = 0 then (mG (ixOK v3 21 0) <| if wL (s199 v3 0) = wL b195 then (bnd (v4 + 7) fun a207 => c23 a207 s199) else some (0, s199)) else bnd (v4 + 7) fun a203 => c23 a203 s199) else some (0, s199)
def mL_law_B875 (xs : Nat → Int32) (L : Nat) (v1 : Nat) (v2 : Nat) (v3 : Nat) (c23 : Int → mSt → Option (Int × mSt)) (x1663 : mSt → Option (Int × mSt)) (v4 : Int) (σ : mSt) : Option (Int × mSt) := mG (0 ≤ wI (v4 + 1) ∧ wI (v4 + 1) < (L : Int)) <| mG (0 ≤ wI (v4 + 2) ∧ wI (v4 + 2) < (L : Int)) <| mCall (mL_norm v1 ((xs (wI (v4 + 1)).toNat).toInt) ((xs (wI (v4 + 2)).toNat).toInt) v3 σ) fun b211 s212 => mCall (mX12_norm v2 ((xs (wI (v4 + 1)).toNat).toInt) ((xs (wI (v4 + 2)).toNat).toInt) s212) fun b214 s215 => mCall (mX12_thrown v2 s215) fun b217 s218 => if wI b217 = wI b211 then (if wI b211 = 0 then (mG (ixOK v3 21 0) <| if wL (s218 v3 0) = wL b214 then (bnd (v4 + 7) fun a226 => c23 a226 s218) else some (0, s218)) else bnd (v4 + 7) fun a222 => c23 a222 s218) else some (0, s218)
def mL_law_B838 (xs : Nat → Int32) (L : Nat) (v1 : Nat) (v2 : Nat) (v3 : Nat) (c23 : Int → mSt → Option (Int × mSt)) (x1663 : mSt → Option (Int × mSt)) (v4 : Int) (σ : mSt) : Option (Int × mSt) := mG (0 ≤ wI (v4 + 1) ∧ wI (v4 + 1) < (L : Int)) <| mG (0 ≤ wI (v4 + 2) ∧ wI (v4 + 2) < (L : Int)) <| mCall (mX11_inverse v1 ((xs (wI (v4 + 1)).toNat).toInt) ((xs (wI (v4 + 2)).toNat).toInt) σ) fun b230 s231 => mCall (mX12_inverse v2 ((xs (wI (v4 + 1)).toNat).toInt) ((xs (wI (v4 + 2)).toNat).toInt) s231) fun b233 s234 => if wI b230 = wI b233 then (bnd (v4 + 7) fun a237 => c23 a237 s234) else some (0, s234)
def mL_law_B801 (xs : Nat → Int32) (L : Nat) (v1 : Nat) (v2 : Nat) (v3 : Nat) (c23 : Int → mSt → Option (Int × mSt)) (x1663 : mSt → Option (Int × mSt)) (v4 : Int) (σ : mSt) : Option (Int × mSt) := mG (0 ≤ wI (v4 + 1) ∧ wI (v4 + 1) < (L : Int)) <| mG (0 ≤ wI (v4 + 2) ∧ wI (v4 + 2) < (L : Int)) <| mCall (mX11_mirror v1 ((xs (wI (v4 + 1)).toNat).toInt) ((xs (wI (v4 + 2)).toNat).toInt) σ) fun b241 s242 => mCall (mX12_mirror v2 ((xs (wI (v4 + 1)).toNat).toInt) ((xs (wI (v4 + 2)).toNat).toInt) s242) fun b244 s245 => if wI b241 = wI b244 then (bnd (v4 + 7) fun a248 => c23 a248 s245) else some (0, s245)
def mL_law_B740 (xs : Nat → Int32) (L : Nat) (v1 : Nat) (v2 : Nat) (v3 : Nat) (c23 : Int → mSt → Option (Int × mSt)) (x1663 : mSt → Option (Int × mSt)) (v4 : Int) (σ : mSt) : Option (Int × mSt) := mG (0 ≤ wI (v4 + 1) ∧ wI (v4 + 1) < (L : Int)) <| mG (0 ≤ wI (v4 + 2) ∧ wI (v4 + 2) < (L : Int)) <| mG (0 ≤ wI (v4 + 3) ∧ wI (v4 + 3) < (L : Int)) <| mG (0 ≤ wI (v4 + 4) ∧ wI (v4 + 4) < (L : Int)) <| mCall (mX11_plus v1 ((xs (wI (v4 + 1)).toNat).toInt) ((xs (wI (v4 + 2)).toNat).toInt) ((xs (wI (v4 + 3)).toNat).toInt) ((xs (wI (v4 + 4)).toNat).toInt) σ) fun b254 s255 => mCall (mX12_plus v2 ((xs (wI (v4 + 1)).toNat).toInt) ((xs (wI (v4 + 2)).toNat).toInt) ((xs (wI (v4 + 3)).toNat).toInt) ((xs (wI (v4 + 4)).toNat).toInt) s255) fun b257 s258 => if wI b254 = wI b257 then (bnd (v4 + 7) fun a261 => c23 a261 s258) else some (0, s258)
def mL_law_B691 (xs : Nat → Int32) (L : Nat) (v1 : Nat) (v2 : Nat) (v3 : Nat) (c23 : Int → mSt → Option (Int × mSt)) (x1663 : mSt → Option (Int × mSt)) (v4 : Int) (σ : mSt) : Option (Int × mSt) := mG (0 ≤ wI (v4 + 1) ∧ wI (v4 + 1) < (L : Int)) <| mG (0 ≤ wI (v4 + 2) ∧ wI (v4 + 2) < (L : Int)) <| mG (0 ≤ wI (v4 + 3) ∧ wI (v4 + 3) < (L : Int)) <| mCall (mX11_times v1 ((xs (wI (v4 + 1)).toNat).toInt) ((xs (wI (v4 + 2)).toNat).toInt) ((xs (wI (v4 + 3)).toNat).toInt) σ) fun b266 s267 => mCall (mX12_times v2 ((xs (wI (v4 + 1)).toNat).toInt) ((xs (wI (v4 + 2)).toNat).toInt) ((xs (wI (v4 + 3)).toNat).toInt) s267) fun b269 s270 => if wI b266 = wI b269 then (bnd (v4 + 7) fun a273 => c23 a273 s270) else some (0, s270)
def mL_law_B623 (xs : Nat → Int32) (L : Nat) (v1 : Nat) (v2 : Nat) (v3 : Nat) (c23 : Int → mSt → Option (Int × mSt)) (x1663 : mSt → Option (Int × mSt)) (v4 : Int) (σ : mSt) : Option (Int × mSt) := mG (0 ≤ wI (v4 + 1) ∧ wI (v4 + 1) < (L : Int)) <| mG (0 ≤ wI (v4 + 2) ∧ wI (v4 + 2) < (L : Int)) <| mCall (mL_element v1 ((xs (wI (v4 + 1)).toNat).toInt) ((xs (wI (v4 + 2)).toNat).toInt) v3 σ) fun b277 s278 => mCall (mX12_element v2 ((xs (wI (v4 + 1)).toNat).toInt) ((xs (wI (v4 + 2)).toNat).toInt) s278) fun b280 s281 => mCall (mX12_thrown v2 s281) fun b283 s284 => if wI b283 = wI b277 then (if wI b277 = 0 then (mG (ixOK v3 21 0) <| if wL (s284 v3 0) = wL (wI b280) then (bnd (v4 + 7) fun a292 => c23 a292 s284) else some (0, s284)) else bnd (v4 + 7) fun a288 => c23 a288 s284) else some (0, s284)
def mL_law_B586 (xs : Nat → Int32) (L : Nat) (v1 : Nat) (v2 : Nat) (v3 : Nat) (c23 : Int → mSt → Option (Int × mSt)) (x1663 : mSt → Option (Int × mSt)) (v4 : Int) (σ : mSt) : Option (Int × mSt) := mG (0 ≤ wI (v4 + 1) ∧ wI (v4 + 1) < (L : Int)) <| mG (0 ≤ wI (v4 + 2) ∧ wI (v4 + 2) < (L : Int)) <| mCall (mX11_over v1 ((xs (wI (v4 + 1)).toNat).toInt) ((xs (wI (v4 + 2)).toNat).toInt) σ) fun b296 s297 => mCall (mX12_over v2 ((xs (wI (v4 + 1)).toNat).toInt) ((xs (wI (v4 + 2)).toNat).toInt) s297) fun b299 s300 => if wI b296 = wI b299 then (bnd (v4 + 7) fun a303 => c23 a303 s300) else some (0, s300)
def mL_law_B499 (xs : Nat → Int32) (L : Nat) (v1 : Nat) (v2 : Nat) (v3 : Nat) (c23 : Int → mSt → Option (Int × mSt)) (x1663 : mSt → Option (Int × mSt)) (v4 : Int) (σ : mSt) : Option (Int × mSt) := mG (0 ≤ wI (v4 + 1) ∧ wI (v4 + 1) < (L : Int)) <| mG (0 ≤ wI (v4 + 2) ∧ wI (v4 + 2) < (L : Int)) <| mG (0 ≤ wI (v4 + 3) ∧ wI (v4 + 3) < (L : Int)) <| mG (0 ≤ wI (v4 + 4) ∧ wI (v4 + 4) < (L : Int)) <| mG (0 ≤ wI (v4 + 5) ∧ wI (v4 + 5) < (L : Int)) <| mG (0 ≤ wI (v4 + 6) ∧ wI (v4 + 6) < (L : Int)) <| mCall (mX11_tell v1 ((xs (wI (v4 + 1)).toNat).toInt) ((xs (wI (v4 + 2)).toNat).toInt) ((xs (wI (v4 + 3)).toNat).toInt) ((xs (wI (v4 + 4)).toNat).toInt) ((xs (wI (v4 + 5)).toNat).toInt) ((xs (wI (v4 + 6)).toNat).toInt) σ) fun b311 s312 => mCall (mX12_tell v2 ((xs (wI (v4 + 1)).toNat).toInt) ((xs (wI (v4 + 2)).toNat).toInt) ((xs (wI (v4 + 3)).toNat).toInt) ((xs (wI (v4 + 4)).toNat).toInt) ((xs (wI (v4 + 5)).toNat).toInt) ((xs (wI (v4 + 6)).toNat).toInt) s312) fun b314 s315 => if wI b311 = wI b314 then (bnd (v4 + 7) fun a318 => c23 a318 s315) else some (0, s315)
def mL_law_B486 (xs : Nat → Int32) (L : Nat) (v1 : Nat) (v2 : Nat) (v3 : Nat) (c23 : Int → mSt → Option (Int × mSt)) (x1663 : mSt → Option (Int × mSt)) (v4 : Int) (σ : mSt) : Option (Int × mSt) := mCall (mX11_classes v1 σ) fun b320 s321 => mCall (mX12_classes v2 s321) fun b323 s324 => if wI b320 = wI b323 then (bnd (v4 + 7) fun a327 => c23 a327 s324) else some (0, s324)
def mL_law_B449 (xs : Nat → Int32) (L : Nat) (v1 : Nat) (v2 : Nat) (v3 : Nat) (c23 : Int → mSt → Option (Int × mSt)) (x1663 : mSt → Option (Int × mSt)) (v4 : Int) (σ : mSt) : Option (Int × mSt) := mG (0 ≤ wI (v4 + 1) ∧ wI (v4 + 1) < (L : Int)) <| mG (0 ≤ wI (v4 + 2) ∧ wI (v4 + 2) < (L : Int)) <| mCall (mX11_alike v1 ((xs (wI (v4 + 1)).toNat).toInt) ((xs (wI (v4 + 2)).toNat).toInt) σ) fun b331 s332 => mCall (mX12_alike v2 ((xs (wI (v4 + 1)).toNat).toInt) ((xs (wI (v4 + 2)).toNat).toInt) s332) fun b334 s335 => if wI b331 = wI b334 then (bnd (v4 + 7) fun a338 => c23 a338 s335) else some (0, s335)
def mL_law_B424 (xs : Nat → Int32) (L : Nat) (v1 : Nat) (v2 : Nat) (v3 : Nat) (c23 : Int → mSt → Option (Int × mSt)) (x1663 : mSt → Option (Int × mSt)) (v4 : Int) (σ : mSt) : Option (Int × mSt) := mG (0 ≤ wI (v4 + 1) ∧ wI (v4 + 1) < (L : Int)) <| mCall (mX11_index v1 ((xs (wI (v4 + 1)).toNat).toInt) σ) fun b341 s342 => mCall (mX12_index v2 ((xs (wI (v4 + 1)).toNat).toInt) s342) fun b344 s345 => if wI b341 = wI b344 then (bnd (v4 + 7) fun a348 => c23 a348 s345) else some (0, s345)
def mL_law_B387 (xs : Nat → Int32) (L : Nat) (v1 : Nat) (v2 : Nat) (v3 : Nat) (c23 : Int → mSt → Option (Int × mSt)) (x1663 : mSt → Option (Int × mSt)) (v4 : Int) (σ : mSt) : Option (Int × mSt) := mG (0 ≤ wI (v4 + 1) ∧ wI (v4 + 1) < (L : Int)) <| mG (0 ≤ wI (v4 + 2) ∧ wI (v4 + 2) < (L : Int)) <| mCall (mX11_place v1 ((xs (wI (v4 + 1)).toNat).toInt) ((xs (wI (v4 + 2)).toNat).toInt) σ) fun b352 s353 => mCall (mX12_place v2 ((xs (wI (v4 + 1)).toNat).toInt) ((xs (wI (v4 + 2)).toNat).toInt) s353) fun b355 s356 => if wI b352 = wI b355 then (bnd (v4 + 7) fun a359 => c23 a359 s356) else some (0, s356)
def mL_law_B350 (xs : Nat → Int32) (L : Nat) (v1 : Nat) (v2 : Nat) (v3 : Nat) (c23 : Int → mSt → Option (Int × mSt)) (x1663 : mSt → Option (Int × mSt)) (v4 : Int) (σ : mSt) : Option (Int × mSt) := mG (0 ≤ wI (v4 + 1) ∧ wI (v4 + 1) < (L : Int)) <| mG (0 ≤ wI (v4 + 2) ∧ wI (v4 + 2) < (L : Int)) <| mCall (mX11_local v1 ((xs (wI (v4 + 1)).toNat).toInt) ((xs (wI (v4 + 2)).toNat).toInt) σ) fun b363 s364 => mCall (mX12_local v2 ((xs (wI (v4 + 1)).toNat).toInt) ((xs (wI (v4 + 2)).toNat).toInt) s364) fun b366 s367 => if wI b363 = wI b366 then (bnd (v4 + 7) fun a370 => c23 a370 s367) else some (0, s367)
def mL_law_B282 (xs : Nat → Int32) (L : Nat) (v1 : Nat) (v2 : Nat) (v3 : Nat) (c23 : Int → mSt → Option (Int × mSt)) (x1663 : mSt → Option (Int × mSt)) (v4 : Int) (σ : mSt) : Option (Int × mSt) := mG (0 ≤ wI (v4 + 1) ∧ wI (v4 + 1) < (L : Int)) <| mG (0 ≤ wI (v4 + 2) ∧ wI (v4 + 2) < (L : Int)) <| mCall (mL_algebra v1 ((xs (wI (v4 + 1)).toNat).toInt) ((xs (wI (v4 + 2)).toNat).toInt) v3 σ) fun b374 s375 => mCall (mX12_algebra v2 ((xs (wI (v4 + 1)).toNat).toInt) ((xs (wI (v4 + 2)).toNat).toInt) s375) fun b377 s378 => mCall (mX12_thrown v2 s378) fun b380 s381 => if wI b380 = wI b374 then (if wI b374 = 0 then (mG (ixOK v3 21 0) <| if wL (s381 v3 0) = wL (wI b377) then (bnd (v4 + 7) fun a389 => c23 a389 s381) else some (0, s381)) else bnd (v4 + 7) fun a385 => c23 a385 s381) else some (0, s381)
def mL_law_B257 (xs : Nat → Int32) (L : Nat) (v1 : Nat) (v2 : Nat) (v3 : Nat) (c23 : Int → mSt → Option (Int × mSt)) (x1663 : mSt → Option (Int × mSt)) (v4 : Int) (σ : mSt) : Option (Int × mSt) := mG (0 ≤ wI (v4 + 1) ∧ wI (v4 + 1) < (L : Int)) <| mCall (mX11_text v1 ((xs (wI (v4 + 1)).toNat).toInt) σ) fun b392 s393 => mCall (mX12_text v2 ((xs (wI (v4 + 1)).toNat).toInt) s393) fun b395 s396 => if wI b392 = wI b395 then (bnd (v4 + 7) fun a399 => c23 a399 s396) else some (0, s396)
def mL_law_B184 (xs : Nat → Int32) (L : Nat) (v1 : Nat) (v2 : Nat) (v3 : Nat) (c23 : Int → mSt → Option (Int × mSt)) (x1663 : mSt → Option (Int × mSt)) (v4 : Int) (σ : mSt) : Option (Int × mSt) := mG (0 ≤ wI (v4 + 1) ∧ wI (v4 + 1) < (L : Int)) <| mG (0 ≤ wI (v4 + 2) ∧ wI (v4 + 2) < (L : Int)) <| mG (0 ≤ wI (v4 + 3) ∧ wI (v4 + 3) < (L : Int)) <| mG (0 ≤ wI (v4 + 4) ∧ wI (v4 + 4) < (L : Int)) <| mG (0 ≤ wI (v4 + 5) ∧ wI (v4 + 5) < (L : Int)) <| mCall (mX11_feed v1 ((xs (wI (v4 + 1)).toNat).toInt) ((xs (wI (v4 + 2)).toNat).toInt) ((xs (wI (v4 + 3)).toNat).toInt) ((xs (wI (v4 + 4)).toNat).toInt) ((xs (wI (v4 + 5)).toNat).toInt) σ) fun b406 s407 => mCall (mX12_feed v2 ((xs (wI (v4 + 1)).toNat).toInt) ((xs (wI (v4 + 2)).toNat).toInt) ((xs (wI (v4 + 3)).toNat).toInt) ((xs (wI (v4 + 4)).toNat).toInt) ((xs (wI (v4 + 5)).toNat).toInt) s407) fun b409 s410 => if wI b406 = wI b409 then (bnd (v4 + 7) fun a413 => c23 a413 s410) else some (0, s410)
def mL_law_L23 (xs : Nat → Int32) (L : Nat) (v1 : Nat) (v2 : Nat) (v3 : Nat) (x1663 : mSt → Option (Int × mSt)) : Nat → Int → mSt → Option (Int × mSt)
  | 0, _, _ => none
  | n + 1, v4, σ => if wI ((L : Int) - 7) < wI v4 then (x1663 σ) else mG (0 ≤ wI v4 ∧ wI v4 < (L : Int)) <| if wI (oAnd ((xs (wI v4).toNat).toInt) 31) = 0 then (mL_law_B184 xs L v1 v2 v3 (mL_law_L23 xs L v1 v2 v3 x1663 n) x1663 v4 σ) else if wI (oAnd ((xs (wI v4).toNat).toInt) 31) = 1 then (mL_law_B257 xs L v1 v2 v3 (mL_law_L23 xs L v1 v2 v3 x1663 n) x1663 v4 σ) else if wI (oAnd ((xs (wI v4).toNat).toInt) 31) = 2 then (mL_law_B282 xs L v1 v2 v3 (mL_law_L23 xs L v1 v2 v3 x1663 n) x1663 v4 σ) else if wI (oAnd ((xs (wI v4).toNat).toInt) 31) = 3 then (mL_law_B350 xs L v1 v2 v3 (mL_law_L23 xs L v1 v2 v3 x1663 n) x1663 v4 σ) else if wI (oAnd ((xs (wI v4).toNat).toInt) 31) = 4 then (mL_law_B387 xs L v1 v2 v3 (mL_law_L23 xs L v1 v2 v3 x1663 n) x1663 v4 σ) else if wI (oAnd ((xs (wI v4).toNat).toInt) 31) = 5 then (mL_law_B424 xs L v1 v2 v3 (mL_law_L23 xs L v1 v2 v3 x1663 n) x1663 v4 σ) else if wI (oAnd ((xs (wI v4).toNat).toInt) 31) = 6 then (mL_law_B449 xs L v1 v2 v3 (mL_law_L23 xs L v1 v2 v3 x1663 n) x1663 v4 σ) else if wI (oAnd ((xs (wI v4).toNat).toInt) 31) = 7 then (mL_law_B486 xs L v1 v2 v3 (mL_law_L23 xs L v1 v2 v3 x1663 n) x1663 v4 σ) else if wI (oAnd ((xs (wI v4).toNat).toInt) 31) = 8 then (mL_law_B499 xs L v1 v2 v3 (mL_law_L23 xs L v1 v2 v3 x1663 n) x1663 v4 σ) else if wI (oAnd ((xs (wI v4).toNat).toInt) 31) = 9 then (mL_law_B586 xs L v1 v2 v3 (mL_law_L23 xs L v1 v2 v3 x1663 n) x1663 v4 σ) else if wI (oAnd ((xs (wI v4).toNat).toInt) 31) = 10 then (mL_law_B623 xs L v1 v2 v3 (mL_law_L23 xs L v1 v2 v3 x1663 n) x1663 v4 σ) else if wI (oAnd ((xs (wI v4).toNat).toInt) 31) = 11 then (mL_law_B691 xs L v1 v2 v3 (mL_law_L23 xs L v1 v2 v3 x1663 n) x1663 v4 σ) else if wI (oAnd ((xs (wI v4).toNat).toInt) 31) = 12 then (mL_law_B740 xs L v1 v2 v3 (mL_law_L23 xs L v1 v2 v3 x1663 n) x1663 v4 σ) else if wI (oAnd ((xs (wI v4).toNat).toInt) 31) = 13 then (mL_law_B801 xs L v1 v2 v3 (mL_law_L23 xs L v1 v2 v3 x1663 n) x1663 v4 σ) else if wI (oAnd ((xs (wI v4).toNat).toInt) 31) = 14 then (mL_law_B838 xs L v1 v2 v3 (mL_law_L23 xs L v1 v2 v3 x1663 n) x1663 v4 σ) else if wI (oAnd ((xs (wI v4).toNat).toInt) 31) = 15 then (mL_law_B875 xs L v1 v2 v3 (mL_law_L23 xs L v1 v2 v3 x1663 n) x1663 v4 σ) else if wI (oAnd ((xs (wI v4).toNat).toInt) 31) = 16 then (mL_law_B942 xs L v1 v2 v3 (mL_law_L23 xs L v1 v2 v3 x1663 n) x1663 v4 σ) else if wI (oAnd ((xs (wI v4).toNat).toInt) 31) = 17 then (mL_law_B1009 xs L v1 v2 v3 (mL_law_L23 xs L v1 v2 v3 x1663 n) x1663 v4 σ) else if wI (oAnd ((xs (wI v4).toNat).toInt) 31) = 18 then (mL_law_B1046 xs L v1 v2 v3 (mL_law_L23 xs L v1 v2 v3 x1663 n) x1663 v4 σ) else if wI (oAnd ((xs (wI v4).toNat).toInt) 31) = 19 then (mL_law_B1137 xs L v1 v2 v3 (mL_law_L23 xs L v1 v2 v3 x1663 n) x1663 v4 σ) else if wI (oAnd ((xs (wI v4).toNat).toInt) 31) = 20 then (mL_law_B1162 xs L v1 v2 v3 (mL_law_L23 xs L v1 v2 v3 x1663 n) x1663 v4 σ) else if wI (oAnd ((xs (wI v4).toNat).toInt) 31) = 21 then (mL_law_B1187 xs L v1 v2 v3 (mL_law_L23 xs L v1 v2 v3 x1663 n) x1663 v4 σ) else if wI (oAnd ((xs (wI v4).toNat).toInt) 31) = 22 then (mL_law_B1267 xs L v1 v2 v3 (mL_law_L23 xs L v1 v2 v3 x1663 n) x1663 v4 σ) else if wI (oAnd ((xs (wI v4).toNat).toInt) 31) = 23 then (mL_law_B1304 xs L v1 v2 v3 (mL_law_L23 xs L v1 v2 v3 x1663 n) x1663 v4 σ) else if wI (oAnd ((xs (wI v4).toNat).toInt) 31) = 24 then (mL_law_B1329 xs L v1 v2 v3 (mL_law_L23 xs L v1 v2 v3 x1663 n) x1663 v4 σ) else if wI (oAnd ((xs (wI v4).toNat).toInt) 31) = 25 then (mL_law_B1354 xs L v1 v2 v3 (mL_law_L23 xs L v1 v2 v3 x1663 n) x1663 v4 σ) else if wI (oAnd ((xs (wI v4).toNat).toInt) 31) = 26 then (mL_law_B1446 xs L v1 v2 v3 (mL_law_L23 xs L v1 v2 v3 x1663 n) x1663 v4 σ) else if wI (oAnd ((xs (wI v4).toNat).toInt) 31) = 27 then (mL_law_B1471 xs L v1 v2 v3 (mL_law_L23 xs L v1 v2 v3 x1663 n) x1663 v4 σ) else if wI (oAnd ((xs (wI v4).toNat).toInt) 31) = 28 then (mL_law_B1509 xs L v1 v2 v3 (mL_law_L23 xs L v1 v2 v3 x1663 n) x1663 v4 σ) else if wI (oAnd ((xs (wI v4).toNat).toInt) 31) = 29 then (mL_law_B1558 xs L v1 v2 v3 (mL_law_L23 xs L v1 v2 v3 x1663 n) x1663 v4 σ) else if wI (oAnd ((xs (wI v4).toNat).toInt) 31) = 30 then (mL_law_B1595 xs L v1 v2 v3 (mL_law_L23 xs L v1 v2 v3 x1663 n) x1663 v4 σ) else if wI (oAnd ((xs (wI v4).toNat).toInt) 31) = 31 then (mL_law_B1632 xs L v1 v2 v3 (mL_law_L23 xs L v1 v2 v3 x1663 n) x1663 v4 σ) else bnd (v4 + 7) fun a448 => mL_law_L23 xs L v1 v2 v3 x1663 n a448 σ
set_option maxRecDepth 100000 in
set_option maxHeartbeats 4000000 in
theorem wL_law_B1663 (l : Launch) (hst : l.stackTraces = false) (E : mE) (out : Int × mSt) (hout : out.1 = 1) {p : Program} {e : Env} {s : State} {m : MethodId} {below : List Frame} {meth : Method} {c : Code} {b : Nat} (xs : Nat → Int32) (L : Nat) (hL : L ≤ 3584) (G : CallFix p m c code 8 s #[Value.ref b] mTs RL) (hr : meth.sig.returnType = ret) (hk : meth.locks = false) (hX : va_X b L xs s s.heap) (hbl : b < s.heap.size) : ∀ (k : Nat) (hk5 : k ≤ 512) (σ : mSt) (H : Heap) (locs : List Loc) (ls : Array Slot), mL_law_B1663 xs L σ = some out → mM (fun q => s.heap.size ≤ q) E 276 σ s H locs → lv_has ls 8 [] → mGoL l p e s m b below meth c (300 + k) (4000 + 6 * k) H locs (F0 m 1663 ls []) := by
  intro k hk5 σ H locs ls hm hM hl
  unfold mL_law_B1663 at hm
  refine r_iconst (np := 1664) G 1 dL_law_1663 rfl ?_
  exact r_lawEnd G hr hk hM rfl dL_law_1664 (by omega) (by omega)
set_option maxRecDepth 100000 in
set_option maxHeartbeats 4000000 in
theorem wL_law_B1632 (l : Launch) (hst : l.stackTraces = false) (E : mE) (out : Int × mSt) (hout : out.1 = 1) {p : Program} {e : Env} {s : State} {m : MethodId} {below : List Frame} {meth : Method} {c : Code} {b : Nat} (xs : Nat → Int32) (L : Nat) (hL : L ≤ 3584) (G : CallFix p m c code 8 s #[Value.ref b] mTs RL) (hr : meth.sig.returnType = ret) (hk : meth.locks = false) (hX : va_X b L xs s s.heap) (hbl : b < s.heap.size) (v1 : Nat) (v2 : Nat) (v3 : Nat) (c23 : Int → mSt → Option (Int × mSt)) (x1663 : mSt → Option (Int × mSt)) (hc23 : ∀ (v4 : Int) (k : Nat) (hk7 : v4 = 7 * (k : Int)) (hk5 : k ≤ 512) (σ : mSt) (H : Heap) (locs : List Loc) (ls : Array Slot), c23 v4 σ = some out → mM (fun q => s.heap.size ≤ q) E 276 σ s H locs → lv_has ls 8 [(0, .ref b), (1, .ref (eA E v1)), (2, .ref (eA E v2)), (3, .ref (eA E v3)), (4, vI v4)] → mGoL l p e s m b below meth c (300 + k) (4000 + 6 * k) H locs (F0 m 23 ls [])) (hx1663 : ∀ (k : Nat) (hk5 : k ≤ 512) (σ : mSt) (H : Heap) (locs : List Loc) (ls : Array Slot), x1663 σ = some out → mM (fun q => s.heap.size ≤ q) E 276 σ s H locs → lv_has ls 8 [] → mGoL l p e s m b below meth c (300 + k) (4000 + 6 * k) H locs (F0 m 1663 ls [])) : ∀ (v4 : Int) (k : Nat) (hk7 : v4 = 7 * (k : Int)) (hk5 : k ≤ 511) (σ : mSt) (H : Heap) (locs : List Loc) (ls : Array Slot), mL_law_B1632 xs L v1 v2 v3 c23 x1663 v4 σ = some out → mM (fun q => s.heap.size ≤ q) E 276 σ s H locs → lv_has ls 8 [(0, .ref b), (1, .ref (eA E v1)), (2, .ref (eA E v2)), (3, .ref (eA E v3)), (4, vI v4)] → mGoL l p e s m b below meth c (300 + k) (4000 + 6 * k) H locs (F0 m 1632 ls []) := by
  intro v4 k hk7 hk5 σ H locs ls hm hM hl
  unfold mL_law_B1632 at hm
  refine r_aload_n (np := 1633) G hl 1 rfl dL_law_1632 rfl rfl ?_
  refine r_aload_n (np := 1634) G hl 0 rfl dL_law_1633 rfl rfl ?_
  refine r_iload (np := 1636) G hl 4 rfl dL_law_1634 rfl ?_
  refine r_iconst (np := 1637) G 1 dL_law_1636 rfl ?_
  refine r_iadd (np := 1638) G dL_law_1637 rfl ?_
  obtain ⟨g1, hm⟩ := g_t hm
  refine r_sld (np := 1639) G hX hbl hM g1 dL_law_1638 rfl ?_
  obtain ⟨b2, s3, e4, hm⟩ := call_t hm
  refine m_callVI (np := 1642) G hM hl.1 [vI ((xs (wI (v4 + 1)).toNat).toInt)] (qX11_count l E σ v1 ((xs (wI (v4 + 1)).toNat).toInt) _ e4) myX11_count (shp_lt (gX11_count e4) (by decide)) (gX11_count e4) rfl (by decide) lkL_171 ⟨Nat.le_of_ble_eq_true rfl, Nat.le_of_ble_eq_true rfl⟩ ⟨by show _ ≤ 602319; omega, by show _ ≤ 7289146; omega⟩ [] rfl (Nat.le_of_ble_eq_true rfl) dL_law_1639 rfl (fun H locs hM => ?_)
  refine r_aload_n (np := 1643) G hl 2 rfl dL_law_1642 rfl rfl ?_
  refine r_aload_n (np := 1644) G hl 0 rfl dL_law_1643 rfl rfl ?_
  refine r_iload (np := 1646) G hl 4 rfl dL_law_1644 rfl ?_
  refine r_iconst (np := 1647) G 1 dL_law_1646 rfl ?_
  refine r_iadd (np := 1648) G dL_law_1647 rfl ?_
  refine r_sld (np := 1649) G hX hbl hM g1 dL_law_1648 rfl ?_
  obtain ⟨b5, s6, e7, hm⟩ := call_t hm
  refine m_callVI (np := 1652) G hM hl.1 [vI ((xs (wI (v4 + 1)).toNat).toInt)] (qX12_count l E s3 v2 ((xs (wI (v4 + 1)).toNat).toInt) _ e7) myX12_count (shp_lt (gX12_count e7) (by decide)) (gX12_count e7) rfl (by decide) lkL_174 ⟨Nat.le_of_ble_eq_true rfl, Nat.le_of_ble_eq_true rfl⟩ ⟨by show _ ≤ 602319; omega, by show _ ≤ 7289146; omega⟩ [vI b2] rfl (Nat.le_of_ble_eq_true rfl) dL_law_1649 rfl (fun H locs hM => ?_)
  refine r_icmp_eq (np := 1655) (tgt := 1657) G rfl rfl dL_law_1652 (by decide) rfl (fun h8 => ?_) (fun h8 => ?_)
  · have hm := b_t h8 hm
    obtain ⟨a9, e10, hm⟩ := bnd_t hm
    refine r_iinc (np := 1660) G hl 4 rfl e10 [(4, vI a9), (0, .ref b), (1, .ref (eA E v1)), (2, .ref (eA E v2)), (3, .ref (eA E v3))] dL_law_1657 rfl (by decide) rfl (fun ls hl => ?_)
    refine r_goto (np := 23) G dL_law_1660 (by decide) ?_
    refine W.widen (k := 300 + (k + 1)) (n := 4000 + 6 * (k + 1)) (by omega) (by omega) ?_
    exact hc23 a9 (k + 1) (by rw [e10, hk7]; omega) (by omega) _ _ _ _ hm hM (lv_sub hl [1, 2, 3, 4, 0] rfl)
  · have hm := b_f h8 hm
    refine r_iconst (np := 1656) G 0 dL_law_1655 rfl ?_
    cases hm
    exact absurd (show (0 : Int) = 1 from hout) (by decide)
set_option maxRecDepth 100000 in
set_option maxHeartbeats 4000000 in
theorem wL_law_B1595 (l : Launch) (hst : l.stackTraces = false) (E : mE) (out : Int × mSt) (hout : out.1 = 1) {p : Program} {e : Env} {s : State} {m : MethodId} {below : List Frame} {meth : Method} {c : Code} {b : Nat} (xs : Nat → Int32) (L : Nat) (hL : L ≤ 3584) (G : CallFix p m c code 8 s #[Value.ref b] mTs RL) (hr : meth.sig.returnType = ret) (hk : meth.locks = false) (hX : va_X b L xs s s.heap) (hbl : b < s.heap.size) (v1 : Nat) (v2 : Nat) (v3 : Nat) (c23 : Int → mSt → Option (Int × mSt)) (x1663 : mSt → Option (Int × mSt)) (hc23 : ∀ (v4 : Int) (k : Nat) (hk7 : v4 = 7 * (k : Int)) (hk5 : k ≤ 512) (σ : mSt) (H : Heap) (locs : List Loc) (ls : Array Slot), c23 v4 σ = some out → mM (fun q => s.heap.size ≤ q) E 276 σ s H locs → lv_has ls 8 [(0, .ref b), (1, .ref (eA E v1)), (2, .ref (eA E v2)), (3, .ref (eA E v3)), (4, vI v4)] → mGoL l p e s m b below meth c (300 + k) (4000 + 6 * k) H locs (F0 m 23 ls [])) (hx1663 : ∀ (k : Nat) (hk5 : k ≤ 512) (σ : mSt) (H : Heap) (locs : List Loc) (ls : Array Slot), x1663 σ = some out → mM (fun q => s.heap.size ≤ q) E 276 σ s H locs → lv_has ls 8 [] → mGoL l p e s m b below meth c (300 + k) (4000 + 6 * k) H locs (F0 m 1663 ls [])) : ∀ (v4 : Int) (k : Nat) (hk7 : v4 = 7 * (k : Int)) (hk5 : k ≤ 511) (σ : mSt) (H : Heap) (locs : List Loc) (ls : Array Slot), mL_law_B1595 xs L v1 v2 v3 c23 x1663 v4 σ = some out → mM (fun q => s.heap.size ≤ q) E 276 σ s H locs → lv_has ls 8 [(0, .ref b), (1, .ref (eA E v1)), (2, .ref (eA E v2)), (3, .ref (eA E v3)), (4, vI v4)] → mGoL l p e s m b below meth c (300 + k) (4000 + 6 * k) H locs (F0 m 1595 ls []) := by
  intro v4 k hk7 hk5 σ H locs ls hm hM hl
  unfold mL_law_B1595 at hm
  refine r_aload_n (np := 1596) G hl 1 rfl dL_law_1595 rfl rfl ?_
  refine r_aload_n (np := 1597) G hl 0 rfl dL_law_1596 rfl rfl ?_
  refine r_iload (np := 1599) G hl 4 rfl dL_law_1597 rfl ?_
  refine r_iconst (np := 1600) G 1 dL_law_1599 rfl ?_
  refine r_iadd (np := 1601) G dL_law_1600 rfl ?_
  obtain ⟨g11, hm⟩ := g_t hm
  refine r_sld (np := 1602) G hX hbl hM g11 dL_law_1601 rfl ?_
  refine r_aload_n (np := 1603) G hl 0 rfl dL_law_1602 rfl rfl ?_
  refine r_iload (np := 1605) G hl 4 rfl dL_law_1603 rfl ?_
  refine r_iconst (np := 1606) G 2 dL_law_1605 rfl ?_
  refine r_iadd (np := 1607) G dL_law_1606 rfl ?_
  obtain ⟨g12, hm⟩ := g_t hm
  refine r_sld (np := 1608) G hX hbl hM g12 dL_law_1607 rfl ?_
  obtain ⟨b13, s14, e15, hm⟩ := call_t hm
  refine m_callVI (np := 1611) G hM hl.1 [vI ((xs (wI (v4 + 1)).toNat).toInt), vI ((xs (wI (v4 + 2)).toNat).toInt)] (qX11_many l E σ v1 ((xs (wI (v4 + 1)).toNat).toInt) ((xs (wI (v4 + 2)).toNat).toInt) _ e15) myX11_many (shp_lt (gX11_many e15) (by decide)) (gX11_many e15) rfl (by decide) lkL_167 ⟨Nat.le_of_ble_eq_true rfl, Nat.le_of_ble_eq_true rfl⟩ ⟨by show _ ≤ 602319; omega, by show _ ≤ 7289146; omega⟩ [] rfl (Nat.le_of_ble_eq_true rfl) dL_law_1608 rfl (fun H locs hM => ?_)
  refine r_aload_n (np := 1612) G hl 2 rfl dL_law_1611 rfl rfl ?_
  refine r_aload_n (np := 1613) G hl 0 rfl dL_law_1612 rfl rfl ?_
  refine r_iload (np := 1615) G hl 4 rfl dL_law_1613 rfl ?_
  refine r_iconst (np := 1616) G 1 dL_law_1615 rfl ?_
  refine r_iadd (np := 1617) G dL_law_1616 rfl ?_
  refine r_sld (np := 1618) G hX hbl hM g11 dL_law_1617 rfl ?_
  refine r_aload_n (np := 1619) G hl 0 rfl dL_law_1618 rfl rfl ?_
  refine r_iload (np := 1621) G hl 4 rfl dL_law_1619 rfl ?_
  refine r_iconst (np := 1622) G 2 dL_law_1621 rfl ?_
  refine r_iadd (np := 1623) G dL_law_1622 rfl ?_
  refine r_sld (np := 1624) G hX hbl hM g12 dL_law_1623 rfl ?_
  obtain ⟨b16, s17, e18, hm⟩ := call_t hm
  refine m_callVI (np := 1627) G hM hl.1 [vI ((xs (wI (v4 + 1)).toNat).toInt), vI ((xs (wI (v4 + 2)).toNat).toInt)] (qX12_many l E s14 v2 ((xs (wI (v4 + 1)).toNat).toInt) ((xs (wI (v4 + 2)).toNat).toInt) _ e18) myX12_many (shp_lt (gX12_many e18) (by decide)) (gX12_many e18) rfl (by decide) lkL_170 ⟨Nat.le_of_ble_eq_true rfl, Nat.le_of_ble_eq_true rfl⟩ ⟨by show _ ≤ 602319; omega, by show _ ≤ 7289146; omega⟩ [vI b13] rfl (Nat.le_of_ble_eq_true rfl) dL_law_1624 rfl (fun H locs hM => ?_)
  refine r_icmp_eq (np := 1630) (tgt := 1657) G rfl rfl dL_law_1627 (by decide) rfl (fun h19 => ?_) (fun h19 => ?_)
  · have hm := b_t h19 hm
    obtain ⟨a20, e21, hm⟩ := bnd_t hm
    refine r_iinc (np := 1660) G hl 4 rfl e21 [(4, vI a20), (0, .ref b), (1, .ref (eA E v1)), (2, .ref (eA E v2)), (3, .ref (eA E v3))] dL_law_1657 rfl (by decide) rfl (fun ls hl => ?_)
    refine r_goto (np := 23) G dL_law_1660 (by decide) ?_
    refine W.widen (k := 300 + (k + 1)) (n := 4000 + 6 * (k + 1)) (by omega) (by omega) ?_
    exact hc23 a20 (k + 1) (by rw [e21, hk7]; omega) (by omega) _ _ _ _ hm hM (lv_sub hl [1, 2, 3, 4, 0] rfl)
  · have hm := b_f h19 hm
    refine r_iconst (np := 1631) G 0 dL_law_1630 rfl ?_
    cases hm
    exact absurd (show (0 : Int) = 1 from hout) (by decide)
set_option maxRecDepth 100000 in
set_option maxHeartbeats 4000000 in
theorem wL_law_B1558 (l : Launch) (hst : l.stackTraces = false) (E : mE) (out : Int × mSt) (hout : out.1 = 1) {p : Program} {e : Env} {s : State} {m : MethodId} {below : List Frame} {meth : Method} {c : Code} {b : Nat} (xs : Nat → Int32) (L : Nat) (hL : L ≤ 3584) (G : CallFix p m c code 8 s #[Value.ref b] mTs RL) (hr : meth.sig.returnType = ret) (hk : meth.locks = false) (hX : va_X b L xs s s.heap) (hbl : b < s.heap.size) (v1 : Nat) (v2 : Nat) (v3 : Nat) (c23 : Int → mSt → Option (Int × mSt)) (x1663 : mSt → Option (Int × mSt)) (hc23 : ∀ (v4 : Int) (k : Nat) (hk7 : v4 = 7 * (k : Int)) (hk5 : k ≤ 512) (σ : mSt) (H : Heap) (locs : List Loc) (ls : Array Slot), c23 v4 σ = some out → mM (fun q => s.heap.size ≤ q) E 276 σ s H locs → lv_has ls 8 [(0, .ref b), (1, .ref (eA E v1)), (2, .ref (eA E v2)), (3, .ref (eA E v3)), (4, vI v4)] → mGoL l p e s m b below meth c (300 + k) (4000 + 6 * k) H locs (F0 m 23 ls [])) (hx1663 : ∀ (k : Nat) (hk5 : k ≤ 512) (σ : mSt) (H : Heap) (locs : List Loc) (ls : Array Slot), x1663 σ = some out → mM (fun q => s.heap.size ≤ q) E 276 σ s H locs → lv_has ls 8 [] → mGoL l p e s m b below meth c (300 + k) (4000 + 6 * k) H locs (F0 m 1663 ls [])) : ∀ (v4 : Int) (k : Nat) (hk7 : v4 = 7 * (k : Int)) (hk5 : k ≤ 511) (σ : mSt) (H : Heap) (locs : List Loc) (ls : Array Slot), mL_law_B1558 xs L v1 v2 v3 c23 x1663 v4 σ = some out → mM (fun q => s.heap.size ≤ q) E 276 σ s H locs → lv_has ls 8 [(0, .ref b), (1, .ref (eA E v1)), (2, .ref (eA E v2)), (3, .ref (eA E v3)), (4, vI v4)] → mGoL l p e s m b below meth c (300 + k) (4000 + 6 * k) H locs (F0 m 1558 ls []) := by
  intro v4 k hk7 hk5 σ H locs ls hm hM hl
  unfold mL_law_B1558 at hm
  refine r_aload_n (np := 1559) G hl 1 rfl dL_law_1558 rfl rfl ?_
  refine r_aload_n (np := 1560) G hl 0 rfl dL_law_1559 rfl rfl ?_
  refine r_iload (np := 1562) G hl 4 rfl dL_law_1560 rfl ?_
  refine r_iconst (np := 1563) G 1 dL_law_1562 rfl ?_
  refine r_iadd (np := 1564) G dL_law_1563 rfl ?_
  obtain ⟨g22, hm⟩ := g_t hm
  refine r_sld (np := 1565) G hX hbl hM g22 dL_law_1564 rfl ?_
  refine r_aload_n (np := 1566) G hl 0 rfl dL_law_1565 rfl rfl ?_
  refine r_iload (np := 1568) G hl 4 rfl dL_law_1566 rfl ?_
  refine r_iconst (np := 1569) G 2 dL_law_1568 rfl ?_
  refine r_iadd (np := 1570) G dL_law_1569 rfl ?_
  obtain ⟨g23, hm⟩ := g_t hm
  refine r_sld (np := 1571) G hX hbl hM g23 dL_law_1570 rfl ?_
  obtain ⟨b24, s25, e26, hm⟩ := call_t hm
  refine m_callVI (np := 1574) G hM hl.1 [vI ((xs (wI (v4 + 1)).toNat).toInt), vI ((xs (wI (v4 + 2)).toNat).toInt)] (qX11_isTwoSided l E σ v1 ((xs (wI (v4 + 1)).toNat).toInt) ((xs (wI (v4 + 2)).toNat).toInt) _ e26) myX11_isTwoSided (shp_lt (gX11_isTwoSided e26) (by decide)) (gX11_isTwoSided e26) rfl (by decide) lkL_163 ⟨Nat.le_of_ble_eq_true rfl, Nat.le_of_ble_eq_true rfl⟩ ⟨by show _ ≤ 602319; omega, by show _ ≤ 7289146; omega⟩ [] rfl (Nat.le_of_ble_eq_true rfl) dL_law_1571 rfl (fun H locs hM => ?_)
  refine r_aload_n (np := 1575) G hl 2 rfl dL_law_1574 rfl rfl ?_
  refine r_aload_n (np := 1576) G hl 0 rfl dL_law_1575 rfl rfl ?_
  refine r_iload (np := 1578) G hl 4 rfl dL_law_1576 rfl ?_
  refine r_iconst (np := 1579) G 1 dL_law_1578 rfl ?_
  refine r_iadd (np := 1580) G dL_law_1579 rfl ?_
  refine r_sld (np := 1581) G hX hbl hM g22 dL_law_1580 rfl ?_
  refine r_aload_n (np := 1582) G hl 0 rfl dL_law_1581 rfl rfl ?_
  refine r_iload (np := 1584) G hl 4 rfl dL_law_1582 rfl ?_
  refine r_iconst (np := 1585) G 2 dL_law_1584 rfl ?_
  refine r_iadd (np := 1586) G dL_law_1585 rfl ?_
  refine r_sld (np := 1587) G hX hbl hM g23 dL_law_1586 rfl ?_
  obtain ⟨b27, s28, e29, hm⟩ := call_t hm
  refine m_callVI (np := 1590) G hM hl.1 [vI ((xs (wI (v4 + 1)).toNat).toInt), vI ((xs (wI (v4 + 2)).toNat).toInt)] (qX12_isTwoSided l E s25 v2 ((xs (wI (v4 + 1)).toNat).toInt) ((xs (wI (v4 + 2)).toNat).toInt) _ e29) myX12_isTwoSided (shp_lt (gX12_isTwoSided e29) (by decide)) (gX12_isTwoSided e29) rfl (by decide) lkL_166 ⟨Nat.le_of_ble_eq_true rfl, Nat.le_of_ble_eq_true rfl⟩ ⟨by show _ ≤ 602319; omega, by show _ ≤ 7289146; omega⟩ [vI b24] rfl (Nat.le_of_ble_eq_true rfl) dL_law_1587 rfl (fun H locs hM => ?_)
  refine r_icmp_eq (np := 1593) (tgt := 1657) G rfl rfl dL_law_1590 (by decide) rfl (fun h30 => ?_) (fun h30 => ?_)
  · have hm := b_t h30 hm
    obtain ⟨a31, e32, hm⟩ := bnd_t hm
    refine r_iinc (np := 1660) G hl 4 rfl e32 [(4, vI a31), (0, .ref b), (1, .ref (eA E v1)), (2, .ref (eA E v2)), (3, .ref (eA E v3))] dL_law_1657 rfl (by decide) rfl (fun ls hl => ?_)
    refine r_goto (np := 23) G dL_law_1660 (by decide) ?_
    refine W.widen (k := 300 + (k + 1)) (n := 4000 + 6 * (k + 1)) (by omega) (by omega) ?_
    exact hc23 a31 (k + 1) (by rw [e32, hk7]; omega) (by omega) _ _ _ _ hm hM (lv_sub hl [1, 2, 3, 4, 0] rfl)
  · have hm := b_f h30 hm
    refine r_iconst (np := 1594) G 0 dL_law_1593 rfl ?_
    cases hm
    exact absurd (show (0 : Int) = 1 from hout) (by decide)
set_option maxRecDepth 100000 in
set_option maxHeartbeats 4000000 in
theorem wL_law_B1509 (l : Launch) (hst : l.stackTraces = false) (E : mE) (out : Int × mSt) (hout : out.1 = 1) {p : Program} {e : Env} {s : State} {m : MethodId} {below : List Frame} {meth : Method} {c : Code} {b : Nat} (xs : Nat → Int32) (L : Nat) (hL : L ≤ 3584) (G : CallFix p m c code 8 s #[Value.ref b] mTs RL) (hr : meth.sig.returnType = ret) (hk : meth.locks = false) (hX : va_X b L xs s s.heap) (hbl : b < s.heap.size) (v1 : Nat) (v2 : Nat) (v3 : Nat) (c23 : Int → mSt → Option (Int × mSt)) (x1663 : mSt → Option (Int × mSt)) (hc23 : ∀ (v4 : Int) (k : Nat) (hk7 : v4 = 7 * (k : Int)) (hk5 : k ≤ 512) (σ : mSt) (H : Heap) (locs : List Loc) (ls : Array Slot), c23 v4 σ = some out → mM (fun q => s.heap.size ≤ q) E 276 σ s H locs → lv_has ls 8 [(0, .ref b), (1, .ref (eA E v1)), (2, .ref (eA E v2)), (3, .ref (eA E v3)), (4, vI v4)] → mGoL l p e s m b below meth c (300 + k) (4000 + 6 * k) H locs (F0 m 23 ls [])) (hx1663 : ∀ (k : Nat) (hk5 : k ≤ 512) (σ : mSt) (H : Heap) (locs : List Loc) (ls : Array Slot), x1663 σ = some out → mM (fun q => s.heap.size ≤ q) E 276 σ s H locs → lv_has ls 8 [] → mGoL l p e s m b below meth c (300 + k) (4000 + 6 * k) H locs (F0 m 1663 ls [])) : ∀ (v4 : Int) (k : Nat) (hk7 : v4 = 7 * (k : Int)) (hk5 : k ≤ 511) (σ : mSt) (H : Heap) (locs : List Loc) (ls : Array Slot), mL_law_B1509 xs L v1 v2 v3 c23 x1663 v4 σ = some out → mM (fun q => s.heap.size ≤ q) E 276 σ s H locs → lv_has ls 8 [(0, .ref b), (1, .ref (eA E v1)), (2, .ref (eA E v2)), (3, .ref (eA E v3)), (4, vI v4)] → mGoL l p e s m b below meth c (300 + k) (4000 + 6 * k) H locs (F0 m 1509 ls []) := by
  intro v4 k hk7 hk5 σ H locs ls hm hM hl
  unfold mL_law_B1509 at hm
  refine r_aload_n (np := 1510) G hl 1 rfl dL_law_1509 rfl rfl ?_
  refine r_aload_n (np := 1511) G hl 0 rfl dL_law_1510 rfl rfl ?_
  refine r_iload (np := 1513) G hl 4 rfl dL_law_1511 rfl ?_
  refine r_iconst (np := 1514) G 1 dL_law_1513 rfl ?_
  refine r_iadd (np := 1515) G dL_law_1514 rfl ?_
  obtain ⟨g33, hm⟩ := g_t hm
  refine r_sld (np := 1516) G hX hbl hM g33 dL_law_1515 rfl ?_
  refine r_aload_n (np := 1517) G hl 0 rfl dL_law_1516 rfl rfl ?_
  refine r_iload (np := 1519) G hl 4 rfl dL_law_1517 rfl ?_
  refine r_iconst (np := 1520) G 2 dL_law_1519 rfl ?_
  refine r_iadd (np := 1521) G dL_law_1520 rfl ?_
  obtain ⟨g34, hm⟩ := g_t hm
  refine r_sld (np := 1522) G hX hbl hM g34 dL_law_1521 rfl ?_
  refine r_aload_n (np := 1523) G hl 0 rfl dL_law_1522 rfl rfl ?_
  refine r_iload (np := 1525) G hl 4 rfl dL_law_1523 rfl ?_
  refine r_iconst (np := 1526) G 3 dL_law_1525 rfl ?_
  refine r_iadd (np := 1527) G dL_law_1526 rfl ?_
  obtain ⟨g35, hm⟩ := g_t hm
  refine r_sld (np := 1528) G hX hbl hM g35 dL_law_1527 rfl ?_
  obtain ⟨b36, s37, e38, hm⟩ := call_t hm
  refine m_callVI (np := 1531) G hM hl.1 [vI ((xs (wI (v4 + 1)).toNat).toInt), vI ((xs (wI (v4 + 2)).toNat).toInt), vI ((xs (wI (v4 + 3)).toNat).toInt)] (qX11_isInIdeal l E σ v1 ((xs (wI (v4 + 1)).toNat).toInt) ((xs (wI (v4 + 2)).toNat).toInt) ((xs (wI (v4 + 3)).toNat).toInt) _ e38) myX11_isInIdeal (shp_lt (gX11_isInIdeal e38) (by decide)) (gX11_isInIdeal e38) rfl (by decide) lkL_159 ⟨Nat.le_of_ble_eq_true rfl, Nat.le_of_ble_eq_true rfl⟩ ⟨by show _ ≤ 602319; omega, by show _ ≤ 7289146; omega⟩ [] rfl (Nat.le_of_ble_eq_true rfl) dL_law_1528 rfl (fun H locs hM => ?_)
  refine r_aload_n (np := 1532) G hl 2 rfl dL_law_1531 rfl rfl ?_
  refine r_aload_n (np := 1533) G hl 0 rfl dL_law_1532 rfl rfl ?_
  refine r_iload (np := 1535) G hl 4 rfl dL_law_1533 rfl ?_
  refine r_iconst (np := 1536) G 1 dL_law_1535 rfl ?_
  refine r_iadd (np := 1537) G dL_law_1536 rfl ?_
  refine r_sld (np := 1538) G hX hbl hM g33 dL_law_1537 rfl ?_
  refine r_aload_n (np := 1539) G hl 0 rfl dL_law_1538 rfl rfl ?_
  refine r_iload (np := 1541) G hl 4 rfl dL_law_1539 rfl ?_
  refine r_iconst (np := 1542) G 2 dL_law_1541 rfl ?_
  refine r_iadd (np := 1543) G dL_law_1542 rfl ?_
  refine r_sld (np := 1544) G hX hbl hM g34 dL_law_1543 rfl ?_
  refine r_aload_n (np := 1545) G hl 0 rfl dL_law_1544 rfl rfl ?_
  refine r_iload (np := 1547) G hl 4 rfl dL_law_1545 rfl ?_
  refine r_iconst (np := 1548) G 3 dL_law_1547 rfl ?_
  refine r_iadd (np := 1549) G dL_law_1548 rfl ?_
  refine r_sld (np := 1550) G hX hbl hM g35 dL_law_1549 rfl ?_
  obtain ⟨b39, s40, e41, hm⟩ := call_t hm
  refine m_callVI (np := 1553) G hM hl.1 [vI ((xs (wI (v4 + 1)).toNat).toInt), vI ((xs (wI (v4 + 2)).toNat).toInt), vI ((xs (wI (v4 + 3)).toNat).toInt)] (qX12_isInIdeal l E s37 v2 ((xs (wI (v4 + 1)).toNat).toInt) ((xs (wI (v4 + 2)).toNat).toInt) ((xs (wI (v4 + 3)).toNat).toInt) _ e41) myX12_isInIdeal (shp_lt (gX12_isInIdeal e41) (by decide)) (gX12_isInIdeal e41) rfl (by decide) lkL_162 ⟨Nat.le_of_ble_eq_true rfl, Nat.le_of_ble_eq_true rfl⟩ ⟨by show _ ≤ 602319; omega, by show _ ≤ 7289146; omega⟩ [vI b36] rfl (Nat.le_of_ble_eq_true rfl) dL_law_1550 rfl (fun H locs hM => ?_)
  refine r_icmp_eq (np := 1556) (tgt := 1657) G rfl rfl dL_law_1553 (by decide) rfl (fun h42 => ?_) (fun h42 => ?_)
  · have hm := b_t h42 hm
    obtain ⟨a43, e44, hm⟩ := bnd_t hm
    refine r_iinc (np := 1660) G hl 4 rfl e44 [(4, vI a43), (0, .ref b), (1, .ref (eA E v1)), (2, .ref (eA E v2)), (3, .ref (eA E v3))] dL_law_1657 rfl (by decide) rfl (fun ls hl => ?_)
    refine r_goto (np := 23) G dL_law_1660 (by decide) ?_
    refine W.widen (k := 300 + (k + 1)) (n := 4000 + 6 * (k + 1)) (by omega) (by omega) ?_
    exact hc23 a43 (k + 1) (by rw [e44, hk7]; omega) (by omega) _ _ _ _ hm hM (lv_sub hl [1, 2, 3, 4, 0] rfl)
  · have hm := b_f h42 hm
    refine r_iconst (np := 1557) G 0 dL_law_1556 rfl ?_
    cases hm
    exact absurd (show (0 : Int) = 1 from hout) (by decide)
set_option maxRecDepth 100000 in
set_option maxHeartbeats 4000000 in
theorem wL_law_B1471 (l : Launch) (hst : l.stackTraces = false) (E : mE) (out : Int × mSt) (hout : out.1 = 1) {p : Program} {e : Env} {s : State} {m : MethodId} {below : List Frame} {meth : Method} {c : Code} {b : Nat} (xs : Nat → Int32) (L : Nat) (hL : L ≤ 3584) (G : CallFix p m c code 8 s #[Value.ref b] mTs RL) (hr : meth.sig.returnType = ret) (hk : meth.locks = false) (hX : va_X b L xs s s.heap) (hbl : b < s.heap.size) (v1 : Nat) (v2 : Nat) (v3 : Nat) (c23 : Int → mSt → Option (Int × mSt)) (x1663 : mSt → Option (Int × mSt)) (hc23 : ∀ (v4 : Int) (k : Nat) (hk7 : v4 = 7 * (k : Int)) (hk5 : k ≤ 512) (σ : mSt) (H : Heap) (locs : List Loc) (ls : Array Slot), c23 v4 σ = some out → mM (fun q => s.heap.size ≤ q) E 276 σ s H locs → lv_has ls 8 [(0, .ref b), (1, .ref (eA E v1)), (2, .ref (eA E v2)), (3, .ref (eA E v3)), (4, vI v4)] → mGoL l p e s m b below meth c (300 + k) (4000 + 6 * k) H locs (F0 m 23 ls [])) (hx1663 : ∀ (k : Nat) (hk5 : k ≤ 512) (σ : mSt) (H : Heap) (locs : List Loc) (ls : Array Slot), x1663 σ = some out → mM (fun q => s.heap.size ≤ q) E 276 σ s H locs → lv_has ls 8 [] → mGoL l p e s m b below meth c (300 + k) (4000 + 6 * k) H locs (F0 m 1663 ls [])) : ∀ (v4 : Int) (k : Nat) (hk7 : v4 = 7 * (k : Int)) (hk5 : k ≤ 511) (σ : mSt) (H : Heap) (locs : List Loc) (ls : Array Slot), mL_law_B1471 xs L v1 v2 v3 c23 x1663 v4 σ = some out → mM (fun q => s.heap.size ≤ q) E 276 σ s H locs → lv_has ls 8 [(0, .ref b), (1, .ref (eA E v1)), (2, .ref (eA E v2)), (3, .ref (eA E v3)), (4, vI v4)] → mGoL l p e s m b below meth c (300 + k) (4000 + 6 * k) H locs (F0 m 1471 ls []) := by
  intro v4 k hk7 hk5 σ H locs ls hm hM hl
  unfold mL_law_B1471 at hm
  refine r_aload_n (np := 1472) G hl 1 rfl dL_law_1471 rfl rfl ?_
  refine r_aload_n (np := 1473) G hl 0 rfl dL_law_1472 rfl rfl ?_
  refine r_iload (np := 1475) G hl 4 rfl dL_law_1473 rfl ?_
  refine r_iconst (np := 1476) G 1 dL_law_1475 rfl ?_
  refine r_iadd (np := 1477) G dL_law_1476 rfl ?_
  obtain ⟨g45, hm⟩ := g_t hm
  refine r_sld (np := 1478) G hX hbl hM g45 dL_law_1477 rfl ?_
  refine r_aload_n (np := 1479) G hl 0 rfl dL_law_1478 rfl rfl ?_
  refine r_iload (np := 1481) G hl 4 rfl dL_law_1479 rfl ?_
  refine r_iconst (np := 1482) G 2 dL_law_1481 rfl ?_
  refine r_iadd (np := 1483) G dL_law_1482 rfl ?_
  obtain ⟨g46, hm⟩ := g_t hm
  refine r_sld (np := 1484) G hX hbl hM g46 dL_law_1483 rfl ?_
  obtain ⟨b47, s48, e49, hm⟩ := call_t hm
  refine m_callVL (np := 1487) G hM hl.1 [vI ((xs (wI (v4 + 1)).toNat).toInt), vI ((xs (wI (v4 + 2)).toNat).toInt)] (qX11_ideal l E σ v1 ((xs (wI (v4 + 1)).toNat).toInt) ((xs (wI (v4 + 2)).toNat).toInt) _ e49) myX11_ideal (shp_lt (gX11_ideal e49) (by decide)) (gX11_ideal e49) rfl (by decide) lkL_155 ⟨Nat.le_of_ble_eq_true rfl, Nat.le_of_ble_eq_true rfl⟩ ⟨by show _ ≤ 602319; omega, by show _ ≤ 7289146; omega⟩ [] rfl (Nat.le_of_ble_eq_true rfl) dL_law_1484 rfl (fun H locs hM => ?_)
  refine r_aload_n (np := 1488) G hl 2 rfl dL_law_1487 rfl rfl ?_
  refine r_aload_n (np := 1489) G hl 0 rfl dL_law_1488 rfl rfl ?_
  refine r_iload (np := 1491) G hl 4 rfl dL_law_1489 rfl ?_
  refine r_iconst (np := 1492) G 1 dL_law_1491 rfl ?_
  refine r_iadd (np := 1493) G dL_law_1492 rfl ?_
  refine r_sld (np := 1494) G hX hbl hM g45 dL_law_1493 rfl ?_
  refine r_aload_n (np := 1495) G hl 0 rfl dL_law_1494 rfl rfl ?_
  refine r_iload (np := 1497) G hl 4 rfl dL_law_1495 rfl ?_
  refine r_iconst (np := 1498) G 2 dL_law_1497 rfl ?_
  refine r_iadd (np := 1499) G dL_law_1498 rfl ?_
  refine r_sld (np := 1500) G hX hbl hM g46 dL_law_1499 rfl ?_
  obtain ⟨b50, s51, e52, hm⟩ := call_t hm
  refine m_callVL (np := 1503) G hM hl.1 [vI ((xs (wI (v4 + 1)).toNat).toInt), vI ((xs (wI (v4 + 2)).toNat).toInt)] (qX12_ideal l E s48 v2 ((xs (wI (v4 + 1)).toNat).toInt) ((xs (wI (v4 + 2)).toNat).toInt) _ e52) myX12_ideal (shp_lt (gX12_ideal e52) (by decide)) (gX12_ideal e52) rfl (by decide) lkL_158 ⟨Nat.le_of_ble_eq_true rfl, Nat.le_of_ble_eq_true rfl⟩ ⟨by show _ ≤ 602319; omega, by show _ ≤ 7289146; omega⟩ [vL b47] rfl (Nat.le_of_ble_eq_true rfl) dL_law_1500 rfl (fun H locs hM => ?_)
  refine r_lcmp_eq (np := 1507) (tgt := 1657) G rfl rfl dL_law_1503 dL_law_1504 (by decide) rfl (fun h53 => ?_) (fun h53 => ?_)
  · have hm := b_t h53 hm
    obtain ⟨a54, e55, hm⟩ := bnd_t hm
    refine r_iinc (np := 1660) G hl 4 rfl e55 [(4, vI a54), (0, .ref b), (1, .ref (eA E v1)), (2, .ref (eA E v2)), (3, .ref (eA E v3))] dL_law_1657 rfl (by decide) rfl (fun ls hl => ?_)
    refine r_goto (np := 23) G dL_law_1660 (by decide) ?_
    refine W.widen (k := 300 + (k + 1)) (n := 4000 + 6 * (k + 1)) (by omega) (by omega) ?_
    exact hc23 a54 (k + 1) (by rw [e55, hk7]; omega) (by omega) _ _ _ _ hm hM (lv_sub hl [1, 2, 3, 4, 0] rfl)
  · have hm := b_f h53 hm
    refine r_iconst (np := 1508) G 0 dL_law_1507 rfl ?_
    cases hm
    exact absurd (show (0 : Int) = 1 from hout) (by decide)
set_option maxRecDepth 100000 in
set_option maxHeartbeats 4000000 in
theorem wL_law_B1446 (l : Launch) (hst : l.stackTraces = false) (E : mE) (out : Int × mSt) (hout : out.1 = 1) {p : Program} {e : Env} {s : State} {m : MethodId} {below : List Frame} {meth : Method} {c : Code} {b : Nat} (xs : Nat → Int32) (L : Nat) (hL : L ≤ 3584) (G : CallFix p m c code 8 s #[Value.ref b] mTs RL) (hr : meth.sig.returnType = ret) (hk : meth.locks = false) (hX : va_X b L xs s s.heap) (hbl : b < s.heap.size) (v1 : Nat) (v2 : Nat) (v3 : Nat) (c23 : Int → mSt → Option (Int × mSt)) (x1663 : mSt → Option (Int × mSt)) (hc23 : ∀ (v4 : Int) (k : Nat) (hk7 : v4 = 7 * (k : Int)) (hk5 : k ≤ 512) (σ : mSt) (H : Heap) (locs : List Loc) (ls : Array Slot), c23 v4 σ = some out → mM (fun q => s.heap.size ≤ q) E 276 σ s H locs → lv_has ls 8 [(0, .ref b), (1, .ref (eA E v1)), (2, .ref (eA E v2)), (3, .ref (eA E v3)), (4, vI v4)] → mGoL l p e s m b below meth c (300 + k) (4000 + 6 * k) H locs (F0 m 23 ls [])) (hx1663 : ∀ (k : Nat) (hk5 : k ≤ 512) (σ : mSt) (H : Heap) (locs : List Loc) (ls : Array Slot), x1663 σ = some out → mM (fun q => s.heap.size ≤ q) E 276 σ s H locs → lv_has ls 8 [] → mGoL l p e s m b below meth c (300 + k) (4000 + 6 * k) H locs (F0 m 1663 ls [])) : ∀ (v4 : Int) (k : Nat) (hk7 : v4 = 7 * (k : Int)) (hk5 : k ≤ 511) (σ : mSt) (H : Heap) (locs : List Loc) (ls : Array Slot), mL_law_B1446 xs L v1 v2 v3 c23 x1663 v4 σ = some out → mM (fun q => s.heap.size ≤ q) E 276 σ s H locs → lv_has ls 8 [(0, .ref b), (1, .ref (eA E v1)), (2, .ref (eA E v2)), (3, .ref (eA E v3)), (4, vI v4)] → mGoL l p e s m b below meth c (300 + k) (4000 + 6 * k) H locs (F0 m 1446 ls []) := by
  intro v4 k hk7 hk5 σ H locs ls hm hM hl
  unfold mL_law_B1446 at hm
  refine r_aload_n (np := 1447) G hl 1 rfl dL_law_1446 rfl rfl ?_
  refine r_aload_n (np := 1448) G hl 0 rfl dL_law_1447 rfl rfl ?_
  refine r_iload (np := 1450) G hl 4 rfl dL_law_1448 rfl ?_
  refine r_iconst (np := 1451) G 1 dL_law_1450 rfl ?_
  refine r_iadd (np := 1452) G dL_law_1451 rfl ?_
  obtain ⟨g56, hm⟩ := g_t hm
  refine r_sld (np := 1453) G hX hbl hM g56 dL_law_1452 rfl ?_
  obtain ⟨b57, s58, e59, hm⟩ := call_t hm
  refine m_callVI (np := 1456) G hM hl.1 [vI ((xs (wI (v4 + 1)).toNat).toInt)] (qX11_isIn l E σ v1 ((xs (wI (v4 + 1)).toNat).toInt) _ e59) myX11_isIn (shp_lt (gX11_isIn e59) (by decide)) (gX11_isIn e59) rfl (by decide) lkL_151 ⟨Nat.le_of_ble_eq_true rfl, Nat.le_of_ble_eq_true rfl⟩ ⟨by show _ ≤ 602319; omega, by show _ ≤ 7289146; omega⟩ [] rfl (Nat.le_of_ble_eq_true rfl) dL_law_1453 rfl (fun H locs hM => ?_)
  refine r_aload_n (np := 1457) G hl 2 rfl dL_law_1456 rfl rfl ?_
  refine r_aload_n (np := 1458) G hl 0 rfl dL_law_1457 rfl rfl ?_
  refine r_iload (np := 1460) G hl 4 rfl dL_law_1458 rfl ?_
  refine r_iconst (np := 1461) G 1 dL_law_1460 rfl ?_
  refine r_iadd (np := 1462) G dL_law_1461 rfl ?_
  refine r_sld (np := 1463) G hX hbl hM g56 dL_law_1462 rfl ?_
  obtain ⟨b60, s61, e62, hm⟩ := call_t hm
  refine m_callVI (np := 1466) G hM hl.1 [vI ((xs (wI (v4 + 1)).toNat).toInt)] (qX12_isIn l E s58 v2 ((xs (wI (v4 + 1)).toNat).toInt) _ e62) myX12_isIn (shp_lt (gX12_isIn e62) (by decide)) (gX12_isIn e62) rfl (by decide) lkL_154 ⟨Nat.le_of_ble_eq_true rfl, Nat.le_of_ble_eq_true rfl⟩ ⟨by show _ ≤ 602319; omega, by show _ ≤ 7289146; omega⟩ [vI b57] rfl (Nat.le_of_ble_eq_true rfl) dL_law_1463 rfl (fun H locs hM => ?_)
  refine r_icmp_eq (np := 1469) (tgt := 1657) G rfl rfl dL_law_1466 (by decide) rfl (fun h63 => ?_) (fun h63 => ?_)
  · have hm := b_t h63 hm
    obtain ⟨a64, e65, hm⟩ := bnd_t hm
    refine r_iinc (np := 1660) G hl 4 rfl e65 [(4, vI a64), (0, .ref b), (1, .ref (eA E v1)), (2, .ref (eA E v2)), (3, .ref (eA E v3))] dL_law_1657 rfl (by decide) rfl (fun ls hl => ?_)
    refine r_goto (np := 23) G dL_law_1660 (by decide) ?_
    refine W.widen (k := 300 + (k + 1)) (n := 4000 + 6 * (k + 1)) (by omega) (by omega) ?_
    exact hc23 a64 (k + 1) (by rw [e65, hk7]; omega) (by omega) _ _ _ _ hm hM (lv_sub hl [1, 2, 3, 4, 0] rfl)
  · have hm := b_f h63 hm
    refine r_iconst (np := 1470) G 0 dL_law_1469 rfl ?_
    cases hm
    exact absurd (show (0 : Int) = 1 from hout) (by decide)
set_option maxRecDepth 100000 in
set_option maxHeartbeats 4000000 in
theorem wL_law_B1354 (l : Launch) (hst : l.stackTraces = false) (E : mE) (out : Int × mSt) (hout : out.1 = 1) {p : Program} {e : Env} {s : State} {m : MethodId} {below : List Frame} {meth : Method} {c : Code} {b : Nat} (xs : Nat → Int32) (L : Nat) (hL : L ≤ 3584) (G : CallFix p m c code 8 s #[Value.ref b] mTs RL) (hr : meth.sig.returnType = ret) (hk : meth.locks = false) (hX : va_X b L xs s s.heap) (hbl : b < s.heap.size) (v1 : Nat) (v2 : Nat) (v3 : Nat) (c23 : Int → mSt → Option (Int × mSt)) (x1663 : mSt → Option (Int × mSt)) (hc23 : ∀ (v4 : Int) (k : Nat) (hk7 : v4 = 7 * (k : Int)) (hk5 : k ≤ 512) (σ : mSt) (H : Heap) (locs : List Loc) (ls : Array Slot), c23 v4 σ = some out → mM (fun q => s.heap.size ≤ q) E 276 σ s H locs → lv_has ls 8 [(0, .ref b), (1, .ref (eA E v1)), (2, .ref (eA E v2)), (3, .ref (eA E v3)), (4, vI v4)] → mGoL l p e s m b below meth c (300 + k) (4000 + 6 * k) H locs (F0 m 23 ls [])) (hx1663 : ∀ (k : Nat) (hk5 : k ≤ 512) (σ : mSt) (H : Heap) (locs : List Loc) (ls : Array Slot), x1663 σ = some out → mM (fun q => s.heap.size ≤ q) E 276 σ s H locs → lv_has ls 8 [] → mGoL l p e s m b below meth c (300 + k) (4000 + 6 * k) H locs (F0 m 1663 ls [])) : ∀ (v4 : Int) (k : Nat) (hk7 : v4 = 7 * (k : Int)) (hk5 : k ≤ 511) (σ : mSt) (H : Heap) (locs : List Loc) (ls : Array Slot), mL_law_B1354 xs L v1 v2 v3 c23 x1663 v4 σ = some out → mM (fun q => s.heap.size ≤ q) E 276 σ s H locs → lv_has ls 8 [(0, .ref b), (1, .ref (eA E v1)), (2, .ref (eA E v2)), (3, .ref (eA E v3)), (4, vI v4)] → mGoL l p e s m b below meth c (300 + k) (4000 + 6 * k) H locs (F0 m 1354 ls []) := by
  intro v4 k hk7 hk5 σ H locs ls hm hM hl
  unfold mL_law_B1354 at hm
  refine r_aload_n (np := 1355) G hl 1 rfl dL_law_1354 rfl rfl ?_
  refine r_aload_n (np := 1356) G hl 0 rfl dL_law_1355 rfl rfl ?_
  refine r_iload (np := 1358) G hl 4 rfl dL_law_1356 rfl ?_
  refine r_iconst (np := 1359) G 1 dL_law_1358 rfl ?_
  refine r_iadd (np := 1360) G dL_law_1359 rfl ?_
  obtain ⟨g66, hm⟩ := g_t hm
  refine r_sld (np := 1361) G hX hbl hM g66 dL_law_1360 rfl ?_
  refine r_aload_n (np := 1362) G hl 0 rfl dL_law_1361 rfl rfl ?_
  refine r_iload (np := 1364) G hl 4 rfl dL_law_1362 rfl ?_
  refine r_iconst (np := 1365) G 2 dL_law_1364 rfl ?_
  refine r_iadd (np := 1366) G dL_law_1365 rfl ?_
  obtain ⟨g67, hm⟩ := g_t hm
  refine r_sld (np := 1367) G hX hbl hM g67 dL_law_1366 rfl ?_
  refine r_aload_n (np := 1368) G hl 0 rfl dL_law_1367 rfl rfl ?_
  refine r_iload (np := 1370) G hl 4 rfl dL_law_1368 rfl ?_
  refine r_iconst (np := 1371) G 3 dL_law_1370 rfl ?_
  refine r_iadd (np := 1372) G dL_law_1371 rfl ?_
  obtain ⟨g68, hm⟩ := g_t hm
  refine r_sld (np := 1373) G hX hbl hM g68 dL_law_1372 rfl ?_
  refine r_aload_n (np := 1374) G hl 0 rfl dL_law_1373 rfl rfl ?_
  refine r_iload (np := 1376) G hl 4 rfl dL_law_1374 rfl ?_
  refine r_iconst (np := 1377) G 4 dL_law_1376 rfl ?_
  refine r_iadd (np := 1378) G dL_law_1377 rfl ?_
  obtain ⟨g69, hm⟩ := g_t hm
  refine r_sld (np := 1379) G hX hbl hM g69 dL_law_1378 rfl ?_
  refine r_aload_n (np := 1380) G hl 3 rfl dL_law_1379 rfl rfl ?_
  obtain ⟨b70, s71, e72, hm⟩ := call_t hm
  refine m_wcall (np := 1383) G hM hl.1 [.ref (eA E v1), vI ((xs (wI (v4 + 1)).toNat).toInt), vI ((xs (wI (v4 + 2)).toNat).toInt), vI ((xs (wI (v4 + 3)).toNat).toInt), vI ((xs (wI (v4 + 4)).toNat).toInt), .ref (eA E v3)] (qL_table l hst E σ v1 ((xs (wI (v4 + 1)).toNat).toInt) ((xs (wI (v4 + 2)).toNat).toInt) ((xs (wI (v4 + 3)).toNat).toInt) ((xs (wI (v4 + 4)).toNat).toInt) v3 _ e72) myL_table lkL_148 ⟨Nat.le_of_ble_eq_true rfl, Nat.le_of_ble_eq_true rfl⟩ ⟨by show _ ≤ 602319; omega, by show _ ≤ 7289146; omega⟩ [] rfl (Nat.le_of_ble_eq_true rfl) dL_law_1380 rfl (fun H locs hM => ?_)
  refine r_istore (np := 1385) G hl rfl [(5, vI b70), (0, .ref b), (1, .ref (eA E v1)), (2, .ref (eA E v2)), (3, .ref (eA E v3)), (4, vI v4)] dL_law_1383 rfl (by decide) rfl (fun ls hl => ?_)
  refine r_aload_n (np := 1386) G hl 3 rfl dL_law_1385 rfl rfl ?_
  refine r_aload_n (np := 1387) G hl 1 rfl dL_law_1386 rfl rfl ?_
  refine r_iload (np := 1389) G hl 5 rfl dL_law_1387 rfl ?_
  refine r_iconst (np := 1390) G 1 dL_law_1389 rfl ?_
  refine r_iadd (np := 1391) G dL_law_1390 rfl ?_
  refine r_sld (np := 1392) G hX hbl hM g66 dL_law_1391 rfl ?_
  refine r_aload_n (np := 1393) G hl 1 rfl dL_law_1392 rfl rfl ?_
  refine r_iload (np := 1395) G hl 5 rfl dL_law_1393 rfl ?_
  refine r_iconst (np := 1396) G 2 dL_law_1395 rfl ?_
  refine r_iadd (np := 1397) G dL_law_1396 rfl ?_
  refine r_sld (np := 1398) G hX hbl hM g67 dL_law_1397 rfl ?_
  refine r_aload_n (np := 1399) G hl 1 rfl dL_law_1398 rfl rfl ?_
  refine r_iload (np := 1401) G hl 5 rfl dL_law_1399 rfl ?_
  refine r_iconst (np := 1402) G 3 dL_law_1401 rfl ?_
  refine r_iadd (np := 1403) G dL_law_1402 rfl ?_
  refine r_sld (np := 1404) G hX hbl hM g68 dL_law_1403 rfl ?_
  refine r_aload_n (np := 1405) G hl 1 rfl dL_law_1404 rfl rfl ?_
  refine r_iload (np := 1407) G hl 5 rfl dL_law_1405 rfl ?_
  refine r_iconst (np := 1408) G 4 dL_law_1407 rfl ?_
  refine r_iadd (np := 1409) G dL_law_1408 rfl ?_
  refine r_sld (np := 1410) G hX hbl hM g69 dL_law_1409 rfl ?_
  obtain ⟨b73, s74, e75, hm⟩ := call_t hm
  refine m_callVI (np := 1413) G hM hl.1 [vI ((xs (wI (v4 + 1)).toNat).toInt), vI ((xs (wI (v4 + 2)).toNat).toInt), vI ((xs (wI (v4 + 3)).toNat).toInt), vI ((xs (wI (v4 + 4)).toNat).toInt)] (qX12_table l E s71 v2 ((xs (wI (v4 + 1)).toNat).toInt) ((xs (wI (v4 + 2)).toNat).toInt) ((xs (wI (v4 + 3)).toNat).toInt) ((xs (wI (v4 + 4)).toNat).toInt) _ e75) myX12_table (shp_lt (gX12_table e75) (by decide)) (gX12_table e75) rfl (by decide) lkL_150 ⟨Nat.le_of_ble_eq_true rfl, Nat.le_of_ble_eq_true rfl⟩ ⟨by show _ ≤ 602319; omega, by show _ ≤ 7289146; omega⟩ [] rfl (Nat.le_of_ble_eq_true rfl) dL_law_1410 rfl (fun H locs hM => ?_)
  refine r_istore (np := 1415) G hl rfl [(6, vI b73), (5, vI b70), (0, .ref b), (1, .ref (eA E v1)), (2, .ref (eA E v2)), (3, .ref (eA E v3)), (4, vI v4)] dL_law_1413 rfl (by decide) rfl (fun ls hl => ?_)
  refine r_aload_n (np := 1416) G hl 4 rfl dL_law_1415 rfl rfl ?_
  obtain ⟨b76, s77, e78, hm⟩ := call_t hm
  refine m_callVI (np := 1419) G hM hl.1 [] (qX12_thrown l E s74 v2 _ e78) myX12_thrown (shp_lt (gX12_thrown e78) (by decide)) (gX12_thrown e78) rfl (by decide) lkL_57 ⟨Nat.le_of_ble_eq_true rfl, Nat.le_of_ble_eq_true rfl⟩ ⟨by show _ ≤ 602319; omega, by show _ ≤ 7289146; omega⟩ [] rfl (Nat.le_of_ble_eq_true rfl) dL_law_1416 rfl (fun H locs hM => ?_)
  refine r_iload (np := 1421) G hl 1 rfl dL_law_1419 rfl ?_
  refine r_icmp_eq (np := 1424) (tgt := 1426) G rfl rfl dL_law_1421 (by decide) rfl (fun h79 => ?_) (fun h79 => ?_)
  · have hm := b_t h79 hm
    refine r_iload (np := 1428) G hl 1 rfl dL_law_1426 rfl ?_
    refine r_if_ne (np := 1431) (tgt := 1443) G rfl dL_law_1428 (by decide) rfl (fun h80 => ?_) (fun h80 => ?_)
    · have hm := b_f h80 hm
      refine r_goto (np := 1657) G dL_law_1443 (by decide) ?_
      obtain ⟨a81, e82, hm⟩ := bnd_t hm
      refine r_iinc (np := 1660) G hl 6 rfl e82 [(4, vI a81), (6, vI b73), (5, vI b70), (0, .ref b), (1, .ref (eA E v1)), (2, .ref (eA E v2)), (3, .ref (eA E v3))] dL_law_1657 rfl (by decide) rfl (fun ls hl => ?_)
      refine r_goto (np := 23) G dL_law_1660 (by decide) ?_
      refine W.widen (k := 300 + (k + 1)) (n := 4000 + 6 * (k + 1)) (by omega) (by omega) ?_
      exact hc23 a81 (k + 1) (by rw [e82, hk7]; omega) (by omega) _ _ _ _ hm hM (lv_sub hl [3, 4, 5, 6, 0] rfl)
    · have hm := b_t h80 hm
      refine r_aload_n (np := 1432) G hl 5 rfl dL_law_1431 rfl rfl ?_
      refine r_iconst (np := 1433) G 0 dL_law_1432 rfl ?_
      obtain ⟨g83, hm⟩ := g_t hm
      refine r_laload (np := 1434) G hM g83 rfl dL_law_1433 rfl ?_
      refine r_iload (np := 1436) G hl 0 rfl dL_law_1434 rfl ?_
      refine r_i2l (np := 1437) G rfl dL_law_1436 rfl ?_
      refine r_lcmp_eq (np := 1441) (tgt := 1443) G rfl rfl dL_law_1437 dL_law_1438 (by decide) rfl (fun h84 => ?_) (fun h84 => ?_)
      · have hm := b_t h84 hm
        refine r_goto (np := 1657) G dL_law_1443 (by decide) ?_
        obtain ⟨a85, e86, hm⟩ := bnd_t hm
        refine r_iinc (np := 1660) G hl 6 rfl e86 [(4, vI a85), (6, vI b73), (5, vI b70), (0, .ref b), (1, .ref (eA E v1)), (2, .ref (eA E v2)), (3, .ref (eA E v3))] dL_law_1657 rfl (by decide) rfl (fun ls hl => ?_)
        refine r_goto (np := 23) G dL_law_1660 (by decide) ?_
        refine W.widen (k := 300 + (k + 1)) (n := 4000 + 6 * (k + 1)) (by omega) (by omega) ?_
        exact hc23 a85 (k + 1) (by rw [e86, hk7]; omega) (by omega) _ _ _ _ hm hM (lv_sub hl [3, 4, 5, 6, 0] rfl)
      · have hm := b_f h84 hm
        refine r_iconst (np := 1442) G 0 dL_law_1441 rfl ?_
        cases hm
        exact absurd (show (0 : Int) = 1 from hout) (by decide)
  · have hm := b_f h79 hm
    refine r_iconst (np := 1425) G 0 dL_law_1424 rfl ?_
    cases hm
    exact absurd (show (0 : Int) = 1 from hout) (by decide)
set_option maxRecDepth 100000 in
set_option maxHeartbeats 4000000 in
theorem wL_law_B1329 (l : Launch) (hst : l.stackTraces = false) (E : mE) (out : Int × mSt) (hout : out.1 = 1) {p : Program} {e : Env} {s : State} {m : MethodId} {below : List Frame} {meth : Method} {c : Code} {b : Nat} (xs : Nat → Int32) (L : Nat) (hL : L ≤ 3584) (G : CallFix p m c code 8 s #[Value.ref b] mTs RL) (hr : meth.sig.returnType = ret) (hk : meth.locks = false) (hX : va_X b L xs s s.heap) (hbl : b < s.heap.size) (v1 : Nat) (v2 : Nat) (v3 : Nat) (c23 : Int → mSt → Option (Int × mSt)) (x1663 : mSt → Option (Int × mSt)) (hc23 : ∀ (v4 : Int) (k : Nat) (hk7 : v4 = 7 * (k : Int)) (hk5 : k ≤ 512) (σ : mSt) (H : Heap) (locs : List Loc) (ls : Array Slot), c23 v4 σ = some out → mM (fun q => s.heap.size ≤ q) E 276 σ s H locs → lv_has ls 8 [(0, .ref b), (1, .ref (eA E v1)), (2, .ref (eA E v2)), (3, .ref (eA E v3)), (4, vI v4)] → mGoL l p e s m b below meth c (300 + k) (4000 + 6 * k) H locs (F0 m 23 ls [])) (hx1663 : ∀ (k : Nat) (hk5 : k ≤ 512) (σ : mSt) (H : Heap) (locs : List Loc) (ls : Array Slot), x1663 σ = some out → mM (fun q => s.heap.size ≤ q) E 276 σ s H locs → lv_has ls 8 [] → mGoL l p e s m b below meth c (300 + k) (4000 + 6 * k) H locs (F0 m 1663 ls [])) : ∀ (v4 : Int) (k : Nat) (hk7 : v4 = 7 * (k : Int)) (hk5 : k ≤ 511) (σ : mSt) (H : Heap) (locs : List Loc) (ls : Array Slot), mL_law_B1329 xs L v1 v2 v3 c23 x1663 v4 σ = some out → mM (fun q => s.heap.size ≤ q) E 276 σ s H locs → lv_has ls 8 [(0, .ref b), (1, .ref (eA E v1)), (2, .ref (eA E v2)), (3, .ref (eA E v3)), (4, vI v4)] → mGoL l p e s m b below meth c (300 + k) (4000 + 6 * k) H locs (F0 m 1329 ls []) := by
  intro v4 k hk7 hk5 σ H locs ls hm hM hl
  unfold mL_law_B1329 at hm
  refine r_aload_n (np := 1330) G hl 1 rfl dL_law_1329 rfl rfl ?_
  refine r_aload_n (np := 1331) G hl 0 rfl dL_law_1330 rfl rfl ?_
  refine r_iload (np := 1333) G hl 4 rfl dL_law_1331 rfl ?_
  refine r_iconst (np := 1334) G 1 dL_law_1333 rfl ?_
  refine r_iadd (np := 1335) G dL_law_1334 rfl ?_
  obtain ⟨g87, hm⟩ := g_t hm
  refine r_sld (np := 1336) G hX hbl hM g87 dL_law_1335 rfl ?_
  obtain ⟨b88, s89, e90, hm⟩ := call_t hm
  refine m_callVI (np := 1339) G hM hl.1 [vI ((xs (wI (v4 + 1)).toNat).toInt)] (qX11_plain l E σ v1 ((xs (wI (v4 + 1)).toNat).toInt) _ e90) myX11_plain (shp_lt (gX11_plain e90) (by decide)) (gX11_plain e90) rfl (by decide) lkL_143 ⟨Nat.le_of_ble_eq_true rfl, Nat.le_of_ble_eq_true rfl⟩ ⟨by show _ ≤ 602319; omega, by show _ ≤ 7289146; omega⟩ [] rfl (Nat.le_of_ble_eq_true rfl) dL_law_1336 rfl (fun H locs hM => ?_)
  refine r_aload_n (np := 1340) G hl 2 rfl dL_law_1339 rfl rfl ?_
  refine r_aload_n (np := 1341) G hl 0 rfl dL_law_1340 rfl rfl ?_
  refine r_iload (np := 1343) G hl 4 rfl dL_law_1341 rfl ?_
  refine r_iconst (np := 1344) G 1 dL_law_1343 rfl ?_
  refine r_iadd (np := 1345) G dL_law_1344 rfl ?_
  refine r_sld (np := 1346) G hX hbl hM g87 dL_law_1345 rfl ?_
  obtain ⟨b91, s92, e93, hm⟩ := call_t hm
  refine m_callVI (np := 1349) G hM hl.1 [vI ((xs (wI (v4 + 1)).toNat).toInt)] (qX12_plain l E s89 v2 ((xs (wI (v4 + 1)).toNat).toInt) _ e93) myX12_plain (shp_lt (gX12_plain e93) (by decide)) (gX12_plain e93) rfl (by decide) lkL_147 ⟨Nat.le_of_ble_eq_true rfl, Nat.le_of_ble_eq_true rfl⟩ ⟨by show _ ≤ 602319; omega, by show _ ≤ 7289146; omega⟩ [vI b88] rfl (Nat.le_of_ble_eq_true rfl) dL_law_1346 rfl (fun H locs hM => ?_)
  refine r_icmp_eq (np := 1352) (tgt := 1657) G rfl rfl dL_law_1349 (by decide) rfl (fun h94 => ?_) (fun h94 => ?_)
  · have hm := b_t h94 hm
    obtain ⟨a95, e96, hm⟩ := bnd_t hm
    refine r_iinc (np := 1660) G hl 4 rfl e96 [(4, vI a95), (0, .ref b), (1, .ref (eA E v1)), (2, .ref (eA E v2)), (3, .ref (eA E v3))] dL_law_1657 rfl (by decide) rfl (fun ls hl => ?_)
    refine r_goto (np := 23) G dL_law_1660 (by decide) ?_
    refine W.widen (k := 300 + (k + 1)) (n := 4000 + 6 * (k + 1)) (by omega) (by omega) ?_
    exact hc23 a95 (k + 1) (by rw [e96, hk7]; omega) (by omega) _ _ _ _ hm hM (lv_sub hl [1, 2, 3, 4, 0] rfl)
  · have hm := b_f h94 hm
    refine r_iconst (np := 1353) G 0 dL_law_1352 rfl ?_
    cases hm
    exact absurd (show (0 : Int) = 1 from hout) (by decide)
set_option maxRecDepth 100000 in
set_option maxHeartbeats 4000000 in
theorem wL_law_B1304 (l : Launch) (hst : l.stackTraces = false) (E : mE) (out : Int × mSt) (hout : out.1 = 1) {p : Program} {e : Env} {s : State} {m : MethodId} {below : List Frame} {meth : Method} {c : Code} {b : Nat} (xs : Nat → Int32) (L : Nat) (hL : L ≤ 3584) (G : CallFix p m c code 8 s #[Value.ref b] mTs RL) (hr : meth.sig.returnType = ret) (hk : meth.locks = false) (hX : va_X b L xs s s.heap) (hbl : b < s.heap.size) (v1 : Nat) (v2 : Nat) (v3 : Nat) (c23 : Int → mSt → Option (Int × mSt)) (x1663 : mSt → Option (Int × mSt)) (hc23 : ∀ (v4 : Int) (k : Nat) (hk7 : v4 = 7 * (k : Int)) (hk5 : k ≤ 512) (σ : mSt) (H : Heap) (locs : List Loc) (ls : Array Slot), c23 v4 σ = some out → mM (fun q => s.heap.size ≤ q) E 276 σ s H locs → lv_has ls 8 [(0, .ref b), (1, .ref (eA E v1)), (2, .ref (eA E v2)), (3, .ref (eA E v3)), (4, vI v4)] → mGoL l p e s m b below meth c (300 + k) (4000 + 6 * k) H locs (F0 m 23 ls [])) (hx1663 : ∀ (k : Nat) (hk5 : k ≤ 512) (σ : mSt) (H : Heap) (locs : List Loc) (ls : Array Slot), x1663 σ = some out → mM (fun q => s.heap.size ≤ q) E 276 σ s H locs → lv_has ls 8 [] → mGoL l p e s m b below meth c (300 + k) (4000 + 6 * k) H locs (F0 m 1663 ls [])) : ∀ (v4 : Int) (k : Nat) (hk7 : v4 = 7 * (k : Int)) (hk5 : k ≤ 511) (σ : mSt) (H : Heap) (locs : List Loc) (ls : Array Slot), mL_law_B1304 xs L v1 v2 v3 c23 x1663 v4 σ = some out → mM (fun q => s.heap.size ≤ q) E 276 σ s H locs → lv_has ls 8 [(0, .ref b), (1, .ref (eA E v1)), (2, .ref (eA E v2)), (3, .ref (eA E v3)), (4, vI v4)] → mGoL l p e s m b below meth c (300 + k) (4000 + 6 * k) H locs (F0 m 1304 ls []) := by
  intro v4 k hk7 hk5 σ H locs ls hm hM hl
  unfold mL_law_B1304 at hm
  refine r_aload_n (np := 1305) G hl 1 rfl dL_law_1304 rfl rfl ?_
  refine r_aload_n (np := 1306) G hl 0 rfl dL_law_1305 rfl rfl ?_
  refine r_iload (np := 1308) G hl 4 rfl dL_law_1306 rfl ?_
  refine r_iconst (np := 1309) G 1 dL_law_1308 rfl ?_
  refine r_iadd (np := 1310) G dL_law_1309 rfl ?_
  obtain ⟨g97, hm⟩ := g_t hm
  refine r_sld (np := 1311) G hX hbl hM g97 dL_law_1310 rfl ?_
  obtain ⟨b98, s99, e100, hm⟩ := call_t hm
  refine m_callVI (np := 1314) G hM hl.1 [vI ((xs (wI (v4 + 1)).toNat).toInt)] (qX11_greatest l E σ v1 ((xs (wI (v4 + 1)).toNat).toInt) _ e100) myX11_greatest (shp_lt (gX11_greatest e100) (by decide)) (gX11_greatest e100) rfl (by decide) lkL_139 ⟨Nat.le_of_ble_eq_true rfl, Nat.le_of_ble_eq_true rfl⟩ ⟨by show _ ≤ 602319; omega, by show _ ≤ 7289146; omega⟩ [] rfl (Nat.le_of_ble_eq_true rfl) dL_law_1311 rfl (fun H locs hM => ?_)
  refine r_aload_n (np := 1315) G hl 2 rfl dL_law_1314 rfl rfl ?_
  refine r_aload_n (np := 1316) G hl 0 rfl dL_law_1315 rfl rfl ?_
  refine r_iload (np := 1318) G hl 4 rfl dL_law_1316 rfl ?_
  refine r_iconst (np := 1319) G 1 dL_law_1318 rfl ?_
  refine r_iadd (np := 1320) G dL_law_1319 rfl ?_
  refine r_sld (np := 1321) G hX hbl hM g97 dL_law_1320 rfl ?_
  obtain ⟨b101, s102, e103, hm⟩ := call_t hm
  refine m_callVI (np := 1324) G hM hl.1 [vI ((xs (wI (v4 + 1)).toNat).toInt)] (qX12_greatest l E s99 v2 ((xs (wI (v4 + 1)).toNat).toInt) _ e103) myX12_greatest (shp_lt (gX12_greatest e103) (by decide)) (gX12_greatest e103) rfl (by decide) lkL_142 ⟨Nat.le_of_ble_eq_true rfl, Nat.le_of_ble_eq_true rfl⟩ ⟨by show _ ≤ 602319; omega, by show _ ≤ 7289146; omega⟩ [vI b98] rfl (Nat.le_of_ble_eq_true rfl) dL_law_1321 rfl (fun H locs hM => ?_)
  refine r_icmp_eq (np := 1327) (tgt := 1657) G rfl rfl dL_law_1324 (by decide) rfl (fun h104 => ?_) (fun h104 => ?_)
  · have hm := b_t h104 hm
    obtain ⟨a105, e106, hm⟩ := bnd_t hm
    refine r_iinc (np := 1660) G hl 4 rfl e106 [(4, vI a105), (0, .ref b), (1, .ref (eA E v1)), (2, .ref (eA E v2)), (3, .ref (eA E v3))] dL_law_1657 rfl (by decide) rfl (fun ls hl => ?_)
    refine r_goto (np := 23) G dL_law_1660 (by decide) ?_
    refine W.widen (k := 300 + (k + 1)) (n := 4000 + 6 * (k + 1)) (by omega) (by omega) ?_
    exact hc23 a105 (k + 1) (by rw [e106, hk7]; omega) (by omega) _ _ _ _ hm hM (lv_sub hl [1, 2, 3, 4, 0] rfl)
  · have hm := b_f h104 hm
    refine r_iconst (np := 1328) G 0 dL_law_1327 rfl ?_
    cases hm
    exact absurd (show (0 : Int) = 1 from hout) (by decide)
set_option maxRecDepth 100000 in
set_option maxHeartbeats 4000000 in
theorem wL_law_B1267 (l : Launch) (hst : l.stackTraces = false) (E : mE) (out : Int × mSt) (hout : out.1 = 1) {p : Program} {e : Env} {s : State} {m : MethodId} {below : List Frame} {meth : Method} {c : Code} {b : Nat} (xs : Nat → Int32) (L : Nat) (hL : L ≤ 3584) (G : CallFix p m c code 8 s #[Value.ref b] mTs RL) (hr : meth.sig.returnType = ret) (hk : meth.locks = false) (hX : va_X b L xs s s.heap) (hbl : b < s.heap.size) (v1 : Nat) (v2 : Nat) (v3 : Nat) (c23 : Int → mSt → Option (Int × mSt)) (x1663 : mSt → Option (Int × mSt)) (hc23 : ∀ (v4 : Int) (k : Nat) (hk7 : v4 = 7 * (k : Int)) (hk5 : k ≤ 512) (σ : mSt) (H : Heap) (locs : List Loc) (ls : Array Slot), c23 v4 σ = some out → mM (fun q => s.heap.size ≤ q) E 276 σ s H locs → lv_has ls 8 [(0, .ref b), (1, .ref (eA E v1)), (2, .ref (eA E v2)), (3, .ref (eA E v3)), (4, vI v4)] → mGoL l p e s m b below meth c (300 + k) (4000 + 6 * k) H locs (F0 m 23 ls [])) (hx1663 : ∀ (k : Nat) (hk5 : k ≤ 512) (σ : mSt) (H : Heap) (locs : List Loc) (ls : Array Slot), x1663 σ = some out → mM (fun q => s.heap.size ≤ q) E 276 σ s H locs → lv_has ls 8 [] → mGoL l p e s m b below meth c (300 + k) (4000 + 6 * k) H locs (F0 m 1663 ls [])) : ∀ (v4 : Int) (k : Nat) (hk7 : v4 = 7 * (k : Int)) (hk5 : k ≤ 511) (σ : mSt) (H : Heap) (locs : List Loc) (ls : Array Slot), mL_law_B1267 xs L v1 v2 v3 c23 x1663 v4 σ = some out → mM (fun q => s.heap.size ≤ q) E 276 σ s H locs → lv_has ls 8 [(0, .ref b), (1, .ref (eA E v1)), (2, .ref (eA E v2)), (3, .ref (eA E v3)), (4, vI v4)] → mGoL l p e s m b below meth c (300 + k) (4000 + 6 * k) H locs (F0 m 1267 ls []) := by
  intro v4 k hk7 hk5 σ H locs ls hm hM hl
  unfold mL_law_B1267 at hm
  refine r_aload_n (np := 1268) G hl 1 rfl dL_law_1267 rfl rfl ?_
  refine r_aload_n (np := 1269) G hl 0 rfl dL_law_1268 rfl rfl ?_
  refine r_iload (np := 1271) G hl 4 rfl dL_law_1269 rfl ?_
  refine r_iconst (np := 1272) G 1 dL_law_1271 rfl ?_
  refine r_iadd (np := 1273) G dL_law_1272 rfl ?_
  obtain ⟨g107, hm⟩ := g_t hm
  refine r_sld (np := 1274) G hX hbl hM g107 dL_law_1273 rfl ?_
  refine r_aload_n (np := 1275) G hl 0 rfl dL_law_1274 rfl rfl ?_
  refine r_iload (np := 1277) G hl 4 rfl dL_law_1275 rfl ?_
  refine r_iconst (np := 1278) G 2 dL_law_1277 rfl ?_
  refine r_iadd (np := 1279) G dL_law_1278 rfl ?_
  obtain ⟨g108, hm⟩ := g_t hm
  refine r_sld (np := 1280) G hX hbl hM g108 dL_law_1279 rfl ?_
  obtain ⟨b109, s110, e111, hm⟩ := call_t hm
  refine m_callVI (np := 1283) G hM hl.1 [vI ((xs (wI (v4 + 1)).toNat).toInt), vI ((xs (wI (v4 + 2)).toNat).toInt)] (qX11_enlarge l E σ v1 ((xs (wI (v4 + 1)).toNat).toInt) ((xs (wI (v4 + 2)).toNat).toInt) _ e111) myX11_enlarge (shp_lt (gX11_enlarge e111) (by decide)) (gX11_enlarge e111) rfl (by decide) lkL_135 ⟨Nat.le_of_ble_eq_true rfl, Nat.le_of_ble_eq_true rfl⟩ ⟨by show _ ≤ 602319; omega, by show _ ≤ 7289146; omega⟩ [] rfl (Nat.le_of_ble_eq_true rfl) dL_law_1280 rfl (fun H locs hM => ?_)
  refine r_aload_n (np := 1284) G hl 2 rfl dL_law_1283 rfl rfl ?_
  refine r_aload_n (np := 1285) G hl 0 rfl dL_law_1284 rfl rfl ?_
  refine r_iload (np := 1287) G hl 4 rfl dL_law_1285 rfl ?_
  refine r_iconst (np := 1288) G 1 dL_law_1287 rfl ?_
  refine r_iadd (np := 1289) G dL_law_1288 rfl ?_
  refine r_sld (np := 1290) G hX hbl hM g107 dL_law_1289 rfl ?_
  refine r_aload_n (np := 1291) G hl 0 rfl dL_law_1290 rfl rfl ?_
  refine r_iload (np := 1293) G hl 4 rfl dL_law_1291 rfl ?_
  refine r_iconst (np := 1294) G 2 dL_law_1293 rfl ?_
  refine r_iadd (np := 1295) G dL_law_1294 rfl ?_
  refine r_sld (np := 1296) G hX hbl hM g108 dL_law_1295 rfl ?_
  obtain ⟨b112, s113, e114, hm⟩ := call_t hm
  refine m_callVI (np := 1299) G hM hl.1 [vI ((xs (wI (v4 + 1)).toNat).toInt), vI ((xs (wI (v4 + 2)).toNat).toInt)] (qX12_enlarge l E s110 v2 ((xs (wI (v4 + 1)).toNat).toInt) ((xs (wI (v4 + 2)).toNat).toInt) _ e114) myX12_enlarge (shp_lt (gX12_enlarge e114) (by decide)) (gX12_enlarge e114) rfl (by decide) lkL_138 ⟨Nat.le_of_ble_eq_true rfl, Nat.le_of_ble_eq_true rfl⟩ ⟨by show _ ≤ 602319; omega, by show _ ≤ 7289146; omega⟩ [vI b109] rfl (Nat.le_of_ble_eq_true rfl) dL_law_1296 rfl (fun H locs hM => ?_)
  refine r_icmp_eq (np := 1302) (tgt := 1657) G rfl rfl dL_law_1299 (by decide) rfl (fun h115 => ?_) (fun h115 => ?_)
  · have hm := b_t h115 hm
    obtain ⟨a116, e117, hm⟩ := bnd_t hm
    refine r_iinc (np := 1660) G hl 4 rfl e117 [(4, vI a116), (0, .ref b), (1, .ref (eA E v1)), (2, .ref (eA E v2)), (3, .ref (eA E v3))] dL_law_1657 rfl (by decide) rfl (fun ls hl => ?_)
    refine r_goto (np := 23) G dL_law_1660 (by decide) ?_
    refine W.widen (k := 300 + (k + 1)) (n := 4000 + 6 * (k + 1)) (by omega) (by omega) ?_
    exact hc23 a116 (k + 1) (by rw [e117, hk7]; omega) (by omega) _ _ _ _ hm hM (lv_sub hl [1, 2, 3, 4, 0] rfl)
  · have hm := b_f h115 hm
    refine r_iconst (np := 1303) G 0 dL_law_1302 rfl ?_
    cases hm
    exact absurd (show (0 : Int) = 1 from hout) (by decide)
set_option maxRecDepth 100000 in
set_option maxHeartbeats 4000000 in
theorem wL_law_B1187 (l : Launch) (hst : l.stackTraces = false) (E : mE) (out : Int × mSt) (hout : out.1 = 1) {p : Program} {e : Env} {s : State} {m : MethodId} {below : List Frame} {meth : Method} {c : Code} {b : Nat} (xs : Nat → Int32) (L : Nat) (hL : L ≤ 3584) (G : CallFix p m c code 8 s #[Value.ref b] mTs RL) (hr : meth.sig.returnType = ret) (hk : meth.locks = false) (hX : va_X b L xs s s.heap) (hbl : b < s.heap.size) (v1 : Nat) (v2 : Nat) (v3 : Nat) (c23 : Int → mSt → Option (Int × mSt)) (x1663 : mSt → Option (Int × mSt)) (hc23 : ∀ (v4 : Int) (k : Nat) (hk7 : v4 = 7 * (k : Int)) (hk5 : k ≤ 512) (σ : mSt) (H : Heap) (locs : List Loc) (ls : Array Slot), c23 v4 σ = some out → mM (fun q => s.heap.size ≤ q) E 276 σ s H locs → lv_has ls 8 [(0, .ref b), (1, .ref (eA E v1)), (2, .ref (eA E v2)), (3, .ref (eA E v3)), (4, vI v4)] → mGoL l p e s m b below meth c (300 + k) (4000 + 6 * k) H locs (F0 m 23 ls [])) (hx1663 : ∀ (k : Nat) (hk5 : k ≤ 512) (σ : mSt) (H : Heap) (locs : List Loc) (ls : Array Slot), x1663 σ = some out → mM (fun q => s.heap.size ≤ q) E 276 σ s H locs → lv_has ls 8 [] → mGoL l p e s m b below meth c (300 + k) (4000 + 6 * k) H locs (F0 m 1663 ls [])) : ∀ (v4 : Int) (k : Nat) (hk7 : v4 = 7 * (k : Int)) (hk5 : k ≤ 511) (σ : mSt) (H : Heap) (locs : List Loc) (ls : Array Slot), mL_law_B1187 xs L v1 v2 v3 c23 x1663 v4 σ = some out → mM (fun q => s.heap.size ≤ q) E 276 σ s H locs → lv_has ls 8 [(0, .ref b), (1, .ref (eA E v1)), (2, .ref (eA E v2)), (3, .ref (eA E v3)), (4, vI v4)] → mGoL l p e s m b below meth c (300 + k) (4000 + 6 * k) H locs (F0 m 1187 ls []) := by
  intro v4 k hk7 hk5 σ H locs ls hm hM hl
  unfold mL_law_B1187 at hm
  refine r_aload_n (np := 1188) G hl 1 rfl dL_law_1187 rfl rfl ?_
  refine r_aload_n (np := 1189) G hl 0 rfl dL_law_1188 rfl rfl ?_
  refine r_iload (np := 1191) G hl 4 rfl dL_law_1189 rfl ?_
  refine r_iconst (np := 1192) G 1 dL_law_1191 rfl ?_
  refine r_iadd (np := 1193) G dL_law_1192 rfl ?_
  obtain ⟨g118, hm⟩ := g_t hm
  refine r_sld (np := 1194) G hX hbl hM g118 dL_law_1193 rfl ?_
  refine r_aload_n (np := 1195) G hl 0 rfl dL_law_1194 rfl rfl ?_
  refine r_iload (np := 1197) G hl 4 rfl dL_law_1195 rfl ?_
  refine r_iconst (np := 1198) G 2 dL_law_1197 rfl ?_
  refine r_iadd (np := 1199) G dL_law_1198 rfl ?_
  obtain ⟨g119, hm⟩ := g_t hm
  refine r_sld (np := 1200) G hX hbl hM g119 dL_law_1199 rfl ?_
  refine r_aload_n (np := 1201) G hl 0 rfl dL_law_1200 rfl rfl ?_
  refine r_iload (np := 1203) G hl 4 rfl dL_law_1201 rfl ?_
  refine r_iconst (np := 1204) G 3 dL_law_1203 rfl ?_
  refine r_iadd (np := 1205) G dL_law_1204 rfl ?_
  obtain ⟨g120, hm⟩ := g_t hm
  refine r_sld (np := 1206) G hX hbl hM g120 dL_law_1205 rfl ?_
  refine r_aload_n (np := 1207) G hl 3 rfl dL_law_1206 rfl rfl ?_
  obtain ⟨b121, s122, e123, hm⟩ := call_t hm
  refine m_wcall (np := 1210) G hM hl.1 [.ref (eA E v1), vI ((xs (wI (v4 + 1)).toNat).toInt), vI ((xs (wI (v4 + 2)).toNat).toInt), vI ((xs (wI (v4 + 3)).toNat).toInt), .ref (eA E v3)] (qL_row l hst E σ v1 ((xs (wI (v4 + 1)).toNat).toInt) ((xs (wI (v4 + 2)).toNat).toInt) ((xs (wI (v4 + 3)).toNat).toInt) v3 _ e123) myL_row lkL_131 ⟨Nat.le_of_ble_eq_true rfl, Nat.le_of_ble_eq_true rfl⟩ ⟨by show _ ≤ 602319; omega, by show _ ≤ 7289146; omega⟩ [] rfl (Nat.le_of_ble_eq_true rfl) dL_law_1207 rfl (fun H locs hM => ?_)
  refine r_istore (np := 1212) G hl rfl [(5, vI b121), (0, .ref b), (1, .ref (eA E v1)), (2, .ref (eA E v2)), (3, .ref (eA E v3)), (4, vI v4)] dL_law_1210 rfl (by decide) rfl (fun ls hl => ?_)
  refine r_aload_n (np := 1213) G hl 3 rfl dL_law_1212 rfl rfl ?_
  refine r_aload_n (np := 1214) G hl 1 rfl dL_law_1213 rfl rfl ?_
  refine r_iload (np := 1216) G hl 5 rfl dL_law_1214 rfl ?_
  refine r_iconst (np := 1217) G 1 dL_law_1216 rfl ?_
  refine r_iadd (np := 1218) G dL_law_1217 rfl ?_
  refine r_sld (np := 1219) G hX hbl hM g118 dL_law_1218 rfl ?_
  refine r_aload_n (np := 1220) G hl 1 rfl dL_law_1219 rfl rfl ?_
  refine r_iload (np := 1222) G hl 5 rfl dL_law_1220 rfl ?_
  refine r_iconst (np := 1223) G 2 dL_law_1222 rfl ?_
  refine r_iadd (np := 1224) G dL_law_1223 rfl ?_
  refine r_sld (np := 1225) G hX hbl hM g119 dL_law_1224 rfl ?_
  refine r_aload_n (np := 1226) G hl 1 rfl dL_law_1225 rfl rfl ?_
  refine r_iload (np := 1228) G hl 5 rfl dL_law_1226 rfl ?_
  refine r_iconst (np := 1229) G 3 dL_law_1228 rfl ?_
  refine r_iadd (np := 1230) G dL_law_1229 rfl ?_
  refine r_sld (np := 1231) G hX hbl hM g120 dL_law_1230 rfl ?_
  obtain ⟨b124, s125, e126, hm⟩ := call_t hm
  refine m_callVI (np := 1234) G hM hl.1 [vI ((xs (wI (v4 + 1)).toNat).toInt), vI ((xs (wI (v4 + 2)).toNat).toInt), vI ((xs (wI (v4 + 3)).toNat).toInt)] (qX12_row l E s122 v2 ((xs (wI (v4 + 1)).toNat).toInt) ((xs (wI (v4 + 2)).toNat).toInt) ((xs (wI (v4 + 3)).toNat).toInt) _ e126) myX12_row (shp_lt (gX12_row e126) (by decide)) (gX12_row e126) rfl (by decide) lkL_134 ⟨Nat.le_of_ble_eq_true rfl, Nat.le_of_ble_eq_true rfl⟩ ⟨by show _ ≤ 602319; omega, by show _ ≤ 7289146; omega⟩ [] rfl (Nat.le_of_ble_eq_true rfl) dL_law_1231 rfl (fun H locs hM => ?_)
  refine r_istore (np := 1236) G hl rfl [(6, vI b124), (5, vI b121), (0, .ref b), (1, .ref (eA E v1)), (2, .ref (eA E v2)), (3, .ref (eA E v3)), (4, vI v4)] dL_law_1234 rfl (by decide) rfl (fun ls hl => ?_)
  refine r_aload_n (np := 1237) G hl 4 rfl dL_law_1236 rfl rfl ?_
  obtain ⟨b127, s128, e129, hm⟩ := call_t hm
  refine m_callVI (np := 1240) G hM hl.1 [] (qX12_thrown l E s125 v2 _ e129) myX12_thrown (shp_lt (gX12_thrown e129) (by decide)) (gX12_thrown e129) rfl (by decide) lkL_57 ⟨Nat.le_of_ble_eq_true rfl, Nat.le_of_ble_eq_true rfl⟩ ⟨by show _ ≤ 602319; omega, by show _ ≤ 7289146; omega⟩ [] rfl (Nat.le_of_ble_eq_true rfl) dL_law_1237 rfl (fun H locs hM => ?_)
  refine r_iload (np := 1242) G hl 1 rfl dL_law_1240 rfl ?_
  refine r_icmp_eq (np := 1245) (tgt := 1247) G rfl rfl dL_law_1242 (by decide) rfl (fun h130 => ?_) (fun h130 => ?_)
  · have hm := b_t h130 hm
    refine r_iload (np := 1249) G hl 1 rfl dL_law_1247 rfl ?_
    refine r_if_ne (np := 1252) (tgt := 1264) G rfl dL_law_1249 (by decide) rfl (fun h131 => ?_) (fun h131 => ?_)
    · have hm := b_f h131 hm
      refine r_goto (np := 1657) G dL_law_1264 (by decide) ?_
      obtain ⟨a132, e133, hm⟩ := bnd_t hm
      refine r_iinc (np := 1660) G hl 6 rfl e133 [(4, vI a132), (6, vI b124), (5, vI b121), (0, .ref b), (1, .ref (eA E v1)), (2, .ref (eA E v2)), (3, .ref (eA E v3))] dL_law_1657 rfl (by decide) rfl (fun ls hl => ?_)
      refine r_goto (np := 23) G dL_law_1660 (by decide) ?_
      refine W.widen (k := 300 + (k + 1)) (n := 4000 + 6 * (k + 1)) (by omega) (by omega) ?_
      exact hc23 a132 (k + 1) (by rw [e133, hk7]; omega) (by omega) _ _ _ _ hm hM (lv_sub hl [3, 4, 5, 6, 0] rfl)
    · have hm := b_t h131 hm
      refine r_aload_n (np := 1253) G hl 5 rfl dL_law_1252 rfl rfl ?_
      refine r_iconst (np := 1254) G 0 dL_law_1253 rfl ?_
      obtain ⟨g134, hm⟩ := g_t hm
      refine r_laload (np := 1255) G hM g134 rfl dL_law_1254 rfl ?_
      refine r_iload (np := 1257) G hl 0 rfl dL_law_1255 rfl ?_
      refine r_i2l (np := 1258) G rfl dL_law_1257 rfl ?_
      refine r_lcmp_eq (np := 1262) (tgt := 1264) G rfl rfl dL_law_1258 dL_law_1259 (by decide) rfl (fun h135 => ?_) (fun h135 => ?_)
      · have hm := b_t h135 hm
        refine r_goto (np := 1657) G dL_law_1264 (by decide) ?_
        obtain ⟨a136, e137, hm⟩ := bnd_t hm
        refine r_iinc (np := 1660) G hl 6 rfl e137 [(4, vI a136), (6, vI b124), (5, vI b121), (0, .ref b), (1, .ref (eA E v1)), (2, .ref (eA E v2)), (3, .ref (eA E v3))] dL_law_1657 rfl (by decide) rfl (fun ls hl => ?_)
        refine r_goto (np := 23) G dL_law_1660 (by decide) ?_
        refine W.widen (k := 300 + (k + 1)) (n := 4000 + 6 * (k + 1)) (by omega) (by omega) ?_
        exact hc23 a136 (k + 1) (by rw [e137, hk7]; omega) (by omega) _ _ _ _ hm hM (lv_sub hl [3, 4, 5, 6, 0] rfl)
      · have hm := b_f h135 hm
        refine r_iconst (np := 1263) G 0 dL_law_1262 rfl ?_
        cases hm
        exact absurd (show (0 : Int) = 1 from hout) (by decide)
  · have hm := b_f h130 hm
    refine r_iconst (np := 1246) G 0 dL_law_1245 rfl ?_
    cases hm
    exact absurd (show (0 : Int) = 1 from hout) (by decide)
set_option maxRecDepth 100000 in
set_option maxHeartbeats 4000000 in
theorem wL_law_B1162 (l : Launch) (hst : l.stackTraces = false) (E : mE) (out : Int × mSt) (hout : out.1 = 1) {p : Program} {e : Env} {s : State} {m : MethodId} {below : List Frame} {meth : Method} {c : Code} {b : Nat} (xs : Nat → Int32) (L : Nat) (hL : L ≤ 3584) (G : CallFix p m c code 8 s #[Value.ref b] mTs RL) (hr : meth.sig.returnType = ret) (hk : meth.locks = false) (hX : va_X b L xs s s.heap) (hbl : b < s.heap.size) (v1 : Nat) (v2 : Nat) (v3 : Nat) (c23 : Int → mSt → Option (Int × mSt)) (x1663 : mSt → Option (Int × mSt)) (hc23 : ∀ (v4 : Int) (k : Nat) (hk7 : v4 = 7 * (k : Int)) (hk5 : k ≤ 512) (σ : mSt) (H : Heap) (locs : List Loc) (ls : Array Slot), c23 v4 σ = some out → mM (fun q => s.heap.size ≤ q) E 276 σ s H locs → lv_has ls 8 [(0, .ref b), (1, .ref (eA E v1)), (2, .ref (eA E v2)), (3, .ref (eA E v3)), (4, vI v4)] → mGoL l p e s m b below meth c (300 + k) (4000 + 6 * k) H locs (F0 m 23 ls [])) (hx1663 : ∀ (k : Nat) (hk5 : k ≤ 512) (σ : mSt) (H : Heap) (locs : List Loc) (ls : Array Slot), x1663 σ = some out → mM (fun q => s.heap.size ≤ q) E 276 σ s H locs → lv_has ls 8 [] → mGoL l p e s m b below meth c (300 + k) (4000 + 6 * k) H locs (F0 m 1663 ls [])) : ∀ (v4 : Int) (k : Nat) (hk7 : v4 = 7 * (k : Int)) (hk5 : k ≤ 511) (σ : mSt) (H : Heap) (locs : List Loc) (ls : Array Slot), mL_law_B1162 xs L v1 v2 v3 c23 x1663 v4 σ = some out → mM (fun q => s.heap.size ≤ q) E 276 σ s H locs → lv_has ls 8 [(0, .ref b), (1, .ref (eA E v1)), (2, .ref (eA E v2)), (3, .ref (eA E v3)), (4, vI v4)] → mGoL l p e s m b below meth c (300 + k) (4000 + 6 * k) H locs (F0 m 1162 ls []) := by
  intro v4 k hk7 hk5 σ H locs ls hm hM hl
  unfold mL_law_B1162 at hm
  refine r_aload_n (np := 1163) G hl 1 rfl dL_law_1162 rfl rfl ?_
  refine r_aload_n (np := 1164) G hl 0 rfl dL_law_1163 rfl rfl ?_
  refine r_iload (np := 1166) G hl 4 rfl dL_law_1164 rfl ?_
  refine r_iconst (np := 1167) G 1 dL_law_1166 rfl ?_
  refine r_iadd (np := 1168) G dL_law_1167 rfl ?_
  obtain ⟨g138, hm⟩ := g_t hm
  refine r_sld (np := 1169) G hX hbl hM g138 dL_law_1168 rfl ?_
  obtain ⟨b139, s140, e141, hm⟩ := call_t hm
  refine m_callVI (np := 1172) G hM hl.1 [vI ((xs (wI (v4 + 1)).toNat).toInt)] (qX11_due l E σ v1 ((xs (wI (v4 + 1)).toNat).toInt) _ e141) myX11_due (shp_lt (gX11_due e141) (by decide)) (gX11_due e141) rfl (by decide) lkL_127 ⟨Nat.le_of_ble_eq_true rfl, Nat.le_of_ble_eq_true rfl⟩ ⟨by show _ ≤ 602319; omega, by show _ ≤ 7289146; omega⟩ [] rfl (Nat.le_of_ble_eq_true rfl) dL_law_1169 rfl (fun H locs hM => ?_)
  refine r_aload_n (np := 1173) G hl 2 rfl dL_law_1172 rfl rfl ?_
  refine r_aload_n (np := 1174) G hl 0 rfl dL_law_1173 rfl rfl ?_
  refine r_iload (np := 1176) G hl 4 rfl dL_law_1174 rfl ?_
  refine r_iconst (np := 1177) G 1 dL_law_1176 rfl ?_
  refine r_iadd (np := 1178) G dL_law_1177 rfl ?_
  refine r_sld (np := 1179) G hX hbl hM g138 dL_law_1178 rfl ?_
  obtain ⟨b142, s143, e144, hm⟩ := call_t hm
  refine m_callVI (np := 1182) G hM hl.1 [vI ((xs (wI (v4 + 1)).toNat).toInt)] (qX12_due l E s140 v2 ((xs (wI (v4 + 1)).toNat).toInt) _ e144) myX12_due (shp_lt (gX12_due e144) (by decide)) (gX12_due e144) rfl (by decide) lkL_130 ⟨Nat.le_of_ble_eq_true rfl, Nat.le_of_ble_eq_true rfl⟩ ⟨by show _ ≤ 602319; omega, by show _ ≤ 7289146; omega⟩ [vI b139] rfl (Nat.le_of_ble_eq_true rfl) dL_law_1179 rfl (fun H locs hM => ?_)
  refine r_icmp_eq (np := 1185) (tgt := 1657) G rfl rfl dL_law_1182 (by decide) rfl (fun h145 => ?_) (fun h145 => ?_)
  · have hm := b_t h145 hm
    obtain ⟨a146, e147, hm⟩ := bnd_t hm
    refine r_iinc (np := 1660) G hl 4 rfl e147 [(4, vI a146), (0, .ref b), (1, .ref (eA E v1)), (2, .ref (eA E v2)), (3, .ref (eA E v3))] dL_law_1657 rfl (by decide) rfl (fun ls hl => ?_)
    refine r_goto (np := 23) G dL_law_1660 (by decide) ?_
    refine W.widen (k := 300 + (k + 1)) (n := 4000 + 6 * (k + 1)) (by omega) (by omega) ?_
    exact hc23 a146 (k + 1) (by rw [e147, hk7]; omega) (by omega) _ _ _ _ hm hM (lv_sub hl [1, 2, 3, 4, 0] rfl)
  · have hm := b_f h145 hm
    refine r_iconst (np := 1186) G 0 dL_law_1185 rfl ?_
    cases hm
    exact absurd (show (0 : Int) = 1 from hout) (by decide)
set_option maxRecDepth 100000 in
set_option maxHeartbeats 4000000 in
theorem wL_law_B1137 (l : Launch) (hst : l.stackTraces = false) (E : mE) (out : Int × mSt) (hout : out.1 = 1) {p : Program} {e : Env} {s : State} {m : MethodId} {below : List Frame} {meth : Method} {c : Code} {b : Nat} (xs : Nat → Int32) (L : Nat) (hL : L ≤ 3584) (G : CallFix p m c code 8 s #[Value.ref b] mTs RL) (hr : meth.sig.returnType = ret) (hk : meth.locks = false) (hX : va_X b L xs s s.heap) (hbl : b < s.heap.size) (v1 : Nat) (v2 : Nat) (v3 : Nat) (c23 : Int → mSt → Option (Int × mSt)) (x1663 : mSt → Option (Int × mSt)) (hc23 : ∀ (v4 : Int) (k : Nat) (hk7 : v4 = 7 * (k : Int)) (hk5 : k ≤ 512) (σ : mSt) (H : Heap) (locs : List Loc) (ls : Array Slot), c23 v4 σ = some out → mM (fun q => s.heap.size ≤ q) E 276 σ s H locs → lv_has ls 8 [(0, .ref b), (1, .ref (eA E v1)), (2, .ref (eA E v2)), (3, .ref (eA E v3)), (4, vI v4)] → mGoL l p e s m b below meth c (300 + k) (4000 + 6 * k) H locs (F0 m 23 ls [])) (hx1663 : ∀ (k : Nat) (hk5 : k ≤ 512) (σ : mSt) (H : Heap) (locs : List Loc) (ls : Array Slot), x1663 σ = some out → mM (fun q => s.heap.size ≤ q) E 276 σ s H locs → lv_has ls 8 [] → mGoL l p e s m b below meth c (300 + k) (4000 + 6 * k) H locs (F0 m 1663 ls [])) : ∀ (v4 : Int) (k : Nat) (hk7 : v4 = 7 * (k : Int)) (hk5 : k ≤ 511) (σ : mSt) (H : Heap) (locs : List Loc) (ls : Array Slot), mL_law_B1137 xs L v1 v2 v3 c23 x1663 v4 σ = some out → mM (fun q => s.heap.size ≤ q) E 276 σ s H locs → lv_has ls 8 [(0, .ref b), (1, .ref (eA E v1)), (2, .ref (eA E v2)), (3, .ref (eA E v3)), (4, vI v4)] → mGoL l p e s m b below meth c (300 + k) (4000 + 6 * k) H locs (F0 m 1137 ls []) := by
  intro v4 k hk7 hk5 σ H locs ls hm hM hl
  unfold mL_law_B1137 at hm
  refine r_aload_n (np := 1138) G hl 1 rfl dL_law_1137 rfl rfl ?_
  refine r_aload_n (np := 1139) G hl 0 rfl dL_law_1138 rfl rfl ?_
  refine r_iload (np := 1141) G hl 4 rfl dL_law_1139 rfl ?_
  refine r_iconst (np := 1142) G 1 dL_law_1141 rfl ?_
  refine r_iadd (np := 1143) G dL_law_1142 rfl ?_
  obtain ⟨g148, hm⟩ := g_t hm
  refine r_sld (np := 1144) G hX hbl hM g148 dL_law_1143 rfl ?_
  obtain ⟨b149, s150, e151, hm⟩ := call_t hm
  refine m_callVI (np := 1147) G hM hl.1 [vI ((xs (wI (v4 + 1)).toNat).toInt)] (qX11_disc l E σ v1 ((xs (wI (v4 + 1)).toNat).toInt) _ e151) myX11_disc (shp_lt (gX11_disc e151) (by decide)) (gX11_disc e151) rfl (by decide) lkL_123 ⟨Nat.le_of_ble_eq_true rfl, Nat.le_of_ble_eq_true rfl⟩ ⟨by show _ ≤ 602319; omega, by show _ ≤ 7289146; omega⟩ [] rfl (Nat.le_of_ble_eq_true rfl) dL_law_1144 rfl (fun H locs hM => ?_)
  refine r_aload_n (np := 1148) G hl 2 rfl dL_law_1147 rfl rfl ?_
  refine r_aload_n (np := 1149) G hl 0 rfl dL_law_1148 rfl rfl ?_
  refine r_iload (np := 1151) G hl 4 rfl dL_law_1149 rfl ?_
  refine r_iconst (np := 1152) G 1 dL_law_1151 rfl ?_
  refine r_iadd (np := 1153) G dL_law_1152 rfl ?_
  refine r_sld (np := 1154) G hX hbl hM g148 dL_law_1153 rfl ?_
  obtain ⟨b152, s153, e154, hm⟩ := call_t hm
  refine m_callVI (np := 1157) G hM hl.1 [vI ((xs (wI (v4 + 1)).toNat).toInt)] (qX12_disc l E s150 v2 ((xs (wI (v4 + 1)).toNat).toInt) _ e154) myX12_disc (shp_lt (gX12_disc e154) (by decide)) (gX12_disc e154) rfl (by decide) lkL_126 ⟨Nat.le_of_ble_eq_true rfl, Nat.le_of_ble_eq_true rfl⟩ ⟨by show _ ≤ 602319; omega, by show _ ≤ 7289146; omega⟩ [vI b149] rfl (Nat.le_of_ble_eq_true rfl) dL_law_1154 rfl (fun H locs hM => ?_)
  refine r_icmp_eq (np := 1160) (tgt := 1657) G rfl rfl dL_law_1157 (by decide) rfl (fun h155 => ?_) (fun h155 => ?_)
  · have hm := b_t h155 hm
    obtain ⟨a156, e157, hm⟩ := bnd_t hm
    refine r_iinc (np := 1660) G hl 4 rfl e157 [(4, vI a156), (0, .ref b), (1, .ref (eA E v1)), (2, .ref (eA E v2)), (3, .ref (eA E v3))] dL_law_1657 rfl (by decide) rfl (fun ls hl => ?_)
    refine r_goto (np := 23) G dL_law_1660 (by decide) ?_
    refine W.widen (k := 300 + (k + 1)) (n := 4000 + 6 * (k + 1)) (by omega) (by omega) ?_
    exact hc23 a156 (k + 1) (by rw [e157, hk7]; omega) (by omega) _ _ _ _ hm hM (lv_sub hl [1, 2, 3, 4, 0] rfl)
  · have hm := b_f h155 hm
    refine r_iconst (np := 1161) G 0 dL_law_1160 rfl ?_
    cases hm
    exact absurd (show (0 : Int) = 1 from hout) (by decide)
set_option maxRecDepth 100000 in
set_option maxHeartbeats 4000000 in
theorem wL_law_B1046 (l : Launch) (hst : l.stackTraces = false) (E : mE) (out : Int × mSt) (hout : out.1 = 1) {p : Program} {e : Env} {s : State} {m : MethodId} {below : List Frame} {meth : Method} {c : Code} {b : Nat} (xs : Nat → Int32) (L : Nat) (hL : L ≤ 3584) (G : CallFix p m c code 8 s #[Value.ref b] mTs RL) (hr : meth.sig.returnType = ret) (hk : meth.locks = false) (hX : va_X b L xs s s.heap) (hbl : b < s.heap.size) (v1 : Nat) (v2 : Nat) (v3 : Nat) (c23 : Int → mSt → Option (Int × mSt)) (x1663 : mSt → Option (Int × mSt)) (hc23 : ∀ (v4 : Int) (k : Nat) (hk7 : v4 = 7 * (k : Int)) (hk5 : k ≤ 512) (σ : mSt) (H : Heap) (locs : List Loc) (ls : Array Slot), c23 v4 σ = some out → mM (fun q => s.heap.size ≤ q) E 276 σ s H locs → lv_has ls 8 [(0, .ref b), (1, .ref (eA E v1)), (2, .ref (eA E v2)), (3, .ref (eA E v3)), (4, vI v4)] → mGoL l p e s m b below meth c (300 + k) (4000 + 6 * k) H locs (F0 m 23 ls [])) (hx1663 : ∀ (k : Nat) (hk5 : k ≤ 512) (σ : mSt) (H : Heap) (locs : List Loc) (ls : Array Slot), x1663 σ = some out → mM (fun q => s.heap.size ≤ q) E 276 σ s H locs → lv_has ls 8 [] → mGoL l p e s m b below meth c (300 + k) (4000 + 6 * k) H locs (F0 m 1663 ls [])) : ∀ (v4 : Int) (k : Nat) (hk7 : v4 = 7 * (k : Int)) (hk5 : k ≤ 511) (σ : mSt) (H : Heap) (locs : List Loc) (ls : Array Slot), mL_law_B1046 xs L v1 v2 v3 c23 x1663 v4 σ = some out → mM (fun q => s.heap.size ≤ q) E 276 σ s H locs → lv_has ls 8 [(0, .ref b), (1, .ref (eA E v1)), (2, .ref (eA E v2)), (3, .ref (eA E v3)), (4, vI v4)] → mGoL l p e s m b below meth c (300 + k) (4000 + 6 * k) H locs (F0 m 1046 ls []) := by
  intro v4 k hk7 hk5 σ H locs ls hm hM hl
  unfold mL_law_B1046 at hm
  refine r_aload_n (np := 1047) G hl 1 rfl dL_law_1046 rfl rfl ?_
  refine r_aload_n (np := 1048) G hl 0 rfl dL_law_1047 rfl rfl ?_
  refine r_iload (np := 1050) G hl 4 rfl dL_law_1048 rfl ?_
  refine r_iconst (np := 1051) G 1 dL_law_1050 rfl ?_
  refine r_iadd (np := 1052) G dL_law_1051 rfl ?_
  obtain ⟨g158, hm⟩ := g_t hm
  refine r_sld (np := 1053) G hX hbl hM g158 dL_law_1052 rfl ?_
  refine r_aload_n (np := 1054) G hl 0 rfl dL_law_1053 rfl rfl ?_
  refine r_iload (np := 1056) G hl 4 rfl dL_law_1054 rfl ?_
  refine r_iconst (np := 1057) G 2 dL_law_1056 rfl ?_
  refine r_iadd (np := 1058) G dL_law_1057 rfl ?_
  obtain ⟨g159, hm⟩ := g_t hm
  refine r_sld (np := 1059) G hX hbl hM g159 dL_law_1058 rfl ?_
  refine r_aload_n (np := 1060) G hl 0 rfl dL_law_1059 rfl rfl ?_
  refine r_iload (np := 1062) G hl 4 rfl dL_law_1060 rfl ?_
  refine r_iconst (np := 1063) G 3 dL_law_1062 rfl ?_
  refine r_iadd (np := 1064) G dL_law_1063 rfl ?_
  obtain ⟨g160, hm⟩ := g_t hm
  refine r_sld (np := 1065) G hX hbl hM g160 dL_law_1064 rfl ?_
  refine r_aload_n (np := 1066) G hl 0 rfl dL_law_1065 rfl rfl ?_
  refine r_iload (np := 1068) G hl 4 rfl dL_law_1066 rfl ?_
  refine r_iconst (np := 1069) G 4 dL_law_1068 rfl ?_
  refine r_iadd (np := 1070) G dL_law_1069 rfl ?_
  obtain ⟨g161, hm⟩ := g_t hm
  refine r_sld (np := 1071) G hX hbl hM g161 dL_law_1070 rfl ?_
  refine r_aload_n (np := 1072) G hl 3 rfl dL_law_1071 rfl rfl ?_
  obtain ⟨b162, s163, e164, hm⟩ := call_t hm
  refine m_wcall (np := 1075) G hM hl.1 [.ref (eA E v1), vI ((xs (wI (v4 + 1)).toNat).toInt), vI ((xs (wI (v4 + 2)).toNat).toInt), vI ((xs (wI (v4 + 3)).toNat).toInt), vI ((xs (wI (v4 + 4)).toNat).toInt), .ref (eA E v3)] (qL_matrix l hst E σ v1 ((xs (wI (v4 + 1)).toNat).toInt) ((xs (wI (v4 + 2)).toNat).toInt) ((xs (wI (v4 + 3)).toNat).toInt) ((xs (wI (v4 + 4)).toNat).toInt) v3 _ e164) myL_matrix lkL_119 ⟨Nat.le_of_ble_eq_true rfl, Nat.le_of_ble_eq_true rfl⟩ ⟨by show _ ≤ 602319; omega, by show _ ≤ 7289146; omega⟩ [] rfl (Nat.le_of_ble_eq_true rfl) dL_law_1072 rfl (fun H locs hM => ?_)
  refine r_istore (np := 1077) G hl rfl [(5, vI b162), (0, .ref b), (1, .ref (eA E v1)), (2, .ref (eA E v2)), (3, .ref (eA E v3)), (4, vI v4)] dL_law_1075 rfl (by decide) rfl (fun ls hl => ?_)
  refine r_aload_n (np := 1078) G hl 3 rfl dL_law_1077 rfl rfl ?_
  refine r_aload_n (np := 1079) G hl 1 rfl dL_law_1078 rfl rfl ?_
  refine r_iload (np := 1081) G hl 5 rfl dL_law_1079 rfl ?_
  refine r_iconst (np := 1082) G 1 dL_law_1081 rfl ?_
  refine r_iadd (np := 1083) G dL_law_1082 rfl ?_
  refine r_sld (np := 1084) G hX hbl hM g158 dL_law_1083 rfl ?_
  refine r_aload_n (np := 1085) G hl 1 rfl dL_law_1084 rfl rfl ?_
  refine r_iload (np := 1087) G hl 5 rfl dL_law_1085 rfl ?_
  refine r_iconst (np := 1088) G 2 dL_law_1087 rfl ?_
  refine r_iadd (np := 1089) G dL_law_1088 rfl ?_
  refine r_sld (np := 1090) G hX hbl hM g159 dL_law_1089 rfl ?_
  refine r_aload_n (np := 1091) G hl 1 rfl dL_law_1090 rfl rfl ?_
  refine r_iload (np := 1093) G hl 5 rfl dL_law_1091 rfl ?_
  refine r_iconst (np := 1094) G 3 dL_law_1093 rfl ?_
  refine r_iadd (np := 1095) G dL_law_1094 rfl ?_
  refine r_sld (np := 1096) G hX hbl hM g160 dL_law_1095 rfl ?_
  refine r_aload_n (np := 1097) G hl 1 rfl dL_law_1096 rfl rfl ?_
  refine r_iload (np := 1099) G hl 5 rfl dL_law_1097 rfl ?_
  refine r_iconst (np := 1100) G 4 dL_law_1099 rfl ?_
  refine r_iadd (np := 1101) G dL_law_1100 rfl ?_
  refine r_sld (np := 1102) G hX hbl hM g161 dL_law_1101 rfl ?_
  obtain ⟨b165, s166, e167, hm⟩ := call_t hm
  refine m_callVL (np := 1105) G hM hl.1 [vI ((xs (wI (v4 + 1)).toNat).toInt), vI ((xs (wI (v4 + 2)).toNat).toInt), vI ((xs (wI (v4 + 3)).toNat).toInt), vI ((xs (wI (v4 + 4)).toNat).toInt)] (qX12_matrix l E s163 v2 ((xs (wI (v4 + 1)).toNat).toInt) ((xs (wI (v4 + 2)).toNat).toInt) ((xs (wI (v4 + 3)).toNat).toInt) ((xs (wI (v4 + 4)).toNat).toInt) _ e167) myX12_matrix (shp_lt (gX12_matrix e167) (by decide)) (gX12_matrix e167) rfl (by decide) lkL_122 ⟨Nat.le_of_ble_eq_true rfl, Nat.le_of_ble_eq_true rfl⟩ ⟨by show _ ≤ 602319; omega, by show _ ≤ 7289146; omega⟩ [] rfl (Nat.le_of_ble_eq_true rfl) dL_law_1102 rfl (fun H locs hM => ?_)
  refine r_lstore (np := 1107) G hl rfl [(6, vL b165), (5, vI b162), (0, .ref b), (1, .ref (eA E v1)), (2, .ref (eA E v2)), (3, .ref (eA E v3)), (4, vI v4)] dL_law_1105 rfl (by decide) rfl (fun ls hl => ?_)
  refine r_aload_n (np := 1108) G hl 4 rfl dL_law_1107 rfl rfl ?_
  obtain ⟨b168, s169, e170, hm⟩ := call_t hm
  refine m_callVI (np := 1111) G hM hl.1 [] (qX12_thrown l E s166 v2 _ e170) myX12_thrown (shp_lt (gX12_thrown e170) (by decide)) (gX12_thrown e170) rfl (by decide) lkL_57 ⟨Nat.le_of_ble_eq_true rfl, Nat.le_of_ble_eq_true rfl⟩ ⟨by show _ ≤ 602319; omega, by show _ ≤ 7289146; omega⟩ [] rfl (Nat.le_of_ble_eq_true rfl) dL_law_1108 rfl (fun H locs hM => ?_)
  refine r_iload (np := 1113) G hl 1 rfl dL_law_1111 rfl ?_
  refine r_icmp_eq (np := 1116) (tgt := 1118) G rfl rfl dL_law_1113 (by decide) rfl (fun h171 => ?_) (fun h171 => ?_)
  · have hm := b_t h171 hm
    refine r_iload (np := 1120) G hl 1 rfl dL_law_1118 rfl ?_
    refine r_if_ne (np := 1123) (tgt := 1134) G rfl dL_law_1120 (by decide) rfl (fun h172 => ?_) (fun h172 => ?_)
    · have hm := b_f h172 hm
      refine r_goto (np := 1657) G dL_law_1134 (by decide) ?_
      obtain ⟨a173, e174, hm⟩ := bnd_t hm
      refine r_iinc (np := 1660) G hl 6 rfl e174 [(4, vI a173), (6, vL b165), (5, vI b162), (0, .ref b), (1, .ref (eA E v1)), (2, .ref (eA E v2)), (3, .ref (eA E v3))] dL_law_1657 rfl (by decide) rfl (fun ls hl => ?_)
      refine r_goto (np := 23) G dL_law_1660 (by decide) ?_
      refine W.widen (k := 300 + (k + 1)) (n := 4000 + 6 * (k + 1)) (by omega) (by omega) ?_
      exact hc23 a173 (k + 1) (by rw [e174, hk7]; omega) (by omega) _ _ _ _ hm hM (lv_sub hl [3, 4, 5, 6, 0] rfl)
    · have hm := b_t h172 hm
      refine r_aload_n (np := 1124) G hl 5 rfl dL_law_1123 rfl rfl ?_
      refine r_iconst (np := 1125) G 0 dL_law_1124 rfl ?_
      obtain ⟨g175, hm⟩ := g_t hm
      refine r_laload (np := 1126) G hM g175 rfl dL_law_1125 rfl ?_
      refine r_lload (np := 1128) G hl 0 rfl dL_law_1126 rfl ?_
      refine r_lcmp_eq (np := 1132) (tgt := 1134) G rfl rfl dL_law_1128 dL_law_1129 (by decide) rfl (fun h176 => ?_) (fun h176 => ?_)
      · have hm := b_t h176 hm
        refine r_goto (np := 1657) G dL_law_1134 (by decide) ?_
        obtain ⟨a177, e178, hm⟩ := bnd_t hm
        refine r_iinc (np := 1660) G hl 6 rfl e178 [(4, vI a177), (6, vL b165), (5, vI b162), (0, .ref b), (1, .ref (eA E v1)), (2, .ref (eA E v2)), (3, .ref (eA E v3))] dL_law_1657 rfl (by decide) rfl (fun ls hl => ?_)
        refine r_goto (np := 23) G dL_law_1660 (by decide) ?_
        refine W.widen (k := 300 + (k + 1)) (n := 4000 + 6 * (k + 1)) (by omega) (by omega) ?_
        exact hc23 a177 (k + 1) (by rw [e178, hk7]; omega) (by omega) _ _ _ _ hm hM (lv_sub hl [3, 4, 5, 6, 0] rfl)
      · have hm := b_f h176 hm
        refine r_iconst (np := 1133) G 0 dL_law_1132 rfl ?_
        cases hm
        exact absurd (show (0 : Int) = 1 from hout) (by decide)
  · have hm := b_f h171 hm
    refine r_iconst (np := 1117) G 0 dL_law_1116 rfl ?_
    cases hm
    exact absurd (show (0 : Int) = 1 from hout) (by decide)
set_option maxRecDepth 100000 in
set_option maxHeartbeats 4000000 in
theorem wL_law_B1009 (l : Launch) (hst : l.stackTraces = false) (E : mE) (out : Int × mSt) (hout : out.1 = 1) {p : Program} {e : Env} {s : State} {m : MethodId} {below : List Frame} {meth : Method} {c : Code} {b : Nat} (xs : Nat → Int32) (L : Nat) (hL : L ≤ 3584) (G : CallFix p m c code 8 s #[Value.ref b] mTs RL) (hr : meth.sig.returnType = ret) (hk : meth.locks = false) (hX : va_X b L xs s s.heap) (hbl : b < s.heap.size) (v1 : Nat) (v2 : Nat) (v3 : Nat) (c23 : Int → mSt → Option (Int × mSt)) (x1663 : mSt → Option (Int × mSt)) (hc23 : ∀ (v4 : Int) (k : Nat) (hk7 : v4 = 7 * (k : Int)) (hk5 : k ≤ 512) (σ : mSt) (H : Heap) (locs : List Loc) (ls : Array Slot), c23 v4 σ = some out → mM (fun q => s.heap.size ≤ q) E 276 σ s H locs → lv_has ls 8 [(0, .ref b), (1, .ref (eA E v1)), (2, .ref (eA E v2)), (3, .ref (eA E v3)), (4, vI v4)] → mGoL l p e s m b below meth c (300 + k) (4000 + 6 * k) H locs (F0 m 23 ls [])) (hx1663 : ∀ (k : Nat) (hk5 : k ≤ 512) (σ : mSt) (H : Heap) (locs : List Loc) (ls : Array Slot), x1663 σ = some out → mM (fun q => s.heap.size ≤ q) E 276 σ s H locs → lv_has ls 8 [] → mGoL l p e s m b below meth c (300 + k) (4000 + 6 * k) H locs (F0 m 1663 ls [])) : ∀ (v4 : Int) (k : Nat) (hk7 : v4 = 7 * (k : Int)) (hk5 : k ≤ 511) (σ : mSt) (H : Heap) (locs : List Loc) (ls : Array Slot), mL_law_B1009 xs L v1 v2 v3 c23 x1663 v4 σ = some out → mM (fun q => s.heap.size ≤ q) E 276 σ s H locs → lv_has ls 8 [(0, .ref b), (1, .ref (eA E v1)), (2, .ref (eA E v2)), (3, .ref (eA E v3)), (4, vI v4)] → mGoL l p e s m b below meth c (300 + k) (4000 + 6 * k) H locs (F0 m 1009 ls []) := by
  intro v4 k hk7 hk5 σ H locs ls hm hM hl
  unfold mL_law_B1009 at hm
  refine r_aload_n (np := 1010) G hl 1 rfl dL_law_1009 rfl rfl ?_
  refine r_aload_n (np := 1011) G hl 0 rfl dL_law_1010 rfl rfl ?_
  refine r_iload (np := 1013) G hl 4 rfl dL_law_1011 rfl ?_
  refine r_iconst (np := 1014) G 1 dL_law_1013 rfl ?_
  refine r_iadd (np := 1015) G dL_law_1014 rfl ?_
  obtain ⟨g179, hm⟩ := g_t hm
  refine r_sld (np := 1016) G hX hbl hM g179 dL_law_1015 rfl ?_
  refine r_aload_n (np := 1017) G hl 0 rfl dL_law_1016 rfl rfl ?_
  refine r_iload (np := 1019) G hl 4 rfl dL_law_1017 rfl ?_
  refine r_iconst (np := 1020) G 2 dL_law_1019 rfl ?_
  refine r_iadd (np := 1021) G dL_law_1020 rfl ?_
  obtain ⟨g180, hm⟩ := g_t hm
  refine r_sld (np := 1022) G hX hbl hM g180 dL_law_1021 rfl ?_
  obtain ⟨b181, s182, e183, hm⟩ := call_t hm
  refine m_callVI (np := 1025) G hM hl.1 [vI ((xs (wI (v4 + 1)).toNat).toInt), vI ((xs (wI (v4 + 2)).toNat).toInt)] (qX11_solution l E σ v1 ((xs (wI (v4 + 1)).toNat).toInt) ((xs (wI (v4 + 2)).toNat).toInt) _ e183) myX11_solution (shp_lt (gX11_solution e183) (by decide)) (gX11_solution e183) rfl (by decide) lkL_115 ⟨Nat.le_of_ble_eq_true rfl, Nat.le_of_ble_eq_true rfl⟩ ⟨by show _ ≤ 602319; omega, by show _ ≤ 7289146; omega⟩ [] rfl (Nat.le_of_ble_eq_true rfl) dL_law_1022 rfl (fun H locs hM => ?_)
  refine r_aload_n (np := 1026) G hl 2 rfl dL_law_1025 rfl rfl ?_
  refine r_aload_n (np := 1027) G hl 0 rfl dL_law_1026 rfl rfl ?_
  refine r_iload (np := 1029) G hl 4 rfl dL_law_1027 rfl ?_
  refine r_iconst (np := 1030) G 1 dL_law_1029 rfl ?_
  refine r_iadd (np := 1031) G dL_law_1030 rfl ?_
  refine r_sld (np := 1032) G hX hbl hM g179 dL_law_1031 rfl ?_
  refine r_aload_n (np := 1033) G hl 0 rfl dL_law_1032 rfl rfl ?_
  refine r_iload (np := 1035) G hl 4 rfl dL_law_1033 rfl ?_
  refine r_iconst (np := 1036) G 2 dL_law_1035 rfl ?_
  refine r_iadd (np := 1037) G dL_law_1036 rfl ?_
  refine r_sld (np := 1038) G hX hbl hM g180 dL_law_1037 rfl ?_
  obtain ⟨b184, s185, e186, hm⟩ := call_t hm
  refine m_callVI (np := 1041) G hM hl.1 [vI ((xs (wI (v4 + 1)).toNat).toInt), vI ((xs (wI (v4 + 2)).toNat).toInt)] (qX12_solution l E s182 v2 ((xs (wI (v4 + 1)).toNat).toInt) ((xs (wI (v4 + 2)).toNat).toInt) _ e186) myX12_solution (shp_lt (gX12_solution e186) (by decide)) (gX12_solution e186) rfl (by decide) lkL_118 ⟨Nat.le_of_ble_eq_true rfl, Nat.le_of_ble_eq_true rfl⟩ ⟨by show _ ≤ 602319; omega, by show _ ≤ 7289146; omega⟩ [vI b181] rfl (Nat.le_of_ble_eq_true rfl) dL_law_1038 rfl (fun H locs hM => ?_)
  refine r_icmp_eq (np := 1044) (tgt := 1657) G rfl rfl dL_law_1041 (by decide) rfl (fun h187 => ?_) (fun h187 => ?_)
  · have hm := b_t h187 hm
    obtain ⟨a188, e189, hm⟩ := bnd_t hm
    refine r_iinc (np := 1660) G hl 4 rfl e189 [(4, vI a188), (0, .ref b), (1, .ref (eA E v1)), (2, .ref (eA E v2)), (3, .ref (eA E v3))] dL_law_1657 rfl (by decide) rfl (fun ls hl => ?_)
    refine r_goto (np := 23) G dL_law_1660 (by decide) ?_
    refine W.widen (k := 300 + (k + 1)) (n := 4000 + 6 * (k + 1)) (by omega) (by omega) ?_
    exact hc23 a188 (k + 1) (by rw [e189, hk7]; omega) (by omega) _ _ _ _ hm hM (lv_sub hl [1, 2, 3, 4, 0] rfl)
  · have hm := b_f h187 hm
    refine r_iconst (np := 1045) G 0 dL_law_1044 rfl ?_
    cases hm
    exact absurd (show (0 : Int) = 1 from hout) (by decide)
set_option maxRecDepth 100000 in
set_option maxHeartbeats 4000000 in
theorem wL_law_B942 (l : Launch) (hst : l.stackTraces = false) (E : mE) (out : Int × mSt) (hout : out.1 = 1) {p : Program} {e : Env} {s : State} {m : MethodId} {below : List Frame} {meth : Method} {c : Code} {b : Nat} (xs : Nat → Int32) (L : Nat) (hL : L ≤ 3584) (G : CallFix p m c code 8 s #[Value.ref b] mTs RL) (hr : meth.sig.returnType = ret) (hk : meth.locks = false) (hX : va_X b L xs s s.heap) (hbl : b < s.heap.size) (v1 : Nat) (v2 : Nat) (v3 : Nat) (c23 : Int → mSt → Option (Int × mSt)) (x1663 : mSt → Option (Int × mSt)) (hc23 : ∀ (v4 : Int) (k : Nat) (hk7 : v4 = 7 * (k : Int)) (hk5 : k ≤ 512) (σ : mSt) (H : Heap) (locs : List Loc) (ls : Array Slot), c23 v4 σ = some out → mM (fun q => s.heap.size ≤ q) E 276 σ s H locs → lv_has ls 8 [(0, .ref b), (1, .ref (eA E v1)), (2, .ref (eA E v2)), (3, .ref (eA E v3)), (4, vI v4)] → mGoL l p e s m b below meth c (300 + k) (4000 + 6 * k) H locs (F0 m 23 ls [])) (hx1663 : ∀ (k : Nat) (hk5 : k ≤ 512) (σ : mSt) (H : Heap) (locs : List Loc) (ls : Array Slot), x1663 σ = some out → mM (fun q => s.heap.size ≤ q) E 276 σ s H locs → lv_has ls 8 [] → mGoL l p e s m b below meth c (300 + k) (4000 + 6 * k) H locs (F0 m 1663 ls [])) : ∀ (v4 : Int) (k : Nat) (hk7 : v4 = 7 * (k : Int)) (hk5 : k ≤ 511) (σ : mSt) (H : Heap) (locs : List Loc) (ls : Array Slot), mL_law_B942 xs L v1 v2 v3 c23 x1663 v4 σ = some out → mM (fun q => s.heap.size ≤ q) E 276 σ s H locs → lv_has ls 8 [(0, .ref b), (1, .ref (eA E v1)), (2, .ref (eA E v2)), (3, .ref (eA E v3)), (4, vI v4)] → mGoL l p e s m b below meth c (300 + k) (4000 + 6 * k) H locs (F0 m 942 ls []) := by
  intro v4 k hk7 hk5 σ H locs ls hm hM hl
  unfold mL_law_B942 at hm
  refine r_aload_n (np := 943) G hl 1 rfl dL_law_942 rfl rfl ?_
  refine r_aload_n (np := 944) G hl 0 rfl dL_law_943 rfl rfl ?_
  refine r_iload (np := 946) G hl 4 rfl dL_law_944 rfl ?_
  refine r_iconst (np := 947) G 1 dL_law_946 rfl ?_
  refine r_iadd (np := 948) G dL_law_947 rfl ?_
  obtain ⟨g190, hm⟩ := g_t hm
  refine r_sld (np := 949) G hX hbl hM g190 dL_law_948 rfl ?_
  refine r_aload_n (np := 950) G hl 0 rfl dL_law_949 rfl rfl ?_
  refine r_iload (np := 952) G hl 4 rfl dL_law_950 rfl ?_
  refine r_iconst (np := 953) G 2 dL_law_952 rfl ?_
  refine r_iadd (np := 954) G dL_law_953 rfl ?_
  obtain ⟨g191, hm⟩ := g_t hm
  refine r_sld (np := 955) G hX hbl hM g191 dL_law_954 rfl ?_
  refine r_aload_n (np := 956) G hl 3 rfl dL_law_955 rfl rfl ?_
  obtain ⟨b192, s193, e194, hm⟩ := call_t hm
  refine m_wcall (np := 959) G hM hl.1 [.ref (eA E v1), vI ((xs (wI (v4 + 1)).toNat).toInt), vI ((xs (wI (v4 + 2)).toNat).toInt), .ref (eA E v3)] (qL_trace l hst E σ v1 ((xs (wI (v4 + 1)).toNat).toInt) ((xs (wI (v4 + 2)).toNat).toInt) v3 _ e194) myL_trace lkL_112 ⟨Nat.le_of_ble_eq_true rfl, Nat.le_of_ble_eq_true rfl⟩ ⟨by show _ ≤ 602319; omega, by show _ ≤ 7289146; omega⟩ [] rfl (Nat.le_of_ble_eq_true rfl) dL_law_956 rfl (fun H locs hM => ?_)
  refine r_istore (np := 961) G hl rfl [(5, vI b192), (0, .ref b), (1, .ref (eA E v1)), (2, .ref (eA E v2)), (3, .ref (eA E v3)), (4, vI v4)] dL_law_959 rfl (by decide) rfl (fun ls hl => ?_)
  refine r_aload_n (np := 962) G hl 3 rfl dL_law_961 rfl rfl ?_
  refine r_aload_n (np := 963) G hl 1 rfl dL_law_962 rfl rfl ?_
  refine r_iload (np := 965) G hl 5 rfl dL_law_963 rfl ?_
  refine r_iconst (np := 966) G 1 dL_law_965 rfl ?_
  refine r_iadd (np := 967) G dL_law_966 rfl ?_
  refine r_sld (np := 968) G hX hbl hM g190 dL_law_967 rfl ?_
  refine r_aload_n (np := 969) G hl 1 rfl dL_law_968 rfl rfl ?_
  refine r_iload (np := 971) G hl 5 rfl dL_law_969 rfl ?_
  refine r_iconst (np := 972) G 2 dL_law_971 rfl ?_
  refine r_iadd (np := 973) G dL_law_972 rfl ?_
  refine r_sld (np := 974) G hX hbl hM g191 dL_law_973 rfl ?_
  obtain ⟨b195, s196, e197, hm⟩ := call_t hm
  refine m_callVL (np := 977) G hM hl.1 [vI ((xs (wI (v4 + 1)).toNat).toInt), vI ((xs (wI (v4 + 2)).toNat).toInt)] (qX12_trace l E s193 v2 ((xs (wI (v4 + 1)).toNat).toInt) ((xs (wI (v4 + 2)).toNat).toInt) _ e197) myX12_trace (shp_lt (gX12_trace e197) (by decide)) (gX12_trace e197) rfl (by decide) lkL_114 ⟨Nat.le_of_ble_eq_true rfl, Nat.le_of_ble_eq_true rfl⟩ ⟨by show _ ≤ 602319; omega, by show _ ≤ 7289146; omega⟩ [] rfl (Nat.le_of_ble_eq_true rfl) dL_law_974 rfl (fun H locs hM => ?_)
  refine r_lstore (np := 979) G hl rfl [(6, vL b195), (5, vI b192), (0, .ref b), (1, .ref (eA E v1)), (2, .ref (eA E v2)), (3, .ref (eA E v3)), (4, vI v4)] dL_law_977 rfl (by decide) rfl (fun ls hl => ?_)
  refine r_aload_n (np := 980) G hl 4 rfl dL_law_979 rfl rfl ?_
  obtain ⟨b198, s199, e200, hm⟩ := call_t hm
  refine m_callVI (np := 983) G hM hl.1 [] (qX12_thrown l E s196 v2 _ e200) myX12_thrown (shp_lt (gX12_thrown e200) (by decide)) (gX12_thrown e200) rfl (by decide) lkL_57 ⟨Nat.le_of_ble_eq_true rfl, Nat.le_of_ble_eq_true rfl⟩ ⟨by show _ ≤ 602319; omega, by show _ ≤ 7289146; omega⟩ [] rfl (Nat.le_of_ble_eq_true rfl) dL_law_980 rfl (fun H locs hM => ?_)
  refine r_iload (np := 985) G hl 1 rfl dL_law_983 rfl ?_
  refine r_icmp_eq (np := 988) (tgt := 990) G rfl rfl dL_law_985 (by decide) rfl (fun h201 => ?_) (fun h201 => ?_)
  · have hm := b_t h201 hm
    refine r_iload (np := 992) G hl 1 rfl dL_law_990 rfl ?_
    refine r_if_ne (np := 995) (tgt := 1006) G rfl dL_law_992 (by decide) rfl (fun h202 => ?_) (fun h202 => ?_)
    · have hm := b_f h202 hm
      refine r_goto (np := 1657) G dL_law_1006 (by decide) ?_
      obtain ⟨a203, e204, hm⟩ := bnd_t hm
      refine r_iinc (np := 1660) G hl 6 rfl e204 [(4, vI a203), (6, vL b195), (5, vI b192), (0, .ref b), (1, .ref (eA E v1)), (2, .ref (eA E v2)), (3, .ref (eA E v3))] dL_law_1657 rfl (by decide) rfl (fun ls hl => ?_)
      refine r_goto (np := 23) G dL_law_1660 (by decide) ?_
      refine W.widen (k := 300 + (k + 1)) (n := 4000 + 6 * (k + 1)) (by omega) (by omega) ?_
      exact hc23 a203 (k + 1) (by rw [e204, hk7]; omega) (by omega) _ _ _ _ hm hM (lv_sub hl [3, 4, 5, 6, 0] rfl)
    · have hm := b_t h202 hm
      refine r_aload_n (np := 996) G hl 5 rfl dL_law_995 rfl rfl ?_
      refine r_iconst (np := 997) G 0 dL_law_996 rfl ?_
      obtain ⟨g205, hm⟩ := g_t hm
      refine r_laload (np := 998) G hM g205 rfl dL_law_997 rfl ?_
      refine r_lload (np := 1000) G hl 0 rfl dL_law_998 rfl ?_
      refine r_lcmp_eq (np := 1004) (tgt := 1006) G rfl rfl dL_law_1000 dL_law_1001 (by decide) rfl (fun h206 => ?_) (fun h206 => ?_)
      · have hm := b_t h206 hm
        refine r_goto (np := 1657) G dL_law_1006 (by decide) ?_
        obtain ⟨a207, e208, hm⟩ := bnd_t hm
        refine r_iinc (np := 1660) G hl 6 rfl e208 [(4, vI a207), (6, vL b195), (5, vI b192), (0, .ref b), (1, .ref (eA E v1)), (2, .ref (eA E v2)), (3, .ref (eA E v3))] dL_law_1657 rfl (by decide) rfl (fun ls hl => ?_)
        refine r_goto (np := 23) G dL_law_1660 (by decide) ?_
        refine W.widen (k := 300 + (k + 1)) (n := 4000 + 6 * (k + 1)) (by omega) (by omega) ?_
        exact hc23 a207 (k + 1) (by rw [e208, hk7]; omega) (by omega) _ _ _ _ hm hM (lv_sub hl [3, 4, 5, 6, 0] rfl)
      · have hm := b_f h206 hm
        refine r_iconst (np := 1005) G 0 dL_law_1004 rfl ?_
        cases hm
        exact absurd (show (0 : Int) = 1 from hout) (by decide)
  · have hm := b_f h201 hm
    refine r_iconst (np := 989) G 0 dL_law_988 rfl ?_
    cases hm
    exact absurd (show (0 : Int) = 1 from hout) (by decide)
set_option maxRecDepth 100000 in
set_option maxHeartbeats 4000000 in
theorem wL_law_B875 (l : Launch) (hst : l.stackTraces = false) (E : mE) (out : Int × mSt) (hout : out.1 = 1) {p : Program} {e : Env} {s : State} {m : MethodId} {below : List Frame} {meth : Method} {c : Code} {b : Nat} (xs : Nat → Int32) (L : Nat) (hL : L ≤ 3584) (G : CallFix p m c code 8 s #[Value.ref b] mTs RL) (hr : meth.sig.returnType = ret) (hk : meth.locks = false) (hX : va_X b L xs s s.heap) (hbl : b < s.heap.size) (v1 : Nat) (v2 : Nat) (v3 : Nat) (c23 : Int → mSt → Option (Int × mSt)) (x1663 : mSt → Option (Int × mSt)) (hc23 : ∀ (v4 : Int) (k : Nat) (hk7 : v4 = 7 * (k : Int)) (hk5 : k ≤ 512) (σ : mSt) (H : Heap) (locs : List Loc) (ls : Array Slot), c23 v4 σ = some out → mM (fun q => s.heap.size ≤ q) E 276 σ s H locs → lv_has ls 8 [(0, .ref b), (1, .ref (eA E v1)), (2, .ref (eA E v2)), (3, .ref (eA E v3)), (4, vI v4)] → mGoL l p e s m b below meth c (300 + k) (4000 + 6 * k) H locs (F0 m 23 ls [])) (hx1663 : ∀ (k : Nat) (hk5 : k ≤ 512) (σ : mSt) (H : Heap) (locs : List Loc) (ls : Array Slot), x1663 σ = some out → mM (fun q => s.heap.size ≤ q) E 276 σ s H locs → lv_has ls 8 [] → mGoL l p e s m b below meth c (300 + k) (4000 + 6 * k) H locs (F0 m 1663 ls [])) : ∀ (v4 : Int) (k : Nat) (hk7 : v4 = 7 * (k : Int)) (hk5 : k ≤ 511) (σ : mSt) (H : Heap) (locs : List Loc) (ls : Array Slot), mL_law_B875 xs L v1 v2 v3 c23 x1663 v4 σ = some out → mM (fun q => s.heap.size ≤ q) E 276 σ s H locs → lv_has ls 8 [(0, .ref b), (1, .ref (eA E v1)), (2, .ref (eA E v2)), (3, .ref (eA E v3)), (4, vI v4)] → mGoL l p e s m b below meth c (300 + k) (4000 + 6 * k) H locs (F0 m 875 ls []) := by
  intro v4 k hk7 hk5 σ H locs ls hm hM hl
  unfold mL_law_B875 at hm
  refine r_aload_n (np := 876) G hl 1 rfl dL_law_875 rfl rfl ?_
  refine r_aload_n (np := 877) G hl 0 rfl dL_law_876 rfl rfl ?_
  refine r_iload (np := 879) G hl 4 rfl dL_law_877 rfl ?_
  refine r_iconst (np := 880) G 1 dL_law_879 rfl ?_
  refine r_iadd (np := 881) G dL_law_880 rfl ?_
  obtain ⟨g209, hm⟩ := g_t hm
  refine r_sld (np := 882) G hX hbl hM g209 dL_law_881 rfl ?_
  refine r_aload_n (np := 883) G hl 0 rfl dL_law_882 rfl rfl ?_
  refine r_iload (np := 885) G hl 4 rfl dL_law_883 rfl ?_
  refine r_iconst (np := 886) G 2 dL_law_885 rfl ?_
  refine r_iadd (np := 887) G dL_law_886 rfl ?_
  obtain ⟨g210, hm⟩ := g_t hm
  refine r_sld (np := 888) G hX hbl hM g210 dL_law_887 rfl ?_
  refine r_aload_n (np := 889) G hl 3 rfl dL_law_888 rfl rfl ?_
  obtain ⟨b211, s212, e213, hm⟩ := call_t hm
  refine m_wcall (np := 892) G hM hl.1 [.ref (eA E v1), vI ((xs (wI (v4 + 1)).toNat).toInt), vI ((xs (wI (v4 + 2)).toNat).toInt), .ref (eA E v3)] (qL_norm l hst E σ v1 ((xs (wI (v4 + 1)).toNat).toInt) ((xs (wI (v4 + 2)).toNat).toInt) v3 _ e213) myL_norm lkL_109 ⟨Nat.le_of_ble_eq_true rfl, Nat.le_of_ble_eq_true rfl⟩ ⟨by show _ ≤ 602319; omega, by show _ ≤ 7289146; omega⟩ [] rfl (Nat.le_of_ble_eq_true rfl) dL_law_889 rfl (fun H locs hM => ?_)
  refine r_istore (np := 894) G hl rfl [(5, vI b211), (0, .ref b), (1, .ref (eA E v1)), (2, .ref (eA E v2)), (3, .ref (eA E v3)), (4, vI v4)] dL_law_892 rfl (by decide) rfl (fun ls hl => ?_)
  refine r_aload_n (np := 895) G hl 3 rfl dL_law_894 rfl rfl ?_
  refine r_aload_n (np := 896) G hl 1 rfl dL_law_895 rfl rfl ?_
  refine r_iload (np := 898) G hl 5 rfl dL_law_896 rfl ?_
  refine r_iconst (np := 899) G 1 dL_law_898 rfl ?_
  refine r_iadd (np := 900) G dL_law_899 rfl ?_
  refine r_sld (np := 901) G hX hbl hM g209 dL_law_900 rfl ?_
  refine r_aload_n (np := 902) G hl 1 rfl dL_law_901 rfl rfl ?_
  refine r_iload (np := 904) G hl 5 rfl dL_law_902 rfl ?_
  refine r_iconst (np := 905) G 2 dL_law_904 rfl ?_
  refine r_iadd (np := 906) G dL_law_905 rfl ?_
  refine r_sld (np := 907) G hX hbl hM g210 dL_law_906 rfl ?_
  obtain ⟨b214, s215, e216, hm⟩ := call_t hm
  refine m_callVL (np := 910) G hM hl.1 [vI ((xs (wI (v4 + 1)).toNat).toInt), vI ((xs (wI (v4 + 2)).toNat).toInt)] (qX12_norm l E s212 v2 ((xs (wI (v4 + 1)).toNat).toInt) ((xs (wI (v4 + 2)).toNat).toInt) _ e216) myX12_norm (shp_lt (gX12_norm e216) (by decide)) (gX12_norm e216) rfl (by decide) lkL_111 ⟨Nat.le_of_ble_eq_true rfl, Nat.le_of_ble_eq_true rfl⟩ ⟨by show _ ≤ 602319; omega, by show _ ≤ 7289146; omega⟩ [] rfl (Nat.le_of_ble_eq_true rfl) dL_law_907 rfl (fun H locs hM => ?_)
  refine r_lstore (np := 912) G hl rfl [(6, vL b214), (5, vI b211), (0, .ref b), (1, .ref (eA E v1)), (2, .ref (eA E v2)), (3, .ref (eA E v3)), (4, vI v4)] dL_law_910 rfl (by decide) rfl (fun ls hl => ?_)
  refine r_aload_n (np := 913) G hl 4 rfl dL_law_912 rfl rfl ?_
  obtain ⟨b217, s218, e219, hm⟩ := call_t hm
  refine m_callVI (np := 916) G hM hl.1 [] (qX12_thrown l E s215 v2 _ e219) myX12_thrown (shp_lt (gX12_thrown e219) (by decide)) (gX12_thrown e219) rfl (by decide) lkL_57 ⟨Nat.le_of_ble_eq_true rfl, Nat.le_of_ble_eq_true rfl⟩ ⟨by show _ ≤ 602319; omega, by show _ ≤ 7289146; omega⟩ [] rfl (Nat.le_of_ble_eq_true rfl) dL_law_913 rfl (fun H locs hM => ?_)
  refine r_iload (np := 918) G hl 1 rfl dL_law_916 rfl ?_
  refine r_icmp_eq (np := 921) (tgt := 923) G rfl rfl dL_law_918 (by decide) rfl (fun h220 => ?_) (fun h220 => ?_)
  · have hm := b_t h220 hm
    refine r_iload (np := 925) G hl 1 rfl dL_law_923 rfl ?_
    refine r_if_ne (np := 928) (tgt := 939) G rfl dL_law_925 (by decide) rfl (fun h221 => ?_) (fun h221 => ?_)
    · have hm := b_f h221 hm
      refine r_goto (np := 1657) G dL_law_939 (by decide) ?_
      obtain ⟨a222, e223, hm⟩ := bnd_t hm
      refine r_iinc (np := 1660) G hl 6 rfl e223 [(4, vI a222), (6, vL b214), (5, vI b211), (0, .ref b), (1, .ref (eA E v1)), (2, .ref (eA E v2)), (3, .ref (eA E v3))] dL_law_1657 rfl (by decide) rfl (fun ls hl => ?_)
      refine r_goto (np := 23) G dL_law_1660 (by decide) ?_
      refine W.widen (k := 300 + (k + 1)) (n := 4000 + 6 * (k + 1)) (by omega) (by omega) ?_
      exact hc23 a222 (k + 1) (by rw [e223, hk7]; omega) (by omega) _ _ _ _ hm hM (lv_sub hl [3, 4, 5, 6, 0] rfl)
    · have hm := b_t h221 hm
      refine r_aload_n (np := 929) G hl 5 rfl dL_law_928 rfl rfl ?_
      refine r_iconst (np := 930) G 0 dL_law_929 rfl ?_
      obtain ⟨g224, hm⟩ := g_t hm
      refine r_laload (np := 931) G hM g224 rfl dL_law_930 rfl ?_
      refine r_lload (np := 933) G hl 0 rfl dL_law_931 rfl ?_
      refine r_lcmp_eq (np := 937) (tgt := 939) G rfl rfl dL_law_933 dL_law_934 (by decide) rfl (fun h225 => ?_) (fun h225 => ?_)
      · have hm := b_t h225 hm
        refine r_goto (np := 1657) G dL_law_939 (by decide) ?_
        obtain ⟨a226, e227, hm⟩ := bnd_t hm
        refine r_iinc (np := 1660) G hl 6 rfl e227 [(4, vI a226), (6, vL b214), (5, vI b211), (0, .ref b), (1, .ref (eA E v1)), (2, .ref (eA E v2)), (3, .ref (eA E v3))] dL_law_1657 rfl (by decide) rfl (fun ls hl => ?_)
        refine r_goto (np := 23) G dL_law_1660 (by decide) ?_
        refine W.widen (k := 300 + (k + 1)) (n := 4000 + 6 * (k + 1)) (by omega) (by omega) ?_
        exact hc23 a226 (k + 1) (by rw [e227, hk7]; omega) (by omega) _ _ _ _ hm hM (lv_sub hl [3, 4, 5, 6, 0] rfl)
      · have hm := b_f h225 hm
        refine r_iconst (np := 938) G 0 dL_law_937 rfl ?_
        cases hm
        exact absurd (show (0 : Int) = 1 from hout) (by decide)
  · have hm := b_f h220 hm
    refine r_iconst (np := 922) G 0 dL_law_921 rfl ?_
    cases hm
    exact absurd (show (0 : Int) = 1 from hout) (by decide)
set_option maxRecDepth 100000 in
set_option maxHeartbeats 4000000 in
theorem wL_law_B838 (l : Launch) (hst : l.stackTraces = false) (E : mE) (out : Int × mSt) (hout : out.1 = 1) {p : Program} {e : Env} {s : State} {m : MethodId} {below : List Frame} {meth : Method} {c : Code} {b : Nat} (xs : Nat → Int32) (L : Nat) (hL : L ≤ 3584) (G : CallFix p m c code 8 s #[Value.ref b] mTs RL) (hr : meth.sig.returnType = ret) (hk : meth.locks = false) (hX : va_X b L xs s s.heap) (hbl : b < s.heap.size) (v1 : Nat) (v2 : Nat) (v3 : Nat) (c23 : Int → mSt → Option (Int × mSt)) (x1663 : mSt → Option (Int × mSt)) (hc23 : ∀ (v4 : Int) (k : Nat) (hk7 : v4 = 7 * (k : Int)) (hk5 : k ≤ 512) (σ : mSt) (H : Heap) (locs : List Loc) (ls : Array Slot), c23 v4 σ = some out → mM (fun q => s.heap.size ≤ q) E 276 σ s H locs → lv_has ls 8 [(0, .ref b), (1, .ref (eA E v1)), (2, .ref (eA E v2)), (3, .ref (eA E v3)), (4, vI v4)] → mGoL l p e s m b below meth c (300 + k) (4000 + 6 * k) H locs (F0 m 23 ls [])) (hx1663 : ∀ (k : Nat) (hk5 : k ≤ 512) (σ : mSt) (H : Heap) (locs : List Loc) (ls : Array Slot), x1663 σ = some out → mM (fun q => s.heap.size ≤ q) E 276 σ s H locs → lv_has ls 8 [] → mGoL l p e s m b below meth c (300 + k) (4000 + 6 * k) H locs (F0 m 1663 ls [])) : ∀ (v4 : Int) (k : Nat) (hk7 : v4 = 7 * (k : Int)) (hk5 : k ≤ 511) (σ : mSt) (H : Heap) (locs : List Loc) (ls : Array Slot), mL_law_B838 xs L v1 v2 v3 c23 x1663 v4 σ = some out → mM (fun q => s.heap.size ≤ q) E 276 σ s H locs → lv_has ls 8 [(0, .ref b), (1, .ref (eA E v1)), (2, .ref (eA E v2)), (3, .ref (eA E v3)), (4, vI v4)] → mGoL l p e s m b below meth c (300 + k) (4000 + 6 * k) H locs (F0 m 838 ls []) := by
  intro v4 k hk7 hk5 σ H locs ls hm hM hl
  unfold mL_law_B838 at hm
  refine r_aload_n (np := 839) G hl 1 rfl dL_law_838 rfl rfl ?_
  refine r_aload_n (np := 840) G hl 0 rfl dL_law_839 rfl rfl ?_
  refine r_iload (np := 842) G hl 4 rfl dL_law_840 rfl ?_
  refine r_iconst (np := 843) G 1 dL_law_842 rfl ?_
  refine r_iadd (np := 844) G dL_law_843 rfl ?_
  obtain ⟨g228, hm⟩ := g_t hm
  refine r_sld (np := 845) G hX hbl hM g228 dL_law_844 rfl ?_
  refine r_aload_n (np := 846) G hl 0 rfl dL_law_845 rfl rfl ?_
  refine r_iload (np := 848) G hl 4 rfl dL_law_846 rfl ?_
  refine r_iconst (np := 849) G 2 dL_law_848 rfl ?_
  refine r_iadd (np := 850) G dL_law_849 rfl ?_
  obtain ⟨g229, hm⟩ := g_t hm
  refine r_sld (np := 851) G hX hbl hM g229 dL_law_850 rfl ?_
  obtain ⟨b230, s231, e232, hm⟩ := call_t hm
  refine m_callVI (np := 854) G hM hl.1 [vI ((xs (wI (v4 + 1)).toNat).toInt), vI ((xs (wI (v4 + 2)).toNat).toInt)] (qX11_inverse l E σ v1 ((xs (wI (v4 + 1)).toNat).toInt) ((xs (wI (v4 + 2)).toNat).toInt) _ e232) myX11_inverse (shp_lt (gX11_inverse e232) (by decide)) (gX11_inverse e232) rfl (by decide) lkL_105 ⟨Nat.le_of_ble_eq_true rfl, Nat.le_of_ble_eq_true rfl⟩ ⟨by show _ ≤ 602319; omega, by show _ ≤ 7289146; omega⟩ [] rfl (Nat.le_of_ble_eq_true rfl) dL_law_851 rfl (fun H locs hM => ?_)
  refine r_aload_n (np := 855) G hl 2 rfl dL_law_854 rfl rfl ?_
  refine r_aload_n (np := 856) G hl 0 rfl dL_law_855 rfl rfl ?_
  refine r_iload (np := 858) G hl 4 rfl dL_law_856 rfl ?_
  refine r_iconst (np := 859) G 1 dL_law_858 rfl ?_
  refine r_iadd (np := 860) G dL_law_859 rfl ?_
  refine r_sld (np := 861) G hX hbl hM g228 dL_law_860 rfl ?_
  refine r_aload_n (np := 862) G hl 0 rfl dL_law_861 rfl rfl ?_
  refine r_iload (np := 864) G hl 4 rfl dL_law_862 rfl ?_
  refine r_iconst (np := 865) G 2 dL_law_864 rfl ?_
  refine r_iadd (np := 866) G dL_law_865 rfl ?_
  refine r_sld (np := 867) G hX hbl hM g229 dL_law_866 rfl ?_
  obtain ⟨b233, s234, e235, hm⟩ := call_t hm
  refine m_callVI (np := 870) G hM hl.1 [vI ((xs (wI (v4 + 1)).toNat).toInt), vI ((xs (wI (v4 + 2)).toNat).toInt)] (qX12_inverse l E s231 v2 ((xs (wI (v4 + 1)).toNat).toInt) ((xs (wI (v4 + 2)).toNat).toInt) _ e235) myX12_inverse (shp_lt (gX12_inverse e235) (by decide)) (gX12_inverse e235) rfl (by decide) lkL_108 ⟨Nat.le_of_ble_eq_true rfl, Nat.le_of_ble_eq_true rfl⟩ ⟨by show _ ≤ 602319; omega, by show _ ≤ 7289146; omega⟩ [vI b230] rfl (Nat.le_of_ble_eq_true rfl) dL_law_867 rfl (fun H locs hM => ?_)
  refine r_icmp_eq (np := 873) (tgt := 1657) G rfl rfl dL_law_870 (by decide) rfl (fun h236 => ?_) (fun h236 => ?_)
  · have hm := b_t h236 hm
    obtain ⟨a237, e238, hm⟩ := bnd_t hm
    refine r_iinc (np := 1660) G hl 4 rfl e238 [(4, vI a237), (0, .ref b), (1, .ref (eA E v1)), (2, .ref (eA E v2)), (3, .ref (eA E v3))] dL_law_1657 rfl (by decide) rfl (fun ls hl => ?_)
    refine r_goto (np := 23) G dL_law_1660 (by decide) ?_
    refine W.widen (k := 300 + (k + 1)) (n := 4000 + 6 * (k + 1)) (by omega) (by omega) ?_
    exact hc23 a237 (k + 1) (by rw [e238, hk7]; omega) (by omega) _ _ _ _ hm hM (lv_sub hl [1, 2, 3, 4, 0] rfl)
  · have hm := b_f h236 hm
    refine r_iconst (np := 874) G 0 dL_law_873 rfl ?_
    cases hm
    exact absurd (show (0 : Int) = 1 from hout) (by decide)
set_option maxRecDepth 100000 in
set_option maxHeartbeats 4000000 in
theorem wL_law_B801 (l : Launch) (hst : l.stackTraces = false) (E : mE) (out : Int × mSt) (hout : out.1 = 1) {p : Program} {e : Env} {s : State} {m : MethodId} {below : List Frame} {meth : Method} {c : Code} {b : Nat} (xs : Nat → Int32) (L : Nat) (hL : L ≤ 3584) (G : CallFix p m c code 8 s #[Value.ref b] mTs RL) (hr : meth.sig.returnType = ret) (hk : meth.locks = false) (hX : va_X b L xs s s.heap) (hbl : b < s.heap.size) (v1 : Nat) (v2 : Nat) (v3 : Nat) (c23 : Int → mSt → Option (Int × mSt)) (x1663 : mSt → Option (Int × mSt)) (hc23 : ∀ (v4 : Int) (k : Nat) (hk7 : v4 = 7 * (k : Int)) (hk5 : k ≤ 512) (σ : mSt) (H : Heap) (locs : List Loc) (ls : Array Slot), c23 v4 σ = some out → mM (fun q => s.heap.size ≤ q) E 276 σ s H locs → lv_has ls 8 [(0, .ref b), (1, .ref (eA E v1)), (2, .ref (eA E v2)), (3, .ref (eA E v3)), (4, vI v4)] → mGoL l p e s m b below meth c (300 + k) (4000 + 6 * k) H locs (F0 m 23 ls [])) (hx1663 : ∀ (k : Nat) (hk5 : k ≤ 512) (σ : mSt) (H : Heap) (locs : List Loc) (ls : Array Slot), x1663 σ = some out → mM (fun q => s.heap.size ≤ q) E 276 σ s H locs → lv_has ls 8 [] → mGoL l p e s m b below meth c (300 + k) (4000 + 6 * k) H locs (F0 m 1663 ls [])) : ∀ (v4 : Int) (k : Nat) (hk7 : v4 = 7 * (k : Int)) (hk5 : k ≤ 511) (σ : mSt) (H : Heap) (locs : List Loc) (ls : Array Slot), mL_law_B801 xs L v1 v2 v3 c23 x1663 v4 σ = some out → mM (fun q => s.heap.size ≤ q) E 276 σ s H locs → lv_has ls 8 [(0, .ref b), (1, .ref (eA E v1)), (2, .ref (eA E v2)), (3, .ref (eA E v3)), (4, vI v4)] → mGoL l p e s m b below meth c (300 + k) (4000 + 6 * k) H locs (F0 m 801 ls []) := by
  intro v4 k hk7 hk5 σ H locs ls hm hM hl
  unfold mL_law_B801 at hm
  refine r_aload_n (np := 802) G hl 1 rfl dL_law_801 rfl rfl ?_
  refine r_aload_n (np := 803) G hl 0 rfl dL_law_802 rfl rfl ?_
  refine r_iload (np := 805) G hl 4 rfl dL_law_803 rfl ?_
  refine r_iconst (np := 806) G 1 dL_law_805 rfl ?_
  refine r_iadd (np := 807) G dL_law_806 rfl ?_
  obtain ⟨g239, hm⟩ := g_t hm
  refine r_sld (np := 808) G hX hbl hM g239 dL_law_807 rfl ?_
  refine r_aload_n (np := 809) G hl 0 rfl dL_law_808 rfl rfl ?_
  refine r_iload (np := 811) G hl 4 rfl dL_law_809 rfl ?_
  refine r_iconst (np := 812) G 2 dL_law_811 rfl ?_
  refine r_iadd (np := 813) G dL_law_812 rfl ?_
  obtain ⟨g240, hm⟩ := g_t hm
  refine r_sld (np := 814) G hX hbl hM g240 dL_law_813 rfl ?_
  obtain ⟨b241, s242, e243, hm⟩ := call_t hm
  refine m_callVI (np := 817) G hM hl.1 [vI ((xs (wI (v4 + 1)).toNat).toInt), vI ((xs (wI (v4 + 2)).toNat).toInt)] (qX11_mirror l E σ v1 ((xs (wI (v4 + 1)).toNat).toInt) ((xs (wI (v4 + 2)).toNat).toInt) _ e243) myX11_mirror (shp_lt (gX11_mirror e243) (by decide)) (gX11_mirror e243) rfl (by decide) lkL_101 ⟨Nat.le_of_ble_eq_true rfl, Nat.le_of_ble_eq_true rfl⟩ ⟨by show _ ≤ 602319; omega, by show _ ≤ 7289146; omega⟩ [] rfl (Nat.le_of_ble_eq_true rfl) dL_law_814 rfl (fun H locs hM => ?_)
  refine r_aload_n (np := 818) G hl 2 rfl dL_law_817 rfl rfl ?_
  refine r_aload_n (np := 819) G hl 0 rfl dL_law_818 rfl rfl ?_
  refine r_iload (np := 821) G hl 4 rfl dL_law_819 rfl ?_
  refine r_iconst (np := 822) G 1 dL_law_821 rfl ?_
  refine r_iadd (np := 823) G dL_law_822 rfl ?_
  refine r_sld (np := 824) G hX hbl hM g239 dL_law_823 rfl ?_
  refine r_aload_n (np := 825) G hl 0 rfl dL_law_824 rfl rfl ?_
  refine r_iload (np := 827) G hl 4 rfl dL_law_825 rfl ?_
  refine r_iconst (np := 828) G 2 dL_law_827 rfl ?_
  refine r_iadd (np := 829) G dL_law_828 rfl ?_
  refine r_sld (np := 830) G hX hbl hM g240 dL_law_829 rfl ?_
  obtain ⟨b244, s245, e246, hm⟩ := call_t hm
  refine m_callVI (np := 833) G hM hl.1 [vI ((xs (wI (v4 + 1)).toNat).toInt), vI ((xs (wI (v4 + 2)).toNat).toInt)] (qX12_mirror l E s242 v2 ((xs (wI (v4 + 1)).toNat).toInt) ((xs (wI (v4 + 2)).toNat).toInt) _ e246) myX12_mirror (shp_lt (gX12_mirror e246) (by decide)) (gX12_mirror e246) rfl (by decide) lkL_104 ⟨Nat.le_of_ble_eq_true rfl, Nat.le_of_ble_eq_true rfl⟩ ⟨by show _ ≤ 602319; omega, by show _ ≤ 7289146; omega⟩ [vI b241] rfl (Nat.le_of_ble_eq_true rfl) dL_law_830 rfl (fun H locs hM => ?_)
  refine r_icmp_eq (np := 836) (tgt := 1657) G rfl rfl dL_law_833 (by decide) rfl (fun h247 => ?_) (fun h247 => ?_)
  · have hm := b_t h247 hm
    obtain ⟨a248, e249, hm⟩ := bnd_t hm
    refine r_iinc (np := 1660) G hl 4 rfl e249 [(4, vI a248), (0, .ref b), (1, .ref (eA E v1)), (2, .ref (eA E v2)), (3, .ref (eA E v3))] dL_law_1657 rfl (by decide) rfl (fun ls hl => ?_)
    refine r_goto (np := 23) G dL_law_1660 (by decide) ?_
    refine W.widen (k := 300 + (k + 1)) (n := 4000 + 6 * (k + 1)) (by omega) (by omega) ?_
    exact hc23 a248 (k + 1) (by rw [e249, hk7]; omega) (by omega) _ _ _ _ hm hM (lv_sub hl [1, 2, 3, 4, 0] rfl)
  · have hm := b_f h247 hm
    refine r_iconst (np := 837) G 0 dL_law_836 rfl ?_
    cases hm
    exact absurd (show (0 : Int) = 1 from hout) (by decide)
set_option maxRecDepth 100000 in
set_option maxHeartbeats 4000000 in
theorem wL_law_B740 (l : Launch) (hst : l.stackTraces = false) (E : mE) (out : Int × mSt) (hout : out.1 = 1) {p : Program} {e : Env} {s : State} {m : MethodId} {below : List Frame} {meth : Method} {c : Code} {b : Nat} (xs : Nat → Int32) (L : Nat) (hL : L ≤ 3584) (G : CallFix p m c code 8 s #[Value.ref b] mTs RL) (hr : meth.sig.returnType = ret) (hk : meth.locks = false) (hX : va_X b L xs s s.heap) (hbl : b < s.heap.size) (v1 : Nat) (v2 : Nat) (v3 : Nat) (c23 : Int → mSt → Option (Int × mSt)) (x1663 : mSt → Option (Int × mSt)) (hc23 : ∀ (v4 : Int) (k : Nat) (hk7 : v4 = 7 * (k : Int)) (hk5 : k ≤ 512) (σ : mSt) (H : Heap) (locs : List Loc) (ls : Array Slot), c23 v4 σ = some out → mM (fun q => s.heap.size ≤ q) E 276 σ s H locs → lv_has ls 8 [(0, .ref b), (1, .ref (eA E v1)), (2, .ref (eA E v2)), (3, .ref (eA E v3)), (4, vI v4)] → mGoL l p e s m b below meth c (300 + k) (4000 + 6 * k) H locs (F0 m 23 ls [])) (hx1663 : ∀ (k : Nat) (hk5 : k ≤ 512) (σ : mSt) (H : Heap) (locs : List Loc) (ls : Array Slot), x1663 σ = some out → mM (fun q => s.heap.size ≤ q) E 276 σ s H locs → lv_has ls 8 [] → mGoL l p e s m b below meth c (300 + k) (4000 + 6 * k) H locs (F0 m 1663 ls [])) : ∀ (v4 : Int) (k : Nat) (hk7 : v4 = 7 * (k : Int)) (hk5 : k ≤ 511) (σ : mSt) (H : Heap) (locs : List Loc) (ls : Array Slot), mL_law_B740 xs L v1 v2 v3 c23 x1663 v4 σ = some out → mM (fun q => s.heap.size ≤ q) E 276 σ s H locs → lv_has ls 8 [(0, .ref b), (1, .ref (eA E v1)), (2, .ref (eA E v2)), (3, .ref (eA E v3)), (4, vI v4)] → mGoL l p e s m b below meth c (300 + k) (4000 + 6 * k) H locs (F0 m 740 ls []) := by
  intro v4 k hk7 hk5 σ H locs ls hm hM hl
  unfold mL_law_B740 at hm
  refine r_aload_n (np := 741) G hl 1 rfl dL_law_740 rfl rfl ?_
  refine r_aload_n (np := 742) G hl 0 rfl dL_law_741 rfl rfl ?_
  refine r_iload (np := 744) G hl 4 rfl dL_law_742 rfl ?_
  refine r_iconst (np := 745) G 1 dL_law_744 rfl ?_
  refine r_iadd (np := 746) G dL_law_745 rfl ?_
  obtain ⟨g250, hm⟩ := g_t hm
  refine r_sld (np := 747) G hX hbl hM g250 dL_law_746 rfl ?_
  refine r_aload_n (np := 748) G hl 0 rfl dL_law_747 rfl rfl ?_
  refine r_iload (np := 750) G hl 4 rfl dL_law_748 rfl ?_
  refine r_iconst (np := 751) G 2 dL_law_750 rfl ?_
  refine r_iadd (np := 752) G dL_law_751 rfl ?_
  obtain ⟨g251, hm⟩ := g_t hm
  refine r_sld (np := 753) G hX hbl hM g251 dL_law_752 rfl ?_
  refine r_aload_n (np := 754) G hl 0 rfl dL_law_753 rfl rfl ?_
  refine r_iload (np := 756) G hl 4 rfl dL_law_754 rfl ?_
  refine r_iconst (np := 757) G 3 dL_law_756 rfl ?_
  refine r_iadd (np := 758) G dL_law_757 rfl ?_
  obtain ⟨g252, hm⟩ := g_t hm
  refine r_sld (np := 759) G hX hbl hM g252 dL_law_758 rfl ?_
  refine r_aload_n (np := 760) G hl 0 rfl dL_law_759 rfl rfl ?_
  refine r_iload (np := 762) G hl 4 rfl dL_law_760 rfl ?_
  refine r_iconst (np := 763) G 4 dL_law_762 rfl ?_
  refine r_iadd (np := 764) G dL_law_763 rfl ?_
  obtain ⟨g253, hm⟩ := g_t hm
  refine r_sld (np := 765) G hX hbl hM g253 dL_law_764 rfl ?_
  obtain ⟨b254, s255, e256, hm⟩ := call_t hm
  refine m_callVI (np := 768) G hM hl.1 [vI ((xs (wI (v4 + 1)).toNat).toInt), vI ((xs (wI (v4 + 2)).toNat).toInt), vI ((xs (wI (v4 + 3)).toNat).toInt), vI ((xs (wI (v4 + 4)).toNat).toInt)] (qX11_plus l E σ v1 ((xs (wI (v4 + 1)).toNat).toInt) ((xs (wI (v4 + 2)).toNat).toInt) ((xs (wI (v4 + 3)).toNat).toInt) ((xs (wI (v4 + 4)).toNat).toInt) _ e256) myX11_plus (shp_lt (gX11_plus e256) (by decide)) (gX11_plus e256) rfl (by decide) lkL_97 ⟨Nat.le_of_ble_eq_true rfl, Nat.le_of_ble_eq_true rfl⟩ ⟨by show _ ≤ 602319; omega, by show _ ≤ 7289146; omega⟩ [] rfl (Nat.le_of_ble_eq_true rfl) dL_law_765 rfl (fun H locs hM => ?_)
  refine r_aload_n (np := 769) G hl 2 rfl dL_law_768 rfl rfl ?_
  refine r_aload_n (np := 770) G hl 0 rfl dL_law_769 rfl rfl ?_
  refine r_iload (np := 772) G hl 4 rfl dL_law_770 rfl ?_
  refine r_iconst (np := 773) G 1 dL_law_772 rfl ?_
  refine r_iadd (np := 774) G dL_law_773 rfl ?_
  refine r_sld (np := 775) G hX hbl hM g250 dL_law_774 rfl ?_
  refine r_aload_n (np := 776) G hl 0 rfl dL_law_775 rfl rfl ?_
  refine r_iload (np := 778) G hl 4 rfl dL_law_776 rfl ?_
  refine r_iconst (np := 779) G 2 dL_law_778 rfl ?_
  refine r_iadd (np := 780) G dL_law_779 rfl ?_
  refine r_sld (np := 781) G hX hbl hM g251 dL_law_780 rfl ?_
  refine r_aload_n (np := 782) G hl 0 rfl dL_law_781 rfl rfl ?_
  refine r_iload (np := 784) G hl 4 rfl dL_law_782 rfl ?_
  refine r_iconst (np := 785) G 3 dL_law_784 rfl ?_
  refine r_iadd (np := 786) G dL_law_785 rfl ?_
  refine r_sld (np := 787) G hX hbl hM g252 dL_law_786 rfl ?_
  refine r_aload_n (np := 788) G hl 0 rfl dL_law_787 rfl rfl ?_
  refine r_iload (np := 790) G hl 4 rfl dL_law_788 rfl ?_
  refine r_iconst (np := 791) G 4 dL_law_790 rfl ?_
  refine r_iadd (np := 792) G dL_law_791 rfl ?_
  refine r_sld (np := 793) G hX hbl hM g253 dL_law_792 rfl ?_
  obtain ⟨b257, s258, e259, hm⟩ := call_t hm
  refine m_callVI (np := 796) G hM hl.1 [vI ((xs (wI (v4 + 1)).toNat).toInt), vI ((xs (wI (v4 + 2)).toNat).toInt), vI ((xs (wI (v4 + 3)).toNat).toInt), vI ((xs (wI (v4 + 4)).toNat).toInt)] (qX12_plus l E s255 v2 ((xs (wI (v4 + 1)).toNat).toInt) ((xs (wI (v4 + 2)).toNat).toInt) ((xs (wI (v4 + 3)).toNat).toInt) ((xs (wI (v4 + 4)).toNat).toInt) _ e259) myX12_plus (shp_lt (gX12_plus e259) (by decide)) (gX12_plus e259) rfl (by decide) lkL_100 ⟨Nat.le_of_ble_eq_true rfl, Nat.le_of_ble_eq_true rfl⟩ ⟨by show _ ≤ 602319; omega, by show _ ≤ 7289146; omega⟩ [vI b254] rfl (Nat.le_of_ble_eq_true rfl) dL_law_793 rfl (fun H locs hM => ?_)
  refine r_icmp_eq (np := 799) (tgt := 1657) G rfl rfl dL_law_796 (by decide) rfl (fun h260 => ?_) (fun h260 => ?_)
  · have hm := b_t h260 hm
    obtain ⟨a261, e262, hm⟩ := bnd_t hm
    refine r_iinc (np := 1660) G hl 4 rfl e262 [(4, vI a261), (0, .ref b), (1, .ref (eA E v1)), (2, .ref (eA E v2)), (3, .ref (eA E v3))] dL_law_1657 rfl (by decide) rfl (fun ls hl => ?_)
    refine r_goto (np := 23) G dL_law_1660 (by decide) ?_
    refine W.widen (k := 300 + (k + 1)) (n := 4000 + 6 * (k + 1)) (by omega) (by omega) ?_
    exact hc23 a261 (k + 1) (by rw [e262, hk7]; omega) (by omega) _ _ _ _ hm hM (lv_sub hl [1, 2, 3, 4, 0] rfl)
  · have hm := b_f h260 hm
    refine r_iconst (np := 800) G 0 dL_law_799 rfl ?_
    cases hm
    exact absurd (show (0 : Int) = 1 from hout) (by decide)
set_option maxRecDepth 100000 in
set_option maxHeartbeats 4000000 in
theorem wL_law_B691 (l : Launch) (hst : l.stackTraces = false) (E : mE) (out : Int × mSt) (hout : out.1 = 1) {p : Program} {e : Env} {s : State} {m : MethodId} {below : List Frame} {meth : Method} {c : Code} {b : Nat} (xs : Nat → Int32) (L : Nat) (hL : L ≤ 3584) (G : CallFix p m c code 8 s #[Value.ref b] mTs RL) (hr : meth.sig.returnType = ret) (hk : meth.locks = false) (hX : va_X b L xs s s.heap) (hbl : b < s.heap.size) (v1 : Nat) (v2 : Nat) (v3 : Nat) (c23 : Int → mSt → Option (Int × mSt)) (x1663 : mSt → Option (Int × mSt)) (hc23 : ∀ (v4 : Int) (k : Nat) (hk7 : v4 = 7 * (k : Int)) (hk5 : k ≤ 512) (σ : mSt) (H : Heap) (locs : List Loc) (ls : Array Slot), c23 v4 σ = some out → mM (fun q => s.heap.size ≤ q) E 276 σ s H locs → lv_has ls 8 [(0, .ref b), (1, .ref (eA E v1)), (2, .ref (eA E v2)), (3, .ref (eA E v3)), (4, vI v4)] → mGoL l p e s m b below meth c (300 + k) (4000 + 6 * k) H locs (F0 m 23 ls [])) (hx1663 : ∀ (k : Nat) (hk5 : k ≤ 512) (σ : mSt) (H : Heap) (locs : List Loc) (ls : Array Slot), x1663 σ = some out → mM (fun q => s.heap.size ≤ q) E 276 σ s H locs → lv_has ls 8 [] → mGoL l p e s m b below meth c (300 + k) (4000 + 6 * k) H locs (F0 m 1663 ls [])) : ∀ (v4 : Int) (k : Nat) (hk7 : v4 = 7 * (k : Int)) (hk5 : k ≤ 511) (σ : mSt) (H : Heap) (locs : List Loc) (ls : Array Slot), mL_law_B691 xs L v1 v2 v3 c23 x1663 v4 σ = some out → mM (fun q => s.heap.size ≤ q) E 276 σ s H locs → lv_has ls 8 [(0, .ref b), (1, .ref (eA E v1)), (2, .ref (eA E v2)), (3, .ref (eA E v3)), (4, vI v4)] → mGoL l p e s m b below meth c (300 + k) (4000 + 6 * k) H locs (F0 m 691 ls []) := by
  intro v4 k hk7 hk5 σ H locs ls hm hM hl
  unfold mL_law_B691 at hm
  refine r_aload_n (np := 692) G hl 1 rfl dL_law_691 rfl rfl ?_
  refine r_aload_n (np := 693) G hl 0 rfl dL_law_692 rfl rfl ?_
  refine r_iload (np := 695) G hl 4 rfl dL_law_693 rfl ?_
  refine r_iconst (np := 696) G 1 dL_law_695 rfl ?_
  refine r_iadd (np := 697) G dL_law_696 rfl ?_
  obtain ⟨g263, hm⟩ := g_t hm
  refine r_sld (np := 698) G hX hbl hM g263 dL_law_697 rfl ?_
  refine r_aload_n (np := 699) G hl 0 rfl dL_law_698 rfl rfl ?_
  refine r_iload (np := 701) G hl 4 rfl dL_law_699 rfl ?_
  refine r_iconst (np := 702) G 2 dL_law_701 rfl ?_
  refine r_iadd (np := 703) G dL_law_702 rfl ?_
  obtain ⟨g264, hm⟩ := g_t hm
  refine r_sld (np := 704) G hX hbl hM g264 dL_law_703 rfl ?_
  refine r_aload_n (np := 705) G hl 0 rfl dL_law_704 rfl rfl ?_
  refine r_iload (np := 707) G hl 4 rfl dL_law_705 rfl ?_
  refine r_iconst (np := 708) G 3 dL_law_707 rfl ?_
  refine r_iadd (np := 709) G dL_law_708 rfl ?_
  obtain ⟨g265, hm⟩ := g_t hm
  refine r_sld (np := 710) G hX hbl hM g265 dL_law_709 rfl ?_
  obtain ⟨b266, s267, e268, hm⟩ := call_t hm
  refine m_callVI (np := 713) G hM hl.1 [vI ((xs (wI (v4 + 1)).toNat).toInt), vI ((xs (wI (v4 + 2)).toNat).toInt), vI ((xs (wI (v4 + 3)).toNat).toInt)] (qX11_times l E σ v1 ((xs (wI (v4 + 1)).toNat).toInt) ((xs (wI (v4 + 2)).toNat).toInt) ((xs (wI (v4 + 3)).toNat).toInt) _ e268) myX11_times (shp_lt (gX11_times e268) (by decide)) (gX11_times e268) rfl (by decide) lkL_93 ⟨Nat.le_of_ble_eq_true rfl, Nat.le_of_ble_eq_true rfl⟩ ⟨by show _ ≤ 602319; omega, by show _ ≤ 7289146; omega⟩ [] rfl (Nat.le_of_ble_eq_true rfl) dL_law_710 rfl (fun H locs hM => ?_)
  refine r_aload_n (np := 714) G hl 2 rfl dL_law_713 rfl rfl ?_
  refine r_aload_n (np := 715) G hl 0 rfl dL_law_714 rfl rfl ?_
  refine r_iload (np := 717) G hl 4 rfl dL_law_715 rfl ?_
  refine r_iconst (np := 718) G 1 dL_law_717 rfl ?_
  refine r_iadd (np := 719) G dL_law_718 rfl ?_
  refine r_sld (np := 720) G hX hbl hM g263 dL_law_719 rfl ?_
  refine r_aload_n (np := 721) G hl 0 rfl dL_law_720 rfl rfl ?_
  refine r_iload (np := 723) G hl 4 rfl dL_law_721 rfl ?_
  refine r_iconst (np := 724) G 2 dL_law_723 rfl ?_
  refine r_iadd (np := 725) G dL_law_724 rfl ?_
  refine r_sld (np := 726) G hX hbl hM g264 dL_law_725 rfl ?_
  refine r_aload_n (np := 727) G hl 0 rfl dL_law_726 rfl rfl ?_
  refine r_iload (np := 729) G hl 4 rfl dL_law_727 rfl ?_
  refine r_iconst (np := 730) G 3 dL_law_729 rfl ?_
  refine r_iadd (np := 731) G dL_law_730 rfl ?_
  refine r_sld (np := 732) G hX hbl hM g265 dL_law_731 rfl ?_
  obtain ⟨b269, s270, e271, hm⟩ := call_t hm
  refine m_callVI (np := 735) G hM hl.1 [vI ((xs (wI (v4 + 1)).toNat).toInt), vI ((xs (wI (v4 + 2)).toNat).toInt), vI ((xs (wI (v4 + 3)).toNat).toInt)] (qX12_times l E s267 v2 ((xs (wI (v4 + 1)).toNat).toInt) ((xs (wI (v4 + 2)).toNat).toInt) ((xs (wI (v4 + 3)).toNat).toInt) _ e271) myX12_times (shp_lt (gX12_times e271) (by decide)) (gX12_times e271) rfl (by decide) lkL_96 ⟨Nat.le_of_ble_eq_true rfl, Nat.le_of_ble_eq_true rfl⟩ ⟨by show _ ≤ 602319; omega, by show _ ≤ 7289146; omega⟩ [vI b266] rfl (Nat.le_of_ble_eq_true rfl) dL_law_732 rfl (fun H locs hM => ?_)
  refine r_icmp_eq (np := 738) (tgt := 1657) G rfl rfl dL_law_735 (by decide) rfl (fun h272 => ?_) (fun h272 => ?_)
  · have hm := b_t h272 hm
    obtain ⟨a273, e274, hm⟩ := bnd_t hm
    refine r_iinc (np := 1660) G hl 4 rfl e274 [(4, vI a273), (0, .ref b), (1, .ref (eA E v1)), (2, .ref (eA E v2)), (3, .ref (eA E v3))] dL_law_1657 rfl (by decide) rfl (fun ls hl => ?_)
    refine r_goto (np := 23) G dL_law_1660 (by decide) ?_
    refine W.widen (k := 300 + (k + 1)) (n := 4000 + 6 * (k + 1)) (by omega) (by omega) ?_
    exact hc23 a273 (k + 1) (by rw [e274, hk7]; omega) (by omega) _ _ _ _ hm hM (lv_sub hl [1, 2, 3, 4, 0] rfl)
  · have hm := b_f h272 hm
    refine r_iconst (np := 739) G 0 dL_law_738 rfl ?_
    cases hm
    exact absurd (show (0 : Int) = 1 from hout) (by decide)
set_option maxRecDepth 100000 in
set_option maxHeartbeats 4000000 in
theorem wL_law_B623 (l : Launch) (hst : l.stackTraces = false) (E : mE) (out : Int × mSt) (hout : out.1 = 1) {p : Program} {e : Env} {s : State} {m : MethodId} {below : List Frame} {meth : Method} {c : Code} {b : Nat} (xs : Nat → Int32) (L : Nat) (hL : L ≤ 3584) (G : CallFix p m c code 8 s #[Value.ref b] mTs RL) (hr : meth.sig.returnType = ret) (hk : meth.locks = false) (hX : va_X b L xs s s.heap) (hbl : b < s.heap.size) (v1 : Nat) (v2 : Nat) (v3 : Nat) (c23 : Int → mSt → Option (Int × mSt)) (x1663 : mSt → Option (Int × mSt)) (hc23 : ∀ (v4 : Int) (k : Nat) (hk7 : v4 = 7 * (k : Int)) (hk5 : k ≤ 512) (σ : mSt) (H : Heap) (locs : List Loc) (ls : Array Slot), c23 v4 σ = some out → mM (fun q => s.heap.size ≤ q) E 276 σ s H locs → lv_has ls 8 [(0, .ref b), (1, .ref (eA E v1)), (2, .ref (eA E v2)), (3, .ref (eA E v3)), (4, vI v4)] → mGoL l p e s m b below meth c (300 + k) (4000 + 6 * k) H locs (F0 m 23 ls [])) (hx1663 : ∀ (k : Nat) (hk5 : k ≤ 512) (σ : mSt) (H : Heap) (locs : List Loc) (ls : Array Slot), x1663 σ = some out → mM (fun q => s.heap.size ≤ q) E 276 σ s H locs → lv_has ls 8 [] → mGoL l p e s m b below meth c (300 + k) (4000 + 6 * k) H locs (F0 m 1663 ls [])) : ∀ (v4 : Int) (k : Nat) (hk7 : v4 = 7 * (k : Int)) (hk5 : k ≤ 511) (σ : mSt) (H : Heap) (locs : List Loc) (ls : Array Slot), mL_law_B623 xs L v1 v2 v3 c23 x1663 v4 σ = some out → mM (fun q => s.heap.size ≤ q) E 276 σ s H locs → lv_has ls 8 [(0, .ref b), (1, .ref (eA E v1)), (2, .ref (eA E v2)), (3, .ref (eA E v3)), (4, vI v4)] → mGoL l p e s m b below meth c (300 + k) (4000 + 6 * k) H locs (F0 m 623 ls []) := by
  intro v4 k hk7 hk5 σ H locs ls hm hM hl
  unfold mL_law_B623 at hm
  refine r_aload_n (np := 624) G hl 1 rfl dL_law_623 rfl rfl ?_
  refine r_aload_n (np := 625) G hl 0 rfl dL_law_624 rfl rfl ?_
  refine r_iload (np := 627) G hl 4 rfl dL_law_625 rfl ?_
  refine r_iconst (np := 628) G 1 dL_law_627 rfl ?_
  refine r_iadd (np := 629) G dL_law_628 rfl ?_
  obtain ⟨g275, hm⟩ := g_t hm
  refine r_sld (np := 630) G hX hbl hM g275 dL_law_629 rfl ?_
  refine r_aload_n (np := 631) G hl 0 rfl dL_law_630 rfl rfl ?_
  refine r_iload (np := 633) G hl 4 rfl dL_law_631 rfl ?_
  refine r_iconst (np := 634) G 2 dL_law_633 rfl ?_
  refine r_iadd (np := 635) G dL_law_634 rfl ?_
  obtain ⟨g276, hm⟩ := g_t hm
  refine r_sld (np := 636) G hX hbl hM g276 dL_law_635 rfl ?_
  refine r_aload_n (np := 637) G hl 3 rfl dL_law_636 rfl rfl ?_
  obtain ⟨b277, s278, e279, hm⟩ := call_t hm
  refine m_wcall (np := 640) G hM hl.1 [.ref (eA E v1), vI ((xs (wI (v4 + 1)).toNat).toInt), vI ((xs (wI (v4 + 2)).toNat).toInt), .ref (eA E v3)] (qL_element l hst E σ v1 ((xs (wI (v4 + 1)).toNat).toInt) ((xs (wI (v4 + 2)).toNat).toInt) v3 _ e279) myL_element lkL_90 ⟨Nat.le_of_ble_eq_true rfl, Nat.le_of_ble_eq_true rfl⟩ ⟨by show _ ≤ 602319; omega, by show _ ≤ 7289146; omega⟩ [] rfl (Nat.le_of_ble_eq_true rfl) dL_law_637 rfl (fun H locs hM => ?_)
  refine r_istore (np := 642) G hl rfl [(5, vI b277), (0, .ref b), (1, .ref (eA E v1)), (2, .ref (eA E v2)), (3, .ref (eA E v3)), (4, vI v4)] dL_law_640 rfl (by decide) rfl (fun ls hl => ?_)
  refine r_aload_n (np := 643) G hl 3 rfl dL_law_642 rfl rfl ?_
  refine r_aload_n (np := 644) G hl 1 rfl dL_law_643 rfl rfl ?_
  refine r_iload (np := 646) G hl 5 rfl dL_law_644 rfl ?_
  refine r_iconst (np := 647) G 1 dL_law_646 rfl ?_
  refine r_iadd (np := 648) G dL_law_647 rfl ?_
  refine r_sld (np := 649) G hX hbl hM g275 dL_law_648 rfl ?_
  refine r_aload_n (np := 650) G hl 1 rfl dL_law_649 rfl rfl ?_
  refine r_iload (np := 652) G hl 5 rfl dL_law_650 rfl ?_
  refine r_iconst (np := 653) G 2 dL_law_652 rfl ?_
  refine r_iadd (np := 654) G dL_law_653 rfl ?_
  refine r_sld (np := 655) G hX hbl hM g276 dL_law_654 rfl ?_
  obtain ⟨b280, s281, e282, hm⟩ := call_t hm
  refine m_callVI (np := 658) G hM hl.1 [vI ((xs (wI (v4 + 1)).toNat).toInt), vI ((xs (wI (v4 + 2)).toNat).toInt)] (qX12_element l E s278 v2 ((xs (wI (v4 + 1)).toNat).toInt) ((xs (wI (v4 + 2)).toNat).toInt) _ e282) myX12_element (shp_lt (gX12_element e282) (by decide)) (gX12_element e282) rfl (by decide) lkL_92 ⟨Nat.le_of_ble_eq_true rfl, Nat.le_of_ble_eq_true rfl⟩ ⟨by show _ ≤ 602319; omega, by show _ ≤ 7289146; omega⟩ [] rfl (Nat.le_of_ble_eq_true rfl) dL_law_655 rfl (fun H locs hM => ?_)
  refine r_istore (np := 660) G hl rfl [(6, vI b280), (5, vI b277), (0, .ref b), (1, .ref (eA E v1)), (2, .ref (eA E v2)), (3, .ref (eA E v3)), (4, vI v4)] dL_law_658 rfl (by decide) rfl (fun ls hl => ?_)
  refine r_aload_n (np := 661) G hl 4 rfl dL_law_660 rfl rfl ?_
  obtain ⟨b283, s284, e285, hm⟩ := call_t hm
  refine m_callVI (np := 664) G hM hl.1 [] (qX12_thrown l E s281 v2 _ e285) myX12_thrown (shp_lt (gX12_thrown e285) (by decide)) (gX12_thrown e285) rfl (by decide) lkL_57 ⟨Nat.le_of_ble_eq_true rfl, Nat.le_of_ble_eq_true rfl⟩ ⟨by show _ ≤ 602319; omega, by show _ ≤ 7289146; omega⟩ [] rfl (Nat.le_of_ble_eq_true rfl) dL_law_661 rfl (fun H locs hM => ?_)
  refine r_iload (np := 666) G hl 1 rfl dL_law_664 rfl ?_
  refine r_icmp_eq (np := 669) (tgt := 671) G rfl rfl dL_law_666 (by decide) rfl (fun h286 => ?_) (fun h286 => ?_)
  · have hm := b_t h286 hm
    refine r_iload (np := 673) G hl 1 rfl dL_law_671 rfl ?_
    refine r_if_ne (np := 676) (tgt := 688) G rfl dL_law_673 (by decide) rfl (fun h287 => ?_) (fun h287 => ?_)
    · have hm := b_f h287 hm
      refine r_goto (np := 1657) G dL_law_688 (by decide) ?_
      obtain ⟨a288, e289, hm⟩ := bnd_t hm
      refine r_iinc (np := 1660) G hl 6 rfl e289 [(4, vI a288), (6, vI b280), (5, vI b277), (0, .ref b), (1, .ref (eA E v1)), (2, .ref (eA E v2)), (3, .ref (eA E v3))] dL_law_1657 rfl (by decide) rfl (fun ls hl => ?_)
      refine r_goto (np := 23) G dL_law_1660 (by decide) ?_
      refine W.widen (k := 300 + (k + 1)) (n := 4000 + 6 * (k + 1)) (by omega) (by omega) ?_
      exact hc23 a288 (k + 1) (by rw [e289, hk7]; omega) (by omega) _ _ _ _ hm hM (lv_sub hl [3, 4, 5, 6, 0] rfl)
    · have hm := b_t h287 hm
      refine r_aload_n (np := 677) G hl 5 rfl dL_law_676 rfl rfl ?_
      refine r_iconst (np := 678) G 0 dL_law_677 rfl ?_
      obtain ⟨g290, hm⟩ := g_t hm
      refine r_laload (np := 679) G hM g290 rfl dL_law_678 rfl ?_
      refine r_iload (np := 681) G hl 0 rfl dL_law_679 rfl ?_
      refine r_i2l (np := 682) G rfl dL_law_681 rfl ?_
      refine r_lcmp_eq (np := 686) (tgt := 688) G rfl rfl dL_law_682 dL_law_683 (by decide) rfl (fun h291 => ?_) (fun h291 => ?_)
      · have hm := b_t h291 hm
        refine r_goto (np := 1657) G dL_law_688 (by decide) ?_
        obtain ⟨a292, e293, hm⟩ := bnd_t hm
        refine r_iinc (np := 1660) G hl 6 rfl e293 [(4, vI a292), (6, vI b280), (5, vI b277), (0, .ref b), (1, .ref (eA E v1)), (2, .ref (eA E v2)), (3, .ref (eA E v3))] dL_law_1657 rfl (by decide) rfl (fun ls hl => ?_)
        refine r_goto (np := 23) G dL_law_1660 (by decide) ?_
        refine W.widen (k := 300 + (k + 1)) (n := 4000 + 6 * (k + 1)) (by omega) (by omega) ?_
        exact hc23 a292 (k + 1) (by rw [e293, hk7]; omega) (by omega) _ _ _ _ hm hM (lv_sub hl [3, 4, 5, 6, 0] rfl)
      · have hm := b_f h291 hm
        refine r_iconst (np := 687) G 0 dL_law_686 rfl ?_
        cases hm
        exact absurd (show (0 : Int) = 1 from hout) (by decide)
  · have hm := b_f h286 hm
    refine r_iconst (np := 670) G 0 dL_law_669 rfl ?_
    cases hm
    exact absurd (show (0 : Int) = 1 from hout) (by decide)
set_option maxRecDepth 100000 in
set_option maxHeartbeats 4000000 in
theorem wL_law_B586 (l : Launch) (hst : l.stackTraces = false) (E : mE) (out : Int × mSt) (hout : out.1 = 1) {p : Program} {e : Env} {s : State} {m : MethodId} {below : List Frame} {meth : Method} {c : Code} {b : Nat} (xs : Nat → Int32) (L : Nat) (hL : L ≤ 3584) (G : CallFix p m c code 8 s #[Value.ref b] mTs RL) (hr : meth.sig.returnType = ret) (hk : meth.locks = false) (hX : va_X b L xs s s.heap) (hbl : b < s.heap.size) (v1 : Nat) (v2 : Nat) (v3 : Nat) (c23 : Int → mSt → Option (Int × mSt)) (x1663 : mSt → Option (Int × mSt)) (hc23 : ∀ (v4 : Int) (k : Nat) (hk7 : v4 = 7 * (k : Int)) (hk5 : k ≤ 512) (σ : mSt) (H : Heap) (locs : List Loc) (ls : Array Slot), c23 v4 σ = some out → mM (fun q => s.heap.size ≤ q) E 276 σ s H locs → lv_has ls 8 [(0, .ref b), (1, .ref (eA E v1)), (2, .ref (eA E v2)), (3, .ref (eA E v3)), (4, vI v4)] → mGoL l p e s m b below meth c (300 + k) (4000 + 6 * k) H locs (F0 m 23 ls [])) (hx1663 : ∀ (k : Nat) (hk5 : k ≤ 512) (σ : mSt) (H : Heap) (locs : List Loc) (ls : Array Slot), x1663 σ = some out → mM (fun q => s.heap.size ≤ q) E 276 σ s H locs → lv_has ls 8 [] → mGoL l p e s m b below meth c (300 + k) (4000 + 6 * k) H locs (F0 m 1663 ls [])) : ∀ (v4 : Int) (k : Nat) (hk7 : v4 = 7 * (k : Int)) (hk5 : k ≤ 511) (σ : mSt) (H : Heap) (locs : List Loc) (ls : Array Slot), mL_law_B586 xs L v1 v2 v3 c23 x1663 v4 σ = some out → mM (fun q => s.heap.size ≤ q) E 276 σ s H locs → lv_has ls 8 [(0, .ref b), (1, .ref (eA E v1)), (2, .ref (eA E v2)), (3, .ref (eA E v3)), (4, vI v4)] → mGoL l p e s m b below meth c (300 + k) (4000 + 6 * k) H locs (F0 m 586 ls []) := by
  intro v4 k hk7 hk5 σ H locs ls hm hM hl
  unfold mL_law_B586 at hm
  refine r_aload_n (np := 587) G hl 1 rfl dL_law_586 rfl rfl ?_
  refine r_aload_n (np := 588) G hl 0 rfl dL_law_587 rfl rfl ?_
  refine r_iload (np := 590) G hl 4 rfl dL_law_588 rfl ?_
  refine r_iconst (np := 591) G 1 dL_law_590 rfl ?_
  refine r_iadd (np := 592) G dL_law_591 rfl ?_
  obtain ⟨g294, hm⟩ := g_t hm
  refine r_sld (np := 593) G hX hbl hM g294 dL_law_592 rfl ?_
  refine r_aload_n (np := 594) G hl 0 rfl dL_law_593 rfl rfl ?_
  refine r_iload (np := 596) G hl 4 rfl dL_law_594 rfl ?_
  refine r_iconst (np := 597) G 2 dL_law_596 rfl ?_
  refine r_iadd (np := 598) G dL_law_597 rfl ?_
  obtain ⟨g295, hm⟩ := g_t hm
  refine r_sld (np := 599) G hX hbl hM g295 dL_law_598 rfl ?_
  obtain ⟨b296, s297, e298, hm⟩ := call_t hm
  refine m_callVI (np := 602) G hM hl.1 [vI ((xs (wI (v4 + 1)).toNat).toInt), vI ((xs (wI (v4 + 2)).toNat).toInt)] (qX11_over l E σ v1 ((xs (wI (v4 + 1)).toNat).toInt) ((xs (wI (v4 + 2)).toNat).toInt) _ e298) myX11_over (shp_lt (gX11_over e298) (by decide)) (gX11_over e298) rfl (by decide) lkL_86 ⟨Nat.le_of_ble_eq_true rfl, Nat.le_of_ble_eq_true rfl⟩ ⟨by show _ ≤ 602319; omega, by show _ ≤ 7289146; omega⟩ [] rfl (Nat.le_of_ble_eq_true rfl) dL_law_599 rfl (fun H locs hM => ?_)
  refine r_aload_n (np := 603) G hl 2 rfl dL_law_602 rfl rfl ?_
  refine r_aload_n (np := 604) G hl 0 rfl dL_law_603 rfl rfl ?_
  refine r_iload (np := 606) G hl 4 rfl dL_law_604 rfl ?_
  refine r_iconst (np := 607) G 1 dL_law_606 rfl ?_
  refine r_iadd (np := 608) G dL_law_607 rfl ?_
  refine r_sld (np := 609) G hX hbl hM g294 dL_law_608 rfl ?_
  refine r_aload_n (np := 610) G hl 0 rfl dL_law_609 rfl rfl ?_
  refine r_iload (np := 612) G hl 4 rfl dL_law_610 rfl ?_
  refine r_iconst (np := 613) G 2 dL_law_612 rfl ?_
  refine r_iadd (np := 614) G dL_law_613 rfl ?_
  refine r_sld (np := 615) G hX hbl hM g295 dL_law_614 rfl ?_
  obtain ⟨b299, s300, e301, hm⟩ := call_t hm
  refine m_callVI (np := 618) G hM hl.1 [vI ((xs (wI (v4 + 1)).toNat).toInt), vI ((xs (wI (v4 + 2)).toNat).toInt)] (qX12_over l E s297 v2 ((xs (wI (v4 + 1)).toNat).toInt) ((xs (wI (v4 + 2)).toNat).toInt) _ e301) myX12_over (shp_lt (gX12_over e301) (by decide)) (gX12_over e301) rfl (by decide) lkL_89 ⟨Nat.le_of_ble_eq_true rfl, Nat.le_of_ble_eq_true rfl⟩ ⟨by show _ ≤ 602319; omega, by show _ ≤ 7289146; omega⟩ [vI b296] rfl (Nat.le_of_ble_eq_true rfl) dL_law_615 rfl (fun H locs hM => ?_)
  refine r_icmp_eq (np := 621) (tgt := 1657) G rfl rfl dL_law_618 (by decide) rfl (fun h302 => ?_) (fun h302 => ?_)
  · have hm := b_t h302 hm
    obtain ⟨a303, e304, hm⟩ := bnd_t hm
    refine r_iinc (np := 1660) G hl 4 rfl e304 [(4, vI a303), (0, .ref b), (1, .ref (eA E v1)), (2, .ref (eA E v2)), (3, .ref (eA E v3))] dL_law_1657 rfl (by decide) rfl (fun ls hl => ?_)
    refine r_goto (np := 23) G dL_law_1660 (by decide) ?_
    refine W.widen (k := 300 + (k + 1)) (n := 4000 + 6 * (k + 1)) (by omega) (by omega) ?_
    exact hc23 a303 (k + 1) (by rw [e304, hk7]; omega) (by omega) _ _ _ _ hm hM (lv_sub hl [1, 2, 3, 4, 0] rfl)
  · have hm := b_f h302 hm
    refine r_iconst (np := 622) G 0 dL_law_621 rfl ?_
    cases hm
    exact absurd (show (0 : Int) = 1 from hout) (by decide)
set_option maxRecDepth 100000 in
set_option maxHeartbeats 4000000 in
theorem wL_law_B499 (l : Launch) (hst : l.stackTraces = false) (E : mE) (out : Int × mSt) (hout : out.1 = 1) {p : Program} {e : Env} {s : State} {m : MethodId} {below : List Frame} {meth : Method} {c : Code} {b : Nat} (xs : Nat → Int32) (L : Nat) (hL : L ≤ 3584) (G : CallFix p m c code 8 s #[Value.ref b] mTs RL) (hr : meth.sig.returnType = ret) (hk : meth.locks = false) (hX : va_X b L xs s s.heap) (hbl : b < s.heap.size) (v1 : Nat) (v2 : Nat) (v3 : Nat) (c23 : Int → mSt → Option (Int × mSt)) (x1663 : mSt → Option (Int × mSt)) (hc23 : ∀ (v4 : Int) (k : Nat) (hk7 : v4 = 7 * (k : Int)) (hk5 : k ≤ 512) (σ : mSt) (H : Heap) (locs : List Loc) (ls : Array Slot), c23 v4 σ = some out → mM (fun q => s.heap.size ≤ q) E 276 σ s H locs → lv_has ls 8 [(0, .ref b), (1, .ref (eA E v1)), (2, .ref (eA E v2)), (3, .ref (eA E v3)), (4, vI v4)] → mGoL l p e s m b below meth c (300 + k) (4000 + 6 * k) H locs (F0 m 23 ls [])) (hx1663 : ∀ (k : Nat) (hk5 : k ≤ 512) (σ : mSt) (H : Heap) (locs : List Loc) (ls : Array Slot), x1663 σ = some out → mM (fun q => s.heap.size ≤ q) E 276 σ s H locs → lv_has ls 8 [] → mGoL l p e s m b below meth c (300 + k) (4000 + 6 * k) H locs (F0 m 1663 ls [])) : ∀ (v4 : Int) (k : Nat) (hk7 : v4 = 7 * (k : Int)) (hk5 : k ≤ 511) (σ : mSt) (H : Heap) (locs : List Loc) (ls : Array Slot), mL_law_B499 xs L v1 v2 v3 c23 x1663 v4 σ = some out → mM (fun q => s.heap.size ≤ q) E 276 σ s H locs → lv_has ls 8 [(0, .ref b), (1, .ref (eA E v1)), (2, .ref (eA E v2)), (3, .ref (eA E v3)), (4, vI v4)] → mGoL l p e s m b below meth c (300 + k) (4000 + 6 * k) H locs (F0 m 499 ls []) := by
  intro v4 k hk7 hk5 σ H locs ls hm hM hl
  unfold mL_law_B499 at hm
  refine r_aload_n (np := 500) G hl 1 rfl dL_law_499 rfl rfl ?_
  refine r_aload_n (np := 501) G hl 0 rfl dL_law_500 rfl rfl ?_
  refine r_iload (np := 503) G hl 4 rfl dL_law_501 rfl ?_
  refine r_iconst (np := 504) G 1 dL_law_503 rfl ?_
  refine r_iadd (np := 505) G dL_law_504 rfl ?_
  obtain ⟨g305, hm⟩ := g_t hm
  refine r_sld (np := 506) G hX hbl hM g305 dL_law_505 rfl ?_
  refine r_aload_n (np := 507) G hl 0 rfl dL_law_506 rfl rfl ?_
  refine r_iload (np := 509) G hl 4 rfl dL_law_507 rfl ?_
  refine r_iconst (np := 510) G 2 dL_law_509 rfl ?_
  refine r_iadd (np := 511) G dL_law_510 rfl ?_
  obtain ⟨g306, hm⟩ := g_t hm
  refine r_sld (np := 512) G hX hbl hM g306 dL_law_511 rfl ?_
  refine r_aload_n (np := 513) G hl 0 rfl dL_law_512 rfl rfl ?_
  refine r_iload (np := 515) G hl 4 rfl dL_law_513 rfl ?_
  refine r_iconst (np := 516) G 3 dL_law_515 rfl ?_
  refine r_iadd (np := 517) G dL_law_516 rfl ?_
  obtain ⟨g307, hm⟩ := g_t hm
  refine r_sld (np := 518) G hX hbl hM g307 dL_law_517 rfl ?_
  refine r_aload_n (np := 519) G hl 0 rfl dL_law_518 rfl rfl ?_
  refine r_iload (np := 521) G hl 4 rfl dL_law_519 rfl ?_
  refine r_iconst (np := 522) G 4 dL_law_521 rfl ?_
  refine r_iadd (np := 523) G dL_law_522 rfl ?_
  obtain ⟨g308, hm⟩ := g_t hm
  refine r_sld (np := 524) G hX hbl hM g308 dL_law_523 rfl ?_
  refine r_aload_n (np := 525) G hl 0 rfl dL_law_524 rfl rfl ?_
  refine r_iload (np := 527) G hl 4 rfl dL_law_525 rfl ?_
  refine r_iconst (np := 528) G 5 dL_law_527 rfl ?_
  refine r_iadd (np := 529) G dL_law_528 rfl ?_
  obtain ⟨g309, hm⟩ := g_t hm
  refine r_sld (np := 530) G hX hbl hM g309 dL_law_529 rfl ?_
  refine r_aload_n (np := 531) G hl 0 rfl dL_law_530 rfl rfl ?_
  refine r_iload (np := 533) G hl 4 rfl dL_law_531 rfl ?_
  refine r_bipush (np := 535) G 6 dL_law_533 (by decide) rfl ?_
  refine r_iadd (np := 536) G dL_law_535 rfl ?_
  obtain ⟨g310, hm⟩ := g_t hm
  refine r_sld (np := 537) G hX hbl hM g310 dL_law_536 rfl ?_
  obtain ⟨b311, s312, e313, hm⟩ := call_t hm
  refine m_callVI (np := 540) G hM hl.1 [vI ((xs (wI (v4 + 1)).toNat).toInt), vI ((xs (wI (v4 + 2)).toNat).toInt), vI ((xs (wI (v4 + 3)).toNat).toInt), vI ((xs (wI (v4 + 4)).toNat).toInt), vI ((xs (wI (v4 + 5)).toNat).toInt), vI ((xs (wI (v4 + 6)).toNat).toInt)] (qX11_tell l E σ v1 ((xs (wI (v4 + 1)).toNat).toInt) ((xs (wI (v4 + 2)).toNat).toInt) ((xs (wI (v4 + 3)).toNat).toInt) ((xs (wI (v4 + 4)).toNat).toInt) ((xs (wI (v4 + 5)).toNat).toInt) ((xs (wI (v4 + 6)).toNat).toInt) _ e313) myX11_tell (shp_lt (gX11_tell e313) (by decide)) (gX11_tell e313) rfl (by decide) lkL_81 ⟨Nat.le_of_ble_eq_true rfl, Nat.le_of_ble_eq_true rfl⟩ ⟨by show _ ≤ 602319; omega, by show _ ≤ 7289146; omega⟩ [] rfl (Nat.le_of_ble_eq_true rfl) dL_law_537 rfl (fun H locs hM => ?_)
  refine r_aload_n (np := 541) G hl 2 rfl dL_law_540 rfl rfl ?_
  refine r_aload_n (np := 542) G hl 0 rfl dL_law_541 rfl rfl ?_
  refine r_iload (np := 544) G hl 4 rfl dL_law_542 rfl ?_
  refine r_iconst (np := 545) G 1 dL_law_544 rfl ?_
  refine r_iadd (np := 546) G dL_law_545 rfl ?_
  refine r_sld (np := 547) G hX hbl hM g305 dL_law_546 rfl ?_
  refine r_aload_n (np := 548) G hl 0 rfl dL_law_547 rfl rfl ?_
  refine r_iload (np := 550) G hl 4 rfl dL_law_548 rfl ?_
  refine r_iconst (np := 551) G 2 dL_law_550 rfl ?_
  refine r_iadd (np := 552) G dL_law_551 rfl ?_
  refine r_sld (np := 553) G hX hbl hM g306 dL_law_552 rfl ?_
  refine r_aload_n (np := 554) G hl 0 rfl dL_law_553 rfl rfl ?_
  refine r_iload (np := 556) G hl 4 rfl dL_law_554 rfl ?_
  refine r_iconst (np := 557) G 3 dL_law_556 rfl ?_
  refine r_iadd (np := 558) G dL_law_557 rfl ?_
  refine r_sld (np := 559) G hX hbl hM g307 dL_law_558 rfl ?_
  refine r_aload_n (np := 560) G hl 0 rfl dL_law_559 rfl rfl ?_
  refine r_iload (np := 562) G hl 4 rfl dL_law_560 rfl ?_
  refine r_iconst (np := 563) G 4 dL_law_562 rfl ?_
  refine r_iadd (np := 564) G dL_law_563 rfl ?_
  refine r_sld (np := 565) G hX hbl hM g308 dL_law_564 rfl ?_
  refine r_aload_n (np := 566) G hl 0 rfl dL_law_565 rfl rfl ?_
  refine r_iload (np := 568) G hl 4 rfl dL_law_566 rfl ?_
  refine r_iconst (np := 569) G 5 dL_law_568 rfl ?_
  refine r_iadd (np := 570) G dL_law_569 rfl ?_
  refine r_sld (np := 571) G hX hbl hM g309 dL_law_570 rfl ?_
  refine r_aload_n (np := 572) G hl 0 rfl dL_law_571 rfl rfl ?_
  refine r_iload (np := 574) G hl 4 rfl dL_law_572 rfl ?_
  refine r_bipush (np := 576) G 6 dL_law_574 (by decide) rfl ?_
  refine r_iadd (np := 577) G dL_law_576 rfl ?_
  refine r_sld (np := 578) G hX hbl hM g310 dL_law_577 rfl ?_
  obtain ⟨b314, s315, e316, hm⟩ := call_t hm
  refine m_callVI (np := 581) G hM hl.1 [vI ((xs (wI (v4 + 1)).toNat).toInt), vI ((xs (wI (v4 + 2)).toNat).toInt), vI ((xs (wI (v4 + 3)).toNat).toInt), vI ((xs (wI (v4 + 4)).toNat).toInt), vI ((xs (wI (v4 + 5)).toNat).toInt), vI ((xs (wI (v4 + 6)).toNat).toInt)] (qX12_tell l E s312 v2 ((xs (wI (v4 + 1)).toNat).toInt) ((xs (wI (v4 + 2)).toNat).toInt) ((xs (wI (v4 + 3)).toNat).toInt) ((xs (wI (v4 + 4)).toNat).toInt) ((xs (wI (v4 + 5)).toNat).toInt) ((xs (wI (v4 + 6)).toNat).toInt) _ e316) myX12_tell (shp_lt (gX12_tell e316) (by decide)) (gX12_tell e316) rfl (by decide) lkL_85 ⟨Nat.le_of_ble_eq_true rfl, Nat.le_of_ble_eq_true rfl⟩ ⟨by show _ ≤ 602319; omega, by show _ ≤ 7289146; omega⟩ [vI b311] rfl (Nat.le_of_ble_eq_true rfl) dL_law_578 rfl (fun H locs hM => ?_)
  refine r_icmp_eq (np := 584) (tgt := 1657) G rfl rfl dL_law_581 (by decide) rfl (fun h317 => ?_) (fun h317 => ?_)
  · have hm := b_t h317 hm
    obtain ⟨a318, e319, hm⟩ := bnd_t hm
    refine r_iinc (np := 1660) G hl 4 rfl e319 [(4, vI a318), (0, .ref b), (1, .ref (eA E v1)), (2, .ref (eA E v2)), (3, .ref (eA E v3))] dL_law_1657 rfl (by decide) rfl (fun ls hl => ?_)
    refine r_goto (np := 23) G dL_law_1660 (by decide) ?_
    refine W.widen (k := 300 + (k + 1)) (n := 4000 + 6 * (k + 1)) (by omega) (by omega) ?_
    exact hc23 a318 (k + 1) (by rw [e319, hk7]; omega) (by omega) _ _ _ _ hm hM (lv_sub hl [1, 2, 3, 4, 0] rfl)
  · have hm := b_f h317 hm
    refine r_iconst (np := 585) G 0 dL_law_584 rfl ?_
    cases hm
    exact absurd (show (0 : Int) = 1 from hout) (by decide)
set_option maxRecDepth 100000 in
set_option maxHeartbeats 4000000 in
theorem wL_law_B486 (l : Launch) (hst : l.stackTraces = false) (E : mE) (out : Int × mSt) (hout : out.1 = 1) {p : Program} {e : Env} {s : State} {m : MethodId} {below : List Frame} {meth : Method} {c : Code} {b : Nat} (xs : Nat → Int32) (L : Nat) (hL : L ≤ 3584) (G : CallFix p m c code 8 s #[Value.ref b] mTs RL) (hr : meth.sig.returnType = ret) (hk : meth.locks = false) (hX : va_X b L xs s s.heap) (hbl : b < s.heap.size) (v1 : Nat) (v2 : Nat) (v3 : Nat) (c23 : Int → mSt → Option (Int × mSt)) (x1663 : mSt → Option (Int × mSt)) (hc23 : ∀ (v4 : Int) (k : Nat) (hk7 : v4 = 7 * (k : Int)) (hk5 : k ≤ 512) (σ : mSt) (H : Heap) (locs : List Loc) (ls : Array Slot), c23 v4 σ = some out → mM (fun q => s.heap.size ≤ q) E 276 σ s H locs → lv_has ls 8 [(0, .ref b), (1, .ref (eA E v1)), (2, .ref (eA E v2)), (3, .ref (eA E v3)), (4, vI v4)] → mGoL l p e s m b below meth c (300 + k) (4000 + 6 * k) H locs (F0 m 23 ls [])) (hx1663 : ∀ (k : Nat) (hk5 : k ≤ 512) (σ : mSt) (H : Heap) (locs : List Loc) (ls : Array Slot), x1663 σ = some out → mM (fun q => s.heap.size ≤ q) E 276 σ s H locs → lv_has ls 8 [] → mGoL l p e s m b below meth c (300 + k) (4000 + 6 * k) H locs (F0 m 1663 ls [])) : ∀ (v4 : Int) (k : Nat) (hk7 : v4 = 7 * (k : Int)) (hk5 : k ≤ 511) (σ : mSt) (H : Heap) (locs : List Loc) (ls : Array Slot), mL_law_B486 xs L v1 v2 v3 c23 x1663 v4 σ = some out → mM (fun q => s.heap.size ≤ q) E 276 σ s H locs → lv_has ls 8 [(0, .ref b), (1, .ref (eA E v1)), (2, .ref (eA E v2)), (3, .ref (eA E v3)), (4, vI v4)] → mGoL l p e s m b below meth c (300 + k) (4000 + 6 * k) H locs (F0 m 486 ls []) := by
  intro v4 k hk7 hk5 σ H locs ls hm hM hl
  unfold mL_law_B486 at hm
  refine r_aload_n (np := 487) G hl 1 rfl dL_law_486 rfl rfl ?_
  obtain ⟨b320, s321, e322, hm⟩ := call_t hm
  refine m_callVI (np := 490) G hM hl.1 [] (qX11_classes l E σ v1 _ e322) myX11_classes (shp_lt (gX11_classes e322) (by decide)) (gX11_classes e322) rfl (by decide) lkL_77 ⟨Nat.le_of_ble_eq_true rfl, Nat.le_of_ble_eq_true rfl⟩ ⟨by show _ ≤ 602319; omega, by show _ ≤ 7289146; omega⟩ [] rfl (Nat.le_of_ble_eq_true rfl) dL_law_487 rfl (fun H locs hM => ?_)
  refine r_aload_n (np := 491) G hl 2 rfl dL_law_490 rfl rfl ?_
  obtain ⟨b323, s324, e325, hm⟩ := call_t hm
  refine m_callVI (np := 494) G hM hl.1 [] (qX12_classes l E s321 v2 _ e325) myX12_classes (shp_lt (gX12_classes e325) (by decide)) (gX12_classes e325) rfl (by decide) lkL_80 ⟨Nat.le_of_ble_eq_true rfl, Nat.le_of_ble_eq_true rfl⟩ ⟨by show _ ≤ 602319; omega, by show _ ≤ 7289146; omega⟩ [vI b320] rfl (Nat.le_of_ble_eq_true rfl) dL_law_491 rfl (fun H locs hM => ?_)
  refine r_icmp_eq (np := 497) (tgt := 1657) G rfl rfl dL_law_494 (by decide) rfl (fun h326 => ?_) (fun h326 => ?_)
  · have hm := b_t h326 hm
    obtain ⟨a327, e328, hm⟩ := bnd_t hm
    refine r_iinc (np := 1660) G hl 4 rfl e328 [(4, vI a327), (0, .ref b), (1, .ref (eA E v1)), (2, .ref (eA E v2)), (3, .ref (eA E v3))] dL_law_1657 rfl (by decide) rfl (fun ls hl => ?_)
    refine r_goto (np := 23) G dL_law_1660 (by decide) ?_
    refine W.widen (k := 300 + (k + 1)) (n := 4000 + 6 * (k + 1)) (by omega) (by omega) ?_
    exact hc23 a327 (k + 1) (by rw [e328, hk7]; omega) (by omega) _ _ _ _ hm hM (lv_sub hl [1, 2, 3, 4, 0] rfl)
  · have hm := b_f h326 hm
    refine r_iconst (np := 498) G 0 dL_law_497 rfl ?_
    cases hm
    exact absurd (show (0 : Int) = 1 from hout) (by decide)
set_option maxRecDepth 100000 in
set_option maxHeartbeats 4000000 in
theorem wL_law_B449 (l : Launch) (hst : l.stackTraces = false) (E : mE) (out : Int × mSt) (hout : out.1 = 1) {p : Program} {e : Env} {s : State} {m : MethodId} {below : List Frame} {meth : Method} {c : Code} {b : Nat} (xs : Nat → Int32) (L : Nat) (hL : L ≤ 3584) (G : CallFix p m c code 8 s #[Value.ref b] mTs RL) (hr : meth.sig.returnType = ret) (hk : meth.locks = false) (hX : va_X b L xs s s.heap) (hbl : b < s.heap.size) (v1 : Nat) (v2 : Nat) (v3 : Nat) (c23 : Int → mSt → Option (Int × mSt)) (x1663 : mSt → Option (Int × mSt)) (hc23 : ∀ (v4 : Int) (k : Nat) (hk7 : v4 = 7 * (k : Int)) (hk5 : k ≤ 512) (σ : mSt) (H : Heap) (locs : List Loc) (ls : Array Slot), c23 v4 σ = some out → mM (fun q => s.heap.size ≤ q) E 276 σ s H locs → lv_has ls 8 [(0, .ref b), (1, .ref (eA E v1)), (2, .ref (eA E v2)), (3, .ref (eA E v3)), (4, vI v4)] → mGoL l p e s m b below meth c (300 + k) (4000 + 6 * k) H locs (F0 m 23 ls [])) (hx1663 : ∀ (k : Nat) (hk5 : k ≤ 512) (σ : mSt) (H : Heap) (locs : List Loc) (ls : Array Slot), x1663 σ = some out → mM (fun q => s.heap.size ≤ q) E 276 σ s H locs → lv_has ls 8 [] → mGoL l p e s m b below meth c (300 + k) (4000 + 6 * k) H locs (F0 m 1663 ls [])) : ∀ (v4 : Int) (k : Nat) (hk7 : v4 = 7 * (k : Int)) (hk5 : k ≤ 511) (σ : mSt) (H : Heap) (locs : List Loc) (ls : Array Slot), mL_law_B449 xs L v1 v2 v3 c23 x1663 v4 σ = some out → mM (fun q => s.heap.size ≤ q) E 276 σ s H locs → lv_has ls 8 [(0, .ref b), (1, .ref (eA E v1)), (2, .ref (eA E v2)), (3, .ref (eA E v3)), (4, vI v4)] → mGoL l p e s m b below meth c (300 + k) (4000 + 6 * k) H locs (F0 m 449 ls []) := by
  intro v4 k hk7 hk5 σ H locs ls hm hM hl
  unfold mL_law_B449 at hm
  refine r_aload_n (np := 450) G hl 1 rfl dL_law_449 rfl rfl ?_
  refine r_aload_n (np := 451) G hl 0 rfl dL_law_450 rfl rfl ?_
  refine r_iload (np := 453) G hl 4 rfl dL_law_451 rfl ?_
  refine r_iconst (np := 454) G 1 dL_law_453 rfl ?_
  refine r_iadd (np := 455) G dL_law_454 rfl ?_
  obtain ⟨g329, hm⟩ := g_t hm
  refine r_sld (np := 456) G hX hbl hM g329 dL_law_455 rfl ?_
  refine r_aload_n (np := 457) G hl 0 rfl dL_law_456 rfl rfl ?_
  refine r_iload (np := 459) G hl 4 rfl dL_law_457 rfl ?_
  refine r_iconst (np := 460) G 2 dL_law_459 rfl ?_
  refine r_iadd (np := 461) G dL_law_460 rfl ?_
  obtain ⟨g330, hm⟩ := g_t hm
  refine r_sld (np := 462) G hX hbl hM g330 dL_law_461 rfl ?_
  obtain ⟨b331, s332, e333, hm⟩ := call_t hm
  refine m_callVI (np := 465) G hM hl.1 [vI ((xs (wI (v4 + 1)).toNat).toInt), vI ((xs (wI (v4 + 2)).toNat).toInt)] (qX11_alike l E σ v1 ((xs (wI (v4 + 1)).toNat).toInt) ((xs (wI (v4 + 2)).toNat).toInt) _ e333) myX11_alike (shp_lt (gX11_alike e333) (by decide)) (gX11_alike e333) rfl (by decide) lkL_73 ⟨Nat.le_of_ble_eq_true rfl, Nat.le_of_ble_eq_true rfl⟩ ⟨by show _ ≤ 602319; omega, by show _ ≤ 7289146; omega⟩ [] rfl (Nat.le_of_ble_eq_true rfl) dL_law_462 rfl (fun H locs hM => ?_)
  refine r_aload_n (np := 466) G hl 2 rfl dL_law_465 rfl rfl ?_
  refine r_aload_n (np := 467) G hl 0 rfl dL_law_466 rfl rfl ?_
  refine r_iload (np := 469) G hl 4 rfl dL_law_467 rfl ?_
  refine r_iconst (np := 470) G 1 dL_law_469 rfl ?_
  refine r_iadd (np := 471) G dL_law_470 rfl ?_
  refine r_sld (np := 472) G hX hbl hM g329 dL_law_471 rfl ?_
  refine r_aload_n (np := 473) G hl 0 rfl dL_law_472 rfl rfl ?_
  refine r_iload (np := 475) G hl 4 rfl dL_law_473 rfl ?_
  refine r_iconst (np := 476) G 2 dL_law_475 rfl ?_
  refine r_iadd (np := 477) G dL_law_476 rfl ?_
  refine r_sld (np := 478) G hX hbl hM g330 dL_law_477 rfl ?_
  obtain ⟨b334, s335, e336, hm⟩ := call_t hm
  refine m_callVI (np := 481) G hM hl.1 [vI ((xs (wI (v4 + 1)).toNat).toInt), vI ((xs (wI (v4 + 2)).toNat).toInt)] (qX12_alike l E s332 v2 ((xs (wI (v4 + 1)).toNat).toInt) ((xs (wI (v4 + 2)).toNat).toInt) _ e336) myX12_alike (shp_lt (gX12_alike e336) (by decide)) (gX12_alike e336) rfl (by decide) lkL_76 ⟨Nat.le_of_ble_eq_true rfl, Nat.le_of_ble_eq_true rfl⟩ ⟨by show _ ≤ 602319; omega, by show _ ≤ 7289146; omega⟩ [vI b331] rfl (Nat.le_of_ble_eq_true rfl) dL_law_478 rfl (fun H locs hM => ?_)
  refine r_icmp_eq (np := 484) (tgt := 1657) G rfl rfl dL_law_481 (by decide) rfl (fun h337 => ?_) (fun h337 => ?_)
  · have hm := b_t h337 hm
    obtain ⟨a338, e339, hm⟩ := bnd_t hm
    refine r_iinc (np := 1660) G hl 4 rfl e339 [(4, vI a338), (0, .ref b), (1, .ref (eA E v1)), (2, .ref (eA E v2)), (3, .ref (eA E v3))] dL_law_1657 rfl (by decide) rfl (fun ls hl => ?_)
    refine r_goto (np := 23) G dL_law_1660 (by decide) ?_
    refine W.widen (k := 300 + (k + 1)) (n := 4000 + 6 * (k + 1)) (by omega) (by omega) ?_
    exact hc23 a338 (k + 1) (by rw [e339, hk7]; omega) (by omega) _ _ _ _ hm hM (lv_sub hl [1, 2, 3, 4, 0] rfl)
  · have hm := b_f h337 hm
    refine r_iconst (np := 485) G 0 dL_law_484 rfl ?_
    cases hm
    exact absurd (show (0 : Int) = 1 from hout) (by decide)
set_option maxRecDepth 100000 in
set_option maxHeartbeats 4000000 in
theorem wL_law_B424 (l : Launch) (hst : l.stackTraces = false) (E : mE) (out : Int × mSt) (hout : out.1 = 1) {p : Program} {e : Env} {s : State} {m : MethodId} {below : List Frame} {meth : Method} {c : Code} {b : Nat} (xs : Nat → Int32) (L : Nat) (hL : L ≤ 3584) (G : CallFix p m c code 8 s #[Value.ref b] mTs RL) (hr : meth.sig.returnType = ret) (hk : meth.locks = false) (hX : va_X b L xs s s.heap) (hbl : b < s.heap.size) (v1 : Nat) (v2 : Nat) (v3 : Nat) (c23 : Int → mSt → Option (Int × mSt)) (x1663 : mSt → Option (Int × mSt)) (hc23 : ∀ (v4 : Int) (k : Nat) (hk7 : v4 = 7 * (k : Int)) (hk5 : k ≤ 512) (σ : mSt) (H : Heap) (locs : List Loc) (ls : Array Slot), c23 v4 σ = some out → mM (fun q => s.heap.size ≤ q) E 276 σ s H locs → lv_has ls 8 [(0, .ref b), (1, .ref (eA E v1)), (2, .ref (eA E v2)), (3, .ref (eA E v3)), (4, vI v4)] → mGoL l p e s m b below meth c (300 + k) (4000 + 6 * k) H locs (F0 m 23 ls [])) (hx1663 : ∀ (k : Nat) (hk5 : k ≤ 512) (σ : mSt) (H : Heap) (locs : List Loc) (ls : Array Slot), x1663 σ = some out → mM (fun q => s.heap.size ≤ q) E 276 σ s H locs → lv_has ls 8 [] → mGoL l p e s m b below meth c (300 + k) (4000 + 6 * k) H locs (F0 m 1663 ls [])) : ∀ (v4 : Int) (k : Nat) (hk7 : v4 = 7 * (k : Int)) (hk5 : k ≤ 511) (σ : mSt) (H : Heap) (locs : List Loc) (ls : Array Slot), mL_law_B424 xs L v1 v2 v3 c23 x1663 v4 σ = some out → mM (fun q => s.heap.size ≤ q) E 276 σ s H locs → lv_has ls 8 [(0, .ref b), (1, .ref (eA E v1)), (2, .ref (eA E v2)), (3, .ref (eA E v3)), (4, vI v4)] → mGoL l p e s m b below meth c (300 + k) (4000 + 6 * k) H locs (F0 m 424 ls []) := by
  intro v4 k hk7 hk5 σ H locs ls hm hM hl
  unfold mL_law_B424 at hm
  refine r_aload_n (np := 425) G hl 1 rfl dL_law_424 rfl rfl ?_
  refine r_aload_n (np := 426) G hl 0 rfl dL_law_425 rfl rfl ?_
  refine r_iload (np := 428) G hl 4 rfl dL_law_426 rfl ?_
  refine r_iconst (np := 429) G 1 dL_law_428 rfl ?_
  refine r_iadd (np := 430) G dL_law_429 rfl ?_
  obtain ⟨g340, hm⟩ := g_t hm
  refine r_sld (np := 431) G hX hbl hM g340 dL_law_430 rfl ?_
  obtain ⟨b341, s342, e343, hm⟩ := call_t hm
  refine m_callVI (np := 434) G hM hl.1 [vI ((xs (wI (v4 + 1)).toNat).toInt)] (qX11_index l E σ v1 ((xs (wI (v4 + 1)).toNat).toInt) _ e343) myX11_index (shp_lt (gX11_index e343) (by decide)) (gX11_index e343) rfl (by decide) lkL_69 ⟨Nat.le_of_ble_eq_true rfl, Nat.le_of_ble_eq_true rfl⟩ ⟨by show _ ≤ 602319; omega, by show _ ≤ 7289146; omega⟩ [] rfl (Nat.le_of_ble_eq_true rfl) dL_law_431 rfl (fun H locs hM => ?_)
  refine r_aload_n (np := 435) G hl 2 rfl dL_law_434 rfl rfl ?_
  refine r_aload_n (np := 436) G hl 0 rfl dL_law_435 rfl rfl ?_
  refine r_iload (np := 438) G hl 4 rfl dL_law_436 rfl ?_
  refine r_iconst (np := 439) G 1 dL_law_438 rfl ?_
  refine r_iadd (np := 440) G dL_law_439 rfl ?_
  refine r_sld (np := 441) G hX hbl hM g340 dL_law_440 rfl ?_
  obtain ⟨b344, s345, e346, hm⟩ := call_t hm
  refine m_callVI (np := 444) G hM hl.1 [vI ((xs (wI (v4 + 1)).toNat).toInt)] (qX12_index l E s342 v2 ((xs (wI (v4 + 1)).toNat).toInt) _ e346) myX12_index (shp_lt (gX12_index e346) (by decide)) (gX12_index e346) rfl (by decide) lkL_72 ⟨Nat.le_of_ble_eq_true rfl, Nat.le_of_ble_eq_true rfl⟩ ⟨by show _ ≤ 602319; omega, by show _ ≤ 7289146; omega⟩ [vI b341] rfl (Nat.le_of_ble_eq_true rfl) dL_law_441 rfl (fun H locs hM => ?_)
  refine r_icmp_eq (np := 447) (tgt := 1657) G rfl rfl dL_law_444 (by decide) rfl (fun h347 => ?_) (fun h347 => ?_)
  · have hm := b_t h347 hm
    obtain ⟨a348, e349, hm⟩ := bnd_t hm
    refine r_iinc (np := 1660) G hl 4 rfl e349 [(4, vI a348), (0, .ref b), (1, .ref (eA E v1)), (2, .ref (eA E v2)), (3, .ref (eA E v3))] dL_law_1657 rfl (by decide) rfl (fun ls hl => ?_)
    refine r_goto (np := 23) G dL_law_1660 (by decide) ?_
    refine W.widen (k := 300 + (k + 1)) (n := 4000 + 6 * (k + 1)) (by omega) (by omega) ?_
    exact hc23 a348 (k + 1) (by rw [e349, hk7]; omega) (by omega) _ _ _ _ hm hM (lv_sub hl [1, 2, 3, 4, 0] rfl)
  · have hm := b_f h347 hm
    refine r_iconst (np := 448) G 0 dL_law_447 rfl ?_
    cases hm
    exact absurd (show (0 : Int) = 1 from hout) (by decide)
set_option maxRecDepth 100000 in
set_option maxHeartbeats 4000000 in
theorem wL_law_B387 (l : Launch) (hst : l.stackTraces = false) (E : mE) (out : Int × mSt) (hout : out.1 = 1) {p : Program} {e : Env} {s : State} {m : MethodId} {below : List Frame} {meth : Method} {c : Code} {b : Nat} (xs : Nat → Int32) (L : Nat) (hL : L ≤ 3584) (G : CallFix p m c code 8 s #[Value.ref b] mTs RL) (hr : meth.sig.returnType = ret) (hk : meth.locks = false) (hX : va_X b L xs s s.heap) (hbl : b < s.heap.size) (v1 : Nat) (v2 : Nat) (v3 : Nat) (c23 : Int → mSt → Option (Int × mSt)) (x1663 : mSt → Option (Int × mSt)) (hc23 : ∀ (v4 : Int) (k : Nat) (hk7 : v4 = 7 * (k : Int)) (hk5 : k ≤ 512) (σ : mSt) (H : Heap) (locs : List Loc) (ls : Array Slot), c23 v4 σ = some out → mM (fun q => s.heap.size ≤ q) E 276 σ s H locs → lv_has ls 8 [(0, .ref b), (1, .ref (eA E v1)), (2, .ref (eA E v2)), (3, .ref (eA E v3)), (4, vI v4)] → mGoL l p e s m b below meth c (300 + k) (4000 + 6 * k) H locs (F0 m 23 ls [])) (hx1663 : ∀ (k : Nat) (hk5 : k ≤ 512) (σ : mSt) (H : Heap) (locs : List Loc) (ls : Array Slot), x1663 σ = some out → mM (fun q => s.heap.size ≤ q) E 276 σ s H locs → lv_has ls 8 [] → mGoL l p e s m b below meth c (300 + k) (4000 + 6 * k) H locs (F0 m 1663 ls [])) : ∀ (v4 : Int) (k : Nat) (hk7 : v4 = 7 * (k : Int)) (hk5 : k ≤ 511) (σ : mSt) (H : Heap) (locs : List Loc) (ls : Array Slot), mL_law_B387 xs L v1 v2 v3 c23 x1663 v4 σ = some out → mM (fun q => s.heap.size ≤ q) E 276 σ s H locs → lv_has ls 8 [(0, .ref b), (1, .ref (eA E v1)), (2, .ref (eA E v2)), (3, .ref (eA E v3)), (4, vI v4)] → mGoL l p e s m b below meth c (300 + k) (4000 + 6 * k) H locs (F0 m 387 ls []) := by
  intro v4 k hk7 hk5 σ H locs ls hm hM hl
  unfold mL_law_B387 at hm
  refine r_aload_n (np := 388) G hl 1 rfl dL_law_387 rfl rfl ?_
  refine r_aload_n (np := 389) G hl 0 rfl dL_law_388 rfl rfl ?_
  refine r_iload (np := 391) G hl 4 rfl dL_law_389 rfl ?_
  refine r_iconst (np := 392) G 1 dL_law_391 rfl ?_
  refine r_iadd (np := 393) G dL_law_392 rfl ?_
  obtain ⟨g350, hm⟩ := g_t hm
  refine r_sld (np := 394) G hX hbl hM g350 dL_law_393 rfl ?_
  refine r_aload_n (np := 395) G hl 0 rfl dL_law_394 rfl rfl ?_
  refine r_iload (np := 397) G hl 4 rfl dL_law_395 rfl ?_
  refine r_iconst (np := 398) G 2 dL_law_397 rfl ?_
  refine r_iadd (np := 399) G dL_law_398 rfl ?_
  obtain ⟨g351, hm⟩ := g_t hm
  refine r_sld (np := 400) G hX hbl hM g351 dL_law_399 rfl ?_
  obtain ⟨b352, s353, e354, hm⟩ := call_t hm
  refine m_callVI (np := 403) G hM hl.1 [vI ((xs (wI (v4 + 1)).toNat).toInt), vI ((xs (wI (v4 + 2)).toNat).toInt)] (qX11_place l E σ v1 ((xs (wI (v4 + 1)).toNat).toInt) ((xs (wI (v4 + 2)).toNat).toInt) _ e354) myX11_place (shp_lt (gX11_place e354) (by decide)) (gX11_place e354) rfl (by decide) lkL_65 ⟨Nat.le_of_ble_eq_true rfl, Nat.le_of_ble_eq_true rfl⟩ ⟨by show _ ≤ 602319; omega, by show _ ≤ 7289146; omega⟩ [] rfl (Nat.le_of_ble_eq_true rfl) dL_law_400 rfl (fun H locs hM => ?_)
  refine r_aload_n (np := 404) G hl 2 rfl dL_law_403 rfl rfl ?_
  refine r_aload_n (np := 405) G hl 0 rfl dL_law_404 rfl rfl ?_
  refine r_iload (np := 407) G hl 4 rfl dL_law_405 rfl ?_
  refine r_iconst (np := 408) G 1 dL_law_407 rfl ?_
  refine r_iadd (np := 409) G dL_law_408 rfl ?_
  refine r_sld (np := 410) G hX hbl hM g350 dL_law_409 rfl ?_
  refine r_aload_n (np := 411) G hl 0 rfl dL_law_410 rfl rfl ?_
  refine r_iload (np := 413) G hl 4 rfl dL_law_411 rfl ?_
  refine r_iconst (np := 414) G 2 dL_law_413 rfl ?_
  refine r_iadd (np := 415) G dL_law_414 rfl ?_
  refine r_sld (np := 416) G hX hbl hM g351 dL_law_415 rfl ?_
  obtain ⟨b355, s356, e357, hm⟩ := call_t hm
  refine m_callVI (np := 419) G hM hl.1 [vI ((xs (wI (v4 + 1)).toNat).toInt), vI ((xs (wI (v4 + 2)).toNat).toInt)] (qX12_place l E s353 v2 ((xs (wI (v4 + 1)).toNat).toInt) ((xs (wI (v4 + 2)).toNat).toInt) _ e357) myX12_place (shp_lt (gX12_place e357) (by decide)) (gX12_place e357) rfl (by decide) lkL_68 ⟨Nat.le_of_ble_eq_true rfl, Nat.le_of_ble_eq_true rfl⟩ ⟨by show _ ≤ 602319; omega, by show _ ≤ 7289146; omega⟩ [vI b352] rfl (Nat.le_of_ble_eq_true rfl) dL_law_416 rfl (fun H locs hM => ?_)
  refine r_icmp_eq (np := 422) (tgt := 1657) G rfl rfl dL_law_419 (by decide) rfl (fun h358 => ?_) (fun h358 => ?_)
  · have hm := b_t h358 hm
    obtain ⟨a359, e360, hm⟩ := bnd_t hm
    refine r_iinc (np := 1660) G hl 4 rfl e360 [(4, vI a359), (0, .ref b), (1, .ref (eA E v1)), (2, .ref (eA E v2)), (3, .ref (eA E v3))] dL_law_1657 rfl (by decide) rfl (fun ls hl => ?_)
    refine r_goto (np := 23) G dL_law_1660 (by decide) ?_
    refine W.widen (k := 300 + (k + 1)) (n := 4000 + 6 * (k + 1)) (by omega) (by omega) ?_
    exact hc23 a359 (k + 1) (by rw [e360, hk7]; omega) (by omega) _ _ _ _ hm hM (lv_sub hl [1, 2, 3, 4, 0] rfl)
  · have hm := b_f h358 hm
    refine r_iconst (np := 423) G 0 dL_law_422 rfl ?_
    cases hm
    exact absurd (show (0 : Int) = 1 from hout) (by decide)
set_option maxRecDepth 100000 in
set_option maxHeartbeats 4000000 in
theorem wL_law_B350 (l : Launch) (hst : l.stackTraces = false) (E : mE) (out : Int × mSt) (hout : out.1 = 1) {p : Program} {e : Env} {s : State} {m : MethodId} {below : List Frame} {meth : Method} {c : Code} {b : Nat} (xs : Nat → Int32) (L : Nat) (hL : L ≤ 3584) (G : CallFix p m c code 8 s #[Value.ref b] mTs RL) (hr : meth.sig.returnType = ret) (hk : meth.locks = false) (hX : va_X b L xs s s.heap) (hbl : b < s.heap.size) (v1 : Nat) (v2 : Nat) (v3 : Nat) (c23 : Int → mSt → Option (Int × mSt)) (x1663 : mSt → Option (Int × mSt)) (hc23 : ∀ (v4 : Int) (k : Nat) (hk7 : v4 = 7 * (k : Int)) (hk5 : k ≤ 512) (σ : mSt) (H : Heap) (locs : List Loc) (ls : Array Slot), c23 v4 σ = some out → mM (fun q => s.heap.size ≤ q) E 276 σ s H locs → lv_has ls 8 [(0, .ref b), (1, .ref (eA E v1)), (2, .ref (eA E v2)), (3, .ref (eA E v3)), (4, vI v4)] → mGoL l p e s m b below meth c (300 + k) (4000 + 6 * k) H locs (F0 m 23 ls [])) (hx1663 : ∀ (k : Nat) (hk5 : k ≤ 512) (σ : mSt) (H : Heap) (locs : List Loc) (ls : Array Slot), x1663 σ = some out → mM (fun q => s.heap.size ≤ q) E 276 σ s H locs → lv_has ls 8 [] → mGoL l p e s m b below meth c (300 + k) (4000 + 6 * k) H locs (F0 m 1663 ls [])) : ∀ (v4 : Int) (k : Nat) (hk7 : v4 = 7 * (k : Int)) (hk5 : k ≤ 511) (σ : mSt) (H : Heap) (locs : List Loc) (ls : Array Slot), mL_law_B350 xs L v1 v2 v3 c23 x1663 v4 σ = some out → mM (fun q => s.heap.size ≤ q) E 276 σ s H locs → lv_has ls 8 [(0, .ref b), (1, .ref (eA E v1)), (2, .ref (eA E v2)), (3, .ref (eA E v3)), (4, vI v4)] → mGoL l p e s m b below meth c (300 + k) (4000 + 6 * k) H locs (F0 m 350 ls []) := by
  intro v4 k hk7 hk5 σ H locs ls hm hM hl
  unfold mL_law_B350 at hm
  refine r_aload_n (np := 351) G hl 1 rfl dL_law_350 rfl rfl ?_
  refine r_aload_n (np := 352) G hl 0 rfl dL_law_351 rfl rfl ?_
  refine r_iload (np := 354) G hl 4 rfl dL_law_352 rfl ?_
  refine r_iconst (np := 355) G 1 dL_law_354 rfl ?_
  refine r_iadd (np := 356) G dL_law_355 rfl ?_
  obtain ⟨g361, hm⟩ := g_t hm
  refine r_sld (np := 357) G hX hbl hM g361 dL_law_356 rfl ?_
  refine r_aload_n (np := 358) G hl 0 rfl dL_law_357 rfl rfl ?_
  refine r_iload (np := 360) G hl 4 rfl dL_law_358 rfl ?_
  refine r_iconst (np := 361) G 2 dL_law_360 rfl ?_
  refine r_iadd (np := 362) G dL_law_361 rfl ?_
  obtain ⟨g362, hm⟩ := g_t hm
  refine r_sld (np := 363) G hX hbl hM g362 dL_law_362 rfl ?_
  obtain ⟨b363, s364, e365, hm⟩ := call_t hm
  refine m_callVI (np := 366) G hM hl.1 [vI ((xs (wI (v4 + 1)).toNat).toInt), vI ((xs (wI (v4 + 2)).toNat).toInt)] (qX11_local l E σ v1 ((xs (wI (v4 + 1)).toNat).toInt) ((xs (wI (v4 + 2)).toNat).toInt) _ e365) myX11_local (shp_lt (gX11_local e365) (by decide)) (gX11_local e365) rfl (by decide) lkL_61 ⟨Nat.le_of_ble_eq_true rfl, Nat.le_of_ble_eq_true rfl⟩ ⟨by show _ ≤ 602319; omega, by show _ ≤ 7289146; omega⟩ [] rfl (Nat.le_of_ble_eq_true rfl) dL_law_363 rfl (fun H locs hM => ?_)
  refine r_aload_n (np := 367) G hl 2 rfl dL_law_366 rfl rfl ?_
  refine r_aload_n (np := 368) G hl 0 rfl dL_law_367 rfl rfl ?_
  refine r_iload (np := 370) G hl 4 rfl dL_law_368 rfl ?_
  refine r_iconst (np := 371) G 1 dL_law_370 rfl ?_
  refine r_iadd (np := 372) G dL_law_371 rfl ?_
  refine r_sld (np := 373) G hX hbl hM g361 dL_law_372 rfl ?_
  refine r_aload_n (np := 374) G hl 0 rfl dL_law_373 rfl rfl ?_
  refine r_iload (np := 376) G hl 4 rfl dL_law_374 rfl ?_
  refine r_iconst (np := 377) G 2 dL_law_376 rfl ?_
  refine r_iadd (np := 378) G dL_law_377 rfl ?_
  refine r_sld (np := 379) G hX hbl hM g362 dL_law_378 rfl ?_
  obtain ⟨b366, s367, e368, hm⟩ := call_t hm
  refine m_callVI (np := 382) G hM hl.1 [vI ((xs (wI (v4 + 1)).toNat).toInt), vI ((xs (wI (v4 + 2)).toNat).toInt)] (qX12_local l E s364 v2 ((xs (wI (v4 + 1)).toNat).toInt) ((xs (wI (v4 + 2)).toNat).toInt) _ e368) myX12_local (shp_lt (gX12_local e368) (by decide)) (gX12_local e368) rfl (by decide) lkL_64 ⟨Nat.le_of_ble_eq_true rfl, Nat.le_of_ble_eq_true rfl⟩ ⟨by show _ ≤ 602319; omega, by show _ ≤ 7289146; omega⟩ [vI b363] rfl (Nat.le_of_ble_eq_true rfl) dL_law_379 rfl (fun H locs hM => ?_)
  refine r_icmp_eq (np := 385) (tgt := 1657) G rfl rfl dL_law_382 (by decide) rfl (fun h369 => ?_) (fun h369 => ?_)
  · have hm := b_t h369 hm
    obtain ⟨a370, e371, hm⟩ := bnd_t hm
    refine r_iinc (np := 1660) G hl 4 rfl e371 [(4, vI a370), (0, .ref b), (1, .ref (eA E v1)), (2, .ref (eA E v2)), (3, .ref (eA E v3))] dL_law_1657 rfl (by decide) rfl (fun ls hl => ?_)
    refine r_goto (np := 23) G dL_law_1660 (by decide) ?_
    refine W.widen (k := 300 + (k + 1)) (n := 4000 + 6 * (k + 1)) (by omega) (by omega) ?_
    exact hc23 a370 (k + 1) (by rw [e371, hk7]; omega) (by omega) _ _ _ _ hm hM (lv_sub hl [1, 2, 3, 4, 0] rfl)
  · have hm := b_f h369 hm
    refine r_iconst (np := 386) G 0 dL_law_385 rfl ?_
    cases hm
    exact absurd (show (0 : Int) = 1 from hout) (by decide)
set_option maxRecDepth 100000 in
set_option maxHeartbeats 4000000 in
theorem wL_law_B282 (l : Launch) (hst : l.stackTraces = false) (E : mE) (out : Int × mSt) (hout : out.1 = 1) {p : Program} {e : Env} {s : State} {m : MethodId} {below : List Frame} {meth : Method} {c : Code} {b : Nat} (xs : Nat → Int32) (L : Nat) (hL : L ≤ 3584) (G : CallFix p m c code 8 s #[Value.ref b] mTs RL) (hr : meth.sig.returnType = ret) (hk : meth.locks = false) (hX : va_X b L xs s s.heap) (hbl : b < s.heap.size) (v1 : Nat) (v2 : Nat) (v3 : Nat) (c23 : Int → mSt → Option (Int × mSt)) (x1663 : mSt → Option (Int × mSt)) (hc23 : ∀ (v4 : Int) (k : Nat) (hk7 : v4 = 7 * (k : Int)) (hk5 : k ≤ 512) (σ : mSt) (H : Heap) (locs : List Loc) (ls : Array Slot), c23 v4 σ = some out → mM (fun q => s.heap.size ≤ q) E 276 σ s H locs → lv_has ls 8 [(0, .ref b), (1, .ref (eA E v1)), (2, .ref (eA E v2)), (3, .ref (eA E v3)), (4, vI v4)] → mGoL l p e s m b below meth c (300 + k) (4000 + 6 * k) H locs (F0 m 23 ls [])) (hx1663 : ∀ (k : Nat) (hk5 : k ≤ 512) (σ : mSt) (H : Heap) (locs : List Loc) (ls : Array Slot), x1663 σ = some out → mM (fun q => s.heap.size ≤ q) E 276 σ s H locs → lv_has ls 8 [] → mGoL l p e s m b below meth c (300 + k) (4000 + 6 * k) H locs (F0 m 1663 ls [])) : ∀ (v4 : Int) (k : Nat) (hk7 : v4 = 7 * (k : Int)) (hk5 : k ≤ 511) (σ : mSt) (H : Heap) (locs : List Loc) (ls : Array Slot), mL_law_B282 xs L v1 v2 v3 c23 x1663 v4 σ = some out → mM (fun q => s.heap.size ≤ q) E 276 σ s H locs → lv_has ls 8 [(0, .ref b), (1, .ref (eA E v1)), (2, .ref (eA E v2)), (3, .ref (eA E v3)), (4, vI v4)] → mGoL l p e s m b below meth c (300 + k) (4000 + 6 * k) H locs (F0 m 282 ls []) := by
  intro v4 k hk7 hk5 σ H locs ls hm hM hl
  unfold mL_law_B282 at hm
  refine r_aload_n (np := 283) G hl 1 rfl dL_law_282 rfl rfl ?_
  refine r_aload_n (np := 284) G hl 0 rfl dL_law_283 rfl rfl ?_
  refine r_iload (np := 286) G hl 4 rfl dL_law_284 rfl ?_
  refine r_iconst (np := 287) G 1 dL_law_286 rfl ?_
  refine r_iadd (np := 288) G dL_law_287 rfl ?_
  obtain ⟨g372, hm⟩ := g_t hm
  refine r_sld (np := 289) G hX hbl hM g372 dL_law_288 rfl ?_
  refine r_aload_n (np := 290) G hl 0 rfl dL_law_289 rfl rfl ?_
  refine r_iload (np := 292) G hl 4 rfl dL_law_290 rfl ?_
  refine r_iconst (np := 293) G 2 dL_law_292 rfl ?_
  refine r_iadd (np := 294) G dL_law_293 rfl ?_
  obtain ⟨g373, hm⟩ := g_t hm
  refine r_sld (np := 295) G hX hbl hM g373 dL_law_294 rfl ?_
  refine r_aload_n (np := 296) G hl 3 rfl dL_law_295 rfl rfl ?_
  obtain ⟨b374, s375, e376, hm⟩ := call_t hm
  refine m_wcall (np := 299) G hM hl.1 [.ref (eA E v1), vI ((xs (wI (v4 + 1)).toNat).toInt), vI ((xs (wI (v4 + 2)).toNat).toInt), .ref (eA E v3)] (qL_algebra l hst E σ v1 ((xs (wI (v4 + 1)).toNat).toInt) ((xs (wI (v4 + 2)).toNat).toInt) v3 _ e376) myL_algebra lkL_51 ⟨Nat.le_of_ble_eq_true rfl, Nat.le_of_ble_eq_true rfl⟩ ⟨by show _ ≤ 602319; omega, by show _ ≤ 7289146; omega⟩ [] rfl (Nat.le_of_ble_eq_true rfl) dL_law_296 rfl (fun H locs hM => ?_)
  refine r_istore (np := 301) G hl rfl [(5, vI b374), (0, .ref b), (1, .ref (eA E v1)), (2, .ref (eA E v2)), (3, .ref (eA E v3)), (4, vI v4)] dL_law_299 rfl (by decide) rfl (fun ls hl => ?_)
  refine r_aload_n (np := 302) G hl 3 rfl dL_law_301 rfl rfl ?_
  refine r_aload_n (np := 303) G hl 1 rfl dL_law_302 rfl rfl ?_
  refine r_iload (np := 305) G hl 5 rfl dL_law_303 rfl ?_
  refine r_iconst (np := 306) G 1 dL_law_305 rfl ?_
  refine r_iadd (np := 307) G dL_law_306 rfl ?_
  refine r_sld (np := 308) G hX hbl hM g372 dL_law_307 rfl ?_
  refine r_aload_n (np := 309) G hl 1 rfl dL_law_308 rfl rfl ?_
  refine r_iload (np := 311) G hl 5 rfl dL_law_309 rfl ?_
  refine r_iconst (np := 312) G 2 dL_law_311 rfl ?_
  refine r_iadd (np := 313) G dL_law_312 rfl ?_
  refine r_sld (np := 314) G hX hbl hM g373 dL_law_313 rfl ?_
  obtain ⟨b377, s378, e379, hm⟩ := call_t hm
  refine m_callVI (np := 317) G hM hl.1 [vI ((xs (wI (v4 + 1)).toNat).toInt), vI ((xs (wI (v4 + 2)).toNat).toInt)] (qX12_algebra l E s375 v2 ((xs (wI (v4 + 1)).toNat).toInt) ((xs (wI (v4 + 2)).toNat).toInt) _ e379) myX12_algebra (shp_lt (gX12_algebra e379) (by decide)) (gX12_algebra e379) rfl (by decide) lkL_56 ⟨Nat.le_of_ble_eq_true rfl, Nat.le_of_ble_eq_true rfl⟩ ⟨by show _ ≤ 602319; omega, by show _ ≤ 7289146; omega⟩ [] rfl (Nat.le_of_ble_eq_true rfl) dL_law_314 rfl (fun H locs hM => ?_)
  refine r_istore (np := 319) G hl rfl [(6, vI b377), (5, vI b374), (0, .ref b), (1, .ref (eA E v1)), (2, .ref (eA E v2)), (3, .ref (eA E v3)), (4, vI v4)] dL_law_317 rfl (by decide) rfl (fun ls hl => ?_)
  refine r_aload_n (np := 320) G hl 4 rfl dL_law_319 rfl rfl ?_
  obtain ⟨b380, s381, e382, hm⟩ := call_t hm
  refine m_callVI (np := 323) G hM hl.1 [] (qX12_thrown l E s378 v2 _ e382) myX12_thrown (shp_lt (gX12_thrown e382) (by decide)) (gX12_thrown e382) rfl (by decide) lkL_57 ⟨Nat.le_of_ble_eq_true rfl, Nat.le_of_ble_eq_true rfl⟩ ⟨by show _ ≤ 602319; omega, by show _ ≤ 7289146; omega⟩ [] rfl (Nat.le_of_ble_eq_true rfl) dL_law_320 rfl (fun H locs hM => ?_)
  refine r_iload (np := 325) G hl 1 rfl dL_law_323 rfl ?_
  refine r_icmp_eq (np := 328) (tgt := 330) G rfl rfl dL_law_325 (by decide) rfl (fun h383 => ?_) (fun h383 => ?_)
  · have hm := b_t h383 hm
    refine r_iload (np := 332) G hl 1 rfl dL_law_330 rfl ?_
    refine r_if_ne (np := 335) (tgt := 347) G rfl dL_law_332 (by decide) rfl (fun h384 => ?_) (fun h384 => ?_)
    · have hm := b_f h384 hm
      refine r_goto (np := 1657) G dL_law_347 (by decide) ?_
      obtain ⟨a385, e386, hm⟩ := bnd_t hm
      refine r_iinc (np := 1660) G hl 6 rfl e386 [(4, vI a385), (6, vI b377), (5, vI b374), (0, .ref b), (1, .ref (eA E v1)), (2, .ref (eA E v2)), (3, .ref (eA E v3))] dL_law_1657 rfl (by decide) rfl (fun ls hl => ?_)
      refine r_goto (np := 23) G dL_law_1660 (by decide) ?_
      refine W.widen (k := 300 + (k + 1)) (n := 4000 + 6 * (k + 1)) (by omega) (by omega) ?_
      exact hc23 a385 (k + 1) (by rw [e386, hk7]; omega) (by omega) _ _ _ _ hm hM (lv_sub hl [3, 4, 5, 6, 0] rfl)
    · have hm := b_t h384 hm
      refine r_aload_n (np := 336) G hl 5 rfl dL_law_335 rfl rfl ?_
      refine r_iconst (np := 337) G 0 dL_law_336 rfl ?_
      obtain ⟨g387, hm⟩ := g_t hm
      refine r_laload (np := 338) G hM g387 rfl dL_law_337 rfl ?_
      refine r_iload (np := 340) G hl 0 rfl dL_law_338 rfl ?_
      refine r_i2l (np := 341) G rfl dL_law_340 rfl ?_
      refine r_lcmp_eq (np := 345) (tgt := 347) G rfl rfl dL_law_341 dL_law_342 (by decide) rfl (fun h388 => ?_) (fun h388 => ?_)
      · have hm := b_t h388 hm
        refine r_goto (np := 1657) G dL_law_347 (by decide) ?_
        obtain ⟨a389, e390, hm⟩ := bnd_t hm
        refine r_iinc (np := 1660) G hl 6 rfl e390 [(4, vI a389), (6, vI b377), (5, vI b374), (0, .ref b), (1, .ref (eA E v1)), (2, .ref (eA E v2)), (3, .ref (eA E v3))] dL_law_1657 rfl (by decide) rfl (fun ls hl => ?_)
        refine r_goto (np := 23) G dL_law_1660 (by decide) ?_
        refine W.widen (k := 300 + (k + 1)) (n := 4000 + 6 * (k + 1)) (by omega) (by omega) ?_
        exact hc23 a389 (k + 1) (by rw [e390, hk7]; omega) (by omega) _ _ _ _ hm hM (lv_sub hl [3, 4, 5, 6, 0] rfl)
      · have hm := b_f h388 hm
        refine r_iconst (np := 346) G 0 dL_law_345 rfl ?_
        cases hm
        exact absurd (show (0 : Int) = 1 from hout) (by decide)
  · have hm := b_f h383 hm
    refine r_iconst (np := 329) G 0 dL_law_328 rfl ?_
    cases hm
    exact absurd (show (0 : Int) = 1 from hout) (by decide)
set_option maxRecDepth 100000 in
set_option maxHeartbeats 4000000 in
theorem wL_law_B257 (l : Launch) (hst : l.stackTraces = false) (E : mE) (out : Int × mSt) (hout : out.1 = 1) {p : Program} {e : Env} {s : State} {m : MethodId} {below : List Frame} {meth : Method} {c : Code} {b : Nat} (xs : Nat → Int32) (L : Nat) (hL : L ≤ 3584) (G : CallFix p m c code 8 s #[Value.ref b] mTs RL) (hr : meth.sig.returnType = ret) (hk : meth.locks = false) (hX : va_X b L xs s s.heap) (hbl : b < s.heap.size) (v1 : Nat) (v2 : Nat) (v3 : Nat) (c23 : Int → mSt → Option (Int × mSt)) (x1663 : mSt → Option (Int × mSt)) (hc23 : ∀ (v4 : Int) (k : Nat) (hk7 : v4 = 7 * (k : Int)) (hk5 : k ≤ 512) (σ : mSt) (H : Heap) (locs : List Loc) (ls : Array Slot), c23 v4 σ = some out → mM (fun q => s.heap.size ≤ q) E 276 σ s H locs → lv_has ls 8 [(0, .ref b), (1, .ref (eA E v1)), (2, .ref (eA E v2)), (3, .ref (eA E v3)), (4, vI v4)] → mGoL l p e s m b below meth c (300 + k) (4000 + 6 * k) H locs (F0 m 23 ls [])) (hx1663 : ∀ (k : Nat) (hk5 : k ≤ 512) (σ : mSt) (H : Heap) (locs : List Loc) (ls : Array Slot), x1663 σ = some out → mM (fun q => s.heap.size ≤ q) E 276 σ s H locs → lv_has ls 8 [] → mGoL l p e s m b below meth c (300 + k) (4000 + 6 * k) H locs (F0 m 1663 ls [])) : ∀ (v4 : Int) (k : Nat) (hk7 : v4 = 7 * (k : Int)) (hk5 : k ≤ 511) (σ : mSt) (H : Heap) (locs : List Loc) (ls : Array Slot), mL_law_B257 xs L v1 v2 v3 c23 x1663 v4 σ = some out → mM (fun q => s.heap.size ≤ q) E 276 σ s H locs → lv_has ls 8 [(0, .ref b), (1, .ref (eA E v1)), (2, .ref (eA E v2)), (3, .ref (eA E v3)), (4, vI v4)] → mGoL l p e s m b below meth c (300 + k) (4000 + 6 * k) H locs (F0 m 257 ls []) := by
  intro v4 k hk7 hk5 σ H locs ls hm hM hl
  unfold mL_law_B257 at hm
  refine r_aload_n (np := 258) G hl 1 rfl dL_law_257 rfl rfl ?_
  refine r_aload_n (np := 259) G hl 0 rfl dL_law_258 rfl rfl ?_
  refine r_iload (np := 261) G hl 4 rfl dL_law_259 rfl ?_
  refine r_iconst (np := 262) G 1 dL_law_261 rfl ?_
  refine r_iadd (np := 263) G dL_law_262 rfl ?_
  obtain ⟨g391, hm⟩ := g_t hm
  refine r_sld (np := 264) G hX hbl hM g391 dL_law_263 rfl ?_
  obtain ⟨b392, s393, e394, hm⟩ := call_t hm
  refine m_callVI (np := 267) G hM hl.1 [vI ((xs (wI (v4 + 1)).toNat).toInt)] (qX11_text l E σ v1 ((xs (wI (v4 + 1)).toNat).toInt) _ e394) myX11_text (shp_lt (gX11_text e394) (by decide)) (gX11_text e394) rfl (by decide) lkL_46 ⟨Nat.le_of_ble_eq_true rfl, Nat.le_of_ble_eq_true rfl⟩ ⟨by show _ ≤ 602319; omega, by show _ ≤ 7289146; omega⟩ [] rfl (Nat.le_of_ble_eq_true rfl) dL_law_264 rfl (fun H locs hM => ?_)
  refine r_aload_n (np := 268) G hl 2 rfl dL_law_267 rfl rfl ?_
  refine r_aload_n (np := 269) G hl 0 rfl dL_law_268 rfl rfl ?_
  refine r_iload (np := 271) G hl 4 rfl dL_law_269 rfl ?_
  refine r_iconst (np := 272) G 1 dL_law_271 rfl ?_
  refine r_iadd (np := 273) G dL_law_272 rfl ?_
  refine r_sld (np := 274) G hX hbl hM g391 dL_law_273 rfl ?_
  obtain ⟨b395, s396, e397, hm⟩ := call_t hm
  refine m_callVI (np := 277) G hM hl.1 [vI ((xs (wI (v4 + 1)).toNat).toInt)] (qX12_text l E s393 v2 ((xs (wI (v4 + 1)).toNat).toInt) _ e397) myX12_text (shp_lt (gX12_text e397) (by decide)) (gX12_text e397) rfl (by decide) lkL_50 ⟨Nat.le_of_ble_eq_true rfl, Nat.le_of_ble_eq_true rfl⟩ ⟨by show _ ≤ 602319; omega, by show _ ≤ 7289146; omega⟩ [vI b392] rfl (Nat.le_of_ble_eq_true rfl) dL_law_274 rfl (fun H locs hM => ?_)
  refine r_icmp_eq (np := 280) (tgt := 1657) G rfl rfl dL_law_277 (by decide) rfl (fun h398 => ?_) (fun h398 => ?_)
  · have hm := b_t h398 hm
    obtain ⟨a399, e400, hm⟩ := bnd_t hm
    refine r_iinc (np := 1660) G hl 4 rfl e400 [(4, vI a399), (0, .ref b), (1, .ref (eA E v1)), (2, .ref (eA E v2)), (3, .ref (eA E v3))] dL_law_1657 rfl (by decide) rfl (fun ls hl => ?_)
    refine r_goto (np := 23) G dL_law_1660 (by decide) ?_
    refine W.widen (k := 300 + (k + 1)) (n := 4000 + 6 * (k + 1)) (by omega) (by omega) ?_
    exact hc23 a399 (k + 1) (by rw [e400, hk7]; omega) (by omega) _ _ _ _ hm hM (lv_sub hl [1, 2, 3, 4, 0] rfl)
  · have hm := b_f h398 hm
    refine r_iconst (np := 281) G 0 dL_law_280 rfl ?_
    cases hm
    exact absurd (show (0 : Int) = 1 from hout) (by decide)
set_option maxRecDepth 100000 in
set_option maxHeartbeats 4000000 in
theorem wL_law_B184 (l : Launch) (hst : l.stackTraces = false) (E : mE) (out : Int × mSt) (hout : out.1 = 1) {p : Program} {e : Env} {s : State} {m : MethodId} {below : List Frame} {meth : Method} {c : Code} {b : Nat} (xs : Nat → Int32) (L : Nat) (hL : L ≤ 3584) (G : CallFix p m c code 8 s #[Value.ref b] mTs RL) (hr : meth.sig.returnType = ret) (hk : meth.locks = false) (hX : va_X b L xs s s.heap) (hbl : b < s.heap.size) (v1 : Nat) (v2 : Nat) (v3 : Nat) (c23 : Int → mSt → Option (Int × mSt)) (x1663 : mSt → Option (Int × mSt)) (hc23 : ∀ (v4 : Int) (k : Nat) (hk7 : v4 = 7 * (k : Int)) (hk5 : k ≤ 512) (σ : mSt) (H : Heap) (locs : List Loc) (ls : Array Slot), c23 v4 σ = some out → mM (fun q => s.heap.size ≤ q) E 276 σ s H locs → lv_has ls 8 [(0, .ref b), (1, .ref (eA E v1)), (2, .ref (eA E v2)), (3, .ref (eA E v3)), (4, vI v4)] → mGoL l p e s m b below meth c (300 + k) (4000 + 6 * k) H locs (F0 m 23 ls [])) (hx1663 : ∀ (k : Nat) (hk5 : k ≤ 512) (σ : mSt) (H : Heap) (locs : List Loc) (ls : Array Slot), x1663 σ = some out → mM (fun q => s.heap.size ≤ q) E 276 σ s H locs → lv_has ls 8 [] → mGoL l p e s m b below meth c (300 + k) (4000 + 6 * k) H locs (F0 m 1663 ls [])) : ∀ (v4 : Int) (k : Nat) (hk7 : v4 = 7 * (k : Int)) (hk5 : k ≤ 511) (σ : mSt) (H : Heap) (locs : List Loc) (ls : Array Slot), mL_law_B184 xs L v1 v2 v3 c23 x1663 v4 σ = some out → mM (fun q => s.heap.size ≤ q) E 276 σ s H locs → lv_has ls 8 [(0, .ref b), (1, .ref (eA E v1)), (2, .ref (eA E v2)), (3, .ref (eA E v3)), (4, vI v4)] → mGoL l p e s m b below meth c (300 + k) (4000 + 6 * k) H locs (F0 m 184 ls []) := by
  intro v4 k hk7 hk5 σ H locs ls hm hM hl
  unfold mL_law_B184 at hm
  refine r_aload_n (np := 185) G hl 1 rfl dL_law_184 rfl rfl ?_
  refine r_aload_n (np := 186) G hl 0 rfl dL_law_185 rfl rfl ?_
  refine r_iload (np := 188) G hl 4 rfl dL_law_186 rfl ?_
  refine r_iconst (np := 189) G 1 dL_law_188 rfl ?_
  refine r_iadd (np := 190) G dL_law_189 rfl ?_
  obtain ⟨g401, hm⟩ := g_t hm
  refine r_sld (np := 191) G hX hbl hM g401 dL_law_190 rfl ?_
  refine r_aload_n (np := 192) G hl 0 rfl dL_law_191 rfl rfl ?_
  refine r_iload (np := 194) G hl 4 rfl dL_law_192 rfl ?_
  refine r_iconst (np := 195) G 2 dL_law_194 rfl ?_
  refine r_iadd (np := 196) G dL_law_195 rfl ?_
  obtain ⟨g402, hm⟩ := g_t hm
  refine r_sld (np := 197) G hX hbl hM g402 dL_law_196 rfl ?_
  refine r_aload_n (np := 198) G hl 0 rfl dL_law_197 rfl rfl ?_
  refine r_iload (np := 200) G hl 4 rfl dL_law_198 rfl ?_
  refine r_iconst (np := 201) G 3 dL_law_200 rfl ?_
  refine r_iadd (np := 202) G dL_law_201 rfl ?_
  obtain ⟨g403, hm⟩ := g_t hm
  refine r_sld (np := 203) G hX hbl hM g403 dL_law_202 rfl ?_
  refine r_aload_n (np := 204) G hl 0 rfl dL_law_203 rfl rfl ?_
  refine r_iload (np := 206) G hl 4 rfl dL_law_204 rfl ?_
  refine r_iconst (np := 207) G 4 dL_law_206 rfl ?_
  refine r_iadd (np := 208) G dL_law_207 rfl ?_
  obtain ⟨g404, hm⟩ := g_t hm
  refine r_sld (np := 209) G hX hbl hM g404 dL_law_208 rfl ?_
  refine r_aload_n (np := 210) G hl 0 rfl dL_law_209 rfl rfl ?_
  refine r_iload (np := 212) G hl 4 rfl dL_law_210 rfl ?_
  refine r_iconst (np := 213) G 5 dL_law_212 rfl ?_
  refine r_iadd (np := 214) G dL_law_213 rfl ?_
  obtain ⟨g405, hm⟩ := g_t hm
  refine r_sld (np := 215) G hX hbl hM g405 dL_law_214 rfl ?_
  obtain ⟨b406, s407, e408, hm⟩ := call_t hm
  refine m_callVI (np := 218) G hM hl.1 [vI ((xs (wI (v4 + 1)).toNat).toInt), vI ((xs (wI (v4 + 2)).toNat).toInt), vI ((xs (wI (v4 + 3)).toNat).toInt), vI ((xs (wI (v4 + 4)).toNat).toInt), vI ((xs (wI (v4 + 5)).toNat).toInt)] (qX11_feed l E σ v1 ((xs (wI (v4 + 1)).toNat).toInt) ((xs (wI (v4 + 2)).toNat).toInt) ((xs (wI (v4 + 3)).toNat).toInt) ((xs (wI (v4 + 4)).toNat).toInt) ((xs (wI (v4 + 5)).toNat).toInt) _ e408) myX11_feed (shp_lt (gX11_feed e408) (by decide)) (gX11_feed e408) rfl (by decide) lkL_41 ⟨Nat.le_of_ble_eq_true rfl, Nat.le_of_ble_eq_true rfl⟩ ⟨by show _ ≤ 602319; omega, by show _ ≤ 7289146; omega⟩ [] rfl (Nat.le_of_ble_eq_true rfl) dL_law_215 rfl (fun H locs hM => ?_)
  refine r_aload_n (np := 219) G hl 2 rfl dL_law_218 rfl rfl ?_
  refine r_aload_n (np := 220) G hl 0 rfl dL_law_219 rfl rfl ?_
  refine r_iload (np := 222) G hl 4 rfl dL_law_220 rfl ?_
  refine r_iconst (np := 223) G 1 dL_law_222 rfl ?_
  refine r_iadd (np := 224) G dL_law_223 rfl ?_
  refine r_sld (np := 225) G hX hbl hM g401 dL_law_224 rfl ?_
  refine r_aload_n (np := 226) G hl 0 rfl dL_law_225 rfl rfl ?_
  refine r_iload (np := 228) G hl 4 rfl dL_law_226 rfl ?_
  refine r_iconst (np := 229) G 2 dL_law_228 rfl ?_
  refine r_iadd (np := 230) G dL_law_229 rfl ?_
  refine r_sld (np := 231) G hX hbl hM g402 dL_law_230 rfl ?_
  refine r_aload_n (np := 232) G hl 0 rfl dL_law_231 rfl rfl ?_
  refine r_iload (np := 234) G hl 4 rfl dL_law_232 rfl ?_
  refine r_iconst (np := 235) G 3 dL_law_234 rfl ?_
  refine r_iadd (np := 236) G dL_law_235 rfl ?_
  refine r_sld (np := 237) G hX hbl hM g403 dL_law_236 rfl ?_
  refine r_aload_n (np := 238) G hl 0 rfl dL_law_237 rfl rfl ?_
  refine r_iload (np := 240) G hl 4 rfl dL_law_238 rfl ?_
  refine r_iconst (np := 241) G 4 dL_law_240 rfl ?_
  refine r_iadd (np := 242) G dL_law_241 rfl ?_
  refine r_sld (np := 243) G hX hbl hM g404 dL_law_242 rfl ?_
  refine r_aload_n (np := 244) G hl 0 rfl dL_law_243 rfl rfl ?_
  refine r_iload (np := 246) G hl 4 rfl dL_law_244 rfl ?_
  refine r_iconst (np := 247) G 5 dL_law_246 rfl ?_
  refine r_iadd (np := 248) G dL_law_247 rfl ?_
  refine r_sld (np := 249) G hX hbl hM g405 dL_law_248 rfl ?_
  obtain ⟨b409, s410, e411, hm⟩ := call_t hm
  refine m_callVI (np := 252) G hM hl.1 [vI ((xs (wI (v4 + 1)).toNat).toInt), vI ((xs (wI (v4 + 2)).toNat).toInt), vI ((xs (wI (v4 + 3)).toNat).toInt), vI ((xs (wI (v4 + 4)).toNat).toInt), vI ((xs (wI (v4 + 5)).toNat).toInt)] (qX12_feed l E s407 v2 ((xs (wI (v4 + 1)).toNat).toInt) ((xs (wI (v4 + 2)).toNat).toInt) ((xs (wI (v4 + 3)).toNat).toInt) ((xs (wI (v4 + 4)).toNat).toInt) ((xs (wI (v4 + 5)).toNat).toInt) _ e411) myX12_feed (shp_lt (gX12_feed e411) (by decide)) (gX12_feed e411) rfl (by decide) lkL_45 ⟨Nat.le_of_ble_eq_true rfl, Nat.le_of_ble_eq_true rfl⟩ ⟨by show _ ≤ 602319; omega, by show _ ≤ 7289146; omega⟩ [vI b406] rfl (Nat.le_of_ble_eq_true rfl) dL_law_249 rfl (fun H locs hM => ?_)
  refine r_icmp_eq (np := 255) (tgt := 1657) G rfl rfl dL_law_252 (by decide) rfl (fun h412 => ?_) (fun h412 => ?_)
  · have hm := b_t h412 hm
    obtain ⟨a413, e414, hm⟩ := bnd_t hm
    refine r_iinc (np := 1660) G hl 4 rfl e414 [(4, vI a413), (0, .ref b), (1, .ref (eA E v1)), (2, .ref (eA E v2)), (3, .ref (eA E v3))] dL_law_1657 rfl (by decide) rfl (fun ls hl => ?_)
    refine r_goto (np := 23) G dL_law_1660 (by decide) ?_
    refine W.widen (k := 300 + (k + 1)) (n := 4000 + 6 * (k + 1)) (by omega) (by omega) ?_
    exact hc23 a413 (k + 1) (by rw [e414, hk7]; omega) (by omega) _ _ _ _ hm hM (lv_sub hl [1, 2, 3, 4, 0] rfl)
  · have hm := b_f h412 hm
    refine r_iconst (np := 256) G 0 dL_law_255 rfl ?_
    cases hm
    exact absurd (show (0 : Int) = 1 from hout) (by decide)
set_option maxRecDepth 100000 in
set_option maxHeartbeats 4000000 in
theorem wL_law_L23 (l : Launch) (hst : l.stackTraces = false) (E : mE) (out : Int × mSt) (hout : out.1 = 1) {p : Program} {e : Env} {s : State} {m : MethodId} {below : List Frame} {meth : Method} {c : Code} {b : Nat} (xs : Nat → Int32) (L : Nat) (hL : L ≤ 3584) (G : CallFix p m c code 8 s #[Value.ref b] mTs RL) (hr : meth.sig.returnType = ret) (hk : meth.locks = false) (hX : va_X b L xs s s.heap) (hbl : b < s.heap.size) (v1 : Nat) (v2 : Nat) (v3 : Nat) (x1663 : mSt → Option (Int × mSt)) (hx1663 : ∀ (k : Nat) (hk5 : k ≤ 512) (σ : mSt) (H : Heap) (locs : List Loc) (ls : Array Slot), x1663 σ = some out → mM (fun q => s.heap.size ≤ q) E 276 σ s H locs → lv_has ls 8 [] → mGoL l p e s m b below meth c (300 + k) (4000 + 6 * k) H locs (F0 m 1663 ls [])) : ∀ (n : Nat) (v4 : Int) (k : Nat) (hk7 : v4 = 7 * (k : Int)) (hk5 : k ≤ 512) (σ : mSt) (H : Heap) (locs : List Loc) (ls : Array Slot), mL_law_L23 xs L v1 v2 v3 x1663 n v4 σ = some out → mM (fun q => s.heap.size ≤ q) E 276 σ s H locs → lv_has ls 8 [(0, .ref b), (1, .ref (eA E v1)), (2, .ref (eA E v2)), (3, .ref (eA E v3)), (4, vI v4)] → mGoL l p e s m b below meth c (300 + k) (4000 + 6 * k) H locs (F0 m 23 ls []) := by
  intro n
  induction n with
  | zero =>
    intro v4 k hk7 hk5 σ H locs ls hm hM hl
    exact absurd hm (by rw [mL_law_L23.eq_1]; exact fun h => nomatch h)
  | succ n ih =>
    intro v4 k hk7 hk5 σ H locs ls hm hM hl
    rw [mL_law_L23.eq_2] at hm
    refine r_iload (np := 25) G hl 4 rfl dL_law_23 rfl ?_
    refine r_aload_n (np := 26) G hl 0 rfl dL_law_25 rfl rfl ?_
    refine r_slenL (np := 27) G hX hbl hM dL_law_26 rfl ?_
    refine r_bipush (np := 29) G 7 dL_law_27 (by decide) rfl ?_
    refine r_isub (np := 30) G dL_law_29 rfl ?_
    refine r_icmp_gt (np := 33) (tgt := 1663) G rfl rfl dL_law_30 (by decide) rfl (fun hc => ?_) (fun hc => ?_)
    · have hm := b_t hc hm
      exact hx1663 k (by omega) _ _ _ _ hm hM (lv_sub hl [] rfl)
    · have hm := b_f hc hm
      have hk5 : k ≤ 511 := law_k hk7 hk5 hL hc
      refine r_aload_n (np := 34) G hl 0 rfl dL_law_33 rfl rfl ?_
      refine r_iload (np := 36) G hl 4 rfl dL_law_34 rfl ?_
      obtain ⟨g415, hm⟩ := g_t hm
      refine r_sld (np := 37) G hX hbl hM g415 dL_law_36 rfl ?_
      refine r_bipush (np := 39) G 31 dL_law_37 (by decide) rfl ?_
      refine r_iand (np := 40) G dL_law_39 rfl ?_
      rcases ite_c hm with ⟨h416, hm⟩ | ⟨h416, hm⟩
      · refine r_tswIn (tgt := 184) G h416 dL_law_40 (by decide) (by decide) rfl (by decide) ?_
        exact wL_law_B184 l hst E out hout xs L hL G hr hk hX hbl v1 v2 v3 (mL_law_L23 xs L v1 v2 v3 x1663 n) x1663 ih hx1663 v4 k hk7 (by omega) _ _ _ _ hm hM (lv_sub hl [0, 1, 2, 3, 4] rfl)
      ·
        rcases ite_c hm with ⟨h417, hm⟩ | ⟨h417, hm⟩
        · refine r_tswIn (tgt := 257) G h417 dL_law_40 (by decide) (by decide) rfl (by decide) ?_
          exact wL_law_B257 l hst E out hout xs L hL G hr hk hX hbl v1 v2 v3 (mL_law_L23 xs L v1 v2 v3 x1663 n) x1663 ih hx1663 v4 k hk7 (by omega) _ _ _ _ hm hM (lv_sub hl [0, 1, 2, 3, 4] rfl)
        ·
          rcases ite_c hm with ⟨h418, hm⟩ | ⟨h418, hm⟩
          · refine r_tswIn (tgt := 282) G h418 dL_law_40 (by decide) (by decide) rfl (by decide) ?_
            exact wL_law_B282 l hst E out hout xs L hL G hr hk hX hbl v1 v2 v3 (mL_law_L23 xs L v1 v2 v3 x1663 n) x1663 ih hx1663 v4 k hk7 (by omega) _ _ _ _ hm hM (lv_sub hl [0, 1, 2, 3, 4] rfl)
          ·
            rcases ite_c hm with ⟨h419, hm⟩ | ⟨h419, hm⟩
            · refine r_tswIn (tgt := 350) G h419 dL_law_40 (by decide) (by decide) rfl (by decide) ?_
              exact wL_law_B350 l hst E out hout xs L hL G hr hk hX hbl v1 v2 v3 (mL_law_L23 xs L v1 v2 v3 x1663 n) x1663 ih hx1663 v4 k hk7 (by omega) _ _ _ _ hm hM (lv_sub hl [0, 1, 2, 3, 4] rfl)
            ·
              rcases ite_c hm with ⟨h420, hm⟩ | ⟨h420, hm⟩
              · refine r_tswIn (tgt := 387) G h420 dL_law_40 (by decide) (by decide) rfl (by decide) ?_
                exact wL_law_B387 l hst E out hout xs L hL G hr hk hX hbl v1 v2 v3 (mL_law_L23 xs L v1 v2 v3 x1663 n) x1663 ih hx1663 v4 k hk7 (by omega) _ _ _ _ hm hM (lv_sub hl [0, 1, 2, 3, 4] rfl)
              ·
                rcases ite_c hm with ⟨h421, hm⟩ | ⟨h421, hm⟩
                · refine r_tswIn (tgt := 424) G h421 dL_law_40 (by decide) (by decide) rfl (by decide) ?_
                  exact wL_law_B424 l hst E out hout xs L hL G hr hk hX hbl v1 v2 v3 (mL_law_L23 xs L v1 v2 v3 x1663 n) x1663 ih hx1663 v4 k hk7 (by omega) _ _ _ _ hm hM (lv_sub hl [0, 1, 2, 3, 4] rfl)
                ·
                  rcases ite_c hm with ⟨h422, hm⟩ | ⟨h422, hm⟩
                  · refine r_tswIn (tgt := 449) G h422 dL_law_40 (by decide) (by decide) rfl (by decide) ?_
                    exact wL_law_B449 l hst E out hout xs L hL G hr hk hX hbl v1 v2 v3 (mL_law_L23 xs L v1 v2 v3 x1663 n) x1663 ih hx1663 v4 k hk7 (by omega) _ _ _ _ hm hM (lv_sub hl [0, 1, 2, 3, 4] rfl)
                  ·
                    rcases ite_c hm with ⟨h423, hm⟩ | ⟨h423, hm⟩
                    · refine r_tswIn (tgt := 486) G h423 dL_law_40 (by decide) (by decide) rfl (by decide) ?_
                      exact wL_law_B486 l hst E out hout xs L hL G hr hk hX hbl v1 v2 v3 (mL_law_L23 xs L v1 v2 v3 x1663 n) x1663 ih hx1663 v4 k hk7 (by omega) _ _ _ _ hm hM (lv_sub hl [0, 1, 2, 3, 4] rfl)
                    ·
                      rcases ite_c hm with ⟨h424, hm⟩ | ⟨h424, hm⟩
                      · refine r_tswIn (tgt := 499) G h424 dL_law_40 (by decide) (by decide) rfl (by decide) ?_
                        exact wL_law_B499 l hst E out hout xs L hL G hr hk hX hbl v1 v2 v3 (mL_law_L23 xs L v1 v2 v3 x1663 n) x1663 ih hx1663 v4 k hk7 (by omega) _ _ _ _ hm hM (lv_sub hl [0, 1, 2, 3, 4] rfl)
                      ·
                        rcases ite_c hm with ⟨h425, hm⟩ | ⟨h425, hm⟩
                        · refine r_tswIn (tgt := 586) G h425 dL_law_40 (by decide) (by decide) rfl (by decide) ?_
                          exact wL_law_B586 l hst E out hout xs L hL G hr hk hX hbl v1 v2 v3 (mL_law_L23 xs L v1 v2 v3 x1663 n) x1663 ih hx1663 v4 k hk7 (by omega) _ _ _ _ hm hM (lv_sub hl [0, 1, 2, 3, 4] rfl)
                        ·
                          rcases ite_c hm with ⟨h426, hm⟩ | ⟨h426, hm⟩
                          · refine r_tswIn (tgt := 623) G h426 dL_law_40 (by decide) (by decide) rfl (by decide) ?_
                            exact wL_law_B623 l hst E out hout xs L hL G hr hk hX hbl v1 v2 v3 (mL_law_L23 xs L v1 v2 v3 x1663 n) x1663 ih hx1663 v4 k hk7 (by omega) _ _ _ _ hm hM (lv_sub hl [0, 1, 2, 3, 4] rfl)
                          ·
                            rcases ite_c hm with ⟨h427, hm⟩ | ⟨h427, hm⟩
                            · refine r_tswIn (tgt := 691) G h427 dL_law_40 (by decide) (by decide) rfl (by decide) ?_
                              exact wL_law_B691 l hst E out hout xs L hL G hr hk hX hbl v1 v2 v3 (mL_law_L23 xs L v1 v2 v3 x1663 n) x1663 ih hx1663 v4 k hk7 (by omega) _ _ _ _ hm hM (lv_sub hl [0, 1, 2, 3, 4] rfl)
                            ·
                              rcases ite_c hm with ⟨h428, hm⟩ | ⟨h428, hm⟩
                              · refine r_tswIn (tgt := 740) G h428 dL_law_40 (by decide) (by decide) rfl (by decide) ?_
                                exact wL_law_B740 l hst E out hout xs L hL G hr hk hX hbl v1 v2 v3 (mL_law_L23 xs L v1 v2 v3 x1663 n) x1663 ih hx1663 v4 k hk7 (by omega) _ _ _ _ hm hM (lv_sub hl [0, 1, 2, 3, 4] rfl)
                              ·
                                rcases ite_c hm with ⟨h429, hm⟩ | ⟨h429, hm⟩
                                · refine r_tswIn (tgt := 801) G h429 dL_law_40 (by decide) (by decide) rfl (by decide) ?_
                                  exact wL_law_B801 l hst E out hout xs L hL G hr hk hX hbl v1 v2 v3 (mL_law_L23 xs L v1 v2 v3 x1663 n) x1663 ih hx1663 v4 k hk7 (by omega) _ _ _ _ hm hM (lv_sub hl [0, 1, 2, 3, 4] rfl)
                                ·
                                  rcases ite_c hm with ⟨h430, hm⟩ | ⟨h430, hm⟩
                                  · refine r_tswIn (tgt := 838) G h430 dL_law_40 (by decide) (by decide) rfl (by decide) ?_
                                    exact wL_law_B838 l hst E out hout xs L hL G hr hk hX hbl v1 v2 v3 (mL_law_L23 xs L v1 v2 v3 x1663 n) x1663 ih hx1663 v4 k hk7 (by omega) _ _ _ _ hm hM (lv_sub hl [0, 1, 2, 3, 4] rfl)
                                  ·
                                    rcases ite_c hm with ⟨h431, hm⟩ | ⟨h431, hm⟩
                                    · refine r_tswIn (tgt := 875) G h431 dL_law_40 (by decide) (by decide) rfl (by decide) ?_
                                      exact wL_law_B875 l hst E out hout xs L hL G hr hk hX hbl v1 v2 v3 (mL_law_L23 xs L v1 v2 v3 x1663 n) x1663 ih hx1663 v4 k hk7 (by omega) _ _ _ _ hm hM (lv_sub hl [0, 1, 2, 3, 4] rfl)
                                    ·
                                      rcases ite_c hm with ⟨h432, hm⟩ | ⟨h432, hm⟩
                                      · refine r_tswIn (tgt := 942) G h432 dL_law_40 (by decide) (by decide) rfl (by decide) ?_
                                        exact wL_law_B942 l hst E out hout xs L hL G hr hk hX hbl v1 v2 v3 (mL_law_L23 xs L v1 v2 v3 x1663 n) x1663 ih hx1663 v4 k hk7 (by omega) _ _ _ _ hm hM (lv_sub hl [0, 1, 2, 3, 4] rfl)
                                      ·
                                        rcases ite_c hm with ⟨h433, hm⟩ | ⟨h433, hm⟩
                                        · refine r_tswIn (tgt := 1009) G h433 dL_law_40 (by decide) (by decide) rfl (by decide) ?_
                                          exact wL_law_B1009 l hst E out hout xs L hL G hr hk hX hbl v1 v2 v3 (mL_law_L23 xs L v1 v2 v3 x1663 n) x1663 ih hx1663 v4 k hk7 (by omega) _ _ _ _ hm hM (lv_sub hl [0, 1, 2, 3, 4] rfl)
                                        ·
                                          rcases ite_c hm with ⟨h434, hm⟩ | ⟨h434, hm⟩
                                          · refine r_tswIn (tgt := 1046) G h434 dL_law_40 (by decide) (by decide) rfl (by decide) ?_
                                            exact wL_law_B1046 l hst E out hout xs L hL G hr hk hX hbl v1 v2 v3 (mL_law_L23 xs L v1 v2 v3 x1663 n) x1663 ih hx1663 v4 k hk7 (by omega) _ _ _ _ hm hM (lv_sub hl [0, 1, 2, 3, 4] rfl)
                                          ·
                                            rcases ite_c hm with ⟨h435, hm⟩ | ⟨h435, hm⟩
                                            · refine r_tswIn (tgt := 1137) G h435 dL_law_40 (by decide) (by decide) rfl (by decide) ?_
                                              exact wL_law_B1137 l hst E out hout xs L hL G hr hk hX hbl v1 v2 v3 (mL_law_L23 xs L v1 v2 v3 x1663 n) x1663 ih hx1663 v4 k hk7 (by omega) _ _ _ _ hm hM (lv_sub hl [0, 1, 2, 3, 4] rfl)
                                            ·
                                              rcases ite_c hm with ⟨h436, hm⟩ | ⟨h436, hm⟩
                                              · refine r_tswIn (tgt := 1162) G h436 dL_law_40 (by decide) (by decide) rfl (by decide) ?_
                                                exact wL_law_B1162 l hst E out hout xs L hL G hr hk hX hbl v1 v2 v3 (mL_law_L23 xs L v1 v2 v3 x1663 n) x1663 ih hx1663 v4 k hk7 (by omega) _ _ _ _ hm hM (lv_sub hl [0, 1, 2, 3, 4] rfl)
                                              ·
                                                rcases ite_c hm with ⟨h437, hm⟩ | ⟨h437, hm⟩
                                                · refine r_tswIn (tgt := 1187) G h437 dL_law_40 (by decide) (by decide) rfl (by decide) ?_
                                                  exact wL_law_B1187 l hst E out hout xs L hL G hr hk hX hbl v1 v2 v3 (mL_law_L23 xs L v1 v2 v3 x1663 n) x1663 ih hx1663 v4 k hk7 (by omega) _ _ _ _ hm hM (lv_sub hl [0, 1, 2, 3, 4] rfl)
                                                ·
                                                  rcases ite_c hm with ⟨h438, hm⟩ | ⟨h438, hm⟩
                                                  · refine r_tswIn (tgt := 1267) G h438 dL_law_40 (by decide) (by decide) rfl (by decide) ?_
                                                    exact wL_law_B1267 l hst E out hout xs L hL G hr hk hX hbl v1 v2 v3 (mL_law_L23 xs L v1 v2 v3 x1663 n) x1663 ih hx1663 v4 k hk7 (by omega) _ _ _ _ hm hM (lv_sub hl [0, 1, 2, 3, 4] rfl)
                                                  ·
                                                    rcases ite_c hm with ⟨h439, hm⟩ | ⟨h439, hm⟩
                                                    · refine r_tswIn (tgt := 1304) G h439 dL_law_40 (by decide) (by decide) rfl (by decide) ?_
                                                      exact wL_law_B1304 l hst E out hout xs L hL G hr hk hX hbl v1 v2 v3 (mL_law_L23 xs L v1 v2 v3 x1663 n) x1663 ih hx1663 v4 k hk7 (by omega) _ _ _ _ hm hM (lv_sub hl [0, 1, 2, 3, 4] rfl)
                                                    ·
                                                      rcases ite_c hm with ⟨h440, hm⟩ | ⟨h440, hm⟩
                                                      · refine r_tswIn (tgt := 1329) G h440 dL_law_40 (by decide) (by decide) rfl (by decide) ?_
                                                        exact wL_law_B1329 l hst E out hout xs L hL G hr hk hX hbl v1 v2 v3 (mL_law_L23 xs L v1 v2 v3 x1663 n) x1663 ih hx1663 v4 k hk7 (by omega) _ _ _ _ hm hM (lv_sub hl [0, 1, 2, 3, 4] rfl)
                                                      ·
                                                        rcases ite_c hm with ⟨h441, hm⟩ | ⟨h441, hm⟩
                                                        · refine r_tswIn (tgt := 1354) G h441 dL_law_40 (by decide) (by decide) rfl (by decide) ?_
                                                          exact wL_law_B1354 l hst E out hout xs L hL G hr hk hX hbl v1 v2 v3 (mL_law_L23 xs L v1 v2 v3 x1663 n) x1663 ih hx1663 v4 k hk7 (by omega) _ _ _ _ hm hM (lv_sub hl [0, 1, 2, 3, 4] rfl)
                                                        ·
                                                          rcases ite_c hm with ⟨h442, hm⟩ | ⟨h442, hm⟩
                                                          · refine r_tswIn (tgt := 1446) G h442 dL_law_40 (by decide) (by decide) rfl (by decide) ?_
                                                            exact wL_law_B1446 l hst E out hout xs L hL G hr hk hX hbl v1 v2 v3 (mL_law_L23 xs L v1 v2 v3 x1663 n) x1663 ih hx1663 v4 k hk7 (by omega) _ _ _ _ hm hM (lv_sub hl [0, 1, 2, 3, 4] rfl)
                                                          ·
                                                            rcases ite_c hm with ⟨h443, hm⟩ | ⟨h443, hm⟩
                                                            · refine r_tswIn (tgt := 1471) G h443 dL_law_40 (by decide) (by decide) rfl (by decide) ?_
                                                              exact wL_law_B1471 l hst E out hout xs L hL G hr hk hX hbl v1 v2 v3 (mL_law_L23 xs L v1 v2 v3 x1663 n) x1663 ih hx1663 v4 k hk7 (by omega) _ _ _ _ hm hM (lv_sub hl [0, 1, 2, 3, 4] rfl)
                                                            ·
                                                              rcases ite_c hm with ⟨h444, hm⟩ | ⟨h444, hm⟩
                                                              · refine r_tswIn (tgt := 1509) G h444 dL_law_40 (by decide) (by decide) rfl (by decide) ?_
                                                                exact wL_law_B1509 l hst E out hout xs L hL G hr hk hX hbl v1 v2 v3 (mL_law_L23 xs L v1 v2 v3 x1663 n) x1663 ih hx1663 v4 k hk7 (by omega) _ _ _ _ hm hM (lv_sub hl [0, 1, 2, 3, 4] rfl)
                                                              ·
                                                                rcases ite_c hm with ⟨h445, hm⟩ | ⟨h445, hm⟩
                                                                · refine r_tswIn (tgt := 1558) G h445 dL_law_40 (by decide) (by decide) rfl (by decide) ?_
                                                                  exact wL_law_B1558 l hst E out hout xs L hL G hr hk hX hbl v1 v2 v3 (mL_law_L23 xs L v1 v2 v3 x1663 n) x1663 ih hx1663 v4 k hk7 (by omega) _ _ _ _ hm hM (lv_sub hl [0, 1, 2, 3, 4] rfl)
                                                                ·
                                                                  rcases ite_c hm with ⟨h446, hm⟩ | ⟨h446, hm⟩
                                                                  · refine r_tswIn (tgt := 1595) G h446 dL_law_40 (by decide) (by decide) rfl (by decide) ?_
                                                                    exact wL_law_B1595 l hst E out hout xs L hL G hr hk hX hbl v1 v2 v3 (mL_law_L23 xs L v1 v2 v3 x1663 n) x1663 ih hx1663 v4 k hk7 (by omega) _ _ _ _ hm hM (lv_sub hl [0, 1, 2, 3, 4] rfl)
                                                                  ·
                                                                    rcases ite_c hm with ⟨h447, hm⟩ | ⟨h447, hm⟩
                                                                    · refine r_tswIn (tgt := 1632) G h447 dL_law_40 (by decide) (by decide) rfl (by decide) ?_
                                                                      exact wL_law_B1632 l hst E out hout xs L hL G hr hk hX hbl v1 v2 v3 (mL_law_L23 xs L v1 v2 v3 x1663 n) x1663 ih hx1663 v4 k hk7 (by omega) _ _ _ _ hm hM (lv_sub hl [0, 1, 2, 3, 4] rfl)
                                                                    ·
                                                                      refine r_tswOut (tgt := 1657) G (by omega) dL_law_40 (by decide) ?_
                                                                      obtain ⟨a448, e449, hm⟩ := bnd_t hm
                                                                      refine r_iinc (np := 1660) G hl 4 rfl e449 [(4, vI a448), (0, .ref b), (1, .ref (eA E v1)), (2, .ref (eA E v2)), (3, .ref (eA E v3))] dL_law_1657 rfl (by decide) rfl (fun ls hl => ?_)
                                                                      refine r_goto (np := 23) G dL_law_1660 (by decide) ?_
                                                                      refine W.widen (k := 300 + (k + 1)) (n := 4000 + 6 * (k + 1)) (by omega) (by omega) ?_
                                                                      exact ih a448 (k + 1) (by rw [e449, hk7]; omega) (by omega) _ _ _ _ hm hM (lv_sub hl [1, 2, 3, 4, 0] rfl)
