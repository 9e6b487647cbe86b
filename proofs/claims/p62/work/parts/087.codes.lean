theorem pm_dlaw : pmDok1 cL_law tb_L_law = true := by
  unfold pmDok1 tb_L_law
  simp only [List.all_append, Bool.and_eq_true]
  exact ⟨pm_dlaw_0, ⟨pm_dlaw_1, ⟨pm_dlaw_2, ⟨pm_dlaw_3, ⟨pm_dlaw_4, ⟨pm_dlaw_5, ⟨pm_dlaw_6, ⟨pm_dlaw_7, ⟨pm_dlaw_8, ⟨pm_dlaw_9, ⟨pm_dlaw_10, ⟨pm_dlaw_11, ⟨pm_dlaw_12, ⟨pm_dlaw_13, ⟨pm_dlaw_14, ⟨pm_dlaw_15, ⟨pm_dlaw_16, ⟨pm_dlaw_17, ⟨pm_dlaw_18, ⟨pm_dlaw_19, ⟨pm_dlaw_20, ⟨pm_dlaw_21, ⟨pm_dlaw_22, ⟨pm_dlaw_23, ⟨pm_dlaw_24, ⟨pm_dlaw_25, ⟨pm_dlaw_26, ⟨pm_dlaw_27, ⟨pm_dlaw_28, ⟨pm_dlaw_29, ⟨pm_dlaw_30, ⟨pm_dlaw_31, ⟨pm_dlaw_32, ⟨pm_dlaw_33, ⟨pm_dlaw_34, ⟨pm_dlaw_35, ⟨pm_dlaw_36, ⟨pm_dlaw_37, pm_dlaw_38⟩⟩⟩⟩⟩⟩⟩⟩⟩⟩⟩⟩⟩⟩⟩⟩⟩⟩⟩⟩⟩⟩⟩⟩⟩⟩⟩⟩⟩⟩⟩⟩⟩⟩⟩⟩⟩⟩
theorem pmD_ok (y : Nat) (hy : y < 388) : pmDok2 y = true := by
  by_cases h0 : y < 6
  · have := List.all_eq_true.mp pm_dok_0 (y - 0) (List.mem_range.mpr (by omega))
    rwa [show 0 + (y - 0) = y by omega] at this
  by_cases h1 : y < 8
  · have := List.all_eq_true.mp pm_dok_1 (y - 6) (List.mem_range.mpr (by omega))
    rwa [show 6 + (y - 6) = y by omega] at this
  by_cases h2 : y < 9
  · have := List.all_eq_true.mp pm_dok_2 (y - 8) (List.mem_range.mpr (by omega))
    rwa [show 8 + (y - 8) = y by omega] at this
  by_cases h3 : y < 10
  · have := List.all_eq_true.mp pm_dok_3 (y - 9) (List.mem_range.mpr (by omega))
    rwa [show 9 + (y - 9) = y by omega] at this
  by_cases h4 : y < 11
  · have := List.all_eq_true.mp pm_dok_4 (y - 10) (List.mem_range.mpr (by omega))
    rwa [show 10 + (y - 10) = y by omega] at this
  by_cases h5 : y < 12
  · have := List.all_eq_true.mp pm_dok_5 (y - 11) (List.mem_range.mpr (by omega))
    rwa [show 11 + (y - 11) = y by omega] at this
  by_cases h6 : y < 13
  · have := List.all_eq_true.mp pm_dok_6 (y - 12) (List.mem_range.mpr (by omega))
    rwa [show 12 + (y - 12) = y by omega] at this
  by_cases h7 : y < 14
  · have := List.all_eq_true.mp pm_dok_7 (y - 13) (List.mem_range.mpr (by omega))
    rwa [show 13 + (y - 13) = y by omega] at this
  by_cases h8 : y < 15
  · have := List.all_eq_true.mp pm_dok_8 (y - 14) (List.mem_range.mpr (by omega))
    rwa [show 14 + (y - 14) = y by omega] at this
  by_cases h9 : y < 16
  · have := List.all_eq_true.mp pm_dok_9 (y - 15) (List.mem_range.mpr (by omega))
    rwa [show 15 + (y - 15) = y by omega] at this
  by_cases h10 : y < 21
  · have := List.all_eq_true.mp pm_dok_10 (y - 16) (List.mem_range.mpr (by omega))
    rwa [show 16 + (y - 16) = y by omega] at this
  by_cases h11 : y < 23
  · have := List.all_eq_true.mp pm_dok_11 (y - 21) (List.mem_range.mpr (by omega))
    rwa [show 21 + (y - 21) = y by omega] at this
  by_cases h12 : y < 25
  · have := List.all_eq_true.mp pm_dok_12 (y - 23) (List.mem_range.mpr (by omega))
    rwa [show 23 + (y - 23) = y by omega] at this
  by_cases h13 : y < 26
  · have := List.all_eq_true.mp pm_dok_13 (y - 25) (List.mem_range.mpr (by omega))
    rwa [show 25 + (y - 25) = y by omega] at this
  by_cases h14 : y < 27
  · have := List.all_eq_true.mp pm_dok_14 (y - 26) (List.mem_range.mpr (by omega))
    rwa [show 26 + (y - 26) = y by omega] at this
  by_cases h15 : y < 29
  · have := List.all_eq_true.mp pm_dok_15 (y - 27) (List.mem_range.mpr (by omega))
    rwa [show 27 + (y - 27) = y by omega] at this
  by_cases h16 : y < 33
  · have := List.all_eq_true.mp pm_dok_16 (y - 29) (List.mem_range.mpr (by omega))
    rwa [show 29 + (y - 29) = y by omega] at this
  by_cases h17 : y < 35
  · have := List.all_eq_true.mp pm_dok_17 (y - 33) (List.mem_range.mpr (by omega))
    rwa [show 33 + (y - 33) = y by omega] at this
  by_cases h18 : y < 37
  · have := List.all_eq_true.mp pm_dok_18 (y - 35) (List.mem_range.mpr (by omega))
    rwa [show 35 + (y - 35) = y by omega] at this
  by_cases h19 : y < 41
  · have := List.all_eq_true.mp pm_dok_19 (y - 37) (List.mem_range.mpr (by omega))
    rwa [show 37 + (y - 37) = y by omega] at this
  by_cases h20 : y < 42
  · have := List.all_eq_true.mp pm_dok_20 (y - 41) (List.mem_range.mpr (by omega))
    rwa [show 41 + (y - 41) = y by omega] at this
  by_cases h21 : y < 43
  · have := List.all_eq_true.mp pm_dok_21 (y - 42) (List.mem_range.mpr (by omega))
    rwa [show 42 + (y - 42) = y by omega] at this
  by_cases h22 : y < 44
  · have := List.all_eq_true.mp pm_dok_22 (y - 43) (List.mem_range.mpr (by omega))
    rwa [show 43 + (y - 43) = y by omega] at this
  by_cases h23 : y < 45
  · have := List.all_eq_true.mp pm_dok_23 (y - 44) (List.mem_range.mpr (by omega))
    rwa [show 44 + (y - 44) = y by omega] at this
  by_cases h24 : y < 46
  · have := List.all_eq_true.mp pm_dok_24 (y - 45) (List.mem_range.mpr (by omega))
    rwa [show 45 + (y - 45) = y by omega] at this
  by_cases h25 : y < 47
  · have := List.all_eq_true.mp pm_dok_25 (y - 46) (List.mem_range.mpr (by omega))
    rwa [show 46 + (y - 46) = y by omega] at this
  by_cases h26 : y < 48
  · have := List.all_eq_true.mp pm_dok_26 (y - 47) (List.mem_range.mpr (by omega))
    rwa [show 47 + (y - 47) = y by omega] at this
  by_cases h27 : y < 52
  · have := List.all_eq_true.mp pm_dok_27 (y - 48) (List.mem_range.mpr (by omega))
    rwa [show 48 + (y - 48) = y by omega] at this
  by_cases h28 : y < 55
  · have := List.all_eq_true.mp pm_dok_28 (y - 52) (List.mem_range.mpr (by omega))
    rwa [show 52 + (y - 52) = y by omega] at this
  by_cases h29 : y < 58
  · have := List.all_eq_true.mp pm_dok_29 (y - 55) (List.mem_range.mpr (by omega))
    rwa [show 55 + (y - 55) = y by omega] at this
  by_cases h30 : y < 61
  · have := List.all_eq_true.mp pm_dok_30 (y - 58) (List.mem_range.mpr (by omega))
    rwa [show 58 + (y - 58) = y by omega] at this
  by_cases h31 : y < 63
  · have := List.all_eq_true.mp pm_dok_31 (y - 61) (List.mem_range.mpr (by omega))
    rwa [show 61 + (y - 61) = y by omega] at this
  by_cases h32 : y < 66
  · have := List.all_eq_true.mp pm_dok_32 (y - 63) (List.mem_range.mpr (by omega))
    rwa [show 63 + (y - 63) = y by omega] at this
  by_cases h33 : y < 69
  · have := List.all_eq_true.mp pm_dok_33 (y - 66) (List.mem_range.mpr (by omega))
    rwa [show 66 + (y - 66) = y by omega] at this
  by_cases h34 : y < 71
  · have := List.all_eq_true.mp pm_dok_34 (y - 69) (List.mem_range.mpr (by omega))
    rwa [show 69 + (y - 69) = y by omega] at this
  by_cases h35 : y < 74
  · have := List.all_eq_true.mp pm_dok_35 (y - 71) (List.mem_range.mpr (by omega))
    rwa [show 71 + (y - 71) = y by omega] at this
  by_cases h36 : y < 77
  · have := List.all_eq_true.mp pm_dok_36 (y - 74) (List.mem_range.mpr (by omega))
    rwa [show 74 + (y - 74) = y by omega] at this
  by_cases h37 : y < 80
  · have := List.all_eq_true.mp pm_dok_37 (y - 77) (List.mem_range.mpr (by omega))
    rwa [show 77 + (y - 77) = y by omega] at this
  by_cases h38 : y < 82
  · have := List.all_eq_true.mp pm_dok_38 (y - 80) (List.mem_range.mpr (by omega))
    rwa [show 80 + (y - 80) = y by omega] at this
  by_cases h39 : y < 84
  · have := List.all_eq_true.mp pm_dok_39 (y - 82) (List.mem_range.mpr (by omega))
    rwa [show 82 + (y - 82) = y by omega] at this
  by_cases h40 : y < 85
  · have := List.all_eq_true.mp pm_dok_40 (y - 84) (List.mem_range.mpr (by omega))
    rwa [show 84 + (y - 84) = y by omega] at this
  by_cases h41 : y < 89
  · have := List.all_eq_true.mp pm_dok_41 (y - 85) (List.mem_range.mpr (by omega))
    rwa [show 85 + (y - 85) = y by omega] at this
  by_cases h42 : y < 90
  · have := List.all_eq_true.mp pm_dok_42 (y - 89) (List.mem_range.mpr (by omega))
    rwa [show 89 + (y - 89) = y by omega] at this
  by_cases h43 : y < 91
  · have := List.all_eq_true.mp pm_dok_43 (y - 90) (List.mem_range.mpr (by omega))
    rwa [show 90 + (y - 90) = y by omega] at this
  by_cases h44 : y < 93
  · have := List.all_eq_true.mp pm_dok_44 (y - 91) (List.mem_range.mpr (by omega))
    rwa [show 91 + (y - 91) = y by omega] at this
  by_cases h45 : y < 95
  · have := List.all_eq_true.mp pm_dok_45 (y - 93) (List.mem_range.mpr (by omega))
    rwa [show 93 + (y - 93) = y by omega] at this
  by_cases h46 : y < 97
  · have := List.all_eq_true.mp pm_dok_46 (y - 95) (List.mem_range.mpr (by omega))
    rwa [show 95 + (y - 95) = y by omega] at this
  by_cases h47 : y < 98
  · have := List.all_eq_true.mp pm_dok_47 (y - 97) (List.mem_range.mpr (by omega))
    rwa [show 97 + (y - 97) = y by omega] at this
  by_cases h48 : y < 100
  · have := List.all_eq_true.mp pm_dok_48 (y - 98) (List.mem_range.mpr (by omega))
    rwa [show 98 + (y - 98) = y by omega] at this
  by_cases h49 : y < 104
  · have := List.all_eq_true.mp pm_dok_49 (y - 100) (List.mem_range.mpr (by omega))
    rwa [show 100 + (y - 100) = y by omega] at this
  by_cases h50 : y < 107
  · have := List.all_eq_true.mp pm_dok_50 (y - 104) (List.mem_range.mpr (by omega))
    rwa [show 104 + (y - 104) = y by omega] at this
  by_cases h51 : y < 110
  · have := List.all_eq_true.mp pm_dok_51 (y - 107) (List.mem_range.mpr (by omega))
    rwa [show 107 + (y - 107) = y by omega] at this
  by_cases h52 : y < 112
  · have := List.all_eq_true.mp pm_dok_52 (y - 110) (List.mem_range.mpr (by omega))
    rwa [show 110 + (y - 110) = y by omega] at this
  by_cases h53 : y < 115
  · have := List.all_eq_true.mp pm_dok_53 (y - 112) (List.mem_range.mpr (by omega))
    rwa [show 112 + (y - 112) = y by omega] at this
  by_cases h54 : y < 119
  · have := List.all_eq_true.mp pm_dok_54 (y - 115) (List.mem_range.mpr (by omega))
    rwa [show 115 + (y - 115) = y by omega] at this
  by_cases h55 : y < 120
  · have := List.all_eq_true.mp pm_dok_55 (y - 119) (List.mem_range.mpr (by omega))
    rwa [show 119 + (y - 119) = y by omega] at this
  by_cases h56 : y < 122
  · have := List.all_eq_true.mp pm_dok_56 (y - 120) (List.mem_range.mpr (by omega))
    rwa [show 120 + (y - 120) = y by omega] at this
  by_cases h57 : y < 125
  · have := List.all_eq_true.mp pm_dok_57 (y - 122) (List.mem_range.mpr (by omega))
    rwa [show 122 + (y - 122) = y by omega] at this
  by_cases h58 : y < 131
  · have := List.all_eq_true.mp pm_dok_58 (y - 125) (List.mem_range.mpr (by omega))
    rwa [show 125 + (y - 125) = y by omega] at this
  by_cases h59 : y < 132
  · have := List.all_eq_true.mp pm_dok_59 (y - 131) (List.mem_range.mpr (by omega))
    rwa [show 131 + (y - 131) = y by omega] at this
  by_cases h60 : y < 133
  · have := List.all_eq_true.mp pm_dok_60 (y - 132) (List.mem_range.mpr (by omega))
    rwa [show 132 + (y - 132) = y by omega] at this
  by_cases h61 : y < 135
  · have := List.all_eq_true.mp pm_dok_61 (y - 133) (List.mem_range.mpr (by omega))
    rwa [show 133 + (y - 133) = y by omega] at this
  by_cases h62 : y < 137
  · have := List.all_eq_true.mp pm_dok_62 (y - 135) (List.mem_range.mpr (by omega))
    rwa [show 135 + (y - 135) = y by omega] at this
  by_cases h63 : y < 141
  · have := List.all_eq_true.mp pm_dok_63 (y - 137) (List.mem_range.mpr (by omega))
    rwa [show 137 + (y - 137) = y by omega] at this
  by_cases h64 : y < 142
  · have := List.all_eq_true.mp pm_dok_64 (y - 141) (List.mem_range.mpr (by omega))
    rwa [show 141 + (y - 141) = y by omega] at this
  by_cases h65 : y < 143
  · have := List.all_eq_true.mp pm_dok_65 (y - 142) (List.mem_range.mpr (by omega))
    rwa [show 142 + (y - 142) = y by omega] at this
  by_cases h66 : y < 150
  · have := List.all_eq_true.mp pm_dok_66 (y - 143) (List.mem_range.mpr (by omega))
    rwa [show 143 + (y - 143) = y by omega] at this
  by_cases h67 : y < 153
  · have := List.all_eq_true.mp pm_dok_67 (y - 150) (List.mem_range.mpr (by omega))
    rwa [show 150 + (y - 150) = y by omega] at this
  by_cases h68 : y < 155
  · have := List.all_eq_true.mp pm_dok_68 (y - 153) (List.mem_range.mpr (by omega))
    rwa [show 153 + (y - 153) = y by omega] at this
  by_cases h69 : y < 158
  · have := List.all_eq_true.mp pm_dok_69 (y - 155) (List.mem_range.mpr (by omega))
    rwa [show 155 + (y - 155) = y by omega] at this
  by_cases h70 : y < 161
  · have := List.all_eq_true.mp pm_dok_70 (y - 158) (List.mem_range.mpr (by omega))
    rwa [show 158 + (y - 158) = y by omega] at this
  by_cases h71 : y < 163
  · have := List.all_eq_true.mp pm_dok_71 (y - 161) (List.mem_range.mpr (by omega))
    rwa [show 161 + (y - 161) = y by omega] at this
  by_cases h72 : y < 166
  · have := List.all_eq_true.mp pm_dok_72 (y - 163) (List.mem_range.mpr (by omega))
    rwa [show 163 + (y - 163) = y by omega] at this
  by_cases h73 : y < 169
  · have := List.all_eq_true.mp pm_dok_73 (y - 166) (List.mem_range.mpr (by omega))
    rwa [show 166 + (y - 166) = y by omega] at this
  by_cases h74 : y < 171
  · have := List.all_eq_true.mp pm_dok_74 (y - 169) (List.mem_range.mpr (by omega))
    rwa [show 169 + (y - 169) = y by omega] at this
  by_cases h75 : y < 173
  · have := List.all_eq_true.mp pm_dok_75 (y - 171) (List.mem_range.mpr (by omega))
    rwa [show 171 + (y - 171) = y by omega] at this
  by_cases h76 : y < 174
  · have := List.all_eq_true.mp pm_dok_76 (y - 173) (List.mem_range.mpr (by omega))
    rwa [show 173 + (y - 173) = y by omega] at this
  by_cases h77 : y < 175
  · have := List.all_eq_true.mp pm_dok_77 (y - 174) (List.mem_range.mpr (by omega))
    rwa [show 174 + (y - 174) = y by omega] at this
  by_cases h78 : y < 176
  · have := List.all_eq_true.mp pm_dok_78 (y - 175) (List.mem_range.mpr (by omega))
    rwa [show 175 + (y - 175) = y by omega] at this
  by_cases h79 : y < 178
  · have := List.all_eq_true.mp pm_dok_79 (y - 176) (List.mem_range.mpr (by omega))
    rwa [show 176 + (y - 176) = y by omega] at this
  by_cases h80 : y < 182
  · have := List.all_eq_true.mp pm_dok_80 (y - 178) (List.mem_range.mpr (by omega))
    rwa [show 178 + (y - 178) = y by omega] at this
  by_cases h81 : y < 184
  · have := List.all_eq_true.mp pm_dok_81 (y - 182) (List.mem_range.mpr (by omega))
    rwa [show 182 + (y - 182) = y by omega] at this
  by_cases h82 : y < 186
  · have := List.all_eq_true.mp pm_dok_82 (y - 184) (List.mem_range.mpr (by omega))
    rwa [show 184 + (y - 184) = y by omega] at this
  by_cases h83 : y < 189
  · have := List.all_eq_true.mp pm_dok_83 (y - 186) (List.mem_range.mpr (by omega))
    rwa [show 186 + (y - 186) = y by omega] at this
  by_cases h84 : y < 191
  · have := List.all_eq_true.mp pm_dok_84 (y - 189) (List.mem_range.mpr (by omega))
    rwa [show 189 + (y - 189) = y by omega] at this
  by_cases h85 : y < 192
  · have := List.all_eq_true.mp pm_dok_85 (y - 191) (List.mem_range.mpr (by omega))
    rwa [show 191 + (y - 191) = y by omega] at this
  by_cases h86 : y < 194
  · have := List.all_eq_true.mp pm_dok_86 (y - 192) (List.mem_range.mpr (by omega))
    rwa [show 192 + (y - 192) = y by omega] at this
  by_cases h87 : y < 196
  · have := List.all_eq_true.mp pm_dok_87 (y - 194) (List.mem_range.mpr (by omega))
    rwa [show 194 + (y - 194) = y by omega] at this
  by_cases h88 : y < 199
  · have := List.all_eq_true.mp pm_dok_88 (y - 196) (List.mem_range.mpr (by omega))
    rwa [show 196 + (y - 196) = y by omega] at this
  by_cases h89 : y < 200
  · have := List.all_eq_true.mp pm_dok_89 (y - 199) (List.mem_range.mpr (by omega))
    rwa [show 199 + (y - 199) = y by omega] at this
  by_cases h90 : y < 202
  · have := List.all_eq_true.mp pm_dok_90 (y - 200) (List.mem_range.mpr (by omega))
    rwa [show 200 + (y - 200) = y by omega] at this
  by_cases h91 : y < 205
  · have := List.all_eq_true.mp pm_dok_91 (y - 202) (List.mem_range.mpr (by omega))
    rwa [show 202 + (y - 202) = y by omega] at this
  by_cases h92 : y < 206
  · have := List.all_eq_true.mp pm_dok_92 (y - 205) (List.mem_range.mpr (by omega))
    rwa [show 205 + (y - 205) = y by omega] at this
  by_cases h93 : y < 208
  · have := List.all_eq_true.mp pm_dok_93 (y - 206) (List.mem_range.mpr (by omega))
    rwa [show 206 + (y - 206) = y by omega] at this
  by_cases h94 : y < 210
  · have := List.all_eq_true.mp pm_dok_94 (y - 208) (List.mem_range.mpr (by omega))
    rwa [show 208 + (y - 208) = y by omega] at this
  by_cases h95 : y < 211
  · have := List.all_eq_true.mp pm_dok_95 (y - 210) (List.mem_range.mpr (by omega))
    rwa [show 210 + (y - 210) = y by omega] at this
  by_cases h96 : y < 213
  · have := List.all_eq_true.mp pm_dok_96 (y - 211) (List.mem_range.mpr (by omega))
    rwa [show 211 + (y - 211) = y by omega] at this
  by_cases h97 : y < 216
  · have := List.all_eq_true.mp pm_dok_97 (y - 213) (List.mem_range.mpr (by omega))
    rwa [show 213 + (y - 213) = y by omega] at this
  by_cases h98 : y < 218
  · have := List.all_eq_true.mp pm_dok_98 (y - 216) (List.mem_range.mpr (by omega))
    rwa [show 216 + (y - 216) = y by omega] at this
  by_cases h99 : y < 219
  · have := List.all_eq_true.mp pm_dok_99 (y - 218) (List.mem_range.mpr (by omega))
    rwa [show 218 + (y - 218) = y by omega] at this
  by_cases h100 : y < 223
  · have := List.all_eq_true.mp pm_dok_100 (y - 219) (List.mem_range.mpr (by omega))
    rwa [show 219 + (y - 219) = y by omega] at this
  by_cases h101 : y < 225
  · have := List.all_eq_true.mp pm_dok_101 (y - 223) (List.mem_range.mpr (by omega))
    rwa [show 223 + (y - 223) = y by omega] at this
  by_cases h102 : y < 227
  · have := List.all_eq_true.mp pm_dok_102 (y - 225) (List.mem_range.mpr (by omega))
    rwa [show 225 + (y - 225) = y by omega] at this
  by_cases h103 : y < 230
  · have := List.all_eq_true.mp pm_dok_103 (y - 227) (List.mem_range.mpr (by omega))
    rwa [show 227 + (y - 227) = y by omega] at this
  by_cases h104 : y < 232
  · have := List.all_eq_true.mp pm_dok_104 (y - 230) (List.mem_range.mpr (by omega))
    rwa [show 230 + (y - 230) = y by omega] at this
  by_cases h105 : y < 233
  · have := List.all_eq_true.mp pm_dok_105 (y - 232) (List.mem_range.mpr (by omega))
    rwa [show 232 + (y - 232) = y by omega] at this
  by_cases h106 : y < 235
  · have := List.all_eq_true.mp pm_dok_106 (y - 233) (List.mem_range.mpr (by omega))
    rwa [show 233 + (y - 233) = y by omega] at this
  by_cases h107 : y < 237
  · have := List.all_eq_true.mp pm_dok_107 (y - 235) (List.mem_range.mpr (by omega))
    rwa [show 235 + (y - 235) = y by omega] at this
  by_cases h108 : y < 238
  · have := List.all_eq_true.mp pm_dok_108 (y - 237) (List.mem_range.mpr (by omega))
    rwa [show 237 + (y - 237) = y by omega] at this
  by_cases h109 : y < 239
  · have := List.all_eq_true.mp pm_dok_109 (y - 238) (List.mem_range.mpr (by omega))
    rwa [show 238 + (y - 238) = y by omega] at this
  by_cases h110 : y < 241
  · have := List.all_eq_true.mp pm_dok_110 (y - 239) (List.mem_range.mpr (by omega))
    rwa [show 239 + (y - 239) = y by omega] at this
  by_cases h111 : y < 242
  · have := List.all_eq_true.mp pm_dok_111 (y - 241) (List.mem_range.mpr (by omega))
    rwa [show 241 + (y - 241) = y by omega] at this
  by_cases h112 : y < 243
  · have := List.all_eq_true.mp pm_dok_112 (y - 242) (List.mem_range.mpr (by omega))
    rwa [show 242 + (y - 242) = y by omega] at this
  by_cases h113 : y < 246
  · have := List.all_eq_true.mp pm_dok_113 (y - 243) (List.mem_range.mpr (by omega))
    rwa [show 243 + (y - 243) = y by omega] at this
  by_cases h114 : y < 247
  · have := List.all_eq_true.mp pm_dok_114 (y - 246) (List.mem_range.mpr (by omega))
    rwa [show 246 + (y - 246) = y by omega] at this
  by_cases h115 : y < 252
  · have := List.all_eq_true.mp pm_dok_115 (y - 247) (List.mem_range.mpr (by omega))
    rwa [show 247 + (y - 247) = y by omega] at this
  by_cases h116 : y < 256
  · have := List.all_eq_true.mp pm_dok_116 (y - 252) (List.mem_range.mpr (by omega))
    rwa [show 252 + (y - 252) = y by omega] at this
  by_cases h117 : y < 257
  · have := List.all_eq_true.mp pm_dok_117 (y - 256) (List.mem_range.mpr (by omega))
    rwa [show 256 + (y - 256) = y by omega] at this
  by_cases h118 : y < 259
  · have := List.all_eq_true.mp pm_dok_118 (y - 257) (List.mem_range.mpr (by omega))
    rwa [show 257 + (y - 257) = y by omega] at this
  by_cases h119 : y < 262
  · have := List.all_eq_true.mp pm_dok_119 (y - 259) (List.mem_range.mpr (by omega))
    rwa [show 259 + (y - 259) = y by omega] at this
  by_cases h120 : y < 263
  · have := List.all_eq_true.mp pm_dok_120 (y - 262) (List.mem_range.mpr (by omega))
    rwa [show 262 + (y - 262) = y by omega] at this
  by_cases h121 : y < 264
  · have := List.all_eq_true.mp pm_dok_121 (y - 263) (List.mem_range.mpr (by omega))
    rwa [show 263 + (y - 263) = y by omega] at this
  by_cases h122 : y < 265
  · have := List.all_eq_true.mp pm_dok_122 (y - 264) (List.mem_range.mpr (by omega))
    rwa [show 264 + (y - 264) = y by omega] at this
  by_cases h123 : y < 266
  · have := List.all_eq_true.mp pm_dok_123 (y - 265) (List.mem_range.mpr (by omega))
    rwa [show 265 + (y - 265) = y by omega] at this
  by_cases h124 : y < 267
  · have := List.all_eq_true.mp pm_dok_124 (y - 266) (List.mem_range.mpr (by omega))
    rwa [show 266 + (y - 266) = y by omega] at this
  by_cases h125 : y < 268
  · have := List.all_eq_true.mp pm_dok_125 (y - 267) (List.mem_range.mpr (by omega))
    rwa [show 267 + (y - 267) = y by omega] at this
  by_cases h126 : y < 269
  · have := List.all_eq_true.mp pm_dok_126 (y - 268) (List.mem_range.mpr (by omega))
    rwa [show 268 + (y - 268) = y by omega] at this
  by_cases h127 : y < 270
  · have := List.all_eq_true.mp pm_dok_127 (y - 269) (List.mem_range.mpr (by omega))
    rwa [show 269 + (y - 269) = y by omega] at this
  by_cases h128 : y < 271
  · have := List.all_eq_true.mp pm_dok_128 (y - 270) (List.mem_range.mpr (by omega))
    rwa [show 270 + (y - 270) = y by omega] at this
  by_cases h129 : y < 273
  · have := List.all_eq_true.mp pm_dok_129 (y - 271) (List.mem_range.mpr (by omega))
    rwa [show 271 + (y - 271) = y by omega] at this
  by_cases h130 : y < 275
  · have := List.all_eq_true.mp pm_dok_130 (y - 273) (List.mem_range.mpr (by omega))
    rwa [show 273 + (y - 273) = y by omega] at this
  by_cases h131 : y < 276
  · have := List.all_eq_true.mp pm_dok_131 (y - 275) (List.mem_range.mpr (by omega))
    rwa [show 275 + (y - 275) = y by omega] at this
  by_cases h132 : y < 280
  · have := List.all_eq_true.mp pm_dok_132 (y - 276) (List.mem_range.mpr (by omega))
    rwa [show 276 + (y - 276) = y by omega] at this
  by_cases h133 : y < 282
  · have := List.all_eq_true.mp pm_dok_133 (y - 280) (List.mem_range.mpr (by omega))
    rwa [show 280 + (y - 280) = y by omega] at this
  by_cases h134 : y < 284
  · have := List.all_eq_true.mp pm_dok_134 (y - 282) (List.mem_range.mpr (by omega))
    rwa [show 282 + (y - 282) = y by omega] at this
  by_cases h135 : y < 286
  · have := List.all_eq_true.mp pm_dok_135 (y - 284) (List.mem_range.mpr (by omega))
    rwa [show 284 + (y - 284) = y by omega] at this
  by_cases h136 : y < 288
  · have := List.all_eq_true.mp pm_dok_136 (y - 286) (List.mem_range.mpr (by omega))
    rwa [show 286 + (y - 286) = y by omega] at this
  by_cases h137 : y < 291
  · have := List.all_eq_true.mp pm_dok_137 (y - 288) (List.mem_range.mpr (by omega))
    rwa [show 288 + (y - 288) = y by omega] at this
  by_cases h138 : y < 294
  · have := List.all_eq_true.mp pm_dok_138 (y - 291) (List.mem_range.mpr (by omega))
    rwa [show 291 + (y - 291) = y by omega] at this
  by_cases h139 : y < 295
  · have := List.all_eq_true.mp pm_dok_139 (y - 294) (List.mem_range.mpr (by omega))
    rwa [show 294 + (y - 294) = y by omega] at this
  by_cases h140 : y < 296
  · have := List.all_eq_true.mp pm_dok_140 (y - 295) (List.mem_range.mpr (by omega))
    rwa [show 295 + (y - 295) = y by omega] at this
  by_cases h141 : y < 299
  · have := List.all_eq_true.mp pm_dok_141 (y - 296) (List.mem_range.mpr (by omega))
    rwa [show 296 + (y - 296) = y by omega] at this
  by_cases h142 : y < 302
  · have := List.all_eq_true.mp pm_dok_142 (y - 299) (List.mem_range.mpr (by omega))
    rwa [show 299 + (y - 299) = y by omega] at this
  by_cases h143 : y < 304
  · have := List.all_eq_true.mp pm_dok_143 (y - 302) (List.mem_range.mpr (by omega))
    rwa [show 302 + (y - 302) = y by omega] at this
  by_cases h144 : y < 307
  · have := List.all_eq_true.mp pm_dok_144 (y - 304) (List.mem_range.mpr (by omega))
    rwa [show 304 + (y - 304) = y by omega] at this
  by_cases h145 : y < 309
  · have := List.all_eq_true.mp pm_dok_145 (y - 307) (List.mem_range.mpr (by omega))
    rwa [show 307 + (y - 307) = y by omega] at this
  by_cases h146 : y < 310
  · have := List.all_eq_true.mp pm_dok_146 (y - 309) (List.mem_range.mpr (by omega))
    rwa [show 309 + (y - 309) = y by omega] at this
  by_cases h147 : y < 311
  · have := List.all_eq_true.mp pm_dok_147 (y - 310) (List.mem_range.mpr (by omega))
    rwa [show 310 + (y - 310) = y by omega] at this
  by_cases h148 : y < 312
  · have := List.all_eq_true.mp pm_dok_148 (y - 311) (List.mem_range.mpr (by omega))
    rwa [show 311 + (y - 311) = y by omega] at this
  by_cases h149 : y < 313
  · have := List.all_eq_true.mp pm_dok_149 (y - 312) (List.mem_range.mpr (by omega))
    rwa [show 312 + (y - 312) = y by omega] at this
  by_cases h150 : y < 314
  · have := List.all_eq_true.mp pm_dok_150 (y - 313) (List.mem_range.mpr (by omega))
    rwa [show 313 + (y - 313) = y by omega] at this
  by_cases h151 : y < 316
  · have := List.all_eq_true.mp pm_dok_151 (y - 314) (List.mem_range.mpr (by omega))
    rwa [show 314 + (y - 314) = y by omega] at this
  by_cases h152 : y < 318
  · have := List.all_eq_true.mp pm_dok_152 (y - 316) (List.mem_range.mpr (by omega))
    rwa [show 316 + (y - 316) = y by omega] at this
  by_cases h153 : y < 320
  · have := List.all_eq_true.mp pm_dok_153 (y - 318) (List.mem_range.mpr (by omega))
    rwa [show 318 + (y - 318) = y by omega] at this
  by_cases h154 : y < 322
  · have := List.all_eq_true.mp pm_dok_154 (y - 320) (List.mem_range.mpr (by omega))
    rwa [show 320 + (y - 320) = y by omega] at this
  by_cases h155 : y < 325
  · have := List.all_eq_true.mp pm_dok_155 (y - 322) (List.mem_range.mpr (by omega))
    rwa [show 322 + (y - 322) = y by omega] at this
  by_cases h156 : y < 326
  · have := List.all_eq_true.mp pm_dok_156 (y - 325) (List.mem_range.mpr (by omega))
    rwa [show 325 + (y - 325) = y by omega] at this
  by_cases h157 : y < 327
  · have := List.all_eq_true.mp pm_dok_157 (y - 326) (List.mem_range.mpr (by omega))
    rwa [show 326 + (y - 326) = y by omega] at this
  by_cases h158 : y < 328
  · have := List.all_eq_true.mp pm_dok_158 (y - 327) (List.mem_range.mpr (by omega))
    rwa [show 327 + (y - 327) = y by omega] at this
  by_cases h159 : y < 329
  · have := List.all_eq_true.mp pm_dok_159 (y - 328) (List.mem_range.mpr (by omega))
    rwa [show 328 + (y - 328) = y by omega] at this
  by_cases h160 : y < 330
  · have := List.all_eq_true.mp pm_dok_160 (y - 329) (List.mem_range.mpr (by omega))
    rwa [show 329 + (y - 329) = y by omega] at this
  by_cases h161 : y < 332
  · have := List.all_eq_true.mp pm_dok_161 (y - 330) (List.mem_range.mpr (by omega))
    rwa [show 330 + (y - 330) = y by omega] at this
  by_cases h162 : y < 333
  · have := List.all_eq_true.mp pm_dok_162 (y - 332) (List.mem_range.mpr (by omega))
    rwa [show 332 + (y - 332) = y by omega] at this
  by_cases h163 : y < 335
  · have := List.all_eq_true.mp pm_dok_163 (y - 333) (List.mem_range.mpr (by omega))
    rwa [show 333 + (y - 333) = y by omega] at this
  by_cases h164 : y < 336
  · have := List.all_eq_true.mp pm_dok_164 (y - 335) (List.mem_range.mpr (by omega))
    rwa [show 335 + (y - 335) = y by omega] at this
  by_cases h165 : y < 339
  · have := List.all_eq_true.mp pm_dok_165 (y - 336) (List.mem_range.mpr (by omega))
    rwa [show 336 + (y - 336) = y by omega] at this
  by_cases h166 : y < 340
  · have := List.all_eq_true.mp pm_dok_166 (y - 339) (List.mem_range.mpr (by omega))
    rwa [show 339 + (y - 339) = y by omega] at this
  by_cases h167 : y < 342
  · have := List.all_eq_true.mp pm_dok_167 (y - 340) (List.mem_range.mpr (by omega))
    rwa [show 340 + (y - 340) = y by omega] at this
  by_cases h168 : y < 343
  · have := List.all_eq_true.mp pm_dok_168 (y - 342) (List.mem_range.mpr (by omega))
    rwa [show 342 + (y - 342) = y by omega] at this
  by_cases h169 : y < 345
  · have := List.all_eq_true.mp pm_dok_169 (y - 343) (List.mem_range.mpr (by omega))
    rwa [show 343 + (y - 343) = y by omega] at this
  by_cases h170 : y < 346
  · have := List.all_eq_true.mp pm_dok_170 (y - 345) (List.mem_range.mpr (by omega))
    rwa [show 345 + (y - 345) = y by omega] at this
  by_cases h171 : y < 347
  · have := List.all_eq_true.mp pm_dok_171 (y - 346) (List.mem_range.mpr (by omega))
    rwa [show 346 + (y - 346) = y by omega] at this
  by_cases h172 : y < 348
  · have := List.all_eq_true.mp pm_dok_172 (y - 347) (List.mem_range.mpr (by omega))
    rwa [show 347 + (y - 347) = y by omega] at this
  by_cases h173 : y < 349
  · have := List.all_eq_true.mp pm_dok_173 (y - 348) (List.mem_range.mpr (by omega))
    rwa [show 348 + (y - 348) = y by omega] at this
  by_cases h174 : y < 350
  · have := List.all_eq_true.mp pm_dok_174 (y - 349) (List.mem_range.mpr (by omega))
    rwa [show 349 + (y - 349) = y by omega] at this
  by_cases h175 : y < 352
  · have := List.all_eq_true.mp pm_dok_175 (y - 350) (List.mem_range.mpr (by omega))
    rwa [show 350 + (y - 350) = y by omega] at this
  by_cases h176 : y < 353
  · have := List.all_eq_true.mp pm_dok_176 (y - 352) (List.mem_range.mpr (by omega))
    rwa [show 352 + (y - 352) = y by omega] at this
  by_cases h177 : y < 355
  · have := List.all_eq_true.mp pm_dok_177 (y - 353) (List.mem_range.mpr (by omega))
    rwa [show 353 + (y - 353) = y by omega] at this
  by_cases h178 : y < 357
  · have := List.all_eq_true.mp pm_dok_178 (y - 355) (List.mem_range.mpr (by omega))
    rwa [show 355 + (y - 355) = y by omega] at this
  by_cases h179 : y < 361
  · have := List.all_eq_true.mp pm_dok_179 (y - 357) (List.mem_range.mpr (by omega))
    rwa [show 357 + (y - 357) = y by omega] at this
  by_cases h180 : y < 363
  · have := List.all_eq_true.mp pm_dok_180 (y - 361) (List.mem_range.mpr (by omega))
    rwa [show 361 + (y - 361) = y by omega] at this
  by_cases h181 : y < 365
  · have := List.all_eq_true.mp pm_dok_181 (y - 363) (List.mem_range.mpr (by omega))
    rwa [show 363 + (y - 363) = y by omega] at this
  by_cases h182 : y < 366
  · have := List.all_eq_true.mp pm_dok_182 (y - 365) (List.mem_range.mpr (by omega))
    rwa [show 365 + (y - 365) = y by omega] at this
  by_cases h183 : y < 367
  · have := List.all_eq_true.mp pm_dok_183 (y - 366) (List.mem_range.mpr (by omega))
    rwa [show 366 + (y - 366) = y by omega] at this
  by_cases h184 : y < 368
  · have := List.all_eq_true.mp pm_dok_184 (y - 367) (List.mem_range.mpr (by omega))
    rwa [show 367 + (y - 367) = y by omega] at this
  by_cases h185 : y < 369
  · have := List.all_eq_true.mp pm_dok_185 (y - 368) (List.mem_range.mpr (by omega))
    rwa [show 368 + (y - 368) = y by omega] at this
  by_cases h186 : y < 370
  · have := List.all_eq_true.mp pm_dok_186 (y - 369) (List.mem_range.mpr (by omega))
    rwa [show 369 + (y - 369) = y by omega] at this
  by_cases h187 : y < 371
  · have := List.all_eq_true.mp pm_dok_187 (y - 370) (List.mem_range.mpr (by omega))
    rwa [show 370 + (y - 370) = y by omega] at this
  by_cases h188 : y < 374
  · have := List.all_eq_true.mp pm_dok_188 (y - 371) (List.mem_range.mpr (by omega))
    rwa [show 371 + (y - 371) = y by omega] at this
  by_cases h189 : y < 379
  · have := List.all_eq_true.mp pm_dok_189 (y - 374) (List.mem_range.mpr (by omega))
    rwa [show 374 + (y - 374) = y by omega] at this
  by_cases h190 : y < 387
  · have := List.all_eq_true.mp pm_dok_190 (y - 379) (List.mem_range.mpr (by omega))
    rwa [show 379 + (y - 379) = y by omega] at this
  obtain rfl : y = 387 := by omega
  exact pm_dlaw
