/-! Links: fields, methods. (By program.) -/
theorem zh_0 : ∀ w ∈ u_ws zN0 zT0 13, w ∈ zT := fun w hw => List.mem_filter.mpr ⟨zi_0 w hw, zj_0 w hw⟩
theorem zh_1 : ∀ w ∈ u_ws zN1 zT1 3, w ∈ zT := fun w hw => List.mem_filter.mpr ⟨zi_1 w hw, zj_1 w hw⟩
theorem zh_2 : ∀ w ∈ u_ws zN2 zT2 2, w ∈ zT := fun w hw => List.mem_filter.mpr ⟨zi_2 w hw, zj_2 w hw⟩
theorem zh_3 : ∀ w ∈ u_ws zN3 zT3 4, w ∈ zT := fun w hw => List.mem_filter.mpr ⟨zi_3 w hw, zj_3 w hw⟩
theorem zh_4 : ∀ w ∈ u_ws zN4 zT4 3, w ∈ zT := fun w hw => List.mem_filter.mpr ⟨zi_4 w hw, zj_4 w hw⟩
theorem zh_5 : ∀ w ∈ u_ws zN5 zT5 3, w ∈ zT := fun w hw => List.mem_filter.mpr ⟨zi_5 w hw, zj_5 w hw⟩
theorem zh_6 : ∀ w ∈ u_ws zN6 zT6 7, w ∈ zT := fun w hw => List.mem_filter.mpr ⟨zi_6 w hw, zj_6 w hw⟩
theorem zh_7 : ∀ w ∈ u_ws zN7 zT7 4, w ∈ zT := fun w hw => List.mem_filter.mpr ⟨zi_7 w hw, zj_7 w hw⟩
theorem zh_8 : ∀ w ∈ u_ws zN8 zT8 7, w ∈ zT := fun w hw => List.mem_filter.mpr ⟨zi_8 w hw, zj_8 w hw⟩
theorem zh_9 : ∀ w ∈ u_ws zN9 zT9 2, w ∈ zT := fun w hw => List.mem_filter.mpr ⟨zi_9 w hw, zj_9 w hw⟩
theorem zh_10 : ∀ w ∈ u_ws zN10 zT10 8, w ∈ zT := fun w hw => List.mem_filter.mpr ⟨zi_10 w hw, zj_10 w hw⟩
theorem zh_11 : ∀ w ∈ u_ws zN11 zT11 10, w ∈ zT := fun w hw => List.mem_filter.mpr ⟨zi_11 w hw, zj_11 w hw⟩
theorem zh_12 : ∀ w ∈ u_ws zN12 zT12 57, w ∈ zT := fun w hw => List.mem_filter.mpr ⟨zi_12 w hw, zj_12 w hw⟩
theorem zFP_0_54 : zFP "SoapTreaty$Congress" 54 0 0 0 .int := ⟨zN0, zT0, 13, rfl, zh_0, by decide, rfl, rfl, zT_of 186 (by decide +kernel) (by decide +kernel), ⟨zF0, zf_0⟩, zn_0, rfl, by decide +kernel, rfl⟩
theorem zFP_0_57 : zFP "SoapTreaty$Congress" 57 0 4 0 .int := ⟨zN0, zT0, 13, rfl, zh_0, by decide, rfl, rfl, zT_of 196 (by decide +kernel) (by decide +kernel), ⟨zF0, zf_0⟩, zn_0, rfl, by decide +kernel, rfl⟩
theorem zFP_0_47 : zFP "SoapTreaty$Congress" 47 0 11 0 .int := ⟨zN0, zT0, 13, rfl, zh_0, by decide, rfl, rfl, zT_of 219 (by decide +kernel) (by decide +kernel), ⟨zF0, zf_0⟩, zn_0, rfl, by decide +kernel, rfl⟩
theorem zFL_0_43 : zFL "SoapTreaty$Congress" 43 0 12 2 1 none := ⟨zN0, zT0, 13, rfl, zh_0, by decide, rfl, rfl, zT_of 224 (by decide +kernel) (by decide +kernel)⟩
theorem zFL_0_54 : zFL "SoapTreaty$Congress" 54 0 0 0 0 none := ⟨zN0, zT0, 13, rfl, zh_0, by decide, rfl, rfl, zT_of 186 (by decide +kernel) (by decide +kernel)⟩
theorem zFL_0_11 : zFL "SoapTreaty$Congress" 11 0 1 2 13 none := ⟨zN0, zT0, 13, rfl, zh_0, by decide, rfl, rfl, zT_of 190 (by decide +kernel) (by decide +kernel)⟩
theorem zK_0_60 : zLk "SoapTreaty$Congress" 60 := ⟨zT_of 719 (by decide +kernel) (by decide +kernel), zT_of 721 (by decide +kernel) (by decide +kernel), zT_of 720 (by decide +kernel) (by decide +kernel), zT_of 119 (by decide +kernel) (by decide +kernel)⟩
theorem zFL_0_15 : zFL "SoapTreaty$Congress" 15 0 2 2 14 none := ⟨zN0, zT0, 13, rfl, zh_0, by decide, rfl, rfl, zT_of 192 (by decide +kernel) (by decide +kernel)⟩
theorem zFL_0_19 : zFL "SoapTreaty$Congress" 19 0 3 2 15 none := ⟨zN0, zT0, 13, rfl, zh_0, by decide, rfl, rfl, zT_of 194 (by decide +kernel) (by decide +kernel)⟩
theorem zFL_0_57 : zFL "SoapTreaty$Congress" 57 0 4 0 0 none := ⟨zN0, zT0, 13, rfl, zh_0, by decide, rfl, rfl, zT_of 196 (by decide +kernel) (by decide +kernel)⟩
theorem zFL_0_22 : zFL "SoapTreaty$Congress" 22 0 5 2 16 none := ⟨zN0, zT0, 13, rfl, zh_0, by decide, rfl, rfl, zT_of 200 (by decide +kernel) (by decide +kernel)⟩
theorem zFL_0_25 : zFL "SoapTreaty$Congress" 25 0 6 2 17 none := ⟨zN0, zT0, 13, rfl, zh_0, by decide, rfl, rfl, zT_of 202 (by decide +kernel) (by decide +kernel)⟩
theorem zFL_0_28 : zFL "SoapTreaty$Congress" 28 0 7 2 18 none := ⟨zN0, zT0, 13, rfl, zh_0, by decide, rfl, rfl, zT_of 206 (by decide +kernel) (by decide +kernel)⟩
theorem zFL_0_31 : zFL "SoapTreaty$Congress" 31 0 8 2 19 none := ⟨zN0, zT0, 13, rfl, zh_0, by decide, rfl, rfl, zT_of 209 (by decide +kernel) (by decide +kernel)⟩
theorem zFL_0_34 : zFL "SoapTreaty$Congress" 34 0 9 2 20 none := ⟨zN0, zT0, 13, rfl, zh_0, by decide, rfl, rfl, zT_of 212 (by decide +kernel) (by decide +kernel)⟩
theorem zFL_0_37 : zFL "SoapTreaty$Congress" 37 0 10 2 21 none := ⟨zN0, zT0, 13, rfl, zh_0, by decide, rfl, rfl, zT_of 215 (by decide +kernel) (by decide +kernel)⟩
theorem zFL_0_47 : zFL "SoapTreaty$Congress" 47 0 11 0 0 none := ⟨zN0, zT0, 13, rfl, zh_0, by decide, rfl, rfl, zT_of 219 (by decide +kernel) (by decide +kernel)⟩
theorem zKmin_0_88 : zLmin "SoapTreaty$Congress" 88 := ⟨zT_of 894 (by decide +kernel) (by decide +kernel), zT_of 858 (by decide +kernel) (by decide +kernel), zT_of 121 (by decide +kernel) (by decide +kernel), zT_of 859 (by decide +kernel) (by decide +kernel)⟩
theorem zKmax_0_94 : zLmax "SoapTreaty$Congress" 94 := ⟨zT_of 895 (by decide +kernel) (by decide +kernel), zT_of 896 (by decide +kernel) (by decide +kernel), zT_of 121 (by decide +kernel) (by decide +kernel), zT_of 897 (by decide +kernel) (by decide +kernel)⟩
theorem zFP_1_18 : zFP "SoapTreaty$Law" 18 1 2 0 .int := ⟨zN1, zT1, 3, rfl, zh_1, by decide, rfl, rfl, zT_of 164 (by decide +kernel) (by decide +kernel), ⟨zF1, zf_1⟩, zn_1, rfl, by decide +kernel, rfl⟩
theorem zFL_1_18 : zFL "SoapTreaty$Law" 18 1 2 0 0 none := ⟨zN1, zT1, 3, rfl, zh_1, by decide, rfl, rfl, zT_of 164 (by decide +kernel) (by decide +kernel)⟩
theorem zFL_1_9 : zFL "SoapTreaty$Law" 9 1 0 2 22 none := ⟨zN1, zT1, 3, rfl, zh_1, by decide, rfl, rfl, zT_of 162 (by decide +kernel) (by decide +kernel)⟩
theorem zK_1_29 : zLk "SoapTreaty$Law" 29 := ⟨zT_of 726 (by decide +kernel) (by decide +kernel), zT_of 721 (by decide +kernel) (by decide +kernel), zT_of 720 (by decide +kernel) (by decide +kernel), zT_of 119 (by decide +kernel) (by decide +kernel)⟩
theorem zFL_1_15 : zFL "SoapTreaty$Law" 15 1 1 2 23 none := ⟨zN1, zT1, 3, rfl, zh_1, by decide, rfl, rfl, zT_of 163 (by decide +kernel) (by decide +kernel)⟩
theorem zFL_2_7 : zFL "SoapTreaty$LawReader" 7 2 0 2 10 none := ⟨zN2, zT2, 2, rfl, zh_2, by decide, rfl, rfl, zT_of 381 (by decide +kernel) (by decide +kernel)⟩
theorem zFL_2_13 : zFL "SoapTreaty$LawReader" 13 2 1 2 1 (some 1) := ⟨zN2, zT2, 2, rfl, zh_2, by decide, rfl, rfl, zT_of 382 (by decide +kernel) (by decide +kernel)⟩
theorem zFL_2_62 : zFL "SoapTreaty$LawReader" 62 10 3 0 0 none := ⟨zN10, zT10, 8, rfl, zh_10, by decide, rfl, rfl, zT_of 349 (by decide +kernel) (by decide +kernel)⟩
theorem zFL_2_66 : zFL "SoapTreaty$LawReader" 66 10 5 0 0 none := ⟨zN10, zT10, 8, rfl, zh_10, by decide, rfl, rfl, zT_of 353 (by decide +kernel) (by decide +kernel)⟩
theorem zFL_3_19 : zFL "SoapTreaty$Lines" 19 3 0 0 0 none := ⟨zN3, zT3, 4, rfl, zh_3, by decide, rfl, rfl, zT_of 266 (by decide +kernel) (by decide +kernel)⟩
theorem zFL_3_9 : zFL "SoapTreaty$Lines" 9 3 1 2 24 none := ⟨zN3, zT3, 4, rfl, zh_3, by decide, rfl, rfl, zT_of 270 (by decide +kernel) (by decide +kernel)⟩
theorem zFL_3_13 : zFL "SoapTreaty$Lines" 13 3 2 2 25 none := ⟨zN3, zT3, 4, rfl, zh_3, by decide, rfl, rfl, zT_of 272 (by decide +kernel) (by decide +kernel)⟩
theorem zFL_3_16 : zFL "SoapTreaty$Lines" 16 3 3 2 26 none := ⟨zN3, zT3, 4, rfl, zh_3, by decide, rfl, rfl, zT_of 274 (by decide +kernel) (by decide +kernel)⟩
theorem zFP_3_19 : zFP "SoapTreaty$Lines" 19 3 0 0 .int := ⟨zN3, zT3, 4, rfl, zh_3, by decide, rfl, rfl, zT_of 266 (by decide +kernel) (by decide +kernel), ⟨zF3, zf_3⟩, zn_3, rfl, by decide +kernel, rfl⟩
theorem zK_3_23 : zLk "SoapTreaty$Lines" 23 := ⟨zT_of 756 (by decide +kernel) (by decide +kernel), zT_of 721 (by decide +kernel) (by decide +kernel), zT_of 720 (by decide +kernel) (by decide +kernel), zT_of 119 (by decide +kernel) (by decide +kernel)⟩
theorem zFL_4_12 : zFL "SoapTreaty$Page" 12 4 0 2 8 none := ⟨zN4, zT4, 3, rfl, zh_4, by decide, rfl, rfl, zT_of 477 (by decide +kernel) (by decide +kernel)⟩
theorem zFL_4_21 : zFL "SoapTreaty$Page" 21 4 1 2 3 none := ⟨zN4, zT4, 3, rfl, zh_4, by decide, rfl, rfl, zT_of 479 (by decide +kernel) (by decide +kernel)⟩
theorem zFP_4_35 : zFP "SoapTreaty$Page" 35 3 0 0 .int := ⟨zN3, zT3, 4, rfl, zh_3, by decide, rfl, rfl, zT_of 267 (by decide +kernel) (by decide +kernel), ⟨zF3, zf_3⟩, zn_3, rfl, by decide +kernel, rfl⟩
theorem zFL_4_28 : zFL "SoapTreaty$Page" 28 4 2 2 7 none := ⟨zN4, zT4, 3, rfl, zh_4, by decide, rfl, rfl, zT_of 481 (by decide +kernel) (by decide +kernel)⟩
theorem zFP_4_39 : zFP "SoapTreaty$Page" 39 7 0 0 .int := ⟨zN7, zT7, 4, rfl, zh_7, by decide, rfl, rfl, zT_of 460 (by decide +kernel) (by decide +kernel), ⟨zF7, zf_7⟩, zn_7, rfl, by decide +kernel, rfl⟩
theorem zFL_5_11 : zFL "SoapTreaty$Past" 11 5 0 2 27 none := ⟨zN5, zT5, 3, rfl, zh_5, by decide, rfl, rfl, zT_of 500 (by decide +kernel) (by decide +kernel)⟩
theorem zFL_5_18 : zFL "SoapTreaty$Past" 18 5 1 0 0 none := ⟨zN5, zT5, 3, rfl, zh_5, by decide, rfl, rfl, zT_of 501 (by decide +kernel) (by decide +kernel)⟩
theorem zFP_5_18 : zFP "SoapTreaty$Past" 18 5 1 0 .int := ⟨zN5, zT5, 3, rfl, zh_5, by decide, rfl, rfl, zT_of 501 (by decide +kernel) (by decide +kernel), ⟨zF5, zf_5⟩, zn_5, rfl, by decide +kernel, rfl⟩
theorem zFL_5_26 : zFL "SoapTreaty$Past" 26 5 2 0 0 none := ⟨zN5, zT5, 3, rfl, zh_5, by decide, rfl, rfl, zT_of 502 (by decide +kernel) (by decide +kernel)⟩
theorem zKmin_5_29 : zLmin "SoapTreaty$Past" 29 := ⟨zT_of 857 (by decide +kernel) (by decide +kernel), zT_of 858 (by decide +kernel) (by decide +kernel), zT_of 121 (by decide +kernel) (by decide +kernel), zT_of 859 (by decide +kernel) (by decide +kernel)⟩
theorem zFP_5_26 : zFP "SoapTreaty$Past" 26 5 2 0 .int := ⟨zN5, zT5, 3, rfl, zh_5, by decide, rfl, rfl, zT_of 502 (by decide +kernel) (by decide +kernel), ⟨zF5, zf_5⟩, zn_5, rfl, by decide +kernel, rfl⟩
theorem zFL_6_18 : zFL "SoapTreaty$Reader" 18 6 0 2 0 (some 1) := ⟨zN6, zT6, 7, rfl, zh_6, by decide, rfl, rfl, zT_of 388 (by decide +kernel) (by decide +kernel)⟩
theorem zFP_6_53 : zFP "SoapTreaty$Reader" 53 6 5 3 .boolean := ⟨zN6, zT6, 7, rfl, zh_6, by decide, rfl, rfl, zT_of 395 (by decide +kernel) (by decide +kernel), ⟨zF6, zf_6⟩, zn_6, rfl, by decide +kernel, rfl⟩
theorem zFP_6_57 : zFP "SoapTreaty$Reader" 57 6 6 3 .boolean := ⟨zN6, zT6, 7, rfl, zh_6, by decide, rfl, rfl, zT_of 396 (by decide +kernel) (by decide +kernel), ⟨zF6, zf_6⟩, zn_6, rfl, by decide +kernel, rfl⟩
theorem zFL_6_33 : zFL "SoapTreaty$Reader" 33 6 3 2 10 none := ⟨zN6, zT6, 7, rfl, zh_6, by decide, rfl, rfl, zT_of 393 (by decide +kernel) (by decide +kernel)⟩
theorem zFL_6_69 : zFL "SoapTreaty$Reader" 69 10 3 0 0 none := ⟨zN10, zT10, 8, rfl, zh_10, by decide, rfl, rfl, zT_of 347 (by decide +kernel) (by decide +kernel)⟩
theorem zFL_6_73 : zFL "SoapTreaty$Reader" 73 10 5 0 0 none := ⟨zN10, zT10, 8, rfl, zh_10, by decide, rfl, rfl, zT_of 351 (by decide +kernel) (by decide +kernel)⟩
theorem zFL_6_98 : zFL "SoapTreaty$Reader" 98 10 7 0 0 none := ⟨zN10, zT10, 8, rfl, zh_10, by decide, rfl, rfl, zT_of 356 (by decide +kernel) (by decide +kernel)⟩
theorem zFL_6_101 : zFL "SoapTreaty$Reader" 101 0 0 0 0 none := ⟨zN0, zT0, 13, rfl, zh_0, by decide, rfl, rfl, zT_of 187 (by decide +kernel) (by decide +kernel)⟩
theorem zFL_6_107 : zFL "SoapTreaty$Reader" 107 0 1 2 13 none := ⟨zN0, zT0, 13, rfl, zh_0, by decide, rfl, rfl, zT_of 191 (by decide +kernel) (by decide +kernel)⟩
theorem zFL_6_115 : zFL "SoapTreaty$Reader" 115 0 2 2 14 none := ⟨zN0, zT0, 13, rfl, zh_0, by decide, rfl, rfl, zT_of 193 (by decide +kernel) (by decide +kernel)⟩
theorem zFL_6_125 : zFL "SoapTreaty$Reader" 125 0 3 2 15 none := ⟨zN0, zT0, 13, rfl, zh_0, by decide, rfl, rfl, zT_of 195 (by decide +kernel) (by decide +kernel)⟩
theorem zFP_6_101 : zFP "SoapTreaty$Reader" 101 0 0 0 .int := ⟨zN0, zT0, 13, rfl, zh_0, by decide, rfl, rfl, zT_of 187 (by decide +kernel) (by decide +kernel), ⟨zF0, zf_0⟩, zn_0, rfl, by decide +kernel, rfl⟩
theorem zFL_6_132 : zFL "SoapTreaty$Reader" 132 0 4 0 0 none := ⟨zN0, zT0, 13, rfl, zh_0, by decide, rfl, rfl, zT_of 197 (by decide +kernel) (by decide +kernel)⟩
theorem zFL_6_135 : zFL "SoapTreaty$Reader" 135 0 5 2 16 none := ⟨zN0, zT0, 13, rfl, zh_0, by decide, rfl, rfl, zT_of 201 (by decide +kernel) (by decide +kernel)⟩
theorem zFL_6_138 : zFL "SoapTreaty$Reader" 138 0 6 2 17 none := ⟨zN0, zT0, 13, rfl, zh_0, by decide, rfl, rfl, zT_of 203 (by decide +kernel) (by decide +kernel)⟩
theorem zFL_6_145 : zFL "SoapTreaty$Reader" 145 0 7 2 18 none := ⟨zN0, zT0, 13, rfl, zh_0, by decide, rfl, rfl, zT_of 208 (by decide +kernel) (by decide +kernel)⟩
theorem zFL_6_148 : zFL "SoapTreaty$Reader" 148 0 8 2 19 none := ⟨zN0, zT0, 13, rfl, zh_0, by decide, rfl, rfl, zT_of 211 (by decide +kernel) (by decide +kernel)⟩
theorem zFL_6_151 : zFL "SoapTreaty$Reader" 151 0 9 2 20 none := ⟨zN0, zT0, 13, rfl, zh_0, by decide, rfl, rfl, zT_of 213 (by decide +kernel) (by decide +kernel)⟩
theorem zFL_6_154 : zFL "SoapTreaty$Reader" 154 0 10 2 21 none := ⟨zN0, zT0, 13, rfl, zh_0, by decide, rfl, rfl, zT_of 216 (by decide +kernel) (by decide +kernel)⟩
theorem zFP_6_132 : zFP "SoapTreaty$Reader" 132 0 4 0 .int := ⟨zN0, zT0, 13, rfl, zh_0, by decide, rfl, rfl, zT_of 197 (by decide +kernel) (by decide +kernel), ⟨zF0, zf_0⟩, zn_0, rfl, by decide +kernel, rfl⟩
theorem zFL_6_53 : zFL "SoapTreaty$Reader" 53 6 5 3 0 none := ⟨zN6, zT6, 7, rfl, zh_6, by decide, rfl, rfl, zT_of 395 (by decide +kernel) (by decide +kernel)⟩
theorem zFP_6_165 : zFP "SoapTreaty$Reader" 165 0 11 0 .int := ⟨zN0, zT0, 13, rfl, zh_0, by decide, rfl, rfl, zT_of 220 (by decide +kernel) (by decide +kernel), ⟨zF0, zf_0⟩, zn_0, rfl, by decide +kernel, rfl⟩
theorem zFL_6_57 : zFL "SoapTreaty$Reader" 57 6 6 3 0 none := ⟨zN6, zT6, 7, rfl, zh_6, by decide, rfl, rfl, zT_of 396 (by decide +kernel) (by decide +kernel)⟩
theorem zFL_6_39 : zFL "SoapTreaty$Reader" 39 0 12 2 1 none := ⟨zN0, zT0, 13, rfl, zh_0, by decide, rfl, rfl, zT_of 223 (by decide +kernel) (by decide +kernel)⟩
theorem zFL_6_46 : zFL "SoapTreaty$Reader" 46 6 4 2 2 none := ⟨zN6, zT6, 7, rfl, zh_6, by decide, rfl, rfl, zT_of 394 (by decide +kernel) (by decide +kernel)⟩
theorem zFL_6_24 : zFL "SoapTreaty$Reader" 24 6 1 2 3 (some 5) := ⟨zN6, zT6, 7, rfl, zh_6, by decide, rfl, rfl, zT_of 390 (by decide +kernel) (by decide +kernel)⟩
theorem zFP_6_174 : zFP "SoapTreaty$Reader" 174 3 0 0 .int := ⟨zN3, zT3, 4, rfl, zh_3, by decide, rfl, rfl, zT_of 268 (by decide +kernel) (by decide +kernel), ⟨zF3, zf_3⟩, zn_3, rfl, by decide +kernel, rfl⟩
theorem zFL_6_9 : zFL "SoapTreaty$Reader" 9 6 2 2 0 (some 0) := ⟨zN6, zT6, 7, rfl, zh_6, by decide, rfl, rfl, zT_of 392 (by decide +kernel) (by decide +kernel)⟩
theorem zFL_6_174 : zFL "SoapTreaty$Reader" 174 3 0 0 0 none := ⟨zN3, zT3, 4, rfl, zh_3, by decide, rfl, rfl, zT_of 268 (by decide +kernel) (by decide +kernel)⟩
theorem zFL_6_186 : zFL "SoapTreaty$Reader" 186 10 6 1 0 none := ⟨zN10, zT10, 8, rfl, zh_10, by decide, rfl, rfl, zT_of 355 (by decide +kernel) (by decide +kernel)⟩
theorem zFL_7_19 : zFL "SoapTreaty$Seen" 19 7 0 0 0 none := ⟨zN7, zT7, 4, rfl, zh_7, by decide, rfl, rfl, zT_of 459 (by decide +kernel) (by decide +kernel)⟩
theorem zFL_7_9 : zFL "SoapTreaty$Seen" 9 7 1 2 28 none := ⟨zN7, zT7, 4, rfl, zh_7, by decide, rfl, rfl, zT_of 462 (by decide +kernel) (by decide +kernel)⟩
theorem zFL_7_13 : zFL "SoapTreaty$Seen" 13 7 2 2 29 none := ⟨zN7, zT7, 4, rfl, zh_7, by decide, rfl, rfl, zT_of 464 (by decide +kernel) (by decide +kernel)⟩
theorem zFL_7_16 : zFL "SoapTreaty$Seen" 16 7 3 2 30 none := ⟨zN7, zT7, 4, rfl, zh_7, by decide, rfl, rfl, zT_of 466 (by decide +kernel) (by decide +kernel)⟩
theorem zFP_7_19 : zFP "SoapTreaty$Seen" 19 7 0 0 .int := ⟨zN7, zT7, 4, rfl, zh_7, by decide, rfl, rfl, zT_of 459 (by decide +kernel) (by decide +kernel), ⟨zF7, zf_7⟩, zn_7, rfl, by decide +kernel, rfl⟩
theorem zK_7_23 : zLk "SoapTreaty$Seen" 23 := ⟨zT_of 1098 (by decide +kernel) (by decide +kernel), zT_of 721 (by decide +kernel) (by decide +kernel), zT_of 720 (by decide +kernel) (by decide +kernel), zT_of 119 (by decide +kernel) (by decide +kernel)⟩
theorem zFL_8_23 : zFL "SoapTreaty$State" 23 8 0 2 0 (some 0) := ⟨zN8, zT8, 7, rfl, zh_8, by decide, rfl, rfl, zT_of 424 (by decide +kernel) (by decide +kernel)⟩
theorem zFL_8_27 : zFL "SoapTreaty$State" 27 0 7 2 18 none := ⟨zN0, zT0, 13, rfl, zh_0, by decide, rfl, rfl, zT_of 207 (by decide +kernel) (by decide +kernel)⟩
theorem zFL_8_11 : zFL "SoapTreaty$State" 11 8 1 2 31 none := ⟨zN8, zT8, 7, rfl, zh_8, by decide, rfl, rfl, zT_of 425 (by decide +kernel) (by decide +kernel)⟩
theorem zK_8_30 : zLk "SoapTreaty$State" 30 := ⟨zT_of 735 (by decide +kernel) (by decide +kernel), zT_of 721 (by decide +kernel) (by decide +kernel), zT_of 720 (by decide +kernel) (by decide +kernel), zT_of 119 (by decide +kernel) (by decide +kernel)⟩
theorem zFL_8_36 : zFL "SoapTreaty$State" 36 0 8 2 19 none := ⟨zN0, zT0, 13, rfl, zh_0, by decide, rfl, rfl, zT_of 210 (by decide +kernel) (by decide +kernel)⟩
theorem zFL_8_17 : zFL "SoapTreaty$State" 17 8 2 2 32 none := ⟨zN8, zT8, 7, rfl, zh_8, by decide, rfl, rfl, zT_of 427 (by decide +kernel) (by decide +kernel)⟩
theorem zFL_8_20 : zFL "SoapTreaty$State" 20 8 3 2 33 none := ⟨zN8, zT8, 7, rfl, zh_8, by decide, rfl, rfl, zT_of 429 (by decide +kernel) (by decide +kernel)⟩
theorem zFP_8_37 : zFP "SoapTreaty$State" 37 8 4 0 .int := ⟨zN8, zT8, 7, rfl, zh_8, by decide, rfl, rfl, zT_of 431 (by decide +kernel) (by decide +kernel), ⟨zF8, zf_8⟩, zn_8, rfl, by decide +kernel, rfl⟩
theorem zFP_8_41 : zFP "SoapTreaty$State" 41 8 5 0 .int := ⟨zN8, zT8, 7, rfl, zh_8, by decide, rfl, rfl, zT_of 432 (by decide +kernel) (by decide +kernel), ⟨zF8, zf_8⟩, zn_8, rfl, by decide +kernel, rfl⟩
theorem zFP_8_44 : zFP "SoapTreaty$State" 44 8 6 0 .int := ⟨zN8, zT8, 7, rfl, zh_8, by decide, rfl, rfl, zT_of 434 (by decide +kernel) (by decide +kernel), ⟨zF8, zf_8⟩, zn_8, rfl, by decide +kernel, rfl⟩
theorem zFL_8_37 : zFL "SoapTreaty$State" 37 8 4 0 0 none := ⟨zN8, zT8, 7, rfl, zh_8, by decide, rfl, rfl, zT_of 431 (by decide +kernel) (by decide +kernel)⟩
theorem zFL_8_41 : zFL "SoapTreaty$State" 41 8 5 0 0 none := ⟨zN8, zT8, 7, rfl, zh_8, by decide, rfl, rfl, zT_of 432 (by decide +kernel) (by decide +kernel)⟩
theorem zFL_8_44 : zFL "SoapTreaty$State" 44 8 6 0 0 none := ⟨zN8, zT8, 7, rfl, zh_8, by decide, rfl, rfl, zT_of 434 (by decide +kernel) (by decide +kernel)⟩
theorem zFL_8_51 : zFL "SoapTreaty$State" 51 0 10 2 21 none := ⟨zN0, zT0, 13, rfl, zh_0, by decide, rfl, rfl, zT_of 217 (by decide +kernel) (by decide +kernel)⟩
theorem zFL_8_54 : zFL "SoapTreaty$State" 54 0 4 0 0 none := ⟨zN0, zT0, 13, rfl, zh_0, by decide, rfl, rfl, zT_of 198 (by decide +kernel) (by decide +kernel)⟩
theorem zFL_8_92 : zFL "SoapTreaty$State" 92 0 11 0 0 none := ⟨zN0, zT0, 13, rfl, zh_0, by decide, rfl, rfl, zT_of 221 (by decide +kernel) (by decide +kernel)⟩
theorem zFL_8_95 : zFL "SoapTreaty$State" 95 0 6 2 17 none := ⟨zN0, zT0, 13, rfl, zh_0, by decide, rfl, rfl, zT_of 205 (by decide +kernel) (by decide +kernel)⟩
theorem zFL_8_109 : zFL "SoapTreaty$State" 109 0 0 0 0 none := ⟨zN0, zT0, 13, rfl, zh_0, by decide, rfl, rfl, zT_of 189 (by decide +kernel) (by decide +kernel)⟩
theorem zFL_9_15 : zFL "SoapTreaty$Tape" 15 9 1 0 0 none := ⟨zN9, zT9, 2, rfl, zh_9, by decide, rfl, rfl, zT_of 142 (by decide +kernel) (by decide +kernel)⟩
theorem zFL_9_9 : zFL "SoapTreaty$Tape" 9 9 0 2 34 none := ⟨zN9, zT9, 2, rfl, zh_9, by decide, rfl, rfl, zT_of 140 (by decide +kernel) (by decide +kernel)⟩
theorem zFP_9_15 : zFP "SoapTreaty$Tape" 15 9 1 0 .int := ⟨zN9, zT9, 2, rfl, zh_9, by decide, rfl, rfl, zT_of 142 (by decide +kernel) (by decide +kernel), ⟨zF9, zf_9⟩, zn_9, rfl, by decide +kernel, rfl⟩
theorem zFP_10_37 : zFP "SoapTreaty$Tokens" 37 10 2 0 .int := ⟨zN10, zT10, 8, rfl, zh_10, by decide, rfl, rfl, zT_of 346 (by decide +kernel) (by decide +kernel), ⟨zF10, zf_10⟩, zn_10, rfl, by decide +kernel, rfl⟩
theorem zFP_10_41 : zFP "SoapTreaty$Tokens" 41 10 7 0 .int := ⟨zN10, zT10, 8, rfl, zh_10, by decide, rfl, rfl, zT_of 357 (by decide +kernel) (by decide +kernel), ⟨zF10, zf_10⟩, zn_10, rfl, by decide +kernel, rfl⟩
theorem zFL_10_41 : zFL "SoapTreaty$Tokens" 41 10 7 0 0 none := ⟨zN10, zT10, 8, rfl, zh_10, by decide, rfl, rfl, zT_of 357 (by decide +kernel) (by decide +kernel)⟩
theorem zFL_10_37 : zFL "SoapTreaty$Tokens" 37 10 2 0 0 none := ⟨zN10, zT10, 8, rfl, zh_10, by decide, rfl, rfl, zT_of 346 (by decide +kernel) (by decide +kernel)⟩
theorem zFL_10_15 : zFL "SoapTreaty$Tokens" 15 10 0 2 9 none := ⟨zN10, zT10, 8, rfl, zh_10, by decide, rfl, rfl, zT_of 344 (by decide +kernel) (by decide +kernel)⟩
theorem zFL_10_47 : zFL "SoapTreaty$Tokens" 47 9 1 0 0 none := ⟨zN9, zT9, 2, rfl, zh_9, by decide, rfl, rfl, zT_of 143 (by decide +kernel) (by decide +kernel)⟩
theorem zFP_10_59 : zFP "SoapTreaty$Tokens" 59 10 4 0 .int := ⟨zN10, zT10, 8, rfl, zh_10, by decide, rfl, rfl, zT_of 350 (by decide +kernel) (by decide +kernel), ⟨zF10, zf_10⟩, zn_10, rfl, by decide +kernel, rfl⟩
theorem zFP_10_62 : zFP "SoapTreaty$Tokens" 62 10 3 0 .int := ⟨zN10, zT10, 8, rfl, zh_10, by decide, rfl, rfl, zT_of 348 (by decide +kernel) (by decide +kernel), ⟨zF10, zf_10⟩, zn_10, rfl, by decide +kernel, rfl⟩
theorem zFP_10_80 : zFP "SoapTreaty$Tokens" 80 10 5 0 .int := ⟨zN10, zT10, 8, rfl, zh_10, by decide, rfl, rfl, zT_of 352 (by decide +kernel) (by decide +kernel), ⟨zF10, zf_10⟩, zn_10, rfl, by decide +kernel, rfl⟩
theorem zFP_10_83 : zFP "SoapTreaty$Tokens" 83 10 6 1 .long := ⟨zN10, zT10, 8, rfl, zh_10, by decide, rfl, rfl, zT_of 354 (by decide +kernel) (by decide +kernel), ⟨zF10, zf_10⟩, zn_10, rfl, by decide +kernel, rfl⟩
theorem zFL_10_83 : zFL "SoapTreaty$Tokens" 83 10 6 1 0 none := ⟨zN10, zT10, 8, rfl, zh_10, by decide, rfl, rfl, zT_of 354 (by decide +kernel) (by decide +kernel)⟩
theorem zFL_10_59 : zFL "SoapTreaty$Tokens" 59 10 4 0 0 none := ⟨zN10, zT10, 8, rfl, zh_10, by decide, rfl, rfl, zT_of 350 (by decide +kernel) (by decide +kernel)⟩
theorem zFL_10_11 : zFL "SoapTreaty$Tokens" 11 10 1 2 35 none := ⟨zN10, zT10, 8, rfl, zh_10, by decide, rfl, rfl, zT_of 345 (by decide +kernel) (by decide +kernel)⟩
theorem zFL_10_80 : zFL "SoapTreaty$Tokens" 80 10 5 0 0 none := ⟨zN10, zT10, 8, rfl, zh_10, by decide, rfl, rfl, zT_of 352 (by decide +kernel) (by decide +kernel)⟩
theorem zFL_10_62 : zFL "SoapTreaty$Tokens" 62 10 3 0 0 none := ⟨zN10, zT10, 8, rfl, zh_10, by decide, rfl, rfl, zT_of 348 (by decide +kernel) (by decide +kernel)⟩
theorem zFL_11_10 : zFL "SoapTreaty" 10 11 0 2 9 none := ⟨zN11, zT11, 10, rfl, zh_11, by decide, rfl, rfl, zT_of 513 (by decide +kernel) (by decide +kernel)⟩
theorem zFL_11_77 : zFL "SoapTreaty" 77 9 1 0 0 none := ⟨zN9, zT9, 2, rfl, zh_9, by decide, rfl, rfl, zT_of 141 (by decide +kernel) (by decide +kernel)⟩
theorem zFL_11_28 : zFL "SoapTreaty" 28 11 2 2 6 none := ⟨zN11, zT11, 10, rfl, zh_11, by decide, rfl, rfl, zT_of 515 (by decide +kernel) (by decide +kernel)⟩
theorem zFP_11_77 : zFP "SoapTreaty" 77 9 1 0 .int := ⟨zN9, zT9, 2, rfl, zh_9, by decide, rfl, rfl, zT_of 141 (by decide +kernel) (by decide +kernel), ⟨zF9, zf_9⟩, zn_9, rfl, by decide +kernel, rfl⟩
theorem zFL_11_19 : zFL "SoapTreaty" 19 11 1 2 0 (some 0) := ⟨zN11, zT11, 10, rfl, zh_11, by decide, rfl, rfl, zT_of 514 (by decide +kernel) (by decide +kernel)⟩
theorem zFL_11_84 : zFL "SoapTreaty" 84 6 0 2 0 (some 1) := ⟨zN6, zT6, 7, rfl, zh_6, by decide, rfl, rfl, zT_of 389 (by decide +kernel) (by decide +kernel)⟩
theorem zFL_11_37 : zFL "SoapTreaty" 37 11 3 2 4 (some 0) := ⟨zN11, zT11, 10, rfl, zh_11, by decide, rfl, rfl, zT_of 516 (by decide +kernel) (by decide +kernel)⟩
theorem zFL_11_48 : zFL "SoapTreaty" 48 11 5 2 5 none := ⟨zN11, zT11, 10, rfl, zh_11, by decide, rfl, rfl, zT_of 518 (by decide +kernel) (by decide +kernel)⟩
theorem zFP_11_93 : zFP "SoapTreaty" 93 5 2 0 .int := ⟨zN5, zT5, 3, rfl, zh_5, by decide, rfl, rfl, zT_of 503 (by decide +kernel) (by decide +kernel), ⟨zF5, zf_5⟩, zn_5, rfl, by decide +kernel, rfl⟩
theorem zFP_11_65 : zFP "SoapTreaty" 65 11 8 0 .int := ⟨zN11, zT11, 10, rfl, zh_11, by decide, rfl, rfl, zT_of 521 (by decide +kernel) (by decide +kernel), ⟨zF11, zf_11⟩, zn_11, rfl, by decide +kernel, rfl⟩
theorem zFL_11_99 : zFL "SoapTreaty" 99 4 1 2 3 none := ⟨zN4, zT4, 3, rfl, zh_4, by decide, rfl, rfl, zT_of 480 (by decide +kernel) (by decide +kernel)⟩
theorem zFL_11_103 : zFL "SoapTreaty" 103 6 1 2 3 (some 5) := ⟨zN6, zT6, 7, rfl, zh_6, by decide, rfl, rfl, zT_of 391 (by decide +kernel) (by decide +kernel)⟩
theorem zFL_11_115 : zFL "SoapTreaty" 115 4 0 2 8 none := ⟨zN4, zT4, 3, rfl, zh_4, by decide, rfl, rfl, zT_of 478 (by decide +kernel) (by decide +kernel)⟩
theorem zFL_11_166 : zFL "SoapTreaty" 166 0 9 2 20 none := ⟨zN0, zT0, 13, rfl, zh_0, by decide, rfl, rfl, zT_of 214 (by decide +kernel) (by decide +kernel)⟩
theorem zFL_11_160 : zFL "SoapTreaty" 160 0 10 2 21 none := ⟨zN0, zT0, 13, rfl, zh_0, by decide, rfl, rfl, zT_of 218 (by decide +kernel) (by decide +kernel)⟩
theorem zFL_11_154 : zFL "SoapTreaty" 154 8 3 2 33 none := ⟨zN8, zT8, 7, rfl, zh_8, by decide, rfl, rfl, zT_of 430 (by decide +kernel) (by decide +kernel)⟩
theorem zFL_11_151 : zFL "SoapTreaty" 151 8 2 2 32 none := ⟨zN8, zT8, 7, rfl, zh_8, by decide, rfl, rfl, zT_of 428 (by decide +kernel) (by decide +kernel)⟩
theorem zFL_11_148 : zFL "SoapTreaty" 148 8 1 2 31 none := ⟨zN8, zT8, 7, rfl, zh_8, by decide, rfl, rfl, zT_of 426 (by decide +kernel) (by decide +kernel)⟩
theorem zFL_11_145 : zFL "SoapTreaty" 145 0 6 2 17 none := ⟨zN0, zT0, 13, rfl, zh_0, by decide, rfl, rfl, zT_of 204 (by decide +kernel) (by decide +kernel)⟩
theorem zFL_11_173 : zFL "SoapTreaty" 173 8 5 0 0 none := ⟨zN8, zT8, 7, rfl, zh_8, by decide, rfl, rfl, zT_of 433 (by decide +kernel) (by decide +kernel)⟩
theorem zFL_11_55 : zFL "SoapTreaty" 55 11 6 2 8 (some 21) := ⟨zN11, zT11, 10, rfl, zh_11, by decide, rfl, rfl, zT_of 519 (by decide +kernel) (by decide +kernel)⟩
theorem zFL_11_184 : zFL "SoapTreaty" 184 3 0 0 0 none := ⟨zN3, zT3, 4, rfl, zh_3, by decide, rfl, rfl, zT_of 269 (by decide +kernel) (by decide +kernel)⟩
theorem zFL_11_187 : zFL "SoapTreaty" 187 3 1 2 24 none := ⟨zN3, zT3, 4, rfl, zh_3, by decide, rfl, rfl, zT_of 271 (by decide +kernel) (by decide +kernel)⟩
theorem zFL_11_190 : zFL "SoapTreaty" 190 3 2 2 25 none := ⟨zN3, zT3, 4, rfl, zh_3, by decide, rfl, rfl, zT_of 273 (by decide +kernel) (by decide +kernel)⟩
theorem zFL_11_193 : zFL "SoapTreaty" 193 3 3 2 26 none := ⟨zN3, zT3, 4, rfl, zh_3, by decide, rfl, rfl, zT_of 275 (by decide +kernel) (by decide +kernel)⟩
theorem zFL_11_214 : zFL "SoapTreaty" 214 0 4 0 0 none := ⟨zN0, zT0, 13, rfl, zh_0, by decide, rfl, rfl, zT_of 199 (by decide +kernel) (by decide +kernel)⟩
theorem zFL_11_220 : zFL "SoapTreaty" 220 0 0 0 0 none := ⟨zN0, zT0, 13, rfl, zh_0, by decide, rfl, rfl, zT_of 188 (by decide +kernel) (by decide +kernel)⟩
theorem zFL_11_238 : zFL "SoapTreaty" 238 4 2 2 7 none := ⟨zN4, zT4, 3, rfl, zh_4, by decide, rfl, rfl, zT_of 482 (by decide +kernel) (by decide +kernel)⟩
theorem zKmax_11_255 : zLmax "SoapTreaty" 255 := ⟨zT_of 1056 (by decide +kernel) (by decide +kernel), zT_of 896 (by decide +kernel) (by decide +kernel), zT_of 121 (by decide +kernel) (by decide +kernel), zT_of 897 (by decide +kernel) (by decide +kernel)⟩
theorem zFP_11_69 : zFP "SoapTreaty" 69 11 9 1 .long := ⟨zN11, zT11, 10, rfl, zh_11, by decide, rfl, rfl, zT_of 522 (by decide +kernel) (by decide +kernel), ⟨zF11, zf_11⟩, zn_11, rfl, by decide +kernel, rfl⟩
theorem zFL_11_41 : zFL "SoapTreaty" 41 11 4 2 36 none := ⟨zN11, zT11, 10, rfl, zh_11, by decide, rfl, rfl, zT_of 517 (by decide +kernel) (by decide +kernel)⟩
theorem zFL_11_65 : zFL "SoapTreaty" 65 11 8 0 0 none := ⟨zN11, zT11, 10, rfl, zh_11, by decide, rfl, rfl, zT_of 521 (by decide +kernel) (by decide +kernel)⟩
theorem zFL_11_93 : zFL "SoapTreaty" 93 5 2 0 0 none := ⟨zN5, zT5, 3, rfl, zh_5, by decide, rfl, rfl, zT_of 503 (by decide +kernel) (by decide +kernel)⟩
theorem zFL_11_297 : zFL "SoapTreaty" 297 7 0 0 0 none := ⟨zN7, zT7, 4, rfl, zh_7, by decide, rfl, rfl, zT_of 461 (by decide +kernel) (by decide +kernel)⟩
theorem zFL_11_291 : zFL "SoapTreaty" 291 8 6 0 0 none := ⟨zN8, zT8, 7, rfl, zh_8, by decide, rfl, rfl, zT_of 435 (by decide +kernel) (by decide +kernel)⟩
theorem zFL_11_288 : zFL "SoapTreaty" 288 0 11 0 0 none := ⟨zN0, zT0, 13, rfl, zh_0, by decide, rfl, rfl, zT_of 222 (by decide +kernel) (by decide +kernel)⟩
theorem zFL_11_61 : zFL "SoapTreaty" 61 11 7 2 37 none := ⟨zN11, zT11, 10, rfl, zh_11, by decide, rfl, rfl, zT_of 520 (by decide +kernel) (by decide +kernel)⟩
theorem zFL_11_304 : zFL "SoapTreaty" 304 7 2 2 29 none := ⟨zN7, zT7, 4, rfl, zh_7, by decide, rfl, rfl, zT_of 465 (by decide +kernel) (by decide +kernel)⟩
theorem zFL_11_307 : zFL "SoapTreaty" 307 7 1 2 28 none := ⟨zN7, zT7, 4, rfl, zh_7, by decide, rfl, rfl, zT_of 463 (by decide +kernel) (by decide +kernel)⟩
theorem zFL_11_314 : zFL "SoapTreaty" 314 7 3 2 30 none := ⟨zN7, zT7, 4, rfl, zh_7, by decide, rfl, rfl, zT_of 467 (by decide +kernel) (by decide +kernel)⟩
theorem zFL_11_69 : zFL "SoapTreaty" 69 11 9 1 0 none := ⟨zN11, zT11, 10, rfl, zh_11, by decide, rfl, rfl, zT_of 522 (by decide +kernel) (by decide +kernel)⟩
theorem zFL_12_139 : zFL "SoapTreatyModel" 139 12 0 0 0 none := ⟨zN12, zT12, 57, rfl, zh_12, by decide, rfl, rfl, zT_of 1195 (by decide +kernel) (by decide +kernel)⟩
theorem zFP_12_139 : zFP "SoapTreatyModel" 139 12 0 0 .int := ⟨zN12, zT12, 57, rfl, zh_12, by decide, rfl, rfl, zT_of 1195 (by decide +kernel) (by decide +kernel), ⟨zF12, zf_12⟩, zn_12, rfl, by decide +kernel, rfl⟩
theorem zFL_12_145 : zFL "SoapTreatyModel" 145 12 1 0 0 none := ⟨zN12, zT12, 57, rfl, zh_12, by decide, rfl, rfl, zT_of 1196 (by decide +kernel) (by decide +kernel)⟩
theorem zFL_12_7 : zFL "SoapTreatyModel" 7 12 2 2 38 none := ⟨zN12, zT12, 57, rfl, zh_12, by decide, rfl, rfl, zT_of 1197 (by decide +kernel) (by decide +kernel)⟩
theorem zFP_12_145 : zFP "SoapTreatyModel" 145 12 1 0 .int := ⟨zN12, zT12, 57, rfl, zh_12, by decide, rfl, rfl, zT_of 1196 (by decide +kernel) (by decide +kernel), ⟨zF12, zf_12⟩, zn_12, rfl, by decide +kernel, rfl⟩
theorem zFL_12_148 : zFL "SoapTreatyModel" 148 12 3 0 0 none := ⟨zN12, zT12, 57, rfl, zh_12, by decide, rfl, rfl, zT_of 1198 (by decide +kernel) (by decide +kernel)⟩
theorem zFL_12_151 : zFL "SoapTreatyModel" 151 12 4 0 0 none := ⟨zN12, zT12, 57, rfl, zh_12, by decide, rfl, rfl, zT_of 1199 (by decide +kernel) (by decide +kernel)⟩
theorem zFP_12_151 : zFP "SoapTreatyModel" 151 12 4 0 .int := ⟨zN12, zT12, 57, rfl, zh_12, by decide, rfl, rfl, zT_of 1199 (by decide +kernel) (by decide +kernel), ⟨zF12, zf_12⟩, zn_12, rfl, by decide +kernel, rfl⟩
theorem zFP_12_154 : zFP "SoapTreatyModel" 154 12 5 0 .int := ⟨zN12, zT12, 57, rfl, zh_12, by decide, rfl, rfl, zT_of 1200 (by decide +kernel) (by decide +kernel), ⟨zF12, zf_12⟩, zn_12, rfl, by decide +kernel, rfl⟩
theorem zFP_12_157 : zFP "SoapTreatyModel" 157 12 7 1 .long := ⟨zN12, zT12, 57, rfl, zh_12, by decide, rfl, rfl, zT_of 1202 (by decide +kernel) (by decide +kernel), ⟨zF12, zf_12⟩, zn_12, rfl, by decide +kernel, rfl⟩
theorem zFP_12_161 : zFP "SoapTreatyModel" 161 12 8 0 .int := ⟨zN12, zT12, 57, rfl, zh_12, by decide, rfl, rfl, zT_of 1203 (by decide +kernel) (by decide +kernel), ⟨zF12, zf_12⟩, zn_12, rfl, by decide +kernel, rfl⟩
theorem zFP_12_164 : zFP "SoapTreatyModel" 164 12 6 0 .int := ⟨zN12, zT12, 57, rfl, zh_12, by decide, rfl, rfl, zT_of 1201 (by decide +kernel) (by decide +kernel), ⟨zF12, zf_12⟩, zn_12, rfl, by decide +kernel, rfl⟩
theorem zFL_12_154 : zFL "SoapTreatyModel" 154 12 5 0 0 none := ⟨zN12, zT12, 57, rfl, zh_12, by decide, rfl, rfl, zT_of 1200 (by decide +kernel) (by decide +kernel)⟩
theorem zFL_12_157 : zFL "SoapTreatyModel" 157 12 7 1 0 none := ⟨zN12, zT12, 57, rfl, zh_12, by decide, rfl, rfl, zT_of 1202 (by decide +kernel) (by decide +kernel)⟩
theorem zFL_12_161 : zFL "SoapTreatyModel" 161 12 8 0 0 none := ⟨zN12, zT12, 57, rfl, zh_12, by decide, rfl, rfl, zT_of 1203 (by decide +kernel) (by decide +kernel)⟩
theorem zFL_12_164 : zFL "SoapTreatyModel" 164 12 6 0 0 none := ⟨zN12, zT12, 57, rfl, zh_12, by decide, rfl, rfl, zT_of 1201 (by decide +kernel) (by decide +kernel)⟩
theorem zFP_12_175 : zFP "SoapTreatyModel" 175 12 9 0 .int := ⟨zN12, zT12, 57, rfl, zh_12, by decide, rfl, rfl, zT_of 1204 (by decide +kernel) (by decide +kernel), ⟨zF12, zf_12⟩, zn_12, rfl, by decide +kernel, rfl⟩
theorem zFL_12_13 : zFL "SoapTreatyModel" 13 12 10 2 39 none := ⟨zN12, zT12, 57, rfl, zh_12, by decide, rfl, rfl, zT_of 1205 (by decide +kernel) (by decide +kernel)⟩
theorem zFL_12_50 : zFL "SoapTreatyModel" 50 12 22 2 51 none := ⟨zN12, zT12, 57, rfl, zh_12, by decide, rfl, rfl, zT_of 1217 (by decide +kernel) (by decide +kernel)⟩
theorem zFL_12_178 : zFL "SoapTreatyModel" 178 12 23 0 0 none := ⟨zN12, zT12, 57, rfl, zh_12, by decide, rfl, rfl, zT_of 1218 (by decide +kernel) (by decide +kernel)⟩
theorem zFP_12_178 : zFP "SoapTreatyModel" 178 12 23 0 .int := ⟨zN12, zT12, 57, rfl, zh_12, by decide, rfl, rfl, zT_of 1218 (by decide +kernel) (by decide +kernel), ⟨zF12, zf_12⟩, zn_12, rfl, by decide +kernel, rfl⟩
theorem zFL_12_56 : zFL "SoapTreatyModel" 56 12 26 2 53 none := ⟨zN12, zT12, 57, rfl, zh_12, by decide, rfl, rfl, zT_of 1221 (by decide +kernel) (by decide +kernel)⟩
theorem zFL_12_53 : zFL "SoapTreatyModel" 53 12 25 2 52 none := ⟨zN12, zT12, 57, rfl, zh_12, by decide, rfl, rfl, zT_of 1220 (by decide +kernel) (by decide +kernel)⟩
theorem zFL_12_63 : zFL "SoapTreatyModel" 63 12 28 2 55 none := ⟨zN12, zT12, 57, rfl, zh_12, by decide, rfl, rfl, zT_of 1223 (by decide +kernel) (by decide +kernel)⟩
theorem zFL_12_69 : zFL "SoapTreatyModel" 69 12 30 2 57 none := ⟨zN12, zT12, 57, rfl, zh_12, by decide, rfl, rfl, zT_of 1225 (by decide +kernel) (by decide +kernel)⟩
theorem zFL_12_72 : zFL "SoapTreatyModel" 72 12 31 2 58 none := ⟨zN12, zT12, 57, rfl, zh_12, by decide, rfl, rfl, zT_of 1226 (by decide +kernel) (by decide +kernel)⟩
theorem zFL_12_75 : zFL "SoapTreatyModel" 75 12 32 2 59 none := ⟨zN12, zT12, 57, rfl, zh_12, by decide, rfl, rfl, zT_of 1227 (by decide +kernel) (by decide +kernel)⟩
theorem zFL_12_81 : zFL "SoapTreatyModel" 81 12 34 2 61 none := ⟨zN12, zT12, 57, rfl, zh_12, by decide, rfl, rfl, zT_of 1229 (by decide +kernel) (by decide +kernel)⟩
theorem zFL_12_78 : zFL "SoapTreatyModel" 78 12 33 2 60 none := ⟨zN12, zT12, 57, rfl, zh_12, by decide, rfl, rfl, zT_of 1228 (by decide +kernel) (by decide +kernel)⟩
theorem zFL_12_66 : zFL "SoapTreatyModel" 66 12 29 2 56 none := ⟨zN12, zT12, 57, rfl, zh_12, by decide, rfl, rfl, zT_of 1224 (by decide +kernel) (by decide +kernel)⟩
theorem zFL_12_60 : zFL "SoapTreatyModel" 60 12 27 2 54 none := ⟨zN12, zT12, 57, rfl, zh_12, by decide, rfl, rfl, zT_of 1222 (by decide +kernel) (by decide +kernel)⟩
theorem zFL_12_44 : zFL "SoapTreatyModel" 44 12 20 2 49 none := ⟨zN12, zT12, 57, rfl, zh_12, by decide, rfl, rfl, zT_of 1215 (by decide +kernel) (by decide +kernel)⟩
theorem zFL_12_47 : zFL "SoapTreatyModel" 47 12 21 2 50 none := ⟨zN12, zT12, 57, rfl, zh_12, by decide, rfl, rfl, zT_of 1216 (by decide +kernel) (by decide +kernel)⟩
theorem zFL_12_84 : zFL "SoapTreatyModel" 84 12 35 2 62 none := ⟨zN12, zT12, 57, rfl, zh_12, by decide, rfl, rfl, zT_of 1230 (by decide +kernel) (by decide +kernel)⟩
theorem zFL_12_87 : zFL "SoapTreatyModel" 87 12 36 2 63 none := ⟨zN12, zT12, 57, rfl, zh_12, by decide, rfl, rfl, zT_of 1231 (by decide +kernel) (by decide +kernel)⟩
theorem zFL_12_16 : zFL "SoapTreatyModel" 16 12 11 2 40 none := ⟨zN12, zT12, 57, rfl, zh_12, by decide, rfl, rfl, zT_of 1206 (by decide +kernel) (by decide +kernel)⟩
theorem zFL_12_20 : zFL "SoapTreatyModel" 20 12 12 2 41 none := ⟨zN12, zT12, 57, rfl, zh_12, by decide, rfl, rfl, zT_of 1207 (by decide +kernel) (by decide +kernel)⟩
theorem zFP_12_269 : zFP "SoapTreatyModel" 269 12 37 0 .int := ⟨zN12, zT12, 57, rfl, zh_12, by decide, rfl, rfl, zT_of 1232 (by decide +kernel) (by decide +kernel), ⟨zF12, zf_12⟩, zn_12, rfl, by decide +kernel, rfl⟩
theorem zFP_12_289 : zFP "SoapTreatyModel" 289 12 38 1 .long := ⟨zN12, zT12, 57, rfl, zh_12, by decide, rfl, rfl, zT_of 1233 (by decide +kernel) (by decide +kernel), ⟨zF12, zf_12⟩, zn_12, rfl, by decide +kernel, rfl⟩
theorem zFL_12_269 : zFL "SoapTreatyModel" 269 12 37 0 0 none := ⟨zN12, zT12, 57, rfl, zh_12, by decide, rfl, rfl, zT_of 1232 (by decide +kernel) (by decide +kernel)⟩
theorem zFL_12_23 : zFL "SoapTreatyModel" 23 12 13 2 42 none := ⟨zN12, zT12, 57, rfl, zh_12, by decide, rfl, rfl, zT_of 1208 (by decide +kernel) (by decide +kernel)⟩
theorem zFL_12_26 : zFL "SoapTreatyModel" 26 12 14 2 43 none := ⟨zN12, zT12, 57, rfl, zh_12, by decide, rfl, rfl, zT_of 1209 (by decide +kernel) (by decide +kernel)⟩
theorem zFL_12_289 : zFL "SoapTreatyModel" 289 12 38 1 0 none := ⟨zN12, zT12, 57, rfl, zh_12, by decide, rfl, rfl, zT_of 1233 (by decide +kernel) (by decide +kernel)⟩
theorem zFL_12_29 : zFL "SoapTreatyModel" 29 12 15 2 44 none := ⟨zN12, zT12, 57, rfl, zh_12, by decide, rfl, rfl, zT_of 1210 (by decide +kernel) (by decide +kernel)⟩
theorem zFL_12_32 : zFL "SoapTreatyModel" 32 12 16 2 45 none := ⟨zN12, zT12, 57, rfl, zh_12, by decide, rfl, rfl, zT_of 1211 (by decide +kernel) (by decide +kernel)⟩
theorem zFL_12_35 : zFL "SoapTreatyModel" 35 12 17 2 46 none := ⟨zN12, zT12, 57, rfl, zh_12, by decide, rfl, rfl, zT_of 1212 (by decide +kernel) (by decide +kernel)⟩
theorem zFL_12_38 : zFL "SoapTreatyModel" 38 12 18 2 47 none := ⟨zN12, zT12, 57, rfl, zh_12, by decide, rfl, rfl, zT_of 1213 (by decide +kernel) (by decide +kernel)⟩
theorem zFL_12_41 : zFL "SoapTreatyModel" 41 12 19 2 48 none := ⟨zN12, zT12, 57, rfl, zh_12, by decide, rfl, rfl, zT_of 1214 (by decide +kernel) (by decide +kernel)⟩
theorem zFL_12_308 : zFL "SoapTreatyModel" 308 12 24 3 0 none := ⟨zN12, zT12, 57, rfl, zh_12, by decide, rfl, rfl, zT_of 1219 (by decide +kernel) (by decide +kernel)⟩
theorem zFP_12_308 : zFP "SoapTreatyModel" 308 12 24 3 .boolean := ⟨zN12, zT12, 57, rfl, zh_12, by decide, rfl, rfl, zT_of 1219 (by decide +kernel) (by decide +kernel), ⟨zF12, zf_12⟩, zn_12, rfl, by decide +kernel, rfl⟩
theorem zFP_12_148 : zFP "SoapTreatyModel" 148 12 3 0 .int := ⟨zN12, zT12, 57, rfl, zh_12, by decide, rfl, rfl, zT_of 1198 (by decide +kernel) (by decide +kernel), ⟨zF12, zf_12⟩, zn_12, rfl, by decide +kernel, rfl⟩
theorem zFL_12_90 : zFL "SoapTreatyModel" 90 12 39 2 64 none := ⟨zN12, zT12, 57, rfl, zh_12, by decide, rfl, rfl, zT_of 1234 (by decide +kernel) (by decide +kernel)⟩
theorem zFL_12_93 : zFL "SoapTreatyModel" 93 12 40 2 65 none := ⟨zN12, zT12, 57, rfl, zh_12, by decide, rfl, rfl, zT_of 1235 (by decide +kernel) (by decide +kernel)⟩
theorem zFL_12_96 : zFL "SoapTreatyModel" 96 12 41 2 66 none := ⟨zN12, zT12, 57, rfl, zh_12, by decide, rfl, rfl, zT_of 1236 (by decide +kernel) (by decide +kernel)⟩
theorem zFL_12_99 : zFL "SoapTreatyModel" 99 12 42 2 67 none := ⟨zN12, zT12, 57, rfl, zh_12, by decide, rfl, rfl, zT_of 1237 (by decide +kernel) (by decide +kernel)⟩
theorem zFL_12_102 : zFL "SoapTreatyModel" 102 12 43 2 68 none := ⟨zN12, zT12, 57, rfl, zh_12, by decide, rfl, rfl, zT_of 1238 (by decide +kernel) (by decide +kernel)⟩
theorem zFL_12_105 : zFL "SoapTreatyModel" 105 12 44 2 69 none := ⟨zN12, zT12, 57, rfl, zh_12, by decide, rfl, rfl, zT_of 1239 (by decide +kernel) (by decide +kernel)⟩
theorem zFL_12_108 : zFL "SoapTreatyModel" 108 12 45 2 70 none := ⟨zN12, zT12, 57, rfl, zh_12, by decide, rfl, rfl, zT_of 1240 (by decide +kernel) (by decide +kernel)⟩
theorem zFL_12_111 : zFL "SoapTreatyModel" 111 12 46 2 71 none := ⟨zN12, zT12, 57, rfl, zh_12, by decide, rfl, rfl, zT_of 1241 (by decide +kernel) (by decide +kernel)⟩
theorem zFL_12_114 : zFL "SoapTreatyModel" 114 12 47 2 72 none := ⟨zN12, zT12, 57, rfl, zh_12, by decide, rfl, rfl, zT_of 1242 (by decide +kernel) (by decide +kernel)⟩
theorem zFL_12_175 : zFL "SoapTreatyModel" 175 12 9 0 0 none := ⟨zN12, zT12, 57, rfl, zh_12, by decide, rfl, rfl, zT_of 1204 (by decide +kernel) (by decide +kernel)⟩
theorem zFP_12_350 : zFP "SoapTreatyModel" 350 12 53 0 .int := ⟨zN12, zT12, 57, rfl, zh_12, by decide, rfl, rfl, zT_of 1248 (by decide +kernel) (by decide +kernel), ⟨zF12, zf_12⟩, zn_12, rfl, by decide +kernel, rfl⟩
theorem zFL_12_129 : zFL "SoapTreatyModel" 129 12 52 2 77 none := ⟨zN12, zT12, 57, rfl, zh_12, by decide, rfl, rfl, zT_of 1247 (by decide +kernel) (by decide +kernel)⟩
theorem zKmax_12_373 : zLmax "SoapTreatyModel" 373 := ⟨zT_of 1637 (by decide +kernel) (by decide +kernel), zT_of 896 (by decide +kernel) (by decide +kernel), zT_of 121 (by decide +kernel) (by decide +kernel), zT_of 897 (by decide +kernel) (by decide +kernel)⟩
theorem zFL_12_379 : zFL "SoapTreatyModel" 379 12 54 0 0 none := ⟨zN12, zT12, 57, rfl, zh_12, by decide, rfl, rfl, zT_of 1249 (by decide +kernel) (by decide +kernel)⟩
theorem zFL_12_350 : zFL "SoapTreatyModel" 350 12 53 0 0 none := ⟨zN12, zT12, 57, rfl, zh_12, by decide, rfl, rfl, zT_of 1248 (by decide +kernel) (by decide +kernel)⟩
theorem zFL_12_126 : zFL "SoapTreatyModel" 126 12 51 2 76 none := ⟨zN12, zT12, 57, rfl, zh_12, by decide, rfl, rfl, zT_of 1246 (by decide +kernel) (by decide +kernel)⟩
theorem zFL_12_117 : zFL "SoapTreatyModel" 117 12 48 2 73 none := ⟨zN12, zT12, 57, rfl, zh_12, by decide, rfl, rfl, zT_of 1243 (by decide +kernel) (by decide +kernel)⟩
theorem zFL_12_120 : zFL "SoapTreatyModel" 120 12 49 2 74 none := ⟨zN12, zT12, 57, rfl, zh_12, by decide, rfl, rfl, zT_of 1244 (by decide +kernel) (by decide +kernel)⟩
theorem zFP_12_379 : zFP "SoapTreatyModel" 379 12 54 0 .int := ⟨zN12, zT12, 57, rfl, zh_12, by decide, rfl, rfl, zT_of 1249 (by decide +kernel) (by decide +kernel), ⟨zF12, zf_12⟩, zn_12, rfl, by decide +kernel, rfl⟩
theorem zFL_12_132 : zFL "SoapTreatyModel" 132 12 55 2 78 none := ⟨zN12, zT12, 57, rfl, zh_12, by decide, rfl, rfl, zT_of 1250 (by decide +kernel) (by decide +kernel)⟩
theorem zFL_12_481 : zFL "SoapTreatyModel" 481 12 56 1 0 none := ⟨zN12, zT12, 57, rfl, zh_12, by decide, rfl, rfl, zT_of 1251 (by decide +kernel) (by decide +kernel)⟩
theorem zFP_12_481 : zFP "SoapTreatyModel" 481 12 56 1 .long := ⟨zN12, zT12, 57, rfl, zh_12, by decide, rfl, rfl, zT_of 1251 (by decide +kernel) (by decide +kernel), ⟨zF12, zf_12⟩, zn_12, rfl, by decide +kernel, rfl⟩
theorem zFL_12_123 : zFL "SoapTreatyModel" 123 12 50 2 75 none := ⟨zN12, zT12, 57, rfl, zh_12, by decide, rfl, rfl, zT_of 1245 (by decide +kernel) (by decide +kernel)⟩
def zm1 : Int32 := -1
def zm2 : Int32 := -2
def zm3 : Int32 := -3
def zm4 : Int32 := -4
def zm5 : Int32 := -5
def zm6 : Int32 := -6
def zm7 : Int32 := -7
def zm8 : Int32 := -8
def zm9 : Int32 := -9
def zm10 : Int32 := -10
def zm11 : Int32 := -11
def zm12 : Int32 := -12
theorem zlen_5 : ∀ C, zty C = 5 → zlen C = 4 := by
  intro C h
  by_cases hC : C < zkn
  · have key : ∀ C, C < zkn → zty C = 5 → zlen C = 4 := by decide +kernel
    exact key C hC h
  · have hz : zkn ≤ C := Nat.not_lt.mp hC
    have : zty C = 0 := by unfold zty; rw [List.getD_eq_getElem?_getD, List.getElem?_eq_none (by exact hz)]; rfl
    rw [this] at h; cases h
theorem zlen_6 : ∀ C, zty C = 6 → zlen C = 16 := by
  intro C h
  by_cases hC : C < zkn
  · have key : ∀ C, C < zkn → zty C = 6 → zlen C = 16 := by decide +kernel
    exact key C hC h
  · have hz : zkn ≤ C := Nat.not_lt.mp hC
    have : zty C = 0 := by unfold zty; rw [List.getD_eq_getElem?_getD, List.getElem?_eq_none (by exact hz)]; rfl
    rw [this] at h; cases h
/-- ops by their places, in chunks -/
noncomputable def zgr : List (Nat × zO) → Nat → zO
  | [], _ => zo_bad
  | (p, op) :: r, k => Bool.rec (motive := fun _ => zO) (zgr r k) op (Nat.beq p k)
noncomputable def zgs : List (Nat × List (Nat × zO)) → Nat → zO
  | [], _ => zo_bad
  | (b, c) :: r, k => Bool.rec (motive := fun _ => zO) (zgs r k) (zgr c k) (Nat.blt k b)
def zAllR (Q : Nat → zO → Prop) : List (Nat × zO) → Prop
  | [] => True
  | (p, op) :: r => Q p op ∧ zAllR Q r
def zAllT (Q : zO → Prop) : List (Nat × zO) → Prop
  | [] => True
  | (_, op) :: r => Q op ∧ zAllT Q r
def zAllS (Q : Nat → zO → Prop) : List (Nat × List (Nat × zO)) → Prop
  | [] => True
  | (_, c) :: r => zAllR Q c ∧ zAllS Q r
theorem zgr_all {Q : Nat → zO → Prop} (hb : ∀ k, Q k zo_bad) : ∀ (c : List (Nat × zO)), zAllR Q c → ∀ k, Q k (zgr c k)
  | [], _, k => hb k
  | (p, op) :: r, h, k => by
    show Q k (Bool.rec (motive := fun _ => zO) (zgr r k) op (Nat.beq p k))
    cases e : Nat.beq p k with
    | true => have e := Nat.eq_of_beq_eq_true e; subst e; exact h.1
    | false => exact zgr_all hb r h.2 k
theorem zgs_all {Q : Nat → zO → Prop} (hb : ∀ k, Q k zo_bad) : ∀ {c : List (Nat × List (Nat × zO))}, zAllS Q c → ∀ k, Q k (zgs c k)
  | [], _, k => hb k
  | (p, op) :: r, h, k => by
    show Q k (Bool.rec (motive := fun _ => zO) (zgs r k) (zgr op k) (Nat.blt k p))
    cases Nat.blt k p with
    | true => exact zgr_all hb op h.1 k
    | false => exact zgs_all hb h.2 k
/-- steps up to the next cut point -/
noncomputable def zany : List Nat → Nat → Bool
  | [], _ => false
  | c :: r, k => Bool.rec (motive := fun _ => Bool) (zany r k) true (Nat.beq c k)
noncomputable def zXs (P : Nat → zO) (S : List Nat) (n : Nat) (K : Nat → zC) : Nat → zC := Nat.rec K (fun _ ih k => Bool.rec (motive := fun _ => zC) (P k ih) (K k) (zany S k)) n
theorem zL_s {P : Nat → zO} (hP : ∀ k, zTl (P k)) (S : List Nat) (n : Nat) (k : Nat) (ls : zLo) (st : List zV) (h : zH) : zL P k ls st h = P k (zXs P S n (zL P)) ls st h := by
  have key : ∀ n, zXs P S n (zL P) = zL P := by
    intro n
    induction n with
    | zero => rfl
    | succ n ih =>
      funext k ls st h
      show (Bool.rec (motive := fun _ => zC) (P k (zXs P S n (zL P))) (zL P k) (zany S k) : zC) ls st h = _
      cases zany S k with
      | true => rfl
      | false =>
        show P k (zXs P S n (zL P)) ls st h = _
        rw [ih]
        exact (zL_eq hP k ls st h).symm
  rw [key]
  exact zL_eq hP k ls st h

