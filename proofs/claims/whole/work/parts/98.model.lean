/-! The model's constructor. (By program: wip/whole/init4.py) -/
theorem pf_12_7 : zPF "SoapTreatyModel" 7 12 2 true (.array .int) := ⟨zN12, zT12, 57, zF12, rfl, zin_12, zf_12, zn_12, by decide, zTd (by decide +kernel), rfl, rfl, rfl⟩
theorem pf_12_13 : zPF "SoapTreatyModel" 13 12 10 true (.array .int) := ⟨zN12, zT12, 57, zF12, rfl, zin_12, zf_12, zn_12, by decide, zTd (by decide +kernel), rfl, rfl, rfl⟩
theorem pf_12_16 : zPF "SoapTreatyModel" 16 12 11 true (.array .long) := ⟨zN12, zT12, 57, zF12, rfl, zin_12, zf_12, zn_12, by decide, zTd (by decide +kernel), rfl, rfl, rfl⟩
theorem pf_12_20 : zPF "SoapTreatyModel" 20 12 12 true (.array .long) := ⟨zN12, zT12, 57, zF12, rfl, zin_12, zf_12, zn_12, by decide, zTd (by decide +kernel), rfl, rfl, rfl⟩
theorem pf_12_23 : zPF "SoapTreatyModel" 23 12 13 true (.array .int) := ⟨zN12, zT12, 57, zF12, rfl, zin_12, zf_12, zn_12, by decide, zTd (by decide +kernel), rfl, rfl, rfl⟩
theorem pf_12_26 : zPF "SoapTreatyModel" 26 12 14 true (.array .int) := ⟨zN12, zT12, 57, zF12, rfl, zin_12, zf_12, zn_12, by decide, zTd (by decide +kernel), rfl, rfl, rfl⟩
theorem pf_12_29 : zPF "SoapTreatyModel" 29 12 15 true (.array .int) := ⟨zN12, zT12, 57, zF12, rfl, zin_12, zf_12, zn_12, by decide, zTd (by decide +kernel), rfl, rfl, rfl⟩
theorem pf_12_32 : zPF "SoapTreatyModel" 32 12 16 true (.array .int) := ⟨zN12, zT12, 57, zF12, rfl, zin_12, zf_12, zn_12, by decide, zTd (by decide +kernel), rfl, rfl, rfl⟩
theorem pf_12_35 : zPF "SoapTreatyModel" 35 12 17 true (.array .int) := ⟨zN12, zT12, 57, zF12, rfl, zin_12, zf_12, zn_12, by decide, zTd (by decide +kernel), rfl, rfl, rfl⟩
theorem pf_12_38 : zPF "SoapTreatyModel" 38 12 18 true (.array .int) := ⟨zN12, zT12, 57, zF12, rfl, zin_12, zf_12, zn_12, by decide, zTd (by decide +kernel), rfl, rfl, rfl⟩
theorem pf_12_41 : zPF "SoapTreatyModel" 41 12 19 true (.array .int) := ⟨zN12, zT12, 57, zF12, rfl, zin_12, zf_12, zn_12, by decide, zTd (by decide +kernel), rfl, rfl, rfl⟩
theorem pf_12_44 : zPF "SoapTreatyModel" 44 12 20 true (.array .int) := ⟨zN12, zT12, 57, zF12, rfl, zin_12, zf_12, zn_12, by decide, zTd (by decide +kernel), rfl, rfl, rfl⟩
theorem pf_12_47 : zPF "SoapTreatyModel" 47 12 21 true (.array .int) := ⟨zN12, zT12, 57, zF12, rfl, zin_12, zf_12, zn_12, by decide, zTd (by decide +kernel), rfl, rfl, rfl⟩
theorem pf_12_50 : zPF "SoapTreatyModel" 50 12 22 true (.array .int) := ⟨zN12, zT12, 57, zF12, rfl, zin_12, zf_12, zn_12, by decide, zTd (by decide +kernel), rfl, rfl, rfl⟩
theorem pf_12_53 : zPF "SoapTreatyModel" 53 12 25 true (.array .int) := ⟨zN12, zT12, 57, zF12, rfl, zin_12, zf_12, zn_12, by decide, zTd (by decide +kernel), rfl, rfl, rfl⟩
theorem pf_12_56 : zPF "SoapTreatyModel" 56 12 26 true (.array .boolean) := ⟨zN12, zT12, 57, zF12, rfl, zin_12, zf_12, zn_12, by decide, zTd (by decide +kernel), rfl, rfl, rfl⟩
theorem pf_12_60 : zPF "SoapTreatyModel" 60 12 27 true (.array .int) := ⟨zN12, zT12, 57, zF12, rfl, zin_12, zf_12, zn_12, by decide, zTd (by decide +kernel), rfl, rfl, rfl⟩
theorem pf_12_63 : zPF "SoapTreatyModel" 63 12 28 true (.array .int) := ⟨zN12, zT12, 57, zF12, rfl, zin_12, zf_12, zn_12, by decide, zTd (by decide +kernel), rfl, rfl, rfl⟩
theorem pf_12_66 : zPF "SoapTreatyModel" 66 12 29 true (.array .int) := ⟨zN12, zT12, 57, zF12, rfl, zin_12, zf_12, zn_12, by decide, zTd (by decide +kernel), rfl, rfl, rfl⟩
theorem pf_12_69 : zPF "SoapTreatyModel" 69 12 30 true (.array .int) := ⟨zN12, zT12, 57, zF12, rfl, zin_12, zf_12, zn_12, by decide, zTd (by decide +kernel), rfl, rfl, rfl⟩
theorem pf_12_72 : zPF "SoapTreatyModel" 72 12 31 true (.array .int) := ⟨zN12, zT12, 57, zF12, rfl, zin_12, zf_12, zn_12, by decide, zTd (by decide +kernel), rfl, rfl, rfl⟩
theorem pf_12_75 : zPF "SoapTreatyModel" 75 12 32 true (.array .int) := ⟨zN12, zT12, 57, zF12, rfl, zin_12, zf_12, zn_12, by decide, zTd (by decide +kernel), rfl, rfl, rfl⟩
theorem pf_12_78 : zPF "SoapTreatyModel" 78 12 33 true (.array .int) := ⟨zN12, zT12, 57, zF12, rfl, zin_12, zf_12, zn_12, by decide, zTd (by decide +kernel), rfl, rfl, rfl⟩
theorem pf_12_81 : zPF "SoapTreatyModel" 81 12 34 true (.array .int) := ⟨zN12, zT12, 57, zF12, rfl, zin_12, zf_12, zn_12, by decide, zTd (by decide +kernel), rfl, rfl, rfl⟩
theorem pf_12_84 : zPF "SoapTreatyModel" 84 12 35 true (.array .int) := ⟨zN12, zT12, 57, zF12, rfl, zin_12, zf_12, zn_12, by decide, zTd (by decide +kernel), rfl, rfl, rfl⟩
theorem pf_12_87 : zPF "SoapTreatyModel" 87 12 36 true (.array .int) := ⟨zN12, zT12, 57, zF12, rfl, zin_12, zf_12, zn_12, by decide, zTd (by decide +kernel), rfl, rfl, rfl⟩
theorem pf_12_90 : zPF "SoapTreatyModel" 90 12 39 true (.array .int) := ⟨zN12, zT12, 57, zF12, rfl, zin_12, zf_12, zn_12, by decide, zTd (by decide +kernel), rfl, rfl, rfl⟩
theorem pf_12_93 : zPF "SoapTreatyModel" 93 12 40 true (.array .int) := ⟨zN12, zT12, 57, zF12, rfl, zin_12, zf_12, zn_12, by decide, zTd (by decide +kernel), rfl, rfl, rfl⟩
theorem pf_12_96 : zPF "SoapTreatyModel" 96 12 41 true (.array .int) := ⟨zN12, zT12, 57, zF12, rfl, zin_12, zf_12, zn_12, by decide, zTd (by decide +kernel), rfl, rfl, rfl⟩
theorem pf_12_99 : zPF "SoapTreatyModel" 99 12 42 true (.array .int) := ⟨zN12, zT12, 57, zF12, rfl, zin_12, zf_12, zn_12, by decide, zTd (by decide +kernel), rfl, rfl, rfl⟩
theorem pf_12_102 : zPF "SoapTreatyModel" 102 12 43 true (.array .int) := ⟨zN12, zT12, 57, zF12, rfl, zin_12, zf_12, zn_12, by decide, zTd (by decide +kernel), rfl, rfl, rfl⟩
theorem pf_12_105 : zPF "SoapTreatyModel" 105 12 44 true (.array .int) := ⟨zN12, zT12, 57, zF12, rfl, zin_12, zf_12, zn_12, by decide, zTd (by decide +kernel), rfl, rfl, rfl⟩
theorem pf_12_108 : zPF "SoapTreatyModel" 108 12 45 true (.array .int) := ⟨zN12, zT12, 57, zF12, rfl, zin_12, zf_12, zn_12, by decide, zTd (by decide +kernel), rfl, rfl, rfl⟩
theorem pf_12_111 : zPF "SoapTreatyModel" 111 12 46 true (.array .int) := ⟨zN12, zT12, 57, zF12, rfl, zin_12, zf_12, zn_12, by decide, zTd (by decide +kernel), rfl, rfl, rfl⟩
theorem pf_12_114 : zPF "SoapTreatyModel" 114 12 47 true (.array .int) := ⟨zN12, zT12, 57, zF12, rfl, zin_12, zf_12, zn_12, by decide, zTd (by decide +kernel), rfl, rfl, rfl⟩
theorem pf_12_117 : zPF "SoapTreatyModel" 117 12 48 true (.array .int) := ⟨zN12, zT12, 57, zF12, rfl, zin_12, zf_12, zn_12, by decide, zTd (by decide +kernel), rfl, rfl, rfl⟩
theorem pf_12_120 : zPF "SoapTreatyModel" 120 12 49 true (.array .int) := ⟨zN12, zT12, 57, zF12, rfl, zin_12, zf_12, zn_12, by decide, zTd (by decide +kernel), rfl, rfl, rfl⟩
theorem pf_12_123 : zPF "SoapTreatyModel" 123 12 50 true (.array .int) := ⟨zN12, zT12, 57, zF12, rfl, zin_12, zf_12, zn_12, by decide, zTd (by decide +kernel), rfl, rfl, rfl⟩
theorem pf_12_126 : zPF "SoapTreatyModel" 126 12 51 true (.array .int) := ⟨zN12, zT12, 57, zF12, rfl, zin_12, zf_12, zn_12, by decide, zTd (by decide +kernel), rfl, rfl, rfl⟩
theorem pf_12_129 : zPF "SoapTreatyModel" 129 12 52 true (.array .boolean) := ⟨zN12, zT12, 57, zF12, rfl, zin_12, zf_12, zn_12, by decide, zTd (by decide +kernel), rfl, rfl, rfl⟩
theorem pf_12_132 : zPF "SoapTreatyModel" 132 12 55 true (.array .int) := ⟨zN12, zT12, 57, zF12, rfl, zin_12, zf_12, zn_12, by decide, zTd (by decide +kernel), rfl, rfl, rfl⟩
abbrev lm_ : List (Nat × Nat) := [(12, 0), (38, 0), (39, 0), (40, 0), (41, 0), (42, 0), (43, 0), (44, 0), (45, 0), (46, 0), (47, 0), (48, 0), (49, 0), (50, 0), (51, 0), (52, 0), (53, 0), (54, 0), (55, 0), (56, 0), (57, 0), (58, 0), (59, 0), (60, 0), (61, 0), (62, 0), (63, 0), (64, 0), (65, 0), (66, 0), (67, 0), (68, 0), (69, 0), (70, 0), (71, 0), (72, 0), (73, 0), (74, 0), (75, 0), (76, 0), (77, 0), (78, 0)]
theorem zclm : zclo lm_ = true := by decide +kernel
noncomputable def h1_ : zH := zuI (zuI (zuI h0_ 39 0 0 0) 39 0 1 0) 39 0 2 2
theorem us_0 : f_X12_usual [.inr (.inr (12, 0)), .inl 0] h0_ = some (none, h1_) := by
  have e0 : (3 : Int32) * 0 + 0 = nI 0 := by decide
  have e1 : (3 : Int32) * 0 + 1 = nI 1 := by decide
  have e2 : (3 : Int32) * 0 + 2 = nI 2 := by decide
  rw [g_X12_usual, e0, e1, e2, zf_pos (vp_in_nI (by omega) (by omega)), zf_pos (vp_in_nI (by omega) (by omega)), zf_pos (vp_in_nI (by omega) (by omega)), nI_clamp (by omega), nI_clamp (by omega), nI_clamp (by omega)]
  rfl
theorem sl_X12_init : zsl [(38, 0), (39, 0), (40, 0), (41, 0), (42, 0), (43, 0), (44, 0), (45, 0), (46, 0), (47, 0), (48, 0), (49, 0), (50, 0), (51, 0), (52, 0), (53, 0), (54, 0), (55, 0), (56, 0), (57, 0), (58, 0), (59, 0), (60, 0), (61, 0), (62, 0), (63, 0), (64, 0), (65, 0), (66, 0), (67, 0), (68, 0), (69, 0), (70, 0), (71, 0), (72, 0), (73, 0), (74, 0), (75, 0), (76, 0), (77, 0), (78, 0)] = 9332 := by
  simp only [zsl, List.map_cons, List.map_nil, List.sum_cons, List.sum_nil, Nat.reduceAdd, szk_38, szk_39, szk_40, szk_41, szk_42, szk_43, szk_44, szk_45, szk_46, szk_47, szk_48, szk_49, szk_50, szk_51, szk_52, szk_53, szk_54, szk_55, szk_56, szk_57, szk_58, szk_59, szk_60, szk_61, szk_62, szk_63, szk_64, szk_65, szk_66, szk_67, szk_68, szk_69, szk_70, szk_71, szk_72, szk_73, szk_74, szk_75, szk_76, szk_77, szk_78]
set_option maxHeartbeats 4000000 in
set_option maxRecDepth 100000 in
theorem k_X12_init {l : Launch} {D : va_G} {ad : Nat → Nat → Nat} {cy : Nat → ClassId} : zMi l D ad cy 2 y_X12_init (.code y_X12_init prog_14_method_1_code 1 none) 12 0 [] [(38, 0), (39, 0), (40, 0), (41, 0), (42, 0), (43, 0), (44, 0), (45, 0), (46, 0), (47, 0), (48, 0), (49, 0), (50, 0), (51, 0), (52, 0), (53, 0), (54, 0), (55, 0), (56, 0), (57, 0), (58, 0), (59, 0), (60, 0), (61, 0), (62, 0), (63, 0), (64, 0), (65, 0), (66, 0), (67, 0), (68, 0), (69, 0), (70, 0), (71, 0), (72, 0), (73, 0), (74, 0), (75, 0), (76, 0), (77, 0), (78, 0)] h1_ (fun _ => True) := by
  refine c_start (by decide) rfl (Nat.le_of_ble_eq_true rfl) ?_
  intro X ls C hX hQ hR hl hE
  have hR : ∀ n k, n ≤ 41 → k ≤ 9332 → cR X n k := fun n k a b => hR n k a (Nat.le_trans b (Nat.le_of_eq sl_X12_init.symm))
  rw [sl_X12_init] at hE
  have hE : ∀ pc ls, decode prog_14_method_1_code pc = .ok (.return_, 1) → cW X pc ls [] (zws ad cy ((12, 0) :: [(38, 0), (39, 0), (40, 0), (41, 0), (42, 0), (43, 0), (44, 0), (45, 0), (46, 0), (47, 0), (48, 0), (49, 0), (50, 0), (51, 0), (52, 0), (53, 0), (54, 0), (55, 0), (56, 0), (57, 0), (58, 0), (59, 0), (60, 0), (61, 0), (62, 0), (63, 0), (64, 0), (65, 0), (66, 0), (67, 0), (68, 0), (69, 0), (70, 0), (71, 0), (72, 0), (73, 0), (74, 0), (75, 0), (76, 0), (77, 0), (78, 0)]) h1_) 41 9332 := hE
  refine cr_aload C hl (j := 0) (by decide +kernel : decode prog_14_method_1_code 0 = .ok (.aload_n 0, 1)) rfl ?_
  refine cr_obj C hl.1 (zTd (by decide +kernel)) (by decide +kernel : decode prog_14_method_1_code 1 = .ok (.invokespecial 1, 3)) ?_
  refine cr_aload C hl (j := 0) (by decide +kernel : decode prog_14_method_1_code 4 = .ok (.aload_n 0, 1)) rfl ?_
  refine cr_sipush C (v := nI 1000) (by decide +kernel : decode prog_14_method_1_code 5 = .ok (.sipush 1000, 3)) (by decide) ?_
  refine cr_newa C zAT1 (N := 1000) (a0 := (1000, .inl (fun _ => 0))) (fun _ => rfl) rfl (by decide) (by decide) (hQ 0 _ rfl) (hR _ _ (by decide) (by decide)) (by decide +kernel : decode prog_14_method_1_code 8 = .ok (.newarray .int, 2)) (cXl_E hX _) ?_
  refine cW_nk (n' := 1) (k' := 1000) rfl rfl ?_
  refine cr_putF C pf_12_7 rfl rfl (Nat.le_of_ble_eq_true rfl) (by decide +kernel : decode prog_14_method_1_code 10 = .ok (.putfield 7, 3)) ?_
  refine cr_aload C hl (j := 0) (by decide +kernel : decode prog_14_method_1_code 13 = .ok (.aload_n 0, 1)) rfl ?_
  refine cr_bipush C (v := nI 6) (by decide +kernel : decode prog_14_method_1_code 14 = .ok (.bipush 6, 2)) (by decide) ?_
  refine cr_newa C zAT1 (N := 6) (a0 := (6, .inl (fun _ => 0))) (fun _ => rfl) rfl (by decide) (by decide) (hQ 1 _ rfl) (hR _ _ (by decide) (by decide)) (by decide +kernel : decode prog_14_method_1_code 16 = .ok (.newarray .int, 2)) (cXl_E hX _) ?_
  refine cW_nk (n' := 2) (k' := 1006) rfl rfl ?_
  refine cr_putF C pf_12_13 rfl rfl (Nat.le_of_ble_eq_true rfl) (by decide +kernel : decode prog_14_method_1_code 18 = .ok (.putfield 13, 3)) ?_
  refine cr_aload C hl (j := 0) (by decide +kernel : decode prog_14_method_1_code 21 = .ok (.aload_n 0, 1)) rfl ?_
  refine cr_bipush C (v := nI 10) (by decide +kernel : decode prog_14_method_1_code 22 = .ok (.bipush 10, 2)) (by decide) ?_
  refine cr_newa C zAT2 (N := 10) (a0 := (10, .inr (.inl (fun _ => 0)))) (fun _ => rfl) rfl (by decide) (by decide) (hQ 2 _ rfl) (hR _ _ (by decide) (by decide)) (by decide +kernel : decode prog_14_method_1_code 24 = .ok (.newarray .long, 2)) (cXl_E hX _) ?_
  refine cW_nk (n' := 3) (k' := 1016) rfl rfl ?_
  refine cr_putF C pf_12_16 rfl rfl (Nat.le_of_ble_eq_true rfl) (by decide +kernel : decode prog_14_method_1_code 26 = .ok (.putfield 16, 3)) ?_
  refine cr_aload C hl (j := 0) (by decide +kernel : decode prog_14_method_1_code 29 = .ok (.aload_n 0, 1)) rfl ?_
  refine cr_bipush C (v := nI 14) (by decide +kernel : decode prog_14_method_1_code 30 = .ok (.bipush 14, 2)) (by decide) ?_
  refine cr_newa C zAT2 (N := 14) (a0 := (14, .inr (.inl (fun _ => 0)))) (fun _ => rfl) rfl (by decide) (by decide) (hQ 3 _ rfl) (hR _ _ (by decide) (by decide)) (by decide +kernel : decode prog_14_method_1_code 32 = .ok (.newarray .long, 2)) (cXl_E hX _) ?_
  refine cW_nk (n' := 4) (k' := 1030) rfl rfl ?_
  refine cr_putF C pf_12_20 rfl rfl (Nat.le_of_ble_eq_true rfl) (by decide +kernel : decode prog_14_method_1_code 34 = .ok (.putfield 20, 3)) ?_
  refine cr_aload C hl (j := 0) (by decide +kernel : decode prog_14_method_1_code 37 = .ok (.aload_n 0, 1)) rfl ?_
  refine cr_bipush C (v := nI 10) (by decide +kernel : decode prog_14_method_1_code 38 = .ok (.bipush 10, 2)) (by decide) ?_
  refine cr_newa C zAT1 (N := 10) (a0 := (10, .inl (fun _ => 0))) (fun _ => rfl) rfl (by decide) (by decide) (hQ 4 _ rfl) (hR _ _ (by decide) (by decide)) (by decide +kernel : decode prog_14_method_1_code 40 = .ok (.newarray .int, 2)) (cXl_E hX _) ?_
  refine cW_nk (n' := 5) (k' := 1040) rfl rfl ?_
  refine cr_putF C pf_12_23 rfl rfl (Nat.le_of_ble_eq_true rfl) (by decide +kernel : decode prog_14_method_1_code 42 = .ok (.putfield 23, 3)) ?_
  refine cr_aload C hl (j := 0) (by decide +kernel : decode prog_14_method_1_code 45 = .ok (.aload_n 0, 1)) rfl ?_
  refine cr_bipush C (v := nI 10) (by decide +kernel : decode prog_14_method_1_code 46 = .ok (.bipush 10, 2)) (by decide) ?_
  refine cr_newa C zAT1 (N := 10) (a0 := (10, .inl (fun _ => 0))) (fun _ => rfl) rfl (by decide) (by decide) (hQ 5 _ rfl) (hR _ _ (by decide) (by decide)) (by decide +kernel : decode prog_14_method_1_code 48 = .ok (.newarray .int, 2)) (cXl_E hX _) ?_
  refine cW_nk (n' := 6) (k' := 1050) rfl rfl ?_
  refine cr_putF C pf_12_26 rfl rfl (Nat.le_of_ble_eq_true rfl) (by decide +kernel : decode prog_14_method_1_code 50 = .ok (.putfield 26, 3)) ?_
  refine cr_aload C hl (j := 0) (by decide +kernel : decode prog_14_method_1_code 53 = .ok (.aload_n 0, 1)) rfl ?_
  refine cr_bipush C (v := nI 14) (by decide +kernel : decode prog_14_method_1_code 54 = .ok (.bipush 14, 2)) (by decide) ?_
  refine cr_newa C zAT1 (N := 14) (a0 := (14, .inl (fun _ => 0))) (fun _ => rfl) rfl (by decide) (by decide) (hQ 6 _ rfl) (hR _ _ (by decide) (by decide)) (by decide +kernel : decode prog_14_method_1_code 56 = .ok (.newarray .int, 2)) (cXl_E hX _) ?_
  refine cW_nk (n' := 7) (k' := 1064) rfl rfl ?_
  refine cr_putF C pf_12_29 rfl rfl (Nat.le_of_ble_eq_true rfl) (by decide +kernel : decode prog_14_method_1_code 58 = .ok (.putfield 29, 3)) ?_
  refine cr_aload C hl (j := 0) (by decide +kernel : decode prog_14_method_1_code 61 = .ok (.aload_n 0, 1)) rfl ?_
  refine cr_bipush C (v := nI 14) (by decide +kernel : decode prog_14_method_1_code 62 = .ok (.bipush 14, 2)) (by decide) ?_
  refine cr_newa C zAT1 (N := 14) (a0 := (14, .inl (fun _ => 0))) (fun _ => rfl) rfl (by decide) (by decide) (hQ 7 _ rfl) (hR _ _ (by decide) (by decide)) (by decide +kernel : decode prog_14_method_1_code 64 = .ok (.newarray .int, 2)) (cXl_E hX _) ?_
  refine cW_nk (n' := 8) (k' := 1078) rfl rfl ?_
  refine cr_putF C pf_12_32 rfl rfl (Nat.le_of_ble_eq_true rfl) (by decide +kernel : decode prog_14_method_1_code 66 = .ok (.putfield 32, 3)) ?_
  refine cr_aload C hl (j := 0) (by decide +kernel : decode prog_14_method_1_code 69 = .ok (.aload_n 0, 1)) rfl ?_
  refine cr_bipush C (v := nI 14) (by decide +kernel : decode prog_14_method_1_code 70 = .ok (.bipush 14, 2)) (by decide) ?_
  refine cr_newa C zAT1 (N := 14) (a0 := (14, .inl (fun _ => 0))) (fun _ => rfl) rfl (by decide) (by decide) (hQ 8 _ rfl) (hR _ _ (by decide) (by decide)) (by decide +kernel : decode prog_14_method_1_code 72 = .ok (.newarray .int, 2)) (cXl_E hX _) ?_
  refine cW_nk (n' := 9) (k' := 1092) rfl rfl ?_
  refine cr_putF C pf_12_35 rfl rfl (Nat.le_of_ble_eq_true rfl) (by decide +kernel : decode prog_14_method_1_code 74 = .ok (.putfield 35, 3)) ?_
  refine cr_aload C hl (j := 0) (by decide +kernel : decode prog_14_method_1_code 77 = .ok (.aload_n 0, 1)) rfl ?_
  refine cr_bipush C (v := nI 14) (by decide +kernel : decode prog_14_method_1_code 78 = .ok (.bipush 14, 2)) (by decide) ?_
  refine cr_newa C zAT1 (N := 14) (a0 := (14, .inl (fun _ => 0))) (fun _ => rfl) rfl (by decide) (by decide) (hQ 9 _ rfl) (hR _ _ (by decide) (by decide)) (by decide +kernel : decode prog_14_method_1_code 80 = .ok (.newarray .int, 2)) (cXl_E hX _) ?_
  refine cW_nk (n' := 10) (k' := 1106) rfl rfl ?_
  refine cr_putF C pf_12_38 rfl rfl (Nat.le_of_ble_eq_true rfl) (by decide +kernel : decode prog_14_method_1_code 82 = .ok (.putfield 38, 3)) ?_
  refine cr_aload C hl (j := 0) (by decide +kernel : decode prog_14_method_1_code 85 = .ok (.aload_n 0, 1)) rfl ?_
  refine cr_bipush C (v := nI 14) (by decide +kernel : decode prog_14_method_1_code 86 = .ok (.bipush 14, 2)) (by decide) ?_
  refine cr_newa C zAT1 (N := 14) (a0 := (14, .inl (fun _ => 0))) (fun _ => rfl) rfl (by decide) (by decide) (hQ 10 _ rfl) (hR _ _ (by decide) (by decide)) (by decide +kernel : decode prog_14_method_1_code 88 = .ok (.newarray .int, 2)) (cXl_E hX _) ?_
  refine cW_nk (n' := 11) (k' := 1120) rfl rfl ?_
  refine cr_putF C pf_12_41 rfl rfl (Nat.le_of_ble_eq_true rfl) (by decide +kernel : decode prog_14_method_1_code 90 = .ok (.putfield 41, 3)) ?_
  refine cr_aload C hl (j := 0) (by decide +kernel : decode prog_14_method_1_code 93 = .ok (.aload_n 0, 1)) rfl ?_
  refine cr_iconst C (v := nI 2) (by decide +kernel : decode prog_14_method_1_code 94 = .ok (.iconst 2, 1)) (by decide) ?_
  refine cr_newa C zAT1 (N := 2) (a0 := (2, .inl (fun _ => 0))) (fun _ => rfl) rfl (by decide) (by decide) (hQ 11 _ rfl) (hR _ _ (by decide) (by decide)) (by decide +kernel : decode prog_14_method_1_code 95 = .ok (.newarray .int, 2)) (cXl_E hX _) ?_
  refine cW_nk (n' := 12) (k' := 1122) rfl rfl ?_
  refine cr_putF C pf_12_44 rfl rfl (Nat.le_of_ble_eq_true rfl) (by decide +kernel : decode prog_14_method_1_code 97 = .ok (.putfield 44, 3)) ?_
  refine cr_aload C hl (j := 0) (by decide +kernel : decode prog_14_method_1_code 100 = .ok (.aload_n 0, 1)) rfl ?_
  refine cr_iconst C (v := nI 2) (by decide +kernel : decode prog_14_method_1_code 101 = .ok (.iconst 2, 1)) (by decide) ?_
  refine cr_newa C zAT1 (N := 2) (a0 := (2, .inl (fun _ => 0))) (fun _ => rfl) rfl (by decide) (by decide) (hQ 12 _ rfl) (hR _ _ (by decide) (by decide)) (by decide +kernel : decode prog_14_method_1_code 102 = .ok (.newarray .int, 2)) (cXl_E hX _) ?_
  refine cW_nk (n' := 13) (k' := 1124) rfl rfl ?_
  refine cr_putF C pf_12_47 rfl rfl (Nat.le_of_ble_eq_true rfl) (by decide +kernel : decode prog_14_method_1_code 104 = .ok (.putfield 47, 3)) ?_
  refine cr_aload C hl (j := 0) (by decide +kernel : decode prog_14_method_1_code 107 = .ok (.aload_n 0, 1)) rfl ?_
  refine cr_sipush C (v := nI 2000) (by decide +kernel : decode prog_14_method_1_code 108 = .ok (.sipush 2000, 3)) (by decide) ?_
  refine cr_newa C zAT1 (N := 2000) (a0 := (2000, .inl (fun _ => 0))) (fun _ => rfl) rfl (by decide) (by decide) (hQ 13 _ rfl) (hR _ _ (by decide) (by decide)) (by decide +kernel : decode prog_14_method_1_code 111 = .ok (.newarray .int, 2)) (cXl_E hX _) ?_
  refine cW_nk (n' := 14) (k' := 3124) rfl rfl ?_
  refine cr_putF C pf_12_50 rfl rfl (Nat.le_of_ble_eq_true rfl) (by decide +kernel : decode prog_14_method_1_code 113 = .ok (.putfield 50, 3)) ?_
  refine cr_aload C hl (j := 0) (by decide +kernel : decode prog_14_method_1_code 116 = .ok (.aload_n 0, 1)) rfl ?_
  refine cr_bipush C (v := nI 7) (by decide +kernel : decode prog_14_method_1_code 117 = .ok (.bipush 7, 2)) (by decide) ?_
  refine cr_newa C zAT1 (N := 7) (a0 := (7, .inl (fun _ => 0))) (fun _ => rfl) rfl (by decide) (by decide) (hQ 14 _ rfl) (hR _ _ (by decide) (by decide)) (by decide +kernel : decode prog_14_method_1_code 119 = .ok (.newarray .int, 2)) (cXl_E hX _) ?_
  refine cW_nk (n' := 15) (k' := 3131) rfl rfl ?_
  refine cr_putF C pf_12_53 rfl rfl (Nat.le_of_ble_eq_true rfl) (by decide +kernel : decode prog_14_method_1_code 121 = .ok (.putfield 53, 3)) ?_
  refine cr_aload C hl (j := 0) (by decide +kernel : decode prog_14_method_1_code 124 = .ok (.aload_n 0, 1)) rfl ?_
  refine cr_bipush C (v := nI 7) (by decide +kernel : decode prog_14_method_1_code 125 = .ok (.bipush 7, 2)) (by decide) ?_
  refine cr_newa C zAT4 (N := 7) (a0 := (7, .inl (fun _ => 0))) (fun _ => rfl) rfl (by decide) (by decide) (hQ 15 _ rfl) (hR _ _ (by decide) (by decide)) (by decide +kernel : decode prog_14_method_1_code 127 = .ok (.newarray .boolean, 2)) (cXl_E hX _) ?_
  refine cW_nk (n' := 16) (k' := 3138) rfl rfl ?_
  refine cr_putF C pf_12_56 rfl rfl (Nat.le_of_ble_eq_true rfl) (by decide +kernel : decode prog_14_method_1_code 129 = .ok (.putfield 56, 3)) ?_
  refine cr_aload C hl (j := 0) (by decide +kernel : decode prog_14_method_1_code 132 = .ok (.aload_n 0, 1)) rfl ?_
  refine cr_bipush C (v := nI 7) (by decide +kernel : decode prog_14_method_1_code 133 = .ok (.bipush 7, 2)) (by decide) ?_
  refine cr_newa C zAT1 (N := 7) (a0 := (7, .inl (fun _ => 0))) (fun _ => rfl) rfl (by decide) (by decide) (hQ 16 _ rfl) (hR _ _ (by decide) (by decide)) (by decide +kernel : decode prog_14_method_1_code 135 = .ok (.newarray .int, 2)) (cXl_E hX _) ?_
  refine cW_nk (n' := 17) (k' := 3145) rfl rfl ?_
  refine cr_putF C pf_12_60 rfl rfl (Nat.le_of_ble_eq_true rfl) (by decide +kernel : decode prog_14_method_1_code 137 = .ok (.putfield 60, 3)) ?_
  refine cr_aload C hl (j := 0) (by decide +kernel : decode prog_14_method_1_code 140 = .ok (.aload_n 0, 1)) rfl ?_
  refine cr_bipush C (v := nI 7) (by decide +kernel : decode prog_14_method_1_code 141 = .ok (.bipush 7, 2)) (by decide) ?_
  refine cr_newa C zAT1 (N := 7) (a0 := (7, .inl (fun _ => 0))) (fun _ => rfl) rfl (by decide) (by decide) (hQ 17 _ rfl) (hR _ _ (by decide) (by decide)) (by decide +kernel : decode prog_14_method_1_code 143 = .ok (.newarray .int, 2)) (cXl_E hX _) ?_
  refine cW_nk (n' := 18) (k' := 3152) rfl rfl ?_
  refine cr_putF C pf_12_63 rfl rfl (Nat.le_of_ble_eq_true rfl) (by decide +kernel : decode prog_14_method_1_code 145 = .ok (.putfield 63, 3)) ?_
  refine cr_aload C hl (j := 0) (by decide +kernel : decode prog_14_method_1_code 148 = .ok (.aload_n 0, 1)) rfl ?_
  refine cr_bipush C (v := nI 7) (by decide +kernel : decode prog_14_method_1_code 149 = .ok (.bipush 7, 2)) (by decide) ?_
  refine cr_newa C zAT1 (N := 7) (a0 := (7, .inl (fun _ => 0))) (fun _ => rfl) rfl (by decide) (by decide) (hQ 18 _ rfl) (hR _ _ (by decide) (by decide)) (by decide +kernel : decode prog_14_method_1_code 151 = .ok (.newarray .int, 2)) (cXl_E hX _) ?_
  refine cW_nk (n' := 19) (k' := 3159) rfl rfl ?_
  refine cr_putF C pf_12_66 rfl rfl (Nat.le_of_ble_eq_true rfl) (by decide +kernel : decode prog_14_method_1_code 153 = .ok (.putfield 66, 3)) ?_
  refine cr_aload C hl (j := 0) (by decide +kernel : decode prog_14_method_1_code 156 = .ok (.aload_n 0, 1)) rfl ?_
  refine cr_bipush C (v := nI 7) (by decide +kernel : decode prog_14_method_1_code 157 = .ok (.bipush 7, 2)) (by decide) ?_
  refine cr_newa C zAT1 (N := 7) (a0 := (7, .inl (fun _ => 0))) (fun _ => rfl) rfl (by decide) (by decide) (hQ 19 _ rfl) (hR _ _ (by decide) (by decide)) (by decide +kernel : decode prog_14_method_1_code 159 = .ok (.newarray .int, 2)) (cXl_E hX _) ?_
  refine cW_nk (n' := 20) (k' := 3166) rfl rfl ?_
  refine cr_putF C pf_12_69 rfl rfl (Nat.le_of_ble_eq_true rfl) (by decide +kernel : decode prog_14_method_1_code 161 = .ok (.putfield 69, 3)) ?_
  refine cr_aload C hl (j := 0) (by decide +kernel : decode prog_14_method_1_code 164 = .ok (.aload_n 0, 1)) rfl ?_
  refine cr_bipush C (v := nI 7) (by decide +kernel : decode prog_14_method_1_code 165 = .ok (.bipush 7, 2)) (by decide) ?_
  refine cr_newa C zAT1 (N := 7) (a0 := (7, .inl (fun _ => 0))) (fun _ => rfl) rfl (by decide) (by decide) (hQ 20 _ rfl) (hR _ _ (by decide) (by decide)) (by decide +kernel : decode prog_14_method_1_code 167 = .ok (.newarray .int, 2)) (cXl_E hX _) ?_
  refine cW_nk (n' := 21) (k' := 3173) rfl rfl ?_
  refine cr_putF C pf_12_72 rfl rfl (Nat.le_of_ble_eq_true rfl) (by decide +kernel : decode prog_14_method_1_code 169 = .ok (.putfield 72, 3)) ?_
  refine cr_aload C hl (j := 0) (by decide +kernel : decode prog_14_method_1_code 172 = .ok (.aload_n 0, 1)) rfl ?_
  refine cr_bipush C (v := nI 7) (by decide +kernel : decode prog_14_method_1_code 173 = .ok (.bipush 7, 2)) (by decide) ?_
  refine cr_newa C zAT1 (N := 7) (a0 := (7, .inl (fun _ => 0))) (fun _ => rfl) rfl (by decide) (by decide) (hQ 21 _ rfl) (hR _ _ (by decide) (by decide)) (by decide +kernel : decode prog_14_method_1_code 175 = .ok (.newarray .int, 2)) (cXl_E hX _) ?_
  refine cW_nk (n' := 22) (k' := 3180) rfl rfl ?_
  refine cr_putF C pf_12_75 rfl rfl (Nat.le_of_ble_eq_true rfl) (by decide +kernel : decode prog_14_method_1_code 177 = .ok (.putfield 75, 3)) ?_
  refine cr_aload C hl (j := 0) (by decide +kernel : decode prog_14_method_1_code 180 = .ok (.aload_n 0, 1)) rfl ?_
  refine cr_bipush C (v := nI 7) (by decide +kernel : decode prog_14_method_1_code 181 = .ok (.bipush 7, 2)) (by decide) ?_
  refine cr_newa C zAT1 (N := 7) (a0 := (7, .inl (fun _ => 0))) (fun _ => rfl) rfl (by decide) (by decide) (hQ 22 _ rfl) (hR _ _ (by decide) (by decide)) (by decide +kernel : decode prog_14_method_1_code 183 = .ok (.newarray .int, 2)) (cXl_E hX _) ?_
  refine cW_nk (n' := 23) (k' := 3187) rfl rfl ?_
  refine cr_putF C pf_12_78 rfl rfl (Nat.le_of_ble_eq_true rfl) (by decide +kernel : decode prog_14_method_1_code 185 = .ok (.putfield 78, 3)) ?_
  refine cr_aload C hl (j := 0) (by decide +kernel : decode prog_14_method_1_code 188 = .ok (.aload_n 0, 1)) rfl ?_
  refine cr_bipush C (v := nI 7) (by decide +kernel : decode prog_14_method_1_code 189 = .ok (.bipush 7, 2)) (by decide) ?_
  refine cr_newa C zAT1 (N := 7) (a0 := (7, .inl (fun _ => 0))) (fun _ => rfl) rfl (by decide) (by decide) (hQ 23 _ rfl) (hR _ _ (by decide) (by decide)) (by decide +kernel : decode prog_14_method_1_code 191 = .ok (.newarray .int, 2)) (cXl_E hX _) ?_
  refine cW_nk (n' := 24) (k' := 3194) rfl rfl ?_
  refine cr_putF C pf_12_81 rfl rfl (Nat.le_of_ble_eq_true rfl) (by decide +kernel : decode prog_14_method_1_code 193 = .ok (.putfield 81, 3)) ?_
  refine cr_aload C hl (j := 0) (by decide +kernel : decode prog_14_method_1_code 196 = .ok (.aload_n 0, 1)) rfl ?_
  refine cr_bipush C (v := nI 7) (by decide +kernel : decode prog_14_method_1_code 197 = .ok (.bipush 7, 2)) (by decide) ?_
  refine cr_newa C zAT1 (N := 7) (a0 := (7, .inl (fun _ => 0))) (fun _ => rfl) rfl (by decide) (by decide) (hQ 24 _ rfl) (hR _ _ (by decide) (by decide)) (by decide +kernel : decode prog_14_method_1_code 199 = .ok (.newarray .int, 2)) (cXl_E hX _) ?_
  refine cW_nk (n' := 25) (k' := 3201) rfl rfl ?_
  refine cr_putF C pf_12_84 rfl rfl (Nat.le_of_ble_eq_true rfl) (by decide +kernel : decode prog_14_method_1_code 201 = .ok (.putfield 84, 3)) ?_
  refine cr_aload C hl (j := 0) (by decide +kernel : decode prog_14_method_1_code 204 = .ok (.aload_n 0, 1)) rfl ?_
  refine cr_bipush C (v := nI 20) (by decide +kernel : decode prog_14_method_1_code 205 = .ok (.bipush 20, 2)) (by decide) ?_
  refine cr_newa C zAT1 (N := 20) (a0 := (20, .inl (fun _ => 0))) (fun _ => rfl) rfl (by decide) (by decide) (hQ 25 _ rfl) (hR _ _ (by decide) (by decide)) (by decide +kernel : decode prog_14_method_1_code 207 = .ok (.newarray .int, 2)) (cXl_E hX _) ?_
  refine cW_nk (n' := 26) (k' := 3221) rfl rfl ?_
  refine cr_putF C pf_12_87 rfl rfl (Nat.le_of_ble_eq_true rfl) (by decide +kernel : decode prog_14_method_1_code 209 = .ok (.putfield 87, 3)) ?_
  refine cr_aload C hl (j := 0) (by decide +kernel : decode prog_14_method_1_code 212 = .ok (.aload_n 0, 1)) rfl ?_
  refine cr_bipush C (v := nI 6) (by decide +kernel : decode prog_14_method_1_code 213 = .ok (.bipush 6, 2)) (by decide) ?_
  refine cr_newa C zAT1 (N := 6) (a0 := (6, .inl (fun _ => 0))) (fun _ => rfl) rfl (by decide) (by decide) (hQ 26 _ rfl) (hR _ _ (by decide) (by decide)) (by decide +kernel : decode prog_14_method_1_code 215 = .ok (.newarray .int, 2)) (cXl_E hX _) ?_
  refine cW_nk (n' := 27) (k' := 3227) rfl rfl ?_
  refine cr_putF C pf_12_90 rfl rfl (Nat.le_of_ble_eq_true rfl) (by decide +kernel : decode prog_14_method_1_code 217 = .ok (.putfield 90, 3)) ?_
  refine cr_aload C hl (j := 0) (by decide +kernel : decode prog_14_method_1_code 220 = .ok (.aload_n 0, 1)) rfl ?_
  refine cr_sipush C (v := nI 240) (by decide +kernel : decode prog_14_method_1_code 221 = .ok (.sipush 240, 3)) (by decide) ?_
  refine cr_newa C zAT1 (N := 240) (a0 := (240, .inl (fun _ => 0))) (fun _ => rfl) rfl (by decide) (by decide) (hQ 27 _ rfl) (hR _ _ (by decide) (by decide)) (by decide +kernel : decode prog_14_method_1_code 224 = .ok (.newarray .int, 2)) (cXl_E hX _) ?_
  refine cW_nk (n' := 28) (k' := 3467) rfl rfl ?_
  refine cr_putF C pf_12_93 rfl rfl (Nat.le_of_ble_eq_true rfl) (by decide +kernel : decode prog_14_method_1_code 226 = .ok (.putfield 93, 3)) ?_
  refine cr_aload C hl (j := 0) (by decide +kernel : decode prog_14_method_1_code 229 = .ok (.aload_n 0, 1)) rfl ?_
  refine cr_sipush C (v := nI 240) (by decide +kernel : decode prog_14_method_1_code 230 = .ok (.sipush 240, 3)) (by decide) ?_
  refine cr_newa C zAT1 (N := 240) (a0 := (240, .inl (fun _ => 0))) (fun _ => rfl) rfl (by decide) (by decide) (hQ 28 _ rfl) (hR _ _ (by decide) (by decide)) (by decide +kernel : decode prog_14_method_1_code 233 = .ok (.newarray .int, 2)) (cXl_E hX _) ?_
  refine cW_nk (n' := 29) (k' := 3707) rfl rfl ?_
  refine cr_putF C pf_12_96 rfl rfl (Nat.le_of_ble_eq_true rfl) (by decide +kernel : decode prog_14_method_1_code 235 = .ok (.putfield 96, 3)) ?_
  refine cr_aload C hl (j := 0) (by decide +kernel : decode prog_14_method_1_code 238 = .ok (.aload_n 0, 1)) rfl ?_
  refine cr_sipush C (v := nI 240) (by decide +kernel : decode prog_14_method_1_code 239 = .ok (.sipush 240, 3)) (by decide) ?_
  refine cr_newa C zAT1 (N := 240) (a0 := (240, .inl (fun _ => 0))) (fun _ => rfl) rfl (by decide) (by decide) (hQ 29 _ rfl) (hR _ _ (by decide) (by decide)) (by decide +kernel : decode prog_14_method_1_code 242 = .ok (.newarray .int, 2)) (cXl_E hX _) ?_
  refine cW_nk (n' := 30) (k' := 3947) rfl rfl ?_
  refine cr_putF C pf_12_99 rfl rfl (Nat.le_of_ble_eq_true rfl) (by decide +kernel : decode prog_14_method_1_code 244 = .ok (.putfield 99, 3)) ?_
  refine cr_aload C hl (j := 0) (by decide +kernel : decode prog_14_method_1_code 247 = .ok (.aload_n 0, 1)) rfl ?_
  refine cr_iconst C (v := nI 5) (by decide +kernel : decode prog_14_method_1_code 248 = .ok (.iconst 5, 1)) (by decide) ?_
  refine cr_newa C zAT1 (N := 5) (a0 := (5, .inl (fun _ => 0))) (fun _ => rfl) rfl (by decide) (by decide) (hQ 30 _ rfl) (hR _ _ (by decide) (by decide)) (by decide +kernel : decode prog_14_method_1_code 249 = .ok (.newarray .int, 2)) (cXl_E hX _) ?_
  refine cW_nk (n' := 31) (k' := 3952) rfl rfl ?_
  refine cr_putF C pf_12_102 rfl rfl (Nat.le_of_ble_eq_true rfl) (by decide +kernel : decode prog_14_method_1_code 251 = .ok (.putfield 102, 3)) ?_
  refine cr_aload C hl (j := 0) (by decide +kernel : decode prog_14_method_1_code 254 = .ok (.aload_n 0, 1)) rfl ?_
  refine cr_bipush C (v := nI 40) (by decide +kernel : decode prog_14_method_1_code 255 = .ok (.bipush 40, 2)) (by decide) ?_
  refine cr_newa C zAT1 (N := 40) (a0 := (40, .inl (fun _ => 0))) (fun _ => rfl) rfl (by decide) (by decide) (hQ 31 _ rfl) (hR _ _ (by decide) (by decide)) (by decide +kernel : decode prog_14_method_1_code 257 = .ok (.newarray .int, 2)) (cXl_E hX _) ?_
  refine cW_nk (n' := 32) (k' := 3992) rfl rfl ?_
  refine cr_putF C pf_12_105 rfl rfl (Nat.le_of_ble_eq_true rfl) (by decide +kernel : decode prog_14_method_1_code 259 = .ok (.putfield 105, 3)) ?_
  refine cr_aload C hl (j := 0) (by decide +kernel : decode prog_14_method_1_code 262 = .ok (.aload_n 0, 1)) rfl ?_
  refine cr_bipush C (v := nI 40) (by decide +kernel : decode prog_14_method_1_code 263 = .ok (.bipush 40, 2)) (by decide) ?_
  refine cr_newa C zAT1 (N := 40) (a0 := (40, .inl (fun _ => 0))) (fun _ => rfl) rfl (by decide) (by decide) (hQ 32 _ rfl) (hR _ _ (by decide) (by decide)) (by decide +kernel : decode prog_14_method_1_code 265 = .ok (.newarray .int, 2)) (cXl_E hX _) ?_
  refine cW_nk (n' := 33) (k' := 4032) rfl rfl ?_
  refine cr_putF C pf_12_108 rfl rfl (Nat.le_of_ble_eq_true rfl) (by decide +kernel : decode prog_14_method_1_code 267 = .ok (.putfield 108, 3)) ?_
  refine cr_aload C hl (j := 0) (by decide +kernel : decode prog_14_method_1_code 270 = .ok (.aload_n 0, 1)) rfl ?_
  refine cr_bipush C (v := nI 40) (by decide +kernel : decode prog_14_method_1_code 271 = .ok (.bipush 40, 2)) (by decide) ?_
  refine cr_newa C zAT1 (N := 40) (a0 := (40, .inl (fun _ => 0))) (fun _ => rfl) rfl (by decide) (by decide) (hQ 33 _ rfl) (hR _ _ (by decide) (by decide)) (by decide +kernel : decode prog_14_method_1_code 273 = .ok (.newarray .int, 2)) (cXl_E hX _) ?_
  refine cW_nk (n' := 34) (k' := 4072) rfl rfl ?_
  refine cr_putF C pf_12_111 rfl rfl (Nat.le_of_ble_eq_true rfl) (by decide +kernel : decode prog_14_method_1_code 275 = .ok (.putfield 111, 3)) ?_
  refine cr_aload C hl (j := 0) (by decide +kernel : decode prog_14_method_1_code 278 = .ok (.aload_n 0, 1)) rfl ?_
  refine cr_bipush C (v := nI 24) (by decide +kernel : decode prog_14_method_1_code 279 = .ok (.bipush 24, 2)) (by decide) ?_
  refine cr_newa C zAT1 (N := 24) (a0 := (24, .inl (fun _ => 0))) (fun _ => rfl) rfl (by decide) (by decide) (hQ 34 _ rfl) (hR _ _ (by decide) (by decide)) (by decide +kernel : decode prog_14_method_1_code 281 = .ok (.newarray .int, 2)) (cXl_E hX _) ?_
  refine cW_nk (n' := 35) (k' := 4096) rfl rfl ?_
  refine cr_putF C pf_12_114 rfl rfl (Nat.le_of_ble_eq_true rfl) (by decide +kernel : decode prog_14_method_1_code 283 = .ok (.putfield 114, 3)) ?_
  refine cr_aload C hl (j := 0) (by decide +kernel : decode prog_14_method_1_code 286 = .ok (.aload_n 0, 1)) rfl ?_
  refine cr_bipush C (v := nI 24) (by decide +kernel : decode prog_14_method_1_code 287 = .ok (.bipush 24, 2)) (by decide) ?_
  refine cr_newa C zAT1 (N := 24) (a0 := (24, .inl (fun _ => 0))) (fun _ => rfl) rfl (by decide) (by decide) (hQ 35 _ rfl) (hR _ _ (by decide) (by decide)) (by decide +kernel : decode prog_14_method_1_code 289 = .ok (.newarray .int, 2)) (cXl_E hX _) ?_
  refine cW_nk (n' := 36) (k' := 4120) rfl rfl ?_
  refine cr_putF C pf_12_117 rfl rfl (Nat.le_of_ble_eq_true rfl) (by decide +kernel : decode prog_14_method_1_code 291 = .ok (.putfield 117, 3)) ?_
  refine cr_aload C hl (j := 0) (by decide +kernel : decode prog_14_method_1_code 294 = .ok (.aload_n 0, 1)) rfl ?_
  refine cr_bipush C (v := nI 24) (by decide +kernel : decode prog_14_method_1_code 295 = .ok (.bipush 24, 2)) (by decide) ?_
  refine cr_newa C zAT1 (N := 24) (a0 := (24, .inl (fun _ => 0))) (fun _ => rfl) rfl (by decide) (by decide) (hQ 36 _ rfl) (hR _ _ (by decide) (by decide)) (by decide +kernel : decode prog_14_method_1_code 297 = .ok (.newarray .int, 2)) (cXl_E hX _) ?_
  refine cW_nk (n' := 37) (k' := 4144) rfl rfl ?_
  refine cr_putF C pf_12_120 rfl rfl (Nat.le_of_ble_eq_true rfl) (by decide +kernel : decode prog_14_method_1_code 299 = .ok (.putfield 120, 3)) ?_
  refine cr_aload C hl (j := 0) (by decide +kernel : decode prog_14_method_1_code 302 = .ok (.aload_n 0, 1)) rfl ?_
  refine cr_bipush C (v := nI 96) (by decide +kernel : decode prog_14_method_1_code 303 = .ok (.bipush 96, 2)) (by decide) ?_
  refine cr_newa C zAT1 (N := 96) (a0 := (96, .inl (fun _ => 0))) (fun _ => rfl) rfl (by decide) (by decide) (hQ 37 _ rfl) (hR _ _ (by decide) (by decide)) (by decide +kernel : decode prog_14_method_1_code 305 = .ok (.newarray .int, 2)) (cXl_E hX _) ?_
  refine cW_nk (n' := 38) (k' := 4240) rfl rfl ?_
  refine cr_putF C pf_12_123 rfl rfl (Nat.le_of_ble_eq_true rfl) (by decide +kernel : decode prog_14_method_1_code 307 = .ok (.putfield 123, 3)) ?_
  refine cr_aload C hl (j := 0) (by decide +kernel : decode prog_14_method_1_code 310 = .ok (.aload_n 0, 1)) rfl ?_
  refine cr_sipush C (v := nI 384) (by decide +kernel : decode prog_14_method_1_code 311 = .ok (.sipush 384, 3)) (by decide) ?_
  refine cr_newa C zAT1 (N := 384) (a0 := (384, .inl (fun _ => 0))) (fun _ => rfl) rfl (by decide) (by decide) (hQ 38 _ rfl) (hR _ _ (by decide) (by decide)) (by decide +kernel : decode prog_14_method_1_code 314 = .ok (.newarray .int, 2)) (cXl_E hX _) ?_
  refine cW_nk (n' := 39) (k' := 4624) rfl rfl ?_
  refine cr_putF C pf_12_126 rfl rfl (Nat.le_of_ble_eq_true rfl) (by decide +kernel : decode prog_14_method_1_code 316 = .ok (.putfield 126, 3)) ?_
  refine cr_aload C hl (j := 0) (by decide +kernel : decode prog_14_method_1_code 319 = .ok (.aload_n 0, 1)) rfl ?_
  refine cr_iconst C (v := nI 4) (by decide +kernel : decode prog_14_method_1_code 320 = .ok (.iconst 4, 1)) (by decide) ?_
  refine cr_newa C zAT4 (N := 4) (a0 := (4, .inl (fun _ => 0))) (fun _ => rfl) rfl (by decide) (by decide) (hQ 39 _ rfl) (hR _ _ (by decide) (by decide)) (by decide +kernel : decode prog_14_method_1_code 321 = .ok (.newarray .boolean, 2)) (cXl_E hX _) ?_
  refine cW_nk (n' := 40) (k' := 4628) rfl rfl ?_
  refine cr_putF C pf_12_129 rfl rfl (Nat.le_of_ble_eq_true rfl) (by decide +kernel : decode prog_14_method_1_code 323 = .ok (.putfield 129, 3)) ?_
  refine cr_aload C hl (j := 0) (by decide +kernel : decode prog_14_method_1_code 326 = .ok (.aload_n 0, 1)) rfl ?_
  refine cr_sipush C (v := nI 4704) (by decide +kernel : decode prog_14_method_1_code 327 = .ok (.sipush 4704, 3)) (by decide) ?_
  refine cr_newa C zAT1 (N := 4704) (a0 := (4704, .inl (fun _ => 0))) (fun _ => rfl) rfl (by decide) (by decide) (hQ 40 _ rfl) (hR _ _ (by decide) (by decide)) (by decide +kernel : decode prog_14_method_1_code 330 = .ok (.newarray .int, 2)) (cXl_E hX _) ?_
  refine cW_nk (n' := 41) (k' := 9332) rfl rfl ?_
  refine cr_putF C pf_12_132 rfl rfl (Nat.le_of_ble_eq_true rfl) (by decide +kernel : decode prog_14_method_1_code 332 = .ok (.putfield 132, 3)) ?_
  refine cr_aload C hl (j := 0) (by decide +kernel : decode prog_14_method_1_code 335 = .ok (.aload_n 0, 1)) rfl ?_
  refine cr_iconst C (v := 0) (by decide +kernel : decode prog_14_method_1_code 336 = .ok (.iconst 0, 1)) (by decide) ?_
  refine cW_eq (w := ([] : va_W) ++ zws ad cy lm_ h0_) rfl rfl rfl ?_
  refine cr_small C hX (as := [.inl 0]) (j := 0) zMV_12_135 (fun hi => k_X12_usual zclm hi) us_0 (fun v hv => by rcases List.mem_cons.mp hv with rfl | hv; exact Or.inl List.mem_cons_self; rcases List.mem_cons.mp hv with rfl | hv; trivial; cases hv) (by decide) rfl hl.1 (Nat.le_of_ble_eq_true rfl) (hR _ _ (by decide) (by decide)) (by decide +kernel : decode prog_14_method_1_code 337 = .ok (.invokevirtual 135, 3)) ?_
  exact cW_eq rfl rfl rfl (hE 340 ls (by decide +kernel : decode prog_14_method_1_code 340 = .ok (.return_, 1)))
