theorem zMV_11_80 : zMV "SoapTreaty" 80 6 y_X6_readCongress prog_8_method_2_code 2 (some .int) 0 := ⟨⟨zT_of 557 (by decide +kernel) (by decide +kernel), zT_of 558 (by decide +kernel) (by decide +kernel), zT_of 559 (by decide +kernel) (by decide +kernel), zT_of 106 (by decide +kernel) (by decide +kernel), zT_of 560 (by decide +kernel) (by decide +kernel)⟩, by decide, rfl, ⟨zT6, 7, rfl⟩, by decide, by decide, by decide +kernel⟩
theorem zMV_11_87 : zMV "SoapTreaty" 87 0 y_X0_copyFrom prog_2_method_3_code 2 none 1 := ⟨⟨zT_of 715 (by decide +kernel) (by decide +kernel), zT_of 716 (by decide +kernel) (by decide +kernel), zT_of 717 (by decide +kernel) (by decide +kernel), zT_of 104 (by decide +kernel) (by decide +kernel), zT_of 718 (by decide +kernel) (by decide +kernel)⟩, by decide, rfl, ⟨zT0, 13, rfl⟩, by decide, by decide, by decide +kernel⟩
theorem zMV_11_90 : zMV "SoapTreaty" 90 4 y_X4_begin prog_6_method_2_code 1 none 0 := ⟨⟨zT_of 727 (by decide +kernel) (by decide +kernel), zT_of 728 (by decide +kernel) (by decide +kernel), zT_of 729 (by decide +kernel) (by decide +kernel), zT_of 114 (by decide +kernel) (by decide +kernel), zT_of 730 (by decide +kernel) (by decide +kernel)⟩, by decide, rfl, ⟨zT4, 3, rfl⟩, by decide, by decide, by decide +kernel⟩
/-! SoapTreaty.congress()I -/
def y_X11_congress : MethodName := ⟨"SoapTreaty", "congress", "()I"⟩
noncomputable def p_X11_congress_0 : List (Nat × zO) := [(0, zo_aload 0 1),
  (1, zo_getR 11 6 none 4),
  (4, zo_vir 6 1 (zo_calli (f_X6_readCongress) 1 7)),
  (7, zo_istore 1 8),
  (8, zo_aload 0 9),
  (9, zo_getR 11 9 none 12),
  (12, zo_push (.inl 0) 13),
  (13, zo_putI 9 1 16),
  (16, zo_iload 1 17),
  (17, zo_0ne 54 20),
  (20, zo_aload 0 21),
  (21, zo_getR 11 0 (some 0) 24),
  (24, zo_aload 0 25),
  (25, zo_getR 11 6 none 28),
  (28, zo_getR 6 0 (some 1) 31),
  (31, zo_vir 0 2 (zo_callv (f_X0_copyFrom) 2 34)),
  (34, zo_aload 0 35),
  (35, zo_getR 11 4 (some 0) 38),
  (38, zo_vir 4 1 (zo_callv (f_X4_begin) 1 41)),
  (41, zo_aload 0 42)]
noncomputable def p_X11_congress_1 : List (Nat × zO) := [(42, zo_getR 11 5 none 45),
  (45, zo_push (.inl 0) 46),
  (46, zo_putI 5 2 49),
  (49, zo_aload 0 50),
  (50, zo_push (.inl 0) 51),
  (51, zo_putI 11 8 54),
  (54, zo_iload 1 55),
  (55, zo_iret)]
noncomputable def p_X11_congress : Nat → zO := zgs [(42, p_X11_congress_0), (56, p_X11_congress_1)]
theorem t_X11_congress : ∀ k, zTl (p_X11_congress k) := fun k => zgs_all (c := [(42, p_X11_congress_0), (56, p_X11_congress_1)]) (fun _ => zl_bad) ⟨⟨zl_aload, zl_getR, (zl_vir zl_calli), zl_istore, zl_aload, zl_getR, zl_push, zl_putI, zl_iload, zl_0ne, zl_aload, zl_getR, zl_aload, zl_getR, zl_getR, (zl_vir zl_callv), zl_aload, zl_getR, (zl_vir zl_callv), zl_aload, trivial⟩, ⟨zl_getR, zl_push, zl_putI, zl_aload, zl_push, zl_putI, zl_iload, zl_iret, trivial⟩, trivial⟩ k
noncomputable def f_X11_congress : zS := zrun p_X11_congress 2
set_option maxRecDepth 20000 in
theorem s_X11_congress_0 {l : Launch} {D : va_G} {ad : Nat → Nat → Nat} {cy : Nat → ClassId} {L : List (Nat × Nat)} (hcl : zclo L = true) (hinj : zAd ad L) {X : zCtx} (hX : zXok X "SoapTreaty" prog_1_method_3_code 2) (hR : zRt X (some .int)) (hl : zXl X l D ad cy L (zroom 63)) : zAllR (zSo X) p_X11_congress_0 := ⟨zs_aload_n (i := 0) rfl hX (by decide +kernel : decode prog_1_method_3_code 0 = .ok (.aload_n 0, 1)) rfl (by decide),
  zs_getR hX zFL_11_28 (by decide +kernel : decode prog_1_method_3_code 1 = .ok (.getfield 28, 3)) rfl,
  zs_callVi hX zMV_11_80 (zXc_of hl (by decide) (k_X6_readCongress hcl hinj)) (by decide +kernel : decode prog_1_method_3_code 4 = .ok (.invokevirtual 80, 3)) rfl,
  zs_istore_n (i := 1) rfl hX (by decide +kernel : decode prog_1_method_3_code 7 = .ok (.istore_n 1, 1)) rfl (by decide),
  zs_aload_n (i := 0) rfl hX (by decide +kernel : decode prog_1_method_3_code 8 = .ok (.aload_n 0, 1)) rfl (by decide),
  zs_getR hX zFL_11_10 (by decide +kernel : decode prog_1_method_3_code 9 = .ok (.getfield 10, 3)) rfl,
  zs_pushI (zg_iconst (by decide) hX (by decide +kernel : decode prog_1_method_3_code 12 = .ok (.iconst 0, 1)) rfl),
  zs_putI hX zFP_11_77 (by decide +kernel : decode prog_1_method_3_code 13 = .ok (.putfield 77, 3)) rfl,
  zs_iload_n (i := 1) rfl hX (by decide +kernel : decode prog_1_method_3_code 16 = .ok (.iload_n 1, 1)) rfl (by decide),
  zs_0ne hX (by decide +kernel : decode prog_1_method_3_code 17 = .ok (.ifCond .ne 37, 3)) (by decide) rfl,
  zs_aload_n (i := 0) rfl hX (by decide +kernel : decode prog_1_method_3_code 20 = .ok (.aload_n 0, 1)) rfl (by decide),
  zs_getR hX zFL_11_19 (by decide +kernel : decode prog_1_method_3_code 21 = .ok (.getfield 19, 3)) rfl,
  zs_aload_n (i := 0) rfl hX (by decide +kernel : decode prog_1_method_3_code 24 = .ok (.aload_n 0, 1)) rfl (by decide),
  zs_getR hX zFL_11_28 (by decide +kernel : decode prog_1_method_3_code 25 = .ok (.getfield 28, 3)) rfl,
  zs_getR hX zFL_11_84 (by decide +kernel : decode prog_1_method_3_code 28 = .ok (.getfield 84, 3)) rfl,
  zs_callVv hX zMV_11_87 (zXc_of hl (by decide) (k_X0_copyFrom hcl hinj)) (by decide +kernel : decode prog_1_method_3_code 31 = .ok (.invokevirtual 87, 3)) rfl,
  zs_aload_n (i := 0) rfl hX (by decide +kernel : decode prog_1_method_3_code 34 = .ok (.aload_n 0, 1)) rfl (by decide),
  zs_getR hX zFL_11_37 (by decide +kernel : decode prog_1_method_3_code 35 = .ok (.getfield 37, 3)) rfl,
  zs_callVv hX zMV_11_90 (zXc_of hl (by decide) (k_X4_begin hcl hinj)) (by decide +kernel : decode prog_1_method_3_code 38 = .ok (.invokevirtual 90, 3)) rfl,
  zs_aload_n (i := 0) rfl hX (by decide +kernel : decode prog_1_method_3_code 41 = .ok (.aload_n 0, 1)) rfl (by decide), trivial⟩
set_option maxRecDepth 20000 in
theorem s_X11_congress_1 {l : Launch} {D : va_G} {ad : Nat → Nat → Nat} {cy : Nat → ClassId} {L : List (Nat × Nat)} (hcl : zclo L = true) (hinj : zAd ad L) {X : zCtx} (hX : zXok X "SoapTreaty" prog_1_method_3_code 2) (hR : zRt X (some .int)) (hl : zXl X l D ad cy L (zroom 63)) : zAllR (zSo X) p_X11_congress_1 := ⟨zs_getR hX zFL_11_48 (by decide +kernel : decode prog_1_method_3_code 42 = .ok (.getfield 48, 3)) rfl,
  zs_pushI (zg_iconst (by decide) hX (by decide +kernel : decode prog_1_method_3_code 45 = .ok (.iconst 0, 1)) rfl),
  zs_putI hX zFP_11_93 (by decide +kernel : decode prog_1_method_3_code 46 = .ok (.putfield 93, 3)) rfl,
  zs_aload_n (i := 0) rfl hX (by decide +kernel : decode prog_1_method_3_code 49 = .ok (.aload_n 0, 1)) rfl (by decide),
  zs_pushI (zg_iconst (by decide) hX (by decide +kernel : decode prog_1_method_3_code 50 = .ok (.iconst 0, 1)) rfl),
  zs_putI hX zFP_11_65 (by decide +kernel : decode prog_1_method_3_code 51 = .ok (.putfield 65, 3)) rfl,
  zs_iload_n (i := 1) rfl hX (by decide +kernel : decode prog_1_method_3_code 54 = .ok (.iload_n 1, 1)) rfl (by decide),
  zs_iret hX hR (by decide +kernel : decode prog_1_method_3_code 55 = .ok (.ireturn, 1)), trivial⟩
theorem k_X11_congress {l : Launch} {D : va_G} {ad : Nat → Nat → Nat} {cy : Nat → ClassId} {L : List (Nat × Nat)} (hcl : zclo L = true) (hinj : zAd ad L) : zCk l D ad cy L 63 f_X11_congress y_X11_congress (.code y_X11_congress prog_1_method_3_code 2 (some .int)) :=
  z_met (by decide) t_X11_congress hcl hinj (fun X hX hR hl k => zgs_all (Q := zSo X) (c := [(42, p_X11_congress_0), (56, p_X11_congress_1)]) (fun _ => zs_bad) ⟨s_X11_congress_0 hcl hinj hX hR hl, s_X11_congress_1 hcl hinj hX hR hl, trivial⟩ k)
set_option maxRecDepth 1000000 in
theorem e_X11_congress_0 (h : zH) : zL p_X11_congress 0 [some (.inr (.inr (11, 0))), none] [] h = zci (f_X6_readCongress [(.inr (.inr (6, 0)))] h) (fun r2 h1 => zf (r2 = 0) (zcv (f_X0_copyFrom [(.inr (.inr (0, 0))), (.inr (.inr (0, 1)))] (zuI h1 9 0 1 0)) (fun h3 => zcv (f_X4_begin [(.inr (.inr (4, 0)))] h3) (fun h4 => some (some (.inl r2), (zuI (zuI h4 5 0 2 0) 11 0 8 0))))) (some (some (.inl r2), (zuI h1 9 0 1 0)))) := (zL_s (t_X11_congress) [0] 1000 0 _ _ _).trans rfl
theorem g_X11_congress (h : zH) : f_X11_congress [(.inr (.inr (11, 0)))] h = zci (f_X6_readCongress [(.inr (.inr (6, 0)))] h) (fun r2 h1 => zf (r2 = 0) (zcv (f_X0_copyFrom [(.inr (.inr (0, 0))), (.inr (.inr (0, 1)))] (zuI h1 9 0 1 0)) (fun h3 => zcv (f_X4_begin [(.inr (.inr (4, 0)))] h3) (fun h4 => some (some (.inl r2), (zuI (zuI h4 5 0 2 0) 11 0 8 0))))) (some (some (.inl r2), (zuI h1 9 0 1 0)))) := (show f_X11_congress _ h = zL p_X11_congress 0 _ [] h from rfl).trans (e_X11_congress_0 h)
theorem zMV_11_96 : zMV "SoapTreaty" 96 6 y_X6_readYears prog_8_method_8_code 2 (some .int) 0 := ⟨⟨zT_of 740 (by decide +kernel) (by decide +kernel), zT_of 741 (by decide +kernel) (by decide +kernel), zT_of 742 (by decide +kernel) (by decide +kernel), zT_of 106 (by decide +kernel) (by decide +kernel), zT_of 743 (by decide +kernel) (by decide +kernel)⟩, by decide, rfl, ⟨zT6, 7, rfl⟩, by decide, by decide, by decide +kernel⟩
theorem zMV_11_106 : zMV "SoapTreaty" 106 3 y_X3_copyFrom prog_5_method_3_code 2 none 1 := ⟨⟨zT_of 752 (by decide +kernel) (by decide +kernel), zT_of 753 (by decide +kernel) (by decide +kernel), zT_of 754 (by decide +kernel) (by decide +kernel), zT_of 107 (by decide +kernel) (by decide +kernel), zT_of 755 (by decide +kernel) (by decide +kernel)⟩, by decide, rfl, ⟨zT3, 4, rfl⟩, by decide, by decide, by decide +kernel⟩
/-! SoapTreaty.years()I -/
def y_X11_years : MethodName := ⟨"SoapTreaty", "years", "()I"⟩
noncomputable def p_X11_years_0 : List (Nat × zO) := [(0, zo_aload 0 1),
  (1, zo_getR 11 6 none 4),
  (4, zo_vir 6 1 (zo_calli (f_X6_readYears) 1 7)),
  (7, zo_istore 1 8),
  (8, zo_aload 0 9),
  (9, zo_getR 11 9 none 12),
  (12, zo_push (.inl 0) 13),
  (13, zo_putI 9 1 16),
  (16, zo_iload 1 17),
  (17, zo_0ne 37 20),
  (20, zo_aload 0 21),
  (21, zo_getR 11 4 (some 0) 24),
  (24, zo_getR 4 3 none 27),
  (27, zo_aload 0 28),
  (28, zo_getR 11 6 none 31),
  (31, zo_getR 6 3 (some 5) 34),
  (34, zo_vir 3 2 (zo_callv (f_X3_copyFrom) 2 37)),
  (37, zo_iload 1 38),
  (38, zo_iret)]
noncomputable def p_X11_years : Nat → zO := zgs [(39, p_X11_years_0)]
theorem t_X11_years : ∀ k, zTl (p_X11_years k) := fun k => zgs_all (c := [(39, p_X11_years_0)]) (fun _ => zl_bad) ⟨⟨zl_aload, zl_getR, (zl_vir zl_calli), zl_istore, zl_aload, zl_getR, zl_push, zl_putI, zl_iload, zl_0ne, zl_aload, zl_getR, zl_getR, zl_aload, zl_getR, zl_getR, (zl_vir zl_callv), zl_iload, zl_iret, trivial⟩, trivial⟩ k
noncomputable def f_X11_years : zS := zrun p_X11_years 2
set_option maxRecDepth 20000 in
theorem s_X11_years_0 {l : Launch} {D : va_G} {ad : Nat → Nat → Nat} {cy : Nat → ClassId} {L : List (Nat × Nat)} (hcl : zclo L = true) (hinj : zAd ad L) {X : zCtx} (hX : zXok X "SoapTreaty" prog_1_method_4_code 2) (hR : zRt X (some .int)) (hl : zXl X l D ad cy L (zroom 7)) : zAllR (zSo X) p_X11_years_0 := ⟨zs_aload_n (i := 0) rfl hX (by decide +kernel : decode prog_1_method_4_code 0 = .ok (.aload_n 0, 1)) rfl (by decide),
  zs_getR hX zFL_11_28 (by decide +kernel : decode prog_1_method_4_code 1 = .ok (.getfield 28, 3)) rfl,
  zs_callVi hX zMV_11_96 (zXc_of hl (by decide) (k_X6_readYears hcl hinj)) (by decide +kernel : decode prog_1_method_4_code 4 = .ok (.invokevirtual 96, 3)) rfl,
  zs_istore_n (i := 1) rfl hX (by decide +kernel : decode prog_1_method_4_code 7 = .ok (.istore_n 1, 1)) rfl (by decide),
  zs_aload_n (i := 0) rfl hX (by decide +kernel : decode prog_1_method_4_code 8 = .ok (.aload_n 0, 1)) rfl (by decide),
  zs_getR hX zFL_11_10 (by decide +kernel : decode prog_1_method_4_code 9 = .ok (.getfield 10, 3)) rfl,
  zs_pushI (zg_iconst (by decide) hX (by decide +kernel : decode prog_1_method_4_code 12 = .ok (.iconst 0, 1)) rfl),
  zs_putI hX zFP_11_77 (by decide +kernel : decode prog_1_method_4_code 13 = .ok (.putfield 77, 3)) rfl,
  zs_iload_n (i := 1) rfl hX (by decide +kernel : decode prog_1_method_4_code 16 = .ok (.iload_n 1, 1)) rfl (by decide),
  zs_0ne hX (by decide +kernel : decode prog_1_method_4_code 17 = .ok (.ifCond .ne 20, 3)) (by decide) rfl,
  zs_aload_n (i := 0) rfl hX (by decide +kernel : decode prog_1_method_4_code 20 = .ok (.aload_n 0, 1)) rfl (by decide),
  zs_getR hX zFL_11_37 (by decide +kernel : decode prog_1_method_4_code 21 = .ok (.getfield 37, 3)) rfl,
  zs_getR hX zFL_11_99 (by decide +kernel : decode prog_1_method_4_code 24 = .ok (.getfield 99, 3)) rfl,
  zs_aload_n (i := 0) rfl hX (by decide +kernel : decode prog_1_method_4_code 27 = .ok (.aload_n 0, 1)) rfl (by decide),
  zs_getR hX zFL_11_28 (by decide +kernel : decode prog_1_method_4_code 28 = .ok (.getfield 28, 3)) rfl,
  zs_getR hX zFL_11_103 (by decide +kernel : decode prog_1_method_4_code 31 = .ok (.getfield 103, 3)) rfl,
  zs_callVv hX zMV_11_106 (zXc_of hl (by decide) (k_X3_copyFrom hcl hinj)) (by decide +kernel : decode prog_1_method_4_code 34 = .ok (.invokevirtual 106, 3)) rfl,
  zs_iload_n (i := 1) rfl hX (by decide +kernel : decode prog_1_method_4_code 37 = .ok (.iload_n 1, 1)) rfl (by decide),
  zs_iret hX hR (by decide +kernel : decode prog_1_method_4_code 38 = .ok (.ireturn, 1)), trivial⟩
theorem k_X11_years {l : Launch} {D : va_G} {ad : Nat → Nat → Nat} {cy : Nat → ClassId} {L : List (Nat × Nat)} (hcl : zclo L = true) (hinj : zAd ad L) : zCk l D ad cy L 7 f_X11_years y_X11_years (.code y_X11_years prog_1_method_4_code 2 (some .int)) :=
  z_met (by decide) t_X11_years hcl hinj (fun X hX hR hl k => zgs_all (Q := zSo X) (c := [(39, p_X11_years_0)]) (fun _ => zs_bad) ⟨s_X11_years_0 hcl hinj hX hR hl, trivial⟩ k)
set_option maxRecDepth 1000000 in
theorem e_X11_years_0 (h : zH) : zL p_X11_years 0 [some (.inr (.inr (11, 0))), none] [] h = zci (f_X6_readYears [(.inr (.inr (6, 0)))] h) (fun r2 h1 => zf (r2 = 0) (zcv (f_X3_copyFrom [(.inr (.inr (3, 0))), (.inr (.inr (3, 5)))] (zuI h1 9 0 1 0)) (fun h3 => some (some (.inl r2), h3))) (some (some (.inl r2), (zuI h1 9 0 1 0)))) := (zL_s (t_X11_years) [0] 1000 0 _ _ _).trans rfl
theorem g_X11_years (h : zH) : f_X11_years [(.inr (.inr (11, 0)))] h = zci (f_X6_readYears [(.inr (.inr (6, 0)))] h) (fun r2 h1 => zf (r2 = 0) (zcv (f_X3_copyFrom [(.inr (.inr (3, 0))), (.inr (.inr (3, 5)))] (zuI h1 9 0 1 0)) (fun h3 => some (some (.inl r2), h3))) (some (some (.inl r2), (zuI h1 9 0 1 0)))) := (show f_X11_years _ h = zL p_X11_years 0 _ [] h from rfl).trans (e_X11_years_0 h)
theorem zMV_11_111 : zMV "SoapTreaty" 111 0 y_X0_hasPower prog_2_method_4_code 2 (some .boolean) 1 := ⟨⟨zT_of 761 (by decide +kernel) (by decide +kernel), zT_of 762 (by decide +kernel) (by decide +kernel), zT_of 763 (by decide +kernel) (by decide +kernel), zT_of 104 (by decide +kernel) (by decide +kernel), zT_of 764 (by decide +kernel) (by decide +kernel)⟩, by decide, rfl, ⟨zT0, 13, rfl⟩, by decide, by decide, by decide +kernel⟩
theorem zMV_11_139 : zMV "SoapTreaty" 139 8 y_X8_blocOf prog_10_method_28_code 6 (some .int) 1 := ⟨⟨zT_of 810 (by decide +kernel) (by decide +kernel), zT_of 811 (by decide +kernel) (by decide +kernel), zT_of 812 (by decide +kernel) (by decide +kernel), zT_of 115 (by decide +kernel) (by decide +kernel), zT_of 813 (by decide +kernel) (by decide +kernel)⟩, by decide, rfl, ⟨zT8, 7, rfl⟩, by decide, by decide, by decide +kernel⟩
theorem zMV_11_136 : zMV "SoapTreaty" 136 8 y_X8_foesOf prog_10_method_26_code 2 (some .int) 1 := ⟨⟨zT_of 788 (by decide +kernel) (by decide +kernel), zT_of 789 (by decide +kernel) (by decide +kernel), zT_of 790 (by decide +kernel) (by decide +kernel), zT_of 115 (by decide +kernel) (by decide +kernel), zT_of 791 (by decide +kernel) (by decide +kernel)⟩, by decide, rfl, ⟨zT8, 7, rfl⟩, by decide, by decide, by decide +kernel⟩
theorem zMV_11_125 : zMV "SoapTreaty" 125 8 y_X8_cakesOf prog_10_method_16_code 4 (some .int) 1 := ⟨⟨zT_of 774 (by decide +kernel) (by decide +kernel), zT_of 775 (by decide +kernel) (by decide +kernel), zT_of 776 (by decide +kernel) (by decide +kernel), zT_of 115 (by decide +kernel) (by decide +kernel), zT_of 777 (by decide +kernel) (by decide +kernel)⟩, by decide, rfl, ⟨zT8, 7, rfl⟩, by decide, by decide, by decide +kernel⟩
theorem zMV_11_128 : zMV "SoapTreaty" 128 8 y_X8_slivers prog_10_method_17_code 3 (some .int) 0 := ⟨⟨zT_of 778 (by decide +kernel) (by decide +kernel), zT_of 779 (by decide +kernel) (by decide +kernel), zT_of 780 (by decide +kernel) (by decide +kernel), zT_of 115 (by decide +kernel) (by decide +kernel), zT_of 781 (by decide +kernel) (by decide +kernel)⟩, by decide, rfl, ⟨zT8, 7, rfl⟩, by decide, by decide, by decide +kernel⟩
theorem zMS_11_131 : zMS "SoapTreaty" 131 y_J6_bitCount prog_19_method_49_code 1 (some .int) 1 := ⟨⟨zT_of 782 (by decide +kernel) (by decide +kernel), zT_of 783 (by decide +kernel) (by decide +kernel), zT_of 120 (by decide +kernel) (by decide +kernel), zT_of 784 (by decide +kernel) (by decide +kernel)⟩, by decide, by decide, by decide, by decide +kernel⟩
theorem zMV_11_122 : zMV "SoapTreaty" 122 0 y_X0_waterOf prog_2_method_7_code 2 (some .int) 1 := ⟨⟨zT_of 770 (by decide +kernel) (by decide +kernel), zT_of 771 (by decide +kernel) (by decide +kernel), zT_of 772 (by decide +kernel) (by decide +kernel), zT_of 104 (by decide +kernel) (by decide +kernel), zT_of 773 (by decide +kernel) (by decide +kernel)⟩, by decide, rfl, ⟨zT0, 13, rfl⟩, by decide, by decide, by decide +kernel⟩
theorem zMV_11_118 : zMV "SoapTreaty" 118 0 y_X0_kindOf prog_2_method_6_code 2 (some .int) 1 := ⟨⟨zT_of 765 (by decide +kernel) (by decide +kernel), zT_of 766 (by decide +kernel) (by decide +kernel), zT_of 767 (by decide +kernel) (by decide +kernel), zT_of 104 (by decide +kernel) (by decide +kernel), zT_of 768 (by decide +kernel) (by decide +kernel)⟩, by decide, rfl, ⟨zT0, 13, rfl⟩, by decide, by decide, by decide +kernel⟩
/-! SoapTreaty.power(II)I -/
def y_X11_power : MethodName := ⟨"SoapTreaty", "power", "(II)I"⟩
noncomputable def p_X11_power_0 : List (Nat × zO) := [(0, zo_aload 0 1),
  (1, zo_getR 11 0 (some 0) 4),
  (4, zo_iload 1 5),
  (5, zo_vir 0 2 (zo_calli (f_X0_hasPower) 2 8)),
  (8, zo_0ne 13 11),
  (11, zo_push (.inl zm1) 12),
  (12, zo_iret),
  (13, zo_aload 0 14),
  (14, zo_getR 11 4 (some 0) 17),
  (17, zo_getR 4 8 none 20),
  (20, zo_astore 3 21),
  (21, zo_iload 2 22),
  (22, zo_tsw [(0, 60), (1, 69), (2, 78), (3, 84), (4, 98), (5, 104)] 116),
  (60, zo_aload 0 61),
  (61, zo_getR 11 0 (some 0) 64),
  (64, zo_iload 1 65),
  (65, zo_vir 0 2 (zo_calli (f_X0_kindOf) 2 68)),
  (68, zo_iret),
  (69, zo_aload 0 70),
  (70, zo_getR 11 0 (some 0) 73)]
noncomputable def p_X11_power_1 : List (Nat × zO) := [(73, zo_iload 1 74),
  (74, zo_vir 0 2 (zo_calli (f_X0_waterOf) 2 77)),
  (77, zo_iret),
  (78, zo_aload 3 79),
  (79, zo_iload 1 80),
  (80, zo_vir 8 2 (zo_calli (f_X8_cakesOf) 2 83)),
  (83, zo_iret),
  (84, zo_aload 3 85),
  (85, zo_iload 1 86),
  (86, zo_vir 8 2 (zo_calli (f_X8_cakesOf) 2 89)),
  (89, zo_aload 3 90),
  (90, zo_vir 8 1 (zo_calli (f_X8_slivers) 1 93)),
  (93, zo_ii (fun x y => x &&& y) 94),
  (94, zo_calli (f_J6_bitCount) 1 97),
  (97, zo_iret),
  (98, zo_aload 3 99),
  (99, zo_iload 1 100),
  (100, zo_vir 8 2 (zo_calli (f_X8_foesOf) 2 103)),
  (103, zo_iret),
  (104, zo_aload 3 105)]
noncomputable def p_X11_power_2 : List (Nat × zO) := [(105, zo_iload 1 106),
  (106, zo_vir 8 2 (zo_calli (f_X8_blocOf) 2 109)),
  (109, zo_push (.inl 1) 110),
  (110, zo_iload 1 111),
  (111, zo_ii (fun x y => x <<< (y &&& 31)) 112),
  (112, zo_push (.inl zm1) 113),
  (113, zo_ii (fun x y => x ^^^ y) 114),
  (114, zo_ii (fun x y => x &&& y) 115),
  (115, zo_iret),
  (116, zo_push (.inl zm1) 117),
  (117, zo_iret)]
noncomputable def p_X11_power : Nat → zO := zgs [(71, p_X11_power_0), (105, p_X11_power_1), (118, p_X11_power_2)]
theorem t_X11_power : ∀ k, zTl (p_X11_power k) := fun k => zgs_all (c := [(71, p_X11_power_0), (105, p_X11_power_1), (118, p_X11_power_2)]) (fun _ => zl_bad) ⟨⟨zl_aload, zl_getR, zl_iload, (zl_vir zl_calli), zl_0ne, zl_push, zl_iret, zl_aload, zl_getR, zl_getR, zl_astore, zl_iload, zl_tsw, zl_aload, zl_getR, zl_iload, (zl_vir zl_calli), zl_iret, zl_aload, zl_getR, trivial⟩, ⟨zl_iload, (zl_vir zl_calli), zl_iret, zl_aload, zl_iload, (zl_vir zl_calli), zl_iret, zl_aload, zl_iload, (zl_vir zl_calli), zl_aload, (zl_vir zl_calli), zl_ii, zl_calli, zl_iret, zl_aload, zl_iload, (zl_vir zl_calli), zl_iret, zl_aload, trivial⟩, ⟨zl_iload, (zl_vir zl_calli), zl_push, zl_iload, zl_ii, zl_push, zl_ii, zl_ii, zl_iret, zl_push, zl_iret, trivial⟩, trivial⟩ k
noncomputable def f_X11_power : zS := zrun p_X11_power 4
set_option maxRecDepth 20000 in
theorem s_X11_power_0 {l : Launch} {D : va_G} {ad : Nat → Nat → Nat} {cy : Nat → ClassId} {L : List (Nat × Nat)} (hcl : zclo L = true) (hinj : zAd ad L) {X : zCtx} (hX : zXok X "SoapTreaty" prog_1_method_5_code 4) (hR : zRt X (some .int)) (hl : zXl X l D ad cy L (zroom 6)) : zAllR (zSo X) p_X11_power_0 := ⟨zs_aload_n (i := 0) rfl hX (by decide +kernel : decode prog_1_method_5_code 0 = .ok (.aload_n 0, 1)) rfl (by decide),
  zs_getR hX zFL_11_19 (by decide +kernel : decode prog_1_method_5_code 1 = .ok (.getfield 19, 3)) rfl,
  zs_iload_n (i := 1) rfl hX (by decide +kernel : decode prog_1_method_5_code 4 = .ok (.iload_n 1, 1)) rfl (by decide),
  zs_callVi hX zMV_11_111 (zXc_of hl (by decide) (k_X0_hasPower hcl hinj)) (by decide +kernel : decode prog_1_method_5_code 5 = .ok (.invokevirtual 111, 3)) rfl,
  zs_0ne hX (by decide +kernel : decode prog_1_method_5_code 8 = .ok (.ifCond .ne 5, 3)) (by decide) rfl,
  zs_pushI (zg_iconst (by decide) hX (by decide +kernel : decode prog_1_method_5_code 11 = .ok (.iconst (-1), 1)) rfl),
  zs_iret hX hR (by decide +kernel : decode prog_1_method_5_code 12 = .ok (.ireturn, 1)),
  zs_aload_n (i := 0) rfl hX (by decide +kernel : decode prog_1_method_5_code 13 = .ok (.aload_n 0, 1)) rfl (by decide),
  zs_getR hX zFL_11_37 (by decide +kernel : decode prog_1_method_5_code 14 = .ok (.getfield 37, 3)) rfl,
  zs_getR hX zFL_11_115 (by decide +kernel : decode prog_1_method_5_code 17 = .ok (.getfield 115, 3)) rfl,
  zs_astore_n (i := 3) rfl hX (by decide +kernel : decode prog_1_method_5_code 20 = .ok (.astore_n 3, 1)) rfl (by decide),
  zs_iload_n (i := 2) rfl hX (by decide +kernel : decode prog_1_method_5_code 21 = .ok (.iload_n 2, 1)) rfl (by decide),
  zs_tsw hX (by decide +kernel : decode prog_1_method_5_code 22 = .ok (.tableswitch 94 0 5 #[38, 47, 56, 62, 76, 82], 38)) (by decide) (by decide) (by decide) (by decide),
  zs_aload_n (i := 0) rfl hX (by decide +kernel : decode prog_1_method_5_code 60 = .ok (.aload_n 0, 1)) rfl (by decide),
  zs_getR hX zFL_11_19 (by decide +kernel : decode prog_1_method_5_code 61 = .ok (.getfield 19, 3)) rfl,
  zs_iload_n (i := 1) rfl hX (by decide +kernel : decode prog_1_method_5_code 64 = .ok (.iload_n 1, 1)) rfl (by decide),
  zs_callVi hX zMV_11_118 (zXc_of hl (by decide) (k_X0_kindOf hcl hinj)) (by decide +kernel : decode prog_1_method_5_code 65 = .ok (.invokevirtual 118, 3)) rfl,
  zs_iret hX hR (by decide +kernel : decode prog_1_method_5_code 68 = .ok (.ireturn, 1)),
  zs_aload_n (i := 0) rfl hX (by decide +kernel : decode prog_1_method_5_code 69 = .ok (.aload_n 0, 1)) rfl (by decide),
  zs_getR hX zFL_11_19 (by decide +kernel : decode prog_1_method_5_code 70 = .ok (.getfield 19, 3)) rfl, trivial⟩
set_option maxRecDepth 20000 in
theorem s_X11_power_1 {l : Launch} {D : va_G} {ad : Nat → Nat → Nat} {cy : Nat → ClassId} {L : List (Nat × Nat)} (hcl : zclo L = true) (hinj : zAd ad L) {X : zCtx} (hX : zXok X "SoapTreaty" prog_1_method_5_code 4) (hR : zRt X (some .int)) (hl : zXl X l D ad cy L (zroom 6)) : zAllR (zSo X) p_X11_power_1 := ⟨zs_iload_n (i := 1) rfl hX (by decide +kernel : decode prog_1_method_5_code 73 = .ok (.iload_n 1, 1)) rfl (by decide),
  zs_callVi hX zMV_11_122 (zXc_of hl (by decide) (k_X0_waterOf hcl hinj)) (by decide +kernel : decode prog_1_method_5_code 74 = .ok (.invokevirtual 122, 3)) rfl,
  zs_iret hX hR (by decide +kernel : decode prog_1_method_5_code 77 = .ok (.ireturn, 1)),
  zs_aload_n (i := 3) rfl hX (by decide +kernel : decode prog_1_method_5_code 78 = .ok (.aload_n 3, 1)) rfl (by decide),
  zs_iload_n (i := 1) rfl hX (by decide +kernel : decode prog_1_method_5_code 79 = .ok (.iload_n 1, 1)) rfl (by decide),
  zs_callVi hX zMV_11_125 (zXc_of hl (by decide) (k_X8_cakesOf hcl hinj)) (by decide +kernel : decode prog_1_method_5_code 80 = .ok (.invokevirtual 125, 3)) rfl,
  zs_iret hX hR (by decide +kernel : decode prog_1_method_5_code 83 = .ok (.ireturn, 1)),
  zs_aload_n (i := 3) rfl hX (by decide +kernel : decode prog_1_method_5_code 84 = .ok (.aload_n 3, 1)) rfl (by decide),
  zs_iload_n (i := 1) rfl hX (by decide +kernel : decode prog_1_method_5_code 85 = .ok (.iload_n 1, 1)) rfl (by decide),
  zs_callVi hX zMV_11_125 (zXc_of hl (by decide) (k_X8_cakesOf hcl hinj)) (by decide +kernel : decode prog_1_method_5_code 86 = .ok (.invokevirtual 125, 3)) rfl,
  zs_aload_n (i := 3) rfl hX (by decide +kernel : decode prog_1_method_5_code 89 = .ok (.aload_n 3, 1)) rfl (by decide),
  zs_callVi hX zMV_11_128 (zXc_of hl (by decide) (k_X8_slivers hcl hinj)) (by decide +kernel : decode prog_1_method_5_code 90 = .ok (.invokevirtual 128, 3)) rfl,
  zs_ii (zg_iand hX (by decide +kernel : decode prog_1_method_5_code 93 = .ok (.iand, 1)) rfl),
  zs_callSi hX zMS_11_131 (zXc_of hl (by decide) (k_J6_bitCount hcl hinj)) (by decide +kernel : decode prog_1_method_5_code 94 = .ok (.invokestatic 131, 3)) rfl,
  zs_iret hX hR (by decide +kernel : decode prog_1_method_5_code 97 = .ok (.ireturn, 1)),
  zs_aload_n (i := 3) rfl hX (by decide +kernel : decode prog_1_method_5_code 98 = .ok (.aload_n 3, 1)) rfl (by decide),
  zs_iload_n (i := 1) rfl hX (by decide +kernel : decode prog_1_method_5_code 99 = .ok (.iload_n 1, 1)) rfl (by decide),
  zs_callVi hX zMV_11_136 (zXc_of hl (by decide) (k_X8_foesOf hcl hinj)) (by decide +kernel : decode prog_1_method_5_code 100 = .ok (.invokevirtual 136, 3)) rfl,
  zs_iret hX hR (by decide +kernel : decode prog_1_method_5_code 103 = .ok (.ireturn, 1)),
  zs_aload_n (i := 3) rfl hX (by decide +kernel : decode prog_1_method_5_code 104 = .ok (.aload_n 3, 1)) rfl (by decide), trivial⟩
set_option maxRecDepth 20000 in
theorem s_X11_power_2 {l : Launch} {D : va_G} {ad : Nat → Nat → Nat} {cy : Nat → ClassId} {L : List (Nat × Nat)} (hcl : zclo L = true) (hinj : zAd ad L) {X : zCtx} (hX : zXok X "SoapTreaty" prog_1_method_5_code 4) (hR : zRt X (some .int)) (hl : zXl X l D ad cy L (zroom 6)) : zAllR (zSo X) p_X11_power_2 := ⟨zs_iload_n (i := 1) rfl hX (by decide +kernel : decode prog_1_method_5_code 105 = .ok (.iload_n 1, 1)) rfl (by decide),
  zs_callVi hX zMV_11_139 (zXc_of hl (by decide) (k_X8_blocOf hcl hinj)) (by decide +kernel : decode prog_1_method_5_code 106 = .ok (.invokevirtual 139, 3)) rfl,
  zs_pushI (zg_iconst (by decide) hX (by decide +kernel : decode prog_1_method_5_code 109 = .ok (.iconst 1, 1)) rfl),
  zs_iload_n (i := 1) rfl hX (by decide +kernel : decode prog_1_method_5_code 110 = .ok (.iload_n 1, 1)) rfl (by decide),
  zs_ii (zg_ishl hX (by decide +kernel : decode prog_1_method_5_code 111 = .ok (.ishl, 1)) rfl),
  zs_pushI (zg_iconst (by decide) hX (by decide +kernel : decode prog_1_method_5_code 112 = .ok (.iconst (-1), 1)) rfl),
  zs_ii (zg_ixor hX (by decide +kernel : decode prog_1_method_5_code 113 = .ok (.ixor, 1)) rfl),
  zs_ii (zg_iand hX (by decide +kernel : decode prog_1_method_5_code 114 = .ok (.iand, 1)) rfl),
  zs_iret hX hR (by decide +kernel : decode prog_1_method_5_code 115 = .ok (.ireturn, 1)),
  zs_pushI (zg_iconst (by decide) hX (by decide +kernel : decode prog_1_method_5_code 116 = .ok (.iconst (-1), 1)) rfl),
  zs_iret hX hR (by decide +kernel : decode prog_1_method_5_code 117 = .ok (.ireturn, 1)), trivial⟩
theorem k_X11_power {l : Launch} {D : va_G} {ad : Nat → Nat → Nat} {cy : Nat → ClassId} {L : List (Nat × Nat)} (hcl : zclo L = true) (hinj : zAd ad L) : zCk l D ad cy L 6 f_X11_power y_X11_power (.code y_X11_power prog_1_method_5_code 4 (some .int)) :=
  z_met (by decide) t_X11_power hcl hinj (fun X hX hR hl k => zgs_all (Q := zSo X) (c := [(71, p_X11_power_0), (105, p_X11_power_1), (118, p_X11_power_2)]) (fun _ => zs_bad) ⟨s_X11_power_0 hcl hinj hX hR hl, s_X11_power_1 hcl hinj hX hR hl, s_X11_power_2 hcl hinj hX hR hl, trivial⟩ k)
set_option maxRecDepth 1000000 in
theorem e_X11_power_0 (x1 : Int32) (x2 : Int32) (h : zH) : zL p_X11_power 0 [some (.inr (.inr (11, 0))), some (.inl x1), some (.inl x2), none] [] h = zci (f_X0_hasPower [(.inr (.inr (0, 0))), (.inl x1)] h) (fun r2 h1 => zf (r2 = 0) (some (some (.inl zm1), h1)) (zf (x2 = 0) (zci (f_X0_kindOf [(.inr (.inr (0, 0))), (.inl x1)] h1) (fun r18 h17 => some (some (.inl r18), h17))) (zf (x2 = 1) (zci (f_X0_waterOf [(.inr (.inr (0, 0))), (.inl x1)] h1) (fun r16 h15 => some (some (.inl r16), h15))) (zf (x2 = 2) (zci (f_X8_cakesOf [(.inr (.inr (8, 0))), (.inl x1)] h1) (fun r14 h13 => some (some (.inl r14), h13))) (zf (x2 = 3) (zci (f_X8_cakesOf [(.inr (.inr (8, 0))), (.inl x1)] h1) (fun r8 h7 => zci (f_X8_slivers [(.inr (.inr (8, 0)))] h7) (fun r10 h9 => zci (f_J6_bitCount [(.inl (r8 &&& r10))] h9) (fun r12 h11 => some (some (.inl r12), h11))))) (zf (x2 = 4) (zci (f_X8_foesOf [(.inr (.inr (8, 0))), (.inl x1)] h1) (fun r6 h5 => some (some (.inl r6), h5))) (zf (x2 = 5) (zci (f_X8_blocOf [(.inr (.inr (8, 0))), (.inl x1)] h1) (fun r4 h3 => some (some (.inl (r4 &&& (((1 : Int32) <<< (x1 &&& 31)) ^^^ zm1))), h3))) (some (some (.inl zm1), h1))))))))) := (zL_s (t_X11_power) [0] 1000 0 _ _ _).trans rfl
theorem g_X11_power (x1 : Int32) (x2 : Int32) (h : zH) : f_X11_power [(.inr (.inr (11, 0))), (.inl x1), (.inl x2)] h = zci (f_X0_hasPower [(.inr (.inr (0, 0))), (.inl x1)] h) (fun r2 h1 => zf (r2 = 0) (some (some (.inl zm1), h1)) (zf (x2 = 0) (zci (f_X0_kindOf [(.inr (.inr (0, 0))), (.inl x1)] h1) (fun r18 h17 => some (some (.inl r18), h17))) (zf (x2 = 1) (zci (f_X0_waterOf [(.inr (.inr (0, 0))), (.inl x1)] h1) (fun r16 h15 => some (some (.inl r16), h15))) (zf (x2 = 2) (zci (f_X8_cakesOf [(.inr (.inr (8, 0))), (.inl x1)] h1) (fun r14 h13 => some (some (.inl r14), h13))) (zf (x2 = 3) (zci (f_X8_cakesOf [(.inr (.inr (8, 0))), (.inl x1)] h1) (fun r8 h7 => zci (f_X8_slivers [(.inr (.inr (8, 0)))] h7) (fun r10 h9 => zci (f_J6_bitCount [(.inl (r8 &&& r10))] h9) (fun r12 h11 => some (some (.inl r12), h11))))) (zf (x2 = 4) (zci (f_X8_foesOf [(.inr (.inr (8, 0))), (.inl x1)] h1) (fun r6 h5 => some (some (.inl r6), h5))) (zf (x2 = 5) (zci (f_X8_blocOf [(.inr (.inr (8, 0))), (.inl x1)] h1) (fun r4 h3 => some (some (.inl (r4 &&& (((1 : Int32) <<< (x1 &&& 31)) ^^^ zm1))), h3))) (some (some (.inl zm1), h1))))))))) := (show f_X11_power _ h = zL p_X11_power 0 _ [] h from rfl).trans (e_X11_power_0 x1 x2 h)
theorem zMV_11_142 : zMV "SoapTreaty" 142 0 y_X0_hasCake prog_2_method_5_code 2 (some .boolean) 1 := ⟨⟨zT_of 825 (by decide +kernel) (by decide +kernel), zT_of 660 (by decide +kernel) (by decide +kernel), zT_of 661 (by decide +kernel) (by decide +kernel), zT_of 104 (by decide +kernel) (by decide +kernel), zT_of 662 (by decide +kernel) (by decide +kernel)⟩, by decide, rfl, ⟨zT0, 13, rfl⟩, by decide, by decide, by decide +kernel⟩
theorem zMV_11_163 : zMV "SoapTreaty" 163 8 y_X8_isFound prog_10_method_6_code 2 (some .boolean) 1 := ⟨⟨zT_of 827 (by decide +kernel) (by decide +kernel), zT_of 828 (by decide +kernel) (by decide +kernel), zT_of 829 (by decide +kernel) (by decide +kernel), zT_of 115 (by decide +kernel) (by decide +kernel), zT_of 830 (by decide +kernel) (by decide +kernel)⟩, by decide, rfl, ⟨zT8, 7, rfl⟩, by decide, by decide, by decide +kernel⟩
theorem zMV_11_157 : zMV "SoapTreaty" 157 8 y_X8_hasHair prog_10_method_5_code 2 (some .boolean) 1 := ⟨⟨zT_of 826 (by decide +kernel) (by decide +kernel), zT_of 801 (by decide +kernel) (by decide +kernel), zT_of 802 (by decide +kernel) (by decide +kernel), zT_of 115 (by decide +kernel) (by decide +kernel), zT_of 803 (by decide +kernel) (by decide +kernel)⟩, by decide, rfl, ⟨zT8, 7, rfl⟩, by decide, by decide, by decide +kernel⟩
/-! SoapTreaty.cake(II)I -/
def y_X11_cake : MethodName := ⟨"SoapTreaty", "cake", "(II)I"⟩
noncomputable def p_X11_cake_0 : List (Nat × zO) := [(0, zo_aload 0 1),
  (1, zo_getR 11 0 (some 0) 4),
  (4, zo_iload 1 5),
  (5, zo_vir 0 2 (zo_calli (f_X0_hasCake) 2 8)),
  (8, zo_0ne 14 11),
  (11, zo_push (.inl zm2) 13),
  (13, zo_iret),
  (14, zo_aload 0 15),
  (15, zo_getR 11 4 (some 0) 18),
  (18, zo_getR 4 8 none 21),
  (21, zo_astore 3 22),
  (22, zo_iload 2 23),
  (23, zo_tsw [(0, 64), (1, 74), (2, 81), (3, 88), (4, 95), (5, 109), (6, 140)] 150),
  (64, zo_aload 0 65),
  (65, zo_getR 11 0 (some 0) 68),
  (68, zo_getR 0 17 none 71),
  (71, zo_iload 1 72),
  (72, zo_iald 73),
  (73, zo_iret),
  (74, zo_aload 3 75)]
noncomputable def p_X11_cake_1 : List (Nat × zO) := [(75, zo_getR 8 31 none 78),
  (78, zo_iload 1 79),
  (79, zo_iald 80),
  (80, zo_iret),
  (81, zo_aload 3 82),
  (82, zo_getR 8 32 none 85),
  (85, zo_iload 1 86),
  (86, zo_iald 87),
  (87, zo_iret),
  (88, zo_aload 3 89),
  (89, zo_getR 8 33 none 92),
  (92, zo_iload 1 93),
  (93, zo_iald 94),
  (94, zo_iret),
  (95, zo_aload 3 96),
  (96, zo_iload 1 97),
  (97, zo_vir 8 2 (zo_calli (f_X8_hasHair) 2 100)),
  (100, zo_0eq 107 103),
  (103, zo_push (.inl 1) 104),
  (104, zo_goto 108)]
noncomputable def p_X11_cake_2 : List (Nat × zO) := [(107, zo_push (.inl 0) 108),
  (108, zo_iret),
  (109, zo_aload 0 110),
  (110, zo_getR 11 0 (some 0) 113),
  (113, zo_getR 0 21 none 116),
  (116, zo_iload 1 117),
  (117, zo_iald 118),
  (118, zo_push (.inl zm1) 119),
  (119, zo_cne 126 122),
  (122, zo_push (.inl zm1) 123),
  (123, zo_goto 139),
  (126, zo_aload 3 127),
  (127, zo_iload 1 128),
  (128, zo_vir 8 2 (zo_calli (f_X8_isFound) 2 131)),
  (131, zo_0eq 138 134),
  (134, zo_push (.inl 1) 135),
  (135, zo_goto 139),
  (138, zo_push (.inl 0) 139),
  (139, zo_iret),
  (140, zo_aload 0 141)]
noncomputable def p_X11_cake_3 : List (Nat × zO) := [(141, zo_getR 11 0 (some 0) 144),
  (144, zo_getR 0 20 none 147),
  (147, zo_iload 1 148),
  (148, zo_iald 149),
  (149, zo_iret),
  (150, zo_push (.inl zm2) 152),
  (152, zo_iret)]
noncomputable def p_X11_cake : Nat → zO := zgs [(75, p_X11_cake_0), (105, p_X11_cake_1), (141, p_X11_cake_2), (153, p_X11_cake_3)]
theorem t_X11_cake : ∀ k, zTl (p_X11_cake k) := fun k => zgs_all (c := [(75, p_X11_cake_0), (105, p_X11_cake_1), (141, p_X11_cake_2), (153, p_X11_cake_3)]) (fun _ => zl_bad) ⟨⟨zl_aload, zl_getR, zl_iload, (zl_vir zl_calli), zl_0ne, zl_push, zl_iret, zl_aload, zl_getR, zl_getR, zl_astore, zl_iload, zl_tsw, zl_aload, zl_getR, zl_getR, zl_iload, zl_iald, zl_iret, zl_aload, trivial⟩, ⟨zl_getR, zl_iload, zl_iald, zl_iret, zl_aload, zl_getR, zl_iload, zl_iald, zl_iret, zl_aload, zl_getR, zl_iload, zl_iald, zl_iret, zl_aload, zl_iload, (zl_vir zl_calli), zl_0eq, zl_push, zl_goto, trivial⟩, ⟨zl_push, zl_iret, zl_aload, zl_getR, zl_getR, zl_iload, zl_iald, zl_push, zl_cne, zl_push, zl_goto, zl_aload, zl_iload, (zl_vir zl_calli), zl_0eq, zl_push, zl_goto, zl_push, zl_iret, zl_aload, trivial⟩, ⟨zl_getR, zl_getR, zl_iload, zl_iald, zl_iret, zl_push, zl_iret, trivial⟩, trivial⟩ k
noncomputable def f_X11_cake : zS := zrun p_X11_cake 4
set_option maxRecDepth 20000 in
theorem s_X11_cake_0 {l : Launch} {D : va_G} {ad : Nat → Nat → Nat} {cy : Nat → ClassId} {L : List (Nat × Nat)} (hcl : zclo L = true) (hinj : zAd ad L) {X : zCtx} (hX : zXok X "SoapTreaty" prog_1_method_6_code 4) (hR : zRt X (some .int)) (hl : zXl X l D ad cy L (zroom 3)) : zAllR (zSo X) p_X11_cake_0 := ⟨zs_aload_n (i := 0) rfl hX (by decide +kernel : decode prog_1_method_6_code 0 = .ok (.aload_n 0, 1)) rfl (by decide),
  zs_getR hX zFL_11_19 (by decide +kernel : decode prog_1_method_6_code 1 = .ok (.getfield 19, 3)) rfl,
  zs_iload_n (i := 1) rfl hX (by decide +kernel : decode prog_1_method_6_code 4 = .ok (.iload_n 1, 1)) rfl (by decide),
  zs_callVi hX zMV_11_142 (zXc_of hl (by decide) (k_X0_hasCake hcl hinj)) (by decide +kernel : decode prog_1_method_6_code 5 = .ok (.invokevirtual 142, 3)) rfl,
  zs_0ne hX (by decide +kernel : decode prog_1_method_6_code 8 = .ok (.ifCond .ne 6, 3)) (by decide) rfl,
  zs_pushI (zg_bipush (by decide) hX (by decide +kernel : decode prog_1_method_6_code 11 = .ok (.bipush (-2), 2)) rfl),
  zs_iret hX hR (by decide +kernel : decode prog_1_method_6_code 13 = .ok (.ireturn, 1)),
  zs_aload_n (i := 0) rfl hX (by decide +kernel : decode prog_1_method_6_code 14 = .ok (.aload_n 0, 1)) rfl (by decide),
  zs_getR hX zFL_11_37 (by decide +kernel : decode prog_1_method_6_code 15 = .ok (.getfield 37, 3)) rfl,
  zs_getR hX zFL_11_115 (by decide +kernel : decode prog_1_method_6_code 18 = .ok (.getfield 115, 3)) rfl,
  zs_astore_n (i := 3) rfl hX (by decide +kernel : decode prog_1_method_6_code 21 = .ok (.astore_n 3, 1)) rfl (by decide),
  zs_iload_n (i := 2) rfl hX (by decide +kernel : decode prog_1_method_6_code 22 = .ok (.iload_n 2, 1)) rfl (by decide),
  zs_tsw hX (by decide +kernel : decode prog_1_method_6_code 23 = .ok (.tableswitch 127 0 6 #[41, 51, 58, 65, 72, 86, 117], 41)) (by decide) (by decide) (by decide) (by decide),
  zs_aload_n (i := 0) rfl hX (by decide +kernel : decode prog_1_method_6_code 64 = .ok (.aload_n 0, 1)) rfl (by decide),
  zs_getR hX zFL_11_19 (by decide +kernel : decode prog_1_method_6_code 65 = .ok (.getfield 19, 3)) rfl,
  zs_getR hX zFL_11_145 (by decide +kernel : decode prog_1_method_6_code 68 = .ok (.getfield 145, 3)) rfl,
  zs_iload_n (i := 1) rfl hX (by decide +kernel : decode prog_1_method_6_code 71 = .ok (.iload_n 1, 1)) rfl (by decide),
  zs_iald hX (by decide +kernel : decode prog_1_method_6_code 72 = .ok (.iaload, 1)) rfl,
  zs_iret hX hR (by decide +kernel : decode prog_1_method_6_code 73 = .ok (.ireturn, 1)),
  zs_aload_n (i := 3) rfl hX (by decide +kernel : decode prog_1_method_6_code 74 = .ok (.aload_n 3, 1)) rfl (by decide), trivial⟩
set_option maxRecDepth 20000 in
theorem s_X11_cake_1 {l : Launch} {D : va_G} {ad : Nat → Nat → Nat} {cy : Nat → ClassId} {L : List (Nat × Nat)} (hcl : zclo L = true) (hinj : zAd ad L) {X : zCtx} (hX : zXok X "SoapTreaty" prog_1_method_6_code 4) (hR : zRt X (some .int)) (hl : zXl X l D ad cy L (zroom 3)) : zAllR (zSo X) p_X11_cake_1 := ⟨zs_getR hX zFL_11_148 (by decide +kernel : decode prog_1_method_6_code 75 = .ok (.getfield 148, 3)) rfl,
  zs_iload_n (i := 1) rfl hX (by decide +kernel : decode prog_1_method_6_code 78 = .ok (.iload_n 1, 1)) rfl (by decide),
  zs_iald hX (by decide +kernel : decode prog_1_method_6_code 79 = .ok (.iaload, 1)) rfl,
  zs_iret hX hR (by decide +kernel : decode prog_1_method_6_code 80 = .ok (.ireturn, 1)),
  zs_aload_n (i := 3) rfl hX (by decide +kernel : decode prog_1_method_6_code 81 = .ok (.aload_n 3, 1)) rfl (by decide),
  zs_getR hX zFL_11_151 (by decide +kernel : decode prog_1_method_6_code 82 = .ok (.getfield 151, 3)) rfl,
  zs_iload_n (i := 1) rfl hX (by decide +kernel : decode prog_1_method_6_code 85 = .ok (.iload_n 1, 1)) rfl (by decide),
  zs_iald hX (by decide +kernel : decode prog_1_method_6_code 86 = .ok (.iaload, 1)) rfl,
  zs_iret hX hR (by decide +kernel : decode prog_1_method_6_code 87 = .ok (.ireturn, 1)),
  zs_aload_n (i := 3) rfl hX (by decide +kernel : decode prog_1_method_6_code 88 = .ok (.aload_n 3, 1)) rfl (by decide),
  zs_getR hX zFL_11_154 (by decide +kernel : decode prog_1_method_6_code 89 = .ok (.getfield 154, 3)) rfl,
  zs_iload_n (i := 1) rfl hX (by decide +kernel : decode prog_1_method_6_code 92 = .ok (.iload_n 1, 1)) rfl (by decide),
  zs_iald hX (by decide +kernel : decode prog_1_method_6_code 93 = .ok (.iaload, 1)) rfl,
  zs_iret hX hR (by decide +kernel : decode prog_1_method_6_code 94 = .ok (.ireturn, 1)),
  zs_aload_n (i := 3) rfl hX (by decide +kernel : decode prog_1_method_6_code 95 = .ok (.aload_n 3, 1)) rfl (by decide),
  zs_iload_n (i := 1) rfl hX (by decide +kernel : decode prog_1_method_6_code 96 = .ok (.iload_n 1, 1)) rfl (by decide),
  zs_callVi hX zMV_11_157 (zXc_of hl (by decide) (k_X8_hasHair hcl hinj)) (by decide +kernel : decode prog_1_method_6_code 97 = .ok (.invokevirtual 157, 3)) rfl,
  zs_0eq hX (by decide +kernel : decode prog_1_method_6_code 100 = .ok (.ifCond .eq 7, 3)) (by decide) rfl,
  zs_pushI (zg_iconst (by decide) hX (by decide +kernel : decode prog_1_method_6_code 103 = .ok (.iconst 1, 1)) rfl),
  zs_goto hX (by decide +kernel : decode prog_1_method_6_code 104 = .ok (.goto 4, 3)) (by decide), trivial⟩
set_option maxRecDepth 20000 in
theorem s_X11_cake_2 {l : Launch} {D : va_G} {ad : Nat → Nat → Nat} {cy : Nat → ClassId} {L : List (Nat × Nat)} (hcl : zclo L = true) (hinj : zAd ad L) {X : zCtx} (hX : zXok X "SoapTreaty" prog_1_method_6_code 4) (hR : zRt X (some .int)) (hl : zXl X l D ad cy L (zroom 3)) : zAllR (zSo X) p_X11_cake_2 := ⟨zs_pushI (zg_iconst (by decide) hX (by decide +kernel : decode prog_1_method_6_code 107 = .ok (.iconst 0, 1)) rfl),
  zs_iret hX hR (by decide +kernel : decode prog_1_method_6_code 108 = .ok (.ireturn, 1)),
  zs_aload_n (i := 0) rfl hX (by decide +kernel : decode prog_1_method_6_code 109 = .ok (.aload_n 0, 1)) rfl (by decide),
  zs_getR hX zFL_11_19 (by decide +kernel : decode prog_1_method_6_code 110 = .ok (.getfield 19, 3)) rfl,
  zs_getR hX zFL_11_160 (by decide +kernel : decode prog_1_method_6_code 113 = .ok (.getfield 160, 3)) rfl,
  zs_iload_n (i := 1) rfl hX (by decide +kernel : decode prog_1_method_6_code 116 = .ok (.iload_n 1, 1)) rfl (by decide),
  zs_iald hX (by decide +kernel : decode prog_1_method_6_code 117 = .ok (.iaload, 1)) rfl,
  zs_pushI (zg_iconst (by decide) hX (by decide +kernel : decode prog_1_method_6_code 118 = .ok (.iconst (-1), 1)) rfl),
  zs_cne hX (by decide +kernel : decode prog_1_method_6_code 119 = .ok (.if_icmp .ne 7, 3)) (by decide) rfl,
  zs_pushI (zg_iconst (by decide) hX (by decide +kernel : decode prog_1_method_6_code 122 = .ok (.iconst (-1), 1)) rfl),
  zs_goto hX (by decide +kernel : decode prog_1_method_6_code 123 = .ok (.goto 16, 3)) (by decide),
  zs_aload_n (i := 3) rfl hX (by decide +kernel : decode prog_1_method_6_code 126 = .ok (.aload_n 3, 1)) rfl (by decide),
  zs_iload_n (i := 1) rfl hX (by decide +kernel : decode prog_1_method_6_code 127 = .ok (.iload_n 1, 1)) rfl (by decide),
  zs_callVi hX zMV_11_163 (zXc_of hl (by decide) (k_X8_isFound hcl hinj)) (by decide +kernel : decode prog_1_method_6_code 128 = .ok (.invokevirtual 163, 3)) rfl,
  zs_0eq hX (by decide +kernel : decode prog_1_method_6_code 131 = .ok (.ifCond .eq 7, 3)) (by decide) rfl,
  zs_pushI (zg_iconst (by decide) hX (by decide +kernel : decode prog_1_method_6_code 134 = .ok (.iconst 1, 1)) rfl),
  zs_goto hX (by decide +kernel : decode prog_1_method_6_code 135 = .ok (.goto 4, 3)) (by decide),
  zs_pushI (zg_iconst (by decide) hX (by decide +kernel : decode prog_1_method_6_code 138 = .ok (.iconst 0, 1)) rfl),
  zs_iret hX hR (by decide +kernel : decode prog_1_method_6_code 139 = .ok (.ireturn, 1)),
  zs_aload_n (i := 0) rfl hX (by decide +kernel : decode prog_1_method_6_code 140 = .ok (.aload_n 0, 1)) rfl (by decide), trivial⟩
set_option maxRecDepth 20000 in
theorem s_X11_cake_3 {l : Launch} {D : va_G} {ad : Nat → Nat → Nat} {cy : Nat → ClassId} {L : List (Nat × Nat)} (hcl : zclo L = true) (hinj : zAd ad L) {X : zCtx} (hX : zXok X "SoapTreaty" prog_1_method_6_code 4) (hR : zRt X (some .int)) (hl : zXl X l D ad cy L (zroom 3)) : zAllR (zSo X) p_X11_cake_3 := ⟨zs_getR hX zFL_11_19 (by decide +kernel : decode prog_1_method_6_code 141 = .ok (.getfield 19, 3)) rfl,
  zs_getR hX zFL_11_166 (by decide +kernel : decode prog_1_method_6_code 144 = .ok (.getfield 166, 3)) rfl,
  zs_iload_n (i := 1) rfl hX (by decide +kernel : decode prog_1_method_6_code 147 = .ok (.iload_n 1, 1)) rfl (by decide),
  zs_iald hX (by decide +kernel : decode prog_1_method_6_code 148 = .ok (.iaload, 1)) rfl,
  zs_iret hX hR (by decide +kernel : decode prog_1_method_6_code 149 = .ok (.ireturn, 1)),
  zs_pushI (zg_bipush (by decide) hX (by decide +kernel : decode prog_1_method_6_code 150 = .ok (.bipush (-2), 2)) rfl),
  zs_iret hX hR (by decide +kernel : decode prog_1_method_6_code 152 = .ok (.ireturn, 1)), trivial⟩
theorem k_X11_cake {l : Launch} {D : va_G} {ad : Nat → Nat → Nat} {cy : Nat → ClassId} {L : List (Nat × Nat)} (hcl : zclo L = true) (hinj : zAd ad L) : zCk l D ad cy L 3 f_X11_cake y_X11_cake (.code y_X11_cake prog_1_method_6_code 4 (some .int)) :=
  z_met (by decide) t_X11_cake hcl hinj (fun X hX hR hl k => zgs_all (Q := zSo X) (c := [(75, p_X11_cake_0), (105, p_X11_cake_1), (141, p_X11_cake_2), (153, p_X11_cake_3)]) (fun _ => zs_bad) ⟨s_X11_cake_0 hcl hinj hX hR hl, s_X11_cake_1 hcl hinj hX hR hl, s_X11_cake_2 hcl hinj hX hR hl, s_X11_cake_3 hcl hinj hX hR hl, trivial⟩ k)
set_option maxRecDepth 1000000 in
theorem e_X11_cake_0 (x1 : Int32) (x2 : Int32) (h : zH) : zL p_X11_cake 0 [some (.inr (.inr (11, 0))), some (.inl x1), some (.inl x2), none] [] h = zci (f_X0_hasCake [(.inr (.inr (0, 0))), (.inl x1)] h) (fun r2 h1 => zf (r2 = 0) (some (some (.inl zm2), h1)) (zf (x2 = 0) (zf (vp_in x1 7) (some (some (.inl (h1.1 17 0 x1.toNatClampNeg)), h1)) none) (zf (x2 = 1) (zf (vp_in x1 7) (some (some (.inl (h1.1 31 0 x1.toNatClampNeg)), h1)) none) (zf (x2 = 2) (zf (vp_in x1 7) (some (some (.inl (h1.1 32 0 x1.toNatClampNeg)), h1)) none) (zf (x2 = 3) (zf (vp_in x1 7) (some (some (.inl (h1.1 33 0 x1.toNatClampNeg)), h1)) none) (zf (x2 = 4) (zci (f_X8_hasHair [(.inr (.inr (8, 0))), (.inl x1)] h1) (fun r6 h5 => zf (r6 = 0) (some (some (.inl 0), h5)) (some (some (.inl 1), h5)))) (zf (x2 = 5) (zf (vp_in x1 7) (zf ((h1.1 21 0 x1.toNatClampNeg) = zm1) (some (some (.inl zm1), h1)) (zci (f_X8_isFound [(.inr (.inr (8, 0))), (.inl x1)] h1) (fun r4 h3 => zf (r4 = 0) (some (some (.inl 0), h3)) (some (some (.inl 1), h3))))) none) (zf (x2 = 6) (zf (vp_in x1 7) (some (some (.inl (h1.1 20 0 x1.toNatClampNeg)), h1)) none) (some (some (.inl zm2), h1)))))))))) := (zL_s (t_X11_cake) [0] 1000 0 _ _ _).trans rfl
theorem g_X11_cake (x1 : Int32) (x2 : Int32) (h : zH) : f_X11_cake [(.inr (.inr (11, 0))), (.inl x1), (.inl x2)] h = zci (f_X0_hasCake [(.inr (.inr (0, 0))), (.inl x1)] h) (fun r2 h1 => zf (r2 = 0) (some (some (.inl zm2), h1)) (zf (x2 = 0) (zf (vp_in x1 7) (some (some (.inl (h1.1 17 0 x1.toNatClampNeg)), h1)) none) (zf (x2 = 1) (zf (vp_in x1 7) (some (some (.inl (h1.1 31 0 x1.toNatClampNeg)), h1)) none) (zf (x2 = 2) (zf (vp_in x1 7) (some (some (.inl (h1.1 32 0 x1.toNatClampNeg)), h1)) none) (zf (x2 = 3) (zf (vp_in x1 7) (some (some (.inl (h1.1 33 0 x1.toNatClampNeg)), h1)) none) (zf (x2 = 4) (zci (f_X8_hasHair [(.inr (.inr (8, 0))), (.inl x1)] h1) (fun r6 h5 => zf (r6 = 0) (some (some (.inl 0), h5)) (some (some (.inl 1), h5)))) (zf (x2 = 5) (zf (vp_in x1 7) (zf ((h1.1 21 0 x1.toNatClampNeg) = zm1) (some (some (.inl zm1), h1)) (zci (f_X8_isFound [(.inr (.inr (8, 0))), (.inl x1)] h1) (fun r4 h3 => zf (r4 = 0) (some (some (.inl 0), h3)) (some (some (.inl 1), h3))))) none) (zf (x2 = 6) (zf (vp_in x1 7) (some (some (.inl (h1.1 20 0 x1.toNatClampNeg)), h1)) none) (some (some (.inl zm2), h1)))))))))) := (show f_X11_cake _ h = zL p_X11_cake 0 _ [] h from rfl).trans (e_X11_cake_0 x1 x2 h)
theorem zMV_11_196 : zMV "SoapTreaty" 196 8 y_X8_attempt prog_10_method_9_code 4 (some .boolean) 3 := ⟨⟨zT_of 860 (by decide +kernel) (by decide +kernel), zT_of 861 (by decide +kernel) (by decide +kernel), zT_of 862 (by decide +kernel) (by decide +kernel), zT_of 115 (by decide +kernel) (by decide +kernel), zT_of 863 (by decide +kernel) (by decide +kernel)⟩, by decide, rfl, ⟨zT8, 7, rfl⟩, by decide, by decide, by decide +kernel⟩
theorem zMV_11_298 : zMV "SoapTreaty" 298 8 y_X8_can prog_10_method_8_code 4 (some .boolean) 3 := ⟨⟨zT_of 840 (by decide +kernel) (by decide +kernel), zT_of 841 (by decide +kernel) (by decide +kernel), zT_of 842 (by decide +kernel) (by decide +kernel), zT_of 115 (by decide +kernel) (by decide +kernel), zT_of 843 (by decide +kernel) (by decide +kernel)⟩, by decide, rfl, ⟨zT8, 7, rfl⟩, by decide, by decide, by decide +kernel⟩
theorem zMV_11_301 : zMV "SoapTreaty" 301 5 y_X5_keep prog_7_method_2_code 2 none 1 := ⟨⟨zT_of 849 (by decide +kernel) (by decide +kernel), zT_of 850 (by decide +kernel) (by decide +kernel), zT_of 851 (by decide +kernel) (by decide +kernel), zT_of 117 (by decide +kernel) (by decide +kernel), zT_of 852 (by decide +kernel) (by decide +kernel)⟩, by decide, rfl, ⟨zT5, 3, rfl⟩, by decide, by decide, by decide +kernel⟩
/-! SoapTreaty.doByHand(III)Z -/
def y_X11_doByHand : MethodName := ⟨"SoapTreaty", "doByHand", "(III)Z"⟩
noncomputable def p_X11_doByHand_0 : List (Nat × zO) := [(0, zo_aload 0 1),
  (1, zo_getR 11 4 (some 0) 4),
  (4, zo_getR 4 8 none 7),
  (7, zo_iload 1 8),
  (8, zo_iload 2 9),
  (9, zo_iload 3 10),
  (10, zo_vir 8 4 (zo_calli (f_X8_can) 4 13)),
  (13, zo_0ne 18 16),
  (16, zo_push (.inl 0) 17),
  (17, zo_zretc),
  (18, zo_aload 0 19),
  (19, zo_getR 11 5 none 22),
  (22, zo_aload 0 23),
  (23, zo_getR 11 4 (some 0) 26),
  (26, zo_getR 4 8 none 29),
  (29, zo_vir 5 2 (zo_callv (f_X5_keep) 2 32)),
  (32, zo_aload 0 33),
  (33, zo_getR 11 4 (some 0) 36),
  (36, zo_getR 4 8 none 39),
  (39, zo_iload 1 40)]
noncomputable def p_X11_doByHand_1 : List (Nat × zO) := [(40, zo_iload 2 41),
  (41, zo_iload 3 42),
  (42, zo_vir 8 4 (zo_calli (f_X8_attempt) 4 45)),
  (45, zo_zret)]
noncomputable def p_X11_doByHand : Nat → zO := zgs [(40, p_X11_doByHand_0), (46, p_X11_doByHand_1)]
theorem t_X11_doByHand : ∀ k, zTl (p_X11_doByHand k) := fun k => zgs_all (c := [(40, p_X11_doByHand_0), (46, p_X11_doByHand_1)]) (fun _ => zl_bad) ⟨⟨zl_aload, zl_getR, zl_getR, zl_iload, zl_iload, zl_iload, (zl_vir zl_calli), zl_0ne, zl_push, zl_zretc, zl_aload, zl_getR, zl_aload, zl_getR, zl_getR, (zl_vir zl_callv), zl_aload, zl_getR, zl_getR, zl_iload, trivial⟩, ⟨zl_iload, zl_iload, (zl_vir zl_calli), zl_zret, trivial⟩, trivial⟩ k
noncomputable def f_X11_doByHand : zS := zrun p_X11_doByHand 4
set_option maxRecDepth 20000 in
theorem s_X11_doByHand_0 {l : Launch} {D : va_G} {ad : Nat → Nat → Nat} {cy : Nat → ClassId} {L : List (Nat × Nat)} (hcl : zclo L = true) (hinj : zAd ad L) {X : zCtx} (hX : zXok X "SoapTreaty" prog_1_method_34_code 4) (hR : zRt X (some .boolean)) (hl : zXl X l D ad cy L (zroom 7)) : zAllR (zSo X) p_X11_doByHand_0 := ⟨zs_aload_n (i := 0) rfl hX (by decide +kernel : decode prog_1_method_34_code 0 = .ok (.aload_n 0, 1)) rfl (by decide),
  zs_getR hX zFL_11_37 (by decide +kernel : decode prog_1_method_34_code 1 = .ok (.getfield 37, 3)) rfl,
  zs_getR hX zFL_11_115 (by decide +kernel : decode prog_1_method_34_code 4 = .ok (.getfield 115, 3)) rfl,
  zs_iload_n (i := 1) rfl hX (by decide +kernel : decode prog_1_method_34_code 7 = .ok (.iload_n 1, 1)) rfl (by decide),
  zs_iload_n (i := 2) rfl hX (by decide +kernel : decode prog_1_method_34_code 8 = .ok (.iload_n 2, 1)) rfl (by decide),
  zs_iload_n (i := 3) rfl hX (by decide +kernel : decode prog_1_method_34_code 9 = .ok (.iload_n 3, 1)) rfl (by decide),
  zs_callVi hX zMV_11_298 (zXc_of hl (by decide) (k_X8_can hcl hinj)) (by decide +kernel : decode prog_1_method_34_code 10 = .ok (.invokevirtual 298, 3)) rfl,
  zs_0ne hX (by decide +kernel : decode prog_1_method_34_code 13 = .ok (.ifCond .ne 5, 3)) (by decide) rfl,
  zs_pushI (zg_iconst (by decide) hX (by decide +kernel : decode prog_1_method_34_code 16 = .ok (.iconst 0, 1)) rfl),
  zs_zretc hX hR (by decide +kernel : decode prog_1_method_34_code 17 = .ok (.ireturn, 1)),
  zs_aload_n (i := 0) rfl hX (by decide +kernel : decode prog_1_method_34_code 18 = .ok (.aload_n 0, 1)) rfl (by decide),
  zs_getR hX zFL_11_48 (by decide +kernel : decode prog_1_method_34_code 19 = .ok (.getfield 48, 3)) rfl,
  zs_aload_n (i := 0) rfl hX (by decide +kernel : decode prog_1_method_34_code 22 = .ok (.aload_n 0, 1)) rfl (by decide),
  zs_getR hX zFL_11_37 (by decide +kernel : decode prog_1_method_34_code 23 = .ok (.getfield 37, 3)) rfl,
  zs_getR hX zFL_11_115 (by decide +kernel : decode prog_1_method_34_code 26 = .ok (.getfield 115, 3)) rfl,
  zs_callVv hX zMV_11_301 (zXc_of hl (by decide) (k_X5_keep hcl hinj)) (by decide +kernel : decode prog_1_method_34_code 29 = .ok (.invokevirtual 301, 3)) rfl,
  zs_aload_n (i := 0) rfl hX (by decide +kernel : decode prog_1_method_34_code 32 = .ok (.aload_n 0, 1)) rfl (by decide),
  zs_getR hX zFL_11_37 (by decide +kernel : decode prog_1_method_34_code 33 = .ok (.getfield 37, 3)) rfl,
  zs_getR hX zFL_11_115 (by decide +kernel : decode prog_1_method_34_code 36 = .ok (.getfield 115, 3)) rfl,
  zs_iload_n (i := 1) rfl hX (by decide +kernel : decode prog_1_method_34_code 39 = .ok (.iload_n 1, 1)) rfl (by decide), trivial⟩
set_option maxRecDepth 20000 in
theorem s_X11_doByHand_1 {l : Launch} {D : va_G} {ad : Nat → Nat → Nat} {cy : Nat → ClassId} {L : List (Nat × Nat)} (hcl : zclo L = true) (hinj : zAd ad L) {X : zCtx} (hX : zXok X "SoapTreaty" prog_1_method_34_code 4) (hR : zRt X (some .boolean)) (hl : zXl X l D ad cy L (zroom 7)) : zAllR (zSo X) p_X11_doByHand_1 := ⟨zs_iload_n (i := 2) rfl hX (by decide +kernel : decode prog_1_method_34_code 40 = .ok (.iload_n 2, 1)) rfl (by decide),
  zs_iload_n (i := 3) rfl hX (by decide +kernel : decode prog_1_method_34_code 41 = .ok (.iload_n 3, 1)) rfl (by decide),
  zs_callVi hX zMV_11_196 (zXc_of hl (by decide) (k_X8_attempt hcl hinj)) (by decide +kernel : decode prog_1_method_34_code 42 = .ok (.invokevirtual 196, 3)) rfl,
  zs_zret hX hR (by decide +kernel : decode prog_1_method_34_code 45 = .ok (.ireturn, 1)), trivial⟩
theorem k_X11_doByHand {l : Launch} {D : va_G} {ad : Nat → Nat → Nat} {cy : Nat → ClassId} {L : List (Nat × Nat)} (hcl : zclo L = true) (hinj : zAd ad L) : zCk l D ad cy L 7 f_X11_doByHand y_X11_doByHand (.code y_X11_doByHand prog_1_method_34_code 4 (some .boolean)) :=
  z_met (by decide) t_X11_doByHand hcl hinj (fun X hX hR hl k => zgs_all (Q := zSo X) (c := [(40, p_X11_doByHand_0), (46, p_X11_doByHand_1)]) (fun _ => zs_bad) ⟨s_X11_doByHand_0 hcl hinj hX hR hl, s_X11_doByHand_1 hcl hinj hX hR hl, trivial⟩ k)
set_option maxRecDepth 1000000 in
theorem e_X11_doByHand_0 (x1 : Int32) (x2 : Int32) (x3 : Int32) (h : zH) : zL p_X11_doByHand 0 [some (.inr (.inr (11, 0))), some (.inl x1), some (.inl x2), some (.inl x3)] [] h = zci (f_X8_can [(.inr (.inr (8, 0))), (.inl x1), (.inl x2), (.inl x3)] h) (fun r2 h1 => zf (r2 = 0) (some (some (.inl 0), h1)) (zcv (f_X5_keep [(.inr (.inr (5, 0))), (.inr (.inr (8, 0)))] h1) (fun h3 => zci (f_X8_attempt [(.inr (.inr (8, 0))), (.inl x1), (.inl x2), (.inl x3)] h3) (fun r5 h4 => zf ((r5 : Int32) = 0 ∨ (r5 : Int32) = 1) (some (some (.inl r5), h4)) none)))) := (zL_s (t_X11_doByHand) [0] 1000 0 _ _ _).trans rfl
theorem g_X11_doByHand (x1 : Int32) (x2 : Int32) (x3 : Int32) (h : zH) : f_X11_doByHand [(.inr (.inr (11, 0))), (.inl x1), (.inl x2), (.inl x3)] h = zci (f_X8_can [(.inr (.inr (8, 0))), (.inl x1), (.inl x2), (.inl x3)] h) (fun r2 h1 => zf (r2 = 0) (some (some (.inl 0), h1)) (zcv (f_X5_keep [(.inr (.inr (5, 0))), (.inr (.inr (8, 0)))] h1) (fun h3 => zci (f_X8_attempt [(.inr (.inr (8, 0))), (.inl x1), (.inl x2), (.inl x3)] h3) (fun r5 h4 => zf ((r5 : Int32) = 0 ∨ (r5 : Int32) = 1) (some (some (.inl r5), h4)) none)))) := (show f_X11_doByHand _ h = zL p_X11_doByHand 0 _ [] h from rfl).trans (e_X11_doByHand_0 x1 x2 x3 h)
theorem zMV_11_169 : zMV "SoapTreaty" 169 11 y_X11_doByHand prog_1_method_34_code 4 (some .boolean) 3 := ⟨⟨zT_of 836 (by decide +kernel) (by decide +kernel), zT_of 838 (by decide +kernel) (by decide +kernel), zT_of 20 (by decide +kernel) (by decide +kernel), zT_of 102 (by decide +kernel) (by decide +kernel), zT_of 839 (by decide +kernel) (by decide +kernel)⟩, by decide, rfl, ⟨zT11, 10, rfl⟩, by decide, by decide, by decide +kernel⟩
/-! SoapTreaty.wash(I)I -/
def y_X11_wash : MethodName := ⟨"SoapTreaty", "wash", "(I)I"⟩
noncomputable def p_X11_wash_0 : List (Nat × zO) := [(0, zo_aload 0 1),
  (1, zo_getR 11 0 (some 0) 4),
  (4, zo_iload 1 5),
  (5, zo_vir 0 2 (zo_calli (f_X0_hasCake) 2 8)),
  (8, zo_0eq 21 11),
  (11, zo_aload 0 12),
  (12, zo_push (.inl 0) 13),
  (13, zo_iload 1 14),
  (14, zo_push (.inl zm1) 15),
  (15, zo_vir 11 4 (zo_calli (f_X11_doByHand) 4 18)),
  (18, zo_0ne 23 21),
  (21, zo_push (.inl zm1) 22),
  (22, zo_iret),
  (23, zo_aload 0 24),
  (24, zo_getR 11 4 (some 0) 27),
  (27, zo_getR 4 8 none 30),
  (30, zo_getR 8 32 none 33),
  (33, zo_iload 1 34),
  (34, zo_iald 35),
  (35, zo_iret)]
noncomputable def p_X11_wash : Nat → zO := zgs [(36, p_X11_wash_0)]
theorem t_X11_wash : ∀ k, zTl (p_X11_wash k) := fun k => zgs_all (c := [(36, p_X11_wash_0)]) (fun _ => zl_bad) ⟨⟨zl_aload, zl_getR, zl_iload, (zl_vir zl_calli), zl_0eq, zl_aload, zl_push, zl_iload, zl_push, (zl_vir zl_calli), zl_0ne, zl_push, zl_iret, zl_aload, zl_getR, zl_getR, zl_getR, zl_iload, zl_iald, zl_iret, trivial⟩, trivial⟩ k
noncomputable def f_X11_wash : zS := zrun p_X11_wash 2
set_option maxRecDepth 20000 in
theorem s_X11_wash_0 {l : Launch} {D : va_G} {ad : Nat → Nat → Nat} {cy : Nat → ClassId} {L : List (Nat × Nat)} (hcl : zclo L = true) (hinj : zAd ad L) {X : zCtx} (hX : zXok X "SoapTreaty" prog_1_method_7_code 2) (hR : zRt X (some .int)) (hl : zXl X l D ad cy L (zroom 8)) : zAllR (zSo X) p_X11_wash_0 := ⟨zs_aload_n (i := 0) rfl hX (by decide +kernel : decode prog_1_method_7_code 0 = .ok (.aload_n 0, 1)) rfl (by decide),
  zs_getR hX zFL_11_19 (by decide +kernel : decode prog_1_method_7_code 1 = .ok (.getfield 19, 3)) rfl,
  zs_iload_n (i := 1) rfl hX (by decide +kernel : decode prog_1_method_7_code 4 = .ok (.iload_n 1, 1)) rfl (by decide),
  zs_callVi hX zMV_11_142 (zXc_of hl (by decide) (k_X0_hasCake hcl hinj)) (by decide +kernel : decode prog_1_method_7_code 5 = .ok (.invokevirtual 142, 3)) rfl,
  zs_0eq hX (by decide +kernel : decode prog_1_method_7_code 8 = .ok (.ifCond .eq 13, 3)) (by decide) rfl,
  zs_aload_n (i := 0) rfl hX (by decide +kernel : decode prog_1_method_7_code 11 = .ok (.aload_n 0, 1)) rfl (by decide),
  zs_pushI (zg_iconst (by decide) hX (by decide +kernel : decode prog_1_method_7_code 12 = .ok (.iconst 0, 1)) rfl),
  zs_iload_n (i := 1) rfl hX (by decide +kernel : decode prog_1_method_7_code 13 = .ok (.iload_n 1, 1)) rfl (by decide),
  zs_pushI (zg_iconst (by decide) hX (by decide +kernel : decode prog_1_method_7_code 14 = .ok (.iconst (-1), 1)) rfl),
  zs_callVi hX zMV_11_169 (zXc_of hl (by decide) (k_X11_doByHand hcl hinj)) (by decide +kernel : decode prog_1_method_7_code 15 = .ok (.invokevirtual 169, 3)) rfl,
  zs_0ne hX (by decide +kernel : decode prog_1_method_7_code 18 = .ok (.ifCond .ne 5, 3)) (by decide) rfl,
  zs_pushI (zg_iconst (by decide) hX (by decide +kernel : decode prog_1_method_7_code 21 = .ok (.iconst (-1), 1)) rfl),
  zs_iret hX hR (by decide +kernel : decode prog_1_method_7_code 22 = .ok (.ireturn, 1)),
  zs_aload_n (i := 0) rfl hX (by decide +kernel : decode prog_1_method_7_code 23 = .ok (.aload_n 0, 1)) rfl (by decide),
  zs_getR hX zFL_11_37 (by decide +kernel : decode prog_1_method_7_code 24 = .ok (.getfield 37, 3)) rfl,
  zs_getR hX zFL_11_115 (by decide +kernel : decode prog_1_method_7_code 27 = .ok (.getfield 115, 3)) rfl,
  zs_getR hX zFL_11_151 (by decide +kernel : decode prog_1_method_7_code 30 = .ok (.getfield 151, 3)) rfl,
  zs_iload_n (i := 1) rfl hX (by decide +kernel : decode prog_1_method_7_code 33 = .ok (.iload_n 1, 1)) rfl (by decide),
  zs_iald hX (by decide +kernel : decode prog_1_method_7_code 34 = .ok (.iaload, 1)) rfl,
  zs_iret hX hR (by decide +kernel : decode prog_1_method_7_code 35 = .ok (.ireturn, 1)), trivial⟩
theorem k_X11_wash {l : Launch} {D : va_G} {ad : Nat → Nat → Nat} {cy : Nat → ClassId} {L : List (Nat × Nat)} (hcl : zclo L = true) (hinj : zAd ad L) : zCk l D ad cy L 8 f_X11_wash y_X11_wash (.code y_X11_wash prog_1_method_7_code 2 (some .int)) :=
  z_met (by decide) t_X11_wash hcl hinj (fun X hX hR hl k => zgs_all (Q := zSo X) (c := [(36, p_X11_wash_0)]) (fun _ => zs_bad) ⟨s_X11_wash_0 hcl hinj hX hR hl, trivial⟩ k)
set_option maxRecDepth 1000000 in
theorem e_X11_wash_0 (x1 : Int32) (h : zH) : zL p_X11_wash 0 [some (.inr (.inr (11, 0))), some (.inl x1)] [] h = zci (f_X0_hasCake [(.inr (.inr (0, 0))), (.inl x1)] h) (fun r2 h1 => zf (r2 = 0) (some (some (.inl zm1), h1)) (zci (f_X11_doByHand [(.inr (.inr (11, 0))), (.inl 0), (.inl x1), (.inl zm1)] h1) (fun r4 h3 => zf (r4 = 0) (some (some (.inl zm1), h3)) (zf (vp_in x1 7) (some (some (.inl (h3.1 32 0 x1.toNatClampNeg)), h3)) none)))) := (zL_s (t_X11_wash) [0] 1000 0 _ _ _).trans rfl
theorem g_X11_wash (x1 : Int32) (h : zH) : f_X11_wash [(.inr (.inr (11, 0))), (.inl x1)] h = zci (f_X0_hasCake [(.inr (.inr (0, 0))), (.inl x1)] h) (fun r2 h1 => zf (r2 = 0) (some (some (.inl zm1), h1)) (zci (f_X11_doByHand [(.inr (.inr (11, 0))), (.inl 0), (.inl x1), (.inl zm1)] h1) (fun r4 h3 => zf (r4 = 0) (some (some (.inl zm1), h3)) (zf (vp_in x1 7) (some (some (.inl (h3.1 32 0 x1.toNatClampNeg)), h3)) none)))) := (show f_X11_wash _ h = zL p_X11_wash 0 _ [] h from rfl).trans (e_X11_wash_0 x1 h)
/-! SoapTreaty.hair(I)Z -/
def y_X11_hair : MethodName := ⟨"SoapTreaty", "hair", "(I)Z"⟩
noncomputable def p_X11_hair_0 : List (Nat × zO) := [(0, zo_aload 0 1),
  (1, zo_push (.inl 1) 2),
  (2, zo_iload 1 3),
  (3, zo_push (.inl zm1) 4),
  (4, zo_vir 11 4 (zo_calli (f_X11_doByHand) 4 7)),
  (7, zo_zret)]
noncomputable def p_X11_hair : Nat → zO := zgs [(8, p_X11_hair_0)]
theorem t_X11_hair : ∀ k, zTl (p_X11_hair k) := fun k => zgs_all (c := [(8, p_X11_hair_0)]) (fun _ => zl_bad) ⟨⟨zl_aload, zl_push, zl_iload, zl_push, (zl_vir zl_calli), zl_zret, trivial⟩, trivial⟩ k
noncomputable def f_X11_hair : zS := zrun p_X11_hair 2
set_option maxRecDepth 20000 in
theorem s_X11_hair_0 {l : Launch} {D : va_G} {ad : Nat → Nat → Nat} {cy : Nat → ClassId} {L : List (Nat × Nat)} (hcl : zclo L = true) (hinj : zAd ad L) {X : zCtx} (hX : zXok X "SoapTreaty" prog_1_method_8_code 2) (hR : zRt X (some .boolean)) (hl : zXl X l D ad cy L (zroom 8)) : zAllR (zSo X) p_X11_hair_0 := ⟨zs_aload_n (i := 0) rfl hX (by decide +kernel : decode prog_1_method_8_code 0 = .ok (.aload_n 0, 1)) rfl (by decide),
  zs_pushI (zg_iconst (by decide) hX (by decide +kernel : decode prog_1_method_8_code 1 = .ok (.iconst 1, 1)) rfl),
  zs_iload_n (i := 1) rfl hX (by decide +kernel : decode prog_1_method_8_code 2 = .ok (.iload_n 1, 1)) rfl (by decide),
  zs_pushI (zg_iconst (by decide) hX (by decide +kernel : decode prog_1_method_8_code 3 = .ok (.iconst (-1), 1)) rfl),
  zs_callVi hX zMV_11_169 (zXc_of hl (by decide) (k_X11_doByHand hcl hinj)) (by decide +kernel : decode prog_1_method_8_code 4 = .ok (.invokevirtual 169, 3)) rfl,
  zs_zret hX hR (by decide +kernel : decode prog_1_method_8_code 7 = .ok (.ireturn, 1)), trivial⟩
theorem k_X11_hair {l : Launch} {D : va_G} {ad : Nat → Nat → Nat} {cy : Nat → ClassId} {L : List (Nat × Nat)} (hcl : zclo L = true) (hinj : zAd ad L) : zCk l D ad cy L 8 f_X11_hair y_X11_hair (.code y_X11_hair prog_1_method_8_code 2 (some .boolean)) :=
  z_met (by decide) t_X11_hair hcl hinj (fun X hX hR hl k => zgs_all (Q := zSo X) (c := [(8, p_X11_hair_0)]) (fun _ => zs_bad) ⟨s_X11_hair_0 hcl hinj hX hR hl, trivial⟩ k)
set_option maxRecDepth 1000000 in
theorem e_X11_hair_0 (x1 : Int32) (h : zH) : zL p_X11_hair 0 [some (.inr (.inr (11, 0))), some (.inl x1)] [] h = zci (f_X11_doByHand [(.inr (.inr (11, 0))), (.inl 1), (.inl x1), (.inl zm1)] h) (fun r2 h1 => zf ((r2 : Int32) = 0 ∨ (r2 : Int32) = 1) (some (some (.inl r2), h1)) none) := (zL_s (t_X11_hair) [0] 1000 0 _ _ _).trans rfl
theorem g_X11_hair (x1 : Int32) (h : zH) : f_X11_hair [(.inr (.inr (11, 0))), (.inl x1)] h = zci (f_X11_doByHand [(.inr (.inr (11, 0))), (.inl 1), (.inl x1), (.inl zm1)] h) (fun r2 h1 => zf ((r2 : Int32) = 0 ∨ (r2 : Int32) = 1) (some (some (.inl r2), h1)) none) := (show f_X11_hair _ h = zL p_X11_hair 0 _ [] h from rfl).trans (e_X11_hair_0 x1 h)
/-! SoapTreaty.pick(I)Z -/
def y_X11_pick : MethodName := ⟨"SoapTreaty", "pick", "(I)Z"⟩
noncomputable def p_X11_pick_0 : List (Nat × zO) := [(0, zo_aload 0 1),
  (1, zo_push (.inl 2) 2),
  (2, zo_iload 1 3),
  (3, zo_push (.inl zm1) 4),
  (4, zo_vir 11 4 (zo_calli (f_X11_doByHand) 4 7)),
  (7, zo_zret)]
noncomputable def p_X11_pick : Nat → zO := zgs [(8, p_X11_pick_0)]
theorem t_X11_pick : ∀ k, zTl (p_X11_pick k) := fun k => zgs_all (c := [(8, p_X11_pick_0)]) (fun _ => zl_bad) ⟨⟨zl_aload, zl_push, zl_iload, zl_push, (zl_vir zl_calli), zl_zret, trivial⟩, trivial⟩ k
noncomputable def f_X11_pick : zS := zrun p_X11_pick 2
set_option maxRecDepth 20000 in
theorem s_X11_pick_0 {l : Launch} {D : va_G} {ad : Nat → Nat → Nat} {cy : Nat → ClassId} {L : List (Nat × Nat)} (hcl : zclo L = true) (hinj : zAd ad L) {X : zCtx} (hX : zXok X "SoapTreaty" prog_1_method_9_code 2) (hR : zRt X (some .boolean)) (hl : zXl X l D ad cy L (zroom 8)) : zAllR (zSo X) p_X11_pick_0 := ⟨zs_aload_n (i := 0) rfl hX (by decide +kernel : decode prog_1_method_9_code 0 = .ok (.aload_n 0, 1)) rfl (by decide),
  zs_pushI (zg_iconst (by decide) hX (by decide +kernel : decode prog_1_method_9_code 1 = .ok (.iconst 2, 1)) rfl),
  zs_iload_n (i := 1) rfl hX (by decide +kernel : decode prog_1_method_9_code 2 = .ok (.iload_n 1, 1)) rfl (by decide),
  zs_pushI (zg_iconst (by decide) hX (by decide +kernel : decode prog_1_method_9_code 3 = .ok (.iconst (-1), 1)) rfl),
  zs_callVi hX zMV_11_169 (zXc_of hl (by decide) (k_X11_doByHand hcl hinj)) (by decide +kernel : decode prog_1_method_9_code 4 = .ok (.invokevirtual 169, 3)) rfl,
  zs_zret hX hR (by decide +kernel : decode prog_1_method_9_code 7 = .ok (.ireturn, 1)), trivial⟩
theorem k_X11_pick {l : Launch} {D : va_G} {ad : Nat → Nat → Nat} {cy : Nat → ClassId} {L : List (Nat × Nat)} (hcl : zclo L = true) (hinj : zAd ad L) : zCk l D ad cy L 8 f_X11_pick y_X11_pick (.code y_X11_pick prog_1_method_9_code 2 (some .boolean)) :=
  z_met (by decide) t_X11_pick hcl hinj (fun X hX hR hl k => zgs_all (Q := zSo X) (c := [(8, p_X11_pick_0)]) (fun _ => zs_bad) ⟨s_X11_pick_0 hcl hinj hX hR hl, trivial⟩ k)
set_option maxRecDepth 1000000 in
theorem e_X11_pick_0 (x1 : Int32) (h : zH) : zL p_X11_pick 0 [some (.inr (.inr (11, 0))), some (.inl x1)] [] h = zci (f_X11_doByHand [(.inr (.inr (11, 0))), (.inl 2), (.inl x1), (.inl zm1)] h) (fun r2 h1 => zf ((r2 : Int32) = 0 ∨ (r2 : Int32) = 1) (some (some (.inl r2), h1)) none) := (zL_s (t_X11_pick) [0] 1000 0 _ _ _).trans rfl
theorem g_X11_pick (x1 : Int32) (h : zH) : f_X11_pick [(.inr (.inr (11, 0))), (.inl x1)] h = zci (f_X11_doByHand [(.inr (.inr (11, 0))), (.inl 2), (.inl x1), (.inl zm1)] h) (fun r2 h1 => zf ((r2 : Int32) = 0 ∨ (r2 : Int32) = 1) (some (some (.inl r2), h1)) none) := (show f_X11_pick _ h = zL p_X11_pick 0 _ [] h from rfl).trans (e_X11_pick_0 x1 h)
/-! SoapTreaty.gift(II)Z -/
def y_X11_gift : MethodName := ⟨"SoapTreaty", "gift", "(II)Z"⟩
noncomputable def p_X11_gift_0 : List (Nat × zO) := [(0, zo_aload 0 1),
  (1, zo_push (.inl 3) 2),
  (2, zo_iload 1 3),
  (3, zo_iload 2 4),
  (4, zo_vir 11 4 (zo_calli (f_X11_doByHand) 4 7)),
  (7, zo_zret)]
noncomputable def p_X11_gift : Nat → zO := zgs [(8, p_X11_gift_0)]
theorem t_X11_gift : ∀ k, zTl (p_X11_gift k) := fun k => zgs_all (c := [(8, p_X11_gift_0)]) (fun _ => zl_bad) ⟨⟨zl_aload, zl_push, zl_iload, zl_iload, (zl_vir zl_calli), zl_zret, trivial⟩, trivial⟩ k
noncomputable def f_X11_gift : zS := zrun p_X11_gift 3
set_option maxRecDepth 20000 in
theorem s_X11_gift_0 {l : Launch} {D : va_G} {ad : Nat → Nat → Nat} {cy : Nat → ClassId} {L : List (Nat × Nat)} (hcl : zclo L = true) (hinj : zAd ad L) {X : zCtx} (hX : zXok X "SoapTreaty" prog_1_method_10_code 3) (hR : zRt X (some .boolean)) (hl : zXl X l D ad cy L (zroom 8)) : zAllR (zSo X) p_X11_gift_0 := ⟨zs_aload_n (i := 0) rfl hX (by decide +kernel : decode prog_1_method_10_code 0 = .ok (.aload_n 0, 1)) rfl (by decide),
  zs_pushI (zg_iconst (by decide) hX (by decide +kernel : decode prog_1_method_10_code 1 = .ok (.iconst 3, 1)) rfl),
  zs_iload_n (i := 1) rfl hX (by decide +kernel : decode prog_1_method_10_code 2 = .ok (.iload_n 1, 1)) rfl (by decide),
  zs_iload_n (i := 2) rfl hX (by decide +kernel : decode prog_1_method_10_code 3 = .ok (.iload_n 2, 1)) rfl (by decide),
  zs_callVi hX zMV_11_169 (zXc_of hl (by decide) (k_X11_doByHand hcl hinj)) (by decide +kernel : decode prog_1_method_10_code 4 = .ok (.invokevirtual 169, 3)) rfl,
  zs_zret hX hR (by decide +kernel : decode prog_1_method_10_code 7 = .ok (.ireturn, 1)), trivial⟩
theorem k_X11_gift {l : Launch} {D : va_G} {ad : Nat → Nat → Nat} {cy : Nat → ClassId} {L : List (Nat × Nat)} (hcl : zclo L = true) (hinj : zAd ad L) : zCk l D ad cy L 8 f_X11_gift y_X11_gift (.code y_X11_gift prog_1_method_10_code 3 (some .boolean)) :=
  z_met (by decide) t_X11_gift hcl hinj (fun X hX hR hl k => zgs_all (Q := zSo X) (c := [(8, p_X11_gift_0)]) (fun _ => zs_bad) ⟨s_X11_gift_0 hcl hinj hX hR hl, trivial⟩ k)
set_option maxRecDepth 1000000 in
theorem e_X11_gift_0 (x1 : Int32) (x2 : Int32) (h : zH) : zL p_X11_gift 0 [some (.inr (.inr (11, 0))), some (.inl x1), some (.inl x2)] [] h = zci (f_X11_doByHand [(.inr (.inr (11, 0))), (.inl 3), (.inl x1), (.inl x2)] h) (fun r2 h1 => zf ((r2 : Int32) = 0 ∨ (r2 : Int32) = 1) (some (some (.inl r2), h1)) none) := (zL_s (t_X11_gift) [0] 1000 0 _ _ _).trans rfl
theorem g_X11_gift (x1 : Int32) (x2 : Int32) (h : zH) : f_X11_gift [(.inr (.inr (11, 0))), (.inl x1), (.inl x2)] h = zci (f_X11_doByHand [(.inr (.inr (11, 0))), (.inl 3), (.inl x1), (.inl x2)] h) (fun r2 h1 => zf ((r2 : Int32) = 0 ∨ (r2 : Int32) = 1) (some (some (.inl r2), h1)) none) := (show f_X11_gift _ h = zL p_X11_gift 0 _ [] h from rfl).trans (e_X11_gift_0 x1 x2 h)
/-! SoapTreaty.press(I)I -/
def y_X11_press : MethodName := ⟨"SoapTreaty", "press", "(I)I"⟩
noncomputable def p_X11_press_0 : List (Nat × zO) := [(0, zo_aload 0 1),
  (1, zo_push (.inl 4) 2),
  (2, zo_iload 1 3),
  (3, zo_push (.inl zm1) 4),
  (4, zo_vir 11 4 (zo_calli (f_X11_doByHand) 4 7)),
  (7, zo_0eq 23 10),
  (10, zo_aload 0 11),
  (11, zo_getR 11 4 (some 0) 14),
  (14, zo_getR 4 8 none 17),
  (17, zo_getI 8 5 20),
  (20, zo_goto 24),
  (23, zo_push (.inl zm1) 24),
  (24, zo_iret)]
noncomputable def p_X11_press : Nat → zO := zgs [(25, p_X11_press_0)]
theorem t_X11_press : ∀ k, zTl (p_X11_press k) := fun k => zgs_all (c := [(25, p_X11_press_0)]) (fun _ => zl_bad) ⟨⟨zl_aload, zl_push, zl_iload, zl_push, (zl_vir zl_calli), zl_0eq, zl_aload, zl_getR, zl_getR, zl_getI, zl_goto, zl_push, zl_iret, trivial⟩, trivial⟩ k
noncomputable def f_X11_press : zS := zrun p_X11_press 2
set_option maxRecDepth 20000 in
theorem s_X11_press_0 {l : Launch} {D : va_G} {ad : Nat → Nat → Nat} {cy : Nat → ClassId} {L : List (Nat × Nat)} (hcl : zclo L = true) (hinj : zAd ad L) {X : zCtx} (hX : zXok X "SoapTreaty" prog_1_method_11_code 2) (hR : zRt X (some .int)) (hl : zXl X l D ad cy L (zroom 8)) : zAllR (zSo X) p_X11_press_0 := ⟨zs_aload_n (i := 0) rfl hX (by decide +kernel : decode prog_1_method_11_code 0 = .ok (.aload_n 0, 1)) rfl (by decide),
  zs_pushI (zg_iconst (by decide) hX (by decide +kernel : decode prog_1_method_11_code 1 = .ok (.iconst 4, 1)) rfl),
  zs_iload_n (i := 1) rfl hX (by decide +kernel : decode prog_1_method_11_code 2 = .ok (.iload_n 1, 1)) rfl (by decide),
  zs_pushI (zg_iconst (by decide) hX (by decide +kernel : decode prog_1_method_11_code 3 = .ok (.iconst (-1), 1)) rfl),
  zs_callVi hX zMV_11_169 (zXc_of hl (by decide) (k_X11_doByHand hcl hinj)) (by decide +kernel : decode prog_1_method_11_code 4 = .ok (.invokevirtual 169, 3)) rfl,
  zs_0eq hX (by decide +kernel : decode prog_1_method_11_code 7 = .ok (.ifCond .eq 16, 3)) (by decide) rfl,
  zs_aload_n (i := 0) rfl hX (by decide +kernel : decode prog_1_method_11_code 10 = .ok (.aload_n 0, 1)) rfl (by decide),
  zs_getR hX zFL_11_37 (by decide +kernel : decode prog_1_method_11_code 11 = .ok (.getfield 37, 3)) rfl,
  zs_getR hX zFL_11_115 (by decide +kernel : decode prog_1_method_11_code 14 = .ok (.getfield 115, 3)) rfl,
  zs_getI hX zFL_11_173 (by decide) (by decide) (by decide +kernel : decode prog_1_method_11_code 17 = .ok (.getfield 173, 3)) rfl,
  zs_goto hX (by decide +kernel : decode prog_1_method_11_code 20 = .ok (.goto 4, 3)) (by decide),
  zs_pushI (zg_iconst (by decide) hX (by decide +kernel : decode prog_1_method_11_code 23 = .ok (.iconst (-1), 1)) rfl),
  zs_iret hX hR (by decide +kernel : decode prog_1_method_11_code 24 = .ok (.ireturn, 1)), trivial⟩
theorem k_X11_press {l : Launch} {D : va_G} {ad : Nat → Nat → Nat} {cy : Nat → ClassId} {L : List (Nat × Nat)} (hcl : zclo L = true) (hinj : zAd ad L) : zCk l D ad cy L 8 f_X11_press y_X11_press (.code y_X11_press prog_1_method_11_code 2 (some .int)) :=
  z_met (by decide) t_X11_press hcl hinj (fun X hX hR hl k => zgs_all (Q := zSo X) (c := [(25, p_X11_press_0)]) (fun _ => zs_bad) ⟨s_X11_press_0 hcl hinj hX hR hl, trivial⟩ k)
set_option maxRecDepth 1000000 in
theorem e_X11_press_0 (x1 : Int32) (h : zH) : zL p_X11_press 0 [some (.inr (.inr (11, 0))), some (.inl x1)] [] h = zci (f_X11_doByHand [(.inr (.inr (11, 0))), (.inl 4), (.inl x1), (.inl zm1)] h) (fun r2 h1 => zf (r2 = 0) (some (some (.inl zm1), h1)) (some (some (.inl (h1.1 8 0 5)), h1))) := (zL_s (t_X11_press) [0] 1000 0 _ _ _).trans rfl
theorem g_X11_press (x1 : Int32) (h : zH) : f_X11_press [(.inr (.inr (11, 0))), (.inl x1)] h = zci (f_X11_doByHand [(.inr (.inr (11, 0))), (.inl 4), (.inl x1), (.inl zm1)] h) (fun r2 h1 => zf (r2 = 0) (some (some (.inl zm1), h1)) (some (some (.inl (h1.1 8 0 5)), h1))) := (show f_X11_press _ h = zL p_X11_press 0 _ [] h from rfl).trans (e_X11_press_0 x1 h)
theorem zMV_11_176 : zMV "SoapTreaty" 176 8 y_X8_thereBits prog_10_method_15_code 3 (some .int) 0 := ⟨⟨zT_of 919 (by decide +kernel) (by decide +kernel), zT_of 920 (by decide +kernel) (by decide +kernel), zT_of 921 (by decide +kernel) (by decide +kernel), zT_of 115 (by decide +kernel) (by decide +kernel), zT_of 922 (by decide +kernel) (by decide +kernel)⟩, by decide, rfl, ⟨zT8, 7, rfl⟩, by decide, by decide, by decide +kernel⟩
/-! SoapTreaty.week()I -/
def y_X11_week : MethodName := ⟨"SoapTreaty", "week", "()I"⟩
noncomputable def p_X11_week_0 : List (Nat × zO) := [(0, zo_aload 0 1),
  (1, zo_getR 11 4 (some 0) 4),
  (4, zo_getR 4 8 none 7),
  (7, zo_vir 8 1 (zo_calli (f_X8_thereBits) 1 10)),
  (10, zo_istore 1 11),
  (11, zo_aload 0 12),
  (12, zo_push (.inl 5) 13),
  (13, zo_push (.inl zm1) 14),
  (14, zo_push (.inl zm1) 15),
  (15, zo_vir 11 4 (zo_calli (f_X11_doByHand) 4 18)),
  (18, zo_pop 19),
  (19, zo_iload 1 20),
  (20, zo_aload 0 21),
  (21, zo_getR 11 4 (some 0) 24),
  (24, zo_getR 4 8 none 27),
  (27, zo_vir 8 1 (zo_calli (f_X8_thereBits) 1 30)),
  (30, zo_push (.inl zm1) 31),
  (31, zo_ii (fun x y => x ^^^ y) 32),
  (32, zo_ii (fun x y => x &&& y) 33),
  (33, zo_iret)]
noncomputable def p_X11_week : Nat → zO := zgs [(34, p_X11_week_0)]
theorem t_X11_week : ∀ k, zTl (p_X11_week k) := fun k => zgs_all (c := [(34, p_X11_week_0)]) (fun _ => zl_bad) ⟨⟨zl_aload, zl_getR, zl_getR, (zl_vir zl_calli), zl_istore, zl_aload, zl_push, zl_push, zl_push, (zl_vir zl_calli), zl_pop, zl_iload, zl_aload, zl_getR, zl_getR, (zl_vir zl_calli), zl_push, zl_ii, zl_ii, zl_iret, trivial⟩, trivial⟩ k
noncomputable def f_X11_week : zS := zrun p_X11_week 2
set_option maxRecDepth 20000 in
theorem s_X11_week_0 {l : Launch} {D : va_G} {ad : Nat → Nat → Nat} {cy : Nat → ClassId} {L : List (Nat × Nat)} (hcl : zclo L = true) (hinj : zAd ad L) {X : zCtx} (hX : zXok X "SoapTreaty" prog_1_method_12_code 2) (hR : zRt X (some .int)) (hl : zXl X l D ad cy L (zroom 8)) : zAllR (zSo X) p_X11_week_0 := ⟨zs_aload_n (i := 0) rfl hX (by decide +kernel : decode prog_1_method_12_code 0 = .ok (.aload_n 0, 1)) rfl (by decide),
  zs_getR hX zFL_11_37 (by decide +kernel : decode prog_1_method_12_code 1 = .ok (.getfield 37, 3)) rfl,
  zs_getR hX zFL_11_115 (by decide +kernel : decode prog_1_method_12_code 4 = .ok (.getfield 115, 3)) rfl,
  zs_callVi hX zMV_11_176 (zXc_of hl (by decide) (k_X8_thereBits hcl hinj)) (by decide +kernel : decode prog_1_method_12_code 7 = .ok (.invokevirtual 176, 3)) rfl,
  zs_istore_n (i := 1) rfl hX (by decide +kernel : decode prog_1_method_12_code 10 = .ok (.istore_n 1, 1)) rfl (by decide),
  zs_aload_n (i := 0) rfl hX (by decide +kernel : decode prog_1_method_12_code 11 = .ok (.aload_n 0, 1)) rfl (by decide),
  zs_pushI (zg_iconst (by decide) hX (by decide +kernel : decode prog_1_method_12_code 12 = .ok (.iconst 5, 1)) rfl),
  zs_pushI (zg_iconst (by decide) hX (by decide +kernel : decode prog_1_method_12_code 13 = .ok (.iconst (-1), 1)) rfl),
  zs_pushI (zg_iconst (by decide) hX (by decide +kernel : decode prog_1_method_12_code 14 = .ok (.iconst (-1), 1)) rfl),
  zs_callVi hX zMV_11_169 (zXc_of hl (by decide) (k_X11_doByHand hcl hinj)) (by decide +kernel : decode prog_1_method_12_code 15 = .ok (.invokevirtual 169, 3)) rfl,
  zs_pop_ (zg_pop hX (by decide +kernel : decode prog_1_method_12_code 18 = .ok (.pop, 1)) rfl),
  zs_iload_n (i := 1) rfl hX (by decide +kernel : decode prog_1_method_12_code 19 = .ok (.iload_n 1, 1)) rfl (by decide),
  zs_aload_n (i := 0) rfl hX (by decide +kernel : decode prog_1_method_12_code 20 = .ok (.aload_n 0, 1)) rfl (by decide),
  zs_getR hX zFL_11_37 (by decide +kernel : decode prog_1_method_12_code 21 = .ok (.getfield 37, 3)) rfl,
  zs_getR hX zFL_11_115 (by decide +kernel : decode prog_1_method_12_code 24 = .ok (.getfield 115, 3)) rfl,
  zs_callVi hX zMV_11_176 (zXc_of hl (by decide) (k_X8_thereBits hcl hinj)) (by decide +kernel : decode prog_1_method_12_code 27 = .ok (.invokevirtual 176, 3)) rfl,
  zs_pushI (zg_iconst (by decide) hX (by decide +kernel : decode prog_1_method_12_code 30 = .ok (.iconst (-1), 1)) rfl),
  zs_ii (zg_ixor hX (by decide +kernel : decode prog_1_method_12_code 31 = .ok (.ixor, 1)) rfl),
  zs_ii (zg_iand hX (by decide +kernel : decode prog_1_method_12_code 32 = .ok (.iand, 1)) rfl),
  zs_iret hX hR (by decide +kernel : decode prog_1_method_12_code 33 = .ok (.ireturn, 1)), trivial⟩
theorem k_X11_week {l : Launch} {D : va_G} {ad : Nat → Nat → Nat} {cy : Nat → ClassId} {L : List (Nat × Nat)} (hcl : zclo L = true) (hinj : zAd ad L) : zCk l D ad cy L 8 f_X11_week y_X11_week (.code y_X11_week prog_1_method_12_code 2 (some .int)) :=
  z_met (by decide) t_X11_week hcl hinj (fun X hX hR hl k => zgs_all (Q := zSo X) (c := [(34, p_X11_week_0)]) (fun _ => zs_bad) ⟨s_X11_week_0 hcl hinj hX hR hl, trivial⟩ k)
set_option maxRecDepth 1000000 in
theorem e_X11_week_0 (h : zH) : zL p_X11_week 0 [some (.inr (.inr (11, 0))), none] [] h = zci (f_X8_thereBits [(.inr (.inr (8, 0)))] h) (fun r2 h1 => zci (f_X11_doByHand [(.inr (.inr (11, 0))), (.inl 5), (.inl zm1), (.inl zm1)] h1) (fun r4 h3 => zci (f_X8_thereBits [(.inr (.inr (8, 0)))] h3) (fun r6 h5 => some (some (.inl (r2 &&& (r6 ^^^ zm1))), h5)))) := (zL_s (t_X11_week) [0] 1000 0 _ _ _).trans rfl
theorem g_X11_week (h : zH) : f_X11_week [(.inr (.inr (11, 0)))] h = zci (f_X8_thereBits [(.inr (.inr (8, 0)))] h) (fun r2 h1 => zci (f_X11_doByHand [(.inr (.inr (11, 0))), (.inl 5), (.inl zm1), (.inl zm1)] h1) (fun r4 h3 => zci (f_X8_thereBits [(.inr (.inr (8, 0)))] h3) (fun r6 h5 => some (some (.inl (r2 &&& (r6 ^^^ zm1))), h5)))) := (show f_X11_week _ h = zL p_X11_week 0 _ [] h from rfl).trans (e_X11_week_0 h)
theorem zMV_11_179 : zMV "SoapTreaty" 179 5 y_X5_giveBack prog_7_method_3_code 2 (some .boolean) 1 := ⟨⟨zT_of 927 (by decide +kernel) (by decide +kernel), zT_of 928 (by decide +kernel) (by decide +kernel), zT_of 929 (by decide +kernel) (by decide +kernel), zT_of 117 (by decide +kernel) (by decide +kernel), zT_of 930 (by decide +kernel) (by decide +kernel)⟩, by decide, rfl, ⟨zT5, 3, rfl⟩, by decide, by decide, by decide +kernel⟩
/-! SoapTreaty.undo()Z -/
def y_X11_undo : MethodName := ⟨"SoapTreaty", "undo", "()Z"⟩
noncomputable def p_X11_undo_0 : List (Nat × zO) := [(0, zo_aload 0 1),
  (1, zo_getR 11 5 none 4),
  (4, zo_aload 0 5),
  (5, zo_getR 11 4 (some 0) 8),
  (8, zo_getR 4 8 none 11),
  (11, zo_vir 5 2 (zo_calli (f_X5_giveBack) 2 14)),
  (14, zo_zret)]
noncomputable def p_X11_undo : Nat → zO := zgs [(15, p_X11_undo_0)]
theorem t_X11_undo : ∀ k, zTl (p_X11_undo k) := fun k => zgs_all (c := [(15, p_X11_undo_0)]) (fun _ => zl_bad) ⟨⟨zl_aload, zl_getR, zl_aload, zl_getR, zl_getR, (zl_vir zl_calli), zl_zret, trivial⟩, trivial⟩ k
noncomputable def f_X11_undo : zS := zrun p_X11_undo 1
set_option maxRecDepth 20000 in
theorem s_X11_undo_0 {l : Launch} {D : va_G} {ad : Nat → Nat → Nat} {cy : Nat → ClassId} {L : List (Nat × Nat)} (hcl : zclo L = true) (hinj : zAd ad L) {X : zCtx} (hX : zXok X "SoapTreaty" prog_1_method_13_code 1) (hR : zRt X (some .boolean)) (hl : zXl X l D ad cy L (zroom 3)) : zAllR (zSo X) p_X11_undo_0 := ⟨zs_aload_n (i := 0) rfl hX (by decide +kernel : decode prog_1_method_13_code 0 = .ok (.aload_n 0, 1)) rfl (by decide),
  zs_getR hX zFL_11_48 (by decide +kernel : decode prog_1_method_13_code 1 = .ok (.getfield 48, 3)) rfl,
  zs_aload_n (i := 0) rfl hX (by decide +kernel : decode prog_1_method_13_code 4 = .ok (.aload_n 0, 1)) rfl (by decide),
  zs_getR hX zFL_11_37 (by decide +kernel : decode prog_1_method_13_code 5 = .ok (.getfield 37, 3)) rfl,
  zs_getR hX zFL_11_115 (by decide +kernel : decode prog_1_method_13_code 8 = .ok (.getfield 115, 3)) rfl,
  zs_callVi hX zMV_11_179 (zXc_of hl (by decide) (k_X5_giveBack hcl hinj)) (by decide +kernel : decode prog_1_method_13_code 11 = .ok (.invokevirtual 179, 3)) rfl,
  zs_zret hX hR (by decide +kernel : decode prog_1_method_13_code 14 = .ok (.ireturn, 1)), trivial⟩
theorem k_X11_undo {l : Launch} {D : va_G} {ad : Nat → Nat → Nat} {cy : Nat → ClassId} {L : List (Nat × Nat)} (hcl : zclo L = true) (hinj : zAd ad L) : zCk l D ad cy L 3 f_X11_undo y_X11_undo (.code y_X11_undo prog_1_method_13_code 1 (some .boolean)) :=
  z_met (by decide) t_X11_undo hcl hinj (fun X hX hR hl k => zgs_all (Q := zSo X) (c := [(15, p_X11_undo_0)]) (fun _ => zs_bad) ⟨s_X11_undo_0 hcl hinj hX hR hl, trivial⟩ k)
set_option maxRecDepth 1000000 in
theorem e_X11_undo_0 (h : zH) : zL p_X11_undo 0 [some (.inr (.inr (11, 0)))] [] h = zci (f_X5_giveBack [(.inr (.inr (5, 0))), (.inr (.inr (8, 0)))] h) (fun r2 h1 => zf ((r2 : Int32) = 0 ∨ (r2 : Int32) = 1) (some (some (.inl r2), h1)) none) := (zL_s (t_X11_undo) [0] 1000 0 _ _ _).trans rfl
theorem g_X11_undo (h : zH) : f_X11_undo [(.inr (.inr (11, 0)))] h = zci (f_X5_giveBack [(.inr (.inr (5, 0))), (.inr (.inr (8, 0)))] h) (fun r2 h1 => zf ((r2 : Int32) = 0 ∨ (r2 : Int32) = 1) (some (some (.inl r2), h1)) none) := (show f_X11_undo _ h = zL p_X11_undo 0 _ [] h from rfl).trans (e_X11_undo_0 h)
theorem zMV_11_183 : zMV "SoapTreaty" 183 8 y_X8_begin prog_10_method_2_code 2 none 0 := ⟨⟨zT_of 935 (by decide +kernel) (by decide +kernel), zT_of 732 (by decide +kernel) (by decide +kernel), zT_of 733 (by decide +kernel) (by decide +kernel), zT_of 115 (by decide +kernel) (by decide +kernel), zT_of 734 (by decide +kernel) (by decide +kernel)⟩, by decide, rfl, ⟨zT8, 7, rfl⟩, by decide, by decide, by decide +kernel⟩
theorem zMV_11_199 : zMV "SoapTreaty" 199 8 y_X8_isAnyFound prog_10_method_7_code 2 (some .boolean) 0 := ⟨⟨zT_of 936 (by decide +kernel) (by decide +kernel), zT_of 937 (by decide +kernel) (by decide +kernel), zT_of 938 (by decide +kernel) (by decide +kernel), zT_of 115 (by decide +kernel) (by decide +kernel), zT_of 939 (by decide +kernel) (by decide +kernel)⟩, by decide, rfl, ⟨zT8, 7, rfl⟩, by decide, by decide, by decide +kernel⟩
/-! SoapTreaty.judged(I)I -/
def y_X11_judged : MethodName := ⟨"SoapTreaty", "judged", "(I)I"⟩
noncomputable def p_X11_judged_0 : List (Nat × zO) := [(0, zo_iload 1 1),
  (1, zo_0lt 9 4),
  (4, zo_iload 1 5),
  (5, zo_push (.inl 2) 6),
  (6, zo_cle 12 9),
  (9, zo_push (.inl zm2) 11),
  (11, zo_iret),
  (12, zo_push (.inl zm1) 13),
  (13, zo_istore 2 14),
  (14, zo_push (.inl zm1) 15),
  (15, zo_istore 3 16),
  (16, zo_aload 0 17),
  (17, zo_getR 11 4 (some 0) 20),
  (20, zo_getR 4 3 none 23),
  (23, zo_astore 4 25),
  (25, zo_aload 0 26),
  (26, zo_getR 11 8 (some 21) 29),
  (29, zo_vir 8 1 (zo_callv (f_X8_begin) 1 32)),
  (32, zo_push (.inl 0) 33),
  (33, zo_istore 5 35)]
noncomputable def p_X11_judged_1 : List (Nat × zO) := [(35, zo_kill [6] (zo_iload 5 37)),
  (37, zo_aload 4 39),
  (39, zo_getI 3 0 42),
  (42, zo_cge 115 45),
  (45, zo_aload 0 46),
  (46, zo_getR 11 8 (some 21) 49),
  (49, zo_aload 4 51),
  (51, zo_getR 3 24 none 54),
  (54, zo_iload 5 56),
  (56, zo_iald 57),
  (57, zo_aload 4 59),
  (59, zo_getR 3 25 none 62),
  (62, zo_iload 5 64),
  (64, zo_iald 65),
  (65, zo_aload 4 67),
  (67, zo_getR 3 26 none 70),
  (70, zo_iload 5 72),
  (72, zo_iald 73),
  (73, zo_vir 8 4 (zo_calli (f_X8_attempt) 4 76)),
  (76, zo_istore 6 78)]
noncomputable def p_X11_judged_2 : List (Nat × zO) := [(78, zo_iload 6 80),
  (80, zo_0ne 91 83),
  (83, zo_iload 2 84),
  (84, zo_push (.inl zm1) 85),
  (85, zo_cne 91 88),
  (88, zo_iload 5 90),
  (90, zo_istore 2 91),
  (91, zo_kill [6] (zo_iload 3 92)),
  (92, zo_push (.inl zm1) 93),
  (93, zo_cne 109 96),
  (96, zo_aload 0 97),
  (97, zo_getR 11 8 (some 21) 100),
  (100, zo_vir 8 1 (zo_calli (f_X8_isAnyFound) 1 103)),
  (103, zo_0eq 109 106),
  (106, zo_iload 5 108),
  (108, zo_istore 3 109),
  (109, zo_iinc 5 1 112),
  (112, zo_goto 35),
  (115, zo_iload 1 116),
  (116, zo_0ne 123 119)]
noncomputable def p_X11_judged_3 : List (Nat × zO) := [(119, zo_iload 2 120),
  (120, zo_goto 139),
  (123, zo_iload 1 124),
  (124, zo_push (.inl 1) 125),
  (125, zo_cne 132 128),
  (128, zo_iload 3 129),
  (129, zo_goto 139),
  (132, zo_aload 0 133),
  (133, zo_getR 11 8 (some 21) 136),
  (136, zo_getI 8 5 139),
  (139, zo_iret)]
noncomputable def p_X11_judged : Nat → zO := zgs [(34, p_X11_judged_0), (77, p_X11_judged_1), (117, p_X11_judged_2), (140, p_X11_judged_3)]
theorem t_X11_judged : ∀ k, zTl (p_X11_judged k) := fun k => zgs_all (c := [(34, p_X11_judged_0), (77, p_X11_judged_1), (117, p_X11_judged_2), (140, p_X11_judged_3)]) (fun _ => zl_bad) ⟨⟨zl_iload, zl_0lt, zl_iload, zl_push, zl_cle, zl_push, zl_iret, zl_push, zl_istore, zl_push, zl_istore, zl_aload, zl_getR, zl_getR, zl_astore, zl_aload, zl_getR, (zl_vir zl_callv), zl_push, zl_istore, trivial⟩, ⟨(zl_kill zl_iload), zl_aload, zl_getI, zl_cge, zl_aload, zl_getR, zl_aload, zl_getR, zl_iload, zl_iald, zl_aload, zl_getR, zl_iload, zl_iald, zl_aload, zl_getR, zl_iload, zl_iald, (zl_vir zl_calli), zl_istore, trivial⟩, ⟨zl_iload, zl_0ne, zl_iload, zl_push, zl_cne, zl_iload, zl_istore, (zl_kill zl_iload), zl_push, zl_cne, zl_aload, zl_getR, (zl_vir zl_calli), zl_0eq, zl_iload, zl_istore, zl_iinc, zl_goto, zl_iload, zl_0ne, trivial⟩, ⟨zl_iload, zl_goto, zl_iload, zl_push, zl_cne, zl_iload, zl_goto, zl_aload, zl_getR, zl_getI, zl_iret, trivial⟩, trivial⟩ k
noncomputable def f_X11_judged : zS := zrun p_X11_judged 7
set_option maxRecDepth 20000 in
theorem s_X11_judged_0 {l : Launch} {D : va_G} {ad : Nat → Nat → Nat} {cy : Nat → ClassId} {L : List (Nat × Nat)} (hcl : zclo L = true) (hinj : zAd ad L) {X : zCtx} (hX : zXok X "SoapTreaty" prog_1_method_14_code 7) (hR : zRt X (some .int)) (hl : zXl X l D ad cy L (zroom 7)) : zAllR (zSo X) p_X11_judged_0 := ⟨zs_iload_n (i := 1) rfl hX (by decide +kernel : decode prog_1_method_14_code 0 = .ok (.iload_n 1, 1)) rfl (by decide),
  zs_0lt hX (by decide +kernel : decode prog_1_method_14_code 1 = .ok (.ifCond .lt 8, 3)) (by decide) rfl,
  zs_iload_n (i := 1) rfl hX (by decide +kernel : decode prog_1_method_14_code 4 = .ok (.iload_n 1, 1)) rfl (by decide),
  zs_pushI (zg_iconst (by decide) hX (by decide +kernel : decode prog_1_method_14_code 5 = .ok (.iconst 2, 1)) rfl),
  zs_cle hX (by decide +kernel : decode prog_1_method_14_code 6 = .ok (.if_icmp .le 6, 3)) (by decide) rfl,
  zs_pushI (zg_bipush (by decide) hX (by decide +kernel : decode prog_1_method_14_code 9 = .ok (.bipush (-2), 2)) rfl),
  zs_iret hX hR (by decide +kernel : decode prog_1_method_14_code 11 = .ok (.ireturn, 1)),
  zs_pushI (zg_iconst (by decide) hX (by decide +kernel : decode prog_1_method_14_code 12 = .ok (.iconst (-1), 1)) rfl),
  zs_istore_n (i := 2) rfl hX (by decide +kernel : decode prog_1_method_14_code 13 = .ok (.istore_n 2, 1)) rfl (by decide),
  zs_pushI (zg_iconst (by decide) hX (by decide +kernel : decode prog_1_method_14_code 14 = .ok (.iconst (-1), 1)) rfl),
  zs_istore_n (i := 3) rfl hX (by decide +kernel : decode prog_1_method_14_code 15 = .ok (.istore_n 3, 1)) rfl (by decide),
  zs_aload_n (i := 0) rfl hX (by decide +kernel : decode prog_1_method_14_code 16 = .ok (.aload_n 0, 1)) rfl (by decide),
  zs_getR hX zFL_11_37 (by decide +kernel : decode prog_1_method_14_code 17 = .ok (.getfield 37, 3)) rfl,
  zs_getR hX zFL_11_99 (by decide +kernel : decode prog_1_method_14_code 20 = .ok (.getfield 99, 3)) rfl,
  zs_astore hX (by decide +kernel : decode prog_1_method_14_code 23 = .ok (.astore 4, 2)) rfl (by decide),
  zs_aload_n (i := 0) rfl hX (by decide +kernel : decode prog_1_method_14_code 25 = .ok (.aload_n 0, 1)) rfl (by decide),
  zs_getR hX zFL_11_55 (by decide +kernel : decode prog_1_method_14_code 26 = .ok (.getfield 55, 3)) rfl,
  zs_callVv hX zMV_11_183 (zXc_of hl (by decide) (k_X8_begin hcl hinj)) (by decide +kernel : decode prog_1_method_14_code 29 = .ok (.invokevirtual 183, 3)) rfl,
  zs_pushI (zg_iconst (by decide) hX (by decide +kernel : decode prog_1_method_14_code 32 = .ok (.iconst 0, 1)) rfl),
  zs_istore hX (by decide +kernel : decode prog_1_method_14_code 33 = .ok (.istore 5, 2)) rfl (by decide), trivial⟩
set_option maxRecDepth 20000 in
theorem s_X11_judged_1 {l : Launch} {D : va_G} {ad : Nat → Nat → Nat} {cy : Nat → ClassId} {L : List (Nat × Nat)} (hcl : zclo L = true) (hinj : zAd ad L) {X : zCtx} (hX : zXok X "SoapTreaty" prog_1_method_14_code 7) (hR : zRt X (some .int)) (hl : zXl X l D ad cy L (zroom 7)) : zAllR (zSo X) p_X11_judged_1 := ⟨zs_kill hX (by decide) (zs_iload hX (by decide +kernel : decode prog_1_method_14_code 35 = .ok (.iload 5, 2)) rfl (by decide)),
  zs_aload hX (by decide +kernel : decode prog_1_method_14_code 37 = .ok (.aload 4, 2)) rfl (by decide),
  zs_getI hX zFL_11_184 (by decide) (by decide) (by decide +kernel : decode prog_1_method_14_code 39 = .ok (.getfield 184, 3)) rfl,
  zs_cge hX (by decide +kernel : decode prog_1_method_14_code 42 = .ok (.if_icmp .ge 73, 3)) (by decide) rfl,
  zs_aload_n (i := 0) rfl hX (by decide +kernel : decode prog_1_method_14_code 45 = .ok (.aload_n 0, 1)) rfl (by decide),
  zs_getR hX zFL_11_55 (by decide +kernel : decode prog_1_method_14_code 46 = .ok (.getfield 55, 3)) rfl,
  zs_aload hX (by decide +kernel : decode prog_1_method_14_code 49 = .ok (.aload 4, 2)) rfl (by decide),
  zs_getR hX zFL_11_187 (by decide +kernel : decode prog_1_method_14_code 51 = .ok (.getfield 187, 3)) rfl,
  zs_iload hX (by decide +kernel : decode prog_1_method_14_code 54 = .ok (.iload 5, 2)) rfl (by decide),
  zs_iald hX (by decide +kernel : decode prog_1_method_14_code 56 = .ok (.iaload, 1)) rfl,
  zs_aload hX (by decide +kernel : decode prog_1_method_14_code 57 = .ok (.aload 4, 2)) rfl (by decide),
  zs_getR hX zFL_11_190 (by decide +kernel : decode prog_1_method_14_code 59 = .ok (.getfield 190, 3)) rfl,
  zs_iload hX (by decide +kernel : decode prog_1_method_14_code 62 = .ok (.iload 5, 2)) rfl (by decide),
  zs_iald hX (by decide +kernel : decode prog_1_method_14_code 64 = .ok (.iaload, 1)) rfl,
  zs_aload hX (by decide +kernel : decode prog_1_method_14_code 65 = .ok (.aload 4, 2)) rfl (by decide),
  zs_getR hX zFL_11_193 (by decide +kernel : decode prog_1_method_14_code 67 = .ok (.getfield 193, 3)) rfl,
  zs_iload hX (by decide +kernel : decode prog_1_method_14_code 70 = .ok (.iload 5, 2)) rfl (by decide),
  zs_iald hX (by decide +kernel : decode prog_1_method_14_code 72 = .ok (.iaload, 1)) rfl,
  zs_callVi hX zMV_11_196 (zXc_of hl (by decide) (k_X8_attempt hcl hinj)) (by decide +kernel : decode prog_1_method_14_code 73 = .ok (.invokevirtual 196, 3)) rfl,
  zs_istore hX (by decide +kernel : decode prog_1_method_14_code 76 = .ok (.istore 6, 2)) rfl (by decide), trivial⟩
set_option maxRecDepth 20000 in
theorem s_X11_judged_2 {l : Launch} {D : va_G} {ad : Nat → Nat → Nat} {cy : Nat → ClassId} {L : List (Nat × Nat)} (hcl : zclo L = true) (hinj : zAd ad L) {X : zCtx} (hX : zXok X "SoapTreaty" prog_1_method_14_code 7) (hR : zRt X (some .int)) (hl : zXl X l D ad cy L (zroom 7)) : zAllR (zSo X) p_X11_judged_2 := ⟨zs_iload hX (by decide +kernel : decode prog_1_method_14_code 78 = .ok (.iload 6, 2)) rfl (by decide),
  zs_0ne hX (by decide +kernel : decode prog_1_method_14_code 80 = .ok (.ifCond .ne 11, 3)) (by decide) rfl,
  zs_iload_n (i := 2) rfl hX (by decide +kernel : decode prog_1_method_14_code 83 = .ok (.iload_n 2, 1)) rfl (by decide),
  zs_pushI (zg_iconst (by decide) hX (by decide +kernel : decode prog_1_method_14_code 84 = .ok (.iconst (-1), 1)) rfl),
  zs_cne hX (by decide +kernel : decode prog_1_method_14_code 85 = .ok (.if_icmp .ne 6, 3)) (by decide) rfl,
  zs_iload hX (by decide +kernel : decode prog_1_method_14_code 88 = .ok (.iload 5, 2)) rfl (by decide),
  zs_istore_n (i := 2) rfl hX (by decide +kernel : decode prog_1_method_14_code 90 = .ok (.istore_n 2, 1)) rfl (by decide),
  zs_kill hX (by decide) (zs_iload_n (i := 3) rfl hX (by decide +kernel : decode prog_1_method_14_code 91 = .ok (.iload_n 3, 1)) rfl (by decide)),
  zs_pushI (zg_iconst (by decide) hX (by decide +kernel : decode prog_1_method_14_code 92 = .ok (.iconst (-1), 1)) rfl),
  zs_cne hX (by decide +kernel : decode prog_1_method_14_code 93 = .ok (.if_icmp .ne 16, 3)) (by decide) rfl,
  zs_aload_n (i := 0) rfl hX (by decide +kernel : decode prog_1_method_14_code 96 = .ok (.aload_n 0, 1)) rfl (by decide),
  zs_getR hX zFL_11_55 (by decide +kernel : decode prog_1_method_14_code 97 = .ok (.getfield 55, 3)) rfl,
  zs_callVi hX zMV_11_199 (zXc_of hl (by decide) (k_X8_isAnyFound hcl hinj)) (by decide +kernel : decode prog_1_method_14_code 100 = .ok (.invokevirtual 199, 3)) rfl,
  zs_0eq hX (by decide +kernel : decode prog_1_method_14_code 103 = .ok (.ifCond .eq 6, 3)) (by decide) rfl,
  zs_iload hX (by decide +kernel : decode prog_1_method_14_code 106 = .ok (.iload 5, 2)) rfl (by decide),
  zs_istore_n (i := 3) rfl hX (by decide +kernel : decode prog_1_method_14_code 108 = .ok (.istore_n 3, 1)) rfl (by decide),
  zs_iinc hX (by decide +kernel : decode prog_1_method_14_code 109 = .ok (.iinc 5 1, 3)) (by decide) rfl (by decide),
  zs_goto hX (by decide +kernel : decode prog_1_method_14_code 112 = .ok (.goto (-77), 3)) (by decide),
  zs_iload_n (i := 1) rfl hX (by decide +kernel : decode prog_1_method_14_code 115 = .ok (.iload_n 1, 1)) rfl (by decide),
  zs_0ne hX (by decide +kernel : decode prog_1_method_14_code 116 = .ok (.ifCond .ne 7, 3)) (by decide) rfl, trivial⟩
set_option maxRecDepth 20000 in
theorem s_X11_judged_3 {l : Launch} {D : va_G} {ad : Nat → Nat → Nat} {cy : Nat → ClassId} {L : List (Nat × Nat)} (hcl : zclo L = true) (hinj : zAd ad L) {X : zCtx} (hX : zXok X "SoapTreaty" prog_1_method_14_code 7) (hR : zRt X (some .int)) (hl : zXl X l D ad cy L (zroom 7)) : zAllR (zSo X) p_X11_judged_3 := ⟨zs_iload_n (i := 2) rfl hX (by decide +kernel : decode prog_1_method_14_code 119 = .ok (.iload_n 2, 1)) rfl (by decide),
  zs_goto hX (by decide +kernel : decode prog_1_method_14_code 120 = .ok (.goto 19, 3)) (by decide),
  zs_iload_n (i := 1) rfl hX (by decide +kernel : decode prog_1_method_14_code 123 = .ok (.iload_n 1, 1)) rfl (by decide),
  zs_pushI (zg_iconst (by decide) hX (by decide +kernel : decode prog_1_method_14_code 124 = .ok (.iconst 1, 1)) rfl),
  zs_cne hX (by decide +kernel : decode prog_1_method_14_code 125 = .ok (.if_icmp .ne 7, 3)) (by decide) rfl,
  zs_iload_n (i := 3) rfl hX (by decide +kernel : decode prog_1_method_14_code 128 = .ok (.iload_n 3, 1)) rfl (by decide),
  zs_goto hX (by decide +kernel : decode prog_1_method_14_code 129 = .ok (.goto 10, 3)) (by decide),
  zs_aload_n (i := 0) rfl hX (by decide +kernel : decode prog_1_method_14_code 132 = .ok (.aload_n 0, 1)) rfl (by decide),
  zs_getR hX zFL_11_55 (by decide +kernel : decode prog_1_method_14_code 133 = .ok (.getfield 55, 3)) rfl,
  zs_getI hX zFL_11_173 (by decide) (by decide) (by decide +kernel : decode prog_1_method_14_code 136 = .ok (.getfield 173, 3)) rfl,
  zs_iret hX hR (by decide +kernel : decode prog_1_method_14_code 139 = .ok (.ireturn, 1)), trivial⟩
theorem k_X11_judged {l : Launch} {D : va_G} {ad : Nat → Nat → Nat} {cy : Nat → ClassId} {L : List (Nat × Nat)} (hcl : zclo L = true) (hinj : zAd ad L) : zCk l D ad cy L 7 f_X11_judged y_X11_judged (.code y_X11_judged prog_1_method_14_code 7 (some .int)) :=
  z_met (by decide) t_X11_judged hcl hinj (fun X hX hR hl k => zgs_all (Q := zSo X) (c := [(34, p_X11_judged_0), (77, p_X11_judged_1), (117, p_X11_judged_2), (140, p_X11_judged_3)]) (fun _ => zs_bad) ⟨s_X11_judged_0 hcl hinj hX hR hl, s_X11_judged_1 hcl hinj hX hR hl, s_X11_judged_2 hcl hinj hX hR hl, s_X11_judged_3 hcl hinj hX hR hl, trivial⟩ k)
set_option maxRecDepth 1000000 in
theorem e_X11_judged_0 (x1 : Int32) (h : zH) : zL p_X11_judged 0 [some (.inr (.inr (11, 0))), some (.inl x1), none, none, none, none, none] [] h = zf (x1 < 0) (some (some (.inl zm2), h)) (zf (2 < x1) (some (some (.inl zm2), h)) (zcv (f_X8_begin [(.inr (.inr (8, 21)))] h) (fun h1 => zL p_X11_judged 35 [some (.inr (.inr (11, 0))), some (.inl x1), some (.inl zm1), some (.inl zm1), some (.inr (.inr (3, 0))), some (.inl 0), none] [] h1))) := (zL_s (t_X11_judged) [0, 35, 91] 1000 0 _ _ _).trans rfl
theorem g_X11_judged (x1 : Int32) (h : zH) : f_X11_judged [(.inr (.inr (11, 0))), (.inl x1)] h = zf (x1 < 0) (some (some (.inl zm2), h)) (zf (2 < x1) (some (some (.inl zm2), h)) (zcv (f_X8_begin [(.inr (.inr (8, 21)))] h) (fun h1 => zL p_X11_judged 35 [some (.inr (.inr (11, 0))), some (.inl x1), some (.inl zm1), some (.inl zm1), some (.inr (.inr (3, 0))), some (.inl 0), none] [] h1))) := (show f_X11_judged _ h = zL p_X11_judged 0 _ [] h from rfl).trans (e_X11_judged_0 x1 h)
set_option maxRecDepth 1000000 in
theorem e_X11_judged_35 (x1 : Int32) (x2 : Int32) (x3 : Int32) (jx4 : Nat) (x5 : Int32) (o6 : Option zV) (h : zH) : zL p_X11_judged 35 [some (.inr (.inr (11, 0))), some (.inl x1), some (.inl x2), some (.inl x3), some (.inr (.inr (3, jx4))), some (.inl x5), o6] [] h = zf (x5 < (h.1 3 jx4 0)) (zf (vp_in x5 40) (zf (vp_in x5 40) (zf (vp_in x5 40) (zci (f_X8_attempt [(.inr (.inr (8, 21))), (.inl (h.1 24 jx4 x5.toNatClampNeg)), (.inl (h.1 25 jx4 x5.toNatClampNeg)), (.inl (h.1 26 jx4 x5.toNatClampNeg))] h) (fun r2 h1 => zf (r2 = 0) (zf (x2 = zm1) (zL p_X11_judged 91 [some (.inr (.inr (11, 0))), some (.inl x1), some (.inl x5), some (.inl x3), some (.inr (.inr (3, jx4))), some (.inl x5), some (.inl r2)] [] h1) (zL p_X11_judged 91 [some (.inr (.inr (11, 0))), some (.inl x1), some (.inl x2), some (.inl x3), some (.inr (.inr (3, jx4))), some (.inl x5), some (.inl r2)] [] h1)) (zL p_X11_judged 91 [some (.inr (.inr (11, 0))), some (.inl x1), some (.inl x2), some (.inl x3), some (.inr (.inr (3, jx4))), some (.inl x5), some (.inl r2)] [] h1))) none) none) none) (zf (x1 = 0) (some (some (.inl x2), h)) (zf (x1 = 1) (some (some (.inl x3), h)) (some (some (.inl (h.1 8 21 5)), h)))) := (zL_s (t_X11_judged) [0, 35, 91] 1000 35 _ _ _).trans rfl
set_option maxRecDepth 1000000 in
theorem e_X11_judged_91 (x1 : Int32) (x2 : Int32) (x3 : Int32) (jx4 : Nat) (x5 : Int32) (o6 : Option zV) (h : zH) : zL p_X11_judged 91 [some (.inr (.inr (11, 0))), some (.inl x1), some (.inl x2), some (.inl x3), some (.inr (.inr (3, jx4))), some (.inl x5), o6] [] h = zf (x3 = zm1) (zci (f_X8_isAnyFound [(.inr (.inr (8, 21)))] h) (fun r2 h1 => zf (r2 = 0) (zL p_X11_judged 35 [some (.inr (.inr (11, 0))), some (.inl x1), some (.inl x2), some (.inl x3), some (.inr (.inr (3, jx4))), some (.inl (x5 + 1)), none] [] h1) (zL p_X11_judged 35 [some (.inr (.inr (11, 0))), some (.inl x1), some (.inl x2), some (.inl x5), some (.inr (.inr (3, jx4))), some (.inl (x5 + 1)), none] [] h1))) (zL p_X11_judged 35 [some (.inr (.inr (11, 0))), some (.inl x1), some (.inl x2), some (.inl x3), some (.inr (.inr (3, jx4))), some (.inl (x5 + 1)), none] [] h) := (zL_s (t_X11_judged) [0, 35, 91] 1000 91 _ _ _).trans rfl
theorem zMV_11_203 : zMV "SoapTreaty" 203 8 y_X8_areInEarnest prog_10_method_27_code 3 (some .boolean) 2 := ⟨⟨zT_of 945 (by decide +kernel) (by decide +kernel), zT_of 946 (by decide +kernel) (by decide +kernel), zT_of 947 (by decide +kernel) (by decide +kernel), zT_of 115 (by decide +kernel) (by decide +kernel), zT_of 948 (by decide +kernel) (by decide +kernel)⟩, by decide, rfl, ⟨zT8, 7, rfl⟩, by decide, by decide, by decide +kernel⟩
/-! SoapTreaty.earnest(II)I -/
def y_X11_earnest : MethodName := ⟨"SoapTreaty", "earnest", "(II)I"⟩
noncomputable def p_X11_earnest_0 : List (Nat × zO) := [(0, zo_aload 0 1),
  (1, zo_getR 11 0 (some 0) 4),
  (4, zo_iload 1 5),
  (5, zo_vir 0 2 (zo_calli (f_X0_hasPower) 2 8)),
  (8, zo_0eq 27 11),
  (11, zo_aload 0 12),
  (12, zo_getR 11 0 (some 0) 15),
  (15, zo_iload 2 16),
  (16, zo_vir 0 2 (zo_calli (f_X0_hasPower) 2 19)),
  (19, zo_0eq 27 22),
  (22, zo_iload 1 23),
  (23, zo_iload 2 24),
  (24, zo_cne 29 27),
  (27, zo_push (.inl zm1) 28),
  (28, zo_iret),
  (29, zo_aload 0 30),
  (30, zo_getR 11 4 (some 0) 33),
  (33, zo_getR 4 8 none 36),
  (36, zo_iload 1 37),
  (37, zo_iload 2 38)]
noncomputable def p_X11_earnest_1 : List (Nat × zO) := [(38, zo_vir 8 3 (zo_calli (f_X8_areInEarnest) 3 41)),
  (41, zo_0eq 48 44),
  (44, zo_push (.inl 1) 45),
  (45, zo_goto 49),
  (48, zo_push (.inl 0) 49),
  (49, zo_iret)]
noncomputable def p_X11_earnest : Nat → zO := zgs [(38, p_X11_earnest_0), (50, p_X11_earnest_1)]
theorem t_X11_earnest : ∀ k, zTl (p_X11_earnest k) := fun k => zgs_all (c := [(38, p_X11_earnest_0), (50, p_X11_earnest_1)]) (fun _ => zl_bad) ⟨⟨zl_aload, zl_getR, zl_iload, (zl_vir zl_calli), zl_0eq, zl_aload, zl_getR, zl_iload, (zl_vir zl_calli), zl_0eq, zl_iload, zl_iload, zl_cne, zl_push, zl_iret, zl_aload, zl_getR, zl_getR, zl_iload, zl_iload, trivial⟩, ⟨(zl_vir zl_calli), zl_0eq, zl_push, zl_goto, zl_push, zl_iret, trivial⟩, trivial⟩ k
noncomputable def f_X11_earnest : zS := zrun p_X11_earnest 3
set_option maxRecDepth 20000 in
theorem s_X11_earnest_0 {l : Launch} {D : va_G} {ad : Nat → Nat → Nat} {cy : Nat → ClassId} {L : List (Nat × Nat)} (hcl : zclo L = true) (hinj : zAd ad L) {X : zCtx} (hX : zXok X "SoapTreaty" prog_1_method_15_code 3) (hR : zRt X (some .int)) (hl : zXl X l D ad cy L (zroom 6)) : zAllR (zSo X) p_X11_earnest_0 := ⟨zs_aload_n (i := 0) rfl hX (by decide +kernel : decode prog_1_method_15_code 0 = .ok (.aload_n 0, 1)) rfl (by decide),
  zs_getR hX zFL_11_19 (by decide +kernel : decode prog_1_method_15_code 1 = .ok (.getfield 19, 3)) rfl,
  zs_iload_n (i := 1) rfl hX (by decide +kernel : decode prog_1_method_15_code 4 = .ok (.iload_n 1, 1)) rfl (by decide),
  zs_callVi hX zMV_11_111 (zXc_of hl (by decide) (k_X0_hasPower hcl hinj)) (by decide +kernel : decode prog_1_method_15_code 5 = .ok (.invokevirtual 111, 3)) rfl,
  zs_0eq hX (by decide +kernel : decode prog_1_method_15_code 8 = .ok (.ifCond .eq 19, 3)) (by decide) rfl,
  zs_aload_n (i := 0) rfl hX (by decide +kernel : decode prog_1_method_15_code 11 = .ok (.aload_n 0, 1)) rfl (by decide),
  zs_getR hX zFL_11_19 (by decide +kernel : decode prog_1_method_15_code 12 = .ok (.getfield 19, 3)) rfl,
  zs_iload_n (i := 2) rfl hX (by decide +kernel : decode prog_1_method_15_code 15 = .ok (.iload_n 2, 1)) rfl (by decide),
  zs_callVi hX zMV_11_111 (zXc_of hl (by decide) (k_X0_hasPower hcl hinj)) (by decide +kernel : decode prog_1_method_15_code 16 = .ok (.invokevirtual 111, 3)) rfl,
  zs_0eq hX (by decide +kernel : decode prog_1_method_15_code 19 = .ok (.ifCond .eq 8, 3)) (by decide) rfl,
  zs_iload_n (i := 1) rfl hX (by decide +kernel : decode prog_1_method_15_code 22 = .ok (.iload_n 1, 1)) rfl (by decide),
  zs_iload_n (i := 2) rfl hX (by decide +kernel : decode prog_1_method_15_code 23 = .ok (.iload_n 2, 1)) rfl (by decide),
  zs_cne hX (by decide +kernel : decode prog_1_method_15_code 24 = .ok (.if_icmp .ne 5, 3)) (by decide) rfl,
  zs_pushI (zg_iconst (by decide) hX (by decide +kernel : decode prog_1_method_15_code 27 = .ok (.iconst (-1), 1)) rfl),
  zs_iret hX hR (by decide +kernel : decode prog_1_method_15_code 28 = .ok (.ireturn, 1)),
  zs_aload_n (i := 0) rfl hX (by decide +kernel : decode prog_1_method_15_code 29 = .ok (.aload_n 0, 1)) rfl (by decide),
  zs_getR hX zFL_11_37 (by decide +kernel : decode prog_1_method_15_code 30 = .ok (.getfield 37, 3)) rfl,
  zs_getR hX zFL_11_115 (by decide +kernel : decode prog_1_method_15_code 33 = .ok (.getfield 115, 3)) rfl,
  zs_iload_n (i := 1) rfl hX (by decide +kernel : decode prog_1_method_15_code 36 = .ok (.iload_n 1, 1)) rfl (by decide),
  zs_iload_n (i := 2) rfl hX (by decide +kernel : decode prog_1_method_15_code 37 = .ok (.iload_n 2, 1)) rfl (by decide), trivial⟩
set_option maxRecDepth 20000 in
theorem s_X11_earnest_1 {l : Launch} {D : va_G} {ad : Nat → Nat → Nat} {cy : Nat → ClassId} {L : List (Nat × Nat)} (hcl : zclo L = true) (hinj : zAd ad L) {X : zCtx} (hX : zXok X "SoapTreaty" prog_1_method_15_code 3) (hR : zRt X (some .int)) (hl : zXl X l D ad cy L (zroom 6)) : zAllR (zSo X) p_X11_earnest_1 := ⟨zs_callVi hX zMV_11_203 (zXc_of hl (by decide) (k_X8_areInEarnest hcl hinj)) (by decide +kernel : decode prog_1_method_15_code 38 = .ok (.invokevirtual 203, 3)) rfl,
  zs_0eq hX (by decide +kernel : decode prog_1_method_15_code 41 = .ok (.ifCond .eq 7, 3)) (by decide) rfl,
  zs_pushI (zg_iconst (by decide) hX (by decide +kernel : decode prog_1_method_15_code 44 = .ok (.iconst 1, 1)) rfl),
  zs_goto hX (by decide +kernel : decode prog_1_method_15_code 45 = .ok (.goto 4, 3)) (by decide),
  zs_pushI (zg_iconst (by decide) hX (by decide +kernel : decode prog_1_method_15_code 48 = .ok (.iconst 0, 1)) rfl),
  zs_iret hX hR (by decide +kernel : decode prog_1_method_15_code 49 = .ok (.ireturn, 1)), trivial⟩
theorem k_X11_earnest {l : Launch} {D : va_G} {ad : Nat → Nat → Nat} {cy : Nat → ClassId} {L : List (Nat × Nat)} (hcl : zclo L = true) (hinj : zAd ad L) : zCk l D ad cy L 6 f_X11_earnest y_X11_earnest (.code y_X11_earnest prog_1_method_15_code 3 (some .int)) :=
  z_met (by decide) t_X11_earnest hcl hinj (fun X hX hR hl k => zgs_all (Q := zSo X) (c := [(38, p_X11_earnest_0), (50, p_X11_earnest_1)]) (fun _ => zs_bad) ⟨s_X11_earnest_0 hcl hinj hX hR hl, s_X11_earnest_1 hcl hinj hX hR hl, trivial⟩ k)
set_option maxRecDepth 1000000 in
theorem e_X11_earnest_0 (x1 : Int32) (x2 : Int32) (h : zH) : zL p_X11_earnest 0 [some (.inr (.inr (11, 0))), some (.inl x1), some (.inl x2)] [] h = zci (f_X0_hasPower [(.inr (.inr (0, 0))), (.inl x1)] h) (fun r2 h1 => zf (r2 = 0) (some (some (.inl zm1), h1)) (zci (f_X0_hasPower [(.inr (.inr (0, 0))), (.inl x2)] h1) (fun r4 h3 => zf (r4 = 0) (some (some (.inl zm1), h3)) (zf (x1 = x2) (some (some (.inl zm1), h3)) (zci (f_X8_areInEarnest [(.inr (.inr (8, 0))), (.inl x1), (.inl x2)] h3) (fun r6 h5 => zf (r6 = 0) (some (some (.inl 0), h5)) (some (some (.inl 1), h5)))))))) := (zL_s (t_X11_earnest) [0] 1000 0 _ _ _).trans rfl
theorem g_X11_earnest (x1 : Int32) (x2 : Int32) (h : zH) : f_X11_earnest [(.inr (.inr (11, 0))), (.inl x1), (.inl x2)] h = zci (f_X0_hasPower [(.inr (.inr (0, 0))), (.inl x1)] h) (fun r2 h1 => zf (r2 = 0) (some (some (.inl zm1), h1)) (zci (f_X0_hasPower [(.inr (.inr (0, 0))), (.inl x2)] h1) (fun r4 h3 => zf (r4 = 0) (some (some (.inl zm1), h3)) (zf (x1 = x2) (some (some (.inl zm1), h3)) (zci (f_X8_areInEarnest [(.inr (.inr (8, 0))), (.inl x1), (.inl x2)] h3) (fun r6 h5 => zf (r6 = 0) (some (some (.inl 0), h5)) (some (some (.inl 1), h5)))))))) := (show f_X11_earnest _ h = zL p_X11_earnest 0 _ [] h from rfl).trans (e_X11_earnest_0 x1 x2 h)
theorem zMV_11_207 : zMV "SoapTreaty" 207 8 y_X8_weeksTo prog_10_method_13_code 6 (some .int) 3 := ⟨⟨zT_of 953 (by decide +kernel) (by decide +kernel), zT_of 954 (by decide +kernel) (by decide +kernel), zT_of 955 (by decide +kernel) (by decide +kernel), zT_of 115 (by decide +kernel) (by decide +kernel), zT_of 956 (by decide +kernel) (by decide +kernel)⟩, by decide, rfl, ⟨zT8, 7, rfl⟩, by decide, by decide, by decide +kernel⟩
/-! SoapTreaty.gone(I)I -/
def y_X11_gone : MethodName := ⟨"SoapTreaty", "gone", "(I)I"⟩
noncomputable def p_X11_gone_0 : List (Nat × zO) := [(0, zo_aload 0 1),
  (1, zo_getR 11 0 (some 0) 4),
  (4, zo_iload 1 5),
  (5, zo_vir 0 2 (zo_calli (f_X0_hasCake) 2 8)),
  (8, zo_0eq 38 11),
  (11, zo_aload 0 12),
  (12, zo_getR 11 4 (some 0) 15),
  (15, zo_getR 4 8 none 18),
  (18, zo_push (.inl 0) 19),
  (19, zo_iload 1 20),
  (20, zo_aload 0 21),
  (21, zo_getR 11 4 (some 0) 24),
  (24, zo_getR 4 8 none 27),
  (27, zo_getR 8 31 none 30),
  (30, zo_iload 1 31),
  (31, zo_iald 32),
  (32, zo_vir 8 4 (zo_calli (f_X8_weeksTo) 4 35)),
  (35, zo_goto 39),
  (38, zo_push (.inl zm1) 39),
  (39, zo_iret)]
noncomputable def p_X11_gone : Nat → zO := zgs [(40, p_X11_gone_0)]
theorem t_X11_gone : ∀ k, zTl (p_X11_gone k) := fun k => zgs_all (c := [(40, p_X11_gone_0)]) (fun _ => zl_bad) ⟨⟨zl_aload, zl_getR, zl_iload, (zl_vir zl_calli), zl_0eq, zl_aload, zl_getR, zl_getR, zl_push, zl_iload, zl_aload, zl_getR, zl_getR, zl_getR, zl_iload, zl_iald, (zl_vir zl_calli), zl_goto, zl_push, zl_iret, trivial⟩, trivial⟩ k
noncomputable def f_X11_gone : zS := zrun p_X11_gone 2
set_option maxRecDepth 20000 in
theorem s_X11_gone_0 {l : Launch} {D : va_G} {ad : Nat → Nat → Nat} {cy : Nat → ClassId} {L : List (Nat × Nat)} (hcl : zclo L = true) (hinj : zAd ad L) {X : zCtx} (hX : zXok X "SoapTreaty" prog_1_method_16_code 2) (hR : zRt X (some .int)) (hl : zXl X l D ad cy L (zroom 5)) : zAllR (zSo X) p_X11_gone_0 := ⟨zs_aload_n (i := 0) rfl hX (by decide +kernel : decode prog_1_method_16_code 0 = .ok (.aload_n 0, 1)) rfl (by decide),
  zs_getR hX zFL_11_19 (by decide +kernel : decode prog_1_method_16_code 1 = .ok (.getfield 19, 3)) rfl,
  zs_iload_n (i := 1) rfl hX (by decide +kernel : decode prog_1_method_16_code 4 = .ok (.iload_n 1, 1)) rfl (by decide),
  zs_callVi hX zMV_11_142 (zXc_of hl (by decide) (k_X0_hasCake hcl hinj)) (by decide +kernel : decode prog_1_method_16_code 5 = .ok (.invokevirtual 142, 3)) rfl,
  zs_0eq hX (by decide +kernel : decode prog_1_method_16_code 8 = .ok (.ifCond .eq 30, 3)) (by decide) rfl,
  zs_aload_n (i := 0) rfl hX (by decide +kernel : decode prog_1_method_16_code 11 = .ok (.aload_n 0, 1)) rfl (by decide),
  zs_getR hX zFL_11_37 (by decide +kernel : decode prog_1_method_16_code 12 = .ok (.getfield 37, 3)) rfl,
  zs_getR hX zFL_11_115 (by decide +kernel : decode prog_1_method_16_code 15 = .ok (.getfield 115, 3)) rfl,
  zs_pushI (zg_iconst (by decide) hX (by decide +kernel : decode prog_1_method_16_code 18 = .ok (.iconst 0, 1)) rfl),
  zs_iload_n (i := 1) rfl hX (by decide +kernel : decode prog_1_method_16_code 19 = .ok (.iload_n 1, 1)) rfl (by decide),
  zs_aload_n (i := 0) rfl hX (by decide +kernel : decode prog_1_method_16_code 20 = .ok (.aload_n 0, 1)) rfl (by decide),
  zs_getR hX zFL_11_37 (by decide +kernel : decode prog_1_method_16_code 21 = .ok (.getfield 37, 3)) rfl,
  zs_getR hX zFL_11_115 (by decide +kernel : decode prog_1_method_16_code 24 = .ok (.getfield 115, 3)) rfl,
  zs_getR hX zFL_11_148 (by decide +kernel : decode prog_1_method_16_code 27 = .ok (.getfield 148, 3)) rfl,
  zs_iload_n (i := 1) rfl hX (by decide +kernel : decode prog_1_method_16_code 30 = .ok (.iload_n 1, 1)) rfl (by decide),
  zs_iald hX (by decide +kernel : decode prog_1_method_16_code 31 = .ok (.iaload, 1)) rfl,
  zs_callVi hX zMV_11_207 (zXc_of hl (by decide) (k_X8_weeksTo hcl hinj)) (by decide +kernel : decode prog_1_method_16_code 32 = .ok (.invokevirtual 207, 3)) rfl,
  zs_goto hX (by decide +kernel : decode prog_1_method_16_code 35 = .ok (.goto 4, 3)) (by decide),
  zs_pushI (zg_iconst (by decide) hX (by decide +kernel : decode prog_1_method_16_code 38 = .ok (.iconst (-1), 1)) rfl),
  zs_iret hX hR (by decide +kernel : decode prog_1_method_16_code 39 = .ok (.ireturn, 1)), trivial⟩
theorem k_X11_gone {l : Launch} {D : va_G} {ad : Nat → Nat → Nat} {cy : Nat → ClassId} {L : List (Nat × Nat)} (hcl : zclo L = true) (hinj : zAd ad L) : zCk l D ad cy L 5 f_X11_gone y_X11_gone (.code y_X11_gone prog_1_method_16_code 2 (some .int)) :=
  z_met (by decide) t_X11_gone hcl hinj (fun X hX hR hl k => zgs_all (Q := zSo X) (c := [(40, p_X11_gone_0)]) (fun _ => zs_bad) ⟨s_X11_gone_0 hcl hinj hX hR hl, trivial⟩ k)
set_option maxRecDepth 1000000 in
theorem e_X11_gone_0 (x1 : Int32) (h : zH) : zL p_X11_gone 0 [some (.inr (.inr (11, 0))), some (.inl x1)] [] h = zci (f_X0_hasCake [(.inr (.inr (0, 0))), (.inl x1)] h) (fun r2 h1 => zf (r2 = 0) (some (some (.inl zm1), h1)) (zf (vp_in x1 7) (zci (f_X8_weeksTo [(.inr (.inr (8, 0))), (.inl 0), (.inl x1), (.inl (h1.1 31 0 x1.toNatClampNeg))] h1) (fun r4 h3 => some (some (.inl r4), h3))) none)) := (zL_s (t_X11_gone) [0] 1000 0 _ _ _).trans rfl
theorem g_X11_gone (x1 : Int32) (h : zH) : f_X11_gone [(.inr (.inr (11, 0))), (.inl x1)] h = zci (f_X0_hasCake [(.inr (.inr (0, 0))), (.inl x1)] h) (fun r2 h1 => zf (r2 = 0) (some (some (.inl zm1), h1)) (zf (vp_in x1 7) (zci (f_X8_weeksTo [(.inr (.inr (8, 0))), (.inl 0), (.inl x1), (.inl (h1.1 31 0 x1.toNatClampNeg))] h1) (fun r4 h3 => some (some (.inl r4), h3))) none)) := (show f_X11_gone _ h = zL p_X11_gone 0 _ [] h from rfl).trans (e_X11_gone_0 x1 h)
/-! SoapTreaty.weeksToPebble(I)I -/
def y_X11_weeksToPebble : MethodName := ⟨"SoapTreaty", "weeksToPebble", "(I)I"⟩
noncomputable def p_X11_weeksToPebble_0 : List (Nat × zO) := [(0, zo_aload 0 1),
  (1, zo_getR 11 0 (some 0) 4),
  (4, zo_iload 1 5),
  (5, zo_vir 0 2 (zo_calli (f_X0_hasCake) 2 8)),
  (8, zo_0eq 24 11),
  (11, zo_aload 0 12),
  (12, zo_getR 11 0 (some 0) 15),
  (15, zo_getR 0 21 none 18),
  (18, zo_iload 1 19),
  (19, zo_iald 20),
  (20, zo_push (.inl zm1) 21),
  (21, zo_cne 26 24),
  (24, zo_push (.inl zm1) 25),
  (25, zo_iret),
  (26, zo_aload 0 27),
  (27, zo_getR 11 4 (some 0) 30),
  (30, zo_getR 4 8 none 33),
  (33, zo_aload 0 34),
  (34, zo_getR 11 0 (some 0) 37),
  (37, zo_getR 0 21 none 40)]
noncomputable def p_X11_weeksToPebble_1 : List (Nat × zO) := [(40, zo_iload 1 41),
  (41, zo_iald 42),
  (42, zo_iload 1 43),
  (43, zo_aload 0 44),
  (44, zo_getR 11 4 (some 0) 47),
  (47, zo_getR 4 8 none 50),
  (50, zo_getR 8 31 none 53),
  (53, zo_iload 1 54),
  (54, zo_iald 55),
  (55, zo_vir 8 4 (zo_calli (f_X8_weeksTo) 4 58)),
  (58, zo_iret)]
noncomputable def p_X11_weeksToPebble : Nat → zO := zgs [(38, p_X11_weeksToPebble_0), (59, p_X11_weeksToPebble_1)]
theorem t_X11_weeksToPebble : ∀ k, zTl (p_X11_weeksToPebble k) := fun k => zgs_all (c := [(38, p_X11_weeksToPebble_0), (59, p_X11_weeksToPebble_1)]) (fun _ => zl_bad) ⟨⟨zl_aload, zl_getR, zl_iload, (zl_vir zl_calli), zl_0eq, zl_aload, zl_getR, zl_getR, zl_iload, zl_iald, zl_push, zl_cne, zl_push, zl_iret, zl_aload, zl_getR, zl_getR, zl_aload, zl_getR, zl_getR, trivial⟩, ⟨zl_iload, zl_iald, zl_iload, zl_aload, zl_getR, zl_getR, zl_getR, zl_iload, zl_iald, (zl_vir zl_calli), zl_iret, trivial⟩, trivial⟩ k
noncomputable def f_X11_weeksToPebble : zS := zrun p_X11_weeksToPebble 2
set_option maxRecDepth 20000 in
theorem s_X11_weeksToPebble_0 {l : Launch} {D : va_G} {ad : Nat → Nat → Nat} {cy : Nat → ClassId} {L : List (Nat × Nat)} (hcl : zclo L = true) (hinj : zAd ad L) {X : zCtx} (hX : zXok X "SoapTreaty" prog_1_method_35_code 2) (hR : zRt X (some .int)) (hl : zXl X l D ad cy L (zroom 5)) : zAllR (zSo X) p_X11_weeksToPebble_0 := ⟨zs_aload_n (i := 0) rfl hX (by decide +kernel : decode prog_1_method_35_code 0 = .ok (.aload_n 0, 1)) rfl (by decide),
  zs_getR hX zFL_11_19 (by decide +kernel : decode prog_1_method_35_code 1 = .ok (.getfield 19, 3)) rfl,
  zs_iload_n (i := 1) rfl hX (by decide +kernel : decode prog_1_method_35_code 4 = .ok (.iload_n 1, 1)) rfl (by decide),
  zs_callVi hX zMV_11_142 (zXc_of hl (by decide) (k_X0_hasCake hcl hinj)) (by decide +kernel : decode prog_1_method_35_code 5 = .ok (.invokevirtual 142, 3)) rfl,
  zs_0eq hX (by decide +kernel : decode prog_1_method_35_code 8 = .ok (.ifCond .eq 16, 3)) (by decide) rfl,
  zs_aload_n (i := 0) rfl hX (by decide +kernel : decode prog_1_method_35_code 11 = .ok (.aload_n 0, 1)) rfl (by decide),
  zs_getR hX zFL_11_19 (by decide +kernel : decode prog_1_method_35_code 12 = .ok (.getfield 19, 3)) rfl,
  zs_getR hX zFL_11_160 (by decide +kernel : decode prog_1_method_35_code 15 = .ok (.getfield 160, 3)) rfl,
  zs_iload_n (i := 1) rfl hX (by decide +kernel : decode prog_1_method_35_code 18 = .ok (.iload_n 1, 1)) rfl (by decide),
  zs_iald hX (by decide +kernel : decode prog_1_method_35_code 19 = .ok (.iaload, 1)) rfl,
  zs_pushI (zg_iconst (by decide) hX (by decide +kernel : decode prog_1_method_35_code 20 = .ok (.iconst (-1), 1)) rfl),
  zs_cne hX (by decide +kernel : decode prog_1_method_35_code 21 = .ok (.if_icmp .ne 5, 3)) (by decide) rfl,
  zs_pushI (zg_iconst (by decide) hX (by decide +kernel : decode prog_1_method_35_code 24 = .ok (.iconst (-1), 1)) rfl),
  zs_iret hX hR (by decide +kernel : decode prog_1_method_35_code 25 = .ok (.ireturn, 1)),
  zs_aload_n (i := 0) rfl hX (by decide +kernel : decode prog_1_method_35_code 26 = .ok (.aload_n 0, 1)) rfl (by decide),
  zs_getR hX zFL_11_37 (by decide +kernel : decode prog_1_method_35_code 27 = .ok (.getfield 37, 3)) rfl,
  zs_getR hX zFL_11_115 (by decide +kernel : decode prog_1_method_35_code 30 = .ok (.getfield 115, 3)) rfl,
  zs_aload_n (i := 0) rfl hX (by decide +kernel : decode prog_1_method_35_code 33 = .ok (.aload_n 0, 1)) rfl (by decide),
  zs_getR hX zFL_11_19 (by decide +kernel : decode prog_1_method_35_code 34 = .ok (.getfield 19, 3)) rfl,
  zs_getR hX zFL_11_160 (by decide +kernel : decode prog_1_method_35_code 37 = .ok (.getfield 160, 3)) rfl, trivial⟩
set_option maxRecDepth 20000 in
theorem s_X11_weeksToPebble_1 {l : Launch} {D : va_G} {ad : Nat → Nat → Nat} {cy : Nat → ClassId} {L : List (Nat × Nat)} (hcl : zclo L = true) (hinj : zAd ad L) {X : zCtx} (hX : zXok X "SoapTreaty" prog_1_method_35_code 2) (hR : zRt X (some .int)) (hl : zXl X l D ad cy L (zroom 5)) : zAllR (zSo X) p_X11_weeksToPebble_1 := ⟨zs_iload_n (i := 1) rfl hX (by decide +kernel : decode prog_1_method_35_code 40 = .ok (.iload_n 1, 1)) rfl (by decide),
  zs_iald hX (by decide +kernel : decode prog_1_method_35_code 41 = .ok (.iaload, 1)) rfl,
  zs_iload_n (i := 1) rfl hX (by decide +kernel : decode prog_1_method_35_code 42 = .ok (.iload_n 1, 1)) rfl (by decide),
  zs_aload_n (i := 0) rfl hX (by decide +kernel : decode prog_1_method_35_code 43 = .ok (.aload_n 0, 1)) rfl (by decide),
  zs_getR hX zFL_11_37 (by decide +kernel : decode prog_1_method_35_code 44 = .ok (.getfield 37, 3)) rfl,
  zs_getR hX zFL_11_115 (by decide +kernel : decode prog_1_method_35_code 47 = .ok (.getfield 115, 3)) rfl,
  zs_getR hX zFL_11_148 (by decide +kernel : decode prog_1_method_35_code 50 = .ok (.getfield 148, 3)) rfl,
  zs_iload_n (i := 1) rfl hX (by decide +kernel : decode prog_1_method_35_code 53 = .ok (.iload_n 1, 1)) rfl (by decide),
  zs_iald hX (by decide +kernel : decode prog_1_method_35_code 54 = .ok (.iaload, 1)) rfl,
  zs_callVi hX zMV_11_207 (zXc_of hl (by decide) (k_X8_weeksTo hcl hinj)) (by decide +kernel : decode prog_1_method_35_code 55 = .ok (.invokevirtual 207, 3)) rfl,
  zs_iret hX hR (by decide +kernel : decode prog_1_method_35_code 58 = .ok (.ireturn, 1)), trivial⟩
theorem k_X11_weeksToPebble {l : Launch} {D : va_G} {ad : Nat → Nat → Nat} {cy : Nat → ClassId} {L : List (Nat × Nat)} (hcl : zclo L = true) (hinj : zAd ad L) : zCk l D ad cy L 5 f_X11_weeksToPebble y_X11_weeksToPebble (.code y_X11_weeksToPebble prog_1_method_35_code 2 (some .int)) :=
  z_met (by decide) t_X11_weeksToPebble hcl hinj (fun X hX hR hl k => zgs_all (Q := zSo X) (c := [(38, p_X11_weeksToPebble_0), (59, p_X11_weeksToPebble_1)]) (fun _ => zs_bad) ⟨s_X11_weeksToPebble_0 hcl hinj hX hR hl, s_X11_weeksToPebble_1 hcl hinj hX hR hl, trivial⟩ k)
set_option maxRecDepth 1000000 in
theorem e_X11_weeksToPebble_0 (x1 : Int32) (h : zH) : zL p_X11_weeksToPebble 0 [some (.inr (.inr (11, 0))), some (.inl x1)] [] h = zci (f_X0_hasCake [(.inr (.inr (0, 0))), (.inl x1)] h) (fun r2 h1 => zf (r2 = 0) (some (some (.inl zm1), h1)) (zf (vp_in x1 7) (zf ((h1.1 21 0 x1.toNatClampNeg) = zm1) (some (some (.inl zm1), h1)) (zf (vp_in x1 7) (zf (vp_in x1 7) (zci (f_X8_weeksTo [(.inr (.inr (8, 0))), (.inl (h1.1 21 0 x1.toNatClampNeg)), (.inl x1), (.inl (h1.1 31 0 x1.toNatClampNeg))] h1) (fun r4 h3 => some (some (.inl r4), h3))) none) none)) none)) := (zL_s (t_X11_weeksToPebble) [0] 1000 0 _ _ _).trans rfl
theorem g_X11_weeksToPebble (x1 : Int32) (h : zH) : f_X11_weeksToPebble [(.inr (.inr (11, 0))), (.inl x1)] h = zci (f_X0_hasCake [(.inr (.inr (0, 0))), (.inl x1)] h) (fun r2 h1 => zf (r2 = 0) (some (some (.inl zm1), h1)) (zf (vp_in x1 7) (zf ((h1.1 21 0 x1.toNatClampNeg) = zm1) (some (some (.inl zm1), h1)) (zf (vp_in x1 7) (zf (vp_in x1 7) (zci (f_X8_weeksTo [(.inr (.inr (8, 0))), (.inl (h1.1 21 0 x1.toNatClampNeg)), (.inl x1), (.inl (h1.1 31 0 x1.toNatClampNeg))] h1) (fun r4 h3 => some (some (.inl r4), h3))) none) none)) none)) := (show f_X11_weeksToPebble _ h = zL p_X11_weeksToPebble 0 _ [] h from rfl).trans (e_X11_weeksToPebble_0 x1 h)
theorem zMV_11_211 : zMV "SoapTreaty" 211 11 y_X11_weeksToPebble prog_1_method_35_code 2 (some .int) 1 := ⟨⟨zT_of 961 (by decide +kernel) (by decide +kernel), zT_of 963 (by decide +kernel) (by decide +kernel), zT_of 24 (by decide +kernel) (by decide +kernel), zT_of 102 (by decide +kernel) (by decide +kernel), zT_of 964 (by decide +kernel) (by decide +kernel)⟩, by decide, rfl, ⟨zT11, 10, rfl⟩, by decide, by decide, by decide +kernel⟩
/-! SoapTreaty.worn(I)I -/
def y_X11_worn : MethodName := ⟨"SoapTreaty", "worn", "(I)I"⟩
noncomputable def p_X11_worn_0 : List (Nat × zO) := [(0, zo_aload 0 1),
  (1, zo_getR 11 0 (some 0) 4),
  (4, zo_iload 1 5),
  (5, zo_vir 0 2 (zo_calli (f_X0_hasCake) 2 8)),
  (8, zo_0eq 19 11),
  (11, zo_aload 0 12),
  (12, zo_iload 1 13),
  (13, zo_vir 11 2 (zo_calli (f_X11_weeksToPebble) 2 16)),
  (16, zo_goto 20),
  (19, zo_push (.inl zm1) 20),
  (20, zo_iret)]
noncomputable def p_X11_worn : Nat → zO := zgs [(21, p_X11_worn_0)]
theorem t_X11_worn : ∀ k, zTl (p_X11_worn k) := fun k => zgs_all (c := [(21, p_X11_worn_0)]) (fun _ => zl_bad) ⟨⟨zl_aload, zl_getR, zl_iload, (zl_vir zl_calli), zl_0eq, zl_aload, zl_iload, (zl_vir zl_calli), zl_goto, zl_push, zl_iret, trivial⟩, trivial⟩ k
noncomputable def f_X11_worn : zS := zrun p_X11_worn 2
set_option maxRecDepth 20000 in
theorem s_X11_worn_0 {l : Launch} {D : va_G} {ad : Nat → Nat → Nat} {cy : Nat → ClassId} {L : List (Nat × Nat)} (hcl : zclo L = true) (hinj : zAd ad L) {X : zCtx} (hX : zXok X "SoapTreaty" prog_1_method_17_code 2) (hR : zRt X (some .int)) (hl : zXl X l D ad cy L (zroom 6)) : zAllR (zSo X) p_X11_worn_0 := ⟨zs_aload_n (i := 0) rfl hX (by decide +kernel : decode prog_1_method_17_code 0 = .ok (.aload_n 0, 1)) rfl (by decide),
  zs_getR hX zFL_11_19 (by decide +kernel : decode prog_1_method_17_code 1 = .ok (.getfield 19, 3)) rfl,
  zs_iload_n (i := 1) rfl hX (by decide +kernel : decode prog_1_method_17_code 4 = .ok (.iload_n 1, 1)) rfl (by decide),
  zs_callVi hX zMV_11_142 (zXc_of hl (by decide) (k_X0_hasCake hcl hinj)) (by decide +kernel : decode prog_1_method_17_code 5 = .ok (.invokevirtual 142, 3)) rfl,
  zs_0eq hX (by decide +kernel : decode prog_1_method_17_code 8 = .ok (.ifCond .eq 11, 3)) (by decide) rfl,
  zs_aload_n (i := 0) rfl hX (by decide +kernel : decode prog_1_method_17_code 11 = .ok (.aload_n 0, 1)) rfl (by decide),
  zs_iload_n (i := 1) rfl hX (by decide +kernel : decode prog_1_method_17_code 12 = .ok (.iload_n 1, 1)) rfl (by decide),
  zs_callVi hX zMV_11_211 (zXc_of hl (by decide) (k_X11_weeksToPebble hcl hinj)) (by decide +kernel : decode prog_1_method_17_code 13 = .ok (.invokevirtual 211, 3)) rfl,
  zs_goto hX (by decide +kernel : decode prog_1_method_17_code 16 = .ok (.goto 4, 3)) (by decide),
  zs_pushI (zg_iconst (by decide) hX (by decide +kernel : decode prog_1_method_17_code 19 = .ok (.iconst (-1), 1)) rfl),
  zs_iret hX hR (by decide +kernel : decode prog_1_method_17_code 20 = .ok (.ireturn, 1)), trivial⟩
theorem k_X11_worn {l : Launch} {D : va_G} {ad : Nat → Nat → Nat} {cy : Nat → ClassId} {L : List (Nat × Nat)} (hcl : zclo L = true) (hinj : zAd ad L) : zCk l D ad cy L 6 f_X11_worn y_X11_worn (.code y_X11_worn prog_1_method_17_code 2 (some .int)) :=
  z_met (by decide) t_X11_worn hcl hinj (fun X hX hR hl k => zgs_all (Q := zSo X) (c := [(21, p_X11_worn_0)]) (fun _ => zs_bad) ⟨s_X11_worn_0 hcl hinj hX hR hl, trivial⟩ k)
set_option maxRecDepth 1000000 in
theorem e_X11_worn_0 (x1 : Int32) (h : zH) : zL p_X11_worn 0 [some (.inr (.inr (11, 0))), some (.inl x1)] [] h = zci (f_X0_hasCake [(.inr (.inr (0, 0))), (.inl x1)] h) (fun r2 h1 => zf (r2 = 0) (some (some (.inl zm1), h1)) (zci (f_X11_weeksToPebble [(.inr (.inr (11, 0))), (.inl x1)] h1) (fun r4 h3 => some (some (.inl r4), h3)))) := (zL_s (t_X11_worn) [0] 1000 0 _ _ _).trans rfl
theorem g_X11_worn (x1 : Int32) (h : zH) : f_X11_worn [(.inr (.inr (11, 0))), (.inl x1)] h = zci (f_X0_hasCake [(.inr (.inr (0, 0))), (.inl x1)] h) (fun r2 h1 => zf (r2 = 0) (some (some (.inl zm1), h1)) (zci (f_X11_weeksToPebble [(.inr (.inr (11, 0))), (.inl x1)] h1) (fun r4 h3 => some (some (.inl r4), h3)))) := (show f_X11_worn _ h = zL p_X11_worn 0 _ [] h from rfl).trans (e_X11_worn_0 x1 h)
theorem zMV_11_217 : zMV "SoapTreaty" 217 8 y_X8_isThere prog_10_method_4_code 2 (some .boolean) 1 := ⟨⟨zT_of 969 (by decide +kernel) (by decide +kernel), zT_of 845 (by decide +kernel) (by decide +kernel), zT_of 846 (by decide +kernel) (by decide +kernel), zT_of 115 (by decide +kernel) (by decide +kernel), zT_of 847 (by decide +kernel) (by decide +kernel)⟩, by decide, rfl, ⟨zT8, 7, rfl⟩, by decide, by decide, by decide +kernel⟩
/-! SoapTreaty.last()I -/
def y_X11_last : MethodName := ⟨"SoapTreaty", "last", "()I"⟩
noncomputable def p_X11_last_0 : List (Nat × zO) := [(0, zo_aload 0 1),
  (1, zo_getR 11 4 (some 0) 4),
  (4, zo_getR 4 8 none 7),
  (7, zo_astore 1 8),
  (8, zo_push (.inl 0) 9),
  (9, zo_istore 2 10),
  (10, zo_push (.inl zm1) 11),
  (11, zo_istore 3 12),
  (12, zo_push (.inl 0) 13),
  (13, zo_istore 4 15),
  (15, zo_kill [5, 6] (zo_iload 4 17)),
  (17, zo_aload 0 18),
  (18, zo_getR 11 0 (some 0) 21),
  (21, zo_getI 0 4 24),
  (24, zo_cge 85 27),
  (27, zo_aload 1 28),
  (28, zo_iload 4 30),
  (30, zo_vir 8 2 (zo_calli (f_X8_isThere) 2 33)),
  (33, zo_0eq 79 36),
  (36, zo_aload 1 37)]
noncomputable def p_X11_last_1 : List (Nat × zO) := [(37, zo_push (.inl 0) 38),
  (38, zo_iload 4 40),
  (40, zo_aload 1 41),
  (41, zo_getR 8 31 none 44),
  (44, zo_iload 4 46),
  (46, zo_iald 47),
  (47, zo_vir 8 4 (zo_calli (f_X8_weeksTo) 4 50)),
  (50, zo_istore 5 52),
  (52, zo_iload 5 54),
  (54, zo_push (.inl zm1) 55),
  (55, zo_cne 63 58),
  (58, zo_push (.inl 100) 60),
  (60, zo_goto 65),
  (63, zo_iload 5 65),
  (65, zo_kill [5, 6] (zo_istore 6 67)),
  (67, zo_iload 6 69),
  (69, zo_iload 2 70),
  (70, zo_cle 79 73),
  (73, zo_iload 6 75),
  (75, zo_istore 2 76)]
noncomputable def p_X11_last_2 : List (Nat × zO) := [(76, zo_iload 4 78),
  (78, zo_istore 3 79),
  (79, zo_iinc 4 1 82),
  (82, zo_goto 15),
  (85, zo_iload 3 86),
  (86, zo_iret)]
noncomputable def p_X11_last : Nat → zO := zgs [(37, p_X11_last_0), (76, p_X11_last_1), (87, p_X11_last_2)]
theorem t_X11_last : ∀ k, zTl (p_X11_last k) := fun k => zgs_all (c := [(37, p_X11_last_0), (76, p_X11_last_1), (87, p_X11_last_2)]) (fun _ => zl_bad) ⟨⟨zl_aload, zl_getR, zl_getR, zl_astore, zl_push, zl_istore, zl_push, zl_istore, zl_push, zl_istore, (zl_kill zl_iload), zl_aload, zl_getR, zl_getI, zl_cge, zl_aload, zl_iload, (zl_vir zl_calli), zl_0eq, zl_aload, trivial⟩, ⟨zl_push, zl_iload, zl_aload, zl_getR, zl_iload, zl_iald, (zl_vir zl_calli), zl_istore, zl_iload, zl_push, zl_cne, zl_push, zl_goto, zl_iload, (zl_kill zl_istore), zl_iload, zl_iload, zl_cle, zl_iload, zl_istore, trivial⟩, ⟨zl_iload, zl_istore, zl_iinc, zl_goto, zl_iload, zl_iret, trivial⟩, trivial⟩ k
noncomputable def f_X11_last : zS := zrun p_X11_last 7
set_option maxRecDepth 20000 in
theorem s_X11_last_0 {l : Launch} {D : va_G} {ad : Nat → Nat → Nat} {cy : Nat → ClassId} {L : List (Nat × Nat)} (hcl : zclo L = true) (hinj : zAd ad L) {X : zCtx} (hX : zXok X "SoapTreaty" prog_1_method_18_code 7) (hR : zRt X (some .int)) (hl : zXl X l D ad cy L (zroom 5)) : zAllR (zSo X) p_X11_last_0 := ⟨zs_aload_n (i := 0) rfl hX (by decide +kernel : decode prog_1_method_18_code 0 = .ok (.aload_n 0, 1)) rfl (by decide),
  zs_getR hX zFL_11_37 (by decide +kernel : decode prog_1_method_18_code 1 = .ok (.getfield 37, 3)) rfl,
  zs_getR hX zFL_11_115 (by decide +kernel : decode prog_1_method_18_code 4 = .ok (.getfield 115, 3)) rfl,
  zs_astore_n (i := 1) rfl hX (by decide +kernel : decode prog_1_method_18_code 7 = .ok (.astore_n 1, 1)) rfl (by decide),
  zs_pushI (zg_iconst (by decide) hX (by decide +kernel : decode prog_1_method_18_code 8 = .ok (.iconst 0, 1)) rfl),
  zs_istore_n (i := 2) rfl hX (by decide +kernel : decode prog_1_method_18_code 9 = .ok (.istore_n 2, 1)) rfl (by decide),
  zs_pushI (zg_iconst (by decide) hX (by decide +kernel : decode prog_1_method_18_code 10 = .ok (.iconst (-1), 1)) rfl),
  zs_istore_n (i := 3) rfl hX (by decide +kernel : decode prog_1_method_18_code 11 = .ok (.istore_n 3, 1)) rfl (by decide),
  zs_pushI (zg_iconst (by decide) hX (by decide +kernel : decode prog_1_method_18_code 12 = .ok (.iconst 0, 1)) rfl),
  zs_istore hX (by decide +kernel : decode prog_1_method_18_code 13 = .ok (.istore 4, 2)) rfl (by decide),
  zs_kill hX (by decide) (zs_iload hX (by decide +kernel : decode prog_1_method_18_code 15 = .ok (.iload 4, 2)) rfl (by decide)),
  zs_aload_n (i := 0) rfl hX (by decide +kernel : decode prog_1_method_18_code 17 = .ok (.aload_n 0, 1)) rfl (by decide),
  zs_getR hX zFL_11_19 (by decide +kernel : decode prog_1_method_18_code 18 = .ok (.getfield 19, 3)) rfl,
  zs_getI hX zFL_11_214 (by decide) (by decide) (by decide +kernel : decode prog_1_method_18_code 21 = .ok (.getfield 214, 3)) rfl,
  zs_cge hX (by decide +kernel : decode prog_1_method_18_code 24 = .ok (.if_icmp .ge 61, 3)) (by decide) rfl,
  zs_aload_n (i := 1) rfl hX (by decide +kernel : decode prog_1_method_18_code 27 = .ok (.aload_n 1, 1)) rfl (by decide),
  zs_iload hX (by decide +kernel : decode prog_1_method_18_code 28 = .ok (.iload 4, 2)) rfl (by decide),
  zs_callVi hX zMV_11_217 (zXc_of hl (by decide) (k_X8_isThere hcl hinj)) (by decide +kernel : decode prog_1_method_18_code 30 = .ok (.invokevirtual 217, 3)) rfl,
  zs_0eq hX (by decide +kernel : decode prog_1_method_18_code 33 = .ok (.ifCond .eq 46, 3)) (by decide) rfl,
  zs_aload_n (i := 1) rfl hX (by decide +kernel : decode prog_1_method_18_code 36 = .ok (.aload_n 1, 1)) rfl (by decide), trivial⟩
set_option maxRecDepth 20000 in
theorem s_X11_last_1 {l : Launch} {D : va_G} {ad : Nat → Nat → Nat} {cy : Nat → ClassId} {L : List (Nat × Nat)} (hcl : zclo L = true) (hinj : zAd ad L) {X : zCtx} (hX : zXok X "SoapTreaty" prog_1_method_18_code 7) (hR : zRt X (some .int)) (hl : zXl X l D ad cy L (zroom 5)) : zAllR (zSo X) p_X11_last_1 := ⟨zs_pushI (zg_iconst (by decide) hX (by decide +kernel : decode prog_1_method_18_code 37 = .ok (.iconst 0, 1)) rfl),
  zs_iload hX (by decide +kernel : decode prog_1_method_18_code 38 = .ok (.iload 4, 2)) rfl (by decide),
  zs_aload_n (i := 1) rfl hX (by decide +kernel : decode prog_1_method_18_code 40 = .ok (.aload_n 1, 1)) rfl (by decide),
  zs_getR hX zFL_11_148 (by decide +kernel : decode prog_1_method_18_code 41 = .ok (.getfield 148, 3)) rfl,
  zs_iload hX (by decide +kernel : decode prog_1_method_18_code 44 = .ok (.iload 4, 2)) rfl (by decide),
  zs_iald hX (by decide +kernel : decode prog_1_method_18_code 46 = .ok (.iaload, 1)) rfl,
  zs_callVi hX zMV_11_207 (zXc_of hl (by decide) (k_X8_weeksTo hcl hinj)) (by decide +kernel : decode prog_1_method_18_code 47 = .ok (.invokevirtual 207, 3)) rfl,
  zs_istore hX (by decide +kernel : decode prog_1_method_18_code 50 = .ok (.istore 5, 2)) rfl (by decide),
  zs_iload hX (by decide +kernel : decode prog_1_method_18_code 52 = .ok (.iload 5, 2)) rfl (by decide),
  zs_pushI (zg_iconst (by decide) hX (by decide +kernel : decode prog_1_method_18_code 54 = .ok (.iconst (-1), 1)) rfl),
  zs_cne hX (by decide +kernel : decode prog_1_method_18_code 55 = .ok (.if_icmp .ne 8, 3)) (by decide) rfl,
  zs_pushI (zg_bipush (by decide) hX (by decide +kernel : decode prog_1_method_18_code 58 = .ok (.bipush 100, 2)) rfl),
  zs_goto hX (by decide +kernel : decode prog_1_method_18_code 60 = .ok (.goto 5, 3)) (by decide),
  zs_iload hX (by decide +kernel : decode prog_1_method_18_code 63 = .ok (.iload 5, 2)) rfl (by decide),
  zs_kill hX (by decide) (zs_istore hX (by decide +kernel : decode prog_1_method_18_code 65 = .ok (.istore 6, 2)) rfl (by decide)),
  zs_iload hX (by decide +kernel : decode prog_1_method_18_code 67 = .ok (.iload 6, 2)) rfl (by decide),
  zs_iload_n (i := 2) rfl hX (by decide +kernel : decode prog_1_method_18_code 69 = .ok (.iload_n 2, 1)) rfl (by decide),
  zs_cle hX (by decide +kernel : decode prog_1_method_18_code 70 = .ok (.if_icmp .le 9, 3)) (by decide) rfl,
  zs_iload hX (by decide +kernel : decode prog_1_method_18_code 73 = .ok (.iload 6, 2)) rfl (by decide),
  zs_istore_n (i := 2) rfl hX (by decide +kernel : decode prog_1_method_18_code 75 = .ok (.istore_n 2, 1)) rfl (by decide), trivial⟩
set_option maxRecDepth 20000 in
theorem s_X11_last_2 {l : Launch} {D : va_G} {ad : Nat → Nat → Nat} {cy : Nat → ClassId} {L : List (Nat × Nat)} (hcl : zclo L = true) (hinj : zAd ad L) {X : zCtx} (hX : zXok X "SoapTreaty" prog_1_method_18_code 7) (hR : zRt X (some .int)) (hl : zXl X l D ad cy L (zroom 5)) : zAllR (zSo X) p_X11_last_2 := ⟨zs_iload hX (by decide +kernel : decode prog_1_method_18_code 76 = .ok (.iload 4, 2)) rfl (by decide),
  zs_istore_n (i := 3) rfl hX (by decide +kernel : decode prog_1_method_18_code 78 = .ok (.istore_n 3, 1)) rfl (by decide),
  zs_iinc hX (by decide +kernel : decode prog_1_method_18_code 79 = .ok (.iinc 4 1, 3)) (by decide) rfl (by decide),
  zs_goto hX (by decide +kernel : decode prog_1_method_18_code 82 = .ok (.goto (-67), 3)) (by decide),
  zs_iload_n (i := 3) rfl hX (by decide +kernel : decode prog_1_method_18_code 85 = .ok (.iload_n 3, 1)) rfl (by decide),
  zs_iret hX hR (by decide +kernel : decode prog_1_method_18_code 86 = .ok (.ireturn, 1)), trivial⟩
theorem k_X11_last {l : Launch} {D : va_G} {ad : Nat → Nat → Nat} {cy : Nat → ClassId} {L : List (Nat × Nat)} (hcl : zclo L = true) (hinj : zAd ad L) : zCk l D ad cy L 5 f_X11_last y_X11_last (.code y_X11_last prog_1_method_18_code 7 (some .int)) :=
  z_met (by decide) t_X11_last hcl hinj (fun X hX hR hl k => zgs_all (Q := zSo X) (c := [(37, p_X11_last_0), (76, p_X11_last_1), (87, p_X11_last_2)]) (fun _ => zs_bad) ⟨s_X11_last_0 hcl hinj hX hR hl, s_X11_last_1 hcl hinj hX hR hl, s_X11_last_2 hcl hinj hX hR hl, trivial⟩ k)
set_option maxRecDepth 1000000 in
theorem e_X11_last_0 (h : zH) : zL p_X11_last 0 [some (.inr (.inr (11, 0))), none, none, none, none, none, none] [] h = zL p_X11_last 15 [some (.inr (.inr (11, 0))), some (.inr (.inr (8, 0))), some (.inl 0), some (.inl zm1), some (.inl 0), none, none] [] h := (zL_s (t_X11_last) [0, 15, 65] 1000 0 _ _ _).trans rfl
theorem g_X11_last (h : zH) : f_X11_last [(.inr (.inr (11, 0)))] h = zL p_X11_last 15 [some (.inr (.inr (11, 0))), some (.inr (.inr (8, 0))), some (.inl 0), some (.inl zm1), some (.inl 0), none, none] [] h := (show f_X11_last _ h = zL p_X11_last 0 _ [] h from rfl).trans (e_X11_last_0 h)
set_option maxRecDepth 1000000 in
theorem e_X11_last_15 (jx1 : Nat) (x2 : Int32) (x3 : Int32) (x4 : Int32) (o5 : Option zV) (o6 : Option zV) (h : zH) : zL p_X11_last 15 [some (.inr (.inr (11, 0))), some (.inr (.inr (8, jx1))), some (.inl x2), some (.inl x3), some (.inl x4), o5, o6] [] h = zf (x4 < (h.1 0 0 4)) (zci (f_X8_isThere [(.inr (.inr (8, jx1))), (.inl x4)] h) (fun r2 h1 => zf (r2 = 0) (zL p_X11_last 15 [some (.inr (.inr (11, 0))), some (.inr (.inr (8, jx1))), some (.inl x2), some (.inl x3), some (.inl (x4 + 1)), none, none] [] h1) (zf (vp_in x4 7) (zci (f_X8_weeksTo [(.inr (.inr (8, jx1))), (.inl 0), (.inl x4), (.inl (h1.1 31 jx1 x4.toNatClampNeg))] h1) (fun r4 h3 => zf (r4 = zm1) (zL p_X11_last 65 [some (.inr (.inr (11, 0))), some (.inr (.inr (8, jx1))), some (.inl x2), some (.inl x3), some (.inl x4), some (.inl r4), none] [(.inl 100)] h3) (zL p_X11_last 65 [some (.inr (.inr (11, 0))), some (.inr (.inr (8, jx1))), some (.inl x2), some (.inl x3), some (.inl x4), some (.inl r4), none] [(.inl r4)] h3))) none))) (some (some (.inl x3), h)) := (zL_s (t_X11_last) [0, 15, 65] 1000 15 _ _ _).trans rfl
set_option maxRecDepth 1000000 in
theorem e_X11_last_65 (jx1 : Nat) (x2 : Int32) (x3 : Int32) (x4 : Int32) (o5 : Option zV) (o6 : Option zV) (s0 : Int32) (h : zH) : zL p_X11_last 65 [some (.inr (.inr (11, 0))), some (.inr (.inr (8, jx1))), some (.inl x2), some (.inl x3), some (.inl x4), o5, o6] [(.inl s0)] h = zf (x2 < s0) (zL p_X11_last 15 [some (.inr (.inr (11, 0))), some (.inr (.inr (8, jx1))), some (.inl s0), some (.inl x4), some (.inl (x4 + 1)), none, some (.inl s0)] [] h) (zL p_X11_last 15 [some (.inr (.inr (11, 0))), some (.inr (.inr (8, jx1))), some (.inl x2), some (.inl x3), some (.inl (x4 + 1)), none, some (.inl s0)] [] h) := (zL_s (t_X11_last) [0, 15, 65] 1000 65 _ _ _).trans rfl
/-! SoapTreaty.best(I)I -/
def y_X11_best : MethodName := ⟨"SoapTreaty", "best", "(I)I"⟩
noncomputable def p_X11_best_0 : List (Nat × zO) := [(0, zo_aload 0 1),
  (1, zo_getR 11 0 (some 0) 4),
  (4, zo_iload 1 5),
  (5, zo_vir 0 2 (zo_calli (f_X0_hasCake) 2 8)),
  (8, zo_0eq 25 11),
  (11, zo_aload 0 12),
  (12, zo_getR 11 4 (some 0) 15),
  (15, zo_getR 4 8 none 18),
  (18, zo_iload 1 19),
  (19, zo_vir 8 2 (zo_calli (f_X8_isThere) 2 22)),
  (22, zo_0ne 27 25),
  (25, zo_push (.inl zm1) 26),
  (26, zo_iret),
  (27, zo_push (.inl 100) 29),
  (29, zo_istore 2 30),
  (30, zo_push (.inl zm1) 31),
  (31, zo_istore 3 32),
  (32, zo_push (.inl 0) 33),
  (33, zo_istore 4 35),
  (35, zo_kill [5] (zo_iload 4 37))]
noncomputable def p_X11_best_1 : List (Nat × zO) := [(37, zo_aload 0 38),
  (38, zo_getR 11 0 (some 0) 41),
  (41, zo_getI 0 0 44),
  (44, zo_cge 87 47),
  (47, zo_aload 0 48),
  (48, zo_getR 11 4 (some 0) 51),
  (51, zo_getR 4 8 none 54),
  (54, zo_push (.inl 0) 55),
  (55, zo_iload 1 56),
  (56, zo_iload 4 58),
  (58, zo_vir 8 4 (zo_calli (f_X8_weeksTo) 4 61)),
  (61, zo_istore 5 63),
  (63, zo_iload 5 65),
  (65, zo_push (.inl zm1) 66),
  (66, zo_ceq 81 69),
  (69, zo_iload 5 71),
  (71, zo_iload 2 72),
  (72, zo_cge 81 75),
  (75, zo_iload 5 77),
  (77, zo_istore 2 78)]
noncomputable def p_X11_best_2 : List (Nat × zO) := [(78, zo_iload 4 80),
  (80, zo_istore 3 81),
  (81, zo_iinc 4 1 84),
  (84, zo_goto 35),
  (87, zo_iload 3 88),
  (88, zo_iret)]
noncomputable def p_X11_best : Nat → zO := zgs [(36, p_X11_best_0), (78, p_X11_best_1), (89, p_X11_best_2)]
theorem t_X11_best : ∀ k, zTl (p_X11_best k) := fun k => zgs_all (c := [(36, p_X11_best_0), (78, p_X11_best_1), (89, p_X11_best_2)]) (fun _ => zl_bad) ⟨⟨zl_aload, zl_getR, zl_iload, (zl_vir zl_calli), zl_0eq, zl_aload, zl_getR, zl_getR, zl_iload, (zl_vir zl_calli), zl_0ne, zl_push, zl_iret, zl_push, zl_istore, zl_push, zl_istore, zl_push, zl_istore, (zl_kill zl_iload), trivial⟩, ⟨zl_aload, zl_getR, zl_getI, zl_cge, zl_aload, zl_getR, zl_getR, zl_push, zl_iload, zl_iload, (zl_vir zl_calli), zl_istore, zl_iload, zl_push, zl_ceq, zl_iload, zl_iload, zl_cge, zl_iload, zl_istore, trivial⟩, ⟨zl_iload, zl_istore, zl_iinc, zl_goto, zl_iload, zl_iret, trivial⟩, trivial⟩ k
noncomputable def f_X11_best : zS := zrun p_X11_best 6
set_option maxRecDepth 20000 in
theorem s_X11_best_0 {l : Launch} {D : va_G} {ad : Nat → Nat → Nat} {cy : Nat → ClassId} {L : List (Nat × Nat)} (hcl : zclo L = true) (hinj : zAd ad L) {X : zCtx} (hX : zXok X "SoapTreaty" prog_1_method_19_code 6) (hR : zRt X (some .int)) (hl : zXl X l D ad cy L (zroom 5)) : zAllR (zSo X) p_X11_best_0 := ⟨zs_aload_n (i := 0) rfl hX (by decide +kernel : decode prog_1_method_19_code 0 = .ok (.aload_n 0, 1)) rfl (by decide),
  zs_getR hX zFL_11_19 (by decide +kernel : decode prog_1_method_19_code 1 = .ok (.getfield 19, 3)) rfl,
  zs_iload_n (i := 1) rfl hX (by decide +kernel : decode prog_1_method_19_code 4 = .ok (.iload_n 1, 1)) rfl (by decide),
  zs_callVi hX zMV_11_142 (zXc_of hl (by decide) (k_X0_hasCake hcl hinj)) (by decide +kernel : decode prog_1_method_19_code 5 = .ok (.invokevirtual 142, 3)) rfl,
  zs_0eq hX (by decide +kernel : decode prog_1_method_19_code 8 = .ok (.ifCond .eq 17, 3)) (by decide) rfl,
  zs_aload_n (i := 0) rfl hX (by decide +kernel : decode prog_1_method_19_code 11 = .ok (.aload_n 0, 1)) rfl (by decide),
  zs_getR hX zFL_11_37 (by decide +kernel : decode prog_1_method_19_code 12 = .ok (.getfield 37, 3)) rfl,
  zs_getR hX zFL_11_115 (by decide +kernel : decode prog_1_method_19_code 15 = .ok (.getfield 115, 3)) rfl,
  zs_iload_n (i := 1) rfl hX (by decide +kernel : decode prog_1_method_19_code 18 = .ok (.iload_n 1, 1)) rfl (by decide),
  zs_callVi hX zMV_11_217 (zXc_of hl (by decide) (k_X8_isThere hcl hinj)) (by decide +kernel : decode prog_1_method_19_code 19 = .ok (.invokevirtual 217, 3)) rfl,
  zs_0ne hX (by decide +kernel : decode prog_1_method_19_code 22 = .ok (.ifCond .ne 5, 3)) (by decide) rfl,
  zs_pushI (zg_iconst (by decide) hX (by decide +kernel : decode prog_1_method_19_code 25 = .ok (.iconst (-1), 1)) rfl),
  zs_iret hX hR (by decide +kernel : decode prog_1_method_19_code 26 = .ok (.ireturn, 1)),
  zs_pushI (zg_bipush (by decide) hX (by decide +kernel : decode prog_1_method_19_code 27 = .ok (.bipush 100, 2)) rfl),
  zs_istore_n (i := 2) rfl hX (by decide +kernel : decode prog_1_method_19_code 29 = .ok (.istore_n 2, 1)) rfl (by decide),
  zs_pushI (zg_iconst (by decide) hX (by decide +kernel : decode prog_1_method_19_code 30 = .ok (.iconst (-1), 1)) rfl),
  zs_istore_n (i := 3) rfl hX (by decide +kernel : decode prog_1_method_19_code 31 = .ok (.istore_n 3, 1)) rfl (by decide),
  zs_pushI (zg_iconst (by decide) hX (by decide +kernel : decode prog_1_method_19_code 32 = .ok (.iconst 0, 1)) rfl),
  zs_istore hX (by decide +kernel : decode prog_1_method_19_code 33 = .ok (.istore 4, 2)) rfl (by decide),
  zs_kill hX (by decide) (zs_iload hX (by decide +kernel : decode prog_1_method_19_code 35 = .ok (.iload 4, 2)) rfl (by decide)), trivial⟩
set_option maxRecDepth 20000 in
theorem s_X11_best_1 {l : Launch} {D : va_G} {ad : Nat → Nat → Nat} {cy : Nat → ClassId} {L : List (Nat × Nat)} (hcl : zclo L = true) (hinj : zAd ad L) {X : zCtx} (hX : zXok X "SoapTreaty" prog_1_method_19_code 6) (hR : zRt X (some .int)) (hl : zXl X l D ad cy L (zroom 5)) : zAllR (zSo X) p_X11_best_1 := ⟨zs_aload_n (i := 0) rfl hX (by decide +kernel : decode prog_1_method_19_code 37 = .ok (.aload_n 0, 1)) rfl (by decide),
  zs_getR hX zFL_11_19 (by decide +kernel : decode prog_1_method_19_code 38 = .ok (.getfield 19, 3)) rfl,
  zs_getI hX zFL_11_220 (by decide) (by decide) (by decide +kernel : decode prog_1_method_19_code 41 = .ok (.getfield 220, 3)) rfl,
  zs_cge hX (by decide +kernel : decode prog_1_method_19_code 44 = .ok (.if_icmp .ge 43, 3)) (by decide) rfl,
  zs_aload_n (i := 0) rfl hX (by decide +kernel : decode prog_1_method_19_code 47 = .ok (.aload_n 0, 1)) rfl (by decide),
  zs_getR hX zFL_11_37 (by decide +kernel : decode prog_1_method_19_code 48 = .ok (.getfield 37, 3)) rfl,
  zs_getR hX zFL_11_115 (by decide +kernel : decode prog_1_method_19_code 51 = .ok (.getfield 115, 3)) rfl,
  zs_pushI (zg_iconst (by decide) hX (by decide +kernel : decode prog_1_method_19_code 54 = .ok (.iconst 0, 1)) rfl),
  zs_iload_n (i := 1) rfl hX (by decide +kernel : decode prog_1_method_19_code 55 = .ok (.iload_n 1, 1)) rfl (by decide),
  zs_iload hX (by decide +kernel : decode prog_1_method_19_code 56 = .ok (.iload 4, 2)) rfl (by decide),
  zs_callVi hX zMV_11_207 (zXc_of hl (by decide) (k_X8_weeksTo hcl hinj)) (by decide +kernel : decode prog_1_method_19_code 58 = .ok (.invokevirtual 207, 3)) rfl,
  zs_istore hX (by decide +kernel : decode prog_1_method_19_code 61 = .ok (.istore 5, 2)) rfl (by decide),
  zs_iload hX (by decide +kernel : decode prog_1_method_19_code 63 = .ok (.iload 5, 2)) rfl (by decide),
  zs_pushI (zg_iconst (by decide) hX (by decide +kernel : decode prog_1_method_19_code 65 = .ok (.iconst (-1), 1)) rfl),
  zs_ceq hX (by decide +kernel : decode prog_1_method_19_code 66 = .ok (.if_icmp .eq 15, 3)) (by decide) rfl,
  zs_iload hX (by decide +kernel : decode prog_1_method_19_code 69 = .ok (.iload 5, 2)) rfl (by decide),
  zs_iload_n (i := 2) rfl hX (by decide +kernel : decode prog_1_method_19_code 71 = .ok (.iload_n 2, 1)) rfl (by decide),
  zs_cge hX (by decide +kernel : decode prog_1_method_19_code 72 = .ok (.if_icmp .ge 9, 3)) (by decide) rfl,
  zs_iload hX (by decide +kernel : decode prog_1_method_19_code 75 = .ok (.iload 5, 2)) rfl (by decide),
  zs_istore_n (i := 2) rfl hX (by decide +kernel : decode prog_1_method_19_code 77 = .ok (.istore_n 2, 1)) rfl (by decide), trivial⟩
set_option maxRecDepth 20000 in
theorem s_X11_best_2 {l : Launch} {D : va_G} {ad : Nat → Nat → Nat} {cy : Nat → ClassId} {L : List (Nat × Nat)} (hcl : zclo L = true) (hinj : zAd ad L) {X : zCtx} (hX : zXok X "SoapTreaty" prog_1_method_19_code 6) (hR : zRt X (some .int)) (hl : zXl X l D ad cy L (zroom 5)) : zAllR (zSo X) p_X11_best_2 := ⟨zs_iload hX (by decide +kernel : decode prog_1_method_19_code 78 = .ok (.iload 4, 2)) rfl (by decide),
  zs_istore_n (i := 3) rfl hX (by decide +kernel : decode prog_1_method_19_code 80 = .ok (.istore_n 3, 1)) rfl (by decide),
  zs_iinc hX (by decide +kernel : decode prog_1_method_19_code 81 = .ok (.iinc 4 1, 3)) (by decide) rfl (by decide),
  zs_goto hX (by decide +kernel : decode prog_1_method_19_code 84 = .ok (.goto (-49), 3)) (by decide),
  zs_iload_n (i := 3) rfl hX (by decide +kernel : decode prog_1_method_19_code 87 = .ok (.iload_n 3, 1)) rfl (by decide),
  zs_iret hX hR (by decide +kernel : decode prog_1_method_19_code 88 = .ok (.ireturn, 1)), trivial⟩
theorem k_X11_best {l : Launch} {D : va_G} {ad : Nat → Nat → Nat} {cy : Nat → ClassId} {L : List (Nat × Nat)} (hcl : zclo L = true) (hinj : zAd ad L) : zCk l D ad cy L 5 f_X11_best y_X11_best (.code y_X11_best prog_1_method_19_code 6 (some .int)) :=
  z_met (by decide) t_X11_best hcl hinj (fun X hX hR hl k => zgs_all (Q := zSo X) (c := [(36, p_X11_best_0), (78, p_X11_best_1), (89, p_X11_best_2)]) (fun _ => zs_bad) ⟨s_X11_best_0 hcl hinj hX hR hl, s_X11_best_1 hcl hinj hX hR hl, s_X11_best_2 hcl hinj hX hR hl, trivial⟩ k)
set_option maxRecDepth 1000000 in
theorem e_X11_best_0 (x1 : Int32) (h : zH) : zL p_X11_best 0 [some (.inr (.inr (11, 0))), some (.inl x1), none, none, none, none] [] h = zci (f_X0_hasCake [(.inr (.inr (0, 0))), (.inl x1)] h) (fun r2 h1 => zf (r2 = 0) (some (some (.inl zm1), h1)) (zci (f_X8_isThere [(.inr (.inr (8, 0))), (.inl x1)] h1) (fun r4 h3 => zf (r4 = 0) (some (some (.inl zm1), h3)) (zL p_X11_best 35 [some (.inr (.inr (11, 0))), some (.inl x1), some (.inl 100), some (.inl zm1), some (.inl 0), none] [] h3)))) := (zL_s (t_X11_best) [0, 35] 1000 0 _ _ _).trans rfl
theorem g_X11_best (x1 : Int32) (h : zH) : f_X11_best [(.inr (.inr (11, 0))), (.inl x1)] h = zci (f_X0_hasCake [(.inr (.inr (0, 0))), (.inl x1)] h) (fun r2 h1 => zf (r2 = 0) (some (some (.inl zm1), h1)) (zci (f_X8_isThere [(.inr (.inr (8, 0))), (.inl x1)] h1) (fun r4 h3 => zf (r4 = 0) (some (some (.inl zm1), h3)) (zL p_X11_best 35 [some (.inr (.inr (11, 0))), some (.inl x1), some (.inl 100), some (.inl zm1), some (.inl 0), none] [] h3)))) := (show f_X11_best _ h = zL p_X11_best 0 _ [] h from rfl).trans (e_X11_best_0 x1 h)
set_option maxRecDepth 1000000 in
theorem e_X11_best_35 (x1 : Int32) (x2 : Int32) (x3 : Int32) (x4 : Int32) (o5 : Option zV) (h : zH) : zL p_X11_best 35 [some (.inr (.inr (11, 0))), some (.inl x1), some (.inl x2), some (.inl x3), some (.inl x4), o5] [] h = zf (x4 < (h.1 0 0 0)) (zci (f_X8_weeksTo [(.inr (.inr (8, 0))), (.inl 0), (.inl x1), (.inl x4)] h) (fun r2 h1 => zf (r2 = zm1) (zL p_X11_best 35 [some (.inr (.inr (11, 0))), some (.inl x1), some (.inl x2), some (.inl x3), some (.inl (x4 + 1)), some (.inl r2)] [] h1) (zf (r2 < x2) (zL p_X11_best 35 [some (.inr (.inr (11, 0))), some (.inl x1), some (.inl r2), some (.inl x4), some (.inl (x4 + 1)), some (.inl r2)] [] h1) (zL p_X11_best 35 [some (.inr (.inr (11, 0))), some (.inl x1), some (.inl x2), some (.inl x3), some (.inl (x4 + 1)), some (.inl r2)] [] h1)))) (some (some (.inl x3), h)) := (zL_s (t_X11_best) [0, 35] 1000 35 _ _ _).trans rfl
theorem zMV_11_223 : zMV "SoapTreaty" 223 8 y_X8_canPressAll prog_10_method_19_code 3 (some .boolean) 1 := ⟨⟨zT_of 978 (by decide +kernel) (by decide +kernel), zT_of 979 (by decide +kernel) (by decide +kernel), zT_of 980 (by decide +kernel) (by decide +kernel), zT_of 115 (by decide +kernel) (by decide +kernel), zT_of 981 (by decide +kernel) (by decide +kernel)⟩, by decide, rfl, ⟨zT8, 7, rfl⟩, by decide, by decide, by decide +kernel⟩
theorem zMV_11_226 : zMV "SoapTreaty" 226 8 y_X8_thickOf prog_10_method_18_code 4 (some .int) 1 := ⟨⟨zT_of 982 (by decide +kernel) (by decide +kernel), zT_of 983 (by decide +kernel) (by decide +kernel), zT_of 984 (by decide +kernel) (by decide +kernel), zT_of 115 (by decide +kernel) (by decide +kernel), zT_of 985 (by decide +kernel) (by decide +kernel)⟩, by decide, rfl, ⟨zT8, 7, rfl⟩, by decide, by decide, by decide +kernel⟩
/-! SoapTreaty.pressing(I)I -/
def y_X11_pressing : MethodName := ⟨"SoapTreaty", "pressing", "(I)I"⟩
noncomputable def p_X11_pressing_0 : List (Nat × zO) := [(0, zo_iload 1 1),
  (1, zo_push (.inl 1) 2),
  (2, zo_clt 12 5),
  (5, zo_iload 1 6),
  (6, zo_push (.inl 200) 9),
  (9, zo_cle 14 12),
  (12, zo_push (.inl zm1) 13),
  (13, zo_iret),
  (14, zo_aload 0 15),
  (15, zo_getR 11 4 (some 0) 18),
  (18, zo_getR 4 8 none 21),
  (21, zo_astore 2 22),
  (22, zo_push (.inl 8) 24),
  (24, zo_istore 3 25),
  (25, zo_push (.inl zm1) 26),
  (26, zo_istore 4 28),
  (28, zo_push (.inl 0) 29),
  (29, zo_istore 5 31),
  (31, zo_kill [6] (zo_iload 5 33)),
  (33, zo_push (.inl 1) 34)]
noncomputable def p_X11_pressing_1 : List (Nat × zO) := [(34, zo_aload 0 35),
  (35, zo_getR 11 0 (some 0) 38),
  (38, zo_getI 0 4 41),
  (41, zo_ii (fun x y => x <<< (y &&& 31)) 42),
  (42, zo_cge 95 45),
  (45, zo_iload 5 47),
  (47, zo_calli (f_J6_bitCount) 1 50),
  (50, zo_istore 6 52),
  (52, zo_iload 6 54),
  (54, zo_iload 3 55),
  (55, zo_cge 89 58),
  (58, zo_aload 2 59),
  (59, zo_iload 5 61),
  (61, zo_vir 8 2 (zo_calli (f_X8_canPressAll) 2 64)),
  (64, zo_0eq 89 67),
  (67, zo_aload 2 68),
  (68, zo_getI 8 5 71),
  (71, zo_aload 2 72),
  (72, zo_iload 5 74),
  (74, zo_vir 8 2 (zo_calli (f_X8_thickOf) 2 77))]
noncomputable def p_X11_pressing_2 : List (Nat × zO) := [(77, zo_ii (fun x y => x + y) 78),
  (78, zo_iload 1 79),
  (79, zo_clt 89 82),
  (82, zo_iload 6 84),
  (84, zo_istore 3 85),
  (85, zo_iload 5 87),
  (87, zo_istore 4 89),
  (89, zo_iinc 5 1 92),
  (92, zo_goto 31),
  (95, zo_iload 4 97),
  (97, zo_iret)]
noncomputable def p_X11_pressing : Nat → zO := zgs [(34, p_X11_pressing_0), (75, p_X11_pressing_1), (98, p_X11_pressing_2)]
theorem t_X11_pressing : ∀ k, zTl (p_X11_pressing k) := fun k => zgs_all (c := [(34, p_X11_pressing_0), (75, p_X11_pressing_1), (98, p_X11_pressing_2)]) (fun _ => zl_bad) ⟨⟨zl_iload, zl_push, zl_clt, zl_iload, zl_push, zl_cle, zl_push, zl_iret, zl_aload, zl_getR, zl_getR, zl_astore, zl_push, zl_istore, zl_push, zl_istore, zl_push, zl_istore, (zl_kill zl_iload), zl_push, trivial⟩, ⟨zl_aload, zl_getR, zl_getI, zl_ii, zl_cge, zl_iload, zl_calli, zl_istore, zl_iload, zl_iload, zl_cge, zl_aload, zl_iload, (zl_vir zl_calli), zl_0eq, zl_aload, zl_getI, zl_aload, zl_iload, (zl_vir zl_calli), trivial⟩, ⟨zl_ii, zl_iload, zl_clt, zl_iload, zl_istore, zl_iload, zl_istore, zl_iinc, zl_goto, zl_iload, zl_iret, trivial⟩, trivial⟩ k
noncomputable def f_X11_pressing : zS := zrun p_X11_pressing 7
set_option maxRecDepth 20000 in
theorem s_X11_pressing_0 {l : Launch} {D : va_G} {ad : Nat → Nat → Nat} {cy : Nat → ClassId} {L : List (Nat × Nat)} (hcl : zclo L = true) (hinj : zAd ad L) {X : zCtx} (hX : zXok X "SoapTreaty" prog_1_method_20_code 7) (hR : zRt X (some .int)) (hl : zXl X l D ad cy L (zroom 5)) : zAllR (zSo X) p_X11_pressing_0 := ⟨zs_iload_n (i := 1) rfl hX (by decide +kernel : decode prog_1_method_20_code 0 = .ok (.iload_n 1, 1)) rfl (by decide),
  zs_pushI (zg_iconst (by decide) hX (by decide +kernel : decode prog_1_method_20_code 1 = .ok (.iconst 1, 1)) rfl),
  zs_clt hX (by decide +kernel : decode prog_1_method_20_code 2 = .ok (.if_icmp .lt 10, 3)) (by decide) rfl,
  zs_iload_n (i := 1) rfl hX (by decide +kernel : decode prog_1_method_20_code 5 = .ok (.iload_n 1, 1)) rfl (by decide),
  zs_pushI (zg_sipush (by decide) hX (by decide +kernel : decode prog_1_method_20_code 6 = .ok (.sipush 200, 3)) rfl),
  zs_cle hX (by decide +kernel : decode prog_1_method_20_code 9 = .ok (.if_icmp .le 5, 3)) (by decide) rfl,
  zs_pushI (zg_iconst (by decide) hX (by decide +kernel : decode prog_1_method_20_code 12 = .ok (.iconst (-1), 1)) rfl),
  zs_iret hX hR (by decide +kernel : decode prog_1_method_20_code 13 = .ok (.ireturn, 1)),
  zs_aload_n (i := 0) rfl hX (by decide +kernel : decode prog_1_method_20_code 14 = .ok (.aload_n 0, 1)) rfl (by decide),
  zs_getR hX zFL_11_37 (by decide +kernel : decode prog_1_method_20_code 15 = .ok (.getfield 37, 3)) rfl,
  zs_getR hX zFL_11_115 (by decide +kernel : decode prog_1_method_20_code 18 = .ok (.getfield 115, 3)) rfl,
  zs_astore_n (i := 2) rfl hX (by decide +kernel : decode prog_1_method_20_code 21 = .ok (.astore_n 2, 1)) rfl (by decide),
  zs_pushI (zg_bipush (by decide) hX (by decide +kernel : decode prog_1_method_20_code 22 = .ok (.bipush 8, 2)) rfl),
  zs_istore_n (i := 3) rfl hX (by decide +kernel : decode prog_1_method_20_code 24 = .ok (.istore_n 3, 1)) rfl (by decide),
  zs_pushI (zg_iconst (by decide) hX (by decide +kernel : decode prog_1_method_20_code 25 = .ok (.iconst (-1), 1)) rfl),
  zs_istore hX (by decide +kernel : decode prog_1_method_20_code 26 = .ok (.istore 4, 2)) rfl (by decide),
  zs_pushI (zg_iconst (by decide) hX (by decide +kernel : decode prog_1_method_20_code 28 = .ok (.iconst 0, 1)) rfl),
  zs_istore hX (by decide +kernel : decode prog_1_method_20_code 29 = .ok (.istore 5, 2)) rfl (by decide),
  zs_kill hX (by decide) (zs_iload hX (by decide +kernel : decode prog_1_method_20_code 31 = .ok (.iload 5, 2)) rfl (by decide)),
  zs_pushI (zg_iconst (by decide) hX (by decide +kernel : decode prog_1_method_20_code 33 = .ok (.iconst 1, 1)) rfl), trivial⟩
set_option maxRecDepth 20000 in
theorem s_X11_pressing_1 {l : Launch} {D : va_G} {ad : Nat → Nat → Nat} {cy : Nat → ClassId} {L : List (Nat × Nat)} (hcl : zclo L = true) (hinj : zAd ad L) {X : zCtx} (hX : zXok X "SoapTreaty" prog_1_method_20_code 7) (hR : zRt X (some .int)) (hl : zXl X l D ad cy L (zroom 5)) : zAllR (zSo X) p_X11_pressing_1 := ⟨zs_aload_n (i := 0) rfl hX (by decide +kernel : decode prog_1_method_20_code 34 = .ok (.aload_n 0, 1)) rfl (by decide),
  zs_getR hX zFL_11_19 (by decide +kernel : decode prog_1_method_20_code 35 = .ok (.getfield 19, 3)) rfl,
  zs_getI hX zFL_11_214 (by decide) (by decide) (by decide +kernel : decode prog_1_method_20_code 38 = .ok (.getfield 214, 3)) rfl,
  zs_ii (zg_ishl hX (by decide +kernel : decode prog_1_method_20_code 41 = .ok (.ishl, 1)) rfl),
  zs_cge hX (by decide +kernel : decode prog_1_method_20_code 42 = .ok (.if_icmp .ge 53, 3)) (by decide) rfl,
  zs_iload hX (by decide +kernel : decode prog_1_method_20_code 45 = .ok (.iload 5, 2)) rfl (by decide),
  zs_callSi hX zMS_11_131 (zXc_of hl (by decide) (k_J6_bitCount hcl hinj)) (by decide +kernel : decode prog_1_method_20_code 47 = .ok (.invokestatic 131, 3)) rfl,
  zs_istore hX (by decide +kernel : decode prog_1_method_20_code 50 = .ok (.istore 6, 2)) rfl (by decide),
  zs_iload hX (by decide +kernel : decode prog_1_method_20_code 52 = .ok (.iload 6, 2)) rfl (by decide),
  zs_iload_n (i := 3) rfl hX (by decide +kernel : decode prog_1_method_20_code 54 = .ok (.iload_n 3, 1)) rfl (by decide),
  zs_cge hX (by decide +kernel : decode prog_1_method_20_code 55 = .ok (.if_icmp .ge 34, 3)) (by decide) rfl,
  zs_aload_n (i := 2) rfl hX (by decide +kernel : decode prog_1_method_20_code 58 = .ok (.aload_n 2, 1)) rfl (by decide),
  zs_iload hX (by decide +kernel : decode prog_1_method_20_code 59 = .ok (.iload 5, 2)) rfl (by decide),
  zs_callVi hX zMV_11_223 (zXc_of hl (by decide) (k_X8_canPressAll hcl hinj)) (by decide +kernel : decode prog_1_method_20_code 61 = .ok (.invokevirtual 223, 3)) rfl,
  zs_0eq hX (by decide +kernel : decode prog_1_method_20_code 64 = .ok (.ifCond .eq 25, 3)) (by decide) rfl,
  zs_aload_n (i := 2) rfl hX (by decide +kernel : decode prog_1_method_20_code 67 = .ok (.aload_n 2, 1)) rfl (by decide),
  zs_getI hX zFL_11_173 (by decide) (by decide) (by decide +kernel : decode prog_1_method_20_code 68 = .ok (.getfield 173, 3)) rfl,
  zs_aload_n (i := 2) rfl hX (by decide +kernel : decode prog_1_method_20_code 71 = .ok (.aload_n 2, 1)) rfl (by decide),
  zs_iload hX (by decide +kernel : decode prog_1_method_20_code 72 = .ok (.iload 5, 2)) rfl (by decide),
  zs_callVi hX zMV_11_226 (zXc_of hl (by decide) (k_X8_thickOf hcl hinj)) (by decide +kernel : decode prog_1_method_20_code 74 = .ok (.invokevirtual 226, 3)) rfl, trivial⟩
set_option maxRecDepth 20000 in
theorem s_X11_pressing_2 {l : Launch} {D : va_G} {ad : Nat → Nat → Nat} {cy : Nat → ClassId} {L : List (Nat × Nat)} (hcl : zclo L = true) (hinj : zAd ad L) {X : zCtx} (hX : zXok X "SoapTreaty" prog_1_method_20_code 7) (hR : zRt X (some .int)) (hl : zXl X l D ad cy L (zroom 5)) : zAllR (zSo X) p_X11_pressing_2 := ⟨zs_ii (zg_iadd hX (by decide +kernel : decode prog_1_method_20_code 77 = .ok (.iadd, 1)) rfl),
  zs_iload_n (i := 1) rfl hX (by decide +kernel : decode prog_1_method_20_code 78 = .ok (.iload_n 1, 1)) rfl (by decide),
  zs_clt hX (by decide +kernel : decode prog_1_method_20_code 79 = .ok (.if_icmp .lt 10, 3)) (by decide) rfl,
  zs_iload hX (by decide +kernel : decode prog_1_method_20_code 82 = .ok (.iload 6, 2)) rfl (by decide),
  zs_istore_n (i := 3) rfl hX (by decide +kernel : decode prog_1_method_20_code 84 = .ok (.istore_n 3, 1)) rfl (by decide),
  zs_iload hX (by decide +kernel : decode prog_1_method_20_code 85 = .ok (.iload 5, 2)) rfl (by decide),
  zs_istore hX (by decide +kernel : decode prog_1_method_20_code 87 = .ok (.istore 4, 2)) rfl (by decide),
  zs_iinc hX (by decide +kernel : decode prog_1_method_20_code 89 = .ok (.iinc 5 1, 3)) (by decide) rfl (by decide),
  zs_goto hX (by decide +kernel : decode prog_1_method_20_code 92 = .ok (.goto (-61), 3)) (by decide),
  zs_iload hX (by decide +kernel : decode prog_1_method_20_code 95 = .ok (.iload 4, 2)) rfl (by decide),
  zs_iret hX hR (by decide +kernel : decode prog_1_method_20_code 97 = .ok (.ireturn, 1)), trivial⟩
theorem k_X11_pressing {l : Launch} {D : va_G} {ad : Nat → Nat → Nat} {cy : Nat → ClassId} {L : List (Nat × Nat)} (hcl : zclo L = true) (hinj : zAd ad L) : zCk l D ad cy L 5 f_X11_pressing y_X11_pressing (.code y_X11_pressing prog_1_method_20_code 7 (some .int)) :=
  z_met (by decide) t_X11_pressing hcl hinj (fun X hX hR hl k => zgs_all (Q := zSo X) (c := [(34, p_X11_pressing_0), (75, p_X11_pressing_1), (98, p_X11_pressing_2)]) (fun _ => zs_bad) ⟨s_X11_pressing_0 hcl hinj hX hR hl, s_X11_pressing_1 hcl hinj hX hR hl, s_X11_pressing_2 hcl hinj hX hR hl, trivial⟩ k)
set_option maxRecDepth 1000000 in
theorem e_X11_pressing_0 (x1 : Int32) (h : zH) : zL p_X11_pressing 0 [some (.inr (.inr (11, 0))), some (.inl x1), none, none, none, none, none] [] h = zf (x1 < 1) (some (some (.inl zm1), h)) (zf (200 < x1) (some (some (.inl zm1), h)) (zL p_X11_pressing 31 [some (.inr (.inr (11, 0))), some (.inl x1), some (.inr (.inr (8, 0))), some (.inl 8), some (.inl zm1), some (.inl 0), none] [] h)) := (zL_s (t_X11_pressing) [0, 31] 1000 0 _ _ _).trans rfl
theorem g_X11_pressing (x1 : Int32) (h : zH) : f_X11_pressing [(.inr (.inr (11, 0))), (.inl x1)] h = zf (x1 < 1) (some (some (.inl zm1), h)) (zf (200 < x1) (some (some (.inl zm1), h)) (zL p_X11_pressing 31 [some (.inr (.inr (11, 0))), some (.inl x1), some (.inr (.inr (8, 0))), some (.inl 8), some (.inl zm1), some (.inl 0), none] [] h)) := (show f_X11_pressing _ h = zL p_X11_pressing 0 _ [] h from rfl).trans (e_X11_pressing_0 x1 h)
set_option maxRecDepth 1000000 in
theorem e_X11_pressing_31 (x1 : Int32) (jx2 : Nat) (x3 : Int32) (x4 : Int32) (x5 : Int32) (o6 : Option zV) (h : zH) : zL p_X11_pressing 31 [some (.inr (.inr (11, 0))), some (.inl x1), some (.inr (.inr (8, jx2))), some (.inl x3), some (.inl x4), some (.inl x5), o6] [] h = zf (x5 < ((1 : Int32) <<< ((h.1 0 0 4) &&& 31))) (zci (f_J6_bitCount [(.inl x5)] h) (fun r2 h1 => zf (r2 < x3) (zci (f_X8_canPressAll [(.inr (.inr (8, jx2))), (.inl x5)] h1) (fun r4 h3 => zf (r4 = 0) (zL p_X11_pressing 31 [some (.inr (.inr (11, 0))), some (.inl x1), some (.inr (.inr (8, jx2))), some (.inl x3), some (.inl x4), some (.inl (x5 + 1)), some (.inl r2)] [] h3) (zci (f_X8_thickOf [(.inr (.inr (8, jx2))), (.inl x5)] h3) (fun r6 h5 => zf (((h3.1 8 jx2 5) + r6) < x1) (zL p_X11_pressing 31 [some (.inr (.inr (11, 0))), some (.inl x1), some (.inr (.inr (8, jx2))), some (.inl x3), some (.inl x4), some (.inl (x5 + 1)), some (.inl r2)] [] h5) (zL p_X11_pressing 31 [some (.inr (.inr (11, 0))), some (.inl x1), some (.inr (.inr (8, jx2))), some (.inl r2), some (.inl x5), some (.inl (x5 + 1)), some (.inl r2)] [] h5))))) (zL p_X11_pressing 31 [some (.inr (.inr (11, 0))), some (.inl x1), some (.inr (.inr (8, jx2))), some (.inl x3), some (.inl x4), some (.inl (x5 + 1)), some (.inl r2)] [] h1))) (some (some (.inl x4), h)) := (zL_s (t_X11_pressing) [0, 31] 1000 31 _ _ _).trans rfl
theorem zMV_11_229 : zMV "SoapTreaty" 229 8 y_X8_warringCakes prog_10_method_20_code 3 (some .int) 0 := ⟨⟨zT_of 990 (by decide +kernel) (by decide +kernel), zT_of 797 (by decide +kernel) (by decide +kernel), zT_of 798 (by decide +kernel) (by decide +kernel), zT_of 115 (by decide +kernel) (by decide +kernel), zT_of 799 (by decide +kernel) (by decide +kernel)⟩, by decide, rfl, ⟨zT8, 7, rfl⟩, by decide, by decide, by decide +kernel⟩
/-! SoapTreaty.peace()I -/
def y_X11_peace : MethodName := ⟨"SoapTreaty", "peace", "()I"⟩
noncomputable def p_X11_peace_0 : List (Nat × zO) := [(0, zo_aload 0 1),
  (1, zo_getR 11 4 (some 0) 4),
  (4, zo_getR 4 8 none 7),
  (7, zo_vir 8 1 (zo_calli (f_X8_warringCakes) 1 10)),
  (10, zo_iret)]
noncomputable def p_X11_peace : Nat → zO := zgs [(11, p_X11_peace_0)]
theorem t_X11_peace : ∀ k, zTl (p_X11_peace k) := fun k => zgs_all (c := [(11, p_X11_peace_0)]) (fun _ => zl_bad) ⟨⟨zl_aload, zl_getR, zl_getR, (zl_vir zl_calli), zl_iret, trivial⟩, trivial⟩ k
noncomputable def f_X11_peace : zS := zrun p_X11_peace 1
set_option maxRecDepth 20000 in
theorem s_X11_peace_0 {l : Launch} {D : va_G} {ad : Nat → Nat → Nat} {cy : Nat → ClassId} {L : List (Nat × Nat)} (hcl : zclo L = true) (hinj : zAd ad L) {X : zCtx} (hX : zXok X "SoapTreaty" prog_1_method_21_code 1) (hR : zRt X (some .int)) (hl : zXl X l D ad cy L (zroom 3)) : zAllR (zSo X) p_X11_peace_0 := ⟨zs_aload_n (i := 0) rfl hX (by decide +kernel : decode prog_1_method_21_code 0 = .ok (.aload_n 0, 1)) rfl (by decide),
  zs_getR hX zFL_11_37 (by decide +kernel : decode prog_1_method_21_code 1 = .ok (.getfield 37, 3)) rfl,
  zs_getR hX zFL_11_115 (by decide +kernel : decode prog_1_method_21_code 4 = .ok (.getfield 115, 3)) rfl,
  zs_callVi hX zMV_11_229 (zXc_of hl (by decide) (k_X8_warringCakes hcl hinj)) (by decide +kernel : decode prog_1_method_21_code 7 = .ok (.invokevirtual 229, 3)) rfl,
  zs_iret hX hR (by decide +kernel : decode prog_1_method_21_code 10 = .ok (.ireturn, 1)), trivial⟩
theorem k_X11_peace {l : Launch} {D : va_G} {ad : Nat → Nat → Nat} {cy : Nat → ClassId} {L : List (Nat × Nat)} (hcl : zclo L = true) (hinj : zAd ad L) : zCk l D ad cy L 3 f_X11_peace y_X11_peace (.code y_X11_peace prog_1_method_21_code 1 (some .int)) :=
  z_met (by decide) t_X11_peace hcl hinj (fun X hX hR hl k => zgs_all (Q := zSo X) (c := [(11, p_X11_peace_0)]) (fun _ => zs_bad) ⟨s_X11_peace_0 hcl hinj hX hR hl, trivial⟩ k)
set_option maxRecDepth 1000000 in
theorem e_X11_peace_0 (h : zH) : zL p_X11_peace 0 [some (.inr (.inr (11, 0)))] [] h = zci (f_X8_warringCakes [(.inr (.inr (8, 0)))] h) (fun r2 h1 => some (some (.inl r2), h1)) := (zL_s (t_X11_peace) [0] 1000 0 _ _ _).trans rfl
theorem g_X11_peace (h : zH) : f_X11_peace [(.inr (.inr (11, 0)))] h = zci (f_X8_warringCakes [(.inr (.inr (8, 0)))] h) (fun r2 h1 => some (some (.inl r2), h1)) := (show f_X11_peace _ h = zL p_X11_peace 0 _ [] h from rfl).trans (e_X11_peace_0 h)
theorem zMV_11_273 : zMV "SoapTreaty" 273 8 y_X8_copyFrom prog_10_method_3_code 2 none 1 := ⟨⟨zT_of 1004 (by decide +kernel) (by decide +kernel), zT_of 854 (by decide +kernel) (by decide +kernel), zT_of 855 (by decide +kernel) (by decide +kernel), zT_of 115 (by decide +kernel) (by decide +kernel), zT_of 856 (by decide +kernel) (by decide +kernel)⟩, by decide, rfl, ⟨zT8, 7, rfl⟩, by decide, by decide, by decide +kernel⟩
theorem zMV_11_279 : zMV "SoapTreaty" 279 8 y_X8_pairsInEarnest prog_10_method_30_code 1 (some .int) 0 := ⟨⟨zT_of 999 (by decide +kernel) (by decide +kernel), zT_of 1000 (by decide +kernel) (by decide +kernel), zT_of 1001 (by decide +kernel) (by decide +kernel), zT_of 115 (by decide +kernel) (by decide +kernel), zT_of 1002 (by decide +kernel) (by decide +kernel)⟩, by decide, rfl, ⟨zT8, 7, rfl⟩, by decide, by decide, by decide +kernel⟩
/-! SoapTreaty.pactsBehind(I)I -/
def y_X11_pactsBehind : MethodName := ⟨"SoapTreaty", "pactsBehind", "(I)I"⟩
noncomputable def p_X11_pactsBehind_0 : List (Nat × zO) := [(0, zo_iload 1 1),
  (1, zo_0ne 15 4),
  (4, zo_aload 0 5),
  (5, zo_getR 11 4 (some 0) 8),
  (8, zo_getR 4 8 none 11),
  (11, zo_vir 8 1 (zo_calli (f_X8_pairsInEarnest) 1 14)),
  (14, zo_iret),
  (15, zo_aload 0 16),
  (16, zo_getR 11 8 (some 21) 19),
  (19, zo_aload 0 20),
  (20, zo_getR 11 4 (some 0) 23),
  (23, zo_getR 4 8 none 26),
  (26, zo_vir 8 2 (zo_callv (f_X8_copyFrom) 2 29)),
  (29, zo_aload 0 30),
  (30, zo_getR 11 8 (some 21) 33),
  (33, zo_push (.inl 5) 34),
  (34, zo_push (.inl zm1) 35),
  (35, zo_push (.inl zm1) 36),
  (36, zo_vir 8 4 (zo_calli (f_X8_attempt) 4 39)),
  (39, zo_pop 40)]
noncomputable def p_X11_pactsBehind_1 : List (Nat × zO) := [(40, zo_aload 0 41),
  (41, zo_getR 11 8 (some 21) 44),
  (44, zo_vir 8 1 (zo_calli (f_X8_pairsInEarnest) 1 47)),
  (47, zo_iret)]
noncomputable def p_X11_pactsBehind : Nat → zO := zgs [(40, p_X11_pactsBehind_0), (48, p_X11_pactsBehind_1)]
theorem t_X11_pactsBehind : ∀ k, zTl (p_X11_pactsBehind k) := fun k => zgs_all (c := [(40, p_X11_pactsBehind_0), (48, p_X11_pactsBehind_1)]) (fun _ => zl_bad) ⟨⟨zl_iload, zl_0ne, zl_aload, zl_getR, zl_getR, (zl_vir zl_calli), zl_iret, zl_aload, zl_getR, zl_aload, zl_getR, zl_getR, (zl_vir zl_callv), zl_aload, zl_getR, zl_push, zl_push, zl_push, (zl_vir zl_calli), zl_pop, trivial⟩, ⟨zl_aload, zl_getR, (zl_vir zl_calli), zl_iret, trivial⟩, trivial⟩ k
noncomputable def f_X11_pactsBehind : zS := zrun p_X11_pactsBehind 2
set_option maxRecDepth 20000 in
theorem s_X11_pactsBehind_0 {l : Launch} {D : va_G} {ad : Nat → Nat → Nat} {cy : Nat → ClassId} {L : List (Nat × Nat)} (hcl : zclo L = true) (hinj : zAd ad L) {X : zCtx} (hX : zXok X "SoapTreaty" prog_1_method_36_code 2) (hR : zRt X (some .int)) (hl : zXl X l D ad cy L (zroom 7)) : zAllR (zSo X) p_X11_pactsBehind_0 := ⟨zs_iload_n (i := 1) rfl hX (by decide +kernel : decode prog_1_method_36_code 0 = .ok (.iload_n 1, 1)) rfl (by decide),
  zs_0ne hX (by decide +kernel : decode prog_1_method_36_code 1 = .ok (.ifCond .ne 14, 3)) (by decide) rfl,
  zs_aload_n (i := 0) rfl hX (by decide +kernel : decode prog_1_method_36_code 4 = .ok (.aload_n 0, 1)) rfl (by decide),
  zs_getR hX zFL_11_37 (by decide +kernel : decode prog_1_method_36_code 5 = .ok (.getfield 37, 3)) rfl,
  zs_getR hX zFL_11_115 (by decide +kernel : decode prog_1_method_36_code 8 = .ok (.getfield 115, 3)) rfl,
  zs_callVi hX zMV_11_279 (zXc_of hl (by decide) (k_X8_pairsInEarnest hcl hinj)) (by decide +kernel : decode prog_1_method_36_code 11 = .ok (.invokevirtual 279, 3)) rfl,
  zs_iret hX hR (by decide +kernel : decode prog_1_method_36_code 14 = .ok (.ireturn, 1)),
  zs_aload_n (i := 0) rfl hX (by decide +kernel : decode prog_1_method_36_code 15 = .ok (.aload_n 0, 1)) rfl (by decide),
  zs_getR hX zFL_11_55 (by decide +kernel : decode prog_1_method_36_code 16 = .ok (.getfield 55, 3)) rfl,
  zs_aload_n (i := 0) rfl hX (by decide +kernel : decode prog_1_method_36_code 19 = .ok (.aload_n 0, 1)) rfl (by decide),
  zs_getR hX zFL_11_37 (by decide +kernel : decode prog_1_method_36_code 20 = .ok (.getfield 37, 3)) rfl,
  zs_getR hX zFL_11_115 (by decide +kernel : decode prog_1_method_36_code 23 = .ok (.getfield 115, 3)) rfl,
  zs_callVv hX zMV_11_273 (zXc_of hl (by decide) (k_X8_copyFrom hcl hinj)) (by decide +kernel : decode prog_1_method_36_code 26 = .ok (.invokevirtual 273, 3)) rfl,
  zs_aload_n (i := 0) rfl hX (by decide +kernel : decode prog_1_method_36_code 29 = .ok (.aload_n 0, 1)) rfl (by decide),
  zs_getR hX zFL_11_55 (by decide +kernel : decode prog_1_method_36_code 30 = .ok (.getfield 55, 3)) rfl,
  zs_pushI (zg_iconst (by decide) hX (by decide +kernel : decode prog_1_method_36_code 33 = .ok (.iconst 5, 1)) rfl),
  zs_pushI (zg_iconst (by decide) hX (by decide +kernel : decode prog_1_method_36_code 34 = .ok (.iconst (-1), 1)) rfl),
  zs_pushI (zg_iconst (by decide) hX (by decide +kernel : decode prog_1_method_36_code 35 = .ok (.iconst (-1), 1)) rfl),
  zs_callVi hX zMV_11_196 (zXc_of hl (by decide) (k_X8_attempt hcl hinj)) (by decide +kernel : decode prog_1_method_36_code 36 = .ok (.invokevirtual 196, 3)) rfl,
  zs_pop_ (zg_pop hX (by decide +kernel : decode prog_1_method_36_code 39 = .ok (.pop, 1)) rfl), trivial⟩
set_option maxRecDepth 20000 in
theorem s_X11_pactsBehind_1 {l : Launch} {D : va_G} {ad : Nat → Nat → Nat} {cy : Nat → ClassId} {L : List (Nat × Nat)} (hcl : zclo L = true) (hinj : zAd ad L) {X : zCtx} (hX : zXok X "SoapTreaty" prog_1_method_36_code 2) (hR : zRt X (some .int)) (hl : zXl X l D ad cy L (zroom 7)) : zAllR (zSo X) p_X11_pactsBehind_1 := ⟨zs_aload_n (i := 0) rfl hX (by decide +kernel : decode prog_1_method_36_code 40 = .ok (.aload_n 0, 1)) rfl (by decide),
  zs_getR hX zFL_11_55 (by decide +kernel : decode prog_1_method_36_code 41 = .ok (.getfield 55, 3)) rfl,
  zs_callVi hX zMV_11_279 (zXc_of hl (by decide) (k_X8_pairsInEarnest hcl hinj)) (by decide +kernel : decode prog_1_method_36_code 44 = .ok (.invokevirtual 279, 3)) rfl,
  zs_iret hX hR (by decide +kernel : decode prog_1_method_36_code 47 = .ok (.ireturn, 1)), trivial⟩
theorem k_X11_pactsBehind {l : Launch} {D : va_G} {ad : Nat → Nat → Nat} {cy : Nat → ClassId} {L : List (Nat × Nat)} (hcl : zclo L = true) (hinj : zAd ad L) : zCk l D ad cy L 7 f_X11_pactsBehind y_X11_pactsBehind (.code y_X11_pactsBehind prog_1_method_36_code 2 (some .int)) :=
  z_met (by decide) t_X11_pactsBehind hcl hinj (fun X hX hR hl k => zgs_all (Q := zSo X) (c := [(40, p_X11_pactsBehind_0), (48, p_X11_pactsBehind_1)]) (fun _ => zs_bad) ⟨s_X11_pactsBehind_0 hcl hinj hX hR hl, s_X11_pactsBehind_1 hcl hinj hX hR hl, trivial⟩ k)
set_option maxRecDepth 1000000 in
theorem e_X11_pactsBehind_0 (x1 : Int32) (h : zH) : zL p_X11_pactsBehind 0 [some (.inr (.inr (11, 0))), some (.inl x1)] [] h = zf (x1 = 0) (zci (f_X8_pairsInEarnest [(.inr (.inr (8, 0)))] h) (fun r7 h6 => some (some (.inl r7), h6))) (zcv (f_X8_copyFrom [(.inr (.inr (8, 21))), (.inr (.inr (8, 0)))] h) (fun h1 => zci (f_X8_attempt [(.inr (.inr (8, 21))), (.inl 5), (.inl zm1), (.inl zm1)] h1) (fun r3 h2 => zci (f_X8_pairsInEarnest [(.inr (.inr (8, 21)))] h2) (fun r5 h4 => some (some (.inl r5), h4))))) := (zL_s (t_X11_pactsBehind) [0] 1000 0 _ _ _).trans rfl
theorem g_X11_pactsBehind (x1 : Int32) (h : zH) : f_X11_pactsBehind [(.inr (.inr (11, 0))), (.inl x1)] h = zf (x1 = 0) (zci (f_X8_pairsInEarnest [(.inr (.inr (8, 0)))] h) (fun r7 h6 => some (some (.inl r7), h6))) (zcv (f_X8_copyFrom [(.inr (.inr (8, 21))), (.inr (.inr (8, 0)))] h) (fun h1 => zci (f_X8_attempt [(.inr (.inr (8, 21))), (.inl 5), (.inl zm1), (.inl zm1)] h1) (fun r3 h2 => zci (f_X8_pairsInEarnest [(.inr (.inr (8, 21)))] h2) (fun r5 h4 => some (some (.inl r5), h4))))) := (show f_X11_pactsBehind _ h = zL p_X11_pactsBehind 0 _ [] h from rfl).trans (e_X11_pactsBehind_0 x1 h)
theorem zMV_11_232 : zMV "SoapTreaty" 232 11 y_X11_pactsBehind prog_1_method_36_code 2 (some .int) 1 := ⟨⟨zT_of 995 (by decide +kernel) (by decide +kernel), zT_of 997 (by decide +kernel) (by decide +kernel), zT_of 25 (by decide +kernel) (by decide +kernel), zT_of 102 (by decide +kernel) (by decide +kernel), zT_of 998 (by decide +kernel) (by decide +kernel)⟩, by decide, rfl, ⟨zT11, 10, rfl⟩, by decide, by decide, by decide +kernel⟩
/-! SoapTreaty.pacts(I)I -/
def y_X11_pacts : MethodName := ⟨"SoapTreaty", "pacts", "(I)I"⟩
noncomputable def p_X11_pacts_0 : List (Nat × zO) := [(0, zo_iload 1 1),
  (1, zo_0lt 10 4),
  (4, zo_iload 1 5),
  (5, zo_push (.inl 60) 7),
  (7, zo_cle 14 10),
  (10, zo_push (.inl zm1) 11),
  (11, zo_goto 19),
  (14, zo_aload 0 15),
  (15, zo_iload 1 16),
  (16, zo_vir 11 2 (zo_calli (f_X11_pactsBehind) 2 19)),
  (19, zo_iret)]
noncomputable def p_X11_pacts : Nat → zO := zgs [(20, p_X11_pacts_0)]
theorem t_X11_pacts : ∀ k, zTl (p_X11_pacts k) := fun k => zgs_all (c := [(20, p_X11_pacts_0)]) (fun _ => zl_bad) ⟨⟨zl_iload, zl_0lt, zl_iload, zl_push, zl_cle, zl_push, zl_goto, zl_aload, zl_iload, (zl_vir zl_calli), zl_iret, trivial⟩, trivial⟩ k
noncomputable def f_X11_pacts : zS := zrun p_X11_pacts 2
set_option maxRecDepth 20000 in
theorem s_X11_pacts_0 {l : Launch} {D : va_G} {ad : Nat → Nat → Nat} {cy : Nat → ClassId} {L : List (Nat × Nat)} (hcl : zclo L = true) (hinj : zAd ad L) {X : zCtx} (hX : zXok X "SoapTreaty" prog_1_method_22_code 2) (hR : zRt X (some .int)) (hl : zXl X l D ad cy L (zroom 8)) : zAllR (zSo X) p_X11_pacts_0 := ⟨zs_iload_n (i := 1) rfl hX (by decide +kernel : decode prog_1_method_22_code 0 = .ok (.iload_n 1, 1)) rfl (by decide),
  zs_0lt hX (by decide +kernel : decode prog_1_method_22_code 1 = .ok (.ifCond .lt 9, 3)) (by decide) rfl,
  zs_iload_n (i := 1) rfl hX (by decide +kernel : decode prog_1_method_22_code 4 = .ok (.iload_n 1, 1)) rfl (by decide),
  zs_pushI (zg_bipush (by decide) hX (by decide +kernel : decode prog_1_method_22_code 5 = .ok (.bipush 60, 2)) rfl),
  zs_cle hX (by decide +kernel : decode prog_1_method_22_code 7 = .ok (.if_icmp .le 7, 3)) (by decide) rfl,
  zs_pushI (zg_iconst (by decide) hX (by decide +kernel : decode prog_1_method_22_code 10 = .ok (.iconst (-1), 1)) rfl),
  zs_goto hX (by decide +kernel : decode prog_1_method_22_code 11 = .ok (.goto 8, 3)) (by decide),
  zs_aload_n (i := 0) rfl hX (by decide +kernel : decode prog_1_method_22_code 14 = .ok (.aload_n 0, 1)) rfl (by decide),
  zs_iload_n (i := 1) rfl hX (by decide +kernel : decode prog_1_method_22_code 15 = .ok (.iload_n 1, 1)) rfl (by decide),
  zs_callVi hX zMV_11_232 (zXc_of hl (by decide) (k_X11_pactsBehind hcl hinj)) (by decide +kernel : decode prog_1_method_22_code 16 = .ok (.invokevirtual 232, 3)) rfl,
  zs_iret hX hR (by decide +kernel : decode prog_1_method_22_code 19 = .ok (.ireturn, 1)), trivial⟩
theorem k_X11_pacts {l : Launch} {D : va_G} {ad : Nat → Nat → Nat} {cy : Nat → ClassId} {L : List (Nat × Nat)} (hcl : zclo L = true) (hinj : zAd ad L) : zCk l D ad cy L 8 f_X11_pacts y_X11_pacts (.code y_X11_pacts prog_1_method_22_code 2 (some .int)) :=
  z_met (by decide) t_X11_pacts hcl hinj (fun X hX hR hl k => zgs_all (Q := zSo X) (c := [(20, p_X11_pacts_0)]) (fun _ => zs_bad) ⟨s_X11_pacts_0 hcl hinj hX hR hl, trivial⟩ k)
set_option maxRecDepth 1000000 in
theorem e_X11_pacts_0 (x1 : Int32) (h : zH) : zL p_X11_pacts 0 [some (.inr (.inr (11, 0))), some (.inl x1)] [] h = zf (x1 < 0) (some (some (.inl zm1), h)) (zf (60 < x1) (some (some (.inl zm1), h)) (zci (f_X11_pactsBehind [(.inr (.inr (11, 0))), (.inl x1)] h) (fun r2 h1 => some (some (.inl r2), h1)))) := (zL_s (t_X11_pacts) [0] 1000 0 _ _ _).trans rfl
theorem g_X11_pacts (x1 : Int32) (h : zH) : f_X11_pacts [(.inr (.inr (11, 0))), (.inl x1)] h = zf (x1 < 0) (some (some (.inl zm1), h)) (zf (60 < x1) (some (some (.inl zm1), h)) (zci (f_X11_pactsBehind [(.inr (.inr (11, 0))), (.inl x1)] h) (fun r2 h1 => some (some (.inl r2), h1)))) := (show f_X11_pacts _ h = zL p_X11_pacts 0 _ [] h from rfl).trans (e_X11_pacts_0 x1 h)
/-! SoapTreaty.soonest()I -/
def y_X11_soonest : MethodName := ⟨"SoapTreaty", "soonest", "()I"⟩
noncomputable def p_X11_soonest_0 : List (Nat × zO) := [(0, zo_aload 0 1),
  (1, zo_push (.inl 1) 2),
  (2, zo_vir 11 2 (zo_calli (f_X11_pactsBehind) 2 5)),
  (5, zo_aload 0 6),
  (6, zo_push (.inl 0) 7),
  (7, zo_vir 11 2 (zo_calli (f_X11_pactsBehind) 2 10)),
  (10, zo_cle 17 13),
  (13, zo_push (.inl 1) 14),
  (14, zo_goto 18),
  (17, zo_push (.inl 0) 18),
  (18, zo_iret)]
noncomputable def p_X11_soonest : Nat → zO := zgs [(19, p_X11_soonest_0)]
theorem t_X11_soonest : ∀ k, zTl (p_X11_soonest k) := fun k => zgs_all (c := [(19, p_X11_soonest_0)]) (fun _ => zl_bad) ⟨⟨zl_aload, zl_push, (zl_vir zl_calli), zl_aload, zl_push, (zl_vir zl_calli), zl_cle, zl_push, zl_goto, zl_push, zl_iret, trivial⟩, trivial⟩ k
noncomputable def f_X11_soonest : zS := zrun p_X11_soonest 1
set_option maxRecDepth 20000 in
theorem s_X11_soonest_0 {l : Launch} {D : va_G} {ad : Nat → Nat → Nat} {cy : Nat → ClassId} {L : List (Nat × Nat)} (hcl : zclo L = true) (hinj : zAd ad L) {X : zCtx} (hX : zXok X "SoapTreaty" prog_1_method_23_code 1) (hR : zRt X (some .int)) (hl : zXl X l D ad cy L (zroom 8)) : zAllR (zSo X) p_X11_soonest_0 := ⟨zs_aload_n (i := 0) rfl hX (by decide +kernel : decode prog_1_method_23_code 0 = .ok (.aload_n 0, 1)) rfl (by decide),
  zs_pushI (zg_iconst (by decide) hX (by decide +kernel : decode prog_1_method_23_code 1 = .ok (.iconst 1, 1)) rfl),
  zs_callVi hX zMV_11_232 (zXc_of hl (by decide) (k_X11_pactsBehind hcl hinj)) (by decide +kernel : decode prog_1_method_23_code 2 = .ok (.invokevirtual 232, 3)) rfl,
  zs_aload_n (i := 0) rfl hX (by decide +kernel : decode prog_1_method_23_code 5 = .ok (.aload_n 0, 1)) rfl (by decide),
  zs_pushI (zg_iconst (by decide) hX (by decide +kernel : decode prog_1_method_23_code 6 = .ok (.iconst 0, 1)) rfl),
  zs_callVi hX zMV_11_232 (zXc_of hl (by decide) (k_X11_pactsBehind hcl hinj)) (by decide +kernel : decode prog_1_method_23_code 7 = .ok (.invokevirtual 232, 3)) rfl,
  zs_cle hX (by decide +kernel : decode prog_1_method_23_code 10 = .ok (.if_icmp .le 7, 3)) (by decide) rfl,
  zs_pushI (zg_iconst (by decide) hX (by decide +kernel : decode prog_1_method_23_code 13 = .ok (.iconst 1, 1)) rfl),
  zs_goto hX (by decide +kernel : decode prog_1_method_23_code 14 = .ok (.goto 4, 3)) (by decide),
  zs_pushI (zg_iconst (by decide) hX (by decide +kernel : decode prog_1_method_23_code 17 = .ok (.iconst 0, 1)) rfl),
  zs_iret hX hR (by decide +kernel : decode prog_1_method_23_code 18 = .ok (.ireturn, 1)), trivial⟩
theorem k_X11_soonest {l : Launch} {D : va_G} {ad : Nat → Nat → Nat} {cy : Nat → ClassId} {L : List (Nat × Nat)} (hcl : zclo L = true) (hinj : zAd ad L) : zCk l D ad cy L 8 f_X11_soonest y_X11_soonest (.code y_X11_soonest prog_1_method_23_code 1 (some .int)) :=
  z_met (by decide) t_X11_soonest hcl hinj (fun X hX hR hl k => zgs_all (Q := zSo X) (c := [(19, p_X11_soonest_0)]) (fun _ => zs_bad) ⟨s_X11_soonest_0 hcl hinj hX hR hl, trivial⟩ k)
set_option maxRecDepth 1000000 in
theorem e_X11_soonest_0 (h : zH) : zL p_X11_soonest 0 [some (.inr (.inr (11, 0)))] [] h = zci (f_X11_pactsBehind [(.inr (.inr (11, 0))), (.inl 1)] h) (fun r2 h1 => zci (f_X11_pactsBehind [(.inr (.inr (11, 0))), (.inl 0)] h1) (fun r4 h3 => zf (r4 < r2) (some (some (.inl 1), h3)) (some (some (.inl 0), h3)))) := (zL_s (t_X11_soonest) [0] 1000 0 _ _ _).trans rfl
theorem g_X11_soonest (h : zH) : f_X11_soonest [(.inr (.inr (11, 0)))] h = zci (f_X11_pactsBehind [(.inr (.inr (11, 0))), (.inl 1)] h) (fun r2 h1 => zci (f_X11_pactsBehind [(.inr (.inr (11, 0))), (.inl 0)] h1) (fun r4 h3 => zf (r4 < r2) (some (some (.inl 1), h3)) (some (some (.inl 0), h3)))) := (show f_X11_soonest _ h = zL p_X11_soonest 0 _ [] h from rfl).trans (e_X11_soonest_0 h)
/-! SoapTreaty.blocs()I -/
def y_X11_blocs : MethodName := ⟨"SoapTreaty", "blocs", "()I"⟩
noncomputable def p_X11_blocs_0 : List (Nat × zO) := [(0, zo_push (.inl 0) 1),
  (1, zo_istore 1 2),
  (2, zo_push (.inl 0) 3),
  (3, zo_istore 2 4),
  (4, zo_push (.inl 0) 5),
  (5, zo_istore 3 6),
  (6, zo_iload 3 7),
  (7, zo_aload 0 8),
  (8, zo_getR 11 0 (some 0) 11),
  (11, zo_getI 0 0 14),
  (14, zo_cge 48 17),
  (17, zo_iload 1 18),
  (18, zo_iload 3 19),
  (19, zo_ii (fun x y => x >>> (y &&& 31)) 20),
  (20, zo_push (.inl 1) 21),
  (21, zo_ii (fun x y => x &&& y) 22),
  (22, zo_0ne 42 25),
  (25, zo_iinc 2 1 28),
  (28, zo_iload 1 29),
  (29, zo_aload 0 30)]
noncomputable def p_X11_blocs_1 : List (Nat × zO) := [(30, zo_getR 11 4 (some 0) 33),
  (33, zo_getR 4 8 none 36),
  (36, zo_iload 3 37),
  (37, zo_vir 8 2 (zo_calli (f_X8_blocOf) 2 40)),
  (40, zo_ii (fun x y => x ||| y) 41),
  (41, zo_istore 1 42),
  (42, zo_iinc 3 1 45),
  (45, zo_goto 6),
  (48, zo_iload 2 49),
  (49, zo_iret)]
noncomputable def p_X11_blocs : Nat → zO := zgs [(30, p_X11_blocs_0), (50, p_X11_blocs_1)]
theorem t_X11_blocs : ∀ k, zTl (p_X11_blocs k) := fun k => zgs_all (c := [(30, p_X11_blocs_0), (50, p_X11_blocs_1)]) (fun _ => zl_bad) ⟨⟨zl_push, zl_istore, zl_push, zl_istore, zl_push, zl_istore, zl_iload, zl_aload, zl_getR, zl_getI, zl_cge, zl_iload, zl_iload, zl_ii, zl_push, zl_ii, zl_0ne, zl_iinc, zl_iload, zl_aload, trivial⟩, ⟨zl_getR, zl_getR, zl_iload, (zl_vir zl_calli), zl_ii, zl_istore, zl_iinc, zl_goto, zl_iload, zl_iret, trivial⟩, trivial⟩ k
noncomputable def f_X11_blocs : zS := zrun p_X11_blocs 4
set_option maxRecDepth 20000 in
theorem s_X11_blocs_0 {l : Launch} {D : va_G} {ad : Nat → Nat → Nat} {cy : Nat → ClassId} {L : List (Nat × Nat)} (hcl : zclo L = true) (hinj : zAd ad L) {X : zCtx} (hX : zXok X "SoapTreaty" prog_1_method_24_code 4) (hR : zRt X (some .int)) (hl : zXl X l D ad cy L (zroom 6)) : zAllR (zSo X) p_X11_blocs_0 := ⟨zs_pushI (zg_iconst (by decide) hX (by decide +kernel : decode prog_1_method_24_code 0 = .ok (.iconst 0, 1)) rfl),
  zs_istore_n (i := 1) rfl hX (by decide +kernel : decode prog_1_method_24_code 1 = .ok (.istore_n 1, 1)) rfl (by decide),
  zs_pushI (zg_iconst (by decide) hX (by decide +kernel : decode prog_1_method_24_code 2 = .ok (.iconst 0, 1)) rfl),
  zs_istore_n (i := 2) rfl hX (by decide +kernel : decode prog_1_method_24_code 3 = .ok (.istore_n 2, 1)) rfl (by decide),
  zs_pushI (zg_iconst (by decide) hX (by decide +kernel : decode prog_1_method_24_code 4 = .ok (.iconst 0, 1)) rfl),
  zs_istore_n (i := 3) rfl hX (by decide +kernel : decode prog_1_method_24_code 5 = .ok (.istore_n 3, 1)) rfl (by decide),
  zs_iload_n (i := 3) rfl hX (by decide +kernel : decode prog_1_method_24_code 6 = .ok (.iload_n 3, 1)) rfl (by decide),
  zs_aload_n (i := 0) rfl hX (by decide +kernel : decode prog_1_method_24_code 7 = .ok (.aload_n 0, 1)) rfl (by decide),
  zs_getR hX zFL_11_19 (by decide +kernel : decode prog_1_method_24_code 8 = .ok (.getfield 19, 3)) rfl,
  zs_getI hX zFL_11_220 (by decide) (by decide) (by decide +kernel : decode prog_1_method_24_code 11 = .ok (.getfield 220, 3)) rfl,
  zs_cge hX (by decide +kernel : decode prog_1_method_24_code 14 = .ok (.if_icmp .ge 34, 3)) (by decide) rfl,
  zs_iload_n (i := 1) rfl hX (by decide +kernel : decode prog_1_method_24_code 17 = .ok (.iload_n 1, 1)) rfl (by decide),
  zs_iload_n (i := 3) rfl hX (by decide +kernel : decode prog_1_method_24_code 18 = .ok (.iload_n 3, 1)) rfl (by decide),
  zs_ii (zg_ishr hX (by decide +kernel : decode prog_1_method_24_code 19 = .ok (.ishr, 1)) rfl),
  zs_pushI (zg_iconst (by decide) hX (by decide +kernel : decode prog_1_method_24_code 20 = .ok (.iconst 1, 1)) rfl),
  zs_ii (zg_iand hX (by decide +kernel : decode prog_1_method_24_code 21 = .ok (.iand, 1)) rfl),
  zs_0ne hX (by decide +kernel : decode prog_1_method_24_code 22 = .ok (.ifCond .ne 20, 3)) (by decide) rfl,
  zs_iinc hX (by decide +kernel : decode prog_1_method_24_code 25 = .ok (.iinc 2 1, 3)) (by decide) rfl (by decide),
  zs_iload_n (i := 1) rfl hX (by decide +kernel : decode prog_1_method_24_code 28 = .ok (.iload_n 1, 1)) rfl (by decide),
  zs_aload_n (i := 0) rfl hX (by decide +kernel : decode prog_1_method_24_code 29 = .ok (.aload_n 0, 1)) rfl (by decide), trivial⟩
set_option maxRecDepth 20000 in
theorem s_X11_blocs_1 {l : Launch} {D : va_G} {ad : Nat → Nat → Nat} {cy : Nat → ClassId} {L : List (Nat × Nat)} (hcl : zclo L = true) (hinj : zAd ad L) {X : zCtx} (hX : zXok X "SoapTreaty" prog_1_method_24_code 4) (hR : zRt X (some .int)) (hl : zXl X l D ad cy L (zroom 6)) : zAllR (zSo X) p_X11_blocs_1 := ⟨zs_getR hX zFL_11_37 (by decide +kernel : decode prog_1_method_24_code 30 = .ok (.getfield 37, 3)) rfl,
  zs_getR hX zFL_11_115 (by decide +kernel : decode prog_1_method_24_code 33 = .ok (.getfield 115, 3)) rfl,
  zs_iload_n (i := 3) rfl hX (by decide +kernel : decode prog_1_method_24_code 36 = .ok (.iload_n 3, 1)) rfl (by decide),
  zs_callVi hX zMV_11_139 (zXc_of hl (by decide) (k_X8_blocOf hcl hinj)) (by decide +kernel : decode prog_1_method_24_code 37 = .ok (.invokevirtual 139, 3)) rfl,
  zs_ii (zg_ior hX (by decide +kernel : decode prog_1_method_24_code 40 = .ok (.ior, 1)) rfl),
  zs_istore_n (i := 1) rfl hX (by decide +kernel : decode prog_1_method_24_code 41 = .ok (.istore_n 1, 1)) rfl (by decide),
  zs_iinc hX (by decide +kernel : decode prog_1_method_24_code 42 = .ok (.iinc 3 1, 3)) (by decide) rfl (by decide),
  zs_goto hX (by decide +kernel : decode prog_1_method_24_code 45 = .ok (.goto (-39), 3)) (by decide),
  zs_iload_n (i := 2) rfl hX (by decide +kernel : decode prog_1_method_24_code 48 = .ok (.iload_n 2, 1)) rfl (by decide),
  zs_iret hX hR (by decide +kernel : decode prog_1_method_24_code 49 = .ok (.ireturn, 1)), trivial⟩
theorem k_X11_blocs {l : Launch} {D : va_G} {ad : Nat → Nat → Nat} {cy : Nat → ClassId} {L : List (Nat × Nat)} (hcl : zclo L = true) (hinj : zAd ad L) : zCk l D ad cy L 6 f_X11_blocs y_X11_blocs (.code y_X11_blocs prog_1_method_24_code 4 (some .int)) :=
  z_met (by decide) t_X11_blocs hcl hinj (fun X hX hR hl k => zgs_all (Q := zSo X) (c := [(30, p_X11_blocs_0), (50, p_X11_blocs_1)]) (fun _ => zs_bad) ⟨s_X11_blocs_0 hcl hinj hX hR hl, s_X11_blocs_1 hcl hinj hX hR hl, trivial⟩ k)
set_option maxRecDepth 1000000 in
theorem e_X11_blocs_0 (h : zH) : zL p_X11_blocs 0 [some (.inr (.inr (11, 0))), none, none, none] [] h = zL p_X11_blocs 6 [some (.inr (.inr (11, 0))), some (.inl 0), some (.inl 0), some (.inl 0)] [] h := (zL_s (t_X11_blocs) [0, 6] 1000 0 _ _ _).trans rfl
theorem g_X11_blocs (h : zH) : f_X11_blocs [(.inr (.inr (11, 0)))] h = zL p_X11_blocs 6 [some (.inr (.inr (11, 0))), some (.inl 0), some (.inl 0), some (.inl 0)] [] h := (show f_X11_blocs _ h = zL p_X11_blocs 0 _ [] h from rfl).trans (e_X11_blocs_0 h)
set_option maxRecDepth 1000000 in
theorem e_X11_blocs_6 (x1 : Int32) (x2 : Int32) (x3 : Int32) (h : zH) : zL p_X11_blocs 6 [some (.inr (.inr (11, 0))), some (.inl x1), some (.inl x2), some (.inl x3)] [] h = zf (x3 < (h.1 0 0 0)) (zf (((x1 >>> (x3 &&& 31)) &&& (1 : Int32)) = 0) (zci (f_X8_blocOf [(.inr (.inr (8, 0))), (.inl x3)] h) (fun r2 h1 => zL p_X11_blocs 6 [some (.inr (.inr (11, 0))), some (.inl (x1 ||| r2)), some (.inl (x2 + 1)), some (.inl (x3 + 1))] [] h1)) (zL p_X11_blocs 6 [some (.inr (.inr (11, 0))), some (.inl x1), some (.inl x2), some (.inl (x3 + 1))] [] h)) (some (some (.inl x2), h)) := (zL_s (t_X11_blocs) [0, 6] 1000 6 _ _ _).trans rfl
/-! SoapTreaty.devoted()I -/
def y_X11_devoted : MethodName := ⟨"SoapTreaty", "devoted", "()I"⟩
noncomputable def p_X11_devoted_0 : List (Nat × zO) := [(0, zo_aload 0 1),
  (1, zo_getR 11 4 (some 0) 4),
  (4, zo_getR 4 8 none 7),
  (7, zo_astore 1 8),
  (8, zo_push (.inl 0) 9),
  (9, zo_istore 2 10),
  (10, zo_push (.inl zm1) 11),
  (11, zo_istore 3 12),
  (12, zo_push (.inl 0) 13),
  (13, zo_istore 4 15),
  (15, zo_kill [5] (zo_iload 4 17)),
  (17, zo_aload 0 18),
  (18, zo_getR 11 0 (some 0) 21),
  (21, zo_getI 0 0 24),
  (24, zo_cge 61 27),
  (27, zo_aload 1 28),
  (28, zo_iload 4 30),
  (30, zo_vir 8 2 (zo_calli (f_X8_cakesOf) 2 33)),
  (33, zo_aload 1 34),
  (34, zo_vir 8 1 (zo_calli (f_X8_slivers) 1 37))]
noncomputable def p_X11_devoted_1 : List (Nat × zO) := [(37, zo_ii (fun x y => x &&& y) 38),
  (38, zo_calli (f_J6_bitCount) 1 41),
  (41, zo_istore 5 43),
  (43, zo_iload 5 45),
  (45, zo_iload 2 46),
  (46, zo_cle 55 49),
  (49, zo_iload 5 51),
  (51, zo_istore 2 52),
  (52, zo_iload 4 54),
  (54, zo_istore 3 55),
  (55, zo_iinc 4 1 58),
  (58, zo_goto 15),
  (61, zo_iload 3 62),
  (62, zo_iret)]
noncomputable def p_X11_devoted : Nat → zO := zgs [(35, p_X11_devoted_0), (63, p_X11_devoted_1)]
theorem t_X11_devoted : ∀ k, zTl (p_X11_devoted k) := fun k => zgs_all (c := [(35, p_X11_devoted_0), (63, p_X11_devoted_1)]) (fun _ => zl_bad) ⟨⟨zl_aload, zl_getR, zl_getR, zl_astore, zl_push, zl_istore, zl_push, zl_istore, zl_push, zl_istore, (zl_kill zl_iload), zl_aload, zl_getR, zl_getI, zl_cge, zl_aload, zl_iload, (zl_vir zl_calli), zl_aload, (zl_vir zl_calli), trivial⟩, ⟨zl_ii, zl_calli, zl_istore, zl_iload, zl_iload, zl_cle, zl_iload, zl_istore, zl_iload, zl_istore, zl_iinc, zl_goto, zl_iload, zl_iret, trivial⟩, trivial⟩ k
noncomputable def f_X11_devoted : zS := zrun p_X11_devoted 6
set_option maxRecDepth 20000 in
theorem s_X11_devoted_0 {l : Launch} {D : va_G} {ad : Nat → Nat → Nat} {cy : Nat → ClassId} {L : List (Nat × Nat)} (hcl : zclo L = true) (hinj : zAd ad L) {X : zCtx} (hX : zXok X "SoapTreaty" prog_1_method_25_code 6) (hR : zRt X (some .int)) (hl : zXl X l D ad cy L (zroom 2)) : zAllR (zSo X) p_X11_devoted_0 := ⟨zs_aload_n (i := 0) rfl hX (by decide +kernel : decode prog_1_method_25_code 0 = .ok (.aload_n 0, 1)) rfl (by decide),
  zs_getR hX zFL_11_37 (by decide +kernel : decode prog_1_method_25_code 1 = .ok (.getfield 37, 3)) rfl,
  zs_getR hX zFL_11_115 (by decide +kernel : decode prog_1_method_25_code 4 = .ok (.getfield 115, 3)) rfl,
  zs_astore_n (i := 1) rfl hX (by decide +kernel : decode prog_1_method_25_code 7 = .ok (.astore_n 1, 1)) rfl (by decide),
  zs_pushI (zg_iconst (by decide) hX (by decide +kernel : decode prog_1_method_25_code 8 = .ok (.iconst 0, 1)) rfl),
  zs_istore_n (i := 2) rfl hX (by decide +kernel : decode prog_1_method_25_code 9 = .ok (.istore_n 2, 1)) rfl (by decide),
  zs_pushI (zg_iconst (by decide) hX (by decide +kernel : decode prog_1_method_25_code 10 = .ok (.iconst (-1), 1)) rfl),
  zs_istore_n (i := 3) rfl hX (by decide +kernel : decode prog_1_method_25_code 11 = .ok (.istore_n 3, 1)) rfl (by decide),
  zs_pushI (zg_iconst (by decide) hX (by decide +kernel : decode prog_1_method_25_code 12 = .ok (.iconst 0, 1)) rfl),
  zs_istore hX (by decide +kernel : decode prog_1_method_25_code 13 = .ok (.istore 4, 2)) rfl (by decide),
  zs_kill hX (by decide) (zs_iload hX (by decide +kernel : decode prog_1_method_25_code 15 = .ok (.iload 4, 2)) rfl (by decide)),
  zs_aload_n (i := 0) rfl hX (by decide +kernel : decode prog_1_method_25_code 17 = .ok (.aload_n 0, 1)) rfl (by decide),
  zs_getR hX zFL_11_19 (by decide +kernel : decode prog_1_method_25_code 18 = .ok (.getfield 19, 3)) rfl,
  zs_getI hX zFL_11_220 (by decide) (by decide) (by decide +kernel : decode prog_1_method_25_code 21 = .ok (.getfield 220, 3)) rfl,
  zs_cge hX (by decide +kernel : decode prog_1_method_25_code 24 = .ok (.if_icmp .ge 37, 3)) (by decide) rfl,
  zs_aload_n (i := 1) rfl hX (by decide +kernel : decode prog_1_method_25_code 27 = .ok (.aload_n 1, 1)) rfl (by decide),
  zs_iload hX (by decide +kernel : decode prog_1_method_25_code 28 = .ok (.iload 4, 2)) rfl (by decide),
  zs_callVi hX zMV_11_125 (zXc_of hl (by decide) (k_X8_cakesOf hcl hinj)) (by decide +kernel : decode prog_1_method_25_code 30 = .ok (.invokevirtual 125, 3)) rfl,
  zs_aload_n (i := 1) rfl hX (by decide +kernel : decode prog_1_method_25_code 33 = .ok (.aload_n 1, 1)) rfl (by decide),
  zs_callVi hX zMV_11_128 (zXc_of hl (by decide) (k_X8_slivers hcl hinj)) (by decide +kernel : decode prog_1_method_25_code 34 = .ok (.invokevirtual 128, 3)) rfl, trivial⟩
set_option maxRecDepth 20000 in
theorem s_X11_devoted_1 {l : Launch} {D : va_G} {ad : Nat → Nat → Nat} {cy : Nat → ClassId} {L : List (Nat × Nat)} (hcl : zclo L = true) (hinj : zAd ad L) {X : zCtx} (hX : zXok X "SoapTreaty" prog_1_method_25_code 6) (hR : zRt X (some .int)) (hl : zXl X l D ad cy L (zroom 2)) : zAllR (zSo X) p_X11_devoted_1 := ⟨zs_ii (zg_iand hX (by decide +kernel : decode prog_1_method_25_code 37 = .ok (.iand, 1)) rfl),
  zs_callSi hX zMS_11_131 (zXc_of hl (by decide) (k_J6_bitCount hcl hinj)) (by decide +kernel : decode prog_1_method_25_code 38 = .ok (.invokestatic 131, 3)) rfl,
  zs_istore hX (by decide +kernel : decode prog_1_method_25_code 41 = .ok (.istore 5, 2)) rfl (by decide),
  zs_iload hX (by decide +kernel : decode prog_1_method_25_code 43 = .ok (.iload 5, 2)) rfl (by decide),
  zs_iload_n (i := 2) rfl hX (by decide +kernel : decode prog_1_method_25_code 45 = .ok (.iload_n 2, 1)) rfl (by decide),
  zs_cle hX (by decide +kernel : decode prog_1_method_25_code 46 = .ok (.if_icmp .le 9, 3)) (by decide) rfl,
  zs_iload hX (by decide +kernel : decode prog_1_method_25_code 49 = .ok (.iload 5, 2)) rfl (by decide),
  zs_istore_n (i := 2) rfl hX (by decide +kernel : decode prog_1_method_25_code 51 = .ok (.istore_n 2, 1)) rfl (by decide),
  zs_iload hX (by decide +kernel : decode prog_1_method_25_code 52 = .ok (.iload 4, 2)) rfl (by decide),
  zs_istore_n (i := 3) rfl hX (by decide +kernel : decode prog_1_method_25_code 54 = .ok (.istore_n 3, 1)) rfl (by decide),
  zs_iinc hX (by decide +kernel : decode prog_1_method_25_code 55 = .ok (.iinc 4 1, 3)) (by decide) rfl (by decide),
  zs_goto hX (by decide +kernel : decode prog_1_method_25_code 58 = .ok (.goto (-43), 3)) (by decide),
  zs_iload_n (i := 3) rfl hX (by decide +kernel : decode prog_1_method_25_code 61 = .ok (.iload_n 3, 1)) rfl (by decide),
  zs_iret hX hR (by decide +kernel : decode prog_1_method_25_code 62 = .ok (.ireturn, 1)), trivial⟩
theorem k_X11_devoted {l : Launch} {D : va_G} {ad : Nat → Nat → Nat} {cy : Nat → ClassId} {L : List (Nat × Nat)} (hcl : zclo L = true) (hinj : zAd ad L) : zCk l D ad cy L 2 f_X11_devoted y_X11_devoted (.code y_X11_devoted prog_1_method_25_code 6 (some .int)) :=
  z_met (by decide) t_X11_devoted hcl hinj (fun X hX hR hl k => zgs_all (Q := zSo X) (c := [(35, p_X11_devoted_0), (63, p_X11_devoted_1)]) (fun _ => zs_bad) ⟨s_X11_devoted_0 hcl hinj hX hR hl, s_X11_devoted_1 hcl hinj hX hR hl, trivial⟩ k)
set_option maxRecDepth 1000000 in
theorem e_X11_devoted_0 (h : zH) : zL p_X11_devoted 0 [some (.inr (.inr (11, 0))), none, none, none, none, none] [] h = zL p_X11_devoted 15 [some (.inr (.inr (11, 0))), some (.inr (.inr (8, 0))), some (.inl 0), some (.inl zm1), some (.inl 0), none] [] h := (zL_s (t_X11_devoted) [0, 15] 1000 0 _ _ _).trans rfl
theorem g_X11_devoted (h : zH) : f_X11_devoted [(.inr (.inr (11, 0)))] h = zL p_X11_devoted 15 [some (.inr (.inr (11, 0))), some (.inr (.inr (8, 0))), some (.inl 0), some (.inl zm1), some (.inl 0), none] [] h := (show f_X11_devoted _ h = zL p_X11_devoted 0 _ [] h from rfl).trans (e_X11_devoted_0 h)
set_option maxRecDepth 1000000 in
theorem e_X11_devoted_15 (jx1 : Nat) (x2 : Int32) (x3 : Int32) (x4 : Int32) (o5 : Option zV) (h : zH) : zL p_X11_devoted 15 [some (.inr (.inr (11, 0))), some (.inr (.inr (8, jx1))), some (.inl x2), some (.inl x3), some (.inl x4), o5] [] h = zf (x4 < (h.1 0 0 0)) (zci (f_X8_cakesOf [(.inr (.inr (8, jx1))), (.inl x4)] h) (fun r2 h1 => zci (f_X8_slivers [(.inr (.inr (8, jx1)))] h1) (fun r4 h3 => zci (f_J6_bitCount [(.inl (r2 &&& r4))] h3) (fun r6 h5 => zf (x2 < r6) (zL p_X11_devoted 15 [some (.inr (.inr (11, 0))), some (.inr (.inr (8, jx1))), some (.inl r6), some (.inl x4), some (.inl (x4 + 1)), some (.inl r6)] [] h5) (zL p_X11_devoted 15 [some (.inr (.inr (11, 0))), some (.inr (.inr (8, jx1))), some (.inl x2), some (.inl x3), some (.inl (x4 + 1)), some (.inl r6)] [] h5))))) (some (some (.inl x3), h)) := (zL_s (t_X11_devoted) [0, 15] 1000 15 _ _ _).trans rfl
/-! SoapTreaty.isSightFar(I)Z -/
def y_X11_isSightFar : MethodName := ⟨"SoapTreaty", "isSightFar", "(I)Z"⟩
noncomputable def p_X11_isSightFar_0 : List (Nat × zO) := [(0, zo_iload 0 1),
  (1, zo_push (.inl 1) 2),
  (2, zo_clt 15 5),
  (5, zo_iload 0 6),
  (6, zo_push (.inl 20) 8),
  (8, zo_cgt 15 11),
  (11, zo_push (.inl 1) 12),
  (12, zo_goto 16),
  (15, zo_push (.inl 0) 16),
  (16, zo_zretc)]
noncomputable def p_X11_isSightFar : Nat → zO := zgs [(17, p_X11_isSightFar_0)]
theorem t_X11_isSightFar : ∀ k, zTl (p_X11_isSightFar k) := fun k => zgs_all (c := [(17, p_X11_isSightFar_0)]) (fun _ => zl_bad) ⟨⟨zl_iload, zl_push, zl_clt, zl_iload, zl_push, zl_cgt, zl_push, zl_goto, zl_push, zl_zretc, trivial⟩, trivial⟩ k
noncomputable def f_X11_isSightFar : zS := zrun p_X11_isSightFar 1
set_option maxRecDepth 20000 in
theorem s_X11_isSightFar_0 {l : Launch} {D : va_G} {ad : Nat → Nat → Nat} {cy : Nat → ClassId} {L : List (Nat × Nat)} (hcl : zclo L = true) (hinj : zAd ad L) {X : zCtx} (hX : zXok X "SoapTreaty" prog_1_method_37_code 1) (hR : zRt X (some .boolean)) (hl : zXl X l D ad cy L (zroom 1)) : zAllR (zSo X) p_X11_isSightFar_0 := ⟨zs_iload_n (i := 0) rfl hX (by decide +kernel : decode prog_1_method_37_code 0 = .ok (.iload_n 0, 1)) rfl (by decide),
  zs_pushI (zg_iconst (by decide) hX (by decide +kernel : decode prog_1_method_37_code 1 = .ok (.iconst 1, 1)) rfl),
  zs_clt hX (by decide +kernel : decode prog_1_method_37_code 2 = .ok (.if_icmp .lt 13, 3)) (by decide) rfl,
  zs_iload_n (i := 0) rfl hX (by decide +kernel : decode prog_1_method_37_code 5 = .ok (.iload_n 0, 1)) rfl (by decide),
  zs_pushI (zg_bipush (by decide) hX (by decide +kernel : decode prog_1_method_37_code 6 = .ok (.bipush 20, 2)) rfl),
  zs_cgt hX (by decide +kernel : decode prog_1_method_37_code 8 = .ok (.if_icmp .gt 7, 3)) (by decide) rfl,
  zs_pushI (zg_iconst (by decide) hX (by decide +kernel : decode prog_1_method_37_code 11 = .ok (.iconst 1, 1)) rfl),
  zs_goto hX (by decide +kernel : decode prog_1_method_37_code 12 = .ok (.goto 4, 3)) (by decide),
  zs_pushI (zg_iconst (by decide) hX (by decide +kernel : decode prog_1_method_37_code 15 = .ok (.iconst 0, 1)) rfl),
  zs_zretc hX hR (by decide +kernel : decode prog_1_method_37_code 16 = .ok (.ireturn, 1)), trivial⟩
theorem k_X11_isSightFar {l : Launch} {D : va_G} {ad : Nat → Nat → Nat} {cy : Nat → ClassId} {L : List (Nat × Nat)} (hcl : zclo L = true) (hinj : zAd ad L) : zCk l D ad cy L 1 f_X11_isSightFar y_X11_isSightFar (.code y_X11_isSightFar prog_1_method_37_code 1 (some .boolean)) :=
  z_met (by decide) t_X11_isSightFar hcl hinj (fun X hX hR hl k => zgs_all (Q := zSo X) (c := [(17, p_X11_isSightFar_0)]) (fun _ => zs_bad) ⟨s_X11_isSightFar_0 hcl hinj hX hR hl, trivial⟩ k)
set_option maxRecDepth 1000000 in
theorem e_X11_isSightFar_0 (x0 : Int32) (h : zH) : zL p_X11_isSightFar 0 [some (.inl x0)] [] h = zf (x0 < 1) (some (some (.inl 0), h)) (zf (20 < x0) (some (some (.inl 0), h)) (some (some (.inl 1), h))) := (zL_s (t_X11_isSightFar) [0] 1000 0 _ _ _).trans rfl
theorem g_X11_isSightFar (x0 : Int32) (h : zH) : f_X11_isSightFar [(.inl x0)] h = zf (x0 < 1) (some (some (.inl 0), h)) (zf (20 < x0) (some (some (.inl 0), h)) (some (some (.inl 1), h))) := (show f_X11_isSightFar _ h = zL p_X11_isSightFar 0 _ [] h from rfl).trans (e_X11_isSightFar_0 x0 h)
