theorem zMS_10_71 : zMS "SoapTreaty$Tokens" 71 y_X10_isDigit prog_12_method_9_code 1 (some .boolean) 1 := ⟨⟨zT_of 587 (by decide +kernel) (by decide +kernel), zT_of 588 (by decide +kernel) (by decide +kernel), zT_of 108 (by decide +kernel) (by decide +kernel), zT_of 589 (by decide +kernel) (by decide +kernel)⟩, by decide, by decide, by decide, by decide +kernel⟩
/-! SoapTreaty$Tokens.stepNumber()V -/
def y_X10_stepNumber : MethodName := ⟨"SoapTreaty$Tokens", "stepNumber", "()V"⟩
noncomputable def p_X10_stepNumber_0 : List (Nat × zO) := [(0, zo_aload 0 1),
  (1, zo_push (.inl 0) 2),
  (2, zo_putI 10 5 5),
  (5, zo_aload 0 6),
  (6, zo_getI 10 2 9),
  (9, zo_aload 0 10),
  (10, zo_getR 10 9 none 13),
  (13, zo_getI 9 1 16),
  (16, zo_cge 75 19),
  (19, zo_aload 0 20),
  (20, zo_getR 10 9 none 23),
  (23, zo_aload 0 24),
  (24, zo_getI 10 2 27),
  (27, zo_vir 9 2 (zo_calli (f_X9_signAt) 2 30)),
  (30, zo_calli (f_X10_isDigit) 1 33),
  (33, zo_0eq 75 36),
  (36, zo_aload 0 37),
  (37, zo_aload 0 38),
  (38, zo_getI 10 5 41),
  (41, zo_push (.inl 10) 43)]
noncomputable def p_X10_stepNumber_1 : List (Nat × zO) := [(43, zo_ii (fun x y => x * y) 44),
  (44, zo_aload 0 45),
  (45, zo_getR 10 9 none 48),
  (48, zo_aload 0 49),
  (49, zo_getI 10 2 52),
  (52, zo_vir 9 2 (zo_calli (f_X9_signAt) 2 55)),
  (55, zo_push (.inl 48) 57),
  (57, zo_ii (fun x y => x - y) 58),
  (58, zo_ii (fun x y => x + y) 59),
  (59, zo_putI 10 5 62),
  (62, zo_aload 0 63),
  (63, zo_dup 64),
  (64, zo_getI 10 2 67),
  (67, zo_push (.inl 1) 68),
  (68, zo_ii (fun x y => x + y) 69),
  (69, zo_putI 10 2 72),
  (72, zo_goto 5),
  (75, zo_aload 0 76),
  (76, zo_aload 0 77),
  (77, zo_getI 10 2 80)]
noncomputable def p_X10_stepNumber_2 : List (Nat × zO) := [(80, zo_aload 0 81),
  (81, zo_getI 10 4 84),
  (84, zo_ii (fun x y => x - y) 85),
  (85, zo_push (.inl 4) 86),
  (86, zo_cgt 93 89),
  (89, zo_push (.inl 3) 90),
  (90, zo_goto 94),
  (93, zo_push (.inl 1) 94),
  (94, zo_putI 10 3 97),
  (97, zo_ret)]
noncomputable def p_X10_stepNumber : Nat → zO := zgs [(42, p_X10_stepNumber_0), (78, p_X10_stepNumber_1), (98, p_X10_stepNumber_2)]
theorem t_X10_stepNumber : ∀ k, zTl (p_X10_stepNumber k) := fun k => zgs_all (c := [(42, p_X10_stepNumber_0), (78, p_X10_stepNumber_1), (98, p_X10_stepNumber_2)]) (fun _ => zl_bad) ⟨⟨zl_aload, zl_push, zl_putI, zl_aload, zl_getI, zl_aload, zl_getR, zl_getI, zl_cge, zl_aload, zl_getR, zl_aload, zl_getI, (zl_vir zl_calli), zl_calli, zl_0eq, zl_aload, zl_aload, zl_getI, zl_push, trivial⟩, ⟨zl_ii, zl_aload, zl_getR, zl_aload, zl_getI, (zl_vir zl_calli), zl_push, zl_ii, zl_ii, zl_putI, zl_aload, zl_dup, zl_getI, zl_push, zl_ii, zl_putI, zl_goto, zl_aload, zl_aload, zl_getI, trivial⟩, ⟨zl_aload, zl_getI, zl_ii, zl_push, zl_cgt, zl_push, zl_goto, zl_push, zl_putI, zl_ret, trivial⟩, trivial⟩ k
noncomputable def f_X10_stepNumber : zS := zrun p_X10_stepNumber 1
set_option maxRecDepth 20000 in
theorem s_X10_stepNumber_0 {l : Launch} {D : va_G} {ad : Nat → Nat → Nat} {cy : Nat → ClassId} {L : List (Nat × Nat)} (hcl : zclo L = true) (hinj : zAd ad L) {X : zCtx} (hX : zXok X "SoapTreaty$Tokens" prog_12_method_6_code 1) (hR : zRt X none) (hl : zXl X l D ad cy L (zroom 2)) : zAllR (zSo X) p_X10_stepNumber_0 := ⟨zs_aload_n (i := 0) rfl hX (by decide +kernel : decode prog_12_method_6_code 0 = .ok (.aload_n 0, 1)) rfl (by decide),
  zs_pushI (zg_iconst (by decide) hX (by decide +kernel : decode prog_12_method_6_code 1 = .ok (.iconst 0, 1)) rfl),
  zs_putI hX zFP_10_80 (by decide +kernel : decode prog_12_method_6_code 2 = .ok (.putfield 80, 3)) rfl,
  zs_aload_n (i := 0) rfl hX (by decide +kernel : decode prog_12_method_6_code 5 = .ok (.aload_n 0, 1)) rfl (by decide),
  zs_getI hX zFL_10_37 (by decide) (by decide) (by decide +kernel : decode prog_12_method_6_code 6 = .ok (.getfield 37, 3)) rfl,
  zs_aload_n (i := 0) rfl hX (by decide +kernel : decode prog_12_method_6_code 9 = .ok (.aload_n 0, 1)) rfl (by decide),
  zs_getR hX zFL_10_15 (by decide +kernel : decode prog_12_method_6_code 10 = .ok (.getfield 15, 3)) rfl,
  zs_getI hX zFL_10_47 (by decide) (by decide) (by decide +kernel : decode prog_12_method_6_code 13 = .ok (.getfield 47, 3)) rfl,
  zs_cge hX (by decide +kernel : decode prog_12_method_6_code 16 = .ok (.if_icmp .ge 59, 3)) (by decide) rfl,
  zs_aload_n (i := 0) rfl hX (by decide +kernel : decode prog_12_method_6_code 19 = .ok (.aload_n 0, 1)) rfl (by decide),
  zs_getR hX zFL_10_15 (by decide +kernel : decode prog_12_method_6_code 20 = .ok (.getfield 15, 3)) rfl,
  zs_aload_n (i := 0) rfl hX (by decide +kernel : decode prog_12_method_6_code 23 = .ok (.aload_n 0, 1)) rfl (by decide),
  zs_getI hX zFL_10_37 (by decide) (by decide) (by decide +kernel : decode prog_12_method_6_code 24 = .ok (.getfield 37, 3)) rfl,
  zs_callVi hX zMV_10_51 (zXc_of hl (by decide) (k_X9_signAt hcl hinj)) (by decide +kernel : decode prog_12_method_6_code 27 = .ok (.invokevirtual 51, 3)) rfl,
  zs_callSi hX zMS_10_71 (zXc_of hl (by decide) (k_X10_isDigit hcl hinj)) (by decide +kernel : decode prog_12_method_6_code 30 = .ok (.invokestatic 71, 3)) rfl,
  zs_0eq hX (by decide +kernel : decode prog_12_method_6_code 33 = .ok (.ifCond .eq 42, 3)) (by decide) rfl,
  zs_aload_n (i := 0) rfl hX (by decide +kernel : decode prog_12_method_6_code 36 = .ok (.aload_n 0, 1)) rfl (by decide),
  zs_aload_n (i := 0) rfl hX (by decide +kernel : decode prog_12_method_6_code 37 = .ok (.aload_n 0, 1)) rfl (by decide),
  zs_getI hX zFL_10_80 (by decide) (by decide) (by decide +kernel : decode prog_12_method_6_code 38 = .ok (.getfield 80, 3)) rfl,
  zs_pushI (zg_bipush (by decide) hX (by decide +kernel : decode prog_12_method_6_code 41 = .ok (.bipush 10, 2)) rfl), trivial⟩
set_option maxRecDepth 20000 in
theorem s_X10_stepNumber_1 {l : Launch} {D : va_G} {ad : Nat → Nat → Nat} {cy : Nat → ClassId} {L : List (Nat × Nat)} (hcl : zclo L = true) (hinj : zAd ad L) {X : zCtx} (hX : zXok X "SoapTreaty$Tokens" prog_12_method_6_code 1) (hR : zRt X none) (hl : zXl X l D ad cy L (zroom 2)) : zAllR (zSo X) p_X10_stepNumber_1 := ⟨zs_ii (zg_imul hX (by decide +kernel : decode prog_12_method_6_code 43 = .ok (.imul, 1)) rfl),
  zs_aload_n (i := 0) rfl hX (by decide +kernel : decode prog_12_method_6_code 44 = .ok (.aload_n 0, 1)) rfl (by decide),
  zs_getR hX zFL_10_15 (by decide +kernel : decode prog_12_method_6_code 45 = .ok (.getfield 15, 3)) rfl,
  zs_aload_n (i := 0) rfl hX (by decide +kernel : decode prog_12_method_6_code 48 = .ok (.aload_n 0, 1)) rfl (by decide),
  zs_getI hX zFL_10_37 (by decide) (by decide) (by decide +kernel : decode prog_12_method_6_code 49 = .ok (.getfield 37, 3)) rfl,
  zs_callVi hX zMV_10_51 (zXc_of hl (by decide) (k_X9_signAt hcl hinj)) (by decide +kernel : decode prog_12_method_6_code 52 = .ok (.invokevirtual 51, 3)) rfl,
  zs_pushI (zg_bipush (by decide) hX (by decide +kernel : decode prog_12_method_6_code 55 = .ok (.bipush 48, 2)) rfl),
  zs_ii (zg_isub hX (by decide +kernel : decode prog_12_method_6_code 57 = .ok (.isub, 1)) rfl),
  zs_ii (zg_iadd hX (by decide +kernel : decode prog_12_method_6_code 58 = .ok (.iadd, 1)) rfl),
  zs_putI hX zFP_10_80 (by decide +kernel : decode prog_12_method_6_code 59 = .ok (.putfield 80, 3)) rfl,
  zs_aload_n (i := 0) rfl hX (by decide +kernel : decode prog_12_method_6_code 62 = .ok (.aload_n 0, 1)) rfl (by decide),
  zs_dup hX (by decide +kernel : decode prog_12_method_6_code 63 = .ok (.dup, 1)) rfl,
  zs_getI hX zFL_10_37 (by decide) (by decide) (by decide +kernel : decode prog_12_method_6_code 64 = .ok (.getfield 37, 3)) rfl,
  zs_pushI (zg_iconst (by decide) hX (by decide +kernel : decode prog_12_method_6_code 67 = .ok (.iconst 1, 1)) rfl),
  zs_ii (zg_iadd hX (by decide +kernel : decode prog_12_method_6_code 68 = .ok (.iadd, 1)) rfl),
  zs_putI hX zFP_10_37 (by decide +kernel : decode prog_12_method_6_code 69 = .ok (.putfield 37, 3)) rfl,
  zs_goto hX (by decide +kernel : decode prog_12_method_6_code 72 = .ok (.goto (-67), 3)) (by decide),
  zs_aload_n (i := 0) rfl hX (by decide +kernel : decode prog_12_method_6_code 75 = .ok (.aload_n 0, 1)) rfl (by decide),
  zs_aload_n (i := 0) rfl hX (by decide +kernel : decode prog_12_method_6_code 76 = .ok (.aload_n 0, 1)) rfl (by decide),
  zs_getI hX zFL_10_37 (by decide) (by decide) (by decide +kernel : decode prog_12_method_6_code 77 = .ok (.getfield 37, 3)) rfl, trivial⟩
set_option maxRecDepth 20000 in
theorem s_X10_stepNumber_2 {l : Launch} {D : va_G} {ad : Nat → Nat → Nat} {cy : Nat → ClassId} {L : List (Nat × Nat)} (hcl : zclo L = true) (hinj : zAd ad L) {X : zCtx} (hX : zXok X "SoapTreaty$Tokens" prog_12_method_6_code 1) (hR : zRt X none) (hl : zXl X l D ad cy L (zroom 2)) : zAllR (zSo X) p_X10_stepNumber_2 := ⟨zs_aload_n (i := 0) rfl hX (by decide +kernel : decode prog_12_method_6_code 80 = .ok (.aload_n 0, 1)) rfl (by decide),
  zs_getI hX zFL_10_59 (by decide) (by decide) (by decide +kernel : decode prog_12_method_6_code 81 = .ok (.getfield 59, 3)) rfl,
  zs_ii (zg_isub hX (by decide +kernel : decode prog_12_method_6_code 84 = .ok (.isub, 1)) rfl),
  zs_pushI (zg_iconst (by decide) hX (by decide +kernel : decode prog_12_method_6_code 85 = .ok (.iconst 4, 1)) rfl),
  zs_cgt hX (by decide +kernel : decode prog_12_method_6_code 86 = .ok (.if_icmp .gt 7, 3)) (by decide) rfl,
  zs_pushI (zg_iconst (by decide) hX (by decide +kernel : decode prog_12_method_6_code 89 = .ok (.iconst 3, 1)) rfl),
  zs_goto hX (by decide +kernel : decode prog_12_method_6_code 90 = .ok (.goto 4, 3)) (by decide),
  zs_pushI (zg_iconst (by decide) hX (by decide +kernel : decode prog_12_method_6_code 93 = .ok (.iconst 1, 1)) rfl),
  zs_putI hX zFP_10_62 (by decide +kernel : decode prog_12_method_6_code 94 = .ok (.putfield 62, 3)) rfl,
  zs_ret hX hR (by decide +kernel : decode prog_12_method_6_code 97 = .ok (.return_, 1)), trivial⟩
theorem k_X10_stepNumber {l : Launch} {D : va_G} {ad : Nat → Nat → Nat} {cy : Nat → ClassId} {L : List (Nat × Nat)} (hcl : zclo L = true) (hinj : zAd ad L) : zCk l D ad cy L 2 f_X10_stepNumber y_X10_stepNumber (.code y_X10_stepNumber prog_12_method_6_code 1 none) :=
  z_met (by decide) t_X10_stepNumber hcl hinj (fun X hX hR hl k => zgs_all (Q := zSo X) (c := [(42, p_X10_stepNumber_0), (78, p_X10_stepNumber_1), (98, p_X10_stepNumber_2)]) (fun _ => zs_bad) ⟨s_X10_stepNumber_0 hcl hinj hX hR hl, s_X10_stepNumber_1 hcl hinj hX hR hl, s_X10_stepNumber_2 hcl hinj hX hR hl, trivial⟩ k)
set_option maxRecDepth 1000000 in
theorem e_X10_stepNumber_0 (h : zH) : zL p_X10_stepNumber 0 [some (.inr (.inr (10, 0)))] [] h = zL p_X10_stepNumber 5 [some (.inr (.inr (10, 0)))] [] (zuI h 10 0 5 0) := (zL_s (t_X10_stepNumber) [0, 5, 75] 1000 0 _ _ _).trans rfl
theorem g_X10_stepNumber (h : zH) : f_X10_stepNumber [(.inr (.inr (10, 0)))] h = zL p_X10_stepNumber 5 [some (.inr (.inr (10, 0)))] [] (zuI h 10 0 5 0) := (show f_X10_stepNumber _ h = zL p_X10_stepNumber 0 _ [] h from rfl).trans (e_X10_stepNumber_0 h)
set_option maxRecDepth 1000000 in
theorem e_X10_stepNumber_5 (h : zH) : zL p_X10_stepNumber 5 [some (.inr (.inr (10, 0)))] [] h = zf ((h.1 10 0 2) < (h.1 9 0 1)) (zci (f_X9_signAt [(.inr (.inr (9, 0))), (.inl (h.1 10 0 2))] h) (fun r2 h1 => zci (f_X10_isDigit [(.inl r2)] h1) (fun r4 h3 => zf (r4 = 0) (zL p_X10_stepNumber 75 [some (.inr (.inr (10, 0)))] [] h3) (zci (f_X9_signAt [(.inr (.inr (9, 0))), (.inl (h3.1 10 0 2))] h3) (fun r6 h5 => zL p_X10_stepNumber 5 [some (.inr (.inr (10, 0)))] [] (zuI (zuI h5 10 0 5 (((h3.1 10 0 5) * (10 : Int32)) + (r6 - (48 : Int32)))) 10 0 2 ((h5.1 10 0 2) + (1 : Int32)))))))) (zL p_X10_stepNumber 75 [some (.inr (.inr (10, 0)))] [] h) := (zL_s (t_X10_stepNumber) [0, 5, 75] 1000 5 _ _ _).trans rfl
set_option maxRecDepth 1000000 in
theorem e_X10_stepNumber_75 (h : zH) : zL p_X10_stepNumber 75 [some (.inr (.inr (10, 0)))] [] h = zf (4 < ((h.1 10 0 2) - (h.1 10 0 4))) (some (none, (zuI h 10 0 3 1))) (some (none, (zuI h 10 0 3 3))) := (zL_s (t_X10_stepNumber) [0, 5, 75] 1000 75 _ _ _).trans rfl
/-! SoapTreaty$Tokens.isSignSpelt(I)Z -/
def y_X10_isSignSpelt : MethodName := ⟨"SoapTreaty$Tokens", "isSignSpelt", "(I)Z"⟩
noncomputable def p_X10_isSignSpelt_0 : List (Nat × zO) := [(0, zo_iload 0 1),
  (1, zo_tsw [(40, 104), (41, 104), (42, 104), (43, 104), (44, 106), (45, 104), (46, 106), (47, 106), (48, 106), (49, 106), (50, 106), (51, 106), (52, 106), (53, 106), (54, 106), (55, 106), (56, 106), (57, 106), (58, 106), (59, 104), (60, 104), (61, 104)] 106),
  (104, zo_push (.inl 1) 105),
  (105, zo_zretc),
  (106, zo_push (.inl 0) 107),
  (107, zo_zretc)]
noncomputable def p_X10_isSignSpelt : Nat → zO := zgs [(108, p_X10_isSignSpelt_0)]
theorem t_X10_isSignSpelt : ∀ k, zTl (p_X10_isSignSpelt k) := fun k => zgs_all (c := [(108, p_X10_isSignSpelt_0)]) (fun _ => zl_bad) ⟨⟨zl_iload, zl_tsw, zl_push, zl_zretc, zl_push, zl_zretc, trivial⟩, trivial⟩ k
noncomputable def f_X10_isSignSpelt : zS := zrun p_X10_isSignSpelt 1
set_option maxRecDepth 20000 in
theorem s_X10_isSignSpelt_0 {l : Launch} {D : va_G} {ad : Nat → Nat → Nat} {cy : Nat → ClassId} {L : List (Nat × Nat)} (hcl : zclo L = true) (hinj : zAd ad L) {X : zCtx} (hX : zXok X "SoapTreaty$Tokens" prog_12_method_10_code 1) (hR : zRt X (some .boolean)) (hl : zXl X l D ad cy L (zroom 1)) : zAllR (zSo X) p_X10_isSignSpelt_0 := ⟨zs_iload_n (i := 0) rfl hX (by decide +kernel : decode prog_12_method_10_code 0 = .ok (.iload_n 0, 1)) rfl (by decide),
  zs_tsw hX (by decide +kernel : decode prog_12_method_10_code 1 = .ok (.tableswitch 105 40 61 #[103, 103, 103, 103, 105, 103, 105, 105, 105, 105, 105, 105, 105, 105, 105, 105, 105, 105, 105, 103, 103, 103], 103)) (by decide) (by decide) (by decide) (by decide),
  zs_pushI (zg_iconst (by decide) hX (by decide +kernel : decode prog_12_method_10_code 104 = .ok (.iconst 1, 1)) rfl),
  zs_zretc hX hR (by decide +kernel : decode prog_12_method_10_code 105 = .ok (.ireturn, 1)),
  zs_pushI (zg_iconst (by decide) hX (by decide +kernel : decode prog_12_method_10_code 106 = .ok (.iconst 0, 1)) rfl),
  zs_zretc hX hR (by decide +kernel : decode prog_12_method_10_code 107 = .ok (.ireturn, 1)), trivial⟩
theorem k_X10_isSignSpelt {l : Launch} {D : va_G} {ad : Nat → Nat → Nat} {cy : Nat → ClassId} {L : List (Nat × Nat)} (hcl : zclo L = true) (hinj : zAd ad L) : zCk l D ad cy L 1 f_X10_isSignSpelt y_X10_isSignSpelt (.code y_X10_isSignSpelt prog_12_method_10_code 1 (some .boolean)) :=
  z_met (by decide) t_X10_isSignSpelt hcl hinj (fun X hX hR hl k => zgs_all (Q := zSo X) (c := [(108, p_X10_isSignSpelt_0)]) (fun _ => zs_bad) ⟨s_X10_isSignSpelt_0 hcl hinj hX hR hl, trivial⟩ k)
set_option maxRecDepth 1000000 in
theorem e_X10_isSignSpelt_0 (x0 : Int32) (h : zH) : zL p_X10_isSignSpelt 0 [some (.inl x0)] [] h = zf (x0 = 40) (some (some (.inl 1), h)) (zf (x0 = 41) (some (some (.inl 1), h)) (zf (x0 = 42) (some (some (.inl 1), h)) (zf (x0 = 43) (some (some (.inl 1), h)) (zf (x0 = 44) (some (some (.inl 0), h)) (zf (x0 = 45) (some (some (.inl 1), h)) (zf (x0 = 46) (some (some (.inl 0), h)) (zf (x0 = 47) (some (some (.inl 0), h)) (zf (x0 = 48) (some (some (.inl 0), h)) (zf (x0 = 49) (some (some (.inl 0), h)) (zf (x0 = 50) (some (some (.inl 0), h)) (zf (x0 = 51) (some (some (.inl 0), h)) (zf (x0 = 52) (some (some (.inl 0), h)) (zf (x0 = 53) (some (some (.inl 0), h)) (zf (x0 = 54) (some (some (.inl 0), h)) (zf (x0 = 55) (some (some (.inl 0), h)) (zf (x0 = 56) (some (some (.inl 0), h)) (zf (x0 = 57) (some (some (.inl 0), h)) (zf (x0 = 58) (some (some (.inl 0), h)) (zf (x0 = 59) (some (some (.inl 1), h)) (zf (x0 = 60) (some (some (.inl 1), h)) (zf (x0 = 61) (some (some (.inl 1), h)) (some (some (.inl 0), h))))))))))))))))))))))) := (zL_s (t_X10_isSignSpelt) [0] 1000 0 _ _ _).trans rfl
theorem g_X10_isSignSpelt (x0 : Int32) (h : zH) : f_X10_isSignSpelt [(.inl x0)] h = zf (x0 = 40) (some (some (.inl 1), h)) (zf (x0 = 41) (some (some (.inl 1), h)) (zf (x0 = 42) (some (some (.inl 1), h)) (zf (x0 = 43) (some (some (.inl 1), h)) (zf (x0 = 44) (some (some (.inl 0), h)) (zf (x0 = 45) (some (some (.inl 1), h)) (zf (x0 = 46) (some (some (.inl 0), h)) (zf (x0 = 47) (some (some (.inl 0), h)) (zf (x0 = 48) (some (some (.inl 0), h)) (zf (x0 = 49) (some (some (.inl 0), h)) (zf (x0 = 50) (some (some (.inl 0), h)) (zf (x0 = 51) (some (some (.inl 0), h)) (zf (x0 = 52) (some (some (.inl 0), h)) (zf (x0 = 53) (some (some (.inl 0), h)) (zf (x0 = 54) (some (some (.inl 0), h)) (zf (x0 = 55) (some (some (.inl 0), h)) (zf (x0 = 56) (some (some (.inl 0), h)) (zf (x0 = 57) (some (some (.inl 0), h)) (zf (x0 = 58) (some (some (.inl 0), h)) (zf (x0 = 59) (some (some (.inl 1), h)) (zf (x0 = 60) (some (some (.inl 1), h)) (zf (x0 = 61) (some (some (.inl 1), h)) (some (some (.inl 0), h))))))))))))))))))))))) := (show f_X10_isSignSpelt _ h = zL p_X10_isSignSpelt 0 _ [] h from rfl).trans (e_X10_isSignSpelt_0 x0 h)
theorem zMS_10_55 : zMS "SoapTreaty$Tokens" 55 y_X10_isBlank prog_12_method_7_code 1 (some .boolean) 1 := ⟨⟨zT_of 577 (by decide +kernel) (by decide +kernel), zT_of 578 (by decide +kernel) (by decide +kernel), zT_of 108 (by decide +kernel) (by decide +kernel), zT_of 579 (by decide +kernel) (by decide +kernel)⟩, by decide, by decide, by decide, by decide +kernel⟩
theorem zMV_10_68 : zMV "SoapTreaty$Tokens" 68 10 y_X10_stepWord prog_12_method_5_code 2 none 0 := ⟨⟨zT_of 583 (by decide +kernel) (by decide +kernel), zT_of 585 (by decide +kernel) (by decide +kernel), zT_of 0 (by decide +kernel) (by decide +kernel), zT_of 108 (by decide +kernel) (by decide +kernel), zT_of 586 (by decide +kernel) (by decide +kernel)⟩, by decide, rfl, ⟨zT10, 8, rfl⟩, by decide, by decide, by decide +kernel⟩
theorem zMV_10_74 : zMV "SoapTreaty$Tokens" 74 10 y_X10_stepNumber prog_12_method_6_code 1 none 0 := ⟨⟨zT_of 590 (by decide +kernel) (by decide +kernel), zT_of 592 (by decide +kernel) (by decide +kernel), zT_of 1 (by decide +kernel) (by decide +kernel), zT_of 108 (by decide +kernel) (by decide +kernel), zT_of 593 (by decide +kernel) (by decide +kernel)⟩, by decide, rfl, ⟨zT10, 8, rfl⟩, by decide, by decide, by decide +kernel⟩
theorem zMS_10_77 : zMS "SoapTreaty$Tokens" 77 y_X10_isSignSpelt prog_12_method_10_code 1 (some .boolean) 1 := ⟨⟨zT_of 594 (by decide +kernel) (by decide +kernel), zT_of 595 (by decide +kernel) (by decide +kernel), zT_of 108 (by decide +kernel) (by decide +kernel), zT_of 596 (by decide +kernel) (by decide +kernel)⟩, by decide, by decide, by decide, by decide +kernel⟩
/-! SoapTreaty$Tokens.step()V -/
def y_X10_step : MethodName := ⟨"SoapTreaty$Tokens", "step", "()V"⟩
noncomputable def p_X10_step_0 : List (Nat × zO) := [(0, zo_aload 0 1),
  (1, zo_getI 10 7 4),
  (4, zo_0eq 8 7),
  (7, zo_ret),
  (8, zo_kill [1] (zo_aload 0 9)),
  (9, zo_getI 10 2 12),
  (12, zo_aload 0 13),
  (13, zo_getR 10 9 none 16),
  (16, zo_getI 9 1 19),
  (19, zo_cge 52 22),
  (22, zo_aload 0 23),
  (23, zo_getR 10 9 none 26),
  (26, zo_aload 0 27),
  (27, zo_getI 10 2 30),
  (30, zo_vir 9 2 (zo_calli (f_X9_signAt) 2 33)),
  (33, zo_calli (f_X10_isBlank) 1 36),
  (36, zo_0eq 52 39),
  (39, zo_aload 0 40),
  (40, zo_dup 41),
  (41, zo_getI 10 2 44)]
noncomputable def p_X10_step_1 : List (Nat × zO) := [(44, zo_push (.inl 1) 45),
  (45, zo_ii (fun x y => x + y) 46),
  (46, zo_putI 10 2 49),
  (49, zo_goto 8),
  (52, zo_kill [1] (zo_aload 0 53)),
  (53, zo_aload 0 54),
  (54, zo_getI 10 2 57),
  (57, zo_putI 10 4 60),
  (60, zo_aload 0 61),
  (61, zo_getR 10 9 none 64),
  (64, zo_aload 0 65),
  (65, zo_getI 10 2 68),
  (68, zo_vir 9 2 (zo_calli (f_X9_signAt) 2 71)),
  (71, zo_istore 1 72),
  (72, zo_aload 0 73),
  (73, zo_getI 10 2 76),
  (76, zo_aload 0 77),
  (77, zo_getR 10 9 none 80),
  (80, zo_getI 9 1 83),
  (83, zo_clt 94 86)]
noncomputable def p_X10_step_2 : List (Nat × zO) := [(86, zo_aload 0 87),
  (87, zo_push (.inl 0) 88),
  (88, zo_putI 10 3 91),
  (91, zo_goto 153),
  (94, zo_iload 1 95),
  (95, zo_calli (f_X10_isLetter) 1 98),
  (98, zo_0eq 108 101),
  (101, zo_aload 0 102),
  (102, zo_vir 10 1 (zo_callv (f_X10_stepWord) 1 105)),
  (105, zo_goto 153),
  (108, zo_iload 1 109),
  (109, zo_calli (f_X10_isDigit) 1 112),
  (112, zo_0eq 122 115),
  (115, zo_aload 0 116),
  (116, zo_vir 10 1 (zo_callv (f_X10_stepNumber) 1 119)),
  (119, zo_goto 153),
  (122, zo_aload 0 123),
  (123, zo_iload 1 124),
  (124, zo_calli (f_X10_isSignSpelt) 1 127),
  (127, zo_0eq 134 130)]
noncomputable def p_X10_step_3 : List (Nat × zO) := [(130, zo_push (.inl 4) 131),
  (131, zo_goto 135),
  (134, zo_push (.inl 1) 135),
  (135, zo_putI 10 3 138),
  (138, zo_aload 0 139),
  (139, zo_iload 1 140),
  (140, zo_putI 10 5 143),
  (143, zo_aload 0 144),
  (144, zo_dup 145),
  (145, zo_getI 10 2 148),
  (148, zo_push (.inl 1) 149),
  (149, zo_ii (fun x y => x + y) 150),
  (150, zo_putI 10 2 153),
  (153, zo_ret)]
noncomputable def p_X10_step : Nat → zO := zgs [(42, p_X10_step_0), (84, p_X10_step_1), (128, p_X10_step_2), (154, p_X10_step_3)]
theorem t_X10_step : ∀ k, zTl (p_X10_step k) := fun k => zgs_all (c := [(42, p_X10_step_0), (84, p_X10_step_1), (128, p_X10_step_2), (154, p_X10_step_3)]) (fun _ => zl_bad) ⟨⟨zl_aload, zl_getI, zl_0eq, zl_ret, (zl_kill zl_aload), zl_getI, zl_aload, zl_getR, zl_getI, zl_cge, zl_aload, zl_getR, zl_aload, zl_getI, (zl_vir zl_calli), zl_calli, zl_0eq, zl_aload, zl_dup, zl_getI, trivial⟩, ⟨zl_push, zl_ii, zl_putI, zl_goto, (zl_kill zl_aload), zl_aload, zl_getI, zl_putI, zl_aload, zl_getR, zl_aload, zl_getI, (zl_vir zl_calli), zl_istore, zl_aload, zl_getI, zl_aload, zl_getR, zl_getI, zl_clt, trivial⟩, ⟨zl_aload, zl_push, zl_putI, zl_goto, zl_iload, zl_calli, zl_0eq, zl_aload, (zl_vir zl_callv), zl_goto, zl_iload, zl_calli, zl_0eq, zl_aload, (zl_vir zl_callv), zl_goto, zl_aload, zl_iload, zl_calli, zl_0eq, trivial⟩, ⟨zl_push, zl_goto, zl_push, zl_putI, zl_aload, zl_iload, zl_putI, zl_aload, zl_dup, zl_getI, zl_push, zl_ii, zl_putI, zl_ret, trivial⟩, trivial⟩ k
noncomputable def f_X10_step : zS := zrun p_X10_step 2
set_option maxRecDepth 20000 in
theorem s_X10_step_0 {l : Launch} {D : va_G} {ad : Nat → Nat → Nat} {cy : Nat → ClassId} {L : List (Nat × Nat)} (hcl : zclo L = true) (hinj : zAd ad L) {X : zCtx} (hX : zXok X "SoapTreaty$Tokens" prog_12_method_4_code 2) (hR : zRt X none) (hl : zXl X l D ad cy L (zroom 3)) : zAllR (zSo X) p_X10_step_0 := ⟨zs_aload_n (i := 0) rfl hX (by decide +kernel : decode prog_12_method_4_code 0 = .ok (.aload_n 0, 1)) rfl (by decide),
  zs_getI hX zFL_10_41 (by decide) (by decide) (by decide +kernel : decode prog_12_method_4_code 1 = .ok (.getfield 41, 3)) rfl,
  zs_0eq hX (by decide +kernel : decode prog_12_method_4_code 4 = .ok (.ifCond .eq 4, 3)) (by decide) rfl,
  zs_ret hX hR (by decide +kernel : decode prog_12_method_4_code 7 = .ok (.return_, 1)),
  zs_kill hX (by decide) (zs_aload_n (i := 0) rfl hX (by decide +kernel : decode prog_12_method_4_code 8 = .ok (.aload_n 0, 1)) rfl (by decide)),
  zs_getI hX zFL_10_37 (by decide) (by decide) (by decide +kernel : decode prog_12_method_4_code 9 = .ok (.getfield 37, 3)) rfl,
  zs_aload_n (i := 0) rfl hX (by decide +kernel : decode prog_12_method_4_code 12 = .ok (.aload_n 0, 1)) rfl (by decide),
  zs_getR hX zFL_10_15 (by decide +kernel : decode prog_12_method_4_code 13 = .ok (.getfield 15, 3)) rfl,
  zs_getI hX zFL_10_47 (by decide) (by decide) (by decide +kernel : decode prog_12_method_4_code 16 = .ok (.getfield 47, 3)) rfl,
  zs_cge hX (by decide +kernel : decode prog_12_method_4_code 19 = .ok (.if_icmp .ge 33, 3)) (by decide) rfl,
  zs_aload_n (i := 0) rfl hX (by decide +kernel : decode prog_12_method_4_code 22 = .ok (.aload_n 0, 1)) rfl (by decide),
  zs_getR hX zFL_10_15 (by decide +kernel : decode prog_12_method_4_code 23 = .ok (.getfield 15, 3)) rfl,
  zs_aload_n (i := 0) rfl hX (by decide +kernel : decode prog_12_method_4_code 26 = .ok (.aload_n 0, 1)) rfl (by decide),
  zs_getI hX zFL_10_37 (by decide) (by decide) (by decide +kernel : decode prog_12_method_4_code 27 = .ok (.getfield 37, 3)) rfl,
  zs_callVi hX zMV_10_51 (zXc_of hl (by decide) (k_X9_signAt hcl hinj)) (by decide +kernel : decode prog_12_method_4_code 30 = .ok (.invokevirtual 51, 3)) rfl,
  zs_callSi hX zMS_10_55 (zXc_of hl (by decide) (k_X10_isBlank hcl hinj)) (by decide +kernel : decode prog_12_method_4_code 33 = .ok (.invokestatic 55, 3)) rfl,
  zs_0eq hX (by decide +kernel : decode prog_12_method_4_code 36 = .ok (.ifCond .eq 16, 3)) (by decide) rfl,
  zs_aload_n (i := 0) rfl hX (by decide +kernel : decode prog_12_method_4_code 39 = .ok (.aload_n 0, 1)) rfl (by decide),
  zs_dup hX (by decide +kernel : decode prog_12_method_4_code 40 = .ok (.dup, 1)) rfl,
  zs_getI hX zFL_10_37 (by decide) (by decide) (by decide +kernel : decode prog_12_method_4_code 41 = .ok (.getfield 37, 3)) rfl, trivial⟩
set_option maxRecDepth 20000 in
theorem s_X10_step_1 {l : Launch} {D : va_G} {ad : Nat → Nat → Nat} {cy : Nat → ClassId} {L : List (Nat × Nat)} (hcl : zclo L = true) (hinj : zAd ad L) {X : zCtx} (hX : zXok X "SoapTreaty$Tokens" prog_12_method_4_code 2) (hR : zRt X none) (hl : zXl X l D ad cy L (zroom 3)) : zAllR (zSo X) p_X10_step_1 := ⟨zs_pushI (zg_iconst (by decide) hX (by decide +kernel : decode prog_12_method_4_code 44 = .ok (.iconst 1, 1)) rfl),
  zs_ii (zg_iadd hX (by decide +kernel : decode prog_12_method_4_code 45 = .ok (.iadd, 1)) rfl),
  zs_putI hX zFP_10_37 (by decide +kernel : decode prog_12_method_4_code 46 = .ok (.putfield 37, 3)) rfl,
  zs_goto hX (by decide +kernel : decode prog_12_method_4_code 49 = .ok (.goto (-41), 3)) (by decide),
  zs_kill hX (by decide) (zs_aload_n (i := 0) rfl hX (by decide +kernel : decode prog_12_method_4_code 52 = .ok (.aload_n 0, 1)) rfl (by decide)),
  zs_aload_n (i := 0) rfl hX (by decide +kernel : decode prog_12_method_4_code 53 = .ok (.aload_n 0, 1)) rfl (by decide),
  zs_getI hX zFL_10_37 (by decide) (by decide) (by decide +kernel : decode prog_12_method_4_code 54 = .ok (.getfield 37, 3)) rfl,
  zs_putI hX zFP_10_59 (by decide +kernel : decode prog_12_method_4_code 57 = .ok (.putfield 59, 3)) rfl,
  zs_aload_n (i := 0) rfl hX (by decide +kernel : decode prog_12_method_4_code 60 = .ok (.aload_n 0, 1)) rfl (by decide),
  zs_getR hX zFL_10_15 (by decide +kernel : decode prog_12_method_4_code 61 = .ok (.getfield 15, 3)) rfl,
  zs_aload_n (i := 0) rfl hX (by decide +kernel : decode prog_12_method_4_code 64 = .ok (.aload_n 0, 1)) rfl (by decide),
  zs_getI hX zFL_10_37 (by decide) (by decide) (by decide +kernel : decode prog_12_method_4_code 65 = .ok (.getfield 37, 3)) rfl,
  zs_callVi hX zMV_10_51 (zXc_of hl (by decide) (k_X9_signAt hcl hinj)) (by decide +kernel : decode prog_12_method_4_code 68 = .ok (.invokevirtual 51, 3)) rfl,
  zs_istore_n (i := 1) rfl hX (by decide +kernel : decode prog_12_method_4_code 71 = .ok (.istore_n 1, 1)) rfl (by decide),
  zs_aload_n (i := 0) rfl hX (by decide +kernel : decode prog_12_method_4_code 72 = .ok (.aload_n 0, 1)) rfl (by decide),
  zs_getI hX zFL_10_37 (by decide) (by decide) (by decide +kernel : decode prog_12_method_4_code 73 = .ok (.getfield 37, 3)) rfl,
  zs_aload_n (i := 0) rfl hX (by decide +kernel : decode prog_12_method_4_code 76 = .ok (.aload_n 0, 1)) rfl (by decide),
  zs_getR hX zFL_10_15 (by decide +kernel : decode prog_12_method_4_code 77 = .ok (.getfield 15, 3)) rfl,
  zs_getI hX zFL_10_47 (by decide) (by decide) (by decide +kernel : decode prog_12_method_4_code 80 = .ok (.getfield 47, 3)) rfl,
  zs_clt hX (by decide +kernel : decode prog_12_method_4_code 83 = .ok (.if_icmp .lt 11, 3)) (by decide) rfl, trivial⟩
set_option maxRecDepth 20000 in
theorem s_X10_step_2 {l : Launch} {D : va_G} {ad : Nat → Nat → Nat} {cy : Nat → ClassId} {L : List (Nat × Nat)} (hcl : zclo L = true) (hinj : zAd ad L) {X : zCtx} (hX : zXok X "SoapTreaty$Tokens" prog_12_method_4_code 2) (hR : zRt X none) (hl : zXl X l D ad cy L (zroom 3)) : zAllR (zSo X) p_X10_step_2 := ⟨zs_aload_n (i := 0) rfl hX (by decide +kernel : decode prog_12_method_4_code 86 = .ok (.aload_n 0, 1)) rfl (by decide),
  zs_pushI (zg_iconst (by decide) hX (by decide +kernel : decode prog_12_method_4_code 87 = .ok (.iconst 0, 1)) rfl),
  zs_putI hX zFP_10_62 (by decide +kernel : decode prog_12_method_4_code 88 = .ok (.putfield 62, 3)) rfl,
  zs_goto hX (by decide +kernel : decode prog_12_method_4_code 91 = .ok (.goto 62, 3)) (by decide),
  zs_iload_n (i := 1) rfl hX (by decide +kernel : decode prog_12_method_4_code 94 = .ok (.iload_n 1, 1)) rfl (by decide),
  zs_callSi hX zMS_10_65 (zXc_of hl (by decide) (k_X10_isLetter hcl hinj)) (by decide +kernel : decode prog_12_method_4_code 95 = .ok (.invokestatic 65, 3)) rfl,
  zs_0eq hX (by decide +kernel : decode prog_12_method_4_code 98 = .ok (.ifCond .eq 10, 3)) (by decide) rfl,
  zs_aload_n (i := 0) rfl hX (by decide +kernel : decode prog_12_method_4_code 101 = .ok (.aload_n 0, 1)) rfl (by decide),
  zs_callVv hX zMV_10_68 (zXc_of hl (by decide) (k_X10_stepWord hcl hinj)) (by decide +kernel : decode prog_12_method_4_code 102 = .ok (.invokevirtual 68, 3)) rfl,
  zs_goto hX (by decide +kernel : decode prog_12_method_4_code 105 = .ok (.goto 48, 3)) (by decide),
  zs_iload_n (i := 1) rfl hX (by decide +kernel : decode prog_12_method_4_code 108 = .ok (.iload_n 1, 1)) rfl (by decide),
  zs_callSi hX zMS_10_71 (zXc_of hl (by decide) (k_X10_isDigit hcl hinj)) (by decide +kernel : decode prog_12_method_4_code 109 = .ok (.invokestatic 71, 3)) rfl,
  zs_0eq hX (by decide +kernel : decode prog_12_method_4_code 112 = .ok (.ifCond .eq 10, 3)) (by decide) rfl,
  zs_aload_n (i := 0) rfl hX (by decide +kernel : decode prog_12_method_4_code 115 = .ok (.aload_n 0, 1)) rfl (by decide),
  zs_callVv hX zMV_10_74 (zXc_of hl (by decide) (k_X10_stepNumber hcl hinj)) (by decide +kernel : decode prog_12_method_4_code 116 = .ok (.invokevirtual 74, 3)) rfl,
  zs_goto hX (by decide +kernel : decode prog_12_method_4_code 119 = .ok (.goto 34, 3)) (by decide),
  zs_aload_n (i := 0) rfl hX (by decide +kernel : decode prog_12_method_4_code 122 = .ok (.aload_n 0, 1)) rfl (by decide),
  zs_iload_n (i := 1) rfl hX (by decide +kernel : decode prog_12_method_4_code 123 = .ok (.iload_n 1, 1)) rfl (by decide),
  zs_callSi hX zMS_10_77 (zXc_of hl (by decide) (k_X10_isSignSpelt hcl hinj)) (by decide +kernel : decode prog_12_method_4_code 124 = .ok (.invokestatic 77, 3)) rfl,
  zs_0eq hX (by decide +kernel : decode prog_12_method_4_code 127 = .ok (.ifCond .eq 7, 3)) (by decide) rfl, trivial⟩
set_option maxRecDepth 20000 in
theorem s_X10_step_3 {l : Launch} {D : va_G} {ad : Nat → Nat → Nat} {cy : Nat → ClassId} {L : List (Nat × Nat)} (hcl : zclo L = true) (hinj : zAd ad L) {X : zCtx} (hX : zXok X "SoapTreaty$Tokens" prog_12_method_4_code 2) (hR : zRt X none) (hl : zXl X l D ad cy L (zroom 3)) : zAllR (zSo X) p_X10_step_3 := ⟨zs_pushI (zg_iconst (by decide) hX (by decide +kernel : decode prog_12_method_4_code 130 = .ok (.iconst 4, 1)) rfl),
  zs_goto hX (by decide +kernel : decode prog_12_method_4_code 131 = .ok (.goto 4, 3)) (by decide),
  zs_pushI (zg_iconst (by decide) hX (by decide +kernel : decode prog_12_method_4_code 134 = .ok (.iconst 1, 1)) rfl),
  zs_putI hX zFP_10_62 (by decide +kernel : decode prog_12_method_4_code 135 = .ok (.putfield 62, 3)) rfl,
  zs_aload_n (i := 0) rfl hX (by decide +kernel : decode prog_12_method_4_code 138 = .ok (.aload_n 0, 1)) rfl (by decide),
  zs_iload_n (i := 1) rfl hX (by decide +kernel : decode prog_12_method_4_code 139 = .ok (.iload_n 1, 1)) rfl (by decide),
  zs_putI hX zFP_10_80 (by decide +kernel : decode prog_12_method_4_code 140 = .ok (.putfield 80, 3)) rfl,
  zs_aload_n (i := 0) rfl hX (by decide +kernel : decode prog_12_method_4_code 143 = .ok (.aload_n 0, 1)) rfl (by decide),
  zs_dup hX (by decide +kernel : decode prog_12_method_4_code 144 = .ok (.dup, 1)) rfl,
  zs_getI hX zFL_10_37 (by decide) (by decide) (by decide +kernel : decode prog_12_method_4_code 145 = .ok (.getfield 37, 3)) rfl,
  zs_pushI (zg_iconst (by decide) hX (by decide +kernel : decode prog_12_method_4_code 148 = .ok (.iconst 1, 1)) rfl),
  zs_ii (zg_iadd hX (by decide +kernel : decode prog_12_method_4_code 149 = .ok (.iadd, 1)) rfl),
  zs_putI hX zFP_10_37 (by decide +kernel : decode prog_12_method_4_code 150 = .ok (.putfield 37, 3)) rfl,
  zs_ret hX hR (by decide +kernel : decode prog_12_method_4_code 153 = .ok (.return_, 1)), trivial⟩
theorem k_X10_step {l : Launch} {D : va_G} {ad : Nat → Nat → Nat} {cy : Nat → ClassId} {L : List (Nat × Nat)} (hcl : zclo L = true) (hinj : zAd ad L) : zCk l D ad cy L 3 f_X10_step y_X10_step (.code y_X10_step prog_12_method_4_code 2 none) :=
  z_met (by decide) t_X10_step hcl hinj (fun X hX hR hl k => zgs_all (Q := zSo X) (c := [(42, p_X10_step_0), (84, p_X10_step_1), (128, p_X10_step_2), (154, p_X10_step_3)]) (fun _ => zs_bad) ⟨s_X10_step_0 hcl hinj hX hR hl, s_X10_step_1 hcl hinj hX hR hl, s_X10_step_2 hcl hinj hX hR hl, s_X10_step_3 hcl hinj hX hR hl, trivial⟩ k)
set_option maxRecDepth 1000000 in
theorem e_X10_step_0 (h : zH) : zL p_X10_step 0 [some (.inr (.inr (10, 0))), none] [] h = zf ((h.1 10 0 7) = 0) (zL p_X10_step 8 [some (.inr (.inr (10, 0))), none] [] h) (some (none, h)) := (zL_s (t_X10_step) [0, 8, 52, 135] 1000 0 _ _ _).trans rfl
theorem g_X10_step (h : zH) : f_X10_step [(.inr (.inr (10, 0)))] h = zf ((h.1 10 0 7) = 0) (zL p_X10_step 8 [some (.inr (.inr (10, 0))), none] [] h) (some (none, h)) := (show f_X10_step _ h = zL p_X10_step 0 _ [] h from rfl).trans (e_X10_step_0 h)
set_option maxRecDepth 1000000 in
theorem e_X10_step_8 (o1 : Option zV) (h : zH) : zL p_X10_step 8 [some (.inr (.inr (10, 0))), o1] [] h = zf ((h.1 10 0 2) < (h.1 9 0 1)) (zci (f_X9_signAt [(.inr (.inr (9, 0))), (.inl (h.1 10 0 2))] h) (fun r2 h1 => zci (f_X10_isBlank [(.inl r2)] h1) (fun r4 h3 => zf (r4 = 0) (zL p_X10_step 52 [some (.inr (.inr (10, 0))), none] [] h3) (zL p_X10_step 8 [some (.inr (.inr (10, 0))), none] [] (zuI h3 10 0 2 ((h3.1 10 0 2) + (1 : Int32))))))) (zL p_X10_step 52 [some (.inr (.inr (10, 0))), none] [] h) := (zL_s (t_X10_step) [0, 8, 52, 135] 1000 8 _ _ _).trans rfl
set_option maxRecDepth 1000000 in
theorem e_X10_step_52 (o1 : Option zV) (h : zH) : zL p_X10_step 52 [some (.inr (.inr (10, 0))), o1] [] h = zci (f_X9_signAt [(.inr (.inr (9, 0))), (.inl (h.1 10 0 2))] (zuI h 10 0 4 (h.1 10 0 2))) (fun r2 h1 => zf ((h1.1 10 0 2) < (h1.1 9 0 1)) (zci (f_X10_isLetter [(.inl r2)] h1) (fun r4 h3 => zf (r4 = 0) (zci (f_X10_isDigit [(.inl r2)] h3) (fun r6 h5 => zf (r6 = 0) (zci (f_X10_isSignSpelt [(.inl r2)] h5) (fun r8 h7 => zf (r8 = 0) (zL p_X10_step 135 [some (.inr (.inr (10, 0))), some (.inl r2)] [(.inl 1), (.inr (.inr (10, 0)))] h7) (zL p_X10_step 135 [some (.inr (.inr (10, 0))), some (.inl r2)] [(.inl 4), (.inr (.inr (10, 0)))] h7))) (zcv (f_X10_stepNumber [(.inr (.inr (10, 0)))] h5) (fun h9 => some (none, h9))))) (zcv (f_X10_stepWord [(.inr (.inr (10, 0)))] h3) (fun h10 => some (none, h10))))) (some (none, (zuI h1 10 0 3 0)))) := (zL_s (t_X10_step) [0, 8, 52, 135] 1000 52 _ _ _).trans rfl
set_option maxRecDepth 1000000 in
theorem e_X10_step_135 (x1 : Int32) (s0 : Int32) (h : zH) : zL p_X10_step 135 [some (.inr (.inr (10, 0))), some (.inl x1)] [(.inl s0), (.inr (.inr (10, 0)))] h = some (none, (zuI (zuI (zuI h 10 0 3 s0) 10 0 5 x1) 10 0 2 ((h.1 10 0 2) + (1 : Int32)))) := (zL_s (t_X10_step) [0, 8, 52, 135] 1000 135 _ _ _).trans rfl
theorem zMV_10_44 : zMV "SoapTreaty$Tokens" 44 10 y_X10_step prog_12_method_4_code 2 none 0 := ⟨⟨zT_of 569 (by decide +kernel) (by decide +kernel), zT_of 570 (by decide +kernel) (by decide +kernel), zT_of 571 (by decide +kernel) (by decide +kernel), zT_of 108 (by decide +kernel) (by decide +kernel), zT_of 572 (by decide +kernel) (by decide +kernel)⟩, by decide, rfl, ⟨zT10, 8, rfl⟩, by decide, by decide, by decide +kernel⟩
theorem zMV_10_90 : zMV "SoapTreaty$Tokens" 90 10 y_X10_complain prog_12_method_11_code 2 none 1 := ⟨⟨zT_of 638 (by decide +kernel) (by decide +kernel), zT_of 606 (by decide +kernel) (by decide +kernel), zT_of 607 (by decide +kernel) (by decide +kernel), zT_of 108 (by decide +kernel) (by decide +kernel), zT_of 608 (by decide +kernel) (by decide +kernel)⟩, by decide, rfl, ⟨zT10, 8, rfl⟩, by decide, by decide, by decide +kernel⟩
theorem zMV_10_94 : zMV "SoapTreaty$Tokens" 94 10 y_X10_isSign prog_12_method_14_code 2 (some .boolean) 1 := ⟨⟨zT_of 713 (by decide +kernel) (by decide +kernel), zT_of 697 (by decide +kernel) (by decide +kernel), zT_of 698 (by decide +kernel) (by decide +kernel), zT_of 108 (by decide +kernel) (by decide +kernel), zT_of 699 (by decide +kernel) (by decide +kernel)⟩, by decide, rfl, ⟨zT10, 8, rfl⟩, by decide, by decide, by decide +kernel⟩
/-! SoapTreaty$Tokens.takeSign(I)V -/
def y_X10_takeSign : MethodName := ⟨"SoapTreaty$Tokens", "takeSign", "(I)V"⟩
noncomputable def p_X10_takeSign_0 : List (Nat × zO) := [(0, zo_aload 0 1),
  (1, zo_iload 1 2),
  (2, zo_vir 10 2 (zo_calli (f_X10_isSign) 2 5)),
  (5, zo_0ne 13 8),
  (8, zo_aload 0 9),
  (9, zo_push (.inl 1) 10),
  (10, zo_vir 10 2 (zo_callv (f_X10_complain) 2 13)),
  (13, zo_aload 0 14),
  (14, zo_vir 10 1 (zo_callv (f_X10_step) 1 17)),
  (17, zo_ret)]
noncomputable def p_X10_takeSign : Nat → zO := zgs [(18, p_X10_takeSign_0)]
theorem t_X10_takeSign : ∀ k, zTl (p_X10_takeSign k) := fun k => zgs_all (c := [(18, p_X10_takeSign_0)]) (fun _ => zl_bad) ⟨⟨zl_aload, zl_iload, (zl_vir zl_calli), zl_0ne, zl_aload, zl_push, (zl_vir zl_callv), zl_aload, (zl_vir zl_callv), zl_ret, trivial⟩, trivial⟩ k
noncomputable def f_X10_takeSign : zS := zrun p_X10_takeSign 2
set_option maxRecDepth 20000 in
theorem s_X10_takeSign_0 {l : Launch} {D : va_G} {ad : Nat → Nat → Nat} {cy : Nat → ClassId} {L : List (Nat × Nat)} (hcl : zclo L = true) (hinj : zAd ad L) {X : zCtx} (hX : zXok X "SoapTreaty$Tokens" prog_12_method_17_code 2) (hR : zRt X none) (hl : zXl X l D ad cy L (zroom 4)) : zAllR (zSo X) p_X10_takeSign_0 := ⟨zs_aload_n (i := 0) rfl hX (by decide +kernel : decode prog_12_method_17_code 0 = .ok (.aload_n 0, 1)) rfl (by decide),
  zs_iload_n (i := 1) rfl hX (by decide +kernel : decode prog_12_method_17_code 1 = .ok (.iload_n 1, 1)) rfl (by decide),
  zs_callVi hX zMV_10_94 (zXc_of hl (by decide) (k_X10_isSign hcl hinj)) (by decide +kernel : decode prog_12_method_17_code 2 = .ok (.invokevirtual 94, 3)) rfl,
  zs_0ne hX (by decide +kernel : decode prog_12_method_17_code 5 = .ok (.ifCond .ne 8, 3)) (by decide) rfl,
  zs_aload_n (i := 0) rfl hX (by decide +kernel : decode prog_12_method_17_code 8 = .ok (.aload_n 0, 1)) rfl (by decide),
  zs_pushI (zg_iconst (by decide) hX (by decide +kernel : decode prog_12_method_17_code 9 = .ok (.iconst 1, 1)) rfl),
  zs_callVv hX zMV_10_90 (zXc_of hl (by decide) (k_X10_complain hcl hinj)) (by decide +kernel : decode prog_12_method_17_code 10 = .ok (.invokevirtual 90, 3)) rfl,
  zs_aload_n (i := 0) rfl hX (by decide +kernel : decode prog_12_method_17_code 13 = .ok (.aload_n 0, 1)) rfl (by decide),
  zs_callVv hX zMV_10_44 (zXc_of hl (by decide) (k_X10_step hcl hinj)) (by decide +kernel : decode prog_12_method_17_code 14 = .ok (.invokevirtual 44, 3)) rfl,
  zs_ret hX hR (by decide +kernel : decode prog_12_method_17_code 17 = .ok (.return_, 1)), trivial⟩
theorem k_X10_takeSign {l : Launch} {D : va_G} {ad : Nat → Nat → Nat} {cy : Nat → ClassId} {L : List (Nat × Nat)} (hcl : zclo L = true) (hinj : zAd ad L) : zCk l D ad cy L 4 f_X10_takeSign y_X10_takeSign (.code y_X10_takeSign prog_12_method_17_code 2 none) :=
  z_met (by decide) t_X10_takeSign hcl hinj (fun X hX hR hl k => zgs_all (Q := zSo X) (c := [(18, p_X10_takeSign_0)]) (fun _ => zs_bad) ⟨s_X10_takeSign_0 hcl hinj hX hR hl, trivial⟩ k)
set_option maxRecDepth 1000000 in
theorem e_X10_takeSign_0 (x1 : Int32) (h : zH) : zL p_X10_takeSign 0 [some (.inr (.inr (10, 0))), some (.inl x1)] [] h = zci (f_X10_isSign [(.inr (.inr (10, 0))), (.inl x1)] h) (fun r2 h1 => zf (r2 = 0) (zcv (f_X10_complain [(.inr (.inr (10, 0))), (.inl 1)] h1) (fun h4 => zcv (f_X10_step [(.inr (.inr (10, 0)))] h4) (fun h5 => some (none, h5)))) (zcv (f_X10_step [(.inr (.inr (10, 0)))] h1) (fun h3 => some (none, h3)))) := (zL_s (t_X10_takeSign) [0] 1000 0 _ _ _).trans rfl
theorem g_X10_takeSign (x1 : Int32) (h : zH) : f_X10_takeSign [(.inr (.inr (10, 0))), (.inl x1)] h = zci (f_X10_isSign [(.inr (.inr (10, 0))), (.inl x1)] h) (fun r2 h1 => zf (r2 = 0) (zcv (f_X10_complain [(.inr (.inr (10, 0))), (.inl 1)] h1) (fun h4 => zcv (f_X10_step [(.inr (.inr (10, 0)))] h4) (fun h5 => some (none, h5)))) (zcv (f_X10_step [(.inr (.inr (10, 0)))] h1) (fun h3 => some (none, h3)))) := (show f_X10_takeSign _ h = zL p_X10_takeSign 0 _ [] h from rfl).trans (e_X10_takeSign_0 x1 h)
def y_X2_readE : MethodName := ⟨"SoapTreaty$LawReader", "readE", "(I)V"⟩
def y_X2_readTest : MethodName := ⟨"SoapTreaty$LawReader", "readTest", "(I)V"⟩
def y_X2_readSum : MethodName := ⟨"SoapTreaty$LawReader", "readSum", "(I)V"⟩
def y_X2_readProduct : MethodName := ⟨"SoapTreaty$LawReader", "readProduct", "(I)V"⟩
def y_X2_readPart : MethodName := ⟨"SoapTreaty$LawReader", "readPart", "(I)V"⟩
theorem zMV_2_31 : zMV "SoapTreaty$LawReader" 31 10 y_X10_step prog_12_method_4_code 2 none 0 := ⟨⟨zT_of 706 (by decide +kernel) (by decide +kernel), zT_of 570 (by decide +kernel) (by decide +kernel), zT_of 571 (by decide +kernel) (by decide +kernel), zT_of 108 (by decide +kernel) (by decide +kernel), zT_of 572 (by decide +kernel) (by decide +kernel)⟩, by decide, rfl, ⟨zT10, 8, rfl⟩, by decide, by decide, by decide +kernel⟩
theorem zMV_2_34 : zMV "SoapTreaty$LawReader" 34 1 y_X1_add prog_3_method_4_code 2 none 1 := ⟨⟨zT_of 707 (by decide +kernel) (by decide +kernel), zT_of 183 (by decide +kernel) (by decide +kernel), zT_of 184 (by decide +kernel) (by decide +kernel), zT_of 105 (by decide +kernel) (by decide +kernel), zT_of 185 (by decide +kernel) (by decide +kernel)⟩, by decide, rfl, ⟨zT1, 3, rfl⟩, by decide, by decide, by decide +kernel⟩
theorem zMV_2_46 : zMV "SoapTreaty$LawReader" 46 2 y_X2_readPart prog_4_method_6_code 2 none 1 := ⟨⟨zT_of 688 (by decide +kernel) (by decide +kernel), zT_of 690 (by decide +kernel) (by decide +kernel), zT_of 14 (by decide +kernel) (by decide +kernel), zT_of 113 (by decide +kernel) (by decide +kernel), zT_of 691 (by decide +kernel) (by decide +kernel)⟩, by decide, rfl, ⟨zT2, 2, rfl⟩, by decide, by decide, by decide +kernel⟩
theorem zMV_2_49 : zMV "SoapTreaty$LawReader" 49 2 y_X2_canBeginPart prog_4_method_7_code 1 (some .boolean) 0 := ⟨⟨zT_of 692 (by decide +kernel) (by decide +kernel), zT_of 694 (by decide +kernel) (by decide +kernel), zT_of 15 (by decide +kernel) (by decide +kernel), zT_of 113 (by decide +kernel) (by decide +kernel), zT_of 695 (by decide +kernel) (by decide +kernel)⟩, by decide, rfl, ⟨zT2, 2, rfl⟩, by decide, by decide, by decide +kernel⟩
theorem zMV_2_53 : zMV "SoapTreaty$LawReader" 53 10 y_X10_complain prog_12_method_11_code 2 none 1 := ⟨⟨zT_of 705 (by decide +kernel) (by decide +kernel), zT_of 606 (by decide +kernel) (by decide +kernel), zT_of 607 (by decide +kernel) (by decide +kernel), zT_of 108 (by decide +kernel) (by decide +kernel), zT_of 608 (by decide +kernel) (by decide +kernel)⟩, by decide, rfl, ⟨zT10, 8, rfl⟩, by decide, by decide, by decide +kernel⟩
theorem zMV_2_56 : zMV "SoapTreaty$LawReader" 56 2 y_X2_readE prog_4_method_2_code 4 none 1 := ⟨⟨zT_of 708 (by decide +kernel) (by decide +kernel), zT_of 673 (by decide +kernel) (by decide +kernel), zT_of 674 (by decide +kernel) (by decide +kernel), zT_of 113 (by decide +kernel) (by decide +kernel), zT_of 675 (by decide +kernel) (by decide +kernel)⟩, by decide, rfl, ⟨zT2, 2, rfl⟩, by decide, by decide, by decide +kernel⟩
theorem zMV_2_59 : zMV "SoapTreaty$LawReader" 59 10 y_X10_takeSign prog_12_method_17_code 2 none 1 := ⟨⟨zT_of 709 (by decide +kernel) (by decide +kernel), zT_of 710 (by decide +kernel) (by decide +kernel), zT_of 711 (by decide +kernel) (by decide +kernel), zT_of 108 (by decide +kernel) (by decide +kernel), zT_of 712 (by decide +kernel) (by decide +kernel)⟩, by decide, rfl, ⟨zT10, 8, rfl⟩, by decide, by decide, by decide +kernel⟩
/-! SoapTreaty$LawReader.readPart(I)V -/
noncomputable def p_X2_readPart_0 (cE cP : zS) : List (Nat × zO) := [(0, zo_aload 0 1),
  (1, zo_vir 2 1 (zo_calli (f_X2_canBeginPart) 1 4)),
  (4, zo_0ne 16 7),
  (7, zo_aload 0 8),
  (8, zo_getR 2 10 none 11),
  (11, zo_push (.inl 1) 12),
  (12, zo_vir 10 2 (zo_callv (f_X10_complain) 2 15)),
  (15, zo_ret),
  (16, zo_iload 1 17),
  (17, zo_push (.inl 5) 18),
  (18, zo_clt 30 21),
  (21, zo_aload 0 22),
  (22, zo_getR 2 10 none 25),
  (25, zo_push (.inl 5) 26),
  (26, zo_vir 10 2 (zo_callv (f_X10_complain) 2 29)),
  (29, zo_ret),
  (30, zo_aload 0 31),
  (31, zo_getR 2 10 none 34),
  (34, zo_push (.inl 20) 36),
  (36, zo_vir 10 2 (zo_calli (f_X10_isWord) 2 39))]
noncomputable def p_X2_readPart_1 (cE cP : zS) : List (Nat × zO) := [(39, zo_0eq 68 42),
  (42, zo_aload 0 43),
  (43, zo_getR 2 10 none 46),
  (46, zo_vir 10 1 (zo_callv (f_X10_step) 1 49)),
  (49, zo_aload 0 50),
  (50, zo_iload 1 51),
  (51, zo_push (.inl 1) 52),
  (52, zo_ii (fun x y => x + y) 53),
  (53, zo_vir 2 2 (zo_callv cP 2 56)),
  (56, zo_aload 0 57),
  (57, zo_getR 2 1 (some 1) 60),
  (60, zo_push (.inl zm5) 62),
  (62, zo_vir 1 2 (zo_callv (f_X1_add) 2 65)),
  (65, zo_goto 145),
  (68, zo_aload 0 69),
  (69, zo_getR 2 10 none 72),
  (72, zo_push (.inl 40) 74),
  (74, zo_vir 10 2 (zo_calli (f_X10_isSign) 2 77)),
  (77, zo_0eq 106 80),
  (80, zo_aload 0 81)]
noncomputable def p_X2_readPart_2 (cE cP : zS) : List (Nat × zO) := [(81, zo_getR 2 10 none 84),
  (84, zo_vir 10 1 (zo_callv (f_X10_step) 1 87)),
  (87, zo_aload 0 88),
  (88, zo_iload 1 89),
  (89, zo_push (.inl 1) 90),
  (90, zo_ii (fun x y => x + y) 91),
  (91, zo_vir 2 2 (zo_callv cE 2 94)),
  (94, zo_aload 0 95),
  (95, zo_getR 2 10 none 98),
  (98, zo_push (.inl 41) 100),
  (100, zo_vir 10 2 (zo_callv (f_X10_takeSign) 2 103)),
  (103, zo_goto 145),
  (106, zo_aload 0 107),
  (107, zo_getR 2 1 (some 1) 110),
  (110, zo_aload 0 111),
  (111, zo_getR 2 10 none 114),
  (114, zo_getI 10 3 117),
  (117, zo_push (.inl 3) 118),
  (118, zo_cne 131 121),
  (121, zo_aload 0 122)]
noncomputable def p_X2_readPart_3 (cE cP : zS) : List (Nat × zO) := [(122, zo_getR 2 10 none 125),
  (125, zo_getI 10 5 128),
  (128, zo_goto 135),
  (131, zo_aload 0 132),
  (132, zo_vir 2 1 (zo_calli (f_X2_factStep) 1 135)),
  (135, zo_kill [1] (zo_vir 1 2 (zo_callv (f_X1_add) 2 138))),
  (138, zo_aload 0 139),
  (139, zo_getR 2 10 none 142),
  (142, zo_vir 10 1 (zo_callv (f_X10_step) 1 145)),
  (145, zo_ret)]
noncomputable def p_X2_readPart (cE cP : zS) : Nat → zO := zgs [(37, p_X2_readPart_0 cE cP), (81, p_X2_readPart_1 cE cP), (122, p_X2_readPart_2 cE cP), (146, p_X2_readPart_3 cE cP)]
theorem t_X2_readPart (cE cP : zS) : ∀ k, zTl (p_X2_readPart cE cP k) := fun k => zgs_all (c := [(37, p_X2_readPart_0 cE cP), (81, p_X2_readPart_1 cE cP), (122, p_X2_readPart_2 cE cP), (146, p_X2_readPart_3 cE cP)]) (fun _ => zl_bad) ⟨⟨zl_aload, (zl_vir zl_calli), zl_0ne, zl_aload, zl_getR, zl_push, (zl_vir zl_callv), zl_ret, zl_iload, zl_push, zl_clt, zl_aload, zl_getR, zl_push, (zl_vir zl_callv), zl_ret, zl_aload, zl_getR, zl_push, (zl_vir zl_calli), trivial⟩, ⟨zl_0eq, zl_aload, zl_getR, (zl_vir zl_callv), zl_aload, zl_iload, zl_push, zl_ii, (zl_vir zl_callv), zl_aload, zl_getR, zl_push, (zl_vir zl_callv), zl_goto, zl_aload, zl_getR, zl_push, (zl_vir zl_calli), zl_0eq, zl_aload, trivial⟩, ⟨zl_getR, (zl_vir zl_callv), zl_aload, zl_iload, zl_push, zl_ii, (zl_vir zl_callv), zl_aload, zl_getR, zl_push, (zl_vir zl_callv), zl_goto, zl_aload, zl_getR, zl_aload, zl_getR, zl_getI, zl_push, zl_cne, zl_aload, trivial⟩, ⟨zl_getR, zl_getI, zl_goto, zl_aload, (zl_vir zl_calli), (zl_kill (zl_vir zl_callv)), zl_aload, zl_getR, (zl_vir zl_callv), zl_ret, trivial⟩, trivial⟩ k
set_option maxRecDepth 20000 in
theorem s_X2_readPart_0 {l : Launch} {D : va_G} {ad : Nat → Nat → Nat} {cy : Nat → ClassId} {L : List (Nat × Nat)} {d9 : Nat} {cE : zS} {dcE : Nat} {cP : zS} {dcP : Nat} (hE : zCk l D ad cy L dcE cE y_X2_readE (.code y_X2_readE prog_4_method_2_code 4 none)) (qcE : dcE < d9) (hPt : zCk l D ad cy L dcP cP y_X2_readPart (.code y_X2_readPart prog_4_method_6_code 2 none)) (qcP : dcP < d9) (h9 : 8 ≤ d9) (hcl : zclo L = true) (hinj : zAd ad L) {X : zCtx} (hX : zXok X "SoapTreaty$LawReader" prog_4_method_6_code 2) (hR : zRt X none) (hl : zXl X l D ad cy L (zroom d9)) : zAllR (zSo X) (p_X2_readPart_0 cE cP) := ⟨zs_aload_n (i := 0) rfl hX (by decide +kernel : decode prog_4_method_6_code 0 = .ok (.aload_n 0, 1)) rfl (by decide),
  zs_callVi hX zMV_2_49 (zXc_of hl (by omega) (k_X2_canBeginPart hcl hinj)) (by decide +kernel : decode prog_4_method_6_code 1 = .ok (.invokevirtual 49, 3)) rfl,
  zs_0ne hX (by decide +kernel : decode prog_4_method_6_code 4 = .ok (.ifCond .ne 12, 3)) (by decide) rfl,
  zs_aload_n (i := 0) rfl hX (by decide +kernel : decode prog_4_method_6_code 7 = .ok (.aload_n 0, 1)) rfl (by decide),
  zs_getR hX zFL_2_7 (by decide +kernel : decode prog_4_method_6_code 8 = .ok (.getfield 7, 3)) rfl,
  zs_pushI (zg_iconst (by decide) hX (by decide +kernel : decode prog_4_method_6_code 11 = .ok (.iconst 1, 1)) rfl),
  zs_callVv hX zMV_2_53 (zXc_of hl (by omega) (k_X10_complain hcl hinj)) (by decide +kernel : decode prog_4_method_6_code 12 = .ok (.invokevirtual 53, 3)) rfl,
  zs_ret hX hR (by decide +kernel : decode prog_4_method_6_code 15 = .ok (.return_, 1)),
  zs_iload_n (i := 1) rfl hX (by decide +kernel : decode prog_4_method_6_code 16 = .ok (.iload_n 1, 1)) rfl (by decide),
  zs_pushI (zg_iconst (by decide) hX (by decide +kernel : decode prog_4_method_6_code 17 = .ok (.iconst 5, 1)) rfl),
  zs_clt hX (by decide +kernel : decode prog_4_method_6_code 18 = .ok (.if_icmp .lt 12, 3)) (by decide) rfl,
  zs_aload_n (i := 0) rfl hX (by decide +kernel : decode prog_4_method_6_code 21 = .ok (.aload_n 0, 1)) rfl (by decide),
  zs_getR hX zFL_2_7 (by decide +kernel : decode prog_4_method_6_code 22 = .ok (.getfield 7, 3)) rfl,
  zs_pushI (zg_iconst (by decide) hX (by decide +kernel : decode prog_4_method_6_code 25 = .ok (.iconst 5, 1)) rfl),
  zs_callVv hX zMV_2_53 (zXc_of hl (by omega) (k_X10_complain hcl hinj)) (by decide +kernel : decode prog_4_method_6_code 26 = .ok (.invokevirtual 53, 3)) rfl,
  zs_ret hX hR (by decide +kernel : decode prog_4_method_6_code 29 = .ok (.return_, 1)),
  zs_aload_n (i := 0) rfl hX (by decide +kernel : decode prog_4_method_6_code 30 = .ok (.aload_n 0, 1)) rfl (by decide),
  zs_getR hX zFL_2_7 (by decide +kernel : decode prog_4_method_6_code 31 = .ok (.getfield 7, 3)) rfl,
  zs_pushI (zg_bipush (by decide) hX (by decide +kernel : decode prog_4_method_6_code 34 = .ok (.bipush 20, 2)) rfl),
  zs_callVi hX zMV_2_25 (zXc_of hl (by omega) (k_X10_isWord hcl hinj)) (by decide +kernel : decode prog_4_method_6_code 36 = .ok (.invokevirtual 25, 3)) rfl, trivial⟩
set_option maxRecDepth 20000 in
theorem s_X2_readPart_1 {l : Launch} {D : va_G} {ad : Nat → Nat → Nat} {cy : Nat → ClassId} {L : List (Nat × Nat)} {d9 : Nat} {cE : zS} {dcE : Nat} {cP : zS} {dcP : Nat} (hE : zCk l D ad cy L dcE cE y_X2_readE (.code y_X2_readE prog_4_method_2_code 4 none)) (qcE : dcE < d9) (hPt : zCk l D ad cy L dcP cP y_X2_readPart (.code y_X2_readPart prog_4_method_6_code 2 none)) (qcP : dcP < d9) (h9 : 8 ≤ d9) (hcl : zclo L = true) (hinj : zAd ad L) {X : zCtx} (hX : zXok X "SoapTreaty$LawReader" prog_4_method_6_code 2) (hR : zRt X none) (hl : zXl X l D ad cy L (zroom d9)) : zAllR (zSo X) (p_X2_readPart_1 cE cP) := ⟨zs_0eq hX (by decide +kernel : decode prog_4_method_6_code 39 = .ok (.ifCond .eq 29, 3)) (by decide) rfl,
  zs_aload_n (i := 0) rfl hX (by decide +kernel : decode prog_4_method_6_code 42 = .ok (.aload_n 0, 1)) rfl (by decide),
  zs_getR hX zFL_2_7 (by decide +kernel : decode prog_4_method_6_code 43 = .ok (.getfield 7, 3)) rfl,
  zs_callVv hX zMV_2_31 (zXc_of hl (by omega) (k_X10_step hcl hinj)) (by decide +kernel : decode prog_4_method_6_code 46 = .ok (.invokevirtual 31, 3)) rfl,
  zs_aload_n (i := 0) rfl hX (by decide +kernel : decode prog_4_method_6_code 49 = .ok (.aload_n 0, 1)) rfl (by decide),
  zs_iload_n (i := 1) rfl hX (by decide +kernel : decode prog_4_method_6_code 50 = .ok (.iload_n 1, 1)) rfl (by decide),
  zs_pushI (zg_iconst (by decide) hX (by decide +kernel : decode prog_4_method_6_code 51 = .ok (.iconst 1, 1)) rfl),
  zs_ii (zg_iadd hX (by decide +kernel : decode prog_4_method_6_code 52 = .ok (.iadd, 1)) rfl),
  zs_callVv hX zMV_2_46 (zXc_of hl (by omega) hPt) (by decide +kernel : decode prog_4_method_6_code 53 = .ok (.invokevirtual 46, 3)) rfl,
  zs_aload_n (i := 0) rfl hX (by decide +kernel : decode prog_4_method_6_code 56 = .ok (.aload_n 0, 1)) rfl (by decide),
  zs_getR hX zFL_2_13 (by decide +kernel : decode prog_4_method_6_code 57 = .ok (.getfield 13, 3)) rfl,
  zs_pushI (zg_bipush (by decide) hX (by decide +kernel : decode prog_4_method_6_code 60 = .ok (.bipush (-5), 2)) rfl),
  zs_callVv hX zMV_2_34 (zXc_of hl (by omega) (k_X1_add hcl hinj)) (by decide +kernel : decode prog_4_method_6_code 62 = .ok (.invokevirtual 34, 3)) rfl,
  zs_goto hX (by decide +kernel : decode prog_4_method_6_code 65 = .ok (.goto 80, 3)) (by decide),
  zs_aload_n (i := 0) rfl hX (by decide +kernel : decode prog_4_method_6_code 68 = .ok (.aload_n 0, 1)) rfl (by decide),
  zs_getR hX zFL_2_7 (by decide +kernel : decode prog_4_method_6_code 69 = .ok (.getfield 7, 3)) rfl,
  zs_pushI (zg_bipush (by decide) hX (by decide +kernel : decode prog_4_method_6_code 72 = .ok (.bipush 40, 2)) rfl),
  zs_callVi hX zMV_2_40 (zXc_of hl (by omega) (k_X10_isSign hcl hinj)) (by decide +kernel : decode prog_4_method_6_code 74 = .ok (.invokevirtual 40, 3)) rfl,
  zs_0eq hX (by decide +kernel : decode prog_4_method_6_code 77 = .ok (.ifCond .eq 29, 3)) (by decide) rfl,
  zs_aload_n (i := 0) rfl hX (by decide +kernel : decode prog_4_method_6_code 80 = .ok (.aload_n 0, 1)) rfl (by decide), trivial⟩
set_option maxRecDepth 20000 in
theorem s_X2_readPart_2 {l : Launch} {D : va_G} {ad : Nat → Nat → Nat} {cy : Nat → ClassId} {L : List (Nat × Nat)} {d9 : Nat} {cE : zS} {dcE : Nat} {cP : zS} {dcP : Nat} (hE : zCk l D ad cy L dcE cE y_X2_readE (.code y_X2_readE prog_4_method_2_code 4 none)) (qcE : dcE < d9) (hPt : zCk l D ad cy L dcP cP y_X2_readPart (.code y_X2_readPart prog_4_method_6_code 2 none)) (qcP : dcP < d9) (h9 : 8 ≤ d9) (hcl : zclo L = true) (hinj : zAd ad L) {X : zCtx} (hX : zXok X "SoapTreaty$LawReader" prog_4_method_6_code 2) (hR : zRt X none) (hl : zXl X l D ad cy L (zroom d9)) : zAllR (zSo X) (p_X2_readPart_2 cE cP) := ⟨zs_getR hX zFL_2_7 (by decide +kernel : decode prog_4_method_6_code 81 = .ok (.getfield 7, 3)) rfl,
  zs_callVv hX zMV_2_31 (zXc_of hl (by omega) (k_X10_step hcl hinj)) (by decide +kernel : decode prog_4_method_6_code 84 = .ok (.invokevirtual 31, 3)) rfl,
  zs_aload_n (i := 0) rfl hX (by decide +kernel : decode prog_4_method_6_code 87 = .ok (.aload_n 0, 1)) rfl (by decide),
  zs_iload_n (i := 1) rfl hX (by decide +kernel : decode prog_4_method_6_code 88 = .ok (.iload_n 1, 1)) rfl (by decide),
  zs_pushI (zg_iconst (by decide) hX (by decide +kernel : decode prog_4_method_6_code 89 = .ok (.iconst 1, 1)) rfl),
  zs_ii (zg_iadd hX (by decide +kernel : decode prog_4_method_6_code 90 = .ok (.iadd, 1)) rfl),
  zs_callVv hX zMV_2_56 (zXc_of hl (by omega) hE) (by decide +kernel : decode prog_4_method_6_code 91 = .ok (.invokevirtual 56, 3)) rfl,
  zs_aload_n (i := 0) rfl hX (by decide +kernel : decode prog_4_method_6_code 94 = .ok (.aload_n 0, 1)) rfl (by decide),
  zs_getR hX zFL_2_7 (by decide +kernel : decode prog_4_method_6_code 95 = .ok (.getfield 7, 3)) rfl,
  zs_pushI (zg_bipush (by decide) hX (by decide +kernel : decode prog_4_method_6_code 98 = .ok (.bipush 41, 2)) rfl),
  zs_callVv hX zMV_2_59 (zXc_of hl (by omega) (k_X10_takeSign hcl hinj)) (by decide +kernel : decode prog_4_method_6_code 100 = .ok (.invokevirtual 59, 3)) rfl,
  zs_goto hX (by decide +kernel : decode prog_4_method_6_code 103 = .ok (.goto 42, 3)) (by decide),
  zs_aload_n (i := 0) rfl hX (by decide +kernel : decode prog_4_method_6_code 106 = .ok (.aload_n 0, 1)) rfl (by decide),
  zs_getR hX zFL_2_13 (by decide +kernel : decode prog_4_method_6_code 107 = .ok (.getfield 13, 3)) rfl,
  zs_aload_n (i := 0) rfl hX (by decide +kernel : decode prog_4_method_6_code 110 = .ok (.aload_n 0, 1)) rfl (by decide),
  zs_getR hX zFL_2_7 (by decide +kernel : decode prog_4_method_6_code 111 = .ok (.getfield 7, 3)) rfl,
  zs_getI hX zFL_2_62 (by decide) (by decide) (by decide +kernel : decode prog_4_method_6_code 114 = .ok (.getfield 62, 3)) rfl,
  zs_pushI (zg_iconst (by decide) hX (by decide +kernel : decode prog_4_method_6_code 117 = .ok (.iconst 3, 1)) rfl),
  zs_cne hX (by decide +kernel : decode prog_4_method_6_code 118 = .ok (.if_icmp .ne 13, 3)) (by decide) rfl,
  zs_aload_n (i := 0) rfl hX (by decide +kernel : decode prog_4_method_6_code 121 = .ok (.aload_n 0, 1)) rfl (by decide), trivial⟩
set_option maxRecDepth 20000 in
theorem s_X2_readPart_3 {l : Launch} {D : va_G} {ad : Nat → Nat → Nat} {cy : Nat → ClassId} {L : List (Nat × Nat)} {d9 : Nat} {cE : zS} {dcE : Nat} {cP : zS} {dcP : Nat} (hE : zCk l D ad cy L dcE cE y_X2_readE (.code y_X2_readE prog_4_method_2_code 4 none)) (qcE : dcE < d9) (hPt : zCk l D ad cy L dcP cP y_X2_readPart (.code y_X2_readPart prog_4_method_6_code 2 none)) (qcP : dcP < d9) (h9 : 8 ≤ d9) (hcl : zclo L = true) (hinj : zAd ad L) {X : zCtx} (hX : zXok X "SoapTreaty$LawReader" prog_4_method_6_code 2) (hR : zRt X none) (hl : zXl X l D ad cy L (zroom d9)) : zAllR (zSo X) (p_X2_readPart_3 cE cP) := ⟨zs_getR hX zFL_2_7 (by decide +kernel : decode prog_4_method_6_code 122 = .ok (.getfield 7, 3)) rfl,
  zs_getI hX zFL_2_66 (by decide) (by decide) (by decide +kernel : decode prog_4_method_6_code 125 = .ok (.getfield 66, 3)) rfl,
  zs_goto hX (by decide +kernel : decode prog_4_method_6_code 128 = .ok (.goto 7, 3)) (by decide),
  zs_aload_n (i := 0) rfl hX (by decide +kernel : decode prog_4_method_6_code 131 = .ok (.aload_n 0, 1)) rfl (by decide),
  zs_callVi hX zMV_2_69 (zXc_of hl (by omega) (k_X2_factStep hcl hinj)) (by decide +kernel : decode prog_4_method_6_code 132 = .ok (.invokevirtual 69, 3)) rfl,
  zs_kill hX (by decide) (zs_callVv hX zMV_2_34 (zXc_of hl (by omega) (k_X1_add hcl hinj)) (by decide +kernel : decode prog_4_method_6_code 135 = .ok (.invokevirtual 34, 3)) rfl),
  zs_aload_n (i := 0) rfl hX (by decide +kernel : decode prog_4_method_6_code 138 = .ok (.aload_n 0, 1)) rfl (by decide),
  zs_getR hX zFL_2_7 (by decide +kernel : decode prog_4_method_6_code 139 = .ok (.getfield 7, 3)) rfl,
  zs_callVv hX zMV_2_31 (zXc_of hl (by omega) (k_X10_step hcl hinj)) (by decide +kernel : decode prog_4_method_6_code 142 = .ok (.invokevirtual 31, 3)) rfl,
  zs_ret hX hR (by decide +kernel : decode prog_4_method_6_code 145 = .ok (.return_, 1)), trivial⟩
theorem k_X2_readPart {l : Launch} {D : va_G} {ad : Nat → Nat → Nat} {cy : Nat → ClassId} {L : List (Nat × Nat)} {d9 : Nat} {cE : zS} {dcE : Nat} {cP : zS} {dcP : Nat} (hE : zCk l D ad cy L dcE cE y_X2_readE (.code y_X2_readE prog_4_method_2_code 4 none)) (qcE : dcE < d9) (hPt : zCk l D ad cy L dcP cP y_X2_readPart (.code y_X2_readPart prog_4_method_6_code 2 none)) (qcP : dcP < d9) (h9 : 8 ≤ d9) (hcl : zclo L = true) (hinj : zAd ad L) : zCk l D ad cy L d9 (zrun (p_X2_readPart cE cP) 2) y_X2_readPart (.code y_X2_readPart prog_4_method_6_code 2 none) :=
  z_met (by decide) (t_X2_readPart cE cP) hcl hinj (fun X hX hR hl k => zgs_all (Q := zSo X) (c := [(37, p_X2_readPart_0 cE cP), (81, p_X2_readPart_1 cE cP), (122, p_X2_readPart_2 cE cP), (146, p_X2_readPart_3 cE cP)]) (fun _ => zs_bad) ⟨s_X2_readPart_0 hE qcE hPt qcP h9 hcl hinj hX hR hl, s_X2_readPart_1 hE qcE hPt qcP h9 hcl hinj hX hR hl, s_X2_readPart_2 hE qcE hPt qcP h9 hcl hinj hX hR hl, s_X2_readPart_3 hE qcE hPt qcP h9 hcl hinj hX hR hl, trivial⟩ k)
set_option maxRecDepth 1000000 in
theorem e_X2_readPart_0 (cE cP : zS) (x1 : Int32) (h : zH) : zL (p_X2_readPart cE cP) 0 [some (.inr (.inr (2, 0))), some (.inl x1)] [] h = zci (f_X2_canBeginPart [(.inr (.inr (2, 0)))] h) (fun r2 h1 => zf (r2 = 0) (zcv (f_X10_complain [(.inr (.inr (10, 0))), (.inl 1)] h1) (fun h16 => some (none, h16))) (zf (x1 < 5) (zci (f_X10_isWord [(.inr (.inr (10, 0))), (.inl 20)] h1) (fun r4 h3 => zf (r4 = 0) (zci (f_X10_isSign [(.inr (.inr (10, 0))), (.inl 40)] h3) (fun r6 h5 => zf (r6 = 0) (zf ((h5.1 10 0 3) = 3) (zL (p_X2_readPart cE cP) 135 [some (.inr (.inr (2, 0))), some (.inl x1)] [(.inl (h5.1 10 0 5)), (.inr (.inr (1, 1)))] h5) (zci (f_X2_factStep [(.inr (.inr (2, 0)))] h5) (fun r8 h7 => zL (p_X2_readPart cE cP) 135 [some (.inr (.inr (2, 0))), some (.inl x1)] [(.inl r8), (.inr (.inr (1, 1)))] h7))) (zcv (f_X10_step [(.inr (.inr (10, 0)))] h5) (fun h9 => zcv (cE [(.inr (.inr (2, 0))), (.inl (x1 + (1 : Int32)))] h9) (fun h10 => zcv (f_X10_takeSign [(.inr (.inr (10, 0))), (.inl 41)] h10) (fun h11 => some (none, h11))))))) (zcv (f_X10_step [(.inr (.inr (10, 0)))] h3) (fun h12 => zcv (cP [(.inr (.inr (2, 0))), (.inl (x1 + (1 : Int32)))] h12) (fun h13 => zcv (f_X1_add [(.inr (.inr (1, 1))), (.inl zm5)] h13) (fun h14 => some (none, h14))))))) (zcv (f_X10_complain [(.inr (.inr (10, 0))), (.inl 5)] h1) (fun h15 => some (none, h15))))) := (zL_s (t_X2_readPart cE cP) [0, 135] 1000 0 _ _ _).trans rfl
set_option maxRecDepth 1000000 in
theorem e_X2_readPart_135 (cE cP : zS) (o1 : Option zV) (s0 : Int32) (js1 : Nat) (h : zH) : zL (p_X2_readPart cE cP) 135 [some (.inr (.inr (2, 0))), o1] [(.inl s0), (.inr (.inr (1, js1)))] h = zcv (f_X1_add [(.inr (.inr (1, js1))), (.inl s0)] h) (fun h1 => zcv (f_X10_step [(.inr (.inr (10, 0)))] h1) (fun h2 => some (none, h2))) := (zL_s (t_X2_readPart cE cP) [0, 135] 1000 135 _ _ _).trans rfl
/-! SoapTreaty$LawReader.readProduct(I)V -/
noncomputable def p_X2_readProduct_0 (cP : zS) : List (Nat × zO) := [(0, zo_aload 0 1),
  (1, zo_iload 1 2),
  (2, zo_vir 2 2 (zo_callv cP 2 5)),
  (5, zo_push (.inl 0) 6),
  (6, zo_istore 2 7),
  (7, zo_iload 2 8),
  (8, zo_push (.inl 1000) 11),
  (11, zo_cge 53 14),
  (14, zo_aload 0 15),
  (15, zo_getR 2 10 none 18),
  (18, zo_push (.inl 42) 20),
  (20, zo_vir 10 2 (zo_calli (f_X10_isSign) 2 23)),
  (23, zo_0eq 53 26),
  (26, zo_aload 0 27),
  (27, zo_getR 2 10 none 30),
  (30, zo_vir 10 1 (zo_callv (f_X10_step) 1 33)),
  (33, zo_aload 0 34),
  (34, zo_iload 1 35),
  (35, zo_vir 2 2 (zo_callv cP 2 38)),
  (38, zo_aload 0 39)]
noncomputable def p_X2_readProduct_1 (cP : zS) : List (Nat × zO) := [(39, zo_getR 2 1 (some 1) 42),
  (42, zo_push (.inl zm12) 44),
  (44, zo_vir 1 2 (zo_callv (f_X1_add) 2 47)),
  (47, zo_iinc 2 1 50),
  (50, zo_goto 7),
  (53, zo_ret)]
noncomputable def p_X2_readProduct (cP : zS) : Nat → zO := zgs [(39, p_X2_readProduct_0 cP), (54, p_X2_readProduct_1 cP)]
theorem t_X2_readProduct (cP : zS) : ∀ k, zTl (p_X2_readProduct cP k) := fun k => zgs_all (c := [(39, p_X2_readProduct_0 cP), (54, p_X2_readProduct_1 cP)]) (fun _ => zl_bad) ⟨⟨zl_aload, zl_iload, (zl_vir zl_callv), zl_push, zl_istore, zl_iload, zl_push, zl_cge, zl_aload, zl_getR, zl_push, (zl_vir zl_calli), zl_0eq, zl_aload, zl_getR, (zl_vir zl_callv), zl_aload, zl_iload, (zl_vir zl_callv), zl_aload, trivial⟩, ⟨zl_getR, zl_push, (zl_vir zl_callv), zl_iinc, zl_goto, zl_ret, trivial⟩, trivial⟩ k
set_option maxRecDepth 20000 in
theorem s_X2_readProduct_0 {l : Launch} {D : va_G} {ad : Nat → Nat → Nat} {cy : Nat → ClassId} {L : List (Nat × Nat)} {d9 : Nat} {cP : zS} {dcP : Nat} (hPt : zCk l D ad cy L dcP cP y_X2_readPart (.code y_X2_readPart prog_4_method_6_code 2 none)) (qcP : dcP < d9) (h9 : 8 ≤ d9) (hcl : zclo L = true) (hinj : zAd ad L) {X : zCtx} (hX : zXok X "SoapTreaty$LawReader" prog_4_method_5_code 3) (hR : zRt X none) (hl : zXl X l D ad cy L (zroom d9)) : zAllR (zSo X) (p_X2_readProduct_0 cP) := ⟨zs_aload_n (i := 0) rfl hX (by decide +kernel : decode prog_4_method_5_code 0 = .ok (.aload_n 0, 1)) rfl (by decide),
  zs_iload_n (i := 1) rfl hX (by decide +kernel : decode prog_4_method_5_code 1 = .ok (.iload_n 1, 1)) rfl (by decide),
  zs_callVv hX zMV_2_46 (zXc_of hl (by omega) hPt) (by decide +kernel : decode prog_4_method_5_code 2 = .ok (.invokevirtual 46, 3)) rfl,
  zs_pushI (zg_iconst (by decide) hX (by decide +kernel : decode prog_4_method_5_code 5 = .ok (.iconst 0, 1)) rfl),
  zs_istore_n (i := 2) rfl hX (by decide +kernel : decode prog_4_method_5_code 6 = .ok (.istore_n 2, 1)) rfl (by decide),
  zs_iload_n (i := 2) rfl hX (by decide +kernel : decode prog_4_method_5_code 7 = .ok (.iload_n 2, 1)) rfl (by decide),
  zs_pushI (zg_sipush (by decide) hX (by decide +kernel : decode prog_4_method_5_code 8 = .ok (.sipush 1000, 3)) rfl),
  zs_cge hX (by decide +kernel : decode prog_4_method_5_code 11 = .ok (.if_icmp .ge 42, 3)) (by decide) rfl,
  zs_aload_n (i := 0) rfl hX (by decide +kernel : decode prog_4_method_5_code 14 = .ok (.aload_n 0, 1)) rfl (by decide),
  zs_getR hX zFL_2_7 (by decide +kernel : decode prog_4_method_5_code 15 = .ok (.getfield 7, 3)) rfl,
  zs_pushI (zg_bipush (by decide) hX (by decide +kernel : decode prog_4_method_5_code 18 = .ok (.bipush 42, 2)) rfl),
  zs_callVi hX zMV_2_40 (zXc_of hl (by omega) (k_X10_isSign hcl hinj)) (by decide +kernel : decode prog_4_method_5_code 20 = .ok (.invokevirtual 40, 3)) rfl,
  zs_0eq hX (by decide +kernel : decode prog_4_method_5_code 23 = .ok (.ifCond .eq 30, 3)) (by decide) rfl,
  zs_aload_n (i := 0) rfl hX (by decide +kernel : decode prog_4_method_5_code 26 = .ok (.aload_n 0, 1)) rfl (by decide),
  zs_getR hX zFL_2_7 (by decide +kernel : decode prog_4_method_5_code 27 = .ok (.getfield 7, 3)) rfl,
  zs_callVv hX zMV_2_31 (zXc_of hl (by omega) (k_X10_step hcl hinj)) (by decide +kernel : decode prog_4_method_5_code 30 = .ok (.invokevirtual 31, 3)) rfl,
  zs_aload_n (i := 0) rfl hX (by decide +kernel : decode prog_4_method_5_code 33 = .ok (.aload_n 0, 1)) rfl (by decide),
  zs_iload_n (i := 1) rfl hX (by decide +kernel : decode prog_4_method_5_code 34 = .ok (.iload_n 1, 1)) rfl (by decide),
  zs_callVv hX zMV_2_46 (zXc_of hl (by omega) hPt) (by decide +kernel : decode prog_4_method_5_code 35 = .ok (.invokevirtual 46, 3)) rfl,
  zs_aload_n (i := 0) rfl hX (by decide +kernel : decode prog_4_method_5_code 38 = .ok (.aload_n 0, 1)) rfl (by decide), trivial⟩
set_option maxRecDepth 20000 in
theorem s_X2_readProduct_1 {l : Launch} {D : va_G} {ad : Nat → Nat → Nat} {cy : Nat → ClassId} {L : List (Nat × Nat)} {d9 : Nat} {cP : zS} {dcP : Nat} (hPt : zCk l D ad cy L dcP cP y_X2_readPart (.code y_X2_readPart prog_4_method_6_code 2 none)) (qcP : dcP < d9) (h9 : 8 ≤ d9) (hcl : zclo L = true) (hinj : zAd ad L) {X : zCtx} (hX : zXok X "SoapTreaty$LawReader" prog_4_method_5_code 3) (hR : zRt X none) (hl : zXl X l D ad cy L (zroom d9)) : zAllR (zSo X) (p_X2_readProduct_1 cP) := ⟨zs_getR hX zFL_2_13 (by decide +kernel : decode prog_4_method_5_code 39 = .ok (.getfield 13, 3)) rfl,
  zs_pushI (zg_bipush (by decide) hX (by decide +kernel : decode prog_4_method_5_code 42 = .ok (.bipush (-12), 2)) rfl),
  zs_callVv hX zMV_2_34 (zXc_of hl (by omega) (k_X1_add hcl hinj)) (by decide +kernel : decode prog_4_method_5_code 44 = .ok (.invokevirtual 34, 3)) rfl,
  zs_iinc hX (by decide +kernel : decode prog_4_method_5_code 47 = .ok (.iinc 2 1, 3)) (by decide) rfl (by decide),
  zs_goto hX (by decide +kernel : decode prog_4_method_5_code 50 = .ok (.goto (-43), 3)) (by decide),
  zs_ret hX hR (by decide +kernel : decode prog_4_method_5_code 53 = .ok (.return_, 1)), trivial⟩
theorem k_X2_readProduct {l : Launch} {D : va_G} {ad : Nat → Nat → Nat} {cy : Nat → ClassId} {L : List (Nat × Nat)} {d9 : Nat} {cP : zS} {dcP : Nat} (hPt : zCk l D ad cy L dcP cP y_X2_readPart (.code y_X2_readPart prog_4_method_6_code 2 none)) (qcP : dcP < d9) (h9 : 8 ≤ d9) (hcl : zclo L = true) (hinj : zAd ad L) : zCk l D ad cy L d9 (zrun (p_X2_readProduct cP) 3) y_X2_readProduct (.code y_X2_readProduct prog_4_method_5_code 3 none) :=
  z_met (by decide) (t_X2_readProduct cP) hcl hinj (fun X hX hR hl k => zgs_all (Q := zSo X) (c := [(39, p_X2_readProduct_0 cP), (54, p_X2_readProduct_1 cP)]) (fun _ => zs_bad) ⟨s_X2_readProduct_0 hPt qcP h9 hcl hinj hX hR hl, s_X2_readProduct_1 hPt qcP h9 hcl hinj hX hR hl, trivial⟩ k)
set_option maxRecDepth 1000000 in
theorem e_X2_readProduct_0 (cP : zS) (x1 : Int32) (h : zH) : zL (p_X2_readProduct cP) 0 [some (.inr (.inr (2, 0))), some (.inl x1), none] [] h = zcv (cP [(.inr (.inr (2, 0))), (.inl x1)] h) (fun h1 => zL (p_X2_readProduct cP) 7 [some (.inr (.inr (2, 0))), some (.inl x1), some (.inl 0)] [] h1) := (zL_s (t_X2_readProduct cP) [0, 7] 1000 0 _ _ _).trans rfl
set_option maxRecDepth 1000000 in
theorem e_X2_readProduct_7 (cP : zS) (x1 : Int32) (x2 : Int32) (h : zH) : zL (p_X2_readProduct cP) 7 [some (.inr (.inr (2, 0))), some (.inl x1), some (.inl x2)] [] h = zf (x2 < 1000) (zci (f_X10_isSign [(.inr (.inr (10, 0))), (.inl 42)] h) (fun r2 h1 => zf (r2 = 0) (some (none, h1)) (zcv (f_X10_step [(.inr (.inr (10, 0)))] h1) (fun h3 => zcv (cP [(.inr (.inr (2, 0))), (.inl x1)] h3) (fun h4 => zcv (f_X1_add [(.inr (.inr (1, 1))), (.inl zm12)] h4) (fun h5 => zL (p_X2_readProduct cP) 7 [some (.inr (.inr (2, 0))), some (.inl x1), some (.inl (x2 + 1))] [] h5)))))) (some (none, h)) := (zL_s (t_X2_readProduct cP) [0, 7] 1000 7 _ _ _).trans rfl
theorem zMV_2_43 : zMV "SoapTreaty$LawReader" 43 2 y_X2_readProduct prog_4_method_5_code 3 none 1 := ⟨⟨zT_of 684 (by decide +kernel) (by decide +kernel), zT_of 686 (by decide +kernel) (by decide +kernel), zT_of 13 (by decide +kernel) (by decide +kernel), zT_of 113 (by decide +kernel) (by decide +kernel), zT_of 687 (by decide +kernel) (by decide +kernel)⟩, by decide, rfl, ⟨zT2, 2, rfl⟩, by decide, by decide, by decide +kernel⟩
/-! SoapTreaty$LawReader.readSum(I)V -/
noncomputable def p_X2_readSum_0 (cD : zS) : List (Nat × zO) := [(0, zo_aload 0 1),
  (1, zo_iload 1 2),
  (2, zo_vir 2 2 (zo_callv cD 2 5)),
  (5, zo_push (.inl 0) 6),
  (6, zo_istore 2 7),
  (7, zo_kill [3] (zo_iload 2 8)),
  (8, zo_push (.inl 1000) 11),
  (11, zo_cge 84 14),
  (14, zo_aload 0 15),
  (15, zo_getR 2 10 none 18),
  (18, zo_push (.inl 43) 20),
  (20, zo_vir 10 2 (zo_calli (f_X10_isSign) 2 23)),
  (23, zo_0ne 38 26),
  (26, zo_aload 0 27),
  (27, zo_getR 2 10 none 30),
  (30, zo_push (.inl 45) 32),
  (32, zo_vir 10 2 (zo_calli (f_X10_isSign) 2 35)),
  (35, zo_0eq 84 38),
  (38, zo_aload 0 39),
  (39, zo_getR 2 10 none 42)]
noncomputable def p_X2_readSum_1 (cD : zS) : List (Nat × zO) := [(42, zo_push (.inl 43) 44),
  (44, zo_vir 10 2 (zo_calli (f_X10_isSign) 2 47)),
  (47, zo_0eq 55 50),
  (50, zo_push (.inl zm10) 52),
  (52, zo_goto 57),
  (55, zo_push (.inl zm11) 57),
  (57, zo_kill [3] (zo_istore 3 58)),
  (58, zo_aload 0 59),
  (59, zo_getR 2 10 none 62),
  (62, zo_vir 10 1 (zo_callv (f_X10_step) 1 65)),
  (65, zo_aload 0 66),
  (66, zo_iload 1 67),
  (67, zo_vir 2 2 (zo_callv cD 2 70)),
  (70, zo_aload 0 71),
  (71, zo_getR 2 1 (some 1) 74),
  (74, zo_iload 3 75),
  (75, zo_vir 1 2 (zo_callv (f_X1_add) 2 78)),
  (78, zo_iinc 2 1 81),
  (81, zo_goto 7),
  (84, zo_ret)]
noncomputable def p_X2_readSum (cD : zS) : Nat → zO := zgs [(40, p_X2_readSum_0 cD), (85, p_X2_readSum_1 cD)]
theorem t_X2_readSum (cD : zS) : ∀ k, zTl (p_X2_readSum cD k) := fun k => zgs_all (c := [(40, p_X2_readSum_0 cD), (85, p_X2_readSum_1 cD)]) (fun _ => zl_bad) ⟨⟨zl_aload, zl_iload, (zl_vir zl_callv), zl_push, zl_istore, (zl_kill zl_iload), zl_push, zl_cge, zl_aload, zl_getR, zl_push, (zl_vir zl_calli), zl_0ne, zl_aload, zl_getR, zl_push, (zl_vir zl_calli), zl_0eq, zl_aload, zl_getR, trivial⟩, ⟨zl_push, (zl_vir zl_calli), zl_0eq, zl_push, zl_goto, zl_push, (zl_kill zl_istore), zl_aload, zl_getR, (zl_vir zl_callv), zl_aload, zl_iload, (zl_vir zl_callv), zl_aload, zl_getR, zl_iload, (zl_vir zl_callv), zl_iinc, zl_goto, zl_ret, trivial⟩, trivial⟩ k
set_option maxRecDepth 20000 in
theorem s_X2_readSum_0 {l : Launch} {D : va_G} {ad : Nat → Nat → Nat} {cy : Nat → ClassId} {L : List (Nat × Nat)} {d9 : Nat} {cD : zS} {dcD : Nat} (hDp : zCk l D ad cy L dcD cD y_X2_readProduct (.code y_X2_readProduct prog_4_method_5_code 3 none)) (qcD : dcD < d9) (h9 : 8 ≤ d9) (hcl : zclo L = true) (hinj : zAd ad L) {X : zCtx} (hX : zXok X "SoapTreaty$LawReader" prog_4_method_4_code 4) (hR : zRt X none) (hl : zXl X l D ad cy L (zroom d9)) : zAllR (zSo X) (p_X2_readSum_0 cD) := ⟨zs_aload_n (i := 0) rfl hX (by decide +kernel : decode prog_4_method_4_code 0 = .ok (.aload_n 0, 1)) rfl (by decide),
  zs_iload_n (i := 1) rfl hX (by decide +kernel : decode prog_4_method_4_code 1 = .ok (.iload_n 1, 1)) rfl (by decide),
  zs_callVv hX zMV_2_43 (zXc_of hl (by omega) hDp) (by decide +kernel : decode prog_4_method_4_code 2 = .ok (.invokevirtual 43, 3)) rfl,
  zs_pushI (zg_iconst (by decide) hX (by decide +kernel : decode prog_4_method_4_code 5 = .ok (.iconst 0, 1)) rfl),
  zs_istore_n (i := 2) rfl hX (by decide +kernel : decode prog_4_method_4_code 6 = .ok (.istore_n 2, 1)) rfl (by decide),
  zs_kill hX (by decide) (zs_iload_n (i := 2) rfl hX (by decide +kernel : decode prog_4_method_4_code 7 = .ok (.iload_n 2, 1)) rfl (by decide)),
  zs_pushI (zg_sipush (by decide) hX (by decide +kernel : decode prog_4_method_4_code 8 = .ok (.sipush 1000, 3)) rfl),
  zs_cge hX (by decide +kernel : decode prog_4_method_4_code 11 = .ok (.if_icmp .ge 73, 3)) (by decide) rfl,
  zs_aload_n (i := 0) rfl hX (by decide +kernel : decode prog_4_method_4_code 14 = .ok (.aload_n 0, 1)) rfl (by decide),
  zs_getR hX zFL_2_7 (by decide +kernel : decode prog_4_method_4_code 15 = .ok (.getfield 7, 3)) rfl,
  zs_pushI (zg_bipush (by decide) hX (by decide +kernel : decode prog_4_method_4_code 18 = .ok (.bipush 43, 2)) rfl),
  zs_callVi hX zMV_2_40 (zXc_of hl (by omega) (k_X10_isSign hcl hinj)) (by decide +kernel : decode prog_4_method_4_code 20 = .ok (.invokevirtual 40, 3)) rfl,
  zs_0ne hX (by decide +kernel : decode prog_4_method_4_code 23 = .ok (.ifCond .ne 15, 3)) (by decide) rfl,
  zs_aload_n (i := 0) rfl hX (by decide +kernel : decode prog_4_method_4_code 26 = .ok (.aload_n 0, 1)) rfl (by decide),
  zs_getR hX zFL_2_7 (by decide +kernel : decode prog_4_method_4_code 27 = .ok (.getfield 7, 3)) rfl,
  zs_pushI (zg_bipush (by decide) hX (by decide +kernel : decode prog_4_method_4_code 30 = .ok (.bipush 45, 2)) rfl),
  zs_callVi hX zMV_2_40 (zXc_of hl (by omega) (k_X10_isSign hcl hinj)) (by decide +kernel : decode prog_4_method_4_code 32 = .ok (.invokevirtual 40, 3)) rfl,
  zs_0eq hX (by decide +kernel : decode prog_4_method_4_code 35 = .ok (.ifCond .eq 49, 3)) (by decide) rfl,
  zs_aload_n (i := 0) rfl hX (by decide +kernel : decode prog_4_method_4_code 38 = .ok (.aload_n 0, 1)) rfl (by decide),
  zs_getR hX zFL_2_7 (by decide +kernel : decode prog_4_method_4_code 39 = .ok (.getfield 7, 3)) rfl, trivial⟩
set_option maxRecDepth 20000 in
theorem s_X2_readSum_1 {l : Launch} {D : va_G} {ad : Nat → Nat → Nat} {cy : Nat → ClassId} {L : List (Nat × Nat)} {d9 : Nat} {cD : zS} {dcD : Nat} (hDp : zCk l D ad cy L dcD cD y_X2_readProduct (.code y_X2_readProduct prog_4_method_5_code 3 none)) (qcD : dcD < d9) (h9 : 8 ≤ d9) (hcl : zclo L = true) (hinj : zAd ad L) {X : zCtx} (hX : zXok X "SoapTreaty$LawReader" prog_4_method_4_code 4) (hR : zRt X none) (hl : zXl X l D ad cy L (zroom d9)) : zAllR (zSo X) (p_X2_readSum_1 cD) := ⟨zs_pushI (zg_bipush (by decide) hX (by decide +kernel : decode prog_4_method_4_code 42 = .ok (.bipush 43, 2)) rfl),
  zs_callVi hX zMV_2_40 (zXc_of hl (by omega) (k_X10_isSign hcl hinj)) (by decide +kernel : decode prog_4_method_4_code 44 = .ok (.invokevirtual 40, 3)) rfl,
  zs_0eq hX (by decide +kernel : decode prog_4_method_4_code 47 = .ok (.ifCond .eq 8, 3)) (by decide) rfl,
  zs_pushI (zg_bipush (by decide) hX (by decide +kernel : decode prog_4_method_4_code 50 = .ok (.bipush (-10), 2)) rfl),
  zs_goto hX (by decide +kernel : decode prog_4_method_4_code 52 = .ok (.goto 5, 3)) (by decide),
  zs_pushI (zg_bipush (by decide) hX (by decide +kernel : decode prog_4_method_4_code 55 = .ok (.bipush (-11), 2)) rfl),
  zs_kill hX (by decide) (zs_istore_n (i := 3) rfl hX (by decide +kernel : decode prog_4_method_4_code 57 = .ok (.istore_n 3, 1)) rfl (by decide)),
  zs_aload_n (i := 0) rfl hX (by decide +kernel : decode prog_4_method_4_code 58 = .ok (.aload_n 0, 1)) rfl (by decide),
  zs_getR hX zFL_2_7 (by decide +kernel : decode prog_4_method_4_code 59 = .ok (.getfield 7, 3)) rfl,
  zs_callVv hX zMV_2_31 (zXc_of hl (by omega) (k_X10_step hcl hinj)) (by decide +kernel : decode prog_4_method_4_code 62 = .ok (.invokevirtual 31, 3)) rfl,
  zs_aload_n (i := 0) rfl hX (by decide +kernel : decode prog_4_method_4_code 65 = .ok (.aload_n 0, 1)) rfl (by decide),
  zs_iload_n (i := 1) rfl hX (by decide +kernel : decode prog_4_method_4_code 66 = .ok (.iload_n 1, 1)) rfl (by decide),
  zs_callVv hX zMV_2_43 (zXc_of hl (by omega) hDp) (by decide +kernel : decode prog_4_method_4_code 67 = .ok (.invokevirtual 43, 3)) rfl,
  zs_aload_n (i := 0) rfl hX (by decide +kernel : decode prog_4_method_4_code 70 = .ok (.aload_n 0, 1)) rfl (by decide),
  zs_getR hX zFL_2_13 (by decide +kernel : decode prog_4_method_4_code 71 = .ok (.getfield 13, 3)) rfl,
  zs_iload_n (i := 3) rfl hX (by decide +kernel : decode prog_4_method_4_code 74 = .ok (.iload_n 3, 1)) rfl (by decide),
  zs_callVv hX zMV_2_34 (zXc_of hl (by omega) (k_X1_add hcl hinj)) (by decide +kernel : decode prog_4_method_4_code 75 = .ok (.invokevirtual 34, 3)) rfl,
  zs_iinc hX (by decide +kernel : decode prog_4_method_4_code 78 = .ok (.iinc 2 1, 3)) (by decide) rfl (by decide),
  zs_goto hX (by decide +kernel : decode prog_4_method_4_code 81 = .ok (.goto (-74), 3)) (by decide),
  zs_ret hX hR (by decide +kernel : decode prog_4_method_4_code 84 = .ok (.return_, 1)), trivial⟩
theorem k_X2_readSum {l : Launch} {D : va_G} {ad : Nat → Nat → Nat} {cy : Nat → ClassId} {L : List (Nat × Nat)} {d9 : Nat} {cD : zS} {dcD : Nat} (hDp : zCk l D ad cy L dcD cD y_X2_readProduct (.code y_X2_readProduct prog_4_method_5_code 3 none)) (qcD : dcD < d9) (h9 : 8 ≤ d9) (hcl : zclo L = true) (hinj : zAd ad L) : zCk l D ad cy L d9 (zrun (p_X2_readSum cD) 4) y_X2_readSum (.code y_X2_readSum prog_4_method_4_code 4 none) :=
  z_met (by decide) (t_X2_readSum cD) hcl hinj (fun X hX hR hl k => zgs_all (Q := zSo X) (c := [(40, p_X2_readSum_0 cD), (85, p_X2_readSum_1 cD)]) (fun _ => zs_bad) ⟨s_X2_readSum_0 hDp qcD h9 hcl hinj hX hR hl, s_X2_readSum_1 hDp qcD h9 hcl hinj hX hR hl, trivial⟩ k)
set_option maxRecDepth 1000000 in
theorem e_X2_readSum_0 (cD : zS) (x1 : Int32) (h : zH) : zL (p_X2_readSum cD) 0 [some (.inr (.inr (2, 0))), some (.inl x1), none, none] [] h = zcv (cD [(.inr (.inr (2, 0))), (.inl x1)] h) (fun h1 => zL (p_X2_readSum cD) 7 [some (.inr (.inr (2, 0))), some (.inl x1), some (.inl 0), none] [] h1) := (zL_s (t_X2_readSum cD) [0, 7, 57] 1000 0 _ _ _).trans rfl
set_option maxRecDepth 1000000 in
theorem e_X2_readSum_7 (cD : zS) (x1 : Int32) (x2 : Int32) (o3 : Option zV) (h : zH) : zL (p_X2_readSum cD) 7 [some (.inr (.inr (2, 0))), some (.inl x1), some (.inl x2), o3] [] h = zf (x2 < 1000) (zci (f_X10_isSign [(.inr (.inr (10, 0))), (.inl 43)] h) (fun r2 h1 => zf (r2 = 0) (zci (f_X10_isSign [(.inr (.inr (10, 0))), (.inl 45)] h1) (fun r6 h5 => zf (r6 = 0) (some (none, h5)) (zci (f_X10_isSign [(.inr (.inr (10, 0))), (.inl 43)] h5) (fun r8 h7 => zf (r8 = 0) (zL (p_X2_readSum cD) 57 [some (.inr (.inr (2, 0))), some (.inl x1), some (.inl x2), none] [(.inl zm11)] h7) (zL (p_X2_readSum cD) 57 [some (.inr (.inr (2, 0))), some (.inl x1), some (.inl x2), none] [(.inl zm10)] h7))))) (zci (f_X10_isSign [(.inr (.inr (10, 0))), (.inl 43)] h1) (fun r4 h3 => zf (r4 = 0) (zL (p_X2_readSum cD) 57 [some (.inr (.inr (2, 0))), some (.inl x1), some (.inl x2), none] [(.inl zm11)] h3) (zL (p_X2_readSum cD) 57 [some (.inr (.inr (2, 0))), some (.inl x1), some (.inl x2), none] [(.inl zm10)] h3))))) (some (none, h)) := (zL_s (t_X2_readSum cD) [0, 7, 57] 1000 7 _ _ _).trans rfl
set_option maxRecDepth 1000000 in
theorem e_X2_readSum_57 (cD : zS) (x1 : Int32) (x2 : Int32) (o3 : Option zV) (s0 : Int32) (h : zH) : zL (p_X2_readSum cD) 57 [some (.inr (.inr (2, 0))), some (.inl x1), some (.inl x2), o3] [(.inl s0)] h = zcv (f_X10_step [(.inr (.inr (10, 0)))] h) (fun h1 => zcv (cD [(.inr (.inr (2, 0))), (.inl x1)] h1) (fun h2 => zcv (f_X1_add [(.inr (.inr (1, 1))), (.inl s0)] h2) (fun h3 => zL (p_X2_readSum cD) 7 [some (.inr (.inr (2, 0))), some (.inl x1), some (.inl (x2 + 1)), some (.inl s0)] [] h3))) := (zL_s (t_X2_readSum cD) [0, 7, 57] 1000 57 _ _ _).trans rfl
theorem zMV_2_37 : zMV "SoapTreaty$LawReader" 37 2 y_X2_readSum prog_4_method_4_code 4 none 1 := ⟨⟨zT_of 680 (by decide +kernel) (by decide +kernel), zT_of 682 (by decide +kernel) (by decide +kernel), zT_of 12 (by decide +kernel) (by decide +kernel), zT_of 113 (by decide +kernel) (by decide +kernel), zT_of 683 (by decide +kernel) (by decide +kernel)⟩, by decide, rfl, ⟨zT2, 2, rfl⟩, by decide, by decide, by decide +kernel⟩
/-! SoapTreaty$LawReader.readTest(I)V -/
noncomputable def p_X2_readTest_0 (cS : zS) : List (Nat × zO) := [(0, zo_aload 0 1),
  (1, zo_iload 1 2),
  (2, zo_vir 2 2 (zo_callv cS 2 5)),
  (5, zo_aload 0 6),
  (6, zo_getR 2 10 none 9),
  (9, zo_push (.inl 60) 11),
  (11, zo_vir 10 2 (zo_calli (f_X10_isSign) 2 14)),
  (14, zo_0ne 29 17),
  (17, zo_aload 0 18),
  (18, zo_getR 2 10 none 21),
  (21, zo_push (.inl 61) 23),
  (23, zo_vir 10 2 (zo_calli (f_X10_isSign) 2 26)),
  (26, zo_0eq 69 29),
  (29, zo_aload 0 30),
  (30, zo_getR 2 10 none 33),
  (33, zo_push (.inl 60) 35),
  (35, zo_vir 10 2 (zo_calli (f_X10_isSign) 2 38)),
  (38, zo_0eq 46 41),
  (41, zo_push (.inl zm8) 43),
  (43, zo_goto 48)]
noncomputable def p_X2_readTest_1 (cS : zS) : List (Nat × zO) := [(46, zo_push (.inl zm9) 48),
  (48, zo_kill [2] (zo_istore 2 49)),
  (49, zo_aload 0 50),
  (50, zo_getR 2 10 none 53),
  (53, zo_vir 10 1 (zo_callv (f_X10_step) 1 56)),
  (56, zo_aload 0 57),
  (57, zo_iload 1 58),
  (58, zo_vir 2 2 (zo_callv cS 2 61)),
  (61, zo_aload 0 62),
  (62, zo_getR 2 1 (some 1) 65),
  (65, zo_iload 2 66),
  (66, zo_vir 1 2 (zo_callv (f_X1_add) 2 69)),
  (69, zo_ret)]
noncomputable def p_X2_readTest (cS : zS) : Nat → zO := zgs [(44, p_X2_readTest_0 cS), (70, p_X2_readTest_1 cS)]
theorem t_X2_readTest (cS : zS) : ∀ k, zTl (p_X2_readTest cS k) := fun k => zgs_all (c := [(44, p_X2_readTest_0 cS), (70, p_X2_readTest_1 cS)]) (fun _ => zl_bad) ⟨⟨zl_aload, zl_iload, (zl_vir zl_callv), zl_aload, zl_getR, zl_push, (zl_vir zl_calli), zl_0ne, zl_aload, zl_getR, zl_push, (zl_vir zl_calli), zl_0eq, zl_aload, zl_getR, zl_push, (zl_vir zl_calli), zl_0eq, zl_push, zl_goto, trivial⟩, ⟨zl_push, (zl_kill zl_istore), zl_aload, zl_getR, (zl_vir zl_callv), zl_aload, zl_iload, (zl_vir zl_callv), zl_aload, zl_getR, zl_iload, (zl_vir zl_callv), zl_ret, trivial⟩, trivial⟩ k
set_option maxRecDepth 20000 in
theorem s_X2_readTest_0 {l : Launch} {D : va_G} {ad : Nat → Nat → Nat} {cy : Nat → ClassId} {L : List (Nat × Nat)} {d9 : Nat} {cS : zS} {dcS : Nat} (hSm : zCk l D ad cy L dcS cS y_X2_readSum (.code y_X2_readSum prog_4_method_4_code 4 none)) (qcS : dcS < d9) (h9 : 8 ≤ d9) (hcl : zclo L = true) (hinj : zAd ad L) {X : zCtx} (hX : zXok X "SoapTreaty$LawReader" prog_4_method_3_code 3) (hR : zRt X none) (hl : zXl X l D ad cy L (zroom d9)) : zAllR (zSo X) (p_X2_readTest_0 cS) := ⟨zs_aload_n (i := 0) rfl hX (by decide +kernel : decode prog_4_method_3_code 0 = .ok (.aload_n 0, 1)) rfl (by decide),
  zs_iload_n (i := 1) rfl hX (by decide +kernel : decode prog_4_method_3_code 1 = .ok (.iload_n 1, 1)) rfl (by decide),
  zs_callVv hX zMV_2_37 (zXc_of hl (by omega) hSm) (by decide +kernel : decode prog_4_method_3_code 2 = .ok (.invokevirtual 37, 3)) rfl,
  zs_aload_n (i := 0) rfl hX (by decide +kernel : decode prog_4_method_3_code 5 = .ok (.aload_n 0, 1)) rfl (by decide),
  zs_getR hX zFL_2_7 (by decide +kernel : decode prog_4_method_3_code 6 = .ok (.getfield 7, 3)) rfl,
  zs_pushI (zg_bipush (by decide) hX (by decide +kernel : decode prog_4_method_3_code 9 = .ok (.bipush 60, 2)) rfl),
  zs_callVi hX zMV_2_40 (zXc_of hl (by omega) (k_X10_isSign hcl hinj)) (by decide +kernel : decode prog_4_method_3_code 11 = .ok (.invokevirtual 40, 3)) rfl,
  zs_0ne hX (by decide +kernel : decode prog_4_method_3_code 14 = .ok (.ifCond .ne 15, 3)) (by decide) rfl,
  zs_aload_n (i := 0) rfl hX (by decide +kernel : decode prog_4_method_3_code 17 = .ok (.aload_n 0, 1)) rfl (by decide),
  zs_getR hX zFL_2_7 (by decide +kernel : decode prog_4_method_3_code 18 = .ok (.getfield 7, 3)) rfl,
  zs_pushI (zg_bipush (by decide) hX (by decide +kernel : decode prog_4_method_3_code 21 = .ok (.bipush 61, 2)) rfl),
  zs_callVi hX zMV_2_40 (zXc_of hl (by omega) (k_X10_isSign hcl hinj)) (by decide +kernel : decode prog_4_method_3_code 23 = .ok (.invokevirtual 40, 3)) rfl,
  zs_0eq hX (by decide +kernel : decode prog_4_method_3_code 26 = .ok (.ifCond .eq 43, 3)) (by decide) rfl,
  zs_aload_n (i := 0) rfl hX (by decide +kernel : decode prog_4_method_3_code 29 = .ok (.aload_n 0, 1)) rfl (by decide),
  zs_getR hX zFL_2_7 (by decide +kernel : decode prog_4_method_3_code 30 = .ok (.getfield 7, 3)) rfl,
  zs_pushI (zg_bipush (by decide) hX (by decide +kernel : decode prog_4_method_3_code 33 = .ok (.bipush 60, 2)) rfl),
  zs_callVi hX zMV_2_40 (zXc_of hl (by omega) (k_X10_isSign hcl hinj)) (by decide +kernel : decode prog_4_method_3_code 35 = .ok (.invokevirtual 40, 3)) rfl,
  zs_0eq hX (by decide +kernel : decode prog_4_method_3_code 38 = .ok (.ifCond .eq 8, 3)) (by decide) rfl,
  zs_pushI (zg_bipush (by decide) hX (by decide +kernel : decode prog_4_method_3_code 41 = .ok (.bipush (-8), 2)) rfl),
  zs_goto hX (by decide +kernel : decode prog_4_method_3_code 43 = .ok (.goto 5, 3)) (by decide), trivial⟩
set_option maxRecDepth 20000 in
theorem s_X2_readTest_1 {l : Launch} {D : va_G} {ad : Nat → Nat → Nat} {cy : Nat → ClassId} {L : List (Nat × Nat)} {d9 : Nat} {cS : zS} {dcS : Nat} (hSm : zCk l D ad cy L dcS cS y_X2_readSum (.code y_X2_readSum prog_4_method_4_code 4 none)) (qcS : dcS < d9) (h9 : 8 ≤ d9) (hcl : zclo L = true) (hinj : zAd ad L) {X : zCtx} (hX : zXok X "SoapTreaty$LawReader" prog_4_method_3_code 3) (hR : zRt X none) (hl : zXl X l D ad cy L (zroom d9)) : zAllR (zSo X) (p_X2_readTest_1 cS) := ⟨zs_pushI (zg_bipush (by decide) hX (by decide +kernel : decode prog_4_method_3_code 46 = .ok (.bipush (-9), 2)) rfl),
  zs_kill hX (by decide) (zs_istore_n (i := 2) rfl hX (by decide +kernel : decode prog_4_method_3_code 48 = .ok (.istore_n 2, 1)) rfl (by decide)),
  zs_aload_n (i := 0) rfl hX (by decide +kernel : decode prog_4_method_3_code 49 = .ok (.aload_n 0, 1)) rfl (by decide),
  zs_getR hX zFL_2_7 (by decide +kernel : decode prog_4_method_3_code 50 = .ok (.getfield 7, 3)) rfl,
  zs_callVv hX zMV_2_31 (zXc_of hl (by omega) (k_X10_step hcl hinj)) (by decide +kernel : decode prog_4_method_3_code 53 = .ok (.invokevirtual 31, 3)) rfl,
  zs_aload_n (i := 0) rfl hX (by decide +kernel : decode prog_4_method_3_code 56 = .ok (.aload_n 0, 1)) rfl (by decide),
  zs_iload_n (i := 1) rfl hX (by decide +kernel : decode prog_4_method_3_code 57 = .ok (.iload_n 1, 1)) rfl (by decide),
  zs_callVv hX zMV_2_37 (zXc_of hl (by omega) hSm) (by decide +kernel : decode prog_4_method_3_code 58 = .ok (.invokevirtual 37, 3)) rfl,
  zs_aload_n (i := 0) rfl hX (by decide +kernel : decode prog_4_method_3_code 61 = .ok (.aload_n 0, 1)) rfl (by decide),
  zs_getR hX zFL_2_13 (by decide +kernel : decode prog_4_method_3_code 62 = .ok (.getfield 13, 3)) rfl,
  zs_iload_n (i := 2) rfl hX (by decide +kernel : decode prog_4_method_3_code 65 = .ok (.iload_n 2, 1)) rfl (by decide),
  zs_callVv hX zMV_2_34 (zXc_of hl (by omega) (k_X1_add hcl hinj)) (by decide +kernel : decode prog_4_method_3_code 66 = .ok (.invokevirtual 34, 3)) rfl,
  zs_ret hX hR (by decide +kernel : decode prog_4_method_3_code 69 = .ok (.return_, 1)), trivial⟩
theorem k_X2_readTest {l : Launch} {D : va_G} {ad : Nat → Nat → Nat} {cy : Nat → ClassId} {L : List (Nat × Nat)} {d9 : Nat} {cS : zS} {dcS : Nat} (hSm : zCk l D ad cy L dcS cS y_X2_readSum (.code y_X2_readSum prog_4_method_4_code 4 none)) (qcS : dcS < d9) (h9 : 8 ≤ d9) (hcl : zclo L = true) (hinj : zAd ad L) : zCk l D ad cy L d9 (zrun (p_X2_readTest cS) 3) y_X2_readTest (.code y_X2_readTest prog_4_method_3_code 3 none) :=
  z_met (by decide) (t_X2_readTest cS) hcl hinj (fun X hX hR hl k => zgs_all (Q := zSo X) (c := [(44, p_X2_readTest_0 cS), (70, p_X2_readTest_1 cS)]) (fun _ => zs_bad) ⟨s_X2_readTest_0 hSm qcS h9 hcl hinj hX hR hl, s_X2_readTest_1 hSm qcS h9 hcl hinj hX hR hl, trivial⟩ k)
set_option maxRecDepth 1000000 in
theorem e_X2_readTest_0 (cS : zS) (x1 : Int32) (h : zH) : zL (p_X2_readTest cS) 0 [some (.inr (.inr (2, 0))), some (.inl x1), none] [] h = zcv (cS [(.inr (.inr (2, 0))), (.inl x1)] h) (fun h1 => zci (f_X10_isSign [(.inr (.inr (10, 0))), (.inl 60)] h1) (fun r3 h2 => zf (r3 = 0) (zci (f_X10_isSign [(.inr (.inr (10, 0))), (.inl 61)] h2) (fun r7 h6 => zf (r7 = 0) (some (none, h6)) (zci (f_X10_isSign [(.inr (.inr (10, 0))), (.inl 60)] h6) (fun r9 h8 => zf (r9 = 0) (zL (p_X2_readTest cS) 48 [some (.inr (.inr (2, 0))), some (.inl x1), none] [(.inl zm9)] h8) (zL (p_X2_readTest cS) 48 [some (.inr (.inr (2, 0))), some (.inl x1), none] [(.inl zm8)] h8))))) (zci (f_X10_isSign [(.inr (.inr (10, 0))), (.inl 60)] h2) (fun r5 h4 => zf (r5 = 0) (zL (p_X2_readTest cS) 48 [some (.inr (.inr (2, 0))), some (.inl x1), none] [(.inl zm9)] h4) (zL (p_X2_readTest cS) 48 [some (.inr (.inr (2, 0))), some (.inl x1), none] [(.inl zm8)] h4))))) := (zL_s (t_X2_readTest cS) [0, 48] 1000 0 _ _ _).trans rfl
set_option maxRecDepth 1000000 in
theorem e_X2_readTest_48 (cS : zS) (x1 : Int32) (o2 : Option zV) (s0 : Int32) (h : zH) : zL (p_X2_readTest cS) 48 [some (.inr (.inr (2, 0))), some (.inl x1), o2] [(.inl s0)] h = zcv (f_X10_step [(.inr (.inr (10, 0)))] h) (fun h1 => zcv (cS [(.inr (.inr (2, 0))), (.inl x1)] h1) (fun h2 => zcv (f_X1_add [(.inr (.inr (1, 1))), (.inl s0)] h2) (fun h3 => some (none, h3)))) := (zL_s (t_X2_readTest cS) [0, 48] 1000 48 _ _ _).trans rfl
theorem zMV_2_17 : zMV "SoapTreaty$LawReader" 17 2 y_X2_readTest prog_4_method_3_code 3 none 1 := ⟨⟨zT_of 676 (by decide +kernel) (by decide +kernel), zT_of 678 (by decide +kernel) (by decide +kernel), zT_of 11 (by decide +kernel) (by decide +kernel), zT_of 113 (by decide +kernel) (by decide +kernel), zT_of 679 (by decide +kernel) (by decide +kernel)⟩, by decide, rfl, ⟨zT2, 2, rfl⟩, by decide, by decide, by decide +kernel⟩
/-! SoapTreaty$LawReader.readE(I)V -/
noncomputable def p_X2_readE_0 (cT : zS) : List (Nat × zO) := [(0, zo_aload 0 1),
  (1, zo_iload 1 2),
  (2, zo_vir 2 2 (zo_callv cT 2 5)),
  (5, zo_push (.inl 0) 6),
  (6, zo_istore 2 7),
  (7, zo_kill [3] (zo_iload 2 8)),
  (8, zo_push (.inl 1000) 11),
  (11, zo_cge 84 14),
  (14, zo_aload 0 15),
  (15, zo_getR 2 10 none 18),
  (18, zo_push (.inl 21) 20),
  (20, zo_vir 10 2 (zo_calli (f_X10_isWord) 2 23)),
  (23, zo_0ne 38 26),
  (26, zo_aload 0 27),
  (27, zo_getR 2 10 none 30),
  (30, zo_push (.inl 22) 32),
  (32, zo_vir 10 2 (zo_calli (f_X10_isWord) 2 35)),
  (35, zo_0eq 84 38),
  (38, zo_aload 0 39),
  (39, zo_getR 2 10 none 42)]
noncomputable def p_X2_readE_1 (cT : zS) : List (Nat × zO) := [(42, zo_push (.inl 21) 44),
  (44, zo_vir 10 2 (zo_calli (f_X10_isWord) 2 47)),
  (47, zo_0eq 55 50),
  (50, zo_push (.inl zm6) 52),
  (52, zo_goto 57),
  (55, zo_push (.inl zm7) 57),
  (57, zo_kill [3] (zo_istore 3 58)),
  (58, zo_aload 0 59),
  (59, zo_getR 2 10 none 62),
  (62, zo_vir 10 1 (zo_callv (f_X10_step) 1 65)),
  (65, zo_aload 0 66),
  (66, zo_iload 1 67),
  (67, zo_vir 2 2 (zo_callv cT 2 70)),
  (70, zo_aload 0 71),
  (71, zo_getR 2 1 (some 1) 74),
  (74, zo_iload 3 75),
  (75, zo_vir 1 2 (zo_callv (f_X1_add) 2 78)),
  (78, zo_iinc 2 1 81),
  (81, zo_goto 7),
  (84, zo_ret)]
noncomputable def p_X2_readE (cT : zS) : Nat → zO := zgs [(40, p_X2_readE_0 cT), (85, p_X2_readE_1 cT)]
theorem t_X2_readE (cT : zS) : ∀ k, zTl (p_X2_readE cT k) := fun k => zgs_all (c := [(40, p_X2_readE_0 cT), (85, p_X2_readE_1 cT)]) (fun _ => zl_bad) ⟨⟨zl_aload, zl_iload, (zl_vir zl_callv), zl_push, zl_istore, (zl_kill zl_iload), zl_push, zl_cge, zl_aload, zl_getR, zl_push, (zl_vir zl_calli), zl_0ne, zl_aload, zl_getR, zl_push, (zl_vir zl_calli), zl_0eq, zl_aload, zl_getR, trivial⟩, ⟨zl_push, (zl_vir zl_calli), zl_0eq, zl_push, zl_goto, zl_push, (zl_kill zl_istore), zl_aload, zl_getR, (zl_vir zl_callv), zl_aload, zl_iload, (zl_vir zl_callv), zl_aload, zl_getR, zl_iload, (zl_vir zl_callv), zl_iinc, zl_goto, zl_ret, trivial⟩, trivial⟩ k
set_option maxRecDepth 20000 in
theorem s_X2_readE_0 {l : Launch} {D : va_G} {ad : Nat → Nat → Nat} {cy : Nat → ClassId} {L : List (Nat × Nat)} {d9 : Nat} {cT : zS} {dcT : Nat} (hT : zCk l D ad cy L dcT cT y_X2_readTest (.code y_X2_readTest prog_4_method_3_code 3 none)) (qcT : dcT < d9) (h9 : 8 ≤ d9) (hcl : zclo L = true) (hinj : zAd ad L) {X : zCtx} (hX : zXok X "SoapTreaty$LawReader" prog_4_method_2_code 4) (hR : zRt X none) (hl : zXl X l D ad cy L (zroom d9)) : zAllR (zSo X) (p_X2_readE_0 cT) := ⟨zs_aload_n (i := 0) rfl hX (by decide +kernel : decode prog_4_method_2_code 0 = .ok (.aload_n 0, 1)) rfl (by decide),
  zs_iload_n (i := 1) rfl hX (by decide +kernel : decode prog_4_method_2_code 1 = .ok (.iload_n 1, 1)) rfl (by decide),
  zs_callVv hX zMV_2_17 (zXc_of hl (by omega) hT) (by decide +kernel : decode prog_4_method_2_code 2 = .ok (.invokevirtual 17, 3)) rfl,
  zs_pushI (zg_iconst (by decide) hX (by decide +kernel : decode prog_4_method_2_code 5 = .ok (.iconst 0, 1)) rfl),
  zs_istore_n (i := 2) rfl hX (by decide +kernel : decode prog_4_method_2_code 6 = .ok (.istore_n 2, 1)) rfl (by decide),
  zs_kill hX (by decide) (zs_iload_n (i := 2) rfl hX (by decide +kernel : decode prog_4_method_2_code 7 = .ok (.iload_n 2, 1)) rfl (by decide)),
  zs_pushI (zg_sipush (by decide) hX (by decide +kernel : decode prog_4_method_2_code 8 = .ok (.sipush 1000, 3)) rfl),
  zs_cge hX (by decide +kernel : decode prog_4_method_2_code 11 = .ok (.if_icmp .ge 73, 3)) (by decide) rfl,
  zs_aload_n (i := 0) rfl hX (by decide +kernel : decode prog_4_method_2_code 14 = .ok (.aload_n 0, 1)) rfl (by decide),
  zs_getR hX zFL_2_7 (by decide +kernel : decode prog_4_method_2_code 15 = .ok (.getfield 7, 3)) rfl,
  zs_pushI (zg_bipush (by decide) hX (by decide +kernel : decode prog_4_method_2_code 18 = .ok (.bipush 21, 2)) rfl),
  zs_callVi hX zMV_2_25 (zXc_of hl (by omega) (k_X10_isWord hcl hinj)) (by decide +kernel : decode prog_4_method_2_code 20 = .ok (.invokevirtual 25, 3)) rfl,
  zs_0ne hX (by decide +kernel : decode prog_4_method_2_code 23 = .ok (.ifCond .ne 15, 3)) (by decide) rfl,
  zs_aload_n (i := 0) rfl hX (by decide +kernel : decode prog_4_method_2_code 26 = .ok (.aload_n 0, 1)) rfl (by decide),
  zs_getR hX zFL_2_7 (by decide +kernel : decode prog_4_method_2_code 27 = .ok (.getfield 7, 3)) rfl,
  zs_pushI (zg_bipush (by decide) hX (by decide +kernel : decode prog_4_method_2_code 30 = .ok (.bipush 22, 2)) rfl),
  zs_callVi hX zMV_2_25 (zXc_of hl (by omega) (k_X10_isWord hcl hinj)) (by decide +kernel : decode prog_4_method_2_code 32 = .ok (.invokevirtual 25, 3)) rfl,
  zs_0eq hX (by decide +kernel : decode prog_4_method_2_code 35 = .ok (.ifCond .eq 49, 3)) (by decide) rfl,
  zs_aload_n (i := 0) rfl hX (by decide +kernel : decode prog_4_method_2_code 38 = .ok (.aload_n 0, 1)) rfl (by decide),
  zs_getR hX zFL_2_7 (by decide +kernel : decode prog_4_method_2_code 39 = .ok (.getfield 7, 3)) rfl, trivial⟩
set_option maxRecDepth 20000 in
theorem s_X2_readE_1 {l : Launch} {D : va_G} {ad : Nat → Nat → Nat} {cy : Nat → ClassId} {L : List (Nat × Nat)} {d9 : Nat} {cT : zS} {dcT : Nat} (hT : zCk l D ad cy L dcT cT y_X2_readTest (.code y_X2_readTest prog_4_method_3_code 3 none)) (qcT : dcT < d9) (h9 : 8 ≤ d9) (hcl : zclo L = true) (hinj : zAd ad L) {X : zCtx} (hX : zXok X "SoapTreaty$LawReader" prog_4_method_2_code 4) (hR : zRt X none) (hl : zXl X l D ad cy L (zroom d9)) : zAllR (zSo X) (p_X2_readE_1 cT) := ⟨zs_pushI (zg_bipush (by decide) hX (by decide +kernel : decode prog_4_method_2_code 42 = .ok (.bipush 21, 2)) rfl),
  zs_callVi hX zMV_2_25 (zXc_of hl (by omega) (k_X10_isWord hcl hinj)) (by decide +kernel : decode prog_4_method_2_code 44 = .ok (.invokevirtual 25, 3)) rfl,
  zs_0eq hX (by decide +kernel : decode prog_4_method_2_code 47 = .ok (.ifCond .eq 8, 3)) (by decide) rfl,
  zs_pushI (zg_bipush (by decide) hX (by decide +kernel : decode prog_4_method_2_code 50 = .ok (.bipush (-6), 2)) rfl),
  zs_goto hX (by decide +kernel : decode prog_4_method_2_code 52 = .ok (.goto 5, 3)) (by decide),
  zs_pushI (zg_bipush (by decide) hX (by decide +kernel : decode prog_4_method_2_code 55 = .ok (.bipush (-7), 2)) rfl),
  zs_kill hX (by decide) (zs_istore_n (i := 3) rfl hX (by decide +kernel : decode prog_4_method_2_code 57 = .ok (.istore_n 3, 1)) rfl (by decide)),
  zs_aload_n (i := 0) rfl hX (by decide +kernel : decode prog_4_method_2_code 58 = .ok (.aload_n 0, 1)) rfl (by decide),
  zs_getR hX zFL_2_7 (by decide +kernel : decode prog_4_method_2_code 59 = .ok (.getfield 7, 3)) rfl,
  zs_callVv hX zMV_2_31 (zXc_of hl (by omega) (k_X10_step hcl hinj)) (by decide +kernel : decode prog_4_method_2_code 62 = .ok (.invokevirtual 31, 3)) rfl,
  zs_aload_n (i := 0) rfl hX (by decide +kernel : decode prog_4_method_2_code 65 = .ok (.aload_n 0, 1)) rfl (by decide),
  zs_iload_n (i := 1) rfl hX (by decide +kernel : decode prog_4_method_2_code 66 = .ok (.iload_n 1, 1)) rfl (by decide),
  zs_callVv hX zMV_2_17 (zXc_of hl (by omega) hT) (by decide +kernel : decode prog_4_method_2_code 67 = .ok (.invokevirtual 17, 3)) rfl,
  zs_aload_n (i := 0) rfl hX (by decide +kernel : decode prog_4_method_2_code 70 = .ok (.aload_n 0, 1)) rfl (by decide),
  zs_getR hX zFL_2_13 (by decide +kernel : decode prog_4_method_2_code 71 = .ok (.getfield 13, 3)) rfl,
  zs_iload_n (i := 3) rfl hX (by decide +kernel : decode prog_4_method_2_code 74 = .ok (.iload_n 3, 1)) rfl (by decide),
  zs_callVv hX zMV_2_34 (zXc_of hl (by omega) (k_X1_add hcl hinj)) (by decide +kernel : decode prog_4_method_2_code 75 = .ok (.invokevirtual 34, 3)) rfl,
  zs_iinc hX (by decide +kernel : decode prog_4_method_2_code 78 = .ok (.iinc 2 1, 3)) (by decide) rfl (by decide),
  zs_goto hX (by decide +kernel : decode prog_4_method_2_code 81 = .ok (.goto (-74), 3)) (by decide),
  zs_ret hX hR (by decide +kernel : decode prog_4_method_2_code 84 = .ok (.return_, 1)), trivial⟩
theorem k_X2_readE {l : Launch} {D : va_G} {ad : Nat → Nat → Nat} {cy : Nat → ClassId} {L : List (Nat × Nat)} {d9 : Nat} {cT : zS} {dcT : Nat} (hT : zCk l D ad cy L dcT cT y_X2_readTest (.code y_X2_readTest prog_4_method_3_code 3 none)) (qcT : dcT < d9) (h9 : 8 ≤ d9) (hcl : zclo L = true) (hinj : zAd ad L) : zCk l D ad cy L d9 (zrun (p_X2_readE cT) 4) y_X2_readE (.code y_X2_readE prog_4_method_2_code 4 none) :=
  z_met (by decide) (t_X2_readE cT) hcl hinj (fun X hX hR hl k => zgs_all (Q := zSo X) (c := [(40, p_X2_readE_0 cT), (85, p_X2_readE_1 cT)]) (fun _ => zs_bad) ⟨s_X2_readE_0 hT qcT h9 hcl hinj hX hR hl, s_X2_readE_1 hT qcT h9 hcl hinj hX hR hl, trivial⟩ k)
/-! the five together, by how deep they may go -/
noncomputable def fD9 (P : zS) : zS := zrun (p_X2_readProduct P) 3
noncomputable def fS9 (P : zS) : zS := zrun (p_X2_readSum (fD9 P)) 4
noncomputable def fT9 (P : zS) : zS := zrun (p_X2_readTest (fS9 P)) 3
noncomputable def fE9 (P : zS) : zS := zrun (p_X2_readE (fT9 P)) 4
noncomputable def fP9 (n : Nat) : zS := Nat.rec (fun _ _ => none) (fun _ P => zrun (p_X2_readPart (fE9 P) P) 2) n
noncomputable def f_X2_readE : zS := fE9 (fP9 8)
theorem k_E9 {l : Launch} {D : va_G} {ad : Nat → Nat → Nat} {cy : Nat → ClassId} {L : List (Nat × Nat)} {P : zS} {d : Nat} (hP : zCk l D ad cy L d P y_X2_readPart (.code y_X2_readPart prog_4_method_6_code 2 none)) (hd : 8 ≤ d) (hcl : zclo L = true) (hinj : zAd ad L) : zCk l D ad cy L (d + 4) (fE9 P) y_X2_readE (.code y_X2_readE prog_4_method_2_code 4 none) :=
  k_X2_readE (k_X2_readTest (k_X2_readSum (k_X2_readProduct hP (Nat.lt_succ_self d) (by omega) hcl hinj) (Nat.lt_succ_self (d + 1)) (by omega) hcl hinj) (Nat.lt_succ_self (d + 2)) (by omega) hcl hinj) (Nat.lt_succ_self (d + 3)) (by omega) hcl hinj
theorem k_P9 {l : Launch} {D : va_G} {ad : Nat → Nat → Nat} {cy : Nat → ClassId} {L : List (Nat × Nat)} (hcl : zclo L = true) (hinj : zAd ad L) : ∀ n : Nat, zCk l D ad cy L (8 + 5 * n) (fP9 n) y_X2_readPart (.code y_X2_readPart prog_4_method_6_code 2 none)
  | 0 => fun _ _ _ h => by cases h
  | n + 1 => k_X2_readPart (k_E9 (k_P9 hcl hinj n) (by omega) hcl hinj) (by omega) (k_P9 hcl hinj n) (by omega) (by omega) hcl hinj
theorem k_X2_readE9 {l : Launch} {D : va_G} {ad : Nat → Nat → Nat} {cy : Nat → ClassId} {L : List (Nat × Nat)} (hcl : zclo L = true) (hinj : zAd ad L) : zCk l D ad cy L 52 f_X2_readE y_X2_readE (.code y_X2_readE prog_4_method_2_code 4 none) := k_E9 (k_P9 hcl hinj 8) (by omega) hcl hinj
set_option maxRecDepth 1000000 in
theorem e_X2_readE_0 (cT : zS) (x1 : Int32) (h : zH) : zL (p_X2_readE cT) 0 [some (.inr (.inr (2, 0))), some (.inl x1), none, none] [] h = zcv (cT [(.inr (.inr (2, 0))), (.inl x1)] h) (fun h1 => zL (p_X2_readE cT) 7 [some (.inr (.inr (2, 0))), some (.inl x1), some (.inl 0), none] [] h1) := (zL_s (t_X2_readE cT) [0, 7, 57] 1000 0 _ _ _).trans rfl
set_option maxRecDepth 1000000 in
theorem e_X2_readE_7 (cT : zS) (x1 : Int32) (x2 : Int32) (o3 : Option zV) (h : zH) : zL (p_X2_readE cT) 7 [some (.inr (.inr (2, 0))), some (.inl x1), some (.inl x2), o3] [] h = zf (x2 < 1000) (zci (f_X10_isWord [(.inr (.inr (10, 0))), (.inl 21)] h) (fun r2 h1 => zf (r2 = 0) (zci (f_X10_isWord [(.inr (.inr (10, 0))), (.inl 22)] h1) (fun r6 h5 => zf (r6 = 0) (some (none, h5)) (zci (f_X10_isWord [(.inr (.inr (10, 0))), (.inl 21)] h5) (fun r8 h7 => zf (r8 = 0) (zL (p_X2_readE cT) 57 [some (.inr (.inr (2, 0))), some (.inl x1), some (.inl x2), none] [(.inl zm7)] h7) (zL (p_X2_readE cT) 57 [some (.inr (.inr (2, 0))), some (.inl x1), some (.inl x2), none] [(.inl zm6)] h7))))) (zci (f_X10_isWord [(.inr (.inr (10, 0))), (.inl 21)] h1) (fun r4 h3 => zf (r4 = 0) (zL (p_X2_readE cT) 57 [some (.inr (.inr (2, 0))), some (.inl x1), some (.inl x2), none] [(.inl zm7)] h3) (zL (p_X2_readE cT) 57 [some (.inr (.inr (2, 0))), some (.inl x1), some (.inl x2), none] [(.inl zm6)] h3))))) (some (none, h)) := (zL_s (t_X2_readE cT) [0, 7, 57] 1000 7 _ _ _).trans rfl
set_option maxRecDepth 1000000 in
theorem e_X2_readE_57 (cT : zS) (x1 : Int32) (x2 : Int32) (o3 : Option zV) (s0 : Int32) (h : zH) : zL (p_X2_readE cT) 57 [some (.inr (.inr (2, 0))), some (.inl x1), some (.inl x2), o3] [(.inl s0)] h = zcv (f_X10_step [(.inr (.inr (10, 0)))] h) (fun h1 => zcv (cT [(.inr (.inr (2, 0))), (.inl x1)] h1) (fun h2 => zcv (f_X1_add [(.inr (.inr (1, 1))), (.inl s0)] h2) (fun h3 => zL (p_X2_readE cT) 7 [some (.inr (.inr (2, 0))), some (.inl x1), some (.inl (x2 + 1)), some (.inl s0)] [] h3))) := (zL_s (t_X2_readE cT) [0, 7, 57] 1000 57 _ _ _).trans rfl
/-! SoapTreaty$Lines.add(III)V -/
def y_X3_add : MethodName := ⟨"SoapTreaty$Lines", "add", "(III)V"⟩
noncomputable def p_X3_add_0 : List (Nat × zO) := [(0, zo_aload 0 1),
  (1, zo_getI 3 0 4),
  (4, zo_push (.inl 40) 6),
  (6, zo_cge 49 9),
  (9, zo_aload 0 10),
  (10, zo_getR 3 24 none 13),
  (13, zo_aload 0 14),
  (14, zo_getI 3 0 17),
  (17, zo_iload 1 18),
  (18, zo_iast 19),
  (19, zo_aload 0 20),
  (20, zo_getR 3 25 none 23),
  (23, zo_aload 0 24),
  (24, zo_getI 3 0 27),
  (27, zo_iload 2 28),
  (28, zo_iast 29),
  (29, zo_aload 0 30),
  (30, zo_getR 3 26 none 33),
  (33, zo_aload 0 34),
  (34, zo_getI 3 0 37)]
noncomputable def p_X3_add_1 : List (Nat × zO) := [(37, zo_iload 3 38),
  (38, zo_iast 39),
  (39, zo_aload 0 40),
  (40, zo_dup 41),
  (41, zo_getI 3 0 44),
  (44, zo_push (.inl 1) 45),
  (45, zo_ii (fun x y => x + y) 46),
  (46, zo_putI 3 0 49),
  (49, zo_ret)]
noncomputable def p_X3_add : Nat → zO := zgs [(35, p_X3_add_0), (50, p_X3_add_1)]
theorem t_X3_add : ∀ k, zTl (p_X3_add k) := fun k => zgs_all (c := [(35, p_X3_add_0), (50, p_X3_add_1)]) (fun _ => zl_bad) ⟨⟨zl_aload, zl_getI, zl_push, zl_cge, zl_aload, zl_getR, zl_aload, zl_getI, zl_iload, zl_iast, zl_aload, zl_getR, zl_aload, zl_getI, zl_iload, zl_iast, zl_aload, zl_getR, zl_aload, zl_getI, trivial⟩, ⟨zl_iload, zl_iast, zl_aload, zl_dup, zl_getI, zl_push, zl_ii, zl_putI, zl_ret, trivial⟩, trivial⟩ k
noncomputable def f_X3_add : zS := zrun p_X3_add 4
set_option maxRecDepth 20000 in
theorem s_X3_add_0 {l : Launch} {D : va_G} {ad : Nat → Nat → Nat} {cy : Nat → ClassId} {L : List (Nat × Nat)} (hcl : zclo L = true) (hinj : zAd ad L) {X : zCtx} (hX : zXok X "SoapTreaty$Lines" prog_5_method_2_code 4) (hR : zRt X none) (hl : zXl X l D ad cy L (zroom 1)) : zAllR (zSo X) p_X3_add_0 := ⟨zs_aload_n (i := 0) rfl hX (by decide +kernel : decode prog_5_method_2_code 0 = .ok (.aload_n 0, 1)) rfl (by decide),
  zs_getI hX zFL_3_19 (by decide) (by decide) (by decide +kernel : decode prog_5_method_2_code 1 = .ok (.getfield 19, 3)) rfl,
  zs_pushI (zg_bipush (by decide) hX (by decide +kernel : decode prog_5_method_2_code 4 = .ok (.bipush 40, 2)) rfl),
  zs_cge hX (by decide +kernel : decode prog_5_method_2_code 6 = .ok (.if_icmp .ge 43, 3)) (by decide) rfl,
  zs_aload_n (i := 0) rfl hX (by decide +kernel : decode prog_5_method_2_code 9 = .ok (.aload_n 0, 1)) rfl (by decide),
  zs_getR hX zFL_3_9 (by decide +kernel : decode prog_5_method_2_code 10 = .ok (.getfield 9, 3)) rfl,
  zs_aload_n (i := 0) rfl hX (by decide +kernel : decode prog_5_method_2_code 13 = .ok (.aload_n 0, 1)) rfl (by decide),
  zs_getI hX zFL_3_19 (by decide) (by decide) (by decide +kernel : decode prog_5_method_2_code 14 = .ok (.getfield 19, 3)) rfl,
  zs_iload_n (i := 1) rfl hX (by decide +kernel : decode prog_5_method_2_code 17 = .ok (.iload_n 1, 1)) rfl (by decide),
  zs_iast hX (by decide +kernel : decode prog_5_method_2_code 18 = .ok (.iastore, 1)) rfl,
  zs_aload_n (i := 0) rfl hX (by decide +kernel : decode prog_5_method_2_code 19 = .ok (.aload_n 0, 1)) rfl (by decide),
  zs_getR hX zFL_3_13 (by decide +kernel : decode prog_5_method_2_code 20 = .ok (.getfield 13, 3)) rfl,
  zs_aload_n (i := 0) rfl hX (by decide +kernel : decode prog_5_method_2_code 23 = .ok (.aload_n 0, 1)) rfl (by decide),
  zs_getI hX zFL_3_19 (by decide) (by decide) (by decide +kernel : decode prog_5_method_2_code 24 = .ok (.getfield 19, 3)) rfl,
  zs_iload_n (i := 2) rfl hX (by decide +kernel : decode prog_5_method_2_code 27 = .ok (.iload_n 2, 1)) rfl (by decide),
  zs_iast hX (by decide +kernel : decode prog_5_method_2_code 28 = .ok (.iastore, 1)) rfl,
  zs_aload_n (i := 0) rfl hX (by decide +kernel : decode prog_5_method_2_code 29 = .ok (.aload_n 0, 1)) rfl (by decide),
  zs_getR hX zFL_3_16 (by decide +kernel : decode prog_5_method_2_code 30 = .ok (.getfield 16, 3)) rfl,
  zs_aload_n (i := 0) rfl hX (by decide +kernel : decode prog_5_method_2_code 33 = .ok (.aload_n 0, 1)) rfl (by decide),
  zs_getI hX zFL_3_19 (by decide) (by decide) (by decide +kernel : decode prog_5_method_2_code 34 = .ok (.getfield 19, 3)) rfl, trivial⟩
set_option maxRecDepth 20000 in
theorem s_X3_add_1 {l : Launch} {D : va_G} {ad : Nat → Nat → Nat} {cy : Nat → ClassId} {L : List (Nat × Nat)} (hcl : zclo L = true) (hinj : zAd ad L) {X : zCtx} (hX : zXok X "SoapTreaty$Lines" prog_5_method_2_code 4) (hR : zRt X none) (hl : zXl X l D ad cy L (zroom 1)) : zAllR (zSo X) p_X3_add_1 := ⟨zs_iload_n (i := 3) rfl hX (by decide +kernel : decode prog_5_method_2_code 37 = .ok (.iload_n 3, 1)) rfl (by decide),
  zs_iast hX (by decide +kernel : decode prog_5_method_2_code 38 = .ok (.iastore, 1)) rfl,
  zs_aload_n (i := 0) rfl hX (by decide +kernel : decode prog_5_method_2_code 39 = .ok (.aload_n 0, 1)) rfl (by decide),
  zs_dup hX (by decide +kernel : decode prog_5_method_2_code 40 = .ok (.dup, 1)) rfl,
  zs_getI hX zFL_3_19 (by decide) (by decide) (by decide +kernel : decode prog_5_method_2_code 41 = .ok (.getfield 19, 3)) rfl,
  zs_pushI (zg_iconst (by decide) hX (by decide +kernel : decode prog_5_method_2_code 44 = .ok (.iconst 1, 1)) rfl),
  zs_ii (zg_iadd hX (by decide +kernel : decode prog_5_method_2_code 45 = .ok (.iadd, 1)) rfl),
  zs_putI hX zFP_3_19 (by decide +kernel : decode prog_5_method_2_code 46 = .ok (.putfield 19, 3)) rfl,
  zs_ret hX hR (by decide +kernel : decode prog_5_method_2_code 49 = .ok (.return_, 1)), trivial⟩
theorem k_X3_add {l : Launch} {D : va_G} {ad : Nat → Nat → Nat} {cy : Nat → ClassId} {L : List (Nat × Nat)} (hcl : zclo L = true) (hinj : zAd ad L) : zCk l D ad cy L 1 f_X3_add y_X3_add (.code y_X3_add prog_5_method_2_code 4 none) :=
  z_met (by decide) t_X3_add hcl hinj (fun X hX hR hl k => zgs_all (Q := zSo X) (c := [(35, p_X3_add_0), (50, p_X3_add_1)]) (fun _ => zs_bad) ⟨s_X3_add_0 hcl hinj hX hR hl, s_X3_add_1 hcl hinj hX hR hl, trivial⟩ k)
set_option maxRecDepth 1000000 in
theorem e_X3_add_0 (jx0 : Nat) (x1 : Int32) (x2 : Int32) (x3 : Int32) (h : zH) : zL p_X3_add 0 [some (.inr (.inr (3, jx0))), some (.inl x1), some (.inl x2), some (.inl x3)] [] h = zf ((h.1 3 jx0 0) < 40) (zf (vp_in (h.1 3 jx0 0) 40) (zf (vp_in (h.1 3 jx0 0) 40) (zf (vp_in (h.1 3 jx0 0) 40) (some (none, (zuI (zuI (zuI (zuI h 24 jx0 (h.1 3 jx0 0).toNatClampNeg x1) 25 jx0 (h.1 3 jx0 0).toNatClampNeg x2) 26 jx0 (h.1 3 jx0 0).toNatClampNeg x3) 3 jx0 0 ((h.1 3 jx0 0) + (1 : Int32))))) none) none) none) (some (none, h)) := (zL_s (t_X3_add) [0] 1000 0 _ _ _).trans rfl
theorem g_X3_add (jx0 : Nat) (x1 : Int32) (x2 : Int32) (x3 : Int32) (h : zH) : f_X3_add [(.inr (.inr (3, jx0))), (.inl x1), (.inl x2), (.inl x3)] h = zf ((h.1 3 jx0 0) < 40) (zf (vp_in (h.1 3 jx0 0) 40) (zf (vp_in (h.1 3 jx0 0) 40) (zf (vp_in (h.1 3 jx0 0) 40) (some (none, (zuI (zuI (zuI (zuI h 24 jx0 (h.1 3 jx0 0).toNatClampNeg x1) 25 jx0 (h.1 3 jx0 0).toNatClampNeg x2) 26 jx0 (h.1 3 jx0 0).toNatClampNeg x3) 3 jx0 0 ((h.1 3 jx0 0) + (1 : Int32))))) none) none) none) (some (none, h)) := (show f_X3_add _ h = zL p_X3_add 0 _ [] h from rfl).trans (e_X3_add_0 jx0 x1 x2 x3 h)
/-! SoapTreaty$Lines.copyFrom(LSoapTreaty$Lines;)V -/
def y_X3_copyFrom : MethodName := ⟨"SoapTreaty$Lines", "copyFrom", "(LSoapTreaty$Lines;)V"⟩
noncomputable def p_X3_copyFrom_0 : List (Nat × zO) := [(0, zo_aload 0 1),
  (1, zo_aload 1 2),
  (2, zo_getI 3 0 5),
  (5, zo_putI 3 0 8),
  (8, zo_aload 1 9),
  (9, zo_getR 3 24 none 12),
  (12, zo_push (.inl 0) 13),
  (13, zo_aload 0 14),
  (14, zo_getR 3 24 none 17),
  (17, zo_push (.inl 0) 18),
  (18, zo_push (.inl 40) 20),
  (20, zo_cpyI 23),
  (23, zo_aload 1 24),
  (24, zo_getR 3 25 none 27),
  (27, zo_push (.inl 0) 28),
  (28, zo_aload 0 29),
  (29, zo_getR 3 25 none 32),
  (32, zo_push (.inl 0) 33),
  (33, zo_push (.inl 40) 35),
  (35, zo_cpyI 38)]
noncomputable def p_X3_copyFrom_1 : List (Nat × zO) := [(38, zo_aload 1 39),
  (39, zo_getR 3 26 none 42),
  (42, zo_push (.inl 0) 43),
  (43, zo_aload 0 44),
  (44, zo_getR 3 26 none 47),
  (47, zo_push (.inl 0) 48),
  (48, zo_push (.inl 40) 50),
  (50, zo_cpyI 53),
  (53, zo_ret)]
noncomputable def p_X3_copyFrom : Nat → zO := zgs [(36, p_X3_copyFrom_0), (54, p_X3_copyFrom_1)]
theorem t_X3_copyFrom : ∀ k, zTl (p_X3_copyFrom k) := fun k => zgs_all (c := [(36, p_X3_copyFrom_0), (54, p_X3_copyFrom_1)]) (fun _ => zl_bad) ⟨⟨zl_aload, zl_aload, zl_getI, zl_putI, zl_aload, zl_getR, zl_push, zl_aload, zl_getR, zl_push, zl_push, zl_cpyI, zl_aload, zl_getR, zl_push, zl_aload, zl_getR, zl_push, zl_push, zl_cpyI, trivial⟩, ⟨zl_aload, zl_getR, zl_push, zl_aload, zl_getR, zl_push, zl_push, zl_cpyI, zl_ret, trivial⟩, trivial⟩ k
noncomputable def f_X3_copyFrom : zS := zrun p_X3_copyFrom 2
set_option maxRecDepth 20000 in
theorem s_X3_copyFrom_0 {l : Launch} {D : va_G} {ad : Nat → Nat → Nat} {cy : Nat → ClassId} {L : List (Nat × Nat)} (hcl : zclo L = true) (hinj : zAd ad L) {X : zCtx} (hX : zXok X "SoapTreaty$Lines" prog_5_method_3_code 2) (hR : zRt X none) (hl : zXl X l D ad cy L (zroom 1)) : zAllR (zSo X) p_X3_copyFrom_0 := ⟨zs_aload_n (i := 0) rfl hX (by decide +kernel : decode prog_5_method_3_code 0 = .ok (.aload_n 0, 1)) rfl (by decide),
  zs_aload_n (i := 1) rfl hX (by decide +kernel : decode prog_5_method_3_code 1 = .ok (.aload_n 1, 1)) rfl (by decide),
  zs_getI hX zFL_3_19 (by decide) (by decide) (by decide +kernel : decode prog_5_method_3_code 2 = .ok (.getfield 19, 3)) rfl,
  zs_putI hX zFP_3_19 (by decide +kernel : decode prog_5_method_3_code 5 = .ok (.putfield 19, 3)) rfl,
  zs_aload_n (i := 1) rfl hX (by decide +kernel : decode prog_5_method_3_code 8 = .ok (.aload_n 1, 1)) rfl (by decide),
  zs_getR hX zFL_3_9 (by decide +kernel : decode prog_5_method_3_code 9 = .ok (.getfield 9, 3)) rfl,
  zs_pushI (zg_iconst (by decide) hX (by decide +kernel : decode prog_5_method_3_code 12 = .ok (.iconst 0, 1)) rfl),
  zs_aload_n (i := 0) rfl hX (by decide +kernel : decode prog_5_method_3_code 13 = .ok (.aload_n 0, 1)) rfl (by decide),
  zs_getR hX zFL_3_9 (by decide +kernel : decode prog_5_method_3_code 14 = .ok (.getfield 9, 3)) rfl,
  zs_pushI (zg_iconst (by decide) hX (by decide +kernel : decode prog_5_method_3_code 17 = .ok (.iconst 0, 1)) rfl),
  zs_pushI (zg_bipush (by decide) hX (by decide +kernel : decode prog_5_method_3_code 18 = .ok (.bipush 40, 2)) rfl),
  zs_cpyI hX zK_3_23 (by decide +kernel : decode prog_5_method_3_code 20 = .ok (.invokestatic 23, 3)) rfl,
  zs_aload_n (i := 1) rfl hX (by decide +kernel : decode prog_5_method_3_code 23 = .ok (.aload_n 1, 1)) rfl (by decide),
  zs_getR hX zFL_3_13 (by decide +kernel : decode prog_5_method_3_code 24 = .ok (.getfield 13, 3)) rfl,
  zs_pushI (zg_iconst (by decide) hX (by decide +kernel : decode prog_5_method_3_code 27 = .ok (.iconst 0, 1)) rfl),
  zs_aload_n (i := 0) rfl hX (by decide +kernel : decode prog_5_method_3_code 28 = .ok (.aload_n 0, 1)) rfl (by decide),
  zs_getR hX zFL_3_13 (by decide +kernel : decode prog_5_method_3_code 29 = .ok (.getfield 13, 3)) rfl,
  zs_pushI (zg_iconst (by decide) hX (by decide +kernel : decode prog_5_method_3_code 32 = .ok (.iconst 0, 1)) rfl),
  zs_pushI (zg_bipush (by decide) hX (by decide +kernel : decode prog_5_method_3_code 33 = .ok (.bipush 40, 2)) rfl),
  zs_cpyI hX zK_3_23 (by decide +kernel : decode prog_5_method_3_code 35 = .ok (.invokestatic 23, 3)) rfl, trivial⟩
set_option maxRecDepth 20000 in
theorem s_X3_copyFrom_1 {l : Launch} {D : va_G} {ad : Nat → Nat → Nat} {cy : Nat → ClassId} {L : List (Nat × Nat)} (hcl : zclo L = true) (hinj : zAd ad L) {X : zCtx} (hX : zXok X "SoapTreaty$Lines" prog_5_method_3_code 2) (hR : zRt X none) (hl : zXl X l D ad cy L (zroom 1)) : zAllR (zSo X) p_X3_copyFrom_1 := ⟨zs_aload_n (i := 1) rfl hX (by decide +kernel : decode prog_5_method_3_code 38 = .ok (.aload_n 1, 1)) rfl (by decide),
  zs_getR hX zFL_3_16 (by decide +kernel : decode prog_5_method_3_code 39 = .ok (.getfield 16, 3)) rfl,
  zs_pushI (zg_iconst (by decide) hX (by decide +kernel : decode prog_5_method_3_code 42 = .ok (.iconst 0, 1)) rfl),
  zs_aload_n (i := 0) rfl hX (by decide +kernel : decode prog_5_method_3_code 43 = .ok (.aload_n 0, 1)) rfl (by decide),
  zs_getR hX zFL_3_16 (by decide +kernel : decode prog_5_method_3_code 44 = .ok (.getfield 16, 3)) rfl,
  zs_pushI (zg_iconst (by decide) hX (by decide +kernel : decode prog_5_method_3_code 47 = .ok (.iconst 0, 1)) rfl),
  zs_pushI (zg_bipush (by decide) hX (by decide +kernel : decode prog_5_method_3_code 48 = .ok (.bipush 40, 2)) rfl),
  zs_cpyI hX zK_3_23 (by decide +kernel : decode prog_5_method_3_code 50 = .ok (.invokestatic 23, 3)) rfl,
  zs_ret hX hR (by decide +kernel : decode prog_5_method_3_code 53 = .ok (.return_, 1)), trivial⟩
theorem k_X3_copyFrom {l : Launch} {D : va_G} {ad : Nat → Nat → Nat} {cy : Nat → ClassId} {L : List (Nat × Nat)} (hcl : zclo L = true) (hinj : zAd ad L) : zCk l D ad cy L 1 f_X3_copyFrom y_X3_copyFrom (.code y_X3_copyFrom prog_5_method_3_code 2 none) :=
  z_met (by decide) t_X3_copyFrom hcl hinj (fun X hX hR hl k => zgs_all (Q := zSo X) (c := [(36, p_X3_copyFrom_0), (54, p_X3_copyFrom_1)]) (fun _ => zs_bad) ⟨s_X3_copyFrom_0 hcl hinj hX hR hl, s_X3_copyFrom_1 hcl hinj hX hR hl, trivial⟩ k)
set_option maxRecDepth 1000000 in
theorem e_X3_copyFrom_0 (jx0 : Nat) (jx1 : Nat) (h : zH) : zL p_X3_copyFrom 0 [some (.inr (.inr (3, jx0))), some (.inr (.inr (3, jx1)))] [] h = some (none, (zcI (zcI (zcI (zuI h 3 jx0 0 (h.1 3 jx1 0)) 24 jx1 24 jx0 40) 25 jx1 25 jx0 40) 26 jx1 26 jx0 40)) := (zL_s (t_X3_copyFrom) [0] 1000 0 _ _ _).trans rfl
theorem g_X3_copyFrom (jx0 : Nat) (jx1 : Nat) (h : zH) : f_X3_copyFrom [(.inr (.inr (3, jx0))), (.inr (.inr (3, jx1)))] h = some (none, (zcI (zcI (zcI (zuI h 3 jx0 0 (h.1 3 jx1 0)) 24 jx1 24 jx0 40) 25 jx1 25 jx0 40) 26 jx1 26 jx0 40)) := (show f_X3_copyFrom _ h = zL p_X3_copyFrom 0 _ [] h from rfl).trans (e_X3_copyFrom_0 jx0 jx1 h)
/-! SoapTreaty$State.begin()V -/
def y_X8_begin : MethodName := ⟨"SoapTreaty$State", "begin", "()V"⟩
noncomputable def p_X8_begin_0 : List (Nat × zO) := [(0, zo_aload 0 1),
  (1, zo_getR 8 0 (some 0) 4),
  (4, zo_getR 0 18 none 7),
  (7, zo_push (.inl 0) 8),
  (8, zo_aload 0 9),
  (9, zo_getR 8 31 none 12),
  (12, zo_push (.inl 0) 13),
  (13, zo_push (.inl 7) 15),
  (15, zo_cpyI 18),
  (18, zo_aload 0 19),
  (19, zo_getR 8 0 (some 0) 22),
  (22, zo_getR 0 19 none 25),
  (25, zo_push (.inl 0) 26),
  (26, zo_aload 0 27),
  (27, zo_getR 8 32 none 30),
  (30, zo_push (.inl 0) 31),
  (31, zo_push (.inl 7) 33),
  (33, zo_cpyI 36),
  (36, zo_push (.inl 0) 37),
  (37, zo_istore 1 38)]
noncomputable def p_X8_begin_1 : List (Nat × zO) := [(38, zo_iload 1 39),
  (39, zo_push (.inl 7) 41),
  (41, zo_cge 57 44),
  (44, zo_aload 0 45),
  (45, zo_getR 8 33 none 48),
  (48, zo_iload 1 49),
  (49, zo_push (.inl 0) 50),
  (50, zo_iast 51),
  (51, zo_iinc 1 1 54),
  (54, zo_goto 38),
  (57, zo_aload 0 58),
  (58, zo_push (.inl 0) 59),
  (59, zo_putI 8 4 62),
  (62, zo_aload 0 63),
  (63, zo_push (.inl 0) 64),
  (64, zo_putI 8 5 67),
  (67, zo_aload 0 68),
  (68, zo_push (.inl 0) 69),
  (69, zo_putI 8 6 72),
  (72, zo_ret)]
noncomputable def p_X8_begin : Nat → zO := zgs [(38, p_X8_begin_0), (73, p_X8_begin_1)]
theorem t_X8_begin : ∀ k, zTl (p_X8_begin k) := fun k => zgs_all (c := [(38, p_X8_begin_0), (73, p_X8_begin_1)]) (fun _ => zl_bad) ⟨⟨zl_aload, zl_getR, zl_getR, zl_push, zl_aload, zl_getR, zl_push, zl_push, zl_cpyI, zl_aload, zl_getR, zl_getR, zl_push, zl_aload, zl_getR, zl_push, zl_push, zl_cpyI, zl_push, zl_istore, trivial⟩, ⟨zl_iload, zl_push, zl_cge, zl_aload, zl_getR, zl_iload, zl_push, zl_iast, zl_iinc, zl_goto, zl_aload, zl_push, zl_putI, zl_aload, zl_push, zl_putI, zl_aload, zl_push, zl_putI, zl_ret, trivial⟩, trivial⟩ k
noncomputable def f_X8_begin : zS := zrun p_X8_begin 2
set_option maxRecDepth 20000 in
theorem s_X8_begin_0 {l : Launch} {D : va_G} {ad : Nat → Nat → Nat} {cy : Nat → ClassId} {L : List (Nat × Nat)} (hcl : zclo L = true) (hinj : zAd ad L) {X : zCtx} (hX : zXok X "SoapTreaty$State" prog_10_method_2_code 2) (hR : zRt X none) (hl : zXl X l D ad cy L (zroom 1)) : zAllR (zSo X) p_X8_begin_0 := ⟨zs_aload_n (i := 0) rfl hX (by decide +kernel : decode prog_10_method_2_code 0 = .ok (.aload_n 0, 1)) rfl (by decide),
  zs_getR hX zFL_8_23 (by decide +kernel : decode prog_10_method_2_code 1 = .ok (.getfield 23, 3)) rfl,
  zs_getR hX zFL_8_27 (by decide +kernel : decode prog_10_method_2_code 4 = .ok (.getfield 27, 3)) rfl,
  zs_pushI (zg_iconst (by decide) hX (by decide +kernel : decode prog_10_method_2_code 7 = .ok (.iconst 0, 1)) rfl),
  zs_aload_n (i := 0) rfl hX (by decide +kernel : decode prog_10_method_2_code 8 = .ok (.aload_n 0, 1)) rfl (by decide),
  zs_getR hX zFL_8_11 (by decide +kernel : decode prog_10_method_2_code 9 = .ok (.getfield 11, 3)) rfl,
  zs_pushI (zg_iconst (by decide) hX (by decide +kernel : decode prog_10_method_2_code 12 = .ok (.iconst 0, 1)) rfl),
  zs_pushI (zg_bipush (by decide) hX (by decide +kernel : decode prog_10_method_2_code 13 = .ok (.bipush 7, 2)) rfl),
  zs_cpyI hX zK_8_30 (by decide +kernel : decode prog_10_method_2_code 15 = .ok (.invokestatic 30, 3)) rfl,
  zs_aload_n (i := 0) rfl hX (by decide +kernel : decode prog_10_method_2_code 18 = .ok (.aload_n 0, 1)) rfl (by decide),
  zs_getR hX zFL_8_23 (by decide +kernel : decode prog_10_method_2_code 19 = .ok (.getfield 23, 3)) rfl,
  zs_getR hX zFL_8_36 (by decide +kernel : decode prog_10_method_2_code 22 = .ok (.getfield 36, 3)) rfl,
  zs_pushI (zg_iconst (by decide) hX (by decide +kernel : decode prog_10_method_2_code 25 = .ok (.iconst 0, 1)) rfl),
  zs_aload_n (i := 0) rfl hX (by decide +kernel : decode prog_10_method_2_code 26 = .ok (.aload_n 0, 1)) rfl (by decide),
  zs_getR hX zFL_8_17 (by decide +kernel : decode prog_10_method_2_code 27 = .ok (.getfield 17, 3)) rfl,
  zs_pushI (zg_iconst (by decide) hX (by decide +kernel : decode prog_10_method_2_code 30 = .ok (.iconst 0, 1)) rfl),
  zs_pushI (zg_bipush (by decide) hX (by decide +kernel : decode prog_10_method_2_code 31 = .ok (.bipush 7, 2)) rfl),
  zs_cpyI hX zK_8_30 (by decide +kernel : decode prog_10_method_2_code 33 = .ok (.invokestatic 30, 3)) rfl,
  zs_pushI (zg_iconst (by decide) hX (by decide +kernel : decode prog_10_method_2_code 36 = .ok (.iconst 0, 1)) rfl),
  zs_istore_n (i := 1) rfl hX (by decide +kernel : decode prog_10_method_2_code 37 = .ok (.istore_n 1, 1)) rfl (by decide), trivial⟩
set_option maxRecDepth 20000 in
theorem s_X8_begin_1 {l : Launch} {D : va_G} {ad : Nat → Nat → Nat} {cy : Nat → ClassId} {L : List (Nat × Nat)} (hcl : zclo L = true) (hinj : zAd ad L) {X : zCtx} (hX : zXok X "SoapTreaty$State" prog_10_method_2_code 2) (hR : zRt X none) (hl : zXl X l D ad cy L (zroom 1)) : zAllR (zSo X) p_X8_begin_1 := ⟨zs_iload_n (i := 1) rfl hX (by decide +kernel : decode prog_10_method_2_code 38 = .ok (.iload_n 1, 1)) rfl (by decide),
  zs_pushI (zg_bipush (by decide) hX (by decide +kernel : decode prog_10_method_2_code 39 = .ok (.bipush 7, 2)) rfl),
  zs_cge hX (by decide +kernel : decode prog_10_method_2_code 41 = .ok (.if_icmp .ge 16, 3)) (by decide) rfl,
  zs_aload_n (i := 0) rfl hX (by decide +kernel : decode prog_10_method_2_code 44 = .ok (.aload_n 0, 1)) rfl (by decide),
  zs_getR hX zFL_8_20 (by decide +kernel : decode prog_10_method_2_code 45 = .ok (.getfield 20, 3)) rfl,
  zs_iload_n (i := 1) rfl hX (by decide +kernel : decode prog_10_method_2_code 48 = .ok (.iload_n 1, 1)) rfl (by decide),
  zs_pushI (zg_iconst (by decide) hX (by decide +kernel : decode prog_10_method_2_code 49 = .ok (.iconst 0, 1)) rfl),
  zs_iast hX (by decide +kernel : decode prog_10_method_2_code 50 = .ok (.iastore, 1)) rfl,
  zs_iinc hX (by decide +kernel : decode prog_10_method_2_code 51 = .ok (.iinc 1 1, 3)) (by decide) rfl (by decide),
  zs_goto hX (by decide +kernel : decode prog_10_method_2_code 54 = .ok (.goto (-16), 3)) (by decide),
  zs_aload_n (i := 0) rfl hX (by decide +kernel : decode prog_10_method_2_code 57 = .ok (.aload_n 0, 1)) rfl (by decide),
  zs_pushI (zg_iconst (by decide) hX (by decide +kernel : decode prog_10_method_2_code 58 = .ok (.iconst 0, 1)) rfl),
  zs_putI hX zFP_8_37 (by decide +kernel : decode prog_10_method_2_code 59 = .ok (.putfield 37, 3)) rfl,
  zs_aload_n (i := 0) rfl hX (by decide +kernel : decode prog_10_method_2_code 62 = .ok (.aload_n 0, 1)) rfl (by decide),
  zs_pushI (zg_iconst (by decide) hX (by decide +kernel : decode prog_10_method_2_code 63 = .ok (.iconst 0, 1)) rfl),
  zs_putI hX zFP_8_41 (by decide +kernel : decode prog_10_method_2_code 64 = .ok (.putfield 41, 3)) rfl,
  zs_aload_n (i := 0) rfl hX (by decide +kernel : decode prog_10_method_2_code 67 = .ok (.aload_n 0, 1)) rfl (by decide),
  zs_pushI (zg_iconst (by decide) hX (by decide +kernel : decode prog_10_method_2_code 68 = .ok (.iconst 0, 1)) rfl),
  zs_putI hX zFP_8_44 (by decide +kernel : decode prog_10_method_2_code 69 = .ok (.putfield 44, 3)) rfl,
  zs_ret hX hR (by decide +kernel : decode prog_10_method_2_code 72 = .ok (.return_, 1)), trivial⟩
theorem k_X8_begin {l : Launch} {D : va_G} {ad : Nat → Nat → Nat} {cy : Nat → ClassId} {L : List (Nat × Nat)} (hcl : zclo L = true) (hinj : zAd ad L) : zCk l D ad cy L 1 f_X8_begin y_X8_begin (.code y_X8_begin prog_10_method_2_code 2 none) :=
  z_met (by decide) t_X8_begin hcl hinj (fun X hX hR hl k => zgs_all (Q := zSo X) (c := [(38, p_X8_begin_0), (73, p_X8_begin_1)]) (fun _ => zs_bad) ⟨s_X8_begin_0 hcl hinj hX hR hl, s_X8_begin_1 hcl hinj hX hR hl, trivial⟩ k)
set_option maxRecDepth 1000000 in
theorem e_X8_begin_0 (jx0 : Nat) (h : zH) : zL p_X8_begin 0 [some (.inr (.inr (8, jx0))), none] [] h = zL p_X8_begin 38 [some (.inr (.inr (8, jx0))), some (.inl 0)] [] (zcI (zcI h 18 0 31 jx0 7) 19 0 32 jx0 7) := (zL_s (t_X8_begin) [0, 38] 1000 0 _ _ _).trans rfl
theorem g_X8_begin (jx0 : Nat) (h : zH) : f_X8_begin [(.inr (.inr (8, jx0)))] h = zL p_X8_begin 38 [some (.inr (.inr (8, jx0))), some (.inl 0)] [] (zcI (zcI h 18 0 31 jx0 7) 19 0 32 jx0 7) := (show f_X8_begin _ h = zL p_X8_begin 0 _ [] h from rfl).trans (e_X8_begin_0 jx0 h)
set_option maxRecDepth 1000000 in
theorem e_X8_begin_38 (jx0 : Nat) (x1 : Int32) (h : zH) : zL p_X8_begin 38 [some (.inr (.inr (8, jx0))), some (.inl x1)] [] h = zf (x1 < 7) (zf (vp_in x1 7) (zL p_X8_begin 38 [some (.inr (.inr (8, jx0))), some (.inl (x1 + 1))] [] (zuI h 33 jx0 x1.toNatClampNeg 0)) none) (some (none, (zuI (zuI (zuI h 8 jx0 4 0) 8 jx0 5 0) 8 jx0 6 0))) := (zL_s (t_X8_begin) [0, 38] 1000 38 _ _ _).trans rfl
theorem zMV_4_32 : zMV "SoapTreaty$Page" 32 8 y_X8_begin prog_10_method_2_code 2 none 0 := ⟨⟨zT_of 731 (by decide +kernel) (by decide +kernel), zT_of 732 (by decide +kernel) (by decide +kernel), zT_of 733 (by decide +kernel) (by decide +kernel), zT_of 115 (by decide +kernel) (by decide +kernel), zT_of 734 (by decide +kernel) (by decide +kernel)⟩, by decide, rfl, ⟨zT8, 7, rfl⟩, by decide, by decide, by decide +kernel⟩
/-! SoapTreaty$Page.begin()V -/
def y_X4_begin : MethodName := ⟨"SoapTreaty$Page", "begin", "()V"⟩
noncomputable def p_X4_begin_0 : List (Nat × zO) := [(0, zo_aload 0 1),
  (1, zo_getR 4 8 none 4),
  (4, zo_vir 8 1 (zo_callv (f_X8_begin) 1 7)),
  (7, zo_aload 0 8),
  (8, zo_getR 4 3 none 11),
  (11, zo_push (.inl 0) 12),
  (12, zo_putI 3 0 15),
  (15, zo_aload 0 16),
  (16, zo_getR 4 7 none 19),
  (19, zo_push (.inl 0) 20),
  (20, zo_putI 7 0 23),
  (23, zo_ret)]
noncomputable def p_X4_begin : Nat → zO := zgs [(24, p_X4_begin_0)]
theorem t_X4_begin : ∀ k, zTl (p_X4_begin k) := fun k => zgs_all (c := [(24, p_X4_begin_0)]) (fun _ => zl_bad) ⟨⟨zl_aload, zl_getR, (zl_vir zl_callv), zl_aload, zl_getR, zl_push, zl_putI, zl_aload, zl_getR, zl_push, zl_putI, zl_ret, trivial⟩, trivial⟩ k
noncomputable def f_X4_begin : zS := zrun p_X4_begin 1
set_option maxRecDepth 20000 in
theorem s_X4_begin_0 {l : Launch} {D : va_G} {ad : Nat → Nat → Nat} {cy : Nat → ClassId} {L : List (Nat × Nat)} (hcl : zclo L = true) (hinj : zAd ad L) {X : zCtx} (hX : zXok X "SoapTreaty$Page" prog_6_method_2_code 1) (hR : zRt X none) (hl : zXl X l D ad cy L (zroom 2)) : zAllR (zSo X) p_X4_begin_0 := ⟨zs_aload_n (i := 0) rfl hX (by decide +kernel : decode prog_6_method_2_code 0 = .ok (.aload_n 0, 1)) rfl (by decide),
  zs_getR hX zFL_4_12 (by decide +kernel : decode prog_6_method_2_code 1 = .ok (.getfield 12, 3)) rfl,
  zs_callVv hX zMV_4_32 (zXc_of hl (by decide) (k_X8_begin hcl hinj)) (by decide +kernel : decode prog_6_method_2_code 4 = .ok (.invokevirtual 32, 3)) rfl,
  zs_aload_n (i := 0) rfl hX (by decide +kernel : decode prog_6_method_2_code 7 = .ok (.aload_n 0, 1)) rfl (by decide),
  zs_getR hX zFL_4_21 (by decide +kernel : decode prog_6_method_2_code 8 = .ok (.getfield 21, 3)) rfl,
  zs_pushI (zg_iconst (by decide) hX (by decide +kernel : decode prog_6_method_2_code 11 = .ok (.iconst 0, 1)) rfl),
  zs_putI hX zFP_4_35 (by decide +kernel : decode prog_6_method_2_code 12 = .ok (.putfield 35, 3)) rfl,
  zs_aload_n (i := 0) rfl hX (by decide +kernel : decode prog_6_method_2_code 15 = .ok (.aload_n 0, 1)) rfl (by decide),
  zs_getR hX zFL_4_28 (by decide +kernel : decode prog_6_method_2_code 16 = .ok (.getfield 28, 3)) rfl,
  zs_pushI (zg_iconst (by decide) hX (by decide +kernel : decode prog_6_method_2_code 19 = .ok (.iconst 0, 1)) rfl),
  zs_putI hX zFP_4_39 (by decide +kernel : decode prog_6_method_2_code 20 = .ok (.putfield 39, 3)) rfl,
  zs_ret hX hR (by decide +kernel : decode prog_6_method_2_code 23 = .ok (.return_, 1)), trivial⟩
theorem k_X4_begin {l : Launch} {D : va_G} {ad : Nat → Nat → Nat} {cy : Nat → ClassId} {L : List (Nat × Nat)} (hcl : zclo L = true) (hinj : zAd ad L) : zCk l D ad cy L 2 f_X4_begin y_X4_begin (.code y_X4_begin prog_6_method_2_code 1 none) :=
  z_met (by decide) t_X4_begin hcl hinj (fun X hX hR hl k => zgs_all (Q := zSo X) (c := [(24, p_X4_begin_0)]) (fun _ => zs_bad) ⟨s_X4_begin_0 hcl hinj hX hR hl, trivial⟩ k)
set_option maxRecDepth 1000000 in
theorem e_X4_begin_0 (jx0 : Nat) (h : zH) : zL p_X4_begin 0 [some (.inr (.inr (4, jx0)))] [] h = zcv (f_X8_begin [(.inr (.inr (8, jx0)))] h) (fun h1 => some (none, (zuI (zuI h1 3 jx0 0 0) 7 jx0 0 0))) := (zL_s (t_X4_begin) [0] 1000 0 _ _ _).trans rfl
theorem g_X4_begin (jx0 : Nat) (h : zH) : f_X4_begin [(.inr (.inr (4, jx0)))] h = zcv (f_X8_begin [(.inr (.inr (8, jx0)))] h) (fun h1 => some (none, (zuI (zuI h1 3 jx0 0 0) 7 jx0 0 0))) := (show f_X4_begin _ h = zL p_X4_begin 0 _ [] h from rfl).trans (e_X4_begin_0 jx0 h)
/-! SoapTreaty$State.copyFrom(LSoapTreaty$State;)V -/
def y_X8_copyFrom : MethodName := ⟨"SoapTreaty$State", "copyFrom", "(LSoapTreaty$State;)V"⟩
noncomputable def p_X8_copyFrom_0 : List (Nat × zO) := [(0, zo_aload 1 1),
  (1, zo_getR 8 31 none 4),
  (4, zo_push (.inl 0) 5),
  (5, zo_aload 0 6),
  (6, zo_getR 8 31 none 9),
  (9, zo_push (.inl 0) 10),
  (10, zo_push (.inl 7) 12),
  (12, zo_cpyI 15),
  (15, zo_aload 1 16),
  (16, zo_getR 8 32 none 19),
  (19, zo_push (.inl 0) 20),
  (20, zo_aload 0 21),
  (21, zo_getR 8 32 none 24),
  (24, zo_push (.inl 0) 25),
  (25, zo_push (.inl 7) 27),
  (27, zo_cpyI 30),
  (30, zo_aload 1 31),
  (31, zo_getR 8 33 none 34),
  (34, zo_push (.inl 0) 35),
  (35, zo_aload 0 36)]
noncomputable def p_X8_copyFrom_1 : List (Nat × zO) := [(36, zo_getR 8 33 none 39),
  (39, zo_push (.inl 0) 40),
  (40, zo_push (.inl 7) 42),
  (42, zo_cpyI 45),
  (45, zo_aload 0 46),
  (46, zo_aload 1 47),
  (47, zo_getI 8 4 50),
  (50, zo_putI 8 4 53),
  (53, zo_aload 0 54),
  (54, zo_aload 1 55),
  (55, zo_getI 8 5 58),
  (58, zo_putI 8 5 61),
  (61, zo_aload 0 62),
  (62, zo_aload 1 63),
  (63, zo_getI 8 6 66),
  (66, zo_putI 8 6 69),
  (69, zo_ret)]
noncomputable def p_X8_copyFrom : Nat → zO := zgs [(36, p_X8_copyFrom_0), (70, p_X8_copyFrom_1)]
theorem t_X8_copyFrom : ∀ k, zTl (p_X8_copyFrom k) := fun k => zgs_all (c := [(36, p_X8_copyFrom_0), (70, p_X8_copyFrom_1)]) (fun _ => zl_bad) ⟨⟨zl_aload, zl_getR, zl_push, zl_aload, zl_getR, zl_push, zl_push, zl_cpyI, zl_aload, zl_getR, zl_push, zl_aload, zl_getR, zl_push, zl_push, zl_cpyI, zl_aload, zl_getR, zl_push, zl_aload, trivial⟩, ⟨zl_getR, zl_push, zl_push, zl_cpyI, zl_aload, zl_aload, zl_getI, zl_putI, zl_aload, zl_aload, zl_getI, zl_putI, zl_aload, zl_aload, zl_getI, zl_putI, zl_ret, trivial⟩, trivial⟩ k
noncomputable def f_X8_copyFrom : zS := zrun p_X8_copyFrom 2
set_option maxRecDepth 20000 in
theorem s_X8_copyFrom_0 {l : Launch} {D : va_G} {ad : Nat → Nat → Nat} {cy : Nat → ClassId} {L : List (Nat × Nat)} (hcl : zclo L = true) (hinj : zAd ad L) {X : zCtx} (hX : zXok X "SoapTreaty$State" prog_10_method_3_code 2) (hR : zRt X none) (hl : zXl X l D ad cy L (zroom 1)) : zAllR (zSo X) p_X8_copyFrom_0 := ⟨zs_aload_n (i := 1) rfl hX (by decide +kernel : decode prog_10_method_3_code 0 = .ok (.aload_n 1, 1)) rfl (by decide),
  zs_getR hX zFL_8_11 (by decide +kernel : decode prog_10_method_3_code 1 = .ok (.getfield 11, 3)) rfl,
  zs_pushI (zg_iconst (by decide) hX (by decide +kernel : decode prog_10_method_3_code 4 = .ok (.iconst 0, 1)) rfl),
  zs_aload_n (i := 0) rfl hX (by decide +kernel : decode prog_10_method_3_code 5 = .ok (.aload_n 0, 1)) rfl (by decide),
  zs_getR hX zFL_8_11 (by decide +kernel : decode prog_10_method_3_code 6 = .ok (.getfield 11, 3)) rfl,
  zs_pushI (zg_iconst (by decide) hX (by decide +kernel : decode prog_10_method_3_code 9 = .ok (.iconst 0, 1)) rfl),
  zs_pushI (zg_bipush (by decide) hX (by decide +kernel : decode prog_10_method_3_code 10 = .ok (.bipush 7, 2)) rfl),
  zs_cpyI hX zK_8_30 (by decide +kernel : decode prog_10_method_3_code 12 = .ok (.invokestatic 30, 3)) rfl,
  zs_aload_n (i := 1) rfl hX (by decide +kernel : decode prog_10_method_3_code 15 = .ok (.aload_n 1, 1)) rfl (by decide),
  zs_getR hX zFL_8_17 (by decide +kernel : decode prog_10_method_3_code 16 = .ok (.getfield 17, 3)) rfl,
  zs_pushI (zg_iconst (by decide) hX (by decide +kernel : decode prog_10_method_3_code 19 = .ok (.iconst 0, 1)) rfl),
  zs_aload_n (i := 0) rfl hX (by decide +kernel : decode prog_10_method_3_code 20 = .ok (.aload_n 0, 1)) rfl (by decide),
  zs_getR hX zFL_8_17 (by decide +kernel : decode prog_10_method_3_code 21 = .ok (.getfield 17, 3)) rfl,
  zs_pushI (zg_iconst (by decide) hX (by decide +kernel : decode prog_10_method_3_code 24 = .ok (.iconst 0, 1)) rfl),
  zs_pushI (zg_bipush (by decide) hX (by decide +kernel : decode prog_10_method_3_code 25 = .ok (.bipush 7, 2)) rfl),
  zs_cpyI hX zK_8_30 (by decide +kernel : decode prog_10_method_3_code 27 = .ok (.invokestatic 30, 3)) rfl,
  zs_aload_n (i := 1) rfl hX (by decide +kernel : decode prog_10_method_3_code 30 = .ok (.aload_n 1, 1)) rfl (by decide),
  zs_getR hX zFL_8_20 (by decide +kernel : decode prog_10_method_3_code 31 = .ok (.getfield 20, 3)) rfl,
  zs_pushI (zg_iconst (by decide) hX (by decide +kernel : decode prog_10_method_3_code 34 = .ok (.iconst 0, 1)) rfl),
  zs_aload_n (i := 0) rfl hX (by decide +kernel : decode prog_10_method_3_code 35 = .ok (.aload_n 0, 1)) rfl (by decide), trivial⟩
set_option maxRecDepth 20000 in
theorem s_X8_copyFrom_1 {l : Launch} {D : va_G} {ad : Nat → Nat → Nat} {cy : Nat → ClassId} {L : List (Nat × Nat)} (hcl : zclo L = true) (hinj : zAd ad L) {X : zCtx} (hX : zXok X "SoapTreaty$State" prog_10_method_3_code 2) (hR : zRt X none) (hl : zXl X l D ad cy L (zroom 1)) : zAllR (zSo X) p_X8_copyFrom_1 := ⟨zs_getR hX zFL_8_20 (by decide +kernel : decode prog_10_method_3_code 36 = .ok (.getfield 20, 3)) rfl,
  zs_pushI (zg_iconst (by decide) hX (by decide +kernel : decode prog_10_method_3_code 39 = .ok (.iconst 0, 1)) rfl),
  zs_pushI (zg_bipush (by decide) hX (by decide +kernel : decode prog_10_method_3_code 40 = .ok (.bipush 7, 2)) rfl),
  zs_cpyI hX zK_8_30 (by decide +kernel : decode prog_10_method_3_code 42 = .ok (.invokestatic 30, 3)) rfl,
  zs_aload_n (i := 0) rfl hX (by decide +kernel : decode prog_10_method_3_code 45 = .ok (.aload_n 0, 1)) rfl (by decide),
  zs_aload_n (i := 1) rfl hX (by decide +kernel : decode prog_10_method_3_code 46 = .ok (.aload_n 1, 1)) rfl (by decide),
  zs_getI hX zFL_8_37 (by decide) (by decide) (by decide +kernel : decode prog_10_method_3_code 47 = .ok (.getfield 37, 3)) rfl,
  zs_putI hX zFP_8_37 (by decide +kernel : decode prog_10_method_3_code 50 = .ok (.putfield 37, 3)) rfl,
  zs_aload_n (i := 0) rfl hX (by decide +kernel : decode prog_10_method_3_code 53 = .ok (.aload_n 0, 1)) rfl (by decide),
  zs_aload_n (i := 1) rfl hX (by decide +kernel : decode prog_10_method_3_code 54 = .ok (.aload_n 1, 1)) rfl (by decide),
  zs_getI hX zFL_8_41 (by decide) (by decide) (by decide +kernel : decode prog_10_method_3_code 55 = .ok (.getfield 41, 3)) rfl,
  zs_putI hX zFP_8_41 (by decide +kernel : decode prog_10_method_3_code 58 = .ok (.putfield 41, 3)) rfl,
  zs_aload_n (i := 0) rfl hX (by decide +kernel : decode prog_10_method_3_code 61 = .ok (.aload_n 0, 1)) rfl (by decide),
  zs_aload_n (i := 1) rfl hX (by decide +kernel : decode prog_10_method_3_code 62 = .ok (.aload_n 1, 1)) rfl (by decide),
  zs_getI hX zFL_8_44 (by decide) (by decide) (by decide +kernel : decode prog_10_method_3_code 63 = .ok (.getfield 44, 3)) rfl,
  zs_putI hX zFP_8_44 (by decide +kernel : decode prog_10_method_3_code 66 = .ok (.putfield 44, 3)) rfl,
  zs_ret hX hR (by decide +kernel : decode prog_10_method_3_code 69 = .ok (.return_, 1)), trivial⟩
theorem k_X8_copyFrom {l : Launch} {D : va_G} {ad : Nat → Nat → Nat} {cy : Nat → ClassId} {L : List (Nat × Nat)} (hcl : zclo L = true) (hinj : zAd ad L) : zCk l D ad cy L 1 f_X8_copyFrom y_X8_copyFrom (.code y_X8_copyFrom prog_10_method_3_code 2 none) :=
  z_met (by decide) t_X8_copyFrom hcl hinj (fun X hX hR hl k => zgs_all (Q := zSo X) (c := [(36, p_X8_copyFrom_0), (70, p_X8_copyFrom_1)]) (fun _ => zs_bad) ⟨s_X8_copyFrom_0 hcl hinj hX hR hl, s_X8_copyFrom_1 hcl hinj hX hR hl, trivial⟩ k)
set_option maxRecDepth 1000000 in
theorem e_X8_copyFrom_0 (jx0 : Nat) (jx1 : Nat) (h : zH) : zL p_X8_copyFrom 0 [some (.inr (.inr (8, jx0))), some (.inr (.inr (8, jx1)))] [] h = some (none, (zuI (zuI (zuI (zcI (zcI (zcI h 31 jx1 31 jx0 7) 32 jx1 32 jx0 7) 33 jx1 33 jx0 7) 8 jx0 4 (h.1 8 jx1 4)) 8 jx0 5 ((zuI (zcI (zcI (zcI h 31 jx1 31 jx0 7) 32 jx1 32 jx0 7) 33 jx1 33 jx0 7) 8 jx0 4 (h.1 8 jx1 4)).1 8 jx1 5)) 8 jx0 6 ((zuI (zuI (zcI (zcI (zcI h 31 jx1 31 jx0 7) 32 jx1 32 jx0 7) 33 jx1 33 jx0 7) 8 jx0 4 (h.1 8 jx1 4)) 8 jx0 5 ((zuI (zcI (zcI (zcI h 31 jx1 31 jx0 7) 32 jx1 32 jx0 7) 33 jx1 33 jx0 7) 8 jx0 4 (h.1 8 jx1 4)).1 8 jx1 5)).1 8 jx1 6))) := (zL_s (t_X8_copyFrom) [0] 1000 0 _ _ _).trans rfl
theorem g_X8_copyFrom (jx0 : Nat) (jx1 : Nat) (h : zH) : f_X8_copyFrom [(.inr (.inr (8, jx0))), (.inr (.inr (8, jx1)))] h = some (none, (zuI (zuI (zuI (zcI (zcI (zcI h 31 jx1 31 jx0 7) 32 jx1 32 jx0 7) 33 jx1 33 jx0 7) 8 jx0 4 (h.1 8 jx1 4)) 8 jx0 5 ((zuI (zcI (zcI (zcI h 31 jx1 31 jx0 7) 32 jx1 32 jx0 7) 33 jx1 33 jx0 7) 8 jx0 4 (h.1 8 jx1 4)).1 8 jx1 5)) 8 jx0 6 ((zuI (zuI (zcI (zcI (zcI h 31 jx1 31 jx0 7) 32 jx1 32 jx0 7) 33 jx1 33 jx0 7) 8 jx0 4 (h.1 8 jx1 4)) 8 jx0 5 ((zuI (zcI (zcI (zcI h 31 jx1 31 jx0 7) 32 jx1 32 jx0 7) 33 jx1 33 jx0 7) 8 jx0 4 (h.1 8 jx1 4)).1 8 jx1 5)).1 8 jx1 6))) := (show f_X8_copyFrom _ h = zL p_X8_copyFrom 0 _ [] h from rfl).trans (e_X8_copyFrom_0 jx0 jx1 h)
/-! SoapTreaty$Seen.copyFrom(LSoapTreaty$Seen;)V -/
def y_X7_copyFrom : MethodName := ⟨"SoapTreaty$Seen", "copyFrom", "(LSoapTreaty$Seen;)V"⟩
noncomputable def p_X7_copyFrom_0 : List (Nat × zO) := [(0, zo_aload 0 1),
  (1, zo_aload 1 2),
  (2, zo_getI 7 0 5),
  (5, zo_putI 7 0 8),
  (8, zo_aload 1 9),
  (9, zo_getR 7 28 none 12),
  (12, zo_push (.inl 0) 13),
  (13, zo_aload 0 14),
  (14, zo_getR 7 28 none 17),
  (17, zo_push (.inl 0) 18),
  (18, zo_push (.inl 8) 20),
  (20, zo_cpyI 23),
  (23, zo_aload 1 24),
  (24, zo_getR 7 29 none 27),
  (27, zo_push (.inl 0) 28),
  (28, zo_aload 0 29),
  (29, zo_getR 7 29 none 32),
  (32, zo_push (.inl 0) 33),
  (33, zo_push (.inl 8) 35),
  (35, zo_cpyI 38)]
noncomputable def p_X7_copyFrom_1 : List (Nat × zO) := [(38, zo_aload 1 39),
  (39, zo_getR 7 30 none 42),
  (42, zo_push (.inl 0) 43),
  (43, zo_aload 0 44),
  (44, zo_getR 7 30 none 47),
  (47, zo_push (.inl 0) 48),
  (48, zo_push (.inl 8) 50),
  (50, zo_cpyI 53),
  (53, zo_ret)]
noncomputable def p_X7_copyFrom : Nat → zO := zgs [(36, p_X7_copyFrom_0), (54, p_X7_copyFrom_1)]
theorem t_X7_copyFrom : ∀ k, zTl (p_X7_copyFrom k) := fun k => zgs_all (c := [(36, p_X7_copyFrom_0), (54, p_X7_copyFrom_1)]) (fun _ => zl_bad) ⟨⟨zl_aload, zl_aload, zl_getI, zl_putI, zl_aload, zl_getR, zl_push, zl_aload, zl_getR, zl_push, zl_push, zl_cpyI, zl_aload, zl_getR, zl_push, zl_aload, zl_getR, zl_push, zl_push, zl_cpyI, trivial⟩, ⟨zl_aload, zl_getR, zl_push, zl_aload, zl_getR, zl_push, zl_push, zl_cpyI, zl_ret, trivial⟩, trivial⟩ k
noncomputable def f_X7_copyFrom : zS := zrun p_X7_copyFrom 2
set_option maxRecDepth 20000 in
theorem s_X7_copyFrom_0 {l : Launch} {D : va_G} {ad : Nat → Nat → Nat} {cy : Nat → ClassId} {L : List (Nat × Nat)} (hcl : zclo L = true) (hinj : zAd ad L) {X : zCtx} (hX : zXok X "SoapTreaty$Seen" prog_9_method_3_code 2) (hR : zRt X none) (hl : zXl X l D ad cy L (zroom 1)) : zAllR (zSo X) p_X7_copyFrom_0 := ⟨zs_aload_n (i := 0) rfl hX (by decide +kernel : decode prog_9_method_3_code 0 = .ok (.aload_n 0, 1)) rfl (by decide),
  zs_aload_n (i := 1) rfl hX (by decide +kernel : decode prog_9_method_3_code 1 = .ok (.aload_n 1, 1)) rfl (by decide),
  zs_getI hX zFL_7_19 (by decide) (by decide) (by decide +kernel : decode prog_9_method_3_code 2 = .ok (.getfield 19, 3)) rfl,
  zs_putI hX zFP_7_19 (by decide +kernel : decode prog_9_method_3_code 5 = .ok (.putfield 19, 3)) rfl,
  zs_aload_n (i := 1) rfl hX (by decide +kernel : decode prog_9_method_3_code 8 = .ok (.aload_n 1, 1)) rfl (by decide),
  zs_getR hX zFL_7_9 (by decide +kernel : decode prog_9_method_3_code 9 = .ok (.getfield 9, 3)) rfl,
  zs_pushI (zg_iconst (by decide) hX (by decide +kernel : decode prog_9_method_3_code 12 = .ok (.iconst 0, 1)) rfl),
  zs_aload_n (i := 0) rfl hX (by decide +kernel : decode prog_9_method_3_code 13 = .ok (.aload_n 0, 1)) rfl (by decide),
  zs_getR hX zFL_7_9 (by decide +kernel : decode prog_9_method_3_code 14 = .ok (.getfield 9, 3)) rfl,
  zs_pushI (zg_iconst (by decide) hX (by decide +kernel : decode prog_9_method_3_code 17 = .ok (.iconst 0, 1)) rfl),
  zs_pushI (zg_bipush (by decide) hX (by decide +kernel : decode prog_9_method_3_code 18 = .ok (.bipush 8, 2)) rfl),
  zs_cpyI hX zK_7_23 (by decide +kernel : decode prog_9_method_3_code 20 = .ok (.invokestatic 23, 3)) rfl,
  zs_aload_n (i := 1) rfl hX (by decide +kernel : decode prog_9_method_3_code 23 = .ok (.aload_n 1, 1)) rfl (by decide),
  zs_getR hX zFL_7_13 (by decide +kernel : decode prog_9_method_3_code 24 = .ok (.getfield 13, 3)) rfl,
  zs_pushI (zg_iconst (by decide) hX (by decide +kernel : decode prog_9_method_3_code 27 = .ok (.iconst 0, 1)) rfl),
  zs_aload_n (i := 0) rfl hX (by decide +kernel : decode prog_9_method_3_code 28 = .ok (.aload_n 0, 1)) rfl (by decide),
  zs_getR hX zFL_7_13 (by decide +kernel : decode prog_9_method_3_code 29 = .ok (.getfield 13, 3)) rfl,
  zs_pushI (zg_iconst (by decide) hX (by decide +kernel : decode prog_9_method_3_code 32 = .ok (.iconst 0, 1)) rfl),
  zs_pushI (zg_bipush (by decide) hX (by decide +kernel : decode prog_9_method_3_code 33 = .ok (.bipush 8, 2)) rfl),
  zs_cpyI hX zK_7_23 (by decide +kernel : decode prog_9_method_3_code 35 = .ok (.invokestatic 23, 3)) rfl, trivial⟩
set_option maxRecDepth 20000 in
theorem s_X7_copyFrom_1 {l : Launch} {D : va_G} {ad : Nat → Nat → Nat} {cy : Nat → ClassId} {L : List (Nat × Nat)} (hcl : zclo L = true) (hinj : zAd ad L) {X : zCtx} (hX : zXok X "SoapTreaty$Seen" prog_9_method_3_code 2) (hR : zRt X none) (hl : zXl X l D ad cy L (zroom 1)) : zAllR (zSo X) p_X7_copyFrom_1 := ⟨zs_aload_n (i := 1) rfl hX (by decide +kernel : decode prog_9_method_3_code 38 = .ok (.aload_n 1, 1)) rfl (by decide),
  zs_getR hX zFL_7_16 (by decide +kernel : decode prog_9_method_3_code 39 = .ok (.getfield 16, 3)) rfl,
  zs_pushI (zg_iconst (by decide) hX (by decide +kernel : decode prog_9_method_3_code 42 = .ok (.iconst 0, 1)) rfl),
  zs_aload_n (i := 0) rfl hX (by decide +kernel : decode prog_9_method_3_code 43 = .ok (.aload_n 0, 1)) rfl (by decide),
  zs_getR hX zFL_7_16 (by decide +kernel : decode prog_9_method_3_code 44 = .ok (.getfield 16, 3)) rfl,
  zs_pushI (zg_iconst (by decide) hX (by decide +kernel : decode prog_9_method_3_code 47 = .ok (.iconst 0, 1)) rfl),
  zs_pushI (zg_bipush (by decide) hX (by decide +kernel : decode prog_9_method_3_code 48 = .ok (.bipush 8, 2)) rfl),
  zs_cpyI hX zK_7_23 (by decide +kernel : decode prog_9_method_3_code 50 = .ok (.invokestatic 23, 3)) rfl,
  zs_ret hX hR (by decide +kernel : decode prog_9_method_3_code 53 = .ok (.return_, 1)), trivial⟩
theorem k_X7_copyFrom {l : Launch} {D : va_G} {ad : Nat → Nat → Nat} {cy : Nat → ClassId} {L : List (Nat × Nat)} (hcl : zclo L = true) (hinj : zAd ad L) : zCk l D ad cy L 1 f_X7_copyFrom y_X7_copyFrom (.code y_X7_copyFrom prog_9_method_3_code 2 none) :=
  z_met (by decide) t_X7_copyFrom hcl hinj (fun X hX hR hl k => zgs_all (Q := zSo X) (c := [(36, p_X7_copyFrom_0), (54, p_X7_copyFrom_1)]) (fun _ => zs_bad) ⟨s_X7_copyFrom_0 hcl hinj hX hR hl, s_X7_copyFrom_1 hcl hinj hX hR hl, trivial⟩ k)
set_option maxRecDepth 1000000 in
theorem e_X7_copyFrom_0 (jx0 : Nat) (jx1 : Nat) (h : zH) : zL p_X7_copyFrom 0 [some (.inr (.inr (7, jx0))), some (.inr (.inr (7, jx1)))] [] h = some (none, (zcI (zcI (zcI (zuI h 7 jx0 0 (h.1 7 jx1 0)) 28 jx1 28 jx0 8) 29 jx1 29 jx0 8) 30 jx1 30 jx0 8)) := (zL_s (t_X7_copyFrom) [0] 1000 0 _ _ _).trans rfl
theorem g_X7_copyFrom (jx0 : Nat) (jx1 : Nat) (h : zH) : f_X7_copyFrom [(.inr (.inr (7, jx0))), (.inr (.inr (7, jx1)))] h = some (none, (zcI (zcI (zcI (zuI h 7 jx0 0 (h.1 7 jx1 0)) 28 jx1 28 jx0 8) 29 jx1 29 jx0 8) 30 jx1 30 jx0 8)) := (show f_X7_copyFrom _ h = zL p_X7_copyFrom 0 _ [] h from rfl).trans (e_X7_copyFrom_0 jx0 jx1 h)
theorem zMV_4_40 : zMV "SoapTreaty$Page" 40 8 y_X8_copyFrom prog_10_method_3_code 2 none 1 := ⟨⟨zT_of 1092 (by decide +kernel) (by decide +kernel), zT_of 854 (by decide +kernel) (by decide +kernel), zT_of 855 (by decide +kernel) (by decide +kernel), zT_of 115 (by decide +kernel) (by decide +kernel), zT_of 856 (by decide +kernel) (by decide +kernel)⟩, by decide, rfl, ⟨zT8, 7, rfl⟩, by decide, by decide, by decide +kernel⟩
theorem zMV_4_44 : zMV "SoapTreaty$Page" 44 3 y_X3_copyFrom prog_5_method_3_code 2 none 1 := ⟨⟨zT_of 1093 (by decide +kernel) (by decide +kernel), zT_of 753 (by decide +kernel) (by decide +kernel), zT_of 754 (by decide +kernel) (by decide +kernel), zT_of 107 (by decide +kernel) (by decide +kernel), zT_of 755 (by decide +kernel) (by decide +kernel)⟩, by decide, rfl, ⟨zT3, 4, rfl⟩, by decide, by decide, by decide +kernel⟩
theorem zMV_4_47 : zMV "SoapTreaty$Page" 47 7 y_X7_copyFrom prog_9_method_3_code 2 none 1 := ⟨⟨zT_of 1094 (by decide +kernel) (by decide +kernel), zT_of 1095 (by decide +kernel) (by decide +kernel), zT_of 1096 (by decide +kernel) (by decide +kernel), zT_of 116 (by decide +kernel) (by decide +kernel), zT_of 1097 (by decide +kernel) (by decide +kernel)⟩, by decide, rfl, ⟨zT7, 4, rfl⟩, by decide, by decide, by decide +kernel⟩
/-! SoapTreaty$Page.copyFrom(LSoapTreaty$Page;)V -/
def y_X4_copyFrom : MethodName := ⟨"SoapTreaty$Page", "copyFrom", "(LSoapTreaty$Page;)V"⟩
noncomputable def p_X4_copyFrom_0 : List (Nat × zO) := [(0, zo_aload 0 1),
  (1, zo_getR 4 8 none 4),
  (4, zo_aload 1 5),
  (5, zo_getR 4 8 none 8),
  (8, zo_vir 8 2 (zo_callv (f_X8_copyFrom) 2 11)),
  (11, zo_aload 0 12),
  (12, zo_getR 4 3 none 15),
  (15, zo_aload 1 16),
  (16, zo_getR 4 3 none 19),
  (19, zo_vir 3 2 (zo_callv (f_X3_copyFrom) 2 22)),
  (22, zo_aload 0 23),
  (23, zo_getR 4 7 none 26),
  (26, zo_aload 1 27),
  (27, zo_getR 4 7 none 30),
  (30, zo_vir 7 2 (zo_callv (f_X7_copyFrom) 2 33)),
  (33, zo_ret)]
noncomputable def p_X4_copyFrom : Nat → zO := zgs [(34, p_X4_copyFrom_0)]
theorem t_X4_copyFrom : ∀ k, zTl (p_X4_copyFrom k) := fun k => zgs_all (c := [(34, p_X4_copyFrom_0)]) (fun _ => zl_bad) ⟨⟨zl_aload, zl_getR, zl_aload, zl_getR, (zl_vir zl_callv), zl_aload, zl_getR, zl_aload, zl_getR, (zl_vir zl_callv), zl_aload, zl_getR, zl_aload, zl_getR, (zl_vir zl_callv), zl_ret, trivial⟩, trivial⟩ k
noncomputable def f_X4_copyFrom : zS := zrun p_X4_copyFrom 2
set_option maxRecDepth 20000 in
theorem s_X4_copyFrom_0 {l : Launch} {D : va_G} {ad : Nat → Nat → Nat} {cy : Nat → ClassId} {L : List (Nat × Nat)} (hcl : zclo L = true) (hinj : zAd ad L) {X : zCtx} (hX : zXok X "SoapTreaty$Page" prog_6_method_3_code 2) (hR : zRt X none) (hl : zXl X l D ad cy L (zroom 2)) : zAllR (zSo X) p_X4_copyFrom_0 := ⟨zs_aload_n (i := 0) rfl hX (by decide +kernel : decode prog_6_method_3_code 0 = .ok (.aload_n 0, 1)) rfl (by decide),
  zs_getR hX zFL_4_12 (by decide +kernel : decode prog_6_method_3_code 1 = .ok (.getfield 12, 3)) rfl,
  zs_aload_n (i := 1) rfl hX (by decide +kernel : decode prog_6_method_3_code 4 = .ok (.aload_n 1, 1)) rfl (by decide),
  zs_getR hX zFL_4_12 (by decide +kernel : decode prog_6_method_3_code 5 = .ok (.getfield 12, 3)) rfl,
  zs_callVv hX zMV_4_40 (zXc_of hl (by decide) (k_X8_copyFrom hcl hinj)) (by decide +kernel : decode prog_6_method_3_code 8 = .ok (.invokevirtual 40, 3)) rfl,
  zs_aload_n (i := 0) rfl hX (by decide +kernel : decode prog_6_method_3_code 11 = .ok (.aload_n 0, 1)) rfl (by decide),
  zs_getR hX zFL_4_21 (by decide +kernel : decode prog_6_method_3_code 12 = .ok (.getfield 21, 3)) rfl,
  zs_aload_n (i := 1) rfl hX (by decide +kernel : decode prog_6_method_3_code 15 = .ok (.aload_n 1, 1)) rfl (by decide),
  zs_getR hX zFL_4_21 (by decide +kernel : decode prog_6_method_3_code 16 = .ok (.getfield 21, 3)) rfl,
  zs_callVv hX zMV_4_44 (zXc_of hl (by decide) (k_X3_copyFrom hcl hinj)) (by decide +kernel : decode prog_6_method_3_code 19 = .ok (.invokevirtual 44, 3)) rfl,
  zs_aload_n (i := 0) rfl hX (by decide +kernel : decode prog_6_method_3_code 22 = .ok (.aload_n 0, 1)) rfl (by decide),
  zs_getR hX zFL_4_28 (by decide +kernel : decode prog_6_method_3_code 23 = .ok (.getfield 28, 3)) rfl,
  zs_aload_n (i := 1) rfl hX (by decide +kernel : decode prog_6_method_3_code 26 = .ok (.aload_n 1, 1)) rfl (by decide),
  zs_getR hX zFL_4_28 (by decide +kernel : decode prog_6_method_3_code 27 = .ok (.getfield 28, 3)) rfl,
  zs_callVv hX zMV_4_47 (zXc_of hl (by decide) (k_X7_copyFrom hcl hinj)) (by decide +kernel : decode prog_6_method_3_code 30 = .ok (.invokevirtual 47, 3)) rfl,
  zs_ret hX hR (by decide +kernel : decode prog_6_method_3_code 33 = .ok (.return_, 1)), trivial⟩
theorem k_X4_copyFrom {l : Launch} {D : va_G} {ad : Nat → Nat → Nat} {cy : Nat → ClassId} {L : List (Nat × Nat)} (hcl : zclo L = true) (hinj : zAd ad L) : zCk l D ad cy L 2 f_X4_copyFrom y_X4_copyFrom (.code y_X4_copyFrom prog_6_method_3_code 2 none) :=
  z_met (by decide) t_X4_copyFrom hcl hinj (fun X hX hR hl k => zgs_all (Q := zSo X) (c := [(34, p_X4_copyFrom_0)]) (fun _ => zs_bad) ⟨s_X4_copyFrom_0 hcl hinj hX hR hl, trivial⟩ k)
set_option maxRecDepth 1000000 in
theorem e_X4_copyFrom_0 (jx0 : Nat) (jx1 : Nat) (h : zH) : zL p_X4_copyFrom 0 [some (.inr (.inr (4, jx0))), some (.inr (.inr (4, jx1)))] [] h = zcv (f_X8_copyFrom [(.inr (.inr (8, jx0))), (.inr (.inr (8, jx1)))] h) (fun h1 => zcv (f_X3_copyFrom [(.inr (.inr (3, jx0))), (.inr (.inr (3, jx1)))] h1) (fun h2 => zcv (f_X7_copyFrom [(.inr (.inr (7, jx0))), (.inr (.inr (7, jx1)))] h2) (fun h3 => some (none, h3)))) := (zL_s (t_X4_copyFrom) [0] 1000 0 _ _ _).trans rfl
theorem g_X4_copyFrom (jx0 : Nat) (jx1 : Nat) (h : zH) : f_X4_copyFrom [(.inr (.inr (4, jx0))), (.inr (.inr (4, jx1)))] h = zcv (f_X8_copyFrom [(.inr (.inr (8, jx0))), (.inr (.inr (8, jx1)))] h) (fun h1 => zcv (f_X3_copyFrom [(.inr (.inr (3, jx0))), (.inr (.inr (3, jx1)))] h1) (fun h2 => zcv (f_X7_copyFrom [(.inr (.inr (7, jx0))), (.inr (.inr (7, jx1)))] h2) (fun h3 => some (none, h3)))) := (show f_X4_copyFrom _ h = zL p_X4_copyFrom 0 _ [] h from rfl).trans (e_X4_copyFrom_0 jx0 jx1 h)
theorem zMV_5_22 : zMV "SoapTreaty$Past" 22 8 y_X8_copyFrom prog_10_method_3_code 2 none 1 := ⟨⟨zT_of 853 (by decide +kernel) (by decide +kernel), zT_of 854 (by decide +kernel) (by decide +kernel), zT_of 855 (by decide +kernel) (by decide +kernel), zT_of 115 (by decide +kernel) (by decide +kernel), zT_of 856 (by decide +kernel) (by decide +kernel)⟩, by decide, rfl, ⟨zT8, 7, rfl⟩, by decide, by decide, by decide +kernel⟩
/-! SoapTreaty$Past.keep(LSoapTreaty$State;)V -/
def y_X5_keep : MethodName := ⟨"SoapTreaty$Past", "keep", "(LSoapTreaty$State;)V"⟩
noncomputable def p_X5_keep_0 : List (Nat × zO) := [(0, zo_aload 0 1),
  (1, zo_getR 5 27 none 4),
  (4, zo_aload 0 5),
  (5, zo_getI 5 1 8),
  (8, zo_aald6 9),
  (9, zo_aload 1 10),
  (10, zo_vir 8 2 (zo_callv (f_X8_copyFrom) 2 13)),
  (13, zo_aload 0 14),
  (14, zo_aload 0 15),
  (15, zo_getI 5 1 18),
  (18, zo_push (.inl 1) 19),
  (19, zo_ii (fun x y => x + y) 20),
  (20, zo_push (.inl 16) 22),
  (22, zo_idc (fun x y => x - x / y * y) 23),
  (23, zo_putI 5 1 26),
  (26, zo_aload 0 27),
  (27, zo_push (.inl 16) 29),
  (29, zo_aload 0 30),
  (30, zo_getI 5 2 33),
  (33, zo_push (.inl 1) 34)]
noncomputable def p_X5_keep_1 : List (Nat × zO) := [(34, zo_ii (fun x y => x + y) 35),
  (35, zo_min 38),
  (38, zo_putI 5 2 41),
  (41, zo_ret)]
noncomputable def p_X5_keep : Nat → zO := zgs [(34, p_X5_keep_0), (42, p_X5_keep_1)]
theorem t_X5_keep : ∀ k, zTl (p_X5_keep k) := fun k => zgs_all (c := [(34, p_X5_keep_0), (42, p_X5_keep_1)]) (fun _ => zl_bad) ⟨⟨zl_aload, zl_getR, zl_aload, zl_getI, zl_aald6, zl_aload, (zl_vir zl_callv), zl_aload, zl_aload, zl_getI, zl_push, zl_ii, zl_push, zl_idc, zl_putI, zl_aload, zl_push, zl_aload, zl_getI, zl_push, trivial⟩, ⟨zl_ii, zl_min, zl_putI, zl_ret, trivial⟩, trivial⟩ k
noncomputable def f_X5_keep : zS := zrun p_X5_keep 2
set_option maxRecDepth 20000 in
theorem s_X5_keep_0 {l : Launch} {D : va_G} {ad : Nat → Nat → Nat} {cy : Nat → ClassId} {L : List (Nat × Nat)} (hcl : zclo L = true) (hinj : zAd ad L) {X : zCtx} (hX : zXok X "SoapTreaty$Past" prog_7_method_2_code 2) (hR : zRt X none) (hl : zXl X l D ad cy L (zroom 2)) : zAllR (zSo X) p_X5_keep_0 := ⟨zs_aload_n (i := 0) rfl hX (by decide +kernel : decode prog_7_method_2_code 0 = .ok (.aload_n 0, 1)) rfl (by decide),
  zs_getR hX zFL_5_11 (by decide +kernel : decode prog_7_method_2_code 1 = .ok (.getfield 11, 3)) rfl,
  zs_aload_n (i := 0) rfl hX (by decide +kernel : decode prog_7_method_2_code 4 = .ok (.aload_n 0, 1)) rfl (by decide),
  zs_getI hX zFL_5_18 (by decide) (by decide) (by decide +kernel : decode prog_7_method_2_code 5 = .ok (.getfield 18, 3)) rfl,
  zs_aald6 hX zlen_6 (by decide +kernel : decode prog_7_method_2_code 8 = .ok (.aaload, 1)) rfl,
  zs_aload_n (i := 1) rfl hX (by decide +kernel : decode prog_7_method_2_code 9 = .ok (.aload_n 1, 1)) rfl (by decide),
  zs_callVv hX zMV_5_22 (zXc_of hl (by decide) (k_X8_copyFrom hcl hinj)) (by decide +kernel : decode prog_7_method_2_code 10 = .ok (.invokevirtual 22, 3)) rfl,
  zs_aload_n (i := 0) rfl hX (by decide +kernel : decode prog_7_method_2_code 13 = .ok (.aload_n 0, 1)) rfl (by decide),
  zs_aload_n (i := 0) rfl hX (by decide +kernel : decode prog_7_method_2_code 14 = .ok (.aload_n 0, 1)) rfl (by decide),
  zs_getI hX zFL_5_18 (by decide) (by decide) (by decide +kernel : decode prog_7_method_2_code 15 = .ok (.getfield 18, 3)) rfl,
  zs_pushI (zg_iconst (by decide) hX (by decide +kernel : decode prog_7_method_2_code 18 = .ok (.iconst 1, 1)) rfl),
  zs_ii (zg_iadd hX (by decide +kernel : decode prog_7_method_2_code 19 = .ok (.iadd, 1)) rfl),
  zs_pushI (zg_bipush (by decide) hX (by decide +kernel : decode prog_7_method_2_code 20 = .ok (.bipush 16, 2)) rfl),
  zs_idc (zg_irem hX (by decide +kernel : decode prog_7_method_2_code 22 = .ok (.irem, 1)) rfl),
  zs_putI hX zFP_5_18 (by decide +kernel : decode prog_7_method_2_code 23 = .ok (.putfield 18, 3)) rfl,
  zs_aload_n (i := 0) rfl hX (by decide +kernel : decode prog_7_method_2_code 26 = .ok (.aload_n 0, 1)) rfl (by decide),
  zs_pushI (zg_bipush (by decide) hX (by decide +kernel : decode prog_7_method_2_code 27 = .ok (.bipush 16, 2)) rfl),
  zs_aload_n (i := 0) rfl hX (by decide +kernel : decode prog_7_method_2_code 29 = .ok (.aload_n 0, 1)) rfl (by decide),
  zs_getI hX zFL_5_26 (by decide) (by decide) (by decide +kernel : decode prog_7_method_2_code 30 = .ok (.getfield 26, 3)) rfl,
  zs_pushI (zg_iconst (by decide) hX (by decide +kernel : decode prog_7_method_2_code 33 = .ok (.iconst 1, 1)) rfl), trivial⟩
set_option maxRecDepth 20000 in
theorem s_X5_keep_1 {l : Launch} {D : va_G} {ad : Nat → Nat → Nat} {cy : Nat → ClassId} {L : List (Nat × Nat)} (hcl : zclo L = true) (hinj : zAd ad L) {X : zCtx} (hX : zXok X "SoapTreaty$Past" prog_7_method_2_code 2) (hR : zRt X none) (hl : zXl X l D ad cy L (zroom 2)) : zAllR (zSo X) p_X5_keep_1 := ⟨zs_ii (zg_iadd hX (by decide +kernel : decode prog_7_method_2_code 34 = .ok (.iadd, 1)) rfl),
  zs_min hX zKmin_5_29 (by decide +kernel : decode prog_7_method_2_code 35 = .ok (.invokestatic 29, 3)) rfl,
  zs_putI hX zFP_5_26 (by decide +kernel : decode prog_7_method_2_code 38 = .ok (.putfield 26, 3)) rfl,
  zs_ret hX hR (by decide +kernel : decode prog_7_method_2_code 41 = .ok (.return_, 1)), trivial⟩
theorem k_X5_keep {l : Launch} {D : va_G} {ad : Nat → Nat → Nat} {cy : Nat → ClassId} {L : List (Nat × Nat)} (hcl : zclo L = true) (hinj : zAd ad L) : zCk l D ad cy L 2 f_X5_keep y_X5_keep (.code y_X5_keep prog_7_method_2_code 2 none) :=
  z_met (by decide) t_X5_keep hcl hinj (fun X hX hR hl k => zgs_all (Q := zSo X) (c := [(34, p_X5_keep_0), (42, p_X5_keep_1)]) (fun _ => zs_bad) ⟨s_X5_keep_0 hcl hinj hX hR hl, s_X5_keep_1 hcl hinj hX hR hl, trivial⟩ k)
set_option maxRecDepth 1000000 in
theorem e_X5_keep_0 (jx1 : Nat) (h : zH) : zL p_X5_keep 0 [some (.inr (.inr (5, 0))), some (.inr (.inr (8, jx1)))] [] h = zf (vp_in (h.1 5 0 1) 16) (zcv (f_X8_copyFrom [(.inr (.inr (8, (5 + (h.1 5 0 1).toNatClampNeg)))), (.inr (.inr (8, jx1)))] h) (fun h1 => some (none, (zuI (zuI h1 5 0 1 (((h1.1 5 0 1) + (1 : Int32)) - ((h1.1 5 0 1) + (1 : Int32)) / 16 * 16)) 5 0 2 (if ((h1.1 5 0 2) + (1 : Int32)) < 16 then ((h1.1 5 0 2) + (1 : Int32)) else 16))))) none := (zL_s (t_X5_keep) [0] 1000 0 _ _ _).trans rfl
theorem g_X5_keep (jx1 : Nat) (h : zH) : f_X5_keep [(.inr (.inr (5, 0))), (.inr (.inr (8, jx1)))] h = zf (vp_in (h.1 5 0 1) 16) (zcv (f_X8_copyFrom [(.inr (.inr (8, (5 + (h.1 5 0 1).toNatClampNeg)))), (.inr (.inr (8, jx1)))] h) (fun h1 => some (none, (zuI (zuI h1 5 0 1 (((h1.1 5 0 1) + (1 : Int32)) - ((h1.1 5 0 1) + (1 : Int32)) / 16 * 16)) 5 0 2 (if ((h1.1 5 0 2) + (1 : Int32)) < 16 then ((h1.1 5 0 2) + (1 : Int32)) else 16))))) none := (show f_X5_keep _ h = zL p_X5_keep 0 _ [] h from rfl).trans (e_X5_keep_0 jx1 h)
/-! SoapTreaty$Past.giveBack(LSoapTreaty$State;)Z -/
def y_X5_giveBack : MethodName := ⟨"SoapTreaty$Past", "giveBack", "(LSoapTreaty$State;)Z"⟩
noncomputable def p_X5_giveBack_0 : List (Nat × zO) := [(0, zo_aload 0 1),
  (1, zo_getI 5 2 4),
  (4, zo_0ne 9 7),
  (7, zo_push (.inl 0) 8),
  (8, zo_zretc),
  (9, zo_aload 0 10),
  (10, zo_aload 0 11),
  (11, zo_getI 5 1 14),
  (14, zo_push (.inl 16) 16),
  (16, zo_ii (fun x y => x + y) 17),
  (17, zo_push (.inl 1) 18),
  (18, zo_ii (fun x y => x - y) 19),
  (19, zo_push (.inl 16) 21),
  (21, zo_idc (fun x y => x - x / y * y) 22),
  (22, zo_putI 5 1 25),
  (25, zo_aload 0 26),
  (26, zo_dup 27),
  (27, zo_getI 5 2 30),
  (30, zo_push (.inl 1) 31),
  (31, zo_ii (fun x y => x - y) 32)]
noncomputable def p_X5_giveBack_1 : List (Nat × zO) := [(32, zo_putI 5 2 35),
  (35, zo_aload 1 36),
  (36, zo_aload 0 37),
  (37, zo_getR 5 27 none 40),
  (40, zo_aload 0 41),
  (41, zo_getI 5 1 44),
  (44, zo_aald6 45),
  (45, zo_vir 8 2 (zo_callv (f_X8_copyFrom) 2 48)),
  (48, zo_push (.inl 1) 49),
  (49, zo_zretc)]
noncomputable def p_X5_giveBack : Nat → zO := zgs [(32, p_X5_giveBack_0), (50, p_X5_giveBack_1)]
theorem t_X5_giveBack : ∀ k, zTl (p_X5_giveBack k) := fun k => zgs_all (c := [(32, p_X5_giveBack_0), (50, p_X5_giveBack_1)]) (fun _ => zl_bad) ⟨⟨zl_aload, zl_getI, zl_0ne, zl_push, zl_zretc, zl_aload, zl_aload, zl_getI, zl_push, zl_ii, zl_push, zl_ii, zl_push, zl_idc, zl_putI, zl_aload, zl_dup, zl_getI, zl_push, zl_ii, trivial⟩, ⟨zl_putI, zl_aload, zl_aload, zl_getR, zl_aload, zl_getI, zl_aald6, (zl_vir zl_callv), zl_push, zl_zretc, trivial⟩, trivial⟩ k
noncomputable def f_X5_giveBack : zS := zrun p_X5_giveBack 2
set_option maxRecDepth 20000 in
theorem s_X5_giveBack_0 {l : Launch} {D : va_G} {ad : Nat → Nat → Nat} {cy : Nat → ClassId} {L : List (Nat × Nat)} (hcl : zclo L = true) (hinj : zAd ad L) {X : zCtx} (hX : zXok X "SoapTreaty$Past" prog_7_method_3_code 2) (hR : zRt X (some .boolean)) (hl : zXl X l D ad cy L (zroom 2)) : zAllR (zSo X) p_X5_giveBack_0 := ⟨zs_aload_n (i := 0) rfl hX (by decide +kernel : decode prog_7_method_3_code 0 = .ok (.aload_n 0, 1)) rfl (by decide),
  zs_getI hX zFL_5_26 (by decide) (by decide) (by decide +kernel : decode prog_7_method_3_code 1 = .ok (.getfield 26, 3)) rfl,
  zs_0ne hX (by decide +kernel : decode prog_7_method_3_code 4 = .ok (.ifCond .ne 5, 3)) (by decide) rfl,
  zs_pushI (zg_iconst (by decide) hX (by decide +kernel : decode prog_7_method_3_code 7 = .ok (.iconst 0, 1)) rfl),
  zs_zretc hX hR (by decide +kernel : decode prog_7_method_3_code 8 = .ok (.ireturn, 1)),
  zs_aload_n (i := 0) rfl hX (by decide +kernel : decode prog_7_method_3_code 9 = .ok (.aload_n 0, 1)) rfl (by decide),
  zs_aload_n (i := 0) rfl hX (by decide +kernel : decode prog_7_method_3_code 10 = .ok (.aload_n 0, 1)) rfl (by decide),
  zs_getI hX zFL_5_18 (by decide) (by decide) (by decide +kernel : decode prog_7_method_3_code 11 = .ok (.getfield 18, 3)) rfl,
  zs_pushI (zg_bipush (by decide) hX (by decide +kernel : decode prog_7_method_3_code 14 = .ok (.bipush 16, 2)) rfl),
  zs_ii (zg_iadd hX (by decide +kernel : decode prog_7_method_3_code 16 = .ok (.iadd, 1)) rfl),
  zs_pushI (zg_iconst (by decide) hX (by decide +kernel : decode prog_7_method_3_code 17 = .ok (.iconst 1, 1)) rfl),
  zs_ii (zg_isub hX (by decide +kernel : decode prog_7_method_3_code 18 = .ok (.isub, 1)) rfl),
  zs_pushI (zg_bipush (by decide) hX (by decide +kernel : decode prog_7_method_3_code 19 = .ok (.bipush 16, 2)) rfl),
  zs_idc (zg_irem hX (by decide +kernel : decode prog_7_method_3_code 21 = .ok (.irem, 1)) rfl),
  zs_putI hX zFP_5_18 (by decide +kernel : decode prog_7_method_3_code 22 = .ok (.putfield 18, 3)) rfl,
  zs_aload_n (i := 0) rfl hX (by decide +kernel : decode prog_7_method_3_code 25 = .ok (.aload_n 0, 1)) rfl (by decide),
  zs_dup hX (by decide +kernel : decode prog_7_method_3_code 26 = .ok (.dup, 1)) rfl,
  zs_getI hX zFL_5_26 (by decide) (by decide) (by decide +kernel : decode prog_7_method_3_code 27 = .ok (.getfield 26, 3)) rfl,
  zs_pushI (zg_iconst (by decide) hX (by decide +kernel : decode prog_7_method_3_code 30 = .ok (.iconst 1, 1)) rfl),
  zs_ii (zg_isub hX (by decide +kernel : decode prog_7_method_3_code 31 = .ok (.isub, 1)) rfl), trivial⟩
set_option maxRecDepth 20000 in
theorem s_X5_giveBack_1 {l : Launch} {D : va_G} {ad : Nat → Nat → Nat} {cy : Nat → ClassId} {L : List (Nat × Nat)} (hcl : zclo L = true) (hinj : zAd ad L) {X : zCtx} (hX : zXok X "SoapTreaty$Past" prog_7_method_3_code 2) (hR : zRt X (some .boolean)) (hl : zXl X l D ad cy L (zroom 2)) : zAllR (zSo X) p_X5_giveBack_1 := ⟨zs_putI hX zFP_5_26 (by decide +kernel : decode prog_7_method_3_code 32 = .ok (.putfield 26, 3)) rfl,
  zs_aload_n (i := 1) rfl hX (by decide +kernel : decode prog_7_method_3_code 35 = .ok (.aload_n 1, 1)) rfl (by decide),
  zs_aload_n (i := 0) rfl hX (by decide +kernel : decode prog_7_method_3_code 36 = .ok (.aload_n 0, 1)) rfl (by decide),
  zs_getR hX zFL_5_11 (by decide +kernel : decode prog_7_method_3_code 37 = .ok (.getfield 11, 3)) rfl,
  zs_aload_n (i := 0) rfl hX (by decide +kernel : decode prog_7_method_3_code 40 = .ok (.aload_n 0, 1)) rfl (by decide),
  zs_getI hX zFL_5_18 (by decide) (by decide) (by decide +kernel : decode prog_7_method_3_code 41 = .ok (.getfield 18, 3)) rfl,
  zs_aald6 hX zlen_6 (by decide +kernel : decode prog_7_method_3_code 44 = .ok (.aaload, 1)) rfl,
  zs_callVv hX zMV_5_22 (zXc_of hl (by decide) (k_X8_copyFrom hcl hinj)) (by decide +kernel : decode prog_7_method_3_code 45 = .ok (.invokevirtual 22, 3)) rfl,
  zs_pushI (zg_iconst (by decide) hX (by decide +kernel : decode prog_7_method_3_code 48 = .ok (.iconst 1, 1)) rfl),
  zs_zretc hX hR (by decide +kernel : decode prog_7_method_3_code 49 = .ok (.ireturn, 1)), trivial⟩
theorem k_X5_giveBack {l : Launch} {D : va_G} {ad : Nat → Nat → Nat} {cy : Nat → ClassId} {L : List (Nat × Nat)} (hcl : zclo L = true) (hinj : zAd ad L) : zCk l D ad cy L 2 f_X5_giveBack y_X5_giveBack (.code y_X5_giveBack prog_7_method_3_code 2 (some .boolean)) :=
  z_met (by decide) t_X5_giveBack hcl hinj (fun X hX hR hl k => zgs_all (Q := zSo X) (c := [(32, p_X5_giveBack_0), (50, p_X5_giveBack_1)]) (fun _ => zs_bad) ⟨s_X5_giveBack_0 hcl hinj hX hR hl, s_X5_giveBack_1 hcl hinj hX hR hl, trivial⟩ k)
set_option maxRecDepth 1000000 in
theorem e_X5_giveBack_0 (jx1 : Nat) (h : zH) : zL p_X5_giveBack 0 [some (.inr (.inr (5, 0))), some (.inr (.inr (8, jx1)))] [] h = zf ((h.1 5 0 2) = 0) (some (some (.inl 0), h)) (zf (vp_in ((((h.1 5 0 1) + (16 : Int32)) - (1 : Int32)) - (((h.1 5 0 1) + (16 : Int32)) - (1 : Int32)) / 16 * 16) 16) (zcv (f_X8_copyFrom [(.inr (.inr (8, jx1))), (.inr (.inr (8, (5 + ((((h.1 5 0 1) + (16 : Int32)) - (1 : Int32)) - (((h.1 5 0 1) + (16 : Int32)) - (1 : Int32)) / 16 * 16).toNatClampNeg))))] (zuI (zuI h 5 0 1 ((((h.1 5 0 1) + (16 : Int32)) - (1 : Int32)) - (((h.1 5 0 1) + (16 : Int32)) - (1 : Int32)) / 16 * 16)) 5 0 2 ((h.1 5 0 2) - (1 : Int32)))) (fun h1 => some (some (.inl 1), h1))) none) := (zL_s (t_X5_giveBack) [0] 1000 0 _ _ _).trans rfl
theorem g_X5_giveBack (jx1 : Nat) (h : zH) : f_X5_giveBack [(.inr (.inr (5, 0))), (.inr (.inr (8, jx1)))] h = zf ((h.1 5 0 2) = 0) (some (some (.inl 0), h)) (zf (vp_in ((((h.1 5 0 1) + (16 : Int32)) - (1 : Int32)) - (((h.1 5 0 1) + (16 : Int32)) - (1 : Int32)) / 16 * 16) 16) (zcv (f_X8_copyFrom [(.inr (.inr (8, jx1))), (.inr (.inr (8, (5 + ((((h.1 5 0 1) + (16 : Int32)) - (1 : Int32)) - (((h.1 5 0 1) + (16 : Int32)) - (1 : Int32)) / 16 * 16).toNatClampNeg))))] (zuI (zuI h 5 0 1 ((((h.1 5 0 1) + (16 : Int32)) - (1 : Int32)) - (((h.1 5 0 1) + (16 : Int32)) - (1 : Int32)) / 16 * 16)) 5 0 2 ((h.1 5 0 2) - (1 : Int32)))) (fun h1 => some (some (.inl 1), h1))) none) := (show f_X5_giveBack _ h = zL p_X5_giveBack 0 _ [] h from rfl).trans (e_X5_giveBack_0 jx1 h)
/-! SoapTreaty$Tokens.begin()V -/
def y_X10_begin : MethodName := ⟨"SoapTreaty$Tokens", "begin", "()V"⟩
noncomputable def p_X10_begin_0 : List (Nat × zO) := [(0, zo_aload 0 1),
  (1, zo_push (.inl 0) 2),
  (2, zo_putI 10 2 5),
  (5, zo_aload 0 6),
  (6, zo_push (.inl 0) 7),
  (7, zo_putI 10 7 10),
  (10, zo_aload 0 11),
  (11, zo_vir 10 1 (zo_callv (f_X10_step) 1 14)),
  (14, zo_ret)]
noncomputable def p_X10_begin : Nat → zO := zgs [(15, p_X10_begin_0)]
theorem t_X10_begin : ∀ k, zTl (p_X10_begin k) := fun k => zgs_all (c := [(15, p_X10_begin_0)]) (fun _ => zl_bad) ⟨⟨zl_aload, zl_push, zl_putI, zl_aload, zl_push, zl_putI, zl_aload, (zl_vir zl_callv), zl_ret, trivial⟩, trivial⟩ k
noncomputable def f_X10_begin : zS := zrun p_X10_begin 1
set_option maxRecDepth 20000 in
theorem s_X10_begin_0 {l : Launch} {D : va_G} {ad : Nat → Nat → Nat} {cy : Nat → ClassId} {L : List (Nat × Nat)} (hcl : zclo L = true) (hinj : zAd ad L) {X : zCtx} (hX : zXok X "SoapTreaty$Tokens" prog_12_method_3_code 1) (hR : zRt X none) (hl : zXl X l D ad cy L (zroom 4)) : zAllR (zSo X) p_X10_begin_0 := ⟨zs_aload_n (i := 0) rfl hX (by decide +kernel : decode prog_12_method_3_code 0 = .ok (.aload_n 0, 1)) rfl (by decide),
  zs_pushI (zg_iconst (by decide) hX (by decide +kernel : decode prog_12_method_3_code 1 = .ok (.iconst 0, 1)) rfl),
  zs_putI hX zFP_10_37 (by decide +kernel : decode prog_12_method_3_code 2 = .ok (.putfield 37, 3)) rfl,
  zs_aload_n (i := 0) rfl hX (by decide +kernel : decode prog_12_method_3_code 5 = .ok (.aload_n 0, 1)) rfl (by decide),
  zs_pushI (zg_iconst (by decide) hX (by decide +kernel : decode prog_12_method_3_code 6 = .ok (.iconst 0, 1)) rfl),
  zs_putI hX zFP_10_41 (by decide +kernel : decode prog_12_method_3_code 7 = .ok (.putfield 41, 3)) rfl,
  zs_aload_n (i := 0) rfl hX (by decide +kernel : decode prog_12_method_3_code 10 = .ok (.aload_n 0, 1)) rfl (by decide),
  zs_callVv hX zMV_10_44 (zXc_of hl (by decide) (k_X10_step hcl hinj)) (by decide +kernel : decode prog_12_method_3_code 11 = .ok (.invokevirtual 44, 3)) rfl,
  zs_ret hX hR (by decide +kernel : decode prog_12_method_3_code 14 = .ok (.return_, 1)), trivial⟩
theorem k_X10_begin {l : Launch} {D : va_G} {ad : Nat → Nat → Nat} {cy : Nat → ClassId} {L : List (Nat × Nat)} (hcl : zclo L = true) (hinj : zAd ad L) : zCk l D ad cy L 4 f_X10_begin y_X10_begin (.code y_X10_begin prog_12_method_3_code 1 none) :=
  z_met (by decide) t_X10_begin hcl hinj (fun X hX hR hl k => zgs_all (Q := zSo X) (c := [(15, p_X10_begin_0)]) (fun _ => zs_bad) ⟨s_X10_begin_0 hcl hinj hX hR hl, trivial⟩ k)
set_option maxRecDepth 1000000 in
theorem e_X10_begin_0 (h : zH) : zL p_X10_begin 0 [some (.inr (.inr (10, 0)))] [] h = zcv (f_X10_step [(.inr (.inr (10, 0)))] (zuI (zuI h 10 0 2 0) 10 0 7 0)) (fun h1 => some (none, h1)) := (zL_s (t_X10_begin) [0] 1000 0 _ _ _).trans rfl
theorem g_X10_begin (h : zH) : f_X10_begin [(.inr (.inr (10, 0)))] h = zcv (f_X10_step [(.inr (.inr (10, 0)))] (zuI (zuI h 10 0 2 0) 10 0 7 0)) (fun h1 => some (none, h1)) := (show f_X10_begin _ h = zL p_X10_begin 0 _ [] h from rfl).trans (e_X10_begin_0 h)
/-! SoapTreaty$Tokens.isMore()Z -/
def y_X10_isMore : MethodName := ⟨"SoapTreaty$Tokens", "isMore", "()Z"⟩
noncomputable def p_X10_isMore_0 : List (Nat × zO) := [(0, zo_aload 0 1),
  (1, zo_getI 10 7 4),
  (4, zo_0ne 18 7),
  (7, zo_aload 0 8),
  (8, zo_getI 10 3 11),
  (11, zo_0eq 18 14),
  (14, zo_push (.inl 1) 15),
  (15, zo_goto 19),
  (18, zo_push (.inl 0) 19),
  (19, zo_zretc)]
noncomputable def p_X10_isMore : Nat → zO := zgs [(20, p_X10_isMore_0)]
theorem t_X10_isMore : ∀ k, zTl (p_X10_isMore k) := fun k => zgs_all (c := [(20, p_X10_isMore_0)]) (fun _ => zl_bad) ⟨⟨zl_aload, zl_getI, zl_0ne, zl_aload, zl_getI, zl_0eq, zl_push, zl_goto, zl_push, zl_zretc, trivial⟩, trivial⟩ k
noncomputable def f_X10_isMore : zS := zrun p_X10_isMore 1
set_option maxRecDepth 20000 in
theorem s_X10_isMore_0 {l : Launch} {D : va_G} {ad : Nat → Nat → Nat} {cy : Nat → ClassId} {L : List (Nat × Nat)} (hcl : zclo L = true) (hinj : zAd ad L) {X : zCtx} (hX : zXok X "SoapTreaty$Tokens" prog_12_method_12_code 1) (hR : zRt X (some .boolean)) (hl : zXl X l D ad cy L (zroom 1)) : zAllR (zSo X) p_X10_isMore_0 := ⟨zs_aload_n (i := 0) rfl hX (by decide +kernel : decode prog_12_method_12_code 0 = .ok (.aload_n 0, 1)) rfl (by decide),
  zs_getI hX zFL_10_41 (by decide) (by decide) (by decide +kernel : decode prog_12_method_12_code 1 = .ok (.getfield 41, 3)) rfl,
  zs_0ne hX (by decide +kernel : decode prog_12_method_12_code 4 = .ok (.ifCond .ne 14, 3)) (by decide) rfl,
  zs_aload_n (i := 0) rfl hX (by decide +kernel : decode prog_12_method_12_code 7 = .ok (.aload_n 0, 1)) rfl (by decide),
  zs_getI hX zFL_10_62 (by decide) (by decide) (by decide +kernel : decode prog_12_method_12_code 8 = .ok (.getfield 62, 3)) rfl,
  zs_0eq hX (by decide +kernel : decode prog_12_method_12_code 11 = .ok (.ifCond .eq 7, 3)) (by decide) rfl,
  zs_pushI (zg_iconst (by decide) hX (by decide +kernel : decode prog_12_method_12_code 14 = .ok (.iconst 1, 1)) rfl),
  zs_goto hX (by decide +kernel : decode prog_12_method_12_code 15 = .ok (.goto 4, 3)) (by decide),
  zs_pushI (zg_iconst (by decide) hX (by decide +kernel : decode prog_12_method_12_code 18 = .ok (.iconst 0, 1)) rfl),
  zs_zretc hX hR (by decide +kernel : decode prog_12_method_12_code 19 = .ok (.ireturn, 1)), trivial⟩
theorem k_X10_isMore {l : Launch} {D : va_G} {ad : Nat → Nat → Nat} {cy : Nat → ClassId} {L : List (Nat × Nat)} (hcl : zclo L = true) (hinj : zAd ad L) : zCk l D ad cy L 1 f_X10_isMore y_X10_isMore (.code y_X10_isMore prog_12_method_12_code 1 (some .boolean)) :=
  z_met (by decide) t_X10_isMore hcl hinj (fun X hX hR hl k => zgs_all (Q := zSo X) (c := [(20, p_X10_isMore_0)]) (fun _ => zs_bad) ⟨s_X10_isMore_0 hcl hinj hX hR hl, trivial⟩ k)
set_option maxRecDepth 1000000 in
theorem e_X10_isMore_0 (h : zH) : zL p_X10_isMore 0 [some (.inr (.inr (10, 0)))] [] h = zf ((h.1 10 0 7) = 0) (zf ((h.1 10 0 3) = 0) (some (some (.inl 0), h)) (some (some (.inl 1), h))) (some (some (.inl 0), h)) := (zL_s (t_X10_isMore) [0] 1000 0 _ _ _).trans rfl
theorem g_X10_isMore (h : zH) : f_X10_isMore [(.inr (.inr (10, 0)))] h = zf ((h.1 10 0 7) = 0) (zf ((h.1 10 0 3) = 0) (some (some (.inl 0), h)) (some (some (.inl 1), h))) (some (some (.inl 0), h)) := (show f_X10_isMore _ h = zL p_X10_isMore 0 _ [] h from rfl).trans (e_X10_isMore_0 h)
theorem zMV_6_91 : zMV "SoapTreaty$Reader" 91 10 y_X10_complain prog_12_method_11_code 2 none 1 := ⟨⟨zT_of 605 (by decide +kernel) (by decide +kernel), zT_of 606 (by decide +kernel) (by decide +kernel), zT_of 607 (by decide +kernel) (by decide +kernel), zT_of 108 (by decide +kernel) (by decide +kernel), zT_of 608 (by decide +kernel) (by decide +kernel)⟩, by decide, rfl, ⟨zT10, 8, rfl⟩, by decide, by decide, by decide +kernel⟩
theorem zMV_6_104 : zMV "SoapTreaty$Reader" 104 10 y_X10_step prog_12_method_4_code 2 none 0 := ⟨⟨zT_of 609 (by decide +kernel) (by decide +kernel), zT_of 570 (by decide +kernel) (by decide +kernel), zT_of 571 (by decide +kernel) (by decide +kernel), zT_of 108 (by decide +kernel) (by decide +kernel), zT_of 572 (by decide +kernel) (by decide +kernel)⟩, by decide, rfl, ⟨zT10, 8, rfl⟩, by decide, by decide, by decide +kernel⟩
theorem zMV_6_168 : zMV "SoapTreaty$Reader" 168 1 y_X1_clear prog_3_method_2_code 1 none 0 := ⟨⟨zT_of 671 (by decide +kernel) (by decide +kernel), zT_of 179 (by decide +kernel) (by decide +kernel), zT_of 180 (by decide +kernel) (by decide +kernel), zT_of 105 (by decide +kernel) (by decide +kernel), zT_of 181 (by decide +kernel) (by decide +kernel)⟩, by decide, rfl, ⟨zT1, 3, rfl⟩, by decide, by decide, by decide +kernel⟩
theorem zMV_6_171 : zMV "SoapTreaty$Reader" 171 2 y_X2_readE prog_4_method_2_code 4 none 1 := ⟨⟨zT_of 672 (by decide +kernel) (by decide +kernel), zT_of 673 (by decide +kernel) (by decide +kernel), zT_of 674 (by decide +kernel) (by decide +kernel), zT_of 113 (by decide +kernel) (by decide +kernel), zT_of 675 (by decide +kernel) (by decide +kernel)⟩, by decide, rfl, ⟨zT2, 2, rfl⟩, by decide, by decide, by decide +kernel⟩
/-! SoapTreaty$Reader.readWears()V -/
def y_X6_readWears : MethodName := ⟨"SoapTreaty$Reader", "readWears", "()V"⟩
noncomputable def p_X6_readWears_0 : List (Nat × zO) := [(0, zo_aload 0 1),
  (1, zo_getI 6 6 4),
  (4, zo_0eq 15 7),
  (7, zo_aload 0 8),
  (8, zo_getR 6 10 none 11),
  (11, zo_push (.inl 3) 12),
  (12, zo_vir 10 2 (zo_callv (f_X10_complain) 2 15)),
  (15, zo_aload 0 16),
  (16, zo_push (.inl 1) 17),
  (17, zo_putZ 6 6 20),
  (20, zo_aload 0 21),
  (21, zo_getR 6 10 none 24),
  (24, zo_vir 10 1 (zo_callv (f_X10_step) 1 27)),
  (27, zo_aload 0 28),
  (28, zo_getR 6 0 (some 1) 31),
  (31, zo_getR 0 1 none 34),
  (34, zo_vir 1 1 (zo_callv (f_X1_clear) 1 37)),
  (37, zo_aload 0 38),
  (38, zo_getR 6 2 none 41),
  (41, zo_push (.inl 0) 42)]
noncomputable def p_X6_readWears_1 : List (Nat × zO) := [(42, zo_vir 2 2 (zo_callv (f_X2_readE) 2 45)),
  (45, zo_ret)]
noncomputable def p_X6_readWears : Nat → zO := zgs [(42, p_X6_readWears_0), (46, p_X6_readWears_1)]
theorem t_X6_readWears : ∀ k, zTl (p_X6_readWears k) := fun k => zgs_all (c := [(42, p_X6_readWears_0), (46, p_X6_readWears_1)]) (fun _ => zl_bad) ⟨⟨zl_aload, zl_getI, zl_0eq, zl_aload, zl_getR, zl_push, (zl_vir zl_callv), zl_aload, zl_push, zl_putZ, zl_aload, zl_getR, (zl_vir zl_callv), zl_aload, zl_getR, zl_getR, (zl_vir zl_callv), zl_aload, zl_getR, zl_push, trivial⟩, ⟨(zl_vir zl_callv), zl_ret, trivial⟩, trivial⟩ k
noncomputable def f_X6_readWears : zS := zrun p_X6_readWears 1
set_option maxRecDepth 20000 in
theorem s_X6_readWears_0 {l : Launch} {D : va_G} {ad : Nat → Nat → Nat} {cy : Nat → ClassId} {L : List (Nat × Nat)} (hcl : zclo L = true) (hinj : zAd ad L) {X : zCtx} (hX : zXok X "SoapTreaty$Reader" prog_8_method_7_code 1) (hR : zRt X none) (hl : zXl X l D ad cy L (zroom 61)) : zAllR (zSo X) p_X6_readWears_0 := ⟨zs_aload_n (i := 0) rfl hX (by decide +kernel : decode prog_8_method_7_code 0 = .ok (.aload_n 0, 1)) rfl (by decide),
  zs_getI hX zFL_6_57 (by decide) (by decide) (by decide +kernel : decode prog_8_method_7_code 1 = .ok (.getfield 57, 3)) rfl,
  zs_0eq hX (by decide +kernel : decode prog_8_method_7_code 4 = .ok (.ifCond .eq 11, 3)) (by decide) rfl,
  zs_aload_n (i := 0) rfl hX (by decide +kernel : decode prog_8_method_7_code 7 = .ok (.aload_n 0, 1)) rfl (by decide),
  zs_getR hX zFL_6_33 (by decide +kernel : decode prog_8_method_7_code 8 = .ok (.getfield 33, 3)) rfl,
  zs_pushI (zg_iconst (by decide) hX (by decide +kernel : decode prog_8_method_7_code 11 = .ok (.iconst 3, 1)) rfl),
  zs_callVv hX zMV_6_91 (zXc_of hl (by decide) (k_X10_complain hcl hinj)) (by decide +kernel : decode prog_8_method_7_code 12 = .ok (.invokevirtual 91, 3)) rfl,
  zs_aload_n (i := 0) rfl hX (by decide +kernel : decode prog_8_method_7_code 15 = .ok (.aload_n 0, 1)) rfl (by decide),
  zs_pushI (zg_iconst (by decide) hX (by decide +kernel : decode prog_8_method_7_code 16 = .ok (.iconst 1, 1)) rfl),
  zs_putZ hX zFP_6_57 (by decide +kernel : decode prog_8_method_7_code 17 = .ok (.putfield 57, 3)) rfl,
  zs_aload_n (i := 0) rfl hX (by decide +kernel : decode prog_8_method_7_code 20 = .ok (.aload_n 0, 1)) rfl (by decide),
  zs_getR hX zFL_6_33 (by decide +kernel : decode prog_8_method_7_code 21 = .ok (.getfield 33, 3)) rfl,
  zs_callVv hX zMV_6_104 (zXc_of hl (by decide) (k_X10_step hcl hinj)) (by decide +kernel : decode prog_8_method_7_code 24 = .ok (.invokevirtual 104, 3)) rfl,
  zs_aload_n (i := 0) rfl hX (by decide +kernel : decode prog_8_method_7_code 27 = .ok (.aload_n 0, 1)) rfl (by decide),
  zs_getR hX zFL_6_18 (by decide +kernel : decode prog_8_method_7_code 28 = .ok (.getfield 18, 3)) rfl,
  zs_getR hX zFL_6_39 (by decide +kernel : decode prog_8_method_7_code 31 = .ok (.getfield 39, 3)) rfl,
  zs_callVv hX zMV_6_168 (zXc_of hl (by decide) (k_X1_clear hcl hinj)) (by decide +kernel : decode prog_8_method_7_code 34 = .ok (.invokevirtual 168, 3)) rfl,
  zs_aload_n (i := 0) rfl hX (by decide +kernel : decode prog_8_method_7_code 37 = .ok (.aload_n 0, 1)) rfl (by decide),
  zs_getR hX zFL_6_46 (by decide +kernel : decode prog_8_method_7_code 38 = .ok (.getfield 46, 3)) rfl,
  zs_pushI (zg_iconst (by decide) hX (by decide +kernel : decode prog_8_method_7_code 41 = .ok (.iconst 0, 1)) rfl), trivial⟩
set_option maxRecDepth 20000 in
theorem s_X6_readWears_1 {l : Launch} {D : va_G} {ad : Nat → Nat → Nat} {cy : Nat → ClassId} {L : List (Nat × Nat)} (hcl : zclo L = true) (hinj : zAd ad L) {X : zCtx} (hX : zXok X "SoapTreaty$Reader" prog_8_method_7_code 1) (hR : zRt X none) (hl : zXl X l D ad cy L (zroom 61)) : zAllR (zSo X) p_X6_readWears_1 := ⟨zs_callVv hX zMV_6_171 (zXc_of hl (by decide) (k_X2_readE9 hcl hinj)) (by decide +kernel : decode prog_8_method_7_code 42 = .ok (.invokevirtual 171, 3)) rfl,
  zs_ret hX hR (by decide +kernel : decode prog_8_method_7_code 45 = .ok (.return_, 1)), trivial⟩
theorem k_X6_readWears {l : Launch} {D : va_G} {ad : Nat → Nat → Nat} {cy : Nat → ClassId} {L : List (Nat × Nat)} (hcl : zclo L = true) (hinj : zAd ad L) : zCk l D ad cy L 61 f_X6_readWears y_X6_readWears (.code y_X6_readWears prog_8_method_7_code 1 none) :=
  z_met (by decide) t_X6_readWears hcl hinj (fun X hX hR hl k => zgs_all (Q := zSo X) (c := [(42, p_X6_readWears_0), (46, p_X6_readWears_1)]) (fun _ => zs_bad) ⟨s_X6_readWears_0 hcl hinj hX hR hl, s_X6_readWears_1 hcl hinj hX hR hl, trivial⟩ k)
set_option maxRecDepth 1000000 in
theorem e_X6_readWears_0 (h : zH) : zL p_X6_readWears 0 [some (.inr (.inr (6, 0)))] [] h = zf ((h.1 6 0 6) = 0) (zL p_X6_readWears 15 [some (.inr (.inr (6, 0)))] [] h) (zcv (f_X10_complain [(.inr (.inr (10, 0))), (.inl 3)] h) (fun h1 => zL p_X6_readWears 15 [some (.inr (.inr (6, 0)))] [] h1)) := (zL_s (t_X6_readWears) [0, 15] 1000 0 _ _ _).trans rfl
theorem g_X6_readWears (h : zH) : f_X6_readWears [(.inr (.inr (6, 0)))] h = zf ((h.1 6 0 6) = 0) (zL p_X6_readWears 15 [some (.inr (.inr (6, 0)))] [] h) (zcv (f_X10_complain [(.inr (.inr (10, 0))), (.inl 3)] h) (fun h1 => zL p_X6_readWears 15 [some (.inr (.inr (6, 0)))] [] h1)) := (show f_X6_readWears _ h = zL p_X6_readWears 0 _ [] h from rfl).trans (e_X6_readWears_0 h)
set_option maxRecDepth 1000000 in
theorem e_X6_readWears_15 (h : zH) : zL p_X6_readWears 15 [some (.inr (.inr (6, 0)))] [] h = zcv (f_X10_step [(.inr (.inr (10, 0)))] (zuI h 6 0 6 1)) (fun h1 => zcv (f_X1_clear [(.inr (.inr (1, 1)))] h1) (fun h2 => zcv (f_X2_readE [(.inr (.inr (2, 0))), (.inl 0)] h2) (fun h3 => some (none, h3)))) := (zL_s (t_X6_readWears) [0, 15] 1000 15 _ _ _).trans rfl
/-! SoapTreaty$Tokens.takeNumber(II)I -/
def y_X10_takeNumber : MethodName := ⟨"SoapTreaty$Tokens", "takeNumber", "(II)I"⟩
noncomputable def p_X10_takeNumber_0 : List (Nat × zO) := [(0, zo_aload 0 1),
  (1, zo_getI 10 5 4),
  (4, zo_istore 3 5),
  (5, zo_aload 0 6),
  (6, zo_getI 10 3 9),
  (9, zo_push (.inl 3) 10),
  (10, zo_ceq 21 13),
  (13, zo_aload 0 14),
  (14, zo_push (.inl 1) 15),
  (15, zo_vir 10 2 (zo_callv (f_X10_complain) 2 18)),
  (18, zo_goto 36),
  (21, zo_iload 3 22),
  (22, zo_iload 1 23),
  (23, zo_clt 31 26),
  (26, zo_iload 3 27),
  (27, zo_iload 2 28),
  (28, zo_cle 36 31),
  (31, zo_aload 0 32),
  (32, zo_push (.inl 4) 33),
  (33, zo_vir 10 2 (zo_callv (f_X10_complain) 2 36))]
noncomputable def p_X10_takeNumber_1 : List (Nat × zO) := [(36, zo_aload 0 37),
  (37, zo_vir 10 1 (zo_callv (f_X10_step) 1 40)),
  (40, zo_iload 3 41),
  (41, zo_iret)]
noncomputable def p_X10_takeNumber : Nat → zO := zgs [(34, p_X10_takeNumber_0), (42, p_X10_takeNumber_1)]
theorem t_X10_takeNumber : ∀ k, zTl (p_X10_takeNumber k) := fun k => zgs_all (c := [(34, p_X10_takeNumber_0), (42, p_X10_takeNumber_1)]) (fun _ => zl_bad) ⟨⟨zl_aload, zl_getI, zl_istore, zl_aload, zl_getI, zl_push, zl_ceq, zl_aload, zl_push, (zl_vir zl_callv), zl_goto, zl_iload, zl_iload, zl_clt, zl_iload, zl_iload, zl_cle, zl_aload, zl_push, (zl_vir zl_callv), trivial⟩, ⟨zl_aload, (zl_vir zl_callv), zl_iload, zl_iret, trivial⟩, trivial⟩ k
noncomputable def f_X10_takeNumber : zS := zrun p_X10_takeNumber 4
set_option maxRecDepth 20000 in
theorem s_X10_takeNumber_0 {l : Launch} {D : va_G} {ad : Nat → Nat → Nat} {cy : Nat → ClassId} {L : List (Nat × Nat)} (hcl : zclo L = true) (hinj : zAd ad L) {X : zCtx} (hX : zXok X "SoapTreaty$Tokens" prog_12_method_18_code 4) (hR : zRt X (some .int)) (hl : zXl X l D ad cy L (zroom 4)) : zAllR (zSo X) p_X10_takeNumber_0 := ⟨zs_aload_n (i := 0) rfl hX (by decide +kernel : decode prog_12_method_18_code 0 = .ok (.aload_n 0, 1)) rfl (by decide),
  zs_getI hX zFL_10_80 (by decide) (by decide) (by decide +kernel : decode prog_12_method_18_code 1 = .ok (.getfield 80, 3)) rfl,
  zs_istore_n (i := 3) rfl hX (by decide +kernel : decode prog_12_method_18_code 4 = .ok (.istore_n 3, 1)) rfl (by decide),
  zs_aload_n (i := 0) rfl hX (by decide +kernel : decode prog_12_method_18_code 5 = .ok (.aload_n 0, 1)) rfl (by decide),
  zs_getI hX zFL_10_62 (by decide) (by decide) (by decide +kernel : decode prog_12_method_18_code 6 = .ok (.getfield 62, 3)) rfl,
  zs_pushI (zg_iconst (by decide) hX (by decide +kernel : decode prog_12_method_18_code 9 = .ok (.iconst 3, 1)) rfl),
  zs_ceq hX (by decide +kernel : decode prog_12_method_18_code 10 = .ok (.if_icmp .eq 11, 3)) (by decide) rfl,
  zs_aload_n (i := 0) rfl hX (by decide +kernel : decode prog_12_method_18_code 13 = .ok (.aload_n 0, 1)) rfl (by decide),
  zs_pushI (zg_iconst (by decide) hX (by decide +kernel : decode prog_12_method_18_code 14 = .ok (.iconst 1, 1)) rfl),
  zs_callVv hX zMV_10_90 (zXc_of hl (by decide) (k_X10_complain hcl hinj)) (by decide +kernel : decode prog_12_method_18_code 15 = .ok (.invokevirtual 90, 3)) rfl,
  zs_goto hX (by decide +kernel : decode prog_12_method_18_code 18 = .ok (.goto 18, 3)) (by decide),
  zs_iload_n (i := 3) rfl hX (by decide +kernel : decode prog_12_method_18_code 21 = .ok (.iload_n 3, 1)) rfl (by decide),
  zs_iload_n (i := 1) rfl hX (by decide +kernel : decode prog_12_method_18_code 22 = .ok (.iload_n 1, 1)) rfl (by decide),
  zs_clt hX (by decide +kernel : decode prog_12_method_18_code 23 = .ok (.if_icmp .lt 8, 3)) (by decide) rfl,
  zs_iload_n (i := 3) rfl hX (by decide +kernel : decode prog_12_method_18_code 26 = .ok (.iload_n 3, 1)) rfl (by decide),
  zs_iload_n (i := 2) rfl hX (by decide +kernel : decode prog_12_method_18_code 27 = .ok (.iload_n 2, 1)) rfl (by decide),
  zs_cle hX (by decide +kernel : decode prog_12_method_18_code 28 = .ok (.if_icmp .le 8, 3)) (by decide) rfl,
  zs_aload_n (i := 0) rfl hX (by decide +kernel : decode prog_12_method_18_code 31 = .ok (.aload_n 0, 1)) rfl (by decide),
  zs_pushI (zg_iconst (by decide) hX (by decide +kernel : decode prog_12_method_18_code 32 = .ok (.iconst 4, 1)) rfl),
  zs_callVv hX zMV_10_90 (zXc_of hl (by decide) (k_X10_complain hcl hinj)) (by decide +kernel : decode prog_12_method_18_code 33 = .ok (.invokevirtual 90, 3)) rfl, trivial⟩
set_option maxRecDepth 20000 in
theorem s_X10_takeNumber_1 {l : Launch} {D : va_G} {ad : Nat → Nat → Nat} {cy : Nat → ClassId} {L : List (Nat × Nat)} (hcl : zclo L = true) (hinj : zAd ad L) {X : zCtx} (hX : zXok X "SoapTreaty$Tokens" prog_12_method_18_code 4) (hR : zRt X (some .int)) (hl : zXl X l D ad cy L (zroom 4)) : zAllR (zSo X) p_X10_takeNumber_1 := ⟨zs_aload_n (i := 0) rfl hX (by decide +kernel : decode prog_12_method_18_code 36 = .ok (.aload_n 0, 1)) rfl (by decide),
  zs_callVv hX zMV_10_44 (zXc_of hl (by decide) (k_X10_step hcl hinj)) (by decide +kernel : decode prog_12_method_18_code 37 = .ok (.invokevirtual 44, 3)) rfl,
  zs_iload_n (i := 3) rfl hX (by decide +kernel : decode prog_12_method_18_code 40 = .ok (.iload_n 3, 1)) rfl (by decide),
  zs_iret hX hR (by decide +kernel : decode prog_12_method_18_code 41 = .ok (.ireturn, 1)), trivial⟩
theorem k_X10_takeNumber {l : Launch} {D : va_G} {ad : Nat → Nat → Nat} {cy : Nat → ClassId} {L : List (Nat × Nat)} (hcl : zclo L = true) (hinj : zAd ad L) : zCk l D ad cy L 4 f_X10_takeNumber y_X10_takeNumber (.code y_X10_takeNumber prog_12_method_18_code 4 (some .int)) :=
  z_met (by decide) t_X10_takeNumber hcl hinj (fun X hX hR hl k => zgs_all (Q := zSo X) (c := [(34, p_X10_takeNumber_0), (42, p_X10_takeNumber_1)]) (fun _ => zs_bad) ⟨s_X10_takeNumber_0 hcl hinj hX hR hl, s_X10_takeNumber_1 hcl hinj hX hR hl, trivial⟩ k)
set_option maxRecDepth 1000000 in
theorem e_X10_takeNumber_0 (x1 : Int32) (x2 : Int32) (h : zH) : zL p_X10_takeNumber 0 [some (.inr (.inr (10, 0))), some (.inl x1), some (.inl x2), none] [] h = zf ((h.1 10 0 3) = 3) (zf ((h.1 10 0 5) < x1) (zcv (f_X10_complain [(.inr (.inr (10, 0))), (.inl 4)] h) (fun h1 => zcv (f_X10_step [(.inr (.inr (10, 0)))] h1) (fun h2 => some (some (.inl (h.1 10 0 5)), h2)))) (zf (x2 < (h.1 10 0 5)) (zcv (f_X10_complain [(.inr (.inr (10, 0))), (.inl 4)] h) (fun h4 => zcv (f_X10_step [(.inr (.inr (10, 0)))] h4) (fun h5 => some (some (.inl (h.1 10 0 5)), h5)))) (zcv (f_X10_step [(.inr (.inr (10, 0)))] h) (fun h3 => some (some (.inl (h.1 10 0 5)), h3))))) (zcv (f_X10_complain [(.inr (.inr (10, 0))), (.inl 1)] h) (fun h6 => zcv (f_X10_step [(.inr (.inr (10, 0)))] h6) (fun h7 => some (some (.inl (h.1 10 0 5)), h7)))) := (zL_s (t_X10_takeNumber) [0] 1000 0 _ _ _).trans rfl
theorem g_X10_takeNumber (x1 : Int32) (x2 : Int32) (h : zH) : f_X10_takeNumber [(.inr (.inr (10, 0))), (.inl x1), (.inl x2)] h = zf ((h.1 10 0 3) = 3) (zf ((h.1 10 0 5) < x1) (zcv (f_X10_complain [(.inr (.inr (10, 0))), (.inl 4)] h) (fun h1 => zcv (f_X10_step [(.inr (.inr (10, 0)))] h1) (fun h2 => some (some (.inl (h.1 10 0 5)), h2)))) (zf (x2 < (h.1 10 0 5)) (zcv (f_X10_complain [(.inr (.inr (10, 0))), (.inl 4)] h) (fun h4 => zcv (f_X10_step [(.inr (.inr (10, 0)))] h4) (fun h5 => some (some (.inl (h.1 10 0 5)), h5)))) (zcv (f_X10_step [(.inr (.inr (10, 0)))] h) (fun h3 => some (some (.inl (h.1 10 0 5)), h3))))) (zcv (f_X10_complain [(.inr (.inr (10, 0))), (.inl 1)] h) (fun h6 => zcv (f_X10_step [(.inr (.inr (10, 0)))] h6) (fun h7 => some (some (.inl (h.1 10 0 5)), h7)))) := (show f_X10_takeNumber _ h = zL p_X10_takeNumber 0 _ [] h from rfl).trans (e_X10_takeNumber_0 x1 x2 h)
theorem zMV_6_128 : zMV "SoapTreaty$Reader" 128 10 y_X10_takeNumber prog_12_method_18_code 4 (some .int) 2 := ⟨⟨zT_of 639 (by decide +kernel) (by decide +kernel), zT_of 640 (by decide +kernel) (by decide +kernel), zT_of 641 (by decide +kernel) (by decide +kernel), zT_of 108 (by decide +kernel) (by decide +kernel), zT_of 642 (by decide +kernel) (by decide +kernel)⟩, by decide, rfl, ⟨zT10, 8, rfl⟩, by decide, by decide, by decide +kernel⟩
/-! SoapTreaty$Reader.readSliver()V -/
def y_X6_readSliver : MethodName := ⟨"SoapTreaty$Reader", "readSliver", "()V"⟩
noncomputable def p_X6_readSliver_0 : List (Nat × zO) := [(0, zo_aload 0 1),
  (1, zo_getI 6 5 4),
  (4, zo_0eq 15 7),
  (7, zo_aload 0 8),
  (8, zo_getR 6 10 none 11),
  (11, zo_push (.inl 3) 12),
  (12, zo_vir 10 2 (zo_callv (f_X10_complain) 2 15)),
  (15, zo_aload 0 16),
  (16, zo_push (.inl 1) 17),
  (17, zo_putZ 6 5 20),
  (20, zo_aload 0 21),
  (21, zo_getR 6 10 none 24),
  (24, zo_vir 10 1 (zo_callv (f_X10_step) 1 27)),
  (27, zo_aload 0 28),
  (28, zo_getR 6 0 (some 1) 31),
  (31, zo_aload 0 32),
  (32, zo_getR 6 10 none 35),
  (35, zo_push (.inl 1) 36),
  (36, zo_push (.inl 9) 38),
  (38, zo_vir 10 3 (zo_calli (f_X10_takeNumber) 3 41))]
noncomputable def p_X6_readSliver_1 : List (Nat × zO) := [(41, zo_putI 0 11 44),
  (44, zo_ret)]
noncomputable def p_X6_readSliver : Nat → zO := zgs [(39, p_X6_readSliver_0), (45, p_X6_readSliver_1)]
theorem t_X6_readSliver : ∀ k, zTl (p_X6_readSliver k) := fun k => zgs_all (c := [(39, p_X6_readSliver_0), (45, p_X6_readSliver_1)]) (fun _ => zl_bad) ⟨⟨zl_aload, zl_getI, zl_0eq, zl_aload, zl_getR, zl_push, (zl_vir zl_callv), zl_aload, zl_push, zl_putZ, zl_aload, zl_getR, (zl_vir zl_callv), zl_aload, zl_getR, zl_aload, zl_getR, zl_push, zl_push, (zl_vir zl_calli), trivial⟩, ⟨zl_putI, zl_ret, trivial⟩, trivial⟩ k
noncomputable def f_X6_readSliver : zS := zrun p_X6_readSliver 1
set_option maxRecDepth 20000 in
theorem s_X6_readSliver_0 {l : Launch} {D : va_G} {ad : Nat → Nat → Nat} {cy : Nat → ClassId} {L : List (Nat × Nat)} (hcl : zclo L = true) (hinj : zAd ad L) {X : zCtx} (hX : zXok X "SoapTreaty$Reader" prog_8_method_6_code 1) (hR : zRt X none) (hl : zXl X l D ad cy L (zroom 5)) : zAllR (zSo X) p_X6_readSliver_0 := ⟨zs_aload_n (i := 0) rfl hX (by decide +kernel : decode prog_8_method_6_code 0 = .ok (.aload_n 0, 1)) rfl (by decide),
  zs_getI hX zFL_6_53 (by decide) (by decide) (by decide +kernel : decode prog_8_method_6_code 1 = .ok (.getfield 53, 3)) rfl,
  zs_0eq hX (by decide +kernel : decode prog_8_method_6_code 4 = .ok (.ifCond .eq 11, 3)) (by decide) rfl,
  zs_aload_n (i := 0) rfl hX (by decide +kernel : decode prog_8_method_6_code 7 = .ok (.aload_n 0, 1)) rfl (by decide),
  zs_getR hX zFL_6_33 (by decide +kernel : decode prog_8_method_6_code 8 = .ok (.getfield 33, 3)) rfl,
  zs_pushI (zg_iconst (by decide) hX (by decide +kernel : decode prog_8_method_6_code 11 = .ok (.iconst 3, 1)) rfl),
  zs_callVv hX zMV_6_91 (zXc_of hl (by decide) (k_X10_complain hcl hinj)) (by decide +kernel : decode prog_8_method_6_code 12 = .ok (.invokevirtual 91, 3)) rfl,
  zs_aload_n (i := 0) rfl hX (by decide +kernel : decode prog_8_method_6_code 15 = .ok (.aload_n 0, 1)) rfl (by decide),
  zs_pushI (zg_iconst (by decide) hX (by decide +kernel : decode prog_8_method_6_code 16 = .ok (.iconst 1, 1)) rfl),
  zs_putZ hX zFP_6_53 (by decide +kernel : decode prog_8_method_6_code 17 = .ok (.putfield 53, 3)) rfl,
  zs_aload_n (i := 0) rfl hX (by decide +kernel : decode prog_8_method_6_code 20 = .ok (.aload_n 0, 1)) rfl (by decide),
  zs_getR hX zFL_6_33 (by decide +kernel : decode prog_8_method_6_code 21 = .ok (.getfield 33, 3)) rfl,
  zs_callVv hX zMV_6_104 (zXc_of hl (by decide) (k_X10_step hcl hinj)) (by decide +kernel : decode prog_8_method_6_code 24 = .ok (.invokevirtual 104, 3)) rfl,
  zs_aload_n (i := 0) rfl hX (by decide +kernel : decode prog_8_method_6_code 27 = .ok (.aload_n 0, 1)) rfl (by decide),
  zs_getR hX zFL_6_18 (by decide +kernel : decode prog_8_method_6_code 28 = .ok (.getfield 18, 3)) rfl,
  zs_aload_n (i := 0) rfl hX (by decide +kernel : decode prog_8_method_6_code 31 = .ok (.aload_n 0, 1)) rfl (by decide),
  zs_getR hX zFL_6_33 (by decide +kernel : decode prog_8_method_6_code 32 = .ok (.getfield 33, 3)) rfl,
  zs_pushI (zg_iconst (by decide) hX (by decide +kernel : decode prog_8_method_6_code 35 = .ok (.iconst 1, 1)) rfl),
  zs_pushI (zg_bipush (by decide) hX (by decide +kernel : decode prog_8_method_6_code 36 = .ok (.bipush 9, 2)) rfl),
  zs_callVi hX zMV_6_128 (zXc_of hl (by decide) (k_X10_takeNumber hcl hinj)) (by decide +kernel : decode prog_8_method_6_code 38 = .ok (.invokevirtual 128, 3)) rfl, trivial⟩
set_option maxRecDepth 20000 in
theorem s_X6_readSliver_1 {l : Launch} {D : va_G} {ad : Nat → Nat → Nat} {cy : Nat → ClassId} {L : List (Nat × Nat)} (hcl : zclo L = true) (hinj : zAd ad L) {X : zCtx} (hX : zXok X "SoapTreaty$Reader" prog_8_method_6_code 1) (hR : zRt X none) (hl : zXl X l D ad cy L (zroom 5)) : zAllR (zSo X) p_X6_readSliver_1 := ⟨zs_putI hX zFP_6_165 (by decide +kernel : decode prog_8_method_6_code 41 = .ok (.putfield 165, 3)) rfl,
  zs_ret hX hR (by decide +kernel : decode prog_8_method_6_code 44 = .ok (.return_, 1)), trivial⟩
theorem k_X6_readSliver {l : Launch} {D : va_G} {ad : Nat → Nat → Nat} {cy : Nat → ClassId} {L : List (Nat × Nat)} (hcl : zclo L = true) (hinj : zAd ad L) : zCk l D ad cy L 5 f_X6_readSliver y_X6_readSliver (.code y_X6_readSliver prog_8_method_6_code 1 none) :=
  z_met (by decide) t_X6_readSliver hcl hinj (fun X hX hR hl k => zgs_all (Q := zSo X) (c := [(39, p_X6_readSliver_0), (45, p_X6_readSliver_1)]) (fun _ => zs_bad) ⟨s_X6_readSliver_0 hcl hinj hX hR hl, s_X6_readSliver_1 hcl hinj hX hR hl, trivial⟩ k)
set_option maxRecDepth 1000000 in
theorem e_X6_readSliver_0 (h : zH) : zL p_X6_readSliver 0 [some (.inr (.inr (6, 0)))] [] h = zf ((h.1 6 0 5) = 0) (zL p_X6_readSliver 15 [some (.inr (.inr (6, 0)))] [] h) (zcv (f_X10_complain [(.inr (.inr (10, 0))), (.inl 3)] h) (fun h1 => zL p_X6_readSliver 15 [some (.inr (.inr (6, 0)))] [] h1)) := (zL_s (t_X6_readSliver) [0, 15] 1000 0 _ _ _).trans rfl
theorem g_X6_readSliver (h : zH) : f_X6_readSliver [(.inr (.inr (6, 0)))] h = zf ((h.1 6 0 5) = 0) (zL p_X6_readSliver 15 [some (.inr (.inr (6, 0)))] [] h) (zcv (f_X10_complain [(.inr (.inr (10, 0))), (.inl 3)] h) (fun h1 => zL p_X6_readSliver 15 [some (.inr (.inr (6, 0)))] [] h1)) := (show f_X6_readSliver _ h = zL p_X6_readSliver 0 _ [] h from rfl).trans (e_X6_readSliver_0 h)
set_option maxRecDepth 1000000 in
theorem e_X6_readSliver_15 (h : zH) : zL p_X6_readSliver 15 [some (.inr (.inr (6, 0)))] [] h = zcv (f_X10_step [(.inr (.inr (10, 0)))] (zuI h 6 0 5 1)) (fun h1 => zci (f_X10_takeNumber [(.inr (.inr (10, 0))), (.inl 1), (.inl 9)] h1) (fun r3 h2 => some (none, (zuI h2 0 1 11 r3)))) := (zL_s (t_X6_readSliver) [0, 15] 1000 15 _ _ _).trans rfl
/-! SoapTreaty$Tokens.isName()Z -/
def y_X10_isName : MethodName := ⟨"SoapTreaty$Tokens", "isName", "()Z"⟩
noncomputable def p_X10_isName_0 : List (Nat × zO) := [(0, zo_aload 0 1),
  (1, zo_getI 10 3 4),
  (4, zo_push (.inl 2) 5),
  (5, zo_cne 29 8),
  (8, zo_aload 0 9),
  (9, zo_getI 10 5 12),
  (12, zo_push (.inl zm1) 13),
  (13, zo_ceq 25 16),
  (16, zo_aload 0 17),
  (17, zo_getI 10 5 20),
  (20, zo_push (.inl 23) 22),
  (22, zo_clt 29 25),
  (25, zo_push (.inl 1) 26),
  (26, zo_goto 30),
  (29, zo_push (.inl 0) 30),
  (30, zo_zretc)]
noncomputable def p_X10_isName : Nat → zO := zgs [(31, p_X10_isName_0)]
theorem t_X10_isName : ∀ k, zTl (p_X10_isName k) := fun k => zgs_all (c := [(31, p_X10_isName_0)]) (fun _ => zl_bad) ⟨⟨zl_aload, zl_getI, zl_push, zl_cne, zl_aload, zl_getI, zl_push, zl_ceq, zl_aload, zl_getI, zl_push, zl_clt, zl_push, zl_goto, zl_push, zl_zretc, trivial⟩, trivial⟩ k
noncomputable def f_X10_isName : zS := zrun p_X10_isName 1
set_option maxRecDepth 20000 in
theorem s_X10_isName_0 {l : Launch} {D : va_G} {ad : Nat → Nat → Nat} {cy : Nat → ClassId} {L : List (Nat × Nat)} (hcl : zclo L = true) (hinj : zAd ad L) {X : zCtx} (hX : zXok X "SoapTreaty$Tokens" prog_12_method_15_code 1) (hR : zRt X (some .boolean)) (hl : zXl X l D ad cy L (zroom 1)) : zAllR (zSo X) p_X10_isName_0 := ⟨zs_aload_n (i := 0) rfl hX (by decide +kernel : decode prog_12_method_15_code 0 = .ok (.aload_n 0, 1)) rfl (by decide),
  zs_getI hX zFL_10_62 (by decide) (by decide) (by decide +kernel : decode prog_12_method_15_code 1 = .ok (.getfield 62, 3)) rfl,
  zs_pushI (zg_iconst (by decide) hX (by decide +kernel : decode prog_12_method_15_code 4 = .ok (.iconst 2, 1)) rfl),
  zs_cne hX (by decide +kernel : decode prog_12_method_15_code 5 = .ok (.if_icmp .ne 24, 3)) (by decide) rfl,
  zs_aload_n (i := 0) rfl hX (by decide +kernel : decode prog_12_method_15_code 8 = .ok (.aload_n 0, 1)) rfl (by decide),
  zs_getI hX zFL_10_80 (by decide) (by decide) (by decide +kernel : decode prog_12_method_15_code 9 = .ok (.getfield 80, 3)) rfl,
  zs_pushI (zg_iconst (by decide) hX (by decide +kernel : decode prog_12_method_15_code 12 = .ok (.iconst (-1), 1)) rfl),
  zs_ceq hX (by decide +kernel : decode prog_12_method_15_code 13 = .ok (.if_icmp .eq 12, 3)) (by decide) rfl,
  zs_aload_n (i := 0) rfl hX (by decide +kernel : decode prog_12_method_15_code 16 = .ok (.aload_n 0, 1)) rfl (by decide),
  zs_getI hX zFL_10_80 (by decide) (by decide) (by decide +kernel : decode prog_12_method_15_code 17 = .ok (.getfield 80, 3)) rfl,
  zs_pushI (zg_bipush (by decide) hX (by decide +kernel : decode prog_12_method_15_code 20 = .ok (.bipush 23, 2)) rfl),
  zs_clt hX (by decide +kernel : decode prog_12_method_15_code 22 = .ok (.if_icmp .lt 7, 3)) (by decide) rfl,
  zs_pushI (zg_iconst (by decide) hX (by decide +kernel : decode prog_12_method_15_code 25 = .ok (.iconst 1, 1)) rfl),
  zs_goto hX (by decide +kernel : decode prog_12_method_15_code 26 = .ok (.goto 4, 3)) (by decide),
  zs_pushI (zg_iconst (by decide) hX (by decide +kernel : decode prog_12_method_15_code 29 = .ok (.iconst 0, 1)) rfl),
  zs_zretc hX hR (by decide +kernel : decode prog_12_method_15_code 30 = .ok (.ireturn, 1)), trivial⟩
theorem k_X10_isName {l : Launch} {D : va_G} {ad : Nat → Nat → Nat} {cy : Nat → ClassId} {L : List (Nat × Nat)} (hcl : zclo L = true) (hinj : zAd ad L) : zCk l D ad cy L 1 f_X10_isName y_X10_isName (.code y_X10_isName prog_12_method_15_code 1 (some .boolean)) :=
  z_met (by decide) t_X10_isName hcl hinj (fun X hX hR hl k => zgs_all (Q := zSo X) (c := [(31, p_X10_isName_0)]) (fun _ => zs_bad) ⟨s_X10_isName_0 hcl hinj hX hR hl, trivial⟩ k)
set_option maxRecDepth 1000000 in
theorem e_X10_isName_0 (h : zH) : zL p_X10_isName 0 [some (.inr (.inr (10, 0)))] [] h = zf ((h.1 10 0 3) = 2) (zf ((h.1 10 0 5) = zm1) (some (some (.inl 1), h)) (zf ((h.1 10 0 5) < 23) (some (some (.inl 0), h)) (some (some (.inl 1), h)))) (some (some (.inl 0), h)) := (zL_s (t_X10_isName) [0] 1000 0 _ _ _).trans rfl
theorem g_X10_isName (h : zH) : f_X10_isName [(.inr (.inr (10, 0)))] h = zf ((h.1 10 0 3) = 2) (zf ((h.1 10 0 5) = zm1) (some (some (.inl 1), h)) (zf ((h.1 10 0 5) < 23) (some (some (.inl 0), h)) (some (some (.inl 1), h)))) (some (some (.inl 0), h)) := (show f_X10_isName _ h = zL p_X10_isName 0 _ [] h from rfl).trans (e_X10_isName_0 h)
