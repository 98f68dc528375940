theorem zMV_6_190 : zMV "SoapTreaty$Reader" 190 10 y_X10_isName prog_12_method_15_code 1 (some .boolean) 0 := ⟨⟨zT_of 614 (by decide +kernel) (by decide +kernel), zT_of 615 (by decide +kernel) (by decide +kernel), zT_of 616 (by decide +kernel) (by decide +kernel), zT_of 108 (by decide +kernel) (by decide +kernel), zT_of 617 (by decide +kernel) (by decide +kernel)⟩, by decide, rfl, ⟨zT10, 8, rfl⟩, by decide, by decide, by decide +kernel⟩
theorem zMV_6_197 : zMV "SoapTreaty$Reader" 197 0 y_X0_cakeNamed prog_2_method_11_code 4 (some .int) 1 := ⟨⟨zT_of 622 (by decide +kernel) (by decide +kernel), zT_of 623 (by decide +kernel) (by decide +kernel), zT_of 624 (by decide +kernel) (by decide +kernel), zT_of 104 (by decide +kernel) (by decide +kernel), zT_of 625 (by decide +kernel) (by decide +kernel)⟩, by decide, rfl, ⟨zT0, 13, rfl⟩, by decide, by decide, by decide +kernel⟩
/-! SoapTreaty$Reader.namedCake(LSoapTreaty$Congress;)I -/
def y_X6_namedCake : MethodName := ⟨"SoapTreaty$Reader", "namedCake", "(LSoapTreaty$Congress;)I"⟩
noncomputable def p_X6_namedCake_0 : List (Nat × zO) := [(0, zo_aload 0 1),
  (1, zo_getR 6 10 none 4),
  (4, zo_vir 10 1 (zo_calli (f_X10_isName) 1 7)),
  (7, zo_0ne 20 10),
  (10, zo_aload 0 11),
  (11, zo_getR 6 10 none 14),
  (14, zo_push (.inl 1) 15),
  (15, zo_vir 10 2 (zo_callv (f_X10_complain) 2 18)),
  (18, zo_push (.inl zm1) 19),
  (19, zo_iret),
  (20, zo_aload 1 21),
  (21, zo_aload 0 22),
  (22, zo_getR 6 10 none 25),
  (25, zo_getJ 10 6 28),
  (28, zo_vir 0 2 (zo_calli (f_X0_cakeNamed) 2 31)),
  (31, zo_istore 2 32),
  (32, zo_iload 2 33),
  (33, zo_push (.inl zm1) 34),
  (34, zo_cne 45 37),
  (37, zo_aload 0 38)]
noncomputable def p_X6_namedCake_1 : List (Nat × zO) := [(38, zo_getR 6 10 none 41),
  (41, zo_push (.inl 2) 42),
  (42, zo_vir 10 2 (zo_callv (f_X10_complain) 2 45)),
  (45, zo_iload 2 46),
  (46, zo_iret)]
noncomputable def p_X6_namedCake : Nat → zO := zgs [(38, p_X6_namedCake_0), (47, p_X6_namedCake_1)]
theorem t_X6_namedCake : ∀ k, zTl (p_X6_namedCake k) := fun k => zgs_all (c := [(38, p_X6_namedCake_0), (47, p_X6_namedCake_1)]) (fun _ => zl_bad) ⟨⟨zl_aload, zl_getR, (zl_vir zl_calli), zl_0ne, zl_aload, zl_getR, zl_push, (zl_vir zl_callv), zl_push, zl_iret, zl_aload, zl_aload, zl_getR, zl_getJ, (zl_vir zl_calli), zl_istore, zl_iload, zl_push, zl_cne, zl_aload, trivial⟩, ⟨zl_getR, zl_push, (zl_vir zl_callv), zl_iload, zl_iret, trivial⟩, trivial⟩ k
noncomputable def f_X6_namedCake : zS := zrun p_X6_namedCake 3
set_option maxRecDepth 20000 in
theorem s_X6_namedCake_0 {l : Launch} {D : va_G} {ad : Nat → Nat → Nat} {cy : Nat → ClassId} {L : List (Nat × Nat)} (hcl : zclo L = true) (hinj : zAd ad L) {X : zCtx} (hX : zXok X "SoapTreaty$Reader" prog_8_method_13_code 3) (hR : zRt X (some .int)) (hl : zXl X l D ad cy L (zroom 2)) : zAllR (zSo X) p_X6_namedCake_0 := ⟨zs_aload_n (i := 0) rfl hX (by decide +kernel : decode prog_8_method_13_code 0 = .ok (.aload_n 0, 1)) rfl (by decide),
  zs_getR hX zFL_6_33 (by decide +kernel : decode prog_8_method_13_code 1 = .ok (.getfield 33, 3)) rfl,
  zs_callVi hX zMV_6_190 (zXc_of hl (by decide) (k_X10_isName hcl hinj)) (by decide +kernel : decode prog_8_method_13_code 4 = .ok (.invokevirtual 190, 3)) rfl,
  zs_0ne hX (by decide +kernel : decode prog_8_method_13_code 7 = .ok (.ifCond .ne 13, 3)) (by decide) rfl,
  zs_aload_n (i := 0) rfl hX (by decide +kernel : decode prog_8_method_13_code 10 = .ok (.aload_n 0, 1)) rfl (by decide),
  zs_getR hX zFL_6_33 (by decide +kernel : decode prog_8_method_13_code 11 = .ok (.getfield 33, 3)) rfl,
  zs_pushI (zg_iconst (by decide) hX (by decide +kernel : decode prog_8_method_13_code 14 = .ok (.iconst 1, 1)) rfl),
  zs_callVv hX zMV_6_91 (zXc_of hl (by decide) (k_X10_complain hcl hinj)) (by decide +kernel : decode prog_8_method_13_code 15 = .ok (.invokevirtual 91, 3)) rfl,
  zs_pushI (zg_iconst (by decide) hX (by decide +kernel : decode prog_8_method_13_code 18 = .ok (.iconst (-1), 1)) rfl),
  zs_iret hX hR (by decide +kernel : decode prog_8_method_13_code 19 = .ok (.ireturn, 1)),
  zs_aload_n (i := 1) rfl hX (by decide +kernel : decode prog_8_method_13_code 20 = .ok (.aload_n 1, 1)) rfl (by decide),
  zs_aload_n (i := 0) rfl hX (by decide +kernel : decode prog_8_method_13_code 21 = .ok (.aload_n 0, 1)) rfl (by decide),
  zs_getR hX zFL_6_33 (by decide +kernel : decode prog_8_method_13_code 22 = .ok (.getfield 33, 3)) rfl,
  zs_getJ hX zFL_6_186 (by decide +kernel : decode prog_8_method_13_code 25 = .ok (.getfield 186, 3)) rfl,
  zs_callVi hX zMV_6_197 (zXc_of hl (by decide) (k_X0_cakeNamed hcl hinj)) (by decide +kernel : decode prog_8_method_13_code 28 = .ok (.invokevirtual 197, 3)) rfl,
  zs_istore_n (i := 2) rfl hX (by decide +kernel : decode prog_8_method_13_code 31 = .ok (.istore_n 2, 1)) rfl (by decide),
  zs_iload_n (i := 2) rfl hX (by decide +kernel : decode prog_8_method_13_code 32 = .ok (.iload_n 2, 1)) rfl (by decide),
  zs_pushI (zg_iconst (by decide) hX (by decide +kernel : decode prog_8_method_13_code 33 = .ok (.iconst (-1), 1)) rfl),
  zs_cne hX (by decide +kernel : decode prog_8_method_13_code 34 = .ok (.if_icmp .ne 11, 3)) (by decide) rfl,
  zs_aload_n (i := 0) rfl hX (by decide +kernel : decode prog_8_method_13_code 37 = .ok (.aload_n 0, 1)) rfl (by decide), trivial⟩
set_option maxRecDepth 20000 in
theorem s_X6_namedCake_1 {l : Launch} {D : va_G} {ad : Nat → Nat → Nat} {cy : Nat → ClassId} {L : List (Nat × Nat)} (hcl : zclo L = true) (hinj : zAd ad L) {X : zCtx} (hX : zXok X "SoapTreaty$Reader" prog_8_method_13_code 3) (hR : zRt X (some .int)) (hl : zXl X l D ad cy L (zroom 2)) : zAllR (zSo X) p_X6_namedCake_1 := ⟨zs_getR hX zFL_6_33 (by decide +kernel : decode prog_8_method_13_code 38 = .ok (.getfield 33, 3)) rfl,
  zs_pushI (zg_iconst (by decide) hX (by decide +kernel : decode prog_8_method_13_code 41 = .ok (.iconst 2, 1)) rfl),
  zs_callVv hX zMV_6_91 (zXc_of hl (by decide) (k_X10_complain hcl hinj)) (by decide +kernel : decode prog_8_method_13_code 42 = .ok (.invokevirtual 91, 3)) rfl,
  zs_iload_n (i := 2) rfl hX (by decide +kernel : decode prog_8_method_13_code 45 = .ok (.iload_n 2, 1)) rfl (by decide),
  zs_iret hX hR (by decide +kernel : decode prog_8_method_13_code 46 = .ok (.ireturn, 1)), trivial⟩
theorem k_X6_namedCake {l : Launch} {D : va_G} {ad : Nat → Nat → Nat} {cy : Nat → ClassId} {L : List (Nat × Nat)} (hcl : zclo L = true) (hinj : zAd ad L) : zCk l D ad cy L 2 f_X6_namedCake y_X6_namedCake (.code y_X6_namedCake prog_8_method_13_code 3 (some .int)) :=
  z_met (by decide) t_X6_namedCake hcl hinj (fun X hX hR hl k => zgs_all (Q := zSo X) (c := [(38, p_X6_namedCake_0), (47, p_X6_namedCake_1)]) (fun _ => zs_bad) ⟨s_X6_namedCake_0 hcl hinj hX hR hl, s_X6_namedCake_1 hcl hinj hX hR hl, trivial⟩ k)
set_option maxRecDepth 1000000 in
theorem e_X6_namedCake_0 (jx1 : Nat) (h : zH) : zL p_X6_namedCake 0 [some (.inr (.inr (6, 0))), some (.inr (.inr (0, jx1))), none] [] h = zci (f_X10_isName [(.inr (.inr (10, 0)))] h) (fun r2 h1 => zf (r2 = 0) (zcv (f_X10_complain [(.inr (.inr (10, 0))), (.inl 1)] h1) (fun h6 => some (some (.inl zm1), h6))) (zci (f_X0_cakeNamed [(.inr (.inr (0, jx1))), (.inr (.inl (h1.2 10 0 6)))] h1) (fun r4 h3 => zf (r4 = zm1) (zcv (f_X10_complain [(.inr (.inr (10, 0))), (.inl 2)] h3) (fun h5 => some (some (.inl r4), h5))) (some (some (.inl r4), h3))))) := (zL_s (t_X6_namedCake) [0] 1000 0 _ _ _).trans rfl
theorem g_X6_namedCake (jx1 : Nat) (h : zH) : f_X6_namedCake [(.inr (.inr (6, 0))), (.inr (.inr (0, jx1)))] h = zci (f_X10_isName [(.inr (.inr (10, 0)))] h) (fun r2 h1 => zf (r2 = 0) (zcv (f_X10_complain [(.inr (.inr (10, 0))), (.inl 1)] h1) (fun h6 => some (some (.inl zm1), h6))) (zci (f_X0_cakeNamed [(.inr (.inr (0, jx1))), (.inr (.inl (h1.2 10 0 6)))] h1) (fun r4 h3 => zf (r4 = zm1) (zcv (f_X10_complain [(.inr (.inr (10, 0))), (.inl 2)] h3) (fun h5 => some (some (.inl r4), h5))) (some (some (.inl r4), h3))))) := (show f_X6_namedCake _ h = zL p_X6_namedCake 0 _ [] h from rfl).trans (e_X6_namedCake_0 jx1 h)
theorem zMV_6_157 : zMV "SoapTreaty$Reader" 157 6 y_X6_namedCake prog_8_method_13_code 3 (some .int) 1 := ⟨⟨zT_of 655 (by decide +kernel) (by decide +kernel), zT_of 657 (by decide +kernel) (by decide +kernel), zT_of 8 (by decide +kernel) (by decide +kernel), zT_of 106 (by decide +kernel) (by decide +kernel), zT_of 658 (by decide +kernel) (by decide +kernel)⟩, by decide, rfl, ⟨zT6, 7, rfl⟩, by decide, by decide, by decide +kernel⟩
theorem zMV_6_161 : zMV "SoapTreaty$Reader" 161 0 y_X0_hasCake prog_2_method_5_code 2 (some .boolean) 1 := ⟨⟨zT_of 659 (by decide +kernel) (by decide +kernel), zT_of 660 (by decide +kernel) (by decide +kernel), zT_of 661 (by decide +kernel) (by decide +kernel), zT_of 104 (by decide +kernel) (by decide +kernel), zT_of 662 (by decide +kernel) (by decide +kernel)⟩, by decide, rfl, ⟨zT0, 13, rfl⟩, by decide, by decide, by decide +kernel⟩
/-! SoapTreaty$Reader.readPebble()V -/
def y_X6_readPebble : MethodName := ⟨"SoapTreaty$Reader", "readPebble", "()V"⟩
noncomputable def p_X6_readPebble_0 : List (Nat × zO) := [(0, zo_aload 0 1),
  (1, zo_getR 6 10 none 4),
  (4, zo_vir 10 1 (zo_callv (f_X10_step) 1 7)),
  (7, zo_aload 0 8),
  (8, zo_aload 0 9),
  (9, zo_getR 6 0 (some 1) 12),
  (12, zo_vir 6 2 (zo_calli (f_X6_namedCake) 2 15)),
  (15, zo_istore 1 16),
  (16, zo_aload 0 17),
  (17, zo_getR 6 0 (some 1) 20),
  (20, zo_iload 1 21),
  (21, zo_vir 0 2 (zo_calli (f_X0_hasCake) 2 24)),
  (24, zo_0ne 28 27),
  (27, zo_ret),
  (28, zo_aload 0 29),
  (29, zo_getR 6 0 (some 1) 32),
  (32, zo_getR 0 21 none 35),
  (35, zo_iload 1 36),
  (36, zo_iald 37),
  (37, zo_push (.inl zm1) 38)]
noncomputable def p_X6_readPebble_1 : List (Nat × zO) := [(38, zo_ceq 49 41),
  (41, zo_aload 0 42),
  (42, zo_getR 6 10 none 45),
  (45, zo_push (.inl 3) 46),
  (46, zo_vir 10 2 (zo_callv (f_X10_complain) 2 49)),
  (49, zo_aload 0 50),
  (50, zo_getR 6 10 none 53),
  (53, zo_vir 10 1 (zo_callv (f_X10_step) 1 56)),
  (56, zo_aload 0 57),
  (57, zo_getR 6 0 (some 1) 60),
  (60, zo_getR 0 21 none 63),
  (63, zo_iload 1 64),
  (64, zo_aload 0 65),
  (65, zo_getR 6 10 none 68),
  (68, zo_push (.inl 0) 69),
  (69, zo_push (.inl 39) 71),
  (71, zo_vir 10 3 (zo_calli (f_X10_takeNumber) 3 74)),
  (74, zo_iast 75),
  (75, zo_ret)]
noncomputable def p_X6_readPebble : Nat → zO := zgs [(38, p_X6_readPebble_0), (76, p_X6_readPebble_1)]
theorem t_X6_readPebble : ∀ k, zTl (p_X6_readPebble k) := fun k => zgs_all (c := [(38, p_X6_readPebble_0), (76, p_X6_readPebble_1)]) (fun _ => zl_bad) ⟨⟨zl_aload, zl_getR, (zl_vir zl_callv), zl_aload, zl_aload, zl_getR, (zl_vir zl_calli), zl_istore, zl_aload, zl_getR, zl_iload, (zl_vir zl_calli), zl_0ne, zl_ret, zl_aload, zl_getR, zl_getR, zl_iload, zl_iald, zl_push, trivial⟩, ⟨zl_ceq, zl_aload, zl_getR, zl_push, (zl_vir zl_callv), zl_aload, zl_getR, (zl_vir zl_callv), zl_aload, zl_getR, zl_getR, zl_iload, zl_aload, zl_getR, zl_push, zl_push, (zl_vir zl_calli), zl_iast, zl_ret, trivial⟩, trivial⟩ k
noncomputable def f_X6_readPebble : zS := zrun p_X6_readPebble 2
set_option maxRecDepth 20000 in
theorem s_X6_readPebble_0 {l : Launch} {D : va_G} {ad : Nat → Nat → Nat} {cy : Nat → ClassId} {L : List (Nat × Nat)} (hcl : zclo L = true) (hinj : zAd ad L) {X : zCtx} (hX : zXok X "SoapTreaty$Reader" prog_8_method_5_code 2) (hR : zRt X none) (hl : zXl X l D ad cy L (zroom 5)) : zAllR (zSo X) p_X6_readPebble_0 := ⟨zs_aload_n (i := 0) rfl hX (by decide +kernel : decode prog_8_method_5_code 0 = .ok (.aload_n 0, 1)) rfl (by decide),
  zs_getR hX zFL_6_33 (by decide +kernel : decode prog_8_method_5_code 1 = .ok (.getfield 33, 3)) rfl,
  zs_callVv hX zMV_6_104 (zXc_of hl (by decide) (k_X10_step hcl hinj)) (by decide +kernel : decode prog_8_method_5_code 4 = .ok (.invokevirtual 104, 3)) rfl,
  zs_aload_n (i := 0) rfl hX (by decide +kernel : decode prog_8_method_5_code 7 = .ok (.aload_n 0, 1)) rfl (by decide),
  zs_aload_n (i := 0) rfl hX (by decide +kernel : decode prog_8_method_5_code 8 = .ok (.aload_n 0, 1)) rfl (by decide),
  zs_getR hX zFL_6_18 (by decide +kernel : decode prog_8_method_5_code 9 = .ok (.getfield 18, 3)) rfl,
  zs_callVi hX zMV_6_157 (zXc_of hl (by decide) (k_X6_namedCake hcl hinj)) (by decide +kernel : decode prog_8_method_5_code 12 = .ok (.invokevirtual 157, 3)) rfl,
  zs_istore_n (i := 1) rfl hX (by decide +kernel : decode prog_8_method_5_code 15 = .ok (.istore_n 1, 1)) rfl (by decide),
  zs_aload_n (i := 0) rfl hX (by decide +kernel : decode prog_8_method_5_code 16 = .ok (.aload_n 0, 1)) rfl (by decide),
  zs_getR hX zFL_6_18 (by decide +kernel : decode prog_8_method_5_code 17 = .ok (.getfield 18, 3)) rfl,
  zs_iload_n (i := 1) rfl hX (by decide +kernel : decode prog_8_method_5_code 20 = .ok (.iload_n 1, 1)) rfl (by decide),
  zs_callVi hX zMV_6_161 (zXc_of hl (by decide) (k_X0_hasCake hcl hinj)) (by decide +kernel : decode prog_8_method_5_code 21 = .ok (.invokevirtual 161, 3)) rfl,
  zs_0ne hX (by decide +kernel : decode prog_8_method_5_code 24 = .ok (.ifCond .ne 4, 3)) (by decide) rfl,
  zs_ret hX hR (by decide +kernel : decode prog_8_method_5_code 27 = .ok (.return_, 1)),
  zs_aload_n (i := 0) rfl hX (by decide +kernel : decode prog_8_method_5_code 28 = .ok (.aload_n 0, 1)) rfl (by decide),
  zs_getR hX zFL_6_18 (by decide +kernel : decode prog_8_method_5_code 29 = .ok (.getfield 18, 3)) rfl,
  zs_getR hX zFL_6_154 (by decide +kernel : decode prog_8_method_5_code 32 = .ok (.getfield 154, 3)) rfl,
  zs_iload_n (i := 1) rfl hX (by decide +kernel : decode prog_8_method_5_code 35 = .ok (.iload_n 1, 1)) rfl (by decide),
  zs_iald hX (by decide +kernel : decode prog_8_method_5_code 36 = .ok (.iaload, 1)) rfl,
  zs_pushI (zg_iconst (by decide) hX (by decide +kernel : decode prog_8_method_5_code 37 = .ok (.iconst (-1), 1)) rfl), trivial⟩
set_option maxRecDepth 20000 in
theorem s_X6_readPebble_1 {l : Launch} {D : va_G} {ad : Nat → Nat → Nat} {cy : Nat → ClassId} {L : List (Nat × Nat)} (hcl : zclo L = true) (hinj : zAd ad L) {X : zCtx} (hX : zXok X "SoapTreaty$Reader" prog_8_method_5_code 2) (hR : zRt X none) (hl : zXl X l D ad cy L (zroom 5)) : zAllR (zSo X) p_X6_readPebble_1 := ⟨zs_ceq hX (by decide +kernel : decode prog_8_method_5_code 38 = .ok (.if_icmp .eq 11, 3)) (by decide) rfl,
  zs_aload_n (i := 0) rfl hX (by decide +kernel : decode prog_8_method_5_code 41 = .ok (.aload_n 0, 1)) rfl (by decide),
  zs_getR hX zFL_6_33 (by decide +kernel : decode prog_8_method_5_code 42 = .ok (.getfield 33, 3)) rfl,
  zs_pushI (zg_iconst (by decide) hX (by decide +kernel : decode prog_8_method_5_code 45 = .ok (.iconst 3, 1)) rfl),
  zs_callVv hX zMV_6_91 (zXc_of hl (by decide) (k_X10_complain hcl hinj)) (by decide +kernel : decode prog_8_method_5_code 46 = .ok (.invokevirtual 91, 3)) rfl,
  zs_aload_n (i := 0) rfl hX (by decide +kernel : decode prog_8_method_5_code 49 = .ok (.aload_n 0, 1)) rfl (by decide),
  zs_getR hX zFL_6_33 (by decide +kernel : decode prog_8_method_5_code 50 = .ok (.getfield 33, 3)) rfl,
  zs_callVv hX zMV_6_104 (zXc_of hl (by decide) (k_X10_step hcl hinj)) (by decide +kernel : decode prog_8_method_5_code 53 = .ok (.invokevirtual 104, 3)) rfl,
  zs_aload_n (i := 0) rfl hX (by decide +kernel : decode prog_8_method_5_code 56 = .ok (.aload_n 0, 1)) rfl (by decide),
  zs_getR hX zFL_6_18 (by decide +kernel : decode prog_8_method_5_code 57 = .ok (.getfield 18, 3)) rfl,
  zs_getR hX zFL_6_154 (by decide +kernel : decode prog_8_method_5_code 60 = .ok (.getfield 154, 3)) rfl,
  zs_iload_n (i := 1) rfl hX (by decide +kernel : decode prog_8_method_5_code 63 = .ok (.iload_n 1, 1)) rfl (by decide),
  zs_aload_n (i := 0) rfl hX (by decide +kernel : decode prog_8_method_5_code 64 = .ok (.aload_n 0, 1)) rfl (by decide),
  zs_getR hX zFL_6_33 (by decide +kernel : decode prog_8_method_5_code 65 = .ok (.getfield 33, 3)) rfl,
  zs_pushI (zg_iconst (by decide) hX (by decide +kernel : decode prog_8_method_5_code 68 = .ok (.iconst 0, 1)) rfl),
  zs_pushI (zg_bipush (by decide) hX (by decide +kernel : decode prog_8_method_5_code 69 = .ok (.bipush 39, 2)) rfl),
  zs_callVi hX zMV_6_128 (zXc_of hl (by decide) (k_X10_takeNumber hcl hinj)) (by decide +kernel : decode prog_8_method_5_code 71 = .ok (.invokevirtual 128, 3)) rfl,
  zs_iast hX (by decide +kernel : decode prog_8_method_5_code 74 = .ok (.iastore, 1)) rfl,
  zs_ret hX hR (by decide +kernel : decode prog_8_method_5_code 75 = .ok (.return_, 1)), trivial⟩
theorem k_X6_readPebble {l : Launch} {D : va_G} {ad : Nat → Nat → Nat} {cy : Nat → ClassId} {L : List (Nat × Nat)} (hcl : zclo L = true) (hinj : zAd ad L) : zCk l D ad cy L 5 f_X6_readPebble y_X6_readPebble (.code y_X6_readPebble prog_8_method_5_code 2 none) :=
  z_met (by decide) t_X6_readPebble hcl hinj (fun X hX hR hl k => zgs_all (Q := zSo X) (c := [(38, p_X6_readPebble_0), (76, p_X6_readPebble_1)]) (fun _ => zs_bad) ⟨s_X6_readPebble_0 hcl hinj hX hR hl, s_X6_readPebble_1 hcl hinj hX hR hl, trivial⟩ k)
set_option maxRecDepth 1000000 in
theorem e_X6_readPebble_0 (h : zH) : zL p_X6_readPebble 0 [some (.inr (.inr (6, 0))), none] [] h = zcv (f_X10_step [(.inr (.inr (10, 0)))] h) (fun h1 => zci (f_X6_namedCake [(.inr (.inr (6, 0))), (.inr (.inr (0, 1)))] h1) (fun r3 h2 => zci (f_X0_hasCake [(.inr (.inr (0, 1))), (.inl r3)] h2) (fun r5 h4 => zf (r5 = 0) (some (none, h4)) (zf (vp_in r3 7) (zf ((h4.1 21 1 r3.toNatClampNeg) = zm1) (zL p_X6_readPebble 49 [some (.inr (.inr (6, 0))), some (.inl r3)] [] h4) (zcv (f_X10_complain [(.inr (.inr (10, 0))), (.inl 3)] h4) (fun h6 => zL p_X6_readPebble 49 [some (.inr (.inr (6, 0))), some (.inl r3)] [] h6))) none)))) := (zL_s (t_X6_readPebble) [0, 49] 1000 0 _ _ _).trans rfl
theorem g_X6_readPebble (h : zH) : f_X6_readPebble [(.inr (.inr (6, 0)))] h = zcv (f_X10_step [(.inr (.inr (10, 0)))] h) (fun h1 => zci (f_X6_namedCake [(.inr (.inr (6, 0))), (.inr (.inr (0, 1)))] h1) (fun r3 h2 => zci (f_X0_hasCake [(.inr (.inr (0, 1))), (.inl r3)] h2) (fun r5 h4 => zf (r5 = 0) (some (none, h4)) (zf (vp_in r3 7) (zf ((h4.1 21 1 r3.toNatClampNeg) = zm1) (zL p_X6_readPebble 49 [some (.inr (.inr (6, 0))), some (.inl r3)] [] h4) (zcv (f_X10_complain [(.inr (.inr (10, 0))), (.inl 3)] h4) (fun h6 => zL p_X6_readPebble 49 [some (.inr (.inr (6, 0))), some (.inl r3)] [] h6))) none)))) := (show f_X6_readPebble _ h = zL p_X6_readPebble 0 _ [] h from rfl).trans (e_X6_readPebble_0 h)
set_option maxRecDepth 1000000 in
theorem e_X6_readPebble_49 (x1 : Int32) (h : zH) : zL p_X6_readPebble 49 [some (.inr (.inr (6, 0))), some (.inl x1)] [] h = zcv (f_X10_step [(.inr (.inr (10, 0)))] h) (fun h1 => zci (f_X10_takeNumber [(.inr (.inr (10, 0))), (.inl 0), (.inl 39)] h1) (fun r3 h2 => zf (vp_in x1 7) (some (none, (zuI h2 21 1 x1.toNatClampNeg r3))) none)) := (zL_s (t_X6_readPebble) [0, 49] 1000 49 _ _ _).trans rfl
theorem zMV_6_193 : zMV "SoapTreaty$Reader" 193 0 y_X0_powerNamed prog_2_method_10_code 4 (some .int) 1 := ⟨⟨zT_of 618 (by decide +kernel) (by decide +kernel), zT_of 619 (by decide +kernel) (by decide +kernel), zT_of 620 (by decide +kernel) (by decide +kernel), zT_of 104 (by decide +kernel) (by decide +kernel), zT_of 621 (by decide +kernel) (by decide +kernel)⟩, by decide, rfl, ⟨zT0, 13, rfl⟩, by decide, by decide, by decide +kernel⟩
/-! SoapTreaty$Reader.takeNewName()J -/
def y_X6_takeNewName : MethodName := ⟨"SoapTreaty$Reader", "takeNewName", "()J"⟩
noncomputable def p_X6_takeNewName_0 : List (Nat × zO) := [(0, zo_aload 0 1),
  (1, zo_getR 6 10 none 4),
  (4, zo_getJ 10 6 7),
  (7, zo_lstore 1 8),
  (8, zo_aload 0 9),
  (9, zo_getR 6 10 none 12),
  (12, zo_vir 10 1 (zo_calli (f_X10_isName) 1 15)),
  (15, zo_0ne 29 18),
  (18, zo_aload 0 19),
  (19, zo_getR 6 10 none 22),
  (22, zo_push (.inl 1) 23),
  (23, zo_vir 10 2 (zo_callv (f_X10_complain) 2 26)),
  (26, zo_goto 61),
  (29, zo_aload 0 30),
  (30, zo_getR 6 0 (some 1) 33),
  (33, zo_lload 1 34),
  (34, zo_vir 0 2 (zo_calli (f_X0_powerNamed) 2 37)),
  (37, zo_push (.inl zm1) 38),
  (38, zo_cne 53 41),
  (41, zo_aload 0 42)]
noncomputable def p_X6_takeNewName_1 : List (Nat × zO) := [(42, zo_getR 6 0 (some 1) 45),
  (45, zo_lload 1 46),
  (46, zo_vir 0 2 (zo_calli (f_X0_cakeNamed) 2 49)),
  (49, zo_push (.inl zm1) 50),
  (50, zo_ceq 61 53),
  (53, zo_kill [2] (zo_aload 0 54)),
  (54, zo_getR 6 10 none 57),
  (57, zo_push (.inl 3) 58),
  (58, zo_vir 10 2 (zo_callv (f_X10_complain) 2 61)),
  (61, zo_aload 0 62),
  (62, zo_getR 6 10 none 65),
  (65, zo_vir 10 1 (zo_callv (f_X10_step) 1 68)),
  (68, zo_lload 1 69),
  (69, zo_lret)]
noncomputable def p_X6_takeNewName : Nat → zO := zgs [(42, p_X6_takeNewName_0), (70, p_X6_takeNewName_1)]
theorem t_X6_takeNewName : ∀ k, zTl (p_X6_takeNewName k) := fun k => zgs_all (c := [(42, p_X6_takeNewName_0), (70, p_X6_takeNewName_1)]) (fun _ => zl_bad) ⟨⟨zl_aload, zl_getR, zl_getJ, zl_lstore, zl_aload, zl_getR, (zl_vir zl_calli), zl_0ne, zl_aload, zl_getR, zl_push, (zl_vir zl_callv), zl_goto, zl_aload, zl_getR, zl_lload, (zl_vir zl_calli), zl_push, zl_cne, zl_aload, trivial⟩, ⟨zl_getR, zl_lload, (zl_vir zl_calli), zl_push, zl_ceq, (zl_kill zl_aload), zl_getR, zl_push, (zl_vir zl_callv), zl_aload, zl_getR, (zl_vir zl_callv), zl_lload, zl_lret, trivial⟩, trivial⟩ k
noncomputable def f_X6_takeNewName : zS := zrun p_X6_takeNewName 3
set_option maxRecDepth 20000 in
theorem s_X6_takeNewName_0 {l : Launch} {D : va_G} {ad : Nat → Nat → Nat} {cy : Nat → ClassId} {L : List (Nat × Nat)} (hcl : zclo L = true) (hinj : zAd ad L) {X : zCtx} (hX : zXok X "SoapTreaty$Reader" prog_8_method_10_code 3) (hR : zRt X (some .long)) (hl : zXl X l D ad cy L (zroom 4)) : zAllR (zSo X) p_X6_takeNewName_0 := ⟨zs_aload_n (i := 0) rfl hX (by decide +kernel : decode prog_8_method_10_code 0 = .ok (.aload_n 0, 1)) rfl (by decide),
  zs_getR hX zFL_6_33 (by decide +kernel : decode prog_8_method_10_code 1 = .ok (.getfield 33, 3)) rfl,
  zs_getJ hX zFL_6_186 (by decide +kernel : decode prog_8_method_10_code 4 = .ok (.getfield 186, 3)) rfl,
  zs_lstore_n (i := 1) rfl hX (by decide +kernel : decode prog_8_method_10_code 7 = .ok (.lstore_n 1, 1)) rfl (by decide),
  zs_aload_n (i := 0) rfl hX (by decide +kernel : decode prog_8_method_10_code 8 = .ok (.aload_n 0, 1)) rfl (by decide),
  zs_getR hX zFL_6_33 (by decide +kernel : decode prog_8_method_10_code 9 = .ok (.getfield 33, 3)) rfl,
  zs_callVi hX zMV_6_190 (zXc_of hl (by decide) (k_X10_isName hcl hinj)) (by decide +kernel : decode prog_8_method_10_code 12 = .ok (.invokevirtual 190, 3)) rfl,
  zs_0ne hX (by decide +kernel : decode prog_8_method_10_code 15 = .ok (.ifCond .ne 14, 3)) (by decide) rfl,
  zs_aload_n (i := 0) rfl hX (by decide +kernel : decode prog_8_method_10_code 18 = .ok (.aload_n 0, 1)) rfl (by decide),
  zs_getR hX zFL_6_33 (by decide +kernel : decode prog_8_method_10_code 19 = .ok (.getfield 33, 3)) rfl,
  zs_pushI (zg_iconst (by decide) hX (by decide +kernel : decode prog_8_method_10_code 22 = .ok (.iconst 1, 1)) rfl),
  zs_callVv hX zMV_6_91 (zXc_of hl (by decide) (k_X10_complain hcl hinj)) (by decide +kernel : decode prog_8_method_10_code 23 = .ok (.invokevirtual 91, 3)) rfl,
  zs_goto hX (by decide +kernel : decode prog_8_method_10_code 26 = .ok (.goto 35, 3)) (by decide),
  zs_aload_n (i := 0) rfl hX (by decide +kernel : decode prog_8_method_10_code 29 = .ok (.aload_n 0, 1)) rfl (by decide),
  zs_getR hX zFL_6_18 (by decide +kernel : decode prog_8_method_10_code 30 = .ok (.getfield 18, 3)) rfl,
  zs_lload_n (i := 1) rfl hX (by decide +kernel : decode prog_8_method_10_code 33 = .ok (.lload_n 1, 1)) rfl (by decide),
  zs_callVi hX zMV_6_193 (zXc_of hl (by decide) (k_X0_powerNamed hcl hinj)) (by decide +kernel : decode prog_8_method_10_code 34 = .ok (.invokevirtual 193, 3)) rfl,
  zs_pushI (zg_iconst (by decide) hX (by decide +kernel : decode prog_8_method_10_code 37 = .ok (.iconst (-1), 1)) rfl),
  zs_cne hX (by decide +kernel : decode prog_8_method_10_code 38 = .ok (.if_icmp .ne 15, 3)) (by decide) rfl,
  zs_aload_n (i := 0) rfl hX (by decide +kernel : decode prog_8_method_10_code 41 = .ok (.aload_n 0, 1)) rfl (by decide), trivial⟩
set_option maxRecDepth 20000 in
theorem s_X6_takeNewName_1 {l : Launch} {D : va_G} {ad : Nat → Nat → Nat} {cy : Nat → ClassId} {L : List (Nat × Nat)} (hcl : zclo L = true) (hinj : zAd ad L) {X : zCtx} (hX : zXok X "SoapTreaty$Reader" prog_8_method_10_code 3) (hR : zRt X (some .long)) (hl : zXl X l D ad cy L (zroom 4)) : zAllR (zSo X) p_X6_takeNewName_1 := ⟨zs_getR hX zFL_6_18 (by decide +kernel : decode prog_8_method_10_code 42 = .ok (.getfield 18, 3)) rfl,
  zs_lload_n (i := 1) rfl hX (by decide +kernel : decode prog_8_method_10_code 45 = .ok (.lload_n 1, 1)) rfl (by decide),
  zs_callVi hX zMV_6_197 (zXc_of hl (by decide) (k_X0_cakeNamed hcl hinj)) (by decide +kernel : decode prog_8_method_10_code 46 = .ok (.invokevirtual 197, 3)) rfl,
  zs_pushI (zg_iconst (by decide) hX (by decide +kernel : decode prog_8_method_10_code 49 = .ok (.iconst (-1), 1)) rfl),
  zs_ceq hX (by decide +kernel : decode prog_8_method_10_code 50 = .ok (.if_icmp .eq 11, 3)) (by decide) rfl,
  zs_kill hX (by decide) (zs_aload_n (i := 0) rfl hX (by decide +kernel : decode prog_8_method_10_code 53 = .ok (.aload_n 0, 1)) rfl (by decide)),
  zs_getR hX zFL_6_33 (by decide +kernel : decode prog_8_method_10_code 54 = .ok (.getfield 33, 3)) rfl,
  zs_pushI (zg_iconst (by decide) hX (by decide +kernel : decode prog_8_method_10_code 57 = .ok (.iconst 3, 1)) rfl),
  zs_callVv hX zMV_6_91 (zXc_of hl (by decide) (k_X10_complain hcl hinj)) (by decide +kernel : decode prog_8_method_10_code 58 = .ok (.invokevirtual 91, 3)) rfl,
  zs_aload_n (i := 0) rfl hX (by decide +kernel : decode prog_8_method_10_code 61 = .ok (.aload_n 0, 1)) rfl (by decide),
  zs_getR hX zFL_6_33 (by decide +kernel : decode prog_8_method_10_code 62 = .ok (.getfield 33, 3)) rfl,
  zs_callVv hX zMV_6_104 (zXc_of hl (by decide) (k_X10_step hcl hinj)) (by decide +kernel : decode prog_8_method_10_code 65 = .ok (.invokevirtual 104, 3)) rfl,
  zs_lload_n (i := 1) rfl hX (by decide +kernel : decode prog_8_method_10_code 68 = .ok (.lload_n 1, 1)) rfl (by decide),
  zs_lret hX hR (by decide +kernel : decode prog_8_method_10_code 69 = .ok (.lreturn, 1)), trivial⟩
theorem k_X6_takeNewName {l : Launch} {D : va_G} {ad : Nat → Nat → Nat} {cy : Nat → ClassId} {L : List (Nat × Nat)} (hcl : zclo L = true) (hinj : zAd ad L) : zCk l D ad cy L 4 f_X6_takeNewName y_X6_takeNewName (.code y_X6_takeNewName prog_8_method_10_code 3 (some .long)) :=
  z_met (by decide) t_X6_takeNewName hcl hinj (fun X hX hR hl k => zgs_all (Q := zSo X) (c := [(42, p_X6_takeNewName_0), (70, p_X6_takeNewName_1)]) (fun _ => zs_bad) ⟨s_X6_takeNewName_0 hcl hinj hX hR hl, s_X6_takeNewName_1 hcl hinj hX hR hl, trivial⟩ k)
set_option maxRecDepth 1000000 in
theorem e_X6_takeNewName_0 (h : zH) : zL p_X6_takeNewName 0 [some (.inr (.inr (6, 0))), none, none] [] h = zci (f_X10_isName [(.inr (.inr (10, 0)))] h) (fun r2 h1 => zf (r2 = 0) (zcv (f_X10_complain [(.inr (.inr (10, 0))), (.inl 1)] h1) (fun h8 => zcv (f_X10_step [(.inr (.inr (10, 0)))] h8) (fun h9 => some (some (.inr (.inl (h.2 10 0 6))), h9)))) (zci (f_X0_powerNamed [(.inr (.inr (0, 1))), (.inr (.inl (h.2 10 0 6)))] h1) (fun r4 h3 => zf (r4 = zm1) (zci (f_X0_cakeNamed [(.inr (.inr (0, 1))), (.inr (.inl (h.2 10 0 6)))] h3) (fun r6 h5 => zf (r6 = zm1) (zcv (f_X10_step [(.inr (.inr (10, 0)))] h5) (fun h7 => some (some (.inr (.inl (h.2 10 0 6))), h7))) (zL p_X6_takeNewName 53 [some (.inr (.inr (6, 0))), some (.inr (.inl (h.2 10 0 6))), none] [] h5))) (zL p_X6_takeNewName 53 [some (.inr (.inr (6, 0))), some (.inr (.inl (h.2 10 0 6))), none] [] h3)))) := (zL_s (t_X6_takeNewName) [0, 53] 1000 0 _ _ _).trans rfl
theorem g_X6_takeNewName (h : zH) : f_X6_takeNewName [(.inr (.inr (6, 0)))] h = zci (f_X10_isName [(.inr (.inr (10, 0)))] h) (fun r2 h1 => zf (r2 = 0) (zcv (f_X10_complain [(.inr (.inr (10, 0))), (.inl 1)] h1) (fun h8 => zcv (f_X10_step [(.inr (.inr (10, 0)))] h8) (fun h9 => some (some (.inr (.inl (h.2 10 0 6))), h9)))) (zci (f_X0_powerNamed [(.inr (.inr (0, 1))), (.inr (.inl (h.2 10 0 6)))] h1) (fun r4 h3 => zf (r4 = zm1) (zci (f_X0_cakeNamed [(.inr (.inr (0, 1))), (.inr (.inl (h.2 10 0 6)))] h3) (fun r6 h5 => zf (r6 = zm1) (zcv (f_X10_step [(.inr (.inr (10, 0)))] h5) (fun h7 => some (some (.inr (.inl (h.2 10 0 6))), h7))) (zL p_X6_takeNewName 53 [some (.inr (.inr (6, 0))), some (.inr (.inl (h.2 10 0 6))), none] [] h5))) (zL p_X6_takeNewName 53 [some (.inr (.inr (6, 0))), some (.inr (.inl (h.2 10 0 6))), none] [] h3)))) := (show f_X6_takeNewName _ h = zL p_X6_takeNewName 0 _ [] h from rfl).trans (e_X6_takeNewName_0 h)
set_option maxRecDepth 1000000 in
theorem e_X6_takeNewName_53 (x1 : Int64) (o2 : Option zV) (h : zH) : zL p_X6_takeNewName 53 [some (.inr (.inr (6, 0))), some (.inr (.inl x1)), o2] [] h = zcv (f_X10_complain [(.inr (.inr (10, 0))), (.inl 3)] h) (fun h1 => zcv (f_X10_step [(.inr (.inr (10, 0)))] h1) (fun h2 => some (some (.inr (.inl x1)), h2))) := (zL_s (t_X6_takeNewName) [0, 53] 1000 53 _ _ _).trans rfl
theorem zMV_10_87 : zMV "SoapTreaty$Tokens" 87 10 y_X10_isWord prog_12_method_13_code 2 (some .boolean) 1 := ⟨⟨zT_of 634 (by decide +kernel) (by decide +kernel), zT_of 635 (by decide +kernel) (by decide +kernel), zT_of 636 (by decide +kernel) (by decide +kernel), zT_of 108 (by decide +kernel) (by decide +kernel), zT_of 637 (by decide +kernel) (by decide +kernel)⟩, by decide, rfl, ⟨zT10, 8, rfl⟩, by decide, by decide, by decide +kernel⟩
/-! SoapTreaty$Tokens.takeWord(I)V -/
def y_X10_takeWord : MethodName := ⟨"SoapTreaty$Tokens", "takeWord", "(I)V"⟩
noncomputable def p_X10_takeWord_0 : List (Nat × zO) := [(0, zo_aload 0 1),
  (1, zo_iload 1 2),
  (2, zo_vir 10 2 (zo_calli (f_X10_isWord) 2 5)),
  (5, zo_0ne 13 8),
  (8, zo_aload 0 9),
  (9, zo_push (.inl 1) 10),
  (10, zo_vir 10 2 (zo_callv (f_X10_complain) 2 13)),
  (13, zo_aload 0 14),
  (14, zo_vir 10 1 (zo_callv (f_X10_step) 1 17)),
  (17, zo_ret)]
noncomputable def p_X10_takeWord : Nat → zO := zgs [(18, p_X10_takeWord_0)]
theorem t_X10_takeWord : ∀ k, zTl (p_X10_takeWord k) := fun k => zgs_all (c := [(18, p_X10_takeWord_0)]) (fun _ => zl_bad) ⟨⟨zl_aload, zl_iload, (zl_vir zl_calli), zl_0ne, zl_aload, zl_push, (zl_vir zl_callv), zl_aload, (zl_vir zl_callv), zl_ret, trivial⟩, trivial⟩ k
noncomputable def f_X10_takeWord : zS := zrun p_X10_takeWord 2
set_option maxRecDepth 20000 in
theorem s_X10_takeWord_0 {l : Launch} {D : va_G} {ad : Nat → Nat → Nat} {cy : Nat → ClassId} {L : List (Nat × Nat)} (hcl : zclo L = true) (hinj : zAd ad L) {X : zCtx} (hX : zXok X "SoapTreaty$Tokens" prog_12_method_16_code 2) (hR : zRt X none) (hl : zXl X l D ad cy L (zroom 4)) : zAllR (zSo X) p_X10_takeWord_0 := ⟨zs_aload_n (i := 0) rfl hX (by decide +kernel : decode prog_12_method_16_code 0 = .ok (.aload_n 0, 1)) rfl (by decide),
  zs_iload_n (i := 1) rfl hX (by decide +kernel : decode prog_12_method_16_code 1 = .ok (.iload_n 1, 1)) rfl (by decide),
  zs_callVi hX zMV_10_87 (zXc_of hl (by decide) (k_X10_isWord hcl hinj)) (by decide +kernel : decode prog_12_method_16_code 2 = .ok (.invokevirtual 87, 3)) rfl,
  zs_0ne hX (by decide +kernel : decode prog_12_method_16_code 5 = .ok (.ifCond .ne 8, 3)) (by decide) rfl,
  zs_aload_n (i := 0) rfl hX (by decide +kernel : decode prog_12_method_16_code 8 = .ok (.aload_n 0, 1)) rfl (by decide),
  zs_pushI (zg_iconst (by decide) hX (by decide +kernel : decode prog_12_method_16_code 9 = .ok (.iconst 1, 1)) rfl),
  zs_callVv hX zMV_10_90 (zXc_of hl (by decide) (k_X10_complain hcl hinj)) (by decide +kernel : decode prog_12_method_16_code 10 = .ok (.invokevirtual 90, 3)) rfl,
  zs_aload_n (i := 0) rfl hX (by decide +kernel : decode prog_12_method_16_code 13 = .ok (.aload_n 0, 1)) rfl (by decide),
  zs_callVv hX zMV_10_44 (zXc_of hl (by decide) (k_X10_step hcl hinj)) (by decide +kernel : decode prog_12_method_16_code 14 = .ok (.invokevirtual 44, 3)) rfl,
  zs_ret hX hR (by decide +kernel : decode prog_12_method_16_code 17 = .ok (.return_, 1)), trivial⟩
theorem k_X10_takeWord {l : Launch} {D : va_G} {ad : Nat → Nat → Nat} {cy : Nat → ClassId} {L : List (Nat × Nat)} (hcl : zclo L = true) (hinj : zAd ad L) : zCk l D ad cy L 4 f_X10_takeWord y_X10_takeWord (.code y_X10_takeWord prog_12_method_16_code 2 none) :=
  z_met (by decide) t_X10_takeWord hcl hinj (fun X hX hR hl k => zgs_all (Q := zSo X) (c := [(18, p_X10_takeWord_0)]) (fun _ => zs_bad) ⟨s_X10_takeWord_0 hcl hinj hX hR hl, trivial⟩ k)
set_option maxRecDepth 1000000 in
theorem e_X10_takeWord_0 (x1 : Int32) (h : zH) : zL p_X10_takeWord 0 [some (.inr (.inr (10, 0))), some (.inl x1)] [] h = zci (f_X10_isWord [(.inr (.inr (10, 0))), (.inl x1)] h) (fun r2 h1 => zf (r2 = 0) (zcv (f_X10_complain [(.inr (.inr (10, 0))), (.inl 1)] h1) (fun h4 => zcv (f_X10_step [(.inr (.inr (10, 0)))] h4) (fun h5 => some (none, h5)))) (zcv (f_X10_step [(.inr (.inr (10, 0)))] h1) (fun h3 => some (none, h3)))) := (zL_s (t_X10_takeWord) [0] 1000 0 _ _ _).trans rfl
theorem g_X10_takeWord (x1 : Int32) (h : zH) : f_X10_takeWord [(.inr (.inr (10, 0))), (.inl x1)] h = zci (f_X10_isWord [(.inr (.inr (10, 0))), (.inl x1)] h) (fun r2 h1 => zf (r2 = 0) (zcv (f_X10_complain [(.inr (.inr (10, 0))), (.inl 1)] h1) (fun h4 => zcv (f_X10_step [(.inr (.inr (10, 0)))] h4) (fun h5 => some (none, h5)))) (zcv (f_X10_step [(.inr (.inr (10, 0)))] h1) (fun h3 => some (none, h3)))) := (show f_X10_takeWord _ h = zL p_X10_takeWord 0 _ [] h from rfl).trans (e_X10_takeWord_0 x1 h)
/-! SoapTreaty$Reader.takePower(LSoapTreaty$Congress;I)I -/
def y_X6_takePower : MethodName := ⟨"SoapTreaty$Reader", "takePower", "(LSoapTreaty$Congress;I)I"⟩
noncomputable def p_X6_takePower_0 : List (Nat × zO) := [(0, zo_push (.inl zm1) 1),
  (1, zo_istore 3 2),
  (2, zo_aload 0 3),
  (3, zo_getR 6 10 none 6),
  (6, zo_vir 10 1 (zo_calli (f_X10_isName) 1 9)),
  (9, zo_0ne 23 12),
  (12, zo_aload 0 13),
  (13, zo_getR 6 10 none 16),
  (16, zo_push (.inl 1) 17),
  (17, zo_vir 10 2 (zo_callv (f_X10_complain) 2 20)),
  (20, zo_goto 35),
  (23, zo_aload 1 24),
  (24, zo_aload 0 25),
  (25, zo_getR 6 10 none 28),
  (28, zo_getJ 10 6 31),
  (31, zo_vir 0 2 (zo_calli (f_X0_powerNamed) 2 34)),
  (34, zo_istore 3 35),
  (35, zo_kill [1] (zo_iload 3 36)),
  (36, zo_push (.inl zm1) 37),
  (37, zo_cne 51 40)]
noncomputable def p_X6_takePower_1 : List (Nat × zO) := [(40, zo_aload 0 41),
  (41, zo_getR 6 10 none 44),
  (44, zo_push (.inl 2) 45),
  (45, zo_vir 10 2 (zo_callv (f_X10_complain) 2 48)),
  (48, zo_goto 64),
  (51, zo_iload 3 52),
  (52, zo_iload 2 53),
  (53, zo_cne 64 56),
  (56, zo_aload 0 57),
  (57, zo_getR 6 10 none 60),
  (60, zo_push (.inl 3) 61),
  (61, zo_vir 10 2 (zo_callv (f_X10_complain) 2 64)),
  (64, zo_aload 0 65),
  (65, zo_getR 6 10 none 68),
  (68, zo_vir 10 1 (zo_callv (f_X10_step) 1 71)),
  (71, zo_iload 3 72),
  (72, zo_iret)]
noncomputable def p_X6_takePower : Nat → zO := zgs [(38, p_X6_takePower_0), (73, p_X6_takePower_1)]
theorem t_X6_takePower : ∀ k, zTl (p_X6_takePower k) := fun k => zgs_all (c := [(38, p_X6_takePower_0), (73, p_X6_takePower_1)]) (fun _ => zl_bad) ⟨⟨zl_push, zl_istore, zl_aload, zl_getR, (zl_vir zl_calli), zl_0ne, zl_aload, zl_getR, zl_push, (zl_vir zl_callv), zl_goto, zl_aload, zl_aload, zl_getR, zl_getJ, (zl_vir zl_calli), zl_istore, (zl_kill zl_iload), zl_push, zl_cne, trivial⟩, ⟨zl_aload, zl_getR, zl_push, (zl_vir zl_callv), zl_goto, zl_iload, zl_iload, zl_cne, zl_aload, zl_getR, zl_push, (zl_vir zl_callv), zl_aload, zl_getR, (zl_vir zl_callv), zl_iload, zl_iret, trivial⟩, trivial⟩ k
noncomputable def f_X6_takePower : zS := zrun p_X6_takePower 4
set_option maxRecDepth 20000 in
theorem s_X6_takePower_0 {l : Launch} {D : va_G} {ad : Nat → Nat → Nat} {cy : Nat → ClassId} {L : List (Nat × Nat)} (hcl : zclo L = true) (hinj : zAd ad L) {X : zCtx} (hX : zXok X "SoapTreaty$Reader" prog_8_method_12_code 4) (hR : zRt X (some .int)) (hl : zXl X l D ad cy L (zroom 4)) : zAllR (zSo X) p_X6_takePower_0 := ⟨zs_pushI (zg_iconst (by decide) hX (by decide +kernel : decode prog_8_method_12_code 0 = .ok (.iconst (-1), 1)) rfl),
  zs_istore_n (i := 3) rfl hX (by decide +kernel : decode prog_8_method_12_code 1 = .ok (.istore_n 3, 1)) rfl (by decide),
  zs_aload_n (i := 0) rfl hX (by decide +kernel : decode prog_8_method_12_code 2 = .ok (.aload_n 0, 1)) rfl (by decide),
  zs_getR hX zFL_6_33 (by decide +kernel : decode prog_8_method_12_code 3 = .ok (.getfield 33, 3)) rfl,
  zs_callVi hX zMV_6_190 (zXc_of hl (by decide) (k_X10_isName hcl hinj)) (by decide +kernel : decode prog_8_method_12_code 6 = .ok (.invokevirtual 190, 3)) rfl,
  zs_0ne hX (by decide +kernel : decode prog_8_method_12_code 9 = .ok (.ifCond .ne 14, 3)) (by decide) rfl,
  zs_aload_n (i := 0) rfl hX (by decide +kernel : decode prog_8_method_12_code 12 = .ok (.aload_n 0, 1)) rfl (by decide),
  zs_getR hX zFL_6_33 (by decide +kernel : decode prog_8_method_12_code 13 = .ok (.getfield 33, 3)) rfl,
  zs_pushI (zg_iconst (by decide) hX (by decide +kernel : decode prog_8_method_12_code 16 = .ok (.iconst 1, 1)) rfl),
  zs_callVv hX zMV_6_91 (zXc_of hl (by decide) (k_X10_complain hcl hinj)) (by decide +kernel : decode prog_8_method_12_code 17 = .ok (.invokevirtual 91, 3)) rfl,
  zs_goto hX (by decide +kernel : decode prog_8_method_12_code 20 = .ok (.goto 15, 3)) (by decide),
  zs_aload_n (i := 1) rfl hX (by decide +kernel : decode prog_8_method_12_code 23 = .ok (.aload_n 1, 1)) rfl (by decide),
  zs_aload_n (i := 0) rfl hX (by decide +kernel : decode prog_8_method_12_code 24 = .ok (.aload_n 0, 1)) rfl (by decide),
  zs_getR hX zFL_6_33 (by decide +kernel : decode prog_8_method_12_code 25 = .ok (.getfield 33, 3)) rfl,
  zs_getJ hX zFL_6_186 (by decide +kernel : decode prog_8_method_12_code 28 = .ok (.getfield 186, 3)) rfl,
  zs_callVi hX zMV_6_193 (zXc_of hl (by decide) (k_X0_powerNamed hcl hinj)) (by decide +kernel : decode prog_8_method_12_code 31 = .ok (.invokevirtual 193, 3)) rfl,
  zs_istore_n (i := 3) rfl hX (by decide +kernel : decode prog_8_method_12_code 34 = .ok (.istore_n 3, 1)) rfl (by decide),
  zs_kill hX (by decide) (zs_iload_n (i := 3) rfl hX (by decide +kernel : decode prog_8_method_12_code 35 = .ok (.iload_n 3, 1)) rfl (by decide)),
  zs_pushI (zg_iconst (by decide) hX (by decide +kernel : decode prog_8_method_12_code 36 = .ok (.iconst (-1), 1)) rfl),
  zs_cne hX (by decide +kernel : decode prog_8_method_12_code 37 = .ok (.if_icmp .ne 14, 3)) (by decide) rfl, trivial⟩
set_option maxRecDepth 20000 in
theorem s_X6_takePower_1 {l : Launch} {D : va_G} {ad : Nat → Nat → Nat} {cy : Nat → ClassId} {L : List (Nat × Nat)} (hcl : zclo L = true) (hinj : zAd ad L) {X : zCtx} (hX : zXok X "SoapTreaty$Reader" prog_8_method_12_code 4) (hR : zRt X (some .int)) (hl : zXl X l D ad cy L (zroom 4)) : zAllR (zSo X) p_X6_takePower_1 := ⟨zs_aload_n (i := 0) rfl hX (by decide +kernel : decode prog_8_method_12_code 40 = .ok (.aload_n 0, 1)) rfl (by decide),
  zs_getR hX zFL_6_33 (by decide +kernel : decode prog_8_method_12_code 41 = .ok (.getfield 33, 3)) rfl,
  zs_pushI (zg_iconst (by decide) hX (by decide +kernel : decode prog_8_method_12_code 44 = .ok (.iconst 2, 1)) rfl),
  zs_callVv hX zMV_6_91 (zXc_of hl (by decide) (k_X10_complain hcl hinj)) (by decide +kernel : decode prog_8_method_12_code 45 = .ok (.invokevirtual 91, 3)) rfl,
  zs_goto hX (by decide +kernel : decode prog_8_method_12_code 48 = .ok (.goto 16, 3)) (by decide),
  zs_iload_n (i := 3) rfl hX (by decide +kernel : decode prog_8_method_12_code 51 = .ok (.iload_n 3, 1)) rfl (by decide),
  zs_iload_n (i := 2) rfl hX (by decide +kernel : decode prog_8_method_12_code 52 = .ok (.iload_n 2, 1)) rfl (by decide),
  zs_cne hX (by decide +kernel : decode prog_8_method_12_code 53 = .ok (.if_icmp .ne 11, 3)) (by decide) rfl,
  zs_aload_n (i := 0) rfl hX (by decide +kernel : decode prog_8_method_12_code 56 = .ok (.aload_n 0, 1)) rfl (by decide),
  zs_getR hX zFL_6_33 (by decide +kernel : decode prog_8_method_12_code 57 = .ok (.getfield 33, 3)) rfl,
  zs_pushI (zg_iconst (by decide) hX (by decide +kernel : decode prog_8_method_12_code 60 = .ok (.iconst 3, 1)) rfl),
  zs_callVv hX zMV_6_91 (zXc_of hl (by decide) (k_X10_complain hcl hinj)) (by decide +kernel : decode prog_8_method_12_code 61 = .ok (.invokevirtual 91, 3)) rfl,
  zs_aload_n (i := 0) rfl hX (by decide +kernel : decode prog_8_method_12_code 64 = .ok (.aload_n 0, 1)) rfl (by decide),
  zs_getR hX zFL_6_33 (by decide +kernel : decode prog_8_method_12_code 65 = .ok (.getfield 33, 3)) rfl,
  zs_callVv hX zMV_6_104 (zXc_of hl (by decide) (k_X10_step hcl hinj)) (by decide +kernel : decode prog_8_method_12_code 68 = .ok (.invokevirtual 104, 3)) rfl,
  zs_iload_n (i := 3) rfl hX (by decide +kernel : decode prog_8_method_12_code 71 = .ok (.iload_n 3, 1)) rfl (by decide),
  zs_iret hX hR (by decide +kernel : decode prog_8_method_12_code 72 = .ok (.ireturn, 1)), trivial⟩
theorem k_X6_takePower {l : Launch} {D : va_G} {ad : Nat → Nat → Nat} {cy : Nat → ClassId} {L : List (Nat × Nat)} (hcl : zclo L = true) (hinj : zAd ad L) : zCk l D ad cy L 4 f_X6_takePower y_X6_takePower (.code y_X6_takePower prog_8_method_12_code 4 (some .int)) :=
  z_met (by decide) t_X6_takePower hcl hinj (fun X hX hR hl k => zgs_all (Q := zSo X) (c := [(38, p_X6_takePower_0), (73, p_X6_takePower_1)]) (fun _ => zs_bad) ⟨s_X6_takePower_0 hcl hinj hX hR hl, s_X6_takePower_1 hcl hinj hX hR hl, trivial⟩ k)
set_option maxRecDepth 1000000 in
theorem e_X6_takePower_0 (jx1 : Nat) (x2 : Int32) (h : zH) : zL p_X6_takePower 0 [some (.inr (.inr (6, 0))), some (.inr (.inr (0, jx1))), some (.inl x2), none] [] h = zci (f_X10_isName [(.inr (.inr (10, 0)))] h) (fun r2 h1 => zf (r2 = 0) (zcv (f_X10_complain [(.inr (.inr (10, 0))), (.inl 1)] h1) (fun h5 => zL p_X6_takePower 35 [some (.inr (.inr (6, 0))), some (.inr (.inr (0, jx1))), some (.inl x2), some (.inl zm1)] [] h5)) (zci (f_X0_powerNamed [(.inr (.inr (0, jx1))), (.inr (.inl (h1.2 10 0 6)))] h1) (fun r4 h3 => zL p_X6_takePower 35 [some (.inr (.inr (6, 0))), some (.inr (.inr (0, jx1))), some (.inl x2), some (.inl r4)] [] h3))) := (zL_s (t_X6_takePower) [0, 35] 1000 0 _ _ _).trans rfl
theorem g_X6_takePower (jx1 : Nat) (x2 : Int32) (h : zH) : f_X6_takePower [(.inr (.inr (6, 0))), (.inr (.inr (0, jx1))), (.inl x2)] h = zci (f_X10_isName [(.inr (.inr (10, 0)))] h) (fun r2 h1 => zf (r2 = 0) (zcv (f_X10_complain [(.inr (.inr (10, 0))), (.inl 1)] h1) (fun h5 => zL p_X6_takePower 35 [some (.inr (.inr (6, 0))), some (.inr (.inr (0, jx1))), some (.inl x2), some (.inl zm1)] [] h5)) (zci (f_X0_powerNamed [(.inr (.inr (0, jx1))), (.inr (.inl (h1.2 10 0 6)))] h1) (fun r4 h3 => zL p_X6_takePower 35 [some (.inr (.inr (6, 0))), some (.inr (.inr (0, jx1))), some (.inl x2), some (.inl r4)] [] h3))) := (show f_X6_takePower _ h = zL p_X6_takePower 0 _ [] h from rfl).trans (e_X6_takePower_0 jx1 x2 h)
set_option maxRecDepth 1000000 in
theorem e_X6_takePower_35 (o1 : Option zV) (x2 : Int32) (x3 : Int32) (h : zH) : zL p_X6_takePower 35 [some (.inr (.inr (6, 0))), o1, some (.inl x2), some (.inl x3)] [] h = zf (x3 = zm1) (zcv (f_X10_complain [(.inr (.inr (10, 0))), (.inl 2)] h) (fun h4 => zcv (f_X10_step [(.inr (.inr (10, 0)))] h4) (fun h5 => some (some (.inl x3), h5)))) (zf (x3 = x2) (zcv (f_X10_complain [(.inr (.inr (10, 0))), (.inl 3)] h) (fun h2 => zcv (f_X10_step [(.inr (.inr (10, 0)))] h2) (fun h3 => some (some (.inl x3), h3)))) (zcv (f_X10_step [(.inr (.inr (10, 0)))] h) (fun h1 => some (some (.inl x3), h1)))) := (zL_s (t_X6_takePower) [0, 35] 1000 35 _ _ _).trans rfl
theorem zMV_6_111 : zMV "SoapTreaty$Reader" 111 6 y_X6_takeNewName prog_8_method_10_code 3 (some .long) 0 := ⟨⟨zT_of 610 (by decide +kernel) (by decide +kernel), zT_of 612 (by decide +kernel) (by decide +kernel), zT_of 3 (by decide +kernel) (by decide +kernel), zT_of 106 (by decide +kernel) (by decide +kernel), zT_of 613 (by decide +kernel) (by decide +kernel)⟩, by decide, rfl, ⟨zT6, 7, rfl⟩, by decide, by decide, by decide +kernel⟩
theorem zMV_6_122 : zMV "SoapTreaty$Reader" 122 10 y_X10_takeWord prog_12_method_16_code 2 none 1 := ⟨⟨zT_of 630 (by decide +kernel) (by decide +kernel), zT_of 631 (by decide +kernel) (by decide +kernel), zT_of 632 (by decide +kernel) (by decide +kernel), zT_of 108 (by decide +kernel) (by decide +kernel), zT_of 633 (by decide +kernel) (by decide +kernel)⟩, by decide, rfl, ⟨zT10, 8, rfl⟩, by decide, by decide, by decide +kernel⟩
theorem zMV_6_141 : zMV "SoapTreaty$Reader" 141 6 y_X6_takePower prog_8_method_12_code 4 (some .int) 2 := ⟨⟨zT_of 647 (by decide +kernel) (by decide +kernel), zT_of 649 (by decide +kernel) (by decide +kernel), zT_of 6 (by decide +kernel) (by decide +kernel), zT_of 106 (by decide +kernel) (by decide +kernel), zT_of 650 (by decide +kernel) (by decide +kernel)⟩, by decide, rfl, ⟨zT6, 7, rfl⟩, by decide, by decide, by decide +kernel⟩
/-! SoapTreaty$Reader.readCake()V -/
def y_X6_readCake : MethodName := ⟨"SoapTreaty$Reader", "readCake", "()V"⟩
noncomputable def p_X6_readCake_0 : List (Nat × zO) := [(0, zo_aload 0 1),
  (1, zo_getR 6 0 (some 1) 4),
  (4, zo_getI 0 4 7),
  (7, zo_istore 1 8),
  (8, zo_iload 1 9),
  (9, zo_push (.inl 7) 11),
  (11, zo_clt 23 14),
  (14, zo_aload 0 15),
  (15, zo_getR 6 10 none 18),
  (18, zo_push (.inl 5) 19),
  (19, zo_vir 10 2 (zo_callv (f_X10_complain) 2 22)),
  (22, zo_ret),
  (23, zo_aload 0 24),
  (24, zo_getR 6 10 none 27),
  (27, zo_vir 10 1 (zo_callv (f_X10_step) 1 30)),
  (30, zo_aload 0 31),
  (31, zo_getR 6 0 (some 1) 34),
  (34, zo_getR 0 16 none 37),
  (37, zo_iload 1 38),
  (38, zo_aload 0 39)]
noncomputable def p_X6_readCake_1 : List (Nat × zO) := [(39, zo_vir 6 1 (zo_callj (f_X6_takeNewName) 1 42)),
  (42, zo_last 43),
  (43, zo_aload 0 44),
  (44, zo_getR 6 10 none 47),
  (47, zo_push (.inl 3) 48),
  (48, zo_vir 10 2 (zo_callv (f_X10_takeWord) 2 51)),
  (51, zo_aload 0 52),
  (52, zo_getR 6 0 (some 1) 55),
  (55, zo_getR 0 17 none 58),
  (58, zo_iload 1 59),
  (59, zo_aload 0 60),
  (60, zo_aload 0 61),
  (61, zo_getR 6 0 (some 1) 64),
  (64, zo_push (.inl zm1) 65),
  (65, zo_vir 6 3 (zo_calli (f_X6_takePower) 3 68)),
  (68, zo_iast 69),
  (69, zo_aload 0 70),
  (70, zo_getR 6 10 none 73),
  (73, zo_push (.inl 4) 74),
  (74, zo_vir 10 2 (zo_callv (f_X10_takeWord) 2 77))]
noncomputable def p_X6_readCake_2 : List (Nat × zO) := [(77, zo_aload 0 78),
  (78, zo_getR 6 0 (some 1) 81),
  (81, zo_getR 0 18 none 84),
  (84, zo_iload 1 85),
  (85, zo_aload 0 86),
  (86, zo_aload 0 87),
  (87, zo_getR 6 0 (some 1) 90),
  (90, zo_aload 0 91),
  (91, zo_getR 6 0 (some 1) 94),
  (94, zo_getR 0 17 none 97),
  (97, zo_iload 1 98),
  (98, zo_iald 99),
  (99, zo_vir 6 3 (zo_calli (f_X6_takePower) 3 102)),
  (102, zo_iast 103),
  (103, zo_aload 0 104),
  (104, zo_getR 6 10 none 107),
  (107, zo_push (.inl 5) 108),
  (108, zo_vir 10 2 (zo_callv (f_X10_takeWord) 2 111)),
  (111, zo_aload 0 112),
  (112, zo_getR 6 0 (some 1) 115)]
noncomputable def p_X6_readCake_3 : List (Nat × zO) := [(115, zo_getR 0 19 none 118),
  (118, zo_iload 1 119),
  (119, zo_aload 0 120),
  (120, zo_getR 6 10 none 123),
  (123, zo_push (.inl 1) 124),
  (124, zo_push (.inl 40) 126),
  (126, zo_vir 10 3 (zo_calli (f_X10_takeNumber) 3 129)),
  (129, zo_iast 130),
  (130, zo_aload 0 131),
  (131, zo_getR 6 10 none 134),
  (134, zo_push (.inl 6) 136),
  (136, zo_vir 10 2 (zo_callv (f_X10_takeWord) 2 139)),
  (139, zo_aload 0 140),
  (140, zo_getR 6 0 (some 1) 143),
  (143, zo_getR 0 20 none 146),
  (146, zo_iload 1 147),
  (147, zo_aload 0 148),
  (148, zo_getR 6 10 none 151),
  (151, zo_push (.inl 0) 152),
  (152, zo_push (.inl 9) 154)]
noncomputable def p_X6_readCake_4 : List (Nat × zO) := [(154, zo_vir 10 3 (zo_calli (f_X10_takeNumber) 3 157)),
  (157, zo_iast 158),
  (158, zo_aload 0 159),
  (159, zo_getR 6 0 (some 1) 162),
  (162, zo_getR 0 21 none 165),
  (165, zo_iload 1 166),
  (166, zo_push (.inl zm1) 167),
  (167, zo_iast 168),
  (168, zo_aload 0 169),
  (169, zo_getR 6 0 (some 1) 172),
  (172, zo_dup 173),
  (173, zo_getI 0 4 176),
  (176, zo_push (.inl 1) 177),
  (177, zo_ii (fun x y => x + y) 178),
  (178, zo_putI 0 4 181),
  (181, zo_ret)]
noncomputable def p_X6_readCake : Nat → zO := zgs [(39, p_X6_readCake_0), (75, p_X6_readCake_1), (113, p_X6_readCake_2), (153, p_X6_readCake_3), (182, p_X6_readCake_4)]
theorem t_X6_readCake : ∀ k, zTl (p_X6_readCake k) := fun k => zgs_all (c := [(39, p_X6_readCake_0), (75, p_X6_readCake_1), (113, p_X6_readCake_2), (153, p_X6_readCake_3), (182, p_X6_readCake_4)]) (fun _ => zl_bad) ⟨⟨zl_aload, zl_getR, zl_getI, zl_istore, zl_iload, zl_push, zl_clt, zl_aload, zl_getR, zl_push, (zl_vir zl_callv), zl_ret, zl_aload, zl_getR, (zl_vir zl_callv), zl_aload, zl_getR, zl_getR, zl_iload, zl_aload, trivial⟩, ⟨(zl_vir zl_callj), zl_last, zl_aload, zl_getR, zl_push, (zl_vir zl_callv), zl_aload, zl_getR, zl_getR, zl_iload, zl_aload, zl_aload, zl_getR, zl_push, (zl_vir zl_calli), zl_iast, zl_aload, zl_getR, zl_push, (zl_vir zl_callv), trivial⟩, ⟨zl_aload, zl_getR, zl_getR, zl_iload, zl_aload, zl_aload, zl_getR, zl_aload, zl_getR, zl_getR, zl_iload, zl_iald, (zl_vir zl_calli), zl_iast, zl_aload, zl_getR, zl_push, (zl_vir zl_callv), zl_aload, zl_getR, trivial⟩, ⟨zl_getR, zl_iload, zl_aload, zl_getR, zl_push, zl_push, (zl_vir zl_calli), zl_iast, zl_aload, zl_getR, zl_push, (zl_vir zl_callv), zl_aload, zl_getR, zl_getR, zl_iload, zl_aload, zl_getR, zl_push, zl_push, trivial⟩, ⟨(zl_vir zl_calli), zl_iast, zl_aload, zl_getR, zl_getR, zl_iload, zl_push, zl_iast, zl_aload, zl_getR, zl_dup, zl_getI, zl_push, zl_ii, zl_putI, zl_ret, trivial⟩, trivial⟩ k
noncomputable def f_X6_readCake : zS := zrun p_X6_readCake 2
set_option maxRecDepth 20000 in
theorem s_X6_readCake_0 {l : Launch} {D : va_G} {ad : Nat → Nat → Nat} {cy : Nat → ClassId} {L : List (Nat × Nat)} (hcl : zclo L = true) (hinj : zAd ad L) {X : zCtx} (hX : zXok X "SoapTreaty$Reader" prog_8_method_4_code 2) (hR : zRt X none) (hl : zXl X l D ad cy L (zroom 5)) : zAllR (zSo X) p_X6_readCake_0 := ⟨zs_aload_n (i := 0) rfl hX (by decide +kernel : decode prog_8_method_4_code 0 = .ok (.aload_n 0, 1)) rfl (by decide),
  zs_getR hX zFL_6_18 (by decide +kernel : decode prog_8_method_4_code 1 = .ok (.getfield 18, 3)) rfl,
  zs_getI hX zFL_6_132 (by decide) (by decide) (by decide +kernel : decode prog_8_method_4_code 4 = .ok (.getfield 132, 3)) rfl,
  zs_istore_n (i := 1) rfl hX (by decide +kernel : decode prog_8_method_4_code 7 = .ok (.istore_n 1, 1)) rfl (by decide),
  zs_iload_n (i := 1) rfl hX (by decide +kernel : decode prog_8_method_4_code 8 = .ok (.iload_n 1, 1)) rfl (by decide),
  zs_pushI (zg_bipush (by decide) hX (by decide +kernel : decode prog_8_method_4_code 9 = .ok (.bipush 7, 2)) rfl),
  zs_clt hX (by decide +kernel : decode prog_8_method_4_code 11 = .ok (.if_icmp .lt 12, 3)) (by decide) rfl,
  zs_aload_n (i := 0) rfl hX (by decide +kernel : decode prog_8_method_4_code 14 = .ok (.aload_n 0, 1)) rfl (by decide),
  zs_getR hX zFL_6_33 (by decide +kernel : decode prog_8_method_4_code 15 = .ok (.getfield 33, 3)) rfl,
  zs_pushI (zg_iconst (by decide) hX (by decide +kernel : decode prog_8_method_4_code 18 = .ok (.iconst 5, 1)) rfl),
  zs_callVv hX zMV_6_91 (zXc_of hl (by decide) (k_X10_complain hcl hinj)) (by decide +kernel : decode prog_8_method_4_code 19 = .ok (.invokevirtual 91, 3)) rfl,
  zs_ret hX hR (by decide +kernel : decode prog_8_method_4_code 22 = .ok (.return_, 1)),
  zs_aload_n (i := 0) rfl hX (by decide +kernel : decode prog_8_method_4_code 23 = .ok (.aload_n 0, 1)) rfl (by decide),
  zs_getR hX zFL_6_33 (by decide +kernel : decode prog_8_method_4_code 24 = .ok (.getfield 33, 3)) rfl,
  zs_callVv hX zMV_6_104 (zXc_of hl (by decide) (k_X10_step hcl hinj)) (by decide +kernel : decode prog_8_method_4_code 27 = .ok (.invokevirtual 104, 3)) rfl,
  zs_aload_n (i := 0) rfl hX (by decide +kernel : decode prog_8_method_4_code 30 = .ok (.aload_n 0, 1)) rfl (by decide),
  zs_getR hX zFL_6_18 (by decide +kernel : decode prog_8_method_4_code 31 = .ok (.getfield 18, 3)) rfl,
  zs_getR hX zFL_6_135 (by decide +kernel : decode prog_8_method_4_code 34 = .ok (.getfield 135, 3)) rfl,
  zs_iload_n (i := 1) rfl hX (by decide +kernel : decode prog_8_method_4_code 37 = .ok (.iload_n 1, 1)) rfl (by decide),
  zs_aload_n (i := 0) rfl hX (by decide +kernel : decode prog_8_method_4_code 38 = .ok (.aload_n 0, 1)) rfl (by decide), trivial⟩
set_option maxRecDepth 20000 in
theorem s_X6_readCake_1 {l : Launch} {D : va_G} {ad : Nat → Nat → Nat} {cy : Nat → ClassId} {L : List (Nat × Nat)} (hcl : zclo L = true) (hinj : zAd ad L) {X : zCtx} (hX : zXok X "SoapTreaty$Reader" prog_8_method_4_code 2) (hR : zRt X none) (hl : zXl X l D ad cy L (zroom 5)) : zAllR (zSo X) p_X6_readCake_1 := ⟨zs_callVj hX zMV_6_111 (zXc_of hl (by decide) (k_X6_takeNewName hcl hinj)) (by decide +kernel : decode prog_8_method_4_code 39 = .ok (.invokevirtual 111, 3)) rfl,
  zs_last hX (by decide +kernel : decode prog_8_method_4_code 42 = .ok (.lastore, 1)) rfl,
  zs_aload_n (i := 0) rfl hX (by decide +kernel : decode prog_8_method_4_code 43 = .ok (.aload_n 0, 1)) rfl (by decide),
  zs_getR hX zFL_6_33 (by decide +kernel : decode prog_8_method_4_code 44 = .ok (.getfield 33, 3)) rfl,
  zs_pushI (zg_iconst (by decide) hX (by decide +kernel : decode prog_8_method_4_code 47 = .ok (.iconst 3, 1)) rfl),
  zs_callVv hX zMV_6_122 (zXc_of hl (by decide) (k_X10_takeWord hcl hinj)) (by decide +kernel : decode prog_8_method_4_code 48 = .ok (.invokevirtual 122, 3)) rfl,
  zs_aload_n (i := 0) rfl hX (by decide +kernel : decode prog_8_method_4_code 51 = .ok (.aload_n 0, 1)) rfl (by decide),
  zs_getR hX zFL_6_18 (by decide +kernel : decode prog_8_method_4_code 52 = .ok (.getfield 18, 3)) rfl,
  zs_getR hX zFL_6_138 (by decide +kernel : decode prog_8_method_4_code 55 = .ok (.getfield 138, 3)) rfl,
  zs_iload_n (i := 1) rfl hX (by decide +kernel : decode prog_8_method_4_code 58 = .ok (.iload_n 1, 1)) rfl (by decide),
  zs_aload_n (i := 0) rfl hX (by decide +kernel : decode prog_8_method_4_code 59 = .ok (.aload_n 0, 1)) rfl (by decide),
  zs_aload_n (i := 0) rfl hX (by decide +kernel : decode prog_8_method_4_code 60 = .ok (.aload_n 0, 1)) rfl (by decide),
  zs_getR hX zFL_6_18 (by decide +kernel : decode prog_8_method_4_code 61 = .ok (.getfield 18, 3)) rfl,
  zs_pushI (zg_iconst (by decide) hX (by decide +kernel : decode prog_8_method_4_code 64 = .ok (.iconst (-1), 1)) rfl),
  zs_callVi hX zMV_6_141 (zXc_of hl (by decide) (k_X6_takePower hcl hinj)) (by decide +kernel : decode prog_8_method_4_code 65 = .ok (.invokevirtual 141, 3)) rfl,
  zs_iast hX (by decide +kernel : decode prog_8_method_4_code 68 = .ok (.iastore, 1)) rfl,
  zs_aload_n (i := 0) rfl hX (by decide +kernel : decode prog_8_method_4_code 69 = .ok (.aload_n 0, 1)) rfl (by decide),
  zs_getR hX zFL_6_33 (by decide +kernel : decode prog_8_method_4_code 70 = .ok (.getfield 33, 3)) rfl,
  zs_pushI (zg_iconst (by decide) hX (by decide +kernel : decode prog_8_method_4_code 73 = .ok (.iconst 4, 1)) rfl),
  zs_callVv hX zMV_6_122 (zXc_of hl (by decide) (k_X10_takeWord hcl hinj)) (by decide +kernel : decode prog_8_method_4_code 74 = .ok (.invokevirtual 122, 3)) rfl, trivial⟩
set_option maxRecDepth 20000 in
theorem s_X6_readCake_2 {l : Launch} {D : va_G} {ad : Nat → Nat → Nat} {cy : Nat → ClassId} {L : List (Nat × Nat)} (hcl : zclo L = true) (hinj : zAd ad L) {X : zCtx} (hX : zXok X "SoapTreaty$Reader" prog_8_method_4_code 2) (hR : zRt X none) (hl : zXl X l D ad cy L (zroom 5)) : zAllR (zSo X) p_X6_readCake_2 := ⟨zs_aload_n (i := 0) rfl hX (by decide +kernel : decode prog_8_method_4_code 77 = .ok (.aload_n 0, 1)) rfl (by decide),
  zs_getR hX zFL_6_18 (by decide +kernel : decode prog_8_method_4_code 78 = .ok (.getfield 18, 3)) rfl,
  zs_getR hX zFL_6_145 (by decide +kernel : decode prog_8_method_4_code 81 = .ok (.getfield 145, 3)) rfl,
  zs_iload_n (i := 1) rfl hX (by decide +kernel : decode prog_8_method_4_code 84 = .ok (.iload_n 1, 1)) rfl (by decide),
  zs_aload_n (i := 0) rfl hX (by decide +kernel : decode prog_8_method_4_code 85 = .ok (.aload_n 0, 1)) rfl (by decide),
  zs_aload_n (i := 0) rfl hX (by decide +kernel : decode prog_8_method_4_code 86 = .ok (.aload_n 0, 1)) rfl (by decide),
  zs_getR hX zFL_6_18 (by decide +kernel : decode prog_8_method_4_code 87 = .ok (.getfield 18, 3)) rfl,
  zs_aload_n (i := 0) rfl hX (by decide +kernel : decode prog_8_method_4_code 90 = .ok (.aload_n 0, 1)) rfl (by decide),
  zs_getR hX zFL_6_18 (by decide +kernel : decode prog_8_method_4_code 91 = .ok (.getfield 18, 3)) rfl,
  zs_getR hX zFL_6_138 (by decide +kernel : decode prog_8_method_4_code 94 = .ok (.getfield 138, 3)) rfl,
  zs_iload_n (i := 1) rfl hX (by decide +kernel : decode prog_8_method_4_code 97 = .ok (.iload_n 1, 1)) rfl (by decide),
  zs_iald hX (by decide +kernel : decode prog_8_method_4_code 98 = .ok (.iaload, 1)) rfl,
  zs_callVi hX zMV_6_141 (zXc_of hl (by decide) (k_X6_takePower hcl hinj)) (by decide +kernel : decode prog_8_method_4_code 99 = .ok (.invokevirtual 141, 3)) rfl,
  zs_iast hX (by decide +kernel : decode prog_8_method_4_code 102 = .ok (.iastore, 1)) rfl,
  zs_aload_n (i := 0) rfl hX (by decide +kernel : decode prog_8_method_4_code 103 = .ok (.aload_n 0, 1)) rfl (by decide),
  zs_getR hX zFL_6_33 (by decide +kernel : decode prog_8_method_4_code 104 = .ok (.getfield 33, 3)) rfl,
  zs_pushI (zg_iconst (by decide) hX (by decide +kernel : decode prog_8_method_4_code 107 = .ok (.iconst 5, 1)) rfl),
  zs_callVv hX zMV_6_122 (zXc_of hl (by decide) (k_X10_takeWord hcl hinj)) (by decide +kernel : decode prog_8_method_4_code 108 = .ok (.invokevirtual 122, 3)) rfl,
  zs_aload_n (i := 0) rfl hX (by decide +kernel : decode prog_8_method_4_code 111 = .ok (.aload_n 0, 1)) rfl (by decide),
  zs_getR hX zFL_6_18 (by decide +kernel : decode prog_8_method_4_code 112 = .ok (.getfield 18, 3)) rfl, trivial⟩
set_option maxRecDepth 20000 in
theorem s_X6_readCake_3 {l : Launch} {D : va_G} {ad : Nat → Nat → Nat} {cy : Nat → ClassId} {L : List (Nat × Nat)} (hcl : zclo L = true) (hinj : zAd ad L) {X : zCtx} (hX : zXok X "SoapTreaty$Reader" prog_8_method_4_code 2) (hR : zRt X none) (hl : zXl X l D ad cy L (zroom 5)) : zAllR (zSo X) p_X6_readCake_3 := ⟨zs_getR hX zFL_6_148 (by decide +kernel : decode prog_8_method_4_code 115 = .ok (.getfield 148, 3)) rfl,
  zs_iload_n (i := 1) rfl hX (by decide +kernel : decode prog_8_method_4_code 118 = .ok (.iload_n 1, 1)) rfl (by decide),
  zs_aload_n (i := 0) rfl hX (by decide +kernel : decode prog_8_method_4_code 119 = .ok (.aload_n 0, 1)) rfl (by decide),
  zs_getR hX zFL_6_33 (by decide +kernel : decode prog_8_method_4_code 120 = .ok (.getfield 33, 3)) rfl,
  zs_pushI (zg_iconst (by decide) hX (by decide +kernel : decode prog_8_method_4_code 123 = .ok (.iconst 1, 1)) rfl),
  zs_pushI (zg_bipush (by decide) hX (by decide +kernel : decode prog_8_method_4_code 124 = .ok (.bipush 40, 2)) rfl),
  zs_callVi hX zMV_6_128 (zXc_of hl (by decide) (k_X10_takeNumber hcl hinj)) (by decide +kernel : decode prog_8_method_4_code 126 = .ok (.invokevirtual 128, 3)) rfl,
  zs_iast hX (by decide +kernel : decode prog_8_method_4_code 129 = .ok (.iastore, 1)) rfl,
  zs_aload_n (i := 0) rfl hX (by decide +kernel : decode prog_8_method_4_code 130 = .ok (.aload_n 0, 1)) rfl (by decide),
  zs_getR hX zFL_6_33 (by decide +kernel : decode prog_8_method_4_code 131 = .ok (.getfield 33, 3)) rfl,
  zs_pushI (zg_bipush (by decide) hX (by decide +kernel : decode prog_8_method_4_code 134 = .ok (.bipush 6, 2)) rfl),
  zs_callVv hX zMV_6_122 (zXc_of hl (by decide) (k_X10_takeWord hcl hinj)) (by decide +kernel : decode prog_8_method_4_code 136 = .ok (.invokevirtual 122, 3)) rfl,
  zs_aload_n (i := 0) rfl hX (by decide +kernel : decode prog_8_method_4_code 139 = .ok (.aload_n 0, 1)) rfl (by decide),
  zs_getR hX zFL_6_18 (by decide +kernel : decode prog_8_method_4_code 140 = .ok (.getfield 18, 3)) rfl,
  zs_getR hX zFL_6_151 (by decide +kernel : decode prog_8_method_4_code 143 = .ok (.getfield 151, 3)) rfl,
  zs_iload_n (i := 1) rfl hX (by decide +kernel : decode prog_8_method_4_code 146 = .ok (.iload_n 1, 1)) rfl (by decide),
  zs_aload_n (i := 0) rfl hX (by decide +kernel : decode prog_8_method_4_code 147 = .ok (.aload_n 0, 1)) rfl (by decide),
  zs_getR hX zFL_6_33 (by decide +kernel : decode prog_8_method_4_code 148 = .ok (.getfield 33, 3)) rfl,
  zs_pushI (zg_iconst (by decide) hX (by decide +kernel : decode prog_8_method_4_code 151 = .ok (.iconst 0, 1)) rfl),
  zs_pushI (zg_bipush (by decide) hX (by decide +kernel : decode prog_8_method_4_code 152 = .ok (.bipush 9, 2)) rfl), trivial⟩
set_option maxRecDepth 20000 in
theorem s_X6_readCake_4 {l : Launch} {D : va_G} {ad : Nat → Nat → Nat} {cy : Nat → ClassId} {L : List (Nat × Nat)} (hcl : zclo L = true) (hinj : zAd ad L) {X : zCtx} (hX : zXok X "SoapTreaty$Reader" prog_8_method_4_code 2) (hR : zRt X none) (hl : zXl X l D ad cy L (zroom 5)) : zAllR (zSo X) p_X6_readCake_4 := ⟨zs_callVi hX zMV_6_128 (zXc_of hl (by decide) (k_X10_takeNumber hcl hinj)) (by decide +kernel : decode prog_8_method_4_code 154 = .ok (.invokevirtual 128, 3)) rfl,
  zs_iast hX (by decide +kernel : decode prog_8_method_4_code 157 = .ok (.iastore, 1)) rfl,
  zs_aload_n (i := 0) rfl hX (by decide +kernel : decode prog_8_method_4_code 158 = .ok (.aload_n 0, 1)) rfl (by decide),
  zs_getR hX zFL_6_18 (by decide +kernel : decode prog_8_method_4_code 159 = .ok (.getfield 18, 3)) rfl,
  zs_getR hX zFL_6_154 (by decide +kernel : decode prog_8_method_4_code 162 = .ok (.getfield 154, 3)) rfl,
  zs_iload_n (i := 1) rfl hX (by decide +kernel : decode prog_8_method_4_code 165 = .ok (.iload_n 1, 1)) rfl (by decide),
  zs_pushI (zg_iconst (by decide) hX (by decide +kernel : decode prog_8_method_4_code 166 = .ok (.iconst (-1), 1)) rfl),
  zs_iast hX (by decide +kernel : decode prog_8_method_4_code 167 = .ok (.iastore, 1)) rfl,
  zs_aload_n (i := 0) rfl hX (by decide +kernel : decode prog_8_method_4_code 168 = .ok (.aload_n 0, 1)) rfl (by decide),
  zs_getR hX zFL_6_18 (by decide +kernel : decode prog_8_method_4_code 169 = .ok (.getfield 18, 3)) rfl,
  zs_dup hX (by decide +kernel : decode prog_8_method_4_code 172 = .ok (.dup, 1)) rfl,
  zs_getI hX zFL_6_132 (by decide) (by decide) (by decide +kernel : decode prog_8_method_4_code 173 = .ok (.getfield 132, 3)) rfl,
  zs_pushI (zg_iconst (by decide) hX (by decide +kernel : decode prog_8_method_4_code 176 = .ok (.iconst 1, 1)) rfl),
  zs_ii (zg_iadd hX (by decide +kernel : decode prog_8_method_4_code 177 = .ok (.iadd, 1)) rfl),
  zs_putI hX zFP_6_132 (by decide +kernel : decode prog_8_method_4_code 178 = .ok (.putfield 132, 3)) rfl,
  zs_ret hX hR (by decide +kernel : decode prog_8_method_4_code 181 = .ok (.return_, 1)), trivial⟩
theorem k_X6_readCake {l : Launch} {D : va_G} {ad : Nat → Nat → Nat} {cy : Nat → ClassId} {L : List (Nat × Nat)} (hcl : zclo L = true) (hinj : zAd ad L) : zCk l D ad cy L 5 f_X6_readCake y_X6_readCake (.code y_X6_readCake prog_8_method_4_code 2 none) :=
  z_met (by decide) t_X6_readCake hcl hinj (fun X hX hR hl k => zgs_all (Q := zSo X) (c := [(39, p_X6_readCake_0), (75, p_X6_readCake_1), (113, p_X6_readCake_2), (153, p_X6_readCake_3), (182, p_X6_readCake_4)]) (fun _ => zs_bad) ⟨s_X6_readCake_0 hcl hinj hX hR hl, s_X6_readCake_1 hcl hinj hX hR hl, s_X6_readCake_2 hcl hinj hX hR hl, s_X6_readCake_3 hcl hinj hX hR hl, s_X6_readCake_4 hcl hinj hX hR hl, trivial⟩ k)
set_option maxRecDepth 1000000 in
theorem e_X6_readCake_0 (h : zH) : zL p_X6_readCake 0 [some (.inr (.inr (6, 0))), none] [] h = zf ((h.1 0 1 4) < 7) (zcv (f_X10_step [(.inr (.inr (10, 0)))] h) (fun h1 => zcj (f_X6_takeNewName [(.inr (.inr (6, 0)))] h1) (fun r3 h2 => zf (vp_in (h.1 0 1 4) 7) (zcv (f_X10_takeWord [(.inr (.inr (10, 0))), (.inl 3)] (zuJ h2 16 1 (h.1 0 1 4).toNatClampNeg r3)) (fun h4 => zci (f_X6_takePower [(.inr (.inr (6, 0))), (.inr (.inr (0, 1))), (.inl zm1)] h4) (fun r6 h5 => zf (vp_in (h.1 0 1 4) 7) (zcv (f_X10_takeWord [(.inr (.inr (10, 0))), (.inl 4)] (zuI h5 17 1 (h.1 0 1 4).toNatClampNeg r6)) (fun h7 => zf (vp_in (h.1 0 1 4) 7) (zci (f_X6_takePower [(.inr (.inr (6, 0))), (.inr (.inr (0, 1))), (.inl (h7.1 17 1 (h.1 0 1 4).toNatClampNeg))] h7) (fun r9 h8 => zf (vp_in (h.1 0 1 4) 7) (zcv (f_X10_takeWord [(.inr (.inr (10, 0))), (.inl 5)] (zuI h8 18 1 (h.1 0 1 4).toNatClampNeg r9)) (fun h10 => zci (f_X10_takeNumber [(.inr (.inr (10, 0))), (.inl 1), (.inl 40)] h10) (fun r12 h11 => zf (vp_in (h.1 0 1 4) 7) (zcv (f_X10_takeWord [(.inr (.inr (10, 0))), (.inl 6)] (zuI h11 19 1 (h.1 0 1 4).toNatClampNeg r12)) (fun h13 => zci (f_X10_takeNumber [(.inr (.inr (10, 0))), (.inl 0), (.inl 9)] h13) (fun r15 h14 => zf (vp_in (h.1 0 1 4) 7) (zf (vp_in (h.1 0 1 4) 7) (some (none, (zuI (zuI (zuI h14 20 1 (h.1 0 1 4).toNatClampNeg r15) 21 1 (h.1 0 1 4).toNatClampNeg zm1) 0 1 4 ((h14.1 0 1 4) + (1 : Int32))))) none) none))) none))) none)) none)) none))) none))) (zcv (f_X10_complain [(.inr (.inr (10, 0))), (.inl 5)] h) (fun h16 => some (none, h16))) := (zL_s (t_X6_readCake) [0] 1000 0 _ _ _).trans rfl
theorem g_X6_readCake (h : zH) : f_X6_readCake [(.inr (.inr (6, 0)))] h = zf ((h.1 0 1 4) < 7) (zcv (f_X10_step [(.inr (.inr (10, 0)))] h) (fun h1 => zcj (f_X6_takeNewName [(.inr (.inr (6, 0)))] h1) (fun r3 h2 => zf (vp_in (h.1 0 1 4) 7) (zcv (f_X10_takeWord [(.inr (.inr (10, 0))), (.inl 3)] (zuJ h2 16 1 (h.1 0 1 4).toNatClampNeg r3)) (fun h4 => zci (f_X6_takePower [(.inr (.inr (6, 0))), (.inr (.inr (0, 1))), (.inl zm1)] h4) (fun r6 h5 => zf (vp_in (h.1 0 1 4) 7) (zcv (f_X10_takeWord [(.inr (.inr (10, 0))), (.inl 4)] (zuI h5 17 1 (h.1 0 1 4).toNatClampNeg r6)) (fun h7 => zf (vp_in (h.1 0 1 4) 7) (zci (f_X6_takePower [(.inr (.inr (6, 0))), (.inr (.inr (0, 1))), (.inl (h7.1 17 1 (h.1 0 1 4).toNatClampNeg))] h7) (fun r9 h8 => zf (vp_in (h.1 0 1 4) 7) (zcv (f_X10_takeWord [(.inr (.inr (10, 0))), (.inl 5)] (zuI h8 18 1 (h.1 0 1 4).toNatClampNeg r9)) (fun h10 => zci (f_X10_takeNumber [(.inr (.inr (10, 0))), (.inl 1), (.inl 40)] h10) (fun r12 h11 => zf (vp_in (h.1 0 1 4) 7) (zcv (f_X10_takeWord [(.inr (.inr (10, 0))), (.inl 6)] (zuI h11 19 1 (h.1 0 1 4).toNatClampNeg r12)) (fun h13 => zci (f_X10_takeNumber [(.inr (.inr (10, 0))), (.inl 0), (.inl 9)] h13) (fun r15 h14 => zf (vp_in (h.1 0 1 4) 7) (zf (vp_in (h.1 0 1 4) 7) (some (none, (zuI (zuI (zuI h14 20 1 (h.1 0 1 4).toNatClampNeg r15) 21 1 (h.1 0 1 4).toNatClampNeg zm1) 0 1 4 ((h14.1 0 1 4) + (1 : Int32))))) none) none))) none))) none)) none)) none))) none))) (zcv (f_X10_complain [(.inr (.inr (10, 0))), (.inl 5)] h) (fun h16 => some (none, h16))) := (show f_X6_readCake _ h = zL p_X6_readCake 0 _ [] h from rfl).trans (e_X6_readCake_0 h)
/-! SoapTreaty$Reader.takeKind()I -/
def y_X6_takeKind : MethodName := ⟨"SoapTreaty$Reader", "takeKind", "()I"⟩
noncomputable def p_X6_takeKind_0 : List (Nat × zO) := [(0, zo_aload 0 1),
  (1, zo_getR 6 10 none 4),
  (4, zo_getI 10 5 7),
  (7, zo_push (.inl 16) 9),
  (9, zo_ii (fun x y => x - y) 10),
  (10, zo_istore 1 11),
  (11, zo_aload 0 12),
  (12, zo_getR 6 10 none 15),
  (15, zo_getI 10 3 18),
  (18, zo_push (.inl 2) 19),
  (19, zo_cne 31 22),
  (22, zo_iload 1 23),
  (23, zo_0lt 31 26),
  (26, zo_iload 1 27),
  (27, zo_push (.inl 3) 28),
  (28, zo_cle 39 31),
  (31, zo_aload 0 32),
  (32, zo_getR 6 10 none 35),
  (35, zo_push (.inl 1) 36),
  (36, zo_vir 10 2 (zo_callv (f_X10_complain) 2 39))]
noncomputable def p_X6_takeKind_1 : List (Nat × zO) := [(39, zo_aload 0 40),
  (40, zo_getR 6 10 none 43),
  (43, zo_vir 10 1 (zo_callv (f_X10_step) 1 46)),
  (46, zo_iload 1 47),
  (47, zo_iret)]
noncomputable def p_X6_takeKind : Nat → zO := zgs [(37, p_X6_takeKind_0), (48, p_X6_takeKind_1)]
theorem t_X6_takeKind : ∀ k, zTl (p_X6_takeKind k) := fun k => zgs_all (c := [(37, p_X6_takeKind_0), (48, p_X6_takeKind_1)]) (fun _ => zl_bad) ⟨⟨zl_aload, zl_getR, zl_getI, zl_push, zl_ii, zl_istore, zl_aload, zl_getR, zl_getI, zl_push, zl_cne, zl_iload, zl_0lt, zl_iload, zl_push, zl_cle, zl_aload, zl_getR, zl_push, (zl_vir zl_callv), trivial⟩, ⟨zl_aload, zl_getR, (zl_vir zl_callv), zl_iload, zl_iret, trivial⟩, trivial⟩ k
noncomputable def f_X6_takeKind : zS := zrun p_X6_takeKind 2
set_option maxRecDepth 20000 in
theorem s_X6_takeKind_0 {l : Launch} {D : va_G} {ad : Nat → Nat → Nat} {cy : Nat → ClassId} {L : List (Nat × Nat)} (hcl : zclo L = true) (hinj : zAd ad L) {X : zCtx} (hX : zXok X "SoapTreaty$Reader" prog_8_method_11_code 2) (hR : zRt X (some .int)) (hl : zXl X l D ad cy L (zroom 4)) : zAllR (zSo X) p_X6_takeKind_0 := ⟨zs_aload_n (i := 0) rfl hX (by decide +kernel : decode prog_8_method_11_code 0 = .ok (.aload_n 0, 1)) rfl (by decide),
  zs_getR hX zFL_6_33 (by decide +kernel : decode prog_8_method_11_code 1 = .ok (.getfield 33, 3)) rfl,
  zs_getI hX zFL_6_73 (by decide) (by decide) (by decide +kernel : decode prog_8_method_11_code 4 = .ok (.getfield 73, 3)) rfl,
  zs_pushI (zg_bipush (by decide) hX (by decide +kernel : decode prog_8_method_11_code 7 = .ok (.bipush 16, 2)) rfl),
  zs_ii (zg_isub hX (by decide +kernel : decode prog_8_method_11_code 9 = .ok (.isub, 1)) rfl),
  zs_istore_n (i := 1) rfl hX (by decide +kernel : decode prog_8_method_11_code 10 = .ok (.istore_n 1, 1)) rfl (by decide),
  zs_aload_n (i := 0) rfl hX (by decide +kernel : decode prog_8_method_11_code 11 = .ok (.aload_n 0, 1)) rfl (by decide),
  zs_getR hX zFL_6_33 (by decide +kernel : decode prog_8_method_11_code 12 = .ok (.getfield 33, 3)) rfl,
  zs_getI hX zFL_6_69 (by decide) (by decide) (by decide +kernel : decode prog_8_method_11_code 15 = .ok (.getfield 69, 3)) rfl,
  zs_pushI (zg_iconst (by decide) hX (by decide +kernel : decode prog_8_method_11_code 18 = .ok (.iconst 2, 1)) rfl),
  zs_cne hX (by decide +kernel : decode prog_8_method_11_code 19 = .ok (.if_icmp .ne 12, 3)) (by decide) rfl,
  zs_iload_n (i := 1) rfl hX (by decide +kernel : decode prog_8_method_11_code 22 = .ok (.iload_n 1, 1)) rfl (by decide),
  zs_0lt hX (by decide +kernel : decode prog_8_method_11_code 23 = .ok (.ifCond .lt 8, 3)) (by decide) rfl,
  zs_iload_n (i := 1) rfl hX (by decide +kernel : decode prog_8_method_11_code 26 = .ok (.iload_n 1, 1)) rfl (by decide),
  zs_pushI (zg_iconst (by decide) hX (by decide +kernel : decode prog_8_method_11_code 27 = .ok (.iconst 3, 1)) rfl),
  zs_cle hX (by decide +kernel : decode prog_8_method_11_code 28 = .ok (.if_icmp .le 11, 3)) (by decide) rfl,
  zs_aload_n (i := 0) rfl hX (by decide +kernel : decode prog_8_method_11_code 31 = .ok (.aload_n 0, 1)) rfl (by decide),
  zs_getR hX zFL_6_33 (by decide +kernel : decode prog_8_method_11_code 32 = .ok (.getfield 33, 3)) rfl,
  zs_pushI (zg_iconst (by decide) hX (by decide +kernel : decode prog_8_method_11_code 35 = .ok (.iconst 1, 1)) rfl),
  zs_callVv hX zMV_6_91 (zXc_of hl (by decide) (k_X10_complain hcl hinj)) (by decide +kernel : decode prog_8_method_11_code 36 = .ok (.invokevirtual 91, 3)) rfl, trivial⟩
set_option maxRecDepth 20000 in
theorem s_X6_takeKind_1 {l : Launch} {D : va_G} {ad : Nat → Nat → Nat} {cy : Nat → ClassId} {L : List (Nat × Nat)} (hcl : zclo L = true) (hinj : zAd ad L) {X : zCtx} (hX : zXok X "SoapTreaty$Reader" prog_8_method_11_code 2) (hR : zRt X (some .int)) (hl : zXl X l D ad cy L (zroom 4)) : zAllR (zSo X) p_X6_takeKind_1 := ⟨zs_aload_n (i := 0) rfl hX (by decide +kernel : decode prog_8_method_11_code 39 = .ok (.aload_n 0, 1)) rfl (by decide),
  zs_getR hX zFL_6_33 (by decide +kernel : decode prog_8_method_11_code 40 = .ok (.getfield 33, 3)) rfl,
  zs_callVv hX zMV_6_104 (zXc_of hl (by decide) (k_X10_step hcl hinj)) (by decide +kernel : decode prog_8_method_11_code 43 = .ok (.invokevirtual 104, 3)) rfl,
  zs_iload_n (i := 1) rfl hX (by decide +kernel : decode prog_8_method_11_code 46 = .ok (.iload_n 1, 1)) rfl (by decide),
  zs_iret hX hR (by decide +kernel : decode prog_8_method_11_code 47 = .ok (.ireturn, 1)), trivial⟩
theorem k_X6_takeKind {l : Launch} {D : va_G} {ad : Nat → Nat → Nat} {cy : Nat → ClassId} {L : List (Nat × Nat)} (hcl : zclo L = true) (hinj : zAd ad L) : zCk l D ad cy L 4 f_X6_takeKind y_X6_takeKind (.code y_X6_takeKind prog_8_method_11_code 2 (some .int)) :=
  z_met (by decide) t_X6_takeKind hcl hinj (fun X hX hR hl k => zgs_all (Q := zSo X) (c := [(37, p_X6_takeKind_0), (48, p_X6_takeKind_1)]) (fun _ => zs_bad) ⟨s_X6_takeKind_0 hcl hinj hX hR hl, s_X6_takeKind_1 hcl hinj hX hR hl, trivial⟩ k)
set_option maxRecDepth 1000000 in
theorem e_X6_takeKind_0 (h : zH) : zL p_X6_takeKind 0 [some (.inr (.inr (6, 0))), none] [] h = zf ((h.1 10 0 3) = 2) (zf (((h.1 10 0 5) - (16 : Int32)) < 0) (zL p_X6_takeKind 31 [some (.inr (.inr (6, 0))), some (.inl ((h.1 10 0 5) - (16 : Int32)))] [] h) (zf (3 < ((h.1 10 0 5) - (16 : Int32))) (zL p_X6_takeKind 31 [some (.inr (.inr (6, 0))), some (.inl ((h.1 10 0 5) - (16 : Int32)))] [] h) (zcv (f_X10_step [(.inr (.inr (10, 0)))] h) (fun h1 => some (some (.inl ((h.1 10 0 5) - (16 : Int32))), h1))))) (zL p_X6_takeKind 31 [some (.inr (.inr (6, 0))), some (.inl ((h.1 10 0 5) - (16 : Int32)))] [] h) := (zL_s (t_X6_takeKind) [0, 31] 1000 0 _ _ _).trans rfl
theorem g_X6_takeKind (h : zH) : f_X6_takeKind [(.inr (.inr (6, 0)))] h = zf ((h.1 10 0 3) = 2) (zf (((h.1 10 0 5) - (16 : Int32)) < 0) (zL p_X6_takeKind 31 [some (.inr (.inr (6, 0))), some (.inl ((h.1 10 0 5) - (16 : Int32)))] [] h) (zf (3 < ((h.1 10 0 5) - (16 : Int32))) (zL p_X6_takeKind 31 [some (.inr (.inr (6, 0))), some (.inl ((h.1 10 0 5) - (16 : Int32)))] [] h) (zcv (f_X10_step [(.inr (.inr (10, 0)))] h) (fun h1 => some (some (.inl ((h.1 10 0 5) - (16 : Int32))), h1))))) (zL p_X6_takeKind 31 [some (.inr (.inr (6, 0))), some (.inl ((h.1 10 0 5) - (16 : Int32)))] [] h) := (show f_X6_takeKind _ h = zL p_X6_takeKind 0 _ [] h from rfl).trans (e_X6_takeKind_0 h)
set_option maxRecDepth 1000000 in
theorem e_X6_takeKind_31 (x1 : Int32) (h : zH) : zL p_X6_takeKind 31 [some (.inr (.inr (6, 0))), some (.inl x1)] [] h = zcv (f_X10_complain [(.inr (.inr (10, 0))), (.inl 1)] h) (fun h1 => zcv (f_X10_step [(.inr (.inr (10, 0)))] h1) (fun h2 => some (some (.inl x1), h2))) := (zL_s (t_X6_takeKind) [0, 31] 1000 31 _ _ _).trans rfl
theorem zMV_6_118 : zMV "SoapTreaty$Reader" 118 6 y_X6_takeKind prog_8_method_11_code 2 (some .int) 0 := ⟨⟨zT_of 626 (by decide +kernel) (by decide +kernel), zT_of 628 (by decide +kernel) (by decide +kernel), zT_of 4 (by decide +kernel) (by decide +kernel), zT_of 106 (by decide +kernel) (by decide +kernel), zT_of 629 (by decide +kernel) (by decide +kernel)⟩, by decide, rfl, ⟨zT6, 7, rfl⟩, by decide, by decide, by decide +kernel⟩
/-! SoapTreaty$Reader.readPower()V -/
def y_X6_readPower : MethodName := ⟨"SoapTreaty$Reader", "readPower", "()V"⟩
noncomputable def p_X6_readPower_0 : List (Nat × zO) := [(0, zo_aload 0 1),
  (1, zo_getR 6 0 (some 1) 4),
  (4, zo_getI 0 0 7),
  (7, zo_istore 1 8),
  (8, zo_iload 1 9),
  (9, zo_push (.inl 5) 10),
  (10, zo_clt 22 13),
  (13, zo_aload 0 14),
  (14, zo_getR 6 10 none 17),
  (17, zo_push (.inl 5) 18),
  (18, zo_vir 10 2 (zo_callv (f_X10_complain) 2 21)),
  (21, zo_ret),
  (22, zo_aload 0 23),
  (23, zo_getR 6 10 none 26),
  (26, zo_vir 10 1 (zo_callv (f_X10_step) 1 29)),
  (29, zo_aload 0 30),
  (30, zo_getR 6 0 (some 1) 33),
  (33, zo_getR 0 13 none 36),
  (36, zo_iload 1 37),
  (37, zo_aload 0 38)]
noncomputable def p_X6_readPower_1 : List (Nat × zO) := [(38, zo_vir 6 1 (zo_callj (f_X6_takeNewName) 1 41)),
  (41, zo_last 42),
  (42, zo_aload 0 43),
  (43, zo_getR 6 0 (some 1) 46),
  (46, zo_getR 0 14 none 49),
  (49, zo_iload 1 50),
  (50, zo_aload 0 51),
  (51, zo_vir 6 1 (zo_calli (f_X6_takeKind) 1 54)),
  (54, zo_iast 55),
  (55, zo_aload 0 56),
  (56, zo_getR 6 10 none 59),
  (59, zo_push (.inl 1) 60),
  (60, zo_vir 10 2 (zo_callv (f_X10_takeWord) 2 63)),
  (63, zo_aload 0 64),
  (64, zo_getR 6 0 (some 1) 67),
  (67, zo_getR 0 15 none 70),
  (70, zo_iload 1 71),
  (71, zo_aload 0 72),
  (72, zo_getR 6 10 none 75),
  (75, zo_push (.inl 0) 76)]
noncomputable def p_X6_readPower_2 : List (Nat × zO) := [(76, zo_push (.inl 9) 78),
  (78, zo_vir 10 3 (zo_calli (f_X10_takeNumber) 3 81)),
  (81, zo_iast 82),
  (82, zo_aload 0 83),
  (83, zo_getR 6 0 (some 1) 86),
  (86, zo_dup 87),
  (87, zo_getI 0 0 90),
  (90, zo_push (.inl 1) 91),
  (91, zo_ii (fun x y => x + y) 92),
  (92, zo_putI 0 0 95),
  (95, zo_ret)]
noncomputable def p_X6_readPower : Nat → zO := zgs [(38, p_X6_readPower_0), (76, p_X6_readPower_1), (96, p_X6_readPower_2)]
theorem t_X6_readPower : ∀ k, zTl (p_X6_readPower k) := fun k => zgs_all (c := [(38, p_X6_readPower_0), (76, p_X6_readPower_1), (96, p_X6_readPower_2)]) (fun _ => zl_bad) ⟨⟨zl_aload, zl_getR, zl_getI, zl_istore, zl_iload, zl_push, zl_clt, zl_aload, zl_getR, zl_push, (zl_vir zl_callv), zl_ret, zl_aload, zl_getR, (zl_vir zl_callv), zl_aload, zl_getR, zl_getR, zl_iload, zl_aload, trivial⟩, ⟨(zl_vir zl_callj), zl_last, zl_aload, zl_getR, zl_getR, zl_iload, zl_aload, (zl_vir zl_calli), zl_iast, zl_aload, zl_getR, zl_push, (zl_vir zl_callv), zl_aload, zl_getR, zl_getR, zl_iload, zl_aload, zl_getR, zl_push, trivial⟩, ⟨zl_push, (zl_vir zl_calli), zl_iast, zl_aload, zl_getR, zl_dup, zl_getI, zl_push, zl_ii, zl_putI, zl_ret, trivial⟩, trivial⟩ k
noncomputable def f_X6_readPower : zS := zrun p_X6_readPower 2
set_option maxRecDepth 20000 in
theorem s_X6_readPower_0 {l : Launch} {D : va_G} {ad : Nat → Nat → Nat} {cy : Nat → ClassId} {L : List (Nat × Nat)} (hcl : zclo L = true) (hinj : zAd ad L) {X : zCtx} (hX : zXok X "SoapTreaty$Reader" prog_8_method_3_code 2) (hR : zRt X none) (hl : zXl X l D ad cy L (zroom 5)) : zAllR (zSo X) p_X6_readPower_0 := ⟨zs_aload_n (i := 0) rfl hX (by decide +kernel : decode prog_8_method_3_code 0 = .ok (.aload_n 0, 1)) rfl (by decide),
  zs_getR hX zFL_6_18 (by decide +kernel : decode prog_8_method_3_code 1 = .ok (.getfield 18, 3)) rfl,
  zs_getI hX zFL_6_101 (by decide) (by decide) (by decide +kernel : decode prog_8_method_3_code 4 = .ok (.getfield 101, 3)) rfl,
  zs_istore_n (i := 1) rfl hX (by decide +kernel : decode prog_8_method_3_code 7 = .ok (.istore_n 1, 1)) rfl (by decide),
  zs_iload_n (i := 1) rfl hX (by decide +kernel : decode prog_8_method_3_code 8 = .ok (.iload_n 1, 1)) rfl (by decide),
  zs_pushI (zg_iconst (by decide) hX (by decide +kernel : decode prog_8_method_3_code 9 = .ok (.iconst 5, 1)) rfl),
  zs_clt hX (by decide +kernel : decode prog_8_method_3_code 10 = .ok (.if_icmp .lt 12, 3)) (by decide) rfl,
  zs_aload_n (i := 0) rfl hX (by decide +kernel : decode prog_8_method_3_code 13 = .ok (.aload_n 0, 1)) rfl (by decide),
  zs_getR hX zFL_6_33 (by decide +kernel : decode prog_8_method_3_code 14 = .ok (.getfield 33, 3)) rfl,
  zs_pushI (zg_iconst (by decide) hX (by decide +kernel : decode prog_8_method_3_code 17 = .ok (.iconst 5, 1)) rfl),
  zs_callVv hX zMV_6_91 (zXc_of hl (by decide) (k_X10_complain hcl hinj)) (by decide +kernel : decode prog_8_method_3_code 18 = .ok (.invokevirtual 91, 3)) rfl,
  zs_ret hX hR (by decide +kernel : decode prog_8_method_3_code 21 = .ok (.return_, 1)),
  zs_aload_n (i := 0) rfl hX (by decide +kernel : decode prog_8_method_3_code 22 = .ok (.aload_n 0, 1)) rfl (by decide),
  zs_getR hX zFL_6_33 (by decide +kernel : decode prog_8_method_3_code 23 = .ok (.getfield 33, 3)) rfl,
  zs_callVv hX zMV_6_104 (zXc_of hl (by decide) (k_X10_step hcl hinj)) (by decide +kernel : decode prog_8_method_3_code 26 = .ok (.invokevirtual 104, 3)) rfl,
  zs_aload_n (i := 0) rfl hX (by decide +kernel : decode prog_8_method_3_code 29 = .ok (.aload_n 0, 1)) rfl (by decide),
  zs_getR hX zFL_6_18 (by decide +kernel : decode prog_8_method_3_code 30 = .ok (.getfield 18, 3)) rfl,
  zs_getR hX zFL_6_107 (by decide +kernel : decode prog_8_method_3_code 33 = .ok (.getfield 107, 3)) rfl,
  zs_iload_n (i := 1) rfl hX (by decide +kernel : decode prog_8_method_3_code 36 = .ok (.iload_n 1, 1)) rfl (by decide),
  zs_aload_n (i := 0) rfl hX (by decide +kernel : decode prog_8_method_3_code 37 = .ok (.aload_n 0, 1)) rfl (by decide), trivial⟩
set_option maxRecDepth 20000 in
theorem s_X6_readPower_1 {l : Launch} {D : va_G} {ad : Nat → Nat → Nat} {cy : Nat → ClassId} {L : List (Nat × Nat)} (hcl : zclo L = true) (hinj : zAd ad L) {X : zCtx} (hX : zXok X "SoapTreaty$Reader" prog_8_method_3_code 2) (hR : zRt X none) (hl : zXl X l D ad cy L (zroom 5)) : zAllR (zSo X) p_X6_readPower_1 := ⟨zs_callVj hX zMV_6_111 (zXc_of hl (by decide) (k_X6_takeNewName hcl hinj)) (by decide +kernel : decode prog_8_method_3_code 38 = .ok (.invokevirtual 111, 3)) rfl,
  zs_last hX (by decide +kernel : decode prog_8_method_3_code 41 = .ok (.lastore, 1)) rfl,
  zs_aload_n (i := 0) rfl hX (by decide +kernel : decode prog_8_method_3_code 42 = .ok (.aload_n 0, 1)) rfl (by decide),
  zs_getR hX zFL_6_18 (by decide +kernel : decode prog_8_method_3_code 43 = .ok (.getfield 18, 3)) rfl,
  zs_getR hX zFL_6_115 (by decide +kernel : decode prog_8_method_3_code 46 = .ok (.getfield 115, 3)) rfl,
  zs_iload_n (i := 1) rfl hX (by decide +kernel : decode prog_8_method_3_code 49 = .ok (.iload_n 1, 1)) rfl (by decide),
  zs_aload_n (i := 0) rfl hX (by decide +kernel : decode prog_8_method_3_code 50 = .ok (.aload_n 0, 1)) rfl (by decide),
  zs_callVi hX zMV_6_118 (zXc_of hl (by decide) (k_X6_takeKind hcl hinj)) (by decide +kernel : decode prog_8_method_3_code 51 = .ok (.invokevirtual 118, 3)) rfl,
  zs_iast hX (by decide +kernel : decode prog_8_method_3_code 54 = .ok (.iastore, 1)) rfl,
  zs_aload_n (i := 0) rfl hX (by decide +kernel : decode prog_8_method_3_code 55 = .ok (.aload_n 0, 1)) rfl (by decide),
  zs_getR hX zFL_6_33 (by decide +kernel : decode prog_8_method_3_code 56 = .ok (.getfield 33, 3)) rfl,
  zs_pushI (zg_iconst (by decide) hX (by decide +kernel : decode prog_8_method_3_code 59 = .ok (.iconst 1, 1)) rfl),
  zs_callVv hX zMV_6_122 (zXc_of hl (by decide) (k_X10_takeWord hcl hinj)) (by decide +kernel : decode prog_8_method_3_code 60 = .ok (.invokevirtual 122, 3)) rfl,
  zs_aload_n (i := 0) rfl hX (by decide +kernel : decode prog_8_method_3_code 63 = .ok (.aload_n 0, 1)) rfl (by decide),
  zs_getR hX zFL_6_18 (by decide +kernel : decode prog_8_method_3_code 64 = .ok (.getfield 18, 3)) rfl,
  zs_getR hX zFL_6_125 (by decide +kernel : decode prog_8_method_3_code 67 = .ok (.getfield 125, 3)) rfl,
  zs_iload_n (i := 1) rfl hX (by decide +kernel : decode prog_8_method_3_code 70 = .ok (.iload_n 1, 1)) rfl (by decide),
  zs_aload_n (i := 0) rfl hX (by decide +kernel : decode prog_8_method_3_code 71 = .ok (.aload_n 0, 1)) rfl (by decide),
  zs_getR hX zFL_6_33 (by decide +kernel : decode prog_8_method_3_code 72 = .ok (.getfield 33, 3)) rfl,
  zs_pushI (zg_iconst (by decide) hX (by decide +kernel : decode prog_8_method_3_code 75 = .ok (.iconst 0, 1)) rfl), trivial⟩
set_option maxRecDepth 20000 in
theorem s_X6_readPower_2 {l : Launch} {D : va_G} {ad : Nat → Nat → Nat} {cy : Nat → ClassId} {L : List (Nat × Nat)} (hcl : zclo L = true) (hinj : zAd ad L) {X : zCtx} (hX : zXok X "SoapTreaty$Reader" prog_8_method_3_code 2) (hR : zRt X none) (hl : zXl X l D ad cy L (zroom 5)) : zAllR (zSo X) p_X6_readPower_2 := ⟨zs_pushI (zg_bipush (by decide) hX (by decide +kernel : decode prog_8_method_3_code 76 = .ok (.bipush 9, 2)) rfl),
  zs_callVi hX zMV_6_128 (zXc_of hl (by decide) (k_X10_takeNumber hcl hinj)) (by decide +kernel : decode prog_8_method_3_code 78 = .ok (.invokevirtual 128, 3)) rfl,
  zs_iast hX (by decide +kernel : decode prog_8_method_3_code 81 = .ok (.iastore, 1)) rfl,
  zs_aload_n (i := 0) rfl hX (by decide +kernel : decode prog_8_method_3_code 82 = .ok (.aload_n 0, 1)) rfl (by decide),
  zs_getR hX zFL_6_18 (by decide +kernel : decode prog_8_method_3_code 83 = .ok (.getfield 18, 3)) rfl,
  zs_dup hX (by decide +kernel : decode prog_8_method_3_code 86 = .ok (.dup, 1)) rfl,
  zs_getI hX zFL_6_101 (by decide) (by decide) (by decide +kernel : decode prog_8_method_3_code 87 = .ok (.getfield 101, 3)) rfl,
  zs_pushI (zg_iconst (by decide) hX (by decide +kernel : decode prog_8_method_3_code 90 = .ok (.iconst 1, 1)) rfl),
  zs_ii (zg_iadd hX (by decide +kernel : decode prog_8_method_3_code 91 = .ok (.iadd, 1)) rfl),
  zs_putI hX zFP_6_101 (by decide +kernel : decode prog_8_method_3_code 92 = .ok (.putfield 101, 3)) rfl,
  zs_ret hX hR (by decide +kernel : decode prog_8_method_3_code 95 = .ok (.return_, 1)), trivial⟩
theorem k_X6_readPower {l : Launch} {D : va_G} {ad : Nat → Nat → Nat} {cy : Nat → ClassId} {L : List (Nat × Nat)} (hcl : zclo L = true) (hinj : zAd ad L) : zCk l D ad cy L 5 f_X6_readPower y_X6_readPower (.code y_X6_readPower prog_8_method_3_code 2 none) :=
  z_met (by decide) t_X6_readPower hcl hinj (fun X hX hR hl k => zgs_all (Q := zSo X) (c := [(38, p_X6_readPower_0), (76, p_X6_readPower_1), (96, p_X6_readPower_2)]) (fun _ => zs_bad) ⟨s_X6_readPower_0 hcl hinj hX hR hl, s_X6_readPower_1 hcl hinj hX hR hl, s_X6_readPower_2 hcl hinj hX hR hl, trivial⟩ k)
set_option maxRecDepth 1000000 in
theorem e_X6_readPower_0 (h : zH) : zL p_X6_readPower 0 [some (.inr (.inr (6, 0))), none] [] h = zf ((h.1 0 1 0) < 5) (zcv (f_X10_step [(.inr (.inr (10, 0)))] h) (fun h1 => zcj (f_X6_takeNewName [(.inr (.inr (6, 0)))] h1) (fun r3 h2 => zf (vp_in (h.1 0 1 0) 5) (zci (f_X6_takeKind [(.inr (.inr (6, 0)))] (zuJ h2 13 1 (h.1 0 1 0).toNatClampNeg r3)) (fun r5 h4 => zf (vp_in (h.1 0 1 0) 5) (zcv (f_X10_takeWord [(.inr (.inr (10, 0))), (.inl 1)] (zuI h4 14 1 (h.1 0 1 0).toNatClampNeg r5)) (fun h6 => zci (f_X10_takeNumber [(.inr (.inr (10, 0))), (.inl 0), (.inl 9)] h6) (fun r8 h7 => zf (vp_in (h.1 0 1 0) 5) (some (none, (zuI (zuI h7 15 1 (h.1 0 1 0).toNatClampNeg r8) 0 1 0 ((h7.1 0 1 0) + (1 : Int32))))) none))) none)) none))) (zcv (f_X10_complain [(.inr (.inr (10, 0))), (.inl 5)] h) (fun h9 => some (none, h9))) := (zL_s (t_X6_readPower) [0] 1000 0 _ _ _).trans rfl
theorem g_X6_readPower (h : zH) : f_X6_readPower [(.inr (.inr (6, 0)))] h = zf ((h.1 0 1 0) < 5) (zcv (f_X10_step [(.inr (.inr (10, 0)))] h) (fun h1 => zcj (f_X6_takeNewName [(.inr (.inr (6, 0)))] h1) (fun r3 h2 => zf (vp_in (h.1 0 1 0) 5) (zci (f_X6_takeKind [(.inr (.inr (6, 0)))] (zuJ h2 13 1 (h.1 0 1 0).toNatClampNeg r3)) (fun r5 h4 => zf (vp_in (h.1 0 1 0) 5) (zcv (f_X10_takeWord [(.inr (.inr (10, 0))), (.inl 1)] (zuI h4 14 1 (h.1 0 1 0).toNatClampNeg r5)) (fun h6 => zci (f_X10_takeNumber [(.inr (.inr (10, 0))), (.inl 0), (.inl 9)] h6) (fun r8 h7 => zf (vp_in (h.1 0 1 0) 5) (some (none, (zuI (zuI h7 15 1 (h.1 0 1 0).toNatClampNeg r8) 0 1 0 ((h7.1 0 1 0) + (1 : Int32))))) none))) none)) none))) (zcv (f_X10_complain [(.inr (.inr (10, 0))), (.inl 5)] h) (fun h9 => some (none, h9))) := (show f_X6_readPower _ h = zL p_X6_readPower 0 _ [] h from rfl).trans (e_X6_readPower_0 h)
theorem zMV_6_50 : zMV "SoapTreaty$Reader" 50 0 y_X0_clear prog_2_method_2_code 1 none 0 := ⟨⟨zT_of 561 (by decide +kernel) (by decide +kernel), zT_of 562 (by decide +kernel) (by decide +kernel), zT_of 563 (by decide +kernel) (by decide +kernel), zT_of 104 (by decide +kernel) (by decide +kernel), zT_of 564 (by decide +kernel) (by decide +kernel)⟩, by decide, rfl, ⟨zT0, 13, rfl⟩, by decide, by decide, by decide +kernel⟩
theorem zMV_6_60 : zMV "SoapTreaty$Reader" 60 10 y_X10_begin prog_12_method_3_code 1 none 0 := ⟨⟨zT_of 565 (by decide +kernel) (by decide +kernel), zT_of 566 (by decide +kernel) (by decide +kernel), zT_of 567 (by decide +kernel) (by decide +kernel), zT_of 108 (by decide +kernel) (by decide +kernel), zT_of 568 (by decide +kernel) (by decide +kernel)⟩, by decide, rfl, ⟨zT10, 8, rfl⟩, by decide, by decide, by decide +kernel⟩
theorem zMV_6_65 : zMV "SoapTreaty$Reader" 65 10 y_X10_isMore prog_12_method_12_code 1 (some .boolean) 0 := ⟨⟨zT_of 597 (by decide +kernel) (by decide +kernel), zT_of 598 (by decide +kernel) (by decide +kernel), zT_of 599 (by decide +kernel) (by decide +kernel), zT_of 108 (by decide +kernel) (by decide +kernel), zT_of 600 (by decide +kernel) (by decide +kernel)⟩, by decide, rfl, ⟨zT10, 8, rfl⟩, by decide, by decide, by decide +kernel⟩
theorem zMV_6_95 : zMV "SoapTreaty$Reader" 95 10 y_X10_takeSign prog_12_method_17_code 2 none 1 := ⟨⟨zT_of 714 (by decide +kernel) (by decide +kernel), zT_of 710 (by decide +kernel) (by decide +kernel), zT_of 711 (by decide +kernel) (by decide +kernel), zT_of 108 (by decide +kernel) (by decide +kernel), zT_of 712 (by decide +kernel) (by decide +kernel)⟩, by decide, rfl, ⟨zT10, 8, rfl⟩, by decide, by decide, by decide +kernel⟩
theorem zMV_6_88 : zMV "SoapTreaty$Reader" 88 6 y_X6_readWears prog_8_method_7_code 1 none 0 := ⟨⟨zT_of 667 (by decide +kernel) (by decide +kernel), zT_of 669 (by decide +kernel) (by decide +kernel), zT_of 10 (by decide +kernel) (by decide +kernel), zT_of 106 (by decide +kernel) (by decide +kernel), zT_of 670 (by decide +kernel) (by decide +kernel)⟩, by decide, rfl, ⟨zT6, 7, rfl⟩, by decide, by decide, by decide +kernel⟩
theorem zMV_6_85 : zMV "SoapTreaty$Reader" 85 6 y_X6_readSliver prog_8_method_6_code 1 none 0 := ⟨⟨zT_of 663 (by decide +kernel) (by decide +kernel), zT_of 665 (by decide +kernel) (by decide +kernel), zT_of 9 (by decide +kernel) (by decide +kernel), zT_of 106 (by decide +kernel) (by decide +kernel), zT_of 666 (by decide +kernel) (by decide +kernel)⟩, by decide, rfl, ⟨zT6, 7, rfl⟩, by decide, by decide, by decide +kernel⟩
theorem zMV_6_82 : zMV "SoapTreaty$Reader" 82 6 y_X6_readPebble prog_8_method_5_code 2 none 0 := ⟨⟨zT_of 651 (by decide +kernel) (by decide +kernel), zT_of 653 (by decide +kernel) (by decide +kernel), zT_of 7 (by decide +kernel) (by decide +kernel), zT_of 106 (by decide +kernel) (by decide +kernel), zT_of 654 (by decide +kernel) (by decide +kernel)⟩, by decide, rfl, ⟨zT6, 7, rfl⟩, by decide, by decide, by decide +kernel⟩
theorem zMV_6_79 : zMV "SoapTreaty$Reader" 79 6 y_X6_readCake prog_8_method_4_code 2 none 0 := ⟨⟨zT_of 643 (by decide +kernel) (by decide +kernel), zT_of 645 (by decide +kernel) (by decide +kernel), zT_of 5 (by decide +kernel) (by decide +kernel), zT_of 106 (by decide +kernel) (by decide +kernel), zT_of 646 (by decide +kernel) (by decide +kernel)⟩, by decide, rfl, ⟨zT6, 7, rfl⟩, by decide, by decide, by decide +kernel⟩
theorem zMV_6_76 : zMV "SoapTreaty$Reader" 76 6 y_X6_readPower prog_8_method_3_code 2 none 0 := ⟨⟨zT_of 601 (by decide +kernel) (by decide +kernel), zT_of 603 (by decide +kernel) (by decide +kernel), zT_of 2 (by decide +kernel) (by decide +kernel), zT_of 106 (by decide +kernel) (by decide +kernel), zT_of 604 (by decide +kernel) (by decide +kernel)⟩, by decide, rfl, ⟨zT6, 7, rfl⟩, by decide, by decide, by decide +kernel⟩
/-! SoapTreaty$Reader.readCongress()I -/
def y_X6_readCongress : MethodName := ⟨"SoapTreaty$Reader", "readCongress", "()I"⟩
noncomputable def p_X6_readCongress_0 : List (Nat × zO) := [(0, zo_aload 0 1),
  (1, zo_getR 6 0 (some 1) 4),
  (4, zo_vir 0 1 (zo_callv (f_X0_clear) 1 7)),
  (7, zo_aload 0 8),
  (8, zo_push (.inl 0) 9),
  (9, zo_putZ 6 5 12),
  (12, zo_aload 0 13),
  (13, zo_push (.inl 0) 14),
  (14, zo_putZ 6 6 17),
  (17, zo_aload 0 18),
  (18, zo_getR 6 10 none 21),
  (21, zo_vir 10 1 (zo_callv (f_X10_begin) 1 24)),
  (24, zo_push (.inl 0) 25),
  (25, zo_istore 1 26),
  (26, zo_iload 1 27),
  (27, zo_push (.inl 1000) 30),
  (30, zo_cge 178 33),
  (33, zo_aload 0 34),
  (34, zo_getR 6 10 none 37),
  (37, zo_vir 10 1 (zo_calli (f_X10_isMore) 1 40))]
noncomputable def p_X6_readCongress_1 : List (Nat × zO) := [(40, zo_0eq 178 43),
  (43, zo_aload 0 44),
  (44, zo_getR 6 10 none 47),
  (47, zo_getI 10 3 50),
  (50, zo_push (.inl 2) 51),
  (51, zo_cne 64 54),
  (54, zo_aload 0 55),
  (55, zo_getR 6 10 none 58),
  (58, zo_getI 10 5 61),
  (61, zo_goto 65),
  (64, zo_push (.inl zm1) 65),
  (65, zo_tsw [(0, 120), (1, 155), (2, 127), (3, 155), (4, 155), (5, 155), (6, 155), (7, 134), (8, 141), (9, 148)] 155),
  (120, zo_aload 0 121),
  (121, zo_vir 6 1 (zo_callv (f_X6_readPower) 1 124)),
  (124, zo_goto 163),
  (127, zo_aload 0 128),
  (128, zo_vir 6 1 (zo_callv (f_X6_readCake) 1 131)),
  (131, zo_goto 163),
  (134, zo_aload 0 135),
  (135, zo_vir 6 1 (zo_callv (f_X6_readPebble) 1 138))]
noncomputable def p_X6_readCongress_2 : List (Nat × zO) := [(138, zo_goto 163),
  (141, zo_aload 0 142),
  (142, zo_vir 6 1 (zo_callv (f_X6_readSliver) 1 145)),
  (145, zo_goto 163),
  (148, zo_aload 0 149),
  (149, zo_vir 6 1 (zo_callv (f_X6_readWears) 1 152)),
  (152, zo_goto 163),
  (155, zo_aload 0 156),
  (156, zo_getR 6 10 none 159),
  (159, zo_push (.inl 1) 160),
  (160, zo_vir 10 2 (zo_callv (f_X10_complain) 2 163)),
  (163, zo_aload 0 164),
  (164, zo_getR 6 10 none 167),
  (167, zo_push (.inl 59) 169),
  (169, zo_vir 10 2 (zo_callv (f_X10_takeSign) 2 172)),
  (172, zo_iinc 1 1 175),
  (175, zo_goto 26),
  (178, zo_aload 0 179),
  (179, zo_getR 6 10 none 182),
  (182, zo_getI 10 7 185)]
noncomputable def p_X6_readCongress_3 : List (Nat × zO) := [(185, zo_iret)]
noncomputable def p_X6_readCongress : Nat → zO := zgs [(38, p_X6_readCongress_0), (136, p_X6_readCongress_1), (183, p_X6_readCongress_2), (186, p_X6_readCongress_3)]
theorem t_X6_readCongress : ∀ k, zTl (p_X6_readCongress k) := fun k => zgs_all (c := [(38, p_X6_readCongress_0), (136, p_X6_readCongress_1), (183, p_X6_readCongress_2), (186, p_X6_readCongress_3)]) (fun _ => zl_bad) ⟨⟨zl_aload, zl_getR, (zl_vir zl_callv), zl_aload, zl_push, zl_putZ, zl_aload, zl_push, zl_putZ, zl_aload, zl_getR, (zl_vir zl_callv), zl_push, zl_istore, zl_iload, zl_push, zl_cge, zl_aload, zl_getR, (zl_vir zl_calli), trivial⟩, ⟨zl_0eq, zl_aload, zl_getR, zl_getI, zl_push, zl_cne, zl_aload, zl_getR, zl_getI, zl_goto, zl_push, zl_tsw, zl_aload, (zl_vir zl_callv), zl_goto, zl_aload, (zl_vir zl_callv), zl_goto, zl_aload, (zl_vir zl_callv), trivial⟩, ⟨zl_goto, zl_aload, (zl_vir zl_callv), zl_goto, zl_aload, (zl_vir zl_callv), zl_goto, zl_aload, zl_getR, zl_push, (zl_vir zl_callv), zl_aload, zl_getR, zl_push, (zl_vir zl_callv), zl_iinc, zl_goto, zl_aload, zl_getR, zl_getI, trivial⟩, ⟨zl_iret, trivial⟩, trivial⟩ k
noncomputable def f_X6_readCongress : zS := zrun p_X6_readCongress 2
set_option maxRecDepth 20000 in
theorem s_X6_readCongress_0 {l : Launch} {D : va_G} {ad : Nat → Nat → Nat} {cy : Nat → ClassId} {L : List (Nat × Nat)} (hcl : zclo L = true) (hinj : zAd ad L) {X : zCtx} (hX : zXok X "SoapTreaty$Reader" prog_8_method_2_code 2) (hR : zRt X (some .int)) (hl : zXl X l D ad cy L (zroom 62)) : zAllR (zSo X) p_X6_readCongress_0 := ⟨zs_aload_n (i := 0) rfl hX (by decide +kernel : decode prog_8_method_2_code 0 = .ok (.aload_n 0, 1)) rfl (by decide),
  zs_getR hX zFL_6_18 (by decide +kernel : decode prog_8_method_2_code 1 = .ok (.getfield 18, 3)) rfl,
  zs_callVv hX zMV_6_50 (zXc_of hl (by decide) (k_X0_clear hcl hinj)) (by decide +kernel : decode prog_8_method_2_code 4 = .ok (.invokevirtual 50, 3)) rfl,
  zs_aload_n (i := 0) rfl hX (by decide +kernel : decode prog_8_method_2_code 7 = .ok (.aload_n 0, 1)) rfl (by decide),
  zs_pushI (zg_iconst (by decide) hX (by decide +kernel : decode prog_8_method_2_code 8 = .ok (.iconst 0, 1)) rfl),
  zs_putZ hX zFP_6_53 (by decide +kernel : decode prog_8_method_2_code 9 = .ok (.putfield 53, 3)) rfl,
  zs_aload_n (i := 0) rfl hX (by decide +kernel : decode prog_8_method_2_code 12 = .ok (.aload_n 0, 1)) rfl (by decide),
  zs_pushI (zg_iconst (by decide) hX (by decide +kernel : decode prog_8_method_2_code 13 = .ok (.iconst 0, 1)) rfl),
  zs_putZ hX zFP_6_57 (by decide +kernel : decode prog_8_method_2_code 14 = .ok (.putfield 57, 3)) rfl,
  zs_aload_n (i := 0) rfl hX (by decide +kernel : decode prog_8_method_2_code 17 = .ok (.aload_n 0, 1)) rfl (by decide),
  zs_getR hX zFL_6_33 (by decide +kernel : decode prog_8_method_2_code 18 = .ok (.getfield 33, 3)) rfl,
  zs_callVv hX zMV_6_60 (zXc_of hl (by decide) (k_X10_begin hcl hinj)) (by decide +kernel : decode prog_8_method_2_code 21 = .ok (.invokevirtual 60, 3)) rfl,
  zs_pushI (zg_iconst (by decide) hX (by decide +kernel : decode prog_8_method_2_code 24 = .ok (.iconst 0, 1)) rfl),
  zs_istore_n (i := 1) rfl hX (by decide +kernel : decode prog_8_method_2_code 25 = .ok (.istore_n 1, 1)) rfl (by decide),
  zs_iload_n (i := 1) rfl hX (by decide +kernel : decode prog_8_method_2_code 26 = .ok (.iload_n 1, 1)) rfl (by decide),
  zs_pushI (zg_sipush (by decide) hX (by decide +kernel : decode prog_8_method_2_code 27 = .ok (.sipush 1000, 3)) rfl),
  zs_cge hX (by decide +kernel : decode prog_8_method_2_code 30 = .ok (.if_icmp .ge 148, 3)) (by decide) rfl,
  zs_aload_n (i := 0) rfl hX (by decide +kernel : decode prog_8_method_2_code 33 = .ok (.aload_n 0, 1)) rfl (by decide),
  zs_getR hX zFL_6_33 (by decide +kernel : decode prog_8_method_2_code 34 = .ok (.getfield 33, 3)) rfl,
  zs_callVi hX zMV_6_65 (zXc_of hl (by decide) (k_X10_isMore hcl hinj)) (by decide +kernel : decode prog_8_method_2_code 37 = .ok (.invokevirtual 65, 3)) rfl, trivial⟩
set_option maxRecDepth 20000 in
theorem s_X6_readCongress_1 {l : Launch} {D : va_G} {ad : Nat → Nat → Nat} {cy : Nat → ClassId} {L : List (Nat × Nat)} (hcl : zclo L = true) (hinj : zAd ad L) {X : zCtx} (hX : zXok X "SoapTreaty$Reader" prog_8_method_2_code 2) (hR : zRt X (some .int)) (hl : zXl X l D ad cy L (zroom 62)) : zAllR (zSo X) p_X6_readCongress_1 := ⟨zs_0eq hX (by decide +kernel : decode prog_8_method_2_code 40 = .ok (.ifCond .eq 138, 3)) (by decide) rfl,
  zs_aload_n (i := 0) rfl hX (by decide +kernel : decode prog_8_method_2_code 43 = .ok (.aload_n 0, 1)) rfl (by decide),
  zs_getR hX zFL_6_33 (by decide +kernel : decode prog_8_method_2_code 44 = .ok (.getfield 33, 3)) rfl,
  zs_getI hX zFL_6_69 (by decide) (by decide) (by decide +kernel : decode prog_8_method_2_code 47 = .ok (.getfield 69, 3)) rfl,
  zs_pushI (zg_iconst (by decide) hX (by decide +kernel : decode prog_8_method_2_code 50 = .ok (.iconst 2, 1)) rfl),
  zs_cne hX (by decide +kernel : decode prog_8_method_2_code 51 = .ok (.if_icmp .ne 13, 3)) (by decide) rfl,
  zs_aload_n (i := 0) rfl hX (by decide +kernel : decode prog_8_method_2_code 54 = .ok (.aload_n 0, 1)) rfl (by decide),
  zs_getR hX zFL_6_33 (by decide +kernel : decode prog_8_method_2_code 55 = .ok (.getfield 33, 3)) rfl,
  zs_getI hX zFL_6_73 (by decide) (by decide) (by decide +kernel : decode prog_8_method_2_code 58 = .ok (.getfield 73, 3)) rfl,
  zs_goto hX (by decide +kernel : decode prog_8_method_2_code 61 = .ok (.goto 4, 3)) (by decide),
  zs_pushI (zg_iconst (by decide) hX (by decide +kernel : decode prog_8_method_2_code 64 = .ok (.iconst (-1), 1)) rfl),
  zs_tsw hX (by decide +kernel : decode prog_8_method_2_code 65 = .ok (.tableswitch 90 0 9 #[55, 90, 62, 90, 90, 90, 90, 69, 76, 83], 55)) (by decide) (by decide) (by decide) (by decide),
  zs_aload_n (i := 0) rfl hX (by decide +kernel : decode prog_8_method_2_code 120 = .ok (.aload_n 0, 1)) rfl (by decide),
  zs_callVv hX zMV_6_76 (zXc_of hl (by decide) (k_X6_readPower hcl hinj)) (by decide +kernel : decode prog_8_method_2_code 121 = .ok (.invokevirtual 76, 3)) rfl,
  zs_goto hX (by decide +kernel : decode prog_8_method_2_code 124 = .ok (.goto 39, 3)) (by decide),
  zs_aload_n (i := 0) rfl hX (by decide +kernel : decode prog_8_method_2_code 127 = .ok (.aload_n 0, 1)) rfl (by decide),
  zs_callVv hX zMV_6_79 (zXc_of hl (by decide) (k_X6_readCake hcl hinj)) (by decide +kernel : decode prog_8_method_2_code 128 = .ok (.invokevirtual 79, 3)) rfl,
  zs_goto hX (by decide +kernel : decode prog_8_method_2_code 131 = .ok (.goto 32, 3)) (by decide),
  zs_aload_n (i := 0) rfl hX (by decide +kernel : decode prog_8_method_2_code 134 = .ok (.aload_n 0, 1)) rfl (by decide),
  zs_callVv hX zMV_6_82 (zXc_of hl (by decide) (k_X6_readPebble hcl hinj)) (by decide +kernel : decode prog_8_method_2_code 135 = .ok (.invokevirtual 82, 3)) rfl, trivial⟩
set_option maxRecDepth 20000 in
theorem s_X6_readCongress_2 {l : Launch} {D : va_G} {ad : Nat → Nat → Nat} {cy : Nat → ClassId} {L : List (Nat × Nat)} (hcl : zclo L = true) (hinj : zAd ad L) {X : zCtx} (hX : zXok X "SoapTreaty$Reader" prog_8_method_2_code 2) (hR : zRt X (some .int)) (hl : zXl X l D ad cy L (zroom 62)) : zAllR (zSo X) p_X6_readCongress_2 := ⟨zs_goto hX (by decide +kernel : decode prog_8_method_2_code 138 = .ok (.goto 25, 3)) (by decide),
  zs_aload_n (i := 0) rfl hX (by decide +kernel : decode prog_8_method_2_code 141 = .ok (.aload_n 0, 1)) rfl (by decide),
  zs_callVv hX zMV_6_85 (zXc_of hl (by decide) (k_X6_readSliver hcl hinj)) (by decide +kernel : decode prog_8_method_2_code 142 = .ok (.invokevirtual 85, 3)) rfl,
  zs_goto hX (by decide +kernel : decode prog_8_method_2_code 145 = .ok (.goto 18, 3)) (by decide),
  zs_aload_n (i := 0) rfl hX (by decide +kernel : decode prog_8_method_2_code 148 = .ok (.aload_n 0, 1)) rfl (by decide),
  zs_callVv hX zMV_6_88 (zXc_of hl (by decide) (k_X6_readWears hcl hinj)) (by decide +kernel : decode prog_8_method_2_code 149 = .ok (.invokevirtual 88, 3)) rfl,
  zs_goto hX (by decide +kernel : decode prog_8_method_2_code 152 = .ok (.goto 11, 3)) (by decide),
  zs_aload_n (i := 0) rfl hX (by decide +kernel : decode prog_8_method_2_code 155 = .ok (.aload_n 0, 1)) rfl (by decide),
  zs_getR hX zFL_6_33 (by decide +kernel : decode prog_8_method_2_code 156 = .ok (.getfield 33, 3)) rfl,
  zs_pushI (zg_iconst (by decide) hX (by decide +kernel : decode prog_8_method_2_code 159 = .ok (.iconst 1, 1)) rfl),
  zs_callVv hX zMV_6_91 (zXc_of hl (by decide) (k_X10_complain hcl hinj)) (by decide +kernel : decode prog_8_method_2_code 160 = .ok (.invokevirtual 91, 3)) rfl,
  zs_aload_n (i := 0) rfl hX (by decide +kernel : decode prog_8_method_2_code 163 = .ok (.aload_n 0, 1)) rfl (by decide),
  zs_getR hX zFL_6_33 (by decide +kernel : decode prog_8_method_2_code 164 = .ok (.getfield 33, 3)) rfl,
  zs_pushI (zg_bipush (by decide) hX (by decide +kernel : decode prog_8_method_2_code 167 = .ok (.bipush 59, 2)) rfl),
  zs_callVv hX zMV_6_95 (zXc_of hl (by decide) (k_X10_takeSign hcl hinj)) (by decide +kernel : decode prog_8_method_2_code 169 = .ok (.invokevirtual 95, 3)) rfl,
  zs_iinc hX (by decide +kernel : decode prog_8_method_2_code 172 = .ok (.iinc 1 1, 3)) (by decide) rfl (by decide),
  zs_goto hX (by decide +kernel : decode prog_8_method_2_code 175 = .ok (.goto (-149), 3)) (by decide),
  zs_aload_n (i := 0) rfl hX (by decide +kernel : decode prog_8_method_2_code 178 = .ok (.aload_n 0, 1)) rfl (by decide),
  zs_getR hX zFL_6_33 (by decide +kernel : decode prog_8_method_2_code 179 = .ok (.getfield 33, 3)) rfl,
  zs_getI hX zFL_6_98 (by decide) (by decide) (by decide +kernel : decode prog_8_method_2_code 182 = .ok (.getfield 98, 3)) rfl, trivial⟩
set_option maxRecDepth 20000 in
theorem s_X6_readCongress_3 {l : Launch} {D : va_G} {ad : Nat → Nat → Nat} {cy : Nat → ClassId} {L : List (Nat × Nat)} (hcl : zclo L = true) (hinj : zAd ad L) {X : zCtx} (hX : zXok X "SoapTreaty$Reader" prog_8_method_2_code 2) (hR : zRt X (some .int)) (hl : zXl X l D ad cy L (zroom 62)) : zAllR (zSo X) p_X6_readCongress_3 := ⟨zs_iret hX hR (by decide +kernel : decode prog_8_method_2_code 185 = .ok (.ireturn, 1)), trivial⟩
theorem k_X6_readCongress {l : Launch} {D : va_G} {ad : Nat → Nat → Nat} {cy : Nat → ClassId} {L : List (Nat × Nat)} (hcl : zclo L = true) (hinj : zAd ad L) : zCk l D ad cy L 62 f_X6_readCongress y_X6_readCongress (.code y_X6_readCongress prog_8_method_2_code 2 (some .int)) :=
  z_met (by decide) t_X6_readCongress hcl hinj (fun X hX hR hl k => zgs_all (Q := zSo X) (c := [(38, p_X6_readCongress_0), (136, p_X6_readCongress_1), (183, p_X6_readCongress_2), (186, p_X6_readCongress_3)]) (fun _ => zs_bad) ⟨s_X6_readCongress_0 hcl hinj hX hR hl, s_X6_readCongress_1 hcl hinj hX hR hl, s_X6_readCongress_2 hcl hinj hX hR hl, s_X6_readCongress_3 hcl hinj hX hR hl, trivial⟩ k)
set_option maxRecDepth 1000000 in
theorem e_X6_readCongress_0 (h : zH) : zL p_X6_readCongress 0 [some (.inr (.inr (6, 0))), none] [] h = zcv (f_X0_clear [(.inr (.inr (0, 1)))] h) (fun h1 => zcv (f_X10_begin [(.inr (.inr (10, 0)))] (zuI (zuI h1 6 0 5 0) 6 0 6 0)) (fun h2 => zL p_X6_readCongress 26 [some (.inr (.inr (6, 0))), some (.inl 0)] [] h2)) := (zL_s (t_X6_readCongress) [0, 26, 65] 1000 0 _ _ _).trans rfl
theorem g_X6_readCongress (h : zH) : f_X6_readCongress [(.inr (.inr (6, 0)))] h = zcv (f_X0_clear [(.inr (.inr (0, 1)))] h) (fun h1 => zcv (f_X10_begin [(.inr (.inr (10, 0)))] (zuI (zuI h1 6 0 5 0) 6 0 6 0)) (fun h2 => zL p_X6_readCongress 26 [some (.inr (.inr (6, 0))), some (.inl 0)] [] h2)) := (show f_X6_readCongress _ h = zL p_X6_readCongress 0 _ [] h from rfl).trans (e_X6_readCongress_0 h)
set_option maxRecDepth 1000000 in
theorem e_X6_readCongress_26 (x1 : Int32) (h : zH) : zL p_X6_readCongress 26 [some (.inr (.inr (6, 0))), some (.inl x1)] [] h = zf (x1 < 1000) (zci (f_X10_isMore [(.inr (.inr (10, 0)))] h) (fun r2 h1 => zf (r2 = 0) (some (some (.inl (h1.1 10 0 7)), h1)) (zf ((h1.1 10 0 3) = 2) (zL p_X6_readCongress 65 [some (.inr (.inr (6, 0))), some (.inl x1)] [(.inl (h1.1 10 0 5))] h1) (zL p_X6_readCongress 65 [some (.inr (.inr (6, 0))), some (.inl x1)] [(.inl zm1)] h1)))) (some (some (.inl (h.1 10 0 7)), h)) := (zL_s (t_X6_readCongress) [0, 26, 65] 1000 26 _ _ _).trans rfl
set_option maxRecDepth 1000000 in
theorem e_X6_readCongress_65 (x1 : Int32) (s0 : Int32) (h : zH) : zL p_X6_readCongress 65 [some (.inr (.inr (6, 0))), some (.inl x1)] [(.inl s0)] h = zf (s0 = 0) (zcv (f_X6_readPower [(.inr (.inr (6, 0)))] h) (fun h21 => zcv (f_X10_takeSign [(.inr (.inr (10, 0))), (.inl 59)] h21) (fun h22 => zL p_X6_readCongress 26 [some (.inr (.inr (6, 0))), some (.inl (x1 + 1))] [] h22))) (zf (s0 = 1) (zcv (f_X10_complain [(.inr (.inr (10, 0))), (.inl 1)] h) (fun h19 => zcv (f_X10_takeSign [(.inr (.inr (10, 0))), (.inl 59)] h19) (fun h20 => zL p_X6_readCongress 26 [some (.inr (.inr (6, 0))), some (.inl (x1 + 1))] [] h20))) (zf (s0 = 2) (zcv (f_X6_readCake [(.inr (.inr (6, 0)))] h) (fun h17 => zcv (f_X10_takeSign [(.inr (.inr (10, 0))), (.inl 59)] h17) (fun h18 => zL p_X6_readCongress 26 [some (.inr (.inr (6, 0))), some (.inl (x1 + 1))] [] h18))) (zf (s0 = 3) (zcv (f_X10_complain [(.inr (.inr (10, 0))), (.inl 1)] h) (fun h15 => zcv (f_X10_takeSign [(.inr (.inr (10, 0))), (.inl 59)] h15) (fun h16 => zL p_X6_readCongress 26 [some (.inr (.inr (6, 0))), some (.inl (x1 + 1))] [] h16))) (zf (s0 = 4) (zcv (f_X10_complain [(.inr (.inr (10, 0))), (.inl 1)] h) (fun h13 => zcv (f_X10_takeSign [(.inr (.inr (10, 0))), (.inl 59)] h13) (fun h14 => zL p_X6_readCongress 26 [some (.inr (.inr (6, 0))), some (.inl (x1 + 1))] [] h14))) (zf (s0 = 5) (zcv (f_X10_complain [(.inr (.inr (10, 0))), (.inl 1)] h) (fun h11 => zcv (f_X10_takeSign [(.inr (.inr (10, 0))), (.inl 59)] h11) (fun h12 => zL p_X6_readCongress 26 [some (.inr (.inr (6, 0))), some (.inl (x1 + 1))] [] h12))) (zf (s0 = 6) (zcv (f_X10_complain [(.inr (.inr (10, 0))), (.inl 1)] h) (fun h9 => zcv (f_X10_takeSign [(.inr (.inr (10, 0))), (.inl 59)] h9) (fun h10 => zL p_X6_readCongress 26 [some (.inr (.inr (6, 0))), some (.inl (x1 + 1))] [] h10))) (zf (s0 = 7) (zcv (f_X6_readPebble [(.inr (.inr (6, 0)))] h) (fun h7 => zcv (f_X10_takeSign [(.inr (.inr (10, 0))), (.inl 59)] h7) (fun h8 => zL p_X6_readCongress 26 [some (.inr (.inr (6, 0))), some (.inl (x1 + 1))] [] h8))) (zf (s0 = 8) (zcv (f_X6_readSliver [(.inr (.inr (6, 0)))] h) (fun h5 => zcv (f_X10_takeSign [(.inr (.inr (10, 0))), (.inl 59)] h5) (fun h6 => zL p_X6_readCongress 26 [some (.inr (.inr (6, 0))), some (.inl (x1 + 1))] [] h6))) (zf (s0 = 9) (zcv (f_X6_readWears [(.inr (.inr (6, 0)))] h) (fun h3 => zcv (f_X10_takeSign [(.inr (.inr (10, 0))), (.inl 59)] h3) (fun h4 => zL p_X6_readCongress 26 [some (.inr (.inr (6, 0))), some (.inl (x1 + 1))] [] h4))) (zcv (f_X10_complain [(.inr (.inr (10, 0))), (.inl 1)] h) (fun h1 => zcv (f_X10_takeSign [(.inr (.inr (10, 0))), (.inl 59)] h1) (fun h2 => zL p_X6_readCongress 26 [some (.inr (.inr (6, 0))), some (.inl (x1 + 1))] [] h2)))))))))))) := (zL_s (t_X6_readCongress) [0, 26, 65] 1000 65 _ _ _).trans rfl
theorem zMV_6_182 : zMV "SoapTreaty$Reader" 182 3 y_X3_add prog_5_method_2_code 4 none 3 := ⟨⟨zT_of 748 (by decide +kernel) (by decide +kernel), zT_of 749 (by decide +kernel) (by decide +kernel), zT_of 750 (by decide +kernel) (by decide +kernel), zT_of 107 (by decide +kernel) (by decide +kernel), zT_of 751 (by decide +kernel) (by decide +kernel)⟩, by decide, rfl, ⟨zT3, 4, rfl⟩, by decide, by decide, by decide +kernel⟩
/-! SoapTreaty$Reader.readLine()V -/
def y_X6_readLine : MethodName := ⟨"SoapTreaty$Reader", "readLine", "()V"⟩
noncomputable def p_X6_readLine_0 : List (Nat × zO) := [(0, zo_aload 0 1),
  (1, zo_getR 6 10 none 4),
  (4, zo_getI 10 3 7),
  (7, zo_push (.inl 2) 8),
  (8, zo_cne 21 11),
  (11, zo_aload 0 12),
  (12, zo_getR 6 10 none 15),
  (15, zo_getI 10 5 18),
  (18, zo_goto 22),
  (21, zo_push (.inl zm1) 22),
  (22, zo_kill [1, 2, 3, 4] (zo_istore 1 23)),
  (23, zo_iload 1 24),
  (24, zo_push (.inl 10) 26),
  (26, zo_clt 35 29),
  (29, zo_iload 1 30),
  (30, zo_push (.inl 15) 32),
  (32, zo_cle 46 35),
  (35, zo_aload 0 36),
  (36, zo_getR 6 10 none 39),
  (39, zo_push (.inl 1) 40)]
noncomputable def p_X6_readLine_1 : List (Nat × zO) := [(40, zo_vir 10 2 (zo_callv (f_X10_complain) 2 43)),
  (43, zo_goto 66),
  (46, zo_aload 0 47),
  (47, zo_getR 6 3 (some 5) 50),
  (50, zo_getI 3 0 53),
  (53, zo_push (.inl 40) 55),
  (55, zo_clt 66 58),
  (58, zo_aload 0 59),
  (59, zo_getR 6 10 none 62),
  (62, zo_push (.inl 5) 63),
  (63, zo_vir 10 2 (zo_callv (f_X10_complain) 2 66)),
  (66, zo_kill [2, 3, 4] (zo_iload 1 67)),
  (67, zo_push (.inl 10) 69),
  (69, zo_ii (fun x y => x - y) 70),
  (70, zo_istore 2 71),
  (71, zo_aload 0 72),
  (72, zo_getR 6 10 none 75),
  (75, zo_vir 10 1 (zo_callv (f_X10_step) 1 78)),
  (78, zo_push (.inl zm1) 79),
  (79, zo_istore 3 80)]
noncomputable def p_X6_readLine_2 : List (Nat × zO) := [(80, zo_iload 2 81),
  (81, zo_push (.inl 5) 82),
  (82, zo_ceq 101 85),
  (85, zo_aload 0 86),
  (86, zo_aload 0 87),
  (87, zo_getR 6 0 (some 0) 90),
  (90, zo_vir 6 2 (zo_calli (f_X6_namedCake) 2 93)),
  (93, zo_istore 3 94),
  (94, zo_aload 0 95),
  (95, zo_getR 6 10 none 98),
  (98, zo_vir 10 1 (zo_callv (f_X10_step) 1 101)),
  (101, zo_kill [1, 4] (zo_iload 2 102)),
  (102, zo_push (.inl 3) 103),
  (103, zo_cne 118 106),
  (106, zo_aload 0 107),
  (107, zo_aload 0 108),
  (108, zo_getR 6 0 (some 0) 111),
  (111, zo_push (.inl zm1) 112),
  (112, zo_vir 6 3 (zo_calli (f_X6_takePower) 3 115)),
  (115, zo_goto 119)]
noncomputable def p_X6_readLine_3 : List (Nat × zO) := [(118, zo_push (.inl zm1) 119),
  (119, zo_kill [1, 4] (zo_istore 4 121)),
  (121, zo_aload 0 122),
  (122, zo_getR 6 10 none 125),
  (125, zo_push (.inl 59) 127),
  (127, zo_vir 10 2 (zo_callv (f_X10_takeSign) 2 130)),
  (130, zo_aload 0 131),
  (131, zo_getR 6 3 (some 5) 134),
  (134, zo_iload 2 135),
  (135, zo_iload 3 136),
  (136, zo_iload 4 138),
  (138, zo_vir 3 4 (zo_callv (f_X3_add) 4 141)),
  (141, zo_ret)]
noncomputable def p_X6_readLine : Nat → zO := zgs [(40, p_X6_readLine_0), (80, p_X6_readLine_1), (116, p_X6_readLine_2), (142, p_X6_readLine_3)]
theorem t_X6_readLine : ∀ k, zTl (p_X6_readLine k) := fun k => zgs_all (c := [(40, p_X6_readLine_0), (80, p_X6_readLine_1), (116, p_X6_readLine_2), (142, p_X6_readLine_3)]) (fun _ => zl_bad) ⟨⟨zl_aload, zl_getR, zl_getI, zl_push, zl_cne, zl_aload, zl_getR, zl_getI, zl_goto, zl_push, (zl_kill zl_istore), zl_iload, zl_push, zl_clt, zl_iload, zl_push, zl_cle, zl_aload, zl_getR, zl_push, trivial⟩, ⟨(zl_vir zl_callv), zl_goto, zl_aload, zl_getR, zl_getI, zl_push, zl_clt, zl_aload, zl_getR, zl_push, (zl_vir zl_callv), (zl_kill zl_iload), zl_push, zl_ii, zl_istore, zl_aload, zl_getR, (zl_vir zl_callv), zl_push, zl_istore, trivial⟩, ⟨zl_iload, zl_push, zl_ceq, zl_aload, zl_aload, zl_getR, (zl_vir zl_calli), zl_istore, zl_aload, zl_getR, (zl_vir zl_callv), (zl_kill zl_iload), zl_push, zl_cne, zl_aload, zl_aload, zl_getR, zl_push, (zl_vir zl_calli), zl_goto, trivial⟩, ⟨zl_push, (zl_kill zl_istore), zl_aload, zl_getR, zl_push, (zl_vir zl_callv), zl_aload, zl_getR, zl_iload, zl_iload, zl_iload, (zl_vir zl_callv), zl_ret, trivial⟩, trivial⟩ k
noncomputable def f_X6_readLine : zS := zrun p_X6_readLine 5
set_option maxRecDepth 20000 in
theorem s_X6_readLine_0 {l : Launch} {D : va_G} {ad : Nat → Nat → Nat} {cy : Nat → ClassId} {L : List (Nat × Nat)} (hcl : zclo L = true) (hinj : zAd ad L) {X : zCtx} (hX : zXok X "SoapTreaty$Reader" prog_8_method_9_code 5) (hR : zRt X none) (hl : zXl X l D ad cy L (zroom 5)) : zAllR (zSo X) p_X6_readLine_0 := ⟨zs_aload_n (i := 0) rfl hX (by decide +kernel : decode prog_8_method_9_code 0 = .ok (.aload_n 0, 1)) rfl (by decide),
  zs_getR hX zFL_6_33 (by decide +kernel : decode prog_8_method_9_code 1 = .ok (.getfield 33, 3)) rfl,
  zs_getI hX zFL_6_69 (by decide) (by decide) (by decide +kernel : decode prog_8_method_9_code 4 = .ok (.getfield 69, 3)) rfl,
  zs_pushI (zg_iconst (by decide) hX (by decide +kernel : decode prog_8_method_9_code 7 = .ok (.iconst 2, 1)) rfl),
  zs_cne hX (by decide +kernel : decode prog_8_method_9_code 8 = .ok (.if_icmp .ne 13, 3)) (by decide) rfl,
  zs_aload_n (i := 0) rfl hX (by decide +kernel : decode prog_8_method_9_code 11 = .ok (.aload_n 0, 1)) rfl (by decide),
  zs_getR hX zFL_6_33 (by decide +kernel : decode prog_8_method_9_code 12 = .ok (.getfield 33, 3)) rfl,
  zs_getI hX zFL_6_73 (by decide) (by decide) (by decide +kernel : decode prog_8_method_9_code 15 = .ok (.getfield 73, 3)) rfl,
  zs_goto hX (by decide +kernel : decode prog_8_method_9_code 18 = .ok (.goto 4, 3)) (by decide),
  zs_pushI (zg_iconst (by decide) hX (by decide +kernel : decode prog_8_method_9_code 21 = .ok (.iconst (-1), 1)) rfl),
  zs_kill hX (by decide) (zs_istore_n (i := 1) rfl hX (by decide +kernel : decode prog_8_method_9_code 22 = .ok (.istore_n 1, 1)) rfl (by decide)),
  zs_iload_n (i := 1) rfl hX (by decide +kernel : decode prog_8_method_9_code 23 = .ok (.iload_n 1, 1)) rfl (by decide),
  zs_pushI (zg_bipush (by decide) hX (by decide +kernel : decode prog_8_method_9_code 24 = .ok (.bipush 10, 2)) rfl),
  zs_clt hX (by decide +kernel : decode prog_8_method_9_code 26 = .ok (.if_icmp .lt 9, 3)) (by decide) rfl,
  zs_iload_n (i := 1) rfl hX (by decide +kernel : decode prog_8_method_9_code 29 = .ok (.iload_n 1, 1)) rfl (by decide),
  zs_pushI (zg_bipush (by decide) hX (by decide +kernel : decode prog_8_method_9_code 30 = .ok (.bipush 15, 2)) rfl),
  zs_cle hX (by decide +kernel : decode prog_8_method_9_code 32 = .ok (.if_icmp .le 14, 3)) (by decide) rfl,
  zs_aload_n (i := 0) rfl hX (by decide +kernel : decode prog_8_method_9_code 35 = .ok (.aload_n 0, 1)) rfl (by decide),
  zs_getR hX zFL_6_33 (by decide +kernel : decode prog_8_method_9_code 36 = .ok (.getfield 33, 3)) rfl,
  zs_pushI (zg_iconst (by decide) hX (by decide +kernel : decode prog_8_method_9_code 39 = .ok (.iconst 1, 1)) rfl), trivial⟩
set_option maxRecDepth 20000 in
theorem s_X6_readLine_1 {l : Launch} {D : va_G} {ad : Nat → Nat → Nat} {cy : Nat → ClassId} {L : List (Nat × Nat)} (hcl : zclo L = true) (hinj : zAd ad L) {X : zCtx} (hX : zXok X "SoapTreaty$Reader" prog_8_method_9_code 5) (hR : zRt X none) (hl : zXl X l D ad cy L (zroom 5)) : zAllR (zSo X) p_X6_readLine_1 := ⟨zs_callVv hX zMV_6_91 (zXc_of hl (by decide) (k_X10_complain hcl hinj)) (by decide +kernel : decode prog_8_method_9_code 40 = .ok (.invokevirtual 91, 3)) rfl,
  zs_goto hX (by decide +kernel : decode prog_8_method_9_code 43 = .ok (.goto 23, 3)) (by decide),
  zs_aload_n (i := 0) rfl hX (by decide +kernel : decode prog_8_method_9_code 46 = .ok (.aload_n 0, 1)) rfl (by decide),
  zs_getR hX zFL_6_24 (by decide +kernel : decode prog_8_method_9_code 47 = .ok (.getfield 24, 3)) rfl,
  zs_getI hX zFL_6_174 (by decide) (by decide) (by decide +kernel : decode prog_8_method_9_code 50 = .ok (.getfield 174, 3)) rfl,
  zs_pushI (zg_bipush (by decide) hX (by decide +kernel : decode prog_8_method_9_code 53 = .ok (.bipush 40, 2)) rfl),
  zs_clt hX (by decide +kernel : decode prog_8_method_9_code 55 = .ok (.if_icmp .lt 11, 3)) (by decide) rfl,
  zs_aload_n (i := 0) rfl hX (by decide +kernel : decode prog_8_method_9_code 58 = .ok (.aload_n 0, 1)) rfl (by decide),
  zs_getR hX zFL_6_33 (by decide +kernel : decode prog_8_method_9_code 59 = .ok (.getfield 33, 3)) rfl,
  zs_pushI (zg_iconst (by decide) hX (by decide +kernel : decode prog_8_method_9_code 62 = .ok (.iconst 5, 1)) rfl),
  zs_callVv hX zMV_6_91 (zXc_of hl (by decide) (k_X10_complain hcl hinj)) (by decide +kernel : decode prog_8_method_9_code 63 = .ok (.invokevirtual 91, 3)) rfl,
  zs_kill hX (by decide) (zs_iload_n (i := 1) rfl hX (by decide +kernel : decode prog_8_method_9_code 66 = .ok (.iload_n 1, 1)) rfl (by decide)),
  zs_pushI (zg_bipush (by decide) hX (by decide +kernel : decode prog_8_method_9_code 67 = .ok (.bipush 10, 2)) rfl),
  zs_ii (zg_isub hX (by decide +kernel : decode prog_8_method_9_code 69 = .ok (.isub, 1)) rfl),
  zs_istore_n (i := 2) rfl hX (by decide +kernel : decode prog_8_method_9_code 70 = .ok (.istore_n 2, 1)) rfl (by decide),
  zs_aload_n (i := 0) rfl hX (by decide +kernel : decode prog_8_method_9_code 71 = .ok (.aload_n 0, 1)) rfl (by decide),
  zs_getR hX zFL_6_33 (by decide +kernel : decode prog_8_method_9_code 72 = .ok (.getfield 33, 3)) rfl,
  zs_callVv hX zMV_6_104 (zXc_of hl (by decide) (k_X10_step hcl hinj)) (by decide +kernel : decode prog_8_method_9_code 75 = .ok (.invokevirtual 104, 3)) rfl,
  zs_pushI (zg_iconst (by decide) hX (by decide +kernel : decode prog_8_method_9_code 78 = .ok (.iconst (-1), 1)) rfl),
  zs_istore_n (i := 3) rfl hX (by decide +kernel : decode prog_8_method_9_code 79 = .ok (.istore_n 3, 1)) rfl (by decide), trivial⟩
set_option maxRecDepth 20000 in
theorem s_X6_readLine_2 {l : Launch} {D : va_G} {ad : Nat → Nat → Nat} {cy : Nat → ClassId} {L : List (Nat × Nat)} (hcl : zclo L = true) (hinj : zAd ad L) {X : zCtx} (hX : zXok X "SoapTreaty$Reader" prog_8_method_9_code 5) (hR : zRt X none) (hl : zXl X l D ad cy L (zroom 5)) : zAllR (zSo X) p_X6_readLine_2 := ⟨zs_iload_n (i := 2) rfl hX (by decide +kernel : decode prog_8_method_9_code 80 = .ok (.iload_n 2, 1)) rfl (by decide),
  zs_pushI (zg_iconst (by decide) hX (by decide +kernel : decode prog_8_method_9_code 81 = .ok (.iconst 5, 1)) rfl),
  zs_ceq hX (by decide +kernel : decode prog_8_method_9_code 82 = .ok (.if_icmp .eq 19, 3)) (by decide) rfl,
  zs_aload_n (i := 0) rfl hX (by decide +kernel : decode prog_8_method_9_code 85 = .ok (.aload_n 0, 1)) rfl (by decide),
  zs_aload_n (i := 0) rfl hX (by decide +kernel : decode prog_8_method_9_code 86 = .ok (.aload_n 0, 1)) rfl (by decide),
  zs_getR hX zFL_6_9 (by decide +kernel : decode prog_8_method_9_code 87 = .ok (.getfield 9, 3)) rfl,
  zs_callVi hX zMV_6_157 (zXc_of hl (by decide) (k_X6_namedCake hcl hinj)) (by decide +kernel : decode prog_8_method_9_code 90 = .ok (.invokevirtual 157, 3)) rfl,
  zs_istore_n (i := 3) rfl hX (by decide +kernel : decode prog_8_method_9_code 93 = .ok (.istore_n 3, 1)) rfl (by decide),
  zs_aload_n (i := 0) rfl hX (by decide +kernel : decode prog_8_method_9_code 94 = .ok (.aload_n 0, 1)) rfl (by decide),
  zs_getR hX zFL_6_33 (by decide +kernel : decode prog_8_method_9_code 95 = .ok (.getfield 33, 3)) rfl,
  zs_callVv hX zMV_6_104 (zXc_of hl (by decide) (k_X10_step hcl hinj)) (by decide +kernel : decode prog_8_method_9_code 98 = .ok (.invokevirtual 104, 3)) rfl,
  zs_kill hX (by decide) (zs_iload_n (i := 2) rfl hX (by decide +kernel : decode prog_8_method_9_code 101 = .ok (.iload_n 2, 1)) rfl (by decide)),
  zs_pushI (zg_iconst (by decide) hX (by decide +kernel : decode prog_8_method_9_code 102 = .ok (.iconst 3, 1)) rfl),
  zs_cne hX (by decide +kernel : decode prog_8_method_9_code 103 = .ok (.if_icmp .ne 15, 3)) (by decide) rfl,
  zs_aload_n (i := 0) rfl hX (by decide +kernel : decode prog_8_method_9_code 106 = .ok (.aload_n 0, 1)) rfl (by decide),
  zs_aload_n (i := 0) rfl hX (by decide +kernel : decode prog_8_method_9_code 107 = .ok (.aload_n 0, 1)) rfl (by decide),
  zs_getR hX zFL_6_9 (by decide +kernel : decode prog_8_method_9_code 108 = .ok (.getfield 9, 3)) rfl,
  zs_pushI (zg_iconst (by decide) hX (by decide +kernel : decode prog_8_method_9_code 111 = .ok (.iconst (-1), 1)) rfl),
  zs_callVi hX zMV_6_141 (zXc_of hl (by decide) (k_X6_takePower hcl hinj)) (by decide +kernel : decode prog_8_method_9_code 112 = .ok (.invokevirtual 141, 3)) rfl,
  zs_goto hX (by decide +kernel : decode prog_8_method_9_code 115 = .ok (.goto 4, 3)) (by decide), trivial⟩
set_option maxRecDepth 20000 in
theorem s_X6_readLine_3 {l : Launch} {D : va_G} {ad : Nat → Nat → Nat} {cy : Nat → ClassId} {L : List (Nat × Nat)} (hcl : zclo L = true) (hinj : zAd ad L) {X : zCtx} (hX : zXok X "SoapTreaty$Reader" prog_8_method_9_code 5) (hR : zRt X none) (hl : zXl X l D ad cy L (zroom 5)) : zAllR (zSo X) p_X6_readLine_3 := ⟨zs_pushI (zg_iconst (by decide) hX (by decide +kernel : decode prog_8_method_9_code 118 = .ok (.iconst (-1), 1)) rfl),
  zs_kill hX (by decide) (zs_istore hX (by decide +kernel : decode prog_8_method_9_code 119 = .ok (.istore 4, 2)) rfl (by decide)),
  zs_aload_n (i := 0) rfl hX (by decide +kernel : decode prog_8_method_9_code 121 = .ok (.aload_n 0, 1)) rfl (by decide),
  zs_getR hX zFL_6_33 (by decide +kernel : decode prog_8_method_9_code 122 = .ok (.getfield 33, 3)) rfl,
  zs_pushI (zg_bipush (by decide) hX (by decide +kernel : decode prog_8_method_9_code 125 = .ok (.bipush 59, 2)) rfl),
  zs_callVv hX zMV_6_95 (zXc_of hl (by decide) (k_X10_takeSign hcl hinj)) (by decide +kernel : decode prog_8_method_9_code 127 = .ok (.invokevirtual 95, 3)) rfl,
  zs_aload_n (i := 0) rfl hX (by decide +kernel : decode prog_8_method_9_code 130 = .ok (.aload_n 0, 1)) rfl (by decide),
  zs_getR hX zFL_6_24 (by decide +kernel : decode prog_8_method_9_code 131 = .ok (.getfield 24, 3)) rfl,
  zs_iload_n (i := 2) rfl hX (by decide +kernel : decode prog_8_method_9_code 134 = .ok (.iload_n 2, 1)) rfl (by decide),
  zs_iload_n (i := 3) rfl hX (by decide +kernel : decode prog_8_method_9_code 135 = .ok (.iload_n 3, 1)) rfl (by decide),
  zs_iload hX (by decide +kernel : decode prog_8_method_9_code 136 = .ok (.iload 4, 2)) rfl (by decide),
  zs_callVv hX zMV_6_182 (zXc_of hl (by decide) (k_X3_add hcl hinj)) (by decide +kernel : decode prog_8_method_9_code 138 = .ok (.invokevirtual 182, 3)) rfl,
  zs_ret hX hR (by decide +kernel : decode prog_8_method_9_code 141 = .ok (.return_, 1)), trivial⟩
theorem k_X6_readLine {l : Launch} {D : va_G} {ad : Nat → Nat → Nat} {cy : Nat → ClassId} {L : List (Nat × Nat)} (hcl : zclo L = true) (hinj : zAd ad L) : zCk l D ad cy L 5 f_X6_readLine y_X6_readLine (.code y_X6_readLine prog_8_method_9_code 5 none) :=
  z_met (by decide) t_X6_readLine hcl hinj (fun X hX hR hl k => zgs_all (Q := zSo X) (c := [(40, p_X6_readLine_0), (80, p_X6_readLine_1), (116, p_X6_readLine_2), (142, p_X6_readLine_3)]) (fun _ => zs_bad) ⟨s_X6_readLine_0 hcl hinj hX hR hl, s_X6_readLine_1 hcl hinj hX hR hl, s_X6_readLine_2 hcl hinj hX hR hl, s_X6_readLine_3 hcl hinj hX hR hl, trivial⟩ k)
set_option maxRecDepth 1000000 in
theorem e_X6_readLine_0 (h : zH) : zL p_X6_readLine 0 [some (.inr (.inr (6, 0))), none, none, none, none] [] h = zf ((h.1 10 0 3) = 2) (zL p_X6_readLine 22 [some (.inr (.inr (6, 0))), none, none, none, none] [(.inl (h.1 10 0 5))] h) (zL p_X6_readLine 22 [some (.inr (.inr (6, 0))), none, none, none, none] [(.inl zm1)] h) := (zL_s (t_X6_readLine) [0, 22, 66, 101, 119] 1000 0 _ _ _).trans rfl
theorem g_X6_readLine (h : zH) : f_X6_readLine [(.inr (.inr (6, 0)))] h = zf ((h.1 10 0 3) = 2) (zL p_X6_readLine 22 [some (.inr (.inr (6, 0))), none, none, none, none] [(.inl (h.1 10 0 5))] h) (zL p_X6_readLine 22 [some (.inr (.inr (6, 0))), none, none, none, none] [(.inl zm1)] h) := (show f_X6_readLine _ h = zL p_X6_readLine 0 _ [] h from rfl).trans (e_X6_readLine_0 h)
set_option maxRecDepth 1000000 in
theorem e_X6_readLine_22 (o1 : Option zV) (o2 : Option zV) (o3 : Option zV) (o4 : Option zV) (s0 : Int32) (h : zH) : zL p_X6_readLine 22 [some (.inr (.inr (6, 0))), o1, o2, o3, o4] [(.inl s0)] h = zf (s0 < 10) (zcv (f_X10_complain [(.inr (.inr (10, 0))), (.inl 1)] h) (fun h1 => zL p_X6_readLine 66 [some (.inr (.inr (6, 0))), some (.inl s0), none, none, none] [] h1)) (zf (15 < s0) (zcv (f_X10_complain [(.inr (.inr (10, 0))), (.inl 1)] h) (fun h3 => zL p_X6_readLine 66 [some (.inr (.inr (6, 0))), some (.inl s0), none, none, none] [] h3)) (zf ((h.1 3 5 0) < 40) (zL p_X6_readLine 66 [some (.inr (.inr (6, 0))), some (.inl s0), none, none, none] [] h) (zcv (f_X10_complain [(.inr (.inr (10, 0))), (.inl 5)] h) (fun h2 => zL p_X6_readLine 66 [some (.inr (.inr (6, 0))), some (.inl s0), none, none, none] [] h2)))) := (zL_s (t_X6_readLine) [0, 22, 66, 101, 119] 1000 22 _ _ _).trans rfl
set_option maxRecDepth 1000000 in
theorem e_X6_readLine_66 (x1 : Int32) (o2 : Option zV) (o3 : Option zV) (o4 : Option zV) (h : zH) : zL p_X6_readLine 66 [some (.inr (.inr (6, 0))), some (.inl x1), o2, o3, o4] [] h = zcv (f_X10_step [(.inr (.inr (10, 0)))] h) (fun h1 => zf ((x1 - (10 : Int32)) = 5) (zL p_X6_readLine 101 [some (.inr (.inr (6, 0))), some (.inl x1), some (.inl (x1 - (10 : Int32))), some (.inl zm1), none] [] h1) (zci (f_X6_namedCake [(.inr (.inr (6, 0))), (.inr (.inr (0, 0)))] h1) (fun r3 h2 => zcv (f_X10_step [(.inr (.inr (10, 0)))] h2) (fun h4 => zL p_X6_readLine 101 [some (.inr (.inr (6, 0))), some (.inl x1), some (.inl (x1 - (10 : Int32))), some (.inl r3), none] [] h4)))) := (zL_s (t_X6_readLine) [0, 22, 66, 101, 119] 1000 66 _ _ _).trans rfl
set_option maxRecDepth 1000000 in
theorem e_X6_readLine_101 (o1 : Option zV) (x2 : Int32) (x3 : Int32) (o4 : Option zV) (h : zH) : zL p_X6_readLine 101 [some (.inr (.inr (6, 0))), o1, some (.inl x2), some (.inl x3), o4] [] h = zf (x2 = 3) (zci (f_X6_takePower [(.inr (.inr (6, 0))), (.inr (.inr (0, 0))), (.inl zm1)] h) (fun r2 h1 => zL p_X6_readLine 119 [some (.inr (.inr (6, 0))), none, some (.inl x2), some (.inl x3), none] [(.inl r2)] h1)) (zL p_X6_readLine 119 [some (.inr (.inr (6, 0))), none, some (.inl x2), some (.inl x3), none] [(.inl zm1)] h) := (zL_s (t_X6_readLine) [0, 22, 66, 101, 119] 1000 101 _ _ _).trans rfl
set_option maxRecDepth 1000000 in
theorem e_X6_readLine_119 (o1 : Option zV) (x2 : Int32) (x3 : Int32) (o4 : Option zV) (s0 : Int32) (h : zH) : zL p_X6_readLine 119 [some (.inr (.inr (6, 0))), o1, some (.inl x2), some (.inl x3), o4] [(.inl s0)] h = zcv (f_X10_takeSign [(.inr (.inr (10, 0))), (.inl 59)] h) (fun h1 => zcv (f_X3_add [(.inr (.inr (3, 5))), (.inl x2), (.inl x3), (.inl s0)] h1) (fun h2 => some (none, h2))) := (zL_s (t_X6_readLine) [0, 22, 66, 101, 119] 1000 119 _ _ _).trans rfl
theorem zMV_6_177 : zMV "SoapTreaty$Reader" 177 6 y_X6_readLine prog_8_method_9_code 5 none 0 := ⟨⟨zT_of 744 (by decide +kernel) (by decide +kernel), zT_of 746 (by decide +kernel) (by decide +kernel), zT_of 17 (by decide +kernel) (by decide +kernel), zT_of 106 (by decide +kernel) (by decide +kernel), zT_of 747 (by decide +kernel) (by decide +kernel)⟩, by decide, rfl, ⟨zT6, 7, rfl⟩, by decide, by decide, by decide +kernel⟩
/-! SoapTreaty$Reader.readYears()I -/
def y_X6_readYears : MethodName := ⟨"SoapTreaty$Reader", "readYears", "()I"⟩
noncomputable def p_X6_readYears_0 : List (Nat × zO) := [(0, zo_aload 0 1),
  (1, zo_getR 6 3 (some 5) 4),
  (4, zo_push (.inl 0) 5),
  (5, zo_putI 3 0 8),
  (8, zo_aload 0 9),
  (9, zo_getR 6 10 none 12),
  (12, zo_vir 10 1 (zo_callv (f_X10_begin) 1 15)),
  (15, zo_push (.inl 0) 16),
  (16, zo_istore 1 17),
  (17, zo_iload 1 18),
  (18, zo_push (.inl 1000) 21),
  (21, zo_cge 44 24),
  (24, zo_aload 0 25),
  (25, zo_getR 6 10 none 28),
  (28, zo_vir 10 1 (zo_calli (f_X10_isMore) 1 31)),
  (31, zo_0eq 44 34),
  (34, zo_aload 0 35),
  (35, zo_vir 6 1 (zo_callv (f_X6_readLine) 1 38)),
  (38, zo_iinc 1 1 41),
  (41, zo_goto 17)]
noncomputable def p_X6_readYears_1 : List (Nat × zO) := [(44, zo_aload 0 45),
  (45, zo_getR 6 10 none 48),
  (48, zo_getI 10 7 51),
  (51, zo_iret)]
noncomputable def p_X6_readYears : Nat → zO := zgs [(42, p_X6_readYears_0), (52, p_X6_readYears_1)]
theorem t_X6_readYears : ∀ k, zTl (p_X6_readYears k) := fun k => zgs_all (c := [(42, p_X6_readYears_0), (52, p_X6_readYears_1)]) (fun _ => zl_bad) ⟨⟨zl_aload, zl_getR, zl_push, zl_putI, zl_aload, zl_getR, (zl_vir zl_callv), zl_push, zl_istore, zl_iload, zl_push, zl_cge, zl_aload, zl_getR, (zl_vir zl_calli), zl_0eq, zl_aload, (zl_vir zl_callv), zl_iinc, zl_goto, trivial⟩, ⟨zl_aload, zl_getR, zl_getI, zl_iret, trivial⟩, trivial⟩ k
noncomputable def f_X6_readYears : zS := zrun p_X6_readYears 2
set_option maxRecDepth 20000 in
theorem s_X6_readYears_0 {l : Launch} {D : va_G} {ad : Nat → Nat → Nat} {cy : Nat → ClassId} {L : List (Nat × Nat)} (hcl : zclo L = true) (hinj : zAd ad L) {X : zCtx} (hX : zXok X "SoapTreaty$Reader" prog_8_method_8_code 2) (hR : zRt X (some .int)) (hl : zXl X l D ad cy L (zroom 6)) : zAllR (zSo X) p_X6_readYears_0 := ⟨zs_aload_n (i := 0) rfl hX (by decide +kernel : decode prog_8_method_8_code 0 = .ok (.aload_n 0, 1)) rfl (by decide),
  zs_getR hX zFL_6_24 (by decide +kernel : decode prog_8_method_8_code 1 = .ok (.getfield 24, 3)) rfl,
  zs_pushI (zg_iconst (by decide) hX (by decide +kernel : decode prog_8_method_8_code 4 = .ok (.iconst 0, 1)) rfl),
  zs_putI hX zFP_6_174 (by decide +kernel : decode prog_8_method_8_code 5 = .ok (.putfield 174, 3)) rfl,
  zs_aload_n (i := 0) rfl hX (by decide +kernel : decode prog_8_method_8_code 8 = .ok (.aload_n 0, 1)) rfl (by decide),
  zs_getR hX zFL_6_33 (by decide +kernel : decode prog_8_method_8_code 9 = .ok (.getfield 33, 3)) rfl,
  zs_callVv hX zMV_6_60 (zXc_of hl (by decide) (k_X10_begin hcl hinj)) (by decide +kernel : decode prog_8_method_8_code 12 = .ok (.invokevirtual 60, 3)) rfl,
  zs_pushI (zg_iconst (by decide) hX (by decide +kernel : decode prog_8_method_8_code 15 = .ok (.iconst 0, 1)) rfl),
  zs_istore_n (i := 1) rfl hX (by decide +kernel : decode prog_8_method_8_code 16 = .ok (.istore_n 1, 1)) rfl (by decide),
  zs_iload_n (i := 1) rfl hX (by decide +kernel : decode prog_8_method_8_code 17 = .ok (.iload_n 1, 1)) rfl (by decide),
  zs_pushI (zg_sipush (by decide) hX (by decide +kernel : decode prog_8_method_8_code 18 = .ok (.sipush 1000, 3)) rfl),
  zs_cge hX (by decide +kernel : decode prog_8_method_8_code 21 = .ok (.if_icmp .ge 23, 3)) (by decide) rfl,
  zs_aload_n (i := 0) rfl hX (by decide +kernel : decode prog_8_method_8_code 24 = .ok (.aload_n 0, 1)) rfl (by decide),
  zs_getR hX zFL_6_33 (by decide +kernel : decode prog_8_method_8_code 25 = .ok (.getfield 33, 3)) rfl,
  zs_callVi hX zMV_6_65 (zXc_of hl (by decide) (k_X10_isMore hcl hinj)) (by decide +kernel : decode prog_8_method_8_code 28 = .ok (.invokevirtual 65, 3)) rfl,
  zs_0eq hX (by decide +kernel : decode prog_8_method_8_code 31 = .ok (.ifCond .eq 13, 3)) (by decide) rfl,
  zs_aload_n (i := 0) rfl hX (by decide +kernel : decode prog_8_method_8_code 34 = .ok (.aload_n 0, 1)) rfl (by decide),
  zs_callVv hX zMV_6_177 (zXc_of hl (by decide) (k_X6_readLine hcl hinj)) (by decide +kernel : decode prog_8_method_8_code 35 = .ok (.invokevirtual 177, 3)) rfl,
  zs_iinc hX (by decide +kernel : decode prog_8_method_8_code 38 = .ok (.iinc 1 1, 3)) (by decide) rfl (by decide),
  zs_goto hX (by decide +kernel : decode prog_8_method_8_code 41 = .ok (.goto (-24), 3)) (by decide), trivial⟩
set_option maxRecDepth 20000 in
theorem s_X6_readYears_1 {l : Launch} {D : va_G} {ad : Nat → Nat → Nat} {cy : Nat → ClassId} {L : List (Nat × Nat)} (hcl : zclo L = true) (hinj : zAd ad L) {X : zCtx} (hX : zXok X "SoapTreaty$Reader" prog_8_method_8_code 2) (hR : zRt X (some .int)) (hl : zXl X l D ad cy L (zroom 6)) : zAllR (zSo X) p_X6_readYears_1 := ⟨zs_aload_n (i := 0) rfl hX (by decide +kernel : decode prog_8_method_8_code 44 = .ok (.aload_n 0, 1)) rfl (by decide),
  zs_getR hX zFL_6_33 (by decide +kernel : decode prog_8_method_8_code 45 = .ok (.getfield 33, 3)) rfl,
  zs_getI hX zFL_6_98 (by decide) (by decide) (by decide +kernel : decode prog_8_method_8_code 48 = .ok (.getfield 98, 3)) rfl,
  zs_iret hX hR (by decide +kernel : decode prog_8_method_8_code 51 = .ok (.ireturn, 1)), trivial⟩
theorem k_X6_readYears {l : Launch} {D : va_G} {ad : Nat → Nat → Nat} {cy : Nat → ClassId} {L : List (Nat × Nat)} (hcl : zclo L = true) (hinj : zAd ad L) : zCk l D ad cy L 6 f_X6_readYears y_X6_readYears (.code y_X6_readYears prog_8_method_8_code 2 (some .int)) :=
  z_met (by decide) t_X6_readYears hcl hinj (fun X hX hR hl k => zgs_all (Q := zSo X) (c := [(42, p_X6_readYears_0), (52, p_X6_readYears_1)]) (fun _ => zs_bad) ⟨s_X6_readYears_0 hcl hinj hX hR hl, s_X6_readYears_1 hcl hinj hX hR hl, trivial⟩ k)
set_option maxRecDepth 1000000 in
theorem e_X6_readYears_0 (h : zH) : zL p_X6_readYears 0 [some (.inr (.inr (6, 0))), none] [] h = zcv (f_X10_begin [(.inr (.inr (10, 0)))] (zuI h 3 5 0 0)) (fun h1 => zL p_X6_readYears 17 [some (.inr (.inr (6, 0))), some (.inl 0)] [] h1) := (zL_s (t_X6_readYears) [0, 17] 1000 0 _ _ _).trans rfl
theorem g_X6_readYears (h : zH) : f_X6_readYears [(.inr (.inr (6, 0)))] h = zcv (f_X10_begin [(.inr (.inr (10, 0)))] (zuI h 3 5 0 0)) (fun h1 => zL p_X6_readYears 17 [some (.inr (.inr (6, 0))), some (.inl 0)] [] h1) := (show f_X6_readYears _ h = zL p_X6_readYears 0 _ [] h from rfl).trans (e_X6_readYears_0 h)
set_option maxRecDepth 1000000 in
theorem e_X6_readYears_17 (x1 : Int32) (h : zH) : zL p_X6_readYears 17 [some (.inr (.inr (6, 0))), some (.inl x1)] [] h = zf (x1 < 1000) (zci (f_X10_isMore [(.inr (.inr (10, 0)))] h) (fun r2 h1 => zf (r2 = 0) (some (some (.inl (h1.1 10 0 7)), h1)) (zcv (f_X6_readLine [(.inr (.inr (6, 0)))] h1) (fun h3 => zL p_X6_readYears 17 [some (.inr (.inr (6, 0))), some (.inl (x1 + 1))] [] h3)))) (some (some (.inl (h.1 10 0 7)), h)) := (zL_s (t_X6_readYears) [0, 17] 1000 17 _ _ _).trans rfl
/-! SoapTreaty$Seen.add(III)Z -/
def y_X7_add : MethodName := ⟨"SoapTreaty$Seen", "add", "(III)Z"⟩
noncomputable def p_X7_add_0 : List (Nat × zO) := [(0, zo_aload 0 1),
  (1, zo_getI 7 0 4),
  (4, zo_push (.inl 8) 6),
  (6, zo_clt 11 9),
  (9, zo_push (.inl 0) 10),
  (10, zo_zretc),
  (11, zo_aload 0 12),
  (12, zo_getR 7 28 none 15),
  (15, zo_aload 0 16),
  (16, zo_getI 7 0 19),
  (19, zo_iload 1 20),
  (20, zo_iast 21),
  (21, zo_aload 0 22),
  (22, zo_getR 7 29 none 25),
  (25, zo_aload 0 26),
  (26, zo_getI 7 0 29),
  (29, zo_iload 2 30),
  (30, zo_iast 31),
  (31, zo_aload 0 32),
  (32, zo_getR 7 30 none 35)]
noncomputable def p_X7_add_1 : List (Nat × zO) := [(35, zo_aload 0 36),
  (36, zo_getI 7 0 39),
  (39, zo_iload 3 40),
  (40, zo_iast 41),
  (41, zo_aload 0 42),
  (42, zo_dup 43),
  (43, zo_getI 7 0 46),
  (46, zo_push (.inl 1) 47),
  (47, zo_ii (fun x y => x + y) 48),
  (48, zo_putI 7 0 51),
  (51, zo_push (.inl 1) 52),
  (52, zo_zretc)]
noncomputable def p_X7_add : Nat → zO := zgs [(33, p_X7_add_0), (53, p_X7_add_1)]
theorem t_X7_add : ∀ k, zTl (p_X7_add k) := fun k => zgs_all (c := [(33, p_X7_add_0), (53, p_X7_add_1)]) (fun _ => zl_bad) ⟨⟨zl_aload, zl_getI, zl_push, zl_clt, zl_push, zl_zretc, zl_aload, zl_getR, zl_aload, zl_getI, zl_iload, zl_iast, zl_aload, zl_getR, zl_aload, zl_getI, zl_iload, zl_iast, zl_aload, zl_getR, trivial⟩, ⟨zl_aload, zl_getI, zl_iload, zl_iast, zl_aload, zl_dup, zl_getI, zl_push, zl_ii, zl_putI, zl_push, zl_zretc, trivial⟩, trivial⟩ k
noncomputable def f_X7_add : zS := zrun p_X7_add 4
set_option maxRecDepth 20000 in
theorem s_X7_add_0 {l : Launch} {D : va_G} {ad : Nat → Nat → Nat} {cy : Nat → ClassId} {L : List (Nat × Nat)} (hcl : zclo L = true) (hinj : zAd ad L) {X : zCtx} (hX : zXok X "SoapTreaty$Seen" prog_9_method_2_code 4) (hR : zRt X (some .boolean)) (hl : zXl X l D ad cy L (zroom 1)) : zAllR (zSo X) p_X7_add_0 := ⟨zs_aload_n (i := 0) rfl hX (by decide +kernel : decode prog_9_method_2_code 0 = .ok (.aload_n 0, 1)) rfl (by decide),
  zs_getI hX zFL_7_19 (by decide) (by decide) (by decide +kernel : decode prog_9_method_2_code 1 = .ok (.getfield 19, 3)) rfl,
  zs_pushI (zg_bipush (by decide) hX (by decide +kernel : decode prog_9_method_2_code 4 = .ok (.bipush 8, 2)) rfl),
  zs_clt hX (by decide +kernel : decode prog_9_method_2_code 6 = .ok (.if_icmp .lt 5, 3)) (by decide) rfl,
  zs_pushI (zg_iconst (by decide) hX (by decide +kernel : decode prog_9_method_2_code 9 = .ok (.iconst 0, 1)) rfl),
  zs_zretc hX hR (by decide +kernel : decode prog_9_method_2_code 10 = .ok (.ireturn, 1)),
  zs_aload_n (i := 0) rfl hX (by decide +kernel : decode prog_9_method_2_code 11 = .ok (.aload_n 0, 1)) rfl (by decide),
  zs_getR hX zFL_7_9 (by decide +kernel : decode prog_9_method_2_code 12 = .ok (.getfield 9, 3)) rfl,
  zs_aload_n (i := 0) rfl hX (by decide +kernel : decode prog_9_method_2_code 15 = .ok (.aload_n 0, 1)) rfl (by decide),
  zs_getI hX zFL_7_19 (by decide) (by decide) (by decide +kernel : decode prog_9_method_2_code 16 = .ok (.getfield 19, 3)) rfl,
  zs_iload_n (i := 1) rfl hX (by decide +kernel : decode prog_9_method_2_code 19 = .ok (.iload_n 1, 1)) rfl (by decide),
  zs_iast hX (by decide +kernel : decode prog_9_method_2_code 20 = .ok (.iastore, 1)) rfl,
  zs_aload_n (i := 0) rfl hX (by decide +kernel : decode prog_9_method_2_code 21 = .ok (.aload_n 0, 1)) rfl (by decide),
  zs_getR hX zFL_7_13 (by decide +kernel : decode prog_9_method_2_code 22 = .ok (.getfield 13, 3)) rfl,
  zs_aload_n (i := 0) rfl hX (by decide +kernel : decode prog_9_method_2_code 25 = .ok (.aload_n 0, 1)) rfl (by decide),
  zs_getI hX zFL_7_19 (by decide) (by decide) (by decide +kernel : decode prog_9_method_2_code 26 = .ok (.getfield 19, 3)) rfl,
  zs_iload_n (i := 2) rfl hX (by decide +kernel : decode prog_9_method_2_code 29 = .ok (.iload_n 2, 1)) rfl (by decide),
  zs_iast hX (by decide +kernel : decode prog_9_method_2_code 30 = .ok (.iastore, 1)) rfl,
  zs_aload_n (i := 0) rfl hX (by decide +kernel : decode prog_9_method_2_code 31 = .ok (.aload_n 0, 1)) rfl (by decide),
  zs_getR hX zFL_7_16 (by decide +kernel : decode prog_9_method_2_code 32 = .ok (.getfield 16, 3)) rfl, trivial⟩
set_option maxRecDepth 20000 in
theorem s_X7_add_1 {l : Launch} {D : va_G} {ad : Nat → Nat → Nat} {cy : Nat → ClassId} {L : List (Nat × Nat)} (hcl : zclo L = true) (hinj : zAd ad L) {X : zCtx} (hX : zXok X "SoapTreaty$Seen" prog_9_method_2_code 4) (hR : zRt X (some .boolean)) (hl : zXl X l D ad cy L (zroom 1)) : zAllR (zSo X) p_X7_add_1 := ⟨zs_aload_n (i := 0) rfl hX (by decide +kernel : decode prog_9_method_2_code 35 = .ok (.aload_n 0, 1)) rfl (by decide),
  zs_getI hX zFL_7_19 (by decide) (by decide) (by decide +kernel : decode prog_9_method_2_code 36 = .ok (.getfield 19, 3)) rfl,
  zs_iload_n (i := 3) rfl hX (by decide +kernel : decode prog_9_method_2_code 39 = .ok (.iload_n 3, 1)) rfl (by decide),
  zs_iast hX (by decide +kernel : decode prog_9_method_2_code 40 = .ok (.iastore, 1)) rfl,
  zs_aload_n (i := 0) rfl hX (by decide +kernel : decode prog_9_method_2_code 41 = .ok (.aload_n 0, 1)) rfl (by decide),
  zs_dup hX (by decide +kernel : decode prog_9_method_2_code 42 = .ok (.dup, 1)) rfl,
  zs_getI hX zFL_7_19 (by decide) (by decide) (by decide +kernel : decode prog_9_method_2_code 43 = .ok (.getfield 19, 3)) rfl,
  zs_pushI (zg_iconst (by decide) hX (by decide +kernel : decode prog_9_method_2_code 46 = .ok (.iconst 1, 1)) rfl),
  zs_ii (zg_iadd hX (by decide +kernel : decode prog_9_method_2_code 47 = .ok (.iadd, 1)) rfl),
  zs_putI hX zFP_7_19 (by decide +kernel : decode prog_9_method_2_code 48 = .ok (.putfield 19, 3)) rfl,
  zs_pushI (zg_iconst (by decide) hX (by decide +kernel : decode prog_9_method_2_code 51 = .ok (.iconst 1, 1)) rfl),
  zs_zretc hX hR (by decide +kernel : decode prog_9_method_2_code 52 = .ok (.ireturn, 1)), trivial⟩
theorem k_X7_add {l : Launch} {D : va_G} {ad : Nat → Nat → Nat} {cy : Nat → ClassId} {L : List (Nat × Nat)} (hcl : zclo L = true) (hinj : zAd ad L) : zCk l D ad cy L 1 f_X7_add y_X7_add (.code y_X7_add prog_9_method_2_code 4 (some .boolean)) :=
  z_met (by decide) t_X7_add hcl hinj (fun X hX hR hl k => zgs_all (Q := zSo X) (c := [(33, p_X7_add_0), (53, p_X7_add_1)]) (fun _ => zs_bad) ⟨s_X7_add_0 hcl hinj hX hR hl, s_X7_add_1 hcl hinj hX hR hl, trivial⟩ k)
set_option maxRecDepth 1000000 in
theorem e_X7_add_0 (jx0 : Nat) (x1 : Int32) (x2 : Int32) (x3 : Int32) (h : zH) : zL p_X7_add 0 [some (.inr (.inr (7, jx0))), some (.inl x1), some (.inl x2), some (.inl x3)] [] h = zf ((h.1 7 jx0 0) < 8) (zf (vp_in (h.1 7 jx0 0) 8) (zf (vp_in (h.1 7 jx0 0) 8) (zf (vp_in (h.1 7 jx0 0) 8) (some (some (.inl 1), (zuI (zuI (zuI (zuI h 28 jx0 (h.1 7 jx0 0).toNatClampNeg x1) 29 jx0 (h.1 7 jx0 0).toNatClampNeg x2) 30 jx0 (h.1 7 jx0 0).toNatClampNeg x3) 7 jx0 0 ((h.1 7 jx0 0) + (1 : Int32))))) none) none) none) (some (some (.inl 0), h)) := (zL_s (t_X7_add) [0] 1000 0 _ _ _).trans rfl
theorem g_X7_add (jx0 : Nat) (x1 : Int32) (x2 : Int32) (x3 : Int32) (h : zH) : f_X7_add [(.inr (.inr (7, jx0))), (.inl x1), (.inl x2), (.inl x3)] h = zf ((h.1 7 jx0 0) < 8) (zf (vp_in (h.1 7 jx0 0) 8) (zf (vp_in (h.1 7 jx0 0) 8) (zf (vp_in (h.1 7 jx0 0) 8) (some (some (.inl 1), (zuI (zuI (zuI (zuI h 28 jx0 (h.1 7 jx0 0).toNatClampNeg x1) 29 jx0 (h.1 7 jx0 0).toNatClampNeg x2) 30 jx0 (h.1 7 jx0 0).toNatClampNeg x3) 7 jx0 0 ((h.1 7 jx0 0) + (1 : Int32))))) none) none) none) (some (some (.inl 0), h)) := (show f_X7_add _ h = zL p_X7_add 0 _ [] h from rfl).trans (e_X7_add_0 jx0 x1 x2 x3 h)
theorem zMV_8_47 : zMV "SoapTreaty$State" 47 0 y_X0_hasCake prog_2_method_5_code 2 (some .boolean) 1 := ⟨⟨zT_of 831 (by decide +kernel) (by decide +kernel), zT_of 660 (by decide +kernel) (by decide +kernel), zT_of 661 (by decide +kernel) (by decide +kernel), zT_of 104 (by decide +kernel) (by decide +kernel), zT_of 662 (by decide +kernel) (by decide +kernel)⟩, by decide, rfl, ⟨zT0, 13, rfl⟩, by decide, by decide, by decide +kernel⟩
/-! SoapTreaty$State.isThere(I)Z -/
def y_X8_isThere : MethodName := ⟨"SoapTreaty$State", "isThere", "(I)Z"⟩
noncomputable def p_X8_isThere_0 : List (Nat × zO) := [(0, zo_aload 0 1),
  (1, zo_getR 8 0 (some 0) 4),
  (4, zo_iload 1 5),
  (5, zo_vir 0 2 (zo_calli (f_X0_hasCake) 2 8)),
  (8, zo_0eq 24 11),
  (11, zo_aload 0 12),
  (12, zo_getR 8 32 none 15),
  (15, zo_iload 1 16),
  (16, zo_iald 17),
  (17, zo_0le 24 20),
  (20, zo_push (.inl 1) 21),
  (21, zo_goto 25),
  (24, zo_push (.inl 0) 25),
  (25, zo_zretc)]
noncomputable def p_X8_isThere : Nat → zO := zgs [(26, p_X8_isThere_0)]
theorem t_X8_isThere : ∀ k, zTl (p_X8_isThere k) := fun k => zgs_all (c := [(26, p_X8_isThere_0)]) (fun _ => zl_bad) ⟨⟨zl_aload, zl_getR, zl_iload, (zl_vir zl_calli), zl_0eq, zl_aload, zl_getR, zl_iload, zl_iald, zl_0le, zl_push, zl_goto, zl_push, zl_zretc, trivial⟩, trivial⟩ k
noncomputable def f_X8_isThere : zS := zrun p_X8_isThere 2
set_option maxRecDepth 20000 in
theorem s_X8_isThere_0 {l : Launch} {D : va_G} {ad : Nat → Nat → Nat} {cy : Nat → ClassId} {L : List (Nat × Nat)} (hcl : zclo L = true) (hinj : zAd ad L) {X : zCtx} (hX : zXok X "SoapTreaty$State" prog_10_method_4_code 2) (hR : zRt X (some .boolean)) (hl : zXl X l D ad cy L (zroom 2)) : zAllR (zSo X) p_X8_isThere_0 := ⟨zs_aload_n (i := 0) rfl hX (by decide +kernel : decode prog_10_method_4_code 0 = .ok (.aload_n 0, 1)) rfl (by decide),
  zs_getR hX zFL_8_23 (by decide +kernel : decode prog_10_method_4_code 1 = .ok (.getfield 23, 3)) rfl,
  zs_iload_n (i := 1) rfl hX (by decide +kernel : decode prog_10_method_4_code 4 = .ok (.iload_n 1, 1)) rfl (by decide),
  zs_callVi hX zMV_8_47 (zXc_of hl (by decide) (k_X0_hasCake hcl hinj)) (by decide +kernel : decode prog_10_method_4_code 5 = .ok (.invokevirtual 47, 3)) rfl,
  zs_0eq hX (by decide +kernel : decode prog_10_method_4_code 8 = .ok (.ifCond .eq 16, 3)) (by decide) rfl,
  zs_aload_n (i := 0) rfl hX (by decide +kernel : decode prog_10_method_4_code 11 = .ok (.aload_n 0, 1)) rfl (by decide),
  zs_getR hX zFL_8_17 (by decide +kernel : decode prog_10_method_4_code 12 = .ok (.getfield 17, 3)) rfl,
  zs_iload_n (i := 1) rfl hX (by decide +kernel : decode prog_10_method_4_code 15 = .ok (.iload_n 1, 1)) rfl (by decide),
  zs_iald hX (by decide +kernel : decode prog_10_method_4_code 16 = .ok (.iaload, 1)) rfl,
  zs_0le hX (by decide +kernel : decode prog_10_method_4_code 17 = .ok (.ifCond .le 7, 3)) (by decide) rfl,
  zs_pushI (zg_iconst (by decide) hX (by decide +kernel : decode prog_10_method_4_code 20 = .ok (.iconst 1, 1)) rfl),
  zs_goto hX (by decide +kernel : decode prog_10_method_4_code 21 = .ok (.goto 4, 3)) (by decide),
  zs_pushI (zg_iconst (by decide) hX (by decide +kernel : decode prog_10_method_4_code 24 = .ok (.iconst 0, 1)) rfl),
  zs_zretc hX hR (by decide +kernel : decode prog_10_method_4_code 25 = .ok (.ireturn, 1)), trivial⟩
theorem k_X8_isThere {l : Launch} {D : va_G} {ad : Nat → Nat → Nat} {cy : Nat → ClassId} {L : List (Nat × Nat)} (hcl : zclo L = true) (hinj : zAd ad L) : zCk l D ad cy L 2 f_X8_isThere y_X8_isThere (.code y_X8_isThere prog_10_method_4_code 2 (some .boolean)) :=
  z_met (by decide) t_X8_isThere hcl hinj (fun X hX hR hl k => zgs_all (Q := zSo X) (c := [(26, p_X8_isThere_0)]) (fun _ => zs_bad) ⟨s_X8_isThere_0 hcl hinj hX hR hl, trivial⟩ k)
set_option maxRecDepth 1000000 in
theorem e_X8_isThere_0 (jx0 : Nat) (x1 : Int32) (h : zH) : zL p_X8_isThere 0 [some (.inr (.inr (8, jx0))), some (.inl x1)] [] h = zci (f_X0_hasCake [(.inr (.inr (0, 0))), (.inl x1)] h) (fun r2 h1 => zf (r2 = 0) (some (some (.inl 0), h1)) (zf (vp_in x1 7) (zf (0 < (h1.1 32 jx0 x1.toNatClampNeg)) (some (some (.inl 1), h1)) (some (some (.inl 0), h1))) none)) := (zL_s (t_X8_isThere) [0] 1000 0 _ _ _).trans rfl
theorem g_X8_isThere (jx0 : Nat) (x1 : Int32) (h : zH) : f_X8_isThere [(.inr (.inr (8, jx0))), (.inl x1)] h = zci (f_X0_hasCake [(.inr (.inr (0, 0))), (.inl x1)] h) (fun r2 h1 => zf (r2 = 0) (some (some (.inl 0), h1)) (zf (vp_in x1 7) (zf (0 < (h1.1 32 jx0 x1.toNatClampNeg)) (some (some (.inl 1), h1)) (some (some (.inl 0), h1))) none)) := (show f_X8_isThere _ h = zL p_X8_isThere 0 _ [] h from rfl).trans (e_X8_isThere_0 jx0 x1 h)
/-! SoapTreaty$State.hasHair(I)Z -/
def y_X8_hasHair : MethodName := ⟨"SoapTreaty$State", "hasHair", "(I)Z"⟩
noncomputable def p_X8_hasHair_0 : List (Nat × zO) := [(0, zo_aload 0 1),
  (1, zo_getI 8 4 4),
  (4, zo_iload 1 5),
  (5, zo_ii (fun x y => x >>> (y &&& 31)) 6),
  (6, zo_push (.inl 1) 7),
  (7, zo_ii (fun x y => x &&& y) 8),
  (8, zo_push (.inl 1) 9),
  (9, zo_cne 16 12),
  (12, zo_push (.inl 1) 13),
  (13, zo_goto 17),
  (16, zo_push (.inl 0) 17),
  (17, zo_zretc)]
noncomputable def p_X8_hasHair : Nat → zO := zgs [(18, p_X8_hasHair_0)]
theorem t_X8_hasHair : ∀ k, zTl (p_X8_hasHair k) := fun k => zgs_all (c := [(18, p_X8_hasHair_0)]) (fun _ => zl_bad) ⟨⟨zl_aload, zl_getI, zl_iload, zl_ii, zl_push, zl_ii, zl_push, zl_cne, zl_push, zl_goto, zl_push, zl_zretc, trivial⟩, trivial⟩ k
noncomputable def f_X8_hasHair : zS := zrun p_X8_hasHair 2
set_option maxRecDepth 20000 in
theorem s_X8_hasHair_0 {l : Launch} {D : va_G} {ad : Nat → Nat → Nat} {cy : Nat → ClassId} {L : List (Nat × Nat)} (hcl : zclo L = true) (hinj : zAd ad L) {X : zCtx} (hX : zXok X "SoapTreaty$State" prog_10_method_5_code 2) (hR : zRt X (some .boolean)) (hl : zXl X l D ad cy L (zroom 1)) : zAllR (zSo X) p_X8_hasHair_0 := ⟨zs_aload_n (i := 0) rfl hX (by decide +kernel : decode prog_10_method_5_code 0 = .ok (.aload_n 0, 1)) rfl (by decide),
  zs_getI hX zFL_8_37 (by decide) (by decide) (by decide +kernel : decode prog_10_method_5_code 1 = .ok (.getfield 37, 3)) rfl,
  zs_iload_n (i := 1) rfl hX (by decide +kernel : decode prog_10_method_5_code 4 = .ok (.iload_n 1, 1)) rfl (by decide),
  zs_ii (zg_ishr hX (by decide +kernel : decode prog_10_method_5_code 5 = .ok (.ishr, 1)) rfl),
  zs_pushI (zg_iconst (by decide) hX (by decide +kernel : decode prog_10_method_5_code 6 = .ok (.iconst 1, 1)) rfl),
  zs_ii (zg_iand hX (by decide +kernel : decode prog_10_method_5_code 7 = .ok (.iand, 1)) rfl),
  zs_pushI (zg_iconst (by decide) hX (by decide +kernel : decode prog_10_method_5_code 8 = .ok (.iconst 1, 1)) rfl),
  zs_cne hX (by decide +kernel : decode prog_10_method_5_code 9 = .ok (.if_icmp .ne 7, 3)) (by decide) rfl,
  zs_pushI (zg_iconst (by decide) hX (by decide +kernel : decode prog_10_method_5_code 12 = .ok (.iconst 1, 1)) rfl),
  zs_goto hX (by decide +kernel : decode prog_10_method_5_code 13 = .ok (.goto 4, 3)) (by decide),
  zs_pushI (zg_iconst (by decide) hX (by decide +kernel : decode prog_10_method_5_code 16 = .ok (.iconst 0, 1)) rfl),
  zs_zretc hX hR (by decide +kernel : decode prog_10_method_5_code 17 = .ok (.ireturn, 1)), trivial⟩
theorem k_X8_hasHair {l : Launch} {D : va_G} {ad : Nat → Nat → Nat} {cy : Nat → ClassId} {L : List (Nat × Nat)} (hcl : zclo L = true) (hinj : zAd ad L) : zCk l D ad cy L 1 f_X8_hasHair y_X8_hasHair (.code y_X8_hasHair prog_10_method_5_code 2 (some .boolean)) :=
  z_met (by decide) t_X8_hasHair hcl hinj (fun X hX hR hl k => zgs_all (Q := zSo X) (c := [(18, p_X8_hasHair_0)]) (fun _ => zs_bad) ⟨s_X8_hasHair_0 hcl hinj hX hR hl, trivial⟩ k)
set_option maxRecDepth 1000000 in
theorem e_X8_hasHair_0 (jx0 : Nat) (x1 : Int32) (h : zH) : zL p_X8_hasHair 0 [some (.inr (.inr (8, jx0))), some (.inl x1)] [] h = zf ((((h.1 8 jx0 4) >>> (x1 &&& 31)) &&& (1 : Int32)) = 1) (some (some (.inl 1), h)) (some (some (.inl 0), h)) := (zL_s (t_X8_hasHair) [0] 1000 0 _ _ _).trans rfl
theorem g_X8_hasHair (jx0 : Nat) (x1 : Int32) (h : zH) : f_X8_hasHair [(.inr (.inr (8, jx0))), (.inl x1)] h = zf ((((h.1 8 jx0 4) >>> (x1 &&& 31)) &&& (1 : Int32)) = 1) (some (some (.inl 1), h)) (some (some (.inl 0), h)) := (show f_X8_hasHair _ h = zL p_X8_hasHair 0 _ [] h from rfl).trans (e_X8_hasHair_0 jx0 x1 h)
/-! SoapTreaty$State.isFound(I)Z -/
def y_X8_isFound : MethodName := ⟨"SoapTreaty$State", "isFound", "(I)Z"⟩
noncomputable def p_X8_isFound_0 : List (Nat × zO) := [(0, zo_aload 0 1),
  (1, zo_getR 8 0 (some 0) 4),
  (4, zo_iload 1 5),
  (5, zo_vir 0 2 (zo_calli (f_X0_hasCake) 2 8)),
  (8, zo_0eq 46 11),
  (11, zo_aload 0 12),
  (12, zo_getR 8 0 (some 0) 15),
  (15, zo_getR 0 21 none 18),
  (18, zo_iload 1 19),
  (19, zo_iald 20),
  (20, zo_push (.inl zm1) 21),
  (21, zo_ceq 46 24),
  (24, zo_aload 0 25),
  (25, zo_getR 8 32 none 28),
  (28, zo_iload 1 29),
  (29, zo_iald 30),
  (30, zo_aload 0 31),
  (31, zo_getR 8 0 (some 0) 34),
  (34, zo_getR 0 21 none 37),
  (37, zo_iload 1 38)]
noncomputable def p_X8_isFound_1 : List (Nat × zO) := [(38, zo_iald 39),
  (39, zo_cgt 46 42),
  (42, zo_push (.inl 1) 43),
  (43, zo_goto 47),
  (46, zo_push (.inl 0) 47),
  (47, zo_zretc)]
noncomputable def p_X8_isFound : Nat → zO := zgs [(38, p_X8_isFound_0), (48, p_X8_isFound_1)]
theorem t_X8_isFound : ∀ k, zTl (p_X8_isFound k) := fun k => zgs_all (c := [(38, p_X8_isFound_0), (48, p_X8_isFound_1)]) (fun _ => zl_bad) ⟨⟨zl_aload, zl_getR, zl_iload, (zl_vir zl_calli), zl_0eq, zl_aload, zl_getR, zl_getR, zl_iload, zl_iald, zl_push, zl_ceq, zl_aload, zl_getR, zl_iload, zl_iald, zl_aload, zl_getR, zl_getR, zl_iload, trivial⟩, ⟨zl_iald, zl_cgt, zl_push, zl_goto, zl_push, zl_zretc, trivial⟩, trivial⟩ k
noncomputable def f_X8_isFound : zS := zrun p_X8_isFound 2
set_option maxRecDepth 20000 in
theorem s_X8_isFound_0 {l : Launch} {D : va_G} {ad : Nat → Nat → Nat} {cy : Nat → ClassId} {L : List (Nat × Nat)} (hcl : zclo L = true) (hinj : zAd ad L) {X : zCtx} (hX : zXok X "SoapTreaty$State" prog_10_method_6_code 2) (hR : zRt X (some .boolean)) (hl : zXl X l D ad cy L (zroom 2)) : zAllR (zSo X) p_X8_isFound_0 := ⟨zs_aload_n (i := 0) rfl hX (by decide +kernel : decode prog_10_method_6_code 0 = .ok (.aload_n 0, 1)) rfl (by decide),
  zs_getR hX zFL_8_23 (by decide +kernel : decode prog_10_method_6_code 1 = .ok (.getfield 23, 3)) rfl,
  zs_iload_n (i := 1) rfl hX (by decide +kernel : decode prog_10_method_6_code 4 = .ok (.iload_n 1, 1)) rfl (by decide),
  zs_callVi hX zMV_8_47 (zXc_of hl (by decide) (k_X0_hasCake hcl hinj)) (by decide +kernel : decode prog_10_method_6_code 5 = .ok (.invokevirtual 47, 3)) rfl,
  zs_0eq hX (by decide +kernel : decode prog_10_method_6_code 8 = .ok (.ifCond .eq 38, 3)) (by decide) rfl,
  zs_aload_n (i := 0) rfl hX (by decide +kernel : decode prog_10_method_6_code 11 = .ok (.aload_n 0, 1)) rfl (by decide),
  zs_getR hX zFL_8_23 (by decide +kernel : decode prog_10_method_6_code 12 = .ok (.getfield 23, 3)) rfl,
  zs_getR hX zFL_8_51 (by decide +kernel : decode prog_10_method_6_code 15 = .ok (.getfield 51, 3)) rfl,
  zs_iload_n (i := 1) rfl hX (by decide +kernel : decode prog_10_method_6_code 18 = .ok (.iload_n 1, 1)) rfl (by decide),
  zs_iald hX (by decide +kernel : decode prog_10_method_6_code 19 = .ok (.iaload, 1)) rfl,
  zs_pushI (zg_iconst (by decide) hX (by decide +kernel : decode prog_10_method_6_code 20 = .ok (.iconst (-1), 1)) rfl),
  zs_ceq hX (by decide +kernel : decode prog_10_method_6_code 21 = .ok (.if_icmp .eq 25, 3)) (by decide) rfl,
  zs_aload_n (i := 0) rfl hX (by decide +kernel : decode prog_10_method_6_code 24 = .ok (.aload_n 0, 1)) rfl (by decide),
  zs_getR hX zFL_8_17 (by decide +kernel : decode prog_10_method_6_code 25 = .ok (.getfield 17, 3)) rfl,
  zs_iload_n (i := 1) rfl hX (by decide +kernel : decode prog_10_method_6_code 28 = .ok (.iload_n 1, 1)) rfl (by decide),
  zs_iald hX (by decide +kernel : decode prog_10_method_6_code 29 = .ok (.iaload, 1)) rfl,
  zs_aload_n (i := 0) rfl hX (by decide +kernel : decode prog_10_method_6_code 30 = .ok (.aload_n 0, 1)) rfl (by decide),
  zs_getR hX zFL_8_23 (by decide +kernel : decode prog_10_method_6_code 31 = .ok (.getfield 23, 3)) rfl,
  zs_getR hX zFL_8_51 (by decide +kernel : decode prog_10_method_6_code 34 = .ok (.getfield 51, 3)) rfl,
  zs_iload_n (i := 1) rfl hX (by decide +kernel : decode prog_10_method_6_code 37 = .ok (.iload_n 1, 1)) rfl (by decide), trivial⟩
set_option maxRecDepth 20000 in
theorem s_X8_isFound_1 {l : Launch} {D : va_G} {ad : Nat → Nat → Nat} {cy : Nat → ClassId} {L : List (Nat × Nat)} (hcl : zclo L = true) (hinj : zAd ad L) {X : zCtx} (hX : zXok X "SoapTreaty$State" prog_10_method_6_code 2) (hR : zRt X (some .boolean)) (hl : zXl X l D ad cy L (zroom 2)) : zAllR (zSo X) p_X8_isFound_1 := ⟨zs_iald hX (by decide +kernel : decode prog_10_method_6_code 38 = .ok (.iaload, 1)) rfl,
  zs_cgt hX (by decide +kernel : decode prog_10_method_6_code 39 = .ok (.if_icmp .gt 7, 3)) (by decide) rfl,
  zs_pushI (zg_iconst (by decide) hX (by decide +kernel : decode prog_10_method_6_code 42 = .ok (.iconst 1, 1)) rfl),
  zs_goto hX (by decide +kernel : decode prog_10_method_6_code 43 = .ok (.goto 4, 3)) (by decide),
  zs_pushI (zg_iconst (by decide) hX (by decide +kernel : decode prog_10_method_6_code 46 = .ok (.iconst 0, 1)) rfl),
  zs_zretc hX hR (by decide +kernel : decode prog_10_method_6_code 47 = .ok (.ireturn, 1)), trivial⟩
theorem k_X8_isFound {l : Launch} {D : va_G} {ad : Nat → Nat → Nat} {cy : Nat → ClassId} {L : List (Nat × Nat)} (hcl : zclo L = true) (hinj : zAd ad L) : zCk l D ad cy L 2 f_X8_isFound y_X8_isFound (.code y_X8_isFound prog_10_method_6_code 2 (some .boolean)) :=
  z_met (by decide) t_X8_isFound hcl hinj (fun X hX hR hl k => zgs_all (Q := zSo X) (c := [(38, p_X8_isFound_0), (48, p_X8_isFound_1)]) (fun _ => zs_bad) ⟨s_X8_isFound_0 hcl hinj hX hR hl, s_X8_isFound_1 hcl hinj hX hR hl, trivial⟩ k)
set_option maxRecDepth 1000000 in
theorem e_X8_isFound_0 (jx0 : Nat) (x1 : Int32) (h : zH) : zL p_X8_isFound 0 [some (.inr (.inr (8, jx0))), some (.inl x1)] [] h = zci (f_X0_hasCake [(.inr (.inr (0, 0))), (.inl x1)] h) (fun r2 h1 => zf (r2 = 0) (some (some (.inl 0), h1)) (zf (vp_in x1 7) (zf ((h1.1 21 0 x1.toNatClampNeg) = zm1) (some (some (.inl 0), h1)) (zf (vp_in x1 7) (zf (vp_in x1 7) (zf ((h1.1 21 0 x1.toNatClampNeg) < (h1.1 32 jx0 x1.toNatClampNeg)) (some (some (.inl 0), h1)) (some (some (.inl 1), h1))) none) none)) none)) := (zL_s (t_X8_isFound) [0] 1000 0 _ _ _).trans rfl
theorem g_X8_isFound (jx0 : Nat) (x1 : Int32) (h : zH) : f_X8_isFound [(.inr (.inr (8, jx0))), (.inl x1)] h = zci (f_X0_hasCake [(.inr (.inr (0, 0))), (.inl x1)] h) (fun r2 h1 => zf (r2 = 0) (some (some (.inl 0), h1)) (zf (vp_in x1 7) (zf ((h1.1 21 0 x1.toNatClampNeg) = zm1) (some (some (.inl 0), h1)) (zf (vp_in x1 7) (zf (vp_in x1 7) (zf ((h1.1 21 0 x1.toNatClampNeg) < (h1.1 32 jx0 x1.toNatClampNeg)) (some (some (.inl 0), h1)) (some (some (.inl 1), h1))) none) none)) none)) := (show f_X8_isFound _ h = zL p_X8_isFound 0 _ [] h from rfl).trans (e_X8_isFound_0 jx0 x1 h)
theorem zMV_8_57 : zMV "SoapTreaty$State" 57 8 y_X8_isFound prog_10_method_6_code 2 (some .boolean) 1 := ⟨⟨zT_of 940 (by decide +kernel) (by decide +kernel), zT_of 828 (by decide +kernel) (by decide +kernel), zT_of 829 (by decide +kernel) (by decide +kernel), zT_of 115 (by decide +kernel) (by decide +kernel), zT_of 830 (by decide +kernel) (by decide +kernel)⟩, by decide, rfl, ⟨zT8, 7, rfl⟩, by decide, by decide, by decide +kernel⟩
/-! SoapTreaty$State.isAnyFound()Z -/
def y_X8_isAnyFound : MethodName := ⟨"SoapTreaty$State", "isAnyFound", "()Z"⟩
noncomputable def p_X8_isAnyFound_0 : List (Nat × zO) := [(0, zo_push (.inl 0) 1),
  (1, zo_istore 1 2),
  (2, zo_iload 1 3),
  (3, zo_aload 0 4),
  (4, zo_getR 8 0 (some 0) 7),
  (7, zo_getI 0 4 10),
  (10, zo_cge 29 13),
  (13, zo_aload 0 14),
  (14, zo_iload 1 15),
  (15, zo_vir 8 2 (zo_calli (f_X8_isFound) 2 18)),
  (18, zo_0eq 23 21),
  (21, zo_push (.inl 1) 22),
  (22, zo_zretc),
  (23, zo_iinc 1 1 26),
  (26, zo_goto 2),
  (29, zo_push (.inl 0) 30),
  (30, zo_zretc)]
noncomputable def p_X8_isAnyFound : Nat → zO := zgs [(31, p_X8_isAnyFound_0)]
theorem t_X8_isAnyFound : ∀ k, zTl (p_X8_isAnyFound k) := fun k => zgs_all (c := [(31, p_X8_isAnyFound_0)]) (fun _ => zl_bad) ⟨⟨zl_push, zl_istore, zl_iload, zl_aload, zl_getR, zl_getI, zl_cge, zl_aload, zl_iload, (zl_vir zl_calli), zl_0eq, zl_push, zl_zretc, zl_iinc, zl_goto, zl_push, zl_zretc, trivial⟩, trivial⟩ k
noncomputable def f_X8_isAnyFound : zS := zrun p_X8_isAnyFound 2
set_option maxRecDepth 20000 in
theorem s_X8_isAnyFound_0 {l : Launch} {D : va_G} {ad : Nat → Nat → Nat} {cy : Nat → ClassId} {L : List (Nat × Nat)} (hcl : zclo L = true) (hinj : zAd ad L) {X : zCtx} (hX : zXok X "SoapTreaty$State" prog_10_method_7_code 2) (hR : zRt X (some .boolean)) (hl : zXl X l D ad cy L (zroom 3)) : zAllR (zSo X) p_X8_isAnyFound_0 := ⟨zs_pushI (zg_iconst (by decide) hX (by decide +kernel : decode prog_10_method_7_code 0 = .ok (.iconst 0, 1)) rfl),
  zs_istore_n (i := 1) rfl hX (by decide +kernel : decode prog_10_method_7_code 1 = .ok (.istore_n 1, 1)) rfl (by decide),
  zs_iload_n (i := 1) rfl hX (by decide +kernel : decode prog_10_method_7_code 2 = .ok (.iload_n 1, 1)) rfl (by decide),
  zs_aload_n (i := 0) rfl hX (by decide +kernel : decode prog_10_method_7_code 3 = .ok (.aload_n 0, 1)) rfl (by decide),
  zs_getR hX zFL_8_23 (by decide +kernel : decode prog_10_method_7_code 4 = .ok (.getfield 23, 3)) rfl,
  zs_getI hX zFL_8_54 (by decide) (by decide) (by decide +kernel : decode prog_10_method_7_code 7 = .ok (.getfield 54, 3)) rfl,
  zs_cge hX (by decide +kernel : decode prog_10_method_7_code 10 = .ok (.if_icmp .ge 19, 3)) (by decide) rfl,
  zs_aload_n (i := 0) rfl hX (by decide +kernel : decode prog_10_method_7_code 13 = .ok (.aload_n 0, 1)) rfl (by decide),
  zs_iload_n (i := 1) rfl hX (by decide +kernel : decode prog_10_method_7_code 14 = .ok (.iload_n 1, 1)) rfl (by decide),
  zs_callVi hX zMV_8_57 (zXc_of hl (by decide) (k_X8_isFound hcl hinj)) (by decide +kernel : decode prog_10_method_7_code 15 = .ok (.invokevirtual 57, 3)) rfl,
  zs_0eq hX (by decide +kernel : decode prog_10_method_7_code 18 = .ok (.ifCond .eq 5, 3)) (by decide) rfl,
  zs_pushI (zg_iconst (by decide) hX (by decide +kernel : decode prog_10_method_7_code 21 = .ok (.iconst 1, 1)) rfl),
  zs_zretc hX hR (by decide +kernel : decode prog_10_method_7_code 22 = .ok (.ireturn, 1)),
  zs_iinc hX (by decide +kernel : decode prog_10_method_7_code 23 = .ok (.iinc 1 1, 3)) (by decide) rfl (by decide),
  zs_goto hX (by decide +kernel : decode prog_10_method_7_code 26 = .ok (.goto (-24), 3)) (by decide),
  zs_pushI (zg_iconst (by decide) hX (by decide +kernel : decode prog_10_method_7_code 29 = .ok (.iconst 0, 1)) rfl),
  zs_zretc hX hR (by decide +kernel : decode prog_10_method_7_code 30 = .ok (.ireturn, 1)), trivial⟩
theorem k_X8_isAnyFound {l : Launch} {D : va_G} {ad : Nat → Nat → Nat} {cy : Nat → ClassId} {L : List (Nat × Nat)} (hcl : zclo L = true) (hinj : zAd ad L) : zCk l D ad cy L 3 f_X8_isAnyFound y_X8_isAnyFound (.code y_X8_isAnyFound prog_10_method_7_code 2 (some .boolean)) :=
  z_met (by decide) t_X8_isAnyFound hcl hinj (fun X hX hR hl k => zgs_all (Q := zSo X) (c := [(31, p_X8_isAnyFound_0)]) (fun _ => zs_bad) ⟨s_X8_isAnyFound_0 hcl hinj hX hR hl, trivial⟩ k)
set_option maxRecDepth 1000000 in
theorem e_X8_isAnyFound_0 (jx0 : Nat) (h : zH) : zL p_X8_isAnyFound 0 [some (.inr (.inr (8, jx0))), none] [] h = zL p_X8_isAnyFound 2 [some (.inr (.inr (8, jx0))), some (.inl 0)] [] h := (zL_s (t_X8_isAnyFound) [0, 2] 1000 0 _ _ _).trans rfl
theorem g_X8_isAnyFound (jx0 : Nat) (h : zH) : f_X8_isAnyFound [(.inr (.inr (8, jx0)))] h = zL p_X8_isAnyFound 2 [some (.inr (.inr (8, jx0))), some (.inl 0)] [] h := (show f_X8_isAnyFound _ h = zL p_X8_isAnyFound 0 _ [] h from rfl).trans (e_X8_isAnyFound_0 jx0 h)
set_option maxRecDepth 1000000 in
theorem e_X8_isAnyFound_2 (jx0 : Nat) (x1 : Int32) (h : zH) : zL p_X8_isAnyFound 2 [some (.inr (.inr (8, jx0))), some (.inl x1)] [] h = zf (x1 < (h.1 0 0 4)) (zci (f_X8_isFound [(.inr (.inr (8, jx0))), (.inl x1)] h) (fun r2 h1 => zf (r2 = 0) (zL p_X8_isAnyFound 2 [some (.inr (.inr (8, jx0))), some (.inl (x1 + 1))] [] h1) (some (some (.inl 1), h1)))) (some (some (.inl 0), h)) := (zL_s (t_X8_isAnyFound) [0, 2] 1000 2 _ _ _).trans rfl
theorem zMV_8_60 : zMV "SoapTreaty$State" 60 8 y_X8_isThere prog_10_method_4_code 2 (some .boolean) 1 := ⟨⟨zT_of 844 (by decide +kernel) (by decide +kernel), zT_of 845 (by decide +kernel) (by decide +kernel), zT_of 846 (by decide +kernel) (by decide +kernel), zT_of 115 (by decide +kernel) (by decide +kernel), zT_of 847 (by decide +kernel) (by decide +kernel)⟩, by decide, rfl, ⟨zT8, 7, rfl⟩, by decide, by decide, by decide +kernel⟩
theorem zMV_8_66 : zMV "SoapTreaty$State" 66 0 y_X0_hasPower prog_2_method_4_code 2 (some .boolean) 1 := ⟨⟨zT_of 848 (by decide +kernel) (by decide +kernel), zT_of 762 (by decide +kernel) (by decide +kernel), zT_of 763 (by decide +kernel) (by decide +kernel), zT_of 104 (by decide +kernel) (by decide +kernel), zT_of 764 (by decide +kernel) (by decide +kernel)⟩, by decide, rfl, ⟨zT0, 13, rfl⟩, by decide, by decide, by decide +kernel⟩
theorem zMV_8_63 : zMV "SoapTreaty$State" 63 8 y_X8_hasHair prog_10_method_5_code 2 (some .boolean) 1 := ⟨⟨zT_of 800 (by decide +kernel) (by decide +kernel), zT_of 801 (by decide +kernel) (by decide +kernel), zT_of 802 (by decide +kernel) (by decide +kernel), zT_of 115 (by decide +kernel) (by decide +kernel), zT_of 803 (by decide +kernel) (by decide +kernel)⟩, by decide, rfl, ⟨zT8, 7, rfl⟩, by decide, by decide, by decide +kernel⟩
/-! SoapTreaty$State.can(III)Z -/
def y_X8_can : MethodName := ⟨"SoapTreaty$State", "can", "(III)Z"⟩
noncomputable def p_X8_can_0 : List (Nat × zO) := [(0, zo_iload 1 1),
  (1, zo_push (.inl 5) 2),
  (2, zo_cne 7 5),
  (5, zo_push (.inl 1) 6),
  (6, zo_zretc),
  (7, zo_aload 0 8),
  (8, zo_getR 8 0 (some 0) 11),
  (11, zo_iload 2 12),
  (12, zo_vir 0 2 (zo_calli (f_X0_hasCake) 2 15)),
  (15, zo_0ne 20 18),
  (18, zo_push (.inl 0) 19),
  (19, zo_zretc),
  (20, zo_iload 1 21),
  (21, zo_tsw [(0, 56), (1, 56), (2, 78), (3, 84), (4, 119)] 142),
  (56, zo_aload 0 57),
  (57, zo_iload 2 58),
  (58, zo_vir 8 2 (zo_calli (f_X8_isThere) 2 61)),
  (61, zo_0eq 76 64),
  (64, zo_aload 0 65),
  (65, zo_iload 2 66)]
noncomputable def p_X8_can_1 : List (Nat × zO) := [(66, zo_vir 8 2 (zo_calli (f_X8_hasHair) 2 69)),
  (69, zo_0ne 76 72),
  (72, zo_push (.inl 1) 73),
  (73, zo_goto 77),
  (76, zo_push (.inl 0) 77),
  (77, zo_zretc),
  (78, zo_aload 0 79),
  (79, zo_iload 2 80),
  (80, zo_vir 8 2 (zo_calli (f_X8_hasHair) 2 83)),
  (83, zo_zret),
  (84, zo_aload 0 85),
  (85, zo_iload 2 86),
  (86, zo_vir 8 2 (zo_calli (f_X8_isThere) 2 89)),
  (89, zo_0eq 117 92),
  (92, zo_aload 0 93),
  (93, zo_getR 8 0 (some 0) 96),
  (96, zo_iload 3 97),
  (97, zo_vir 0 2 (zo_calli (f_X0_hasPower) 2 100)),
  (100, zo_0eq 117 103),
  (103, zo_iload 3 104)]
noncomputable def p_X8_can_2 : List (Nat × zO) := [(104, zo_aload 0 105),
  (105, zo_getR 8 31 none 108),
  (108, zo_iload 2 109),
  (109, zo_iald 110),
  (110, zo_ceq 117 113),
  (113, zo_push (.inl 1) 114),
  (114, zo_goto 118),
  (117, zo_push (.inl 0) 118),
  (118, zo_zretc),
  (119, zo_aload 0 120),
  (120, zo_iload 2 121),
  (121, zo_vir 8 2 (zo_calli (f_X8_isThere) 2 124)),
  (124, zo_0eq 140 127),
  (127, zo_aload 0 128),
  (128, zo_getR 8 33 none 131),
  (131, zo_iload 2 132),
  (132, zo_iald 133),
  (133, zo_0le 140 136),
  (136, zo_push (.inl 1) 137),
  (137, zo_goto 141)]
noncomputable def p_X8_can_3 : List (Nat × zO) := [(140, zo_push (.inl 0) 141),
  (141, zo_zretc),
  (142, zo_push (.inl 0) 143),
  (143, zo_zretc)]
noncomputable def p_X8_can : Nat → zO := zgs [(66, p_X8_can_0), (104, p_X8_can_1), (138, p_X8_can_2), (144, p_X8_can_3)]
theorem t_X8_can : ∀ k, zTl (p_X8_can k) := fun k => zgs_all (c := [(66, p_X8_can_0), (104, p_X8_can_1), (138, p_X8_can_2), (144, p_X8_can_3)]) (fun _ => zl_bad) ⟨⟨zl_iload, zl_push, zl_cne, zl_push, zl_zretc, zl_aload, zl_getR, zl_iload, (zl_vir zl_calli), zl_0ne, zl_push, zl_zretc, zl_iload, zl_tsw, zl_aload, zl_iload, (zl_vir zl_calli), zl_0eq, zl_aload, zl_iload, trivial⟩, ⟨(zl_vir zl_calli), zl_0ne, zl_push, zl_goto, zl_push, zl_zretc, zl_aload, zl_iload, (zl_vir zl_calli), zl_zret, zl_aload, zl_iload, (zl_vir zl_calli), zl_0eq, zl_aload, zl_getR, zl_iload, (zl_vir zl_calli), zl_0eq, zl_iload, trivial⟩, ⟨zl_aload, zl_getR, zl_iload, zl_iald, zl_ceq, zl_push, zl_goto, zl_push, zl_zretc, zl_aload, zl_iload, (zl_vir zl_calli), zl_0eq, zl_aload, zl_getR, zl_iload, zl_iald, zl_0le, zl_push, zl_goto, trivial⟩, ⟨zl_push, zl_zretc, zl_push, zl_zretc, trivial⟩, trivial⟩ k
noncomputable def f_X8_can : zS := zrun p_X8_can 4
set_option maxRecDepth 20000 in
theorem s_X8_can_0 {l : Launch} {D : va_G} {ad : Nat → Nat → Nat} {cy : Nat → ClassId} {L : List (Nat × Nat)} (hcl : zclo L = true) (hinj : zAd ad L) {X : zCtx} (hX : zXok X "SoapTreaty$State" prog_10_method_8_code 4) (hR : zRt X (some .boolean)) (hl : zXl X l D ad cy L (zroom 3)) : zAllR (zSo X) p_X8_can_0 := ⟨zs_iload_n (i := 1) rfl hX (by decide +kernel : decode prog_10_method_8_code 0 = .ok (.iload_n 1, 1)) rfl (by decide),
  zs_pushI (zg_iconst (by decide) hX (by decide +kernel : decode prog_10_method_8_code 1 = .ok (.iconst 5, 1)) rfl),
  zs_cne hX (by decide +kernel : decode prog_10_method_8_code 2 = .ok (.if_icmp .ne 5, 3)) (by decide) rfl,
  zs_pushI (zg_iconst (by decide) hX (by decide +kernel : decode prog_10_method_8_code 5 = .ok (.iconst 1, 1)) rfl),
  zs_zretc hX hR (by decide +kernel : decode prog_10_method_8_code 6 = .ok (.ireturn, 1)),
  zs_aload_n (i := 0) rfl hX (by decide +kernel : decode prog_10_method_8_code 7 = .ok (.aload_n 0, 1)) rfl (by decide),
  zs_getR hX zFL_8_23 (by decide +kernel : decode prog_10_method_8_code 8 = .ok (.getfield 23, 3)) rfl,
  zs_iload_n (i := 2) rfl hX (by decide +kernel : decode prog_10_method_8_code 11 = .ok (.iload_n 2, 1)) rfl (by decide),
  zs_callVi hX zMV_8_47 (zXc_of hl (by decide) (k_X0_hasCake hcl hinj)) (by decide +kernel : decode prog_10_method_8_code 12 = .ok (.invokevirtual 47, 3)) rfl,
  zs_0ne hX (by decide +kernel : decode prog_10_method_8_code 15 = .ok (.ifCond .ne 5, 3)) (by decide) rfl,
  zs_pushI (zg_iconst (by decide) hX (by decide +kernel : decode prog_10_method_8_code 18 = .ok (.iconst 0, 1)) rfl),
  zs_zretc hX hR (by decide +kernel : decode prog_10_method_8_code 19 = .ok (.ireturn, 1)),
  zs_iload_n (i := 1) rfl hX (by decide +kernel : decode prog_10_method_8_code 20 = .ok (.iload_n 1, 1)) rfl (by decide),
  zs_tsw hX (by decide +kernel : decode prog_10_method_8_code 21 = .ok (.tableswitch 121 0 4 #[35, 35, 57, 63, 98], 35)) (by decide) (by decide) (by decide) (by decide),
  zs_aload_n (i := 0) rfl hX (by decide +kernel : decode prog_10_method_8_code 56 = .ok (.aload_n 0, 1)) rfl (by decide),
  zs_iload_n (i := 2) rfl hX (by decide +kernel : decode prog_10_method_8_code 57 = .ok (.iload_n 2, 1)) rfl (by decide),
  zs_callVi hX zMV_8_60 (zXc_of hl (by decide) (k_X8_isThere hcl hinj)) (by decide +kernel : decode prog_10_method_8_code 58 = .ok (.invokevirtual 60, 3)) rfl,
  zs_0eq hX (by decide +kernel : decode prog_10_method_8_code 61 = .ok (.ifCond .eq 15, 3)) (by decide) rfl,
  zs_aload_n (i := 0) rfl hX (by decide +kernel : decode prog_10_method_8_code 64 = .ok (.aload_n 0, 1)) rfl (by decide),
  zs_iload_n (i := 2) rfl hX (by decide +kernel : decode prog_10_method_8_code 65 = .ok (.iload_n 2, 1)) rfl (by decide), trivial⟩
set_option maxRecDepth 20000 in
theorem s_X8_can_1 {l : Launch} {D : va_G} {ad : Nat → Nat → Nat} {cy : Nat → ClassId} {L : List (Nat × Nat)} (hcl : zclo L = true) (hinj : zAd ad L) {X : zCtx} (hX : zXok X "SoapTreaty$State" prog_10_method_8_code 4) (hR : zRt X (some .boolean)) (hl : zXl X l D ad cy L (zroom 3)) : zAllR (zSo X) p_X8_can_1 := ⟨zs_callVi hX zMV_8_63 (zXc_of hl (by decide) (k_X8_hasHair hcl hinj)) (by decide +kernel : decode prog_10_method_8_code 66 = .ok (.invokevirtual 63, 3)) rfl,
  zs_0ne hX (by decide +kernel : decode prog_10_method_8_code 69 = .ok (.ifCond .ne 7, 3)) (by decide) rfl,
  zs_pushI (zg_iconst (by decide) hX (by decide +kernel : decode prog_10_method_8_code 72 = .ok (.iconst 1, 1)) rfl),
  zs_goto hX (by decide +kernel : decode prog_10_method_8_code 73 = .ok (.goto 4, 3)) (by decide),
  zs_pushI (zg_iconst (by decide) hX (by decide +kernel : decode prog_10_method_8_code 76 = .ok (.iconst 0, 1)) rfl),
  zs_zretc hX hR (by decide +kernel : decode prog_10_method_8_code 77 = .ok (.ireturn, 1)),
  zs_aload_n (i := 0) rfl hX (by decide +kernel : decode prog_10_method_8_code 78 = .ok (.aload_n 0, 1)) rfl (by decide),
  zs_iload_n (i := 2) rfl hX (by decide +kernel : decode prog_10_method_8_code 79 = .ok (.iload_n 2, 1)) rfl (by decide),
  zs_callVi hX zMV_8_63 (zXc_of hl (by decide) (k_X8_hasHair hcl hinj)) (by decide +kernel : decode prog_10_method_8_code 80 = .ok (.invokevirtual 63, 3)) rfl,
  zs_zret hX hR (by decide +kernel : decode prog_10_method_8_code 83 = .ok (.ireturn, 1)),
  zs_aload_n (i := 0) rfl hX (by decide +kernel : decode prog_10_method_8_code 84 = .ok (.aload_n 0, 1)) rfl (by decide),
  zs_iload_n (i := 2) rfl hX (by decide +kernel : decode prog_10_method_8_code 85 = .ok (.iload_n 2, 1)) rfl (by decide),
  zs_callVi hX zMV_8_60 (zXc_of hl (by decide) (k_X8_isThere hcl hinj)) (by decide +kernel : decode prog_10_method_8_code 86 = .ok (.invokevirtual 60, 3)) rfl,
  zs_0eq hX (by decide +kernel : decode prog_10_method_8_code 89 = .ok (.ifCond .eq 28, 3)) (by decide) rfl,
  zs_aload_n (i := 0) rfl hX (by decide +kernel : decode prog_10_method_8_code 92 = .ok (.aload_n 0, 1)) rfl (by decide),
  zs_getR hX zFL_8_23 (by decide +kernel : decode prog_10_method_8_code 93 = .ok (.getfield 23, 3)) rfl,
  zs_iload_n (i := 3) rfl hX (by decide +kernel : decode prog_10_method_8_code 96 = .ok (.iload_n 3, 1)) rfl (by decide),
  zs_callVi hX zMV_8_66 (zXc_of hl (by decide) (k_X0_hasPower hcl hinj)) (by decide +kernel : decode prog_10_method_8_code 97 = .ok (.invokevirtual 66, 3)) rfl,
  zs_0eq hX (by decide +kernel : decode prog_10_method_8_code 100 = .ok (.ifCond .eq 17, 3)) (by decide) rfl,
  zs_iload_n (i := 3) rfl hX (by decide +kernel : decode prog_10_method_8_code 103 = .ok (.iload_n 3, 1)) rfl (by decide), trivial⟩
set_option maxRecDepth 20000 in
theorem s_X8_can_2 {l : Launch} {D : va_G} {ad : Nat → Nat → Nat} {cy : Nat → ClassId} {L : List (Nat × Nat)} (hcl : zclo L = true) (hinj : zAd ad L) {X : zCtx} (hX : zXok X "SoapTreaty$State" prog_10_method_8_code 4) (hR : zRt X (some .boolean)) (hl : zXl X l D ad cy L (zroom 3)) : zAllR (zSo X) p_X8_can_2 := ⟨zs_aload_n (i := 0) rfl hX (by decide +kernel : decode prog_10_method_8_code 104 = .ok (.aload_n 0, 1)) rfl (by decide),
  zs_getR hX zFL_8_11 (by decide +kernel : decode prog_10_method_8_code 105 = .ok (.getfield 11, 3)) rfl,
  zs_iload_n (i := 2) rfl hX (by decide +kernel : decode prog_10_method_8_code 108 = .ok (.iload_n 2, 1)) rfl (by decide),
  zs_iald hX (by decide +kernel : decode prog_10_method_8_code 109 = .ok (.iaload, 1)) rfl,
  zs_ceq hX (by decide +kernel : decode prog_10_method_8_code 110 = .ok (.if_icmp .eq 7, 3)) (by decide) rfl,
  zs_pushI (zg_iconst (by decide) hX (by decide +kernel : decode prog_10_method_8_code 113 = .ok (.iconst 1, 1)) rfl),
  zs_goto hX (by decide +kernel : decode prog_10_method_8_code 114 = .ok (.goto 4, 3)) (by decide),
  zs_pushI (zg_iconst (by decide) hX (by decide +kernel : decode prog_10_method_8_code 117 = .ok (.iconst 0, 1)) rfl),
  zs_zretc hX hR (by decide +kernel : decode prog_10_method_8_code 118 = .ok (.ireturn, 1)),
  zs_aload_n (i := 0) rfl hX (by decide +kernel : decode prog_10_method_8_code 119 = .ok (.aload_n 0, 1)) rfl (by decide),
  zs_iload_n (i := 2) rfl hX (by decide +kernel : decode prog_10_method_8_code 120 = .ok (.iload_n 2, 1)) rfl (by decide),
  zs_callVi hX zMV_8_60 (zXc_of hl (by decide) (k_X8_isThere hcl hinj)) (by decide +kernel : decode prog_10_method_8_code 121 = .ok (.invokevirtual 60, 3)) rfl,
  zs_0eq hX (by decide +kernel : decode prog_10_method_8_code 124 = .ok (.ifCond .eq 16, 3)) (by decide) rfl,
  zs_aload_n (i := 0) rfl hX (by decide +kernel : decode prog_10_method_8_code 127 = .ok (.aload_n 0, 1)) rfl (by decide),
  zs_getR hX zFL_8_20 (by decide +kernel : decode prog_10_method_8_code 128 = .ok (.getfield 20, 3)) rfl,
  zs_iload_n (i := 2) rfl hX (by decide +kernel : decode prog_10_method_8_code 131 = .ok (.iload_n 2, 1)) rfl (by decide),
  zs_iald hX (by decide +kernel : decode prog_10_method_8_code 132 = .ok (.iaload, 1)) rfl,
  zs_0le hX (by decide +kernel : decode prog_10_method_8_code 133 = .ok (.ifCond .le 7, 3)) (by decide) rfl,
  zs_pushI (zg_iconst (by decide) hX (by decide +kernel : decode prog_10_method_8_code 136 = .ok (.iconst 1, 1)) rfl),
  zs_goto hX (by decide +kernel : decode prog_10_method_8_code 137 = .ok (.goto 4, 3)) (by decide), trivial⟩
set_option maxRecDepth 20000 in
theorem s_X8_can_3 {l : Launch} {D : va_G} {ad : Nat → Nat → Nat} {cy : Nat → ClassId} {L : List (Nat × Nat)} (hcl : zclo L = true) (hinj : zAd ad L) {X : zCtx} (hX : zXok X "SoapTreaty$State" prog_10_method_8_code 4) (hR : zRt X (some .boolean)) (hl : zXl X l D ad cy L (zroom 3)) : zAllR (zSo X) p_X8_can_3 := ⟨zs_pushI (zg_iconst (by decide) hX (by decide +kernel : decode prog_10_method_8_code 140 = .ok (.iconst 0, 1)) rfl),
  zs_zretc hX hR (by decide +kernel : decode prog_10_method_8_code 141 = .ok (.ireturn, 1)),
  zs_pushI (zg_iconst (by decide) hX (by decide +kernel : decode prog_10_method_8_code 142 = .ok (.iconst 0, 1)) rfl),
  zs_zretc hX hR (by decide +kernel : decode prog_10_method_8_code 143 = .ok (.ireturn, 1)), trivial⟩
theorem k_X8_can {l : Launch} {D : va_G} {ad : Nat → Nat → Nat} {cy : Nat → ClassId} {L : List (Nat × Nat)} (hcl : zclo L = true) (hinj : zAd ad L) : zCk l D ad cy L 3 f_X8_can y_X8_can (.code y_X8_can prog_10_method_8_code 4 (some .boolean)) :=
  z_met (by decide) t_X8_can hcl hinj (fun X hX hR hl k => zgs_all (Q := zSo X) (c := [(66, p_X8_can_0), (104, p_X8_can_1), (138, p_X8_can_2), (144, p_X8_can_3)]) (fun _ => zs_bad) ⟨s_X8_can_0 hcl hinj hX hR hl, s_X8_can_1 hcl hinj hX hR hl, s_X8_can_2 hcl hinj hX hR hl, s_X8_can_3 hcl hinj hX hR hl, trivial⟩ k)
set_option maxRecDepth 1000000 in
theorem e_X8_can_0 (jx0 : Nat) (x1 : Int32) (x2 : Int32) (x3 : Int32) (h : zH) : zL p_X8_can 0 [some (.inr (.inr (8, jx0))), some (.inl x1), some (.inl x2), some (.inl x3)] [] h = zf (x1 = 5) (some (some (.inl 1), h)) (zci (f_X0_hasCake [(.inr (.inr (0, 0))), (.inl x2)] h) (fun r2 h1 => zf (r2 = 0) (some (some (.inl 0), h1)) (zf (x1 = 0) (zci (f_X8_isThere [(.inr (.inr (8, jx0))), (.inl x2)] h1) (fun r16 h15 => zf (r16 = 0) (some (some (.inl 0), h15)) (zci (f_X8_hasHair [(.inr (.inr (8, jx0))), (.inl x2)] h15) (fun r18 h17 => zf (r18 = 0) (some (some (.inl 1), h17)) (some (some (.inl 0), h17)))))) (zf (x1 = 1) (zci (f_X8_isThere [(.inr (.inr (8, jx0))), (.inl x2)] h1) (fun r12 h11 => zf (r12 = 0) (some (some (.inl 0), h11)) (zci (f_X8_hasHair [(.inr (.inr (8, jx0))), (.inl x2)] h11) (fun r14 h13 => zf (r14 = 0) (some (some (.inl 1), h13)) (some (some (.inl 0), h13)))))) (zf (x1 = 2) (zci (f_X8_hasHair [(.inr (.inr (8, jx0))), (.inl x2)] h1) (fun r10 h9 => zf ((r10 : Int32) = 0 ∨ (r10 : Int32) = 1) (some (some (.inl r10), h9)) none)) (zf (x1 = 3) (zci (f_X8_isThere [(.inr (.inr (8, jx0))), (.inl x2)] h1) (fun r6 h5 => zf (r6 = 0) (some (some (.inl 0), h5)) (zci (f_X0_hasPower [(.inr (.inr (0, 0))), (.inl x3)] h5) (fun r8 h7 => zf (r8 = 0) (some (some (.inl 0), h7)) (zf (vp_in x2 7) (zf (x3 = (h7.1 31 jx0 x2.toNatClampNeg)) (some (some (.inl 0), h7)) (some (some (.inl 1), h7))) none))))) (zf (x1 = 4) (zci (f_X8_isThere [(.inr (.inr (8, jx0))), (.inl x2)] h1) (fun r4 h3 => zf (r4 = 0) (some (some (.inl 0), h3)) (zf (vp_in x2 7) (zf (0 < (h3.1 33 jx0 x2.toNatClampNeg)) (some (some (.inl 1), h3)) (some (some (.inl 0), h3))) none))) (some (some (.inl 0), h1))))))))) := (zL_s (t_X8_can) [0] 1000 0 _ _ _).trans rfl
theorem g_X8_can (jx0 : Nat) (x1 : Int32) (x2 : Int32) (x3 : Int32) (h : zH) : f_X8_can [(.inr (.inr (8, jx0))), (.inl x1), (.inl x2), (.inl x3)] h = zf (x1 = 5) (some (some (.inl 1), h)) (zci (f_X0_hasCake [(.inr (.inr (0, 0))), (.inl x2)] h) (fun r2 h1 => zf (r2 = 0) (some (some (.inl 0), h1)) (zf (x1 = 0) (zci (f_X8_isThere [(.inr (.inr (8, jx0))), (.inl x2)] h1) (fun r16 h15 => zf (r16 = 0) (some (some (.inl 0), h15)) (zci (f_X8_hasHair [(.inr (.inr (8, jx0))), (.inl x2)] h15) (fun r18 h17 => zf (r18 = 0) (some (some (.inl 1), h17)) (some (some (.inl 0), h17)))))) (zf (x1 = 1) (zci (f_X8_isThere [(.inr (.inr (8, jx0))), (.inl x2)] h1) (fun r12 h11 => zf (r12 = 0) (some (some (.inl 0), h11)) (zci (f_X8_hasHair [(.inr (.inr (8, jx0))), (.inl x2)] h11) (fun r14 h13 => zf (r14 = 0) (some (some (.inl 1), h13)) (some (some (.inl 0), h13)))))) (zf (x1 = 2) (zci (f_X8_hasHair [(.inr (.inr (8, jx0))), (.inl x2)] h1) (fun r10 h9 => zf ((r10 : Int32) = 0 ∨ (r10 : Int32) = 1) (some (some (.inl r10), h9)) none)) (zf (x1 = 3) (zci (f_X8_isThere [(.inr (.inr (8, jx0))), (.inl x2)] h1) (fun r6 h5 => zf (r6 = 0) (some (some (.inl 0), h5)) (zci (f_X0_hasPower [(.inr (.inr (0, 0))), (.inl x3)] h5) (fun r8 h7 => zf (r8 = 0) (some (some (.inl 0), h7)) (zf (vp_in x2 7) (zf (x3 = (h7.1 31 jx0 x2.toNatClampNeg)) (some (some (.inl 0), h7)) (some (some (.inl 1), h7))) none))))) (zf (x1 = 4) (zci (f_X8_isThere [(.inr (.inr (8, jx0))), (.inl x2)] h1) (fun r4 h3 => zf (r4 = 0) (some (some (.inl 0), h3)) (zf (vp_in x2 7) (zf (0 < (h3.1 33 jx0 x2.toNatClampNeg)) (some (some (.inl 1), h3)) (some (some (.inl 0), h3))) none))) (some (some (.inl 0), h1))))))))) := (show f_X8_can _ h = zL p_X8_can 0 _ [] h from rfl).trans (e_X8_can_0 jx0 x1 x2 x3 h)
theorem zMV_8_88 : zMV "SoapTreaty$State" 88 0 y_X0_kindOf prog_2_method_6_code 2 (some .int) 1 := ⟨⟨zT_of 872 (by decide +kernel) (by decide +kernel), zT_of 766 (by decide +kernel) (by decide +kernel), zT_of 767 (by decide +kernel) (by decide +kernel), zT_of 104 (by decide +kernel) (by decide +kernel), zT_of 768 (by decide +kernel) (by decide +kernel)⟩, by decide, rfl, ⟨zT0, 13, rfl⟩, by decide, by decide, by decide +kernel⟩
/-! SoapTreaty$State.canWear(II)Z -/
def y_X8_canWear : MethodName := ⟨"SoapTreaty$State", "canWear", "(II)Z"⟩
noncomputable def p_X8_canWear_0 : List (Nat × zO) := [(0, zo_aload 0 1),
  (1, zo_iload 1 2),
  (2, zo_vir 8 2 (zo_calli (f_X8_hasHair) 2 5)),
  (5, zo_0ne 24 8),
  (8, zo_aload 0 9),
  (9, zo_getR 8 0 (some 0) 12),
  (12, zo_iload 2 13),
  (13, zo_vir 0 2 (zo_calli (f_X0_kindOf) 2 16)),
  (16, zo_push (.inl 2) 17),
  (17, zo_ceq 24 20),
  (20, zo_push (.inl 1) 21),
  (21, zo_goto 25),
  (24, zo_push (.inl 0) 25),
  (25, zo_zretc)]
noncomputable def p_X8_canWear : Nat → zO := zgs [(26, p_X8_canWear_0)]
theorem t_X8_canWear : ∀ k, zTl (p_X8_canWear k) := fun k => zgs_all (c := [(26, p_X8_canWear_0)]) (fun _ => zl_bad) ⟨⟨zl_aload, zl_iload, (zl_vir zl_calli), zl_0ne, zl_aload, zl_getR, zl_iload, (zl_vir zl_calli), zl_push, zl_ceq, zl_push, zl_goto, zl_push, zl_zretc, trivial⟩, trivial⟩ k
noncomputable def f_X8_canWear : zS := zrun p_X8_canWear 3
set_option maxRecDepth 20000 in
theorem s_X8_canWear_0 {l : Launch} {D : va_G} {ad : Nat → Nat → Nat} {cy : Nat → ClassId} {L : List (Nat × Nat)} (hcl : zclo L = true) (hinj : zAd ad L) {X : zCtx} (hX : zXok X "SoapTreaty$State" prog_10_method_12_code 3) (hR : zRt X (some .boolean)) (hl : zXl X l D ad cy L (zroom 3)) : zAllR (zSo X) p_X8_canWear_0 := ⟨zs_aload_n (i := 0) rfl hX (by decide +kernel : decode prog_10_method_12_code 0 = .ok (.aload_n 0, 1)) rfl (by decide),
  zs_iload_n (i := 1) rfl hX (by decide +kernel : decode prog_10_method_12_code 1 = .ok (.iload_n 1, 1)) rfl (by decide),
  zs_callVi hX zMV_8_63 (zXc_of hl (by decide) (k_X8_hasHair hcl hinj)) (by decide +kernel : decode prog_10_method_12_code 2 = .ok (.invokevirtual 63, 3)) rfl,
  zs_0ne hX (by decide +kernel : decode prog_10_method_12_code 5 = .ok (.ifCond .ne 19, 3)) (by decide) rfl,
  zs_aload_n (i := 0) rfl hX (by decide +kernel : decode prog_10_method_12_code 8 = .ok (.aload_n 0, 1)) rfl (by decide),
  zs_getR hX zFL_8_23 (by decide +kernel : decode prog_10_method_12_code 9 = .ok (.getfield 23, 3)) rfl,
  zs_iload_n (i := 2) rfl hX (by decide +kernel : decode prog_10_method_12_code 12 = .ok (.iload_n 2, 1)) rfl (by decide),
  zs_callVi hX zMV_8_88 (zXc_of hl (by decide) (k_X0_kindOf hcl hinj)) (by decide +kernel : decode prog_10_method_12_code 13 = .ok (.invokevirtual 88, 3)) rfl,
  zs_pushI (zg_iconst (by decide) hX (by decide +kernel : decode prog_10_method_12_code 16 = .ok (.iconst 2, 1)) rfl),
  zs_ceq hX (by decide +kernel : decode prog_10_method_12_code 17 = .ok (.if_icmp .eq 7, 3)) (by decide) rfl,
  zs_pushI (zg_iconst (by decide) hX (by decide +kernel : decode prog_10_method_12_code 20 = .ok (.iconst 1, 1)) rfl),
  zs_goto hX (by decide +kernel : decode prog_10_method_12_code 21 = .ok (.goto 4, 3)) (by decide),
  zs_pushI (zg_iconst (by decide) hX (by decide +kernel : decode prog_10_method_12_code 24 = .ok (.iconst 0, 1)) rfl),
  zs_zretc hX hR (by decide +kernel : decode prog_10_method_12_code 25 = .ok (.ireturn, 1)), trivial⟩
theorem k_X8_canWear {l : Launch} {D : va_G} {ad : Nat → Nat → Nat} {cy : Nat → ClassId} {L : List (Nat × Nat)} (hcl : zclo L = true) (hinj : zAd ad L) : zCk l D ad cy L 3 f_X8_canWear y_X8_canWear (.code y_X8_canWear prog_10_method_12_code 3 (some .boolean)) :=
  z_met (by decide) t_X8_canWear hcl hinj (fun X hX hR hl k => zgs_all (Q := zSo X) (c := [(26, p_X8_canWear_0)]) (fun _ => zs_bad) ⟨s_X8_canWear_0 hcl hinj hX hR hl, trivial⟩ k)
set_option maxRecDepth 1000000 in
theorem e_X8_canWear_0 (jx0 : Nat) (x1 : Int32) (x2 : Int32) (h : zH) : zL p_X8_canWear 0 [some (.inr (.inr (8, jx0))), some (.inl x1), some (.inl x2)] [] h = zci (f_X8_hasHair [(.inr (.inr (8, jx0))), (.inl x1)] h) (fun r2 h1 => zf (r2 = 0) (zci (f_X0_kindOf [(.inr (.inr (0, 0))), (.inl x2)] h1) (fun r4 h3 => zf (r4 = 2) (some (some (.inl 0), h3)) (some (some (.inl 1), h3)))) (some (some (.inl 0), h1))) := (zL_s (t_X8_canWear) [0] 1000 0 _ _ _).trans rfl
theorem g_X8_canWear (jx0 : Nat) (x1 : Int32) (x2 : Int32) (h : zH) : f_X8_canWear [(.inr (.inr (8, jx0))), (.inl x1), (.inl x2)] h = zci (f_X8_hasHair [(.inr (.inr (8, jx0))), (.inl x1)] h) (fun r2 h1 => zf (r2 = 0) (zci (f_X0_kindOf [(.inr (.inr (0, 0))), (.inl x2)] h1) (fun r4 h3 => zf (r4 = 2) (some (some (.inl 0), h3)) (some (some (.inl 1), h3)))) (some (some (.inl 0), h1))) := (show f_X8_canWear _ h = zL p_X8_canWear 0 _ [] h from rfl).trans (e_X8_canWear_0 jx0 x1 x2 h)
theorem zMV_8_80 : zMV "SoapTreaty$State" 80 0 y_X0_thickWashed prog_2_method_12_code 6 (some .int) 4 := ⟨⟨zT_of 877 (by decide +kernel) (by decide +kernel), zT_of 878 (by decide +kernel) (by decide +kernel), zT_of 879 (by decide +kernel) (by decide +kernel), zT_of 104 (by decide +kernel) (by decide +kernel), zT_of 880 (by decide +kernel) (by decide +kernel)⟩, by decide, rfl, ⟨zT0, 13, rfl⟩, by decide, by decide, by decide +kernel⟩
/-! SoapTreaty$State.washOnce(I)V -/
def y_X8_washOnce : MethodName := ⟨"SoapTreaty$State", "washOnce", "(I)V"⟩
noncomputable def p_X8_washOnce_0 : List (Nat × zO) := [(0, zo_aload 0 1),
  (1, zo_getR 8 0 (some 0) 4),
  (4, zo_iload 1 5),
  (5, zo_vir 0 2 (zo_calli (f_X0_hasCake) 2 8)),
  (8, zo_0ne 12 11),
  (11, zo_ret),
  (12, zo_aload 0 13),
  (13, zo_getR 8 32 none 16),
  (16, zo_iload 1 17),
  (17, zo_aload 0 18),
  (18, zo_getR 8 0 (some 0) 21),
  (21, zo_iload 1 22),
  (22, zo_aload 0 23),
  (23, zo_getR 8 31 none 26),
  (26, zo_iload 1 27),
  (27, zo_iald 28),
  (28, zo_aload 0 29),
  (29, zo_getR 8 32 none 32),
  (32, zo_iload 1 33),
  (33, zo_iald 34)]
noncomputable def p_X8_washOnce_1 : List (Nat × zO) := [(34, zo_aload 0 35),
  (35, zo_getR 8 33 none 38),
  (38, zo_iload 1 39),
  (39, zo_iald 40),
  (40, zo_vir 0 5 (zo_calli (f_X0_thickWashed) 5 43)),
  (43, zo_iast 44),
  (44, zo_aload 0 45),
  (45, zo_getR 8 33 none 48),
  (48, zo_iload 1 49),
  (49, zo_dup2 50),
  (50, zo_iald 51),
  (51, zo_push (.inl 1) 52),
  (52, zo_ii (fun x y => x + y) 53),
  (53, zo_iast 54),
  (54, zo_ret)]
noncomputable def p_X8_washOnce : Nat → zO := zgs [(34, p_X8_washOnce_0), (55, p_X8_washOnce_1)]
theorem t_X8_washOnce : ∀ k, zTl (p_X8_washOnce k) := fun k => zgs_all (c := [(34, p_X8_washOnce_0), (55, p_X8_washOnce_1)]) (fun _ => zl_bad) ⟨⟨zl_aload, zl_getR, zl_iload, (zl_vir zl_calli), zl_0ne, zl_ret, zl_aload, zl_getR, zl_iload, zl_aload, zl_getR, zl_iload, zl_aload, zl_getR, zl_iload, zl_iald, zl_aload, zl_getR, zl_iload, zl_iald, trivial⟩, ⟨zl_aload, zl_getR, zl_iload, zl_iald, (zl_vir zl_calli), zl_iast, zl_aload, zl_getR, zl_iload, zl_dup2, zl_iald, zl_push, zl_ii, zl_iast, zl_ret, trivial⟩, trivial⟩ k
noncomputable def f_X8_washOnce : zS := zrun p_X8_washOnce 2
set_option maxRecDepth 20000 in
theorem s_X8_washOnce_0 {l : Launch} {D : va_G} {ad : Nat → Nat → Nat} {cy : Nat → ClassId} {L : List (Nat × Nat)} (hcl : zclo L = true) (hinj : zAd ad L) {X : zCtx} (hX : zXok X "SoapTreaty$State" prog_10_method_10_code 2) (hR : zRt X none) (hl : zXl X l D ad cy L (zroom 4)) : zAllR (zSo X) p_X8_washOnce_0 := ⟨zs_aload_n (i := 0) rfl hX (by decide +kernel : decode prog_10_method_10_code 0 = .ok (.aload_n 0, 1)) rfl (by decide),
  zs_getR hX zFL_8_23 (by decide +kernel : decode prog_10_method_10_code 1 = .ok (.getfield 23, 3)) rfl,
  zs_iload_n (i := 1) rfl hX (by decide +kernel : decode prog_10_method_10_code 4 = .ok (.iload_n 1, 1)) rfl (by decide),
  zs_callVi hX zMV_8_47 (zXc_of hl (by decide) (k_X0_hasCake hcl hinj)) (by decide +kernel : decode prog_10_method_10_code 5 = .ok (.invokevirtual 47, 3)) rfl,
  zs_0ne hX (by decide +kernel : decode prog_10_method_10_code 8 = .ok (.ifCond .ne 4, 3)) (by decide) rfl,
  zs_ret hX hR (by decide +kernel : decode prog_10_method_10_code 11 = .ok (.return_, 1)),
  zs_aload_n (i := 0) rfl hX (by decide +kernel : decode prog_10_method_10_code 12 = .ok (.aload_n 0, 1)) rfl (by decide),
  zs_getR hX zFL_8_17 (by decide +kernel : decode prog_10_method_10_code 13 = .ok (.getfield 17, 3)) rfl,
  zs_iload_n (i := 1) rfl hX (by decide +kernel : decode prog_10_method_10_code 16 = .ok (.iload_n 1, 1)) rfl (by decide),
  zs_aload_n (i := 0) rfl hX (by decide +kernel : decode prog_10_method_10_code 17 = .ok (.aload_n 0, 1)) rfl (by decide),
  zs_getR hX zFL_8_23 (by decide +kernel : decode prog_10_method_10_code 18 = .ok (.getfield 23, 3)) rfl,
  zs_iload_n (i := 1) rfl hX (by decide +kernel : decode prog_10_method_10_code 21 = .ok (.iload_n 1, 1)) rfl (by decide),
  zs_aload_n (i := 0) rfl hX (by decide +kernel : decode prog_10_method_10_code 22 = .ok (.aload_n 0, 1)) rfl (by decide),
  zs_getR hX zFL_8_11 (by decide +kernel : decode prog_10_method_10_code 23 = .ok (.getfield 11, 3)) rfl,
  zs_iload_n (i := 1) rfl hX (by decide +kernel : decode prog_10_method_10_code 26 = .ok (.iload_n 1, 1)) rfl (by decide),
  zs_iald hX (by decide +kernel : decode prog_10_method_10_code 27 = .ok (.iaload, 1)) rfl,
  zs_aload_n (i := 0) rfl hX (by decide +kernel : decode prog_10_method_10_code 28 = .ok (.aload_n 0, 1)) rfl (by decide),
  zs_getR hX zFL_8_17 (by decide +kernel : decode prog_10_method_10_code 29 = .ok (.getfield 17, 3)) rfl,
  zs_iload_n (i := 1) rfl hX (by decide +kernel : decode prog_10_method_10_code 32 = .ok (.iload_n 1, 1)) rfl (by decide),
  zs_iald hX (by decide +kernel : decode prog_10_method_10_code 33 = .ok (.iaload, 1)) rfl, trivial⟩
set_option maxRecDepth 20000 in
theorem s_X8_washOnce_1 {l : Launch} {D : va_G} {ad : Nat → Nat → Nat} {cy : Nat → ClassId} {L : List (Nat × Nat)} (hcl : zclo L = true) (hinj : zAd ad L) {X : zCtx} (hX : zXok X "SoapTreaty$State" prog_10_method_10_code 2) (hR : zRt X none) (hl : zXl X l D ad cy L (zroom 4)) : zAllR (zSo X) p_X8_washOnce_1 := ⟨zs_aload_n (i := 0) rfl hX (by decide +kernel : decode prog_10_method_10_code 34 = .ok (.aload_n 0, 1)) rfl (by decide),
  zs_getR hX zFL_8_20 (by decide +kernel : decode prog_10_method_10_code 35 = .ok (.getfield 20, 3)) rfl,
  zs_iload_n (i := 1) rfl hX (by decide +kernel : decode prog_10_method_10_code 38 = .ok (.iload_n 1, 1)) rfl (by decide),
  zs_iald hX (by decide +kernel : decode prog_10_method_10_code 39 = .ok (.iaload, 1)) rfl,
  zs_callVi hX zMV_8_80 (zXc_of hl (by decide) (k_X0_thickWashed hcl hinj)) (by decide +kernel : decode prog_10_method_10_code 40 = .ok (.invokevirtual 80, 3)) rfl,
  zs_iast hX (by decide +kernel : decode prog_10_method_10_code 43 = .ok (.iastore, 1)) rfl,
  zs_aload_n (i := 0) rfl hX (by decide +kernel : decode prog_10_method_10_code 44 = .ok (.aload_n 0, 1)) rfl (by decide),
  zs_getR hX zFL_8_20 (by decide +kernel : decode prog_10_method_10_code 45 = .ok (.getfield 20, 3)) rfl,
  zs_iload_n (i := 1) rfl hX (by decide +kernel : decode prog_10_method_10_code 48 = .ok (.iload_n 1, 1)) rfl (by decide),
  zs_dup2 hX (by decide +kernel : decode prog_10_method_10_code 49 = .ok (.dup2, 1)) rfl,
  zs_iald hX (by decide +kernel : decode prog_10_method_10_code 50 = .ok (.iaload, 1)) rfl,
  zs_pushI (zg_iconst (by decide) hX (by decide +kernel : decode prog_10_method_10_code 51 = .ok (.iconst 1, 1)) rfl),
  zs_ii (zg_iadd hX (by decide +kernel : decode prog_10_method_10_code 52 = .ok (.iadd, 1)) rfl),
  zs_iast hX (by decide +kernel : decode prog_10_method_10_code 53 = .ok (.iastore, 1)) rfl,
  zs_ret hX hR (by decide +kernel : decode prog_10_method_10_code 54 = .ok (.return_, 1)), trivial⟩
theorem k_X8_washOnce {l : Launch} {D : va_G} {ad : Nat → Nat → Nat} {cy : Nat → ClassId} {L : List (Nat × Nat)} (hcl : zclo L = true) (hinj : zAd ad L) : zCk l D ad cy L 4 f_X8_washOnce y_X8_washOnce (.code y_X8_washOnce prog_10_method_10_code 2 none) :=
  z_met (by decide) t_X8_washOnce hcl hinj (fun X hX hR hl k => zgs_all (Q := zSo X) (c := [(34, p_X8_washOnce_0), (55, p_X8_washOnce_1)]) (fun _ => zs_bad) ⟨s_X8_washOnce_0 hcl hinj hX hR hl, s_X8_washOnce_1 hcl hinj hX hR hl, trivial⟩ k)
set_option maxRecDepth 1000000 in
theorem e_X8_washOnce_0 (jx0 : Nat) (x1 : Int32) (h : zH) : zL p_X8_washOnce 0 [some (.inr (.inr (8, jx0))), some (.inl x1)] [] h = zci (f_X0_hasCake [(.inr (.inr (0, 0))), (.inl x1)] h) (fun r2 h1 => zf (r2 = 0) (some (none, h1)) (zf (vp_in x1 7) (zf (vp_in x1 7) (zf (vp_in x1 7) (zci (f_X0_thickWashed [(.inr (.inr (0, 0))), (.inl x1), (.inl (h1.1 31 jx0 x1.toNatClampNeg)), (.inl (h1.1 32 jx0 x1.toNatClampNeg)), (.inl (h1.1 33 jx0 x1.toNatClampNeg))] h1) (fun r4 h3 => zf (vp_in x1 7) (zf (vp_in x1 7) (zf (vp_in x1 7) (some (none, (zuI (zuI h3 32 jx0 x1.toNatClampNeg r4) 33 jx0 x1.toNatClampNeg ((h3.1 33 jx0 x1.toNatClampNeg) + (1 : Int32))))) none) none) none)) none) none) none)) := (zL_s (t_X8_washOnce) [0] 1000 0 _ _ _).trans rfl
theorem g_X8_washOnce (jx0 : Nat) (x1 : Int32) (h : zH) : f_X8_washOnce [(.inr (.inr (8, jx0))), (.inl x1)] h = zci (f_X0_hasCake [(.inr (.inr (0, 0))), (.inl x1)] h) (fun r2 h1 => zf (r2 = 0) (some (none, h1)) (zf (vp_in x1 7) (zf (vp_in x1 7) (zf (vp_in x1 7) (zci (f_X0_thickWashed [(.inr (.inr (0, 0))), (.inl x1), (.inl (h1.1 31 jx0 x1.toNatClampNeg)), (.inl (h1.1 32 jx0 x1.toNatClampNeg)), (.inl (h1.1 33 jx0 x1.toNatClampNeg))] h1) (fun r4 h3 => zf (vp_in x1 7) (zf (vp_in x1 7) (zf (vp_in x1 7) (some (none, (zuI (zuI h3 32 jx0 x1.toNatClampNeg r4) 33 jx0 x1.toNatClampNeg ((h3.1 33 jx0 x1.toNatClampNeg) + (1 : Int32))))) none) none) none)) none) none) none)) := (show f_X8_washOnce _ h = zL p_X8_washOnce 0 _ [] h from rfl).trans (e_X8_washOnce_0 jx0 x1 h)
