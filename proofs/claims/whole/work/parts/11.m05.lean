theorem zMS_11_235 : zMS "SoapTreaty" 235 y_X11_isSightFar prog_1_method_37_code 1 (some .boolean) 1 := ⟨⟨zT_of 1021 (by decide +kernel) (by decide +kernel), zT_of 1022 (by decide +kernel) (by decide +kernel), zT_of 102 (by decide +kernel) (by decide +kernel), zT_of 1023 (by decide +kernel) (by decide +kernel)⟩, by decide, by decide, by decide, by decide +kernel⟩
theorem zMV_11_242 : zMV "SoapTreaty" 242 7 y_X7_add prog_9_method_2_code 4 (some .boolean) 3 := ⟨⟨zT_of 1024 (by decide +kernel) (by decide +kernel), zT_of 1025 (by decide +kernel) (by decide +kernel), zT_of 1026 (by decide +kernel) (by decide +kernel), zT_of 116 (by decide +kernel) (by decide +kernel), zT_of 1027 (by decide +kernel) (by decide +kernel)⟩, by decide, rfl, ⟨zT7, 4, rfl⟩, by decide, by decide, by decide +kernel⟩
/-! SoapTreaty.see(III)Z -/
def y_X11_see : MethodName := ⟨"SoapTreaty", "see", "(III)Z"⟩
noncomputable def p_X11_see_0 : List (Nat × zO) := [(0, zo_aload 0 1),
  (1, zo_getR 11 0 (some 0) 4),
  (4, zo_iload 1 5),
  (5, zo_vir 0 2 (zo_calli (f_X0_hasCake) 2 8)),
  (8, zo_0eq 28 11),
  (11, zo_iload 2 12),
  (12, zo_calli (f_X11_isSightFar) 1 15),
  (15, zo_0eq 28 18),
  (18, zo_iload 3 19),
  (19, zo_0lt 28 22),
  (22, zo_iload 3 23),
  (23, zo_push (.inl 40) 25),
  (25, zo_cle 30 28),
  (28, zo_push (.inl 0) 29),
  (29, zo_zretc),
  (30, zo_aload 0 31),
  (31, zo_getR 11 4 (some 0) 34),
  (34, zo_getR 4 7 none 37),
  (37, zo_iload 1 38),
  (38, zo_iload 2 39)]
noncomputable def p_X11_see_1 : List (Nat × zO) := [(39, zo_iload 3 40),
  (40, zo_vir 7 4 (zo_calli (f_X7_add) 4 43)),
  (43, zo_zret)]
noncomputable def p_X11_see : Nat → zO := zgs [(39, p_X11_see_0), (44, p_X11_see_1)]
theorem t_X11_see : ∀ k, zTl (p_X11_see k) := fun k => zgs_all (c := [(39, p_X11_see_0), (44, p_X11_see_1)]) (fun _ => zl_bad) ⟨⟨zl_aload, zl_getR, zl_iload, (zl_vir zl_calli), zl_0eq, zl_iload, zl_calli, zl_0eq, zl_iload, zl_0lt, zl_iload, zl_push, zl_cle, zl_push, zl_zretc, zl_aload, zl_getR, zl_getR, zl_iload, zl_iload, trivial⟩, ⟨zl_iload, (zl_vir zl_calli), zl_zret, trivial⟩, trivial⟩ k
noncomputable def f_X11_see : zS := zrun p_X11_see 4
set_option maxRecDepth 20000 in
theorem s_X11_see_0 {l : Launch} {D : va_G} {ad : Nat → Nat → Nat} {cy : Nat → ClassId} {L : List (Nat × Nat)} (hcl : zclo L = true) (hinj : zAd ad L) {X : zCtx} (hX : zXok X "SoapTreaty" prog_1_method_26_code 4) (hR : zRt X (some .boolean)) (hl : zXl X l D ad cy L (zroom 2)) : zAllR (zSo X) p_X11_see_0 := ⟨zs_aload_n (i := 0) rfl hX (by decide +kernel : decode prog_1_method_26_code 0 = .ok (.aload_n 0, 1)) rfl (by decide),
  zs_getR hX zFL_11_19 (by decide +kernel : decode prog_1_method_26_code 1 = .ok (.getfield 19, 3)) rfl,
  zs_iload_n (i := 1) rfl hX (by decide +kernel : decode prog_1_method_26_code 4 = .ok (.iload_n 1, 1)) rfl (by decide),
  zs_callVi hX zMV_11_142 (zXc_of hl (by decide) (k_X0_hasCake hcl hinj)) (by decide +kernel : decode prog_1_method_26_code 5 = .ok (.invokevirtual 142, 3)) rfl,
  zs_0eq hX (by decide +kernel : decode prog_1_method_26_code 8 = .ok (.ifCond .eq 20, 3)) (by decide) rfl,
  zs_iload_n (i := 2) rfl hX (by decide +kernel : decode prog_1_method_26_code 11 = .ok (.iload_n 2, 1)) rfl (by decide),
  zs_callSi hX zMS_11_235 (zXc_of hl (by decide) (k_X11_isSightFar hcl hinj)) (by decide +kernel : decode prog_1_method_26_code 12 = .ok (.invokestatic 235, 3)) rfl,
  zs_0eq hX (by decide +kernel : decode prog_1_method_26_code 15 = .ok (.ifCond .eq 13, 3)) (by decide) rfl,
  zs_iload_n (i := 3) rfl hX (by decide +kernel : decode prog_1_method_26_code 18 = .ok (.iload_n 3, 1)) rfl (by decide),
  zs_0lt hX (by decide +kernel : decode prog_1_method_26_code 19 = .ok (.ifCond .lt 9, 3)) (by decide) rfl,
  zs_iload_n (i := 3) rfl hX (by decide +kernel : decode prog_1_method_26_code 22 = .ok (.iload_n 3, 1)) rfl (by decide),
  zs_pushI (zg_bipush (by decide) hX (by decide +kernel : decode prog_1_method_26_code 23 = .ok (.bipush 40, 2)) rfl),
  zs_cle hX (by decide +kernel : decode prog_1_method_26_code 25 = .ok (.if_icmp .le 5, 3)) (by decide) rfl,
  zs_pushI (zg_iconst (by decide) hX (by decide +kernel : decode prog_1_method_26_code 28 = .ok (.iconst 0, 1)) rfl),
  zs_zretc hX hR (by decide +kernel : decode prog_1_method_26_code 29 = .ok (.ireturn, 1)),
  zs_aload_n (i := 0) rfl hX (by decide +kernel : decode prog_1_method_26_code 30 = .ok (.aload_n 0, 1)) rfl (by decide),
  zs_getR hX zFL_11_37 (by decide +kernel : decode prog_1_method_26_code 31 = .ok (.getfield 37, 3)) rfl,
  zs_getR hX zFL_11_238 (by decide +kernel : decode prog_1_method_26_code 34 = .ok (.getfield 238, 3)) rfl,
  zs_iload_n (i := 1) rfl hX (by decide +kernel : decode prog_1_method_26_code 37 = .ok (.iload_n 1, 1)) rfl (by decide),
  zs_iload_n (i := 2) rfl hX (by decide +kernel : decode prog_1_method_26_code 38 = .ok (.iload_n 2, 1)) rfl (by decide), trivial⟩
set_option maxRecDepth 20000 in
theorem s_X11_see_1 {l : Launch} {D : va_G} {ad : Nat → Nat → Nat} {cy : Nat → ClassId} {L : List (Nat × Nat)} (hcl : zclo L = true) (hinj : zAd ad L) {X : zCtx} (hX : zXok X "SoapTreaty" prog_1_method_26_code 4) (hR : zRt X (some .boolean)) (hl : zXl X l D ad cy L (zroom 2)) : zAllR (zSo X) p_X11_see_1 := ⟨zs_iload_n (i := 3) rfl hX (by decide +kernel : decode prog_1_method_26_code 39 = .ok (.iload_n 3, 1)) rfl (by decide),
  zs_callVi hX zMV_11_242 (zXc_of hl (by decide) (k_X7_add hcl hinj)) (by decide +kernel : decode prog_1_method_26_code 40 = .ok (.invokevirtual 242, 3)) rfl,
  zs_zret hX hR (by decide +kernel : decode prog_1_method_26_code 43 = .ok (.ireturn, 1)), trivial⟩
theorem k_X11_see {l : Launch} {D : va_G} {ad : Nat → Nat → Nat} {cy : Nat → ClassId} {L : List (Nat × Nat)} (hcl : zclo L = true) (hinj : zAd ad L) : zCk l D ad cy L 2 f_X11_see y_X11_see (.code y_X11_see prog_1_method_26_code 4 (some .boolean)) :=
  z_met (by decide) t_X11_see hcl hinj (fun X hX hR hl k => zgs_all (Q := zSo X) (c := [(39, p_X11_see_0), (44, p_X11_see_1)]) (fun _ => zs_bad) ⟨s_X11_see_0 hcl hinj hX hR hl, s_X11_see_1 hcl hinj hX hR hl, trivial⟩ k)
set_option maxRecDepth 1000000 in
theorem e_X11_see_0 (x1 : Int32) (x2 : Int32) (x3 : Int32) (h : zH) : zL p_X11_see 0 [some (.inr (.inr (11, 0))), some (.inl x1), some (.inl x2), some (.inl x3)] [] h = zci (f_X0_hasCake [(.inr (.inr (0, 0))), (.inl x1)] h) (fun r2 h1 => zf (r2 = 0) (some (some (.inl 0), h1)) (zci (f_X11_isSightFar [(.inl x2)] h1) (fun r4 h3 => zf (r4 = 0) (some (some (.inl 0), h3)) (zf (x3 < 0) (some (some (.inl 0), h3)) (zf (40 < x3) (some (some (.inl 0), h3)) (zci (f_X7_add [(.inr (.inr (7, 0))), (.inl x1), (.inl x2), (.inl x3)] h3) (fun r6 h5 => zf ((r6 : Int32) = 0 ∨ (r6 : Int32) = 1) (some (some (.inl r6), h5)) none))))))) := (zL_s (t_X11_see) [0] 1000 0 _ _ _).trans rfl
theorem g_X11_see (x1 : Int32) (x2 : Int32) (x3 : Int32) (h : zH) : f_X11_see [(.inr (.inr (11, 0))), (.inl x1), (.inl x2), (.inl x3)] h = zci (f_X0_hasCake [(.inr (.inr (0, 0))), (.inl x1)] h) (fun r2 h1 => zf (r2 = 0) (some (some (.inl 0), h1)) (zci (f_X11_isSightFar [(.inl x2)] h1) (fun r4 h3 => zf (r4 = 0) (some (some (.inl 0), h3)) (zf (x3 < 0) (some (some (.inl 0), h3)) (zf (40 < x3) (some (some (.inl 0), h3)) (zci (f_X7_add [(.inr (.inr (7, 0))), (.inl x1), (.inl x2), (.inl x3)] h3) (fun r6 h5 => zf ((r6 : Int32) = 0 ∨ (r6 : Int32) = 1) (some (some (.inl r6), h5)) none))))))) := (show f_X11_see _ h = zL p_X11_see 0 _ [] h from rfl).trans (e_X11_see_0 x1 x2 x3 h)
/-! SoapTreaty.fitsAllSeen(I)Z -/
def y_X11_fitsAllSeen : MethodName := ⟨"SoapTreaty", "fitsAllSeen", "(I)Z"⟩
noncomputable def p_X11_fitsAllSeen_0 : List (Nat × zO) := [(0, zo_aload 0 1),
  (1, zo_getR 11 4 (some 0) 4),
  (4, zo_getR 4 7 none 7),
  (7, zo_astore 2 8),
  (8, zo_push (.inl 0) 9),
  (9, zo_istore 3 10),
  (10, zo_kill [4, 5, 6] (zo_iload 3 11)),
  (11, zo_aload 2 12),
  (12, zo_getI 7 0 15),
  (15, zo_cge 116 18),
  (18, zo_aload 2 19),
  (19, zo_getR 7 28 none 22),
  (22, zo_iload 3 23),
  (23, zo_iald 24),
  (24, zo_istore 4 26),
  (26, zo_aload 0 27),
  (27, zo_getR 11 0 (some 0) 30),
  (30, zo_iload 4 32),
  (32, zo_vir 0 2 (zo_calli (f_X0_hasCake) 2 35)),
  (35, zo_0ne 40 38)]
noncomputable def p_X11_fitsAllSeen_1 : List (Nat × zO) := [(38, zo_push (.inl 0) 39),
  (39, zo_zretc),
  (40, zo_iload 1 41),
  (41, zo_aload 0 42),
  (42, zo_getR 11 4 (some 0) 45),
  (45, zo_getR 4 8 none 48),
  (48, zo_getR 8 31 none 51),
  (51, zo_iload 4 53),
  (53, zo_iald 54),
  (54, zo_ii (fun x y => x >>> (y &&& 31)) 55),
  (55, zo_push (.inl 1) 56),
  (56, zo_ii (fun x y => x &&& y) 57),
  (57, zo_push (.inl 1) 58),
  (58, zo_cne 65 61),
  (61, zo_push (.inl 1) 62),
  (62, zo_goto 66),
  (65, zo_push (.inl 0) 66),
  (66, zo_kill [5, 6] (zo_istore 5 68)),
  (68, zo_iload 5 70),
  (70, zo_0eq 89 73)]
noncomputable def p_X11_fitsAllSeen_2 : List (Nat × zO) := [(73, zo_aload 0 74),
  (74, zo_getR 11 4 (some 0) 77),
  (77, zo_getR 4 8 none 80),
  (80, zo_getR 8 32 none 83),
  (83, zo_iload 4 85),
  (85, zo_iald 86),
  (86, zo_goto 95),
  (89, zo_aload 0 90),
  (90, zo_getR 11 37 none 93),
  (93, zo_iload 3 94),
  (94, zo_iald 95),
  (95, zo_kill [4, 5, 6] (zo_istore 6 97)),
  (97, zo_iload 6 99),
  (99, zo_aload 2 100),
  (100, zo_getR 7 30 none 103),
  (103, zo_iload 3 104),
  (104, zo_iald 105),
  (105, zo_ceq 110 108),
  (108, zo_push (.inl 0) 109),
  (109, zo_zretc)]
noncomputable def p_X11_fitsAllSeen_3 : List (Nat × zO) := [(110, zo_iinc 3 1 113),
  (113, zo_goto 10),
  (116, zo_push (.inl 1) 117),
  (117, zo_zretc)]
noncomputable def p_X11_fitsAllSeen : Nat → zO := zgs [(36, p_X11_fitsAllSeen_0), (71, p_X11_fitsAllSeen_1), (110, p_X11_fitsAllSeen_2), (118, p_X11_fitsAllSeen_3)]
theorem t_X11_fitsAllSeen : ∀ k, zTl (p_X11_fitsAllSeen k) := fun k => zgs_all (c := [(36, p_X11_fitsAllSeen_0), (71, p_X11_fitsAllSeen_1), (110, p_X11_fitsAllSeen_2), (118, p_X11_fitsAllSeen_3)]) (fun _ => zl_bad) ⟨⟨zl_aload, zl_getR, zl_getR, zl_astore, zl_push, zl_istore, (zl_kill zl_iload), zl_aload, zl_getI, zl_cge, zl_aload, zl_getR, zl_iload, zl_iald, zl_istore, zl_aload, zl_getR, zl_iload, (zl_vir zl_calli), zl_0ne, trivial⟩, ⟨zl_push, zl_zretc, zl_iload, zl_aload, zl_getR, zl_getR, zl_getR, zl_iload, zl_iald, zl_ii, zl_push, zl_ii, zl_push, zl_cne, zl_push, zl_goto, zl_push, (zl_kill zl_istore), zl_iload, zl_0eq, trivial⟩, ⟨zl_aload, zl_getR, zl_getR, zl_getR, zl_iload, zl_iald, zl_goto, zl_aload, zl_getR, zl_iload, zl_iald, (zl_kill zl_istore), zl_iload, zl_aload, zl_getR, zl_iload, zl_iald, zl_ceq, zl_push, zl_zretc, trivial⟩, ⟨zl_iinc, zl_goto, zl_push, zl_zretc, trivial⟩, trivial⟩ k
noncomputable def f_X11_fitsAllSeen : zS := zrun p_X11_fitsAllSeen 7
set_option maxRecDepth 20000 in
theorem s_X11_fitsAllSeen_0 {l : Launch} {D : va_G} {ad : Nat → Nat → Nat} {cy : Nat → ClassId} {L : List (Nat × Nat)} (hcl : zclo L = true) (hinj : zAd ad L) {X : zCtx} (hX : zXok X "SoapTreaty" prog_1_method_39_code 7) (hR : zRt X (some .boolean)) (hl : zXl X l D ad cy L (zroom 2)) : zAllR (zSo X) p_X11_fitsAllSeen_0 := ⟨zs_aload_n (i := 0) rfl hX (by decide +kernel : decode prog_1_method_39_code 0 = .ok (.aload_n 0, 1)) rfl (by decide),
  zs_getR hX zFL_11_37 (by decide +kernel : decode prog_1_method_39_code 1 = .ok (.getfield 37, 3)) rfl,
  zs_getR hX zFL_11_238 (by decide +kernel : decode prog_1_method_39_code 4 = .ok (.getfield 238, 3)) rfl,
  zs_astore_n (i := 2) rfl hX (by decide +kernel : decode prog_1_method_39_code 7 = .ok (.astore_n 2, 1)) rfl (by decide),
  zs_pushI (zg_iconst (by decide) hX (by decide +kernel : decode prog_1_method_39_code 8 = .ok (.iconst 0, 1)) rfl),
  zs_istore_n (i := 3) rfl hX (by decide +kernel : decode prog_1_method_39_code 9 = .ok (.istore_n 3, 1)) rfl (by decide),
  zs_kill hX (by decide) (zs_iload_n (i := 3) rfl hX (by decide +kernel : decode prog_1_method_39_code 10 = .ok (.iload_n 3, 1)) rfl (by decide)),
  zs_aload_n (i := 2) rfl hX (by decide +kernel : decode prog_1_method_39_code 11 = .ok (.aload_n 2, 1)) rfl (by decide),
  zs_getI hX zFL_11_297 (by decide) (by decide) (by decide +kernel : decode prog_1_method_39_code 12 = .ok (.getfield 297, 3)) rfl,
  zs_cge hX (by decide +kernel : decode prog_1_method_39_code 15 = .ok (.if_icmp .ge 101, 3)) (by decide) rfl,
  zs_aload_n (i := 2) rfl hX (by decide +kernel : decode prog_1_method_39_code 18 = .ok (.aload_n 2, 1)) rfl (by decide),
  zs_getR hX zFL_11_307 (by decide +kernel : decode prog_1_method_39_code 19 = .ok (.getfield 307, 3)) rfl,
  zs_iload_n (i := 3) rfl hX (by decide +kernel : decode prog_1_method_39_code 22 = .ok (.iload_n 3, 1)) rfl (by decide),
  zs_iald hX (by decide +kernel : decode prog_1_method_39_code 23 = .ok (.iaload, 1)) rfl,
  zs_istore hX (by decide +kernel : decode prog_1_method_39_code 24 = .ok (.istore 4, 2)) rfl (by decide),
  zs_aload_n (i := 0) rfl hX (by decide +kernel : decode prog_1_method_39_code 26 = .ok (.aload_n 0, 1)) rfl (by decide),
  zs_getR hX zFL_11_19 (by decide +kernel : decode prog_1_method_39_code 27 = .ok (.getfield 19, 3)) rfl,
  zs_iload hX (by decide +kernel : decode prog_1_method_39_code 30 = .ok (.iload 4, 2)) rfl (by decide),
  zs_callVi hX zMV_11_142 (zXc_of hl (by decide) (k_X0_hasCake hcl hinj)) (by decide +kernel : decode prog_1_method_39_code 32 = .ok (.invokevirtual 142, 3)) rfl,
  zs_0ne hX (by decide +kernel : decode prog_1_method_39_code 35 = .ok (.ifCond .ne 5, 3)) (by decide) rfl, trivial⟩
set_option maxRecDepth 20000 in
theorem s_X11_fitsAllSeen_1 {l : Launch} {D : va_G} {ad : Nat → Nat → Nat} {cy : Nat → ClassId} {L : List (Nat × Nat)} (hcl : zclo L = true) (hinj : zAd ad L) {X : zCtx} (hX : zXok X "SoapTreaty" prog_1_method_39_code 7) (hR : zRt X (some .boolean)) (hl : zXl X l D ad cy L (zroom 2)) : zAllR (zSo X) p_X11_fitsAllSeen_1 := ⟨zs_pushI (zg_iconst (by decide) hX (by decide +kernel : decode prog_1_method_39_code 38 = .ok (.iconst 0, 1)) rfl),
  zs_zretc hX hR (by decide +kernel : decode prog_1_method_39_code 39 = .ok (.ireturn, 1)),
  zs_iload_n (i := 1) rfl hX (by decide +kernel : decode prog_1_method_39_code 40 = .ok (.iload_n 1, 1)) rfl (by decide),
  zs_aload_n (i := 0) rfl hX (by decide +kernel : decode prog_1_method_39_code 41 = .ok (.aload_n 0, 1)) rfl (by decide),
  zs_getR hX zFL_11_37 (by decide +kernel : decode prog_1_method_39_code 42 = .ok (.getfield 37, 3)) rfl,
  zs_getR hX zFL_11_115 (by decide +kernel : decode prog_1_method_39_code 45 = .ok (.getfield 115, 3)) rfl,
  zs_getR hX zFL_11_148 (by decide +kernel : decode prog_1_method_39_code 48 = .ok (.getfield 148, 3)) rfl,
  zs_iload hX (by decide +kernel : decode prog_1_method_39_code 51 = .ok (.iload 4, 2)) rfl (by decide),
  zs_iald hX (by decide +kernel : decode prog_1_method_39_code 53 = .ok (.iaload, 1)) rfl,
  zs_ii (zg_ishr hX (by decide +kernel : decode prog_1_method_39_code 54 = .ok (.ishr, 1)) rfl),
  zs_pushI (zg_iconst (by decide) hX (by decide +kernel : decode prog_1_method_39_code 55 = .ok (.iconst 1, 1)) rfl),
  zs_ii (zg_iand hX (by decide +kernel : decode prog_1_method_39_code 56 = .ok (.iand, 1)) rfl),
  zs_pushI (zg_iconst (by decide) hX (by decide +kernel : decode prog_1_method_39_code 57 = .ok (.iconst 1, 1)) rfl),
  zs_cne hX (by decide +kernel : decode prog_1_method_39_code 58 = .ok (.if_icmp .ne 7, 3)) (by decide) rfl,
  zs_pushI (zg_iconst (by decide) hX (by decide +kernel : decode prog_1_method_39_code 61 = .ok (.iconst 1, 1)) rfl),
  zs_goto hX (by decide +kernel : decode prog_1_method_39_code 62 = .ok (.goto 4, 3)) (by decide),
  zs_pushI (zg_iconst (by decide) hX (by decide +kernel : decode prog_1_method_39_code 65 = .ok (.iconst 0, 1)) rfl),
  zs_kill hX (by decide) (zs_istore hX (by decide +kernel : decode prog_1_method_39_code 66 = .ok (.istore 5, 2)) rfl (by decide)),
  zs_iload hX (by decide +kernel : decode prog_1_method_39_code 68 = .ok (.iload 5, 2)) rfl (by decide),
  zs_0eq hX (by decide +kernel : decode prog_1_method_39_code 70 = .ok (.ifCond .eq 19, 3)) (by decide) rfl, trivial⟩
set_option maxRecDepth 20000 in
theorem s_X11_fitsAllSeen_2 {l : Launch} {D : va_G} {ad : Nat → Nat → Nat} {cy : Nat → ClassId} {L : List (Nat × Nat)} (hcl : zclo L = true) (hinj : zAd ad L) {X : zCtx} (hX : zXok X "SoapTreaty" prog_1_method_39_code 7) (hR : zRt X (some .boolean)) (hl : zXl X l D ad cy L (zroom 2)) : zAllR (zSo X) p_X11_fitsAllSeen_2 := ⟨zs_aload_n (i := 0) rfl hX (by decide +kernel : decode prog_1_method_39_code 73 = .ok (.aload_n 0, 1)) rfl (by decide),
  zs_getR hX zFL_11_37 (by decide +kernel : decode prog_1_method_39_code 74 = .ok (.getfield 37, 3)) rfl,
  zs_getR hX zFL_11_115 (by decide +kernel : decode prog_1_method_39_code 77 = .ok (.getfield 115, 3)) rfl,
  zs_getR hX zFL_11_151 (by decide +kernel : decode prog_1_method_39_code 80 = .ok (.getfield 151, 3)) rfl,
  zs_iload hX (by decide +kernel : decode prog_1_method_39_code 83 = .ok (.iload 4, 2)) rfl (by decide),
  zs_iald hX (by decide +kernel : decode prog_1_method_39_code 85 = .ok (.iaload, 1)) rfl,
  zs_goto hX (by decide +kernel : decode prog_1_method_39_code 86 = .ok (.goto 9, 3)) (by decide),
  zs_aload_n (i := 0) rfl hX (by decide +kernel : decode prog_1_method_39_code 89 = .ok (.aload_n 0, 1)) rfl (by decide),
  zs_getR hX zFL_11_61 (by decide +kernel : decode prog_1_method_39_code 90 = .ok (.getfield 61, 3)) rfl,
  zs_iload_n (i := 3) rfl hX (by decide +kernel : decode prog_1_method_39_code 93 = .ok (.iload_n 3, 1)) rfl (by decide),
  zs_iald hX (by decide +kernel : decode prog_1_method_39_code 94 = .ok (.iaload, 1)) rfl,
  zs_kill hX (by decide) (zs_istore hX (by decide +kernel : decode prog_1_method_39_code 95 = .ok (.istore 6, 2)) rfl (by decide)),
  zs_iload hX (by decide +kernel : decode prog_1_method_39_code 97 = .ok (.iload 6, 2)) rfl (by decide),
  zs_aload_n (i := 2) rfl hX (by decide +kernel : decode prog_1_method_39_code 99 = .ok (.aload_n 2, 1)) rfl (by decide),
  zs_getR hX zFL_11_314 (by decide +kernel : decode prog_1_method_39_code 100 = .ok (.getfield 314, 3)) rfl,
  zs_iload_n (i := 3) rfl hX (by decide +kernel : decode prog_1_method_39_code 103 = .ok (.iload_n 3, 1)) rfl (by decide),
  zs_iald hX (by decide +kernel : decode prog_1_method_39_code 104 = .ok (.iaload, 1)) rfl,
  zs_ceq hX (by decide +kernel : decode prog_1_method_39_code 105 = .ok (.if_icmp .eq 5, 3)) (by decide) rfl,
  zs_pushI (zg_iconst (by decide) hX (by decide +kernel : decode prog_1_method_39_code 108 = .ok (.iconst 0, 1)) rfl),
  zs_zretc hX hR (by decide +kernel : decode prog_1_method_39_code 109 = .ok (.ireturn, 1)), trivial⟩
set_option maxRecDepth 20000 in
theorem s_X11_fitsAllSeen_3 {l : Launch} {D : va_G} {ad : Nat → Nat → Nat} {cy : Nat → ClassId} {L : List (Nat × Nat)} (hcl : zclo L = true) (hinj : zAd ad L) {X : zCtx} (hX : zXok X "SoapTreaty" prog_1_method_39_code 7) (hR : zRt X (some .boolean)) (hl : zXl X l D ad cy L (zroom 2)) : zAllR (zSo X) p_X11_fitsAllSeen_3 := ⟨zs_iinc hX (by decide +kernel : decode prog_1_method_39_code 110 = .ok (.iinc 3 1, 3)) (by decide) rfl (by decide),
  zs_goto hX (by decide +kernel : decode prog_1_method_39_code 113 = .ok (.goto (-103), 3)) (by decide),
  zs_pushI (zg_iconst (by decide) hX (by decide +kernel : decode prog_1_method_39_code 116 = .ok (.iconst 1, 1)) rfl),
  zs_zretc hX hR (by decide +kernel : decode prog_1_method_39_code 117 = .ok (.ireturn, 1)), trivial⟩
theorem k_X11_fitsAllSeen {l : Launch} {D : va_G} {ad : Nat → Nat → Nat} {cy : Nat → ClassId} {L : List (Nat × Nat)} (hcl : zclo L = true) (hinj : zAd ad L) : zCk l D ad cy L 2 f_X11_fitsAllSeen y_X11_fitsAllSeen (.code y_X11_fitsAllSeen prog_1_method_39_code 7 (some .boolean)) :=
  z_met (by decide) t_X11_fitsAllSeen hcl hinj (fun X hX hR hl k => zgs_all (Q := zSo X) (c := [(36, p_X11_fitsAllSeen_0), (71, p_X11_fitsAllSeen_1), (110, p_X11_fitsAllSeen_2), (118, p_X11_fitsAllSeen_3)]) (fun _ => zs_bad) ⟨s_X11_fitsAllSeen_0 hcl hinj hX hR hl, s_X11_fitsAllSeen_1 hcl hinj hX hR hl, s_X11_fitsAllSeen_2 hcl hinj hX hR hl, s_X11_fitsAllSeen_3 hcl hinj hX hR hl, trivial⟩ k)
set_option maxRecDepth 1000000 in
theorem e_X11_fitsAllSeen_0 (x1 : Int32) (h : zH) : zL p_X11_fitsAllSeen 0 [some (.inr (.inr (11, 0))), some (.inl x1), none, none, none, none, none] [] h = zL p_X11_fitsAllSeen 10 [some (.inr (.inr (11, 0))), some (.inl x1), some (.inr (.inr (7, 0))), some (.inl 0), none, none, none] [] h := (zL_s (t_X11_fitsAllSeen) [0, 10, 66, 95] 1000 0 _ _ _).trans rfl
theorem g_X11_fitsAllSeen (x1 : Int32) (h : zH) : f_X11_fitsAllSeen [(.inr (.inr (11, 0))), (.inl x1)] h = zL p_X11_fitsAllSeen 10 [some (.inr (.inr (11, 0))), some (.inl x1), some (.inr (.inr (7, 0))), some (.inl 0), none, none, none] [] h := (show f_X11_fitsAllSeen _ h = zL p_X11_fitsAllSeen 0 _ [] h from rfl).trans (e_X11_fitsAllSeen_0 x1 h)
set_option maxRecDepth 1000000 in
theorem e_X11_fitsAllSeen_10 (x1 : Int32) (jx2 : Nat) (x3 : Int32) (o4 : Option zV) (o5 : Option zV) (o6 : Option zV) (h : zH) : zL p_X11_fitsAllSeen 10 [some (.inr (.inr (11, 0))), some (.inl x1), some (.inr (.inr (7, jx2))), some (.inl x3), o4, o5, o6] [] h = zf (x3 < (h.1 7 jx2 0)) (zf (vp_in x3 8) (zci (f_X0_hasCake [(.inr (.inr (0, 0))), (.inl (h.1 28 jx2 x3.toNatClampNeg))] h) (fun r2 h1 => zf (r2 = 0) (some (some (.inl 0), h1)) (zf (vp_in (h.1 28 jx2 x3.toNatClampNeg) 7) (zf (((x1 >>> ((h1.1 31 0 (h.1 28 jx2 x3.toNatClampNeg).toNatClampNeg) &&& 31)) &&& (1 : Int32)) = 1) (zL p_X11_fitsAllSeen 66 [some (.inr (.inr (11, 0))), some (.inl x1), some (.inr (.inr (7, jx2))), some (.inl x3), some (.inl (h.1 28 jx2 x3.toNatClampNeg)), none, none] [(.inl 1)] h1) (zL p_X11_fitsAllSeen 66 [some (.inr (.inr (11, 0))), some (.inl x1), some (.inr (.inr (7, jx2))), some (.inl x3), some (.inl (h.1 28 jx2 x3.toNatClampNeg)), none, none] [(.inl 0)] h1)) none))) none) (some (some (.inl 1), h)) := (zL_s (t_X11_fitsAllSeen) [0, 10, 66, 95] 1000 10 _ _ _).trans rfl
set_option maxRecDepth 1000000 in
theorem e_X11_fitsAllSeen_66 (x1 : Int32) (jx2 : Nat) (x3 : Int32) (x4 : Int32) (o5 : Option zV) (o6 : Option zV) (s0 : Int32) (h : zH) : zL p_X11_fitsAllSeen 66 [some (.inr (.inr (11, 0))), some (.inl x1), some (.inr (.inr (7, jx2))), some (.inl x3), some (.inl x4), o5, o6] [(.inl s0)] h = zf (s0 = 0) (zf (vp_in x3 8) (zL p_X11_fitsAllSeen 95 [some (.inr (.inr (11, 0))), some (.inl x1), some (.inr (.inr (7, jx2))), some (.inl x3), some (.inl x4), some (.inl s0), none] [(.inl (h.1 37 0 x3.toNatClampNeg))] h) none) (zf (vp_in x4 7) (zL p_X11_fitsAllSeen 95 [some (.inr (.inr (11, 0))), some (.inl x1), some (.inr (.inr (7, jx2))), some (.inl x3), some (.inl x4), some (.inl s0), none] [(.inl (h.1 32 0 x4.toNatClampNeg))] h) none) := (zL_s (t_X11_fitsAllSeen) [0, 10, 66, 95] 1000 66 _ _ _).trans rfl
set_option maxRecDepth 1000000 in
theorem e_X11_fitsAllSeen_95 (x1 : Int32) (jx2 : Nat) (x3 : Int32) (o4 : Option zV) (o5 : Option zV) (o6 : Option zV) (s0 : Int32) (h : zH) : zL p_X11_fitsAllSeen 95 [some (.inr (.inr (11, 0))), some (.inl x1), some (.inr (.inr (7, jx2))), some (.inl x3), o4, o5, o6] [(.inl s0)] h = zf (vp_in x3 8) (zf (s0 = (h.1 30 jx2 x3.toNatClampNeg)) (zL p_X11_fitsAllSeen 10 [some (.inr (.inr (11, 0))), some (.inl x1), some (.inr (.inr (7, jx2))), some (.inl (x3 + 1)), none, none, some (.inl s0)] [] h) (some (some (.inl 0), h))) none := (zL_s (t_X11_fitsAllSeen) [0, 10, 66, 95] 1000 95 _ _ _).trans rfl
theorem zMV_11_248 : zMV "SoapTreaty" 248 8 y_X8_thickBehind prog_10_method_14_code 5 (some .int) 2 := ⟨⟨zT_of 1036 (by decide +kernel) (by decide +kernel), zT_of 1037 (by decide +kernel) (by decide +kernel), zT_of 1038 (by decide +kernel) (by decide +kernel), zT_of 115 (by decide +kernel) (by decide +kernel), zT_of 1039 (by decide +kernel) (by decide +kernel)⟩, by decide, rfl, ⟨zT8, 7, rfl⟩, by decide, by decide, by decide +kernel⟩
theorem zMV_11_308 : zMV "SoapTreaty" 308 0 y_X0_dryBits prog_2_method_9_code 3 (some .int) 0 := ⟨⟨zT_of 1040 (by decide +kernel) (by decide +kernel), zT_of 1041 (by decide +kernel) (by decide +kernel), zT_of 1042 (by decide +kernel) (by decide +kernel), zT_of 104 (by decide +kernel) (by decide +kernel), zT_of 1043 (by decide +kernel) (by decide +kernel)⟩, by decide, rfl, ⟨zT0, 13, rfl⟩, by decide, by decide, by decide +kernel⟩
theorem zMV_11_311 : zMV "SoapTreaty" 311 11 y_X11_fitsAllSeen prog_1_method_39_code 7 (some .boolean) 1 := ⟨⟨zT_of 1044 (by decide +kernel) (by decide +kernel), zT_of 1046 (by decide +kernel) (by decide +kernel), zT_of 27 (by decide +kernel) (by decide +kernel), zT_of 102 (by decide +kernel) (by decide +kernel), zT_of 1047 (by decide +kernel) (by decide +kernel)⟩, by decide, rfl, ⟨zT11, 10, rfl⟩, by decide, by decide, by decide +kernel⟩
/-! SoapTreaty.fittingSets()I -/
def y_X11_fittingSets : MethodName := ⟨"SoapTreaty", "fittingSets", "()I"⟩
noncomputable def p_X11_fittingSets_0 : List (Nat × zO) := [(0, zo_aload 0 1),
  (1, zo_getR 11 4 (some 0) 4),
  (4, zo_getR 4 7 none 7),
  (7, zo_astore 1 8),
  (8, zo_push (.inl 0) 9),
  (9, zo_istore 2 10),
  (10, zo_kill [3, 4] (zo_iload 2 11)),
  (11, zo_aload 1 12),
  (12, zo_getI 7 0 15),
  (15, zo_cge 52 18),
  (18, zo_aload 0 19),
  (19, zo_getR 11 37 none 22),
  (22, zo_iload 2 23),
  (23, zo_aload 0 24),
  (24, zo_getR 11 4 (some 0) 27),
  (27, zo_getR 4 8 none 30),
  (30, zo_aload 1 31),
  (31, zo_getR 7 29 none 34),
  (34, zo_iload 2 35),
  (35, zo_iald 36)]
noncomputable def p_X11_fittingSets_1 : List (Nat × zO) := [(36, zo_aload 1 37),
  (37, zo_getR 7 28 none 40),
  (40, zo_iload 2 41),
  (41, zo_iald 42),
  (42, zo_vir 8 3 (zo_calli (f_X8_thickBehind) 3 45)),
  (45, zo_iast 46),
  (46, zo_iinc 2 1 49),
  (49, zo_goto 10),
  (52, zo_aload 0 53),
  (53, zo_getR 11 0 (some 0) 56),
  (56, zo_vir 0 1 (zo_calli (f_X0_dryBits) 1 59)),
  (59, zo_istore 2 60),
  (60, zo_push (.inl 0) 61),
  (61, zo_istore 3 62),
  (62, zo_push (.inl 0) 63),
  (63, zo_istore 4 65),
  (65, zo_kill [1] (zo_iload 4 67)),
  (67, zo_push (.inl 1) 68),
  (68, zo_aload 0 69),
  (69, zo_getR 11 0 (some 0) 72)]
noncomputable def p_X11_fittingSets_2 : List (Nat × zO) := [(72, zo_getI 0 0 75),
  (75, zo_ii (fun x y => x <<< (y &&& 31)) 76),
  (76, zo_cge 108 79),
  (79, zo_iload 4 81),
  (81, zo_iload 2 82),
  (82, zo_ii (fun x y => x &&& y) 83),
  (83, zo_0ne 102 86),
  (86, zo_aload 0 87),
  (87, zo_iload 4 89),
  (89, zo_vir 11 2 (zo_calli (f_X11_fitsAllSeen) 2 92)),
  (92, zo_0eq 102 95),
  (95, zo_iload 3 96),
  (96, zo_push (.inl 1) 97),
  (97, zo_iload 4 99),
  (99, zo_ii (fun x y => x <<< (y &&& 31)) 100),
  (100, zo_ii (fun x y => x ||| y) 101),
  (101, zo_istore 3 102),
  (102, zo_iinc 4 1 105),
  (105, zo_goto 65),
  (108, zo_iload 3 109)]
noncomputable def p_X11_fittingSets_3 : List (Nat × zO) := [(109, zo_iret)]
noncomputable def p_X11_fittingSets : Nat → zO := zgs [(36, p_X11_fittingSets_0), (70, p_X11_fittingSets_1), (109, p_X11_fittingSets_2), (110, p_X11_fittingSets_3)]
theorem t_X11_fittingSets : ∀ k, zTl (p_X11_fittingSets k) := fun k => zgs_all (c := [(36, p_X11_fittingSets_0), (70, p_X11_fittingSets_1), (109, p_X11_fittingSets_2), (110, p_X11_fittingSets_3)]) (fun _ => zl_bad) ⟨⟨zl_aload, zl_getR, zl_getR, zl_astore, zl_push, zl_istore, (zl_kill zl_iload), zl_aload, zl_getI, zl_cge, zl_aload, zl_getR, zl_iload, zl_aload, zl_getR, zl_getR, zl_aload, zl_getR, zl_iload, zl_iald, trivial⟩, ⟨zl_aload, zl_getR, zl_iload, zl_iald, (zl_vir zl_calli), zl_iast, zl_iinc, zl_goto, zl_aload, zl_getR, (zl_vir zl_calli), zl_istore, zl_push, zl_istore, zl_push, zl_istore, (zl_kill zl_iload), zl_push, zl_aload, zl_getR, trivial⟩, ⟨zl_getI, zl_ii, zl_cge, zl_iload, zl_iload, zl_ii, zl_0ne, zl_aload, zl_iload, (zl_vir zl_calli), zl_0eq, zl_iload, zl_push, zl_iload, zl_ii, zl_ii, zl_istore, zl_iinc, zl_goto, zl_iload, trivial⟩, ⟨zl_iret, trivial⟩, trivial⟩ k
noncomputable def f_X11_fittingSets : zS := zrun p_X11_fittingSets 5
set_option maxRecDepth 20000 in
theorem s_X11_fittingSets_0 {l : Launch} {D : va_G} {ad : Nat → Nat → Nat} {cy : Nat → ClassId} {L : List (Nat × Nat)} (hcl : zclo L = true) (hinj : zAd ad L) {X : zCtx} (hX : zXok X "SoapTreaty" prog_1_method_38_code 5) (hR : zRt X (some .int)) (hl : zXl X l D ad cy L (zroom 5)) : zAllR (zSo X) p_X11_fittingSets_0 := ⟨zs_aload_n (i := 0) rfl hX (by decide +kernel : decode prog_1_method_38_code 0 = .ok (.aload_n 0, 1)) rfl (by decide),
  zs_getR hX zFL_11_37 (by decide +kernel : decode prog_1_method_38_code 1 = .ok (.getfield 37, 3)) rfl,
  zs_getR hX zFL_11_238 (by decide +kernel : decode prog_1_method_38_code 4 = .ok (.getfield 238, 3)) rfl,
  zs_astore_n (i := 1) rfl hX (by decide +kernel : decode prog_1_method_38_code 7 = .ok (.astore_n 1, 1)) rfl (by decide),
  zs_pushI (zg_iconst (by decide) hX (by decide +kernel : decode prog_1_method_38_code 8 = .ok (.iconst 0, 1)) rfl),
  zs_istore_n (i := 2) rfl hX (by decide +kernel : decode prog_1_method_38_code 9 = .ok (.istore_n 2, 1)) rfl (by decide),
  zs_kill hX (by decide) (zs_iload_n (i := 2) rfl hX (by decide +kernel : decode prog_1_method_38_code 10 = .ok (.iload_n 2, 1)) rfl (by decide)),
  zs_aload_n (i := 1) rfl hX (by decide +kernel : decode prog_1_method_38_code 11 = .ok (.aload_n 1, 1)) rfl (by decide),
  zs_getI hX zFL_11_297 (by decide) (by decide) (by decide +kernel : decode prog_1_method_38_code 12 = .ok (.getfield 297, 3)) rfl,
  zs_cge hX (by decide +kernel : decode prog_1_method_38_code 15 = .ok (.if_icmp .ge 37, 3)) (by decide) rfl,
  zs_aload_n (i := 0) rfl hX (by decide +kernel : decode prog_1_method_38_code 18 = .ok (.aload_n 0, 1)) rfl (by decide),
  zs_getR hX zFL_11_61 (by decide +kernel : decode prog_1_method_38_code 19 = .ok (.getfield 61, 3)) rfl,
  zs_iload_n (i := 2) rfl hX (by decide +kernel : decode prog_1_method_38_code 22 = .ok (.iload_n 2, 1)) rfl (by decide),
  zs_aload_n (i := 0) rfl hX (by decide +kernel : decode prog_1_method_38_code 23 = .ok (.aload_n 0, 1)) rfl (by decide),
  zs_getR hX zFL_11_37 (by decide +kernel : decode prog_1_method_38_code 24 = .ok (.getfield 37, 3)) rfl,
  zs_getR hX zFL_11_115 (by decide +kernel : decode prog_1_method_38_code 27 = .ok (.getfield 115, 3)) rfl,
  zs_aload_n (i := 1) rfl hX (by decide +kernel : decode prog_1_method_38_code 30 = .ok (.aload_n 1, 1)) rfl (by decide),
  zs_getR hX zFL_11_304 (by decide +kernel : decode prog_1_method_38_code 31 = .ok (.getfield 304, 3)) rfl,
  zs_iload_n (i := 2) rfl hX (by decide +kernel : decode prog_1_method_38_code 34 = .ok (.iload_n 2, 1)) rfl (by decide),
  zs_iald hX (by decide +kernel : decode prog_1_method_38_code 35 = .ok (.iaload, 1)) rfl, trivial⟩
set_option maxRecDepth 20000 in
theorem s_X11_fittingSets_1 {l : Launch} {D : va_G} {ad : Nat → Nat → Nat} {cy : Nat → ClassId} {L : List (Nat × Nat)} (hcl : zclo L = true) (hinj : zAd ad L) {X : zCtx} (hX : zXok X "SoapTreaty" prog_1_method_38_code 5) (hR : zRt X (some .int)) (hl : zXl X l D ad cy L (zroom 5)) : zAllR (zSo X) p_X11_fittingSets_1 := ⟨zs_aload_n (i := 1) rfl hX (by decide +kernel : decode prog_1_method_38_code 36 = .ok (.aload_n 1, 1)) rfl (by decide),
  zs_getR hX zFL_11_307 (by decide +kernel : decode prog_1_method_38_code 37 = .ok (.getfield 307, 3)) rfl,
  zs_iload_n (i := 2) rfl hX (by decide +kernel : decode prog_1_method_38_code 40 = .ok (.iload_n 2, 1)) rfl (by decide),
  zs_iald hX (by decide +kernel : decode prog_1_method_38_code 41 = .ok (.iaload, 1)) rfl,
  zs_callVi hX zMV_11_248 (zXc_of hl (by decide) (k_X8_thickBehind hcl hinj)) (by decide +kernel : decode prog_1_method_38_code 42 = .ok (.invokevirtual 248, 3)) rfl,
  zs_iast hX (by decide +kernel : decode prog_1_method_38_code 45 = .ok (.iastore, 1)) rfl,
  zs_iinc hX (by decide +kernel : decode prog_1_method_38_code 46 = .ok (.iinc 2 1, 3)) (by decide) rfl (by decide),
  zs_goto hX (by decide +kernel : decode prog_1_method_38_code 49 = .ok (.goto (-39), 3)) (by decide),
  zs_aload_n (i := 0) rfl hX (by decide +kernel : decode prog_1_method_38_code 52 = .ok (.aload_n 0, 1)) rfl (by decide),
  zs_getR hX zFL_11_19 (by decide +kernel : decode prog_1_method_38_code 53 = .ok (.getfield 19, 3)) rfl,
  zs_callVi hX zMV_11_308 (zXc_of hl (by decide) (k_X0_dryBits hcl hinj)) (by decide +kernel : decode prog_1_method_38_code 56 = .ok (.invokevirtual 308, 3)) rfl,
  zs_istore_n (i := 2) rfl hX (by decide +kernel : decode prog_1_method_38_code 59 = .ok (.istore_n 2, 1)) rfl (by decide),
  zs_pushI (zg_iconst (by decide) hX (by decide +kernel : decode prog_1_method_38_code 60 = .ok (.iconst 0, 1)) rfl),
  zs_istore_n (i := 3) rfl hX (by decide +kernel : decode prog_1_method_38_code 61 = .ok (.istore_n 3, 1)) rfl (by decide),
  zs_pushI (zg_iconst (by decide) hX (by decide +kernel : decode prog_1_method_38_code 62 = .ok (.iconst 0, 1)) rfl),
  zs_istore hX (by decide +kernel : decode prog_1_method_38_code 63 = .ok (.istore 4, 2)) rfl (by decide),
  zs_kill hX (by decide) (zs_iload hX (by decide +kernel : decode prog_1_method_38_code 65 = .ok (.iload 4, 2)) rfl (by decide)),
  zs_pushI (zg_iconst (by decide) hX (by decide +kernel : decode prog_1_method_38_code 67 = .ok (.iconst 1, 1)) rfl),
  zs_aload_n (i := 0) rfl hX (by decide +kernel : decode prog_1_method_38_code 68 = .ok (.aload_n 0, 1)) rfl (by decide),
  zs_getR hX zFL_11_19 (by decide +kernel : decode prog_1_method_38_code 69 = .ok (.getfield 19, 3)) rfl, trivial⟩
set_option maxRecDepth 20000 in
theorem s_X11_fittingSets_2 {l : Launch} {D : va_G} {ad : Nat → Nat → Nat} {cy : Nat → ClassId} {L : List (Nat × Nat)} (hcl : zclo L = true) (hinj : zAd ad L) {X : zCtx} (hX : zXok X "SoapTreaty" prog_1_method_38_code 5) (hR : zRt X (some .int)) (hl : zXl X l D ad cy L (zroom 5)) : zAllR (zSo X) p_X11_fittingSets_2 := ⟨zs_getI hX zFL_11_220 (by decide) (by decide) (by decide +kernel : decode prog_1_method_38_code 72 = .ok (.getfield 220, 3)) rfl,
  zs_ii (zg_ishl hX (by decide +kernel : decode prog_1_method_38_code 75 = .ok (.ishl, 1)) rfl),
  zs_cge hX (by decide +kernel : decode prog_1_method_38_code 76 = .ok (.if_icmp .ge 32, 3)) (by decide) rfl,
  zs_iload hX (by decide +kernel : decode prog_1_method_38_code 79 = .ok (.iload 4, 2)) rfl (by decide),
  zs_iload_n (i := 2) rfl hX (by decide +kernel : decode prog_1_method_38_code 81 = .ok (.iload_n 2, 1)) rfl (by decide),
  zs_ii (zg_iand hX (by decide +kernel : decode prog_1_method_38_code 82 = .ok (.iand, 1)) rfl),
  zs_0ne hX (by decide +kernel : decode prog_1_method_38_code 83 = .ok (.ifCond .ne 19, 3)) (by decide) rfl,
  zs_aload_n (i := 0) rfl hX (by decide +kernel : decode prog_1_method_38_code 86 = .ok (.aload_n 0, 1)) rfl (by decide),
  zs_iload hX (by decide +kernel : decode prog_1_method_38_code 87 = .ok (.iload 4, 2)) rfl (by decide),
  zs_callVi hX zMV_11_311 (zXc_of hl (by decide) (k_X11_fitsAllSeen hcl hinj)) (by decide +kernel : decode prog_1_method_38_code 89 = .ok (.invokevirtual 311, 3)) rfl,
  zs_0eq hX (by decide +kernel : decode prog_1_method_38_code 92 = .ok (.ifCond .eq 10, 3)) (by decide) rfl,
  zs_iload_n (i := 3) rfl hX (by decide +kernel : decode prog_1_method_38_code 95 = .ok (.iload_n 3, 1)) rfl (by decide),
  zs_pushI (zg_iconst (by decide) hX (by decide +kernel : decode prog_1_method_38_code 96 = .ok (.iconst 1, 1)) rfl),
  zs_iload hX (by decide +kernel : decode prog_1_method_38_code 97 = .ok (.iload 4, 2)) rfl (by decide),
  zs_ii (zg_ishl hX (by decide +kernel : decode prog_1_method_38_code 99 = .ok (.ishl, 1)) rfl),
  zs_ii (zg_ior hX (by decide +kernel : decode prog_1_method_38_code 100 = .ok (.ior, 1)) rfl),
  zs_istore_n (i := 3) rfl hX (by decide +kernel : decode prog_1_method_38_code 101 = .ok (.istore_n 3, 1)) rfl (by decide),
  zs_iinc hX (by decide +kernel : decode prog_1_method_38_code 102 = .ok (.iinc 4 1, 3)) (by decide) rfl (by decide),
  zs_goto hX (by decide +kernel : decode prog_1_method_38_code 105 = .ok (.goto (-40), 3)) (by decide),
  zs_iload_n (i := 3) rfl hX (by decide +kernel : decode prog_1_method_38_code 108 = .ok (.iload_n 3, 1)) rfl (by decide), trivial⟩
set_option maxRecDepth 20000 in
theorem s_X11_fittingSets_3 {l : Launch} {D : va_G} {ad : Nat → Nat → Nat} {cy : Nat → ClassId} {L : List (Nat × Nat)} (hcl : zclo L = true) (hinj : zAd ad L) {X : zCtx} (hX : zXok X "SoapTreaty" prog_1_method_38_code 5) (hR : zRt X (some .int)) (hl : zXl X l D ad cy L (zroom 5)) : zAllR (zSo X) p_X11_fittingSets_3 := ⟨zs_iret hX hR (by decide +kernel : decode prog_1_method_38_code 109 = .ok (.ireturn, 1)), trivial⟩
theorem k_X11_fittingSets {l : Launch} {D : va_G} {ad : Nat → Nat → Nat} {cy : Nat → ClassId} {L : List (Nat × Nat)} (hcl : zclo L = true) (hinj : zAd ad L) : zCk l D ad cy L 5 f_X11_fittingSets y_X11_fittingSets (.code y_X11_fittingSets prog_1_method_38_code 5 (some .int)) :=
  z_met (by decide) t_X11_fittingSets hcl hinj (fun X hX hR hl k => zgs_all (Q := zSo X) (c := [(36, p_X11_fittingSets_0), (70, p_X11_fittingSets_1), (109, p_X11_fittingSets_2), (110, p_X11_fittingSets_3)]) (fun _ => zs_bad) ⟨s_X11_fittingSets_0 hcl hinj hX hR hl, s_X11_fittingSets_1 hcl hinj hX hR hl, s_X11_fittingSets_2 hcl hinj hX hR hl, s_X11_fittingSets_3 hcl hinj hX hR hl, trivial⟩ k)
set_option maxRecDepth 1000000 in
theorem e_X11_fittingSets_0 (h : zH) : zL p_X11_fittingSets 0 [some (.inr (.inr (11, 0))), none, none, none, none] [] h = zL p_X11_fittingSets 10 [some (.inr (.inr (11, 0))), some (.inr (.inr (7, 0))), some (.inl 0), none, none] [] h := (zL_s (t_X11_fittingSets) [0, 10, 65] 1000 0 _ _ _).trans rfl
theorem g_X11_fittingSets (h : zH) : f_X11_fittingSets [(.inr (.inr (11, 0)))] h = zL p_X11_fittingSets 10 [some (.inr (.inr (11, 0))), some (.inr (.inr (7, 0))), some (.inl 0), none, none] [] h := (show f_X11_fittingSets _ h = zL p_X11_fittingSets 0 _ [] h from rfl).trans (e_X11_fittingSets_0 h)
set_option maxRecDepth 1000000 in
theorem e_X11_fittingSets_10 (jx1 : Nat) (x2 : Int32) (o3 : Option zV) (o4 : Option zV) (h : zH) : zL p_X11_fittingSets 10 [some (.inr (.inr (11, 0))), some (.inr (.inr (7, jx1))), some (.inl x2), o3, o4] [] h = zf (x2 < (h.1 7 jx1 0)) (zf (vp_in x2 8) (zf (vp_in x2 8) (zci (f_X8_thickBehind [(.inr (.inr (8, 0))), (.inl (h.1 29 jx1 x2.toNatClampNeg)), (.inl (h.1 28 jx1 x2.toNatClampNeg))] h) (fun r4 h3 => zf (vp_in x2 8) (zL p_X11_fittingSets 10 [some (.inr (.inr (11, 0))), some (.inr (.inr (7, jx1))), some (.inl (x2 + 1)), none, none] [] (zuI h3 37 0 x2.toNatClampNeg r4)) none)) none) none) (zci (f_X0_dryBits [(.inr (.inr (0, 0)))] h) (fun r2 h1 => zL p_X11_fittingSets 65 [some (.inr (.inr (11, 0))), some (.inr (.inr (7, jx1))), some (.inl r2), some (.inl 0), some (.inl 0)] [] h1)) := (zL_s (t_X11_fittingSets) [0, 10, 65] 1000 10 _ _ _).trans rfl
set_option maxRecDepth 1000000 in
theorem e_X11_fittingSets_65 (o1 : Option zV) (x2 : Int32) (x3 : Int32) (x4 : Int32) (h : zH) : zL p_X11_fittingSets 65 [some (.inr (.inr (11, 0))), o1, some (.inl x2), some (.inl x3), some (.inl x4)] [] h = zf (x4 < ((1 : Int32) <<< ((h.1 0 0 0) &&& 31))) (zf ((x4 &&& x2) = 0) (zci (f_X11_fitsAllSeen [(.inr (.inr (11, 0))), (.inl x4)] h) (fun r2 h1 => zf (r2 = 0) (zL p_X11_fittingSets 65 [some (.inr (.inr (11, 0))), none, some (.inl x2), some (.inl x3), some (.inl (x4 + 1))] [] h1) (zL p_X11_fittingSets 65 [some (.inr (.inr (11, 0))), none, some (.inl x2), some (.inl (x3 ||| ((1 : Int32) <<< (x4 &&& 31)))), some (.inl (x4 + 1))] [] h1))) (zL p_X11_fittingSets 65 [some (.inr (.inr (11, 0))), none, some (.inl x2), some (.inl x3), some (.inl (x4 + 1))] [] h)) (some (some (.inl x3), h)) := (zL_s (t_X11_fittingSets) [0, 10, 65] 1000 65 _ _ _).trans rfl
theorem zMV_11_245 : zMV "SoapTreaty" 245 11 y_X11_fittingSets prog_1_method_38_code 5 (some .int) 0 := ⟨⟨zT_of 1032 (by decide +kernel) (by decide +kernel), zT_of 1034 (by decide +kernel) (by decide +kernel), zT_of 26 (by decide +kernel) (by decide +kernel), zT_of 102 (by decide +kernel) (by decide +kernel), zT_of 1035 (by decide +kernel) (by decide +kernel)⟩, by decide, rfl, ⟨zT11, 10, rfl⟩, by decide, by decide, by decide +kernel⟩
/-! SoapTreaty.sets(I)I -/
def y_X11_sets : MethodName := ⟨"SoapTreaty", "sets", "(I)I"⟩
noncomputable def p_X11_sets_0 : List (Nat × zO) := [(0, zo_iload 1 1),
  (1, zo_0lt 9 4),
  (4, zo_iload 1 5),
  (5, zo_push (.inl 2) 6),
  (6, zo_cle 11 9),
  (9, zo_push (.inl zm1) 10),
  (10, zo_iret),
  (11, zo_aload 0 12),
  (12, zo_vir 11 1 (zo_calli (f_X11_fittingSets) 1 15)),
  (15, zo_istore 2 16),
  (16, zo_iload 1 17),
  (17, zo_0ne 25 20),
  (20, zo_iload 2 21),
  (21, zo_calli (f_J6_bitCount) 1 24),
  (24, zo_iret),
  (25, zo_iload 2 26),
  (26, zo_0ne 31 29),
  (29, zo_push (.inl zm1) 30),
  (30, zo_iret),
  (31, zo_push (.inl 1) 32)]
noncomputable def p_X11_sets_1 : List (Nat × zO) := [(32, zo_aload 0 33),
  (33, zo_getR 11 0 (some 0) 36),
  (36, zo_getI 0 0 39),
  (39, zo_ii (fun x y => x <<< (y &&& 31)) 40),
  (40, zo_push (.inl 1) 41),
  (41, zo_ii (fun x y => x - y) 42),
  (42, zo_istore 3 43),
  (43, zo_push (.inl 0) 44),
  (44, zo_istore 4 46),
  (46, zo_push (.inl 0) 47),
  (47, zo_istore 5 49),
  (49, zo_iload 5 51),
  (51, zo_push (.inl 1) 52),
  (52, zo_aload 0 53),
  (53, zo_getR 11 0 (some 0) 56),
  (56, zo_getI 0 0 59),
  (59, zo_ii (fun x y => x <<< (y &&& 31)) 60),
  (60, zo_cge 91 63),
  (63, zo_iload 2 64),
  (64, zo_iload 5 66)]
noncomputable def p_X11_sets_2 : List (Nat × zO) := [(66, zo_ii (fun x y => x >>> (y &&& 31)) 67),
  (67, zo_push (.inl 1) 68),
  (68, zo_ii (fun x y => x &&& y) 69),
  (69, zo_push (.inl 1) 70),
  (70, zo_cne 85 73),
  (73, zo_iload 3 74),
  (74, zo_iload 5 76),
  (76, zo_ii (fun x y => x &&& y) 77),
  (77, zo_istore 3 78),
  (78, zo_iload 4 80),
  (80, zo_iload 5 82),
  (82, zo_ii (fun x y => x ||| y) 83),
  (83, zo_istore 4 85),
  (85, zo_iinc 5 1 88),
  (88, zo_goto 49),
  (91, zo_iload 1 92),
  (92, zo_push (.inl 1) 93),
  (93, zo_cne 100 96),
  (96, zo_iload 3 97),
  (97, zo_goto 102)]
noncomputable def p_X11_sets_3 : List (Nat × zO) := [(100, zo_iload 4 102),
  (102, zo_iret)]
noncomputable def p_X11_sets : Nat → zO := zgs [(32, p_X11_sets_0), (65, p_X11_sets_1), (98, p_X11_sets_2), (103, p_X11_sets_3)]
theorem t_X11_sets : ∀ k, zTl (p_X11_sets k) := fun k => zgs_all (c := [(32, p_X11_sets_0), (65, p_X11_sets_1), (98, p_X11_sets_2), (103, p_X11_sets_3)]) (fun _ => zl_bad) ⟨⟨zl_iload, zl_0lt, zl_iload, zl_push, zl_cle, zl_push, zl_iret, zl_aload, (zl_vir zl_calli), zl_istore, zl_iload, zl_0ne, zl_iload, zl_calli, zl_iret, zl_iload, zl_0ne, zl_push, zl_iret, zl_push, trivial⟩, ⟨zl_aload, zl_getR, zl_getI, zl_ii, zl_push, zl_ii, zl_istore, zl_push, zl_istore, zl_push, zl_istore, zl_iload, zl_push, zl_aload, zl_getR, zl_getI, zl_ii, zl_cge, zl_iload, zl_iload, trivial⟩, ⟨zl_ii, zl_push, zl_ii, zl_push, zl_cne, zl_iload, zl_iload, zl_ii, zl_istore, zl_iload, zl_iload, zl_ii, zl_istore, zl_iinc, zl_goto, zl_iload, zl_push, zl_cne, zl_iload, zl_goto, trivial⟩, ⟨zl_iload, zl_iret, trivial⟩, trivial⟩ k
noncomputable def f_X11_sets : zS := zrun p_X11_sets 6
set_option maxRecDepth 20000 in
theorem s_X11_sets_0 {l : Launch} {D : va_G} {ad : Nat → Nat → Nat} {cy : Nat → ClassId} {L : List (Nat × Nat)} (hcl : zclo L = true) (hinj : zAd ad L) {X : zCtx} (hX : zXok X "SoapTreaty" prog_1_method_27_code 6) (hR : zRt X (some .int)) (hl : zXl X l D ad cy L (zroom 6)) : zAllR (zSo X) p_X11_sets_0 := ⟨zs_iload_n (i := 1) rfl hX (by decide +kernel : decode prog_1_method_27_code 0 = .ok (.iload_n 1, 1)) rfl (by decide),
  zs_0lt hX (by decide +kernel : decode prog_1_method_27_code 1 = .ok (.ifCond .lt 8, 3)) (by decide) rfl,
  zs_iload_n (i := 1) rfl hX (by decide +kernel : decode prog_1_method_27_code 4 = .ok (.iload_n 1, 1)) rfl (by decide),
  zs_pushI (zg_iconst (by decide) hX (by decide +kernel : decode prog_1_method_27_code 5 = .ok (.iconst 2, 1)) rfl),
  zs_cle hX (by decide +kernel : decode prog_1_method_27_code 6 = .ok (.if_icmp .le 5, 3)) (by decide) rfl,
  zs_pushI (zg_iconst (by decide) hX (by decide +kernel : decode prog_1_method_27_code 9 = .ok (.iconst (-1), 1)) rfl),
  zs_iret hX hR (by decide +kernel : decode prog_1_method_27_code 10 = .ok (.ireturn, 1)),
  zs_aload_n (i := 0) rfl hX (by decide +kernel : decode prog_1_method_27_code 11 = .ok (.aload_n 0, 1)) rfl (by decide),
  zs_callVi hX zMV_11_245 (zXc_of hl (by decide) (k_X11_fittingSets hcl hinj)) (by decide +kernel : decode prog_1_method_27_code 12 = .ok (.invokevirtual 245, 3)) rfl,
  zs_istore_n (i := 2) rfl hX (by decide +kernel : decode prog_1_method_27_code 15 = .ok (.istore_n 2, 1)) rfl (by decide),
  zs_iload_n (i := 1) rfl hX (by decide +kernel : decode prog_1_method_27_code 16 = .ok (.iload_n 1, 1)) rfl (by decide),
  zs_0ne hX (by decide +kernel : decode prog_1_method_27_code 17 = .ok (.ifCond .ne 8, 3)) (by decide) rfl,
  zs_iload_n (i := 2) rfl hX (by decide +kernel : decode prog_1_method_27_code 20 = .ok (.iload_n 2, 1)) rfl (by decide),
  zs_callSi hX zMS_11_131 (zXc_of hl (by decide) (k_J6_bitCount hcl hinj)) (by decide +kernel : decode prog_1_method_27_code 21 = .ok (.invokestatic 131, 3)) rfl,
  zs_iret hX hR (by decide +kernel : decode prog_1_method_27_code 24 = .ok (.ireturn, 1)),
  zs_iload_n (i := 2) rfl hX (by decide +kernel : decode prog_1_method_27_code 25 = .ok (.iload_n 2, 1)) rfl (by decide),
  zs_0ne hX (by decide +kernel : decode prog_1_method_27_code 26 = .ok (.ifCond .ne 5, 3)) (by decide) rfl,
  zs_pushI (zg_iconst (by decide) hX (by decide +kernel : decode prog_1_method_27_code 29 = .ok (.iconst (-1), 1)) rfl),
  zs_iret hX hR (by decide +kernel : decode prog_1_method_27_code 30 = .ok (.ireturn, 1)),
  zs_pushI (zg_iconst (by decide) hX (by decide +kernel : decode prog_1_method_27_code 31 = .ok (.iconst 1, 1)) rfl), trivial⟩
set_option maxRecDepth 20000 in
theorem s_X11_sets_1 {l : Launch} {D : va_G} {ad : Nat → Nat → Nat} {cy : Nat → ClassId} {L : List (Nat × Nat)} (hcl : zclo L = true) (hinj : zAd ad L) {X : zCtx} (hX : zXok X "SoapTreaty" prog_1_method_27_code 6) (hR : zRt X (some .int)) (hl : zXl X l D ad cy L (zroom 6)) : zAllR (zSo X) p_X11_sets_1 := ⟨zs_aload_n (i := 0) rfl hX (by decide +kernel : decode prog_1_method_27_code 32 = .ok (.aload_n 0, 1)) rfl (by decide),
  zs_getR hX zFL_11_19 (by decide +kernel : decode prog_1_method_27_code 33 = .ok (.getfield 19, 3)) rfl,
  zs_getI hX zFL_11_220 (by decide) (by decide) (by decide +kernel : decode prog_1_method_27_code 36 = .ok (.getfield 220, 3)) rfl,
  zs_ii (zg_ishl hX (by decide +kernel : decode prog_1_method_27_code 39 = .ok (.ishl, 1)) rfl),
  zs_pushI (zg_iconst (by decide) hX (by decide +kernel : decode prog_1_method_27_code 40 = .ok (.iconst 1, 1)) rfl),
  zs_ii (zg_isub hX (by decide +kernel : decode prog_1_method_27_code 41 = .ok (.isub, 1)) rfl),
  zs_istore_n (i := 3) rfl hX (by decide +kernel : decode prog_1_method_27_code 42 = .ok (.istore_n 3, 1)) rfl (by decide),
  zs_pushI (zg_iconst (by decide) hX (by decide +kernel : decode prog_1_method_27_code 43 = .ok (.iconst 0, 1)) rfl),
  zs_istore hX (by decide +kernel : decode prog_1_method_27_code 44 = .ok (.istore 4, 2)) rfl (by decide),
  zs_pushI (zg_iconst (by decide) hX (by decide +kernel : decode prog_1_method_27_code 46 = .ok (.iconst 0, 1)) rfl),
  zs_istore hX (by decide +kernel : decode prog_1_method_27_code 47 = .ok (.istore 5, 2)) rfl (by decide),
  zs_iload hX (by decide +kernel : decode prog_1_method_27_code 49 = .ok (.iload 5, 2)) rfl (by decide),
  zs_pushI (zg_iconst (by decide) hX (by decide +kernel : decode prog_1_method_27_code 51 = .ok (.iconst 1, 1)) rfl),
  zs_aload_n (i := 0) rfl hX (by decide +kernel : decode prog_1_method_27_code 52 = .ok (.aload_n 0, 1)) rfl (by decide),
  zs_getR hX zFL_11_19 (by decide +kernel : decode prog_1_method_27_code 53 = .ok (.getfield 19, 3)) rfl,
  zs_getI hX zFL_11_220 (by decide) (by decide) (by decide +kernel : decode prog_1_method_27_code 56 = .ok (.getfield 220, 3)) rfl,
  zs_ii (zg_ishl hX (by decide +kernel : decode prog_1_method_27_code 59 = .ok (.ishl, 1)) rfl),
  zs_cge hX (by decide +kernel : decode prog_1_method_27_code 60 = .ok (.if_icmp .ge 31, 3)) (by decide) rfl,
  zs_iload_n (i := 2) rfl hX (by decide +kernel : decode prog_1_method_27_code 63 = .ok (.iload_n 2, 1)) rfl (by decide),
  zs_iload hX (by decide +kernel : decode prog_1_method_27_code 64 = .ok (.iload 5, 2)) rfl (by decide), trivial⟩
set_option maxRecDepth 20000 in
theorem s_X11_sets_2 {l : Launch} {D : va_G} {ad : Nat → Nat → Nat} {cy : Nat → ClassId} {L : List (Nat × Nat)} (hcl : zclo L = true) (hinj : zAd ad L) {X : zCtx} (hX : zXok X "SoapTreaty" prog_1_method_27_code 6) (hR : zRt X (some .int)) (hl : zXl X l D ad cy L (zroom 6)) : zAllR (zSo X) p_X11_sets_2 := ⟨zs_ii (zg_ishr hX (by decide +kernel : decode prog_1_method_27_code 66 = .ok (.ishr, 1)) rfl),
  zs_pushI (zg_iconst (by decide) hX (by decide +kernel : decode prog_1_method_27_code 67 = .ok (.iconst 1, 1)) rfl),
  zs_ii (zg_iand hX (by decide +kernel : decode prog_1_method_27_code 68 = .ok (.iand, 1)) rfl),
  zs_pushI (zg_iconst (by decide) hX (by decide +kernel : decode prog_1_method_27_code 69 = .ok (.iconst 1, 1)) rfl),
  zs_cne hX (by decide +kernel : decode prog_1_method_27_code 70 = .ok (.if_icmp .ne 15, 3)) (by decide) rfl,
  zs_iload_n (i := 3) rfl hX (by decide +kernel : decode prog_1_method_27_code 73 = .ok (.iload_n 3, 1)) rfl (by decide),
  zs_iload hX (by decide +kernel : decode prog_1_method_27_code 74 = .ok (.iload 5, 2)) rfl (by decide),
  zs_ii (zg_iand hX (by decide +kernel : decode prog_1_method_27_code 76 = .ok (.iand, 1)) rfl),
  zs_istore_n (i := 3) rfl hX (by decide +kernel : decode prog_1_method_27_code 77 = .ok (.istore_n 3, 1)) rfl (by decide),
  zs_iload hX (by decide +kernel : decode prog_1_method_27_code 78 = .ok (.iload 4, 2)) rfl (by decide),
  zs_iload hX (by decide +kernel : decode prog_1_method_27_code 80 = .ok (.iload 5, 2)) rfl (by decide),
  zs_ii (zg_ior hX (by decide +kernel : decode prog_1_method_27_code 82 = .ok (.ior, 1)) rfl),
  zs_istore hX (by decide +kernel : decode prog_1_method_27_code 83 = .ok (.istore 4, 2)) rfl (by decide),
  zs_iinc hX (by decide +kernel : decode prog_1_method_27_code 85 = .ok (.iinc 5 1, 3)) (by decide) rfl (by decide),
  zs_goto hX (by decide +kernel : decode prog_1_method_27_code 88 = .ok (.goto (-39), 3)) (by decide),
  zs_iload_n (i := 1) rfl hX (by decide +kernel : decode prog_1_method_27_code 91 = .ok (.iload_n 1, 1)) rfl (by decide),
  zs_pushI (zg_iconst (by decide) hX (by decide +kernel : decode prog_1_method_27_code 92 = .ok (.iconst 1, 1)) rfl),
  zs_cne hX (by decide +kernel : decode prog_1_method_27_code 93 = .ok (.if_icmp .ne 7, 3)) (by decide) rfl,
  zs_iload_n (i := 3) rfl hX (by decide +kernel : decode prog_1_method_27_code 96 = .ok (.iload_n 3, 1)) rfl (by decide),
  zs_goto hX (by decide +kernel : decode prog_1_method_27_code 97 = .ok (.goto 5, 3)) (by decide), trivial⟩
set_option maxRecDepth 20000 in
theorem s_X11_sets_3 {l : Launch} {D : va_G} {ad : Nat → Nat → Nat} {cy : Nat → ClassId} {L : List (Nat × Nat)} (hcl : zclo L = true) (hinj : zAd ad L) {X : zCtx} (hX : zXok X "SoapTreaty" prog_1_method_27_code 6) (hR : zRt X (some .int)) (hl : zXl X l D ad cy L (zroom 6)) : zAllR (zSo X) p_X11_sets_3 := ⟨zs_iload hX (by decide +kernel : decode prog_1_method_27_code 100 = .ok (.iload 4, 2)) rfl (by decide),
  zs_iret hX hR (by decide +kernel : decode prog_1_method_27_code 102 = .ok (.ireturn, 1)), trivial⟩
theorem k_X11_sets {l : Launch} {D : va_G} {ad : Nat → Nat → Nat} {cy : Nat → ClassId} {L : List (Nat × Nat)} (hcl : zclo L = true) (hinj : zAd ad L) : zCk l D ad cy L 6 f_X11_sets y_X11_sets (.code y_X11_sets prog_1_method_27_code 6 (some .int)) :=
  z_met (by decide) t_X11_sets hcl hinj (fun X hX hR hl k => zgs_all (Q := zSo X) (c := [(32, p_X11_sets_0), (65, p_X11_sets_1), (98, p_X11_sets_2), (103, p_X11_sets_3)]) (fun _ => zs_bad) ⟨s_X11_sets_0 hcl hinj hX hR hl, s_X11_sets_1 hcl hinj hX hR hl, s_X11_sets_2 hcl hinj hX hR hl, s_X11_sets_3 hcl hinj hX hR hl, trivial⟩ k)
set_option maxRecDepth 1000000 in
theorem e_X11_sets_0 (x1 : Int32) (h : zH) : zL p_X11_sets 0 [some (.inr (.inr (11, 0))), some (.inl x1), none, none, none, none] [] h = zf (x1 < 0) (some (some (.inl zm1), h)) (zf (2 < x1) (some (some (.inl zm1), h)) (zci (f_X11_fittingSets [(.inr (.inr (11, 0)))] h) (fun r2 h1 => zf (x1 = 0) (zci (f_J6_bitCount [(.inl r2)] h1) (fun r4 h3 => some (some (.inl r4), h3))) (zf (r2 = 0) (some (some (.inl zm1), h1)) (zL p_X11_sets 49 [some (.inr (.inr (11, 0))), some (.inl x1), some (.inl r2), some (.inl (((1 : Int32) <<< ((h1.1 0 0 0) &&& 31)) - (1 : Int32))), some (.inl 0), some (.inl 0)] [] h1))))) := (zL_s (t_X11_sets) [0, 49] 1000 0 _ _ _).trans rfl
theorem g_X11_sets (x1 : Int32) (h : zH) : f_X11_sets [(.inr (.inr (11, 0))), (.inl x1)] h = zf (x1 < 0) (some (some (.inl zm1), h)) (zf (2 < x1) (some (some (.inl zm1), h)) (zci (f_X11_fittingSets [(.inr (.inr (11, 0)))] h) (fun r2 h1 => zf (x1 = 0) (zci (f_J6_bitCount [(.inl r2)] h1) (fun r4 h3 => some (some (.inl r4), h3))) (zf (r2 = 0) (some (some (.inl zm1), h1)) (zL p_X11_sets 49 [some (.inr (.inr (11, 0))), some (.inl x1), some (.inl r2), some (.inl (((1 : Int32) <<< ((h1.1 0 0 0) &&& 31)) - (1 : Int32))), some (.inl 0), some (.inl 0)] [] h1))))) := (show f_X11_sets _ h = zL p_X11_sets 0 _ [] h from rfl).trans (e_X11_sets_0 x1 h)
set_option maxRecDepth 1000000 in
theorem e_X11_sets_49 (x1 : Int32) (x2 : Int32) (x3 : Int32) (x4 : Int32) (x5 : Int32) (h : zH) : zL p_X11_sets 49 [some (.inr (.inr (11, 0))), some (.inl x1), some (.inl x2), some (.inl x3), some (.inl x4), some (.inl x5)] [] h = zf (x5 < ((1 : Int32) <<< ((h.1 0 0 0) &&& 31))) (zf (((x2 >>> (x5 &&& 31)) &&& (1 : Int32)) = 1) (zL p_X11_sets 49 [some (.inr (.inr (11, 0))), some (.inl x1), some (.inl x2), some (.inl (x3 &&& x5)), some (.inl (x4 ||| x5)), some (.inl (x5 + 1))] [] h) (zL p_X11_sets 49 [some (.inr (.inr (11, 0))), some (.inl x1), some (.inl x2), some (.inl x3), some (.inl x4), some (.inl (x5 + 1))] [] h)) (zf (x1 = 1) (some (some (.inl x3), h)) (some (some (.inl x4), h))) := (zL_s (t_X11_sets) [0, 49] 1000 49 _ _ _).trans rfl
/-! SoapTreaty.setsWith(II)I -/
def y_X11_setsWith : MethodName := ⟨"SoapTreaty", "setsWith", "(II)I"⟩
noncomputable def p_X11_setsWith_0 : List (Nat × zO) := [(0, zo_push (.inl 0) 1),
  (1, zo_istore 3 2),
  (2, zo_push (.inl 0) 3),
  (3, zo_istore 4 5),
  (5, zo_iload 4 7),
  (7, zo_push (.inl 1) 8),
  (8, zo_aload 0 9),
  (9, zo_getR 11 0 (some 0) 12),
  (12, zo_getI 0 0 15),
  (15, zo_ii (fun x y => x <<< (y &&& 31)) 16),
  (16, zo_cge 48 19),
  (19, zo_iload 1 20),
  (20, zo_iload 4 22),
  (22, zo_ii (fun x y => x >>> (y &&& 31)) 23),
  (23, zo_push (.inl 1) 24),
  (24, zo_ii (fun x y => x &&& y) 25),
  (25, zo_push (.inl 1) 26),
  (26, zo_cne 42 29),
  (29, zo_iload 4 31),
  (31, zo_iload 2 32)]
noncomputable def p_X11_setsWith_1 : List (Nat × zO) := [(32, zo_ii (fun x y => x >>> (y &&& 31)) 33),
  (33, zo_push (.inl 1) 34),
  (34, zo_ii (fun x y => x &&& y) 35),
  (35, zo_push (.inl 1) 36),
  (36, zo_cne 42 39),
  (39, zo_iinc 3 1 42),
  (42, zo_iinc 4 1 45),
  (45, zo_goto 5),
  (48, zo_iload 3 49),
  (49, zo_iret)]
noncomputable def p_X11_setsWith : Nat → zO := zgs [(32, p_X11_setsWith_0), (50, p_X11_setsWith_1)]
theorem t_X11_setsWith : ∀ k, zTl (p_X11_setsWith k) := fun k => zgs_all (c := [(32, p_X11_setsWith_0), (50, p_X11_setsWith_1)]) (fun _ => zl_bad) ⟨⟨zl_push, zl_istore, zl_push, zl_istore, zl_iload, zl_push, zl_aload, zl_getR, zl_getI, zl_ii, zl_cge, zl_iload, zl_iload, zl_ii, zl_push, zl_ii, zl_push, zl_cne, zl_iload, zl_iload, trivial⟩, ⟨zl_ii, zl_push, zl_ii, zl_push, zl_cne, zl_iinc, zl_iinc, zl_goto, zl_iload, zl_iret, trivial⟩, trivial⟩ k
noncomputable def f_X11_setsWith : zS := zrun p_X11_setsWith 5
set_option maxRecDepth 20000 in
theorem s_X11_setsWith_0 {l : Launch} {D : va_G} {ad : Nat → Nat → Nat} {cy : Nat → ClassId} {L : List (Nat × Nat)} (hcl : zclo L = true) (hinj : zAd ad L) {X : zCtx} (hX : zXok X "SoapTreaty" prog_1_method_40_code 5) (hR : zRt X (some .int)) (hl : zXl X l D ad cy L (zroom 1)) : zAllR (zSo X) p_X11_setsWith_0 := ⟨zs_pushI (zg_iconst (by decide) hX (by decide +kernel : decode prog_1_method_40_code 0 = .ok (.iconst 0, 1)) rfl),
  zs_istore_n (i := 3) rfl hX (by decide +kernel : decode prog_1_method_40_code 1 = .ok (.istore_n 3, 1)) rfl (by decide),
  zs_pushI (zg_iconst (by decide) hX (by decide +kernel : decode prog_1_method_40_code 2 = .ok (.iconst 0, 1)) rfl),
  zs_istore hX (by decide +kernel : decode prog_1_method_40_code 3 = .ok (.istore 4, 2)) rfl (by decide),
  zs_iload hX (by decide +kernel : decode prog_1_method_40_code 5 = .ok (.iload 4, 2)) rfl (by decide),
  zs_pushI (zg_iconst (by decide) hX (by decide +kernel : decode prog_1_method_40_code 7 = .ok (.iconst 1, 1)) rfl),
  zs_aload_n (i := 0) rfl hX (by decide +kernel : decode prog_1_method_40_code 8 = .ok (.aload_n 0, 1)) rfl (by decide),
  zs_getR hX zFL_11_19 (by decide +kernel : decode prog_1_method_40_code 9 = .ok (.getfield 19, 3)) rfl,
  zs_getI hX zFL_11_220 (by decide) (by decide) (by decide +kernel : decode prog_1_method_40_code 12 = .ok (.getfield 220, 3)) rfl,
  zs_ii (zg_ishl hX (by decide +kernel : decode prog_1_method_40_code 15 = .ok (.ishl, 1)) rfl),
  zs_cge hX (by decide +kernel : decode prog_1_method_40_code 16 = .ok (.if_icmp .ge 32, 3)) (by decide) rfl,
  zs_iload_n (i := 1) rfl hX (by decide +kernel : decode prog_1_method_40_code 19 = .ok (.iload_n 1, 1)) rfl (by decide),
  zs_iload hX (by decide +kernel : decode prog_1_method_40_code 20 = .ok (.iload 4, 2)) rfl (by decide),
  zs_ii (zg_ishr hX (by decide +kernel : decode prog_1_method_40_code 22 = .ok (.ishr, 1)) rfl),
  zs_pushI (zg_iconst (by decide) hX (by decide +kernel : decode prog_1_method_40_code 23 = .ok (.iconst 1, 1)) rfl),
  zs_ii (zg_iand hX (by decide +kernel : decode prog_1_method_40_code 24 = .ok (.iand, 1)) rfl),
  zs_pushI (zg_iconst (by decide) hX (by decide +kernel : decode prog_1_method_40_code 25 = .ok (.iconst 1, 1)) rfl),
  zs_cne hX (by decide +kernel : decode prog_1_method_40_code 26 = .ok (.if_icmp .ne 16, 3)) (by decide) rfl,
  zs_iload hX (by decide +kernel : decode prog_1_method_40_code 29 = .ok (.iload 4, 2)) rfl (by decide),
  zs_iload_n (i := 2) rfl hX (by decide +kernel : decode prog_1_method_40_code 31 = .ok (.iload_n 2, 1)) rfl (by decide), trivial⟩
set_option maxRecDepth 20000 in
theorem s_X11_setsWith_1 {l : Launch} {D : va_G} {ad : Nat → Nat → Nat} {cy : Nat → ClassId} {L : List (Nat × Nat)} (hcl : zclo L = true) (hinj : zAd ad L) {X : zCtx} (hX : zXok X "SoapTreaty" prog_1_method_40_code 5) (hR : zRt X (some .int)) (hl : zXl X l D ad cy L (zroom 1)) : zAllR (zSo X) p_X11_setsWith_1 := ⟨zs_ii (zg_ishr hX (by decide +kernel : decode prog_1_method_40_code 32 = .ok (.ishr, 1)) rfl),
  zs_pushI (zg_iconst (by decide) hX (by decide +kernel : decode prog_1_method_40_code 33 = .ok (.iconst 1, 1)) rfl),
  zs_ii (zg_iand hX (by decide +kernel : decode prog_1_method_40_code 34 = .ok (.iand, 1)) rfl),
  zs_pushI (zg_iconst (by decide) hX (by decide +kernel : decode prog_1_method_40_code 35 = .ok (.iconst 1, 1)) rfl),
  zs_cne hX (by decide +kernel : decode prog_1_method_40_code 36 = .ok (.if_icmp .ne 6, 3)) (by decide) rfl,
  zs_iinc hX (by decide +kernel : decode prog_1_method_40_code 39 = .ok (.iinc 3 1, 3)) (by decide) rfl (by decide),
  zs_iinc hX (by decide +kernel : decode prog_1_method_40_code 42 = .ok (.iinc 4 1, 3)) (by decide) rfl (by decide),
  zs_goto hX (by decide +kernel : decode prog_1_method_40_code 45 = .ok (.goto (-40), 3)) (by decide),
  zs_iload_n (i := 3) rfl hX (by decide +kernel : decode prog_1_method_40_code 48 = .ok (.iload_n 3, 1)) rfl (by decide),
  zs_iret hX hR (by decide +kernel : decode prog_1_method_40_code 49 = .ok (.ireturn, 1)), trivial⟩
theorem k_X11_setsWith {l : Launch} {D : va_G} {ad : Nat → Nat → Nat} {cy : Nat → ClassId} {L : List (Nat × Nat)} (hcl : zclo L = true) (hinj : zAd ad L) : zCk l D ad cy L 1 f_X11_setsWith y_X11_setsWith (.code y_X11_setsWith prog_1_method_40_code 5 (some .int)) :=
  z_met (by decide) t_X11_setsWith hcl hinj (fun X hX hR hl k => zgs_all (Q := zSo X) (c := [(32, p_X11_setsWith_0), (50, p_X11_setsWith_1)]) (fun _ => zs_bad) ⟨s_X11_setsWith_0 hcl hinj hX hR hl, s_X11_setsWith_1 hcl hinj hX hR hl, trivial⟩ k)
set_option maxRecDepth 1000000 in
theorem e_X11_setsWith_0 (x1 : Int32) (x2 : Int32) (h : zH) : zL p_X11_setsWith 0 [some (.inr (.inr (11, 0))), some (.inl x1), some (.inl x2), none, none] [] h = zL p_X11_setsWith 5 [some (.inr (.inr (11, 0))), some (.inl x1), some (.inl x2), some (.inl 0), some (.inl 0)] [] h := (zL_s (t_X11_setsWith) [0, 5] 1000 0 _ _ _).trans rfl
theorem g_X11_setsWith (x1 : Int32) (x2 : Int32) (h : zH) : f_X11_setsWith [(.inr (.inr (11, 0))), (.inl x1), (.inl x2)] h = zL p_X11_setsWith 5 [some (.inr (.inr (11, 0))), some (.inl x1), some (.inl x2), some (.inl 0), some (.inl 0)] [] h := (show f_X11_setsWith _ h = zL p_X11_setsWith 0 _ [] h from rfl).trans (e_X11_setsWith_0 x1 x2 h)
set_option maxRecDepth 1000000 in
theorem e_X11_setsWith_5 (x1 : Int32) (x2 : Int32) (x3 : Int32) (x4 : Int32) (h : zH) : zL p_X11_setsWith 5 [some (.inr (.inr (11, 0))), some (.inl x1), some (.inl x2), some (.inl x3), some (.inl x4)] [] h = zf (x4 < ((1 : Int32) <<< ((h.1 0 0 0) &&& 31))) (zf (((x1 >>> (x4 &&& 31)) &&& (1 : Int32)) = 1) (zf (((x4 >>> (x2 &&& 31)) &&& (1 : Int32)) = 1) (zL p_X11_setsWith 5 [some (.inr (.inr (11, 0))), some (.inl x1), some (.inl x2), some (.inl (x3 + 1)), some (.inl (x4 + 1))] [] h) (zL p_X11_setsWith 5 [some (.inr (.inr (11, 0))), some (.inl x1), some (.inl x2), some (.inl x3), some (.inl (x4 + 1))] [] h)) (zL p_X11_setsWith 5 [some (.inr (.inr (11, 0))), some (.inl x1), some (.inl x2), some (.inl x3), some (.inl (x4 + 1))] [] h)) (some (some (.inl x3), h)) := (zL_s (t_X11_setsWith) [0, 5] 1000 5 _ _ _).trans rfl
theorem zMV_11_252 : zMV "SoapTreaty" 252 11 y_X11_setsWith prog_1_method_40_code 5 (some .int) 2 := ⟨⟨zT_of 1052 (by decide +kernel) (by decide +kernel), zT_of 1054 (by decide +kernel) (by decide +kernel), zT_of 28 (by decide +kernel) (by decide +kernel), zT_of 102 (by decide +kernel) (by decide +kernel), zT_of 1055 (by decide +kernel) (by decide +kernel)⟩, by decide, rfl, ⟨zT11, 10, rfl⟩, by decide, by decide, by decide +kernel⟩
/-! SoapTreaty.ask(I)I -/
def y_X11_ask : MethodName := ⟨"SoapTreaty", "ask", "(I)I"⟩
noncomputable def p_X11_ask_0 : List (Nat × zO) := [(0, zo_iload 1 1),
  (1, zo_calli (f_X11_isSightFar) 1 4),
  (4, zo_0ne 9 7),
  (7, zo_push (.inl zm1) 8),
  (8, zo_iret),
  (9, zo_aload 0 10),
  (10, zo_vir 11 1 (zo_calli (f_X11_fittingSets) 1 13)),
  (13, zo_istore 2 14),
  (14, zo_iload 2 15),
  (15, zo_calli (f_J6_bitCount) 1 18),
  (18, zo_istore 3 19),
  (19, zo_iload 3 20),
  (20, zo_istore 4 22),
  (22, zo_push (.inl zm1) 23),
  (23, zo_istore 5 25),
  (25, zo_push (.inl 0) 26),
  (26, zo_istore 6 28),
  (28, zo_kill [7, 8] (zo_iload 6 30)),
  (30, zo_aload 0 31),
  (31, zo_getR 11 0 (some 0) 34)]
noncomputable def p_X11_ask_1 : List (Nat × zO) := [(34, zo_getI 0 4 37),
  (37, zo_cge 124 40),
  (40, zo_iload 3 41),
  (41, zo_istore 7 43),
  (43, zo_aload 0 44),
  (44, zo_getR 11 4 (some 0) 47),
  (47, zo_getR 4 8 none 50),
  (50, zo_iload 1 51),
  (51, zo_iload 6 53),
  (53, zo_vir 8 3 (zo_calli (f_X8_thickBehind) 3 56)),
  (56, zo_aload 0 57),
  (57, zo_getR 11 4 (some 0) 60),
  (60, zo_getR 4 8 none 63),
  (63, zo_getR 8 32 none 66),
  (66, zo_iload 6 68),
  (68, zo_iald 69),
  (69, zo_ceq 103 72),
  (72, zo_aload 0 73),
  (73, zo_iload 2 74),
  (74, zo_aload 0 75)]
noncomputable def p_X11_ask_2 : List (Nat × zO) := [(75, zo_getR 11 4 (some 0) 78),
  (78, zo_getR 4 8 none 81),
  (81, zo_getR 8 31 none 84),
  (84, zo_iload 6 86),
  (86, zo_iald 87),
  (87, zo_vir 11 3 (zo_calli (f_X11_setsWith) 3 90)),
  (90, zo_istore 8 92),
  (92, zo_iload 8 94),
  (94, zo_iload 3 95),
  (95, zo_iload 8 97),
  (97, zo_ii (fun x y => x - y) 98),
  (98, zo_max 101),
  (101, zo_istore 7 103),
  (103, zo_kill [8] (zo_iload 7 105)),
  (105, zo_iload 4 107),
  (107, zo_cge 118 110),
  (110, zo_iload 7 112),
  (112, zo_istore 4 114),
  (114, zo_iload 6 116),
  (116, zo_istore 5 118)]
noncomputable def p_X11_ask_3 : List (Nat × zO) := [(118, zo_iinc 6 1 121),
  (121, zo_goto 28),
  (124, zo_iload 5 126),
  (126, zo_iret)]
noncomputable def p_X11_ask : Nat → zO := zgs [(32, p_X11_ask_0), (75, p_X11_ask_1), (117, p_X11_ask_2), (127, p_X11_ask_3)]
theorem t_X11_ask : ∀ k, zTl (p_X11_ask k) := fun k => zgs_all (c := [(32, p_X11_ask_0), (75, p_X11_ask_1), (117, p_X11_ask_2), (127, p_X11_ask_3)]) (fun _ => zl_bad) ⟨⟨zl_iload, zl_calli, zl_0ne, zl_push, zl_iret, zl_aload, (zl_vir zl_calli), zl_istore, zl_iload, zl_calli, zl_istore, zl_iload, zl_istore, zl_push, zl_istore, zl_push, zl_istore, (zl_kill zl_iload), zl_aload, zl_getR, trivial⟩, ⟨zl_getI, zl_cge, zl_iload, zl_istore, zl_aload, zl_getR, zl_getR, zl_iload, zl_iload, (zl_vir zl_calli), zl_aload, zl_getR, zl_getR, zl_getR, zl_iload, zl_iald, zl_ceq, zl_aload, zl_iload, zl_aload, trivial⟩, ⟨zl_getR, zl_getR, zl_getR, zl_iload, zl_iald, (zl_vir zl_calli), zl_istore, zl_iload, zl_iload, zl_iload, zl_ii, zl_max, zl_istore, (zl_kill zl_iload), zl_iload, zl_cge, zl_iload, zl_istore, zl_iload, zl_istore, trivial⟩, ⟨zl_iinc, zl_goto, zl_iload, zl_iret, trivial⟩, trivial⟩ k
noncomputable def f_X11_ask : zS := zrun p_X11_ask 9
set_option maxRecDepth 20000 in
theorem s_X11_ask_0 {l : Launch} {D : va_G} {ad : Nat → Nat → Nat} {cy : Nat → ClassId} {L : List (Nat × Nat)} (hcl : zclo L = true) (hinj : zAd ad L) {X : zCtx} (hX : zXok X "SoapTreaty" prog_1_method_28_code 9) (hR : zRt X (some .int)) (hl : zXl X l D ad cy L (zroom 6)) : zAllR (zSo X) p_X11_ask_0 := ⟨zs_iload_n (i := 1) rfl hX (by decide +kernel : decode prog_1_method_28_code 0 = .ok (.iload_n 1, 1)) rfl (by decide),
  zs_callSi hX zMS_11_235 (zXc_of hl (by decide) (k_X11_isSightFar hcl hinj)) (by decide +kernel : decode prog_1_method_28_code 1 = .ok (.invokestatic 235, 3)) rfl,
  zs_0ne hX (by decide +kernel : decode prog_1_method_28_code 4 = .ok (.ifCond .ne 5, 3)) (by decide) rfl,
  zs_pushI (zg_iconst (by decide) hX (by decide +kernel : decode prog_1_method_28_code 7 = .ok (.iconst (-1), 1)) rfl),
  zs_iret hX hR (by decide +kernel : decode prog_1_method_28_code 8 = .ok (.ireturn, 1)),
  zs_aload_n (i := 0) rfl hX (by decide +kernel : decode prog_1_method_28_code 9 = .ok (.aload_n 0, 1)) rfl (by decide),
  zs_callVi hX zMV_11_245 (zXc_of hl (by decide) (k_X11_fittingSets hcl hinj)) (by decide +kernel : decode prog_1_method_28_code 10 = .ok (.invokevirtual 245, 3)) rfl,
  zs_istore_n (i := 2) rfl hX (by decide +kernel : decode prog_1_method_28_code 13 = .ok (.istore_n 2, 1)) rfl (by decide),
  zs_iload_n (i := 2) rfl hX (by decide +kernel : decode prog_1_method_28_code 14 = .ok (.iload_n 2, 1)) rfl (by decide),
  zs_callSi hX zMS_11_131 (zXc_of hl (by decide) (k_J6_bitCount hcl hinj)) (by decide +kernel : decode prog_1_method_28_code 15 = .ok (.invokestatic 131, 3)) rfl,
  zs_istore_n (i := 3) rfl hX (by decide +kernel : decode prog_1_method_28_code 18 = .ok (.istore_n 3, 1)) rfl (by decide),
  zs_iload_n (i := 3) rfl hX (by decide +kernel : decode prog_1_method_28_code 19 = .ok (.iload_n 3, 1)) rfl (by decide),
  zs_istore hX (by decide +kernel : decode prog_1_method_28_code 20 = .ok (.istore 4, 2)) rfl (by decide),
  zs_pushI (zg_iconst (by decide) hX (by decide +kernel : decode prog_1_method_28_code 22 = .ok (.iconst (-1), 1)) rfl),
  zs_istore hX (by decide +kernel : decode prog_1_method_28_code 23 = .ok (.istore 5, 2)) rfl (by decide),
  zs_pushI (zg_iconst (by decide) hX (by decide +kernel : decode prog_1_method_28_code 25 = .ok (.iconst 0, 1)) rfl),
  zs_istore hX (by decide +kernel : decode prog_1_method_28_code 26 = .ok (.istore 6, 2)) rfl (by decide),
  zs_kill hX (by decide) (zs_iload hX (by decide +kernel : decode prog_1_method_28_code 28 = .ok (.iload 6, 2)) rfl (by decide)),
  zs_aload_n (i := 0) rfl hX (by decide +kernel : decode prog_1_method_28_code 30 = .ok (.aload_n 0, 1)) rfl (by decide),
  zs_getR hX zFL_11_19 (by decide +kernel : decode prog_1_method_28_code 31 = .ok (.getfield 19, 3)) rfl, trivial⟩
set_option maxRecDepth 20000 in
theorem s_X11_ask_1 {l : Launch} {D : va_G} {ad : Nat → Nat → Nat} {cy : Nat → ClassId} {L : List (Nat × Nat)} (hcl : zclo L = true) (hinj : zAd ad L) {X : zCtx} (hX : zXok X "SoapTreaty" prog_1_method_28_code 9) (hR : zRt X (some .int)) (hl : zXl X l D ad cy L (zroom 6)) : zAllR (zSo X) p_X11_ask_1 := ⟨zs_getI hX zFL_11_214 (by decide) (by decide) (by decide +kernel : decode prog_1_method_28_code 34 = .ok (.getfield 214, 3)) rfl,
  zs_cge hX (by decide +kernel : decode prog_1_method_28_code 37 = .ok (.if_icmp .ge 87, 3)) (by decide) rfl,
  zs_iload_n (i := 3) rfl hX (by decide +kernel : decode prog_1_method_28_code 40 = .ok (.iload_n 3, 1)) rfl (by decide),
  zs_istore hX (by decide +kernel : decode prog_1_method_28_code 41 = .ok (.istore 7, 2)) rfl (by decide),
  zs_aload_n (i := 0) rfl hX (by decide +kernel : decode prog_1_method_28_code 43 = .ok (.aload_n 0, 1)) rfl (by decide),
  zs_getR hX zFL_11_37 (by decide +kernel : decode prog_1_method_28_code 44 = .ok (.getfield 37, 3)) rfl,
  zs_getR hX zFL_11_115 (by decide +kernel : decode prog_1_method_28_code 47 = .ok (.getfield 115, 3)) rfl,
  zs_iload_n (i := 1) rfl hX (by decide +kernel : decode prog_1_method_28_code 50 = .ok (.iload_n 1, 1)) rfl (by decide),
  zs_iload hX (by decide +kernel : decode prog_1_method_28_code 51 = .ok (.iload 6, 2)) rfl (by decide),
  zs_callVi hX zMV_11_248 (zXc_of hl (by decide) (k_X8_thickBehind hcl hinj)) (by decide +kernel : decode prog_1_method_28_code 53 = .ok (.invokevirtual 248, 3)) rfl,
  zs_aload_n (i := 0) rfl hX (by decide +kernel : decode prog_1_method_28_code 56 = .ok (.aload_n 0, 1)) rfl (by decide),
  zs_getR hX zFL_11_37 (by decide +kernel : decode prog_1_method_28_code 57 = .ok (.getfield 37, 3)) rfl,
  zs_getR hX zFL_11_115 (by decide +kernel : decode prog_1_method_28_code 60 = .ok (.getfield 115, 3)) rfl,
  zs_getR hX zFL_11_151 (by decide +kernel : decode prog_1_method_28_code 63 = .ok (.getfield 151, 3)) rfl,
  zs_iload hX (by decide +kernel : decode prog_1_method_28_code 66 = .ok (.iload 6, 2)) rfl (by decide),
  zs_iald hX (by decide +kernel : decode prog_1_method_28_code 68 = .ok (.iaload, 1)) rfl,
  zs_ceq hX (by decide +kernel : decode prog_1_method_28_code 69 = .ok (.if_icmp .eq 34, 3)) (by decide) rfl,
  zs_aload_n (i := 0) rfl hX (by decide +kernel : decode prog_1_method_28_code 72 = .ok (.aload_n 0, 1)) rfl (by decide),
  zs_iload_n (i := 2) rfl hX (by decide +kernel : decode prog_1_method_28_code 73 = .ok (.iload_n 2, 1)) rfl (by decide),
  zs_aload_n (i := 0) rfl hX (by decide +kernel : decode prog_1_method_28_code 74 = .ok (.aload_n 0, 1)) rfl (by decide), trivial⟩
set_option maxRecDepth 20000 in
theorem s_X11_ask_2 {l : Launch} {D : va_G} {ad : Nat → Nat → Nat} {cy : Nat → ClassId} {L : List (Nat × Nat)} (hcl : zclo L = true) (hinj : zAd ad L) {X : zCtx} (hX : zXok X "SoapTreaty" prog_1_method_28_code 9) (hR : zRt X (some .int)) (hl : zXl X l D ad cy L (zroom 6)) : zAllR (zSo X) p_X11_ask_2 := ⟨zs_getR hX zFL_11_37 (by decide +kernel : decode prog_1_method_28_code 75 = .ok (.getfield 37, 3)) rfl,
  zs_getR hX zFL_11_115 (by decide +kernel : decode prog_1_method_28_code 78 = .ok (.getfield 115, 3)) rfl,
  zs_getR hX zFL_11_148 (by decide +kernel : decode prog_1_method_28_code 81 = .ok (.getfield 148, 3)) rfl,
  zs_iload hX (by decide +kernel : decode prog_1_method_28_code 84 = .ok (.iload 6, 2)) rfl (by decide),
  zs_iald hX (by decide +kernel : decode prog_1_method_28_code 86 = .ok (.iaload, 1)) rfl,
  zs_callVi hX zMV_11_252 (zXc_of hl (by decide) (k_X11_setsWith hcl hinj)) (by decide +kernel : decode prog_1_method_28_code 87 = .ok (.invokevirtual 252, 3)) rfl,
  zs_istore hX (by decide +kernel : decode prog_1_method_28_code 90 = .ok (.istore 8, 2)) rfl (by decide),
  zs_iload hX (by decide +kernel : decode prog_1_method_28_code 92 = .ok (.iload 8, 2)) rfl (by decide),
  zs_iload_n (i := 3) rfl hX (by decide +kernel : decode prog_1_method_28_code 94 = .ok (.iload_n 3, 1)) rfl (by decide),
  zs_iload hX (by decide +kernel : decode prog_1_method_28_code 95 = .ok (.iload 8, 2)) rfl (by decide),
  zs_ii (zg_isub hX (by decide +kernel : decode prog_1_method_28_code 97 = .ok (.isub, 1)) rfl),
  zs_max hX zKmax_11_255 (by decide +kernel : decode prog_1_method_28_code 98 = .ok (.invokestatic 255, 3)) rfl,
  zs_istore hX (by decide +kernel : decode prog_1_method_28_code 101 = .ok (.istore 7, 2)) rfl (by decide),
  zs_kill hX (by decide) (zs_iload hX (by decide +kernel : decode prog_1_method_28_code 103 = .ok (.iload 7, 2)) rfl (by decide)),
  zs_iload hX (by decide +kernel : decode prog_1_method_28_code 105 = .ok (.iload 4, 2)) rfl (by decide),
  zs_cge hX (by decide +kernel : decode prog_1_method_28_code 107 = .ok (.if_icmp .ge 11, 3)) (by decide) rfl,
  zs_iload hX (by decide +kernel : decode prog_1_method_28_code 110 = .ok (.iload 7, 2)) rfl (by decide),
  zs_istore hX (by decide +kernel : decode prog_1_method_28_code 112 = .ok (.istore 4, 2)) rfl (by decide),
  zs_iload hX (by decide +kernel : decode prog_1_method_28_code 114 = .ok (.iload 6, 2)) rfl (by decide),
  zs_istore hX (by decide +kernel : decode prog_1_method_28_code 116 = .ok (.istore 5, 2)) rfl (by decide), trivial⟩
set_option maxRecDepth 20000 in
theorem s_X11_ask_3 {l : Launch} {D : va_G} {ad : Nat → Nat → Nat} {cy : Nat → ClassId} {L : List (Nat × Nat)} (hcl : zclo L = true) (hinj : zAd ad L) {X : zCtx} (hX : zXok X "SoapTreaty" prog_1_method_28_code 9) (hR : zRt X (some .int)) (hl : zXl X l D ad cy L (zroom 6)) : zAllR (zSo X) p_X11_ask_3 := ⟨zs_iinc hX (by decide +kernel : decode prog_1_method_28_code 118 = .ok (.iinc 6 1, 3)) (by decide) rfl (by decide),
  zs_goto hX (by decide +kernel : decode prog_1_method_28_code 121 = .ok (.goto (-93), 3)) (by decide),
  zs_iload hX (by decide +kernel : decode prog_1_method_28_code 124 = .ok (.iload 5, 2)) rfl (by decide),
  zs_iret hX hR (by decide +kernel : decode prog_1_method_28_code 126 = .ok (.ireturn, 1)), trivial⟩
theorem k_X11_ask {l : Launch} {D : va_G} {ad : Nat → Nat → Nat} {cy : Nat → ClassId} {L : List (Nat × Nat)} (hcl : zclo L = true) (hinj : zAd ad L) : zCk l D ad cy L 6 f_X11_ask y_X11_ask (.code y_X11_ask prog_1_method_28_code 9 (some .int)) :=
  z_met (by decide) t_X11_ask hcl hinj (fun X hX hR hl k => zgs_all (Q := zSo X) (c := [(32, p_X11_ask_0), (75, p_X11_ask_1), (117, p_X11_ask_2), (127, p_X11_ask_3)]) (fun _ => zs_bad) ⟨s_X11_ask_0 hcl hinj hX hR hl, s_X11_ask_1 hcl hinj hX hR hl, s_X11_ask_2 hcl hinj hX hR hl, s_X11_ask_3 hcl hinj hX hR hl, trivial⟩ k)
set_option maxRecDepth 1000000 in
theorem e_X11_ask_0 (x1 : Int32) (h : zH) : zL p_X11_ask 0 [some (.inr (.inr (11, 0))), some (.inl x1), none, none, none, none, none, none, none] [] h = zci (f_X11_isSightFar [(.inl x1)] h) (fun r2 h1 => zf (r2 = 0) (some (some (.inl zm1), h1)) (zci (f_X11_fittingSets [(.inr (.inr (11, 0)))] h1) (fun r4 h3 => zci (f_J6_bitCount [(.inl r4)] h3) (fun r6 h5 => zL p_X11_ask 28 [some (.inr (.inr (11, 0))), some (.inl x1), some (.inl r4), some (.inl r6), some (.inl r6), some (.inl zm1), some (.inl 0), none, none] [] h5)))) := (zL_s (t_X11_ask) [0, 28, 103] 1000 0 _ _ _).trans rfl
theorem g_X11_ask (x1 : Int32) (h : zH) : f_X11_ask [(.inr (.inr (11, 0))), (.inl x1)] h = zci (f_X11_isSightFar [(.inl x1)] h) (fun r2 h1 => zf (r2 = 0) (some (some (.inl zm1), h1)) (zci (f_X11_fittingSets [(.inr (.inr (11, 0)))] h1) (fun r4 h3 => zci (f_J6_bitCount [(.inl r4)] h3) (fun r6 h5 => zL p_X11_ask 28 [some (.inr (.inr (11, 0))), some (.inl x1), some (.inl r4), some (.inl r6), some (.inl r6), some (.inl zm1), some (.inl 0), none, none] [] h5)))) := (show f_X11_ask _ h = zL p_X11_ask 0 _ [] h from rfl).trans (e_X11_ask_0 x1 h)
set_option maxRecDepth 1000000 in
theorem e_X11_ask_28 (x1 : Int32) (x2 : Int32) (x3 : Int32) (x4 : Int32) (x5 : Int32) (x6 : Int32) (o7 : Option zV) (o8 : Option zV) (h : zH) : zL p_X11_ask 28 [some (.inr (.inr (11, 0))), some (.inl x1), some (.inl x2), some (.inl x3), some (.inl x4), some (.inl x5), some (.inl x6), o7, o8] [] h = zf (x6 < (h.1 0 0 4)) (zci (f_X8_thickBehind [(.inr (.inr (8, 0))), (.inl x1), (.inl x6)] h) (fun r2 h1 => zf (vp_in x6 7) (zf (r2 = (h1.1 32 0 x6.toNatClampNeg)) (zL p_X11_ask 103 [some (.inr (.inr (11, 0))), some (.inl x1), some (.inl x2), some (.inl x3), some (.inl x4), some (.inl x5), some (.inl x6), some (.inl x3), none] [] h1) (zf (vp_in x6 7) (zci (f_X11_setsWith [(.inr (.inr (11, 0))), (.inl x2), (.inl (h1.1 31 0 x6.toNatClampNeg))] h1) (fun r4 h3 => zL p_X11_ask 103 [some (.inr (.inr (11, 0))), some (.inl x1), some (.inl x2), some (.inl x3), some (.inl x4), some (.inl x5), some (.inl x6), some (.inl (if r4 < (x3 - r4) then (x3 - r4) else r4)), some (.inl r4)] [] h3)) none)) none)) (some (some (.inl x5), h)) := (zL_s (t_X11_ask) [0, 28, 103] 1000 28 _ _ _).trans rfl
set_option maxRecDepth 1000000 in
theorem e_X11_ask_103 (x1 : Int32) (x2 : Int32) (x3 : Int32) (x4 : Int32) (x5 : Int32) (x6 : Int32) (x7 : Int32) (o8 : Option zV) (h : zH) : zL p_X11_ask 103 [some (.inr (.inr (11, 0))), some (.inl x1), some (.inl x2), some (.inl x3), some (.inl x4), some (.inl x5), some (.inl x6), some (.inl x7), o8] [] h = zf (x7 < x4) (zL p_X11_ask 28 [some (.inr (.inr (11, 0))), some (.inl x1), some (.inl x2), some (.inl x3), some (.inl x7), some (.inl x6), some (.inl (x6 + 1)), some (.inl x7), none] [] h) (zL p_X11_ask 28 [some (.inr (.inr (11, 0))), some (.inl x1), some (.inl x2), some (.inl x3), some (.inl x4), some (.inl x5), some (.inl (x6 + 1)), some (.inl x7), none] [] h) := (zL_s (t_X11_ask) [0, 28, 103] 1000 103 _ _ _).trans rfl
/-! SoapTreaty.raised(II)I -/
def y_X11_raised : MethodName := ⟨"SoapTreaty", "raised", "(II)I"⟩
noncomputable def p_X11_raised_0 : List (Nat × zO) := [(0, zo_push (.inl 1) 1),
  (1, zo_istore 2 2),
  (2, zo_push (.inl 0) 3),
  (3, zo_istore 3 4),
  (4, zo_iload 3 5),
  (5, zo_iload 1 6),
  (6, zo_cge 19 9),
  (9, zo_iload 2 10),
  (10, zo_iload 0 11),
  (11, zo_ii (fun x y => x * y) 12),
  (12, zo_istore 2 13),
  (13, zo_iinc 3 1 16),
  (16, zo_goto 4),
  (19, zo_iload 2 20),
  (20, zo_iret)]
noncomputable def p_X11_raised : Nat → zO := zgs [(21, p_X11_raised_0)]
theorem t_X11_raised : ∀ k, zTl (p_X11_raised k) := fun k => zgs_all (c := [(21, p_X11_raised_0)]) (fun _ => zl_bad) ⟨⟨zl_push, zl_istore, zl_push, zl_istore, zl_iload, zl_iload, zl_cge, zl_iload, zl_iload, zl_ii, zl_istore, zl_iinc, zl_goto, zl_iload, zl_iret, trivial⟩, trivial⟩ k
noncomputable def f_X11_raised : zS := zrun p_X11_raised 4
set_option maxRecDepth 20000 in
theorem s_X11_raised_0 {l : Launch} {D : va_G} {ad : Nat → Nat → Nat} {cy : Nat → ClassId} {L : List (Nat × Nat)} (hcl : zclo L = true) (hinj : zAd ad L) {X : zCtx} (hX : zXok X "SoapTreaty" prog_1_method_41_code 4) (hR : zRt X (some .int)) (hl : zXl X l D ad cy L (zroom 1)) : zAllR (zSo X) p_X11_raised_0 := ⟨zs_pushI (zg_iconst (by decide) hX (by decide +kernel : decode prog_1_method_41_code 0 = .ok (.iconst 1, 1)) rfl),
  zs_istore_n (i := 2) rfl hX (by decide +kernel : decode prog_1_method_41_code 1 = .ok (.istore_n 2, 1)) rfl (by decide),
  zs_pushI (zg_iconst (by decide) hX (by decide +kernel : decode prog_1_method_41_code 2 = .ok (.iconst 0, 1)) rfl),
  zs_istore_n (i := 3) rfl hX (by decide +kernel : decode prog_1_method_41_code 3 = .ok (.istore_n 3, 1)) rfl (by decide),
  zs_iload_n (i := 3) rfl hX (by decide +kernel : decode prog_1_method_41_code 4 = .ok (.iload_n 3, 1)) rfl (by decide),
  zs_iload_n (i := 1) rfl hX (by decide +kernel : decode prog_1_method_41_code 5 = .ok (.iload_n 1, 1)) rfl (by decide),
  zs_cge hX (by decide +kernel : decode prog_1_method_41_code 6 = .ok (.if_icmp .ge 13, 3)) (by decide) rfl,
  zs_iload_n (i := 2) rfl hX (by decide +kernel : decode prog_1_method_41_code 9 = .ok (.iload_n 2, 1)) rfl (by decide),
  zs_iload_n (i := 0) rfl hX (by decide +kernel : decode prog_1_method_41_code 10 = .ok (.iload_n 0, 1)) rfl (by decide),
  zs_ii (zg_imul hX (by decide +kernel : decode prog_1_method_41_code 11 = .ok (.imul, 1)) rfl),
  zs_istore_n (i := 2) rfl hX (by decide +kernel : decode prog_1_method_41_code 12 = .ok (.istore_n 2, 1)) rfl (by decide),
  zs_iinc hX (by decide +kernel : decode prog_1_method_41_code 13 = .ok (.iinc 3 1, 3)) (by decide) rfl (by decide),
  zs_goto hX (by decide +kernel : decode prog_1_method_41_code 16 = .ok (.goto (-12), 3)) (by decide),
  zs_iload_n (i := 2) rfl hX (by decide +kernel : decode prog_1_method_41_code 19 = .ok (.iload_n 2, 1)) rfl (by decide),
  zs_iret hX hR (by decide +kernel : decode prog_1_method_41_code 20 = .ok (.ireturn, 1)), trivial⟩
theorem k_X11_raised {l : Launch} {D : va_G} {ad : Nat → Nat → Nat} {cy : Nat → ClassId} {L : List (Nat × Nat)} (hcl : zclo L = true) (hinj : zAd ad L) : zCk l D ad cy L 1 f_X11_raised y_X11_raised (.code y_X11_raised prog_1_method_41_code 4 (some .int)) :=
  z_met (by decide) t_X11_raised hcl hinj (fun X hX hR hl k => zgs_all (Q := zSo X) (c := [(21, p_X11_raised_0)]) (fun _ => zs_bad) ⟨s_X11_raised_0 hcl hinj hX hR hl, trivial⟩ k)
set_option maxRecDepth 1000000 in
theorem e_X11_raised_0 (x0 : Int32) (x1 : Int32) (h : zH) : zL p_X11_raised 0 [some (.inl x0), some (.inl x1), none, none] [] h = zL p_X11_raised 4 [some (.inl x0), some (.inl x1), some (.inl 1), some (.inl 0)] [] h := (zL_s (t_X11_raised) [0, 4] 1000 0 _ _ _).trans rfl
theorem g_X11_raised (x0 : Int32) (x1 : Int32) (h : zH) : f_X11_raised [(.inl x0), (.inl x1)] h = zL p_X11_raised 4 [some (.inl x0), some (.inl x1), some (.inl 1), some (.inl 0)] [] h := (show f_X11_raised _ h = zL p_X11_raised 0 _ [] h from rfl).trans (e_X11_raised_0 x0 x1 h)
set_option maxRecDepth 1000000 in
theorem e_X11_raised_4 (x0 : Int32) (x1 : Int32) (x2 : Int32) (x3 : Int32) (h : zH) : zL p_X11_raised 4 [some (.inl x0), some (.inl x1), some (.inl x2), some (.inl x3)] [] h = zf (x3 < x1) (zL p_X11_raised 4 [some (.inl x0), some (.inl x1), some (.inl (x2 * x0)), some (.inl (x3 + 1))] [] h) (some (some (.inl x2), h)) := (zL_s (t_X11_raised) [0, 4] 1000 4 _ _ _).trans rfl
theorem zMS_11_260 : zMS "SoapTreaty" 260 y_X11_raised prog_1_method_41_code 4 (some .int) 2 := ⟨⟨zT_of 1061 (by decide +kernel) (by decide +kernel), zT_of 1062 (by decide +kernel) (by decide +kernel), zT_of 102 (by decide +kernel) (by decide +kernel), zT_of 1063 (by decide +kernel) (by decide +kernel)⟩, by decide, by decide, by decide, by decide +kernel⟩
/-! SoapTreaty.chance(III)I -/
def y_X11_chance : MethodName := ⟨"SoapTreaty", "chance", "(III)I"⟩
noncomputable def p_X11_chance_0 : List (Nat × zO) := [(0, zo_aload 0 1),
  (1, zo_getR 11 0 (some 0) 4),
  (4, zo_iload 1 5),
  (5, zo_vir 0 2 (zo_calli (f_X0_hasCake) 2 8)),
  (8, zo_0eq 32 11),
  (11, zo_iload 2 12),
  (12, zo_push (.inl 1) 13),
  (13, zo_clt 32 16),
  (16, zo_iload 2 17),
  (17, zo_push (.inl 6) 19),
  (19, zo_cgt 32 22),
  (22, zo_iload 3 23),
  (23, zo_0lt 32 26),
  (26, zo_iload 3 27),
  (27, zo_push (.inl 10) 29),
  (29, zo_cle 34 32),
  (32, zo_push (.inl zm1) 33),
  (33, zo_iret),
  (34, zo_aload 0 35),
  (35, zo_getR 11 0 (some 0) 38)]
noncomputable def p_X11_chance_1 : List (Nat × zO) := [(38, zo_getR 0 21 none 41),
  (41, zo_iload 1 42),
  (42, zo_iald 43),
  (43, zo_push (.inl zm1) 44),
  (44, zo_cne 49 47),
  (47, zo_push (.inl zm1) 48),
  (48, zo_iret),
  (49, zo_aload 0 50),
  (50, zo_iload 1 51),
  (51, zo_vir 11 2 (zo_calli (f_X11_weeksToPebble) 2 54)),
  (54, zo_istore 4 56),
  (56, zo_push (.inl 0) 57),
  (57, zo_istore 5 59),
  (59, zo_push (.inl 0) 60),
  (60, zo_istore 6 62),
  (62, zo_kill [0, 1, 7] (zo_iload 6 64)),
  (64, zo_push (.inl 1) 65),
  (65, zo_iload 2 66),
  (66, zo_ii (fun x y => x <<< (y &&& 31)) 67),
  (67, zo_cge 119 70)]
noncomputable def p_X11_chance_2 : List (Nat × zO) := [(70, zo_iload 6 72),
  (72, zo_calli (f_J6_bitCount) 1 75),
  (75, zo_istore 7 77),
  (77, zo_iload 4 79),
  (79, zo_push (.inl zm1) 80),
  (80, zo_ceq 113 83),
  (83, zo_iload 7 85),
  (85, zo_iload 4 87),
  (87, zo_clt 113 90),
  (90, zo_iload 5 92),
  (92, zo_iload 3 93),
  (93, zo_iload 7 95),
  (95, zo_calli (f_X11_raised) 2 98),
  (98, zo_push (.inl 10) 100),
  (100, zo_iload 3 101),
  (101, zo_ii (fun x y => x - y) 102),
  (102, zo_iload 2 103),
  (103, zo_iload 7 105),
  (105, zo_ii (fun x y => x - y) 106),
  (106, zo_calli (f_X11_raised) 2 109)]
noncomputable def p_X11_chance_3 : List (Nat × zO) := [(109, zo_ii (fun x y => x * y) 110),
  (110, zo_ii (fun x y => x + y) 111),
  (111, zo_istore 5 113),
  (113, zo_iinc 6 1 116),
  (116, zo_goto 62),
  (119, zo_iload 5 121),
  (121, zo_push (.inl 10) 123),
  (123, zo_push (.inl 6) 125),
  (125, zo_iload 2 126),
  (126, zo_ii (fun x y => x - y) 127),
  (127, zo_calli (f_X11_raised) 2 130),
  (130, zo_ii (fun x y => x * y) 131),
  (131, zo_iret)]
noncomputable def p_X11_chance : Nat → zO := zgs [(36, p_X11_chance_0), (68, p_X11_chance_1), (107, p_X11_chance_2), (132, p_X11_chance_3)]
theorem t_X11_chance : ∀ k, zTl (p_X11_chance k) := fun k => zgs_all (c := [(36, p_X11_chance_0), (68, p_X11_chance_1), (107, p_X11_chance_2), (132, p_X11_chance_3)]) (fun _ => zl_bad) ⟨⟨zl_aload, zl_getR, zl_iload, (zl_vir zl_calli), zl_0eq, zl_iload, zl_push, zl_clt, zl_iload, zl_push, zl_cgt, zl_iload, zl_0lt, zl_iload, zl_push, zl_cle, zl_push, zl_iret, zl_aload, zl_getR, trivial⟩, ⟨zl_getR, zl_iload, zl_iald, zl_push, zl_cne, zl_push, zl_iret, zl_aload, zl_iload, (zl_vir zl_calli), zl_istore, zl_push, zl_istore, zl_push, zl_istore, (zl_kill zl_iload), zl_push, zl_iload, zl_ii, zl_cge, trivial⟩, ⟨zl_iload, zl_calli, zl_istore, zl_iload, zl_push, zl_ceq, zl_iload, zl_iload, zl_clt, zl_iload, zl_iload, zl_iload, zl_calli, zl_push, zl_iload, zl_ii, zl_iload, zl_iload, zl_ii, zl_calli, trivial⟩, ⟨zl_ii, zl_ii, zl_istore, zl_iinc, zl_goto, zl_iload, zl_push, zl_push, zl_iload, zl_ii, zl_calli, zl_ii, zl_iret, trivial⟩, trivial⟩ k
noncomputable def f_X11_chance : zS := zrun p_X11_chance 8
set_option maxRecDepth 20000 in
theorem s_X11_chance_0 {l : Launch} {D : va_G} {ad : Nat → Nat → Nat} {cy : Nat → ClassId} {L : List (Nat × Nat)} (hcl : zclo L = true) (hinj : zAd ad L) {X : zCtx} (hX : zXok X "SoapTreaty" prog_1_method_29_code 8) (hR : zRt X (some .int)) (hl : zXl X l D ad cy L (zroom 6)) : zAllR (zSo X) p_X11_chance_0 := ⟨zs_aload_n (i := 0) rfl hX (by decide +kernel : decode prog_1_method_29_code 0 = .ok (.aload_n 0, 1)) rfl (by decide),
  zs_getR hX zFL_11_19 (by decide +kernel : decode prog_1_method_29_code 1 = .ok (.getfield 19, 3)) rfl,
  zs_iload_n (i := 1) rfl hX (by decide +kernel : decode prog_1_method_29_code 4 = .ok (.iload_n 1, 1)) rfl (by decide),
  zs_callVi hX zMV_11_142 (zXc_of hl (by decide) (k_X0_hasCake hcl hinj)) (by decide +kernel : decode prog_1_method_29_code 5 = .ok (.invokevirtual 142, 3)) rfl,
  zs_0eq hX (by decide +kernel : decode prog_1_method_29_code 8 = .ok (.ifCond .eq 24, 3)) (by decide) rfl,
  zs_iload_n (i := 2) rfl hX (by decide +kernel : decode prog_1_method_29_code 11 = .ok (.iload_n 2, 1)) rfl (by decide),
  zs_pushI (zg_iconst (by decide) hX (by decide +kernel : decode prog_1_method_29_code 12 = .ok (.iconst 1, 1)) rfl),
  zs_clt hX (by decide +kernel : decode prog_1_method_29_code 13 = .ok (.if_icmp .lt 19, 3)) (by decide) rfl,
  zs_iload_n (i := 2) rfl hX (by decide +kernel : decode prog_1_method_29_code 16 = .ok (.iload_n 2, 1)) rfl (by decide),
  zs_pushI (zg_bipush (by decide) hX (by decide +kernel : decode prog_1_method_29_code 17 = .ok (.bipush 6, 2)) rfl),
  zs_cgt hX (by decide +kernel : decode prog_1_method_29_code 19 = .ok (.if_icmp .gt 13, 3)) (by decide) rfl,
  zs_iload_n (i := 3) rfl hX (by decide +kernel : decode prog_1_method_29_code 22 = .ok (.iload_n 3, 1)) rfl (by decide),
  zs_0lt hX (by decide +kernel : decode prog_1_method_29_code 23 = .ok (.ifCond .lt 9, 3)) (by decide) rfl,
  zs_iload_n (i := 3) rfl hX (by decide +kernel : decode prog_1_method_29_code 26 = .ok (.iload_n 3, 1)) rfl (by decide),
  zs_pushI (zg_bipush (by decide) hX (by decide +kernel : decode prog_1_method_29_code 27 = .ok (.bipush 10, 2)) rfl),
  zs_cle hX (by decide +kernel : decode prog_1_method_29_code 29 = .ok (.if_icmp .le 5, 3)) (by decide) rfl,
  zs_pushI (zg_iconst (by decide) hX (by decide +kernel : decode prog_1_method_29_code 32 = .ok (.iconst (-1), 1)) rfl),
  zs_iret hX hR (by decide +kernel : decode prog_1_method_29_code 33 = .ok (.ireturn, 1)),
  zs_aload_n (i := 0) rfl hX (by decide +kernel : decode prog_1_method_29_code 34 = .ok (.aload_n 0, 1)) rfl (by decide),
  zs_getR hX zFL_11_19 (by decide +kernel : decode prog_1_method_29_code 35 = .ok (.getfield 19, 3)) rfl, trivial⟩
set_option maxRecDepth 20000 in
theorem s_X11_chance_1 {l : Launch} {D : va_G} {ad : Nat → Nat → Nat} {cy : Nat → ClassId} {L : List (Nat × Nat)} (hcl : zclo L = true) (hinj : zAd ad L) {X : zCtx} (hX : zXok X "SoapTreaty" prog_1_method_29_code 8) (hR : zRt X (some .int)) (hl : zXl X l D ad cy L (zroom 6)) : zAllR (zSo X) p_X11_chance_1 := ⟨zs_getR hX zFL_11_160 (by decide +kernel : decode prog_1_method_29_code 38 = .ok (.getfield 160, 3)) rfl,
  zs_iload_n (i := 1) rfl hX (by decide +kernel : decode prog_1_method_29_code 41 = .ok (.iload_n 1, 1)) rfl (by decide),
  zs_iald hX (by decide +kernel : decode prog_1_method_29_code 42 = .ok (.iaload, 1)) rfl,
  zs_pushI (zg_iconst (by decide) hX (by decide +kernel : decode prog_1_method_29_code 43 = .ok (.iconst (-1), 1)) rfl),
  zs_cne hX (by decide +kernel : decode prog_1_method_29_code 44 = .ok (.if_icmp .ne 5, 3)) (by decide) rfl,
  zs_pushI (zg_iconst (by decide) hX (by decide +kernel : decode prog_1_method_29_code 47 = .ok (.iconst (-1), 1)) rfl),
  zs_iret hX hR (by decide +kernel : decode prog_1_method_29_code 48 = .ok (.ireturn, 1)),
  zs_aload_n (i := 0) rfl hX (by decide +kernel : decode prog_1_method_29_code 49 = .ok (.aload_n 0, 1)) rfl (by decide),
  zs_iload_n (i := 1) rfl hX (by decide +kernel : decode prog_1_method_29_code 50 = .ok (.iload_n 1, 1)) rfl (by decide),
  zs_callVi hX zMV_11_211 (zXc_of hl (by decide) (k_X11_weeksToPebble hcl hinj)) (by decide +kernel : decode prog_1_method_29_code 51 = .ok (.invokevirtual 211, 3)) rfl,
  zs_istore hX (by decide +kernel : decode prog_1_method_29_code 54 = .ok (.istore 4, 2)) rfl (by decide),
  zs_pushI (zg_iconst (by decide) hX (by decide +kernel : decode prog_1_method_29_code 56 = .ok (.iconst 0, 1)) rfl),
  zs_istore hX (by decide +kernel : decode prog_1_method_29_code 57 = .ok (.istore 5, 2)) rfl (by decide),
  zs_pushI (zg_iconst (by decide) hX (by decide +kernel : decode prog_1_method_29_code 59 = .ok (.iconst 0, 1)) rfl),
  zs_istore hX (by decide +kernel : decode prog_1_method_29_code 60 = .ok (.istore 6, 2)) rfl (by decide),
  zs_kill hX (by decide) (zs_iload hX (by decide +kernel : decode prog_1_method_29_code 62 = .ok (.iload 6, 2)) rfl (by decide)),
  zs_pushI (zg_iconst (by decide) hX (by decide +kernel : decode prog_1_method_29_code 64 = .ok (.iconst 1, 1)) rfl),
  zs_iload_n (i := 2) rfl hX (by decide +kernel : decode prog_1_method_29_code 65 = .ok (.iload_n 2, 1)) rfl (by decide),
  zs_ii (zg_ishl hX (by decide +kernel : decode prog_1_method_29_code 66 = .ok (.ishl, 1)) rfl),
  zs_cge hX (by decide +kernel : decode prog_1_method_29_code 67 = .ok (.if_icmp .ge 52, 3)) (by decide) rfl, trivial⟩
set_option maxRecDepth 20000 in
theorem s_X11_chance_2 {l : Launch} {D : va_G} {ad : Nat → Nat → Nat} {cy : Nat → ClassId} {L : List (Nat × Nat)} (hcl : zclo L = true) (hinj : zAd ad L) {X : zCtx} (hX : zXok X "SoapTreaty" prog_1_method_29_code 8) (hR : zRt X (some .int)) (hl : zXl X l D ad cy L (zroom 6)) : zAllR (zSo X) p_X11_chance_2 := ⟨zs_iload hX (by decide +kernel : decode prog_1_method_29_code 70 = .ok (.iload 6, 2)) rfl (by decide),
  zs_callSi hX zMS_11_131 (zXc_of hl (by decide) (k_J6_bitCount hcl hinj)) (by decide +kernel : decode prog_1_method_29_code 72 = .ok (.invokestatic 131, 3)) rfl,
  zs_istore hX (by decide +kernel : decode prog_1_method_29_code 75 = .ok (.istore 7, 2)) rfl (by decide),
  zs_iload hX (by decide +kernel : decode prog_1_method_29_code 77 = .ok (.iload 4, 2)) rfl (by decide),
  zs_pushI (zg_iconst (by decide) hX (by decide +kernel : decode prog_1_method_29_code 79 = .ok (.iconst (-1), 1)) rfl),
  zs_ceq hX (by decide +kernel : decode prog_1_method_29_code 80 = .ok (.if_icmp .eq 33, 3)) (by decide) rfl,
  zs_iload hX (by decide +kernel : decode prog_1_method_29_code 83 = .ok (.iload 7, 2)) rfl (by decide),
  zs_iload hX (by decide +kernel : decode prog_1_method_29_code 85 = .ok (.iload 4, 2)) rfl (by decide),
  zs_clt hX (by decide +kernel : decode prog_1_method_29_code 87 = .ok (.if_icmp .lt 26, 3)) (by decide) rfl,
  zs_iload hX (by decide +kernel : decode prog_1_method_29_code 90 = .ok (.iload 5, 2)) rfl (by decide),
  zs_iload_n (i := 3) rfl hX (by decide +kernel : decode prog_1_method_29_code 92 = .ok (.iload_n 3, 1)) rfl (by decide),
  zs_iload hX (by decide +kernel : decode prog_1_method_29_code 93 = .ok (.iload 7, 2)) rfl (by decide),
  zs_callSi hX zMS_11_260 (zXc_of hl (by decide) (k_X11_raised hcl hinj)) (by decide +kernel : decode prog_1_method_29_code 95 = .ok (.invokestatic 260, 3)) rfl,
  zs_pushI (zg_bipush (by decide) hX (by decide +kernel : decode prog_1_method_29_code 98 = .ok (.bipush 10, 2)) rfl),
  zs_iload_n (i := 3) rfl hX (by decide +kernel : decode prog_1_method_29_code 100 = .ok (.iload_n 3, 1)) rfl (by decide),
  zs_ii (zg_isub hX (by decide +kernel : decode prog_1_method_29_code 101 = .ok (.isub, 1)) rfl),
  zs_iload_n (i := 2) rfl hX (by decide +kernel : decode prog_1_method_29_code 102 = .ok (.iload_n 2, 1)) rfl (by decide),
  zs_iload hX (by decide +kernel : decode prog_1_method_29_code 103 = .ok (.iload 7, 2)) rfl (by decide),
  zs_ii (zg_isub hX (by decide +kernel : decode prog_1_method_29_code 105 = .ok (.isub, 1)) rfl),
  zs_callSi hX zMS_11_260 (zXc_of hl (by decide) (k_X11_raised hcl hinj)) (by decide +kernel : decode prog_1_method_29_code 106 = .ok (.invokestatic 260, 3)) rfl, trivial⟩
set_option maxRecDepth 20000 in
theorem s_X11_chance_3 {l : Launch} {D : va_G} {ad : Nat → Nat → Nat} {cy : Nat → ClassId} {L : List (Nat × Nat)} (hcl : zclo L = true) (hinj : zAd ad L) {X : zCtx} (hX : zXok X "SoapTreaty" prog_1_method_29_code 8) (hR : zRt X (some .int)) (hl : zXl X l D ad cy L (zroom 6)) : zAllR (zSo X) p_X11_chance_3 := ⟨zs_ii (zg_imul hX (by decide +kernel : decode prog_1_method_29_code 109 = .ok (.imul, 1)) rfl),
  zs_ii (zg_iadd hX (by decide +kernel : decode prog_1_method_29_code 110 = .ok (.iadd, 1)) rfl),
  zs_istore hX (by decide +kernel : decode prog_1_method_29_code 111 = .ok (.istore 5, 2)) rfl (by decide),
  zs_iinc hX (by decide +kernel : decode prog_1_method_29_code 113 = .ok (.iinc 6 1, 3)) (by decide) rfl (by decide),
  zs_goto hX (by decide +kernel : decode prog_1_method_29_code 116 = .ok (.goto (-54), 3)) (by decide),
  zs_iload hX (by decide +kernel : decode prog_1_method_29_code 119 = .ok (.iload 5, 2)) rfl (by decide),
  zs_pushI (zg_bipush (by decide) hX (by decide +kernel : decode prog_1_method_29_code 121 = .ok (.bipush 10, 2)) rfl),
  zs_pushI (zg_bipush (by decide) hX (by decide +kernel : decode prog_1_method_29_code 123 = .ok (.bipush 6, 2)) rfl),
  zs_iload_n (i := 2) rfl hX (by decide +kernel : decode prog_1_method_29_code 125 = .ok (.iload_n 2, 1)) rfl (by decide),
  zs_ii (zg_isub hX (by decide +kernel : decode prog_1_method_29_code 126 = .ok (.isub, 1)) rfl),
  zs_callSi hX zMS_11_260 (zXc_of hl (by decide) (k_X11_raised hcl hinj)) (by decide +kernel : decode prog_1_method_29_code 127 = .ok (.invokestatic 260, 3)) rfl,
  zs_ii (zg_imul hX (by decide +kernel : decode prog_1_method_29_code 130 = .ok (.imul, 1)) rfl),
  zs_iret hX hR (by decide +kernel : decode prog_1_method_29_code 131 = .ok (.ireturn, 1)), trivial⟩
theorem k_X11_chance {l : Launch} {D : va_G} {ad : Nat → Nat → Nat} {cy : Nat → ClassId} {L : List (Nat × Nat)} (hcl : zclo L = true) (hinj : zAd ad L) : zCk l D ad cy L 6 f_X11_chance y_X11_chance (.code y_X11_chance prog_1_method_29_code 8 (some .int)) :=
  z_met (by decide) t_X11_chance hcl hinj (fun X hX hR hl k => zgs_all (Q := zSo X) (c := [(36, p_X11_chance_0), (68, p_X11_chance_1), (107, p_X11_chance_2), (132, p_X11_chance_3)]) (fun _ => zs_bad) ⟨s_X11_chance_0 hcl hinj hX hR hl, s_X11_chance_1 hcl hinj hX hR hl, s_X11_chance_2 hcl hinj hX hR hl, s_X11_chance_3 hcl hinj hX hR hl, trivial⟩ k)
set_option maxRecDepth 1000000 in
theorem e_X11_chance_0 (x1 : Int32) (x2 : Int32) (x3 : Int32) (h : zH) : zL p_X11_chance 0 [some (.inr (.inr (11, 0))), some (.inl x1), some (.inl x2), some (.inl x3), none, none, none, none] [] h = zci (f_X0_hasCake [(.inr (.inr (0, 0))), (.inl x1)] h) (fun r2 h1 => zf (r2 = 0) (some (some (.inl zm1), h1)) (zf (x2 < 1) (some (some (.inl zm1), h1)) (zf (6 < x2) (some (some (.inl zm1), h1)) (zf (x3 < 0) (some (some (.inl zm1), h1)) (zf (10 < x3) (some (some (.inl zm1), h1)) (zf (vp_in x1 7) (zf ((h1.1 21 0 x1.toNatClampNeg) = zm1) (some (some (.inl zm1), h1)) (zci (f_X11_weeksToPebble [(.inr (.inr (11, 0))), (.inl x1)] h1) (fun r4 h3 => zL p_X11_chance 62 [some (.inr (.inr (11, 0))), some (.inl x1), some (.inl x2), some (.inl x3), some (.inl r4), some (.inl 0), some (.inl 0), none] [] h3))) none)))))) := (zL_s (t_X11_chance) [0, 62] 1000 0 _ _ _).trans rfl
theorem g_X11_chance (x1 : Int32) (x2 : Int32) (x3 : Int32) (h : zH) : f_X11_chance [(.inr (.inr (11, 0))), (.inl x1), (.inl x2), (.inl x3)] h = zci (f_X0_hasCake [(.inr (.inr (0, 0))), (.inl x1)] h) (fun r2 h1 => zf (r2 = 0) (some (some (.inl zm1), h1)) (zf (x2 < 1) (some (some (.inl zm1), h1)) (zf (6 < x2) (some (some (.inl zm1), h1)) (zf (x3 < 0) (some (some (.inl zm1), h1)) (zf (10 < x3) (some (some (.inl zm1), h1)) (zf (vp_in x1 7) (zf ((h1.1 21 0 x1.toNatClampNeg) = zm1) (some (some (.inl zm1), h1)) (zci (f_X11_weeksToPebble [(.inr (.inr (11, 0))), (.inl x1)] h1) (fun r4 h3 => zL p_X11_chance 62 [some (.inr (.inr (11, 0))), some (.inl x1), some (.inl x2), some (.inl x3), some (.inl r4), some (.inl 0), some (.inl 0), none] [] h3))) none)))))) := (show f_X11_chance _ h = zL p_X11_chance 0 _ [] h from rfl).trans (e_X11_chance_0 x1 x2 x3 h)
set_option maxRecDepth 1000000 in
theorem e_X11_chance_62 (o0 : Option zV) (o1 : Option zV) (x2 : Int32) (x3 : Int32) (x4 : Int32) (x5 : Int32) (x6 : Int32) (o7 : Option zV) (h : zH) : zL p_X11_chance 62 [o0, o1, some (.inl x2), some (.inl x3), some (.inl x4), some (.inl x5), some (.inl x6), o7] [] h = zf (x6 < ((1 : Int32) <<< (x2 &&& 31))) (zci (f_J6_bitCount [(.inl x6)] h) (fun r4 h3 => zf (x4 = zm1) (zL p_X11_chance 62 [none, none, some (.inl x2), some (.inl x3), some (.inl x4), some (.inl x5), some (.inl (x6 + 1)), some (.inl r4)] [] h3) (zf (r4 < x4) (zL p_X11_chance 62 [none, none, some (.inl x2), some (.inl x3), some (.inl x4), some (.inl x5), some (.inl (x6 + 1)), some (.inl r4)] [] h3) (zci (f_X11_raised [(.inl x3), (.inl r4)] h3) (fun r6 h5 => zci (f_X11_raised [(.inl ((10 : Int32) - x3)), (.inl (x2 - r4))] h5) (fun r8 h7 => zL p_X11_chance 62 [none, none, some (.inl x2), some (.inl x3), some (.inl x4), some (.inl (x5 + (r6 * r8))), some (.inl (x6 + 1)), some (.inl r4)] [] h7)))))) (zci (f_X11_raised [(.inl 10), (.inl ((6 : Int32) - x2))] h) (fun r2 h1 => some (some (.inl (x5 * r2)), h1))) := (zL_s (t_X11_chance) [0, 62] 1000 62 _ _ _).trans rfl
/-! SoapTreaty.drawBelow(I)I -/
def y_X11_drawBelow : MethodName := ⟨"SoapTreaty", "drawBelow", "(I)I"⟩
noncomputable def p_X11_drawBelow_0 : List (Nat × zO) := [(0, zo_aload 0 1),
  (1, zo_aload 0 2),
  (2, zo_getJ 11 9 5),
  (5, zo_push (.inr (.inl 1103515245)) 8),
  (8, zo_ll (fun x y => x * y) 9),
  (9, zo_push (.inr (.inl 12345)) 12),
  (12, zo_ll (fun x y => x + y) 13),
  (13, zo_push (.inr (.inl 2147483648)) 16),
  (16, zo_ldc (fun x y => x - x / y * y) 17),
  (17, zo_putJ 11 9 20),
  (20, zo_iload 1 21),
  (21, zo_0le 39 24),
  (24, zo_aload 0 25),
  (25, zo_getJ 11 9 28),
  (28, zo_push (.inr (.inl 65536)) 31),
  (31, zo_ldc (fun x y => x / y) 32),
  (32, zo_iload 1 33),
  (33, zo_i2l 34),
  (34, zo_ld (fun x y => x - x / y * y) 35),
  (35, zo_l2i 36)]
noncomputable def p_X11_drawBelow_1 : List (Nat × zO) := [(36, zo_goto 40),
  (39, zo_push (.inl 0) 40),
  (40, zo_iret)]
noncomputable def p_X11_drawBelow : Nat → zO := zgs [(36, p_X11_drawBelow_0), (41, p_X11_drawBelow_1)]
theorem t_X11_drawBelow : ∀ k, zTl (p_X11_drawBelow k) := fun k => zgs_all (c := [(36, p_X11_drawBelow_0), (41, p_X11_drawBelow_1)]) (fun _ => zl_bad) ⟨⟨zl_aload, zl_aload, zl_getJ, zl_push, zl_ll, zl_push, zl_ll, zl_push, zl_ldc, zl_putJ, zl_iload, zl_0le, zl_aload, zl_getJ, zl_push, zl_ldc, zl_iload, zl_i2l, zl_ld, zl_l2i, trivial⟩, ⟨zl_goto, zl_push, zl_iret, trivial⟩, trivial⟩ k
noncomputable def f_X11_drawBelow : zS := zrun p_X11_drawBelow 2
set_option maxRecDepth 20000 in
theorem s_X11_drawBelow_0 {l : Launch} {D : va_G} {ad : Nat → Nat → Nat} {cy : Nat → ClassId} {L : List (Nat × Nat)} (hcl : zclo L = true) (hinj : zAd ad L) {X : zCtx} (hX : zXok X "SoapTreaty" prog_1_method_45_code 2) (hR : zRt X (some .int)) (hl : zXl X l D ad cy L (zroom 1)) : zAllR (zSo X) p_X11_drawBelow_0 := ⟨zs_aload_n (i := 0) rfl hX (by decide +kernel : decode prog_1_method_45_code 0 = .ok (.aload_n 0, 1)) rfl (by decide),
  zs_aload_n (i := 0) rfl hX (by decide +kernel : decode prog_1_method_45_code 1 = .ok (.aload_n 0, 1)) rfl (by decide),
  zs_getJ hX zFL_11_69 (by decide +kernel : decode prog_1_method_45_code 2 = .ok (.getfield 69, 3)) rfl,
  zs_pushJ (zg_ldc2 (zT_of 1076 (by decide +kernel) (by decide +kernel)) hX (by decide +kernel : decode prog_1_method_45_code 5 = .ok (.ldc2_w 319, 3)) rfl),
  zs_ll (zg_lmul hX (by decide +kernel : decode prog_1_method_45_code 8 = .ok (.lmul, 1)) rfl),
  zs_pushJ (zg_ldc2 (zT_of 1077 (by decide +kernel) (by decide +kernel)) hX (by decide +kernel : decode prog_1_method_45_code 9 = .ok (.ldc2_w 321, 3)) rfl),
  zs_ll (zg_ladd hX (by decide +kernel : decode prog_1_method_45_code 12 = .ok (.ladd, 1)) rfl),
  zs_pushJ (zg_ldc2 (zT_of 1078 (by decide +kernel) (by decide +kernel)) hX (by decide +kernel : decode prog_1_method_45_code 13 = .ok (.ldc2_w 323, 3)) rfl),
  zs_ldc (zg_lrem hX (by decide +kernel : decode prog_1_method_45_code 16 = .ok (.lrem, 1)) rfl),
  zs_putJ hX zFP_11_69 (by decide +kernel : decode prog_1_method_45_code 17 = .ok (.putfield 69, 3)) rfl,
  zs_iload_n (i := 1) rfl hX (by decide +kernel : decode prog_1_method_45_code 20 = .ok (.iload_n 1, 1)) rfl (by decide),
  zs_0le hX (by decide +kernel : decode prog_1_method_45_code 21 = .ok (.ifCond .le 18, 3)) (by decide) rfl,
  zs_aload_n (i := 0) rfl hX (by decide +kernel : decode prog_1_method_45_code 24 = .ok (.aload_n 0, 1)) rfl (by decide),
  zs_getJ hX zFL_11_69 (by decide +kernel : decode prog_1_method_45_code 25 = .ok (.getfield 69, 3)) rfl,
  zs_pushJ (zg_ldc2 (zT_of 1079 (by decide +kernel) (by decide +kernel)) hX (by decide +kernel : decode prog_1_method_45_code 28 = .ok (.ldc2_w 325, 3)) rfl),
  zs_ldc (zg_ldiv hX (by decide +kernel : decode prog_1_method_45_code 31 = .ok (.ldiv, 1)) rfl),
  zs_iload_n (i := 1) rfl hX (by decide +kernel : decode prog_1_method_45_code 32 = .ok (.iload_n 1, 1)) rfl (by decide),
  zs_i2l_ (zg_i2l hX (by decide +kernel : decode prog_1_method_45_code 33 = .ok (.i2l, 1)) rfl),
  zs_ld (zg_lrem hX (by decide +kernel : decode prog_1_method_45_code 34 = .ok (.lrem, 1)) rfl),
  zs_l2i_ (zg_l2i hX (by decide +kernel : decode prog_1_method_45_code 35 = .ok (.l2i, 1)) rfl), trivial⟩
set_option maxRecDepth 20000 in
theorem s_X11_drawBelow_1 {l : Launch} {D : va_G} {ad : Nat → Nat → Nat} {cy : Nat → ClassId} {L : List (Nat × Nat)} (hcl : zclo L = true) (hinj : zAd ad L) {X : zCtx} (hX : zXok X "SoapTreaty" prog_1_method_45_code 2) (hR : zRt X (some .int)) (hl : zXl X l D ad cy L (zroom 1)) : zAllR (zSo X) p_X11_drawBelow_1 := ⟨zs_goto hX (by decide +kernel : decode prog_1_method_45_code 36 = .ok (.goto 4, 3)) (by decide),
  zs_pushI (zg_iconst (by decide) hX (by decide +kernel : decode prog_1_method_45_code 39 = .ok (.iconst 0, 1)) rfl),
  zs_iret hX hR (by decide +kernel : decode prog_1_method_45_code 40 = .ok (.ireturn, 1)), trivial⟩
theorem k_X11_drawBelow {l : Launch} {D : va_G} {ad : Nat → Nat → Nat} {cy : Nat → ClassId} {L : List (Nat × Nat)} (hcl : zclo L = true) (hinj : zAd ad L) : zCk l D ad cy L 1 f_X11_drawBelow y_X11_drawBelow (.code y_X11_drawBelow prog_1_method_45_code 2 (some .int)) :=
  z_met (by decide) t_X11_drawBelow hcl hinj (fun X hX hR hl k => zgs_all (Q := zSo X) (c := [(36, p_X11_drawBelow_0), (41, p_X11_drawBelow_1)]) (fun _ => zs_bad) ⟨s_X11_drawBelow_0 hcl hinj hX hR hl, s_X11_drawBelow_1 hcl hinj hX hR hl, trivial⟩ k)
set_option maxRecDepth 1000000 in
theorem e_X11_drawBelow_0 (x1 : Int32) (h : zH) : zL p_X11_drawBelow 0 [some (.inr (.inr (11, 0))), some (.inl x1)] [] h = zf (0 < x1) (zf ((x1.toInt64) = 0) none (some (some (.inl (((((((h.2 11 0 9) * (1103515245 : Int64)) + (12345 : Int64)) - (((h.2 11 0 9) * (1103515245 : Int64)) + (12345 : Int64)) / 2147483648 * 2147483648) / 65536) - (((((h.2 11 0 9) * (1103515245 : Int64)) + (12345 : Int64)) - (((h.2 11 0 9) * (1103515245 : Int64)) + (12345 : Int64)) / 2147483648 * 2147483648) / 65536) / (x1.toInt64) * (x1.toInt64)).toInt32)), (zuJ h 11 0 9 ((((h.2 11 0 9) * (1103515245 : Int64)) + (12345 : Int64)) - (((h.2 11 0 9) * (1103515245 : Int64)) + (12345 : Int64)) / 2147483648 * 2147483648))))) (some (some (.inl 0), (zuJ h 11 0 9 ((((h.2 11 0 9) * (1103515245 : Int64)) + (12345 : Int64)) - (((h.2 11 0 9) * (1103515245 : Int64)) + (12345 : Int64)) / 2147483648 * 2147483648)))) := (zL_s (t_X11_drawBelow) [0] 1000 0 _ _ _).trans rfl
theorem g_X11_drawBelow (x1 : Int32) (h : zH) : f_X11_drawBelow [(.inr (.inr (11, 0))), (.inl x1)] h = zf (0 < x1) (zf ((x1.toInt64) = 0) none (some (some (.inl (((((((h.2 11 0 9) * (1103515245 : Int64)) + (12345 : Int64)) - (((h.2 11 0 9) * (1103515245 : Int64)) + (12345 : Int64)) / 2147483648 * 2147483648) / 65536) - (((((h.2 11 0 9) * (1103515245 : Int64)) + (12345 : Int64)) - (((h.2 11 0 9) * (1103515245 : Int64)) + (12345 : Int64)) / 2147483648 * 2147483648) / 65536) / (x1.toInt64) * (x1.toInt64)).toInt32)), (zuJ h 11 0 9 ((((h.2 11 0 9) * (1103515245 : Int64)) + (12345 : Int64)) - (((h.2 11 0 9) * (1103515245 : Int64)) + (12345 : Int64)) / 2147483648 * 2147483648))))) (some (some (.inl 0), (zuJ h 11 0 9 ((((h.2 11 0 9) * (1103515245 : Int64)) + (12345 : Int64)) - (((h.2 11 0 9) * (1103515245 : Int64)) + (12345 : Int64)) / 2147483648 * 2147483648)))) := (show f_X11_drawBelow _ h = zL p_X11_drawBelow 0 _ [] h from rfl).trans (e_X11_drawBelow_0 x1 h)
theorem zMV_11_327 : zMV "SoapTreaty" 327 11 y_X11_drawBelow prog_1_method_45_code 2 (some .int) 1 := ⟨⟨zT_of 1072 (by decide +kernel) (by decide +kernel), zT_of 1074 (by decide +kernel) (by decide +kernel), zT_of 30 (by decide +kernel) (by decide +kernel), zT_of 102 (by decide +kernel) (by decide +kernel), zT_of 1075 (by decide +kernel) (by decide +kernel)⟩, by decide, rfl, ⟨zT11, 10, rfl⟩, by decide, by decide, by decide +kernel⟩
/-! SoapTreaty.drawDeed()V -/
def y_X11_drawDeed : MethodName := ⟨"SoapTreaty", "drawDeed", "()V"⟩
noncomputable def p_X11_drawDeed_0 : List (Nat × zO) := [(0, zo_aload 0 1),
  (1, zo_getR 11 0 (some 0) 4),
  (4, zo_getI 0 4 7),
  (7, zo_0ne 11 10),
  (10, zo_ret),
  (11, zo_aload 0 12),
  (12, zo_aload 0 13),
  (13, zo_getR 11 0 (some 0) 16),
  (16, zo_getI 0 4 19),
  (19, zo_vir 11 2 (zo_calli (f_X11_drawBelow) 2 22)),
  (22, zo_istore 1 23),
  (23, zo_aload 0 24),
  (24, zo_push (.inl 6) 26),
  (26, zo_vir 11 2 (zo_calli (f_X11_drawBelow) 2 29)),
  (29, zo_tsw [(0, 60), (1, 74), (2, 88), (3, 112)] 126),
  (60, zo_aload 0 61),
  (61, zo_getR 11 8 (some 21) 64),
  (64, zo_push (.inl 1) 65),
  (65, zo_iload 1 66),
  (66, zo_push (.inl zm1) 67)]
noncomputable def p_X11_drawDeed_1 : List (Nat × zO) := [(67, zo_vir 8 4 (zo_calli (f_X8_attempt) 4 70)),
  (70, zo_pop 71),
  (71, zo_goto 126),
  (74, zo_aload 0 75),
  (75, zo_getR 11 8 (some 21) 78),
  (78, zo_push (.inl 2) 79),
  (79, zo_iload 1 80),
  (80, zo_push (.inl zm1) 81),
  (81, zo_vir 8 4 (zo_calli (f_X8_attempt) 4 84)),
  (84, zo_pop 85),
  (85, zo_goto 126),
  (88, zo_aload 0 89),
  (89, zo_getR 11 8 (some 21) 92),
  (92, zo_push (.inl 3) 93),
  (93, zo_iload 1 94),
  (94, zo_aload 0 95),
  (95, zo_aload 0 96),
  (96, zo_getR 11 0 (some 0) 99),
  (99, zo_getI 0 0 102),
  (102, zo_vir 11 2 (zo_calli (f_X11_drawBelow) 2 105))]
noncomputable def p_X11_drawDeed_2 : List (Nat × zO) := [(105, zo_vir 8 4 (zo_calli (f_X8_attempt) 4 108)),
  (108, zo_pop 109),
  (109, zo_goto 126),
  (112, zo_aload 0 113),
  (113, zo_getR 11 8 (some 21) 116),
  (116, zo_push (.inl 4) 117),
  (117, zo_iload 1 118),
  (118, zo_push (.inl zm1) 119),
  (119, zo_vir 8 4 (zo_calli (f_X8_attempt) 4 122)),
  (122, zo_pop 123),
  (123, zo_goto 126),
  (126, zo_ret)]
noncomputable def p_X11_drawDeed : Nat → zO := zgs [(67, p_X11_drawDeed_0), (103, p_X11_drawDeed_1), (127, p_X11_drawDeed_2)]
theorem t_X11_drawDeed : ∀ k, zTl (p_X11_drawDeed k) := fun k => zgs_all (c := [(67, p_X11_drawDeed_0), (103, p_X11_drawDeed_1), (127, p_X11_drawDeed_2)]) (fun _ => zl_bad) ⟨⟨zl_aload, zl_getR, zl_getI, zl_0ne, zl_ret, zl_aload, zl_aload, zl_getR, zl_getI, (zl_vir zl_calli), zl_istore, zl_aload, zl_push, (zl_vir zl_calli), zl_tsw, zl_aload, zl_getR, zl_push, zl_iload, zl_push, trivial⟩, ⟨(zl_vir zl_calli), zl_pop, zl_goto, zl_aload, zl_getR, zl_push, zl_iload, zl_push, (zl_vir zl_calli), zl_pop, zl_goto, zl_aload, zl_getR, zl_push, zl_iload, zl_aload, zl_aload, zl_getR, zl_getI, (zl_vir zl_calli), trivial⟩, ⟨(zl_vir zl_calli), zl_pop, zl_goto, zl_aload, zl_getR, zl_push, zl_iload, zl_push, (zl_vir zl_calli), zl_pop, zl_goto, zl_ret, trivial⟩, trivial⟩ k
noncomputable def f_X11_drawDeed : zS := zrun p_X11_drawDeed 2
set_option maxRecDepth 20000 in
theorem s_X11_drawDeed_0 {l : Launch} {D : va_G} {ad : Nat → Nat → Nat} {cy : Nat → ClassId} {L : List (Nat × Nat)} (hcl : zclo L = true) (hinj : zAd ad L) {X : zCtx} (hX : zXok X "SoapTreaty" prog_1_method_46_code 2) (hR : zRt X none) (hl : zXl X l D ad cy L (zroom 7)) : zAllR (zSo X) p_X11_drawDeed_0 := ⟨zs_aload_n (i := 0) rfl hX (by decide +kernel : decode prog_1_method_46_code 0 = .ok (.aload_n 0, 1)) rfl (by decide),
  zs_getR hX zFL_11_19 (by decide +kernel : decode prog_1_method_46_code 1 = .ok (.getfield 19, 3)) rfl,
  zs_getI hX zFL_11_214 (by decide) (by decide) (by decide +kernel : decode prog_1_method_46_code 4 = .ok (.getfield 214, 3)) rfl,
  zs_0ne hX (by decide +kernel : decode prog_1_method_46_code 7 = .ok (.ifCond .ne 4, 3)) (by decide) rfl,
  zs_ret hX hR (by decide +kernel : decode prog_1_method_46_code 10 = .ok (.return_, 1)),
  zs_aload_n (i := 0) rfl hX (by decide +kernel : decode prog_1_method_46_code 11 = .ok (.aload_n 0, 1)) rfl (by decide),
  zs_aload_n (i := 0) rfl hX (by decide +kernel : decode prog_1_method_46_code 12 = .ok (.aload_n 0, 1)) rfl (by decide),
  zs_getR hX zFL_11_19 (by decide +kernel : decode prog_1_method_46_code 13 = .ok (.getfield 19, 3)) rfl,
  zs_getI hX zFL_11_214 (by decide) (by decide) (by decide +kernel : decode prog_1_method_46_code 16 = .ok (.getfield 214, 3)) rfl,
  zs_callVi hX zMV_11_327 (zXc_of hl (by decide) (k_X11_drawBelow hcl hinj)) (by decide +kernel : decode prog_1_method_46_code 19 = .ok (.invokevirtual 327, 3)) rfl,
  zs_istore_n (i := 1) rfl hX (by decide +kernel : decode prog_1_method_46_code 22 = .ok (.istore_n 1, 1)) rfl (by decide),
  zs_aload_n (i := 0) rfl hX (by decide +kernel : decode prog_1_method_46_code 23 = .ok (.aload_n 0, 1)) rfl (by decide),
  zs_pushI (zg_bipush (by decide) hX (by decide +kernel : decode prog_1_method_46_code 24 = .ok (.bipush 6, 2)) rfl),
  zs_callVi hX zMV_11_327 (zXc_of hl (by decide) (k_X11_drawBelow hcl hinj)) (by decide +kernel : decode prog_1_method_46_code 26 = .ok (.invokevirtual 327, 3)) rfl,
  zs_tsw hX (by decide +kernel : decode prog_1_method_46_code 29 = .ok (.tableswitch 97 0 3 #[31, 45, 59, 83], 31)) (by decide) (by decide) (by decide) (by decide),
  zs_aload_n (i := 0) rfl hX (by decide +kernel : decode prog_1_method_46_code 60 = .ok (.aload_n 0, 1)) rfl (by decide),
  zs_getR hX zFL_11_55 (by decide +kernel : decode prog_1_method_46_code 61 = .ok (.getfield 55, 3)) rfl,
  zs_pushI (zg_iconst (by decide) hX (by decide +kernel : decode prog_1_method_46_code 64 = .ok (.iconst 1, 1)) rfl),
  zs_iload_n (i := 1) rfl hX (by decide +kernel : decode prog_1_method_46_code 65 = .ok (.iload_n 1, 1)) rfl (by decide),
  zs_pushI (zg_iconst (by decide) hX (by decide +kernel : decode prog_1_method_46_code 66 = .ok (.iconst (-1), 1)) rfl), trivial⟩
set_option maxRecDepth 20000 in
theorem s_X11_drawDeed_1 {l : Launch} {D : va_G} {ad : Nat → Nat → Nat} {cy : Nat → ClassId} {L : List (Nat × Nat)} (hcl : zclo L = true) (hinj : zAd ad L) {X : zCtx} (hX : zXok X "SoapTreaty" prog_1_method_46_code 2) (hR : zRt X none) (hl : zXl X l D ad cy L (zroom 7)) : zAllR (zSo X) p_X11_drawDeed_1 := ⟨zs_callVi hX zMV_11_196 (zXc_of hl (by decide) (k_X8_attempt hcl hinj)) (by decide +kernel : decode prog_1_method_46_code 67 = .ok (.invokevirtual 196, 3)) rfl,
  zs_pop_ (zg_pop hX (by decide +kernel : decode prog_1_method_46_code 70 = .ok (.pop, 1)) rfl),
  zs_goto hX (by decide +kernel : decode prog_1_method_46_code 71 = .ok (.goto 55, 3)) (by decide),
  zs_aload_n (i := 0) rfl hX (by decide +kernel : decode prog_1_method_46_code 74 = .ok (.aload_n 0, 1)) rfl (by decide),
  zs_getR hX zFL_11_55 (by decide +kernel : decode prog_1_method_46_code 75 = .ok (.getfield 55, 3)) rfl,
  zs_pushI (zg_iconst (by decide) hX (by decide +kernel : decode prog_1_method_46_code 78 = .ok (.iconst 2, 1)) rfl),
  zs_iload_n (i := 1) rfl hX (by decide +kernel : decode prog_1_method_46_code 79 = .ok (.iload_n 1, 1)) rfl (by decide),
  zs_pushI (zg_iconst (by decide) hX (by decide +kernel : decode prog_1_method_46_code 80 = .ok (.iconst (-1), 1)) rfl),
  zs_callVi hX zMV_11_196 (zXc_of hl (by decide) (k_X8_attempt hcl hinj)) (by decide +kernel : decode prog_1_method_46_code 81 = .ok (.invokevirtual 196, 3)) rfl,
  zs_pop_ (zg_pop hX (by decide +kernel : decode prog_1_method_46_code 84 = .ok (.pop, 1)) rfl),
  zs_goto hX (by decide +kernel : decode prog_1_method_46_code 85 = .ok (.goto 41, 3)) (by decide),
  zs_aload_n (i := 0) rfl hX (by decide +kernel : decode prog_1_method_46_code 88 = .ok (.aload_n 0, 1)) rfl (by decide),
  zs_getR hX zFL_11_55 (by decide +kernel : decode prog_1_method_46_code 89 = .ok (.getfield 55, 3)) rfl,
  zs_pushI (zg_iconst (by decide) hX (by decide +kernel : decode prog_1_method_46_code 92 = .ok (.iconst 3, 1)) rfl),
  zs_iload_n (i := 1) rfl hX (by decide +kernel : decode prog_1_method_46_code 93 = .ok (.iload_n 1, 1)) rfl (by decide),
  zs_aload_n (i := 0) rfl hX (by decide +kernel : decode prog_1_method_46_code 94 = .ok (.aload_n 0, 1)) rfl (by decide),
  zs_aload_n (i := 0) rfl hX (by decide +kernel : decode prog_1_method_46_code 95 = .ok (.aload_n 0, 1)) rfl (by decide),
  zs_getR hX zFL_11_19 (by decide +kernel : decode prog_1_method_46_code 96 = .ok (.getfield 19, 3)) rfl,
  zs_getI hX zFL_11_220 (by decide) (by decide) (by decide +kernel : decode prog_1_method_46_code 99 = .ok (.getfield 220, 3)) rfl,
  zs_callVi hX zMV_11_327 (zXc_of hl (by decide) (k_X11_drawBelow hcl hinj)) (by decide +kernel : decode prog_1_method_46_code 102 = .ok (.invokevirtual 327, 3)) rfl, trivial⟩
set_option maxRecDepth 20000 in
theorem s_X11_drawDeed_2 {l : Launch} {D : va_G} {ad : Nat → Nat → Nat} {cy : Nat → ClassId} {L : List (Nat × Nat)} (hcl : zclo L = true) (hinj : zAd ad L) {X : zCtx} (hX : zXok X "SoapTreaty" prog_1_method_46_code 2) (hR : zRt X none) (hl : zXl X l D ad cy L (zroom 7)) : zAllR (zSo X) p_X11_drawDeed_2 := ⟨zs_callVi hX zMV_11_196 (zXc_of hl (by decide) (k_X8_attempt hcl hinj)) (by decide +kernel : decode prog_1_method_46_code 105 = .ok (.invokevirtual 196, 3)) rfl,
  zs_pop_ (zg_pop hX (by decide +kernel : decode prog_1_method_46_code 108 = .ok (.pop, 1)) rfl),
  zs_goto hX (by decide +kernel : decode prog_1_method_46_code 109 = .ok (.goto 17, 3)) (by decide),
  zs_aload_n (i := 0) rfl hX (by decide +kernel : decode prog_1_method_46_code 112 = .ok (.aload_n 0, 1)) rfl (by decide),
  zs_getR hX zFL_11_55 (by decide +kernel : decode prog_1_method_46_code 113 = .ok (.getfield 55, 3)) rfl,
  zs_pushI (zg_iconst (by decide) hX (by decide +kernel : decode prog_1_method_46_code 116 = .ok (.iconst 4, 1)) rfl),
  zs_iload_n (i := 1) rfl hX (by decide +kernel : decode prog_1_method_46_code 117 = .ok (.iload_n 1, 1)) rfl (by decide),
  zs_pushI (zg_iconst (by decide) hX (by decide +kernel : decode prog_1_method_46_code 118 = .ok (.iconst (-1), 1)) rfl),
  zs_callVi hX zMV_11_196 (zXc_of hl (by decide) (k_X8_attempt hcl hinj)) (by decide +kernel : decode prog_1_method_46_code 119 = .ok (.invokevirtual 196, 3)) rfl,
  zs_pop_ (zg_pop hX (by decide +kernel : decode prog_1_method_46_code 122 = .ok (.pop, 1)) rfl),
  zs_goto hX (by decide +kernel : decode prog_1_method_46_code 123 = .ok (.goto 3, 3)) (by decide),
  zs_ret hX hR (by decide +kernel : decode prog_1_method_46_code 126 = .ok (.return_, 1)), trivial⟩
theorem k_X11_drawDeed {l : Launch} {D : va_G} {ad : Nat → Nat → Nat} {cy : Nat → ClassId} {L : List (Nat × Nat)} (hcl : zclo L = true) (hinj : zAd ad L) : zCk l D ad cy L 7 f_X11_drawDeed y_X11_drawDeed (.code y_X11_drawDeed prog_1_method_46_code 2 none) :=
  z_met (by decide) t_X11_drawDeed hcl hinj (fun X hX hR hl k => zgs_all (Q := zSo X) (c := [(67, p_X11_drawDeed_0), (103, p_X11_drawDeed_1), (127, p_X11_drawDeed_2)]) (fun _ => zs_bad) ⟨s_X11_drawDeed_0 hcl hinj hX hR hl, s_X11_drawDeed_1 hcl hinj hX hR hl, s_X11_drawDeed_2 hcl hinj hX hR hl, trivial⟩ k)
set_option maxRecDepth 1000000 in
theorem e_X11_drawDeed_0 (h : zH) : zL p_X11_drawDeed 0 [some (.inr (.inr (11, 0))), none] [] h = zf ((h.1 0 0 4) = 0) (some (none, h)) (zci (f_X11_drawBelow [(.inr (.inr (11, 0))), (.inl (h.1 0 0 4))] h) (fun r2 h1 => zci (f_X11_drawBelow [(.inr (.inr (11, 0))), (.inl 6)] h1) (fun r4 h3 => zf (r4 = 0) (zci (f_X8_attempt [(.inr (.inr (8, 21))), (.inl 1), (.inl r2), (.inl zm1)] h3) (fun r14 h13 => some (none, h13))) (zf (r4 = 1) (zci (f_X8_attempt [(.inr (.inr (8, 21))), (.inl 2), (.inl r2), (.inl zm1)] h3) (fun r12 h11 => some (none, h11))) (zf (r4 = 2) (zci (f_X11_drawBelow [(.inr (.inr (11, 0))), (.inl (h3.1 0 0 0))] h3) (fun r8 h7 => zci (f_X8_attempt [(.inr (.inr (8, 21))), (.inl 3), (.inl r2), (.inl r8)] h7) (fun r10 h9 => some (none, h9)))) (zf (r4 = 3) (zci (f_X8_attempt [(.inr (.inr (8, 21))), (.inl 4), (.inl r2), (.inl zm1)] h3) (fun r6 h5 => some (none, h5))) (some (none, h3)))))))) := (zL_s (t_X11_drawDeed) [0] 1000 0 _ _ _).trans rfl
theorem g_X11_drawDeed (h : zH) : f_X11_drawDeed [(.inr (.inr (11, 0)))] h = zf ((h.1 0 0 4) = 0) (some (none, h)) (zci (f_X11_drawBelow [(.inr (.inr (11, 0))), (.inl (h.1 0 0 4))] h) (fun r2 h1 => zci (f_X11_drawBelow [(.inr (.inr (11, 0))), (.inl 6)] h1) (fun r4 h3 => zf (r4 = 0) (zci (f_X8_attempt [(.inr (.inr (8, 21))), (.inl 1), (.inl r2), (.inl zm1)] h3) (fun r14 h13 => some (none, h13))) (zf (r4 = 1) (zci (f_X8_attempt [(.inr (.inr (8, 21))), (.inl 2), (.inl r2), (.inl zm1)] h3) (fun r12 h11 => some (none, h11))) (zf (r4 = 2) (zci (f_X11_drawBelow [(.inr (.inr (11, 0))), (.inl (h3.1 0 0 0))] h3) (fun r8 h7 => zci (f_X8_attempt [(.inr (.inr (8, 21))), (.inl 3), (.inl r2), (.inl r8)] h7) (fun r10 h9 => some (none, h9)))) (zf (r4 = 3) (zci (f_X8_attempt [(.inr (.inr (8, 21))), (.inl 4), (.inl r2), (.inl zm1)] h3) (fun r6 h5 => some (none, h5))) (some (none, h3)))))))) := (show f_X11_drawDeed _ h = zL p_X11_drawDeed 0 _ [] h from rfl).trans (e_X11_drawDeed_0 h)
theorem zMV_11_276 : zMV "SoapTreaty" 276 11 y_X11_drawDeed prog_1_method_46_code 2 none 0 := ⟨⟨zT_of 1068 (by decide +kernel) (by decide +kernel), zT_of 1070 (by decide +kernel) (by decide +kernel), zT_of 29 (by decide +kernel) (by decide +kernel), zT_of 102 (by decide +kernel) (by decide +kernel), zT_of 1071 (by decide +kernel) (by decide +kernel)⟩, by decide, rfl, ⟨zT11, 10, rfl⟩, by decide, by decide, by decide +kernel⟩
theorem zMV_11_282 : zMV "SoapTreaty" 282 0 y_X0_cakeBits prog_2_method_8_code 1 (some .int) 0 := ⟨⟨zT_of 1080 (by decide +kernel) (by decide +kernel), zT_of 1081 (by decide +kernel) (by decide +kernel), zT_of 1082 (by decide +kernel) (by decide +kernel), zT_of 104 (by decide +kernel) (by decide +kernel), zT_of 1083 (by decide +kernel) (by decide +kernel)⟩, by decide, rfl, ⟨zT0, 13, rfl⟩, by decide, by decide, by decide +kernel⟩
/-! SoapTreaty.reigns(III)I -/
def y_X11_reigns : MethodName := ⟨"SoapTreaty", "reigns", "(III)I"⟩
noncomputable def p_X11_reigns_0 : List (Nat × zO) := [(0, zo_iload 1 1),
  (1, zo_0lt 31 4),
  (4, zo_iload 1 5),
  (5, zo_push (.inl 9999) 8),
  (8, zo_cgt 31 11),
  (11, zo_iload 2 12),
  (12, zo_push (.inl 1) 13),
  (13, zo_clt 31 16),
  (16, zo_iload 2 17),
  (17, zo_push (.inl 99) 19),
  (19, zo_cgt 31 22),
  (22, zo_iload 3 23),
  (23, zo_0lt 31 26),
  (26, zo_iload 3 27),
  (27, zo_push (.inl 2) 28),
  (28, zo_cle 33 31),
  (31, zo_push (.inl zm1) 32),
  (32, zo_iret),
  (33, zo_aload 0 34),
  (34, zo_getR 11 8 (some 21) 37)]
noncomputable def p_X11_reigns_1 : List (Nat × zO) := [(37, zo_aload 0 38),
  (38, zo_getR 11 4 (some 0) 41),
  (41, zo_getR 4 8 none 44),
  (44, zo_vir 8 2 (zo_callv (f_X8_copyFrom) 2 47)),
  (47, zo_aload 0 48),
  (48, zo_iload 1 49),
  (49, zo_i2l 50),
  (50, zo_putJ 11 9 53),
  (53, zo_push (.inl 0) 54),
  (54, zo_istore 4 56),
  (56, zo_kill [1] (zo_iload 4 58)),
  (58, zo_iload 2 59),
  (59, zo_cge 83 62),
  (62, zo_aload 0 63),
  (63, zo_vir 11 1 (zo_callv (f_X11_drawDeed) 1 66)),
  (66, zo_aload 0 67),
  (67, zo_getR 11 8 (some 21) 70),
  (70, zo_push (.inl 5) 71),
  (71, zo_push (.inl zm1) 72),
  (72, zo_push (.inl zm1) 73)]
noncomputable def p_X11_reigns_2 : List (Nat × zO) := [(73, zo_vir 8 4 (zo_calli (f_X8_attempt) 4 76)),
  (76, zo_pop 77),
  (77, zo_iinc 4 1 80),
  (80, zo_goto 56),
  (83, zo_iload 3 84),
  (84, zo_0ne 97 87),
  (87, zo_aload 0 88),
  (88, zo_getR 11 8 (some 21) 91),
  (91, zo_getI 8 5 94),
  (94, zo_goto 126),
  (97, zo_iload 3 98),
  (98, zo_push (.inl 1) 99),
  (99, zo_cne 112 102),
  (102, zo_aload 0 103),
  (103, zo_getR 11 8 (some 21) 106),
  (106, zo_vir 8 1 (zo_calli (f_X8_pairsInEarnest) 1 109)),
  (109, zo_goto 126),
  (112, zo_aload 0 113),
  (113, zo_getR 11 8 (some 21) 116),
  (116, zo_aload 0 117)]
noncomputable def p_X11_reigns_3 : List (Nat × zO) := [(117, zo_getR 11 0 (some 0) 120),
  (120, zo_vir 0 1 (zo_calli (f_X0_cakeBits) 1 123)),
  (123, zo_vir 8 2 (zo_calli (f_X8_thickOf) 2 126)),
  (126, zo_iret)]
noncomputable def p_X11_reigns : Nat → zO := zgs [(35, p_X11_reigns_0), (73, p_X11_reigns_1), (117, p_X11_reigns_2), (127, p_X11_reigns_3)]
theorem t_X11_reigns : ∀ k, zTl (p_X11_reigns k) := fun k => zgs_all (c := [(35, p_X11_reigns_0), (73, p_X11_reigns_1), (117, p_X11_reigns_2), (127, p_X11_reigns_3)]) (fun _ => zl_bad) ⟨⟨zl_iload, zl_0lt, zl_iload, zl_push, zl_cgt, zl_iload, zl_push, zl_clt, zl_iload, zl_push, zl_cgt, zl_iload, zl_0lt, zl_iload, zl_push, zl_cle, zl_push, zl_iret, zl_aload, zl_getR, trivial⟩, ⟨zl_aload, zl_getR, zl_getR, (zl_vir zl_callv), zl_aload, zl_iload, zl_i2l, zl_putJ, zl_push, zl_istore, (zl_kill zl_iload), zl_iload, zl_cge, zl_aload, (zl_vir zl_callv), zl_aload, zl_getR, zl_push, zl_push, zl_push, trivial⟩, ⟨(zl_vir zl_calli), zl_pop, zl_iinc, zl_goto, zl_iload, zl_0ne, zl_aload, zl_getR, zl_getI, zl_goto, zl_iload, zl_push, zl_cne, zl_aload, zl_getR, (zl_vir zl_calli), zl_goto, zl_aload, zl_getR, zl_aload, trivial⟩, ⟨zl_getR, (zl_vir zl_calli), (zl_vir zl_calli), zl_iret, trivial⟩, trivial⟩ k
noncomputable def f_X11_reigns : zS := zrun p_X11_reigns 5
set_option maxRecDepth 20000 in
theorem s_X11_reigns_0 {l : Launch} {D : va_G} {ad : Nat → Nat → Nat} {cy : Nat → ClassId} {L : List (Nat × Nat)} (hcl : zclo L = true) (hinj : zAd ad L) {X : zCtx} (hX : zXok X "SoapTreaty" prog_1_method_31_code 5) (hR : zRt X (some .int)) (hl : zXl X l D ad cy L (zroom 8)) : zAllR (zSo X) p_X11_reigns_0 := ⟨zs_iload_n (i := 1) rfl hX (by decide +kernel : decode prog_1_method_31_code 0 = .ok (.iload_n 1, 1)) rfl (by decide),
  zs_0lt hX (by decide +kernel : decode prog_1_method_31_code 1 = .ok (.ifCond .lt 30, 3)) (by decide) rfl,
  zs_iload_n (i := 1) rfl hX (by decide +kernel : decode prog_1_method_31_code 4 = .ok (.iload_n 1, 1)) rfl (by decide),
  zs_pushI (zg_sipush (by decide) hX (by decide +kernel : decode prog_1_method_31_code 5 = .ok (.sipush 9999, 3)) rfl),
  zs_cgt hX (by decide +kernel : decode prog_1_method_31_code 8 = .ok (.if_icmp .gt 23, 3)) (by decide) rfl,
  zs_iload_n (i := 2) rfl hX (by decide +kernel : decode prog_1_method_31_code 11 = .ok (.iload_n 2, 1)) rfl (by decide),
  zs_pushI (zg_iconst (by decide) hX (by decide +kernel : decode prog_1_method_31_code 12 = .ok (.iconst 1, 1)) rfl),
  zs_clt hX (by decide +kernel : decode prog_1_method_31_code 13 = .ok (.if_icmp .lt 18, 3)) (by decide) rfl,
  zs_iload_n (i := 2) rfl hX (by decide +kernel : decode prog_1_method_31_code 16 = .ok (.iload_n 2, 1)) rfl (by decide),
  zs_pushI (zg_bipush (by decide) hX (by decide +kernel : decode prog_1_method_31_code 17 = .ok (.bipush 99, 2)) rfl),
  zs_cgt hX (by decide +kernel : decode prog_1_method_31_code 19 = .ok (.if_icmp .gt 12, 3)) (by decide) rfl,
  zs_iload_n (i := 3) rfl hX (by decide +kernel : decode prog_1_method_31_code 22 = .ok (.iload_n 3, 1)) rfl (by decide),
  zs_0lt hX (by decide +kernel : decode prog_1_method_31_code 23 = .ok (.ifCond .lt 8, 3)) (by decide) rfl,
  zs_iload_n (i := 3) rfl hX (by decide +kernel : decode prog_1_method_31_code 26 = .ok (.iload_n 3, 1)) rfl (by decide),
  zs_pushI (zg_iconst (by decide) hX (by decide +kernel : decode prog_1_method_31_code 27 = .ok (.iconst 2, 1)) rfl),
  zs_cle hX (by decide +kernel : decode prog_1_method_31_code 28 = .ok (.if_icmp .le 5, 3)) (by decide) rfl,
  zs_pushI (zg_iconst (by decide) hX (by decide +kernel : decode prog_1_method_31_code 31 = .ok (.iconst (-1), 1)) rfl),
  zs_iret hX hR (by decide +kernel : decode prog_1_method_31_code 32 = .ok (.ireturn, 1)),
  zs_aload_n (i := 0) rfl hX (by decide +kernel : decode prog_1_method_31_code 33 = .ok (.aload_n 0, 1)) rfl (by decide),
  zs_getR hX zFL_11_55 (by decide +kernel : decode prog_1_method_31_code 34 = .ok (.getfield 55, 3)) rfl, trivial⟩
set_option maxRecDepth 20000 in
theorem s_X11_reigns_1 {l : Launch} {D : va_G} {ad : Nat → Nat → Nat} {cy : Nat → ClassId} {L : List (Nat × Nat)} (hcl : zclo L = true) (hinj : zAd ad L) {X : zCtx} (hX : zXok X "SoapTreaty" prog_1_method_31_code 5) (hR : zRt X (some .int)) (hl : zXl X l D ad cy L (zroom 8)) : zAllR (zSo X) p_X11_reigns_1 := ⟨zs_aload_n (i := 0) rfl hX (by decide +kernel : decode prog_1_method_31_code 37 = .ok (.aload_n 0, 1)) rfl (by decide),
  zs_getR hX zFL_11_37 (by decide +kernel : decode prog_1_method_31_code 38 = .ok (.getfield 37, 3)) rfl,
  zs_getR hX zFL_11_115 (by decide +kernel : decode prog_1_method_31_code 41 = .ok (.getfield 115, 3)) rfl,
  zs_callVv hX zMV_11_273 (zXc_of hl (by decide) (k_X8_copyFrom hcl hinj)) (by decide +kernel : decode prog_1_method_31_code 44 = .ok (.invokevirtual 273, 3)) rfl,
  zs_aload_n (i := 0) rfl hX (by decide +kernel : decode prog_1_method_31_code 47 = .ok (.aload_n 0, 1)) rfl (by decide),
  zs_iload_n (i := 1) rfl hX (by decide +kernel : decode prog_1_method_31_code 48 = .ok (.iload_n 1, 1)) rfl (by decide),
  zs_i2l_ (zg_i2l hX (by decide +kernel : decode prog_1_method_31_code 49 = .ok (.i2l, 1)) rfl),
  zs_putJ hX zFP_11_69 (by decide +kernel : decode prog_1_method_31_code 50 = .ok (.putfield 69, 3)) rfl,
  zs_pushI (zg_iconst (by decide) hX (by decide +kernel : decode prog_1_method_31_code 53 = .ok (.iconst 0, 1)) rfl),
  zs_istore hX (by decide +kernel : decode prog_1_method_31_code 54 = .ok (.istore 4, 2)) rfl (by decide),
  zs_kill hX (by decide) (zs_iload hX (by decide +kernel : decode prog_1_method_31_code 56 = .ok (.iload 4, 2)) rfl (by decide)),
  zs_iload_n (i := 2) rfl hX (by decide +kernel : decode prog_1_method_31_code 58 = .ok (.iload_n 2, 1)) rfl (by decide),
  zs_cge hX (by decide +kernel : decode prog_1_method_31_code 59 = .ok (.if_icmp .ge 24, 3)) (by decide) rfl,
  zs_aload_n (i := 0) rfl hX (by decide +kernel : decode prog_1_method_31_code 62 = .ok (.aload_n 0, 1)) rfl (by decide),
  zs_callVv hX zMV_11_276 (zXc_of hl (by decide) (k_X11_drawDeed hcl hinj)) (by decide +kernel : decode prog_1_method_31_code 63 = .ok (.invokevirtual 276, 3)) rfl,
  zs_aload_n (i := 0) rfl hX (by decide +kernel : decode prog_1_method_31_code 66 = .ok (.aload_n 0, 1)) rfl (by decide),
  zs_getR hX zFL_11_55 (by decide +kernel : decode prog_1_method_31_code 67 = .ok (.getfield 55, 3)) rfl,
  zs_pushI (zg_iconst (by decide) hX (by decide +kernel : decode prog_1_method_31_code 70 = .ok (.iconst 5, 1)) rfl),
  zs_pushI (zg_iconst (by decide) hX (by decide +kernel : decode prog_1_method_31_code 71 = .ok (.iconst (-1), 1)) rfl),
  zs_pushI (zg_iconst (by decide) hX (by decide +kernel : decode prog_1_method_31_code 72 = .ok (.iconst (-1), 1)) rfl), trivial⟩
set_option maxRecDepth 20000 in
theorem s_X11_reigns_2 {l : Launch} {D : va_G} {ad : Nat → Nat → Nat} {cy : Nat → ClassId} {L : List (Nat × Nat)} (hcl : zclo L = true) (hinj : zAd ad L) {X : zCtx} (hX : zXok X "SoapTreaty" prog_1_method_31_code 5) (hR : zRt X (some .int)) (hl : zXl X l D ad cy L (zroom 8)) : zAllR (zSo X) p_X11_reigns_2 := ⟨zs_callVi hX zMV_11_196 (zXc_of hl (by decide) (k_X8_attempt hcl hinj)) (by decide +kernel : decode prog_1_method_31_code 73 = .ok (.invokevirtual 196, 3)) rfl,
  zs_pop_ (zg_pop hX (by decide +kernel : decode prog_1_method_31_code 76 = .ok (.pop, 1)) rfl),
  zs_iinc hX (by decide +kernel : decode prog_1_method_31_code 77 = .ok (.iinc 4 1, 3)) (by decide) rfl (by decide),
  zs_goto hX (by decide +kernel : decode prog_1_method_31_code 80 = .ok (.goto (-24), 3)) (by decide),
  zs_iload_n (i := 3) rfl hX (by decide +kernel : decode prog_1_method_31_code 83 = .ok (.iload_n 3, 1)) rfl (by decide),
  zs_0ne hX (by decide +kernel : decode prog_1_method_31_code 84 = .ok (.ifCond .ne 13, 3)) (by decide) rfl,
  zs_aload_n (i := 0) rfl hX (by decide +kernel : decode prog_1_method_31_code 87 = .ok (.aload_n 0, 1)) rfl (by decide),
  zs_getR hX zFL_11_55 (by decide +kernel : decode prog_1_method_31_code 88 = .ok (.getfield 55, 3)) rfl,
  zs_getI hX zFL_11_173 (by decide) (by decide) (by decide +kernel : decode prog_1_method_31_code 91 = .ok (.getfield 173, 3)) rfl,
  zs_goto hX (by decide +kernel : decode prog_1_method_31_code 94 = .ok (.goto 32, 3)) (by decide),
  zs_iload_n (i := 3) rfl hX (by decide +kernel : decode prog_1_method_31_code 97 = .ok (.iload_n 3, 1)) rfl (by decide),
  zs_pushI (zg_iconst (by decide) hX (by decide +kernel : decode prog_1_method_31_code 98 = .ok (.iconst 1, 1)) rfl),
  zs_cne hX (by decide +kernel : decode prog_1_method_31_code 99 = .ok (.if_icmp .ne 13, 3)) (by decide) rfl,
  zs_aload_n (i := 0) rfl hX (by decide +kernel : decode prog_1_method_31_code 102 = .ok (.aload_n 0, 1)) rfl (by decide),
  zs_getR hX zFL_11_55 (by decide +kernel : decode prog_1_method_31_code 103 = .ok (.getfield 55, 3)) rfl,
  zs_callVi hX zMV_11_279 (zXc_of hl (by decide) (k_X8_pairsInEarnest hcl hinj)) (by decide +kernel : decode prog_1_method_31_code 106 = .ok (.invokevirtual 279, 3)) rfl,
  zs_goto hX (by decide +kernel : decode prog_1_method_31_code 109 = .ok (.goto 17, 3)) (by decide),
  zs_aload_n (i := 0) rfl hX (by decide +kernel : decode prog_1_method_31_code 112 = .ok (.aload_n 0, 1)) rfl (by decide),
  zs_getR hX zFL_11_55 (by decide +kernel : decode prog_1_method_31_code 113 = .ok (.getfield 55, 3)) rfl,
  zs_aload_n (i := 0) rfl hX (by decide +kernel : decode prog_1_method_31_code 116 = .ok (.aload_n 0, 1)) rfl (by decide), trivial⟩
set_option maxRecDepth 20000 in
theorem s_X11_reigns_3 {l : Launch} {D : va_G} {ad : Nat → Nat → Nat} {cy : Nat → ClassId} {L : List (Nat × Nat)} (hcl : zclo L = true) (hinj : zAd ad L) {X : zCtx} (hX : zXok X "SoapTreaty" prog_1_method_31_code 5) (hR : zRt X (some .int)) (hl : zXl X l D ad cy L (zroom 8)) : zAllR (zSo X) p_X11_reigns_3 := ⟨zs_getR hX zFL_11_19 (by decide +kernel : decode prog_1_method_31_code 117 = .ok (.getfield 19, 3)) rfl,
  zs_callVi hX zMV_11_282 (zXc_of hl (by decide) (k_X0_cakeBits hcl hinj)) (by decide +kernel : decode prog_1_method_31_code 120 = .ok (.invokevirtual 282, 3)) rfl,
  zs_callVi hX zMV_11_226 (zXc_of hl (by decide) (k_X8_thickOf hcl hinj)) (by decide +kernel : decode prog_1_method_31_code 123 = .ok (.invokevirtual 226, 3)) rfl,
  zs_iret hX hR (by decide +kernel : decode prog_1_method_31_code 126 = .ok (.ireturn, 1)), trivial⟩
theorem k_X11_reigns {l : Launch} {D : va_G} {ad : Nat → Nat → Nat} {cy : Nat → ClassId} {L : List (Nat × Nat)} (hcl : zclo L = true) (hinj : zAd ad L) : zCk l D ad cy L 8 f_X11_reigns y_X11_reigns (.code y_X11_reigns prog_1_method_31_code 5 (some .int)) :=
  z_met (by decide) t_X11_reigns hcl hinj (fun X hX hR hl k => zgs_all (Q := zSo X) (c := [(35, p_X11_reigns_0), (73, p_X11_reigns_1), (117, p_X11_reigns_2), (127, p_X11_reigns_3)]) (fun _ => zs_bad) ⟨s_X11_reigns_0 hcl hinj hX hR hl, s_X11_reigns_1 hcl hinj hX hR hl, s_X11_reigns_2 hcl hinj hX hR hl, s_X11_reigns_3 hcl hinj hX hR hl, trivial⟩ k)
set_option maxRecDepth 1000000 in
theorem e_X11_reigns_0 (x1 : Int32) (x2 : Int32) (x3 : Int32) (h : zH) : zL p_X11_reigns 0 [some (.inr (.inr (11, 0))), some (.inl x1), some (.inl x2), some (.inl x3), none] [] h = zf (x1 < 0) (some (some (.inl zm1), h)) (zf (9999 < x1) (some (some (.inl zm1), h)) (zf (x2 < 1) (some (some (.inl zm1), h)) (zf (99 < x2) (some (some (.inl zm1), h)) (zf (x3 < 0) (some (some (.inl zm1), h)) (zf (2 < x3) (some (some (.inl zm1), h)) (zcv (f_X8_copyFrom [(.inr (.inr (8, 21))), (.inr (.inr (8, 0)))] h) (fun h1 => zL p_X11_reigns 56 [some (.inr (.inr (11, 0))), some (.inl x1), some (.inl x2), some (.inl x3), some (.inl 0)] [] (zuJ h1 11 0 9 (x1.toInt64))))))))) := (zL_s (t_X11_reigns) [0, 56] 1000 0 _ _ _).trans rfl
theorem g_X11_reigns (x1 : Int32) (x2 : Int32) (x3 : Int32) (h : zH) : f_X11_reigns [(.inr (.inr (11, 0))), (.inl x1), (.inl x2), (.inl x3)] h = zf (x1 < 0) (some (some (.inl zm1), h)) (zf (9999 < x1) (some (some (.inl zm1), h)) (zf (x2 < 1) (some (some (.inl zm1), h)) (zf (99 < x2) (some (some (.inl zm1), h)) (zf (x3 < 0) (some (some (.inl zm1), h)) (zf (2 < x3) (some (some (.inl zm1), h)) (zcv (f_X8_copyFrom [(.inr (.inr (8, 21))), (.inr (.inr (8, 0)))] h) (fun h1 => zL p_X11_reigns 56 [some (.inr (.inr (11, 0))), some (.inl x1), some (.inl x2), some (.inl x3), some (.inl 0)] [] (zuJ h1 11 0 9 (x1.toInt64))))))))) := (show f_X11_reigns _ h = zL p_X11_reigns 0 _ [] h from rfl).trans (e_X11_reigns_0 x1 x2 x3 h)
set_option maxRecDepth 1000000 in
theorem e_X11_reigns_56 (o1 : Option zV) (x2 : Int32) (x3 : Int32) (x4 : Int32) (h : zH) : zL p_X11_reigns 56 [some (.inr (.inr (11, 0))), o1, some (.inl x2), some (.inl x3), some (.inl x4)] [] h = zf (x4 < x2) (zcv (f_X11_drawDeed [(.inr (.inr (11, 0)))] h) (fun h7 => zci (f_X8_attempt [(.inr (.inr (8, 21))), (.inl 5), (.inl zm1), (.inl zm1)] h7) (fun r9 h8 => zL p_X11_reigns 56 [some (.inr (.inr (11, 0))), none, some (.inl x2), some (.inl x3), some (.inl (x4 + 1))] [] h8))) (zf (x3 = 0) (some (some (.inl (h.1 8 21 5)), h)) (zf (x3 = 1) (zci (f_X8_pairsInEarnest [(.inr (.inr (8, 21)))] h) (fun r6 h5 => some (some (.inl r6), h5))) (zci (f_X0_cakeBits [(.inr (.inr (0, 0)))] h) (fun r2 h1 => zci (f_X8_thickOf [(.inr (.inr (8, 21))), (.inl r2)] h1) (fun r4 h3 => some (some (.inl r4), h3)))))) := (zL_s (t_X11_reigns) [0, 56] 1000 56 _ _ _).trans rfl
theorem zMV_11_285 : zMV "SoapTreaty" 285 4 y_X4_copyFrom prog_6_method_3_code 2 none 1 := ⟨⟨zT_of 1088 (by decide +kernel) (by decide +kernel), zT_of 1089 (by decide +kernel) (by decide +kernel), zT_of 1090 (by decide +kernel) (by decide +kernel), zT_of 114 (by decide +kernel) (by decide +kernel), zT_of 1091 (by decide +kernel) (by decide +kernel)⟩, by decide, rfl, ⟨zT4, 3, rfl⟩, by decide, by decide, by decide +kernel⟩
/-! SoapTreaty.mark(IZ)Z -/
def y_X11_mark : MethodName := ⟨"SoapTreaty", "mark", "(IZ)Z"⟩
noncomputable def p_X11_mark_0 : List (Nat × zO) := [(0, zo_iload 1 1),
  (1, zo_0lt 9 4),
  (4, zo_iload 1 5),
  (5, zo_push (.inl 4) 6),
  (6, zo_clt 11 9),
  (9, zo_push (.inl 0) 10),
  (10, zo_zretc),
  (11, zo_iload 2 12),
  (12, zo_0ne 42 15),
  (15, zo_aload 0 16),
  (16, zo_getR 11 36 none 19),
  (19, zo_iload 1 20),
  (20, zo_aald5 21),
  (21, zo_aload 0 22),
  (22, zo_getR 11 4 (some 0) 25),
  (25, zo_vir 4 2 (zo_callv (f_X4_copyFrom) 2 28)),
  (28, zo_aload 0 29),
  (29, zo_dup 30),
  (30, zo_getI 11 8 33),
  (33, zo_push (.inl 1) 34)]
noncomputable def p_X11_mark_1 : List (Nat × zO) := [(34, zo_iload 1 35),
  (35, zo_ii (fun x y => x <<< (y &&& 31)) 36),
  (36, zo_ii (fun x y => x ||| y) 37),
  (37, zo_putI 11 8 40),
  (40, zo_push (.inl 1) 41),
  (41, zo_zretc),
  (42, zo_aload 0 43),
  (43, zo_getI 11 8 46),
  (46, zo_iload 1 47),
  (47, zo_ii (fun x y => x >>> (y &&& 31)) 48),
  (48, zo_push (.inl 1) 49),
  (49, zo_ii (fun x y => x &&& y) 50),
  (50, zo_0ne 55 53),
  (53, zo_push (.inl 0) 54),
  (54, zo_zretc),
  (55, zo_aload 0 56),
  (56, zo_getR 11 4 (some 0) 59),
  (59, zo_aload 0 60),
  (60, zo_getR 11 36 none 63),
  (63, zo_iload 1 64)]
noncomputable def p_X11_mark_2 : List (Nat × zO) := [(64, zo_aald5 65),
  (65, zo_vir 4 2 (zo_callv (f_X4_copyFrom) 2 68)),
  (68, zo_aload 0 69),
  (69, zo_getR 11 5 none 72),
  (72, zo_push (.inl 0) 73),
  (73, zo_putI 5 2 76),
  (76, zo_push (.inl 1) 77),
  (77, zo_zretc)]
noncomputable def p_X11_mark : Nat → zO := zgs [(34, p_X11_mark_0), (64, p_X11_mark_1), (78, p_X11_mark_2)]
theorem t_X11_mark : ∀ k, zTl (p_X11_mark k) := fun k => zgs_all (c := [(34, p_X11_mark_0), (64, p_X11_mark_1), (78, p_X11_mark_2)]) (fun _ => zl_bad) ⟨⟨zl_iload, zl_0lt, zl_iload, zl_push, zl_clt, zl_push, zl_zretc, zl_iload, zl_0ne, zl_aload, zl_getR, zl_iload, zl_aald5, zl_aload, zl_getR, (zl_vir zl_callv), zl_aload, zl_dup, zl_getI, zl_push, trivial⟩, ⟨zl_iload, zl_ii, zl_ii, zl_putI, zl_push, zl_zretc, zl_aload, zl_getI, zl_iload, zl_ii, zl_push, zl_ii, zl_0ne, zl_push, zl_zretc, zl_aload, zl_getR, zl_aload, zl_getR, zl_iload, trivial⟩, ⟨zl_aald5, (zl_vir zl_callv), zl_aload, zl_getR, zl_push, zl_putI, zl_push, zl_zretc, trivial⟩, trivial⟩ k
noncomputable def f_X11_mark : zS := zrun p_X11_mark 3
set_option maxRecDepth 20000 in
theorem s_X11_mark_0 {l : Launch} {D : va_G} {ad : Nat → Nat → Nat} {cy : Nat → ClassId} {L : List (Nat × Nat)} (hcl : zclo L = true) (hinj : zAd ad L) {X : zCtx} (hX : zXok X "SoapTreaty" prog_1_method_32_code 3) (hR : zRt X (some .boolean)) (hl : zXl X l D ad cy L (zroom 3)) : zAllR (zSo X) p_X11_mark_0 := ⟨zs_iload_n (i := 1) rfl hX (by decide +kernel : decode prog_1_method_32_code 0 = .ok (.iload_n 1, 1)) rfl (by decide),
  zs_0lt hX (by decide +kernel : decode prog_1_method_32_code 1 = .ok (.ifCond .lt 8, 3)) (by decide) rfl,
  zs_iload_n (i := 1) rfl hX (by decide +kernel : decode prog_1_method_32_code 4 = .ok (.iload_n 1, 1)) rfl (by decide),
  zs_pushI (zg_iconst (by decide) hX (by decide +kernel : decode prog_1_method_32_code 5 = .ok (.iconst 4, 1)) rfl),
  zs_clt hX (by decide +kernel : decode prog_1_method_32_code 6 = .ok (.if_icmp .lt 5, 3)) (by decide) rfl,
  zs_pushI (zg_iconst (by decide) hX (by decide +kernel : decode prog_1_method_32_code 9 = .ok (.iconst 0, 1)) rfl),
  zs_zretc hX hR (by decide +kernel : decode prog_1_method_32_code 10 = .ok (.ireturn, 1)),
  zs_iload_n (i := 2) rfl hX (by decide +kernel : decode prog_1_method_32_code 11 = .ok (.iload_n 2, 1)) rfl (by decide),
  zs_0ne hX (by decide +kernel : decode prog_1_method_32_code 12 = .ok (.ifCond .ne 30, 3)) (by decide) rfl,
  zs_aload_n (i := 0) rfl hX (by decide +kernel : decode prog_1_method_32_code 15 = .ok (.aload_n 0, 1)) rfl (by decide),
  zs_getR hX zFL_11_41 (by decide +kernel : decode prog_1_method_32_code 16 = .ok (.getfield 41, 3)) rfl,
  zs_iload_n (i := 1) rfl hX (by decide +kernel : decode prog_1_method_32_code 19 = .ok (.iload_n 1, 1)) rfl (by decide),
  zs_aald5 hX zlen_5 (by decide +kernel : decode prog_1_method_32_code 20 = .ok (.aaload, 1)) rfl,
  zs_aload_n (i := 0) rfl hX (by decide +kernel : decode prog_1_method_32_code 21 = .ok (.aload_n 0, 1)) rfl (by decide),
  zs_getR hX zFL_11_37 (by decide +kernel : decode prog_1_method_32_code 22 = .ok (.getfield 37, 3)) rfl,
  zs_callVv hX zMV_11_285 (zXc_of hl (by decide) (k_X4_copyFrom hcl hinj)) (by decide +kernel : decode prog_1_method_32_code 25 = .ok (.invokevirtual 285, 3)) rfl,
  zs_aload_n (i := 0) rfl hX (by decide +kernel : decode prog_1_method_32_code 28 = .ok (.aload_n 0, 1)) rfl (by decide),
  zs_dup hX (by decide +kernel : decode prog_1_method_32_code 29 = .ok (.dup, 1)) rfl,
  zs_getI hX zFL_11_65 (by decide) (by decide) (by decide +kernel : decode prog_1_method_32_code 30 = .ok (.getfield 65, 3)) rfl,
  zs_pushI (zg_iconst (by decide) hX (by decide +kernel : decode prog_1_method_32_code 33 = .ok (.iconst 1, 1)) rfl), trivial⟩
set_option maxRecDepth 20000 in
theorem s_X11_mark_1 {l : Launch} {D : va_G} {ad : Nat → Nat → Nat} {cy : Nat → ClassId} {L : List (Nat × Nat)} (hcl : zclo L = true) (hinj : zAd ad L) {X : zCtx} (hX : zXok X "SoapTreaty" prog_1_method_32_code 3) (hR : zRt X (some .boolean)) (hl : zXl X l D ad cy L (zroom 3)) : zAllR (zSo X) p_X11_mark_1 := ⟨zs_iload_n (i := 1) rfl hX (by decide +kernel : decode prog_1_method_32_code 34 = .ok (.iload_n 1, 1)) rfl (by decide),
  zs_ii (zg_ishl hX (by decide +kernel : decode prog_1_method_32_code 35 = .ok (.ishl, 1)) rfl),
  zs_ii (zg_ior hX (by decide +kernel : decode prog_1_method_32_code 36 = .ok (.ior, 1)) rfl),
  zs_putI hX zFP_11_65 (by decide +kernel : decode prog_1_method_32_code 37 = .ok (.putfield 65, 3)) rfl,
  zs_pushI (zg_iconst (by decide) hX (by decide +kernel : decode prog_1_method_32_code 40 = .ok (.iconst 1, 1)) rfl),
  zs_zretc hX hR (by decide +kernel : decode prog_1_method_32_code 41 = .ok (.ireturn, 1)),
  zs_aload_n (i := 0) rfl hX (by decide +kernel : decode prog_1_method_32_code 42 = .ok (.aload_n 0, 1)) rfl (by decide),
  zs_getI hX zFL_11_65 (by decide) (by decide) (by decide +kernel : decode prog_1_method_32_code 43 = .ok (.getfield 65, 3)) rfl,
  zs_iload_n (i := 1) rfl hX (by decide +kernel : decode prog_1_method_32_code 46 = .ok (.iload_n 1, 1)) rfl (by decide),
  zs_ii (zg_ishr hX (by decide +kernel : decode prog_1_method_32_code 47 = .ok (.ishr, 1)) rfl),
  zs_pushI (zg_iconst (by decide) hX (by decide +kernel : decode prog_1_method_32_code 48 = .ok (.iconst 1, 1)) rfl),
  zs_ii (zg_iand hX (by decide +kernel : decode prog_1_method_32_code 49 = .ok (.iand, 1)) rfl),
  zs_0ne hX (by decide +kernel : decode prog_1_method_32_code 50 = .ok (.ifCond .ne 5, 3)) (by decide) rfl,
  zs_pushI (zg_iconst (by decide) hX (by decide +kernel : decode prog_1_method_32_code 53 = .ok (.iconst 0, 1)) rfl),
  zs_zretc hX hR (by decide +kernel : decode prog_1_method_32_code 54 = .ok (.ireturn, 1)),
  zs_aload_n (i := 0) rfl hX (by decide +kernel : decode prog_1_method_32_code 55 = .ok (.aload_n 0, 1)) rfl (by decide),
  zs_getR hX zFL_11_37 (by decide +kernel : decode prog_1_method_32_code 56 = .ok (.getfield 37, 3)) rfl,
  zs_aload_n (i := 0) rfl hX (by decide +kernel : decode prog_1_method_32_code 59 = .ok (.aload_n 0, 1)) rfl (by decide),
  zs_getR hX zFL_11_41 (by decide +kernel : decode prog_1_method_32_code 60 = .ok (.getfield 41, 3)) rfl,
  zs_iload_n (i := 1) rfl hX (by decide +kernel : decode prog_1_method_32_code 63 = .ok (.iload_n 1, 1)) rfl (by decide), trivial⟩
set_option maxRecDepth 20000 in
theorem s_X11_mark_2 {l : Launch} {D : va_G} {ad : Nat → Nat → Nat} {cy : Nat → ClassId} {L : List (Nat × Nat)} (hcl : zclo L = true) (hinj : zAd ad L) {X : zCtx} (hX : zXok X "SoapTreaty" prog_1_method_32_code 3) (hR : zRt X (some .boolean)) (hl : zXl X l D ad cy L (zroom 3)) : zAllR (zSo X) p_X11_mark_2 := ⟨zs_aald5 hX zlen_5 (by decide +kernel : decode prog_1_method_32_code 64 = .ok (.aaload, 1)) rfl,
  zs_callVv hX zMV_11_285 (zXc_of hl (by decide) (k_X4_copyFrom hcl hinj)) (by decide +kernel : decode prog_1_method_32_code 65 = .ok (.invokevirtual 285, 3)) rfl,
  zs_aload_n (i := 0) rfl hX (by decide +kernel : decode prog_1_method_32_code 68 = .ok (.aload_n 0, 1)) rfl (by decide),
  zs_getR hX zFL_11_48 (by decide +kernel : decode prog_1_method_32_code 69 = .ok (.getfield 48, 3)) rfl,
  zs_pushI (zg_iconst (by decide) hX (by decide +kernel : decode prog_1_method_32_code 72 = .ok (.iconst 0, 1)) rfl),
  zs_putI hX zFP_11_93 (by decide +kernel : decode prog_1_method_32_code 73 = .ok (.putfield 93, 3)) rfl,
  zs_pushI (zg_iconst (by decide) hX (by decide +kernel : decode prog_1_method_32_code 76 = .ok (.iconst 1, 1)) rfl),
  zs_zretc hX hR (by decide +kernel : decode prog_1_method_32_code 77 = .ok (.ireturn, 1)), trivial⟩
theorem k_X11_mark {l : Launch} {D : va_G} {ad : Nat → Nat → Nat} {cy : Nat → ClassId} {L : List (Nat × Nat)} (hcl : zclo L = true) (hinj : zAd ad L) : zCk l D ad cy L 3 f_X11_mark y_X11_mark (.code y_X11_mark prog_1_method_32_code 3 (some .boolean)) :=
  z_met (by decide) t_X11_mark hcl hinj (fun X hX hR hl k => zgs_all (Q := zSo X) (c := [(34, p_X11_mark_0), (64, p_X11_mark_1), (78, p_X11_mark_2)]) (fun _ => zs_bad) ⟨s_X11_mark_0 hcl hinj hX hR hl, s_X11_mark_1 hcl hinj hX hR hl, s_X11_mark_2 hcl hinj hX hR hl, trivial⟩ k)
set_option maxRecDepth 1000000 in
theorem e_X11_mark_0 (x1 : Int32) (x2 : Int32) (h : zH) : zL p_X11_mark 0 [some (.inr (.inr (11, 0))), some (.inl x1), some (.inl x2)] [] h = zf (x1 < 0) (some (some (.inl 0), h)) (zf (x1 < 4) (zf (x2 = 0) (zf (vp_in x1 4) (zcv (f_X4_copyFrom [(.inr (.inr (4, (1 + x1.toNatClampNeg)))), (.inr (.inr (4, 0)))] h) (fun h2 => some (some (.inl 1), (zuI h2 11 0 8 ((h2.1 11 0 8) ||| ((1 : Int32) <<< (x1 &&& 31))))))) none) (zf ((((h.1 11 0 8) >>> (x1 &&& 31)) &&& (1 : Int32)) = 0) (some (some (.inl 0), h)) (zf (vp_in x1 4) (zcv (f_X4_copyFrom [(.inr (.inr (4, 0))), (.inr (.inr (4, (1 + x1.toNatClampNeg))))] h) (fun h1 => some (some (.inl 1), (zuI h1 5 0 2 0)))) none))) (some (some (.inl 0), h))) := (zL_s (t_X11_mark) [0] 1000 0 _ _ _).trans rfl
theorem g_X11_mark (x1 : Int32) (x2 : Int32) (h : zH) : f_X11_mark [(.inr (.inr (11, 0))), (.inl x1), (.inl x2)] h = zf (x1 < 0) (some (some (.inl 0), h)) (zf (x1 < 4) (zf (x2 = 0) (zf (vp_in x1 4) (zcv (f_X4_copyFrom [(.inr (.inr (4, (1 + x1.toNatClampNeg)))), (.inr (.inr (4, 0)))] h) (fun h2 => some (some (.inl 1), (zuI h2 11 0 8 ((h2.1 11 0 8) ||| ((1 : Int32) <<< (x1 &&& 31))))))) none) (zf ((((h.1 11 0 8) >>> (x1 &&& 31)) &&& (1 : Int32)) = 0) (some (some (.inl 0), h)) (zf (vp_in x1 4) (zcv (f_X4_copyFrom [(.inr (.inr (4, 0))), (.inr (.inr (4, (1 + x1.toNatClampNeg))))] h) (fun h1 => some (some (.inl 1), (zuI h1 5 0 2 0)))) none))) (some (some (.inl 0), h))) := (show f_X11_mark _ h = zL p_X11_mark 0 _ [] h from rfl).trans (e_X11_mark_0 x1 x2 h)
theorem zMV_11_294 : zMV "SoapTreaty" 294 8 y_X8_pairsAtWar prog_10_method_29_code 1 (some .int) 0 := ⟨⟨zT_of 1103 (by decide +kernel) (by decide +kernel), zT_of 1104 (by decide +kernel) (by decide +kernel), zT_of 1105 (by decide +kernel) (by decide +kernel), zT_of 115 (by decide +kernel) (by decide +kernel), zT_of 1106 (by decide +kernel) (by decide +kernel)⟩, by decide, rfl, ⟨zT8, 7, rfl⟩, by decide, by decide, by decide +kernel⟩
/-! SoapTreaty.count(I)I -/
def y_X11_count : MethodName := ⟨"SoapTreaty", "count", "(I)I"⟩
noncomputable def p_X11_count_0 : List (Nat × zO) := [(0, zo_aload 0 1),
  (1, zo_getR 11 4 (some 0) 4),
  (4, zo_getR 4 8 none 7),
  (7, zo_astore 2 8),
  (8, zo_iload 1 9),
  (9, zo_tsw [(0, 76), (1, 84), (2, 92), (3, 100), (4, 105), (5, 110), (6, 122), (7, 127), (8, 132), (9, 137), (10, 148), (11, 159), (12, 167)] 175),
  (76, zo_aload 0 77),
  (77, zo_getR 11 0 (some 0) 80),
  (80, zo_getI 0 0 83),
  (83, zo_iret),
  (84, zo_aload 0 85),
  (85, zo_getR 11 0 (some 0) 88),
  (88, zo_getI 0 4 91),
  (91, zo_iret),
  (92, zo_aload 0 93),
  (93, zo_getR 11 0 (some 0) 96),
  (96, zo_getI 0 11 99),
  (99, zo_iret),
  (100, zo_aload 2 101),
  (101, zo_getI 8 6 104)]
noncomputable def p_X11_count_1 : List (Nat × zO) := [(104, zo_iret),
  (105, zo_aload 2 106),
  (106, zo_getI 8 5 109),
  (109, zo_iret),
  (110, zo_aload 2 111),
  (111, zo_aload 0 112),
  (112, zo_getR 11 0 (some 0) 115),
  (115, zo_vir 0 1 (zo_calli (f_X0_cakeBits) 1 118)),
  (118, zo_vir 8 2 (zo_calli (f_X8_thickOf) 2 121)),
  (121, zo_iret),
  (122, zo_aload 2 123),
  (123, zo_vir 8 1 (zo_calli (f_X8_thereBits) 1 126)),
  (126, zo_iret),
  (127, zo_aload 2 128),
  (128, zo_vir 8 1 (zo_calli (f_X8_pairsAtWar) 1 131)),
  (131, zo_iret),
  (132, zo_aload 2 133),
  (133, zo_vir 8 1 (zo_calli (f_X8_pairsInEarnest) 1 136)),
  (136, zo_iret),
  (137, zo_aload 0 138)]
noncomputable def p_X11_count_2 : List (Nat × zO) := [(138, zo_getR 11 4 (some 0) 141),
  (141, zo_getR 4 3 none 144),
  (144, zo_getI 3 0 147),
  (147, zo_iret),
  (148, zo_aload 0 149),
  (149, zo_getR 11 4 (some 0) 152),
  (152, zo_getR 4 7 none 155),
  (155, zo_getI 7 0 158),
  (158, zo_iret),
  (159, zo_aload 0 160),
  (160, zo_getR 11 5 none 163),
  (163, zo_getI 5 2 166),
  (166, zo_iret),
  (167, zo_aload 0 168),
  (168, zo_getR 11 9 none 171),
  (171, zo_getI 9 1 174),
  (174, zo_iret),
  (175, zo_push (.inl zm1) 176),
  (176, zo_iret)]
noncomputable def p_X11_count : Nat → zO := zgs [(102, p_X11_count_0), (138, p_X11_count_1), (177, p_X11_count_2)]
theorem t_X11_count : ∀ k, zTl (p_X11_count k) := fun k => zgs_all (c := [(102, p_X11_count_0), (138, p_X11_count_1), (177, p_X11_count_2)]) (fun _ => zl_bad) ⟨⟨zl_aload, zl_getR, zl_getR, zl_astore, zl_iload, zl_tsw, zl_aload, zl_getR, zl_getI, zl_iret, zl_aload, zl_getR, zl_getI, zl_iret, zl_aload, zl_getR, zl_getI, zl_iret, zl_aload, zl_getI, trivial⟩, ⟨zl_iret, zl_aload, zl_getI, zl_iret, zl_aload, zl_aload, zl_getR, (zl_vir zl_calli), (zl_vir zl_calli), zl_iret, zl_aload, (zl_vir zl_calli), zl_iret, zl_aload, (zl_vir zl_calli), zl_iret, zl_aload, (zl_vir zl_calli), zl_iret, zl_aload, trivial⟩, ⟨zl_getR, zl_getR, zl_getI, zl_iret, zl_aload, zl_getR, zl_getR, zl_getI, zl_iret, zl_aload, zl_getR, zl_getI, zl_iret, zl_aload, zl_getR, zl_getI, zl_iret, zl_push, zl_iret, trivial⟩, trivial⟩ k
noncomputable def f_X11_count : zS := zrun p_X11_count 3
set_option maxRecDepth 20000 in
theorem s_X11_count_0 {l : Launch} {D : va_G} {ad : Nat → Nat → Nat} {cy : Nat → ClassId} {L : List (Nat × Nat)} (hcl : zclo L = true) (hinj : zAd ad L) {X : zCtx} (hX : zXok X "SoapTreaty" prog_1_method_33_code 3) (hR : zRt X (some .int)) (hl : zXl X l D ad cy L (zroom 6)) : zAllR (zSo X) p_X11_count_0 := ⟨zs_aload_n (i := 0) rfl hX (by decide +kernel : decode prog_1_method_33_code 0 = .ok (.aload_n 0, 1)) rfl (by decide),
  zs_getR hX zFL_11_37 (by decide +kernel : decode prog_1_method_33_code 1 = .ok (.getfield 37, 3)) rfl,
  zs_getR hX zFL_11_115 (by decide +kernel : decode prog_1_method_33_code 4 = .ok (.getfield 115, 3)) rfl,
  zs_astore_n (i := 2) rfl hX (by decide +kernel : decode prog_1_method_33_code 7 = .ok (.astore_n 2, 1)) rfl (by decide),
  zs_iload_n (i := 1) rfl hX (by decide +kernel : decode prog_1_method_33_code 8 = .ok (.iload_n 1, 1)) rfl (by decide),
  zs_tsw hX (by decide +kernel : decode prog_1_method_33_code 9 = .ok (.tableswitch 166 0 12 #[67, 75, 83, 91, 96, 101, 113, 118, 123, 128, 139, 150, 158], 67)) (by decide) (by decide) (by decide) (by decide),
  zs_aload_n (i := 0) rfl hX (by decide +kernel : decode prog_1_method_33_code 76 = .ok (.aload_n 0, 1)) rfl (by decide),
  zs_getR hX zFL_11_19 (by decide +kernel : decode prog_1_method_33_code 77 = .ok (.getfield 19, 3)) rfl,
  zs_getI hX zFL_11_220 (by decide) (by decide) (by decide +kernel : decode prog_1_method_33_code 80 = .ok (.getfield 220, 3)) rfl,
  zs_iret hX hR (by decide +kernel : decode prog_1_method_33_code 83 = .ok (.ireturn, 1)),
  zs_aload_n (i := 0) rfl hX (by decide +kernel : decode prog_1_method_33_code 84 = .ok (.aload_n 0, 1)) rfl (by decide),
  zs_getR hX zFL_11_19 (by decide +kernel : decode prog_1_method_33_code 85 = .ok (.getfield 19, 3)) rfl,
  zs_getI hX zFL_11_214 (by decide) (by decide) (by decide +kernel : decode prog_1_method_33_code 88 = .ok (.getfield 214, 3)) rfl,
  zs_iret hX hR (by decide +kernel : decode prog_1_method_33_code 91 = .ok (.ireturn, 1)),
  zs_aload_n (i := 0) rfl hX (by decide +kernel : decode prog_1_method_33_code 92 = .ok (.aload_n 0, 1)) rfl (by decide),
  zs_getR hX zFL_11_19 (by decide +kernel : decode prog_1_method_33_code 93 = .ok (.getfield 19, 3)) rfl,
  zs_getI hX zFL_11_288 (by decide) (by decide) (by decide +kernel : decode prog_1_method_33_code 96 = .ok (.getfield 288, 3)) rfl,
  zs_iret hX hR (by decide +kernel : decode prog_1_method_33_code 99 = .ok (.ireturn, 1)),
  zs_aload_n (i := 2) rfl hX (by decide +kernel : decode prog_1_method_33_code 100 = .ok (.aload_n 2, 1)) rfl (by decide),
  zs_getI hX zFL_11_291 (by decide) (by decide) (by decide +kernel : decode prog_1_method_33_code 101 = .ok (.getfield 291, 3)) rfl, trivial⟩
set_option maxRecDepth 20000 in
theorem s_X11_count_1 {l : Launch} {D : va_G} {ad : Nat → Nat → Nat} {cy : Nat → ClassId} {L : List (Nat × Nat)} (hcl : zclo L = true) (hinj : zAd ad L) {X : zCtx} (hX : zXok X "SoapTreaty" prog_1_method_33_code 3) (hR : zRt X (some .int)) (hl : zXl X l D ad cy L (zroom 6)) : zAllR (zSo X) p_X11_count_1 := ⟨zs_iret hX hR (by decide +kernel : decode prog_1_method_33_code 104 = .ok (.ireturn, 1)),
  zs_aload_n (i := 2) rfl hX (by decide +kernel : decode prog_1_method_33_code 105 = .ok (.aload_n 2, 1)) rfl (by decide),
  zs_getI hX zFL_11_173 (by decide) (by decide) (by decide +kernel : decode prog_1_method_33_code 106 = .ok (.getfield 173, 3)) rfl,
  zs_iret hX hR (by decide +kernel : decode prog_1_method_33_code 109 = .ok (.ireturn, 1)),
  zs_aload_n (i := 2) rfl hX (by decide +kernel : decode prog_1_method_33_code 110 = .ok (.aload_n 2, 1)) rfl (by decide),
  zs_aload_n (i := 0) rfl hX (by decide +kernel : decode prog_1_method_33_code 111 = .ok (.aload_n 0, 1)) rfl (by decide),
  zs_getR hX zFL_11_19 (by decide +kernel : decode prog_1_method_33_code 112 = .ok (.getfield 19, 3)) rfl,
  zs_callVi hX zMV_11_282 (zXc_of hl (by decide) (k_X0_cakeBits hcl hinj)) (by decide +kernel : decode prog_1_method_33_code 115 = .ok (.invokevirtual 282, 3)) rfl,
  zs_callVi hX zMV_11_226 (zXc_of hl (by decide) (k_X8_thickOf hcl hinj)) (by decide +kernel : decode prog_1_method_33_code 118 = .ok (.invokevirtual 226, 3)) rfl,
  zs_iret hX hR (by decide +kernel : decode prog_1_method_33_code 121 = .ok (.ireturn, 1)),
  zs_aload_n (i := 2) rfl hX (by decide +kernel : decode prog_1_method_33_code 122 = .ok (.aload_n 2, 1)) rfl (by decide),
  zs_callVi hX zMV_11_176 (zXc_of hl (by decide) (k_X8_thereBits hcl hinj)) (by decide +kernel : decode prog_1_method_33_code 123 = .ok (.invokevirtual 176, 3)) rfl,
  zs_iret hX hR (by decide +kernel : decode prog_1_method_33_code 126 = .ok (.ireturn, 1)),
  zs_aload_n (i := 2) rfl hX (by decide +kernel : decode prog_1_method_33_code 127 = .ok (.aload_n 2, 1)) rfl (by decide),
  zs_callVi hX zMV_11_294 (zXc_of hl (by decide) (k_X8_pairsAtWar hcl hinj)) (by decide +kernel : decode prog_1_method_33_code 128 = .ok (.invokevirtual 294, 3)) rfl,
  zs_iret hX hR (by decide +kernel : decode prog_1_method_33_code 131 = .ok (.ireturn, 1)),
  zs_aload_n (i := 2) rfl hX (by decide +kernel : decode prog_1_method_33_code 132 = .ok (.aload_n 2, 1)) rfl (by decide),
  zs_callVi hX zMV_11_279 (zXc_of hl (by decide) (k_X8_pairsInEarnest hcl hinj)) (by decide +kernel : decode prog_1_method_33_code 133 = .ok (.invokevirtual 279, 3)) rfl,
  zs_iret hX hR (by decide +kernel : decode prog_1_method_33_code 136 = .ok (.ireturn, 1)),
  zs_aload_n (i := 0) rfl hX (by decide +kernel : decode prog_1_method_33_code 137 = .ok (.aload_n 0, 1)) rfl (by decide), trivial⟩
set_option maxRecDepth 20000 in
theorem s_X11_count_2 {l : Launch} {D : va_G} {ad : Nat → Nat → Nat} {cy : Nat → ClassId} {L : List (Nat × Nat)} (hcl : zclo L = true) (hinj : zAd ad L) {X : zCtx} (hX : zXok X "SoapTreaty" prog_1_method_33_code 3) (hR : zRt X (some .int)) (hl : zXl X l D ad cy L (zroom 6)) : zAllR (zSo X) p_X11_count_2 := ⟨zs_getR hX zFL_11_37 (by decide +kernel : decode prog_1_method_33_code 138 = .ok (.getfield 37, 3)) rfl,
  zs_getR hX zFL_11_99 (by decide +kernel : decode prog_1_method_33_code 141 = .ok (.getfield 99, 3)) rfl,
  zs_getI hX zFL_11_184 (by decide) (by decide) (by decide +kernel : decode prog_1_method_33_code 144 = .ok (.getfield 184, 3)) rfl,
  zs_iret hX hR (by decide +kernel : decode prog_1_method_33_code 147 = .ok (.ireturn, 1)),
  zs_aload_n (i := 0) rfl hX (by decide +kernel : decode prog_1_method_33_code 148 = .ok (.aload_n 0, 1)) rfl (by decide),
  zs_getR hX zFL_11_37 (by decide +kernel : decode prog_1_method_33_code 149 = .ok (.getfield 37, 3)) rfl,
  zs_getR hX zFL_11_238 (by decide +kernel : decode prog_1_method_33_code 152 = .ok (.getfield 238, 3)) rfl,
  zs_getI hX zFL_11_297 (by decide) (by decide) (by decide +kernel : decode prog_1_method_33_code 155 = .ok (.getfield 297, 3)) rfl,
  zs_iret hX hR (by decide +kernel : decode prog_1_method_33_code 158 = .ok (.ireturn, 1)),
  zs_aload_n (i := 0) rfl hX (by decide +kernel : decode prog_1_method_33_code 159 = .ok (.aload_n 0, 1)) rfl (by decide),
  zs_getR hX zFL_11_48 (by decide +kernel : decode prog_1_method_33_code 160 = .ok (.getfield 48, 3)) rfl,
  zs_getI hX zFL_11_93 (by decide) (by decide) (by decide +kernel : decode prog_1_method_33_code 163 = .ok (.getfield 93, 3)) rfl,
  zs_iret hX hR (by decide +kernel : decode prog_1_method_33_code 166 = .ok (.ireturn, 1)),
  zs_aload_n (i := 0) rfl hX (by decide +kernel : decode prog_1_method_33_code 167 = .ok (.aload_n 0, 1)) rfl (by decide),
  zs_getR hX zFL_11_10 (by decide +kernel : decode prog_1_method_33_code 168 = .ok (.getfield 10, 3)) rfl,
  zs_getI hX zFL_11_77 (by decide) (by decide) (by decide +kernel : decode prog_1_method_33_code 171 = .ok (.getfield 77, 3)) rfl,
  zs_iret hX hR (by decide +kernel : decode prog_1_method_33_code 174 = .ok (.ireturn, 1)),
  zs_pushI (zg_iconst (by decide) hX (by decide +kernel : decode prog_1_method_33_code 175 = .ok (.iconst (-1), 1)) rfl),
  zs_iret hX hR (by decide +kernel : decode prog_1_method_33_code 176 = .ok (.ireturn, 1)), trivial⟩
theorem k_X11_count {l : Launch} {D : va_G} {ad : Nat → Nat → Nat} {cy : Nat → ClassId} {L : List (Nat × Nat)} (hcl : zclo L = true) (hinj : zAd ad L) : zCk l D ad cy L 6 f_X11_count y_X11_count (.code y_X11_count prog_1_method_33_code 3 (some .int)) :=
  z_met (by decide) t_X11_count hcl hinj (fun X hX hR hl k => zgs_all (Q := zSo X) (c := [(102, p_X11_count_0), (138, p_X11_count_1), (177, p_X11_count_2)]) (fun _ => zs_bad) ⟨s_X11_count_0 hcl hinj hX hR hl, s_X11_count_1 hcl hinj hX hR hl, s_X11_count_2 hcl hinj hX hR hl, trivial⟩ k)
set_option maxRecDepth 1000000 in
theorem e_X11_count_0 (x1 : Int32) (h : zH) : zL p_X11_count 0 [some (.inr (.inr (11, 0))), some (.inl x1), none] [] h = zf (x1 = 0) (some (some (.inl (h.1 0 0 0)), h)) (zf (x1 = 1) (some (some (.inl (h.1 0 0 4)), h)) (zf (x1 = 2) (some (some (.inl (h.1 0 0 11)), h)) (zf (x1 = 3) (some (some (.inl (h.1 8 0 6)), h)) (zf (x1 = 4) (some (some (.inl (h.1 8 0 5)), h)) (zf (x1 = 5) (zci (f_X0_cakeBits [(.inr (.inr (0, 0)))] h) (fun r8 h7 => zci (f_X8_thickOf [(.inr (.inr (8, 0))), (.inl r8)] h7) (fun r10 h9 => some (some (.inl r10), h9)))) (zf (x1 = 6) (zci (f_X8_thereBits [(.inr (.inr (8, 0)))] h) (fun r6 h5 => some (some (.inl r6), h5))) (zf (x1 = 7) (zci (f_X8_pairsAtWar [(.inr (.inr (8, 0)))] h) (fun r4 h3 => some (some (.inl r4), h3))) (zf (x1 = 8) (zci (f_X8_pairsInEarnest [(.inr (.inr (8, 0)))] h) (fun r2 h1 => some (some (.inl r2), h1))) (zf (x1 = 9) (some (some (.inl (h.1 3 0 0)), h)) (zf (x1 = 10) (some (some (.inl (h.1 7 0 0)), h)) (zf (x1 = 11) (some (some (.inl (h.1 5 0 2)), h)) (zf (x1 = 12) (some (some (.inl (h.1 9 0 1)), h)) (some (some (.inl zm1), h)))))))))))))) := (zL_s (t_X11_count) [0] 1000 0 _ _ _).trans rfl
theorem g_X11_count (x1 : Int32) (h : zH) : f_X11_count [(.inr (.inr (11, 0))), (.inl x1)] h = zf (x1 = 0) (some (some (.inl (h.1 0 0 0)), h)) (zf (x1 = 1) (some (some (.inl (h.1 0 0 4)), h)) (zf (x1 = 2) (some (some (.inl (h.1 0 0 11)), h)) (zf (x1 = 3) (some (some (.inl (h.1 8 0 6)), h)) (zf (x1 = 4) (some (some (.inl (h.1 8 0 5)), h)) (zf (x1 = 5) (zci (f_X0_cakeBits [(.inr (.inr (0, 0)))] h) (fun r8 h7 => zci (f_X8_thickOf [(.inr (.inr (8, 0))), (.inl r8)] h7) (fun r10 h9 => some (some (.inl r10), h9)))) (zf (x1 = 6) (zci (f_X8_thereBits [(.inr (.inr (8, 0)))] h) (fun r6 h5 => some (some (.inl r6), h5))) (zf (x1 = 7) (zci (f_X8_pairsAtWar [(.inr (.inr (8, 0)))] h) (fun r4 h3 => some (some (.inl r4), h3))) (zf (x1 = 8) (zci (f_X8_pairsInEarnest [(.inr (.inr (8, 0)))] h) (fun r2 h1 => some (some (.inl r2), h1))) (zf (x1 = 9) (some (some (.inl (h.1 3 0 0)), h)) (zf (x1 = 10) (some (some (.inl (h.1 7 0 0)), h)) (zf (x1 = 11) (some (some (.inl (h.1 5 0 2)), h)) (zf (x1 = 12) (some (some (.inl (h.1 9 0 1)), h)) (some (some (.inl zm1), h)))))))))))))) := (show f_X11_count _ h = zL p_X11_count 0 _ [] h from rfl).trans (e_X11_count_0 x1 h)
/-! SoapTreaty.isStake(I)Z -/
def y_X11_isStake : MethodName := ⟨"SoapTreaty", "isStake", "(I)Z"⟩
noncomputable def p_X11_isStake_0 : List (Nat × zO) := [(0, zo_iload 0 1),
  (1, zo_0lt 14 4),
  (4, zo_iload 0 5),
  (5, zo_push (.inl 9) 7),
  (7, zo_cgt 14 10),
  (10, zo_push (.inl 1) 11),
  (11, zo_goto 15),
  (14, zo_push (.inl 0) 15),
  (15, zo_zretc)]
noncomputable def p_X11_isStake : Nat → zO := zgs [(16, p_X11_isStake_0)]
theorem t_X11_isStake : ∀ k, zTl (p_X11_isStake k) := fun k => zgs_all (c := [(16, p_X11_isStake_0)]) (fun _ => zl_bad) ⟨⟨zl_iload, zl_0lt, zl_iload, zl_push, zl_cgt, zl_push, zl_goto, zl_push, zl_zretc, trivial⟩, trivial⟩ k
noncomputable def f_X11_isStake : zS := zrun p_X11_isStake 1
set_option maxRecDepth 20000 in
theorem s_X11_isStake_0 {l : Launch} {D : va_G} {ad : Nat → Nat → Nat} {cy : Nat → ClassId} {L : List (Nat × Nat)} (hcl : zclo L = true) (hinj : zAd ad L) {X : zCtx} (hX : zXok X "SoapTreaty" prog_1_method_42_code 1) (hR : zRt X (some .boolean)) (hl : zXl X l D ad cy L (zroom 1)) : zAllR (zSo X) p_X11_isStake_0 := ⟨zs_iload_n (i := 0) rfl hX (by decide +kernel : decode prog_1_method_42_code 0 = .ok (.iload_n 0, 1)) rfl (by decide),
  zs_0lt hX (by decide +kernel : decode prog_1_method_42_code 1 = .ok (.ifCond .lt 13, 3)) (by decide) rfl,
  zs_iload_n (i := 0) rfl hX (by decide +kernel : decode prog_1_method_42_code 4 = .ok (.iload_n 0, 1)) rfl (by decide),
  zs_pushI (zg_bipush (by decide) hX (by decide +kernel : decode prog_1_method_42_code 5 = .ok (.bipush 9, 2)) rfl),
  zs_cgt hX (by decide +kernel : decode prog_1_method_42_code 7 = .ok (.if_icmp .gt 7, 3)) (by decide) rfl,
  zs_pushI (zg_iconst (by decide) hX (by decide +kernel : decode prog_1_method_42_code 10 = .ok (.iconst 1, 1)) rfl),
  zs_goto hX (by decide +kernel : decode prog_1_method_42_code 11 = .ok (.goto 4, 3)) (by decide),
  zs_pushI (zg_iconst (by decide) hX (by decide +kernel : decode prog_1_method_42_code 14 = .ok (.iconst 0, 1)) rfl),
  zs_zretc hX hR (by decide +kernel : decode prog_1_method_42_code 15 = .ok (.ireturn, 1)), trivial⟩
theorem k_X11_isStake {l : Launch} {D : va_G} {ad : Nat → Nat → Nat} {cy : Nat → ClassId} {L : List (Nat × Nat)} (hcl : zclo L = true) (hinj : zAd ad L) : zCk l D ad cy L 1 f_X11_isStake y_X11_isStake (.code y_X11_isStake prog_1_method_42_code 1 (some .boolean)) :=
  z_met (by decide) t_X11_isStake hcl hinj (fun X hX hR hl k => zgs_all (Q := zSo X) (c := [(16, p_X11_isStake_0)]) (fun _ => zs_bad) ⟨s_X11_isStake_0 hcl hinj hX hR hl, trivial⟩ k)
set_option maxRecDepth 1000000 in
theorem e_X11_isStake_0 (x0 : Int32) (h : zH) : zL p_X11_isStake 0 [some (.inl x0)] [] h = zf (x0 < 0) (some (some (.inl 0), h)) (zf (9 < x0) (some (some (.inl 0), h)) (some (some (.inl 1), h))) := (zL_s (t_X11_isStake) [0] 1000 0 _ _ _).trans rfl
theorem g_X11_isStake (x0 : Int32) (h : zH) : f_X11_isStake [(.inl x0)] h = zf (x0 < 0) (some (some (.inl 0), h)) (zf (9 < x0) (some (some (.inl 0), h)) (some (some (.inl 1), h))) := (show f_X11_isStake _ h = zL p_X11_isStake 0 _ [] h from rfl).trans (e_X11_isStake_0 x0 h)
/-! SoapTreaty.gain(IIIII)I -/
def y_X11_gain : MethodName := ⟨"SoapTreaty", "gain", "(IIIII)I"⟩
noncomputable def p_X11_gain_0 : List (Nat × zO) := [(0, zo_iload 0 1),
  (1, zo_push (.inl 1) 2),
  (2, zo_cne 17 5),
  (5, zo_iload 1 6),
  (6, zo_push (.inl 1) 7),
  (7, zo_cne 14 10),
  (10, zo_iload 2 11),
  (11, zo_goto 16),
  (14, zo_iload 3 15),
  (15, zo_i (fun x => -x) 16),
  (16, zo_iret),
  (17, zo_iload 1 18),
  (18, zo_push (.inl 1) 19),
  (19, zo_cne 27 22),
  (22, zo_iload 4 24),
  (24, zo_goto 28),
  (27, zo_push (.inl 0) 28),
  (28, zo_iret)]
noncomputable def p_X11_gain : Nat → zO := zgs [(29, p_X11_gain_0)]
theorem t_X11_gain : ∀ k, zTl (p_X11_gain k) := fun k => zgs_all (c := [(29, p_X11_gain_0)]) (fun _ => zl_bad) ⟨⟨zl_iload, zl_push, zl_cne, zl_iload, zl_push, zl_cne, zl_iload, zl_goto, zl_iload, zl_i, zl_iret, zl_iload, zl_push, zl_cne, zl_iload, zl_goto, zl_push, zl_iret, trivial⟩, trivial⟩ k
noncomputable def f_X11_gain : zS := zrun p_X11_gain 5
set_option maxRecDepth 20000 in
theorem s_X11_gain_0 {l : Launch} {D : va_G} {ad : Nat → Nat → Nat} {cy : Nat → ClassId} {L : List (Nat × Nat)} (hcl : zclo L = true) (hinj : zAd ad L) {X : zCtx} (hX : zXok X "SoapTreaty" prog_1_method_44_code 5) (hR : zRt X (some .int)) (hl : zXl X l D ad cy L (zroom 1)) : zAllR (zSo X) p_X11_gain_0 := ⟨zs_iload_n (i := 0) rfl hX (by decide +kernel : decode prog_1_method_44_code 0 = .ok (.iload_n 0, 1)) rfl (by decide),
  zs_pushI (zg_iconst (by decide) hX (by decide +kernel : decode prog_1_method_44_code 1 = .ok (.iconst 1, 1)) rfl),
  zs_cne hX (by decide +kernel : decode prog_1_method_44_code 2 = .ok (.if_icmp .ne 15, 3)) (by decide) rfl,
  zs_iload_n (i := 1) rfl hX (by decide +kernel : decode prog_1_method_44_code 5 = .ok (.iload_n 1, 1)) rfl (by decide),
  zs_pushI (zg_iconst (by decide) hX (by decide +kernel : decode prog_1_method_44_code 6 = .ok (.iconst 1, 1)) rfl),
  zs_cne hX (by decide +kernel : decode prog_1_method_44_code 7 = .ok (.if_icmp .ne 7, 3)) (by decide) rfl,
  zs_iload_n (i := 2) rfl hX (by decide +kernel : decode prog_1_method_44_code 10 = .ok (.iload_n 2, 1)) rfl (by decide),
  zs_goto hX (by decide +kernel : decode prog_1_method_44_code 11 = .ok (.goto 5, 3)) (by decide),
  zs_iload_n (i := 3) rfl hX (by decide +kernel : decode prog_1_method_44_code 14 = .ok (.iload_n 3, 1)) rfl (by decide),
  zs_i (zg_ineg hX (by decide +kernel : decode prog_1_method_44_code 15 = .ok (.ineg, 1)) rfl),
  zs_iret hX hR (by decide +kernel : decode prog_1_method_44_code 16 = .ok (.ireturn, 1)),
  zs_iload_n (i := 1) rfl hX (by decide +kernel : decode prog_1_method_44_code 17 = .ok (.iload_n 1, 1)) rfl (by decide),
  zs_pushI (zg_iconst (by decide) hX (by decide +kernel : decode prog_1_method_44_code 18 = .ok (.iconst 1, 1)) rfl),
  zs_cne hX (by decide +kernel : decode prog_1_method_44_code 19 = .ok (.if_icmp .ne 8, 3)) (by decide) rfl,
  zs_iload hX (by decide +kernel : decode prog_1_method_44_code 22 = .ok (.iload 4, 2)) rfl (by decide),
  zs_goto hX (by decide +kernel : decode prog_1_method_44_code 24 = .ok (.goto 4, 3)) (by decide),
  zs_pushI (zg_iconst (by decide) hX (by decide +kernel : decode prog_1_method_44_code 27 = .ok (.iconst 0, 1)) rfl),
  zs_iret hX hR (by decide +kernel : decode prog_1_method_44_code 28 = .ok (.ireturn, 1)), trivial⟩
theorem k_X11_gain {l : Launch} {D : va_G} {ad : Nat → Nat → Nat} {cy : Nat → ClassId} {L : List (Nat × Nat)} (hcl : zclo L = true) (hinj : zAd ad L) : zCk l D ad cy L 1 f_X11_gain y_X11_gain (.code y_X11_gain prog_1_method_44_code 5 (some .int)) :=
  z_met (by decide) t_X11_gain hcl hinj (fun X hX hR hl k => zgs_all (Q := zSo X) (c := [(29, p_X11_gain_0)]) (fun _ => zs_bad) ⟨s_X11_gain_0 hcl hinj hX hR hl, trivial⟩ k)
set_option maxRecDepth 1000000 in
theorem e_X11_gain_0 (x0 : Int32) (x1 : Int32) (x2 : Int32) (x3 : Int32) (x4 : Int32) (h : zH) : zL p_X11_gain 0 [some (.inl x0), some (.inl x1), some (.inl x2), some (.inl x3), some (.inl x4)] [] h = zf (x0 = 1) (zf (x1 = 1) (some (some (.inl x2), h)) (some (some (.inl (-x3)), h))) (zf (x1 = 1) (some (some (.inl x4), h)) (some (some (.inl 0), h))) := (zL_s (t_X11_gain) [0] 1000 0 _ _ _).trans rfl
theorem g_X11_gain (x0 : Int32) (x1 : Int32) (x2 : Int32) (x3 : Int32) (x4 : Int32) (h : zH) : f_X11_gain [(.inl x0), (.inl x1), (.inl x2), (.inl x3), (.inl x4)] h = zf (x0 = 1) (zf (x1 = 1) (some (some (.inl x2), h)) (some (some (.inl (-x3)), h))) (zf (x1 = 1) (some (some (.inl x4), h)) (some (some (.inl 0), h))) := (show f_X11_gain _ h = zL p_X11_gain 0 _ [] h from rfl).trans (e_X11_gain_0 x0 x1 x2 x3 x4 h)
