theorem zMV_8_76 : zMV "SoapTreaty$State" 76 8 y_X8_washOnce prog_10_method_10_code 2 none 1 := ⟨⟨zT_of 873 (by decide +kernel) (by decide +kernel), zT_of 875 (by decide +kernel) (by decide +kernel), zT_of 23 (by decide +kernel) (by decide +kernel), zT_of 115 (by decide +kernel) (by decide +kernel), zT_of 876 (by decide +kernel) (by decide +kernel)⟩, by decide, rfl, ⟨zT8, 7, rfl⟩, by decide, by decide, by decide +kernel⟩
theorem zMV_8_84 : zMV "SoapTreaty$State" 84 8 y_X8_canWear prog_10_method_12_code 3 (some .boolean) 2 := ⟨⟨zT_of 868 (by decide +kernel) (by decide +kernel), zT_of 870 (by decide +kernel) (by decide +kernel), zT_of 22 (by decide +kernel) (by decide +kernel), zT_of 115 (by decide +kernel) (by decide +kernel), zT_of 871 (by decide +kernel) (by decide +kernel)⟩, by decide, rfl, ⟨zT8, 7, rfl⟩, by decide, by decide, by decide +kernel⟩
/-! SoapTreaty$State.passOneWeek()V -/
def y_X8_passOneWeek : MethodName := ⟨"SoapTreaty$State", "passOneWeek", "()V"⟩
noncomputable def p_X8_passOneWeek_0 : List (Nat × zO) := [(0, zo_push (.inl 0) 1),
  (1, zo_istore 1 2),
  (2, zo_iload 1 3),
  (3, zo_aload 0 4),
  (4, zo_getR 8 0 (some 0) 7),
  (7, zo_getI 0 4 10),
  (10, zo_cge 46 13),
  (13, zo_aload 0 14),
  (14, zo_iload 1 15),
  (15, zo_vir 8 2 (zo_calli (f_X8_isThere) 2 18)),
  (18, zo_0eq 40 21),
  (21, zo_aload 0 22),
  (22, zo_iload 1 23),
  (23, zo_aload 0 24),
  (24, zo_getR 8 31 none 27),
  (27, zo_iload 1 28),
  (28, zo_iald 29),
  (29, zo_vir 8 3 (zo_calli (f_X8_canWear) 3 32)),
  (32, zo_0eq 40 35),
  (35, zo_aload 0 36)]
noncomputable def p_X8_passOneWeek_1 : List (Nat × zO) := [(36, zo_iload 1 37),
  (37, zo_vir 8 2 (zo_callv (f_X8_washOnce) 2 40)),
  (40, zo_iinc 1 1 43),
  (43, zo_goto 2),
  (46, zo_aload 0 47),
  (47, zo_dup 48),
  (48, zo_getI 8 6 51),
  (51, zo_push (.inl 1) 52),
  (52, zo_ii (fun x y => x + y) 53),
  (53, zo_putI 8 6 56),
  (56, zo_ret)]
noncomputable def p_X8_passOneWeek : Nat → zO := zgs [(36, p_X8_passOneWeek_0), (57, p_X8_passOneWeek_1)]
theorem t_X8_passOneWeek : ∀ k, zTl (p_X8_passOneWeek k) := fun k => zgs_all (c := [(36, p_X8_passOneWeek_0), (57, p_X8_passOneWeek_1)]) (fun _ => zl_bad) ⟨⟨zl_push, zl_istore, zl_iload, zl_aload, zl_getR, zl_getI, zl_cge, zl_aload, zl_iload, (zl_vir zl_calli), zl_0eq, zl_aload, zl_iload, zl_aload, zl_getR, zl_iload, zl_iald, (zl_vir zl_calli), zl_0eq, zl_aload, trivial⟩, ⟨zl_iload, (zl_vir zl_callv), zl_iinc, zl_goto, zl_aload, zl_dup, zl_getI, zl_push, zl_ii, zl_putI, zl_ret, trivial⟩, trivial⟩ k
noncomputable def f_X8_passOneWeek : zS := zrun p_X8_passOneWeek 2
set_option maxRecDepth 20000 in
theorem s_X8_passOneWeek_0 {l : Launch} {D : va_G} {ad : Nat → Nat → Nat} {cy : Nat → ClassId} {L : List (Nat × Nat)} (hcl : zclo L = true) (hinj : zAd ad L) {X : zCtx} (hX : zXok X "SoapTreaty$State" prog_10_method_11_code 2) (hR : zRt X none) (hl : zXl X l D ad cy L (zroom 5)) : zAllR (zSo X) p_X8_passOneWeek_0 := ⟨zs_pushI (zg_iconst (by decide) hX (by decide +kernel : decode prog_10_method_11_code 0 = .ok (.iconst 0, 1)) rfl),
  zs_istore_n (i := 1) rfl hX (by decide +kernel : decode prog_10_method_11_code 1 = .ok (.istore_n 1, 1)) rfl (by decide),
  zs_iload_n (i := 1) rfl hX (by decide +kernel : decode prog_10_method_11_code 2 = .ok (.iload_n 1, 1)) rfl (by decide),
  zs_aload_n (i := 0) rfl hX (by decide +kernel : decode prog_10_method_11_code 3 = .ok (.aload_n 0, 1)) rfl (by decide),
  zs_getR hX zFL_8_23 (by decide +kernel : decode prog_10_method_11_code 4 = .ok (.getfield 23, 3)) rfl,
  zs_getI hX zFL_8_54 (by decide) (by decide) (by decide +kernel : decode prog_10_method_11_code 7 = .ok (.getfield 54, 3)) rfl,
  zs_cge hX (by decide +kernel : decode prog_10_method_11_code 10 = .ok (.if_icmp .ge 36, 3)) (by decide) rfl,
  zs_aload_n (i := 0) rfl hX (by decide +kernel : decode prog_10_method_11_code 13 = .ok (.aload_n 0, 1)) rfl (by decide),
  zs_iload_n (i := 1) rfl hX (by decide +kernel : decode prog_10_method_11_code 14 = .ok (.iload_n 1, 1)) rfl (by decide),
  zs_callVi hX zMV_8_60 (zXc_of hl (by decide) (k_X8_isThere hcl hinj)) (by decide +kernel : decode prog_10_method_11_code 15 = .ok (.invokevirtual 60, 3)) rfl,
  zs_0eq hX (by decide +kernel : decode prog_10_method_11_code 18 = .ok (.ifCond .eq 22, 3)) (by decide) rfl,
  zs_aload_n (i := 0) rfl hX (by decide +kernel : decode prog_10_method_11_code 21 = .ok (.aload_n 0, 1)) rfl (by decide),
  zs_iload_n (i := 1) rfl hX (by decide +kernel : decode prog_10_method_11_code 22 = .ok (.iload_n 1, 1)) rfl (by decide),
  zs_aload_n (i := 0) rfl hX (by decide +kernel : decode prog_10_method_11_code 23 = .ok (.aload_n 0, 1)) rfl (by decide),
  zs_getR hX zFL_8_11 (by decide +kernel : decode prog_10_method_11_code 24 = .ok (.getfield 11, 3)) rfl,
  zs_iload_n (i := 1) rfl hX (by decide +kernel : decode prog_10_method_11_code 27 = .ok (.iload_n 1, 1)) rfl (by decide),
  zs_iald hX (by decide +kernel : decode prog_10_method_11_code 28 = .ok (.iaload, 1)) rfl,
  zs_callVi hX zMV_8_84 (zXc_of hl (by decide) (k_X8_canWear hcl hinj)) (by decide +kernel : decode prog_10_method_11_code 29 = .ok (.invokevirtual 84, 3)) rfl,
  zs_0eq hX (by decide +kernel : decode prog_10_method_11_code 32 = .ok (.ifCond .eq 8, 3)) (by decide) rfl,
  zs_aload_n (i := 0) rfl hX (by decide +kernel : decode prog_10_method_11_code 35 = .ok (.aload_n 0, 1)) rfl (by decide), trivial⟩
set_option maxRecDepth 20000 in
theorem s_X8_passOneWeek_1 {l : Launch} {D : va_G} {ad : Nat → Nat → Nat} {cy : Nat → ClassId} {L : List (Nat × Nat)} (hcl : zclo L = true) (hinj : zAd ad L) {X : zCtx} (hX : zXok X "SoapTreaty$State" prog_10_method_11_code 2) (hR : zRt X none) (hl : zXl X l D ad cy L (zroom 5)) : zAllR (zSo X) p_X8_passOneWeek_1 := ⟨zs_iload_n (i := 1) rfl hX (by decide +kernel : decode prog_10_method_11_code 36 = .ok (.iload_n 1, 1)) rfl (by decide),
  zs_callVv hX zMV_8_76 (zXc_of hl (by decide) (k_X8_washOnce hcl hinj)) (by decide +kernel : decode prog_10_method_11_code 37 = .ok (.invokevirtual 76, 3)) rfl,
  zs_iinc hX (by decide +kernel : decode prog_10_method_11_code 40 = .ok (.iinc 1 1, 3)) (by decide) rfl (by decide),
  zs_goto hX (by decide +kernel : decode prog_10_method_11_code 43 = .ok (.goto (-41), 3)) (by decide),
  zs_aload_n (i := 0) rfl hX (by decide +kernel : decode prog_10_method_11_code 46 = .ok (.aload_n 0, 1)) rfl (by decide),
  zs_dup hX (by decide +kernel : decode prog_10_method_11_code 47 = .ok (.dup, 1)) rfl,
  zs_getI hX zFL_8_44 (by decide) (by decide) (by decide +kernel : decode prog_10_method_11_code 48 = .ok (.getfield 44, 3)) rfl,
  zs_pushI (zg_iconst (by decide) hX (by decide +kernel : decode prog_10_method_11_code 51 = .ok (.iconst 1, 1)) rfl),
  zs_ii (zg_iadd hX (by decide +kernel : decode prog_10_method_11_code 52 = .ok (.iadd, 1)) rfl),
  zs_putI hX zFP_8_44 (by decide +kernel : decode prog_10_method_11_code 53 = .ok (.putfield 44, 3)) rfl,
  zs_ret hX hR (by decide +kernel : decode prog_10_method_11_code 56 = .ok (.return_, 1)), trivial⟩
theorem k_X8_passOneWeek {l : Launch} {D : va_G} {ad : Nat → Nat → Nat} {cy : Nat → ClassId} {L : List (Nat × Nat)} (hcl : zclo L = true) (hinj : zAd ad L) : zCk l D ad cy L 5 f_X8_passOneWeek y_X8_passOneWeek (.code y_X8_passOneWeek prog_10_method_11_code 2 none) :=
  z_met (by decide) t_X8_passOneWeek hcl hinj (fun X hX hR hl k => zgs_all (Q := zSo X) (c := [(36, p_X8_passOneWeek_0), (57, p_X8_passOneWeek_1)]) (fun _ => zs_bad) ⟨s_X8_passOneWeek_0 hcl hinj hX hR hl, s_X8_passOneWeek_1 hcl hinj hX hR hl, trivial⟩ k)
set_option maxRecDepth 1000000 in
theorem e_X8_passOneWeek_0 (jx0 : Nat) (h : zH) : zL p_X8_passOneWeek 0 [some (.inr (.inr (8, jx0))), none] [] h = zL p_X8_passOneWeek 2 [some (.inr (.inr (8, jx0))), some (.inl 0)] [] h := (zL_s (t_X8_passOneWeek) [0, 2] 1000 0 _ _ _).trans rfl
theorem g_X8_passOneWeek (jx0 : Nat) (h : zH) : f_X8_passOneWeek [(.inr (.inr (8, jx0)))] h = zL p_X8_passOneWeek 2 [some (.inr (.inr (8, jx0))), some (.inl 0)] [] h := (show f_X8_passOneWeek _ h = zL p_X8_passOneWeek 0 _ [] h from rfl).trans (e_X8_passOneWeek_0 jx0 h)
set_option maxRecDepth 1000000 in
theorem e_X8_passOneWeek_2 (jx0 : Nat) (x1 : Int32) (h : zH) : zL p_X8_passOneWeek 2 [some (.inr (.inr (8, jx0))), some (.inl x1)] [] h = zf (x1 < (h.1 0 0 4)) (zci (f_X8_isThere [(.inr (.inr (8, jx0))), (.inl x1)] h) (fun r2 h1 => zf (r2 = 0) (zL p_X8_passOneWeek 2 [some (.inr (.inr (8, jx0))), some (.inl (x1 + 1))] [] h1) (zf (vp_in x1 7) (zci (f_X8_canWear [(.inr (.inr (8, jx0))), (.inl x1), (.inl (h1.1 31 jx0 x1.toNatClampNeg))] h1) (fun r4 h3 => zf (r4 = 0) (zL p_X8_passOneWeek 2 [some (.inr (.inr (8, jx0))), some (.inl (x1 + 1))] [] h3) (zcv (f_X8_washOnce [(.inr (.inr (8, jx0))), (.inl x1)] h3) (fun h5 => zL p_X8_passOneWeek 2 [some (.inr (.inr (8, jx0))), some (.inl (x1 + 1))] [] h5)))) none))) (some (none, (zuI h 8 jx0 6 ((h.1 8 jx0 6) + (1 : Int32))))) := (zL_s (t_X8_passOneWeek) [0, 2] 1000 2 _ _ _).trans rfl
theorem zMV_8_69 : zMV "SoapTreaty$State" 69 8 y_X8_passOneWeek prog_10_method_11_code 2 none 0 := ⟨⟨zT_of 864 (by decide +kernel) (by decide +kernel), zT_of 866 (by decide +kernel) (by decide +kernel), zT_of 21 (by decide +kernel) (by decide +kernel), zT_of 115 (by decide +kernel) (by decide +kernel), zT_of 867 (by decide +kernel) (by decide +kernel)⟩, by decide, rfl, ⟨zT8, 7, rfl⟩, by decide, by decide, by decide +kernel⟩
theorem zMV_8_72 : zMV "SoapTreaty$State" 72 8 y_X8_can prog_10_method_8_code 4 (some .boolean) 3 := ⟨⟨zT_of 898 (by decide +kernel) (by decide +kernel), zT_of 841 (by decide +kernel) (by decide +kernel), zT_of 842 (by decide +kernel) (by decide +kernel), zT_of 115 (by decide +kernel) (by decide +kernel), zT_of 843 (by decide +kernel) (by decide +kernel)⟩, by decide, rfl, ⟨zT8, 7, rfl⟩, by decide, by decide, by decide +kernel⟩
/-! SoapTreaty$State.attempt(III)Z -/
def y_X8_attempt : MethodName := ⟨"SoapTreaty$State", "attempt", "(III)Z"⟩
noncomputable def p_X8_attempt_0 : List (Nat × zO) := [(0, zo_iload 1 1),
  (1, zo_push (.inl 5) 2),
  (2, zo_cne 11 5),
  (5, zo_aload 0 6),
  (6, zo_vir 8 1 (zo_callv (f_X8_passOneWeek) 1 9)),
  (9, zo_push (.inl 1) 10),
  (10, zo_zretc),
  (11, zo_aload 0 12),
  (12, zo_getR 8 0 (some 0) 15),
  (15, zo_iload 2 16),
  (16, zo_vir 0 2 (zo_calli (f_X0_hasCake) 2 19)),
  (19, zo_0eq 32 22),
  (22, zo_aload 0 23),
  (23, zo_iload 1 24),
  (24, zo_iload 2 25),
  (25, zo_iload 3 26),
  (26, zo_vir 8 4 (zo_calli (f_X8_can) 4 29)),
  (29, zo_0ne 34 32),
  (32, zo_push (.inl 0) 33),
  (33, zo_zretc)]
noncomputable def p_X8_attempt_1 : List (Nat × zO) := [(34, zo_iload 1 35),
  (35, zo_tsw [(0, 64), (1, 72), (2, 87), (3, 104)] 114),
  (64, zo_aload 0 65),
  (65, zo_iload 2 66),
  (66, zo_vir 8 2 (zo_callv (f_X8_washOnce) 2 69)),
  (69, zo_goto 136),
  (72, zo_aload 0 73),
  (73, zo_dup 74),
  (74, zo_getI 8 4 77),
  (77, zo_push (.inl 1) 78),
  (78, zo_iload 2 79),
  (79, zo_ii (fun x y => x <<< (y &&& 31)) 80),
  (80, zo_ii (fun x y => x ||| y) 81),
  (81, zo_putI 8 4 84),
  (84, zo_goto 136),
  (87, zo_aload 0 88),
  (88, zo_dup 89),
  (89, zo_getI 8 4 92),
  (92, zo_push (.inl 1) 93),
  (93, zo_iload 2 94)]
noncomputable def p_X8_attempt_2 : List (Nat × zO) := [(94, zo_ii (fun x y => x <<< (y &&& 31)) 95),
  (95, zo_push (.inl zm1) 96),
  (96, zo_ii (fun x y => x ^^^ y) 97),
  (97, zo_ii (fun x y => x &&& y) 98),
  (98, zo_putI 8 4 101),
  (101, zo_goto 136),
  (104, zo_aload 0 105),
  (105, zo_getR 8 31 none 108),
  (108, zo_iload 2 109),
  (109, zo_iload 3 110),
  (110, zo_iast 111),
  (111, zo_goto 136),
  (114, zo_aload 0 115),
  (115, zo_dup 116),
  (116, zo_getI 8 5 119),
  (119, zo_aload 0 120),
  (120, zo_getR 8 32 none 123),
  (123, zo_iload 2 124),
  (124, zo_iald 125),
  (125, zo_ii (fun x y => x + y) 126)]
noncomputable def p_X8_attempt_3 : List (Nat × zO) := [(126, zo_putI 8 5 129),
  (129, zo_aload 0 130),
  (130, zo_getR 8 32 none 133),
  (133, zo_iload 2 134),
  (134, zo_push (.inl 0) 135),
  (135, zo_iast 136),
  (136, zo_push (.inl 1) 137),
  (137, zo_zretc)]
noncomputable def p_X8_attempt : Nat → zO := zgs [(34, p_X8_attempt_0), (94, p_X8_attempt_1), (126, p_X8_attempt_2), (138, p_X8_attempt_3)]
theorem t_X8_attempt : ∀ k, zTl (p_X8_attempt k) := fun k => zgs_all (c := [(34, p_X8_attempt_0), (94, p_X8_attempt_1), (126, p_X8_attempt_2), (138, p_X8_attempt_3)]) (fun _ => zl_bad) ⟨⟨zl_iload, zl_push, zl_cne, zl_aload, (zl_vir zl_callv), zl_push, zl_zretc, zl_aload, zl_getR, zl_iload, (zl_vir zl_calli), zl_0eq, zl_aload, zl_iload, zl_iload, zl_iload, (zl_vir zl_calli), zl_0ne, zl_push, zl_zretc, trivial⟩, ⟨zl_iload, zl_tsw, zl_aload, zl_iload, (zl_vir zl_callv), zl_goto, zl_aload, zl_dup, zl_getI, zl_push, zl_iload, zl_ii, zl_ii, zl_putI, zl_goto, zl_aload, zl_dup, zl_getI, zl_push, zl_iload, trivial⟩, ⟨zl_ii, zl_push, zl_ii, zl_ii, zl_putI, zl_goto, zl_aload, zl_getR, zl_iload, zl_iload, zl_iast, zl_goto, zl_aload, zl_dup, zl_getI, zl_aload, zl_getR, zl_iload, zl_iald, zl_ii, trivial⟩, ⟨zl_putI, zl_aload, zl_getR, zl_iload, zl_push, zl_iast, zl_push, zl_zretc, trivial⟩, trivial⟩ k
noncomputable def f_X8_attempt : zS := zrun p_X8_attempt 4
set_option maxRecDepth 20000 in
theorem s_X8_attempt_0 {l : Launch} {D : va_G} {ad : Nat → Nat → Nat} {cy : Nat → ClassId} {L : List (Nat × Nat)} (hcl : zclo L = true) (hinj : zAd ad L) {X : zCtx} (hX : zXok X "SoapTreaty$State" prog_10_method_9_code 4) (hR : zRt X (some .boolean)) (hl : zXl X l D ad cy L (zroom 6)) : zAllR (zSo X) p_X8_attempt_0 := ⟨zs_iload_n (i := 1) rfl hX (by decide +kernel : decode prog_10_method_9_code 0 = .ok (.iload_n 1, 1)) rfl (by decide),
  zs_pushI (zg_iconst (by decide) hX (by decide +kernel : decode prog_10_method_9_code 1 = .ok (.iconst 5, 1)) rfl),
  zs_cne hX (by decide +kernel : decode prog_10_method_9_code 2 = .ok (.if_icmp .ne 9, 3)) (by decide) rfl,
  zs_aload_n (i := 0) rfl hX (by decide +kernel : decode prog_10_method_9_code 5 = .ok (.aload_n 0, 1)) rfl (by decide),
  zs_callVv hX zMV_8_69 (zXc_of hl (by decide) (k_X8_passOneWeek hcl hinj)) (by decide +kernel : decode prog_10_method_9_code 6 = .ok (.invokevirtual 69, 3)) rfl,
  zs_pushI (zg_iconst (by decide) hX (by decide +kernel : decode prog_10_method_9_code 9 = .ok (.iconst 1, 1)) rfl),
  zs_zretc hX hR (by decide +kernel : decode prog_10_method_9_code 10 = .ok (.ireturn, 1)),
  zs_aload_n (i := 0) rfl hX (by decide +kernel : decode prog_10_method_9_code 11 = .ok (.aload_n 0, 1)) rfl (by decide),
  zs_getR hX zFL_8_23 (by decide +kernel : decode prog_10_method_9_code 12 = .ok (.getfield 23, 3)) rfl,
  zs_iload_n (i := 2) rfl hX (by decide +kernel : decode prog_10_method_9_code 15 = .ok (.iload_n 2, 1)) rfl (by decide),
  zs_callVi hX zMV_8_47 (zXc_of hl (by decide) (k_X0_hasCake hcl hinj)) (by decide +kernel : decode prog_10_method_9_code 16 = .ok (.invokevirtual 47, 3)) rfl,
  zs_0eq hX (by decide +kernel : decode prog_10_method_9_code 19 = .ok (.ifCond .eq 13, 3)) (by decide) rfl,
  zs_aload_n (i := 0) rfl hX (by decide +kernel : decode prog_10_method_9_code 22 = .ok (.aload_n 0, 1)) rfl (by decide),
  zs_iload_n (i := 1) rfl hX (by decide +kernel : decode prog_10_method_9_code 23 = .ok (.iload_n 1, 1)) rfl (by decide),
  zs_iload_n (i := 2) rfl hX (by decide +kernel : decode prog_10_method_9_code 24 = .ok (.iload_n 2, 1)) rfl (by decide),
  zs_iload_n (i := 3) rfl hX (by decide +kernel : decode prog_10_method_9_code 25 = .ok (.iload_n 3, 1)) rfl (by decide),
  zs_callVi hX zMV_8_72 (zXc_of hl (by decide) (k_X8_can hcl hinj)) (by decide +kernel : decode prog_10_method_9_code 26 = .ok (.invokevirtual 72, 3)) rfl,
  zs_0ne hX (by decide +kernel : decode prog_10_method_9_code 29 = .ok (.ifCond .ne 5, 3)) (by decide) rfl,
  zs_pushI (zg_iconst (by decide) hX (by decide +kernel : decode prog_10_method_9_code 32 = .ok (.iconst 0, 1)) rfl),
  zs_zretc hX hR (by decide +kernel : decode prog_10_method_9_code 33 = .ok (.ireturn, 1)), trivial⟩
set_option maxRecDepth 20000 in
theorem s_X8_attempt_1 {l : Launch} {D : va_G} {ad : Nat → Nat → Nat} {cy : Nat → ClassId} {L : List (Nat × Nat)} (hcl : zclo L = true) (hinj : zAd ad L) {X : zCtx} (hX : zXok X "SoapTreaty$State" prog_10_method_9_code 4) (hR : zRt X (some .boolean)) (hl : zXl X l D ad cy L (zroom 6)) : zAllR (zSo X) p_X8_attempt_1 := ⟨zs_iload_n (i := 1) rfl hX (by decide +kernel : decode prog_10_method_9_code 34 = .ok (.iload_n 1, 1)) rfl (by decide),
  zs_tsw hX (by decide +kernel : decode prog_10_method_9_code 35 = .ok (.tableswitch 79 0 3 #[29, 37, 52, 69], 29)) (by decide) (by decide) (by decide) (by decide),
  zs_aload_n (i := 0) rfl hX (by decide +kernel : decode prog_10_method_9_code 64 = .ok (.aload_n 0, 1)) rfl (by decide),
  zs_iload_n (i := 2) rfl hX (by decide +kernel : decode prog_10_method_9_code 65 = .ok (.iload_n 2, 1)) rfl (by decide),
  zs_callVv hX zMV_8_76 (zXc_of hl (by decide) (k_X8_washOnce hcl hinj)) (by decide +kernel : decode prog_10_method_9_code 66 = .ok (.invokevirtual 76, 3)) rfl,
  zs_goto hX (by decide +kernel : decode prog_10_method_9_code 69 = .ok (.goto 67, 3)) (by decide),
  zs_aload_n (i := 0) rfl hX (by decide +kernel : decode prog_10_method_9_code 72 = .ok (.aload_n 0, 1)) rfl (by decide),
  zs_dup hX (by decide +kernel : decode prog_10_method_9_code 73 = .ok (.dup, 1)) rfl,
  zs_getI hX zFL_8_37 (by decide) (by decide) (by decide +kernel : decode prog_10_method_9_code 74 = .ok (.getfield 37, 3)) rfl,
  zs_pushI (zg_iconst (by decide) hX (by decide +kernel : decode prog_10_method_9_code 77 = .ok (.iconst 1, 1)) rfl),
  zs_iload_n (i := 2) rfl hX (by decide +kernel : decode prog_10_method_9_code 78 = .ok (.iload_n 2, 1)) rfl (by decide),
  zs_ii (zg_ishl hX (by decide +kernel : decode prog_10_method_9_code 79 = .ok (.ishl, 1)) rfl),
  zs_ii (zg_ior hX (by decide +kernel : decode prog_10_method_9_code 80 = .ok (.ior, 1)) rfl),
  zs_putI hX zFP_8_37 (by decide +kernel : decode prog_10_method_9_code 81 = .ok (.putfield 37, 3)) rfl,
  zs_goto hX (by decide +kernel : decode prog_10_method_9_code 84 = .ok (.goto 52, 3)) (by decide),
  zs_aload_n (i := 0) rfl hX (by decide +kernel : decode prog_10_method_9_code 87 = .ok (.aload_n 0, 1)) rfl (by decide),
  zs_dup hX (by decide +kernel : decode prog_10_method_9_code 88 = .ok (.dup, 1)) rfl,
  zs_getI hX zFL_8_37 (by decide) (by decide) (by decide +kernel : decode prog_10_method_9_code 89 = .ok (.getfield 37, 3)) rfl,
  zs_pushI (zg_iconst (by decide) hX (by decide +kernel : decode prog_10_method_9_code 92 = .ok (.iconst 1, 1)) rfl),
  zs_iload_n (i := 2) rfl hX (by decide +kernel : decode prog_10_method_9_code 93 = .ok (.iload_n 2, 1)) rfl (by decide), trivial⟩
set_option maxRecDepth 20000 in
theorem s_X8_attempt_2 {l : Launch} {D : va_G} {ad : Nat → Nat → Nat} {cy : Nat → ClassId} {L : List (Nat × Nat)} (hcl : zclo L = true) (hinj : zAd ad L) {X : zCtx} (hX : zXok X "SoapTreaty$State" prog_10_method_9_code 4) (hR : zRt X (some .boolean)) (hl : zXl X l D ad cy L (zroom 6)) : zAllR (zSo X) p_X8_attempt_2 := ⟨zs_ii (zg_ishl hX (by decide +kernel : decode prog_10_method_9_code 94 = .ok (.ishl, 1)) rfl),
  zs_pushI (zg_iconst (by decide) hX (by decide +kernel : decode prog_10_method_9_code 95 = .ok (.iconst (-1), 1)) rfl),
  zs_ii (zg_ixor hX (by decide +kernel : decode prog_10_method_9_code 96 = .ok (.ixor, 1)) rfl),
  zs_ii (zg_iand hX (by decide +kernel : decode prog_10_method_9_code 97 = .ok (.iand, 1)) rfl),
  zs_putI hX zFP_8_37 (by decide +kernel : decode prog_10_method_9_code 98 = .ok (.putfield 37, 3)) rfl,
  zs_goto hX (by decide +kernel : decode prog_10_method_9_code 101 = .ok (.goto 35, 3)) (by decide),
  zs_aload_n (i := 0) rfl hX (by decide +kernel : decode prog_10_method_9_code 104 = .ok (.aload_n 0, 1)) rfl (by decide),
  zs_getR hX zFL_8_11 (by decide +kernel : decode prog_10_method_9_code 105 = .ok (.getfield 11, 3)) rfl,
  zs_iload_n (i := 2) rfl hX (by decide +kernel : decode prog_10_method_9_code 108 = .ok (.iload_n 2, 1)) rfl (by decide),
  zs_iload_n (i := 3) rfl hX (by decide +kernel : decode prog_10_method_9_code 109 = .ok (.iload_n 3, 1)) rfl (by decide),
  zs_iast hX (by decide +kernel : decode prog_10_method_9_code 110 = .ok (.iastore, 1)) rfl,
  zs_goto hX (by decide +kernel : decode prog_10_method_9_code 111 = .ok (.goto 25, 3)) (by decide),
  zs_aload_n (i := 0) rfl hX (by decide +kernel : decode prog_10_method_9_code 114 = .ok (.aload_n 0, 1)) rfl (by decide),
  zs_dup hX (by decide +kernel : decode prog_10_method_9_code 115 = .ok (.dup, 1)) rfl,
  zs_getI hX zFL_8_41 (by decide) (by decide) (by decide +kernel : decode prog_10_method_9_code 116 = .ok (.getfield 41, 3)) rfl,
  zs_aload_n (i := 0) rfl hX (by decide +kernel : decode prog_10_method_9_code 119 = .ok (.aload_n 0, 1)) rfl (by decide),
  zs_getR hX zFL_8_17 (by decide +kernel : decode prog_10_method_9_code 120 = .ok (.getfield 17, 3)) rfl,
  zs_iload_n (i := 2) rfl hX (by decide +kernel : decode prog_10_method_9_code 123 = .ok (.iload_n 2, 1)) rfl (by decide),
  zs_iald hX (by decide +kernel : decode prog_10_method_9_code 124 = .ok (.iaload, 1)) rfl,
  zs_ii (zg_iadd hX (by decide +kernel : decode prog_10_method_9_code 125 = .ok (.iadd, 1)) rfl), trivial⟩
set_option maxRecDepth 20000 in
theorem s_X8_attempt_3 {l : Launch} {D : va_G} {ad : Nat → Nat → Nat} {cy : Nat → ClassId} {L : List (Nat × Nat)} (hcl : zclo L = true) (hinj : zAd ad L) {X : zCtx} (hX : zXok X "SoapTreaty$State" prog_10_method_9_code 4) (hR : zRt X (some .boolean)) (hl : zXl X l D ad cy L (zroom 6)) : zAllR (zSo X) p_X8_attempt_3 := ⟨zs_putI hX zFP_8_41 (by decide +kernel : decode prog_10_method_9_code 126 = .ok (.putfield 41, 3)) rfl,
  zs_aload_n (i := 0) rfl hX (by decide +kernel : decode prog_10_method_9_code 129 = .ok (.aload_n 0, 1)) rfl (by decide),
  zs_getR hX zFL_8_17 (by decide +kernel : decode prog_10_method_9_code 130 = .ok (.getfield 17, 3)) rfl,
  zs_iload_n (i := 2) rfl hX (by decide +kernel : decode prog_10_method_9_code 133 = .ok (.iload_n 2, 1)) rfl (by decide),
  zs_pushI (zg_iconst (by decide) hX (by decide +kernel : decode prog_10_method_9_code 134 = .ok (.iconst 0, 1)) rfl),
  zs_iast hX (by decide +kernel : decode prog_10_method_9_code 135 = .ok (.iastore, 1)) rfl,
  zs_pushI (zg_iconst (by decide) hX (by decide +kernel : decode prog_10_method_9_code 136 = .ok (.iconst 1, 1)) rfl),
  zs_zretc hX hR (by decide +kernel : decode prog_10_method_9_code 137 = .ok (.ireturn, 1)), trivial⟩
theorem k_X8_attempt {l : Launch} {D : va_G} {ad : Nat → Nat → Nat} {cy : Nat → ClassId} {L : List (Nat × Nat)} (hcl : zclo L = true) (hinj : zAd ad L) : zCk l D ad cy L 6 f_X8_attempt y_X8_attempt (.code y_X8_attempt prog_10_method_9_code 4 (some .boolean)) :=
  z_met (by decide) t_X8_attempt hcl hinj (fun X hX hR hl k => zgs_all (Q := zSo X) (c := [(34, p_X8_attempt_0), (94, p_X8_attempt_1), (126, p_X8_attempt_2), (138, p_X8_attempt_3)]) (fun _ => zs_bad) ⟨s_X8_attempt_0 hcl hinj hX hR hl, s_X8_attempt_1 hcl hinj hX hR hl, s_X8_attempt_2 hcl hinj hX hR hl, s_X8_attempt_3 hcl hinj hX hR hl, trivial⟩ k)
set_option maxRecDepth 1000000 in
theorem e_X8_attempt_0 (jx0 : Nat) (x1 : Int32) (x2 : Int32) (x3 : Int32) (h : zH) : zL p_X8_attempt 0 [some (.inr (.inr (8, jx0))), some (.inl x1), some (.inl x2), some (.inl x3)] [] h = zf (x1 = 5) (zcv (f_X8_passOneWeek [(.inr (.inr (8, jx0)))] h) (fun h6 => some (some (.inl 1), h6))) (zci (f_X0_hasCake [(.inr (.inr (0, 0))), (.inl x2)] h) (fun r2 h1 => zf (r2 = 0) (some (some (.inl 0), h1)) (zci (f_X8_can [(.inr (.inr (8, jx0))), (.inl x1), (.inl x2), (.inl x3)] h1) (fun r4 h3 => zf (r4 = 0) (some (some (.inl 0), h3)) (zf (x1 = 0) (zcv (f_X8_washOnce [(.inr (.inr (8, jx0))), (.inl x2)] h3) (fun h5 => some (some (.inl 1), h5))) (zf (x1 = 1) (some (some (.inl 1), (zuI h3 8 jx0 4 ((h3.1 8 jx0 4) ||| ((1 : Int32) <<< (x2 &&& 31)))))) (zf (x1 = 2) (some (some (.inl 1), (zuI h3 8 jx0 4 ((h3.1 8 jx0 4) &&& (((1 : Int32) <<< (x2 &&& 31)) ^^^ zm1))))) (zf (x1 = 3) (zf (vp_in x2 7) (some (some (.inl 1), (zuI h3 31 jx0 x2.toNatClampNeg x3))) none) (zf (vp_in x2 7) (zf (vp_in x2 7) (some (some (.inl 1), (zuI (zuI h3 8 jx0 5 ((h3.1 8 jx0 5) + (h3.1 32 jx0 x2.toNatClampNeg))) 32 jx0 x2.toNatClampNeg 0))) none) none))))))))) := (zL_s (t_X8_attempt) [0] 1000 0 _ _ _).trans rfl
theorem g_X8_attempt (jx0 : Nat) (x1 : Int32) (x2 : Int32) (x3 : Int32) (h : zH) : f_X8_attempt [(.inr (.inr (8, jx0))), (.inl x1), (.inl x2), (.inl x3)] h = zf (x1 = 5) (zcv (f_X8_passOneWeek [(.inr (.inr (8, jx0)))] h) (fun h6 => some (some (.inl 1), h6))) (zci (f_X0_hasCake [(.inr (.inr (0, 0))), (.inl x2)] h) (fun r2 h1 => zf (r2 = 0) (some (some (.inl 0), h1)) (zci (f_X8_can [(.inr (.inr (8, jx0))), (.inl x1), (.inl x2), (.inl x3)] h1) (fun r4 h3 => zf (r4 = 0) (some (some (.inl 0), h3)) (zf (x1 = 0) (zcv (f_X8_washOnce [(.inr (.inr (8, jx0))), (.inl x2)] h3) (fun h5 => some (some (.inl 1), h5))) (zf (x1 = 1) (some (some (.inl 1), (zuI h3 8 jx0 4 ((h3.1 8 jx0 4) ||| ((1 : Int32) <<< (x2 &&& 31)))))) (zf (x1 = 2) (some (some (.inl 1), (zuI h3 8 jx0 4 ((h3.1 8 jx0 4) &&& (((1 : Int32) <<< (x2 &&& 31)) ^^^ zm1))))) (zf (x1 = 3) (zf (vp_in x2 7) (some (some (.inl 1), (zuI h3 31 jx0 x2.toNatClampNeg x3))) none) (zf (vp_in x2 7) (zf (vp_in x2 7) (some (some (.inl 1), (zuI (zuI h3 8 jx0 5 ((h3.1 8 jx0 5) + (h3.1 32 jx0 x2.toNatClampNeg))) 32 jx0 x2.toNatClampNeg 0))) none) none))))))))) := (show f_X8_attempt _ h = zL p_X8_attempt 0 _ [] h from rfl).trans (e_X8_attempt_0 jx0 x1 x2 x3 h)
/-! SoapTreaty$State.weeksTo(III)I -/
def y_X8_weeksTo : MethodName := ⟨"SoapTreaty$State", "weeksTo", "(III)I"⟩
noncomputable def p_X8_weeksTo_0 : List (Nat × zO) := [(0, zo_aload 0 1),
  (1, zo_getR 8 0 (some 0) 4),
  (4, zo_iload 2 5),
  (5, zo_vir 0 2 (zo_calli (f_X0_hasCake) 2 8)),
  (8, zo_0ne 13 11),
  (11, zo_push (.inl zm1) 12),
  (12, zo_iret),
  (13, zo_aload 0 14),
  (14, zo_getR 8 32 none 17),
  (17, zo_iload 2 18),
  (18, zo_iald 19),
  (19, zo_istore 4 21),
  (21, zo_push (.inl 0) 22),
  (22, zo_istore 5 24),
  (24, zo_iload 5 26),
  (26, zo_push (.inl 99) 28),
  (28, zo_cgt 79 31),
  (31, zo_iload 4 33),
  (33, zo_iload 1 34),
  (34, zo_cgt 40 37)]
noncomputable def p_X8_weeksTo_1 : List (Nat × zO) := [(37, zo_iload 5 39),
  (39, zo_iret),
  (40, zo_aload 0 41),
  (41, zo_iload 2 42),
  (42, zo_iload 3 43),
  (43, zo_vir 8 3 (zo_calli (f_X8_canWear) 3 46)),
  (46, zo_0ne 51 49),
  (49, zo_push (.inl zm1) 50),
  (50, zo_iret),
  (51, zo_aload 0 52),
  (52, zo_getR 8 0 (some 0) 55),
  (55, zo_iload 2 56),
  (56, zo_iload 3 57),
  (57, zo_iload 4 59),
  (59, zo_aload 0 60),
  (60, zo_getR 8 33 none 63),
  (63, zo_iload 2 64),
  (64, zo_iald 65),
  (65, zo_iload 5 67),
  (67, zo_ii (fun x y => x + y) 68)]
noncomputable def p_X8_weeksTo_2 : List (Nat × zO) := [(68, zo_vir 0 5 (zo_calli (f_X0_thickWashed) 5 71)),
  (71, zo_istore 4 73),
  (73, zo_iinc 5 1 76),
  (76, zo_goto 24),
  (79, zo_push (.inl zm1) 80),
  (80, zo_iret)]
noncomputable def p_X8_weeksTo : Nat → zO := zgs [(35, p_X8_weeksTo_0), (68, p_X8_weeksTo_1), (81, p_X8_weeksTo_2)]
theorem t_X8_weeksTo : ∀ k, zTl (p_X8_weeksTo k) := fun k => zgs_all (c := [(35, p_X8_weeksTo_0), (68, p_X8_weeksTo_1), (81, p_X8_weeksTo_2)]) (fun _ => zl_bad) ⟨⟨zl_aload, zl_getR, zl_iload, (zl_vir zl_calli), zl_0ne, zl_push, zl_iret, zl_aload, zl_getR, zl_iload, zl_iald, zl_istore, zl_push, zl_istore, zl_iload, zl_push, zl_cgt, zl_iload, zl_iload, zl_cgt, trivial⟩, ⟨zl_iload, zl_iret, zl_aload, zl_iload, zl_iload, (zl_vir zl_calli), zl_0ne, zl_push, zl_iret, zl_aload, zl_getR, zl_iload, zl_iload, zl_iload, zl_aload, zl_getR, zl_iload, zl_iald, zl_iload, zl_ii, trivial⟩, ⟨(zl_vir zl_calli), zl_istore, zl_iinc, zl_goto, zl_push, zl_iret, trivial⟩, trivial⟩ k
noncomputable def f_X8_weeksTo : zS := zrun p_X8_weeksTo 6
set_option maxRecDepth 20000 in
theorem s_X8_weeksTo_0 {l : Launch} {D : va_G} {ad : Nat → Nat → Nat} {cy : Nat → ClassId} {L : List (Nat × Nat)} (hcl : zclo L = true) (hinj : zAd ad L) {X : zCtx} (hX : zXok X "SoapTreaty$State" prog_10_method_13_code 6) (hR : zRt X (some .int)) (hl : zXl X l D ad cy L (zroom 4)) : zAllR (zSo X) p_X8_weeksTo_0 := ⟨zs_aload_n (i := 0) rfl hX (by decide +kernel : decode prog_10_method_13_code 0 = .ok (.aload_n 0, 1)) rfl (by decide),
  zs_getR hX zFL_8_23 (by decide +kernel : decode prog_10_method_13_code 1 = .ok (.getfield 23, 3)) rfl,
  zs_iload_n (i := 2) rfl hX (by decide +kernel : decode prog_10_method_13_code 4 = .ok (.iload_n 2, 1)) rfl (by decide),
  zs_callVi hX zMV_8_47 (zXc_of hl (by decide) (k_X0_hasCake hcl hinj)) (by decide +kernel : decode prog_10_method_13_code 5 = .ok (.invokevirtual 47, 3)) rfl,
  zs_0ne hX (by decide +kernel : decode prog_10_method_13_code 8 = .ok (.ifCond .ne 5, 3)) (by decide) rfl,
  zs_pushI (zg_iconst (by decide) hX (by decide +kernel : decode prog_10_method_13_code 11 = .ok (.iconst (-1), 1)) rfl),
  zs_iret hX hR (by decide +kernel : decode prog_10_method_13_code 12 = .ok (.ireturn, 1)),
  zs_aload_n (i := 0) rfl hX (by decide +kernel : decode prog_10_method_13_code 13 = .ok (.aload_n 0, 1)) rfl (by decide),
  zs_getR hX zFL_8_17 (by decide +kernel : decode prog_10_method_13_code 14 = .ok (.getfield 17, 3)) rfl,
  zs_iload_n (i := 2) rfl hX (by decide +kernel : decode prog_10_method_13_code 17 = .ok (.iload_n 2, 1)) rfl (by decide),
  zs_iald hX (by decide +kernel : decode prog_10_method_13_code 18 = .ok (.iaload, 1)) rfl,
  zs_istore hX (by decide +kernel : decode prog_10_method_13_code 19 = .ok (.istore 4, 2)) rfl (by decide),
  zs_pushI (zg_iconst (by decide) hX (by decide +kernel : decode prog_10_method_13_code 21 = .ok (.iconst 0, 1)) rfl),
  zs_istore hX (by decide +kernel : decode prog_10_method_13_code 22 = .ok (.istore 5, 2)) rfl (by decide),
  zs_iload hX (by decide +kernel : decode prog_10_method_13_code 24 = .ok (.iload 5, 2)) rfl (by decide),
  zs_pushI (zg_bipush (by decide) hX (by decide +kernel : decode prog_10_method_13_code 26 = .ok (.bipush 99, 2)) rfl),
  zs_cgt hX (by decide +kernel : decode prog_10_method_13_code 28 = .ok (.if_icmp .gt 51, 3)) (by decide) rfl,
  zs_iload hX (by decide +kernel : decode prog_10_method_13_code 31 = .ok (.iload 4, 2)) rfl (by decide),
  zs_iload_n (i := 1) rfl hX (by decide +kernel : decode prog_10_method_13_code 33 = .ok (.iload_n 1, 1)) rfl (by decide),
  zs_cgt hX (by decide +kernel : decode prog_10_method_13_code 34 = .ok (.if_icmp .gt 6, 3)) (by decide) rfl, trivial⟩
set_option maxRecDepth 20000 in
theorem s_X8_weeksTo_1 {l : Launch} {D : va_G} {ad : Nat → Nat → Nat} {cy : Nat → ClassId} {L : List (Nat × Nat)} (hcl : zclo L = true) (hinj : zAd ad L) {X : zCtx} (hX : zXok X "SoapTreaty$State" prog_10_method_13_code 6) (hR : zRt X (some .int)) (hl : zXl X l D ad cy L (zroom 4)) : zAllR (zSo X) p_X8_weeksTo_1 := ⟨zs_iload hX (by decide +kernel : decode prog_10_method_13_code 37 = .ok (.iload 5, 2)) rfl (by decide),
  zs_iret hX hR (by decide +kernel : decode prog_10_method_13_code 39 = .ok (.ireturn, 1)),
  zs_aload_n (i := 0) rfl hX (by decide +kernel : decode prog_10_method_13_code 40 = .ok (.aload_n 0, 1)) rfl (by decide),
  zs_iload_n (i := 2) rfl hX (by decide +kernel : decode prog_10_method_13_code 41 = .ok (.iload_n 2, 1)) rfl (by decide),
  zs_iload_n (i := 3) rfl hX (by decide +kernel : decode prog_10_method_13_code 42 = .ok (.iload_n 3, 1)) rfl (by decide),
  zs_callVi hX zMV_8_84 (zXc_of hl (by decide) (k_X8_canWear hcl hinj)) (by decide +kernel : decode prog_10_method_13_code 43 = .ok (.invokevirtual 84, 3)) rfl,
  zs_0ne hX (by decide +kernel : decode prog_10_method_13_code 46 = .ok (.ifCond .ne 5, 3)) (by decide) rfl,
  zs_pushI (zg_iconst (by decide) hX (by decide +kernel : decode prog_10_method_13_code 49 = .ok (.iconst (-1), 1)) rfl),
  zs_iret hX hR (by decide +kernel : decode prog_10_method_13_code 50 = .ok (.ireturn, 1)),
  zs_aload_n (i := 0) rfl hX (by decide +kernel : decode prog_10_method_13_code 51 = .ok (.aload_n 0, 1)) rfl (by decide),
  zs_getR hX zFL_8_23 (by decide +kernel : decode prog_10_method_13_code 52 = .ok (.getfield 23, 3)) rfl,
  zs_iload_n (i := 2) rfl hX (by decide +kernel : decode prog_10_method_13_code 55 = .ok (.iload_n 2, 1)) rfl (by decide),
  zs_iload_n (i := 3) rfl hX (by decide +kernel : decode prog_10_method_13_code 56 = .ok (.iload_n 3, 1)) rfl (by decide),
  zs_iload hX (by decide +kernel : decode prog_10_method_13_code 57 = .ok (.iload 4, 2)) rfl (by decide),
  zs_aload_n (i := 0) rfl hX (by decide +kernel : decode prog_10_method_13_code 59 = .ok (.aload_n 0, 1)) rfl (by decide),
  zs_getR hX zFL_8_20 (by decide +kernel : decode prog_10_method_13_code 60 = .ok (.getfield 20, 3)) rfl,
  zs_iload_n (i := 2) rfl hX (by decide +kernel : decode prog_10_method_13_code 63 = .ok (.iload_n 2, 1)) rfl (by decide),
  zs_iald hX (by decide +kernel : decode prog_10_method_13_code 64 = .ok (.iaload, 1)) rfl,
  zs_iload hX (by decide +kernel : decode prog_10_method_13_code 65 = .ok (.iload 5, 2)) rfl (by decide),
  zs_ii (zg_iadd hX (by decide +kernel : decode prog_10_method_13_code 67 = .ok (.iadd, 1)) rfl), trivial⟩
set_option maxRecDepth 20000 in
theorem s_X8_weeksTo_2 {l : Launch} {D : va_G} {ad : Nat → Nat → Nat} {cy : Nat → ClassId} {L : List (Nat × Nat)} (hcl : zclo L = true) (hinj : zAd ad L) {X : zCtx} (hX : zXok X "SoapTreaty$State" prog_10_method_13_code 6) (hR : zRt X (some .int)) (hl : zXl X l D ad cy L (zroom 4)) : zAllR (zSo X) p_X8_weeksTo_2 := ⟨zs_callVi hX zMV_8_80 (zXc_of hl (by decide) (k_X0_thickWashed hcl hinj)) (by decide +kernel : decode prog_10_method_13_code 68 = .ok (.invokevirtual 80, 3)) rfl,
  zs_istore hX (by decide +kernel : decode prog_10_method_13_code 71 = .ok (.istore 4, 2)) rfl (by decide),
  zs_iinc hX (by decide +kernel : decode prog_10_method_13_code 73 = .ok (.iinc 5 1, 3)) (by decide) rfl (by decide),
  zs_goto hX (by decide +kernel : decode prog_10_method_13_code 76 = .ok (.goto (-52), 3)) (by decide),
  zs_pushI (zg_iconst (by decide) hX (by decide +kernel : decode prog_10_method_13_code 79 = .ok (.iconst (-1), 1)) rfl),
  zs_iret hX hR (by decide +kernel : decode prog_10_method_13_code 80 = .ok (.ireturn, 1)), trivial⟩
theorem k_X8_weeksTo {l : Launch} {D : va_G} {ad : Nat → Nat → Nat} {cy : Nat → ClassId} {L : List (Nat × Nat)} (hcl : zclo L = true) (hinj : zAd ad L) : zCk l D ad cy L 4 f_X8_weeksTo y_X8_weeksTo (.code y_X8_weeksTo prog_10_method_13_code 6 (some .int)) :=
  z_met (by decide) t_X8_weeksTo hcl hinj (fun X hX hR hl k => zgs_all (Q := zSo X) (c := [(35, p_X8_weeksTo_0), (68, p_X8_weeksTo_1), (81, p_X8_weeksTo_2)]) (fun _ => zs_bad) ⟨s_X8_weeksTo_0 hcl hinj hX hR hl, s_X8_weeksTo_1 hcl hinj hX hR hl, s_X8_weeksTo_2 hcl hinj hX hR hl, trivial⟩ k)
set_option maxRecDepth 1000000 in
theorem e_X8_weeksTo_0 (jx0 : Nat) (x1 : Int32) (x2 : Int32) (x3 : Int32) (h : zH) : zL p_X8_weeksTo 0 [some (.inr (.inr (8, jx0))), some (.inl x1), some (.inl x2), some (.inl x3), none, none] [] h = zci (f_X0_hasCake [(.inr (.inr (0, 0))), (.inl x2)] h) (fun r2 h1 => zf (r2 = 0) (some (some (.inl zm1), h1)) (zf (vp_in x2 7) (zL p_X8_weeksTo 24 [some (.inr (.inr (8, jx0))), some (.inl x1), some (.inl x2), some (.inl x3), some (.inl (h1.1 32 jx0 x2.toNatClampNeg)), some (.inl 0)] [] h1) none)) := (zL_s (t_X8_weeksTo) [0, 24] 1000 0 _ _ _).trans rfl
theorem g_X8_weeksTo (jx0 : Nat) (x1 : Int32) (x2 : Int32) (x3 : Int32) (h : zH) : f_X8_weeksTo [(.inr (.inr (8, jx0))), (.inl x1), (.inl x2), (.inl x3)] h = zci (f_X0_hasCake [(.inr (.inr (0, 0))), (.inl x2)] h) (fun r2 h1 => zf (r2 = 0) (some (some (.inl zm1), h1)) (zf (vp_in x2 7) (zL p_X8_weeksTo 24 [some (.inr (.inr (8, jx0))), some (.inl x1), some (.inl x2), some (.inl x3), some (.inl (h1.1 32 jx0 x2.toNatClampNeg)), some (.inl 0)] [] h1) none)) := (show f_X8_weeksTo _ h = zL p_X8_weeksTo 0 _ [] h from rfl).trans (e_X8_weeksTo_0 jx0 x1 x2 x3 h)
set_option maxRecDepth 1000000 in
theorem e_X8_weeksTo_24 (jx0 : Nat) (x1 : Int32) (x2 : Int32) (x3 : Int32) (x4 : Int32) (x5 : Int32) (h : zH) : zL p_X8_weeksTo 24 [some (.inr (.inr (8, jx0))), some (.inl x1), some (.inl x2), some (.inl x3), some (.inl x4), some (.inl x5)] [] h = zf (99 < x5) (some (some (.inl zm1), h)) (zf (x1 < x4) (zci (f_X8_canWear [(.inr (.inr (8, jx0))), (.inl x2), (.inl x3)] h) (fun r2 h1 => zf (r2 = 0) (some (some (.inl zm1), h1)) (zf (vp_in x2 7) (zci (f_X0_thickWashed [(.inr (.inr (0, 0))), (.inl x2), (.inl x3), (.inl x4), (.inl ((h1.1 33 jx0 x2.toNatClampNeg) + x5))] h1) (fun r4 h3 => zL p_X8_weeksTo 24 [some (.inr (.inr (8, jx0))), some (.inl x1), some (.inl x2), some (.inl x3), some (.inl r4), some (.inl (x5 + 1))] [] h3)) none))) (some (some (.inl x5), h))) := (zL_s (t_X8_weeksTo) [0, 24] 1000 24 _ _ _).trans rfl
/-! SoapTreaty$State.thickBehind(II)I -/
def y_X8_thickBehind : MethodName := ⟨"SoapTreaty$State", "thickBehind", "(II)I"⟩
noncomputable def p_X8_thickBehind_0 : List (Nat × zO) := [(0, zo_aload 0 1),
  (1, zo_getR 8 0 (some 0) 4),
  (4, zo_iload 2 5),
  (5, zo_vir 0 2 (zo_calli (f_X0_hasCake) 2 8)),
  (8, zo_0ne 13 11),
  (11, zo_push (.inl 0) 12),
  (12, zo_iret),
  (13, zo_aload 0 14),
  (14, zo_getR 8 32 none 17),
  (17, zo_iload 2 18),
  (18, zo_iald 19),
  (19, zo_istore 3 20),
  (20, zo_push (.inl 0) 21),
  (21, zo_istore 4 23),
  (23, zo_iload 4 25),
  (25, zo_iload 1 26),
  (26, zo_cge 78 29),
  (29, zo_iload 3 30),
  (30, zo_0le 78 33),
  (33, zo_aload 0 34)]
noncomputable def p_X8_thickBehind_1 : List (Nat × zO) := [(34, zo_iload 2 35),
  (35, zo_aload 0 36),
  (36, zo_getR 8 31 none 39),
  (39, zo_iload 2 40),
  (40, zo_iald 41),
  (41, zo_vir 8 3 (zo_calli (f_X8_canWear) 3 44)),
  (44, zo_0eq 78 47),
  (47, zo_aload 0 48),
  (48, zo_getR 8 0 (some 0) 51),
  (51, zo_iload 2 52),
  (52, zo_aload 0 53),
  (53, zo_getR 8 31 none 56),
  (56, zo_iload 2 57),
  (57, zo_iald 58),
  (58, zo_iload 3 59),
  (59, zo_aload 0 60),
  (60, zo_getR 8 33 none 63),
  (63, zo_iload 2 64),
  (64, zo_iald 65),
  (65, zo_iload 4 67)]
noncomputable def p_X8_thickBehind_2 : List (Nat × zO) := [(67, zo_ii (fun x y => x + y) 68),
  (68, zo_vir 0 5 (zo_calli (f_X0_thickWashed) 5 71)),
  (71, zo_istore 3 72),
  (72, zo_iinc 4 1 75),
  (75, zo_goto 23),
  (78, zo_iload 3 79),
  (79, zo_iret)]
noncomputable def p_X8_thickBehind : Nat → zO := zgs [(34, p_X8_thickBehind_0), (66, p_X8_thickBehind_1), (80, p_X8_thickBehind_2)]
theorem t_X8_thickBehind : ∀ k, zTl (p_X8_thickBehind k) := fun k => zgs_all (c := [(34, p_X8_thickBehind_0), (66, p_X8_thickBehind_1), (80, p_X8_thickBehind_2)]) (fun _ => zl_bad) ⟨⟨zl_aload, zl_getR, zl_iload, (zl_vir zl_calli), zl_0ne, zl_push, zl_iret, zl_aload, zl_getR, zl_iload, zl_iald, zl_istore, zl_push, zl_istore, zl_iload, zl_iload, zl_cge, zl_iload, zl_0le, zl_aload, trivial⟩, ⟨zl_iload, zl_aload, zl_getR, zl_iload, zl_iald, (zl_vir zl_calli), zl_0eq, zl_aload, zl_getR, zl_iload, zl_aload, zl_getR, zl_iload, zl_iald, zl_iload, zl_aload, zl_getR, zl_iload, zl_iald, zl_iload, trivial⟩, ⟨zl_ii, (zl_vir zl_calli), zl_istore, zl_iinc, zl_goto, zl_iload, zl_iret, trivial⟩, trivial⟩ k
noncomputable def f_X8_thickBehind : zS := zrun p_X8_thickBehind 5
set_option maxRecDepth 20000 in
theorem s_X8_thickBehind_0 {l : Launch} {D : va_G} {ad : Nat → Nat → Nat} {cy : Nat → ClassId} {L : List (Nat × Nat)} (hcl : zclo L = true) (hinj : zAd ad L) {X : zCtx} (hX : zXok X "SoapTreaty$State" prog_10_method_14_code 5) (hR : zRt X (some .int)) (hl : zXl X l D ad cy L (zroom 4)) : zAllR (zSo X) p_X8_thickBehind_0 := ⟨zs_aload_n (i := 0) rfl hX (by decide +kernel : decode prog_10_method_14_code 0 = .ok (.aload_n 0, 1)) rfl (by decide),
  zs_getR hX zFL_8_23 (by decide +kernel : decode prog_10_method_14_code 1 = .ok (.getfield 23, 3)) rfl,
  zs_iload_n (i := 2) rfl hX (by decide +kernel : decode prog_10_method_14_code 4 = .ok (.iload_n 2, 1)) rfl (by decide),
  zs_callVi hX zMV_8_47 (zXc_of hl (by decide) (k_X0_hasCake hcl hinj)) (by decide +kernel : decode prog_10_method_14_code 5 = .ok (.invokevirtual 47, 3)) rfl,
  zs_0ne hX (by decide +kernel : decode prog_10_method_14_code 8 = .ok (.ifCond .ne 5, 3)) (by decide) rfl,
  zs_pushI (zg_iconst (by decide) hX (by decide +kernel : decode prog_10_method_14_code 11 = .ok (.iconst 0, 1)) rfl),
  zs_iret hX hR (by decide +kernel : decode prog_10_method_14_code 12 = .ok (.ireturn, 1)),
  zs_aload_n (i := 0) rfl hX (by decide +kernel : decode prog_10_method_14_code 13 = .ok (.aload_n 0, 1)) rfl (by decide),
  zs_getR hX zFL_8_17 (by decide +kernel : decode prog_10_method_14_code 14 = .ok (.getfield 17, 3)) rfl,
  zs_iload_n (i := 2) rfl hX (by decide +kernel : decode prog_10_method_14_code 17 = .ok (.iload_n 2, 1)) rfl (by decide),
  zs_iald hX (by decide +kernel : decode prog_10_method_14_code 18 = .ok (.iaload, 1)) rfl,
  zs_istore_n (i := 3) rfl hX (by decide +kernel : decode prog_10_method_14_code 19 = .ok (.istore_n 3, 1)) rfl (by decide),
  zs_pushI (zg_iconst (by decide) hX (by decide +kernel : decode prog_10_method_14_code 20 = .ok (.iconst 0, 1)) rfl),
  zs_istore hX (by decide +kernel : decode prog_10_method_14_code 21 = .ok (.istore 4, 2)) rfl (by decide),
  zs_iload hX (by decide +kernel : decode prog_10_method_14_code 23 = .ok (.iload 4, 2)) rfl (by decide),
  zs_iload_n (i := 1) rfl hX (by decide +kernel : decode prog_10_method_14_code 25 = .ok (.iload_n 1, 1)) rfl (by decide),
  zs_cge hX (by decide +kernel : decode prog_10_method_14_code 26 = .ok (.if_icmp .ge 52, 3)) (by decide) rfl,
  zs_iload_n (i := 3) rfl hX (by decide +kernel : decode prog_10_method_14_code 29 = .ok (.iload_n 3, 1)) rfl (by decide),
  zs_0le hX (by decide +kernel : decode prog_10_method_14_code 30 = .ok (.ifCond .le 48, 3)) (by decide) rfl,
  zs_aload_n (i := 0) rfl hX (by decide +kernel : decode prog_10_method_14_code 33 = .ok (.aload_n 0, 1)) rfl (by decide), trivial⟩
set_option maxRecDepth 20000 in
theorem s_X8_thickBehind_1 {l : Launch} {D : va_G} {ad : Nat → Nat → Nat} {cy : Nat → ClassId} {L : List (Nat × Nat)} (hcl : zclo L = true) (hinj : zAd ad L) {X : zCtx} (hX : zXok X "SoapTreaty$State" prog_10_method_14_code 5) (hR : zRt X (some .int)) (hl : zXl X l D ad cy L (zroom 4)) : zAllR (zSo X) p_X8_thickBehind_1 := ⟨zs_iload_n (i := 2) rfl hX (by decide +kernel : decode prog_10_method_14_code 34 = .ok (.iload_n 2, 1)) rfl (by decide),
  zs_aload_n (i := 0) rfl hX (by decide +kernel : decode prog_10_method_14_code 35 = .ok (.aload_n 0, 1)) rfl (by decide),
  zs_getR hX zFL_8_11 (by decide +kernel : decode prog_10_method_14_code 36 = .ok (.getfield 11, 3)) rfl,
  zs_iload_n (i := 2) rfl hX (by decide +kernel : decode prog_10_method_14_code 39 = .ok (.iload_n 2, 1)) rfl (by decide),
  zs_iald hX (by decide +kernel : decode prog_10_method_14_code 40 = .ok (.iaload, 1)) rfl,
  zs_callVi hX zMV_8_84 (zXc_of hl (by decide) (k_X8_canWear hcl hinj)) (by decide +kernel : decode prog_10_method_14_code 41 = .ok (.invokevirtual 84, 3)) rfl,
  zs_0eq hX (by decide +kernel : decode prog_10_method_14_code 44 = .ok (.ifCond .eq 34, 3)) (by decide) rfl,
  zs_aload_n (i := 0) rfl hX (by decide +kernel : decode prog_10_method_14_code 47 = .ok (.aload_n 0, 1)) rfl (by decide),
  zs_getR hX zFL_8_23 (by decide +kernel : decode prog_10_method_14_code 48 = .ok (.getfield 23, 3)) rfl,
  zs_iload_n (i := 2) rfl hX (by decide +kernel : decode prog_10_method_14_code 51 = .ok (.iload_n 2, 1)) rfl (by decide),
  zs_aload_n (i := 0) rfl hX (by decide +kernel : decode prog_10_method_14_code 52 = .ok (.aload_n 0, 1)) rfl (by decide),
  zs_getR hX zFL_8_11 (by decide +kernel : decode prog_10_method_14_code 53 = .ok (.getfield 11, 3)) rfl,
  zs_iload_n (i := 2) rfl hX (by decide +kernel : decode prog_10_method_14_code 56 = .ok (.iload_n 2, 1)) rfl (by decide),
  zs_iald hX (by decide +kernel : decode prog_10_method_14_code 57 = .ok (.iaload, 1)) rfl,
  zs_iload_n (i := 3) rfl hX (by decide +kernel : decode prog_10_method_14_code 58 = .ok (.iload_n 3, 1)) rfl (by decide),
  zs_aload_n (i := 0) rfl hX (by decide +kernel : decode prog_10_method_14_code 59 = .ok (.aload_n 0, 1)) rfl (by decide),
  zs_getR hX zFL_8_20 (by decide +kernel : decode prog_10_method_14_code 60 = .ok (.getfield 20, 3)) rfl,
  zs_iload_n (i := 2) rfl hX (by decide +kernel : decode prog_10_method_14_code 63 = .ok (.iload_n 2, 1)) rfl (by decide),
  zs_iald hX (by decide +kernel : decode prog_10_method_14_code 64 = .ok (.iaload, 1)) rfl,
  zs_iload hX (by decide +kernel : decode prog_10_method_14_code 65 = .ok (.iload 4, 2)) rfl (by decide), trivial⟩
set_option maxRecDepth 20000 in
theorem s_X8_thickBehind_2 {l : Launch} {D : va_G} {ad : Nat → Nat → Nat} {cy : Nat → ClassId} {L : List (Nat × Nat)} (hcl : zclo L = true) (hinj : zAd ad L) {X : zCtx} (hX : zXok X "SoapTreaty$State" prog_10_method_14_code 5) (hR : zRt X (some .int)) (hl : zXl X l D ad cy L (zroom 4)) : zAllR (zSo X) p_X8_thickBehind_2 := ⟨zs_ii (zg_iadd hX (by decide +kernel : decode prog_10_method_14_code 67 = .ok (.iadd, 1)) rfl),
  zs_callVi hX zMV_8_80 (zXc_of hl (by decide) (k_X0_thickWashed hcl hinj)) (by decide +kernel : decode prog_10_method_14_code 68 = .ok (.invokevirtual 80, 3)) rfl,
  zs_istore_n (i := 3) rfl hX (by decide +kernel : decode prog_10_method_14_code 71 = .ok (.istore_n 3, 1)) rfl (by decide),
  zs_iinc hX (by decide +kernel : decode prog_10_method_14_code 72 = .ok (.iinc 4 1, 3)) (by decide) rfl (by decide),
  zs_goto hX (by decide +kernel : decode prog_10_method_14_code 75 = .ok (.goto (-52), 3)) (by decide),
  zs_iload_n (i := 3) rfl hX (by decide +kernel : decode prog_10_method_14_code 78 = .ok (.iload_n 3, 1)) rfl (by decide),
  zs_iret hX hR (by decide +kernel : decode prog_10_method_14_code 79 = .ok (.ireturn, 1)), trivial⟩
theorem k_X8_thickBehind {l : Launch} {D : va_G} {ad : Nat → Nat → Nat} {cy : Nat → ClassId} {L : List (Nat × Nat)} (hcl : zclo L = true) (hinj : zAd ad L) : zCk l D ad cy L 4 f_X8_thickBehind y_X8_thickBehind (.code y_X8_thickBehind prog_10_method_14_code 5 (some .int)) :=
  z_met (by decide) t_X8_thickBehind hcl hinj (fun X hX hR hl k => zgs_all (Q := zSo X) (c := [(34, p_X8_thickBehind_0), (66, p_X8_thickBehind_1), (80, p_X8_thickBehind_2)]) (fun _ => zs_bad) ⟨s_X8_thickBehind_0 hcl hinj hX hR hl, s_X8_thickBehind_1 hcl hinj hX hR hl, s_X8_thickBehind_2 hcl hinj hX hR hl, trivial⟩ k)
set_option maxRecDepth 1000000 in
theorem e_X8_thickBehind_0 (jx0 : Nat) (x1 : Int32) (x2 : Int32) (h : zH) : zL p_X8_thickBehind 0 [some (.inr (.inr (8, jx0))), some (.inl x1), some (.inl x2), none, none] [] h = zci (f_X0_hasCake [(.inr (.inr (0, 0))), (.inl x2)] h) (fun r2 h1 => zf (r2 = 0) (some (some (.inl 0), h1)) (zf (vp_in x2 7) (zL p_X8_thickBehind 23 [some (.inr (.inr (8, jx0))), some (.inl x1), some (.inl x2), some (.inl (h1.1 32 jx0 x2.toNatClampNeg)), some (.inl 0)] [] h1) none)) := (zL_s (t_X8_thickBehind) [0, 23] 1000 0 _ _ _).trans rfl
theorem g_X8_thickBehind (jx0 : Nat) (x1 : Int32) (x2 : Int32) (h : zH) : f_X8_thickBehind [(.inr (.inr (8, jx0))), (.inl x1), (.inl x2)] h = zci (f_X0_hasCake [(.inr (.inr (0, 0))), (.inl x2)] h) (fun r2 h1 => zf (r2 = 0) (some (some (.inl 0), h1)) (zf (vp_in x2 7) (zL p_X8_thickBehind 23 [some (.inr (.inr (8, jx0))), some (.inl x1), some (.inl x2), some (.inl (h1.1 32 jx0 x2.toNatClampNeg)), some (.inl 0)] [] h1) none)) := (show f_X8_thickBehind _ h = zL p_X8_thickBehind 0 _ [] h from rfl).trans (e_X8_thickBehind_0 jx0 x1 x2 h)
set_option maxRecDepth 1000000 in
theorem e_X8_thickBehind_23 (jx0 : Nat) (x1 : Int32) (x2 : Int32) (x3 : Int32) (x4 : Int32) (h : zH) : zL p_X8_thickBehind 23 [some (.inr (.inr (8, jx0))), some (.inl x1), some (.inl x2), some (.inl x3), some (.inl x4)] [] h = zf (x4 < x1) (zf (0 < x3) (zf (vp_in x2 7) (zci (f_X8_canWear [(.inr (.inr (8, jx0))), (.inl x2), (.inl (h.1 31 jx0 x2.toNatClampNeg))] h) (fun r2 h1 => zf (r2 = 0) (some (some (.inl x3), h1)) (zf (vp_in x2 7) (zf (vp_in x2 7) (zci (f_X0_thickWashed [(.inr (.inr (0, 0))), (.inl x2), (.inl (h1.1 31 jx0 x2.toNatClampNeg)), (.inl x3), (.inl ((h1.1 33 jx0 x2.toNatClampNeg) + x4))] h1) (fun r4 h3 => zL p_X8_thickBehind 23 [some (.inr (.inr (8, jx0))), some (.inl x1), some (.inl x2), some (.inl r4), some (.inl (x4 + 1))] [] h3)) none) none))) none) (some (some (.inl x3), h))) (some (some (.inl x3), h)) := (zL_s (t_X8_thickBehind) [0, 23] 1000 23 _ _ _).trans rfl
/-! SoapTreaty$State.thereBits()I -/
def y_X8_thereBits : MethodName := ⟨"SoapTreaty$State", "thereBits", "()I"⟩
noncomputable def p_X8_thereBits_0 : List (Nat × zO) := [(0, zo_push (.inl 0) 1),
  (1, zo_istore 1 2),
  (2, zo_push (.inl 0) 3),
  (3, zo_istore 2 4),
  (4, zo_iload 2 5),
  (5, zo_aload 0 6),
  (6, zo_getR 8 0 (some 0) 9),
  (9, zo_getI 0 4 12),
  (12, zo_cge 36 15),
  (15, zo_aload 0 16),
  (16, zo_getR 8 32 none 19),
  (19, zo_iload 2 20),
  (20, zo_iald 21),
  (21, zo_0le 30 24),
  (24, zo_iload 1 25),
  (25, zo_push (.inl 1) 26),
  (26, zo_iload 2 27),
  (27, zo_ii (fun x y => x <<< (y &&& 31)) 28),
  (28, zo_ii (fun x y => x ||| y) 29),
  (29, zo_istore 1 30)]
noncomputable def p_X8_thereBits_1 : List (Nat × zO) := [(30, zo_iinc 2 1 33),
  (33, zo_goto 4),
  (36, zo_iload 1 37),
  (37, zo_iret)]
noncomputable def p_X8_thereBits : Nat → zO := zgs [(30, p_X8_thereBits_0), (38, p_X8_thereBits_1)]
theorem t_X8_thereBits : ∀ k, zTl (p_X8_thereBits k) := fun k => zgs_all (c := [(30, p_X8_thereBits_0), (38, p_X8_thereBits_1)]) (fun _ => zl_bad) ⟨⟨zl_push, zl_istore, zl_push, zl_istore, zl_iload, zl_aload, zl_getR, zl_getI, zl_cge, zl_aload, zl_getR, zl_iload, zl_iald, zl_0le, zl_iload, zl_push, zl_iload, zl_ii, zl_ii, zl_istore, trivial⟩, ⟨zl_iinc, zl_goto, zl_iload, zl_iret, trivial⟩, trivial⟩ k
noncomputable def f_X8_thereBits : zS := zrun p_X8_thereBits 3
set_option maxRecDepth 20000 in
theorem s_X8_thereBits_0 {l : Launch} {D : va_G} {ad : Nat → Nat → Nat} {cy : Nat → ClassId} {L : List (Nat × Nat)} (hcl : zclo L = true) (hinj : zAd ad L) {X : zCtx} (hX : zXok X "SoapTreaty$State" prog_10_method_15_code 3) (hR : zRt X (some .int)) (hl : zXl X l D ad cy L (zroom 1)) : zAllR (zSo X) p_X8_thereBits_0 := ⟨zs_pushI (zg_iconst (by decide) hX (by decide +kernel : decode prog_10_method_15_code 0 = .ok (.iconst 0, 1)) rfl),
  zs_istore_n (i := 1) rfl hX (by decide +kernel : decode prog_10_method_15_code 1 = .ok (.istore_n 1, 1)) rfl (by decide),
  zs_pushI (zg_iconst (by decide) hX (by decide +kernel : decode prog_10_method_15_code 2 = .ok (.iconst 0, 1)) rfl),
  zs_istore_n (i := 2) rfl hX (by decide +kernel : decode prog_10_method_15_code 3 = .ok (.istore_n 2, 1)) rfl (by decide),
  zs_iload_n (i := 2) rfl hX (by decide +kernel : decode prog_10_method_15_code 4 = .ok (.iload_n 2, 1)) rfl (by decide),
  zs_aload_n (i := 0) rfl hX (by decide +kernel : decode prog_10_method_15_code 5 = .ok (.aload_n 0, 1)) rfl (by decide),
  zs_getR hX zFL_8_23 (by decide +kernel : decode prog_10_method_15_code 6 = .ok (.getfield 23, 3)) rfl,
  zs_getI hX zFL_8_54 (by decide) (by decide) (by decide +kernel : decode prog_10_method_15_code 9 = .ok (.getfield 54, 3)) rfl,
  zs_cge hX (by decide +kernel : decode prog_10_method_15_code 12 = .ok (.if_icmp .ge 24, 3)) (by decide) rfl,
  zs_aload_n (i := 0) rfl hX (by decide +kernel : decode prog_10_method_15_code 15 = .ok (.aload_n 0, 1)) rfl (by decide),
  zs_getR hX zFL_8_17 (by decide +kernel : decode prog_10_method_15_code 16 = .ok (.getfield 17, 3)) rfl,
  zs_iload_n (i := 2) rfl hX (by decide +kernel : decode prog_10_method_15_code 19 = .ok (.iload_n 2, 1)) rfl (by decide),
  zs_iald hX (by decide +kernel : decode prog_10_method_15_code 20 = .ok (.iaload, 1)) rfl,
  zs_0le hX (by decide +kernel : decode prog_10_method_15_code 21 = .ok (.ifCond .le 9, 3)) (by decide) rfl,
  zs_iload_n (i := 1) rfl hX (by decide +kernel : decode prog_10_method_15_code 24 = .ok (.iload_n 1, 1)) rfl (by decide),
  zs_pushI (zg_iconst (by decide) hX (by decide +kernel : decode prog_10_method_15_code 25 = .ok (.iconst 1, 1)) rfl),
  zs_iload_n (i := 2) rfl hX (by decide +kernel : decode prog_10_method_15_code 26 = .ok (.iload_n 2, 1)) rfl (by decide),
  zs_ii (zg_ishl hX (by decide +kernel : decode prog_10_method_15_code 27 = .ok (.ishl, 1)) rfl),
  zs_ii (zg_ior hX (by decide +kernel : decode prog_10_method_15_code 28 = .ok (.ior, 1)) rfl),
  zs_istore_n (i := 1) rfl hX (by decide +kernel : decode prog_10_method_15_code 29 = .ok (.istore_n 1, 1)) rfl (by decide), trivial⟩
set_option maxRecDepth 20000 in
theorem s_X8_thereBits_1 {l : Launch} {D : va_G} {ad : Nat → Nat → Nat} {cy : Nat → ClassId} {L : List (Nat × Nat)} (hcl : zclo L = true) (hinj : zAd ad L) {X : zCtx} (hX : zXok X "SoapTreaty$State" prog_10_method_15_code 3) (hR : zRt X (some .int)) (hl : zXl X l D ad cy L (zroom 1)) : zAllR (zSo X) p_X8_thereBits_1 := ⟨zs_iinc hX (by decide +kernel : decode prog_10_method_15_code 30 = .ok (.iinc 2 1, 3)) (by decide) rfl (by decide),
  zs_goto hX (by decide +kernel : decode prog_10_method_15_code 33 = .ok (.goto (-29), 3)) (by decide),
  zs_iload_n (i := 1) rfl hX (by decide +kernel : decode prog_10_method_15_code 36 = .ok (.iload_n 1, 1)) rfl (by decide),
  zs_iret hX hR (by decide +kernel : decode prog_10_method_15_code 37 = .ok (.ireturn, 1)), trivial⟩
theorem k_X8_thereBits {l : Launch} {D : va_G} {ad : Nat → Nat → Nat} {cy : Nat → ClassId} {L : List (Nat × Nat)} (hcl : zclo L = true) (hinj : zAd ad L) : zCk l D ad cy L 1 f_X8_thereBits y_X8_thereBits (.code y_X8_thereBits prog_10_method_15_code 3 (some .int)) :=
  z_met (by decide) t_X8_thereBits hcl hinj (fun X hX hR hl k => zgs_all (Q := zSo X) (c := [(30, p_X8_thereBits_0), (38, p_X8_thereBits_1)]) (fun _ => zs_bad) ⟨s_X8_thereBits_0 hcl hinj hX hR hl, s_X8_thereBits_1 hcl hinj hX hR hl, trivial⟩ k)
set_option maxRecDepth 1000000 in
theorem e_X8_thereBits_0 (jx0 : Nat) (h : zH) : zL p_X8_thereBits 0 [some (.inr (.inr (8, jx0))), none, none] [] h = zL p_X8_thereBits 4 [some (.inr (.inr (8, jx0))), some (.inl 0), some (.inl 0)] [] h := (zL_s (t_X8_thereBits) [0, 4] 1000 0 _ _ _).trans rfl
theorem g_X8_thereBits (jx0 : Nat) (h : zH) : f_X8_thereBits [(.inr (.inr (8, jx0)))] h = zL p_X8_thereBits 4 [some (.inr (.inr (8, jx0))), some (.inl 0), some (.inl 0)] [] h := (show f_X8_thereBits _ h = zL p_X8_thereBits 0 _ [] h from rfl).trans (e_X8_thereBits_0 jx0 h)
set_option maxRecDepth 1000000 in
theorem e_X8_thereBits_4 (jx0 : Nat) (x1 : Int32) (x2 : Int32) (h : zH) : zL p_X8_thereBits 4 [some (.inr (.inr (8, jx0))), some (.inl x1), some (.inl x2)] [] h = zf (x2 < (h.1 0 0 4)) (zf (vp_in x2 7) (zf (0 < (h.1 32 jx0 x2.toNatClampNeg)) (zL p_X8_thereBits 4 [some (.inr (.inr (8, jx0))), some (.inl (x1 ||| ((1 : Int32) <<< (x2 &&& 31)))), some (.inl (x2 + 1))] [] h) (zL p_X8_thereBits 4 [some (.inr (.inr (8, jx0))), some (.inl x1), some (.inl (x2 + 1))] [] h)) none) (some (some (.inl x1), h)) := (zL_s (t_X8_thereBits) [0, 4] 1000 4 _ _ _).trans rfl
/-! SoapTreaty$State.cakesOf(I)I -/
def y_X8_cakesOf : MethodName := ⟨"SoapTreaty$State", "cakesOf", "(I)I"⟩
noncomputable def p_X8_cakesOf_0 : List (Nat × zO) := [(0, zo_push (.inl 0) 1),
  (1, zo_istore 2 2),
  (2, zo_push (.inl 0) 3),
  (3, zo_istore 3 4),
  (4, zo_iload 3 5),
  (5, zo_aload 0 6),
  (6, zo_getR 8 0 (some 0) 9),
  (9, zo_getI 0 4 12),
  (12, zo_cge 37 15),
  (15, zo_aload 0 16),
  (16, zo_getR 8 31 none 19),
  (19, zo_iload 3 20),
  (20, zo_iald 21),
  (21, zo_iload 1 22),
  (22, zo_cne 31 25),
  (25, zo_iload 2 26),
  (26, zo_push (.inl 1) 27),
  (27, zo_iload 3 28),
  (28, zo_ii (fun x y => x <<< (y &&& 31)) 29),
  (29, zo_ii (fun x y => x ||| y) 30)]
noncomputable def p_X8_cakesOf_1 : List (Nat × zO) := [(30, zo_istore 2 31),
  (31, zo_iinc 3 1 34),
  (34, zo_goto 4),
  (37, zo_iload 2 38),
  (38, zo_iret)]
noncomputable def p_X8_cakesOf : Nat → zO := zgs [(30, p_X8_cakesOf_0), (39, p_X8_cakesOf_1)]
theorem t_X8_cakesOf : ∀ k, zTl (p_X8_cakesOf k) := fun k => zgs_all (c := [(30, p_X8_cakesOf_0), (39, p_X8_cakesOf_1)]) (fun _ => zl_bad) ⟨⟨zl_push, zl_istore, zl_push, zl_istore, zl_iload, zl_aload, zl_getR, zl_getI, zl_cge, zl_aload, zl_getR, zl_iload, zl_iald, zl_iload, zl_cne, zl_iload, zl_push, zl_iload, zl_ii, zl_ii, trivial⟩, ⟨zl_istore, zl_iinc, zl_goto, zl_iload, zl_iret, trivial⟩, trivial⟩ k
noncomputable def f_X8_cakesOf : zS := zrun p_X8_cakesOf 4
set_option maxRecDepth 20000 in
theorem s_X8_cakesOf_0 {l : Launch} {D : va_G} {ad : Nat → Nat → Nat} {cy : Nat → ClassId} {L : List (Nat × Nat)} (hcl : zclo L = true) (hinj : zAd ad L) {X : zCtx} (hX : zXok X "SoapTreaty$State" prog_10_method_16_code 4) (hR : zRt X (some .int)) (hl : zXl X l D ad cy L (zroom 1)) : zAllR (zSo X) p_X8_cakesOf_0 := ⟨zs_pushI (zg_iconst (by decide) hX (by decide +kernel : decode prog_10_method_16_code 0 = .ok (.iconst 0, 1)) rfl),
  zs_istore_n (i := 2) rfl hX (by decide +kernel : decode prog_10_method_16_code 1 = .ok (.istore_n 2, 1)) rfl (by decide),
  zs_pushI (zg_iconst (by decide) hX (by decide +kernel : decode prog_10_method_16_code 2 = .ok (.iconst 0, 1)) rfl),
  zs_istore_n (i := 3) rfl hX (by decide +kernel : decode prog_10_method_16_code 3 = .ok (.istore_n 3, 1)) rfl (by decide),
  zs_iload_n (i := 3) rfl hX (by decide +kernel : decode prog_10_method_16_code 4 = .ok (.iload_n 3, 1)) rfl (by decide),
  zs_aload_n (i := 0) rfl hX (by decide +kernel : decode prog_10_method_16_code 5 = .ok (.aload_n 0, 1)) rfl (by decide),
  zs_getR hX zFL_8_23 (by decide +kernel : decode prog_10_method_16_code 6 = .ok (.getfield 23, 3)) rfl,
  zs_getI hX zFL_8_54 (by decide) (by decide) (by decide +kernel : decode prog_10_method_16_code 9 = .ok (.getfield 54, 3)) rfl,
  zs_cge hX (by decide +kernel : decode prog_10_method_16_code 12 = .ok (.if_icmp .ge 25, 3)) (by decide) rfl,
  zs_aload_n (i := 0) rfl hX (by decide +kernel : decode prog_10_method_16_code 15 = .ok (.aload_n 0, 1)) rfl (by decide),
  zs_getR hX zFL_8_11 (by decide +kernel : decode prog_10_method_16_code 16 = .ok (.getfield 11, 3)) rfl,
  zs_iload_n (i := 3) rfl hX (by decide +kernel : decode prog_10_method_16_code 19 = .ok (.iload_n 3, 1)) rfl (by decide),
  zs_iald hX (by decide +kernel : decode prog_10_method_16_code 20 = .ok (.iaload, 1)) rfl,
  zs_iload_n (i := 1) rfl hX (by decide +kernel : decode prog_10_method_16_code 21 = .ok (.iload_n 1, 1)) rfl (by decide),
  zs_cne hX (by decide +kernel : decode prog_10_method_16_code 22 = .ok (.if_icmp .ne 9, 3)) (by decide) rfl,
  zs_iload_n (i := 2) rfl hX (by decide +kernel : decode prog_10_method_16_code 25 = .ok (.iload_n 2, 1)) rfl (by decide),
  zs_pushI (zg_iconst (by decide) hX (by decide +kernel : decode prog_10_method_16_code 26 = .ok (.iconst 1, 1)) rfl),
  zs_iload_n (i := 3) rfl hX (by decide +kernel : decode prog_10_method_16_code 27 = .ok (.iload_n 3, 1)) rfl (by decide),
  zs_ii (zg_ishl hX (by decide +kernel : decode prog_10_method_16_code 28 = .ok (.ishl, 1)) rfl),
  zs_ii (zg_ior hX (by decide +kernel : decode prog_10_method_16_code 29 = .ok (.ior, 1)) rfl), trivial⟩
set_option maxRecDepth 20000 in
theorem s_X8_cakesOf_1 {l : Launch} {D : va_G} {ad : Nat → Nat → Nat} {cy : Nat → ClassId} {L : List (Nat × Nat)} (hcl : zclo L = true) (hinj : zAd ad L) {X : zCtx} (hX : zXok X "SoapTreaty$State" prog_10_method_16_code 4) (hR : zRt X (some .int)) (hl : zXl X l D ad cy L (zroom 1)) : zAllR (zSo X) p_X8_cakesOf_1 := ⟨zs_istore_n (i := 2) rfl hX (by decide +kernel : decode prog_10_method_16_code 30 = .ok (.istore_n 2, 1)) rfl (by decide),
  zs_iinc hX (by decide +kernel : decode prog_10_method_16_code 31 = .ok (.iinc 3 1, 3)) (by decide) rfl (by decide),
  zs_goto hX (by decide +kernel : decode prog_10_method_16_code 34 = .ok (.goto (-30), 3)) (by decide),
  zs_iload_n (i := 2) rfl hX (by decide +kernel : decode prog_10_method_16_code 37 = .ok (.iload_n 2, 1)) rfl (by decide),
  zs_iret hX hR (by decide +kernel : decode prog_10_method_16_code 38 = .ok (.ireturn, 1)), trivial⟩
theorem k_X8_cakesOf {l : Launch} {D : va_G} {ad : Nat → Nat → Nat} {cy : Nat → ClassId} {L : List (Nat × Nat)} (hcl : zclo L = true) (hinj : zAd ad L) : zCk l D ad cy L 1 f_X8_cakesOf y_X8_cakesOf (.code y_X8_cakesOf prog_10_method_16_code 4 (some .int)) :=
  z_met (by decide) t_X8_cakesOf hcl hinj (fun X hX hR hl k => zgs_all (Q := zSo X) (c := [(30, p_X8_cakesOf_0), (39, p_X8_cakesOf_1)]) (fun _ => zs_bad) ⟨s_X8_cakesOf_0 hcl hinj hX hR hl, s_X8_cakesOf_1 hcl hinj hX hR hl, trivial⟩ k)
set_option maxRecDepth 1000000 in
theorem e_X8_cakesOf_0 (jx0 : Nat) (x1 : Int32) (h : zH) : zL p_X8_cakesOf 0 [some (.inr (.inr (8, jx0))), some (.inl x1), none, none] [] h = zL p_X8_cakesOf 4 [some (.inr (.inr (8, jx0))), some (.inl x1), some (.inl 0), some (.inl 0)] [] h := (zL_s (t_X8_cakesOf) [0, 4] 1000 0 _ _ _).trans rfl
theorem g_X8_cakesOf (jx0 : Nat) (x1 : Int32) (h : zH) : f_X8_cakesOf [(.inr (.inr (8, jx0))), (.inl x1)] h = zL p_X8_cakesOf 4 [some (.inr (.inr (8, jx0))), some (.inl x1), some (.inl 0), some (.inl 0)] [] h := (show f_X8_cakesOf _ h = zL p_X8_cakesOf 0 _ [] h from rfl).trans (e_X8_cakesOf_0 jx0 x1 h)
set_option maxRecDepth 1000000 in
theorem e_X8_cakesOf_4 (jx0 : Nat) (x1 : Int32) (x2 : Int32) (x3 : Int32) (h : zH) : zL p_X8_cakesOf 4 [some (.inr (.inr (8, jx0))), some (.inl x1), some (.inl x2), some (.inl x3)] [] h = zf (x3 < (h.1 0 0 4)) (zf (vp_in x3 7) (zf ((h.1 31 jx0 x3.toNatClampNeg) = x1) (zL p_X8_cakesOf 4 [some (.inr (.inr (8, jx0))), some (.inl x1), some (.inl (x2 ||| ((1 : Int32) <<< (x3 &&& 31)))), some (.inl (x3 + 1))] [] h) (zL p_X8_cakesOf 4 [some (.inr (.inr (8, jx0))), some (.inl x1), some (.inl x2), some (.inl (x3 + 1))] [] h)) none) (some (some (.inl x2), h)) := (zL_s (t_X8_cakesOf) [0, 4] 1000 4 _ _ _).trans rfl
/-! SoapTreaty$State.slivers()I -/
def y_X8_slivers : MethodName := ⟨"SoapTreaty$State", "slivers", "()I"⟩
noncomputable def p_X8_slivers_0 : List (Nat × zO) := [(0, zo_push (.inl 0) 1),
  (1, zo_istore 1 2),
  (2, zo_push (.inl 0) 3),
  (3, zo_istore 2 4),
  (4, zo_iload 2 5),
  (5, zo_aload 0 6),
  (6, zo_getR 8 0 (some 0) 9),
  (9, zo_getI 0 4 12),
  (12, zo_cge 52 15),
  (15, zo_aload 0 16),
  (16, zo_getR 8 32 none 19),
  (19, zo_iload 2 20),
  (20, zo_iald 21),
  (21, zo_0le 46 24),
  (24, zo_aload 0 25),
  (25, zo_getR 8 32 none 28),
  (28, zo_iload 2 29),
  (29, zo_iald 30),
  (30, zo_aload 0 31),
  (31, zo_getR 8 0 (some 0) 34)]
noncomputable def p_X8_slivers_1 : List (Nat × zO) := [(34, zo_getI 0 11 37),
  (37, zo_cgt 46 40),
  (40, zo_iload 1 41),
  (41, zo_push (.inl 1) 42),
  (42, zo_iload 2 43),
  (43, zo_ii (fun x y => x <<< (y &&& 31)) 44),
  (44, zo_ii (fun x y => x ||| y) 45),
  (45, zo_istore 1 46),
  (46, zo_iinc 2 1 49),
  (49, zo_goto 4),
  (52, zo_iload 1 53),
  (53, zo_iret)]
noncomputable def p_X8_slivers : Nat → zO := zgs [(32, p_X8_slivers_0), (54, p_X8_slivers_1)]
theorem t_X8_slivers : ∀ k, zTl (p_X8_slivers k) := fun k => zgs_all (c := [(32, p_X8_slivers_0), (54, p_X8_slivers_1)]) (fun _ => zl_bad) ⟨⟨zl_push, zl_istore, zl_push, zl_istore, zl_iload, zl_aload, zl_getR, zl_getI, zl_cge, zl_aload, zl_getR, zl_iload, zl_iald, zl_0le, zl_aload, zl_getR, zl_iload, zl_iald, zl_aload, zl_getR, trivial⟩, ⟨zl_getI, zl_cgt, zl_iload, zl_push, zl_iload, zl_ii, zl_ii, zl_istore, zl_iinc, zl_goto, zl_iload, zl_iret, trivial⟩, trivial⟩ k
noncomputable def f_X8_slivers : zS := zrun p_X8_slivers 3
set_option maxRecDepth 20000 in
theorem s_X8_slivers_0 {l : Launch} {D : va_G} {ad : Nat → Nat → Nat} {cy : Nat → ClassId} {L : List (Nat × Nat)} (hcl : zclo L = true) (hinj : zAd ad L) {X : zCtx} (hX : zXok X "SoapTreaty$State" prog_10_method_17_code 3) (hR : zRt X (some .int)) (hl : zXl X l D ad cy L (zroom 1)) : zAllR (zSo X) p_X8_slivers_0 := ⟨zs_pushI (zg_iconst (by decide) hX (by decide +kernel : decode prog_10_method_17_code 0 = .ok (.iconst 0, 1)) rfl),
  zs_istore_n (i := 1) rfl hX (by decide +kernel : decode prog_10_method_17_code 1 = .ok (.istore_n 1, 1)) rfl (by decide),
  zs_pushI (zg_iconst (by decide) hX (by decide +kernel : decode prog_10_method_17_code 2 = .ok (.iconst 0, 1)) rfl),
  zs_istore_n (i := 2) rfl hX (by decide +kernel : decode prog_10_method_17_code 3 = .ok (.istore_n 2, 1)) rfl (by decide),
  zs_iload_n (i := 2) rfl hX (by decide +kernel : decode prog_10_method_17_code 4 = .ok (.iload_n 2, 1)) rfl (by decide),
  zs_aload_n (i := 0) rfl hX (by decide +kernel : decode prog_10_method_17_code 5 = .ok (.aload_n 0, 1)) rfl (by decide),
  zs_getR hX zFL_8_23 (by decide +kernel : decode prog_10_method_17_code 6 = .ok (.getfield 23, 3)) rfl,
  zs_getI hX zFL_8_54 (by decide) (by decide) (by decide +kernel : decode prog_10_method_17_code 9 = .ok (.getfield 54, 3)) rfl,
  zs_cge hX (by decide +kernel : decode prog_10_method_17_code 12 = .ok (.if_icmp .ge 40, 3)) (by decide) rfl,
  zs_aload_n (i := 0) rfl hX (by decide +kernel : decode prog_10_method_17_code 15 = .ok (.aload_n 0, 1)) rfl (by decide),
  zs_getR hX zFL_8_17 (by decide +kernel : decode prog_10_method_17_code 16 = .ok (.getfield 17, 3)) rfl,
  zs_iload_n (i := 2) rfl hX (by decide +kernel : decode prog_10_method_17_code 19 = .ok (.iload_n 2, 1)) rfl (by decide),
  zs_iald hX (by decide +kernel : decode prog_10_method_17_code 20 = .ok (.iaload, 1)) rfl,
  zs_0le hX (by decide +kernel : decode prog_10_method_17_code 21 = .ok (.ifCond .le 25, 3)) (by decide) rfl,
  zs_aload_n (i := 0) rfl hX (by decide +kernel : decode prog_10_method_17_code 24 = .ok (.aload_n 0, 1)) rfl (by decide),
  zs_getR hX zFL_8_17 (by decide +kernel : decode prog_10_method_17_code 25 = .ok (.getfield 17, 3)) rfl,
  zs_iload_n (i := 2) rfl hX (by decide +kernel : decode prog_10_method_17_code 28 = .ok (.iload_n 2, 1)) rfl (by decide),
  zs_iald hX (by decide +kernel : decode prog_10_method_17_code 29 = .ok (.iaload, 1)) rfl,
  zs_aload_n (i := 0) rfl hX (by decide +kernel : decode prog_10_method_17_code 30 = .ok (.aload_n 0, 1)) rfl (by decide),
  zs_getR hX zFL_8_23 (by decide +kernel : decode prog_10_method_17_code 31 = .ok (.getfield 23, 3)) rfl, trivial⟩
set_option maxRecDepth 20000 in
theorem s_X8_slivers_1 {l : Launch} {D : va_G} {ad : Nat → Nat → Nat} {cy : Nat → ClassId} {L : List (Nat × Nat)} (hcl : zclo L = true) (hinj : zAd ad L) {X : zCtx} (hX : zXok X "SoapTreaty$State" prog_10_method_17_code 3) (hR : zRt X (some .int)) (hl : zXl X l D ad cy L (zroom 1)) : zAllR (zSo X) p_X8_slivers_1 := ⟨zs_getI hX zFL_8_92 (by decide) (by decide) (by decide +kernel : decode prog_10_method_17_code 34 = .ok (.getfield 92, 3)) rfl,
  zs_cgt hX (by decide +kernel : decode prog_10_method_17_code 37 = .ok (.if_icmp .gt 9, 3)) (by decide) rfl,
  zs_iload_n (i := 1) rfl hX (by decide +kernel : decode prog_10_method_17_code 40 = .ok (.iload_n 1, 1)) rfl (by decide),
  zs_pushI (zg_iconst (by decide) hX (by decide +kernel : decode prog_10_method_17_code 41 = .ok (.iconst 1, 1)) rfl),
  zs_iload_n (i := 2) rfl hX (by decide +kernel : decode prog_10_method_17_code 42 = .ok (.iload_n 2, 1)) rfl (by decide),
  zs_ii (zg_ishl hX (by decide +kernel : decode prog_10_method_17_code 43 = .ok (.ishl, 1)) rfl),
  zs_ii (zg_ior hX (by decide +kernel : decode prog_10_method_17_code 44 = .ok (.ior, 1)) rfl),
  zs_istore_n (i := 1) rfl hX (by decide +kernel : decode prog_10_method_17_code 45 = .ok (.istore_n 1, 1)) rfl (by decide),
  zs_iinc hX (by decide +kernel : decode prog_10_method_17_code 46 = .ok (.iinc 2 1, 3)) (by decide) rfl (by decide),
  zs_goto hX (by decide +kernel : decode prog_10_method_17_code 49 = .ok (.goto (-45), 3)) (by decide),
  zs_iload_n (i := 1) rfl hX (by decide +kernel : decode prog_10_method_17_code 52 = .ok (.iload_n 1, 1)) rfl (by decide),
  zs_iret hX hR (by decide +kernel : decode prog_10_method_17_code 53 = .ok (.ireturn, 1)), trivial⟩
theorem k_X8_slivers {l : Launch} {D : va_G} {ad : Nat → Nat → Nat} {cy : Nat → ClassId} {L : List (Nat × Nat)} (hcl : zclo L = true) (hinj : zAd ad L) : zCk l D ad cy L 1 f_X8_slivers y_X8_slivers (.code y_X8_slivers prog_10_method_17_code 3 (some .int)) :=
  z_met (by decide) t_X8_slivers hcl hinj (fun X hX hR hl k => zgs_all (Q := zSo X) (c := [(32, p_X8_slivers_0), (54, p_X8_slivers_1)]) (fun _ => zs_bad) ⟨s_X8_slivers_0 hcl hinj hX hR hl, s_X8_slivers_1 hcl hinj hX hR hl, trivial⟩ k)
set_option maxRecDepth 1000000 in
theorem e_X8_slivers_0 (jx0 : Nat) (h : zH) : zL p_X8_slivers 0 [some (.inr (.inr (8, jx0))), none, none] [] h = zL p_X8_slivers 4 [some (.inr (.inr (8, jx0))), some (.inl 0), some (.inl 0)] [] h := (zL_s (t_X8_slivers) [0, 4] 1000 0 _ _ _).trans rfl
theorem g_X8_slivers (jx0 : Nat) (h : zH) : f_X8_slivers [(.inr (.inr (8, jx0)))] h = zL p_X8_slivers 4 [some (.inr (.inr (8, jx0))), some (.inl 0), some (.inl 0)] [] h := (show f_X8_slivers _ h = zL p_X8_slivers 0 _ [] h from rfl).trans (e_X8_slivers_0 jx0 h)
set_option maxRecDepth 1000000 in
theorem e_X8_slivers_4 (jx0 : Nat) (x1 : Int32) (x2 : Int32) (h : zH) : zL p_X8_slivers 4 [some (.inr (.inr (8, jx0))), some (.inl x1), some (.inl x2)] [] h = zf (x2 < (h.1 0 0 4)) (zf (vp_in x2 7) (zf (0 < (h.1 32 jx0 x2.toNatClampNeg)) (zf (vp_in x2 7) (zf ((h.1 0 0 11) < (h.1 32 jx0 x2.toNatClampNeg)) (zL p_X8_slivers 4 [some (.inr (.inr (8, jx0))), some (.inl x1), some (.inl (x2 + 1))] [] h) (zL p_X8_slivers 4 [some (.inr (.inr (8, jx0))), some (.inl (x1 ||| ((1 : Int32) <<< (x2 &&& 31)))), some (.inl (x2 + 1))] [] h)) none) (zL p_X8_slivers 4 [some (.inr (.inr (8, jx0))), some (.inl x1), some (.inl (x2 + 1))] [] h)) none) (some (some (.inl x1), h)) := (zL_s (t_X8_slivers) [0, 4] 1000 4 _ _ _).trans rfl
/-! SoapTreaty$State.thickOf(I)I -/
def y_X8_thickOf : MethodName := ⟨"SoapTreaty$State", "thickOf", "(I)I"⟩
noncomputable def p_X8_thickOf_0 : List (Nat × zO) := [(0, zo_push (.inl 0) 1),
  (1, zo_istore 2 2),
  (2, zo_push (.inl 0) 3),
  (3, zo_istore 3 4),
  (4, zo_iload 3 5),
  (5, zo_aload 0 6),
  (6, zo_getR 8 0 (some 0) 9),
  (9, zo_getI 0 4 12),
  (12, zo_cge 39 15),
  (15, zo_iload 1 16),
  (16, zo_iload 3 17),
  (17, zo_ii (fun x y => x >>> (y &&& 31)) 18),
  (18, zo_push (.inl 1) 19),
  (19, zo_ii (fun x y => x &&& y) 20),
  (20, zo_push (.inl 1) 21),
  (21, zo_cne 33 24),
  (24, zo_iload 2 25),
  (25, zo_aload 0 26),
  (26, zo_getR 8 32 none 29),
  (29, zo_iload 3 30)]
noncomputable def p_X8_thickOf_1 : List (Nat × zO) := [(30, zo_iald 31),
  (31, zo_ii (fun x y => x + y) 32),
  (32, zo_istore 2 33),
  (33, zo_iinc 3 1 36),
  (36, zo_goto 4),
  (39, zo_iload 2 40),
  (40, zo_iret)]
noncomputable def p_X8_thickOf : Nat → zO := zgs [(30, p_X8_thickOf_0), (41, p_X8_thickOf_1)]
theorem t_X8_thickOf : ∀ k, zTl (p_X8_thickOf k) := fun k => zgs_all (c := [(30, p_X8_thickOf_0), (41, p_X8_thickOf_1)]) (fun _ => zl_bad) ⟨⟨zl_push, zl_istore, zl_push, zl_istore, zl_iload, zl_aload, zl_getR, zl_getI, zl_cge, zl_iload, zl_iload, zl_ii, zl_push, zl_ii, zl_push, zl_cne, zl_iload, zl_aload, zl_getR, zl_iload, trivial⟩, ⟨zl_iald, zl_ii, zl_istore, zl_iinc, zl_goto, zl_iload, zl_iret, trivial⟩, trivial⟩ k
noncomputable def f_X8_thickOf : zS := zrun p_X8_thickOf 4
set_option maxRecDepth 20000 in
theorem s_X8_thickOf_0 {l : Launch} {D : va_G} {ad : Nat → Nat → Nat} {cy : Nat → ClassId} {L : List (Nat × Nat)} (hcl : zclo L = true) (hinj : zAd ad L) {X : zCtx} (hX : zXok X "SoapTreaty$State" prog_10_method_18_code 4) (hR : zRt X (some .int)) (hl : zXl X l D ad cy L (zroom 1)) : zAllR (zSo X) p_X8_thickOf_0 := ⟨zs_pushI (zg_iconst (by decide) hX (by decide +kernel : decode prog_10_method_18_code 0 = .ok (.iconst 0, 1)) rfl),
  zs_istore_n (i := 2) rfl hX (by decide +kernel : decode prog_10_method_18_code 1 = .ok (.istore_n 2, 1)) rfl (by decide),
  zs_pushI (zg_iconst (by decide) hX (by decide +kernel : decode prog_10_method_18_code 2 = .ok (.iconst 0, 1)) rfl),
  zs_istore_n (i := 3) rfl hX (by decide +kernel : decode prog_10_method_18_code 3 = .ok (.istore_n 3, 1)) rfl (by decide),
  zs_iload_n (i := 3) rfl hX (by decide +kernel : decode prog_10_method_18_code 4 = .ok (.iload_n 3, 1)) rfl (by decide),
  zs_aload_n (i := 0) rfl hX (by decide +kernel : decode prog_10_method_18_code 5 = .ok (.aload_n 0, 1)) rfl (by decide),
  zs_getR hX zFL_8_23 (by decide +kernel : decode prog_10_method_18_code 6 = .ok (.getfield 23, 3)) rfl,
  zs_getI hX zFL_8_54 (by decide) (by decide) (by decide +kernel : decode prog_10_method_18_code 9 = .ok (.getfield 54, 3)) rfl,
  zs_cge hX (by decide +kernel : decode prog_10_method_18_code 12 = .ok (.if_icmp .ge 27, 3)) (by decide) rfl,
  zs_iload_n (i := 1) rfl hX (by decide +kernel : decode prog_10_method_18_code 15 = .ok (.iload_n 1, 1)) rfl (by decide),
  zs_iload_n (i := 3) rfl hX (by decide +kernel : decode prog_10_method_18_code 16 = .ok (.iload_n 3, 1)) rfl (by decide),
  zs_ii (zg_ishr hX (by decide +kernel : decode prog_10_method_18_code 17 = .ok (.ishr, 1)) rfl),
  zs_pushI (zg_iconst (by decide) hX (by decide +kernel : decode prog_10_method_18_code 18 = .ok (.iconst 1, 1)) rfl),
  zs_ii (zg_iand hX (by decide +kernel : decode prog_10_method_18_code 19 = .ok (.iand, 1)) rfl),
  zs_pushI (zg_iconst (by decide) hX (by decide +kernel : decode prog_10_method_18_code 20 = .ok (.iconst 1, 1)) rfl),
  zs_cne hX (by decide +kernel : decode prog_10_method_18_code 21 = .ok (.if_icmp .ne 12, 3)) (by decide) rfl,
  zs_iload_n (i := 2) rfl hX (by decide +kernel : decode prog_10_method_18_code 24 = .ok (.iload_n 2, 1)) rfl (by decide),
  zs_aload_n (i := 0) rfl hX (by decide +kernel : decode prog_10_method_18_code 25 = .ok (.aload_n 0, 1)) rfl (by decide),
  zs_getR hX zFL_8_17 (by decide +kernel : decode prog_10_method_18_code 26 = .ok (.getfield 17, 3)) rfl,
  zs_iload_n (i := 3) rfl hX (by decide +kernel : decode prog_10_method_18_code 29 = .ok (.iload_n 3, 1)) rfl (by decide), trivial⟩
set_option maxRecDepth 20000 in
theorem s_X8_thickOf_1 {l : Launch} {D : va_G} {ad : Nat → Nat → Nat} {cy : Nat → ClassId} {L : List (Nat × Nat)} (hcl : zclo L = true) (hinj : zAd ad L) {X : zCtx} (hX : zXok X "SoapTreaty$State" prog_10_method_18_code 4) (hR : zRt X (some .int)) (hl : zXl X l D ad cy L (zroom 1)) : zAllR (zSo X) p_X8_thickOf_1 := ⟨zs_iald hX (by decide +kernel : decode prog_10_method_18_code 30 = .ok (.iaload, 1)) rfl,
  zs_ii (zg_iadd hX (by decide +kernel : decode prog_10_method_18_code 31 = .ok (.iadd, 1)) rfl),
  zs_istore_n (i := 2) rfl hX (by decide +kernel : decode prog_10_method_18_code 32 = .ok (.istore_n 2, 1)) rfl (by decide),
  zs_iinc hX (by decide +kernel : decode prog_10_method_18_code 33 = .ok (.iinc 3 1, 3)) (by decide) rfl (by decide),
  zs_goto hX (by decide +kernel : decode prog_10_method_18_code 36 = .ok (.goto (-32), 3)) (by decide),
  zs_iload_n (i := 2) rfl hX (by decide +kernel : decode prog_10_method_18_code 39 = .ok (.iload_n 2, 1)) rfl (by decide),
  zs_iret hX hR (by decide +kernel : decode prog_10_method_18_code 40 = .ok (.ireturn, 1)), trivial⟩
theorem k_X8_thickOf {l : Launch} {D : va_G} {ad : Nat → Nat → Nat} {cy : Nat → ClassId} {L : List (Nat × Nat)} (hcl : zclo L = true) (hinj : zAd ad L) : zCk l D ad cy L 1 f_X8_thickOf y_X8_thickOf (.code y_X8_thickOf prog_10_method_18_code 4 (some .int)) :=
  z_met (by decide) t_X8_thickOf hcl hinj (fun X hX hR hl k => zgs_all (Q := zSo X) (c := [(30, p_X8_thickOf_0), (41, p_X8_thickOf_1)]) (fun _ => zs_bad) ⟨s_X8_thickOf_0 hcl hinj hX hR hl, s_X8_thickOf_1 hcl hinj hX hR hl, trivial⟩ k)
set_option maxRecDepth 1000000 in
theorem e_X8_thickOf_0 (jx0 : Nat) (x1 : Int32) (h : zH) : zL p_X8_thickOf 0 [some (.inr (.inr (8, jx0))), some (.inl x1), none, none] [] h = zL p_X8_thickOf 4 [some (.inr (.inr (8, jx0))), some (.inl x1), some (.inl 0), some (.inl 0)] [] h := (zL_s (t_X8_thickOf) [0, 4] 1000 0 _ _ _).trans rfl
theorem g_X8_thickOf (jx0 : Nat) (x1 : Int32) (h : zH) : f_X8_thickOf [(.inr (.inr (8, jx0))), (.inl x1)] h = zL p_X8_thickOf 4 [some (.inr (.inr (8, jx0))), some (.inl x1), some (.inl 0), some (.inl 0)] [] h := (show f_X8_thickOf _ h = zL p_X8_thickOf 0 _ [] h from rfl).trans (e_X8_thickOf_0 jx0 x1 h)
set_option maxRecDepth 1000000 in
theorem e_X8_thickOf_4 (jx0 : Nat) (x1 : Int32) (x2 : Int32) (x3 : Int32) (h : zH) : zL p_X8_thickOf 4 [some (.inr (.inr (8, jx0))), some (.inl x1), some (.inl x2), some (.inl x3)] [] h = zf (x3 < (h.1 0 0 4)) (zf (((x1 >>> (x3 &&& 31)) &&& (1 : Int32)) = 1) (zf (vp_in x3 7) (zL p_X8_thickOf 4 [some (.inr (.inr (8, jx0))), some (.inl x1), some (.inl (x2 + (h.1 32 jx0 x3.toNatClampNeg))), some (.inl (x3 + 1))] [] h) none) (zL p_X8_thickOf 4 [some (.inr (.inr (8, jx0))), some (.inl x1), some (.inl x2), some (.inl (x3 + 1))] [] h)) (some (some (.inl x2), h)) := (zL_s (t_X8_thickOf) [0, 4] 1000 4 _ _ _).trans rfl
/-! SoapTreaty$State.canPressAll(I)Z -/
def y_X8_canPressAll : MethodName := ⟨"SoapTreaty$State", "canPressAll", "(I)Z"⟩
noncomputable def p_X8_canPressAll_0 : List (Nat × zO) := [(0, zo_push (.inl 0) 1),
  (1, zo_istore 2 2),
  (2, zo_iload 2 3),
  (3, zo_aload 0 4),
  (4, zo_getR 8 0 (some 0) 7),
  (7, zo_getI 0 4 10),
  (10, zo_cge 40 13),
  (13, zo_iload 1 14),
  (14, zo_iload 2 15),
  (15, zo_ii (fun x y => x >>> (y &&& 31)) 16),
  (16, zo_push (.inl 1) 17),
  (17, zo_ii (fun x y => x &&& y) 18),
  (18, zo_push (.inl 1) 19),
  (19, zo_cne 34 22),
  (22, zo_aload 0 23),
  (23, zo_push (.inl 4) 24),
  (24, zo_iload 2 25),
  (25, zo_push (.inl zm1) 26),
  (26, zo_vir 8 4 (zo_calli (f_X8_can) 4 29)),
  (29, zo_0ne 34 32)]
noncomputable def p_X8_canPressAll_1 : List (Nat × zO) := [(32, zo_push (.inl 0) 33),
  (33, zo_zretc),
  (34, zo_iinc 2 1 37),
  (37, zo_goto 2),
  (40, zo_push (.inl 1) 41),
  (41, zo_zretc)]
noncomputable def p_X8_canPressAll : Nat → zO := zgs [(30, p_X8_canPressAll_0), (42, p_X8_canPressAll_1)]
theorem t_X8_canPressAll : ∀ k, zTl (p_X8_canPressAll k) := fun k => zgs_all (c := [(30, p_X8_canPressAll_0), (42, p_X8_canPressAll_1)]) (fun _ => zl_bad) ⟨⟨zl_push, zl_istore, zl_iload, zl_aload, zl_getR, zl_getI, zl_cge, zl_iload, zl_iload, zl_ii, zl_push, zl_ii, zl_push, zl_cne, zl_aload, zl_push, zl_iload, zl_push, (zl_vir zl_calli), zl_0ne, trivial⟩, ⟨zl_push, zl_zretc, zl_iinc, zl_goto, zl_push, zl_zretc, trivial⟩, trivial⟩ k
noncomputable def f_X8_canPressAll : zS := zrun p_X8_canPressAll 3
set_option maxRecDepth 20000 in
theorem s_X8_canPressAll_0 {l : Launch} {D : va_G} {ad : Nat → Nat → Nat} {cy : Nat → ClassId} {L : List (Nat × Nat)} (hcl : zclo L = true) (hinj : zAd ad L) {X : zCtx} (hX : zXok X "SoapTreaty$State" prog_10_method_19_code 3) (hR : zRt X (some .boolean)) (hl : zXl X l D ad cy L (zroom 4)) : zAllR (zSo X) p_X8_canPressAll_0 := ⟨zs_pushI (zg_iconst (by decide) hX (by decide +kernel : decode prog_10_method_19_code 0 = .ok (.iconst 0, 1)) rfl),
  zs_istore_n (i := 2) rfl hX (by decide +kernel : decode prog_10_method_19_code 1 = .ok (.istore_n 2, 1)) rfl (by decide),
  zs_iload_n (i := 2) rfl hX (by decide +kernel : decode prog_10_method_19_code 2 = .ok (.iload_n 2, 1)) rfl (by decide),
  zs_aload_n (i := 0) rfl hX (by decide +kernel : decode prog_10_method_19_code 3 = .ok (.aload_n 0, 1)) rfl (by decide),
  zs_getR hX zFL_8_23 (by decide +kernel : decode prog_10_method_19_code 4 = .ok (.getfield 23, 3)) rfl,
  zs_getI hX zFL_8_54 (by decide) (by decide) (by decide +kernel : decode prog_10_method_19_code 7 = .ok (.getfield 54, 3)) rfl,
  zs_cge hX (by decide +kernel : decode prog_10_method_19_code 10 = .ok (.if_icmp .ge 30, 3)) (by decide) rfl,
  zs_iload_n (i := 1) rfl hX (by decide +kernel : decode prog_10_method_19_code 13 = .ok (.iload_n 1, 1)) rfl (by decide),
  zs_iload_n (i := 2) rfl hX (by decide +kernel : decode prog_10_method_19_code 14 = .ok (.iload_n 2, 1)) rfl (by decide),
  zs_ii (zg_ishr hX (by decide +kernel : decode prog_10_method_19_code 15 = .ok (.ishr, 1)) rfl),
  zs_pushI (zg_iconst (by decide) hX (by decide +kernel : decode prog_10_method_19_code 16 = .ok (.iconst 1, 1)) rfl),
  zs_ii (zg_iand hX (by decide +kernel : decode prog_10_method_19_code 17 = .ok (.iand, 1)) rfl),
  zs_pushI (zg_iconst (by decide) hX (by decide +kernel : decode prog_10_method_19_code 18 = .ok (.iconst 1, 1)) rfl),
  zs_cne hX (by decide +kernel : decode prog_10_method_19_code 19 = .ok (.if_icmp .ne 15, 3)) (by decide) rfl,
  zs_aload_n (i := 0) rfl hX (by decide +kernel : decode prog_10_method_19_code 22 = .ok (.aload_n 0, 1)) rfl (by decide),
  zs_pushI (zg_iconst (by decide) hX (by decide +kernel : decode prog_10_method_19_code 23 = .ok (.iconst 4, 1)) rfl),
  zs_iload_n (i := 2) rfl hX (by decide +kernel : decode prog_10_method_19_code 24 = .ok (.iload_n 2, 1)) rfl (by decide),
  zs_pushI (zg_iconst (by decide) hX (by decide +kernel : decode prog_10_method_19_code 25 = .ok (.iconst (-1), 1)) rfl),
  zs_callVi hX zMV_8_72 (zXc_of hl (by decide) (k_X8_can hcl hinj)) (by decide +kernel : decode prog_10_method_19_code 26 = .ok (.invokevirtual 72, 3)) rfl,
  zs_0ne hX (by decide +kernel : decode prog_10_method_19_code 29 = .ok (.ifCond .ne 5, 3)) (by decide) rfl, trivial⟩
set_option maxRecDepth 20000 in
theorem s_X8_canPressAll_1 {l : Launch} {D : va_G} {ad : Nat → Nat → Nat} {cy : Nat → ClassId} {L : List (Nat × Nat)} (hcl : zclo L = true) (hinj : zAd ad L) {X : zCtx} (hX : zXok X "SoapTreaty$State" prog_10_method_19_code 3) (hR : zRt X (some .boolean)) (hl : zXl X l D ad cy L (zroom 4)) : zAllR (zSo X) p_X8_canPressAll_1 := ⟨zs_pushI (zg_iconst (by decide) hX (by decide +kernel : decode prog_10_method_19_code 32 = .ok (.iconst 0, 1)) rfl),
  zs_zretc hX hR (by decide +kernel : decode prog_10_method_19_code 33 = .ok (.ireturn, 1)),
  zs_iinc hX (by decide +kernel : decode prog_10_method_19_code 34 = .ok (.iinc 2 1, 3)) (by decide) rfl (by decide),
  zs_goto hX (by decide +kernel : decode prog_10_method_19_code 37 = .ok (.goto (-35), 3)) (by decide),
  zs_pushI (zg_iconst (by decide) hX (by decide +kernel : decode prog_10_method_19_code 40 = .ok (.iconst 1, 1)) rfl),
  zs_zretc hX hR (by decide +kernel : decode prog_10_method_19_code 41 = .ok (.ireturn, 1)), trivial⟩
theorem k_X8_canPressAll {l : Launch} {D : va_G} {ad : Nat → Nat → Nat} {cy : Nat → ClassId} {L : List (Nat × Nat)} (hcl : zclo L = true) (hinj : zAd ad L) : zCk l D ad cy L 4 f_X8_canPressAll y_X8_canPressAll (.code y_X8_canPressAll prog_10_method_19_code 3 (some .boolean)) :=
  z_met (by decide) t_X8_canPressAll hcl hinj (fun X hX hR hl k => zgs_all (Q := zSo X) (c := [(30, p_X8_canPressAll_0), (42, p_X8_canPressAll_1)]) (fun _ => zs_bad) ⟨s_X8_canPressAll_0 hcl hinj hX hR hl, s_X8_canPressAll_1 hcl hinj hX hR hl, trivial⟩ k)
set_option maxRecDepth 1000000 in
theorem e_X8_canPressAll_0 (jx0 : Nat) (x1 : Int32) (h : zH) : zL p_X8_canPressAll 0 [some (.inr (.inr (8, jx0))), some (.inl x1), none] [] h = zL p_X8_canPressAll 2 [some (.inr (.inr (8, jx0))), some (.inl x1), some (.inl 0)] [] h := (zL_s (t_X8_canPressAll) [0, 2] 1000 0 _ _ _).trans rfl
theorem g_X8_canPressAll (jx0 : Nat) (x1 : Int32) (h : zH) : f_X8_canPressAll [(.inr (.inr (8, jx0))), (.inl x1)] h = zL p_X8_canPressAll 2 [some (.inr (.inr (8, jx0))), some (.inl x1), some (.inl 0)] [] h := (show f_X8_canPressAll _ h = zL p_X8_canPressAll 0 _ [] h from rfl).trans (e_X8_canPressAll_0 jx0 x1 h)
set_option maxRecDepth 1000000 in
theorem e_X8_canPressAll_2 (jx0 : Nat) (x1 : Int32) (x2 : Int32) (h : zH) : zL p_X8_canPressAll 2 [some (.inr (.inr (8, jx0))), some (.inl x1), some (.inl x2)] [] h = zf (x2 < (h.1 0 0 4)) (zf (((x1 >>> (x2 &&& 31)) &&& (1 : Int32)) = 1) (zci (f_X8_can [(.inr (.inr (8, jx0))), (.inl 4), (.inl x2), (.inl zm1)] h) (fun r2 h1 => zf (r2 = 0) (some (some (.inl 0), h1)) (zL p_X8_canPressAll 2 [some (.inr (.inr (8, jx0))), some (.inl x1), some (.inl (x2 + 1))] [] h1))) (zL p_X8_canPressAll 2 [some (.inr (.inr (8, jx0))), some (.inl x1), some (.inl (x2 + 1))] [] h)) (some (some (.inl 1), h)) := (zL_s (t_X8_canPressAll) [0, 2] 1000 2 _ _ _).trans rfl
/-! SoapTreaty$State.warringCakes()I -/
def y_X8_warringCakes : MethodName := ⟨"SoapTreaty$State", "warringCakes", "()I"⟩
noncomputable def p_X8_warringCakes_0 : List (Nat × zO) := [(0, zo_push (.inl 0) 1),
  (1, zo_istore 1 2),
  (2, zo_push (.inl 0) 3),
  (3, zo_istore 2 4),
  (4, zo_iload 2 5),
  (5, zo_aload 0 6),
  (6, zo_getR 8 0 (some 0) 9),
  (9, zo_getI 0 4 12),
  (12, zo_cge 62 15),
  (15, zo_aload 0 16),
  (16, zo_getR 8 32 none 19),
  (19, zo_iload 2 20),
  (20, zo_iald 21),
  (21, zo_0le 56 24),
  (24, zo_aload 0 25),
  (25, zo_iload 2 26),
  (26, zo_vir 8 2 (zo_calli (f_X8_hasHair) 2 29)),
  (29, zo_0eq 56 32),
  (32, zo_aload 0 33),
  (33, zo_getR 8 0 (some 0) 36)]
noncomputable def p_X8_warringCakes_1 : List (Nat × zO) := [(36, zo_getR 0 17 none 39),
  (39, zo_iload 2 40),
  (40, zo_iald 41),
  (41, zo_aload 0 42),
  (42, zo_getR 8 31 none 45),
  (45, zo_iload 2 46),
  (46, zo_iald 47),
  (47, zo_ceq 56 50),
  (50, zo_iload 1 51),
  (51, zo_push (.inl 1) 52),
  (52, zo_iload 2 53),
  (53, zo_ii (fun x y => x <<< (y &&& 31)) 54),
  (54, zo_ii (fun x y => x ||| y) 55),
  (55, zo_istore 1 56),
  (56, zo_iinc 2 1 59),
  (59, zo_goto 4),
  (62, zo_iload 1 63),
  (63, zo_iret)]
noncomputable def p_X8_warringCakes : Nat → zO := zgs [(34, p_X8_warringCakes_0), (64, p_X8_warringCakes_1)]
theorem t_X8_warringCakes : ∀ k, zTl (p_X8_warringCakes k) := fun k => zgs_all (c := [(34, p_X8_warringCakes_0), (64, p_X8_warringCakes_1)]) (fun _ => zl_bad) ⟨⟨zl_push, zl_istore, zl_push, zl_istore, zl_iload, zl_aload, zl_getR, zl_getI, zl_cge, zl_aload, zl_getR, zl_iload, zl_iald, zl_0le, zl_aload, zl_iload, (zl_vir zl_calli), zl_0eq, zl_aload, zl_getR, trivial⟩, ⟨zl_getR, zl_iload, zl_iald, zl_aload, zl_getR, zl_iload, zl_iald, zl_ceq, zl_iload, zl_push, zl_iload, zl_ii, zl_ii, zl_istore, zl_iinc, zl_goto, zl_iload, zl_iret, trivial⟩, trivial⟩ k
noncomputable def f_X8_warringCakes : zS := zrun p_X8_warringCakes 3
set_option maxRecDepth 20000 in
theorem s_X8_warringCakes_0 {l : Launch} {D : va_G} {ad : Nat → Nat → Nat} {cy : Nat → ClassId} {L : List (Nat × Nat)} (hcl : zclo L = true) (hinj : zAd ad L) {X : zCtx} (hX : zXok X "SoapTreaty$State" prog_10_method_20_code 3) (hR : zRt X (some .int)) (hl : zXl X l D ad cy L (zroom 2)) : zAllR (zSo X) p_X8_warringCakes_0 := ⟨zs_pushI (zg_iconst (by decide) hX (by decide +kernel : decode prog_10_method_20_code 0 = .ok (.iconst 0, 1)) rfl),
  zs_istore_n (i := 1) rfl hX (by decide +kernel : decode prog_10_method_20_code 1 = .ok (.istore_n 1, 1)) rfl (by decide),
  zs_pushI (zg_iconst (by decide) hX (by decide +kernel : decode prog_10_method_20_code 2 = .ok (.iconst 0, 1)) rfl),
  zs_istore_n (i := 2) rfl hX (by decide +kernel : decode prog_10_method_20_code 3 = .ok (.istore_n 2, 1)) rfl (by decide),
  zs_iload_n (i := 2) rfl hX (by decide +kernel : decode prog_10_method_20_code 4 = .ok (.iload_n 2, 1)) rfl (by decide),
  zs_aload_n (i := 0) rfl hX (by decide +kernel : decode prog_10_method_20_code 5 = .ok (.aload_n 0, 1)) rfl (by decide),
  zs_getR hX zFL_8_23 (by decide +kernel : decode prog_10_method_20_code 6 = .ok (.getfield 23, 3)) rfl,
  zs_getI hX zFL_8_54 (by decide) (by decide) (by decide +kernel : decode prog_10_method_20_code 9 = .ok (.getfield 54, 3)) rfl,
  zs_cge hX (by decide +kernel : decode prog_10_method_20_code 12 = .ok (.if_icmp .ge 50, 3)) (by decide) rfl,
  zs_aload_n (i := 0) rfl hX (by decide +kernel : decode prog_10_method_20_code 15 = .ok (.aload_n 0, 1)) rfl (by decide),
  zs_getR hX zFL_8_17 (by decide +kernel : decode prog_10_method_20_code 16 = .ok (.getfield 17, 3)) rfl,
  zs_iload_n (i := 2) rfl hX (by decide +kernel : decode prog_10_method_20_code 19 = .ok (.iload_n 2, 1)) rfl (by decide),
  zs_iald hX (by decide +kernel : decode prog_10_method_20_code 20 = .ok (.iaload, 1)) rfl,
  zs_0le hX (by decide +kernel : decode prog_10_method_20_code 21 = .ok (.ifCond .le 35, 3)) (by decide) rfl,
  zs_aload_n (i := 0) rfl hX (by decide +kernel : decode prog_10_method_20_code 24 = .ok (.aload_n 0, 1)) rfl (by decide),
  zs_iload_n (i := 2) rfl hX (by decide +kernel : decode prog_10_method_20_code 25 = .ok (.iload_n 2, 1)) rfl (by decide),
  zs_callVi hX zMV_8_63 (zXc_of hl (by decide) (k_X8_hasHair hcl hinj)) (by decide +kernel : decode prog_10_method_20_code 26 = .ok (.invokevirtual 63, 3)) rfl,
  zs_0eq hX (by decide +kernel : decode prog_10_method_20_code 29 = .ok (.ifCond .eq 27, 3)) (by decide) rfl,
  zs_aload_n (i := 0) rfl hX (by decide +kernel : decode prog_10_method_20_code 32 = .ok (.aload_n 0, 1)) rfl (by decide),
  zs_getR hX zFL_8_23 (by decide +kernel : decode prog_10_method_20_code 33 = .ok (.getfield 23, 3)) rfl, trivial⟩
set_option maxRecDepth 20000 in
theorem s_X8_warringCakes_1 {l : Launch} {D : va_G} {ad : Nat → Nat → Nat} {cy : Nat → ClassId} {L : List (Nat × Nat)} (hcl : zclo L = true) (hinj : zAd ad L) {X : zCtx} (hX : zXok X "SoapTreaty$State" prog_10_method_20_code 3) (hR : zRt X (some .int)) (hl : zXl X l D ad cy L (zroom 2)) : zAllR (zSo X) p_X8_warringCakes_1 := ⟨zs_getR hX zFL_8_95 (by decide +kernel : decode prog_10_method_20_code 36 = .ok (.getfield 95, 3)) rfl,
  zs_iload_n (i := 2) rfl hX (by decide +kernel : decode prog_10_method_20_code 39 = .ok (.iload_n 2, 1)) rfl (by decide),
  zs_iald hX (by decide +kernel : decode prog_10_method_20_code 40 = .ok (.iaload, 1)) rfl,
  zs_aload_n (i := 0) rfl hX (by decide +kernel : decode prog_10_method_20_code 41 = .ok (.aload_n 0, 1)) rfl (by decide),
  zs_getR hX zFL_8_11 (by decide +kernel : decode prog_10_method_20_code 42 = .ok (.getfield 11, 3)) rfl,
  zs_iload_n (i := 2) rfl hX (by decide +kernel : decode prog_10_method_20_code 45 = .ok (.iload_n 2, 1)) rfl (by decide),
  zs_iald hX (by decide +kernel : decode prog_10_method_20_code 46 = .ok (.iaload, 1)) rfl,
  zs_ceq hX (by decide +kernel : decode prog_10_method_20_code 47 = .ok (.if_icmp .eq 9, 3)) (by decide) rfl,
  zs_iload_n (i := 1) rfl hX (by decide +kernel : decode prog_10_method_20_code 50 = .ok (.iload_n 1, 1)) rfl (by decide),
  zs_pushI (zg_iconst (by decide) hX (by decide +kernel : decode prog_10_method_20_code 51 = .ok (.iconst 1, 1)) rfl),
  zs_iload_n (i := 2) rfl hX (by decide +kernel : decode prog_10_method_20_code 52 = .ok (.iload_n 2, 1)) rfl (by decide),
  zs_ii (zg_ishl hX (by decide +kernel : decode prog_10_method_20_code 53 = .ok (.ishl, 1)) rfl),
  zs_ii (zg_ior hX (by decide +kernel : decode prog_10_method_20_code 54 = .ok (.ior, 1)) rfl),
  zs_istore_n (i := 1) rfl hX (by decide +kernel : decode prog_10_method_20_code 55 = .ok (.istore_n 1, 1)) rfl (by decide),
  zs_iinc hX (by decide +kernel : decode prog_10_method_20_code 56 = .ok (.iinc 2 1, 3)) (by decide) rfl (by decide),
  zs_goto hX (by decide +kernel : decode prog_10_method_20_code 59 = .ok (.goto (-55), 3)) (by decide),
  zs_iload_n (i := 1) rfl hX (by decide +kernel : decode prog_10_method_20_code 62 = .ok (.iload_n 1, 1)) rfl (by decide),
  zs_iret hX hR (by decide +kernel : decode prog_10_method_20_code 63 = .ok (.ireturn, 1)), trivial⟩
theorem k_X8_warringCakes {l : Launch} {D : va_G} {ad : Nat → Nat → Nat} {cy : Nat → ClassId} {L : List (Nat × Nat)} (hcl : zclo L = true) (hinj : zAd ad L) : zCk l D ad cy L 2 f_X8_warringCakes y_X8_warringCakes (.code y_X8_warringCakes prog_10_method_20_code 3 (some .int)) :=
  z_met (by decide) t_X8_warringCakes hcl hinj (fun X hX hR hl k => zgs_all (Q := zSo X) (c := [(34, p_X8_warringCakes_0), (64, p_X8_warringCakes_1)]) (fun _ => zs_bad) ⟨s_X8_warringCakes_0 hcl hinj hX hR hl, s_X8_warringCakes_1 hcl hinj hX hR hl, trivial⟩ k)
set_option maxRecDepth 1000000 in
theorem e_X8_warringCakes_0 (jx0 : Nat) (h : zH) : zL p_X8_warringCakes 0 [some (.inr (.inr (8, jx0))), none, none] [] h = zL p_X8_warringCakes 4 [some (.inr (.inr (8, jx0))), some (.inl 0), some (.inl 0)] [] h := (zL_s (t_X8_warringCakes) [0, 4] 1000 0 _ _ _).trans rfl
theorem g_X8_warringCakes (jx0 : Nat) (h : zH) : f_X8_warringCakes [(.inr (.inr (8, jx0)))] h = zL p_X8_warringCakes 4 [some (.inr (.inr (8, jx0))), some (.inl 0), some (.inl 0)] [] h := (show f_X8_warringCakes _ h = zL p_X8_warringCakes 0 _ [] h from rfl).trans (e_X8_warringCakes_0 jx0 h)
set_option maxRecDepth 1000000 in
theorem e_X8_warringCakes_4 (jx0 : Nat) (x1 : Int32) (x2 : Int32) (h : zH) : zL p_X8_warringCakes 4 [some (.inr (.inr (8, jx0))), some (.inl x1), some (.inl x2)] [] h = zf (x2 < (h.1 0 0 4)) (zf (vp_in x2 7) (zf (0 < (h.1 32 jx0 x2.toNatClampNeg)) (zci (f_X8_hasHair [(.inr (.inr (8, jx0))), (.inl x2)] h) (fun r2 h1 => zf (r2 = 0) (zL p_X8_warringCakes 4 [some (.inr (.inr (8, jx0))), some (.inl x1), some (.inl (x2 + 1))] [] h1) (zf (vp_in x2 7) (zf (vp_in x2 7) (zf ((h1.1 17 0 x2.toNatClampNeg) = (h1.1 31 jx0 x2.toNatClampNeg)) (zL p_X8_warringCakes 4 [some (.inr (.inr (8, jx0))), some (.inl x1), some (.inl (x2 + 1))] [] h1) (zL p_X8_warringCakes 4 [some (.inr (.inr (8, jx0))), some (.inl (x1 ||| ((1 : Int32) <<< (x2 &&& 31)))), some (.inl (x2 + 1))] [] h1)) none) none))) (zL p_X8_warringCakes 4 [some (.inr (.inr (8, jx0))), some (.inl x1), some (.inl (x2 + 1))] [] h)) none) (some (some (.inl x1), h)) := (zL_s (t_X8_warringCakes) [0, 4] 1000 4 _ _ _).trans rfl
/-! SoapTreaty$State.pairBit(II)I -/
def y_X8_pairBit : MethodName := ⟨"SoapTreaty$State", "pairBit", "(II)I"⟩
noncomputable def p_X8_pairBit_0 : List (Nat × zO) := [(0, zo_push (.inl 1) 1),
  (1, zo_iload 0 2),
  (2, zo_push (.inl 5) 3),
  (3, zo_ii (fun x y => x * y) 4),
  (4, zo_iload 1 5),
  (5, zo_ii (fun x y => x + y) 6),
  (6, zo_ii (fun x y => x <<< (y &&& 31)) 7),
  (7, zo_iret)]
noncomputable def p_X8_pairBit : Nat → zO := zgs [(8, p_X8_pairBit_0)]
theorem t_X8_pairBit : ∀ k, zTl (p_X8_pairBit k) := fun k => zgs_all (c := [(8, p_X8_pairBit_0)]) (fun _ => zl_bad) ⟨⟨zl_push, zl_iload, zl_push, zl_ii, zl_iload, zl_ii, zl_ii, zl_iret, trivial⟩, trivial⟩ k
noncomputable def f_X8_pairBit : zS := zrun p_X8_pairBit 2
set_option maxRecDepth 20000 in
theorem s_X8_pairBit_0 {l : Launch} {D : va_G} {ad : Nat → Nat → Nat} {cy : Nat → ClassId} {L : List (Nat × Nat)} (hcl : zclo L = true) (hinj : zAd ad L) {X : zCtx} (hX : zXok X "SoapTreaty$State" prog_10_method_21_code 2) (hR : zRt X (some .int)) (hl : zXl X l D ad cy L (zroom 1)) : zAllR (zSo X) p_X8_pairBit_0 := ⟨zs_pushI (zg_iconst (by decide) hX (by decide +kernel : decode prog_10_method_21_code 0 = .ok (.iconst 1, 1)) rfl),
  zs_iload_n (i := 0) rfl hX (by decide +kernel : decode prog_10_method_21_code 1 = .ok (.iload_n 0, 1)) rfl (by decide),
  zs_pushI (zg_iconst (by decide) hX (by decide +kernel : decode prog_10_method_21_code 2 = .ok (.iconst 5, 1)) rfl),
  zs_ii (zg_imul hX (by decide +kernel : decode prog_10_method_21_code 3 = .ok (.imul, 1)) rfl),
  zs_iload_n (i := 1) rfl hX (by decide +kernel : decode prog_10_method_21_code 4 = .ok (.iload_n 1, 1)) rfl (by decide),
  zs_ii (zg_iadd hX (by decide +kernel : decode prog_10_method_21_code 5 = .ok (.iadd, 1)) rfl),
  zs_ii (zg_ishl hX (by decide +kernel : decode prog_10_method_21_code 6 = .ok (.ishl, 1)) rfl),
  zs_iret hX hR (by decide +kernel : decode prog_10_method_21_code 7 = .ok (.ireturn, 1)), trivial⟩
theorem k_X8_pairBit {l : Launch} {D : va_G} {ad : Nat → Nat → Nat} {cy : Nat → ClassId} {L : List (Nat × Nat)} (hcl : zclo L = true) (hinj : zAd ad L) : zCk l D ad cy L 1 f_X8_pairBit y_X8_pairBit (.code y_X8_pairBit prog_10_method_21_code 2 (some .int)) :=
  z_met (by decide) t_X8_pairBit hcl hinj (fun X hX hR hl k => zgs_all (Q := zSo X) (c := [(8, p_X8_pairBit_0)]) (fun _ => zs_bad) ⟨s_X8_pairBit_0 hcl hinj hX hR hl, trivial⟩ k)
set_option maxRecDepth 1000000 in
theorem e_X8_pairBit_0 (x0 : Int32) (x1 : Int32) (h : zH) : zL p_X8_pairBit 0 [some (.inl x0), some (.inl x1)] [] h = some (some (.inl ((1 : Int32) <<< (((x0 * (5 : Int32)) + x1) &&& 31))), h) := (zL_s (t_X8_pairBit) [0] 1000 0 _ _ _).trans rfl
theorem g_X8_pairBit (x0 : Int32) (x1 : Int32) (h : zH) : f_X8_pairBit [(.inl x0), (.inl x1)] h = some (some (.inl ((1 : Int32) <<< (((x0 * (5 : Int32)) + x1) &&& 31))), h) := (show f_X8_pairBit _ h = zL p_X8_pairBit 0 _ [] h from rfl).trans (e_X8_pairBit_0 x0 x1 h)
theorem zMS_8_98 : zMS "SoapTreaty$State" 98 y_X8_pairBit prog_10_method_21_code 2 (some .int) 2 := ⟨⟨zT_of 804 (by decide +kernel) (by decide +kernel), zT_of 805 (by decide +kernel) (by decide +kernel), zT_of 115 (by decide +kernel) (by decide +kernel), zT_of 806 (by decide +kernel) (by decide +kernel)⟩, by decide, by decide, by decide, by decide +kernel⟩
/-! SoapTreaty$State.hasPair(III)Z -/
def y_X8_hasPair : MethodName := ⟨"SoapTreaty$State", "hasPair", "(III)Z"⟩
noncomputable def p_X8_hasPair_0 : List (Nat × zO) := [(0, zo_iload 0 1),
  (1, zo_iload 1 2),
  (2, zo_iload 2 3),
  (3, zo_calli (f_X8_pairBit) 2 6),
  (6, zo_ii (fun x y => x &&& y) 7),
  (7, zo_0eq 14 10),
  (10, zo_push (.inl 1) 11),
  (11, zo_goto 15),
  (14, zo_push (.inl 0) 15),
  (15, zo_zretc)]
noncomputable def p_X8_hasPair : Nat → zO := zgs [(16, p_X8_hasPair_0)]
theorem t_X8_hasPair : ∀ k, zTl (p_X8_hasPair k) := fun k => zgs_all (c := [(16, p_X8_hasPair_0)]) (fun _ => zl_bad) ⟨⟨zl_iload, zl_iload, zl_iload, zl_calli, zl_ii, zl_0eq, zl_push, zl_goto, zl_push, zl_zretc, trivial⟩, trivial⟩ k
noncomputable def f_X8_hasPair : zS := zrun p_X8_hasPair 3
set_option maxRecDepth 20000 in
theorem s_X8_hasPair_0 {l : Launch} {D : va_G} {ad : Nat → Nat → Nat} {cy : Nat → ClassId} {L : List (Nat × Nat)} (hcl : zclo L = true) (hinj : zAd ad L) {X : zCtx} (hX : zXok X "SoapTreaty$State" prog_10_method_22_code 3) (hR : zRt X (some .boolean)) (hl : zXl X l D ad cy L (zroom 2)) : zAllR (zSo X) p_X8_hasPair_0 := ⟨zs_iload_n (i := 0) rfl hX (by decide +kernel : decode prog_10_method_22_code 0 = .ok (.iload_n 0, 1)) rfl (by decide),
  zs_iload_n (i := 1) rfl hX (by decide +kernel : decode prog_10_method_22_code 1 = .ok (.iload_n 1, 1)) rfl (by decide),
  zs_iload_n (i := 2) rfl hX (by decide +kernel : decode prog_10_method_22_code 2 = .ok (.iload_n 2, 1)) rfl (by decide),
  zs_callSi hX zMS_8_98 (zXc_of hl (by decide) (k_X8_pairBit hcl hinj)) (by decide +kernel : decode prog_10_method_22_code 3 = .ok (.invokestatic 98, 3)) rfl,
  zs_ii (zg_iand hX (by decide +kernel : decode prog_10_method_22_code 6 = .ok (.iand, 1)) rfl),
  zs_0eq hX (by decide +kernel : decode prog_10_method_22_code 7 = .ok (.ifCond .eq 7, 3)) (by decide) rfl,
  zs_pushI (zg_iconst (by decide) hX (by decide +kernel : decode prog_10_method_22_code 10 = .ok (.iconst 1, 1)) rfl),
  zs_goto hX (by decide +kernel : decode prog_10_method_22_code 11 = .ok (.goto 4, 3)) (by decide),
  zs_pushI (zg_iconst (by decide) hX (by decide +kernel : decode prog_10_method_22_code 14 = .ok (.iconst 0, 1)) rfl),
  zs_zretc hX hR (by decide +kernel : decode prog_10_method_22_code 15 = .ok (.ireturn, 1)), trivial⟩
theorem k_X8_hasPair {l : Launch} {D : va_G} {ad : Nat → Nat → Nat} {cy : Nat → ClassId} {L : List (Nat × Nat)} (hcl : zclo L = true) (hinj : zAd ad L) : zCk l D ad cy L 2 f_X8_hasPair y_X8_hasPair (.code y_X8_hasPair prog_10_method_22_code 3 (some .boolean)) :=
  z_met (by decide) t_X8_hasPair hcl hinj (fun X hX hR hl k => zgs_all (Q := zSo X) (c := [(16, p_X8_hasPair_0)]) (fun _ => zs_bad) ⟨s_X8_hasPair_0 hcl hinj hX hR hl, trivial⟩ k)
set_option maxRecDepth 1000000 in
theorem e_X8_hasPair_0 (x0 : Int32) (x1 : Int32) (x2 : Int32) (h : zH) : zL p_X8_hasPair 0 [some (.inl x0), some (.inl x1), some (.inl x2)] [] h = zci (f_X8_pairBit [(.inl x1), (.inl x2)] h) (fun r2 h1 => zf ((x0 &&& r2) = 0) (some (some (.inl 0), h1)) (some (some (.inl 1), h1))) := (zL_s (t_X8_hasPair) [0] 1000 0 _ _ _).trans rfl
theorem g_X8_hasPair (x0 : Int32) (x1 : Int32) (x2 : Int32) (h : zH) : f_X8_hasPair [(.inl x0), (.inl x1), (.inl x2)] h = zci (f_X8_pairBit [(.inl x1), (.inl x2)] h) (fun r2 h1 => zf ((x0 &&& r2) = 0) (some (some (.inl 0), h1)) (some (some (.inl 1), h1))) := (show f_X8_hasPair _ h = zL p_X8_hasPair 0 _ [] h from rfl).trans (e_X8_hasPair_0 x0 x1 x2 h)
/-! SoapTreaty$State.othersOf(II)I -/
def y_X8_othersOf : MethodName := ⟨"SoapTreaty$State", "othersOf", "(II)I"⟩
noncomputable def p_X8_othersOf_0 : List (Nat × zO) := [(0, zo_iload 0 1),
  (1, zo_iload 1 2),
  (2, zo_push (.inl 5) 3),
  (3, zo_ii (fun x y => x * y) 4),
  (4, zo_ii (fun x y => x >>> (y &&& 31)) 5),
  (5, zo_push (.inl 31) 7),
  (7, zo_ii (fun x y => x &&& y) 8),
  (8, zo_iret)]
noncomputable def p_X8_othersOf : Nat → zO := zgs [(9, p_X8_othersOf_0)]
theorem t_X8_othersOf : ∀ k, zTl (p_X8_othersOf k) := fun k => zgs_all (c := [(9, p_X8_othersOf_0)]) (fun _ => zl_bad) ⟨⟨zl_iload, zl_iload, zl_push, zl_ii, zl_ii, zl_push, zl_ii, zl_iret, trivial⟩, trivial⟩ k
noncomputable def f_X8_othersOf : zS := zrun p_X8_othersOf 2
set_option maxRecDepth 20000 in
theorem s_X8_othersOf_0 {l : Launch} {D : va_G} {ad : Nat → Nat → Nat} {cy : Nat → ClassId} {L : List (Nat × Nat)} (hcl : zclo L = true) (hinj : zAd ad L) {X : zCtx} (hX : zXok X "SoapTreaty$State" prog_10_method_23_code 2) (hR : zRt X (some .int)) (hl : zXl X l D ad cy L (zroom 1)) : zAllR (zSo X) p_X8_othersOf_0 := ⟨zs_iload_n (i := 0) rfl hX (by decide +kernel : decode prog_10_method_23_code 0 = .ok (.iload_n 0, 1)) rfl (by decide),
  zs_iload_n (i := 1) rfl hX (by decide +kernel : decode prog_10_method_23_code 1 = .ok (.iload_n 1, 1)) rfl (by decide),
  zs_pushI (zg_iconst (by decide) hX (by decide +kernel : decode prog_10_method_23_code 2 = .ok (.iconst 5, 1)) rfl),
  zs_ii (zg_imul hX (by decide +kernel : decode prog_10_method_23_code 3 = .ok (.imul, 1)) rfl),
  zs_ii (zg_ishr hX (by decide +kernel : decode prog_10_method_23_code 4 = .ok (.ishr, 1)) rfl),
  zs_pushI (zg_bipush (by decide) hX (by decide +kernel : decode prog_10_method_23_code 5 = .ok (.bipush 31, 2)) rfl),
  zs_ii (zg_iand hX (by decide +kernel : decode prog_10_method_23_code 7 = .ok (.iand, 1)) rfl),
  zs_iret hX hR (by decide +kernel : decode prog_10_method_23_code 8 = .ok (.ireturn, 1)), trivial⟩
theorem k_X8_othersOf {l : Launch} {D : va_G} {ad : Nat → Nat → Nat} {cy : Nat → ClassId} {L : List (Nat × Nat)} (hcl : zclo L = true) (hinj : zAd ad L) : zCk l D ad cy L 1 f_X8_othersOf y_X8_othersOf (.code y_X8_othersOf prog_10_method_23_code 2 (some .int)) :=
  z_met (by decide) t_X8_othersOf hcl hinj (fun X hX hR hl k => zgs_all (Q := zSo X) (c := [(9, p_X8_othersOf_0)]) (fun _ => zs_bad) ⟨s_X8_othersOf_0 hcl hinj hX hR hl, trivial⟩ k)
set_option maxRecDepth 1000000 in
theorem e_X8_othersOf_0 (x0 : Int32) (x1 : Int32) (h : zH) : zL p_X8_othersOf 0 [some (.inl x0), some (.inl x1)] [] h = some (some (.inl ((x0 >>> ((x1 * (5 : Int32)) &&& 31)) &&& (31 : Int32))), h) := (zL_s (t_X8_othersOf) [0] 1000 0 _ _ _).trans rfl
theorem g_X8_othersOf (x0 : Int32) (x1 : Int32) (h : zH) : f_X8_othersOf [(.inl x0), (.inl x1)] h = some (some (.inl ((x0 >>> ((x1 * (5 : Int32)) &&& 31)) &&& (31 : Int32))), h) := (show f_X8_othersOf _ h = zL p_X8_othersOf 0 _ [] h from rfl).trans (e_X8_othersOf_0 x0 x1 h)
theorem zMV_8_102 : zMV "SoapTreaty$State" 102 8 y_X8_warringCakes prog_10_method_20_code 3 (some .int) 0 := ⟨⟨zT_of 796 (by decide +kernel) (by decide +kernel), zT_of 797 (by decide +kernel) (by decide +kernel), zT_of 798 (by decide +kernel) (by decide +kernel), zT_of 115 (by decide +kernel) (by decide +kernel), zT_of 799 (by decide +kernel) (by decide +kernel)⟩, by decide, rfl, ⟨zT8, 7, rfl⟩, by decide, by decide, by decide +kernel⟩
/-! SoapTreaty$State.warPairs()I -/
def y_X8_warPairs : MethodName := ⟨"SoapTreaty$State", "warPairs", "()I"⟩
noncomputable def p_X8_warPairs_0 : List (Nat × zO) := [(0, zo_aload 0 1),
  (1, zo_vir 8 1 (zo_calli (f_X8_warringCakes) 1 4)),
  (4, zo_istore 1 5),
  (5, zo_push (.inl 0) 6),
  (6, zo_istore 2 7),
  (7, zo_push (.inl 0) 8),
  (8, zo_istore 3 9),
  (9, zo_iload 3 10),
  (10, zo_aload 0 11),
  (11, zo_getR 8 0 (some 0) 14),
  (14, zo_getI 0 4 17),
  (17, zo_cge 75 20),
  (20, zo_iload 1 21),
  (21, zo_iload 3 22),
  (22, zo_ii (fun x y => x >>> (y &&& 31)) 23),
  (23, zo_push (.inl 1) 24),
  (24, zo_ii (fun x y => x &&& y) 25),
  (25, zo_push (.inl 1) 26),
  (26, zo_cne 69 29),
  (29, zo_iload 2 30)]
noncomputable def p_X8_warPairs_1 : List (Nat × zO) := [(30, zo_aload 0 31),
  (31, zo_getR 8 31 none 34),
  (34, zo_iload 3 35),
  (35, zo_iald 36),
  (36, zo_aload 0 37),
  (37, zo_getR 8 0 (some 0) 40),
  (40, zo_getR 0 17 none 43),
  (43, zo_iload 3 44),
  (44, zo_iald 45),
  (45, zo_calli (f_X8_pairBit) 2 48),
  (48, zo_aload 0 49),
  (49, zo_getR 8 0 (some 0) 52),
  (52, zo_getR 0 17 none 55),
  (55, zo_iload 3 56),
  (56, zo_iald 57),
  (57, zo_aload 0 58),
  (58, zo_getR 8 31 none 61),
  (61, zo_iload 3 62),
  (62, zo_iald 63),
  (63, zo_calli (f_X8_pairBit) 2 66)]
noncomputable def p_X8_warPairs_2 : List (Nat × zO) := [(66, zo_ii (fun x y => x ||| y) 67),
  (67, zo_ii (fun x y => x ||| y) 68),
  (68, zo_istore 2 69),
  (69, zo_iinc 3 1 72),
  (72, zo_goto 9),
  (75, zo_iload 2 76),
  (76, zo_iret)]
noncomputable def p_X8_warPairs : Nat → zO := zgs [(30, p_X8_warPairs_0), (64, p_X8_warPairs_1), (77, p_X8_warPairs_2)]
theorem t_X8_warPairs : ∀ k, zTl (p_X8_warPairs k) := fun k => zgs_all (c := [(30, p_X8_warPairs_0), (64, p_X8_warPairs_1), (77, p_X8_warPairs_2)]) (fun _ => zl_bad) ⟨⟨zl_aload, (zl_vir zl_calli), zl_istore, zl_push, zl_istore, zl_push, zl_istore, zl_iload, zl_aload, zl_getR, zl_getI, zl_cge, zl_iload, zl_iload, zl_ii, zl_push, zl_ii, zl_push, zl_cne, zl_iload, trivial⟩, ⟨zl_aload, zl_getR, zl_iload, zl_iald, zl_aload, zl_getR, zl_getR, zl_iload, zl_iald, zl_calli, zl_aload, zl_getR, zl_getR, zl_iload, zl_iald, zl_aload, zl_getR, zl_iload, zl_iald, zl_calli, trivial⟩, ⟨zl_ii, zl_ii, zl_istore, zl_iinc, zl_goto, zl_iload, zl_iret, trivial⟩, trivial⟩ k
noncomputable def f_X8_warPairs : zS := zrun p_X8_warPairs 4
set_option maxRecDepth 20000 in
theorem s_X8_warPairs_0 {l : Launch} {D : va_G} {ad : Nat → Nat → Nat} {cy : Nat → ClassId} {L : List (Nat × Nat)} (hcl : zclo L = true) (hinj : zAd ad L) {X : zCtx} (hX : zXok X "SoapTreaty$State" prog_10_method_24_code 4) (hR : zRt X (some .int)) (hl : zXl X l D ad cy L (zroom 3)) : zAllR (zSo X) p_X8_warPairs_0 := ⟨zs_aload_n (i := 0) rfl hX (by decide +kernel : decode prog_10_method_24_code 0 = .ok (.aload_n 0, 1)) rfl (by decide),
  zs_callVi hX zMV_8_102 (zXc_of hl (by decide) (k_X8_warringCakes hcl hinj)) (by decide +kernel : decode prog_10_method_24_code 1 = .ok (.invokevirtual 102, 3)) rfl,
  zs_istore_n (i := 1) rfl hX (by decide +kernel : decode prog_10_method_24_code 4 = .ok (.istore_n 1, 1)) rfl (by decide),
  zs_pushI (zg_iconst (by decide) hX (by decide +kernel : decode prog_10_method_24_code 5 = .ok (.iconst 0, 1)) rfl),
  zs_istore_n (i := 2) rfl hX (by decide +kernel : decode prog_10_method_24_code 6 = .ok (.istore_n 2, 1)) rfl (by decide),
  zs_pushI (zg_iconst (by decide) hX (by decide +kernel : decode prog_10_method_24_code 7 = .ok (.iconst 0, 1)) rfl),
  zs_istore_n (i := 3) rfl hX (by decide +kernel : decode prog_10_method_24_code 8 = .ok (.istore_n 3, 1)) rfl (by decide),
  zs_iload_n (i := 3) rfl hX (by decide +kernel : decode prog_10_method_24_code 9 = .ok (.iload_n 3, 1)) rfl (by decide),
  zs_aload_n (i := 0) rfl hX (by decide +kernel : decode prog_10_method_24_code 10 = .ok (.aload_n 0, 1)) rfl (by decide),
  zs_getR hX zFL_8_23 (by decide +kernel : decode prog_10_method_24_code 11 = .ok (.getfield 23, 3)) rfl,
  zs_getI hX zFL_8_54 (by decide) (by decide) (by decide +kernel : decode prog_10_method_24_code 14 = .ok (.getfield 54, 3)) rfl,
  zs_cge hX (by decide +kernel : decode prog_10_method_24_code 17 = .ok (.if_icmp .ge 58, 3)) (by decide) rfl,
  zs_iload_n (i := 1) rfl hX (by decide +kernel : decode prog_10_method_24_code 20 = .ok (.iload_n 1, 1)) rfl (by decide),
  zs_iload_n (i := 3) rfl hX (by decide +kernel : decode prog_10_method_24_code 21 = .ok (.iload_n 3, 1)) rfl (by decide),
  zs_ii (zg_ishr hX (by decide +kernel : decode prog_10_method_24_code 22 = .ok (.ishr, 1)) rfl),
  zs_pushI (zg_iconst (by decide) hX (by decide +kernel : decode prog_10_method_24_code 23 = .ok (.iconst 1, 1)) rfl),
  zs_ii (zg_iand hX (by decide +kernel : decode prog_10_method_24_code 24 = .ok (.iand, 1)) rfl),
  zs_pushI (zg_iconst (by decide) hX (by decide +kernel : decode prog_10_method_24_code 25 = .ok (.iconst 1, 1)) rfl),
  zs_cne hX (by decide +kernel : decode prog_10_method_24_code 26 = .ok (.if_icmp .ne 43, 3)) (by decide) rfl,
  zs_iload_n (i := 2) rfl hX (by decide +kernel : decode prog_10_method_24_code 29 = .ok (.iload_n 2, 1)) rfl (by decide), trivial⟩
set_option maxRecDepth 20000 in
theorem s_X8_warPairs_1 {l : Launch} {D : va_G} {ad : Nat → Nat → Nat} {cy : Nat → ClassId} {L : List (Nat × Nat)} (hcl : zclo L = true) (hinj : zAd ad L) {X : zCtx} (hX : zXok X "SoapTreaty$State" prog_10_method_24_code 4) (hR : zRt X (some .int)) (hl : zXl X l D ad cy L (zroom 3)) : zAllR (zSo X) p_X8_warPairs_1 := ⟨zs_aload_n (i := 0) rfl hX (by decide +kernel : decode prog_10_method_24_code 30 = .ok (.aload_n 0, 1)) rfl (by decide),
  zs_getR hX zFL_8_11 (by decide +kernel : decode prog_10_method_24_code 31 = .ok (.getfield 11, 3)) rfl,
  zs_iload_n (i := 3) rfl hX (by decide +kernel : decode prog_10_method_24_code 34 = .ok (.iload_n 3, 1)) rfl (by decide),
  zs_iald hX (by decide +kernel : decode prog_10_method_24_code 35 = .ok (.iaload, 1)) rfl,
  zs_aload_n (i := 0) rfl hX (by decide +kernel : decode prog_10_method_24_code 36 = .ok (.aload_n 0, 1)) rfl (by decide),
  zs_getR hX zFL_8_23 (by decide +kernel : decode prog_10_method_24_code 37 = .ok (.getfield 23, 3)) rfl,
  zs_getR hX zFL_8_95 (by decide +kernel : decode prog_10_method_24_code 40 = .ok (.getfield 95, 3)) rfl,
  zs_iload_n (i := 3) rfl hX (by decide +kernel : decode prog_10_method_24_code 43 = .ok (.iload_n 3, 1)) rfl (by decide),
  zs_iald hX (by decide +kernel : decode prog_10_method_24_code 44 = .ok (.iaload, 1)) rfl,
  zs_callSi hX zMS_8_98 (zXc_of hl (by decide) (k_X8_pairBit hcl hinj)) (by decide +kernel : decode prog_10_method_24_code 45 = .ok (.invokestatic 98, 3)) rfl,
  zs_aload_n (i := 0) rfl hX (by decide +kernel : decode prog_10_method_24_code 48 = .ok (.aload_n 0, 1)) rfl (by decide),
  zs_getR hX zFL_8_23 (by decide +kernel : decode prog_10_method_24_code 49 = .ok (.getfield 23, 3)) rfl,
  zs_getR hX zFL_8_95 (by decide +kernel : decode prog_10_method_24_code 52 = .ok (.getfield 95, 3)) rfl,
  zs_iload_n (i := 3) rfl hX (by decide +kernel : decode prog_10_method_24_code 55 = .ok (.iload_n 3, 1)) rfl (by decide),
  zs_iald hX (by decide +kernel : decode prog_10_method_24_code 56 = .ok (.iaload, 1)) rfl,
  zs_aload_n (i := 0) rfl hX (by decide +kernel : decode prog_10_method_24_code 57 = .ok (.aload_n 0, 1)) rfl (by decide),
  zs_getR hX zFL_8_11 (by decide +kernel : decode prog_10_method_24_code 58 = .ok (.getfield 11, 3)) rfl,
  zs_iload_n (i := 3) rfl hX (by decide +kernel : decode prog_10_method_24_code 61 = .ok (.iload_n 3, 1)) rfl (by decide),
  zs_iald hX (by decide +kernel : decode prog_10_method_24_code 62 = .ok (.iaload, 1)) rfl,
  zs_callSi hX zMS_8_98 (zXc_of hl (by decide) (k_X8_pairBit hcl hinj)) (by decide +kernel : decode prog_10_method_24_code 63 = .ok (.invokestatic 98, 3)) rfl, trivial⟩
set_option maxRecDepth 20000 in
theorem s_X8_warPairs_2 {l : Launch} {D : va_G} {ad : Nat → Nat → Nat} {cy : Nat → ClassId} {L : List (Nat × Nat)} (hcl : zclo L = true) (hinj : zAd ad L) {X : zCtx} (hX : zXok X "SoapTreaty$State" prog_10_method_24_code 4) (hR : zRt X (some .int)) (hl : zXl X l D ad cy L (zroom 3)) : zAllR (zSo X) p_X8_warPairs_2 := ⟨zs_ii (zg_ior hX (by decide +kernel : decode prog_10_method_24_code 66 = .ok (.ior, 1)) rfl),
  zs_ii (zg_ior hX (by decide +kernel : decode prog_10_method_24_code 67 = .ok (.ior, 1)) rfl),
  zs_istore_n (i := 2) rfl hX (by decide +kernel : decode prog_10_method_24_code 68 = .ok (.istore_n 2, 1)) rfl (by decide),
  zs_iinc hX (by decide +kernel : decode prog_10_method_24_code 69 = .ok (.iinc 3 1, 3)) (by decide) rfl (by decide),
  zs_goto hX (by decide +kernel : decode prog_10_method_24_code 72 = .ok (.goto (-63), 3)) (by decide),
  zs_iload_n (i := 2) rfl hX (by decide +kernel : decode prog_10_method_24_code 75 = .ok (.iload_n 2, 1)) rfl (by decide),
  zs_iret hX hR (by decide +kernel : decode prog_10_method_24_code 76 = .ok (.ireturn, 1)), trivial⟩
theorem k_X8_warPairs {l : Launch} {D : va_G} {ad : Nat → Nat → Nat} {cy : Nat → ClassId} {L : List (Nat × Nat)} (hcl : zclo L = true) (hinj : zAd ad L) : zCk l D ad cy L 3 f_X8_warPairs y_X8_warPairs (.code y_X8_warPairs prog_10_method_24_code 4 (some .int)) :=
  z_met (by decide) t_X8_warPairs hcl hinj (fun X hX hR hl k => zgs_all (Q := zSo X) (c := [(30, p_X8_warPairs_0), (64, p_X8_warPairs_1), (77, p_X8_warPairs_2)]) (fun _ => zs_bad) ⟨s_X8_warPairs_0 hcl hinj hX hR hl, s_X8_warPairs_1 hcl hinj hX hR hl, s_X8_warPairs_2 hcl hinj hX hR hl, trivial⟩ k)
set_option maxRecDepth 1000000 in
theorem e_X8_warPairs_0 (jx0 : Nat) (h : zH) : zL p_X8_warPairs 0 [some (.inr (.inr (8, jx0))), none, none, none] [] h = zci (f_X8_warringCakes [(.inr (.inr (8, jx0)))] h) (fun r2 h1 => zL p_X8_warPairs 9 [some (.inr (.inr (8, jx0))), some (.inl r2), some (.inl 0), some (.inl 0)] [] h1) := (zL_s (t_X8_warPairs) [0, 9] 1000 0 _ _ _).trans rfl
theorem g_X8_warPairs (jx0 : Nat) (h : zH) : f_X8_warPairs [(.inr (.inr (8, jx0)))] h = zci (f_X8_warringCakes [(.inr (.inr (8, jx0)))] h) (fun r2 h1 => zL p_X8_warPairs 9 [some (.inr (.inr (8, jx0))), some (.inl r2), some (.inl 0), some (.inl 0)] [] h1) := (show f_X8_warPairs _ h = zL p_X8_warPairs 0 _ [] h from rfl).trans (e_X8_warPairs_0 jx0 h)
set_option maxRecDepth 1000000 in
theorem e_X8_warPairs_9 (jx0 : Nat) (x1 : Int32) (x2 : Int32) (x3 : Int32) (h : zH) : zL p_X8_warPairs 9 [some (.inr (.inr (8, jx0))), some (.inl x1), some (.inl x2), some (.inl x3)] [] h = zf (x3 < (h.1 0 0 4)) (zf (((x1 >>> (x3 &&& 31)) &&& (1 : Int32)) = 1) (zf (vp_in x3 7) (zf (vp_in x3 7) (zci (f_X8_pairBit [(.inl (h.1 31 jx0 x3.toNatClampNeg)), (.inl (h.1 17 0 x3.toNatClampNeg))] h) (fun r2 h1 => zf (vp_in x3 7) (zf (vp_in x3 7) (zci (f_X8_pairBit [(.inl (h1.1 17 0 x3.toNatClampNeg)), (.inl (h1.1 31 jx0 x3.toNatClampNeg))] h1) (fun r4 h3 => zL p_X8_warPairs 9 [some (.inr (.inr (8, jx0))), some (.inl x1), some (.inl (x2 ||| (r2 ||| r4))), some (.inl (x3 + 1))] [] h3)) none) none)) none) none) (zL p_X8_warPairs 9 [some (.inr (.inr (8, jx0))), some (.inl x1), some (.inl x2), some (.inl (x3 + 1))] [] h)) (some (some (.inl x2), h)) := (zL_s (t_X8_warPairs) [0, 9] 1000 9 _ _ _).trans rfl
theorem zMV_8_106 : zMV "SoapTreaty$State" 106 8 y_X8_warPairs prog_10_method_24_code 4 (some .int) 0 := ⟨⟨zT_of 792 (by decide +kernel) (by decide +kernel), zT_of 794 (by decide +kernel) (by decide +kernel), zT_of 18 (by decide +kernel) (by decide +kernel), zT_of 115 (by decide +kernel) (by decide +kernel), zT_of 795 (by decide +kernel) (by decide +kernel)⟩, by decide, rfl, ⟨zT8, 7, rfl⟩, by decide, by decide, by decide +kernel⟩
theorem zMS_8_112 : zMS "SoapTreaty$State" 112 y_X8_hasPair prog_10_method_22_code 3 (some .boolean) 3 := ⟨⟨zT_of 818 (by decide +kernel) (by decide +kernel), zT_of 819 (by decide +kernel) (by decide +kernel), zT_of 115 (by decide +kernel) (by decide +kernel), zT_of 820 (by decide +kernel) (by decide +kernel)⟩, by decide, by decide, by decide, by decide +kernel⟩
/-! SoapTreaty$State.earnestPairs()I -/
def y_X8_earnestPairs : MethodName := ⟨"SoapTreaty$State", "earnestPairs", "()I"⟩
noncomputable def p_X8_earnestPairs_0 : List (Nat × zO) := [(0, zo_push (.inl 0) 1),
  (1, zo_istore 1 2),
  (2, zo_push (.inl 0) 3),
  (3, zo_istore 2 4),
  (4, zo_kill [3, 4, 5] (zo_iload 2 5)),
  (5, zo_aload 0 6),
  (6, zo_getR 8 0 (some 0) 9),
  (9, zo_getI 0 4 12),
  (12, zo_cge 51 15),
  (15, zo_aload 0 16),
  (16, zo_getR 8 33 none 19),
  (19, zo_iload 2 20),
  (20, zo_iald 21),
  (21, zo_0le 45 24),
  (24, zo_iload 1 25),
  (25, zo_aload 0 26),
  (26, zo_getR 8 31 none 29),
  (29, zo_iload 2 30),
  (30, zo_iald 31),
  (31, zo_aload 0 32)]
noncomputable def p_X8_earnestPairs_1 : List (Nat × zO) := [(32, zo_getR 8 0 (some 0) 35),
  (35, zo_getR 0 17 none 38),
  (38, zo_iload 2 39),
  (39, zo_iald 40),
  (40, zo_calli (f_X8_pairBit) 2 43),
  (43, zo_ii (fun x y => x ||| y) 44),
  (44, zo_istore 1 45),
  (45, zo_iinc 2 1 48),
  (48, zo_goto 4),
  (51, zo_iload 1 52),
  (52, zo_aload 0 53),
  (53, zo_vir 8 1 (zo_calli (f_X8_warPairs) 1 56)),
  (56, zo_push (.inl zm1) 57),
  (57, zo_ii (fun x y => x ^^^ y) 58),
  (58, zo_ii (fun x y => x &&& y) 59),
  (59, zo_istore 2 60),
  (60, zo_push (.inl 0) 61),
  (61, zo_istore 3 62),
  (62, zo_push (.inl 0) 63),
  (63, zo_istore 4 65)]
noncomputable def p_X8_earnestPairs_2 : List (Nat × zO) := [(65, zo_kill [1, 5] (zo_iload 4 67)),
  (67, zo_aload 0 68),
  (68, zo_getR 8 0 (some 0) 71),
  (71, zo_getI 0 0 74),
  (74, zo_cge 143 77),
  (77, zo_push (.inl 0) 78),
  (78, zo_istore 5 80),
  (80, zo_kill [1] (zo_iload 5 82)),
  (82, zo_aload 0 83),
  (83, zo_getR 8 0 (some 0) 86),
  (86, zo_getI 0 0 89),
  (89, zo_cge 137 92),
  (92, zo_iload 4 94),
  (94, zo_iload 5 96),
  (96, zo_ceq 131 99),
  (99, zo_iload 2 100),
  (100, zo_iload 4 102),
  (102, zo_iload 5 104),
  (104, zo_calli (f_X8_hasPair) 3 107),
  (107, zo_0eq 131 110)]
noncomputable def p_X8_earnestPairs_3 : List (Nat × zO) := [(110, zo_iload 2 111),
  (111, zo_iload 5 113),
  (113, zo_iload 4 115),
  (115, zo_calli (f_X8_hasPair) 3 118),
  (118, zo_0eq 131 121),
  (121, zo_iload 3 122),
  (122, zo_iload 4 124),
  (124, zo_iload 5 126),
  (126, zo_calli (f_X8_pairBit) 2 129),
  (129, zo_ii (fun x y => x ||| y) 130),
  (130, zo_istore 3 131),
  (131, zo_iinc 5 1 134),
  (134, zo_goto 80),
  (137, zo_iinc 4 1 140),
  (140, zo_goto 65),
  (143, zo_iload 3 144),
  (144, zo_iret)]
noncomputable def p_X8_earnestPairs : Nat → zO := zgs [(32, p_X8_earnestPairs_0), (64, p_X8_earnestPairs_1), (108, p_X8_earnestPairs_2), (145, p_X8_earnestPairs_3)]
theorem t_X8_earnestPairs : ∀ k, zTl (p_X8_earnestPairs k) := fun k => zgs_all (c := [(32, p_X8_earnestPairs_0), (64, p_X8_earnestPairs_1), (108, p_X8_earnestPairs_2), (145, p_X8_earnestPairs_3)]) (fun _ => zl_bad) ⟨⟨zl_push, zl_istore, zl_push, zl_istore, (zl_kill zl_iload), zl_aload, zl_getR, zl_getI, zl_cge, zl_aload, zl_getR, zl_iload, zl_iald, zl_0le, zl_iload, zl_aload, zl_getR, zl_iload, zl_iald, zl_aload, trivial⟩, ⟨zl_getR, zl_getR, zl_iload, zl_iald, zl_calli, zl_ii, zl_istore, zl_iinc, zl_goto, zl_iload, zl_aload, (zl_vir zl_calli), zl_push, zl_ii, zl_ii, zl_istore, zl_push, zl_istore, zl_push, zl_istore, trivial⟩, ⟨(zl_kill zl_iload), zl_aload, zl_getR, zl_getI, zl_cge, zl_push, zl_istore, (zl_kill zl_iload), zl_aload, zl_getR, zl_getI, zl_cge, zl_iload, zl_iload, zl_ceq, zl_iload, zl_iload, zl_iload, zl_calli, zl_0eq, trivial⟩, ⟨zl_iload, zl_iload, zl_iload, zl_calli, zl_0eq, zl_iload, zl_iload, zl_iload, zl_calli, zl_ii, zl_istore, zl_iinc, zl_goto, zl_iinc, zl_goto, zl_iload, zl_iret, trivial⟩, trivial⟩ k
noncomputable def f_X8_earnestPairs : zS := zrun p_X8_earnestPairs 6
set_option maxRecDepth 20000 in
theorem s_X8_earnestPairs_0 {l : Launch} {D : va_G} {ad : Nat → Nat → Nat} {cy : Nat → ClassId} {L : List (Nat × Nat)} (hcl : zclo L = true) (hinj : zAd ad L) {X : zCtx} (hX : zXok X "SoapTreaty$State" prog_10_method_25_code 6) (hR : zRt X (some .int)) (hl : zXl X l D ad cy L (zroom 4)) : zAllR (zSo X) p_X8_earnestPairs_0 := ⟨zs_pushI (zg_iconst (by decide) hX (by decide +kernel : decode prog_10_method_25_code 0 = .ok (.iconst 0, 1)) rfl),
  zs_istore_n (i := 1) rfl hX (by decide +kernel : decode prog_10_method_25_code 1 = .ok (.istore_n 1, 1)) rfl (by decide),
  zs_pushI (zg_iconst (by decide) hX (by decide +kernel : decode prog_10_method_25_code 2 = .ok (.iconst 0, 1)) rfl),
  zs_istore_n (i := 2) rfl hX (by decide +kernel : decode prog_10_method_25_code 3 = .ok (.istore_n 2, 1)) rfl (by decide),
  zs_kill hX (by decide) (zs_iload_n (i := 2) rfl hX (by decide +kernel : decode prog_10_method_25_code 4 = .ok (.iload_n 2, 1)) rfl (by decide)),
  zs_aload_n (i := 0) rfl hX (by decide +kernel : decode prog_10_method_25_code 5 = .ok (.aload_n 0, 1)) rfl (by decide),
  zs_getR hX zFL_8_23 (by decide +kernel : decode prog_10_method_25_code 6 = .ok (.getfield 23, 3)) rfl,
  zs_getI hX zFL_8_54 (by decide) (by decide) (by decide +kernel : decode prog_10_method_25_code 9 = .ok (.getfield 54, 3)) rfl,
  zs_cge hX (by decide +kernel : decode prog_10_method_25_code 12 = .ok (.if_icmp .ge 39, 3)) (by decide) rfl,
  zs_aload_n (i := 0) rfl hX (by decide +kernel : decode prog_10_method_25_code 15 = .ok (.aload_n 0, 1)) rfl (by decide),
  zs_getR hX zFL_8_20 (by decide +kernel : decode prog_10_method_25_code 16 = .ok (.getfield 20, 3)) rfl,
  zs_iload_n (i := 2) rfl hX (by decide +kernel : decode prog_10_method_25_code 19 = .ok (.iload_n 2, 1)) rfl (by decide),
  zs_iald hX (by decide +kernel : decode prog_10_method_25_code 20 = .ok (.iaload, 1)) rfl,
  zs_0le hX (by decide +kernel : decode prog_10_method_25_code 21 = .ok (.ifCond .le 24, 3)) (by decide) rfl,
  zs_iload_n (i := 1) rfl hX (by decide +kernel : decode prog_10_method_25_code 24 = .ok (.iload_n 1, 1)) rfl (by decide),
  zs_aload_n (i := 0) rfl hX (by decide +kernel : decode prog_10_method_25_code 25 = .ok (.aload_n 0, 1)) rfl (by decide),
  zs_getR hX zFL_8_11 (by decide +kernel : decode prog_10_method_25_code 26 = .ok (.getfield 11, 3)) rfl,
  zs_iload_n (i := 2) rfl hX (by decide +kernel : decode prog_10_method_25_code 29 = .ok (.iload_n 2, 1)) rfl (by decide),
  zs_iald hX (by decide +kernel : decode prog_10_method_25_code 30 = .ok (.iaload, 1)) rfl,
  zs_aload_n (i := 0) rfl hX (by decide +kernel : decode prog_10_method_25_code 31 = .ok (.aload_n 0, 1)) rfl (by decide), trivial⟩
set_option maxRecDepth 20000 in
theorem s_X8_earnestPairs_1 {l : Launch} {D : va_G} {ad : Nat → Nat → Nat} {cy : Nat → ClassId} {L : List (Nat × Nat)} (hcl : zclo L = true) (hinj : zAd ad L) {X : zCtx} (hX : zXok X "SoapTreaty$State" prog_10_method_25_code 6) (hR : zRt X (some .int)) (hl : zXl X l D ad cy L (zroom 4)) : zAllR (zSo X) p_X8_earnestPairs_1 := ⟨zs_getR hX zFL_8_23 (by decide +kernel : decode prog_10_method_25_code 32 = .ok (.getfield 23, 3)) rfl,
  zs_getR hX zFL_8_95 (by decide +kernel : decode prog_10_method_25_code 35 = .ok (.getfield 95, 3)) rfl,
  zs_iload_n (i := 2) rfl hX (by decide +kernel : decode prog_10_method_25_code 38 = .ok (.iload_n 2, 1)) rfl (by decide),
  zs_iald hX (by decide +kernel : decode prog_10_method_25_code 39 = .ok (.iaload, 1)) rfl,
  zs_callSi hX zMS_8_98 (zXc_of hl (by decide) (k_X8_pairBit hcl hinj)) (by decide +kernel : decode prog_10_method_25_code 40 = .ok (.invokestatic 98, 3)) rfl,
  zs_ii (zg_ior hX (by decide +kernel : decode prog_10_method_25_code 43 = .ok (.ior, 1)) rfl),
  zs_istore_n (i := 1) rfl hX (by decide +kernel : decode prog_10_method_25_code 44 = .ok (.istore_n 1, 1)) rfl (by decide),
  zs_iinc hX (by decide +kernel : decode prog_10_method_25_code 45 = .ok (.iinc 2 1, 3)) (by decide) rfl (by decide),
  zs_goto hX (by decide +kernel : decode prog_10_method_25_code 48 = .ok (.goto (-44), 3)) (by decide),
  zs_iload_n (i := 1) rfl hX (by decide +kernel : decode prog_10_method_25_code 51 = .ok (.iload_n 1, 1)) rfl (by decide),
  zs_aload_n (i := 0) rfl hX (by decide +kernel : decode prog_10_method_25_code 52 = .ok (.aload_n 0, 1)) rfl (by decide),
  zs_callVi hX zMV_8_106 (zXc_of hl (by decide) (k_X8_warPairs hcl hinj)) (by decide +kernel : decode prog_10_method_25_code 53 = .ok (.invokevirtual 106, 3)) rfl,
  zs_pushI (zg_iconst (by decide) hX (by decide +kernel : decode prog_10_method_25_code 56 = .ok (.iconst (-1), 1)) rfl),
  zs_ii (zg_ixor hX (by decide +kernel : decode prog_10_method_25_code 57 = .ok (.ixor, 1)) rfl),
  zs_ii (zg_iand hX (by decide +kernel : decode prog_10_method_25_code 58 = .ok (.iand, 1)) rfl),
  zs_istore_n (i := 2) rfl hX (by decide +kernel : decode prog_10_method_25_code 59 = .ok (.istore_n 2, 1)) rfl (by decide),
  zs_pushI (zg_iconst (by decide) hX (by decide +kernel : decode prog_10_method_25_code 60 = .ok (.iconst 0, 1)) rfl),
  zs_istore_n (i := 3) rfl hX (by decide +kernel : decode prog_10_method_25_code 61 = .ok (.istore_n 3, 1)) rfl (by decide),
  zs_pushI (zg_iconst (by decide) hX (by decide +kernel : decode prog_10_method_25_code 62 = .ok (.iconst 0, 1)) rfl),
  zs_istore hX (by decide +kernel : decode prog_10_method_25_code 63 = .ok (.istore 4, 2)) rfl (by decide), trivial⟩
set_option maxRecDepth 20000 in
theorem s_X8_earnestPairs_2 {l : Launch} {D : va_G} {ad : Nat → Nat → Nat} {cy : Nat → ClassId} {L : List (Nat × Nat)} (hcl : zclo L = true) (hinj : zAd ad L) {X : zCtx} (hX : zXok X "SoapTreaty$State" prog_10_method_25_code 6) (hR : zRt X (some .int)) (hl : zXl X l D ad cy L (zroom 4)) : zAllR (zSo X) p_X8_earnestPairs_2 := ⟨zs_kill hX (by decide) (zs_iload hX (by decide +kernel : decode prog_10_method_25_code 65 = .ok (.iload 4, 2)) rfl (by decide)),
  zs_aload_n (i := 0) rfl hX (by decide +kernel : decode prog_10_method_25_code 67 = .ok (.aload_n 0, 1)) rfl (by decide),
  zs_getR hX zFL_8_23 (by decide +kernel : decode prog_10_method_25_code 68 = .ok (.getfield 23, 3)) rfl,
  zs_getI hX zFL_8_109 (by decide) (by decide) (by decide +kernel : decode prog_10_method_25_code 71 = .ok (.getfield 109, 3)) rfl,
  zs_cge hX (by decide +kernel : decode prog_10_method_25_code 74 = .ok (.if_icmp .ge 69, 3)) (by decide) rfl,
  zs_pushI (zg_iconst (by decide) hX (by decide +kernel : decode prog_10_method_25_code 77 = .ok (.iconst 0, 1)) rfl),
  zs_istore hX (by decide +kernel : decode prog_10_method_25_code 78 = .ok (.istore 5, 2)) rfl (by decide),
  zs_kill hX (by decide) (zs_iload hX (by decide +kernel : decode prog_10_method_25_code 80 = .ok (.iload 5, 2)) rfl (by decide)),
  zs_aload_n (i := 0) rfl hX (by decide +kernel : decode prog_10_method_25_code 82 = .ok (.aload_n 0, 1)) rfl (by decide),
  zs_getR hX zFL_8_23 (by decide +kernel : decode prog_10_method_25_code 83 = .ok (.getfield 23, 3)) rfl,
  zs_getI hX zFL_8_109 (by decide) (by decide) (by decide +kernel : decode prog_10_method_25_code 86 = .ok (.getfield 109, 3)) rfl,
  zs_cge hX (by decide +kernel : decode prog_10_method_25_code 89 = .ok (.if_icmp .ge 48, 3)) (by decide) rfl,
  zs_iload hX (by decide +kernel : decode prog_10_method_25_code 92 = .ok (.iload 4, 2)) rfl (by decide),
  zs_iload hX (by decide +kernel : decode prog_10_method_25_code 94 = .ok (.iload 5, 2)) rfl (by decide),
  zs_ceq hX (by decide +kernel : decode prog_10_method_25_code 96 = .ok (.if_icmp .eq 35, 3)) (by decide) rfl,
  zs_iload_n (i := 2) rfl hX (by decide +kernel : decode prog_10_method_25_code 99 = .ok (.iload_n 2, 1)) rfl (by decide),
  zs_iload hX (by decide +kernel : decode prog_10_method_25_code 100 = .ok (.iload 4, 2)) rfl (by decide),
  zs_iload hX (by decide +kernel : decode prog_10_method_25_code 102 = .ok (.iload 5, 2)) rfl (by decide),
  zs_callSi hX zMS_8_112 (zXc_of hl (by decide) (k_X8_hasPair hcl hinj)) (by decide +kernel : decode prog_10_method_25_code 104 = .ok (.invokestatic 112, 3)) rfl,
  zs_0eq hX (by decide +kernel : decode prog_10_method_25_code 107 = .ok (.ifCond .eq 24, 3)) (by decide) rfl, trivial⟩
set_option maxRecDepth 20000 in
theorem s_X8_earnestPairs_3 {l : Launch} {D : va_G} {ad : Nat → Nat → Nat} {cy : Nat → ClassId} {L : List (Nat × Nat)} (hcl : zclo L = true) (hinj : zAd ad L) {X : zCtx} (hX : zXok X "SoapTreaty$State" prog_10_method_25_code 6) (hR : zRt X (some .int)) (hl : zXl X l D ad cy L (zroom 4)) : zAllR (zSo X) p_X8_earnestPairs_3 := ⟨zs_iload_n (i := 2) rfl hX (by decide +kernel : decode prog_10_method_25_code 110 = .ok (.iload_n 2, 1)) rfl (by decide),
  zs_iload hX (by decide +kernel : decode prog_10_method_25_code 111 = .ok (.iload 5, 2)) rfl (by decide),
  zs_iload hX (by decide +kernel : decode prog_10_method_25_code 113 = .ok (.iload 4, 2)) rfl (by decide),
  zs_callSi hX zMS_8_112 (zXc_of hl (by decide) (k_X8_hasPair hcl hinj)) (by decide +kernel : decode prog_10_method_25_code 115 = .ok (.invokestatic 112, 3)) rfl,
  zs_0eq hX (by decide +kernel : decode prog_10_method_25_code 118 = .ok (.ifCond .eq 13, 3)) (by decide) rfl,
  zs_iload_n (i := 3) rfl hX (by decide +kernel : decode prog_10_method_25_code 121 = .ok (.iload_n 3, 1)) rfl (by decide),
  zs_iload hX (by decide +kernel : decode prog_10_method_25_code 122 = .ok (.iload 4, 2)) rfl (by decide),
  zs_iload hX (by decide +kernel : decode prog_10_method_25_code 124 = .ok (.iload 5, 2)) rfl (by decide),
  zs_callSi hX zMS_8_98 (zXc_of hl (by decide) (k_X8_pairBit hcl hinj)) (by decide +kernel : decode prog_10_method_25_code 126 = .ok (.invokestatic 98, 3)) rfl,
  zs_ii (zg_ior hX (by decide +kernel : decode prog_10_method_25_code 129 = .ok (.ior, 1)) rfl),
  zs_istore_n (i := 3) rfl hX (by decide +kernel : decode prog_10_method_25_code 130 = .ok (.istore_n 3, 1)) rfl (by decide),
  zs_iinc hX (by decide +kernel : decode prog_10_method_25_code 131 = .ok (.iinc 5 1, 3)) (by decide) rfl (by decide),
  zs_goto hX (by decide +kernel : decode prog_10_method_25_code 134 = .ok (.goto (-54), 3)) (by decide),
  zs_iinc hX (by decide +kernel : decode prog_10_method_25_code 137 = .ok (.iinc 4 1, 3)) (by decide) rfl (by decide),
  zs_goto hX (by decide +kernel : decode prog_10_method_25_code 140 = .ok (.goto (-75), 3)) (by decide),
  zs_iload_n (i := 3) rfl hX (by decide +kernel : decode prog_10_method_25_code 143 = .ok (.iload_n 3, 1)) rfl (by decide),
  zs_iret hX hR (by decide +kernel : decode prog_10_method_25_code 144 = .ok (.ireturn, 1)), trivial⟩
theorem k_X8_earnestPairs {l : Launch} {D : va_G} {ad : Nat → Nat → Nat} {cy : Nat → ClassId} {L : List (Nat × Nat)} (hcl : zclo L = true) (hinj : zAd ad L) : zCk l D ad cy L 4 f_X8_earnestPairs y_X8_earnestPairs (.code y_X8_earnestPairs prog_10_method_25_code 6 (some .int)) :=
  z_met (by decide) t_X8_earnestPairs hcl hinj (fun X hX hR hl k => zgs_all (Q := zSo X) (c := [(32, p_X8_earnestPairs_0), (64, p_X8_earnestPairs_1), (108, p_X8_earnestPairs_2), (145, p_X8_earnestPairs_3)]) (fun _ => zs_bad) ⟨s_X8_earnestPairs_0 hcl hinj hX hR hl, s_X8_earnestPairs_1 hcl hinj hX hR hl, s_X8_earnestPairs_2 hcl hinj hX hR hl, s_X8_earnestPairs_3 hcl hinj hX hR hl, trivial⟩ k)
set_option maxRecDepth 1000000 in
theorem e_X8_earnestPairs_0 (jx0 : Nat) (h : zH) : zL p_X8_earnestPairs 0 [some (.inr (.inr (8, jx0))), none, none, none, none, none] [] h = zL p_X8_earnestPairs 4 [some (.inr (.inr (8, jx0))), some (.inl 0), some (.inl 0), none, none, none] [] h := (zL_s (t_X8_earnestPairs) [0, 4, 65, 80] 1000 0 _ _ _).trans rfl
theorem g_X8_earnestPairs (jx0 : Nat) (h : zH) : f_X8_earnestPairs [(.inr (.inr (8, jx0)))] h = zL p_X8_earnestPairs 4 [some (.inr (.inr (8, jx0))), some (.inl 0), some (.inl 0), none, none, none] [] h := (show f_X8_earnestPairs _ h = zL p_X8_earnestPairs 0 _ [] h from rfl).trans (e_X8_earnestPairs_0 jx0 h)
set_option maxRecDepth 1000000 in
theorem e_X8_earnestPairs_4 (jx0 : Nat) (x1 : Int32) (x2 : Int32) (o3 : Option zV) (o4 : Option zV) (o5 : Option zV) (h : zH) : zL p_X8_earnestPairs 4 [some (.inr (.inr (8, jx0))), some (.inl x1), some (.inl x2), o3, o4, o5] [] h = zf (x2 < (h.1 0 0 4)) (zf (vp_in x2 7) (zf (0 < (h.1 33 jx0 x2.toNatClampNeg)) (zf (vp_in x2 7) (zf (vp_in x2 7) (zci (f_X8_pairBit [(.inl (h.1 31 jx0 x2.toNatClampNeg)), (.inl (h.1 17 0 x2.toNatClampNeg))] h) (fun r4 h3 => zL p_X8_earnestPairs 4 [some (.inr (.inr (8, jx0))), some (.inl (x1 ||| r4)), some (.inl (x2 + 1)), none, none, none] [] h3)) none) none) (zL p_X8_earnestPairs 4 [some (.inr (.inr (8, jx0))), some (.inl x1), some (.inl (x2 + 1)), none, none, none] [] h)) none) (zci (f_X8_warPairs [(.inr (.inr (8, jx0)))] h) (fun r2 h1 => zL p_X8_earnestPairs 65 [some (.inr (.inr (8, jx0))), some (.inl x1), some (.inl (x1 &&& (r2 ^^^ zm1))), some (.inl 0), some (.inl 0), none] [] h1)) := (zL_s (t_X8_earnestPairs) [0, 4, 65, 80] 1000 4 _ _ _).trans rfl
set_option maxRecDepth 1000000 in
theorem e_X8_earnestPairs_65 (jx0 : Nat) (o1 : Option zV) (x2 : Int32) (x3 : Int32) (x4 : Int32) (o5 : Option zV) (h : zH) : zL p_X8_earnestPairs 65 [some (.inr (.inr (8, jx0))), o1, some (.inl x2), some (.inl x3), some (.inl x4), o5] [] h = zf (x4 < (h.1 0 0 0)) (zL p_X8_earnestPairs 80 [some (.inr (.inr (8, jx0))), none, some (.inl x2), some (.inl x3), some (.inl x4), some (.inl 0)] [] h) (some (some (.inl x3), h)) := (zL_s (t_X8_earnestPairs) [0, 4, 65, 80] 1000 65 _ _ _).trans rfl
set_option maxRecDepth 1000000 in
theorem e_X8_earnestPairs_80 (jx0 : Nat) (o1 : Option zV) (x2 : Int32) (x3 : Int32) (x4 : Int32) (x5 : Int32) (h : zH) : zL p_X8_earnestPairs 80 [some (.inr (.inr (8, jx0))), o1, some (.inl x2), some (.inl x3), some (.inl x4), some (.inl x5)] [] h = zf (x5 < (h.1 0 0 0)) (zf (x4 = x5) (zL p_X8_earnestPairs 80 [some (.inr (.inr (8, jx0))), none, some (.inl x2), some (.inl x3), some (.inl x4), some (.inl (x5 + 1))] [] h) (zci (f_X8_hasPair [(.inl x2), (.inl x4), (.inl x5)] h) (fun r2 h1 => zf (r2 = 0) (zL p_X8_earnestPairs 80 [some (.inr (.inr (8, jx0))), none, some (.inl x2), some (.inl x3), some (.inl x4), some (.inl (x5 + 1))] [] h1) (zci (f_X8_hasPair [(.inl x2), (.inl x5), (.inl x4)] h1) (fun r4 h3 => zf (r4 = 0) (zL p_X8_earnestPairs 80 [some (.inr (.inr (8, jx0))), none, some (.inl x2), some (.inl x3), some (.inl x4), some (.inl (x5 + 1))] [] h3) (zci (f_X8_pairBit [(.inl x4), (.inl x5)] h3) (fun r6 h5 => zL p_X8_earnestPairs 80 [some (.inr (.inr (8, jx0))), none, some (.inl x2), some (.inl (x3 ||| r6)), some (.inl x4), some (.inl (x5 + 1))] [] h5))))))) (zL p_X8_earnestPairs 65 [some (.inr (.inr (8, jx0))), none, some (.inl x2), some (.inl x3), some (.inl (x4 + 1)), some (.inl x5)] [] h) := (zL_s (t_X8_earnestPairs) [0, 4, 65, 80] 1000 80 _ _ _).trans rfl
theorem zMS_8_115 : zMS "SoapTreaty$State" 115 y_X8_othersOf prog_10_method_23_code 2 (some .int) 2 := ⟨⟨zT_of 807 (by decide +kernel) (by decide +kernel), zT_of 808 (by decide +kernel) (by decide +kernel), zT_of 115 (by decide +kernel) (by decide +kernel), zT_of 809 (by decide +kernel) (by decide +kernel)⟩, by decide, by decide, by decide, by decide +kernel⟩
/-! SoapTreaty$State.foesOf(I)I -/
def y_X8_foesOf : MethodName := ⟨"SoapTreaty$State", "foesOf", "(I)I"⟩
noncomputable def p_X8_foesOf_0 : List (Nat × zO) := [(0, zo_aload 0 1),
  (1, zo_vir 8 1 (zo_calli (f_X8_warPairs) 1 4)),
  (4, zo_iload 1 5),
  (5, zo_calli (f_X8_othersOf) 2 8),
  (8, zo_iret)]
noncomputable def p_X8_foesOf : Nat → zO := zgs [(9, p_X8_foesOf_0)]
theorem t_X8_foesOf : ∀ k, zTl (p_X8_foesOf k) := fun k => zgs_all (c := [(9, p_X8_foesOf_0)]) (fun _ => zl_bad) ⟨⟨zl_aload, (zl_vir zl_calli), zl_iload, zl_calli, zl_iret, trivial⟩, trivial⟩ k
noncomputable def f_X8_foesOf : zS := zrun p_X8_foesOf 2
set_option maxRecDepth 20000 in
theorem s_X8_foesOf_0 {l : Launch} {D : va_G} {ad : Nat → Nat → Nat} {cy : Nat → ClassId} {L : List (Nat × Nat)} (hcl : zclo L = true) (hinj : zAd ad L) {X : zCtx} (hX : zXok X "SoapTreaty$State" prog_10_method_26_code 2) (hR : zRt X (some .int)) (hl : zXl X l D ad cy L (zroom 4)) : zAllR (zSo X) p_X8_foesOf_0 := ⟨zs_aload_n (i := 0) rfl hX (by decide +kernel : decode prog_10_method_26_code 0 = .ok (.aload_n 0, 1)) rfl (by decide),
  zs_callVi hX zMV_8_106 (zXc_of hl (by decide) (k_X8_warPairs hcl hinj)) (by decide +kernel : decode prog_10_method_26_code 1 = .ok (.invokevirtual 106, 3)) rfl,
  zs_iload_n (i := 1) rfl hX (by decide +kernel : decode prog_10_method_26_code 4 = .ok (.iload_n 1, 1)) rfl (by decide),
  zs_callSi hX zMS_8_115 (zXc_of hl (by decide) (k_X8_othersOf hcl hinj)) (by decide +kernel : decode prog_10_method_26_code 5 = .ok (.invokestatic 115, 3)) rfl,
  zs_iret hX hR (by decide +kernel : decode prog_10_method_26_code 8 = .ok (.ireturn, 1)), trivial⟩
theorem k_X8_foesOf {l : Launch} {D : va_G} {ad : Nat → Nat → Nat} {cy : Nat → ClassId} {L : List (Nat × Nat)} (hcl : zclo L = true) (hinj : zAd ad L) : zCk l D ad cy L 4 f_X8_foesOf y_X8_foesOf (.code y_X8_foesOf prog_10_method_26_code 2 (some .int)) :=
  z_met (by decide) t_X8_foesOf hcl hinj (fun X hX hR hl k => zgs_all (Q := zSo X) (c := [(9, p_X8_foesOf_0)]) (fun _ => zs_bad) ⟨s_X8_foesOf_0 hcl hinj hX hR hl, trivial⟩ k)
set_option maxRecDepth 1000000 in
theorem e_X8_foesOf_0 (jx0 : Nat) (x1 : Int32) (h : zH) : zL p_X8_foesOf 0 [some (.inr (.inr (8, jx0))), some (.inl x1)] [] h = zci (f_X8_warPairs [(.inr (.inr (8, jx0)))] h) (fun r2 h1 => zci (f_X8_othersOf [(.inl r2), (.inl x1)] h1) (fun r4 h3 => some (some (.inl r4), h3))) := (zL_s (t_X8_foesOf) [0] 1000 0 _ _ _).trans rfl
theorem g_X8_foesOf (jx0 : Nat) (x1 : Int32) (h : zH) : f_X8_foesOf [(.inr (.inr (8, jx0))), (.inl x1)] h = zci (f_X8_warPairs [(.inr (.inr (8, jx0)))] h) (fun r2 h1 => zci (f_X8_othersOf [(.inl r2), (.inl x1)] h1) (fun r4 h3 => some (some (.inl r4), h3))) := (show f_X8_foesOf _ h = zL p_X8_foesOf 0 _ [] h from rfl).trans (e_X8_foesOf_0 jx0 x1 h)
theorem zMV_8_118 : zMV "SoapTreaty$State" 118 8 y_X8_earnestPairs prog_10_method_25_code 6 (some .int) 0 := ⟨⟨zT_of 814 (by decide +kernel) (by decide +kernel), zT_of 816 (by decide +kernel) (by decide +kernel), zT_of 19 (by decide +kernel) (by decide +kernel), zT_of 115 (by decide +kernel) (by decide +kernel), zT_of 817 (by decide +kernel) (by decide +kernel)⟩, by decide, rfl, ⟨zT8, 7, rfl⟩, by decide, by decide, by decide +kernel⟩
/-! SoapTreaty$State.areInEarnest(II)Z -/
def y_X8_areInEarnest : MethodName := ⟨"SoapTreaty$State", "areInEarnest", "(II)Z"⟩
noncomputable def p_X8_areInEarnest_0 : List (Nat × zO) := [(0, zo_aload 0 1),
  (1, zo_vir 8 1 (zo_calli (f_X8_earnestPairs) 1 4)),
  (4, zo_iload 1 5),
  (5, zo_iload 2 6),
  (6, zo_calli (f_X8_hasPair) 3 9),
  (9, zo_zret)]
noncomputable def p_X8_areInEarnest : Nat → zO := zgs [(10, p_X8_areInEarnest_0)]
theorem t_X8_areInEarnest : ∀ k, zTl (p_X8_areInEarnest k) := fun k => zgs_all (c := [(10, p_X8_areInEarnest_0)]) (fun _ => zl_bad) ⟨⟨zl_aload, (zl_vir zl_calli), zl_iload, zl_iload, zl_calli, zl_zret, trivial⟩, trivial⟩ k
noncomputable def f_X8_areInEarnest : zS := zrun p_X8_areInEarnest 3
set_option maxRecDepth 20000 in
theorem s_X8_areInEarnest_0 {l : Launch} {D : va_G} {ad : Nat → Nat → Nat} {cy : Nat → ClassId} {L : List (Nat × Nat)} (hcl : zclo L = true) (hinj : zAd ad L) {X : zCtx} (hX : zXok X "SoapTreaty$State" prog_10_method_27_code 3) (hR : zRt X (some .boolean)) (hl : zXl X l D ad cy L (zroom 5)) : zAllR (zSo X) p_X8_areInEarnest_0 := ⟨zs_aload_n (i := 0) rfl hX (by decide +kernel : decode prog_10_method_27_code 0 = .ok (.aload_n 0, 1)) rfl (by decide),
  zs_callVi hX zMV_8_118 (zXc_of hl (by decide) (k_X8_earnestPairs hcl hinj)) (by decide +kernel : decode prog_10_method_27_code 1 = .ok (.invokevirtual 118, 3)) rfl,
  zs_iload_n (i := 1) rfl hX (by decide +kernel : decode prog_10_method_27_code 4 = .ok (.iload_n 1, 1)) rfl (by decide),
  zs_iload_n (i := 2) rfl hX (by decide +kernel : decode prog_10_method_27_code 5 = .ok (.iload_n 2, 1)) rfl (by decide),
  zs_callSi hX zMS_8_112 (zXc_of hl (by decide) (k_X8_hasPair hcl hinj)) (by decide +kernel : decode prog_10_method_27_code 6 = .ok (.invokestatic 112, 3)) rfl,
  zs_zret hX hR (by decide +kernel : decode prog_10_method_27_code 9 = .ok (.ireturn, 1)), trivial⟩
theorem k_X8_areInEarnest {l : Launch} {D : va_G} {ad : Nat → Nat → Nat} {cy : Nat → ClassId} {L : List (Nat × Nat)} (hcl : zclo L = true) (hinj : zAd ad L) : zCk l D ad cy L 5 f_X8_areInEarnest y_X8_areInEarnest (.code y_X8_areInEarnest prog_10_method_27_code 3 (some .boolean)) :=
  z_met (by decide) t_X8_areInEarnest hcl hinj (fun X hX hR hl k => zgs_all (Q := zSo X) (c := [(10, p_X8_areInEarnest_0)]) (fun _ => zs_bad) ⟨s_X8_areInEarnest_0 hcl hinj hX hR hl, trivial⟩ k)
set_option maxRecDepth 1000000 in
theorem e_X8_areInEarnest_0 (jx0 : Nat) (x1 : Int32) (x2 : Int32) (h : zH) : zL p_X8_areInEarnest 0 [some (.inr (.inr (8, jx0))), some (.inl x1), some (.inl x2)] [] h = zci (f_X8_earnestPairs [(.inr (.inr (8, jx0)))] h) (fun r2 h1 => zci (f_X8_hasPair [(.inl r2), (.inl x1), (.inl x2)] h1) (fun r4 h3 => zf ((r4 : Int32) = 0 ∨ (r4 : Int32) = 1) (some (some (.inl r4), h3)) none)) := (zL_s (t_X8_areInEarnest) [0] 1000 0 _ _ _).trans rfl
theorem g_X8_areInEarnest (jx0 : Nat) (x1 : Int32) (x2 : Int32) (h : zH) : f_X8_areInEarnest [(.inr (.inr (8, jx0))), (.inl x1), (.inl x2)] h = zci (f_X8_earnestPairs [(.inr (.inr (8, jx0)))] h) (fun r2 h1 => zci (f_X8_hasPair [(.inl r2), (.inl x1), (.inl x2)] h1) (fun r4 h3 => zf ((r4 : Int32) = 0 ∨ (r4 : Int32) = 1) (some (some (.inl r4), h3)) none)) := (show f_X8_areInEarnest _ h = zL p_X8_areInEarnest 0 _ [] h from rfl).trans (e_X8_areInEarnest_0 jx0 x1 x2 h)
/-! SoapTreaty$State.blocOf(I)I -/
def y_X8_blocOf : MethodName := ⟨"SoapTreaty$State", "blocOf", "(I)I"⟩
noncomputable def p_X8_blocOf_0 : List (Nat × zO) := [(0, zo_aload 0 1),
  (1, zo_vir 8 1 (zo_calli (f_X8_earnestPairs) 1 4)),
  (4, zo_istore 2 5),
  (5, zo_push (.inl 1) 6),
  (6, zo_iload 1 7),
  (7, zo_ii (fun x y => x <<< (y &&& 31)) 8),
  (8, zo_istore 3 9),
  (9, zo_push (.inl 0) 10),
  (10, zo_istore 4 12),
  (12, zo_kill [1, 5] (zo_iload 4 14)),
  (14, zo_aload 0 15),
  (15, zo_getR 8 0 (some 0) 18),
  (18, zo_getI 0 0 21),
  (21, zo_cge 70 24),
  (24, zo_push (.inl 0) 25),
  (25, zo_istore 5 27),
  (27, zo_kill [1] (zo_iload 5 29)),
  (29, zo_aload 0 30),
  (30, zo_getR 8 0 (some 0) 33),
  (33, zo_getI 0 0 36)]
noncomputable def p_X8_blocOf_1 : List (Nat × zO) := [(36, zo_cge 64 39),
  (39, zo_iload 3 40),
  (40, zo_iload 5 42),
  (42, zo_ii (fun x y => x >>> (y &&& 31)) 43),
  (43, zo_push (.inl 1) 44),
  (44, zo_ii (fun x y => x &&& y) 45),
  (45, zo_push (.inl 1) 46),
  (46, zo_cne 58 49),
  (49, zo_iload 3 50),
  (50, zo_iload 2 51),
  (51, zo_iload 5 53),
  (53, zo_calli (f_X8_othersOf) 2 56),
  (56, zo_ii (fun x y => x ||| y) 57),
  (57, zo_istore 3 58),
  (58, zo_iinc 5 1 61),
  (61, zo_goto 27),
  (64, zo_iinc 4 1 67),
  (67, zo_goto 12),
  (70, zo_iload 3 71),
  (71, zo_iret)]
noncomputable def p_X8_blocOf : Nat → zO := zgs [(34, p_X8_blocOf_0), (72, p_X8_blocOf_1)]
theorem t_X8_blocOf : ∀ k, zTl (p_X8_blocOf k) := fun k => zgs_all (c := [(34, p_X8_blocOf_0), (72, p_X8_blocOf_1)]) (fun _ => zl_bad) ⟨⟨zl_aload, (zl_vir zl_calli), zl_istore, zl_push, zl_iload, zl_ii, zl_istore, zl_push, zl_istore, (zl_kill zl_iload), zl_aload, zl_getR, zl_getI, zl_cge, zl_push, zl_istore, (zl_kill zl_iload), zl_aload, zl_getR, zl_getI, trivial⟩, ⟨zl_cge, zl_iload, zl_iload, zl_ii, zl_push, zl_ii, zl_push, zl_cne, zl_iload, zl_iload, zl_iload, zl_calli, zl_ii, zl_istore, zl_iinc, zl_goto, zl_iinc, zl_goto, zl_iload, zl_iret, trivial⟩, trivial⟩ k
noncomputable def f_X8_blocOf : zS := zrun p_X8_blocOf 6
set_option maxRecDepth 20000 in
theorem s_X8_blocOf_0 {l : Launch} {D : va_G} {ad : Nat → Nat → Nat} {cy : Nat → ClassId} {L : List (Nat × Nat)} (hcl : zclo L = true) (hinj : zAd ad L) {X : zCtx} (hX : zXok X "SoapTreaty$State" prog_10_method_28_code 6) (hR : zRt X (some .int)) (hl : zXl X l D ad cy L (zroom 5)) : zAllR (zSo X) p_X8_blocOf_0 := ⟨zs_aload_n (i := 0) rfl hX (by decide +kernel : decode prog_10_method_28_code 0 = .ok (.aload_n 0, 1)) rfl (by decide),
  zs_callVi hX zMV_8_118 (zXc_of hl (by decide) (k_X8_earnestPairs hcl hinj)) (by decide +kernel : decode prog_10_method_28_code 1 = .ok (.invokevirtual 118, 3)) rfl,
  zs_istore_n (i := 2) rfl hX (by decide +kernel : decode prog_10_method_28_code 4 = .ok (.istore_n 2, 1)) rfl (by decide),
  zs_pushI (zg_iconst (by decide) hX (by decide +kernel : decode prog_10_method_28_code 5 = .ok (.iconst 1, 1)) rfl),
  zs_iload_n (i := 1) rfl hX (by decide +kernel : decode prog_10_method_28_code 6 = .ok (.iload_n 1, 1)) rfl (by decide),
  zs_ii (zg_ishl hX (by decide +kernel : decode prog_10_method_28_code 7 = .ok (.ishl, 1)) rfl),
  zs_istore_n (i := 3) rfl hX (by decide +kernel : decode prog_10_method_28_code 8 = .ok (.istore_n 3, 1)) rfl (by decide),
  zs_pushI (zg_iconst (by decide) hX (by decide +kernel : decode prog_10_method_28_code 9 = .ok (.iconst 0, 1)) rfl),
  zs_istore hX (by decide +kernel : decode prog_10_method_28_code 10 = .ok (.istore 4, 2)) rfl (by decide),
  zs_kill hX (by decide) (zs_iload hX (by decide +kernel : decode prog_10_method_28_code 12 = .ok (.iload 4, 2)) rfl (by decide)),
  zs_aload_n (i := 0) rfl hX (by decide +kernel : decode prog_10_method_28_code 14 = .ok (.aload_n 0, 1)) rfl (by decide),
  zs_getR hX zFL_8_23 (by decide +kernel : decode prog_10_method_28_code 15 = .ok (.getfield 23, 3)) rfl,
  zs_getI hX zFL_8_109 (by decide) (by decide) (by decide +kernel : decode prog_10_method_28_code 18 = .ok (.getfield 109, 3)) rfl,
  zs_cge hX (by decide +kernel : decode prog_10_method_28_code 21 = .ok (.if_icmp .ge 49, 3)) (by decide) rfl,
  zs_pushI (zg_iconst (by decide) hX (by decide +kernel : decode prog_10_method_28_code 24 = .ok (.iconst 0, 1)) rfl),
  zs_istore hX (by decide +kernel : decode prog_10_method_28_code 25 = .ok (.istore 5, 2)) rfl (by decide),
  zs_kill hX (by decide) (zs_iload hX (by decide +kernel : decode prog_10_method_28_code 27 = .ok (.iload 5, 2)) rfl (by decide)),
  zs_aload_n (i := 0) rfl hX (by decide +kernel : decode prog_10_method_28_code 29 = .ok (.aload_n 0, 1)) rfl (by decide),
  zs_getR hX zFL_8_23 (by decide +kernel : decode prog_10_method_28_code 30 = .ok (.getfield 23, 3)) rfl,
  zs_getI hX zFL_8_109 (by decide) (by decide) (by decide +kernel : decode prog_10_method_28_code 33 = .ok (.getfield 109, 3)) rfl, trivial⟩
set_option maxRecDepth 20000 in
theorem s_X8_blocOf_1 {l : Launch} {D : va_G} {ad : Nat → Nat → Nat} {cy : Nat → ClassId} {L : List (Nat × Nat)} (hcl : zclo L = true) (hinj : zAd ad L) {X : zCtx} (hX : zXok X "SoapTreaty$State" prog_10_method_28_code 6) (hR : zRt X (some .int)) (hl : zXl X l D ad cy L (zroom 5)) : zAllR (zSo X) p_X8_blocOf_1 := ⟨zs_cge hX (by decide +kernel : decode prog_10_method_28_code 36 = .ok (.if_icmp .ge 28, 3)) (by decide) rfl,
  zs_iload_n (i := 3) rfl hX (by decide +kernel : decode prog_10_method_28_code 39 = .ok (.iload_n 3, 1)) rfl (by decide),
  zs_iload hX (by decide +kernel : decode prog_10_method_28_code 40 = .ok (.iload 5, 2)) rfl (by decide),
  zs_ii (zg_ishr hX (by decide +kernel : decode prog_10_method_28_code 42 = .ok (.ishr, 1)) rfl),
  zs_pushI (zg_iconst (by decide) hX (by decide +kernel : decode prog_10_method_28_code 43 = .ok (.iconst 1, 1)) rfl),
  zs_ii (zg_iand hX (by decide +kernel : decode prog_10_method_28_code 44 = .ok (.iand, 1)) rfl),
  zs_pushI (zg_iconst (by decide) hX (by decide +kernel : decode prog_10_method_28_code 45 = .ok (.iconst 1, 1)) rfl),
  zs_cne hX (by decide +kernel : decode prog_10_method_28_code 46 = .ok (.if_icmp .ne 12, 3)) (by decide) rfl,
  zs_iload_n (i := 3) rfl hX (by decide +kernel : decode prog_10_method_28_code 49 = .ok (.iload_n 3, 1)) rfl (by decide),
  zs_iload_n (i := 2) rfl hX (by decide +kernel : decode prog_10_method_28_code 50 = .ok (.iload_n 2, 1)) rfl (by decide),
  zs_iload hX (by decide +kernel : decode prog_10_method_28_code 51 = .ok (.iload 5, 2)) rfl (by decide),
  zs_callSi hX zMS_8_115 (zXc_of hl (by decide) (k_X8_othersOf hcl hinj)) (by decide +kernel : decode prog_10_method_28_code 53 = .ok (.invokestatic 115, 3)) rfl,
  zs_ii (zg_ior hX (by decide +kernel : decode prog_10_method_28_code 56 = .ok (.ior, 1)) rfl),
  zs_istore_n (i := 3) rfl hX (by decide +kernel : decode prog_10_method_28_code 57 = .ok (.istore_n 3, 1)) rfl (by decide),
  zs_iinc hX (by decide +kernel : decode prog_10_method_28_code 58 = .ok (.iinc 5 1, 3)) (by decide) rfl (by decide),
  zs_goto hX (by decide +kernel : decode prog_10_method_28_code 61 = .ok (.goto (-34), 3)) (by decide),
  zs_iinc hX (by decide +kernel : decode prog_10_method_28_code 64 = .ok (.iinc 4 1, 3)) (by decide) rfl (by decide),
  zs_goto hX (by decide +kernel : decode prog_10_method_28_code 67 = .ok (.goto (-55), 3)) (by decide),
  zs_iload_n (i := 3) rfl hX (by decide +kernel : decode prog_10_method_28_code 70 = .ok (.iload_n 3, 1)) rfl (by decide),
  zs_iret hX hR (by decide +kernel : decode prog_10_method_28_code 71 = .ok (.ireturn, 1)), trivial⟩
theorem k_X8_blocOf {l : Launch} {D : va_G} {ad : Nat → Nat → Nat} {cy : Nat → ClassId} {L : List (Nat × Nat)} (hcl : zclo L = true) (hinj : zAd ad L) : zCk l D ad cy L 5 f_X8_blocOf y_X8_blocOf (.code y_X8_blocOf prog_10_method_28_code 6 (some .int)) :=
  z_met (by decide) t_X8_blocOf hcl hinj (fun X hX hR hl k => zgs_all (Q := zSo X) (c := [(34, p_X8_blocOf_0), (72, p_X8_blocOf_1)]) (fun _ => zs_bad) ⟨s_X8_blocOf_0 hcl hinj hX hR hl, s_X8_blocOf_1 hcl hinj hX hR hl, trivial⟩ k)
set_option maxRecDepth 1000000 in
theorem e_X8_blocOf_0 (jx0 : Nat) (x1 : Int32) (h : zH) : zL p_X8_blocOf 0 [some (.inr (.inr (8, jx0))), some (.inl x1), none, none, none, none] [] h = zci (f_X8_earnestPairs [(.inr (.inr (8, jx0)))] h) (fun r2 h1 => zL p_X8_blocOf 12 [some (.inr (.inr (8, jx0))), some (.inl x1), some (.inl r2), some (.inl ((1 : Int32) <<< (x1 &&& 31))), some (.inl 0), none] [] h1) := (zL_s (t_X8_blocOf) [0, 12, 27] 1000 0 _ _ _).trans rfl
theorem g_X8_blocOf (jx0 : Nat) (x1 : Int32) (h : zH) : f_X8_blocOf [(.inr (.inr (8, jx0))), (.inl x1)] h = zci (f_X8_earnestPairs [(.inr (.inr (8, jx0)))] h) (fun r2 h1 => zL p_X8_blocOf 12 [some (.inr (.inr (8, jx0))), some (.inl x1), some (.inl r2), some (.inl ((1 : Int32) <<< (x1 &&& 31))), some (.inl 0), none] [] h1) := (show f_X8_blocOf _ h = zL p_X8_blocOf 0 _ [] h from rfl).trans (e_X8_blocOf_0 jx0 x1 h)
set_option maxRecDepth 1000000 in
theorem e_X8_blocOf_12 (jx0 : Nat) (o1 : Option zV) (x2 : Int32) (x3 : Int32) (x4 : Int32) (o5 : Option zV) (h : zH) : zL p_X8_blocOf 12 [some (.inr (.inr (8, jx0))), o1, some (.inl x2), some (.inl x3), some (.inl x4), o5] [] h = zf (x4 < (h.1 0 0 0)) (zL p_X8_blocOf 27 [some (.inr (.inr (8, jx0))), none, some (.inl x2), some (.inl x3), some (.inl x4), some (.inl 0)] [] h) (some (some (.inl x3), h)) := (zL_s (t_X8_blocOf) [0, 12, 27] 1000 12 _ _ _).trans rfl
set_option maxRecDepth 1000000 in
theorem e_X8_blocOf_27 (jx0 : Nat) (o1 : Option zV) (x2 : Int32) (x3 : Int32) (x4 : Int32) (x5 : Int32) (h : zH) : zL p_X8_blocOf 27 [some (.inr (.inr (8, jx0))), o1, some (.inl x2), some (.inl x3), some (.inl x4), some (.inl x5)] [] h = zf (x5 < (h.1 0 0 0)) (zf (((x3 >>> (x5 &&& 31)) &&& (1 : Int32)) = 1) (zci (f_X8_othersOf [(.inl x2), (.inl x5)] h) (fun r2 h1 => zL p_X8_blocOf 27 [some (.inr (.inr (8, jx0))), none, some (.inl x2), some (.inl (x3 ||| r2)), some (.inl x4), some (.inl (x5 + 1))] [] h1)) (zL p_X8_blocOf 27 [some (.inr (.inr (8, jx0))), none, some (.inl x2), some (.inl x3), some (.inl x4), some (.inl (x5 + 1))] [] h)) (zL p_X8_blocOf 12 [some (.inr (.inr (8, jx0))), none, some (.inl x2), some (.inl x3), some (.inl (x4 + 1)), some (.inl x5)] [] h) := (zL_s (t_X8_blocOf) [0, 12, 27] 1000 27 _ _ _).trans rfl
/-! java/lang/Integer.bitCount(I)I -/
def y_J6_bitCount : MethodName := ⟨"java/lang/Integer", "bitCount", "(I)I"⟩
noncomputable def p_J6_bitCount_0 : List (Nat × zO) := [(0, zo_iload 0 1),
  (1, zo_iload 0 2),
  (2, zo_push (.inl 1) 3),
  (3, zo_ii (fun x y => (x.toUInt32 >>> (y.toUInt32 &&& Int32.toUInt32 31)).toInt32) 4),
  (4, zo_push (.inl 1431655765) 7),
  (7, zo_ii (fun x y => x &&& y) 8),
  (8, zo_ii (fun x y => x - y) 9),
  (9, zo_istore 0 10),
  (10, zo_iload 0 11),
  (11, zo_push (.inl 858993459) 14),
  (14, zo_ii (fun x y => x &&& y) 15),
  (15, zo_iload 0 16),
  (16, zo_push (.inl 2) 17),
  (17, zo_ii (fun x y => (x.toUInt32 >>> (y.toUInt32 &&& Int32.toUInt32 31)).toInt32) 18),
  (18, zo_push (.inl 858993459) 21),
  (21, zo_ii (fun x y => x &&& y) 22),
  (22, zo_ii (fun x y => x + y) 23),
  (23, zo_istore 0 24),
  (24, zo_iload 0 25),
  (25, zo_iload 0 26)]
noncomputable def p_J6_bitCount_1 : List (Nat × zO) := [(26, zo_push (.inl 4) 27),
  (27, zo_ii (fun x y => (x.toUInt32 >>> (y.toUInt32 &&& Int32.toUInt32 31)).toInt32) 28),
  (28, zo_ii (fun x y => x + y) 29),
  (29, zo_push (.inl 252645135) 32),
  (32, zo_ii (fun x y => x &&& y) 33),
  (33, zo_istore 0 34),
  (34, zo_iload 0 35),
  (35, zo_iload 0 36),
  (36, zo_push (.inl 8) 38),
  (38, zo_ii (fun x y => (x.toUInt32 >>> (y.toUInt32 &&& Int32.toUInt32 31)).toInt32) 39),
  (39, zo_ii (fun x y => x + y) 40),
  (40, zo_istore 0 41),
  (41, zo_iload 0 42),
  (42, zo_iload 0 43),
  (43, zo_push (.inl 16) 45),
  (45, zo_ii (fun x y => (x.toUInt32 >>> (y.toUInt32 &&& Int32.toUInt32 31)).toInt32) 46),
  (46, zo_ii (fun x y => x + y) 47),
  (47, zo_istore 0 48),
  (48, zo_iload 0 49),
  (49, zo_push (.inl 63) 51)]
noncomputable def p_J6_bitCount_2 : List (Nat × zO) := [(51, zo_ii (fun x y => x &&& y) 52),
  (52, zo_iret)]
noncomputable def p_J6_bitCount : Nat → zO := zgs [(26, p_J6_bitCount_0), (50, p_J6_bitCount_1), (53, p_J6_bitCount_2)]
theorem t_J6_bitCount : ∀ k, zTl (p_J6_bitCount k) := fun k => zgs_all (c := [(26, p_J6_bitCount_0), (50, p_J6_bitCount_1), (53, p_J6_bitCount_2)]) (fun _ => zl_bad) ⟨⟨zl_iload, zl_iload, zl_push, zl_ii, zl_push, zl_ii, zl_ii, zl_istore, zl_iload, zl_push, zl_ii, zl_iload, zl_push, zl_ii, zl_push, zl_ii, zl_ii, zl_istore, zl_iload, zl_iload, trivial⟩, ⟨zl_push, zl_ii, zl_ii, zl_push, zl_ii, zl_istore, zl_iload, zl_iload, zl_push, zl_ii, zl_ii, zl_istore, zl_iload, zl_iload, zl_push, zl_ii, zl_ii, zl_istore, zl_iload, zl_push, trivial⟩, ⟨zl_ii, zl_iret, trivial⟩, trivial⟩ k
noncomputable def f_J6_bitCount : zS := zrun p_J6_bitCount 1
set_option maxRecDepth 20000 in
theorem s_J6_bitCount_0 {l : Launch} {D : va_G} {ad : Nat → Nat → Nat} {cy : Nat → ClassId} {L : List (Nat × Nat)} (hcl : zclo L = true) (hinj : zAd ad L) {X : zCtx} (hX : zXok X "java/lang/Integer" prog_19_method_49_code 1) (hR : zRt X (some .int)) (hl : zXl X l D ad cy L (zroom 1)) : zAllR (zSo X) p_J6_bitCount_0 := ⟨zs_iload_n (i := 0) rfl hX (by decide +kernel : decode prog_19_method_49_code 0 = .ok (.iload_n 0, 1)) rfl (by decide),
  zs_iload_n (i := 0) rfl hX (by decide +kernel : decode prog_19_method_49_code 1 = .ok (.iload_n 0, 1)) rfl (by decide),
  zs_pushI (zg_iconst (by decide) hX (by decide +kernel : decode prog_19_method_49_code 2 = .ok (.iconst 1, 1)) rfl),
  zs_ii (zg_iushr hX (by decide +kernel : decode prog_19_method_49_code 3 = .ok (.iushr, 1)) rfl),
  zs_pushI (zg_ldcw (zT_of 785 (by decide +kernel) (by decide +kernel)) hX (by decide +kernel : decode prog_19_method_49_code 4 = .ok (.ldc_w 265, 3)) rfl),
  zs_ii (zg_iand hX (by decide +kernel : decode prog_19_method_49_code 7 = .ok (.iand, 1)) rfl),
  zs_ii (zg_isub hX (by decide +kernel : decode prog_19_method_49_code 8 = .ok (.isub, 1)) rfl),
  zs_istore_n (i := 0) rfl hX (by decide +kernel : decode prog_19_method_49_code 9 = .ok (.istore_n 0, 1)) rfl (by decide),
  zs_iload_n (i := 0) rfl hX (by decide +kernel : decode prog_19_method_49_code 10 = .ok (.iload_n 0, 1)) rfl (by decide),
  zs_pushI (zg_ldcw (zT_of 786 (by decide +kernel) (by decide +kernel)) hX (by decide +kernel : decode prog_19_method_49_code 11 = .ok (.ldc_w 266, 3)) rfl),
  zs_ii (zg_iand hX (by decide +kernel : decode prog_19_method_49_code 14 = .ok (.iand, 1)) rfl),
  zs_iload_n (i := 0) rfl hX (by decide +kernel : decode prog_19_method_49_code 15 = .ok (.iload_n 0, 1)) rfl (by decide),
  zs_pushI (zg_iconst (by decide) hX (by decide +kernel : decode prog_19_method_49_code 16 = .ok (.iconst 2, 1)) rfl),
  zs_ii (zg_iushr hX (by decide +kernel : decode prog_19_method_49_code 17 = .ok (.iushr, 1)) rfl),
  zs_pushI (zg_ldcw (zT_of 786 (by decide +kernel) (by decide +kernel)) hX (by decide +kernel : decode prog_19_method_49_code 18 = .ok (.ldc_w 266, 3)) rfl),
  zs_ii (zg_iand hX (by decide +kernel : decode prog_19_method_49_code 21 = .ok (.iand, 1)) rfl),
  zs_ii (zg_iadd hX (by decide +kernel : decode prog_19_method_49_code 22 = .ok (.iadd, 1)) rfl),
  zs_istore_n (i := 0) rfl hX (by decide +kernel : decode prog_19_method_49_code 23 = .ok (.istore_n 0, 1)) rfl (by decide),
  zs_iload_n (i := 0) rfl hX (by decide +kernel : decode prog_19_method_49_code 24 = .ok (.iload_n 0, 1)) rfl (by decide),
  zs_iload_n (i := 0) rfl hX (by decide +kernel : decode prog_19_method_49_code 25 = .ok (.iload_n 0, 1)) rfl (by decide), trivial⟩
set_option maxRecDepth 20000 in
theorem s_J6_bitCount_1 {l : Launch} {D : va_G} {ad : Nat → Nat → Nat} {cy : Nat → ClassId} {L : List (Nat × Nat)} (hcl : zclo L = true) (hinj : zAd ad L) {X : zCtx} (hX : zXok X "java/lang/Integer" prog_19_method_49_code 1) (hR : zRt X (some .int)) (hl : zXl X l D ad cy L (zroom 1)) : zAllR (zSo X) p_J6_bitCount_1 := ⟨zs_pushI (zg_iconst (by decide) hX (by decide +kernel : decode prog_19_method_49_code 26 = .ok (.iconst 4, 1)) rfl),
  zs_ii (zg_iushr hX (by decide +kernel : decode prog_19_method_49_code 27 = .ok (.iushr, 1)) rfl),
  zs_ii (zg_iadd hX (by decide +kernel : decode prog_19_method_49_code 28 = .ok (.iadd, 1)) rfl),
  zs_pushI (zg_ldcw (zT_of 787 (by decide +kernel) (by decide +kernel)) hX (by decide +kernel : decode prog_19_method_49_code 29 = .ok (.ldc_w 267, 3)) rfl),
  zs_ii (zg_iand hX (by decide +kernel : decode prog_19_method_49_code 32 = .ok (.iand, 1)) rfl),
  zs_istore_n (i := 0) rfl hX (by decide +kernel : decode prog_19_method_49_code 33 = .ok (.istore_n 0, 1)) rfl (by decide),
  zs_iload_n (i := 0) rfl hX (by decide +kernel : decode prog_19_method_49_code 34 = .ok (.iload_n 0, 1)) rfl (by decide),
  zs_iload_n (i := 0) rfl hX (by decide +kernel : decode prog_19_method_49_code 35 = .ok (.iload_n 0, 1)) rfl (by decide),
  zs_pushI (zg_bipush (by decide) hX (by decide +kernel : decode prog_19_method_49_code 36 = .ok (.bipush 8, 2)) rfl),
  zs_ii (zg_iushr hX (by decide +kernel : decode prog_19_method_49_code 38 = .ok (.iushr, 1)) rfl),
  zs_ii (zg_iadd hX (by decide +kernel : decode prog_19_method_49_code 39 = .ok (.iadd, 1)) rfl),
  zs_istore_n (i := 0) rfl hX (by decide +kernel : decode prog_19_method_49_code 40 = .ok (.istore_n 0, 1)) rfl (by decide),
  zs_iload_n (i := 0) rfl hX (by decide +kernel : decode prog_19_method_49_code 41 = .ok (.iload_n 0, 1)) rfl (by decide),
  zs_iload_n (i := 0) rfl hX (by decide +kernel : decode prog_19_method_49_code 42 = .ok (.iload_n 0, 1)) rfl (by decide),
  zs_pushI (zg_bipush (by decide) hX (by decide +kernel : decode prog_19_method_49_code 43 = .ok (.bipush 16, 2)) rfl),
  zs_ii (zg_iushr hX (by decide +kernel : decode prog_19_method_49_code 45 = .ok (.iushr, 1)) rfl),
  zs_ii (zg_iadd hX (by decide +kernel : decode prog_19_method_49_code 46 = .ok (.iadd, 1)) rfl),
  zs_istore_n (i := 0) rfl hX (by decide +kernel : decode prog_19_method_49_code 47 = .ok (.istore_n 0, 1)) rfl (by decide),
  zs_iload_n (i := 0) rfl hX (by decide +kernel : decode prog_19_method_49_code 48 = .ok (.iload_n 0, 1)) rfl (by decide),
  zs_pushI (zg_bipush (by decide) hX (by decide +kernel : decode prog_19_method_49_code 49 = .ok (.bipush 63, 2)) rfl), trivial⟩
set_option maxRecDepth 20000 in
theorem s_J6_bitCount_2 {l : Launch} {D : va_G} {ad : Nat → Nat → Nat} {cy : Nat → ClassId} {L : List (Nat × Nat)} (hcl : zclo L = true) (hinj : zAd ad L) {X : zCtx} (hX : zXok X "java/lang/Integer" prog_19_method_49_code 1) (hR : zRt X (some .int)) (hl : zXl X l D ad cy L (zroom 1)) : zAllR (zSo X) p_J6_bitCount_2 := ⟨zs_ii (zg_iand hX (by decide +kernel : decode prog_19_method_49_code 51 = .ok (.iand, 1)) rfl),
  zs_iret hX hR (by decide +kernel : decode prog_19_method_49_code 52 = .ok (.ireturn, 1)), trivial⟩
theorem k_J6_bitCount {l : Launch} {D : va_G} {ad : Nat → Nat → Nat} {cy : Nat → ClassId} {L : List (Nat × Nat)} (hcl : zclo L = true) (hinj : zAd ad L) : zCk l D ad cy L 1 f_J6_bitCount y_J6_bitCount (.code y_J6_bitCount prog_19_method_49_code 1 (some .int)) :=
  z_met (by decide) t_J6_bitCount hcl hinj (fun X hX hR hl k => zgs_all (Q := zSo X) (c := [(26, p_J6_bitCount_0), (50, p_J6_bitCount_1), (53, p_J6_bitCount_2)]) (fun _ => zs_bad) ⟨s_J6_bitCount_0 hcl hinj hX hR hl, s_J6_bitCount_1 hcl hinj hX hR hl, s_J6_bitCount_2 hcl hinj hX hR hl, trivial⟩ k)
set_option maxRecDepth 1000000 in
theorem e_J6_bitCount_0 (x0 : Int32) (h : zH) : zL p_J6_bitCount 0 [some (.inl x0)] [] h = some (some (.inl ((((((((x0 - (((x0.toUInt32 >>> ((1 : Int32).toUInt32 &&& Int32.toUInt32 31)).toInt32) &&& (1431655765 : Int32))) &&& (858993459 : Int32)) + ((((x0 - (((x0.toUInt32 >>> ((1 : Int32).toUInt32 &&& Int32.toUInt32 31)).toInt32) &&& (1431655765 : Int32))).toUInt32 >>> ((2 : Int32).toUInt32 &&& Int32.toUInt32 31)).toInt32) &&& (858993459 : Int32))) + (((((x0 - (((x0.toUInt32 >>> ((1 : Int32).toUInt32 &&& Int32.toUInt32 31)).toInt32) &&& (1431655765 : Int32))) &&& (858993459 : Int32)) + ((((x0 - (((x0.toUInt32 >>> ((1 : Int32).toUInt32 &&& Int32.toUInt32 31)).toInt32) &&& (1431655765 : Int32))).toUInt32 >>> ((2 : Int32).toUInt32 &&& Int32.toUInt32 31)).toInt32) &&& (858993459 : Int32))).toUInt32 >>> ((4 : Int32).toUInt32 &&& Int32.toUInt32 31)).toInt32)) &&& (252645135 : Int32)) + (((((((x0 - (((x0.toUInt32 >>> ((1 : Int32).toUInt32 &&& Int32.toUInt32 31)).toInt32) &&& (1431655765 : Int32))) &&& (858993459 : Int32)) + ((((x0 - (((x0.toUInt32 >>> ((1 : Int32).toUInt32 &&& Int32.toUInt32 31)).toInt32) &&& (1431655765 : Int32))).toUInt32 >>> ((2 : Int32).toUInt32 &&& Int32.toUInt32 31)).toInt32) &&& (858993459 : Int32))) + (((((x0 - (((x0.toUInt32 >>> ((1 : Int32).toUInt32 &&& Int32.toUInt32 31)).toInt32) &&& (1431655765 : Int32))) &&& (858993459 : Int32)) + ((((x0 - (((x0.toUInt32 >>> ((1 : Int32).toUInt32 &&& Int32.toUInt32 31)).toInt32) &&& (1431655765 : Int32))).toUInt32 >>> ((2 : Int32).toUInt32 &&& Int32.toUInt32 31)).toInt32) &&& (858993459 : Int32))).toUInt32 >>> ((4 : Int32).toUInt32 &&& Int32.toUInt32 31)).toInt32)) &&& (252645135 : Int32)).toUInt32 >>> ((8 : Int32).toUInt32 &&& Int32.toUInt32 31)).toInt32)) + ((((((((x0 - (((x0.toUInt32 >>> ((1 : Int32).toUInt32 &&& Int32.toUInt32 31)).toInt32) &&& (1431655765 : Int32))) &&& (858993459 : Int32)) + ((((x0 - (((x0.toUInt32 >>> ((1 : Int32).toUInt32 &&& Int32.toUInt32 31)).toInt32) &&& (1431655765 : Int32))).toUInt32 >>> ((2 : Int32).toUInt32 &&& Int32.toUInt32 31)).toInt32) &&& (858993459 : Int32))) + (((((x0 - (((x0.toUInt32 >>> ((1 : Int32).toUInt32 &&& Int32.toUInt32 31)).toInt32) &&& (1431655765 : Int32))) &&& (858993459 : Int32)) + ((((x0 - (((x0.toUInt32 >>> ((1 : Int32).toUInt32 &&& Int32.toUInt32 31)).toInt32) &&& (1431655765 : Int32))).toUInt32 >>> ((2 : Int32).toUInt32 &&& Int32.toUInt32 31)).toInt32) &&& (858993459 : Int32))).toUInt32 >>> ((4 : Int32).toUInt32 &&& Int32.toUInt32 31)).toInt32)) &&& (252645135 : Int32)) + (((((((x0 - (((x0.toUInt32 >>> ((1 : Int32).toUInt32 &&& Int32.toUInt32 31)).toInt32) &&& (1431655765 : Int32))) &&& (858993459 : Int32)) + ((((x0 - (((x0.toUInt32 >>> ((1 : Int32).toUInt32 &&& Int32.toUInt32 31)).toInt32) &&& (1431655765 : Int32))).toUInt32 >>> ((2 : Int32).toUInt32 &&& Int32.toUInt32 31)).toInt32) &&& (858993459 : Int32))) + (((((x0 - (((x0.toUInt32 >>> ((1 : Int32).toUInt32 &&& Int32.toUInt32 31)).toInt32) &&& (1431655765 : Int32))) &&& (858993459 : Int32)) + ((((x0 - (((x0.toUInt32 >>> ((1 : Int32).toUInt32 &&& Int32.toUInt32 31)).toInt32) &&& (1431655765 : Int32))).toUInt32 >>> ((2 : Int32).toUInt32 &&& Int32.toUInt32 31)).toInt32) &&& (858993459 : Int32))).toUInt32 >>> ((4 : Int32).toUInt32 &&& Int32.toUInt32 31)).toInt32)) &&& (252645135 : Int32)).toUInt32 >>> ((8 : Int32).toUInt32 &&& Int32.toUInt32 31)).toInt32)).toUInt32 >>> ((16 : Int32).toUInt32 &&& Int32.toUInt32 31)).toInt32)) &&& (63 : Int32))), h) := (zL_s (t_J6_bitCount) [0] 1000 0 _ _ _).trans rfl
theorem g_J6_bitCount (x0 : Int32) (h : zH) : f_J6_bitCount [(.inl x0)] h = some (some (.inl ((((((((x0 - (((x0.toUInt32 >>> ((1 : Int32).toUInt32 &&& Int32.toUInt32 31)).toInt32) &&& (1431655765 : Int32))) &&& (858993459 : Int32)) + ((((x0 - (((x0.toUInt32 >>> ((1 : Int32).toUInt32 &&& Int32.toUInt32 31)).toInt32) &&& (1431655765 : Int32))).toUInt32 >>> ((2 : Int32).toUInt32 &&& Int32.toUInt32 31)).toInt32) &&& (858993459 : Int32))) + (((((x0 - (((x0.toUInt32 >>> ((1 : Int32).toUInt32 &&& Int32.toUInt32 31)).toInt32) &&& (1431655765 : Int32))) &&& (858993459 : Int32)) + ((((x0 - (((x0.toUInt32 >>> ((1 : Int32).toUInt32 &&& Int32.toUInt32 31)).toInt32) &&& (1431655765 : Int32))).toUInt32 >>> ((2 : Int32).toUInt32 &&& Int32.toUInt32 31)).toInt32) &&& (858993459 : Int32))).toUInt32 >>> ((4 : Int32).toUInt32 &&& Int32.toUInt32 31)).toInt32)) &&& (252645135 : Int32)) + (((((((x0 - (((x0.toUInt32 >>> ((1 : Int32).toUInt32 &&& Int32.toUInt32 31)).toInt32) &&& (1431655765 : Int32))) &&& (858993459 : Int32)) + ((((x0 - (((x0.toUInt32 >>> ((1 : Int32).toUInt32 &&& Int32.toUInt32 31)).toInt32) &&& (1431655765 : Int32))).toUInt32 >>> ((2 : Int32).toUInt32 &&& Int32.toUInt32 31)).toInt32) &&& (858993459 : Int32))) + (((((x0 - (((x0.toUInt32 >>> ((1 : Int32).toUInt32 &&& Int32.toUInt32 31)).toInt32) &&& (1431655765 : Int32))) &&& (858993459 : Int32)) + ((((x0 - (((x0.toUInt32 >>> ((1 : Int32).toUInt32 &&& Int32.toUInt32 31)).toInt32) &&& (1431655765 : Int32))).toUInt32 >>> ((2 : Int32).toUInt32 &&& Int32.toUInt32 31)).toInt32) &&& (858993459 : Int32))).toUInt32 >>> ((4 : Int32).toUInt32 &&& Int32.toUInt32 31)).toInt32)) &&& (252645135 : Int32)).toUInt32 >>> ((8 : Int32).toUInt32 &&& Int32.toUInt32 31)).toInt32)) + ((((((((x0 - (((x0.toUInt32 >>> ((1 : Int32).toUInt32 &&& Int32.toUInt32 31)).toInt32) &&& (1431655765 : Int32))) &&& (858993459 : Int32)) + ((((x0 - (((x0.toUInt32 >>> ((1 : Int32).toUInt32 &&& Int32.toUInt32 31)).toInt32) &&& (1431655765 : Int32))).toUInt32 >>> ((2 : Int32).toUInt32 &&& Int32.toUInt32 31)).toInt32) &&& (858993459 : Int32))) + (((((x0 - (((x0.toUInt32 >>> ((1 : Int32).toUInt32 &&& Int32.toUInt32 31)).toInt32) &&& (1431655765 : Int32))) &&& (858993459 : Int32)) + ((((x0 - (((x0.toUInt32 >>> ((1 : Int32).toUInt32 &&& Int32.toUInt32 31)).toInt32) &&& (1431655765 : Int32))).toUInt32 >>> ((2 : Int32).toUInt32 &&& Int32.toUInt32 31)).toInt32) &&& (858993459 : Int32))).toUInt32 >>> ((4 : Int32).toUInt32 &&& Int32.toUInt32 31)).toInt32)) &&& (252645135 : Int32)) + (((((((x0 - (((x0.toUInt32 >>> ((1 : Int32).toUInt32 &&& Int32.toUInt32 31)).toInt32) &&& (1431655765 : Int32))) &&& (858993459 : Int32)) + ((((x0 - (((x0.toUInt32 >>> ((1 : Int32).toUInt32 &&& Int32.toUInt32 31)).toInt32) &&& (1431655765 : Int32))).toUInt32 >>> ((2 : Int32).toUInt32 &&& Int32.toUInt32 31)).toInt32) &&& (858993459 : Int32))) + (((((x0 - (((x0.toUInt32 >>> ((1 : Int32).toUInt32 &&& Int32.toUInt32 31)).toInt32) &&& (1431655765 : Int32))) &&& (858993459 : Int32)) + ((((x0 - (((x0.toUInt32 >>> ((1 : Int32).toUInt32 &&& Int32.toUInt32 31)).toInt32) &&& (1431655765 : Int32))).toUInt32 >>> ((2 : Int32).toUInt32 &&& Int32.toUInt32 31)).toInt32) &&& (858993459 : Int32))).toUInt32 >>> ((4 : Int32).toUInt32 &&& Int32.toUInt32 31)).toInt32)) &&& (252645135 : Int32)).toUInt32 >>> ((8 : Int32).toUInt32 &&& Int32.toUInt32 31)).toInt32)).toUInt32 >>> ((16 : Int32).toUInt32 &&& Int32.toUInt32 31)).toInt32)) &&& (63 : Int32))), h) := (show f_J6_bitCount _ h = zL p_J6_bitCount 0 _ [] h from rfl).trans (e_J6_bitCount_0 x0 h)
theorem zMS_8_121 : zMS "SoapTreaty$State" 121 y_J6_bitCount prog_19_method_49_code 1 (some .int) 1 := ⟨⟨zT_of 1003 (by decide +kernel) (by decide +kernel), zT_of 783 (by decide +kernel) (by decide +kernel), zT_of 120 (by decide +kernel) (by decide +kernel), zT_of 784 (by decide +kernel) (by decide +kernel)⟩, by decide, by decide, by decide, by decide +kernel⟩
/-! SoapTreaty$State.pairsAtWar()I -/
def y_X8_pairsAtWar : MethodName := ⟨"SoapTreaty$State", "pairsAtWar", "()I"⟩
noncomputable def p_X8_pairsAtWar_0 : List (Nat × zO) := [(0, zo_aload 0 1),
  (1, zo_vir 8 1 (zo_calli (f_X8_warPairs) 1 4)),
  (4, zo_calli (f_J6_bitCount) 1 7),
  (7, zo_push (.inl 2) 8),
  (8, zo_idc (fun x y => x / y) 9),
  (9, zo_iret)]
noncomputable def p_X8_pairsAtWar : Nat → zO := zgs [(10, p_X8_pairsAtWar_0)]
theorem t_X8_pairsAtWar : ∀ k, zTl (p_X8_pairsAtWar k) := fun k => zgs_all (c := [(10, p_X8_pairsAtWar_0)]) (fun _ => zl_bad) ⟨⟨zl_aload, (zl_vir zl_calli), zl_calli, zl_push, zl_idc, zl_iret, trivial⟩, trivial⟩ k
noncomputable def f_X8_pairsAtWar : zS := zrun p_X8_pairsAtWar 1
set_option maxRecDepth 20000 in
theorem s_X8_pairsAtWar_0 {l : Launch} {D : va_G} {ad : Nat → Nat → Nat} {cy : Nat → ClassId} {L : List (Nat × Nat)} (hcl : zclo L = true) (hinj : zAd ad L) {X : zCtx} (hX : zXok X "SoapTreaty$State" prog_10_method_29_code 1) (hR : zRt X (some .int)) (hl : zXl X l D ad cy L (zroom 4)) : zAllR (zSo X) p_X8_pairsAtWar_0 := ⟨zs_aload_n (i := 0) rfl hX (by decide +kernel : decode prog_10_method_29_code 0 = .ok (.aload_n 0, 1)) rfl (by decide),
  zs_callVi hX zMV_8_106 (zXc_of hl (by decide) (k_X8_warPairs hcl hinj)) (by decide +kernel : decode prog_10_method_29_code 1 = .ok (.invokevirtual 106, 3)) rfl,
  zs_callSi hX zMS_8_121 (zXc_of hl (by decide) (k_J6_bitCount hcl hinj)) (by decide +kernel : decode prog_10_method_29_code 4 = .ok (.invokestatic 121, 3)) rfl,
  zs_pushI (zg_iconst (by decide) hX (by decide +kernel : decode prog_10_method_29_code 7 = .ok (.iconst 2, 1)) rfl),
  zs_idc (zg_idiv hX (by decide +kernel : decode prog_10_method_29_code 8 = .ok (.idiv, 1)) rfl),
  zs_iret hX hR (by decide +kernel : decode prog_10_method_29_code 9 = .ok (.ireturn, 1)), trivial⟩
theorem k_X8_pairsAtWar {l : Launch} {D : va_G} {ad : Nat → Nat → Nat} {cy : Nat → ClassId} {L : List (Nat × Nat)} (hcl : zclo L = true) (hinj : zAd ad L) : zCk l D ad cy L 4 f_X8_pairsAtWar y_X8_pairsAtWar (.code y_X8_pairsAtWar prog_10_method_29_code 1 (some .int)) :=
  z_met (by decide) t_X8_pairsAtWar hcl hinj (fun X hX hR hl k => zgs_all (Q := zSo X) (c := [(10, p_X8_pairsAtWar_0)]) (fun _ => zs_bad) ⟨s_X8_pairsAtWar_0 hcl hinj hX hR hl, trivial⟩ k)
set_option maxRecDepth 1000000 in
theorem e_X8_pairsAtWar_0 (jx0 : Nat) (h : zH) : zL p_X8_pairsAtWar 0 [some (.inr (.inr (8, jx0)))] [] h = zci (f_X8_warPairs [(.inr (.inr (8, jx0)))] h) (fun r2 h1 => zci (f_J6_bitCount [(.inl r2)] h1) (fun r4 h3 => some (some (.inl (r4 / 2)), h3))) := (zL_s (t_X8_pairsAtWar) [0] 1000 0 _ _ _).trans rfl
theorem g_X8_pairsAtWar (jx0 : Nat) (h : zH) : f_X8_pairsAtWar [(.inr (.inr (8, jx0)))] h = zci (f_X8_warPairs [(.inr (.inr (8, jx0)))] h) (fun r2 h1 => zci (f_J6_bitCount [(.inl r2)] h1) (fun r4 h3 => some (some (.inl (r4 / 2)), h3))) := (show f_X8_pairsAtWar _ h = zL p_X8_pairsAtWar 0 _ [] h from rfl).trans (e_X8_pairsAtWar_0 jx0 h)
/-! SoapTreaty$State.pairsInEarnest()I -/
def y_X8_pairsInEarnest : MethodName := ⟨"SoapTreaty$State", "pairsInEarnest", "()I"⟩
noncomputable def p_X8_pairsInEarnest_0 : List (Nat × zO) := [(0, zo_aload 0 1),
  (1, zo_vir 8 1 (zo_calli (f_X8_earnestPairs) 1 4)),
  (4, zo_calli (f_J6_bitCount) 1 7),
  (7, zo_push (.inl 2) 8),
  (8, zo_idc (fun x y => x / y) 9),
  (9, zo_iret)]
noncomputable def p_X8_pairsInEarnest : Nat → zO := zgs [(10, p_X8_pairsInEarnest_0)]
theorem t_X8_pairsInEarnest : ∀ k, zTl (p_X8_pairsInEarnest k) := fun k => zgs_all (c := [(10, p_X8_pairsInEarnest_0)]) (fun _ => zl_bad) ⟨⟨zl_aload, (zl_vir zl_calli), zl_calli, zl_push, zl_idc, zl_iret, trivial⟩, trivial⟩ k
noncomputable def f_X8_pairsInEarnest : zS := zrun p_X8_pairsInEarnest 1
set_option maxRecDepth 20000 in
theorem s_X8_pairsInEarnest_0 {l : Launch} {D : va_G} {ad : Nat → Nat → Nat} {cy : Nat → ClassId} {L : List (Nat × Nat)} (hcl : zclo L = true) (hinj : zAd ad L) {X : zCtx} (hX : zXok X "SoapTreaty$State" prog_10_method_30_code 1) (hR : zRt X (some .int)) (hl : zXl X l D ad cy L (zroom 5)) : zAllR (zSo X) p_X8_pairsInEarnest_0 := ⟨zs_aload_n (i := 0) rfl hX (by decide +kernel : decode prog_10_method_30_code 0 = .ok (.aload_n 0, 1)) rfl (by decide),
  zs_callVi hX zMV_8_118 (zXc_of hl (by decide) (k_X8_earnestPairs hcl hinj)) (by decide +kernel : decode prog_10_method_30_code 1 = .ok (.invokevirtual 118, 3)) rfl,
  zs_callSi hX zMS_8_121 (zXc_of hl (by decide) (k_J6_bitCount hcl hinj)) (by decide +kernel : decode prog_10_method_30_code 4 = .ok (.invokestatic 121, 3)) rfl,
  zs_pushI (zg_iconst (by decide) hX (by decide +kernel : decode prog_10_method_30_code 7 = .ok (.iconst 2, 1)) rfl),
  zs_idc (zg_idiv hX (by decide +kernel : decode prog_10_method_30_code 8 = .ok (.idiv, 1)) rfl),
  zs_iret hX hR (by decide +kernel : decode prog_10_method_30_code 9 = .ok (.ireturn, 1)), trivial⟩
theorem k_X8_pairsInEarnest {l : Launch} {D : va_G} {ad : Nat → Nat → Nat} {cy : Nat → ClassId} {L : List (Nat × Nat)} (hcl : zclo L = true) (hinj : zAd ad L) : zCk l D ad cy L 5 f_X8_pairsInEarnest y_X8_pairsInEarnest (.code y_X8_pairsInEarnest prog_10_method_30_code 1 (some .int)) :=
  z_met (by decide) t_X8_pairsInEarnest hcl hinj (fun X hX hR hl k => zgs_all (Q := zSo X) (c := [(10, p_X8_pairsInEarnest_0)]) (fun _ => zs_bad) ⟨s_X8_pairsInEarnest_0 hcl hinj hX hR hl, trivial⟩ k)
set_option maxRecDepth 1000000 in
theorem e_X8_pairsInEarnest_0 (jx0 : Nat) (h : zH) : zL p_X8_pairsInEarnest 0 [some (.inr (.inr (8, jx0)))] [] h = zci (f_X8_earnestPairs [(.inr (.inr (8, jx0)))] h) (fun r2 h1 => zci (f_J6_bitCount [(.inl r2)] h1) (fun r4 h3 => some (some (.inl (r4 / 2)), h3))) := (zL_s (t_X8_pairsInEarnest) [0] 1000 0 _ _ _).trans rfl
theorem g_X8_pairsInEarnest (jx0 : Nat) (h : zH) : f_X8_pairsInEarnest [(.inr (.inr (8, jx0)))] h = zci (f_X8_earnestPairs [(.inr (.inr (8, jx0)))] h) (fun r2 h1 => zci (f_J6_bitCount [(.inl r2)] h1) (fun r4 h3 => some (some (.inl (r4 / 2)), h3))) := (show f_X8_pairsInEarnest _ h = zL p_X8_pairsInEarnest 0 _ [] h from rfl).trans (e_X8_pairsInEarnest_0 jx0 h)
/-! SoapTreaty$Tape.append(J)V -/
def y_X9_append : MethodName := ⟨"SoapTreaty$Tape", "append", "(J)V"⟩
noncomputable def p_X9_append_0 : List (Nat × zO) := [(0, zo_push (.inl 56) 2),
  (2, zo_istore 3 3),
  (3, zo_kill [2, 4, 5] (zo_iload 3 4)),
  (4, zo_0lt 88 7),
  (7, zo_lload 1 8),
  (8, zo_iload 3 9),
  (9, zo_li (fun x y => (x.toUInt64 >>> (y.toInt64.toUInt64 &&& Int64.toUInt64 63)).toInt64) 10),
  (10, zo_push (.inr (.inl 255)) 13),
  (13, zo_ll (fun x y => x &&& y) 14),
  (14, zo_l2i 15),
  (15, zo_istore 4 17),
  (17, zo_iload 4 19),
  (19, zo_push (.inl 10) 21),
  (21, zo_ceq 38 24),
  (24, zo_iload 4 26),
  (26, zo_push (.inl 32) 28),
  (28, zo_clt 42 31),
  (31, zo_iload 4 33),
  (33, zo_push (.inl 126) 35),
  (35, zo_cgt 42 38)]
noncomputable def p_X9_append_1 : List (Nat × zO) := [(38, zo_push (.inl 1) 39),
  (39, zo_goto 43),
  (42, zo_push (.inl 0) 43),
  (43, zo_kill [2, 5] (zo_istore 5 45)),
  (45, zo_iload 5 47),
  (47, zo_0eq 82 50),
  (50, zo_aload 0 51),
  (51, zo_getI 9 1 54),
  (54, zo_push (.inl 1000) 57),
  (57, zo_cge 82 60),
  (60, zo_aload 0 61),
  (61, zo_getR 9 34 none 64),
  (64, zo_aload 0 65),
  (65, zo_getI 9 1 68),
  (68, zo_iload 4 70),
  (70, zo_i (fun x => x.toInt8.toInt32) 71),
  (71, zo_bast 72),
  (72, zo_aload 0 73),
  (73, zo_dup 74),
  (74, zo_getI 9 1 77)]
noncomputable def p_X9_append_2 : List (Nat × zO) := [(77, zo_push (.inl 1) 78),
  (78, zo_ii (fun x y => x + y) 79),
  (79, zo_putI 9 1 82),
  (82, zo_iinc 3 zm8 85),
  (85, zo_goto 3),
  (88, zo_ret)]
noncomputable def p_X9_append : Nat → zO := zgs [(36, p_X9_append_0), (75, p_X9_append_1), (89, p_X9_append_2)]
theorem t_X9_append : ∀ k, zTl (p_X9_append k) := fun k => zgs_all (c := [(36, p_X9_append_0), (75, p_X9_append_1), (89, p_X9_append_2)]) (fun _ => zl_bad) ⟨⟨zl_push, zl_istore, (zl_kill zl_iload), zl_0lt, zl_lload, zl_iload, zl_li, zl_push, zl_ll, zl_l2i, zl_istore, zl_iload, zl_push, zl_ceq, zl_iload, zl_push, zl_clt, zl_iload, zl_push, zl_cgt, trivial⟩, ⟨zl_push, zl_goto, zl_push, (zl_kill zl_istore), zl_iload, zl_0eq, zl_aload, zl_getI, zl_push, zl_cge, zl_aload, zl_getR, zl_aload, zl_getI, zl_iload, zl_i, zl_bast, zl_aload, zl_dup, zl_getI, trivial⟩, ⟨zl_push, zl_ii, zl_putI, zl_iinc, zl_goto, zl_ret, trivial⟩, trivial⟩ k
noncomputable def f_X9_append : zS := zrun p_X9_append 6
set_option maxRecDepth 20000 in
theorem s_X9_append_0 {l : Launch} {D : va_G} {ad : Nat → Nat → Nat} {cy : Nat → ClassId} {L : List (Nat × Nat)} (hcl : zclo L = true) (hinj : zAd ad L) {X : zCtx} (hX : zXok X "SoapTreaty$Tape" prog_11_method_2_code 6) (hR : zRt X none) (hl : zXl X l D ad cy L (zroom 1)) : zAllR (zSo X) p_X9_append_0 := ⟨zs_pushI (zg_bipush (by decide) hX (by decide +kernel : decode prog_11_method_2_code 0 = .ok (.bipush 56, 2)) rfl),
  zs_istore_n (i := 3) rfl hX (by decide +kernel : decode prog_11_method_2_code 2 = .ok (.istore_n 3, 1)) rfl (by decide),
  zs_kill hX (by decide) (zs_iload_n (i := 3) rfl hX (by decide +kernel : decode prog_11_method_2_code 3 = .ok (.iload_n 3, 1)) rfl (by decide)),
  zs_0lt hX (by decide +kernel : decode prog_11_method_2_code 4 = .ok (.ifCond .lt 84, 3)) (by decide) rfl,
  zs_lload_n (i := 1) rfl hX (by decide +kernel : decode prog_11_method_2_code 7 = .ok (.lload_n 1, 1)) rfl (by decide),
  zs_iload_n (i := 3) rfl hX (by decide +kernel : decode prog_11_method_2_code 8 = .ok (.iload_n 3, 1)) rfl (by decide),
  zs_li (zg_lushr hX (by decide +kernel : decode prog_11_method_2_code 9 = .ok (.lushr, 1)) rfl),
  zs_pushJ (zg_ldc2 (zT_of 552 (by decide +kernel) (by decide +kernel)) hX (by decide +kernel : decode prog_11_method_2_code 10 = .ok (.ldc2_w 13, 3)) rfl),
  zs_ll (zg_land hX (by decide +kernel : decode prog_11_method_2_code 13 = .ok (.land, 1)) rfl),
  zs_l2i_ (zg_l2i hX (by decide +kernel : decode prog_11_method_2_code 14 = .ok (.l2i, 1)) rfl),
  zs_istore hX (by decide +kernel : decode prog_11_method_2_code 15 = .ok (.istore 4, 2)) rfl (by decide),
  zs_iload hX (by decide +kernel : decode prog_11_method_2_code 17 = .ok (.iload 4, 2)) rfl (by decide),
  zs_pushI (zg_bipush (by decide) hX (by decide +kernel : decode prog_11_method_2_code 19 = .ok (.bipush 10, 2)) rfl),
  zs_ceq hX (by decide +kernel : decode prog_11_method_2_code 21 = .ok (.if_icmp .eq 17, 3)) (by decide) rfl,
  zs_iload hX (by decide +kernel : decode prog_11_method_2_code 24 = .ok (.iload 4, 2)) rfl (by decide),
  zs_pushI (zg_bipush (by decide) hX (by decide +kernel : decode prog_11_method_2_code 26 = .ok (.bipush 32, 2)) rfl),
  zs_clt hX (by decide +kernel : decode prog_11_method_2_code 28 = .ok (.if_icmp .lt 14, 3)) (by decide) rfl,
  zs_iload hX (by decide +kernel : decode prog_11_method_2_code 31 = .ok (.iload 4, 2)) rfl (by decide),
  zs_pushI (zg_bipush (by decide) hX (by decide +kernel : decode prog_11_method_2_code 33 = .ok (.bipush 126, 2)) rfl),
  zs_cgt hX (by decide +kernel : decode prog_11_method_2_code 35 = .ok (.if_icmp .gt 7, 3)) (by decide) rfl, trivial⟩
set_option maxRecDepth 20000 in
theorem s_X9_append_1 {l : Launch} {D : va_G} {ad : Nat → Nat → Nat} {cy : Nat → ClassId} {L : List (Nat × Nat)} (hcl : zclo L = true) (hinj : zAd ad L) {X : zCtx} (hX : zXok X "SoapTreaty$Tape" prog_11_method_2_code 6) (hR : zRt X none) (hl : zXl X l D ad cy L (zroom 1)) : zAllR (zSo X) p_X9_append_1 := ⟨zs_pushI (zg_iconst (by decide) hX (by decide +kernel : decode prog_11_method_2_code 38 = .ok (.iconst 1, 1)) rfl),
  zs_goto hX (by decide +kernel : decode prog_11_method_2_code 39 = .ok (.goto 4, 3)) (by decide),
  zs_pushI (zg_iconst (by decide) hX (by decide +kernel : decode prog_11_method_2_code 42 = .ok (.iconst 0, 1)) rfl),
  zs_kill hX (by decide) (zs_istore hX (by decide +kernel : decode prog_11_method_2_code 43 = .ok (.istore 5, 2)) rfl (by decide)),
  zs_iload hX (by decide +kernel : decode prog_11_method_2_code 45 = .ok (.iload 5, 2)) rfl (by decide),
  zs_0eq hX (by decide +kernel : decode prog_11_method_2_code 47 = .ok (.ifCond .eq 35, 3)) (by decide) rfl,
  zs_aload_n (i := 0) rfl hX (by decide +kernel : decode prog_11_method_2_code 50 = .ok (.aload_n 0, 1)) rfl (by decide),
  zs_getI hX zFL_9_15 (by decide) (by decide) (by decide +kernel : decode prog_11_method_2_code 51 = .ok (.getfield 15, 3)) rfl,
  zs_pushI (zg_sipush (by decide) hX (by decide +kernel : decode prog_11_method_2_code 54 = .ok (.sipush 1000, 3)) rfl),
  zs_cge hX (by decide +kernel : decode prog_11_method_2_code 57 = .ok (.if_icmp .ge 25, 3)) (by decide) rfl,
  zs_aload_n (i := 0) rfl hX (by decide +kernel : decode prog_11_method_2_code 60 = .ok (.aload_n 0, 1)) rfl (by decide),
  zs_getR hX zFL_9_9 (by decide +kernel : decode prog_11_method_2_code 61 = .ok (.getfield 9, 3)) rfl,
  zs_aload_n (i := 0) rfl hX (by decide +kernel : decode prog_11_method_2_code 64 = .ok (.aload_n 0, 1)) rfl (by decide),
  zs_getI hX zFL_9_15 (by decide) (by decide) (by decide +kernel : decode prog_11_method_2_code 65 = .ok (.getfield 15, 3)) rfl,
  zs_iload hX (by decide +kernel : decode prog_11_method_2_code 68 = .ok (.iload 4, 2)) rfl (by decide),
  zs_i (zg_i2b hX (by decide +kernel : decode prog_11_method_2_code 70 = .ok (.i2b, 1)) rfl),
  zs_bast hX (by decide +kernel : decode prog_11_method_2_code 71 = .ok (.bastore, 1)) rfl,
  zs_aload_n (i := 0) rfl hX (by decide +kernel : decode prog_11_method_2_code 72 = .ok (.aload_n 0, 1)) rfl (by decide),
  zs_dup hX (by decide +kernel : decode prog_11_method_2_code 73 = .ok (.dup, 1)) rfl,
  zs_getI hX zFL_9_15 (by decide) (by decide) (by decide +kernel : decode prog_11_method_2_code 74 = .ok (.getfield 15, 3)) rfl, trivial⟩
set_option maxRecDepth 20000 in
theorem s_X9_append_2 {l : Launch} {D : va_G} {ad : Nat → Nat → Nat} {cy : Nat → ClassId} {L : List (Nat × Nat)} (hcl : zclo L = true) (hinj : zAd ad L) {X : zCtx} (hX : zXok X "SoapTreaty$Tape" prog_11_method_2_code 6) (hR : zRt X none) (hl : zXl X l D ad cy L (zroom 1)) : zAllR (zSo X) p_X9_append_2 := ⟨zs_pushI (zg_iconst (by decide) hX (by decide +kernel : decode prog_11_method_2_code 77 = .ok (.iconst 1, 1)) rfl),
  zs_ii (zg_iadd hX (by decide +kernel : decode prog_11_method_2_code 78 = .ok (.iadd, 1)) rfl),
  zs_putI hX zFP_9_15 (by decide +kernel : decode prog_11_method_2_code 79 = .ok (.putfield 15, 3)) rfl,
  zs_iinc hX (by decide +kernel : decode prog_11_method_2_code 82 = .ok (.iinc 3 (-8), 3)) (by decide) rfl (by decide),
  zs_goto hX (by decide +kernel : decode prog_11_method_2_code 85 = .ok (.goto (-82), 3)) (by decide),
  zs_ret hX hR (by decide +kernel : decode prog_11_method_2_code 88 = .ok (.return_, 1)), trivial⟩
theorem k_X9_append {l : Launch} {D : va_G} {ad : Nat → Nat → Nat} {cy : Nat → ClassId} {L : List (Nat × Nat)} (hcl : zclo L = true) (hinj : zAd ad L) : zCk l D ad cy L 1 f_X9_append y_X9_append (.code y_X9_append prog_11_method_2_code 6 none) :=
  z_met (by decide) t_X9_append hcl hinj (fun X hX hR hl k => zgs_all (Q := zSo X) (c := [(36, p_X9_append_0), (75, p_X9_append_1), (89, p_X9_append_2)]) (fun _ => zs_bad) ⟨s_X9_append_0 hcl hinj hX hR hl, s_X9_append_1 hcl hinj hX hR hl, s_X9_append_2 hcl hinj hX hR hl, trivial⟩ k)
set_option maxRecDepth 1000000 in
theorem e_X9_append_0 (x1 : Int64) (h : zH) : zL p_X9_append 0 [some (.inr (.inr (9, 0))), some (.inr (.inl x1)), none, none, none, none] [] h = zL p_X9_append 3 [some (.inr (.inr (9, 0))), some (.inr (.inl x1)), none, some (.inl 56), none, none] [] h := (zL_s (t_X9_append) [0, 3, 43] 1000 0 _ _ _).trans rfl
theorem g_X9_append (x1 : Int64) (h : zH) : f_X9_append [(.inr (.inr (9, 0))), (.inr (.inl x1))] h = zL p_X9_append 3 [some (.inr (.inr (9, 0))), some (.inr (.inl x1)), none, some (.inl 56), none, none] [] h := (show f_X9_append _ h = zL p_X9_append 0 _ [] h from rfl).trans (e_X9_append_0 x1 h)
set_option maxRecDepth 1000000 in
theorem e_X9_append_3 (x1 : Int64) (o2 : Option zV) (x3 : Int32) (o4 : Option zV) (o5 : Option zV) (h : zH) : zL p_X9_append 3 [some (.inr (.inr (9, 0))), some (.inr (.inl x1)), o2, some (.inl x3), o4, o5] [] h = zf (x3 < 0) (some (none, h)) (zf (((((x1.toUInt64 >>> (x3.toInt64.toUInt64 &&& Int64.toUInt64 63)).toInt64) &&& (255 : Int64)).toInt32) = 10) (zL p_X9_append 43 [some (.inr (.inr (9, 0))), some (.inr (.inl x1)), none, some (.inl x3), some (.inl ((((x1.toUInt64 >>> (x3.toInt64.toUInt64 &&& Int64.toUInt64 63)).toInt64) &&& (255 : Int64)).toInt32)), none] [(.inl 1)] h) (zf (((((x1.toUInt64 >>> (x3.toInt64.toUInt64 &&& Int64.toUInt64 63)).toInt64) &&& (255 : Int64)).toInt32) < 32) (zL p_X9_append 43 [some (.inr (.inr (9, 0))), some (.inr (.inl x1)), none, some (.inl x3), some (.inl ((((x1.toUInt64 >>> (x3.toInt64.toUInt64 &&& Int64.toUInt64 63)).toInt64) &&& (255 : Int64)).toInt32)), none] [(.inl 0)] h) (zf (126 < ((((x1.toUInt64 >>> (x3.toInt64.toUInt64 &&& Int64.toUInt64 63)).toInt64) &&& (255 : Int64)).toInt32)) (zL p_X9_append 43 [some (.inr (.inr (9, 0))), some (.inr (.inl x1)), none, some (.inl x3), some (.inl ((((x1.toUInt64 >>> (x3.toInt64.toUInt64 &&& Int64.toUInt64 63)).toInt64) &&& (255 : Int64)).toInt32)), none] [(.inl 0)] h) (zL p_X9_append 43 [some (.inr (.inr (9, 0))), some (.inr (.inl x1)), none, some (.inl x3), some (.inl ((((x1.toUInt64 >>> (x3.toInt64.toUInt64 &&& Int64.toUInt64 63)).toInt64) &&& (255 : Int64)).toInt32)), none] [(.inl 1)] h)))) := (zL_s (t_X9_append) [0, 3, 43] 1000 3 _ _ _).trans rfl
set_option maxRecDepth 1000000 in
theorem e_X9_append_43 (x1 : Int64) (o2 : Option zV) (x3 : Int32) (x4 : Int32) (o5 : Option zV) (s0 : Int32) (h : zH) : zL p_X9_append 43 [some (.inr (.inr (9, 0))), some (.inr (.inl x1)), o2, some (.inl x3), some (.inl x4), o5] [(.inl s0)] h = zf (s0 = 0) (zL p_X9_append 3 [some (.inr (.inr (9, 0))), some (.inr (.inl x1)), none, some (.inl (x3 + zm8)), some (.inl x4), some (.inl s0)] [] h) (zf ((h.1 9 0 1) < 1000) (zf (vp_in (h.1 9 0 1) 1000) (zL p_X9_append 3 [some (.inr (.inr (9, 0))), some (.inr (.inl x1)), none, some (.inl (x3 + zm8)), some (.inl x4), some (.inl s0)] [] (zuI (zuI h 34 0 (h.1 9 0 1).toNatClampNeg (vp_nar .byte (x4.toInt8.toInt32))) 9 0 1 ((h.1 9 0 1) + (1 : Int32)))) none) (zL p_X9_append 3 [some (.inr (.inr (9, 0))), some (.inr (.inl x1)), none, some (.inl (x3 + zm8)), some (.inl x4), some (.inl s0)] [] h)) := (zL_s (t_X9_append) [0, 3, 43] 1000 43 _ _ _).trans rfl
theorem zMV_11_73 : zMV "SoapTreaty" 73 9 y_X9_append prog_11_method_2_code 6 none 1 := ⟨⟨zT_of 548 (by decide +kernel) (by decide +kernel), zT_of 549 (by decide +kernel) (by decide +kernel), zT_of 550 (by decide +kernel) (by decide +kernel), zT_of 103 (by decide +kernel) (by decide +kernel), zT_of 551 (by decide +kernel) (by decide +kernel)⟩, by decide, rfl, ⟨zT9, 2, rfl⟩, by decide, by decide, by decide +kernel⟩
/-! SoapTreaty.feed(JJJ)I -/
def y_X11_feed : MethodName := ⟨"SoapTreaty", "feed", "(JJJ)I"⟩
noncomputable def p_X11_feed_0 : List (Nat × zO) := [(0, zo_aload 0 1),
  (1, zo_getR 11 9 none 4),
  (4, zo_lload 1 5),
  (5, zo_vir 9 2 (zo_callv (f_X9_append) 2 8)),
  (8, zo_aload 0 9),
  (9, zo_getR 11 9 none 12),
  (12, zo_lload 3 13),
  (13, zo_vir 9 2 (zo_callv (f_X9_append) 2 16)),
  (16, zo_aload 0 17),
  (17, zo_getR 11 9 none 20),
  (20, zo_lload 5 22),
  (22, zo_vir 9 2 (zo_callv (f_X9_append) 2 25)),
  (25, zo_aload 0 26),
  (26, zo_getR 11 9 none 29),
  (29, zo_getI 9 1 32),
  (32, zo_iret)]
noncomputable def p_X11_feed : Nat → zO := zgs [(33, p_X11_feed_0)]
theorem t_X11_feed : ∀ k, zTl (p_X11_feed k) := fun k => zgs_all (c := [(33, p_X11_feed_0)]) (fun _ => zl_bad) ⟨⟨zl_aload, zl_getR, zl_lload, (zl_vir zl_callv), zl_aload, zl_getR, zl_lload, (zl_vir zl_callv), zl_aload, zl_getR, zl_lload, (zl_vir zl_callv), zl_aload, zl_getR, zl_getI, zl_iret, trivial⟩, trivial⟩ k
noncomputable def f_X11_feed : zS := zrun p_X11_feed 7
set_option maxRecDepth 20000 in
theorem s_X11_feed_0 {l : Launch} {D : va_G} {ad : Nat → Nat → Nat} {cy : Nat → ClassId} {L : List (Nat × Nat)} (hcl : zclo L = true) (hinj : zAd ad L) {X : zCtx} (hX : zXok X "SoapTreaty" prog_1_method_2_code 7) (hR : zRt X (some .int)) (hl : zXl X l D ad cy L (zroom 2)) : zAllR (zSo X) p_X11_feed_0 := ⟨zs_aload_n (i := 0) rfl hX (by decide +kernel : decode prog_1_method_2_code 0 = .ok (.aload_n 0, 1)) rfl (by decide),
  zs_getR hX zFL_11_10 (by decide +kernel : decode prog_1_method_2_code 1 = .ok (.getfield 10, 3)) rfl,
  zs_lload_n (i := 1) rfl hX (by decide +kernel : decode prog_1_method_2_code 4 = .ok (.lload_n 1, 1)) rfl (by decide),
  zs_callVv hX zMV_11_73 (zXc_of hl (by decide) (k_X9_append hcl hinj)) (by decide +kernel : decode prog_1_method_2_code 5 = .ok (.invokevirtual 73, 3)) rfl,
  zs_aload_n (i := 0) rfl hX (by decide +kernel : decode prog_1_method_2_code 8 = .ok (.aload_n 0, 1)) rfl (by decide),
  zs_getR hX zFL_11_10 (by decide +kernel : decode prog_1_method_2_code 9 = .ok (.getfield 10, 3)) rfl,
  zs_lload_n (i := 3) rfl hX (by decide +kernel : decode prog_1_method_2_code 12 = .ok (.lload_n 3, 1)) rfl (by decide),
  zs_callVv hX zMV_11_73 (zXc_of hl (by decide) (k_X9_append hcl hinj)) (by decide +kernel : decode prog_1_method_2_code 13 = .ok (.invokevirtual 73, 3)) rfl,
  zs_aload_n (i := 0) rfl hX (by decide +kernel : decode prog_1_method_2_code 16 = .ok (.aload_n 0, 1)) rfl (by decide),
  zs_getR hX zFL_11_10 (by decide +kernel : decode prog_1_method_2_code 17 = .ok (.getfield 10, 3)) rfl,
  zs_lload hX (by decide +kernel : decode prog_1_method_2_code 20 = .ok (.lload 5, 2)) rfl (by decide),
  zs_callVv hX zMV_11_73 (zXc_of hl (by decide) (k_X9_append hcl hinj)) (by decide +kernel : decode prog_1_method_2_code 22 = .ok (.invokevirtual 73, 3)) rfl,
  zs_aload_n (i := 0) rfl hX (by decide +kernel : decode prog_1_method_2_code 25 = .ok (.aload_n 0, 1)) rfl (by decide),
  zs_getR hX zFL_11_10 (by decide +kernel : decode prog_1_method_2_code 26 = .ok (.getfield 10, 3)) rfl,
  zs_getI hX zFL_11_77 (by decide) (by decide) (by decide +kernel : decode prog_1_method_2_code 29 = .ok (.getfield 77, 3)) rfl,
  zs_iret hX hR (by decide +kernel : decode prog_1_method_2_code 32 = .ok (.ireturn, 1)), trivial⟩
theorem k_X11_feed {l : Launch} {D : va_G} {ad : Nat → Nat → Nat} {cy : Nat → ClassId} {L : List (Nat × Nat)} (hcl : zclo L = true) (hinj : zAd ad L) : zCk l D ad cy L 2 f_X11_feed y_X11_feed (.code y_X11_feed prog_1_method_2_code 7 (some .int)) :=
  z_met (by decide) t_X11_feed hcl hinj (fun X hX hR hl k => zgs_all (Q := zSo X) (c := [(33, p_X11_feed_0)]) (fun _ => zs_bad) ⟨s_X11_feed_0 hcl hinj hX hR hl, trivial⟩ k)
set_option maxRecDepth 1000000 in
theorem e_X11_feed_0 (x1 : Int64) (x3 : Int64) (x5 : Int64) (h : zH) : zL p_X11_feed 0 [some (.inr (.inr (11, 0))), some (.inr (.inl x1)), none, some (.inr (.inl x3)), none, some (.inr (.inl x5)), none] [] h = zcv (f_X9_append [(.inr (.inr (9, 0))), (.inr (.inl x1))] h) (fun h1 => zcv (f_X9_append [(.inr (.inr (9, 0))), (.inr (.inl x3))] h1) (fun h2 => zcv (f_X9_append [(.inr (.inr (9, 0))), (.inr (.inl x5))] h2) (fun h3 => some (some (.inl (h3.1 9 0 1)), h3)))) := (zL_s (t_X11_feed) [0] 1000 0 _ _ _).trans rfl
theorem g_X11_feed (x1 : Int64) (x3 : Int64) (x5 : Int64) (h : zH) : f_X11_feed [(.inr (.inr (11, 0))), (.inr (.inl x1)), (.inr (.inl x3)), (.inr (.inl x5))] h = zcv (f_X9_append [(.inr (.inr (9, 0))), (.inr (.inl x1))] h) (fun h1 => zcv (f_X9_append [(.inr (.inr (9, 0))), (.inr (.inl x3))] h1) (fun h2 => zcv (f_X9_append [(.inr (.inr (9, 0))), (.inr (.inl x5))] h2) (fun h3 => some (some (.inl (h3.1 9 0 1)), h3)))) := (show f_X11_feed _ h = zL p_X11_feed 0 _ [] h from rfl).trans (e_X11_feed_0 x1 x3 x5 h)
