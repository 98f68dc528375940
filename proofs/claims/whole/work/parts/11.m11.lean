/-! SoapTreatyModel.wornTo(II)I -/
def y_X12_wornTo : MethodName := ⟨"SoapTreatyModel", "wornTo", "(II)I"⟩
noncomputable def p_X12_wornTo_0 : List (Nat × zO) := [(0, zo_aload 0 1),
  (1, zo_getR 12 72 none 4),
  (4, zo_push (.inl 0) 5),
  (5, zo_aload 0 6),
  (6, zo_getR 12 74 none 9),
  (9, zo_push (.inl 0) 10),
  (10, zo_callv (f_X12_copies) 4 13),
  (13, zo_push (.inl 0) 14),
  (14, zo_istore 3 15),
  (15, zo_iload 3 16),
  (16, zo_push (.inl 99) 18),
  (18, zo_cgt 44 21),
  (21, zo_aload 0 22),
  (22, zo_getR 12 72 none 25),
  (25, zo_push (.inl 3) 26),
  (26, zo_iload 1 27),
  (27, zo_ii (fun x y => x + y) 28),
  (28, zo_iald 29),
  (29, zo_iload 2 30),
  (30, zo_cle 44 33)]
noncomputable def p_X12_wornTo_1 : List (Nat × zO) := [(33, zo_aload 0 34),
  (34, zo_vir 12 1 (zo_calli (f_X12_passes) 1 37)),
  (37, zo_pop 38),
  (38, zo_iinc 3 1 41),
  (41, zo_goto 15),
  (44, zo_kill [1, 2] (zo_aload 0 45)),
  (45, zo_getR 12 74 none 48),
  (48, zo_push (.inl 0) 49),
  (49, zo_aload 0 50),
  (50, zo_getR 12 72 none 53),
  (53, zo_push (.inl 0) 54),
  (54, zo_callv (f_X12_copies) 4 57),
  (57, zo_iload 3 58),
  (58, zo_iret)]
noncomputable def p_X12_wornTo : Nat → zO := zgs [(31, p_X12_wornTo_0), (59, p_X12_wornTo_1)]
theorem t_X12_wornTo : ∀ k, zTl (p_X12_wornTo k) := fun k => zgs_all (c := [(31, p_X12_wornTo_0), (59, p_X12_wornTo_1)]) (fun _ => zl_bad) ⟨⟨zl_aload, zl_getR, zl_push, zl_aload, zl_getR, zl_push, zl_callv, zl_push, zl_istore, zl_iload, zl_push, zl_cgt, zl_aload, zl_getR, zl_push, zl_iload, zl_ii, zl_iald, zl_iload, zl_cle, trivial⟩, ⟨zl_aload, (zl_vir zl_calli), zl_pop, zl_iinc, zl_goto, (zl_kill zl_aload), zl_getR, zl_push, zl_aload, zl_getR, zl_push, zl_callv, zl_iload, zl_iret, trivial⟩, trivial⟩ k
noncomputable def f_X12_wornTo : zS := zrun p_X12_wornTo 4
set_option maxRecDepth 20000 in
theorem s_X12_wornTo_0 {l : Launch} {D : va_G} {ad : Nat → Nat → Nat} {cy : Nat → ClassId} {L : List (Nat × Nat)} (hcl : zclo L = true) (hinj : zAd ad L) {X : zCtx} (hX : zXok X "SoapTreatyModel" prog_14_method_82_code 4) (hR : zRt X (some .int)) (hl : zXl X l D ad cy L (zroom 6)) : zAllR (zSo X) p_X12_wornTo_0 := ⟨zs_aload_n (i := 0) rfl hX (by decide +kernel : decode prog_14_method_82_code 0 = .ok (.aload_n 0, 1)) rfl (by decide),
  zs_getR hX zFL_12_114 (by decide +kernel : decode prog_14_method_82_code 1 = .ok (.getfield 114, 3)) rfl,
  zs_pushI (zg_iconst (by decide) hX (by decide +kernel : decode prog_14_method_82_code 4 = .ok (.iconst 0, 1)) rfl),
  zs_aload_n (i := 0) rfl hX (by decide +kernel : decode prog_14_method_82_code 5 = .ok (.aload_n 0, 1)) rfl (by decide),
  zs_getR hX zFL_12_120 (by decide +kernel : decode prog_14_method_82_code 6 = .ok (.getfield 120, 3)) rfl,
  zs_pushI (zg_iconst (by decide) hX (by decide +kernel : decode prog_14_method_82_code 9 = .ok (.iconst 0, 1)) rfl),
  zs_callSv hX zMS_12_427 (zXc_of hl (by decide) (k_X12_copies hcl hinj)) (by decide +kernel : decode prog_14_method_82_code 10 = .ok (.invokestatic 427, 3)) rfl,
  zs_pushI (zg_iconst (by decide) hX (by decide +kernel : decode prog_14_method_82_code 13 = .ok (.iconst 0, 1)) rfl),
  zs_istore_n (i := 3) rfl hX (by decide +kernel : decode prog_14_method_82_code 14 = .ok (.istore_n 3, 1)) rfl (by decide),
  zs_iload_n (i := 3) rfl hX (by decide +kernel : decode prog_14_method_82_code 15 = .ok (.iload_n 3, 1)) rfl (by decide),
  zs_pushI (zg_bipush (by decide) hX (by decide +kernel : decode prog_14_method_82_code 16 = .ok (.bipush 99, 2)) rfl),
  zs_cgt hX (by decide +kernel : decode prog_14_method_82_code 18 = .ok (.if_icmp .gt 26, 3)) (by decide) rfl,
  zs_aload_n (i := 0) rfl hX (by decide +kernel : decode prog_14_method_82_code 21 = .ok (.aload_n 0, 1)) rfl (by decide),
  zs_getR hX zFL_12_114 (by decide +kernel : decode prog_14_method_82_code 22 = .ok (.getfield 114, 3)) rfl,
  zs_pushI (zg_iconst (by decide) hX (by decide +kernel : decode prog_14_method_82_code 25 = .ok (.iconst 3, 1)) rfl),
  zs_iload_n (i := 1) rfl hX (by decide +kernel : decode prog_14_method_82_code 26 = .ok (.iload_n 1, 1)) rfl (by decide),
  zs_ii (zg_iadd hX (by decide +kernel : decode prog_14_method_82_code 27 = .ok (.iadd, 1)) rfl),
  zs_iald hX (by decide +kernel : decode prog_14_method_82_code 28 = .ok (.iaload, 1)) rfl,
  zs_iload_n (i := 2) rfl hX (by decide +kernel : decode prog_14_method_82_code 29 = .ok (.iload_n 2, 1)) rfl (by decide),
  zs_cle hX (by decide +kernel : decode prog_14_method_82_code 30 = .ok (.if_icmp .le 14, 3)) (by decide) rfl, trivial⟩
set_option maxRecDepth 20000 in
theorem s_X12_wornTo_1 {l : Launch} {D : va_G} {ad : Nat → Nat → Nat} {cy : Nat → ClassId} {L : List (Nat × Nat)} (hcl : zclo L = true) (hinj : zAd ad L) {X : zCtx} (hX : zXok X "SoapTreatyModel" prog_14_method_82_code 4) (hR : zRt X (some .int)) (hl : zXl X l D ad cy L (zroom 6)) : zAllR (zSo X) p_X12_wornTo_1 := ⟨zs_aload_n (i := 0) rfl hX (by decide +kernel : decode prog_14_method_82_code 33 = .ok (.aload_n 0, 1)) rfl (by decide),
  zs_callVi hX zMV_12_443 (zXc_of hl (by decide) (k_X12_passes hcl hinj)) (by decide +kernel : decode prog_14_method_82_code 34 = .ok (.invokevirtual 443, 3)) rfl,
  zs_pop_ (zg_pop hX (by decide +kernel : decode prog_14_method_82_code 37 = .ok (.pop, 1)) rfl),
  zs_iinc hX (by decide +kernel : decode prog_14_method_82_code 38 = .ok (.iinc 3 1, 3)) (by decide) rfl (by decide),
  zs_goto hX (by decide +kernel : decode prog_14_method_82_code 41 = .ok (.goto (-26), 3)) (by decide),
  zs_kill hX (by decide) (zs_aload_n (i := 0) rfl hX (by decide +kernel : decode prog_14_method_82_code 44 = .ok (.aload_n 0, 1)) rfl (by decide)),
  zs_getR hX zFL_12_120 (by decide +kernel : decode prog_14_method_82_code 45 = .ok (.getfield 120, 3)) rfl,
  zs_pushI (zg_iconst (by decide) hX (by decide +kernel : decode prog_14_method_82_code 48 = .ok (.iconst 0, 1)) rfl),
  zs_aload_n (i := 0) rfl hX (by decide +kernel : decode prog_14_method_82_code 49 = .ok (.aload_n 0, 1)) rfl (by decide),
  zs_getR hX zFL_12_114 (by decide +kernel : decode prog_14_method_82_code 50 = .ok (.getfield 114, 3)) rfl,
  zs_pushI (zg_iconst (by decide) hX (by decide +kernel : decode prog_14_method_82_code 53 = .ok (.iconst 0, 1)) rfl),
  zs_callSv hX zMS_12_427 (zXc_of hl (by decide) (k_X12_copies hcl hinj)) (by decide +kernel : decode prog_14_method_82_code 54 = .ok (.invokestatic 427, 3)) rfl,
  zs_iload_n (i := 3) rfl hX (by decide +kernel : decode prog_14_method_82_code 57 = .ok (.iload_n 3, 1)) rfl (by decide),
  zs_iret hX hR (by decide +kernel : decode prog_14_method_82_code 58 = .ok (.ireturn, 1)), trivial⟩
theorem k_X12_wornTo {l : Launch} {D : va_G} {ad : Nat → Nat → Nat} {cy : Nat → ClassId} {L : List (Nat × Nat)} (hcl : zclo L = true) (hinj : zAd ad L) : zCk l D ad cy L 6 f_X12_wornTo y_X12_wornTo (.code y_X12_wornTo prog_14_method_82_code 4 (some .int)) :=
  z_met (by decide) t_X12_wornTo hcl hinj (fun X hX hR hl k => zgs_all (Q := zSo X) (c := [(31, p_X12_wornTo_0), (59, p_X12_wornTo_1)]) (fun _ => zs_bad) ⟨s_X12_wornTo_0 hcl hinj hX hR hl, s_X12_wornTo_1 hcl hinj hX hR hl, trivial⟩ k)
set_option maxRecDepth 1000000 in
theorem e_X12_wornTo_0 (x1 : Int32) (x2 : Int32) (h : zH) : zL p_X12_wornTo 0 [some (.inr (.inr (12, 0))), some (.inl x1), some (.inl x2), none] [] h = zcv (f_X12_copies [(.inr (.inr (72, 0))), (.inl 0), (.inr (.inr (74, 0))), (.inl 0)] h) (fun h1 => zL p_X12_wornTo 15 [some (.inr (.inr (12, 0))), some (.inl x1), some (.inl x2), some (.inl 0)] [] h1) := (zL_s (t_X12_wornTo) [0, 15, 44] 1000 0 _ _ _).trans rfl
theorem g_X12_wornTo (x1 : Int32) (x2 : Int32) (h : zH) : f_X12_wornTo [(.inr (.inr (12, 0))), (.inl x1), (.inl x2)] h = zcv (f_X12_copies [(.inr (.inr (72, 0))), (.inl 0), (.inr (.inr (74, 0))), (.inl 0)] h) (fun h1 => zL p_X12_wornTo 15 [some (.inr (.inr (12, 0))), some (.inl x1), some (.inl x2), some (.inl 0)] [] h1) := (show f_X12_wornTo _ h = zL p_X12_wornTo 0 _ [] h from rfl).trans (e_X12_wornTo_0 x1 x2 h)
set_option maxRecDepth 1000000 in
theorem e_X12_wornTo_15 (x1 : Int32) (x2 : Int32) (x3 : Int32) (h : zH) : zL p_X12_wornTo 15 [some (.inr (.inr (12, 0))), some (.inl x1), some (.inl x2), some (.inl x3)] [] h = zf (99 < x3) (zL p_X12_wornTo 44 [some (.inr (.inr (12, 0))), some (.inl x1), some (.inl x2), some (.inl x3)] [] h) (zf (vp_in ((3 : Int32) + x1) 24) (zf (x2 < (h.1 72 0 ((3 : Int32) + x1).toNatClampNeg)) (zci (f_X12_passes [(.inr (.inr (12, 0)))] h) (fun r2 h1 => zL p_X12_wornTo 15 [some (.inr (.inr (12, 0))), some (.inl x1), some (.inl x2), some (.inl (x3 + 1))] [] h1)) (zL p_X12_wornTo 44 [some (.inr (.inr (12, 0))), some (.inl x1), some (.inl x2), some (.inl x3)] [] h)) none) := (zL_s (t_X12_wornTo) [0, 15, 44] 1000 15 _ _ _).trans rfl
set_option maxRecDepth 1000000 in
theorem e_X12_wornTo_44 (o1 : Option zV) (o2 : Option zV) (x3 : Int32) (h : zH) : zL p_X12_wornTo 44 [some (.inr (.inr (12, 0))), o1, o2, some (.inl x3)] [] h = zcv (f_X12_copies [(.inr (.inr (74, 0))), (.inl 0), (.inr (.inr (72, 0))), (.inl 0)] h) (fun h1 => some (some (.inl x3), h1)) := (zL_s (t_X12_wornTo) [0, 15, 44] 1000 44 _ _ _).trans rfl
theorem zMV_12_452 : zMV "SoapTreatyModel" 452 12 y_X12_wornTo prog_14_method_82_code 4 (some .int) 2 := ⟨⟨zT_of 1702 (by decide +kernel) (by decide +kernel), zT_of 1704 (by decide +kernel) (by decide +kernel), zT_of 89 (by decide +kernel) (by decide +kernel), zT_of 118 (by decide +kernel) (by decide +kernel), zT_of 1705 (by decide +kernel) (by decide +kernel)⟩, by decide, rfl, ⟨zT12, 57, rfl⟩, by decide, by decide, by decide +kernel⟩
/-! SoapTreatyModel.gone(I)I -/
def y_X12_gone : MethodName := ⟨"SoapTreatyModel", "gone", "(I)I"⟩
noncomputable def p_X12_gone_0 : List (Nat × zO) := [(0, zo_aload 0 1),
  (1, zo_push (.inl 0) 2),
  (2, zo_putI 12 0 5),
  (5, zo_aload 0 6),
  (6, zo_iload 1 7),
  (7, zo_vir 12 2 (zo_calli (f_X12_isCake) 2 10)),
  (10, zo_0ne 15 13),
  (13, zo_push (.inl zm1) 14),
  (14, zo_iret),
  (15, zo_aload 0 16),
  (16, zo_iload 1 17),
  (17, zo_push (.inl 0) 18),
  (18, zo_vir 12 3 (zo_calli (f_X12_wornTo) 3 21)),
  (21, zo_istore 2 22),
  (22, zo_iload 2 23),
  (23, zo_push (.inl 99) 25),
  (25, zo_cle 32 28),
  (28, zo_push (.inl zm1) 29),
  (29, zo_goto 33),
  (32, zo_iload 2 33)]
noncomputable def p_X12_gone_1 : List (Nat × zO) := [(33, zo_iret)]
noncomputable def p_X12_gone : Nat → zO := zgs [(33, p_X12_gone_0), (34, p_X12_gone_1)]
theorem t_X12_gone : ∀ k, zTl (p_X12_gone k) := fun k => zgs_all (c := [(33, p_X12_gone_0), (34, p_X12_gone_1)]) (fun _ => zl_bad) ⟨⟨zl_aload, zl_push, zl_putI, zl_aload, zl_iload, (zl_vir zl_calli), zl_0ne, zl_push, zl_iret, zl_aload, zl_iload, zl_push, (zl_vir zl_calli), zl_istore, zl_iload, zl_push, zl_cle, zl_push, zl_goto, zl_iload, trivial⟩, ⟨zl_iret, trivial⟩, trivial⟩ k
noncomputable def f_X12_gone : zS := zrun p_X12_gone 3
set_option maxRecDepth 20000 in
theorem s_X12_gone_0 {l : Launch} {D : va_G} {ad : Nat → Nat → Nat} {cy : Nat → ClassId} {L : List (Nat × Nat)} (hcl : zclo L = true) (hinj : zAd ad L) {X : zCtx} (hX : zXok X "SoapTreatyModel" prog_14_method_83_code 3) (hR : zRt X (some .int)) (hl : zXl X l D ad cy L (zroom 7)) : zAllR (zSo X) p_X12_gone_0 := ⟨zs_aload_n (i := 0) rfl hX (by decide +kernel : decode prog_14_method_83_code 0 = .ok (.aload_n 0, 1)) rfl (by decide),
  zs_pushI (zg_iconst (by decide) hX (by decide +kernel : decode prog_14_method_83_code 1 = .ok (.iconst 0, 1)) rfl),
  zs_putI hX zFP_12_139 (by decide +kernel : decode prog_14_method_83_code 2 = .ok (.putfield 139, 3)) rfl,
  zs_aload_n (i := 0) rfl hX (by decide +kernel : decode prog_14_method_83_code 5 = .ok (.aload_n 0, 1)) rfl (by decide),
  zs_iload_n (i := 1) rfl hX (by decide +kernel : decode prog_14_method_83_code 6 = .ok (.iload_n 1, 1)) rfl (by decide),
  zs_callVi hX zMV_12_421 (zXc_of hl (by decide) (k_X12_isCake hcl hinj)) (by decide +kernel : decode prog_14_method_83_code 7 = .ok (.invokevirtual 421, 3)) rfl,
  zs_0ne hX (by decide +kernel : decode prog_14_method_83_code 10 = .ok (.ifCond .ne 5, 3)) (by decide) rfl,
  zs_pushI (zg_iconst (by decide) hX (by decide +kernel : decode prog_14_method_83_code 13 = .ok (.iconst (-1), 1)) rfl),
  zs_iret hX hR (by decide +kernel : decode prog_14_method_83_code 14 = .ok (.ireturn, 1)),
  zs_aload_n (i := 0) rfl hX (by decide +kernel : decode prog_14_method_83_code 15 = .ok (.aload_n 0, 1)) rfl (by decide),
  zs_iload_n (i := 1) rfl hX (by decide +kernel : decode prog_14_method_83_code 16 = .ok (.iload_n 1, 1)) rfl (by decide),
  zs_pushI (zg_iconst (by decide) hX (by decide +kernel : decode prog_14_method_83_code 17 = .ok (.iconst 0, 1)) rfl),
  zs_callVi hX zMV_12_452 (zXc_of hl (by decide) (k_X12_wornTo hcl hinj)) (by decide +kernel : decode prog_14_method_83_code 18 = .ok (.invokevirtual 452, 3)) rfl,
  zs_istore_n (i := 2) rfl hX (by decide +kernel : decode prog_14_method_83_code 21 = .ok (.istore_n 2, 1)) rfl (by decide),
  zs_iload_n (i := 2) rfl hX (by decide +kernel : decode prog_14_method_83_code 22 = .ok (.iload_n 2, 1)) rfl (by decide),
  zs_pushI (zg_bipush (by decide) hX (by decide +kernel : decode prog_14_method_83_code 23 = .ok (.bipush 99, 2)) rfl),
  zs_cle hX (by decide +kernel : decode prog_14_method_83_code 25 = .ok (.if_icmp .le 7, 3)) (by decide) rfl,
  zs_pushI (zg_iconst (by decide) hX (by decide +kernel : decode prog_14_method_83_code 28 = .ok (.iconst (-1), 1)) rfl),
  zs_goto hX (by decide +kernel : decode prog_14_method_83_code 29 = .ok (.goto 4, 3)) (by decide),
  zs_iload_n (i := 2) rfl hX (by decide +kernel : decode prog_14_method_83_code 32 = .ok (.iload_n 2, 1)) rfl (by decide), trivial⟩
set_option maxRecDepth 20000 in
theorem s_X12_gone_1 {l : Launch} {D : va_G} {ad : Nat → Nat → Nat} {cy : Nat → ClassId} {L : List (Nat × Nat)} (hcl : zclo L = true) (hinj : zAd ad L) {X : zCtx} (hX : zXok X "SoapTreatyModel" prog_14_method_83_code 3) (hR : zRt X (some .int)) (hl : zXl X l D ad cy L (zroom 7)) : zAllR (zSo X) p_X12_gone_1 := ⟨zs_iret hX hR (by decide +kernel : decode prog_14_method_83_code 33 = .ok (.ireturn, 1)), trivial⟩
theorem k_X12_gone {l : Launch} {D : va_G} {ad : Nat → Nat → Nat} {cy : Nat → ClassId} {L : List (Nat × Nat)} (hcl : zclo L = true) (hinj : zAd ad L) : zCk l D ad cy L 7 f_X12_gone y_X12_gone (.code y_X12_gone prog_14_method_83_code 3 (some .int)) :=
  z_met (by decide) t_X12_gone hcl hinj (fun X hX hR hl k => zgs_all (Q := zSo X) (c := [(33, p_X12_gone_0), (34, p_X12_gone_1)]) (fun _ => zs_bad) ⟨s_X12_gone_0 hcl hinj hX hR hl, s_X12_gone_1 hcl hinj hX hR hl, trivial⟩ k)
set_option maxRecDepth 1000000 in
theorem e_X12_gone_0 (x1 : Int32) (h : zH) : zL p_X12_gone 0 [some (.inr (.inr (12, 0))), some (.inl x1), none] [] h = zci (f_X12_isCake [(.inr (.inr (12, 0))), (.inl x1)] (zuI h 12 0 0 0)) (fun r2 h1 => zf (r2 = 0) (some (some (.inl zm1), h1)) (zci (f_X12_wornTo [(.inr (.inr (12, 0))), (.inl x1), (.inl 0)] h1) (fun r4 h3 => zf (99 < r4) (some (some (.inl zm1), h3)) (some (some (.inl r4), h3))))) := (zL_s (t_X12_gone) [0] 1000 0 _ _ _).trans rfl
theorem g_X12_gone (x1 : Int32) (h : zH) : f_X12_gone [(.inr (.inr (12, 0))), (.inl x1)] h = zci (f_X12_isCake [(.inr (.inr (12, 0))), (.inl x1)] (zuI h 12 0 0 0)) (fun r2 h1 => zf (r2 = 0) (some (some (.inl zm1), h1)) (zci (f_X12_wornTo [(.inr (.inr (12, 0))), (.inl x1), (.inl 0)] h1) (fun r4 h3 => zf (99 < r4) (some (some (.inl zm1), h3)) (some (some (.inl r4), h3))))) := (show f_X12_gone _ h = zL p_X12_gone 0 _ [] h from rfl).trans (e_X12_gone_0 x1 h)
/-! SoapTreatyModel.worn(I)I -/
def y_X12_worn : MethodName := ⟨"SoapTreatyModel", "worn", "(I)I"⟩
noncomputable def p_X12_worn_0 : List (Nat × zO) := [(0, zo_aload 0 1),
  (1, zo_push (.inl 0) 2),
  (2, zo_putI 12 0 5),
  (5, zo_aload 0 6),
  (6, zo_iload 1 7),
  (7, zo_vir 12 2 (zo_calli (f_X12_isCake) 2 10)),
  (10, zo_0eq 22 13),
  (13, zo_aload 0 14),
  (14, zo_getR 12 48 none 17),
  (17, zo_iload 1 18),
  (18, zo_iald 19),
  (19, zo_0ge 24 22),
  (22, zo_push (.inl zm1) 23),
  (23, zo_iret),
  (24, zo_aload 0 25),
  (25, zo_iload 1 26),
  (26, zo_aload 0 27),
  (27, zo_getR 12 48 none 30),
  (30, zo_iload 1 31),
  (31, zo_iald 32)]
noncomputable def p_X12_worn_1 : List (Nat × zO) := [(32, zo_vir 12 3 (zo_calli (f_X12_wornTo) 3 35)),
  (35, zo_istore 2 36),
  (36, zo_iload 2 37),
  (37, zo_push (.inl 99) 39),
  (39, zo_cle 46 42),
  (42, zo_push (.inl zm1) 43),
  (43, zo_goto 47),
  (46, zo_iload 2 47),
  (47, zo_iret)]
noncomputable def p_X12_worn : Nat → zO := zgs [(32, p_X12_worn_0), (48, p_X12_worn_1)]
theorem t_X12_worn : ∀ k, zTl (p_X12_worn k) := fun k => zgs_all (c := [(32, p_X12_worn_0), (48, p_X12_worn_1)]) (fun _ => zl_bad) ⟨⟨zl_aload, zl_push, zl_putI, zl_aload, zl_iload, (zl_vir zl_calli), zl_0eq, zl_aload, zl_getR, zl_iload, zl_iald, zl_0ge, zl_push, zl_iret, zl_aload, zl_iload, zl_aload, zl_getR, zl_iload, zl_iald, trivial⟩, ⟨(zl_vir zl_calli), zl_istore, zl_iload, zl_push, zl_cle, zl_push, zl_goto, zl_iload, zl_iret, trivial⟩, trivial⟩ k
noncomputable def f_X12_worn : zS := zrun p_X12_worn 3
set_option maxRecDepth 20000 in
theorem s_X12_worn_0 {l : Launch} {D : va_G} {ad : Nat → Nat → Nat} {cy : Nat → ClassId} {L : List (Nat × Nat)} (hcl : zclo L = true) (hinj : zAd ad L) {X : zCtx} (hX : zXok X "SoapTreatyModel" prog_14_method_84_code 3) (hR : zRt X (some .int)) (hl : zXl X l D ad cy L (zroom 7)) : zAllR (zSo X) p_X12_worn_0 := ⟨zs_aload_n (i := 0) rfl hX (by decide +kernel : decode prog_14_method_84_code 0 = .ok (.aload_n 0, 1)) rfl (by decide),
  zs_pushI (zg_iconst (by decide) hX (by decide +kernel : decode prog_14_method_84_code 1 = .ok (.iconst 0, 1)) rfl),
  zs_putI hX zFP_12_139 (by decide +kernel : decode prog_14_method_84_code 2 = .ok (.putfield 139, 3)) rfl,
  zs_aload_n (i := 0) rfl hX (by decide +kernel : decode prog_14_method_84_code 5 = .ok (.aload_n 0, 1)) rfl (by decide),
  zs_iload_n (i := 1) rfl hX (by decide +kernel : decode prog_14_method_84_code 6 = .ok (.iload_n 1, 1)) rfl (by decide),
  zs_callVi hX zMV_12_421 (zXc_of hl (by decide) (k_X12_isCake hcl hinj)) (by decide +kernel : decode prog_14_method_84_code 7 = .ok (.invokevirtual 421, 3)) rfl,
  zs_0eq hX (by decide +kernel : decode prog_14_method_84_code 10 = .ok (.ifCond .eq 12, 3)) (by decide) rfl,
  zs_aload_n (i := 0) rfl hX (by decide +kernel : decode prog_14_method_84_code 13 = .ok (.aload_n 0, 1)) rfl (by decide),
  zs_getR hX zFL_12_41 (by decide +kernel : decode prog_14_method_84_code 14 = .ok (.getfield 41, 3)) rfl,
  zs_iload_n (i := 1) rfl hX (by decide +kernel : decode prog_14_method_84_code 17 = .ok (.iload_n 1, 1)) rfl (by decide),
  zs_iald hX (by decide +kernel : decode prog_14_method_84_code 18 = .ok (.iaload, 1)) rfl,
  zs_0ge hX (by decide +kernel : decode prog_14_method_84_code 19 = .ok (.ifCond .ge 5, 3)) (by decide) rfl,
  zs_pushI (zg_iconst (by decide) hX (by decide +kernel : decode prog_14_method_84_code 22 = .ok (.iconst (-1), 1)) rfl),
  zs_iret hX hR (by decide +kernel : decode prog_14_method_84_code 23 = .ok (.ireturn, 1)),
  zs_aload_n (i := 0) rfl hX (by decide +kernel : decode prog_14_method_84_code 24 = .ok (.aload_n 0, 1)) rfl (by decide),
  zs_iload_n (i := 1) rfl hX (by decide +kernel : decode prog_14_method_84_code 25 = .ok (.iload_n 1, 1)) rfl (by decide),
  zs_aload_n (i := 0) rfl hX (by decide +kernel : decode prog_14_method_84_code 26 = .ok (.aload_n 0, 1)) rfl (by decide),
  zs_getR hX zFL_12_41 (by decide +kernel : decode prog_14_method_84_code 27 = .ok (.getfield 41, 3)) rfl,
  zs_iload_n (i := 1) rfl hX (by decide +kernel : decode prog_14_method_84_code 30 = .ok (.iload_n 1, 1)) rfl (by decide),
  zs_iald hX (by decide +kernel : decode prog_14_method_84_code 31 = .ok (.iaload, 1)) rfl, trivial⟩
set_option maxRecDepth 20000 in
theorem s_X12_worn_1 {l : Launch} {D : va_G} {ad : Nat → Nat → Nat} {cy : Nat → ClassId} {L : List (Nat × Nat)} (hcl : zclo L = true) (hinj : zAd ad L) {X : zCtx} (hX : zXok X "SoapTreatyModel" prog_14_method_84_code 3) (hR : zRt X (some .int)) (hl : zXl X l D ad cy L (zroom 7)) : zAllR (zSo X) p_X12_worn_1 := ⟨zs_callVi hX zMV_12_452 (zXc_of hl (by decide) (k_X12_wornTo hcl hinj)) (by decide +kernel : decode prog_14_method_84_code 32 = .ok (.invokevirtual 452, 3)) rfl,
  zs_istore_n (i := 2) rfl hX (by decide +kernel : decode prog_14_method_84_code 35 = .ok (.istore_n 2, 1)) rfl (by decide),
  zs_iload_n (i := 2) rfl hX (by decide +kernel : decode prog_14_method_84_code 36 = .ok (.iload_n 2, 1)) rfl (by decide),
  zs_pushI (zg_bipush (by decide) hX (by decide +kernel : decode prog_14_method_84_code 37 = .ok (.bipush 99, 2)) rfl),
  zs_cle hX (by decide +kernel : decode prog_14_method_84_code 39 = .ok (.if_icmp .le 7, 3)) (by decide) rfl,
  zs_pushI (zg_iconst (by decide) hX (by decide +kernel : decode prog_14_method_84_code 42 = .ok (.iconst (-1), 1)) rfl),
  zs_goto hX (by decide +kernel : decode prog_14_method_84_code 43 = .ok (.goto 4, 3)) (by decide),
  zs_iload_n (i := 2) rfl hX (by decide +kernel : decode prog_14_method_84_code 46 = .ok (.iload_n 2, 1)) rfl (by decide),
  zs_iret hX hR (by decide +kernel : decode prog_14_method_84_code 47 = .ok (.ireturn, 1)), trivial⟩
theorem k_X12_worn {l : Launch} {D : va_G} {ad : Nat → Nat → Nat} {cy : Nat → ClassId} {L : List (Nat × Nat)} (hcl : zclo L = true) (hinj : zAd ad L) : zCk l D ad cy L 7 f_X12_worn y_X12_worn (.code y_X12_worn prog_14_method_84_code 3 (some .int)) :=
  z_met (by decide) t_X12_worn hcl hinj (fun X hX hR hl k => zgs_all (Q := zSo X) (c := [(32, p_X12_worn_0), (48, p_X12_worn_1)]) (fun _ => zs_bad) ⟨s_X12_worn_0 hcl hinj hX hR hl, s_X12_worn_1 hcl hinj hX hR hl, trivial⟩ k)
set_option maxRecDepth 1000000 in
theorem e_X12_worn_0 (x1 : Int32) (h : zH) : zL p_X12_worn 0 [some (.inr (.inr (12, 0))), some (.inl x1), none] [] h = zci (f_X12_isCake [(.inr (.inr (12, 0))), (.inl x1)] (zuI h 12 0 0 0)) (fun r2 h1 => zf (r2 = 0) (some (some (.inl zm1), h1)) (zf (vp_in x1 14) (zf ((h1.1 48 0 x1.toNatClampNeg) < 0) (some (some (.inl zm1), h1)) (zf (vp_in x1 14) (zci (f_X12_wornTo [(.inr (.inr (12, 0))), (.inl x1), (.inl (h1.1 48 0 x1.toNatClampNeg))] h1) (fun r4 h3 => zf (99 < r4) (some (some (.inl zm1), h3)) (some (some (.inl r4), h3)))) none)) none)) := (zL_s (t_X12_worn) [0] 1000 0 _ _ _).trans rfl
theorem g_X12_worn (x1 : Int32) (h : zH) : f_X12_worn [(.inr (.inr (12, 0))), (.inl x1)] h = zci (f_X12_isCake [(.inr (.inr (12, 0))), (.inl x1)] (zuI h 12 0 0 0)) (fun r2 h1 => zf (r2 = 0) (some (some (.inl zm1), h1)) (zf (vp_in x1 14) (zf ((h1.1 48 0 x1.toNatClampNeg) < 0) (some (some (.inl zm1), h1)) (zf (vp_in x1 14) (zci (f_X12_wornTo [(.inr (.inr (12, 0))), (.inl x1), (.inl (h1.1 48 0 x1.toNatClampNeg))] h1) (fun r4 h3 => zf (99 < r4) (some (some (.inl zm1), h3)) (some (some (.inl r4), h3)))) none)) none)) := (show f_X12_worn _ h = zL p_X12_worn 0 _ [] h from rfl).trans (e_X12_worn_0 x1 h)
/-! SoapTreatyModel.last()I -/
def y_X12_last : MethodName := ⟨"SoapTreatyModel", "last", "()I"⟩
noncomputable def p_X12_last_0 : List (Nat × zO) := [(0, zo_aload 0 1),
  (1, zo_push (.inl 0) 2),
  (2, zo_putI 12 0 5),
  (5, zo_push (.inl zm1) 6),
  (6, zo_istore 1 7),
  (7, zo_push (.inl 0) 8),
  (8, zo_istore 2 9),
  (9, zo_push (.inl 0) 10),
  (10, zo_istore 3 11),
  (11, zo_kill [4] (zo_iload 3 12)),
  (12, zo_aload 0 13),
  (13, zo_getR 12 39 none 16),
  (16, zo_push (.inl 1) 17),
  (17, zo_ialdc 18),
  (18, zo_cge 49 21),
  (21, zo_aload 0 22),
  (22, zo_iload 3 23),
  (23, zo_push (.inl 0) 24),
  (24, zo_vir 12 3 (zo_calli (f_X12_wornTo) 3 27)),
  (27, zo_istore 4 29)]
noncomputable def p_X12_last_1 : List (Nat × zO) := [(29, zo_iload 4 31),
  (31, zo_iload 2 32),
  (32, zo_cgt 38 35),
  (35, zo_goto 43),
  (38, zo_iload 3 39),
  (39, zo_istore 1 40),
  (40, zo_iload 4 42),
  (42, zo_istore 2 43),
  (43, zo_iinc 3 1 46),
  (46, zo_goto 11),
  (49, zo_iload 1 50),
  (50, zo_iret)]
noncomputable def p_X12_last : Nat → zO := zgs [(28, p_X12_last_0), (51, p_X12_last_1)]
theorem t_X12_last : ∀ k, zTl (p_X12_last k) := fun k => zgs_all (c := [(28, p_X12_last_0), (51, p_X12_last_1)]) (fun _ => zl_bad) ⟨⟨zl_aload, zl_push, zl_putI, zl_push, zl_istore, zl_push, zl_istore, zl_push, zl_istore, (zl_kill zl_iload), zl_aload, zl_getR, zl_push, zl_ialdc, zl_cge, zl_aload, zl_iload, zl_push, (zl_vir zl_calli), zl_istore, trivial⟩, ⟨zl_iload, zl_iload, zl_cgt, zl_goto, zl_iload, zl_istore, zl_iload, zl_istore, zl_iinc, zl_goto, zl_iload, zl_iret, trivial⟩, trivial⟩ k
noncomputable def f_X12_last : zS := zrun p_X12_last 5
set_option maxRecDepth 20000 in
theorem s_X12_last_0 {l : Launch} {D : va_G} {ad : Nat → Nat → Nat} {cy : Nat → ClassId} {L : List (Nat × Nat)} (hcl : zclo L = true) (hinj : zAd ad L) {X : zCtx} (hX : zXok X "SoapTreatyModel" prog_14_method_85_code 5) (hR : zRt X (some .int)) (hl : zXl X l D ad cy L (zroom 7)) : zAllR (zSo X) p_X12_last_0 := ⟨zs_aload_n (i := 0) rfl hX (by decide +kernel : decode prog_14_method_85_code 0 = .ok (.aload_n 0, 1)) rfl (by decide),
  zs_pushI (zg_iconst (by decide) hX (by decide +kernel : decode prog_14_method_85_code 1 = .ok (.iconst 0, 1)) rfl),
  zs_putI hX zFP_12_139 (by decide +kernel : decode prog_14_method_85_code 2 = .ok (.putfield 139, 3)) rfl,
  zs_pushI (zg_iconst (by decide) hX (by decide +kernel : decode prog_14_method_85_code 5 = .ok (.iconst (-1), 1)) rfl),
  zs_istore_n (i := 1) rfl hX (by decide +kernel : decode prog_14_method_85_code 6 = .ok (.istore_n 1, 1)) rfl (by decide),
  zs_pushI (zg_iconst (by decide) hX (by decide +kernel : decode prog_14_method_85_code 7 = .ok (.iconst 0, 1)) rfl),
  zs_istore_n (i := 2) rfl hX (by decide +kernel : decode prog_14_method_85_code 8 = .ok (.istore_n 2, 1)) rfl (by decide),
  zs_pushI (zg_iconst (by decide) hX (by decide +kernel : decode prog_14_method_85_code 9 = .ok (.iconst 0, 1)) rfl),
  zs_istore_n (i := 3) rfl hX (by decide +kernel : decode prog_14_method_85_code 10 = .ok (.istore_n 3, 1)) rfl (by decide),
  zs_kill hX (by decide) (zs_iload_n (i := 3) rfl hX (by decide +kernel : decode prog_14_method_85_code 11 = .ok (.iload_n 3, 1)) rfl (by decide)),
  zs_aload_n (i := 0) rfl hX (by decide +kernel : decode prog_14_method_85_code 12 = .ok (.aload_n 0, 1)) rfl (by decide),
  zs_getR hX zFL_12_13 (by decide +kernel : decode prog_14_method_85_code 13 = .ok (.getfield 13, 3)) rfl,
  zs_pushI (zg_iconst (by decide) hX (by decide +kernel : decode prog_14_method_85_code 16 = .ok (.iconst 1, 1)) rfl),
  zs_ialdc hX (by decide +kernel : decode prog_14_method_85_code 17 = .ok (.iaload, 1)) rfl,
  zs_cge hX (by decide +kernel : decode prog_14_method_85_code 18 = .ok (.if_icmp .ge 31, 3)) (by decide) rfl,
  zs_aload_n (i := 0) rfl hX (by decide +kernel : decode prog_14_method_85_code 21 = .ok (.aload_n 0, 1)) rfl (by decide),
  zs_iload_n (i := 3) rfl hX (by decide +kernel : decode prog_14_method_85_code 22 = .ok (.iload_n 3, 1)) rfl (by decide),
  zs_pushI (zg_iconst (by decide) hX (by decide +kernel : decode prog_14_method_85_code 23 = .ok (.iconst 0, 1)) rfl),
  zs_callVi hX zMV_12_452 (zXc_of hl (by decide) (k_X12_wornTo hcl hinj)) (by decide +kernel : decode prog_14_method_85_code 24 = .ok (.invokevirtual 452, 3)) rfl,
  zs_istore hX (by decide +kernel : decode prog_14_method_85_code 27 = .ok (.istore 4, 2)) rfl (by decide), trivial⟩
set_option maxRecDepth 20000 in
theorem s_X12_last_1 {l : Launch} {D : va_G} {ad : Nat → Nat → Nat} {cy : Nat → ClassId} {L : List (Nat × Nat)} (hcl : zclo L = true) (hinj : zAd ad L) {X : zCtx} (hX : zXok X "SoapTreatyModel" prog_14_method_85_code 5) (hR : zRt X (some .int)) (hl : zXl X l D ad cy L (zroom 7)) : zAllR (zSo X) p_X12_last_1 := ⟨zs_iload hX (by decide +kernel : decode prog_14_method_85_code 29 = .ok (.iload 4, 2)) rfl (by decide),
  zs_iload_n (i := 2) rfl hX (by decide +kernel : decode prog_14_method_85_code 31 = .ok (.iload_n 2, 1)) rfl (by decide),
  zs_cgt hX (by decide +kernel : decode prog_14_method_85_code 32 = .ok (.if_icmp .gt 6, 3)) (by decide) rfl,
  zs_goto hX (by decide +kernel : decode prog_14_method_85_code 35 = .ok (.goto 8, 3)) (by decide),
  zs_iload_n (i := 3) rfl hX (by decide +kernel : decode prog_14_method_85_code 38 = .ok (.iload_n 3, 1)) rfl (by decide),
  zs_istore_n (i := 1) rfl hX (by decide +kernel : decode prog_14_method_85_code 39 = .ok (.istore_n 1, 1)) rfl (by decide),
  zs_iload hX (by decide +kernel : decode prog_14_method_85_code 40 = .ok (.iload 4, 2)) rfl (by decide),
  zs_istore_n (i := 2) rfl hX (by decide +kernel : decode prog_14_method_85_code 42 = .ok (.istore_n 2, 1)) rfl (by decide),
  zs_iinc hX (by decide +kernel : decode prog_14_method_85_code 43 = .ok (.iinc 3 1, 3)) (by decide) rfl (by decide),
  zs_goto hX (by decide +kernel : decode prog_14_method_85_code 46 = .ok (.goto (-35), 3)) (by decide),
  zs_iload_n (i := 1) rfl hX (by decide +kernel : decode prog_14_method_85_code 49 = .ok (.iload_n 1, 1)) rfl (by decide),
  zs_iret hX hR (by decide +kernel : decode prog_14_method_85_code 50 = .ok (.ireturn, 1)), trivial⟩
theorem k_X12_last {l : Launch} {D : va_G} {ad : Nat → Nat → Nat} {cy : Nat → ClassId} {L : List (Nat × Nat)} (hcl : zclo L = true) (hinj : zAd ad L) : zCk l D ad cy L 7 f_X12_last y_X12_last (.code y_X12_last prog_14_method_85_code 5 (some .int)) :=
  z_met (by decide) t_X12_last hcl hinj (fun X hX hR hl k => zgs_all (Q := zSo X) (c := [(28, p_X12_last_0), (51, p_X12_last_1)]) (fun _ => zs_bad) ⟨s_X12_last_0 hcl hinj hX hR hl, s_X12_last_1 hcl hinj hX hR hl, trivial⟩ k)
set_option maxRecDepth 1000000 in
theorem e_X12_last_0 (h : zH) : zL p_X12_last 0 [some (.inr (.inr (12, 0))), none, none, none, none] [] h = zL p_X12_last 11 [some (.inr (.inr (12, 0))), some (.inl zm1), some (.inl 0), some (.inl 0), none] [] (zuI h 12 0 0 0) := (zL_s (t_X12_last) [0, 11] 1000 0 _ _ _).trans rfl
theorem g_X12_last (h : zH) : f_X12_last [(.inr (.inr (12, 0)))] h = zL p_X12_last 11 [some (.inr (.inr (12, 0))), some (.inl zm1), some (.inl 0), some (.inl 0), none] [] (zuI h 12 0 0 0) := (show f_X12_last _ h = zL p_X12_last 0 _ [] h from rfl).trans (e_X12_last_0 h)
set_option maxRecDepth 1000000 in
theorem e_X12_last_11 (x1 : Int32) (x2 : Int32) (x3 : Int32) (o4 : Option zV) (h : zH) : zL p_X12_last 11 [some (.inr (.inr (12, 0))), some (.inl x1), some (.inl x2), some (.inl x3), o4] [] h = zf (x3 < (h.1 39 0 1)) (zci (f_X12_wornTo [(.inr (.inr (12, 0))), (.inl x3), (.inl 0)] h) (fun r2 h1 => zf (x2 < r2) (zL p_X12_last 11 [some (.inr (.inr (12, 0))), some (.inl x3), some (.inl r2), some (.inl (x3 + 1)), some (.inl r2)] [] h1) (zL p_X12_last 11 [some (.inr (.inr (12, 0))), some (.inl x1), some (.inl x2), some (.inl (x3 + 1)), some (.inl r2)] [] h1))) (some (some (.inl x1), h)) := (zL_s (t_X12_last) [0, 11] 1000 11 _ _ _).trans rfl
/-! SoapTreatyModel.best(I)I -/
def y_X12_best : MethodName := ⟨"SoapTreatyModel", "best", "(I)I"⟩
noncomputable def p_X12_best_0 : List (Nat × zO) := [(0, zo_aload 0 1),
  (1, zo_push (.inl 0) 2),
  (2, zo_putI 12 0 5),
  (5, zo_aload 0 6),
  (6, zo_iload 1 7),
  (7, zo_vir 12 2 (zo_calli (f_X12_isCake) 2 10)),
  (10, zo_0eq 21 13),
  (13, zo_aload 0 14),
  (14, zo_iload 1 15),
  (15, zo_vir 12 2 (zo_calli (f_X12_isThere) 2 18)),
  (18, zo_0ne 23 21),
  (21, zo_push (.inl zm1) 22),
  (22, zo_iret),
  (23, zo_aload 0 24),
  (24, zo_getR 12 72 none 27),
  (27, zo_push (.inl 10) 29),
  (29, zo_iload 1 30),
  (30, zo_ii (fun x y => x + y) 31),
  (31, zo_iald 32),
  (32, zo_istore 2 33)]
noncomputable def p_X12_best_1 : List (Nat × zO) := [(33, zo_push (.inl zm1) 34),
  (34, zo_istore 3 35),
  (35, zo_push (.inl 100) 37),
  (37, zo_istore 4 39),
  (39, zo_push (.inl 0) 40),
  (40, zo_istore 5 42),
  (42, zo_kill [6] (zo_iload 5 44)),
  (44, zo_aload 0 45),
  (45, zo_getR 12 39 none 48),
  (48, zo_push (.inl 0) 49),
  (49, zo_ialdc 50),
  (50, zo_cge 95 53),
  (53, zo_aload 0 54),
  (54, zo_getR 12 72 none 57),
  (57, zo_push (.inl 10) 59),
  (59, zo_iload 1 60),
  (60, zo_ii (fun x y => x + y) 61),
  (61, zo_iload 5 63),
  (63, zo_iast 64),
  (64, zo_aload 0 65)]
noncomputable def p_X12_best_2 : List (Nat × zO) := [(65, zo_iload 1 66),
  (66, zo_push (.inl 0) 67),
  (67, zo_vir 12 3 (zo_calli (f_X12_wornTo) 3 70)),
  (70, zo_istore 6 72),
  (72, zo_iload 6 74),
  (74, zo_iload 4 76),
  (76, zo_clt 82 79),
  (79, zo_goto 89),
  (82, zo_iload 5 84),
  (84, zo_istore 3 85),
  (85, zo_iload 6 87),
  (87, zo_istore 4 89),
  (89, zo_iinc 5 1 92),
  (92, zo_goto 42),
  (95, zo_aload 0 96),
  (96, zo_getR 12 72 none 99),
  (99, zo_push (.inl 10) 101),
  (101, zo_iload 1 102),
  (102, zo_ii (fun x y => x + y) 103),
  (103, zo_iload 2 104)]
noncomputable def p_X12_best_3 : List (Nat × zO) := [(104, zo_iast 105),
  (105, zo_iload 3 106),
  (106, zo_iret)]
noncomputable def p_X12_best : Nat → zO := zgs [(33, p_X12_best_0), (65, p_X12_best_1), (104, p_X12_best_2), (107, p_X12_best_3)]
theorem t_X12_best : ∀ k, zTl (p_X12_best k) := fun k => zgs_all (c := [(33, p_X12_best_0), (65, p_X12_best_1), (104, p_X12_best_2), (107, p_X12_best_3)]) (fun _ => zl_bad) ⟨⟨zl_aload, zl_push, zl_putI, zl_aload, zl_iload, (zl_vir zl_calli), zl_0eq, zl_aload, zl_iload, (zl_vir zl_calli), zl_0ne, zl_push, zl_iret, zl_aload, zl_getR, zl_push, zl_iload, zl_ii, zl_iald, zl_istore, trivial⟩, ⟨zl_push, zl_istore, zl_push, zl_istore, zl_push, zl_istore, (zl_kill zl_iload), zl_aload, zl_getR, zl_push, zl_ialdc, zl_cge, zl_aload, zl_getR, zl_push, zl_iload, zl_ii, zl_iload, zl_iast, zl_aload, trivial⟩, ⟨zl_iload, zl_push, (zl_vir zl_calli), zl_istore, zl_iload, zl_iload, zl_clt, zl_goto, zl_iload, zl_istore, zl_iload, zl_istore, zl_iinc, zl_goto, zl_aload, zl_getR, zl_push, zl_iload, zl_ii, zl_iload, trivial⟩, ⟨zl_iast, zl_iload, zl_iret, trivial⟩, trivial⟩ k
noncomputable def f_X12_best : zS := zrun p_X12_best 7
set_option maxRecDepth 20000 in
theorem s_X12_best_0 {l : Launch} {D : va_G} {ad : Nat → Nat → Nat} {cy : Nat → ClassId} {L : List (Nat × Nat)} (hcl : zclo L = true) (hinj : zAd ad L) {X : zCtx} (hX : zXok X "SoapTreatyModel" prog_14_method_86_code 7) (hR : zRt X (some .int)) (hl : zXl X l D ad cy L (zroom 7)) : zAllR (zSo X) p_X12_best_0 := ⟨zs_aload_n (i := 0) rfl hX (by decide +kernel : decode prog_14_method_86_code 0 = .ok (.aload_n 0, 1)) rfl (by decide),
  zs_pushI (zg_iconst (by decide) hX (by decide +kernel : decode prog_14_method_86_code 1 = .ok (.iconst 0, 1)) rfl),
  zs_putI hX zFP_12_139 (by decide +kernel : decode prog_14_method_86_code 2 = .ok (.putfield 139, 3)) rfl,
  zs_aload_n (i := 0) rfl hX (by decide +kernel : decode prog_14_method_86_code 5 = .ok (.aload_n 0, 1)) rfl (by decide),
  zs_iload_n (i := 1) rfl hX (by decide +kernel : decode prog_14_method_86_code 6 = .ok (.iload_n 1, 1)) rfl (by decide),
  zs_callVi hX zMV_12_421 (zXc_of hl (by decide) (k_X12_isCake hcl hinj)) (by decide +kernel : decode prog_14_method_86_code 7 = .ok (.invokevirtual 421, 3)) rfl,
  zs_0eq hX (by decide +kernel : decode prog_14_method_86_code 10 = .ok (.ifCond .eq 11, 3)) (by decide) rfl,
  zs_aload_n (i := 0) rfl hX (by decide +kernel : decode prog_14_method_86_code 13 = .ok (.aload_n 0, 1)) rfl (by decide),
  zs_iload_n (i := 1) rfl hX (by decide +kernel : decode prog_14_method_86_code 14 = .ok (.iload_n 1, 1)) rfl (by decide),
  zs_callVi hX zMV_12_360 (zXc_of hl (by decide) (k_X12_isThere hcl hinj)) (by decide +kernel : decode prog_14_method_86_code 15 = .ok (.invokevirtual 360, 3)) rfl,
  zs_0ne hX (by decide +kernel : decode prog_14_method_86_code 18 = .ok (.ifCond .ne 5, 3)) (by decide) rfl,
  zs_pushI (zg_iconst (by decide) hX (by decide +kernel : decode prog_14_method_86_code 21 = .ok (.iconst (-1), 1)) rfl),
  zs_iret hX hR (by decide +kernel : decode prog_14_method_86_code 22 = .ok (.ireturn, 1)),
  zs_aload_n (i := 0) rfl hX (by decide +kernel : decode prog_14_method_86_code 23 = .ok (.aload_n 0, 1)) rfl (by decide),
  zs_getR hX zFL_12_114 (by decide +kernel : decode prog_14_method_86_code 24 = .ok (.getfield 114, 3)) rfl,
  zs_pushI (zg_bipush (by decide) hX (by decide +kernel : decode prog_14_method_86_code 27 = .ok (.bipush 10, 2)) rfl),
  zs_iload_n (i := 1) rfl hX (by decide +kernel : decode prog_14_method_86_code 29 = .ok (.iload_n 1, 1)) rfl (by decide),
  zs_ii (zg_iadd hX (by decide +kernel : decode prog_14_method_86_code 30 = .ok (.iadd, 1)) rfl),
  zs_iald hX (by decide +kernel : decode prog_14_method_86_code 31 = .ok (.iaload, 1)) rfl,
  zs_istore_n (i := 2) rfl hX (by decide +kernel : decode prog_14_method_86_code 32 = .ok (.istore_n 2, 1)) rfl (by decide), trivial⟩
set_option maxRecDepth 20000 in
theorem s_X12_best_1 {l : Launch} {D : va_G} {ad : Nat → Nat → Nat} {cy : Nat → ClassId} {L : List (Nat × Nat)} (hcl : zclo L = true) (hinj : zAd ad L) {X : zCtx} (hX : zXok X "SoapTreatyModel" prog_14_method_86_code 7) (hR : zRt X (some .int)) (hl : zXl X l D ad cy L (zroom 7)) : zAllR (zSo X) p_X12_best_1 := ⟨zs_pushI (zg_iconst (by decide) hX (by decide +kernel : decode prog_14_method_86_code 33 = .ok (.iconst (-1), 1)) rfl),
  zs_istore_n (i := 3) rfl hX (by decide +kernel : decode prog_14_method_86_code 34 = .ok (.istore_n 3, 1)) rfl (by decide),
  zs_pushI (zg_bipush (by decide) hX (by decide +kernel : decode prog_14_method_86_code 35 = .ok (.bipush 100, 2)) rfl),
  zs_istore hX (by decide +kernel : decode prog_14_method_86_code 37 = .ok (.istore 4, 2)) rfl (by decide),
  zs_pushI (zg_iconst (by decide) hX (by decide +kernel : decode prog_14_method_86_code 39 = .ok (.iconst 0, 1)) rfl),
  zs_istore hX (by decide +kernel : decode prog_14_method_86_code 40 = .ok (.istore 5, 2)) rfl (by decide),
  zs_kill hX (by decide) (zs_iload hX (by decide +kernel : decode prog_14_method_86_code 42 = .ok (.iload 5, 2)) rfl (by decide)),
  zs_aload_n (i := 0) rfl hX (by decide +kernel : decode prog_14_method_86_code 44 = .ok (.aload_n 0, 1)) rfl (by decide),
  zs_getR hX zFL_12_13 (by decide +kernel : decode prog_14_method_86_code 45 = .ok (.getfield 13, 3)) rfl,
  zs_pushI (zg_iconst (by decide) hX (by decide +kernel : decode prog_14_method_86_code 48 = .ok (.iconst 0, 1)) rfl),
  zs_ialdc hX (by decide +kernel : decode prog_14_method_86_code 49 = .ok (.iaload, 1)) rfl,
  zs_cge hX (by decide +kernel : decode prog_14_method_86_code 50 = .ok (.if_icmp .ge 45, 3)) (by decide) rfl,
  zs_aload_n (i := 0) rfl hX (by decide +kernel : decode prog_14_method_86_code 53 = .ok (.aload_n 0, 1)) rfl (by decide),
  zs_getR hX zFL_12_114 (by decide +kernel : decode prog_14_method_86_code 54 = .ok (.getfield 114, 3)) rfl,
  zs_pushI (zg_bipush (by decide) hX (by decide +kernel : decode prog_14_method_86_code 57 = .ok (.bipush 10, 2)) rfl),
  zs_iload_n (i := 1) rfl hX (by decide +kernel : decode prog_14_method_86_code 59 = .ok (.iload_n 1, 1)) rfl (by decide),
  zs_ii (zg_iadd hX (by decide +kernel : decode prog_14_method_86_code 60 = .ok (.iadd, 1)) rfl),
  zs_iload hX (by decide +kernel : decode prog_14_method_86_code 61 = .ok (.iload 5, 2)) rfl (by decide),
  zs_iast hX (by decide +kernel : decode prog_14_method_86_code 63 = .ok (.iastore, 1)) rfl,
  zs_aload_n (i := 0) rfl hX (by decide +kernel : decode prog_14_method_86_code 64 = .ok (.aload_n 0, 1)) rfl (by decide), trivial⟩
set_option maxRecDepth 20000 in
theorem s_X12_best_2 {l : Launch} {D : va_G} {ad : Nat → Nat → Nat} {cy : Nat → ClassId} {L : List (Nat × Nat)} (hcl : zclo L = true) (hinj : zAd ad L) {X : zCtx} (hX : zXok X "SoapTreatyModel" prog_14_method_86_code 7) (hR : zRt X (some .int)) (hl : zXl X l D ad cy L (zroom 7)) : zAllR (zSo X) p_X12_best_2 := ⟨zs_iload_n (i := 1) rfl hX (by decide +kernel : decode prog_14_method_86_code 65 = .ok (.iload_n 1, 1)) rfl (by decide),
  zs_pushI (zg_iconst (by decide) hX (by decide +kernel : decode prog_14_method_86_code 66 = .ok (.iconst 0, 1)) rfl),
  zs_callVi hX zMV_12_452 (zXc_of hl (by decide) (k_X12_wornTo hcl hinj)) (by decide +kernel : decode prog_14_method_86_code 67 = .ok (.invokevirtual 452, 3)) rfl,
  zs_istore hX (by decide +kernel : decode prog_14_method_86_code 70 = .ok (.istore 6, 2)) rfl (by decide),
  zs_iload hX (by decide +kernel : decode prog_14_method_86_code 72 = .ok (.iload 6, 2)) rfl (by decide),
  zs_iload hX (by decide +kernel : decode prog_14_method_86_code 74 = .ok (.iload 4, 2)) rfl (by decide),
  zs_clt hX (by decide +kernel : decode prog_14_method_86_code 76 = .ok (.if_icmp .lt 6, 3)) (by decide) rfl,
  zs_goto hX (by decide +kernel : decode prog_14_method_86_code 79 = .ok (.goto 10, 3)) (by decide),
  zs_iload hX (by decide +kernel : decode prog_14_method_86_code 82 = .ok (.iload 5, 2)) rfl (by decide),
  zs_istore_n (i := 3) rfl hX (by decide +kernel : decode prog_14_method_86_code 84 = .ok (.istore_n 3, 1)) rfl (by decide),
  zs_iload hX (by decide +kernel : decode prog_14_method_86_code 85 = .ok (.iload 6, 2)) rfl (by decide),
  zs_istore hX (by decide +kernel : decode prog_14_method_86_code 87 = .ok (.istore 4, 2)) rfl (by decide),
  zs_iinc hX (by decide +kernel : decode prog_14_method_86_code 89 = .ok (.iinc 5 1, 3)) (by decide) rfl (by decide),
  zs_goto hX (by decide +kernel : decode prog_14_method_86_code 92 = .ok (.goto (-50), 3)) (by decide),
  zs_aload_n (i := 0) rfl hX (by decide +kernel : decode prog_14_method_86_code 95 = .ok (.aload_n 0, 1)) rfl (by decide),
  zs_getR hX zFL_12_114 (by decide +kernel : decode prog_14_method_86_code 96 = .ok (.getfield 114, 3)) rfl,
  zs_pushI (zg_bipush (by decide) hX (by decide +kernel : decode prog_14_method_86_code 99 = .ok (.bipush 10, 2)) rfl),
  zs_iload_n (i := 1) rfl hX (by decide +kernel : decode prog_14_method_86_code 101 = .ok (.iload_n 1, 1)) rfl (by decide),
  zs_ii (zg_iadd hX (by decide +kernel : decode prog_14_method_86_code 102 = .ok (.iadd, 1)) rfl),
  zs_iload_n (i := 2) rfl hX (by decide +kernel : decode prog_14_method_86_code 103 = .ok (.iload_n 2, 1)) rfl (by decide), trivial⟩
set_option maxRecDepth 20000 in
theorem s_X12_best_3 {l : Launch} {D : va_G} {ad : Nat → Nat → Nat} {cy : Nat → ClassId} {L : List (Nat × Nat)} (hcl : zclo L = true) (hinj : zAd ad L) {X : zCtx} (hX : zXok X "SoapTreatyModel" prog_14_method_86_code 7) (hR : zRt X (some .int)) (hl : zXl X l D ad cy L (zroom 7)) : zAllR (zSo X) p_X12_best_3 := ⟨zs_iast hX (by decide +kernel : decode prog_14_method_86_code 104 = .ok (.iastore, 1)) rfl,
  zs_iload_n (i := 3) rfl hX (by decide +kernel : decode prog_14_method_86_code 105 = .ok (.iload_n 3, 1)) rfl (by decide),
  zs_iret hX hR (by decide +kernel : decode prog_14_method_86_code 106 = .ok (.ireturn, 1)), trivial⟩
theorem k_X12_best {l : Launch} {D : va_G} {ad : Nat → Nat → Nat} {cy : Nat → ClassId} {L : List (Nat × Nat)} (hcl : zclo L = true) (hinj : zAd ad L) : zCk l D ad cy L 7 f_X12_best y_X12_best (.code y_X12_best prog_14_method_86_code 7 (some .int)) :=
  z_met (by decide) t_X12_best hcl hinj (fun X hX hR hl k => zgs_all (Q := zSo X) (c := [(33, p_X12_best_0), (65, p_X12_best_1), (104, p_X12_best_2), (107, p_X12_best_3)]) (fun _ => zs_bad) ⟨s_X12_best_0 hcl hinj hX hR hl, s_X12_best_1 hcl hinj hX hR hl, s_X12_best_2 hcl hinj hX hR hl, s_X12_best_3 hcl hinj hX hR hl, trivial⟩ k)
set_option maxRecDepth 1000000 in
theorem e_X12_best_0 (x1 : Int32) (h : zH) : zL p_X12_best 0 [some (.inr (.inr (12, 0))), some (.inl x1), none, none, none, none, none] [] h = zci (f_X12_isCake [(.inr (.inr (12, 0))), (.inl x1)] (zuI h 12 0 0 0)) (fun r2 h1 => zf (r2 = 0) (some (some (.inl zm1), h1)) (zci (f_X12_isThere [(.inr (.inr (12, 0))), (.inl x1)] h1) (fun r4 h3 => zf (r4 = 0) (some (some (.inl zm1), h3)) (zf (vp_in ((10 : Int32) + x1) 24) (zL p_X12_best 42 [some (.inr (.inr (12, 0))), some (.inl x1), some (.inl (h3.1 72 0 ((10 : Int32) + x1).toNatClampNeg)), some (.inl zm1), some (.inl 100), some (.inl 0), none] [] h3) none)))) := (zL_s (t_X12_best) [0, 42] 1000 0 _ _ _).trans rfl
theorem g_X12_best (x1 : Int32) (h : zH) : f_X12_best [(.inr (.inr (12, 0))), (.inl x1)] h = zci (f_X12_isCake [(.inr (.inr (12, 0))), (.inl x1)] (zuI h 12 0 0 0)) (fun r2 h1 => zf (r2 = 0) (some (some (.inl zm1), h1)) (zci (f_X12_isThere [(.inr (.inr (12, 0))), (.inl x1)] h1) (fun r4 h3 => zf (r4 = 0) (some (some (.inl zm1), h3)) (zf (vp_in ((10 : Int32) + x1) 24) (zL p_X12_best 42 [some (.inr (.inr (12, 0))), some (.inl x1), some (.inl (h3.1 72 0 ((10 : Int32) + x1).toNatClampNeg)), some (.inl zm1), some (.inl 100), some (.inl 0), none] [] h3) none)))) := (show f_X12_best _ h = zL p_X12_best 0 _ [] h from rfl).trans (e_X12_best_0 x1 h)
set_option maxRecDepth 1000000 in
theorem e_X12_best_42 (x1 : Int32) (x2 : Int32) (x3 : Int32) (x4 : Int32) (x5 : Int32) (o6 : Option zV) (h : zH) : zL p_X12_best 42 [some (.inr (.inr (12, 0))), some (.inl x1), some (.inl x2), some (.inl x3), some (.inl x4), some (.inl x5), o6] [] h = zf (x5 < (h.1 39 0 0)) (zf (vp_in ((10 : Int32) + x1) 24) (zci (f_X12_wornTo [(.inr (.inr (12, 0))), (.inl x1), (.inl 0)] (zuI h 72 0 ((10 : Int32) + x1).toNatClampNeg x5)) (fun r2 h1 => zf (r2 < x4) (zL p_X12_best 42 [some (.inr (.inr (12, 0))), some (.inl x1), some (.inl x2), some (.inl x5), some (.inl r2), some (.inl (x5 + 1)), some (.inl r2)] [] h1) (zL p_X12_best 42 [some (.inr (.inr (12, 0))), some (.inl x1), some (.inl x2), some (.inl x3), some (.inl x4), some (.inl (x5 + 1)), some (.inl r2)] [] h1))) none) (zf (vp_in ((10 : Int32) + x1) 24) (some (some (.inl x3), (zuI h 72 0 ((10 : Int32) + x1).toNatClampNeg x2))) none) := (zL_s (t_X12_best) [0, 42] 1000 42 _ _ _).trans rfl
/-! SoapTreatyModel.pressing(I)I -/
def y_X12_pressing : MethodName := ⟨"SoapTreatyModel", "pressing", "(I)I"⟩
noncomputable def p_X12_pressing_0 : List (Nat × zO) := [(0, zo_aload 0 1),
  (1, zo_push (.inl 0) 2),
  (2, zo_putI 12 0 5),
  (5, zo_iload 1 6),
  (6, zo_push (.inl 1) 7),
  (7, zo_push (.inl 200) 10),
  (10, zo_calli (f_X12_within) 3 13),
  (13, zo_0ne 18 16),
  (16, zo_push (.inl zm1) 17),
  (17, zo_iret),
  (18, zo_push (.inl zm1) 19),
  (19, zo_istore 2 20),
  (20, zo_push (.inl 0) 21),
  (21, zo_istore 3 22),
  (22, zo_kill [4, 5, 6] (zo_iload 3 23)),
  (23, zo_push (.inl 1) 24),
  (24, zo_aload 0 25),
  (25, zo_getR 12 39 none 28),
  (28, zo_push (.inl 1) 29),
  (29, zo_ialdc 30)]
noncomputable def p_X12_pressing_1 : List (Nat × zO) := [(30, zo_ii (fun x y => x <<< (y &&& 31)) 31),
  (31, zo_cge 149 34),
  (34, zo_iload 2 35),
  (35, zo_0lt 52 38),
  (38, zo_iload 3 39),
  (39, zo_calli (f_X12_bits) 1 42),
  (42, zo_iload 2 43),
  (43, zo_calli (f_X12_bits) 1 46),
  (46, zo_clt 52 49),
  (49, zo_goto 143),
  (52, zo_kill [4, 5, 6] (zo_aload 0 53)),
  (53, zo_getR 12 72 none 56),
  (56, zo_push (.inl 1) 57),
  (57, zo_ialdc 58),
  (58, zo_istore 4 60),
  (60, zo_push (.inl 1) 61),
  (61, zo_istore 5 63),
  (63, zo_push (.inl 0) 64),
  (64, zo_istore 6 66),
  (66, zo_iload 6 68)]
noncomputable def p_X12_pressing_2 : List (Nat × zO) := [(68, zo_aload 0 69),
  (69, zo_getR 12 39 none 72),
  (72, zo_push (.inl 1) 73),
  (73, zo_ialdc 74),
  (74, zo_cge 130 77),
  (77, zo_iload 3 78),
  (78, zo_iload 6 80),
  (80, zo_ii (fun x y => x >>> (y &&& 31)) 81),
  (81, zo_push (.inl 1) 82),
  (82, zo_ii (fun x y => x &&& y) 83),
  (83, zo_0ne 89 86),
  (86, zo_goto 124),
  (89, zo_iload 5 91),
  (91, zo_0eq 107 94),
  (94, zo_aload 0 95),
  (95, zo_iload 6 97),
  (97, zo_vir 12 2 (zo_calli (f_X12_canPress) 2 100)),
  (100, zo_0eq 107 103),
  (103, zo_push (.inl 1) 104),
  (104, zo_goto 108)]
noncomputable def p_X12_pressing_3 : List (Nat × zO) := [(107, zo_push (.inl 0) 108),
  (108, zo_kill [5] (zo_istore 5 110)),
  (110, zo_iload 4 112),
  (112, zo_aload 0 113),
  (113, zo_getR 12 72 none 116),
  (116, zo_push (.inl 3) 117),
  (117, zo_iload 6 119),
  (119, zo_ii (fun x y => x + y) 120),
  (120, zo_iald 121),
  (121, zo_ii (fun x y => x + y) 122),
  (122, zo_istore 4 124),
  (124, zo_iinc 6 1 127),
  (127, zo_goto 66),
  (130, zo_iload 5 132),
  (132, zo_0eq 143 135),
  (135, zo_iload 4 137),
  (137, zo_iload 1 138),
  (138, zo_clt 143 141),
  (141, zo_iload 3 142),
  (142, zo_istore 2 143)]
noncomputable def p_X12_pressing_4 : List (Nat × zO) := [(143, zo_iinc 3 1 146),
  (146, zo_goto 22),
  (149, zo_iload 2 150),
  (150, zo_iret)]
noncomputable def p_X12_pressing : Nat → zO := zgs [(30, p_X12_pressing_0), (67, p_X12_pressing_1), (105, p_X12_pressing_2), (143, p_X12_pressing_3), (151, p_X12_pressing_4)]
theorem t_X12_pressing : ∀ k, zTl (p_X12_pressing k) := fun k => zgs_all (c := [(30, p_X12_pressing_0), (67, p_X12_pressing_1), (105, p_X12_pressing_2), (143, p_X12_pressing_3), (151, p_X12_pressing_4)]) (fun _ => zl_bad) ⟨⟨zl_aload, zl_push, zl_putI, zl_iload, zl_push, zl_push, zl_calli, zl_0ne, zl_push, zl_iret, zl_push, zl_istore, zl_push, zl_istore, (zl_kill zl_iload), zl_push, zl_aload, zl_getR, zl_push, zl_ialdc, trivial⟩, ⟨zl_ii, zl_cge, zl_iload, zl_0lt, zl_iload, zl_calli, zl_iload, zl_calli, zl_clt, zl_goto, (zl_kill zl_aload), zl_getR, zl_push, zl_ialdc, zl_istore, zl_push, zl_istore, zl_push, zl_istore, zl_iload, trivial⟩, ⟨zl_aload, zl_getR, zl_push, zl_ialdc, zl_cge, zl_iload, zl_iload, zl_ii, zl_push, zl_ii, zl_0ne, zl_goto, zl_iload, zl_0eq, zl_aload, zl_iload, (zl_vir zl_calli), zl_0eq, zl_push, zl_goto, trivial⟩, ⟨zl_push, (zl_kill zl_istore), zl_iload, zl_aload, zl_getR, zl_push, zl_iload, zl_ii, zl_iald, zl_ii, zl_istore, zl_iinc, zl_goto, zl_iload, zl_0eq, zl_iload, zl_iload, zl_clt, zl_iload, zl_istore, trivial⟩, ⟨zl_iinc, zl_goto, zl_iload, zl_iret, trivial⟩, trivial⟩ k
noncomputable def f_X12_pressing : zS := zrun p_X12_pressing 7
set_option maxRecDepth 20000 in
theorem s_X12_pressing_0 {l : Launch} {D : va_G} {ad : Nat → Nat → Nat} {cy : Nat → ClassId} {L : List (Nat × Nat)} (hcl : zclo L = true) (hinj : zAd ad L) {X : zCtx} (hX : zXok X "SoapTreatyModel" prog_14_method_87_code 7) (hR : zRt X (some .int)) (hl : zXl X l D ad cy L (zroom 3)) : zAllR (zSo X) p_X12_pressing_0 := ⟨zs_aload_n (i := 0) rfl hX (by decide +kernel : decode prog_14_method_87_code 0 = .ok (.aload_n 0, 1)) rfl (by decide),
  zs_pushI (zg_iconst (by decide) hX (by decide +kernel : decode prog_14_method_87_code 1 = .ok (.iconst 0, 1)) rfl),
  zs_putI hX zFP_12_139 (by decide +kernel : decode prog_14_method_87_code 2 = .ok (.putfield 139, 3)) rfl,
  zs_iload_n (i := 1) rfl hX (by decide +kernel : decode prog_14_method_87_code 5 = .ok (.iload_n 1, 1)) rfl (by decide),
  zs_pushI (zg_iconst (by decide) hX (by decide +kernel : decode prog_14_method_87_code 6 = .ok (.iconst 1, 1)) rfl),
  zs_pushI (zg_sipush (by decide) hX (by decide +kernel : decode prog_14_method_87_code 7 = .ok (.sipush 200, 3)) rfl),
  zs_callSi hX zMS_12_265 (zXc_of hl (by decide) (k_X12_within hcl hinj)) (by decide +kernel : decode prog_14_method_87_code 10 = .ok (.invokestatic 265, 3)) rfl,
  zs_0ne hX (by decide +kernel : decode prog_14_method_87_code 13 = .ok (.ifCond .ne 5, 3)) (by decide) rfl,
  zs_pushI (zg_iconst (by decide) hX (by decide +kernel : decode prog_14_method_87_code 16 = .ok (.iconst (-1), 1)) rfl),
  zs_iret hX hR (by decide +kernel : decode prog_14_method_87_code 17 = .ok (.ireturn, 1)),
  zs_pushI (zg_iconst (by decide) hX (by decide +kernel : decode prog_14_method_87_code 18 = .ok (.iconst (-1), 1)) rfl),
  zs_istore_n (i := 2) rfl hX (by decide +kernel : decode prog_14_method_87_code 19 = .ok (.istore_n 2, 1)) rfl (by decide),
  zs_pushI (zg_iconst (by decide) hX (by decide +kernel : decode prog_14_method_87_code 20 = .ok (.iconst 0, 1)) rfl),
  zs_istore_n (i := 3) rfl hX (by decide +kernel : decode prog_14_method_87_code 21 = .ok (.istore_n 3, 1)) rfl (by decide),
  zs_kill hX (by decide) (zs_iload_n (i := 3) rfl hX (by decide +kernel : decode prog_14_method_87_code 22 = .ok (.iload_n 3, 1)) rfl (by decide)),
  zs_pushI (zg_iconst (by decide) hX (by decide +kernel : decode prog_14_method_87_code 23 = .ok (.iconst 1, 1)) rfl),
  zs_aload_n (i := 0) rfl hX (by decide +kernel : decode prog_14_method_87_code 24 = .ok (.aload_n 0, 1)) rfl (by decide),
  zs_getR hX zFL_12_13 (by decide +kernel : decode prog_14_method_87_code 25 = .ok (.getfield 13, 3)) rfl,
  zs_pushI (zg_iconst (by decide) hX (by decide +kernel : decode prog_14_method_87_code 28 = .ok (.iconst 1, 1)) rfl),
  zs_ialdc hX (by decide +kernel : decode prog_14_method_87_code 29 = .ok (.iaload, 1)) rfl, trivial⟩
set_option maxRecDepth 20000 in
theorem s_X12_pressing_1 {l : Launch} {D : va_G} {ad : Nat → Nat → Nat} {cy : Nat → ClassId} {L : List (Nat × Nat)} (hcl : zclo L = true) (hinj : zAd ad L) {X : zCtx} (hX : zXok X "SoapTreatyModel" prog_14_method_87_code 7) (hR : zRt X (some .int)) (hl : zXl X l D ad cy L (zroom 3)) : zAllR (zSo X) p_X12_pressing_1 := ⟨zs_ii (zg_ishl hX (by decide +kernel : decode prog_14_method_87_code 30 = .ok (.ishl, 1)) rfl),
  zs_cge hX (by decide +kernel : decode prog_14_method_87_code 31 = .ok (.if_icmp .ge 118, 3)) (by decide) rfl,
  zs_iload_n (i := 2) rfl hX (by decide +kernel : decode prog_14_method_87_code 34 = .ok (.iload_n 2, 1)) rfl (by decide),
  zs_0lt hX (by decide +kernel : decode prog_14_method_87_code 35 = .ok (.ifCond .lt 17, 3)) (by decide) rfl,
  zs_iload_n (i := 3) rfl hX (by decide +kernel : decode prog_14_method_87_code 38 = .ok (.iload_n 3, 1)) rfl (by decide),
  zs_callSi hX zMS_12_403 (zXc_of hl (by decide) (k_X12_bits hcl hinj)) (by decide +kernel : decode prog_14_method_87_code 39 = .ok (.invokestatic 403, 3)) rfl,
  zs_iload_n (i := 2) rfl hX (by decide +kernel : decode prog_14_method_87_code 42 = .ok (.iload_n 2, 1)) rfl (by decide),
  zs_callSi hX zMS_12_403 (zXc_of hl (by decide) (k_X12_bits hcl hinj)) (by decide +kernel : decode prog_14_method_87_code 43 = .ok (.invokestatic 403, 3)) rfl,
  zs_clt hX (by decide +kernel : decode prog_14_method_87_code 46 = .ok (.if_icmp .lt 6, 3)) (by decide) rfl,
  zs_goto hX (by decide +kernel : decode prog_14_method_87_code 49 = .ok (.goto 94, 3)) (by decide),
  zs_kill hX (by decide) (zs_aload_n (i := 0) rfl hX (by decide +kernel : decode prog_14_method_87_code 52 = .ok (.aload_n 0, 1)) rfl (by decide)),
  zs_getR hX zFL_12_114 (by decide +kernel : decode prog_14_method_87_code 53 = .ok (.getfield 114, 3)) rfl,
  zs_pushI (zg_iconst (by decide) hX (by decide +kernel : decode prog_14_method_87_code 56 = .ok (.iconst 1, 1)) rfl),
  zs_ialdc hX (by decide +kernel : decode prog_14_method_87_code 57 = .ok (.iaload, 1)) rfl,
  zs_istore hX (by decide +kernel : decode prog_14_method_87_code 58 = .ok (.istore 4, 2)) rfl (by decide),
  zs_pushI (zg_iconst (by decide) hX (by decide +kernel : decode prog_14_method_87_code 60 = .ok (.iconst 1, 1)) rfl),
  zs_istore hX (by decide +kernel : decode prog_14_method_87_code 61 = .ok (.istore 5, 2)) rfl (by decide),
  zs_pushI (zg_iconst (by decide) hX (by decide +kernel : decode prog_14_method_87_code 63 = .ok (.iconst 0, 1)) rfl),
  zs_istore hX (by decide +kernel : decode prog_14_method_87_code 64 = .ok (.istore 6, 2)) rfl (by decide),
  zs_iload hX (by decide +kernel : decode prog_14_method_87_code 66 = .ok (.iload 6, 2)) rfl (by decide), trivial⟩
set_option maxRecDepth 20000 in
theorem s_X12_pressing_2 {l : Launch} {D : va_G} {ad : Nat → Nat → Nat} {cy : Nat → ClassId} {L : List (Nat × Nat)} (hcl : zclo L = true) (hinj : zAd ad L) {X : zCtx} (hX : zXok X "SoapTreatyModel" prog_14_method_87_code 7) (hR : zRt X (some .int)) (hl : zXl X l D ad cy L (zroom 3)) : zAllR (zSo X) p_X12_pressing_2 := ⟨zs_aload_n (i := 0) rfl hX (by decide +kernel : decode prog_14_method_87_code 68 = .ok (.aload_n 0, 1)) rfl (by decide),
  zs_getR hX zFL_12_13 (by decide +kernel : decode prog_14_method_87_code 69 = .ok (.getfield 13, 3)) rfl,
  zs_pushI (zg_iconst (by decide) hX (by decide +kernel : decode prog_14_method_87_code 72 = .ok (.iconst 1, 1)) rfl),
  zs_ialdc hX (by decide +kernel : decode prog_14_method_87_code 73 = .ok (.iaload, 1)) rfl,
  zs_cge hX (by decide +kernel : decode prog_14_method_87_code 74 = .ok (.if_icmp .ge 56, 3)) (by decide) rfl,
  zs_iload_n (i := 3) rfl hX (by decide +kernel : decode prog_14_method_87_code 77 = .ok (.iload_n 3, 1)) rfl (by decide),
  zs_iload hX (by decide +kernel : decode prog_14_method_87_code 78 = .ok (.iload 6, 2)) rfl (by decide),
  zs_ii (zg_ishr hX (by decide +kernel : decode prog_14_method_87_code 80 = .ok (.ishr, 1)) rfl),
  zs_pushI (zg_iconst (by decide) hX (by decide +kernel : decode prog_14_method_87_code 81 = .ok (.iconst 1, 1)) rfl),
  zs_ii (zg_iand hX (by decide +kernel : decode prog_14_method_87_code 82 = .ok (.iand, 1)) rfl),
  zs_0ne hX (by decide +kernel : decode prog_14_method_87_code 83 = .ok (.ifCond .ne 6, 3)) (by decide) rfl,
  zs_goto hX (by decide +kernel : decode prog_14_method_87_code 86 = .ok (.goto 38, 3)) (by decide),
  zs_iload hX (by decide +kernel : decode prog_14_method_87_code 89 = .ok (.iload 5, 2)) rfl (by decide),
  zs_0eq hX (by decide +kernel : decode prog_14_method_87_code 91 = .ok (.ifCond .eq 16, 3)) (by decide) rfl,
  zs_aload_n (i := 0) rfl hX (by decide +kernel : decode prog_14_method_87_code 94 = .ok (.aload_n 0, 1)) rfl (by decide),
  zs_iload hX (by decide +kernel : decode prog_14_method_87_code 95 = .ok (.iload 6, 2)) rfl (by decide),
  zs_callVi hX zMV_12_437 (zXc_of hl (by decide) (k_X12_canPress hcl hinj)) (by decide +kernel : decode prog_14_method_87_code 97 = .ok (.invokevirtual 437, 3)) rfl,
  zs_0eq hX (by decide +kernel : decode prog_14_method_87_code 100 = .ok (.ifCond .eq 7, 3)) (by decide) rfl,
  zs_pushI (zg_iconst (by decide) hX (by decide +kernel : decode prog_14_method_87_code 103 = .ok (.iconst 1, 1)) rfl),
  zs_goto hX (by decide +kernel : decode prog_14_method_87_code 104 = .ok (.goto 4, 3)) (by decide), trivial⟩
set_option maxRecDepth 20000 in
theorem s_X12_pressing_3 {l : Launch} {D : va_G} {ad : Nat → Nat → Nat} {cy : Nat → ClassId} {L : List (Nat × Nat)} (hcl : zclo L = true) (hinj : zAd ad L) {X : zCtx} (hX : zXok X "SoapTreatyModel" prog_14_method_87_code 7) (hR : zRt X (some .int)) (hl : zXl X l D ad cy L (zroom 3)) : zAllR (zSo X) p_X12_pressing_3 := ⟨zs_pushI (zg_iconst (by decide) hX (by decide +kernel : decode prog_14_method_87_code 107 = .ok (.iconst 0, 1)) rfl),
  zs_kill hX (by decide) (zs_istore hX (by decide +kernel : decode prog_14_method_87_code 108 = .ok (.istore 5, 2)) rfl (by decide)),
  zs_iload hX (by decide +kernel : decode prog_14_method_87_code 110 = .ok (.iload 4, 2)) rfl (by decide),
  zs_aload_n (i := 0) rfl hX (by decide +kernel : decode prog_14_method_87_code 112 = .ok (.aload_n 0, 1)) rfl (by decide),
  zs_getR hX zFL_12_114 (by decide +kernel : decode prog_14_method_87_code 113 = .ok (.getfield 114, 3)) rfl,
  zs_pushI (zg_iconst (by decide) hX (by decide +kernel : decode prog_14_method_87_code 116 = .ok (.iconst 3, 1)) rfl),
  zs_iload hX (by decide +kernel : decode prog_14_method_87_code 117 = .ok (.iload 6, 2)) rfl (by decide),
  zs_ii (zg_iadd hX (by decide +kernel : decode prog_14_method_87_code 119 = .ok (.iadd, 1)) rfl),
  zs_iald hX (by decide +kernel : decode prog_14_method_87_code 120 = .ok (.iaload, 1)) rfl,
  zs_ii (zg_iadd hX (by decide +kernel : decode prog_14_method_87_code 121 = .ok (.iadd, 1)) rfl),
  zs_istore hX (by decide +kernel : decode prog_14_method_87_code 122 = .ok (.istore 4, 2)) rfl (by decide),
  zs_iinc hX (by decide +kernel : decode prog_14_method_87_code 124 = .ok (.iinc 6 1, 3)) (by decide) rfl (by decide),
  zs_goto hX (by decide +kernel : decode prog_14_method_87_code 127 = .ok (.goto (-61), 3)) (by decide),
  zs_iload hX (by decide +kernel : decode prog_14_method_87_code 130 = .ok (.iload 5, 2)) rfl (by decide),
  zs_0eq hX (by decide +kernel : decode prog_14_method_87_code 132 = .ok (.ifCond .eq 11, 3)) (by decide) rfl,
  zs_iload hX (by decide +kernel : decode prog_14_method_87_code 135 = .ok (.iload 4, 2)) rfl (by decide),
  zs_iload_n (i := 1) rfl hX (by decide +kernel : decode prog_14_method_87_code 137 = .ok (.iload_n 1, 1)) rfl (by decide),
  zs_clt hX (by decide +kernel : decode prog_14_method_87_code 138 = .ok (.if_icmp .lt 5, 3)) (by decide) rfl,
  zs_iload_n (i := 3) rfl hX (by decide +kernel : decode prog_14_method_87_code 141 = .ok (.iload_n 3, 1)) rfl (by decide),
  zs_istore_n (i := 2) rfl hX (by decide +kernel : decode prog_14_method_87_code 142 = .ok (.istore_n 2, 1)) rfl (by decide), trivial⟩
set_option maxRecDepth 20000 in
theorem s_X12_pressing_4 {l : Launch} {D : va_G} {ad : Nat → Nat → Nat} {cy : Nat → ClassId} {L : List (Nat × Nat)} (hcl : zclo L = true) (hinj : zAd ad L) {X : zCtx} (hX : zXok X "SoapTreatyModel" prog_14_method_87_code 7) (hR : zRt X (some .int)) (hl : zXl X l D ad cy L (zroom 3)) : zAllR (zSo X) p_X12_pressing_4 := ⟨zs_iinc hX (by decide +kernel : decode prog_14_method_87_code 143 = .ok (.iinc 3 1, 3)) (by decide) rfl (by decide),
  zs_goto hX (by decide +kernel : decode prog_14_method_87_code 146 = .ok (.goto (-124), 3)) (by decide),
  zs_iload_n (i := 2) rfl hX (by decide +kernel : decode prog_14_method_87_code 149 = .ok (.iload_n 2, 1)) rfl (by decide),
  zs_iret hX hR (by decide +kernel : decode prog_14_method_87_code 150 = .ok (.ireturn, 1)), trivial⟩
theorem k_X12_pressing {l : Launch} {D : va_G} {ad : Nat → Nat → Nat} {cy : Nat → ClassId} {L : List (Nat × Nat)} (hcl : zclo L = true) (hinj : zAd ad L) : zCk l D ad cy L 3 f_X12_pressing y_X12_pressing (.code y_X12_pressing prog_14_method_87_code 7 (some .int)) :=
  z_met (by decide) t_X12_pressing hcl hinj (fun X hX hR hl k => zgs_all (Q := zSo X) (c := [(30, p_X12_pressing_0), (67, p_X12_pressing_1), (105, p_X12_pressing_2), (143, p_X12_pressing_3), (151, p_X12_pressing_4)]) (fun _ => zs_bad) ⟨s_X12_pressing_0 hcl hinj hX hR hl, s_X12_pressing_1 hcl hinj hX hR hl, s_X12_pressing_2 hcl hinj hX hR hl, s_X12_pressing_3 hcl hinj hX hR hl, s_X12_pressing_4 hcl hinj hX hR hl, trivial⟩ k)
set_option maxRecDepth 1000000 in
theorem e_X12_pressing_0 (x1 : Int32) (h : zH) : zL p_X12_pressing 0 [some (.inr (.inr (12, 0))), some (.inl x1), none, none, none, none, none] [] h = zci (f_X12_within [(.inl x1), (.inl 1), (.inl 200)] (zuI h 12 0 0 0)) (fun r2 h1 => zf (r2 = 0) (some (some (.inl zm1), h1)) (zL p_X12_pressing 22 [some (.inr (.inr (12, 0))), some (.inl x1), some (.inl zm1), some (.inl 0), none, none, none] [] h1)) := (zL_s (t_X12_pressing) [0, 22, 52, 66, 108] 1000 0 _ _ _).trans rfl
theorem g_X12_pressing (x1 : Int32) (h : zH) : f_X12_pressing [(.inr (.inr (12, 0))), (.inl x1)] h = zci (f_X12_within [(.inl x1), (.inl 1), (.inl 200)] (zuI h 12 0 0 0)) (fun r2 h1 => zf (r2 = 0) (some (some (.inl zm1), h1)) (zL p_X12_pressing 22 [some (.inr (.inr (12, 0))), some (.inl x1), some (.inl zm1), some (.inl 0), none, none, none] [] h1)) := (show f_X12_pressing _ h = zL p_X12_pressing 0 _ [] h from rfl).trans (e_X12_pressing_0 x1 h)
set_option maxRecDepth 1000000 in
theorem e_X12_pressing_22 (x1 : Int32) (x2 : Int32) (x3 : Int32) (o4 : Option zV) (o5 : Option zV) (o6 : Option zV) (h : zH) : zL p_X12_pressing 22 [some (.inr (.inr (12, 0))), some (.inl x1), some (.inl x2), some (.inl x3), o4, o5, o6] [] h = zf (x3 < ((1 : Int32) <<< ((h.1 39 0 1) &&& 31))) (zf (x2 < 0) (zL p_X12_pressing 52 [some (.inr (.inr (12, 0))), some (.inl x1), some (.inl x2), some (.inl x3), none, none, none] [] h) (zci (f_X12_bits [(.inl x3)] h) (fun r2 h1 => zci (f_X12_bits [(.inl x2)] h1) (fun r4 h3 => zf (r2 < r4) (zL p_X12_pressing 52 [some (.inr (.inr (12, 0))), some (.inl x1), some (.inl x2), some (.inl x3), none, none, none] [] h3) (zL p_X12_pressing 22 [some (.inr (.inr (12, 0))), some (.inl x1), some (.inl x2), some (.inl (x3 + 1)), none, none, none] [] h3))))) (some (some (.inl x2), h)) := (zL_s (t_X12_pressing) [0, 22, 52, 66, 108] 1000 22 _ _ _).trans rfl
set_option maxRecDepth 1000000 in
theorem e_X12_pressing_52 (x1 : Int32) (x2 : Int32) (x3 : Int32) (o4 : Option zV) (o5 : Option zV) (o6 : Option zV) (h : zH) : zL p_X12_pressing 52 [some (.inr (.inr (12, 0))), some (.inl x1), some (.inl x2), some (.inl x3), o4, o5, o6] [] h = zL p_X12_pressing 66 [some (.inr (.inr (12, 0))), some (.inl x1), some (.inl x2), some (.inl x3), some (.inl (h.1 72 0 1)), some (.inl 1), some (.inl 0)] [] h := (zL_s (t_X12_pressing) [0, 22, 52, 66, 108] 1000 52 _ _ _).trans rfl
set_option maxRecDepth 1000000 in
theorem e_X12_pressing_66 (x1 : Int32) (x2 : Int32) (x3 : Int32) (x4 : Int32) (x5 : Int32) (x6 : Int32) (h : zH) : zL p_X12_pressing 66 [some (.inr (.inr (12, 0))), some (.inl x1), some (.inl x2), some (.inl x3), some (.inl x4), some (.inl x5), some (.inl x6)] [] h = zf (x6 < (h.1 39 0 1)) (zf (((x3 >>> (x6 &&& 31)) &&& (1 : Int32)) = 0) (zL p_X12_pressing 66 [some (.inr (.inr (12, 0))), some (.inl x1), some (.inl x2), some (.inl x3), some (.inl x4), some (.inl x5), some (.inl (x6 + 1))] [] h) (zf (x5 = 0) (zL p_X12_pressing 108 [some (.inr (.inr (12, 0))), some (.inl x1), some (.inl x2), some (.inl x3), some (.inl x4), some (.inl x5), some (.inl x6)] [(.inl 0)] h) (zci (f_X12_canPress [(.inr (.inr (12, 0))), (.inl x6)] h) (fun r2 h1 => zf (r2 = 0) (zL p_X12_pressing 108 [some (.inr (.inr (12, 0))), some (.inl x1), some (.inl x2), some (.inl x3), some (.inl x4), some (.inl x5), some (.inl x6)] [(.inl 0)] h1) (zL p_X12_pressing 108 [some (.inr (.inr (12, 0))), some (.inl x1), some (.inl x2), some (.inl x3), some (.inl x4), some (.inl x5), some (.inl x6)] [(.inl 1)] h1))))) (zf (x5 = 0) (zL p_X12_pressing 22 [some (.inr (.inr (12, 0))), some (.inl x1), some (.inl x2), some (.inl (x3 + 1)), some (.inl x4), some (.inl x5), some (.inl x6)] [] h) (zf (x4 < x1) (zL p_X12_pressing 22 [some (.inr (.inr (12, 0))), some (.inl x1), some (.inl x2), some (.inl (x3 + 1)), some (.inl x4), some (.inl x5), some (.inl x6)] [] h) (zL p_X12_pressing 22 [some (.inr (.inr (12, 0))), some (.inl x1), some (.inl x3), some (.inl (x3 + 1)), some (.inl x4), some (.inl x5), some (.inl x6)] [] h))) := (zL_s (t_X12_pressing) [0, 22, 52, 66, 108] 1000 66 _ _ _).trans rfl
set_option maxRecDepth 1000000 in
theorem e_X12_pressing_108 (x1 : Int32) (x2 : Int32) (x3 : Int32) (x4 : Int32) (o5 : Option zV) (x6 : Int32) (s0 : Int32) (h : zH) : zL p_X12_pressing 108 [some (.inr (.inr (12, 0))), some (.inl x1), some (.inl x2), some (.inl x3), some (.inl x4), o5, some (.inl x6)] [(.inl s0)] h = zf (vp_in ((3 : Int32) + x6) 24) (zL p_X12_pressing 66 [some (.inr (.inr (12, 0))), some (.inl x1), some (.inl x2), some (.inl x3), some (.inl (x4 + (h.1 72 0 ((3 : Int32) + x6).toNatClampNeg))), some (.inl s0), some (.inl (x6 + 1))] [] h) none := (zL_s (t_X12_pressing) [0, 22, 52, 66, 108] 1000 108 _ _ _).trans rfl
/-! SoapTreatyModel.peace()I -/
def y_X12_peace : MethodName := ⟨"SoapTreatyModel", "peace", "()I"⟩
noncomputable def p_X12_peace_0 : List (Nat × zO) := [(0, zo_aload 0 1),
  (1, zo_push (.inl 0) 2),
  (2, zo_putI 12 0 5),
  (5, zo_push (.inl 0) 6),
  (6, zo_istore 1 7),
  (7, zo_push (.inl 0) 8),
  (8, zo_istore 2 9),
  (9, zo_iload 2 10),
  (10, zo_aload 0 11),
  (11, zo_getR 12 39 none 14),
  (14, zo_push (.inl 1) 15),
  (15, zo_ialdc 16),
  (16, zo_cge 69 19),
  (19, zo_iload 1 20),
  (20, zo_aload 0 21),
  (21, zo_iload 2 22),
  (22, zo_vir 12 2 (zo_calli (f_X12_isThere) 2 25)),
  (25, zo_0eq 60 28),
  (28, zo_aload 0 29),
  (29, zo_iload 2 30)]
noncomputable def p_X12_peace_1 : List (Nat × zO) := [(30, zo_vir 12 2 (zo_calli (f_X12_hasHair) 2 33)),
  (33, zo_0eq 60 36),
  (36, zo_aload 0 37),
  (37, zo_getR 12 44 none 40),
  (40, zo_iload 2 41),
  (41, zo_iald 42),
  (42, zo_aload 0 43),
  (43, zo_getR 12 72 none 46),
  (46, zo_push (.inl 10) 48),
  (48, zo_iload 2 49),
  (49, zo_ii (fun x y => x + y) 50),
  (50, zo_iald 51),
  (51, zo_ceq 60 54),
  (54, zo_push (.inl 1) 55),
  (55, zo_iload 2 56),
  (56, zo_ii (fun x y => x <<< (y &&& 31)) 57),
  (57, zo_goto 61),
  (60, zo_push (.inl 0) 61),
  (61, zo_ii (fun x y => x ||| y) 62),
  (62, zo_istore 1 63)]
noncomputable def p_X12_peace_2 : List (Nat × zO) := [(63, zo_iinc 2 1 66),
  (66, zo_goto 9),
  (69, zo_iload 1 70),
  (70, zo_iret)]
noncomputable def p_X12_peace : Nat → zO := zgs [(30, p_X12_peace_0), (63, p_X12_peace_1), (71, p_X12_peace_2)]
theorem t_X12_peace : ∀ k, zTl (p_X12_peace k) := fun k => zgs_all (c := [(30, p_X12_peace_0), (63, p_X12_peace_1), (71, p_X12_peace_2)]) (fun _ => zl_bad) ⟨⟨zl_aload, zl_push, zl_putI, zl_push, zl_istore, zl_push, zl_istore, zl_iload, zl_aload, zl_getR, zl_push, zl_ialdc, zl_cge, zl_iload, zl_aload, zl_iload, (zl_vir zl_calli), zl_0eq, zl_aload, zl_iload, trivial⟩, ⟨(zl_vir zl_calli), zl_0eq, zl_aload, zl_getR, zl_iload, zl_iald, zl_aload, zl_getR, zl_push, zl_iload, zl_ii, zl_iald, zl_ceq, zl_push, zl_iload, zl_ii, zl_goto, zl_push, zl_ii, zl_istore, trivial⟩, ⟨zl_iinc, zl_goto, zl_iload, zl_iret, trivial⟩, trivial⟩ k
noncomputable def f_X12_peace : zS := zrun p_X12_peace 3
set_option maxRecDepth 20000 in
theorem s_X12_peace_0 {l : Launch} {D : va_G} {ad : Nat → Nat → Nat} {cy : Nat → ClassId} {L : List (Nat × Nat)} (hcl : zclo L = true) (hinj : zAd ad L) {X : zCtx} (hX : zXok X "SoapTreatyModel" prog_14_method_88_code 3) (hR : zRt X (some .int)) (hl : zXl X l D ad cy L (zroom 2)) : zAllR (zSo X) p_X12_peace_0 := ⟨zs_aload_n (i := 0) rfl hX (by decide +kernel : decode prog_14_method_88_code 0 = .ok (.aload_n 0, 1)) rfl (by decide),
  zs_pushI (zg_iconst (by decide) hX (by decide +kernel : decode prog_14_method_88_code 1 = .ok (.iconst 0, 1)) rfl),
  zs_putI hX zFP_12_139 (by decide +kernel : decode prog_14_method_88_code 2 = .ok (.putfield 139, 3)) rfl,
  zs_pushI (zg_iconst (by decide) hX (by decide +kernel : decode prog_14_method_88_code 5 = .ok (.iconst 0, 1)) rfl),
  zs_istore_n (i := 1) rfl hX (by decide +kernel : decode prog_14_method_88_code 6 = .ok (.istore_n 1, 1)) rfl (by decide),
  zs_pushI (zg_iconst (by decide) hX (by decide +kernel : decode prog_14_method_88_code 7 = .ok (.iconst 0, 1)) rfl),
  zs_istore_n (i := 2) rfl hX (by decide +kernel : decode prog_14_method_88_code 8 = .ok (.istore_n 2, 1)) rfl (by decide),
  zs_iload_n (i := 2) rfl hX (by decide +kernel : decode prog_14_method_88_code 9 = .ok (.iload_n 2, 1)) rfl (by decide),
  zs_aload_n (i := 0) rfl hX (by decide +kernel : decode prog_14_method_88_code 10 = .ok (.aload_n 0, 1)) rfl (by decide),
  zs_getR hX zFL_12_13 (by decide +kernel : decode prog_14_method_88_code 11 = .ok (.getfield 13, 3)) rfl,
  zs_pushI (zg_iconst (by decide) hX (by decide +kernel : decode prog_14_method_88_code 14 = .ok (.iconst 1, 1)) rfl),
  zs_ialdc hX (by decide +kernel : decode prog_14_method_88_code 15 = .ok (.iaload, 1)) rfl,
  zs_cge hX (by decide +kernel : decode prog_14_method_88_code 16 = .ok (.if_icmp .ge 53, 3)) (by decide) rfl,
  zs_iload_n (i := 1) rfl hX (by decide +kernel : decode prog_14_method_88_code 19 = .ok (.iload_n 1, 1)) rfl (by decide),
  zs_aload_n (i := 0) rfl hX (by decide +kernel : decode prog_14_method_88_code 20 = .ok (.aload_n 0, 1)) rfl (by decide),
  zs_iload_n (i := 2) rfl hX (by decide +kernel : decode prog_14_method_88_code 21 = .ok (.iload_n 2, 1)) rfl (by decide),
  zs_callVi hX zMV_12_360 (zXc_of hl (by decide) (k_X12_isThere hcl hinj)) (by decide +kernel : decode prog_14_method_88_code 22 = .ok (.invokevirtual 360, 3)) rfl,
  zs_0eq hX (by decide +kernel : decode prog_14_method_88_code 25 = .ok (.ifCond .eq 35, 3)) (by decide) rfl,
  zs_aload_n (i := 0) rfl hX (by decide +kernel : decode prog_14_method_88_code 28 = .ok (.aload_n 0, 1)) rfl (by decide),
  zs_iload_n (i := 2) rfl hX (by decide +kernel : decode prog_14_method_88_code 29 = .ok (.iload_n 2, 1)) rfl (by decide), trivial⟩
set_option maxRecDepth 20000 in
theorem s_X12_peace_1 {l : Launch} {D : va_G} {ad : Nat → Nat → Nat} {cy : Nat → ClassId} {L : List (Nat × Nat)} (hcl : zclo L = true) (hinj : zAd ad L) {X : zCtx} (hX : zXok X "SoapTreatyModel" prog_14_method_88_code 3) (hR : zRt X (some .int)) (hl : zXl X l D ad cy L (zroom 2)) : zAllR (zSo X) p_X12_peace_1 := ⟨zs_callVi hX zMV_12_363 (zXc_of hl (by decide) (k_X12_hasHair hcl hinj)) (by decide +kernel : decode prog_14_method_88_code 30 = .ok (.invokevirtual 363, 3)) rfl,
  zs_0eq hX (by decide +kernel : decode prog_14_method_88_code 33 = .ok (.ifCond .eq 27, 3)) (by decide) rfl,
  zs_aload_n (i := 0) rfl hX (by decide +kernel : decode prog_14_method_88_code 36 = .ok (.aload_n 0, 1)) rfl (by decide),
  zs_getR hX zFL_12_29 (by decide +kernel : decode prog_14_method_88_code 37 = .ok (.getfield 29, 3)) rfl,
  zs_iload_n (i := 2) rfl hX (by decide +kernel : decode prog_14_method_88_code 40 = .ok (.iload_n 2, 1)) rfl (by decide),
  zs_iald hX (by decide +kernel : decode prog_14_method_88_code 41 = .ok (.iaload, 1)) rfl,
  zs_aload_n (i := 0) rfl hX (by decide +kernel : decode prog_14_method_88_code 42 = .ok (.aload_n 0, 1)) rfl (by decide),
  zs_getR hX zFL_12_114 (by decide +kernel : decode prog_14_method_88_code 43 = .ok (.getfield 114, 3)) rfl,
  zs_pushI (zg_bipush (by decide) hX (by decide +kernel : decode prog_14_method_88_code 46 = .ok (.bipush 10, 2)) rfl),
  zs_iload_n (i := 2) rfl hX (by decide +kernel : decode prog_14_method_88_code 48 = .ok (.iload_n 2, 1)) rfl (by decide),
  zs_ii (zg_iadd hX (by decide +kernel : decode prog_14_method_88_code 49 = .ok (.iadd, 1)) rfl),
  zs_iald hX (by decide +kernel : decode prog_14_method_88_code 50 = .ok (.iaload, 1)) rfl,
  zs_ceq hX (by decide +kernel : decode prog_14_method_88_code 51 = .ok (.if_icmp .eq 9, 3)) (by decide) rfl,
  zs_pushI (zg_iconst (by decide) hX (by decide +kernel : decode prog_14_method_88_code 54 = .ok (.iconst 1, 1)) rfl),
  zs_iload_n (i := 2) rfl hX (by decide +kernel : decode prog_14_method_88_code 55 = .ok (.iload_n 2, 1)) rfl (by decide),
  zs_ii (zg_ishl hX (by decide +kernel : decode prog_14_method_88_code 56 = .ok (.ishl, 1)) rfl),
  zs_goto hX (by decide +kernel : decode prog_14_method_88_code 57 = .ok (.goto 4, 3)) (by decide),
  zs_pushI (zg_iconst (by decide) hX (by decide +kernel : decode prog_14_method_88_code 60 = .ok (.iconst 0, 1)) rfl),
  zs_ii (zg_ior hX (by decide +kernel : decode prog_14_method_88_code 61 = .ok (.ior, 1)) rfl),
  zs_istore_n (i := 1) rfl hX (by decide +kernel : decode prog_14_method_88_code 62 = .ok (.istore_n 1, 1)) rfl (by decide), trivial⟩
set_option maxRecDepth 20000 in
theorem s_X12_peace_2 {l : Launch} {D : va_G} {ad : Nat → Nat → Nat} {cy : Nat → ClassId} {L : List (Nat × Nat)} (hcl : zclo L = true) (hinj : zAd ad L) {X : zCtx} (hX : zXok X "SoapTreatyModel" prog_14_method_88_code 3) (hR : zRt X (some .int)) (hl : zXl X l D ad cy L (zroom 2)) : zAllR (zSo X) p_X12_peace_2 := ⟨zs_iinc hX (by decide +kernel : decode prog_14_method_88_code 63 = .ok (.iinc 2 1, 3)) (by decide) rfl (by decide),
  zs_goto hX (by decide +kernel : decode prog_14_method_88_code 66 = .ok (.goto (-57), 3)) (by decide),
  zs_iload_n (i := 1) rfl hX (by decide +kernel : decode prog_14_method_88_code 69 = .ok (.iload_n 1, 1)) rfl (by decide),
  zs_iret hX hR (by decide +kernel : decode prog_14_method_88_code 70 = .ok (.ireturn, 1)), trivial⟩
theorem k_X12_peace {l : Launch} {D : va_G} {ad : Nat → Nat → Nat} {cy : Nat → ClassId} {L : List (Nat × Nat)} (hcl : zclo L = true) (hinj : zAd ad L) : zCk l D ad cy L 2 f_X12_peace y_X12_peace (.code y_X12_peace prog_14_method_88_code 3 (some .int)) :=
  z_met (by decide) t_X12_peace hcl hinj (fun X hX hR hl k => zgs_all (Q := zSo X) (c := [(30, p_X12_peace_0), (63, p_X12_peace_1), (71, p_X12_peace_2)]) (fun _ => zs_bad) ⟨s_X12_peace_0 hcl hinj hX hR hl, s_X12_peace_1 hcl hinj hX hR hl, s_X12_peace_2 hcl hinj hX hR hl, trivial⟩ k)
set_option maxRecDepth 1000000 in
theorem e_X12_peace_0 (h : zH) : zL p_X12_peace 0 [some (.inr (.inr (12, 0))), none, none] [] h = zL p_X12_peace 9 [some (.inr (.inr (12, 0))), some (.inl 0), some (.inl 0)] [] (zuI h 12 0 0 0) := (zL_s (t_X12_peace) [0, 9] 1000 0 _ _ _).trans rfl
theorem g_X12_peace (h : zH) : f_X12_peace [(.inr (.inr (12, 0)))] h = zL p_X12_peace 9 [some (.inr (.inr (12, 0))), some (.inl 0), some (.inl 0)] [] (zuI h 12 0 0 0) := (show f_X12_peace _ h = zL p_X12_peace 0 _ [] h from rfl).trans (e_X12_peace_0 h)
set_option maxRecDepth 1000000 in
theorem e_X12_peace_9 (x1 : Int32) (x2 : Int32) (h : zH) : zL p_X12_peace 9 [some (.inr (.inr (12, 0))), some (.inl x1), some (.inl x2)] [] h = zf (x2 < (h.1 39 0 1)) (zci (f_X12_isThere [(.inr (.inr (12, 0))), (.inl x2)] h) (fun r2 h1 => zf (r2 = 0) (zL p_X12_peace 9 [some (.inr (.inr (12, 0))), some (.inl (x1 ||| (0 : Int32))), some (.inl (x2 + 1))] [] h1) (zci (f_X12_hasHair [(.inr (.inr (12, 0))), (.inl x2)] h1) (fun r4 h3 => zf (r4 = 0) (zL p_X12_peace 9 [some (.inr (.inr (12, 0))), some (.inl (x1 ||| (0 : Int32))), some (.inl (x2 + 1))] [] h3) (zf (vp_in x2 14) (zf (vp_in ((10 : Int32) + x2) 24) (zf ((h3.1 44 0 x2.toNatClampNeg) = (h3.1 72 0 ((10 : Int32) + x2).toNatClampNeg)) (zL p_X12_peace 9 [some (.inr (.inr (12, 0))), some (.inl (x1 ||| (0 : Int32))), some (.inl (x2 + 1))] [] h3) (zL p_X12_peace 9 [some (.inr (.inr (12, 0))), some (.inl (x1 ||| ((1 : Int32) <<< (x2 &&& 31)))), some (.inl (x2 + 1))] [] h3)) none) none))))) (some (some (.inl x1), h)) := (zL_s (t_X12_peace) [0, 9] 1000 9 _ _ _).trans rfl
theorem zMV_12_455 : zMV "SoapTreatyModel" 455 12 y_X12_pairsEarnest prog_14_method_66_code 3 (some .int) 0 := ⟨⟨zT_of 1733 (by decide +kernel) (by decide +kernel), zT_of 1735 (by decide +kernel) (by decide +kernel), zT_of 90 (by decide +kernel) (by decide +kernel), zT_of 118 (by decide +kernel) (by decide +kernel), zT_of 1736 (by decide +kernel) (by decide +kernel)⟩, by decide, rfl, ⟨zT12, 57, rfl⟩, by decide, by decide, by decide +kernel⟩
/-! SoapTreatyModel.pacts(I)I -/
def y_X12_pacts : MethodName := ⟨"SoapTreatyModel", "pacts", "(I)I"⟩
noncomputable def p_X12_pacts_0 : List (Nat × zO) := [(0, zo_aload 0 1),
  (1, zo_push (.inl 0) 2),
  (2, zo_putI 12 0 5),
  (5, zo_iload 1 6),
  (6, zo_push (.inl 0) 7),
  (7, zo_push (.inl 60) 9),
  (9, zo_calli (f_X12_within) 3 12),
  (12, zo_0ne 17 15),
  (15, zo_push (.inl zm1) 16),
  (16, zo_iret),
  (17, zo_aload 0 18),
  (18, zo_getR 12 72 none 21),
  (21, zo_push (.inl 0) 22),
  (22, zo_aload 0 23),
  (23, zo_getR 12 74 none 26),
  (26, zo_push (.inl 0) 27),
  (27, zo_callv (f_X12_copies) 4 30),
  (30, zo_push (.inl 0) 31),
  (31, zo_istore 2 32),
  (32, zo_iload 2 33)]
noncomputable def p_X12_pacts_1 : List (Nat × zO) := [(33, zo_iload 1 34),
  (34, zo_cge 48 37),
  (37, zo_aload 0 38),
  (38, zo_vir 12 1 (zo_calli (f_X12_passes) 1 41)),
  (41, zo_pop 42),
  (42, zo_iinc 2 1 45),
  (45, zo_goto 32),
  (48, zo_aload 0 49),
  (49, zo_vir 12 1 (zo_calli (f_X12_pairsEarnest) 1 52)),
  (52, zo_istore 2 53),
  (53, zo_aload 0 54),
  (54, zo_getR 12 74 none 57),
  (57, zo_push (.inl 0) 58),
  (58, zo_aload 0 59),
  (59, zo_getR 12 72 none 62),
  (62, zo_push (.inl 0) 63),
  (63, zo_callv (f_X12_copies) 4 66),
  (66, zo_iload 2 67),
  (67, zo_iret)]
noncomputable def p_X12_pacts : Nat → zO := zgs [(33, p_X12_pacts_0), (68, p_X12_pacts_1)]
theorem t_X12_pacts : ∀ k, zTl (p_X12_pacts k) := fun k => zgs_all (c := [(33, p_X12_pacts_0), (68, p_X12_pacts_1)]) (fun _ => zl_bad) ⟨⟨zl_aload, zl_push, zl_putI, zl_iload, zl_push, zl_push, zl_calli, zl_0ne, zl_push, zl_iret, zl_aload, zl_getR, zl_push, zl_aload, zl_getR, zl_push, zl_callv, zl_push, zl_istore, zl_iload, trivial⟩, ⟨zl_iload, zl_cge, zl_aload, (zl_vir zl_calli), zl_pop, zl_iinc, zl_goto, zl_aload, (zl_vir zl_calli), zl_istore, zl_aload, zl_getR, zl_push, zl_aload, zl_getR, zl_push, zl_callv, zl_iload, zl_iret, trivial⟩, trivial⟩ k
noncomputable def f_X12_pacts : zS := zrun p_X12_pacts 3
set_option maxRecDepth 20000 in
theorem s_X12_pacts_0 {l : Launch} {D : va_G} {ad : Nat → Nat → Nat} {cy : Nat → ClassId} {L : List (Nat × Nat)} (hcl : zclo L = true) (hinj : zAd ad L) {X : zCtx} (hX : zXok X "SoapTreatyModel" prog_14_method_89_code 3) (hR : zRt X (some .int)) (hl : zXl X l D ad cy L (zroom 6)) : zAllR (zSo X) p_X12_pacts_0 := ⟨zs_aload_n (i := 0) rfl hX (by decide +kernel : decode prog_14_method_89_code 0 = .ok (.aload_n 0, 1)) rfl (by decide),
  zs_pushI (zg_iconst (by decide) hX (by decide +kernel : decode prog_14_method_89_code 1 = .ok (.iconst 0, 1)) rfl),
  zs_putI hX zFP_12_139 (by decide +kernel : decode prog_14_method_89_code 2 = .ok (.putfield 139, 3)) rfl,
  zs_iload_n (i := 1) rfl hX (by decide +kernel : decode prog_14_method_89_code 5 = .ok (.iload_n 1, 1)) rfl (by decide),
  zs_pushI (zg_iconst (by decide) hX (by decide +kernel : decode prog_14_method_89_code 6 = .ok (.iconst 0, 1)) rfl),
  zs_pushI (zg_bipush (by decide) hX (by decide +kernel : decode prog_14_method_89_code 7 = .ok (.bipush 60, 2)) rfl),
  zs_callSi hX zMS_12_265 (zXc_of hl (by decide) (k_X12_within hcl hinj)) (by decide +kernel : decode prog_14_method_89_code 9 = .ok (.invokestatic 265, 3)) rfl,
  zs_0ne hX (by decide +kernel : decode prog_14_method_89_code 12 = .ok (.ifCond .ne 5, 3)) (by decide) rfl,
  zs_pushI (zg_iconst (by decide) hX (by decide +kernel : decode prog_14_method_89_code 15 = .ok (.iconst (-1), 1)) rfl),
  zs_iret hX hR (by decide +kernel : decode prog_14_method_89_code 16 = .ok (.ireturn, 1)),
  zs_aload_n (i := 0) rfl hX (by decide +kernel : decode prog_14_method_89_code 17 = .ok (.aload_n 0, 1)) rfl (by decide),
  zs_getR hX zFL_12_114 (by decide +kernel : decode prog_14_method_89_code 18 = .ok (.getfield 114, 3)) rfl,
  zs_pushI (zg_iconst (by decide) hX (by decide +kernel : decode prog_14_method_89_code 21 = .ok (.iconst 0, 1)) rfl),
  zs_aload_n (i := 0) rfl hX (by decide +kernel : decode prog_14_method_89_code 22 = .ok (.aload_n 0, 1)) rfl (by decide),
  zs_getR hX zFL_12_120 (by decide +kernel : decode prog_14_method_89_code 23 = .ok (.getfield 120, 3)) rfl,
  zs_pushI (zg_iconst (by decide) hX (by decide +kernel : decode prog_14_method_89_code 26 = .ok (.iconst 0, 1)) rfl),
  zs_callSv hX zMS_12_427 (zXc_of hl (by decide) (k_X12_copies hcl hinj)) (by decide +kernel : decode prog_14_method_89_code 27 = .ok (.invokestatic 427, 3)) rfl,
  zs_pushI (zg_iconst (by decide) hX (by decide +kernel : decode prog_14_method_89_code 30 = .ok (.iconst 0, 1)) rfl),
  zs_istore_n (i := 2) rfl hX (by decide +kernel : decode prog_14_method_89_code 31 = .ok (.istore_n 2, 1)) rfl (by decide),
  zs_iload_n (i := 2) rfl hX (by decide +kernel : decode prog_14_method_89_code 32 = .ok (.iload_n 2, 1)) rfl (by decide), trivial⟩
set_option maxRecDepth 20000 in
theorem s_X12_pacts_1 {l : Launch} {D : va_G} {ad : Nat → Nat → Nat} {cy : Nat → ClassId} {L : List (Nat × Nat)} (hcl : zclo L = true) (hinj : zAd ad L) {X : zCtx} (hX : zXok X "SoapTreatyModel" prog_14_method_89_code 3) (hR : zRt X (some .int)) (hl : zXl X l D ad cy L (zroom 6)) : zAllR (zSo X) p_X12_pacts_1 := ⟨zs_iload_n (i := 1) rfl hX (by decide +kernel : decode prog_14_method_89_code 33 = .ok (.iload_n 1, 1)) rfl (by decide),
  zs_cge hX (by decide +kernel : decode prog_14_method_89_code 34 = .ok (.if_icmp .ge 14, 3)) (by decide) rfl,
  zs_aload_n (i := 0) rfl hX (by decide +kernel : decode prog_14_method_89_code 37 = .ok (.aload_n 0, 1)) rfl (by decide),
  zs_callVi hX zMV_12_443 (zXc_of hl (by decide) (k_X12_passes hcl hinj)) (by decide +kernel : decode prog_14_method_89_code 38 = .ok (.invokevirtual 443, 3)) rfl,
  zs_pop_ (zg_pop hX (by decide +kernel : decode prog_14_method_89_code 41 = .ok (.pop, 1)) rfl),
  zs_iinc hX (by decide +kernel : decode prog_14_method_89_code 42 = .ok (.iinc 2 1, 3)) (by decide) rfl (by decide),
  zs_goto hX (by decide +kernel : decode prog_14_method_89_code 45 = .ok (.goto (-13), 3)) (by decide),
  zs_aload_n (i := 0) rfl hX (by decide +kernel : decode prog_14_method_89_code 48 = .ok (.aload_n 0, 1)) rfl (by decide),
  zs_callVi hX zMV_12_455 (zXc_of hl (by decide) (k_X12_pairsEarnest hcl hinj)) (by decide +kernel : decode prog_14_method_89_code 49 = .ok (.invokevirtual 455, 3)) rfl,
  zs_istore_n (i := 2) rfl hX (by decide +kernel : decode prog_14_method_89_code 52 = .ok (.istore_n 2, 1)) rfl (by decide),
  zs_aload_n (i := 0) rfl hX (by decide +kernel : decode prog_14_method_89_code 53 = .ok (.aload_n 0, 1)) rfl (by decide),
  zs_getR hX zFL_12_120 (by decide +kernel : decode prog_14_method_89_code 54 = .ok (.getfield 120, 3)) rfl,
  zs_pushI (zg_iconst (by decide) hX (by decide +kernel : decode prog_14_method_89_code 57 = .ok (.iconst 0, 1)) rfl),
  zs_aload_n (i := 0) rfl hX (by decide +kernel : decode prog_14_method_89_code 58 = .ok (.aload_n 0, 1)) rfl (by decide),
  zs_getR hX zFL_12_114 (by decide +kernel : decode prog_14_method_89_code 59 = .ok (.getfield 114, 3)) rfl,
  zs_pushI (zg_iconst (by decide) hX (by decide +kernel : decode prog_14_method_89_code 62 = .ok (.iconst 0, 1)) rfl),
  zs_callSv hX zMS_12_427 (zXc_of hl (by decide) (k_X12_copies hcl hinj)) (by decide +kernel : decode prog_14_method_89_code 63 = .ok (.invokestatic 427, 3)) rfl,
  zs_iload_n (i := 2) rfl hX (by decide +kernel : decode prog_14_method_89_code 66 = .ok (.iload_n 2, 1)) rfl (by decide),
  zs_iret hX hR (by decide +kernel : decode prog_14_method_89_code 67 = .ok (.ireturn, 1)), trivial⟩
theorem k_X12_pacts {l : Launch} {D : va_G} {ad : Nat → Nat → Nat} {cy : Nat → ClassId} {L : List (Nat × Nat)} (hcl : zclo L = true) (hinj : zAd ad L) : zCk l D ad cy L 6 f_X12_pacts y_X12_pacts (.code y_X12_pacts prog_14_method_89_code 3 (some .int)) :=
  z_met (by decide) t_X12_pacts hcl hinj (fun X hX hR hl k => zgs_all (Q := zSo X) (c := [(33, p_X12_pacts_0), (68, p_X12_pacts_1)]) (fun _ => zs_bad) ⟨s_X12_pacts_0 hcl hinj hX hR hl, s_X12_pacts_1 hcl hinj hX hR hl, trivial⟩ k)
set_option maxRecDepth 1000000 in
theorem e_X12_pacts_0 (x1 : Int32) (h : zH) : zL p_X12_pacts 0 [some (.inr (.inr (12, 0))), some (.inl x1), none] [] h = zci (f_X12_within [(.inl x1), (.inl 0), (.inl 60)] (zuI h 12 0 0 0)) (fun r2 h1 => zf (r2 = 0) (some (some (.inl zm1), h1)) (zcv (f_X12_copies [(.inr (.inr (72, 0))), (.inl 0), (.inr (.inr (74, 0))), (.inl 0)] h1) (fun h3 => zL p_X12_pacts 32 [some (.inr (.inr (12, 0))), some (.inl x1), some (.inl 0)] [] h3))) := (zL_s (t_X12_pacts) [0, 32] 1000 0 _ _ _).trans rfl
theorem g_X12_pacts (x1 : Int32) (h : zH) : f_X12_pacts [(.inr (.inr (12, 0))), (.inl x1)] h = zci (f_X12_within [(.inl x1), (.inl 0), (.inl 60)] (zuI h 12 0 0 0)) (fun r2 h1 => zf (r2 = 0) (some (some (.inl zm1), h1)) (zcv (f_X12_copies [(.inr (.inr (72, 0))), (.inl 0), (.inr (.inr (74, 0))), (.inl 0)] h1) (fun h3 => zL p_X12_pacts 32 [some (.inr (.inr (12, 0))), some (.inl x1), some (.inl 0)] [] h3))) := (show f_X12_pacts _ h = zL p_X12_pacts 0 _ [] h from rfl).trans (e_X12_pacts_0 x1 h)
set_option maxRecDepth 1000000 in
theorem e_X12_pacts_32 (x1 : Int32) (x2 : Int32) (h : zH) : zL p_X12_pacts 32 [some (.inr (.inr (12, 0))), some (.inl x1), some (.inl x2)] [] h = zf (x2 < x1) (zci (f_X12_passes [(.inr (.inr (12, 0)))] h) (fun r5 h4 => zL p_X12_pacts 32 [some (.inr (.inr (12, 0))), some (.inl x1), some (.inl (x2 + 1))] [] h4)) (zci (f_X12_pairsEarnest [(.inr (.inr (12, 0)))] h) (fun r2 h1 => zcv (f_X12_copies [(.inr (.inr (74, 0))), (.inl 0), (.inr (.inr (72, 0))), (.inl 0)] h1) (fun h3 => some (some (.inl r2), h3)))) := (zL_s (t_X12_pacts) [0, 32] 1000 32 _ _ _).trans rfl
/-! SoapTreatyModel.soonest()I -/
def y_X12_soonest : MethodName := ⟨"SoapTreatyModel", "soonest", "()I"⟩
noncomputable def p_X12_soonest_0 : List (Nat × zO) := [(0, zo_aload 0 1),
  (1, zo_push (.inl 0) 2),
  (2, zo_putI 12 0 5),
  (5, zo_aload 0 6),
  (6, zo_getR 12 72 none 9),
  (9, zo_push (.inl 0) 10),
  (10, zo_aload 0 11),
  (11, zo_getR 12 74 none 14),
  (14, zo_push (.inl 0) 15),
  (15, zo_callv (f_X12_copies) 4 18),
  (18, zo_push (.inl 0) 19),
  (19, zo_istore 1 20),
  (20, zo_push (.inl zm1) 21),
  (21, zo_istore 2 22),
  (22, zo_push (.inl 0) 23),
  (23, zo_istore 3 24),
  (24, zo_kill [4] (zo_iload 3 25)),
  (25, zo_push (.inl 60) 27),
  (27, zo_cgt 58 30),
  (30, zo_aload 0 31)]
noncomputable def p_X12_soonest_1 : List (Nat × zO) := [(31, zo_vir 12 1 (zo_calli (f_X12_pairsEarnest) 1 34)),
  (34, zo_istore 4 36),
  (36, zo_iload 4 38),
  (38, zo_iload 2 39),
  (39, zo_cle 47 42),
  (42, zo_iload 4 44),
  (44, zo_istore 2 45),
  (45, zo_iload 3 46),
  (46, zo_istore 1 47),
  (47, zo_aload 0 48),
  (48, zo_vir 12 1 (zo_calli (f_X12_passes) 1 51)),
  (51, zo_pop 52),
  (52, zo_iinc 3 1 55),
  (55, zo_goto 24),
  (58, zo_aload 0 59),
  (59, zo_getR 12 74 none 62),
  (62, zo_push (.inl 0) 63),
  (63, zo_aload 0 64),
  (64, zo_getR 12 72 none 67),
  (67, zo_push (.inl 0) 68)]
noncomputable def p_X12_soonest_2 : List (Nat × zO) := [(68, zo_callv (f_X12_copies) 4 71),
  (71, zo_iload 1 72),
  (72, zo_iret)]
noncomputable def p_X12_soonest : Nat → zO := zgs [(31, p_X12_soonest_0), (68, p_X12_soonest_1), (73, p_X12_soonest_2)]
theorem t_X12_soonest : ∀ k, zTl (p_X12_soonest k) := fun k => zgs_all (c := [(31, p_X12_soonest_0), (68, p_X12_soonest_1), (73, p_X12_soonest_2)]) (fun _ => zl_bad) ⟨⟨zl_aload, zl_push, zl_putI, zl_aload, zl_getR, zl_push, zl_aload, zl_getR, zl_push, zl_callv, zl_push, zl_istore, zl_push, zl_istore, zl_push, zl_istore, (zl_kill zl_iload), zl_push, zl_cgt, zl_aload, trivial⟩, ⟨(zl_vir zl_calli), zl_istore, zl_iload, zl_iload, zl_cle, zl_iload, zl_istore, zl_iload, zl_istore, zl_aload, (zl_vir zl_calli), zl_pop, zl_iinc, zl_goto, zl_aload, zl_getR, zl_push, zl_aload, zl_getR, zl_push, trivial⟩, ⟨zl_callv, zl_iload, zl_iret, trivial⟩, trivial⟩ k
noncomputable def f_X12_soonest : zS := zrun p_X12_soonest 5
set_option maxRecDepth 20000 in
theorem s_X12_soonest_0 {l : Launch} {D : va_G} {ad : Nat → Nat → Nat} {cy : Nat → ClassId} {L : List (Nat × Nat)} (hcl : zclo L = true) (hinj : zAd ad L) {X : zCtx} (hX : zXok X "SoapTreatyModel" prog_14_method_90_code 5) (hR : zRt X (some .int)) (hl : zXl X l D ad cy L (zroom 6)) : zAllR (zSo X) p_X12_soonest_0 := ⟨zs_aload_n (i := 0) rfl hX (by decide +kernel : decode prog_14_method_90_code 0 = .ok (.aload_n 0, 1)) rfl (by decide),
  zs_pushI (zg_iconst (by decide) hX (by decide +kernel : decode prog_14_method_90_code 1 = .ok (.iconst 0, 1)) rfl),
  zs_putI hX zFP_12_139 (by decide +kernel : decode prog_14_method_90_code 2 = .ok (.putfield 139, 3)) rfl,
  zs_aload_n (i := 0) rfl hX (by decide +kernel : decode prog_14_method_90_code 5 = .ok (.aload_n 0, 1)) rfl (by decide),
  zs_getR hX zFL_12_114 (by decide +kernel : decode prog_14_method_90_code 6 = .ok (.getfield 114, 3)) rfl,
  zs_pushI (zg_iconst (by decide) hX (by decide +kernel : decode prog_14_method_90_code 9 = .ok (.iconst 0, 1)) rfl),
  zs_aload_n (i := 0) rfl hX (by decide +kernel : decode prog_14_method_90_code 10 = .ok (.aload_n 0, 1)) rfl (by decide),
  zs_getR hX zFL_12_120 (by decide +kernel : decode prog_14_method_90_code 11 = .ok (.getfield 120, 3)) rfl,
  zs_pushI (zg_iconst (by decide) hX (by decide +kernel : decode prog_14_method_90_code 14 = .ok (.iconst 0, 1)) rfl),
  zs_callSv hX zMS_12_427 (zXc_of hl (by decide) (k_X12_copies hcl hinj)) (by decide +kernel : decode prog_14_method_90_code 15 = .ok (.invokestatic 427, 3)) rfl,
  zs_pushI (zg_iconst (by decide) hX (by decide +kernel : decode prog_14_method_90_code 18 = .ok (.iconst 0, 1)) rfl),
  zs_istore_n (i := 1) rfl hX (by decide +kernel : decode prog_14_method_90_code 19 = .ok (.istore_n 1, 1)) rfl (by decide),
  zs_pushI (zg_iconst (by decide) hX (by decide +kernel : decode prog_14_method_90_code 20 = .ok (.iconst (-1), 1)) rfl),
  zs_istore_n (i := 2) rfl hX (by decide +kernel : decode prog_14_method_90_code 21 = .ok (.istore_n 2, 1)) rfl (by decide),
  zs_pushI (zg_iconst (by decide) hX (by decide +kernel : decode prog_14_method_90_code 22 = .ok (.iconst 0, 1)) rfl),
  zs_istore_n (i := 3) rfl hX (by decide +kernel : decode prog_14_method_90_code 23 = .ok (.istore_n 3, 1)) rfl (by decide),
  zs_kill hX (by decide) (zs_iload_n (i := 3) rfl hX (by decide +kernel : decode prog_14_method_90_code 24 = .ok (.iload_n 3, 1)) rfl (by decide)),
  zs_pushI (zg_bipush (by decide) hX (by decide +kernel : decode prog_14_method_90_code 25 = .ok (.bipush 60, 2)) rfl),
  zs_cgt hX (by decide +kernel : decode prog_14_method_90_code 27 = .ok (.if_icmp .gt 31, 3)) (by decide) rfl,
  zs_aload_n (i := 0) rfl hX (by decide +kernel : decode prog_14_method_90_code 30 = .ok (.aload_n 0, 1)) rfl (by decide), trivial⟩
set_option maxRecDepth 20000 in
theorem s_X12_soonest_1 {l : Launch} {D : va_G} {ad : Nat → Nat → Nat} {cy : Nat → ClassId} {L : List (Nat × Nat)} (hcl : zclo L = true) (hinj : zAd ad L) {X : zCtx} (hX : zXok X "SoapTreatyModel" prog_14_method_90_code 5) (hR : zRt X (some .int)) (hl : zXl X l D ad cy L (zroom 6)) : zAllR (zSo X) p_X12_soonest_1 := ⟨zs_callVi hX zMV_12_455 (zXc_of hl (by decide) (k_X12_pairsEarnest hcl hinj)) (by decide +kernel : decode prog_14_method_90_code 31 = .ok (.invokevirtual 455, 3)) rfl,
  zs_istore hX (by decide +kernel : decode prog_14_method_90_code 34 = .ok (.istore 4, 2)) rfl (by decide),
  zs_iload hX (by decide +kernel : decode prog_14_method_90_code 36 = .ok (.iload 4, 2)) rfl (by decide),
  zs_iload_n (i := 2) rfl hX (by decide +kernel : decode prog_14_method_90_code 38 = .ok (.iload_n 2, 1)) rfl (by decide),
  zs_cle hX (by decide +kernel : decode prog_14_method_90_code 39 = .ok (.if_icmp .le 8, 3)) (by decide) rfl,
  zs_iload hX (by decide +kernel : decode prog_14_method_90_code 42 = .ok (.iload 4, 2)) rfl (by decide),
  zs_istore_n (i := 2) rfl hX (by decide +kernel : decode prog_14_method_90_code 44 = .ok (.istore_n 2, 1)) rfl (by decide),
  zs_iload_n (i := 3) rfl hX (by decide +kernel : decode prog_14_method_90_code 45 = .ok (.iload_n 3, 1)) rfl (by decide),
  zs_istore_n (i := 1) rfl hX (by decide +kernel : decode prog_14_method_90_code 46 = .ok (.istore_n 1, 1)) rfl (by decide),
  zs_aload_n (i := 0) rfl hX (by decide +kernel : decode prog_14_method_90_code 47 = .ok (.aload_n 0, 1)) rfl (by decide),
  zs_callVi hX zMV_12_443 (zXc_of hl (by decide) (k_X12_passes hcl hinj)) (by decide +kernel : decode prog_14_method_90_code 48 = .ok (.invokevirtual 443, 3)) rfl,
  zs_pop_ (zg_pop hX (by decide +kernel : decode prog_14_method_90_code 51 = .ok (.pop, 1)) rfl),
  zs_iinc hX (by decide +kernel : decode prog_14_method_90_code 52 = .ok (.iinc 3 1, 3)) (by decide) rfl (by decide),
  zs_goto hX (by decide +kernel : decode prog_14_method_90_code 55 = .ok (.goto (-31), 3)) (by decide),
  zs_aload_n (i := 0) rfl hX (by decide +kernel : decode prog_14_method_90_code 58 = .ok (.aload_n 0, 1)) rfl (by decide),
  zs_getR hX zFL_12_120 (by decide +kernel : decode prog_14_method_90_code 59 = .ok (.getfield 120, 3)) rfl,
  zs_pushI (zg_iconst (by decide) hX (by decide +kernel : decode prog_14_method_90_code 62 = .ok (.iconst 0, 1)) rfl),
  zs_aload_n (i := 0) rfl hX (by decide +kernel : decode prog_14_method_90_code 63 = .ok (.aload_n 0, 1)) rfl (by decide),
  zs_getR hX zFL_12_114 (by decide +kernel : decode prog_14_method_90_code 64 = .ok (.getfield 114, 3)) rfl,
  zs_pushI (zg_iconst (by decide) hX (by decide +kernel : decode prog_14_method_90_code 67 = .ok (.iconst 0, 1)) rfl), trivial⟩
set_option maxRecDepth 20000 in
theorem s_X12_soonest_2 {l : Launch} {D : va_G} {ad : Nat → Nat → Nat} {cy : Nat → ClassId} {L : List (Nat × Nat)} (hcl : zclo L = true) (hinj : zAd ad L) {X : zCtx} (hX : zXok X "SoapTreatyModel" prog_14_method_90_code 5) (hR : zRt X (some .int)) (hl : zXl X l D ad cy L (zroom 6)) : zAllR (zSo X) p_X12_soonest_2 := ⟨zs_callSv hX zMS_12_427 (zXc_of hl (by decide) (k_X12_copies hcl hinj)) (by decide +kernel : decode prog_14_method_90_code 68 = .ok (.invokestatic 427, 3)) rfl,
  zs_iload_n (i := 1) rfl hX (by decide +kernel : decode prog_14_method_90_code 71 = .ok (.iload_n 1, 1)) rfl (by decide),
  zs_iret hX hR (by decide +kernel : decode prog_14_method_90_code 72 = .ok (.ireturn, 1)), trivial⟩
theorem k_X12_soonest {l : Launch} {D : va_G} {ad : Nat → Nat → Nat} {cy : Nat → ClassId} {L : List (Nat × Nat)} (hcl : zclo L = true) (hinj : zAd ad L) : zCk l D ad cy L 6 f_X12_soonest y_X12_soonest (.code y_X12_soonest prog_14_method_90_code 5 (some .int)) :=
  z_met (by decide) t_X12_soonest hcl hinj (fun X hX hR hl k => zgs_all (Q := zSo X) (c := [(31, p_X12_soonest_0), (68, p_X12_soonest_1), (73, p_X12_soonest_2)]) (fun _ => zs_bad) ⟨s_X12_soonest_0 hcl hinj hX hR hl, s_X12_soonest_1 hcl hinj hX hR hl, s_X12_soonest_2 hcl hinj hX hR hl, trivial⟩ k)
set_option maxRecDepth 1000000 in
theorem e_X12_soonest_0 (h : zH) : zL p_X12_soonest 0 [some (.inr (.inr (12, 0))), none, none, none, none] [] h = zcv (f_X12_copies [(.inr (.inr (72, 0))), (.inl 0), (.inr (.inr (74, 0))), (.inl 0)] (zuI h 12 0 0 0)) (fun h1 => zL p_X12_soonest 24 [some (.inr (.inr (12, 0))), some (.inl 0), some (.inl zm1), some (.inl 0), none] [] h1) := (zL_s (t_X12_soonest) [0, 24] 1000 0 _ _ _).trans rfl
theorem g_X12_soonest (h : zH) : f_X12_soonest [(.inr (.inr (12, 0)))] h = zcv (f_X12_copies [(.inr (.inr (72, 0))), (.inl 0), (.inr (.inr (74, 0))), (.inl 0)] (zuI h 12 0 0 0)) (fun h1 => zL p_X12_soonest 24 [some (.inr (.inr (12, 0))), some (.inl 0), some (.inl zm1), some (.inl 0), none] [] h1) := (show f_X12_soonest _ h = zL p_X12_soonest 0 _ [] h from rfl).trans (e_X12_soonest_0 h)
set_option maxRecDepth 1000000 in
theorem e_X12_soonest_24 (x1 : Int32) (x2 : Int32) (x3 : Int32) (o4 : Option zV) (h : zH) : zL p_X12_soonest 24 [some (.inr (.inr (12, 0))), some (.inl x1), some (.inl x2), some (.inl x3), o4] [] h = zf (60 < x3) (zcv (f_X12_copies [(.inr (.inr (74, 0))), (.inl 0), (.inr (.inr (72, 0))), (.inl 0)] h) (fun h1 => some (some (.inl x1), h1))) (zci (f_X12_pairsEarnest [(.inr (.inr (12, 0)))] h) (fun r3 h2 => zf (x2 < r3) (zci (f_X12_passes [(.inr (.inr (12, 0)))] h2) (fun r7 h6 => zL p_X12_soonest 24 [some (.inr (.inr (12, 0))), some (.inl x3), some (.inl r3), some (.inl (x3 + 1)), some (.inl r3)] [] h6)) (zci (f_X12_passes [(.inr (.inr (12, 0)))] h2) (fun r5 h4 => zL p_X12_soonest 24 [some (.inr (.inr (12, 0))), some (.inl x1), some (.inl x2), some (.inl (x3 + 1)), some (.inl r3)] [] h4)))) := (zL_s (t_X12_soonest) [0, 24] 1000 24 _ _ _).trans rfl
/-! SoapTreatyModel.blocs()I -/
def y_X12_blocs : MethodName := ⟨"SoapTreatyModel", "blocs", "()I"⟩
noncomputable def p_X12_blocs_0 : List (Nat × zO) := [(0, zo_aload 0 1),
  (1, zo_push (.inl 0) 2),
  (2, zo_putI 12 0 5),
  (5, zo_push (.inl 0) 6),
  (6, zo_istore 1 7),
  (7, zo_push (.inl 0) 8),
  (8, zo_istore 2 9),
  (9, zo_push (.inl 0) 10),
  (10, zo_istore 3 11),
  (11, zo_iload 3 12),
  (12, zo_aload 0 13),
  (13, zo_getR 12 39 none 16),
  (16, zo_push (.inl 0) 17),
  (17, zo_ialdc 18),
  (18, zo_cge 51 21),
  (21, zo_iload 2 22),
  (22, zo_iload 1 23),
  (23, zo_iload 3 24),
  (24, zo_ii (fun x y => x >>> (y &&& 31)) 25),
  (25, zo_push (.inl 1) 26)]
noncomputable def p_X12_blocs_1 : List (Nat × zO) := [(26, zo_ii (fun x y => x &&& y) 27),
  (27, zo_0ne 34 30),
  (30, zo_push (.inl 1) 31),
  (31, zo_goto 35),
  (34, zo_push (.inl 0) 35),
  (35, zo_kill [2] (zo_ii (fun x y => x + y) 36)),
  (36, zo_istore 2 37),
  (37, zo_iload 1 38),
  (38, zo_aload 0 39),
  (39, zo_iload 3 40),
  (40, zo_vir 12 2 (zo_calli (f_X12_blocOf) 2 43)),
  (43, zo_ii (fun x y => x ||| y) 44),
  (44, zo_istore 1 45),
  (45, zo_iinc 3 1 48),
  (48, zo_goto 11),
  (51, zo_iload 2 52),
  (52, zo_iret)]
noncomputable def p_X12_blocs : Nat → zO := zgs [(26, p_X12_blocs_0), (53, p_X12_blocs_1)]
theorem t_X12_blocs : ∀ k, zTl (p_X12_blocs k) := fun k => zgs_all (c := [(26, p_X12_blocs_0), (53, p_X12_blocs_1)]) (fun _ => zl_bad) ⟨⟨zl_aload, zl_push, zl_putI, zl_push, zl_istore, zl_push, zl_istore, zl_push, zl_istore, zl_iload, zl_aload, zl_getR, zl_push, zl_ialdc, zl_cge, zl_iload, zl_iload, zl_iload, zl_ii, zl_push, trivial⟩, ⟨zl_ii, zl_0ne, zl_push, zl_goto, zl_push, (zl_kill zl_ii), zl_istore, zl_iload, zl_aload, zl_iload, (zl_vir zl_calli), zl_ii, zl_istore, zl_iinc, zl_goto, zl_iload, zl_iret, trivial⟩, trivial⟩ k
noncomputable def f_X12_blocs : zS := zrun p_X12_blocs 4
set_option maxRecDepth 20000 in
theorem s_X12_blocs_0 {l : Launch} {D : va_G} {ad : Nat → Nat → Nat} {cy : Nat → ClassId} {L : List (Nat × Nat)} (hcl : zclo L = true) (hinj : zAd ad L) {X : zCtx} (hX : zXok X "SoapTreatyModel" prog_14_method_91_code 4) (hR : zRt X (some .int)) (hl : zXl X l D ad cy L (zroom 6)) : zAllR (zSo X) p_X12_blocs_0 := ⟨zs_aload_n (i := 0) rfl hX (by decide +kernel : decode prog_14_method_91_code 0 = .ok (.aload_n 0, 1)) rfl (by decide),
  zs_pushI (zg_iconst (by decide) hX (by decide +kernel : decode prog_14_method_91_code 1 = .ok (.iconst 0, 1)) rfl),
  zs_putI hX zFP_12_139 (by decide +kernel : decode prog_14_method_91_code 2 = .ok (.putfield 139, 3)) rfl,
  zs_pushI (zg_iconst (by decide) hX (by decide +kernel : decode prog_14_method_91_code 5 = .ok (.iconst 0, 1)) rfl),
  zs_istore_n (i := 1) rfl hX (by decide +kernel : decode prog_14_method_91_code 6 = .ok (.istore_n 1, 1)) rfl (by decide),
  zs_pushI (zg_iconst (by decide) hX (by decide +kernel : decode prog_14_method_91_code 7 = .ok (.iconst 0, 1)) rfl),
  zs_istore_n (i := 2) rfl hX (by decide +kernel : decode prog_14_method_91_code 8 = .ok (.istore_n 2, 1)) rfl (by decide),
  zs_pushI (zg_iconst (by decide) hX (by decide +kernel : decode prog_14_method_91_code 9 = .ok (.iconst 0, 1)) rfl),
  zs_istore_n (i := 3) rfl hX (by decide +kernel : decode prog_14_method_91_code 10 = .ok (.istore_n 3, 1)) rfl (by decide),
  zs_iload_n (i := 3) rfl hX (by decide +kernel : decode prog_14_method_91_code 11 = .ok (.iload_n 3, 1)) rfl (by decide),
  zs_aload_n (i := 0) rfl hX (by decide +kernel : decode prog_14_method_91_code 12 = .ok (.aload_n 0, 1)) rfl (by decide),
  zs_getR hX zFL_12_13 (by decide +kernel : decode prog_14_method_91_code 13 = .ok (.getfield 13, 3)) rfl,
  zs_pushI (zg_iconst (by decide) hX (by decide +kernel : decode prog_14_method_91_code 16 = .ok (.iconst 0, 1)) rfl),
  zs_ialdc hX (by decide +kernel : decode prog_14_method_91_code 17 = .ok (.iaload, 1)) rfl,
  zs_cge hX (by decide +kernel : decode prog_14_method_91_code 18 = .ok (.if_icmp .ge 33, 3)) (by decide) rfl,
  zs_iload_n (i := 2) rfl hX (by decide +kernel : decode prog_14_method_91_code 21 = .ok (.iload_n 2, 1)) rfl (by decide),
  zs_iload_n (i := 1) rfl hX (by decide +kernel : decode prog_14_method_91_code 22 = .ok (.iload_n 1, 1)) rfl (by decide),
  zs_iload_n (i := 3) rfl hX (by decide +kernel : decode prog_14_method_91_code 23 = .ok (.iload_n 3, 1)) rfl (by decide),
  zs_ii (zg_ishr hX (by decide +kernel : decode prog_14_method_91_code 24 = .ok (.ishr, 1)) rfl),
  zs_pushI (zg_iconst (by decide) hX (by decide +kernel : decode prog_14_method_91_code 25 = .ok (.iconst 1, 1)) rfl), trivial⟩
set_option maxRecDepth 20000 in
theorem s_X12_blocs_1 {l : Launch} {D : va_G} {ad : Nat → Nat → Nat} {cy : Nat → ClassId} {L : List (Nat × Nat)} (hcl : zclo L = true) (hinj : zAd ad L) {X : zCtx} (hX : zXok X "SoapTreatyModel" prog_14_method_91_code 4) (hR : zRt X (some .int)) (hl : zXl X l D ad cy L (zroom 6)) : zAllR (zSo X) p_X12_blocs_1 := ⟨zs_ii (zg_iand hX (by decide +kernel : decode prog_14_method_91_code 26 = .ok (.iand, 1)) rfl),
  zs_0ne hX (by decide +kernel : decode prog_14_method_91_code 27 = .ok (.ifCond .ne 7, 3)) (by decide) rfl,
  zs_pushI (zg_iconst (by decide) hX (by decide +kernel : decode prog_14_method_91_code 30 = .ok (.iconst 1, 1)) rfl),
  zs_goto hX (by decide +kernel : decode prog_14_method_91_code 31 = .ok (.goto 4, 3)) (by decide),
  zs_pushI (zg_iconst (by decide) hX (by decide +kernel : decode prog_14_method_91_code 34 = .ok (.iconst 0, 1)) rfl),
  zs_kill hX (by decide) (zs_ii (zg_iadd hX (by decide +kernel : decode prog_14_method_91_code 35 = .ok (.iadd, 1)) rfl)),
  zs_istore_n (i := 2) rfl hX (by decide +kernel : decode prog_14_method_91_code 36 = .ok (.istore_n 2, 1)) rfl (by decide),
  zs_iload_n (i := 1) rfl hX (by decide +kernel : decode prog_14_method_91_code 37 = .ok (.iload_n 1, 1)) rfl (by decide),
  zs_aload_n (i := 0) rfl hX (by decide +kernel : decode prog_14_method_91_code 38 = .ok (.aload_n 0, 1)) rfl (by decide),
  zs_iload_n (i := 3) rfl hX (by decide +kernel : decode prog_14_method_91_code 39 = .ok (.iload_n 3, 1)) rfl (by decide),
  zs_callVi hX zMV_12_418 (zXc_of hl (by decide) (k_X12_blocOf hcl hinj)) (by decide +kernel : decode prog_14_method_91_code 40 = .ok (.invokevirtual 418, 3)) rfl,
  zs_ii (zg_ior hX (by decide +kernel : decode prog_14_method_91_code 43 = .ok (.ior, 1)) rfl),
  zs_istore_n (i := 1) rfl hX (by decide +kernel : decode prog_14_method_91_code 44 = .ok (.istore_n 1, 1)) rfl (by decide),
  zs_iinc hX (by decide +kernel : decode prog_14_method_91_code 45 = .ok (.iinc 3 1, 3)) (by decide) rfl (by decide),
  zs_goto hX (by decide +kernel : decode prog_14_method_91_code 48 = .ok (.goto (-37), 3)) (by decide),
  zs_iload_n (i := 2) rfl hX (by decide +kernel : decode prog_14_method_91_code 51 = .ok (.iload_n 2, 1)) rfl (by decide),
  zs_iret hX hR (by decide +kernel : decode prog_14_method_91_code 52 = .ok (.ireturn, 1)), trivial⟩
theorem k_X12_blocs {l : Launch} {D : va_G} {ad : Nat → Nat → Nat} {cy : Nat → ClassId} {L : List (Nat × Nat)} (hcl : zclo L = true) (hinj : zAd ad L) : zCk l D ad cy L 6 f_X12_blocs y_X12_blocs (.code y_X12_blocs prog_14_method_91_code 4 (some .int)) :=
  z_met (by decide) t_X12_blocs hcl hinj (fun X hX hR hl k => zgs_all (Q := zSo X) (c := [(26, p_X12_blocs_0), (53, p_X12_blocs_1)]) (fun _ => zs_bad) ⟨s_X12_blocs_0 hcl hinj hX hR hl, s_X12_blocs_1 hcl hinj hX hR hl, trivial⟩ k)
set_option maxRecDepth 1000000 in
theorem e_X12_blocs_0 (h : zH) : zL p_X12_blocs 0 [some (.inr (.inr (12, 0))), none, none, none] [] h = zL p_X12_blocs 11 [some (.inr (.inr (12, 0))), some (.inl 0), some (.inl 0), some (.inl 0)] [] (zuI h 12 0 0 0) := (zL_s (t_X12_blocs) [0, 11, 35] 1000 0 _ _ _).trans rfl
theorem g_X12_blocs (h : zH) : f_X12_blocs [(.inr (.inr (12, 0)))] h = zL p_X12_blocs 11 [some (.inr (.inr (12, 0))), some (.inl 0), some (.inl 0), some (.inl 0)] [] (zuI h 12 0 0 0) := (show f_X12_blocs _ h = zL p_X12_blocs 0 _ [] h from rfl).trans (e_X12_blocs_0 h)
set_option maxRecDepth 1000000 in
theorem e_X12_blocs_11 (x1 : Int32) (x2 : Int32) (x3 : Int32) (h : zH) : zL p_X12_blocs 11 [some (.inr (.inr (12, 0))), some (.inl x1), some (.inl x2), some (.inl x3)] [] h = zf (x3 < (h.1 39 0 0)) (zf (((x1 >>> (x3 &&& 31)) &&& (1 : Int32)) = 0) (zL p_X12_blocs 35 [some (.inr (.inr (12, 0))), some (.inl x1), some (.inl x2), some (.inl x3)] [(.inl 1), (.inl x2)] h) (zL p_X12_blocs 35 [some (.inr (.inr (12, 0))), some (.inl x1), some (.inl x2), some (.inl x3)] [(.inl 0), (.inl x2)] h)) (some (some (.inl x2), h)) := (zL_s (t_X12_blocs) [0, 11, 35] 1000 11 _ _ _).trans rfl
set_option maxRecDepth 1000000 in
theorem e_X12_blocs_35 (x1 : Int32) (o2 : Option zV) (x3 : Int32) (s0 : Int32) (s1 : Int32) (h : zH) : zL p_X12_blocs 35 [some (.inr (.inr (12, 0))), some (.inl x1), o2, some (.inl x3)] [(.inl s0), (.inl s1)] h = zci (f_X12_blocOf [(.inr (.inr (12, 0))), (.inl x3)] h) (fun r2 h1 => zL p_X12_blocs 11 [some (.inr (.inr (12, 0))), some (.inl (x1 ||| r2)), some (.inl (s1 + s0)), some (.inl (x3 + 1))] [] h1) := (zL_s (t_X12_blocs) [0, 11, 35] 1000 35 _ _ _).trans rfl
/-! SoapTreatyModel.devoted()I -/
def y_X12_devoted : MethodName := ⟨"SoapTreatyModel", "devoted", "()I"⟩
noncomputable def p_X12_devoted_0 : List (Nat × zO) := [(0, zo_aload 0 1),
  (1, zo_push (.inl 0) 2),
  (2, zo_putI 12 0 5),
  (5, zo_push (.inl zm1) 6),
  (6, zo_istore 1 7),
  (7, zo_push (.inl 0) 8),
  (8, zo_istore 2 9),
  (9, zo_push (.inl 0) 10),
  (10, zo_istore 3 11),
  (11, zo_iload 3 12),
  (12, zo_aload 0 13),
  (13, zo_getR 12 39 none 16),
  (16, zo_push (.inl 0) 17),
  (17, zo_ialdc 18),
  (18, zo_cge 47 21),
  (21, zo_aload 0 22),
  (22, zo_iload 3 23),
  (23, zo_vir 12 2 (zo_calli (f_X12_sliversOf) 2 26)),
  (26, zo_iload 2 27),
  (27, zo_cgt 33 30)]
noncomputable def p_X12_devoted_1 : List (Nat × zO) := [(30, zo_goto 41),
  (33, zo_iload 3 34),
  (34, zo_istore 1 35),
  (35, zo_aload 0 36),
  (36, zo_iload 3 37),
  (37, zo_vir 12 2 (zo_calli (f_X12_sliversOf) 2 40)),
  (40, zo_istore 2 41),
  (41, zo_iinc 3 1 44),
  (44, zo_goto 11),
  (47, zo_iload 1 48),
  (48, zo_iret)]
noncomputable def p_X12_devoted : Nat → zO := zgs [(28, p_X12_devoted_0), (49, p_X12_devoted_1)]
theorem t_X12_devoted : ∀ k, zTl (p_X12_devoted k) := fun k => zgs_all (c := [(28, p_X12_devoted_0), (49, p_X12_devoted_1)]) (fun _ => zl_bad) ⟨⟨zl_aload, zl_push, zl_putI, zl_push, zl_istore, zl_push, zl_istore, zl_push, zl_istore, zl_iload, zl_aload, zl_getR, zl_push, zl_ialdc, zl_cge, zl_aload, zl_iload, (zl_vir zl_calli), zl_iload, zl_cgt, trivial⟩, ⟨zl_goto, zl_iload, zl_istore, zl_aload, zl_iload, (zl_vir zl_calli), zl_istore, zl_iinc, zl_goto, zl_iload, zl_iret, trivial⟩, trivial⟩ k
noncomputable def f_X12_devoted : zS := zrun p_X12_devoted 4
set_option maxRecDepth 20000 in
theorem s_X12_devoted_0 {l : Launch} {D : va_G} {ad : Nat → Nat → Nat} {cy : Nat → ClassId} {L : List (Nat × Nat)} (hcl : zclo L = true) (hinj : zAd ad L) {X : zCtx} (hX : zXok X "SoapTreatyModel" prog_14_method_92_code 4) (hR : zRt X (some .int)) (hl : zXl X l D ad cy L (zroom 4)) : zAllR (zSo X) p_X12_devoted_0 := ⟨zs_aload_n (i := 0) rfl hX (by decide +kernel : decode prog_14_method_92_code 0 = .ok (.aload_n 0, 1)) rfl (by decide),
  zs_pushI (zg_iconst (by decide) hX (by decide +kernel : decode prog_14_method_92_code 1 = .ok (.iconst 0, 1)) rfl),
  zs_putI hX zFP_12_139 (by decide +kernel : decode prog_14_method_92_code 2 = .ok (.putfield 139, 3)) rfl,
  zs_pushI (zg_iconst (by decide) hX (by decide +kernel : decode prog_14_method_92_code 5 = .ok (.iconst (-1), 1)) rfl),
  zs_istore_n (i := 1) rfl hX (by decide +kernel : decode prog_14_method_92_code 6 = .ok (.istore_n 1, 1)) rfl (by decide),
  zs_pushI (zg_iconst (by decide) hX (by decide +kernel : decode prog_14_method_92_code 7 = .ok (.iconst 0, 1)) rfl),
  zs_istore_n (i := 2) rfl hX (by decide +kernel : decode prog_14_method_92_code 8 = .ok (.istore_n 2, 1)) rfl (by decide),
  zs_pushI (zg_iconst (by decide) hX (by decide +kernel : decode prog_14_method_92_code 9 = .ok (.iconst 0, 1)) rfl),
  zs_istore_n (i := 3) rfl hX (by decide +kernel : decode prog_14_method_92_code 10 = .ok (.istore_n 3, 1)) rfl (by decide),
  zs_iload_n (i := 3) rfl hX (by decide +kernel : decode prog_14_method_92_code 11 = .ok (.iload_n 3, 1)) rfl (by decide),
  zs_aload_n (i := 0) rfl hX (by decide +kernel : decode prog_14_method_92_code 12 = .ok (.aload_n 0, 1)) rfl (by decide),
  zs_getR hX zFL_12_13 (by decide +kernel : decode prog_14_method_92_code 13 = .ok (.getfield 13, 3)) rfl,
  zs_pushI (zg_iconst (by decide) hX (by decide +kernel : decode prog_14_method_92_code 16 = .ok (.iconst 0, 1)) rfl),
  zs_ialdc hX (by decide +kernel : decode prog_14_method_92_code 17 = .ok (.iaload, 1)) rfl,
  zs_cge hX (by decide +kernel : decode prog_14_method_92_code 18 = .ok (.if_icmp .ge 29, 3)) (by decide) rfl,
  zs_aload_n (i := 0) rfl hX (by decide +kernel : decode prog_14_method_92_code 21 = .ok (.aload_n 0, 1)) rfl (by decide),
  zs_iload_n (i := 3) rfl hX (by decide +kernel : decode prog_14_method_92_code 22 = .ok (.iload_n 3, 1)) rfl (by decide),
  zs_callVi hX zMV_12_412 (zXc_of hl (by decide) (k_X12_sliversOf hcl hinj)) (by decide +kernel : decode prog_14_method_92_code 23 = .ok (.invokevirtual 412, 3)) rfl,
  zs_iload_n (i := 2) rfl hX (by decide +kernel : decode prog_14_method_92_code 26 = .ok (.iload_n 2, 1)) rfl (by decide),
  zs_cgt hX (by decide +kernel : decode prog_14_method_92_code 27 = .ok (.if_icmp .gt 6, 3)) (by decide) rfl, trivial⟩
set_option maxRecDepth 20000 in
theorem s_X12_devoted_1 {l : Launch} {D : va_G} {ad : Nat → Nat → Nat} {cy : Nat → ClassId} {L : List (Nat × Nat)} (hcl : zclo L = true) (hinj : zAd ad L) {X : zCtx} (hX : zXok X "SoapTreatyModel" prog_14_method_92_code 4) (hR : zRt X (some .int)) (hl : zXl X l D ad cy L (zroom 4)) : zAllR (zSo X) p_X12_devoted_1 := ⟨zs_goto hX (by decide +kernel : decode prog_14_method_92_code 30 = .ok (.goto 11, 3)) (by decide),
  zs_iload_n (i := 3) rfl hX (by decide +kernel : decode prog_14_method_92_code 33 = .ok (.iload_n 3, 1)) rfl (by decide),
  zs_istore_n (i := 1) rfl hX (by decide +kernel : decode prog_14_method_92_code 34 = .ok (.istore_n 1, 1)) rfl (by decide),
  zs_aload_n (i := 0) rfl hX (by decide +kernel : decode prog_14_method_92_code 35 = .ok (.aload_n 0, 1)) rfl (by decide),
  zs_iload_n (i := 3) rfl hX (by decide +kernel : decode prog_14_method_92_code 36 = .ok (.iload_n 3, 1)) rfl (by decide),
  zs_callVi hX zMV_12_412 (zXc_of hl (by decide) (k_X12_sliversOf hcl hinj)) (by decide +kernel : decode prog_14_method_92_code 37 = .ok (.invokevirtual 412, 3)) rfl,
  zs_istore_n (i := 2) rfl hX (by decide +kernel : decode prog_14_method_92_code 40 = .ok (.istore_n 2, 1)) rfl (by decide),
  zs_iinc hX (by decide +kernel : decode prog_14_method_92_code 41 = .ok (.iinc 3 1, 3)) (by decide) rfl (by decide),
  zs_goto hX (by decide +kernel : decode prog_14_method_92_code 44 = .ok (.goto (-33), 3)) (by decide),
  zs_iload_n (i := 1) rfl hX (by decide +kernel : decode prog_14_method_92_code 47 = .ok (.iload_n 1, 1)) rfl (by decide),
  zs_iret hX hR (by decide +kernel : decode prog_14_method_92_code 48 = .ok (.ireturn, 1)), trivial⟩
theorem k_X12_devoted {l : Launch} {D : va_G} {ad : Nat → Nat → Nat} {cy : Nat → ClassId} {L : List (Nat × Nat)} (hcl : zclo L = true) (hinj : zAd ad L) : zCk l D ad cy L 4 f_X12_devoted y_X12_devoted (.code y_X12_devoted prog_14_method_92_code 4 (some .int)) :=
  z_met (by decide) t_X12_devoted hcl hinj (fun X hX hR hl k => zgs_all (Q := zSo X) (c := [(28, p_X12_devoted_0), (49, p_X12_devoted_1)]) (fun _ => zs_bad) ⟨s_X12_devoted_0 hcl hinj hX hR hl, s_X12_devoted_1 hcl hinj hX hR hl, trivial⟩ k)
set_option maxRecDepth 1000000 in
theorem e_X12_devoted_0 (h : zH) : zL p_X12_devoted 0 [some (.inr (.inr (12, 0))), none, none, none] [] h = zL p_X12_devoted 11 [some (.inr (.inr (12, 0))), some (.inl zm1), some (.inl 0), some (.inl 0)] [] (zuI h 12 0 0 0) := (zL_s (t_X12_devoted) [0, 11] 1000 0 _ _ _).trans rfl
theorem g_X12_devoted (h : zH) : f_X12_devoted [(.inr (.inr (12, 0)))] h = zL p_X12_devoted 11 [some (.inr (.inr (12, 0))), some (.inl zm1), some (.inl 0), some (.inl 0)] [] (zuI h 12 0 0 0) := (show f_X12_devoted _ h = zL p_X12_devoted 0 _ [] h from rfl).trans (e_X12_devoted_0 h)
set_option maxRecDepth 1000000 in
theorem e_X12_devoted_11 (x1 : Int32) (x2 : Int32) (x3 : Int32) (h : zH) : zL p_X12_devoted 11 [some (.inr (.inr (12, 0))), some (.inl x1), some (.inl x2), some (.inl x3)] [] h = zf (x3 < (h.1 39 0 0)) (zci (f_X12_sliversOf [(.inr (.inr (12, 0))), (.inl x3)] h) (fun r2 h1 => zf (x2 < r2) (zci (f_X12_sliversOf [(.inr (.inr (12, 0))), (.inl x3)] h1) (fun r4 h3 => zL p_X12_devoted 11 [some (.inr (.inr (12, 0))), some (.inl x3), some (.inl r4), some (.inl (x3 + 1))] [] h3)) (zL p_X12_devoted 11 [some (.inr (.inr (12, 0))), some (.inl x1), some (.inl x2), some (.inl (x3 + 1))] [] h1))) (some (some (.inl x1), h)) := (zL_s (t_X12_devoted) [0, 11] 1000 11 _ _ _).trans rfl
/-! SoapTreatyModel.mayDry()I -/
def y_X12_mayDry : MethodName := ⟨"SoapTreatyModel", "mayDry", "()I"⟩
noncomputable def p_X12_mayDry_0 : List (Nat × zO) := [(0, zo_push (.inl 0) 1),
  (1, zo_istore 1 2),
  (2, zo_push (.inl 0) 3),
  (3, zo_istore 2 4),
  (4, zo_iload 2 5),
  (5, zo_aload 0 6),
  (6, zo_getR 12 39 none 9),
  (9, zo_push (.inl 0) 10),
  (10, zo_ialdc 11),
  (11, zo_cge 40 14),
  (14, zo_iload 1 15),
  (15, zo_aload 0 16),
  (16, zo_getR 12 42 none 19),
  (19, zo_iload 2 20),
  (20, zo_iald 21),
  (21, zo_push (.inl 2) 22),
  (22, zo_ceq 31 25),
  (25, zo_push (.inl 1) 26),
  (26, zo_iload 2 27),
  (27, zo_ii (fun x y => x <<< (y &&& 31)) 28)]
noncomputable def p_X12_mayDry_1 : List (Nat × zO) := [(28, zo_goto 32),
  (31, zo_push (.inl 0) 32),
  (32, zo_ii (fun x y => x ||| y) 33),
  (33, zo_istore 1 34),
  (34, zo_iinc 2 1 37),
  (37, zo_goto 4),
  (40, zo_iload 1 41),
  (41, zo_iret)]
noncomputable def p_X12_mayDry : Nat → zO := zgs [(28, p_X12_mayDry_0), (42, p_X12_mayDry_1)]
theorem t_X12_mayDry : ∀ k, zTl (p_X12_mayDry k) := fun k => zgs_all (c := [(28, p_X12_mayDry_0), (42, p_X12_mayDry_1)]) (fun _ => zl_bad) ⟨⟨zl_push, zl_istore, zl_push, zl_istore, zl_iload, zl_aload, zl_getR, zl_push, zl_ialdc, zl_cge, zl_iload, zl_aload, zl_getR, zl_iload, zl_iald, zl_push, zl_ceq, zl_push, zl_iload, zl_ii, trivial⟩, ⟨zl_goto, zl_push, zl_ii, zl_istore, zl_iinc, zl_goto, zl_iload, zl_iret, trivial⟩, trivial⟩ k
noncomputable def f_X12_mayDry : zS := zrun p_X12_mayDry 3
set_option maxRecDepth 20000 in
theorem s_X12_mayDry_0 {l : Launch} {D : va_G} {ad : Nat → Nat → Nat} {cy : Nat → ClassId} {L : List (Nat × Nat)} (hcl : zclo L = true) (hinj : zAd ad L) {X : zCtx} (hX : zXok X "SoapTreatyModel" prog_14_method_93_code 3) (hR : zRt X (some .int)) (hl : zXl X l D ad cy L (zroom 1)) : zAllR (zSo X) p_X12_mayDry_0 := ⟨zs_pushI (zg_iconst (by decide) hX (by decide +kernel : decode prog_14_method_93_code 0 = .ok (.iconst 0, 1)) rfl),
  zs_istore_n (i := 1) rfl hX (by decide +kernel : decode prog_14_method_93_code 1 = .ok (.istore_n 1, 1)) rfl (by decide),
  zs_pushI (zg_iconst (by decide) hX (by decide +kernel : decode prog_14_method_93_code 2 = .ok (.iconst 0, 1)) rfl),
  zs_istore_n (i := 2) rfl hX (by decide +kernel : decode prog_14_method_93_code 3 = .ok (.istore_n 2, 1)) rfl (by decide),
  zs_iload_n (i := 2) rfl hX (by decide +kernel : decode prog_14_method_93_code 4 = .ok (.iload_n 2, 1)) rfl (by decide),
  zs_aload_n (i := 0) rfl hX (by decide +kernel : decode prog_14_method_93_code 5 = .ok (.aload_n 0, 1)) rfl (by decide),
  zs_getR hX zFL_12_13 (by decide +kernel : decode prog_14_method_93_code 6 = .ok (.getfield 13, 3)) rfl,
  zs_pushI (zg_iconst (by decide) hX (by decide +kernel : decode prog_14_method_93_code 9 = .ok (.iconst 0, 1)) rfl),
  zs_ialdc hX (by decide +kernel : decode prog_14_method_93_code 10 = .ok (.iaload, 1)) rfl,
  zs_cge hX (by decide +kernel : decode prog_14_method_93_code 11 = .ok (.if_icmp .ge 29, 3)) (by decide) rfl,
  zs_iload_n (i := 1) rfl hX (by decide +kernel : decode prog_14_method_93_code 14 = .ok (.iload_n 1, 1)) rfl (by decide),
  zs_aload_n (i := 0) rfl hX (by decide +kernel : decode prog_14_method_93_code 15 = .ok (.aload_n 0, 1)) rfl (by decide),
  zs_getR hX zFL_12_23 (by decide +kernel : decode prog_14_method_93_code 16 = .ok (.getfield 23, 3)) rfl,
  zs_iload_n (i := 2) rfl hX (by decide +kernel : decode prog_14_method_93_code 19 = .ok (.iload_n 2, 1)) rfl (by decide),
  zs_iald hX (by decide +kernel : decode prog_14_method_93_code 20 = .ok (.iaload, 1)) rfl,
  zs_pushI (zg_iconst (by decide) hX (by decide +kernel : decode prog_14_method_93_code 21 = .ok (.iconst 2, 1)) rfl),
  zs_ceq hX (by decide +kernel : decode prog_14_method_93_code 22 = .ok (.if_icmp .eq 9, 3)) (by decide) rfl,
  zs_pushI (zg_iconst (by decide) hX (by decide +kernel : decode prog_14_method_93_code 25 = .ok (.iconst 1, 1)) rfl),
  zs_iload_n (i := 2) rfl hX (by decide +kernel : decode prog_14_method_93_code 26 = .ok (.iload_n 2, 1)) rfl (by decide),
  zs_ii (zg_ishl hX (by decide +kernel : decode prog_14_method_93_code 27 = .ok (.ishl, 1)) rfl), trivial⟩
set_option maxRecDepth 20000 in
theorem s_X12_mayDry_1 {l : Launch} {D : va_G} {ad : Nat → Nat → Nat} {cy : Nat → ClassId} {L : List (Nat × Nat)} (hcl : zclo L = true) (hinj : zAd ad L) {X : zCtx} (hX : zXok X "SoapTreatyModel" prog_14_method_93_code 3) (hR : zRt X (some .int)) (hl : zXl X l D ad cy L (zroom 1)) : zAllR (zSo X) p_X12_mayDry_1 := ⟨zs_goto hX (by decide +kernel : decode prog_14_method_93_code 28 = .ok (.goto 4, 3)) (by decide),
  zs_pushI (zg_iconst (by decide) hX (by decide +kernel : decode prog_14_method_93_code 31 = .ok (.iconst 0, 1)) rfl),
  zs_ii (zg_ior hX (by decide +kernel : decode prog_14_method_93_code 32 = .ok (.ior, 1)) rfl),
  zs_istore_n (i := 1) rfl hX (by decide +kernel : decode prog_14_method_93_code 33 = .ok (.istore_n 1, 1)) rfl (by decide),
  zs_iinc hX (by decide +kernel : decode prog_14_method_93_code 34 = .ok (.iinc 2 1, 3)) (by decide) rfl (by decide),
  zs_goto hX (by decide +kernel : decode prog_14_method_93_code 37 = .ok (.goto (-33), 3)) (by decide),
  zs_iload_n (i := 1) rfl hX (by decide +kernel : decode prog_14_method_93_code 40 = .ok (.iload_n 1, 1)) rfl (by decide),
  zs_iret hX hR (by decide +kernel : decode prog_14_method_93_code 41 = .ok (.ireturn, 1)), trivial⟩
theorem k_X12_mayDry {l : Launch} {D : va_G} {ad : Nat → Nat → Nat} {cy : Nat → ClassId} {L : List (Nat × Nat)} (hcl : zclo L = true) (hinj : zAd ad L) : zCk l D ad cy L 1 f_X12_mayDry y_X12_mayDry (.code y_X12_mayDry prog_14_method_93_code 3 (some .int)) :=
  z_met (by decide) t_X12_mayDry hcl hinj (fun X hX hR hl k => zgs_all (Q := zSo X) (c := [(28, p_X12_mayDry_0), (42, p_X12_mayDry_1)]) (fun _ => zs_bad) ⟨s_X12_mayDry_0 hcl hinj hX hR hl, s_X12_mayDry_1 hcl hinj hX hR hl, trivial⟩ k)
set_option maxRecDepth 1000000 in
theorem e_X12_mayDry_0 (h : zH) : zL p_X12_mayDry 0 [some (.inr (.inr (12, 0))), none, none] [] h = zL p_X12_mayDry 4 [some (.inr (.inr (12, 0))), some (.inl 0), some (.inl 0)] [] h := (zL_s (t_X12_mayDry) [0, 4] 1000 0 _ _ _).trans rfl
theorem g_X12_mayDry (h : zH) : f_X12_mayDry [(.inr (.inr (12, 0)))] h = zL p_X12_mayDry 4 [some (.inr (.inr (12, 0))), some (.inl 0), some (.inl 0)] [] h := (show f_X12_mayDry _ h = zL p_X12_mayDry 0 _ [] h from rfl).trans (e_X12_mayDry_0 h)
set_option maxRecDepth 1000000 in
theorem e_X12_mayDry_4 (x1 : Int32) (x2 : Int32) (h : zH) : zL p_X12_mayDry 4 [some (.inr (.inr (12, 0))), some (.inl x1), some (.inl x2)] [] h = zf (x2 < (h.1 39 0 0)) (zf (vp_in x2 10) (zf ((h.1 42 0 x2.toNatClampNeg) = 2) (zL p_X12_mayDry 4 [some (.inr (.inr (12, 0))), some (.inl (x1 ||| (0 : Int32))), some (.inl (x2 + 1))] [] h) (zL p_X12_mayDry 4 [some (.inr (.inr (12, 0))), some (.inl (x1 ||| ((1 : Int32) <<< (x2 &&& 31)))), some (.inl (x2 + 1))] [] h)) none) (some (some (.inl x1), h)) := (zL_s (t_X12_mayDry) [0, 4] 1000 4 _ _ _).trans rfl
/-! SoapTreatyModel.laysThick(I)V -/
def y_X12_laysThick : MethodName := ⟨"SoapTreatyModel", "laysThick", "(I)V"⟩
noncomputable def p_X12_laysThick_0 : List (Nat × zO) := [(0, zo_aload 0 1),
  (1, zo_getR 12 72 none 4),
  (4, zo_push (.inl 0) 5),
  (5, zo_aload 0 6),
  (6, zo_getR 12 74 none 9),
  (9, zo_push (.inl 0) 10),
  (10, zo_callv (f_X12_copies) 4 13),
  (13, zo_push (.inl 0) 14),
  (14, zo_istore 2 15),
  (15, zo_kill [3, 4] (zo_iload 2 16)),
  (16, zo_iload 1 17),
  (17, zo_cgt 116 20),
  (20, zo_iload 2 21),
  (21, zo_iload 1 22),
  (22, zo_push (.inl zm1) 23),
  (23, zo_ii (fun x y => x ^^^ y) 24),
  (24, zo_ii (fun x y => x &&& y) 25),
  (25, zo_0eq 31 28),
  (28, zo_goto 110),
  (31, zo_aload 0 32)]
noncomputable def p_X12_laysThick_1 : List (Nat × zO) := [(32, zo_iload 2 33),
  (33, zo_putI 12 54 36),
  (36, zo_push (.inl 0) 37),
  (37, zo_istore 3 38),
  (38, zo_kill [4] (zo_iload 3 39)),
  (39, zo_push (.inl 21) 41),
  (41, zo_cge 97 44),
  (44, zo_push (.inl 0) 45),
  (45, zo_istore 4 47),
  (47, zo_iload 4 49),
  (49, zo_push (.inl 7) 51),
  (51, zo_cge 86 54),
  (54, zo_aload 0 55),
  (55, zo_getR 12 78 none 58),
  (58, zo_push (.inl 7) 60),
  (60, zo_push (.inl 21) 62),
  (62, zo_iload 2 63),
  (63, zo_ii (fun x y => x * y) 64),
  (64, zo_iload 3 65),
  (65, zo_ii (fun x y => x + y) 66)]
noncomputable def p_X12_laysThick_2 : List (Nat × zO) := [(66, zo_ii (fun x y => x * y) 67),
  (67, zo_iload 4 69),
  (69, zo_ii (fun x y => x + y) 70),
  (70, zo_aload 0 71),
  (71, zo_getR 12 72 none 74),
  (74, zo_push (.inl 3) 75),
  (75, zo_iload 4 77),
  (77, zo_ii (fun x y => x + y) 78),
  (78, zo_iald 79),
  (79, zo_iast 80),
  (80, zo_iinc 4 1 83),
  (83, zo_goto 47),
  (86, zo_aload 0 87),
  (87, zo_vir 12 1 (zo_calli (f_X12_passes) 1 90)),
  (90, zo_pop 91),
  (91, zo_iinc 3 1 94),
  (94, zo_goto 38),
  (97, zo_aload 0 98),
  (98, zo_getR 12 74 none 101),
  (101, zo_push (.inl 0) 102)]
noncomputable def p_X12_laysThick_3 : List (Nat × zO) := [(102, zo_aload 0 103),
  (103, zo_getR 12 72 none 106),
  (106, zo_push (.inl 0) 107),
  (107, zo_callv (f_X12_copies) 4 110),
  (110, zo_iinc 2 1 113),
  (113, zo_goto 15),
  (116, zo_aload 0 117),
  (117, zo_push (.inl 0) 118),
  (118, zo_putI 12 54 121),
  (121, zo_ret)]
noncomputable def p_X12_laysThick : Nat → zO := zgs [(32, p_X12_laysThick_0), (66, p_X12_laysThick_1), (102, p_X12_laysThick_2), (122, p_X12_laysThick_3)]
theorem t_X12_laysThick : ∀ k, zTl (p_X12_laysThick k) := fun k => zgs_all (c := [(32, p_X12_laysThick_0), (66, p_X12_laysThick_1), (102, p_X12_laysThick_2), (122, p_X12_laysThick_3)]) (fun _ => zl_bad) ⟨⟨zl_aload, zl_getR, zl_push, zl_aload, zl_getR, zl_push, zl_callv, zl_push, zl_istore, (zl_kill zl_iload), zl_iload, zl_cgt, zl_iload, zl_iload, zl_push, zl_ii, zl_ii, zl_0eq, zl_goto, zl_aload, trivial⟩, ⟨zl_iload, zl_putI, zl_push, zl_istore, (zl_kill zl_iload), zl_push, zl_cge, zl_push, zl_istore, zl_iload, zl_push, zl_cge, zl_aload, zl_getR, zl_push, zl_push, zl_iload, zl_ii, zl_iload, zl_ii, trivial⟩, ⟨zl_ii, zl_iload, zl_ii, zl_aload, zl_getR, zl_push, zl_iload, zl_ii, zl_iald, zl_iast, zl_iinc, zl_goto, zl_aload, (zl_vir zl_calli), zl_pop, zl_iinc, zl_goto, zl_aload, zl_getR, zl_push, trivial⟩, ⟨zl_aload, zl_getR, zl_push, zl_callv, zl_iinc, zl_goto, zl_aload, zl_push, zl_putI, zl_ret, trivial⟩, trivial⟩ k
noncomputable def f_X12_laysThick : zS := zrun p_X12_laysThick 5
set_option maxRecDepth 20000 in
theorem s_X12_laysThick_0 {l : Launch} {D : va_G} {ad : Nat → Nat → Nat} {cy : Nat → ClassId} {L : List (Nat × Nat)} (hcl : zclo L = true) (hinj : zAd ad L) {X : zCtx} (hX : zXok X "SoapTreatyModel" prog_14_method_94_code 5) (hR : zRt X none) (hl : zXl X l D ad cy L (zroom 6)) : zAllR (zSo X) p_X12_laysThick_0 := ⟨zs_aload_n (i := 0) rfl hX (by decide +kernel : decode prog_14_method_94_code 0 = .ok (.aload_n 0, 1)) rfl (by decide),
  zs_getR hX zFL_12_114 (by decide +kernel : decode prog_14_method_94_code 1 = .ok (.getfield 114, 3)) rfl,
  zs_pushI (zg_iconst (by decide) hX (by decide +kernel : decode prog_14_method_94_code 4 = .ok (.iconst 0, 1)) rfl),
  zs_aload_n (i := 0) rfl hX (by decide +kernel : decode prog_14_method_94_code 5 = .ok (.aload_n 0, 1)) rfl (by decide),
  zs_getR hX zFL_12_120 (by decide +kernel : decode prog_14_method_94_code 6 = .ok (.getfield 120, 3)) rfl,
  zs_pushI (zg_iconst (by decide) hX (by decide +kernel : decode prog_14_method_94_code 9 = .ok (.iconst 0, 1)) rfl),
  zs_callSv hX zMS_12_427 (zXc_of hl (by decide) (k_X12_copies hcl hinj)) (by decide +kernel : decode prog_14_method_94_code 10 = .ok (.invokestatic 427, 3)) rfl,
  zs_pushI (zg_iconst (by decide) hX (by decide +kernel : decode prog_14_method_94_code 13 = .ok (.iconst 0, 1)) rfl),
  zs_istore_n (i := 2) rfl hX (by decide +kernel : decode prog_14_method_94_code 14 = .ok (.istore_n 2, 1)) rfl (by decide),
  zs_kill hX (by decide) (zs_iload_n (i := 2) rfl hX (by decide +kernel : decode prog_14_method_94_code 15 = .ok (.iload_n 2, 1)) rfl (by decide)),
  zs_iload_n (i := 1) rfl hX (by decide +kernel : decode prog_14_method_94_code 16 = .ok (.iload_n 1, 1)) rfl (by decide),
  zs_cgt hX (by decide +kernel : decode prog_14_method_94_code 17 = .ok (.if_icmp .gt 99, 3)) (by decide) rfl,
  zs_iload_n (i := 2) rfl hX (by decide +kernel : decode prog_14_method_94_code 20 = .ok (.iload_n 2, 1)) rfl (by decide),
  zs_iload_n (i := 1) rfl hX (by decide +kernel : decode prog_14_method_94_code 21 = .ok (.iload_n 1, 1)) rfl (by decide),
  zs_pushI (zg_iconst (by decide) hX (by decide +kernel : decode prog_14_method_94_code 22 = .ok (.iconst (-1), 1)) rfl),
  zs_ii (zg_ixor hX (by decide +kernel : decode prog_14_method_94_code 23 = .ok (.ixor, 1)) rfl),
  zs_ii (zg_iand hX (by decide +kernel : decode prog_14_method_94_code 24 = .ok (.iand, 1)) rfl),
  zs_0eq hX (by decide +kernel : decode prog_14_method_94_code 25 = .ok (.ifCond .eq 6, 3)) (by decide) rfl,
  zs_goto hX (by decide +kernel : decode prog_14_method_94_code 28 = .ok (.goto 82, 3)) (by decide),
  zs_aload_n (i := 0) rfl hX (by decide +kernel : decode prog_14_method_94_code 31 = .ok (.aload_n 0, 1)) rfl (by decide), trivial⟩
set_option maxRecDepth 20000 in
theorem s_X12_laysThick_1 {l : Launch} {D : va_G} {ad : Nat → Nat → Nat} {cy : Nat → ClassId} {L : List (Nat × Nat)} (hcl : zclo L = true) (hinj : zAd ad L) {X : zCtx} (hX : zXok X "SoapTreatyModel" prog_14_method_94_code 5) (hR : zRt X none) (hl : zXl X l D ad cy L (zroom 6)) : zAllR (zSo X) p_X12_laysThick_1 := ⟨zs_iload_n (i := 2) rfl hX (by decide +kernel : decode prog_14_method_94_code 32 = .ok (.iload_n 2, 1)) rfl (by decide),
  zs_putI hX zFP_12_379 (by decide +kernel : decode prog_14_method_94_code 33 = .ok (.putfield 379, 3)) rfl,
  zs_pushI (zg_iconst (by decide) hX (by decide +kernel : decode prog_14_method_94_code 36 = .ok (.iconst 0, 1)) rfl),
  zs_istore_n (i := 3) rfl hX (by decide +kernel : decode prog_14_method_94_code 37 = .ok (.istore_n 3, 1)) rfl (by decide),
  zs_kill hX (by decide) (zs_iload_n (i := 3) rfl hX (by decide +kernel : decode prog_14_method_94_code 38 = .ok (.iload_n 3, 1)) rfl (by decide)),
  zs_pushI (zg_bipush (by decide) hX (by decide +kernel : decode prog_14_method_94_code 39 = .ok (.bipush 21, 2)) rfl),
  zs_cge hX (by decide +kernel : decode prog_14_method_94_code 41 = .ok (.if_icmp .ge 56, 3)) (by decide) rfl,
  zs_pushI (zg_iconst (by decide) hX (by decide +kernel : decode prog_14_method_94_code 44 = .ok (.iconst 0, 1)) rfl),
  zs_istore hX (by decide +kernel : decode prog_14_method_94_code 45 = .ok (.istore 4, 2)) rfl (by decide),
  zs_iload hX (by decide +kernel : decode prog_14_method_94_code 47 = .ok (.iload 4, 2)) rfl (by decide),
  zs_pushI (zg_bipush (by decide) hX (by decide +kernel : decode prog_14_method_94_code 49 = .ok (.bipush 7, 2)) rfl),
  zs_cge hX (by decide +kernel : decode prog_14_method_94_code 51 = .ok (.if_icmp .ge 35, 3)) (by decide) rfl,
  zs_aload_n (i := 0) rfl hX (by decide +kernel : decode prog_14_method_94_code 54 = .ok (.aload_n 0, 1)) rfl (by decide),
  zs_getR hX zFL_12_132 (by decide +kernel : decode prog_14_method_94_code 55 = .ok (.getfield 132, 3)) rfl,
  zs_pushI (zg_bipush (by decide) hX (by decide +kernel : decode prog_14_method_94_code 58 = .ok (.bipush 7, 2)) rfl),
  zs_pushI (zg_bipush (by decide) hX (by decide +kernel : decode prog_14_method_94_code 60 = .ok (.bipush 21, 2)) rfl),
  zs_iload_n (i := 2) rfl hX (by decide +kernel : decode prog_14_method_94_code 62 = .ok (.iload_n 2, 1)) rfl (by decide),
  zs_ii (zg_imul hX (by decide +kernel : decode prog_14_method_94_code 63 = .ok (.imul, 1)) rfl),
  zs_iload_n (i := 3) rfl hX (by decide +kernel : decode prog_14_method_94_code 64 = .ok (.iload_n 3, 1)) rfl (by decide),
  zs_ii (zg_iadd hX (by decide +kernel : decode prog_14_method_94_code 65 = .ok (.iadd, 1)) rfl), trivial⟩
set_option maxRecDepth 20000 in
theorem s_X12_laysThick_2 {l : Launch} {D : va_G} {ad : Nat → Nat → Nat} {cy : Nat → ClassId} {L : List (Nat × Nat)} (hcl : zclo L = true) (hinj : zAd ad L) {X : zCtx} (hX : zXok X "SoapTreatyModel" prog_14_method_94_code 5) (hR : zRt X none) (hl : zXl X l D ad cy L (zroom 6)) : zAllR (zSo X) p_X12_laysThick_2 := ⟨zs_ii (zg_imul hX (by decide +kernel : decode prog_14_method_94_code 66 = .ok (.imul, 1)) rfl),
  zs_iload hX (by decide +kernel : decode prog_14_method_94_code 67 = .ok (.iload 4, 2)) rfl (by decide),
  zs_ii (zg_iadd hX (by decide +kernel : decode prog_14_method_94_code 69 = .ok (.iadd, 1)) rfl),
  zs_aload_n (i := 0) rfl hX (by decide +kernel : decode prog_14_method_94_code 70 = .ok (.aload_n 0, 1)) rfl (by decide),
  zs_getR hX zFL_12_114 (by decide +kernel : decode prog_14_method_94_code 71 = .ok (.getfield 114, 3)) rfl,
  zs_pushI (zg_iconst (by decide) hX (by decide +kernel : decode prog_14_method_94_code 74 = .ok (.iconst 3, 1)) rfl),
  zs_iload hX (by decide +kernel : decode prog_14_method_94_code 75 = .ok (.iload 4, 2)) rfl (by decide),
  zs_ii (zg_iadd hX (by decide +kernel : decode prog_14_method_94_code 77 = .ok (.iadd, 1)) rfl),
  zs_iald hX (by decide +kernel : decode prog_14_method_94_code 78 = .ok (.iaload, 1)) rfl,
  zs_iast hX (by decide +kernel : decode prog_14_method_94_code 79 = .ok (.iastore, 1)) rfl,
  zs_iinc hX (by decide +kernel : decode prog_14_method_94_code 80 = .ok (.iinc 4 1, 3)) (by decide) rfl (by decide),
  zs_goto hX (by decide +kernel : decode prog_14_method_94_code 83 = .ok (.goto (-36), 3)) (by decide),
  zs_aload_n (i := 0) rfl hX (by decide +kernel : decode prog_14_method_94_code 86 = .ok (.aload_n 0, 1)) rfl (by decide),
  zs_callVi hX zMV_12_443 (zXc_of hl (by decide) (k_X12_passes hcl hinj)) (by decide +kernel : decode prog_14_method_94_code 87 = .ok (.invokevirtual 443, 3)) rfl,
  zs_pop_ (zg_pop hX (by decide +kernel : decode prog_14_method_94_code 90 = .ok (.pop, 1)) rfl),
  zs_iinc hX (by decide +kernel : decode prog_14_method_94_code 91 = .ok (.iinc 3 1, 3)) (by decide) rfl (by decide),
  zs_goto hX (by decide +kernel : decode prog_14_method_94_code 94 = .ok (.goto (-56), 3)) (by decide),
  zs_aload_n (i := 0) rfl hX (by decide +kernel : decode prog_14_method_94_code 97 = .ok (.aload_n 0, 1)) rfl (by decide),
  zs_getR hX zFL_12_120 (by decide +kernel : decode prog_14_method_94_code 98 = .ok (.getfield 120, 3)) rfl,
  zs_pushI (zg_iconst (by decide) hX (by decide +kernel : decode prog_14_method_94_code 101 = .ok (.iconst 0, 1)) rfl), trivial⟩
set_option maxRecDepth 20000 in
theorem s_X12_laysThick_3 {l : Launch} {D : va_G} {ad : Nat → Nat → Nat} {cy : Nat → ClassId} {L : List (Nat × Nat)} (hcl : zclo L = true) (hinj : zAd ad L) {X : zCtx} (hX : zXok X "SoapTreatyModel" prog_14_method_94_code 5) (hR : zRt X none) (hl : zXl X l D ad cy L (zroom 6)) : zAllR (zSo X) p_X12_laysThick_3 := ⟨zs_aload_n (i := 0) rfl hX (by decide +kernel : decode prog_14_method_94_code 102 = .ok (.aload_n 0, 1)) rfl (by decide),
  zs_getR hX zFL_12_114 (by decide +kernel : decode prog_14_method_94_code 103 = .ok (.getfield 114, 3)) rfl,
  zs_pushI (zg_iconst (by decide) hX (by decide +kernel : decode prog_14_method_94_code 106 = .ok (.iconst 0, 1)) rfl),
  zs_callSv hX zMS_12_427 (zXc_of hl (by decide) (k_X12_copies hcl hinj)) (by decide +kernel : decode prog_14_method_94_code 107 = .ok (.invokestatic 427, 3)) rfl,
  zs_iinc hX (by decide +kernel : decode prog_14_method_94_code 110 = .ok (.iinc 2 1, 3)) (by decide) rfl (by decide),
  zs_goto hX (by decide +kernel : decode prog_14_method_94_code 113 = .ok (.goto (-98), 3)) (by decide),
  zs_aload_n (i := 0) rfl hX (by decide +kernel : decode prog_14_method_94_code 116 = .ok (.aload_n 0, 1)) rfl (by decide),
  zs_pushI (zg_iconst (by decide) hX (by decide +kernel : decode prog_14_method_94_code 117 = .ok (.iconst 0, 1)) rfl),
  zs_putI hX zFP_12_379 (by decide +kernel : decode prog_14_method_94_code 118 = .ok (.putfield 379, 3)) rfl,
  zs_ret hX hR (by decide +kernel : decode prog_14_method_94_code 121 = .ok (.return_, 1)), trivial⟩
theorem k_X12_laysThick {l : Launch} {D : va_G} {ad : Nat → Nat → Nat} {cy : Nat → ClassId} {L : List (Nat × Nat)} (hcl : zclo L = true) (hinj : zAd ad L) : zCk l D ad cy L 6 f_X12_laysThick y_X12_laysThick (.code y_X12_laysThick prog_14_method_94_code 5 none) :=
  z_met (by decide) t_X12_laysThick hcl hinj (fun X hX hR hl k => zgs_all (Q := zSo X) (c := [(32, p_X12_laysThick_0), (66, p_X12_laysThick_1), (102, p_X12_laysThick_2), (122, p_X12_laysThick_3)]) (fun _ => zs_bad) ⟨s_X12_laysThick_0 hcl hinj hX hR hl, s_X12_laysThick_1 hcl hinj hX hR hl, s_X12_laysThick_2 hcl hinj hX hR hl, s_X12_laysThick_3 hcl hinj hX hR hl, trivial⟩ k)
set_option maxRecDepth 1000000 in
theorem e_X12_laysThick_0 (x1 : Int32) (h : zH) : zL p_X12_laysThick 0 [some (.inr (.inr (12, 0))), some (.inl x1), none, none, none] [] h = zcv (f_X12_copies [(.inr (.inr (72, 0))), (.inl 0), (.inr (.inr (74, 0))), (.inl 0)] h) (fun h1 => zL p_X12_laysThick 15 [some (.inr (.inr (12, 0))), some (.inl x1), some (.inl 0), none, none] [] h1) := (zL_s (t_X12_laysThick) [0, 15, 38, 47] 1000 0 _ _ _).trans rfl
theorem g_X12_laysThick (x1 : Int32) (h : zH) : f_X12_laysThick [(.inr (.inr (12, 0))), (.inl x1)] h = zcv (f_X12_copies [(.inr (.inr (72, 0))), (.inl 0), (.inr (.inr (74, 0))), (.inl 0)] h) (fun h1 => zL p_X12_laysThick 15 [some (.inr (.inr (12, 0))), some (.inl x1), some (.inl 0), none, none] [] h1) := (show f_X12_laysThick _ h = zL p_X12_laysThick 0 _ [] h from rfl).trans (e_X12_laysThick_0 x1 h)
set_option maxRecDepth 1000000 in
theorem e_X12_laysThick_15 (x1 : Int32) (x2 : Int32) (o3 : Option zV) (o4 : Option zV) (h : zH) : zL p_X12_laysThick 15 [some (.inr (.inr (12, 0))), some (.inl x1), some (.inl x2), o3, o4] [] h = zf (x1 < x2) (some (none, (zuI h 12 0 54 0))) (zf ((x2 &&& (x1 ^^^ zm1)) = 0) (zL p_X12_laysThick 38 [some (.inr (.inr (12, 0))), some (.inl x1), some (.inl x2), some (.inl 0), none] [] (zuI h 12 0 54 x2)) (zL p_X12_laysThick 15 [some (.inr (.inr (12, 0))), some (.inl x1), some (.inl (x2 + 1)), none, none] [] h)) := (zL_s (t_X12_laysThick) [0, 15, 38, 47] 1000 15 _ _ _).trans rfl
set_option maxRecDepth 1000000 in
theorem e_X12_laysThick_38 (x1 : Int32) (x2 : Int32) (x3 : Int32) (o4 : Option zV) (h : zH) : zL p_X12_laysThick 38 [some (.inr (.inr (12, 0))), some (.inl x1), some (.inl x2), some (.inl x3), o4] [] h = zf (x3 < 21) (zL p_X12_laysThick 47 [some (.inr (.inr (12, 0))), some (.inl x1), some (.inl x2), some (.inl x3), some (.inl 0)] [] h) (zcv (f_X12_copies [(.inr (.inr (74, 0))), (.inl 0), (.inr (.inr (72, 0))), (.inl 0)] h) (fun h1 => zL p_X12_laysThick 15 [some (.inr (.inr (12, 0))), some (.inl x1), some (.inl (x2 + 1)), some (.inl x3), none] [] h1)) := (zL_s (t_X12_laysThick) [0, 15, 38, 47] 1000 38 _ _ _).trans rfl
set_option maxRecDepth 1000000 in
theorem e_X12_laysThick_47 (x1 : Int32) (x2 : Int32) (x3 : Int32) (x4 : Int32) (h : zH) : zL p_X12_laysThick 47 [some (.inr (.inr (12, 0))), some (.inl x1), some (.inl x2), some (.inl x3), some (.inl x4)] [] h = zf (x4 < 7) (zf (vp_in ((3 : Int32) + x4) 24) (zf (vp_in (((7 : Int32) * (((21 : Int32) * x2) + x3)) + x4) 4704) (zL p_X12_laysThick 47 [some (.inr (.inr (12, 0))), some (.inl x1), some (.inl x2), some (.inl x3), some (.inl (x4 + 1))] [] (zuI h 78 0 (((7 : Int32) * (((21 : Int32) * x2) + x3)) + x4).toNatClampNeg (h.1 72 0 ((3 : Int32) + x4).toNatClampNeg))) none) none) (zci (f_X12_passes [(.inr (.inr (12, 0)))] h) (fun r2 h1 => zL p_X12_laysThick 38 [some (.inr (.inr (12, 0))), some (.inl x1), some (.inl x2), some (.inl (x3 + 1)), some (.inl x4)] [] h1)) := (zL_s (t_X12_laysThick) [0, 15, 38, 47] 1000 47 _ _ _).trans rfl
/-! SoapTreatyModel.see(III)Z -/
def y_X12_see : MethodName := ⟨"SoapTreatyModel", "see", "(III)Z"⟩
noncomputable def p_X12_see_0 : List (Nat × zO) := [(0, zo_aload 0 1),
  (1, zo_push (.inl 0) 2),
  (2, zo_putI 12 0 5),
  (5, zo_aload 0 6),
  (6, zo_iload 1 7),
  (7, zo_vir 12 2 (zo_calli (f_X12_isCake) 2 10)),
  (10, zo_0eq 44 13),
  (13, zo_iload 2 14),
  (14, zo_push (.inl 1) 15),
  (15, zo_push (.inl 20) 17),
  (17, zo_calli (f_X12_within) 3 20),
  (20, zo_0eq 44 23),
  (23, zo_iload 3 24),
  (24, zo_push (.inl 0) 25),
  (25, zo_push (.inl 40) 27),
  (27, zo_calli (f_X12_within) 3 30),
  (30, zo_0eq 44 33),
  (33, zo_aload 0 34),
  (34, zo_getR 12 68 none 37),
  (37, zo_push (.inl 0) 38)]
noncomputable def p_X12_see_1 : List (Nat × zO) := [(38, zo_ialdc 39),
  (39, zo_push (.inl 8) 41),
  (41, zo_cne 46 44),
  (44, zo_push (.inl 0) 45),
  (45, zo_zretc),
  (46, zo_aload 0 47),
  (47, zo_getR 12 69 none 50),
  (50, zo_aload 0 51),
  (51, zo_getR 12 68 none 54),
  (54, zo_push (.inl 0) 55),
  (55, zo_ialdc 56),
  (56, zo_iload 1 57),
  (57, zo_iast 58),
  (58, zo_aload 0 59),
  (59, zo_getR 12 70 none 62),
  (62, zo_aload 0 63),
  (63, zo_getR 12 68 none 66),
  (66, zo_push (.inl 0) 67),
  (67, zo_ialdc 68),
  (68, zo_iload 2 69)]
noncomputable def p_X12_see_2 : List (Nat × zO) := [(69, zo_iast 70),
  (70, zo_aload 0 71),
  (71, zo_getR 12 71 none 74),
  (74, zo_aload 0 75),
  (75, zo_getR 12 68 none 78),
  (78, zo_push (.inl 0) 79),
  (79, zo_ialdc 80),
  (80, zo_iload 3 81),
  (81, zo_iast 82),
  (82, zo_aload 0 83),
  (83, zo_getR 12 68 none 86),
  (86, zo_push (.inl 0) 87),
  (87, zo_dup2 88),
  (88, zo_ialdc 89),
  (89, zo_push (.inl 1) 90),
  (90, zo_ii (fun x y => x + y) 91),
  (91, zo_iastc 92),
  (92, zo_push (.inl 1) 93),
  (93, zo_zretc)]
noncomputable def p_X12_see : Nat → zO := zgs [(38, p_X12_see_0), (69, p_X12_see_1), (94, p_X12_see_2)]
theorem t_X12_see : ∀ k, zTl (p_X12_see k) := fun k => zgs_all (c := [(38, p_X12_see_0), (69, p_X12_see_1), (94, p_X12_see_2)]) (fun _ => zl_bad) ⟨⟨zl_aload, zl_push, zl_putI, zl_aload, zl_iload, (zl_vir zl_calli), zl_0eq, zl_iload, zl_push, zl_push, zl_calli, zl_0eq, zl_iload, zl_push, zl_push, zl_calli, zl_0eq, zl_aload, zl_getR, zl_push, trivial⟩, ⟨zl_ialdc, zl_push, zl_cne, zl_push, zl_zretc, zl_aload, zl_getR, zl_aload, zl_getR, zl_push, zl_ialdc, zl_iload, zl_iast, zl_aload, zl_getR, zl_aload, zl_getR, zl_push, zl_ialdc, zl_iload, trivial⟩, ⟨zl_iast, zl_aload, zl_getR, zl_aload, zl_getR, zl_push, zl_ialdc, zl_iload, zl_iast, zl_aload, zl_getR, zl_push, zl_dup2, zl_ialdc, zl_push, zl_ii, zl_iastc, zl_push, zl_zretc, trivial⟩, trivial⟩ k
noncomputable def f_X12_see : zS := zrun p_X12_see 4
set_option maxRecDepth 20000 in
theorem s_X12_see_0 {l : Launch} {D : va_G} {ad : Nat → Nat → Nat} {cy : Nat → ClassId} {L : List (Nat × Nat)} (hcl : zclo L = true) (hinj : zAd ad L) {X : zCtx} (hX : zXok X "SoapTreatyModel" prog_14_method_95_code 4) (hR : zRt X (some .boolean)) (hl : zXl X l D ad cy L (zroom 2)) : zAllR (zSo X) p_X12_see_0 := ⟨zs_aload_n (i := 0) rfl hX (by decide +kernel : decode prog_14_method_95_code 0 = .ok (.aload_n 0, 1)) rfl (by decide),
  zs_pushI (zg_iconst (by decide) hX (by decide +kernel : decode prog_14_method_95_code 1 = .ok (.iconst 0, 1)) rfl),
  zs_putI hX zFP_12_139 (by decide +kernel : decode prog_14_method_95_code 2 = .ok (.putfield 139, 3)) rfl,
  zs_aload_n (i := 0) rfl hX (by decide +kernel : decode prog_14_method_95_code 5 = .ok (.aload_n 0, 1)) rfl (by decide),
  zs_iload_n (i := 1) rfl hX (by decide +kernel : decode prog_14_method_95_code 6 = .ok (.iload_n 1, 1)) rfl (by decide),
  zs_callVi hX zMV_12_421 (zXc_of hl (by decide) (k_X12_isCake hcl hinj)) (by decide +kernel : decode prog_14_method_95_code 7 = .ok (.invokevirtual 421, 3)) rfl,
  zs_0eq hX (by decide +kernel : decode prog_14_method_95_code 10 = .ok (.ifCond .eq 34, 3)) (by decide) rfl,
  zs_iload_n (i := 2) rfl hX (by decide +kernel : decode prog_14_method_95_code 13 = .ok (.iload_n 2, 1)) rfl (by decide),
  zs_pushI (zg_iconst (by decide) hX (by decide +kernel : decode prog_14_method_95_code 14 = .ok (.iconst 1, 1)) rfl),
  zs_pushI (zg_bipush (by decide) hX (by decide +kernel : decode prog_14_method_95_code 15 = .ok (.bipush 20, 2)) rfl),
  zs_callSi hX zMS_12_265 (zXc_of hl (by decide) (k_X12_within hcl hinj)) (by decide +kernel : decode prog_14_method_95_code 17 = .ok (.invokestatic 265, 3)) rfl,
  zs_0eq hX (by decide +kernel : decode prog_14_method_95_code 20 = .ok (.ifCond .eq 24, 3)) (by decide) rfl,
  zs_iload_n (i := 3) rfl hX (by decide +kernel : decode prog_14_method_95_code 23 = .ok (.iload_n 3, 1)) rfl (by decide),
  zs_pushI (zg_iconst (by decide) hX (by decide +kernel : decode prog_14_method_95_code 24 = .ok (.iconst 0, 1)) rfl),
  zs_pushI (zg_bipush (by decide) hX (by decide +kernel : decode prog_14_method_95_code 25 = .ok (.bipush 40, 2)) rfl),
  zs_callSi hX zMS_12_265 (zXc_of hl (by decide) (k_X12_within hcl hinj)) (by decide +kernel : decode prog_14_method_95_code 27 = .ok (.invokestatic 265, 3)) rfl,
  zs_0eq hX (by decide +kernel : decode prog_14_method_95_code 30 = .ok (.ifCond .eq 14, 3)) (by decide) rfl,
  zs_aload_n (i := 0) rfl hX (by decide +kernel : decode prog_14_method_95_code 33 = .ok (.aload_n 0, 1)) rfl (by decide),
  zs_getR hX zFL_12_102 (by decide +kernel : decode prog_14_method_95_code 34 = .ok (.getfield 102, 3)) rfl,
  zs_pushI (zg_iconst (by decide) hX (by decide +kernel : decode prog_14_method_95_code 37 = .ok (.iconst 0, 1)) rfl), trivial⟩
set_option maxRecDepth 20000 in
theorem s_X12_see_1 {l : Launch} {D : va_G} {ad : Nat → Nat → Nat} {cy : Nat → ClassId} {L : List (Nat × Nat)} (hcl : zclo L = true) (hinj : zAd ad L) {X : zCtx} (hX : zXok X "SoapTreatyModel" prog_14_method_95_code 4) (hR : zRt X (some .boolean)) (hl : zXl X l D ad cy L (zroom 2)) : zAllR (zSo X) p_X12_see_1 := ⟨zs_ialdc hX (by decide +kernel : decode prog_14_method_95_code 38 = .ok (.iaload, 1)) rfl,
  zs_pushI (zg_bipush (by decide) hX (by decide +kernel : decode prog_14_method_95_code 39 = .ok (.bipush 8, 2)) rfl),
  zs_cne hX (by decide +kernel : decode prog_14_method_95_code 41 = .ok (.if_icmp .ne 5, 3)) (by decide) rfl,
  zs_pushI (zg_iconst (by decide) hX (by decide +kernel : decode prog_14_method_95_code 44 = .ok (.iconst 0, 1)) rfl),
  zs_zretc hX hR (by decide +kernel : decode prog_14_method_95_code 45 = .ok (.ireturn, 1)),
  zs_aload_n (i := 0) rfl hX (by decide +kernel : decode prog_14_method_95_code 46 = .ok (.aload_n 0, 1)) rfl (by decide),
  zs_getR hX zFL_12_105 (by decide +kernel : decode prog_14_method_95_code 47 = .ok (.getfield 105, 3)) rfl,
  zs_aload_n (i := 0) rfl hX (by decide +kernel : decode prog_14_method_95_code 50 = .ok (.aload_n 0, 1)) rfl (by decide),
  zs_getR hX zFL_12_102 (by decide +kernel : decode prog_14_method_95_code 51 = .ok (.getfield 102, 3)) rfl,
  zs_pushI (zg_iconst (by decide) hX (by decide +kernel : decode prog_14_method_95_code 54 = .ok (.iconst 0, 1)) rfl),
  zs_ialdc hX (by decide +kernel : decode prog_14_method_95_code 55 = .ok (.iaload, 1)) rfl,
  zs_iload_n (i := 1) rfl hX (by decide +kernel : decode prog_14_method_95_code 56 = .ok (.iload_n 1, 1)) rfl (by decide),
  zs_iast hX (by decide +kernel : decode prog_14_method_95_code 57 = .ok (.iastore, 1)) rfl,
  zs_aload_n (i := 0) rfl hX (by decide +kernel : decode prog_14_method_95_code 58 = .ok (.aload_n 0, 1)) rfl (by decide),
  zs_getR hX zFL_12_108 (by decide +kernel : decode prog_14_method_95_code 59 = .ok (.getfield 108, 3)) rfl,
  zs_aload_n (i := 0) rfl hX (by decide +kernel : decode prog_14_method_95_code 62 = .ok (.aload_n 0, 1)) rfl (by decide),
  zs_getR hX zFL_12_102 (by decide +kernel : decode prog_14_method_95_code 63 = .ok (.getfield 102, 3)) rfl,
  zs_pushI (zg_iconst (by decide) hX (by decide +kernel : decode prog_14_method_95_code 66 = .ok (.iconst 0, 1)) rfl),
  zs_ialdc hX (by decide +kernel : decode prog_14_method_95_code 67 = .ok (.iaload, 1)) rfl,
  zs_iload_n (i := 2) rfl hX (by decide +kernel : decode prog_14_method_95_code 68 = .ok (.iload_n 2, 1)) rfl (by decide), trivial⟩
set_option maxRecDepth 20000 in
theorem s_X12_see_2 {l : Launch} {D : va_G} {ad : Nat → Nat → Nat} {cy : Nat → ClassId} {L : List (Nat × Nat)} (hcl : zclo L = true) (hinj : zAd ad L) {X : zCtx} (hX : zXok X "SoapTreatyModel" prog_14_method_95_code 4) (hR : zRt X (some .boolean)) (hl : zXl X l D ad cy L (zroom 2)) : zAllR (zSo X) p_X12_see_2 := ⟨zs_iast hX (by decide +kernel : decode prog_14_method_95_code 69 = .ok (.iastore, 1)) rfl,
  zs_aload_n (i := 0) rfl hX (by decide +kernel : decode prog_14_method_95_code 70 = .ok (.aload_n 0, 1)) rfl (by decide),
  zs_getR hX zFL_12_111 (by decide +kernel : decode prog_14_method_95_code 71 = .ok (.getfield 111, 3)) rfl,
  zs_aload_n (i := 0) rfl hX (by decide +kernel : decode prog_14_method_95_code 74 = .ok (.aload_n 0, 1)) rfl (by decide),
  zs_getR hX zFL_12_102 (by decide +kernel : decode prog_14_method_95_code 75 = .ok (.getfield 102, 3)) rfl,
  zs_pushI (zg_iconst (by decide) hX (by decide +kernel : decode prog_14_method_95_code 78 = .ok (.iconst 0, 1)) rfl),
  zs_ialdc hX (by decide +kernel : decode prog_14_method_95_code 79 = .ok (.iaload, 1)) rfl,
  zs_iload_n (i := 3) rfl hX (by decide +kernel : decode prog_14_method_95_code 80 = .ok (.iload_n 3, 1)) rfl (by decide),
  zs_iast hX (by decide +kernel : decode prog_14_method_95_code 81 = .ok (.iastore, 1)) rfl,
  zs_aload_n (i := 0) rfl hX (by decide +kernel : decode prog_14_method_95_code 82 = .ok (.aload_n 0, 1)) rfl (by decide),
  zs_getR hX zFL_12_102 (by decide +kernel : decode prog_14_method_95_code 83 = .ok (.getfield 102, 3)) rfl,
  zs_pushI (zg_iconst (by decide) hX (by decide +kernel : decode prog_14_method_95_code 86 = .ok (.iconst 0, 1)) rfl),
  zs_dup2 hX (by decide +kernel : decode prog_14_method_95_code 87 = .ok (.dup2, 1)) rfl,
  zs_ialdc hX (by decide +kernel : decode prog_14_method_95_code 88 = .ok (.iaload, 1)) rfl,
  zs_pushI (zg_iconst (by decide) hX (by decide +kernel : decode prog_14_method_95_code 89 = .ok (.iconst 1, 1)) rfl),
  zs_ii (zg_iadd hX (by decide +kernel : decode prog_14_method_95_code 90 = .ok (.iadd, 1)) rfl),
  zs_iastc hX (by decide +kernel : decode prog_14_method_95_code 91 = .ok (.iastore, 1)) rfl,
  zs_pushI (zg_iconst (by decide) hX (by decide +kernel : decode prog_14_method_95_code 92 = .ok (.iconst 1, 1)) rfl),
  zs_zretc hX hR (by decide +kernel : decode prog_14_method_95_code 93 = .ok (.ireturn, 1)), trivial⟩
theorem k_X12_see {l : Launch} {D : va_G} {ad : Nat → Nat → Nat} {cy : Nat → ClassId} {L : List (Nat × Nat)} (hcl : zclo L = true) (hinj : zAd ad L) : zCk l D ad cy L 2 f_X12_see y_X12_see (.code y_X12_see prog_14_method_95_code 4 (some .boolean)) :=
  z_met (by decide) t_X12_see hcl hinj (fun X hX hR hl k => zgs_all (Q := zSo X) (c := [(38, p_X12_see_0), (69, p_X12_see_1), (94, p_X12_see_2)]) (fun _ => zs_bad) ⟨s_X12_see_0 hcl hinj hX hR hl, s_X12_see_1 hcl hinj hX hR hl, s_X12_see_2 hcl hinj hX hR hl, trivial⟩ k)
set_option maxRecDepth 1000000 in
theorem e_X12_see_0 (x1 : Int32) (x2 : Int32) (x3 : Int32) (h : zH) : zL p_X12_see 0 [some (.inr (.inr (12, 0))), some (.inl x1), some (.inl x2), some (.inl x3)] [] h = zci (f_X12_isCake [(.inr (.inr (12, 0))), (.inl x1)] (zuI h 12 0 0 0)) (fun r2 h1 => zf (r2 = 0) (some (some (.inl 0), h1)) (zci (f_X12_within [(.inl x2), (.inl 1), (.inl 20)] h1) (fun r4 h3 => zf (r4 = 0) (some (some (.inl 0), h3)) (zci (f_X12_within [(.inl x3), (.inl 0), (.inl 40)] h3) (fun r6 h5 => zf (r6 = 0) (some (some (.inl 0), h5)) (zf ((h5.1 68 0 0) = 8) (some (some (.inl 0), h5)) (zf (vp_in (h5.1 68 0 0) 40) (zf (vp_in (h5.1 68 0 0) 40) (zf (vp_in (h5.1 68 0 0) 40) (some (some (.inl 1), (zuI (zuI (zuI (zuI h5 69 0 (h5.1 68 0 0).toNatClampNeg x1) 70 0 (h5.1 68 0 0).toNatClampNeg x2) 71 0 (h5.1 68 0 0).toNatClampNeg x3) 68 0 0 ((h5.1 68 0 0) + (1 : Int32))))) none) none) none))))))) := (zL_s (t_X12_see) [0] 1000 0 _ _ _).trans rfl
theorem g_X12_see (x1 : Int32) (x2 : Int32) (x3 : Int32) (h : zH) : f_X12_see [(.inr (.inr (12, 0))), (.inl x1), (.inl x2), (.inl x3)] h = zci (f_X12_isCake [(.inr (.inr (12, 0))), (.inl x1)] (zuI h 12 0 0 0)) (fun r2 h1 => zf (r2 = 0) (some (some (.inl 0), h1)) (zci (f_X12_within [(.inl x2), (.inl 1), (.inl 20)] h1) (fun r4 h3 => zf (r4 = 0) (some (some (.inl 0), h3)) (zci (f_X12_within [(.inl x3), (.inl 0), (.inl 40)] h3) (fun r6 h5 => zf (r6 = 0) (some (some (.inl 0), h5)) (zf ((h5.1 68 0 0) = 8) (some (some (.inl 0), h5)) (zf (vp_in (h5.1 68 0 0) 40) (zf (vp_in (h5.1 68 0 0) 40) (zf (vp_in (h5.1 68 0 0) 40) (some (some (.inl 1), (zuI (zuI (zuI (zuI h5 69 0 (h5.1 68 0 0).toNatClampNeg x1) 70 0 (h5.1 68 0 0).toNatClampNeg x2) 71 0 (h5.1 68 0 0).toNatClampNeg x3) 68 0 0 ((h5.1 68 0 0) + (1 : Int32))))) none) none) none))))))) := (show f_X12_see _ h = zL p_X12_see 0 _ [] h from rfl).trans (e_X12_see_0 x1 x2 x3 h)
/-! SoapTreatyModel.isAsSeen(I)Z -/
def y_X12_isAsSeen : MethodName := ⟨"SoapTreatyModel", "isAsSeen", "(I)Z"⟩
noncomputable def p_X12_isAsSeen_0 : List (Nat × zO) := [(0, zo_push (.inl 0) 1),
  (1, zo_istore 2 2),
  (2, zo_iload 2 3),
  (3, zo_aload 0 4),
  (4, zo_getR 12 68 none 7),
  (7, zo_push (.inl 0) 8),
  (8, zo_ialdc 9),
  (9, zo_cge 55 12),
  (12, zo_aload 0 13),
  (13, zo_getR 12 78 none 16),
  (16, zo_push (.inl 7) 18),
  (18, zo_push (.inl 21) 20),
  (20, zo_iload 1 21),
  (21, zo_ii (fun x y => x * y) 22),
  (22, zo_aload 0 23),
  (23, zo_getR 12 70 none 26),
  (26, zo_iload 2 27),
  (27, zo_iald 28),
  (28, zo_ii (fun x y => x + y) 29),
  (29, zo_ii (fun x y => x * y) 30)]
noncomputable def p_X12_isAsSeen_1 : List (Nat × zO) := [(30, zo_aload 0 31),
  (31, zo_getR 12 69 none 34),
  (34, zo_iload 2 35),
  (35, zo_iald 36),
  (36, zo_ii (fun x y => x + y) 37),
  (37, zo_iald 38),
  (38, zo_aload 0 39),
  (39, zo_getR 12 71 none 42),
  (42, zo_iload 2 43),
  (43, zo_iald 44),
  (44, zo_ceq 49 47),
  (47, zo_push (.inl 0) 48),
  (48, zo_zretc),
  (49, zo_iinc 2 1 52),
  (52, zo_goto 2),
  (55, zo_push (.inl 1) 56),
  (56, zo_zretc)]
noncomputable def p_X12_isAsSeen : Nat → zO := zgs [(30, p_X12_isAsSeen_0), (57, p_X12_isAsSeen_1)]
theorem t_X12_isAsSeen : ∀ k, zTl (p_X12_isAsSeen k) := fun k => zgs_all (c := [(30, p_X12_isAsSeen_0), (57, p_X12_isAsSeen_1)]) (fun _ => zl_bad) ⟨⟨zl_push, zl_istore, zl_iload, zl_aload, zl_getR, zl_push, zl_ialdc, zl_cge, zl_aload, zl_getR, zl_push, zl_push, zl_iload, zl_ii, zl_aload, zl_getR, zl_iload, zl_iald, zl_ii, zl_ii, trivial⟩, ⟨zl_aload, zl_getR, zl_iload, zl_iald, zl_ii, zl_iald, zl_aload, zl_getR, zl_iload, zl_iald, zl_ceq, zl_push, zl_zretc, zl_iinc, zl_goto, zl_push, zl_zretc, trivial⟩, trivial⟩ k
noncomputable def f_X12_isAsSeen : zS := zrun p_X12_isAsSeen 3
set_option maxRecDepth 20000 in
theorem s_X12_isAsSeen_0 {l : Launch} {D : va_G} {ad : Nat → Nat → Nat} {cy : Nat → ClassId} {L : List (Nat × Nat)} (hcl : zclo L = true) (hinj : zAd ad L) {X : zCtx} (hX : zXok X "SoapTreatyModel" prog_14_method_96_code 3) (hR : zRt X (some .boolean)) (hl : zXl X l D ad cy L (zroom 1)) : zAllR (zSo X) p_X12_isAsSeen_0 := ⟨zs_pushI (zg_iconst (by decide) hX (by decide +kernel : decode prog_14_method_96_code 0 = .ok (.iconst 0, 1)) rfl),
  zs_istore_n (i := 2) rfl hX (by decide +kernel : decode prog_14_method_96_code 1 = .ok (.istore_n 2, 1)) rfl (by decide),
  zs_iload_n (i := 2) rfl hX (by decide +kernel : decode prog_14_method_96_code 2 = .ok (.iload_n 2, 1)) rfl (by decide),
  zs_aload_n (i := 0) rfl hX (by decide +kernel : decode prog_14_method_96_code 3 = .ok (.aload_n 0, 1)) rfl (by decide),
  zs_getR hX zFL_12_102 (by decide +kernel : decode prog_14_method_96_code 4 = .ok (.getfield 102, 3)) rfl,
  zs_pushI (zg_iconst (by decide) hX (by decide +kernel : decode prog_14_method_96_code 7 = .ok (.iconst 0, 1)) rfl),
  zs_ialdc hX (by decide +kernel : decode prog_14_method_96_code 8 = .ok (.iaload, 1)) rfl,
  zs_cge hX (by decide +kernel : decode prog_14_method_96_code 9 = .ok (.if_icmp .ge 46, 3)) (by decide) rfl,
  zs_aload_n (i := 0) rfl hX (by decide +kernel : decode prog_14_method_96_code 12 = .ok (.aload_n 0, 1)) rfl (by decide),
  zs_getR hX zFL_12_132 (by decide +kernel : decode prog_14_method_96_code 13 = .ok (.getfield 132, 3)) rfl,
  zs_pushI (zg_bipush (by decide) hX (by decide +kernel : decode prog_14_method_96_code 16 = .ok (.bipush 7, 2)) rfl),
  zs_pushI (zg_bipush (by decide) hX (by decide +kernel : decode prog_14_method_96_code 18 = .ok (.bipush 21, 2)) rfl),
  zs_iload_n (i := 1) rfl hX (by decide +kernel : decode prog_14_method_96_code 20 = .ok (.iload_n 1, 1)) rfl (by decide),
  zs_ii (zg_imul hX (by decide +kernel : decode prog_14_method_96_code 21 = .ok (.imul, 1)) rfl),
  zs_aload_n (i := 0) rfl hX (by decide +kernel : decode prog_14_method_96_code 22 = .ok (.aload_n 0, 1)) rfl (by decide),
  zs_getR hX zFL_12_108 (by decide +kernel : decode prog_14_method_96_code 23 = .ok (.getfield 108, 3)) rfl,
  zs_iload_n (i := 2) rfl hX (by decide +kernel : decode prog_14_method_96_code 26 = .ok (.iload_n 2, 1)) rfl (by decide),
  zs_iald hX (by decide +kernel : decode prog_14_method_96_code 27 = .ok (.iaload, 1)) rfl,
  zs_ii (zg_iadd hX (by decide +kernel : decode prog_14_method_96_code 28 = .ok (.iadd, 1)) rfl),
  zs_ii (zg_imul hX (by decide +kernel : decode prog_14_method_96_code 29 = .ok (.imul, 1)) rfl), trivial⟩
set_option maxRecDepth 20000 in
theorem s_X12_isAsSeen_1 {l : Launch} {D : va_G} {ad : Nat → Nat → Nat} {cy : Nat → ClassId} {L : List (Nat × Nat)} (hcl : zclo L = true) (hinj : zAd ad L) {X : zCtx} (hX : zXok X "SoapTreatyModel" prog_14_method_96_code 3) (hR : zRt X (some .boolean)) (hl : zXl X l D ad cy L (zroom 1)) : zAllR (zSo X) p_X12_isAsSeen_1 := ⟨zs_aload_n (i := 0) rfl hX (by decide +kernel : decode prog_14_method_96_code 30 = .ok (.aload_n 0, 1)) rfl (by decide),
  zs_getR hX zFL_12_105 (by decide +kernel : decode prog_14_method_96_code 31 = .ok (.getfield 105, 3)) rfl,
  zs_iload_n (i := 2) rfl hX (by decide +kernel : decode prog_14_method_96_code 34 = .ok (.iload_n 2, 1)) rfl (by decide),
  zs_iald hX (by decide +kernel : decode prog_14_method_96_code 35 = .ok (.iaload, 1)) rfl,
  zs_ii (zg_iadd hX (by decide +kernel : decode prog_14_method_96_code 36 = .ok (.iadd, 1)) rfl),
  zs_iald hX (by decide +kernel : decode prog_14_method_96_code 37 = .ok (.iaload, 1)) rfl,
  zs_aload_n (i := 0) rfl hX (by decide +kernel : decode prog_14_method_96_code 38 = .ok (.aload_n 0, 1)) rfl (by decide),
  zs_getR hX zFL_12_111 (by decide +kernel : decode prog_14_method_96_code 39 = .ok (.getfield 111, 3)) rfl,
  zs_iload_n (i := 2) rfl hX (by decide +kernel : decode prog_14_method_96_code 42 = .ok (.iload_n 2, 1)) rfl (by decide),
  zs_iald hX (by decide +kernel : decode prog_14_method_96_code 43 = .ok (.iaload, 1)) rfl,
  zs_ceq hX (by decide +kernel : decode prog_14_method_96_code 44 = .ok (.if_icmp .eq 5, 3)) (by decide) rfl,
  zs_pushI (zg_iconst (by decide) hX (by decide +kernel : decode prog_14_method_96_code 47 = .ok (.iconst 0, 1)) rfl),
  zs_zretc hX hR (by decide +kernel : decode prog_14_method_96_code 48 = .ok (.ireturn, 1)),
  zs_iinc hX (by decide +kernel : decode prog_14_method_96_code 49 = .ok (.iinc 2 1, 3)) (by decide) rfl (by decide),
  zs_goto hX (by decide +kernel : decode prog_14_method_96_code 52 = .ok (.goto (-50), 3)) (by decide),
  zs_pushI (zg_iconst (by decide) hX (by decide +kernel : decode prog_14_method_96_code 55 = .ok (.iconst 1, 1)) rfl),
  zs_zretc hX hR (by decide +kernel : decode prog_14_method_96_code 56 = .ok (.ireturn, 1)), trivial⟩
theorem k_X12_isAsSeen {l : Launch} {D : va_G} {ad : Nat → Nat → Nat} {cy : Nat → ClassId} {L : List (Nat × Nat)} (hcl : zclo L = true) (hinj : zAd ad L) : zCk l D ad cy L 1 f_X12_isAsSeen y_X12_isAsSeen (.code y_X12_isAsSeen prog_14_method_96_code 3 (some .boolean)) :=
  z_met (by decide) t_X12_isAsSeen hcl hinj (fun X hX hR hl k => zgs_all (Q := zSo X) (c := [(30, p_X12_isAsSeen_0), (57, p_X12_isAsSeen_1)]) (fun _ => zs_bad) ⟨s_X12_isAsSeen_0 hcl hinj hX hR hl, s_X12_isAsSeen_1 hcl hinj hX hR hl, trivial⟩ k)
set_option maxRecDepth 1000000 in
theorem e_X12_isAsSeen_0 (x1 : Int32) (h : zH) : zL p_X12_isAsSeen 0 [some (.inr (.inr (12, 0))), some (.inl x1), none] [] h = zL p_X12_isAsSeen 2 [some (.inr (.inr (12, 0))), some (.inl x1), some (.inl 0)] [] h := (zL_s (t_X12_isAsSeen) [0, 2] 1000 0 _ _ _).trans rfl
theorem g_X12_isAsSeen (x1 : Int32) (h : zH) : f_X12_isAsSeen [(.inr (.inr (12, 0))), (.inl x1)] h = zL p_X12_isAsSeen 2 [some (.inr (.inr (12, 0))), some (.inl x1), some (.inl 0)] [] h := (show f_X12_isAsSeen _ h = zL p_X12_isAsSeen 0 _ [] h from rfl).trans (e_X12_isAsSeen_0 x1 h)
set_option maxRecDepth 1000000 in
theorem e_X12_isAsSeen_2 (x1 : Int32) (x2 : Int32) (h : zH) : zL p_X12_isAsSeen 2 [some (.inr (.inr (12, 0))), some (.inl x1), some (.inl x2)] [] h = zf (x2 < (h.1 68 0 0)) (zf (vp_in x2 40) (zf (vp_in x2 40) (zf (vp_in (((7 : Int32) * (((21 : Int32) * x1) + (h.1 70 0 x2.toNatClampNeg))) + (h.1 69 0 x2.toNatClampNeg)) 4704) (zf (vp_in x2 40) (zf ((h.1 78 0 (((7 : Int32) * (((21 : Int32) * x1) + (h.1 70 0 x2.toNatClampNeg))) + (h.1 69 0 x2.toNatClampNeg)).toNatClampNeg) = (h.1 71 0 x2.toNatClampNeg)) (zL p_X12_isAsSeen 2 [some (.inr (.inr (12, 0))), some (.inl x1), some (.inl (x2 + 1))] [] h) (some (some (.inl 0), h))) none) none) none) none) (some (some (.inl 1), h)) := (zL_s (t_X12_isAsSeen) [0, 2] 1000 2 _ _ _).trans rfl
