theorem zMV_12_400 : zMV "SoapTreatyModel" 400 12 y_X12_earnestWith prog_14_method_64_code 4 (some .int) 1 := ⟨⟨zT_of 1575 (by decide +kernel) (by decide +kernel), zT_of 1577 (by decide +kernel) (by decide +kernel), zT_of 70 (by decide +kernel) (by decide +kernel), zT_of 118 (by decide +kernel) (by decide +kernel), zT_of 1578 (by decide +kernel) (by decide +kernel)⟩, by decide, rfl, ⟨zT12, 57, rfl⟩, by decide, by decide, by decide +kernel⟩
/-! SoapTreatyModel.blocOf(I)I -/
def y_X12_blocOf : MethodName := ⟨"SoapTreatyModel", "blocOf", "(I)I"⟩
noncomputable def p_X12_blocOf_0 : List (Nat × zO) := [(0, zo_push (.inl 1) 1),
  (1, zo_iload 1 2),
  (2, zo_ii (fun x y => x <<< (y &&& 31)) 3),
  (3, zo_istore 2 4),
  (4, zo_push (.inl 0) 5),
  (5, zo_istore 3 6),
  (6, zo_kill [1, 4] (zo_iload 2 7)),
  (7, zo_iload 3 8),
  (8, zo_ceq 59 11),
  (11, zo_iload 2 12),
  (12, zo_istore 3 13),
  (13, zo_push (.inl 0) 14),
  (14, zo_istore 4 16),
  (16, zo_kill [1] (zo_iload 4 18)),
  (18, zo_aload 0 19),
  (19, zo_getR 12 39 none 22),
  (22, zo_push (.inl 0) 23),
  (23, zo_ialdc 24),
  (24, zo_cge 56 27),
  (27, zo_iload 2 28)]
noncomputable def p_X12_blocOf_1 : List (Nat × zO) := [(28, zo_iload 3 29),
  (29, zo_iload 4 31),
  (31, zo_ii (fun x y => x >>> (y &&& 31)) 32),
  (32, zo_push (.inl 1) 33),
  (33, zo_ii (fun x y => x &&& y) 34),
  (34, zo_push (.inl 1) 35),
  (35, zo_cne 47 38),
  (38, zo_aload 0 39),
  (39, zo_iload 4 41),
  (41, zo_vir 12 2 (zo_calli (f_X12_earnestWith) 2 44)),
  (44, zo_goto 48),
  (47, zo_push (.inl 0) 48),
  (48, zo_ii (fun x y => x ||| y) 49),
  (49, zo_istore 2 50),
  (50, zo_iinc 4 1 53),
  (53, zo_goto 16),
  (56, zo_goto 6),
  (59, zo_iload 2 60),
  (60, zo_iret)]
noncomputable def p_X12_blocOf : Nat → zO := zgs [(28, p_X12_blocOf_0), (61, p_X12_blocOf_1)]
theorem t_X12_blocOf : ∀ k, zTl (p_X12_blocOf k) := fun k => zgs_all (c := [(28, p_X12_blocOf_0), (61, p_X12_blocOf_1)]) (fun _ => zl_bad) ⟨⟨zl_push, zl_iload, zl_ii, zl_istore, zl_push, zl_istore, (zl_kill zl_iload), zl_iload, zl_ceq, zl_iload, zl_istore, zl_push, zl_istore, (zl_kill zl_iload), zl_aload, zl_getR, zl_push, zl_ialdc, zl_cge, zl_iload, trivial⟩, ⟨zl_iload, zl_iload, zl_ii, zl_push, zl_ii, zl_push, zl_cne, zl_aload, zl_iload, (zl_vir zl_calli), zl_goto, zl_push, zl_ii, zl_istore, zl_iinc, zl_goto, zl_goto, zl_iload, zl_iret, trivial⟩, trivial⟩ k
noncomputable def f_X12_blocOf : zS := zrun p_X12_blocOf 5
set_option maxRecDepth 20000 in
theorem s_X12_blocOf_0 {l : Launch} {D : va_G} {ad : Nat → Nat → Nat} {cy : Nat → ClassId} {L : List (Nat × Nat)} (hcl : zclo L = true) (hinj : zAd ad L) {X : zCtx} (hX : zXok X "SoapTreatyModel" prog_14_method_65_code 5) (hR : zRt X (some .int)) (hl : zXl X l D ad cy L (zroom 5)) : zAllR (zSo X) p_X12_blocOf_0 := ⟨zs_pushI (zg_iconst (by decide) hX (by decide +kernel : decode prog_14_method_65_code 0 = .ok (.iconst 1, 1)) rfl),
  zs_iload_n (i := 1) rfl hX (by decide +kernel : decode prog_14_method_65_code 1 = .ok (.iload_n 1, 1)) rfl (by decide),
  zs_ii (zg_ishl hX (by decide +kernel : decode prog_14_method_65_code 2 = .ok (.ishl, 1)) rfl),
  zs_istore_n (i := 2) rfl hX (by decide +kernel : decode prog_14_method_65_code 3 = .ok (.istore_n 2, 1)) rfl (by decide),
  zs_pushI (zg_iconst (by decide) hX (by decide +kernel : decode prog_14_method_65_code 4 = .ok (.iconst 0, 1)) rfl),
  zs_istore_n (i := 3) rfl hX (by decide +kernel : decode prog_14_method_65_code 5 = .ok (.istore_n 3, 1)) rfl (by decide),
  zs_kill hX (by decide) (zs_iload_n (i := 2) rfl hX (by decide +kernel : decode prog_14_method_65_code 6 = .ok (.iload_n 2, 1)) rfl (by decide)),
  zs_iload_n (i := 3) rfl hX (by decide +kernel : decode prog_14_method_65_code 7 = .ok (.iload_n 3, 1)) rfl (by decide),
  zs_ceq hX (by decide +kernel : decode prog_14_method_65_code 8 = .ok (.if_icmp .eq 51, 3)) (by decide) rfl,
  zs_iload_n (i := 2) rfl hX (by decide +kernel : decode prog_14_method_65_code 11 = .ok (.iload_n 2, 1)) rfl (by decide),
  zs_istore_n (i := 3) rfl hX (by decide +kernel : decode prog_14_method_65_code 12 = .ok (.istore_n 3, 1)) rfl (by decide),
  zs_pushI (zg_iconst (by decide) hX (by decide +kernel : decode prog_14_method_65_code 13 = .ok (.iconst 0, 1)) rfl),
  zs_istore hX (by decide +kernel : decode prog_14_method_65_code 14 = .ok (.istore 4, 2)) rfl (by decide),
  zs_kill hX (by decide) (zs_iload hX (by decide +kernel : decode prog_14_method_65_code 16 = .ok (.iload 4, 2)) rfl (by decide)),
  zs_aload_n (i := 0) rfl hX (by decide +kernel : decode prog_14_method_65_code 18 = .ok (.aload_n 0, 1)) rfl (by decide),
  zs_getR hX zFL_12_13 (by decide +kernel : decode prog_14_method_65_code 19 = .ok (.getfield 13, 3)) rfl,
  zs_pushI (zg_iconst (by decide) hX (by decide +kernel : decode prog_14_method_65_code 22 = .ok (.iconst 0, 1)) rfl),
  zs_ialdc hX (by decide +kernel : decode prog_14_method_65_code 23 = .ok (.iaload, 1)) rfl,
  zs_cge hX (by decide +kernel : decode prog_14_method_65_code 24 = .ok (.if_icmp .ge 32, 3)) (by decide) rfl,
  zs_iload_n (i := 2) rfl hX (by decide +kernel : decode prog_14_method_65_code 27 = .ok (.iload_n 2, 1)) rfl (by decide), trivial⟩
set_option maxRecDepth 20000 in
theorem s_X12_blocOf_1 {l : Launch} {D : va_G} {ad : Nat → Nat → Nat} {cy : Nat → ClassId} {L : List (Nat × Nat)} (hcl : zclo L = true) (hinj : zAd ad L) {X : zCtx} (hX : zXok X "SoapTreatyModel" prog_14_method_65_code 5) (hR : zRt X (some .int)) (hl : zXl X l D ad cy L (zroom 5)) : zAllR (zSo X) p_X12_blocOf_1 := ⟨zs_iload_n (i := 3) rfl hX (by decide +kernel : decode prog_14_method_65_code 28 = .ok (.iload_n 3, 1)) rfl (by decide),
  zs_iload hX (by decide +kernel : decode prog_14_method_65_code 29 = .ok (.iload 4, 2)) rfl (by decide),
  zs_ii (zg_ishr hX (by decide +kernel : decode prog_14_method_65_code 31 = .ok (.ishr, 1)) rfl),
  zs_pushI (zg_iconst (by decide) hX (by decide +kernel : decode prog_14_method_65_code 32 = .ok (.iconst 1, 1)) rfl),
  zs_ii (zg_iand hX (by decide +kernel : decode prog_14_method_65_code 33 = .ok (.iand, 1)) rfl),
  zs_pushI (zg_iconst (by decide) hX (by decide +kernel : decode prog_14_method_65_code 34 = .ok (.iconst 1, 1)) rfl),
  zs_cne hX (by decide +kernel : decode prog_14_method_65_code 35 = .ok (.if_icmp .ne 12, 3)) (by decide) rfl,
  zs_aload_n (i := 0) rfl hX (by decide +kernel : decode prog_14_method_65_code 38 = .ok (.aload_n 0, 1)) rfl (by decide),
  zs_iload hX (by decide +kernel : decode prog_14_method_65_code 39 = .ok (.iload 4, 2)) rfl (by decide),
  zs_callVi hX zMV_12_400 (zXc_of hl (by decide) (k_X12_earnestWith hcl hinj)) (by decide +kernel : decode prog_14_method_65_code 41 = .ok (.invokevirtual 400, 3)) rfl,
  zs_goto hX (by decide +kernel : decode prog_14_method_65_code 44 = .ok (.goto 4, 3)) (by decide),
  zs_pushI (zg_iconst (by decide) hX (by decide +kernel : decode prog_14_method_65_code 47 = .ok (.iconst 0, 1)) rfl),
  zs_ii (zg_ior hX (by decide +kernel : decode prog_14_method_65_code 48 = .ok (.ior, 1)) rfl),
  zs_istore_n (i := 2) rfl hX (by decide +kernel : decode prog_14_method_65_code 49 = .ok (.istore_n 2, 1)) rfl (by decide),
  zs_iinc hX (by decide +kernel : decode prog_14_method_65_code 50 = .ok (.iinc 4 1, 3)) (by decide) rfl (by decide),
  zs_goto hX (by decide +kernel : decode prog_14_method_65_code 53 = .ok (.goto (-37), 3)) (by decide),
  zs_goto hX (by decide +kernel : decode prog_14_method_65_code 56 = .ok (.goto (-50), 3)) (by decide),
  zs_iload_n (i := 2) rfl hX (by decide +kernel : decode prog_14_method_65_code 59 = .ok (.iload_n 2, 1)) rfl (by decide),
  zs_iret hX hR (by decide +kernel : decode prog_14_method_65_code 60 = .ok (.ireturn, 1)), trivial⟩
theorem k_X12_blocOf {l : Launch} {D : va_G} {ad : Nat → Nat → Nat} {cy : Nat → ClassId} {L : List (Nat × Nat)} (hcl : zclo L = true) (hinj : zAd ad L) : zCk l D ad cy L 5 f_X12_blocOf y_X12_blocOf (.code y_X12_blocOf prog_14_method_65_code 5 (some .int)) :=
  z_met (by decide) t_X12_blocOf hcl hinj (fun X hX hR hl k => zgs_all (Q := zSo X) (c := [(28, p_X12_blocOf_0), (61, p_X12_blocOf_1)]) (fun _ => zs_bad) ⟨s_X12_blocOf_0 hcl hinj hX hR hl, s_X12_blocOf_1 hcl hinj hX hR hl, trivial⟩ k)
set_option maxRecDepth 1000000 in
theorem e_X12_blocOf_0 (x1 : Int32) (h : zH) : zL p_X12_blocOf 0 [some (.inr (.inr (12, 0))), some (.inl x1), none, none, none] [] h = zL p_X12_blocOf 6 [some (.inr (.inr (12, 0))), some (.inl x1), some (.inl ((1 : Int32) <<< (x1 &&& 31))), some (.inl 0), none] [] h := (zL_s (t_X12_blocOf) [0, 6, 16] 1000 0 _ _ _).trans rfl
theorem g_X12_blocOf (x1 : Int32) (h : zH) : f_X12_blocOf [(.inr (.inr (12, 0))), (.inl x1)] h = zL p_X12_blocOf 6 [some (.inr (.inr (12, 0))), some (.inl x1), some (.inl ((1 : Int32) <<< (x1 &&& 31))), some (.inl 0), none] [] h := (show f_X12_blocOf _ h = zL p_X12_blocOf 0 _ [] h from rfl).trans (e_X12_blocOf_0 x1 h)
set_option maxRecDepth 1000000 in
theorem e_X12_blocOf_6 (o1 : Option zV) (x2 : Int32) (x3 : Int32) (o4 : Option zV) (h : zH) : zL p_X12_blocOf 6 [some (.inr (.inr (12, 0))), o1, some (.inl x2), some (.inl x3), o4] [] h = zf (x2 = x3) (some (some (.inl x2), h)) (zL p_X12_blocOf 16 [some (.inr (.inr (12, 0))), none, some (.inl x2), some (.inl x2), some (.inl 0)] [] h) := (zL_s (t_X12_blocOf) [0, 6, 16] 1000 6 _ _ _).trans rfl
set_option maxRecDepth 1000000 in
theorem e_X12_blocOf_16 (o1 : Option zV) (x2 : Int32) (x3 : Int32) (x4 : Int32) (h : zH) : zL p_X12_blocOf 16 [some (.inr (.inr (12, 0))), o1, some (.inl x2), some (.inl x3), some (.inl x4)] [] h = zf (x4 < (h.1 39 0 0)) (zf (((x3 >>> (x4 &&& 31)) &&& (1 : Int32)) = 1) (zci (f_X12_earnestWith [(.inr (.inr (12, 0))), (.inl x4)] h) (fun r2 h1 => zL p_X12_blocOf 16 [some (.inr (.inr (12, 0))), none, some (.inl (x2 ||| r2)), some (.inl x3), some (.inl (x4 + 1))] [] h1)) (zL p_X12_blocOf 16 [some (.inr (.inr (12, 0))), none, some (.inl (x2 ||| (0 : Int32))), some (.inl x3), some (.inl (x4 + 1))] [] h)) (zL p_X12_blocOf 6 [some (.inr (.inr (12, 0))), none, some (.inl x2), some (.inl x3), some (.inl x4)] [] h) := (zL_s (t_X12_blocOf) [0, 6, 16] 1000 16 _ _ _).trans rfl
theorem zMS_12_403 : zMS "SoapTreatyModel" 403 y_X12_bits prog_14_method_5_code 3 (some .int) 1 := ⟨⟨zT_of 1722 (by decide +kernel) (by decide +kernel), zT_of 1723 (by decide +kernel) (by decide +kernel), zT_of 118 (by decide +kernel) (by decide +kernel), zT_of 1724 (by decide +kernel) (by decide +kernel)⟩, by decide, by decide, by decide, by decide +kernel⟩
/-! SoapTreatyModel.pairsEarnest()I -/
def y_X12_pairsEarnest : MethodName := ⟨"SoapTreatyModel", "pairsEarnest", "()I"⟩
noncomputable def p_X12_pairsEarnest_0 : List (Nat × zO) := [(0, zo_push (.inl 0) 1),
  (1, zo_istore 1 2),
  (2, zo_push (.inl 0) 3),
  (3, zo_istore 2 4),
  (4, zo_iload 2 5),
  (5, zo_aload 0 6),
  (6, zo_getR 12 39 none 9),
  (9, zo_push (.inl 0) 10),
  (10, zo_ialdc 11),
  (11, zo_cge 31 14),
  (14, zo_iload 1 15),
  (15, zo_aload 0 16),
  (16, zo_iload 2 17),
  (17, zo_vir 12 2 (zo_calli (f_X12_earnestWith) 2 20)),
  (20, zo_calli (f_X12_bits) 1 23),
  (23, zo_ii (fun x y => x + y) 24),
  (24, zo_istore 1 25),
  (25, zo_iinc 2 1 28),
  (28, zo_goto 4),
  (31, zo_iload 1 32)]
noncomputable def p_X12_pairsEarnest_1 : List (Nat × zO) := [(32, zo_push (.inl 2) 33),
  (33, zo_idc (fun x y => x / y) 34),
  (34, zo_iret)]
noncomputable def p_X12_pairsEarnest : Nat → zO := zgs [(32, p_X12_pairsEarnest_0), (35, p_X12_pairsEarnest_1)]
theorem t_X12_pairsEarnest : ∀ k, zTl (p_X12_pairsEarnest k) := fun k => zgs_all (c := [(32, p_X12_pairsEarnest_0), (35, p_X12_pairsEarnest_1)]) (fun _ => zl_bad) ⟨⟨zl_push, zl_istore, zl_push, zl_istore, zl_iload, zl_aload, zl_getR, zl_push, zl_ialdc, zl_cge, zl_iload, zl_aload, zl_iload, (zl_vir zl_calli), zl_calli, zl_ii, zl_istore, zl_iinc, zl_goto, zl_iload, trivial⟩, ⟨zl_push, zl_idc, zl_iret, trivial⟩, trivial⟩ k
noncomputable def f_X12_pairsEarnest : zS := zrun p_X12_pairsEarnest 3
set_option maxRecDepth 20000 in
theorem s_X12_pairsEarnest_0 {l : Launch} {D : va_G} {ad : Nat → Nat → Nat} {cy : Nat → ClassId} {L : List (Nat × Nat)} (hcl : zclo L = true) (hinj : zAd ad L) {X : zCtx} (hX : zXok X "SoapTreatyModel" prog_14_method_66_code 3) (hR : zRt X (some .int)) (hl : zXl X l D ad cy L (zroom 5)) : zAllR (zSo X) p_X12_pairsEarnest_0 := ⟨zs_pushI (zg_iconst (by decide) hX (by decide +kernel : decode prog_14_method_66_code 0 = .ok (.iconst 0, 1)) rfl),
  zs_istore_n (i := 1) rfl hX (by decide +kernel : decode prog_14_method_66_code 1 = .ok (.istore_n 1, 1)) rfl (by decide),
  zs_pushI (zg_iconst (by decide) hX (by decide +kernel : decode prog_14_method_66_code 2 = .ok (.iconst 0, 1)) rfl),
  zs_istore_n (i := 2) rfl hX (by decide +kernel : decode prog_14_method_66_code 3 = .ok (.istore_n 2, 1)) rfl (by decide),
  zs_iload_n (i := 2) rfl hX (by decide +kernel : decode prog_14_method_66_code 4 = .ok (.iload_n 2, 1)) rfl (by decide),
  zs_aload_n (i := 0) rfl hX (by decide +kernel : decode prog_14_method_66_code 5 = .ok (.aload_n 0, 1)) rfl (by decide),
  zs_getR hX zFL_12_13 (by decide +kernel : decode prog_14_method_66_code 6 = .ok (.getfield 13, 3)) rfl,
  zs_pushI (zg_iconst (by decide) hX (by decide +kernel : decode prog_14_method_66_code 9 = .ok (.iconst 0, 1)) rfl),
  zs_ialdc hX (by decide +kernel : decode prog_14_method_66_code 10 = .ok (.iaload, 1)) rfl,
  zs_cge hX (by decide +kernel : decode prog_14_method_66_code 11 = .ok (.if_icmp .ge 20, 3)) (by decide) rfl,
  zs_iload_n (i := 1) rfl hX (by decide +kernel : decode prog_14_method_66_code 14 = .ok (.iload_n 1, 1)) rfl (by decide),
  zs_aload_n (i := 0) rfl hX (by decide +kernel : decode prog_14_method_66_code 15 = .ok (.aload_n 0, 1)) rfl (by decide),
  zs_iload_n (i := 2) rfl hX (by decide +kernel : decode prog_14_method_66_code 16 = .ok (.iload_n 2, 1)) rfl (by decide),
  zs_callVi hX zMV_12_400 (zXc_of hl (by decide) (k_X12_earnestWith hcl hinj)) (by decide +kernel : decode prog_14_method_66_code 17 = .ok (.invokevirtual 400, 3)) rfl,
  zs_callSi hX zMS_12_403 (zXc_of hl (by decide) (k_X12_bits hcl hinj)) (by decide +kernel : decode prog_14_method_66_code 20 = .ok (.invokestatic 403, 3)) rfl,
  zs_ii (zg_iadd hX (by decide +kernel : decode prog_14_method_66_code 23 = .ok (.iadd, 1)) rfl),
  zs_istore_n (i := 1) rfl hX (by decide +kernel : decode prog_14_method_66_code 24 = .ok (.istore_n 1, 1)) rfl (by decide),
  zs_iinc hX (by decide +kernel : decode prog_14_method_66_code 25 = .ok (.iinc 2 1, 3)) (by decide) rfl (by decide),
  zs_goto hX (by decide +kernel : decode prog_14_method_66_code 28 = .ok (.goto (-24), 3)) (by decide),
  zs_iload_n (i := 1) rfl hX (by decide +kernel : decode prog_14_method_66_code 31 = .ok (.iload_n 1, 1)) rfl (by decide), trivial⟩
set_option maxRecDepth 20000 in
theorem s_X12_pairsEarnest_1 {l : Launch} {D : va_G} {ad : Nat → Nat → Nat} {cy : Nat → ClassId} {L : List (Nat × Nat)} (hcl : zclo L = true) (hinj : zAd ad L) {X : zCtx} (hX : zXok X "SoapTreatyModel" prog_14_method_66_code 3) (hR : zRt X (some .int)) (hl : zXl X l D ad cy L (zroom 5)) : zAllR (zSo X) p_X12_pairsEarnest_1 := ⟨zs_pushI (zg_iconst (by decide) hX (by decide +kernel : decode prog_14_method_66_code 32 = .ok (.iconst 2, 1)) rfl),
  zs_idc (zg_idiv hX (by decide +kernel : decode prog_14_method_66_code 33 = .ok (.idiv, 1)) rfl),
  zs_iret hX hR (by decide +kernel : decode prog_14_method_66_code 34 = .ok (.ireturn, 1)), trivial⟩
theorem k_X12_pairsEarnest {l : Launch} {D : va_G} {ad : Nat → Nat → Nat} {cy : Nat → ClassId} {L : List (Nat × Nat)} (hcl : zclo L = true) (hinj : zAd ad L) : zCk l D ad cy L 5 f_X12_pairsEarnest y_X12_pairsEarnest (.code y_X12_pairsEarnest prog_14_method_66_code 3 (some .int)) :=
  z_met (by decide) t_X12_pairsEarnest hcl hinj (fun X hX hR hl k => zgs_all (Q := zSo X) (c := [(32, p_X12_pairsEarnest_0), (35, p_X12_pairsEarnest_1)]) (fun _ => zs_bad) ⟨s_X12_pairsEarnest_0 hcl hinj hX hR hl, s_X12_pairsEarnest_1 hcl hinj hX hR hl, trivial⟩ k)
set_option maxRecDepth 1000000 in
theorem e_X12_pairsEarnest_0 (h : zH) : zL p_X12_pairsEarnest 0 [some (.inr (.inr (12, 0))), none, none] [] h = zL p_X12_pairsEarnest 4 [some (.inr (.inr (12, 0))), some (.inl 0), some (.inl 0)] [] h := (zL_s (t_X12_pairsEarnest) [0, 4] 1000 0 _ _ _).trans rfl
theorem g_X12_pairsEarnest (h : zH) : f_X12_pairsEarnest [(.inr (.inr (12, 0)))] h = zL p_X12_pairsEarnest 4 [some (.inr (.inr (12, 0))), some (.inl 0), some (.inl 0)] [] h := (show f_X12_pairsEarnest _ h = zL p_X12_pairsEarnest 0 _ [] h from rfl).trans (e_X12_pairsEarnest_0 h)
set_option maxRecDepth 1000000 in
theorem e_X12_pairsEarnest_4 (x1 : Int32) (x2 : Int32) (h : zH) : zL p_X12_pairsEarnest 4 [some (.inr (.inr (12, 0))), some (.inl x1), some (.inl x2)] [] h = zf (x2 < (h.1 39 0 0)) (zci (f_X12_earnestWith [(.inr (.inr (12, 0))), (.inl x2)] h) (fun r2 h1 => zci (f_X12_bits [(.inl r2)] h1) (fun r4 h3 => zL p_X12_pairsEarnest 4 [some (.inr (.inr (12, 0))), some (.inl (x1 + r4)), some (.inl (x2 + 1))] [] h3))) (some (some (.inl (x1 / 2)), h)) := (zL_s (t_X12_pairsEarnest) [0, 4] 1000 4 _ _ _).trans rfl
theorem zMV_12_406 : zMV "SoapTreatyModel" 406 12 y_X12_isSliverNow prog_14_method_56_code 2 (some .boolean) 1 := ⟨⟨zT_of 1551 (by decide +kernel) (by decide +kernel), zT_of 1553 (by decide +kernel) (by decide +kernel), zT_of 64 (by decide +kernel) (by decide +kernel), zT_of 118 (by decide +kernel) (by decide +kernel), zT_of 1554 (by decide +kernel) (by decide +kernel)⟩, by decide, rfl, ⟨zT12, 57, rfl⟩, by decide, by decide, by decide +kernel⟩
/-! SoapTreatyModel.sliversOf(I)I -/
def y_X12_sliversOf : MethodName := ⟨"SoapTreatyModel", "sliversOf", "(I)I"⟩
noncomputable def p_X12_sliversOf_0 : List (Nat × zO) := [(0, zo_push (.inl 0) 1),
  (1, zo_istore 2 2),
  (2, zo_push (.inl 0) 3),
  (3, zo_istore 3 4),
  (4, zo_iload 3 5),
  (5, zo_aload 0 6),
  (6, zo_getR 12 39 none 9),
  (9, zo_push (.inl 1) 10),
  (10, zo_ialdc 11),
  (11, zo_cge 49 14),
  (14, zo_iload 2 15),
  (15, zo_aload 0 16),
  (16, zo_getR 12 72 none 19),
  (19, zo_push (.inl 10) 21),
  (21, zo_iload 3 22),
  (22, zo_ii (fun x y => x + y) 23),
  (23, zo_iald 24),
  (24, zo_iload 1 25),
  (25, zo_cne 40 28),
  (28, zo_aload 0 29)]
noncomputable def p_X12_sliversOf_1 : List (Nat × zO) := [(29, zo_iload 3 30),
  (30, zo_vir 12 2 (zo_calli (f_X12_isSliverNow) 2 33)),
  (33, zo_0eq 40 36),
  (36, zo_push (.inl 1) 37),
  (37, zo_goto 41),
  (40, zo_push (.inl 0) 41),
  (41, zo_ii (fun x y => x + y) 42),
  (42, zo_istore 2 43),
  (43, zo_iinc 3 1 46),
  (46, zo_goto 4),
  (49, zo_iload 2 50),
  (50, zo_iret)]
noncomputable def p_X12_sliversOf : Nat → zO := zgs [(29, p_X12_sliversOf_0), (51, p_X12_sliversOf_1)]
theorem t_X12_sliversOf : ∀ k, zTl (p_X12_sliversOf k) := fun k => zgs_all (c := [(29, p_X12_sliversOf_0), (51, p_X12_sliversOf_1)]) (fun _ => zl_bad) ⟨⟨zl_push, zl_istore, zl_push, zl_istore, zl_iload, zl_aload, zl_getR, zl_push, zl_ialdc, zl_cge, zl_iload, zl_aload, zl_getR, zl_push, zl_iload, zl_ii, zl_iald, zl_iload, zl_cne, zl_aload, trivial⟩, ⟨zl_iload, (zl_vir zl_calli), zl_0eq, zl_push, zl_goto, zl_push, zl_ii, zl_istore, zl_iinc, zl_goto, zl_iload, zl_iret, trivial⟩, trivial⟩ k
noncomputable def f_X12_sliversOf : zS := zrun p_X12_sliversOf 4
set_option maxRecDepth 20000 in
theorem s_X12_sliversOf_0 {l : Launch} {D : va_G} {ad : Nat → Nat → Nat} {cy : Nat → ClassId} {L : List (Nat × Nat)} (hcl : zclo L = true) (hinj : zAd ad L) {X : zCtx} (hX : zXok X "SoapTreatyModel" prog_14_method_67_code 4) (hR : zRt X (some .int)) (hl : zXl X l D ad cy L (zroom 3)) : zAllR (zSo X) p_X12_sliversOf_0 := ⟨zs_pushI (zg_iconst (by decide) hX (by decide +kernel : decode prog_14_method_67_code 0 = .ok (.iconst 0, 1)) rfl),
  zs_istore_n (i := 2) rfl hX (by decide +kernel : decode prog_14_method_67_code 1 = .ok (.istore_n 2, 1)) rfl (by decide),
  zs_pushI (zg_iconst (by decide) hX (by decide +kernel : decode prog_14_method_67_code 2 = .ok (.iconst 0, 1)) rfl),
  zs_istore_n (i := 3) rfl hX (by decide +kernel : decode prog_14_method_67_code 3 = .ok (.istore_n 3, 1)) rfl (by decide),
  zs_iload_n (i := 3) rfl hX (by decide +kernel : decode prog_14_method_67_code 4 = .ok (.iload_n 3, 1)) rfl (by decide),
  zs_aload_n (i := 0) rfl hX (by decide +kernel : decode prog_14_method_67_code 5 = .ok (.aload_n 0, 1)) rfl (by decide),
  zs_getR hX zFL_12_13 (by decide +kernel : decode prog_14_method_67_code 6 = .ok (.getfield 13, 3)) rfl,
  zs_pushI (zg_iconst (by decide) hX (by decide +kernel : decode prog_14_method_67_code 9 = .ok (.iconst 1, 1)) rfl),
  zs_ialdc hX (by decide +kernel : decode prog_14_method_67_code 10 = .ok (.iaload, 1)) rfl,
  zs_cge hX (by decide +kernel : decode prog_14_method_67_code 11 = .ok (.if_icmp .ge 38, 3)) (by decide) rfl,
  zs_iload_n (i := 2) rfl hX (by decide +kernel : decode prog_14_method_67_code 14 = .ok (.iload_n 2, 1)) rfl (by decide),
  zs_aload_n (i := 0) rfl hX (by decide +kernel : decode prog_14_method_67_code 15 = .ok (.aload_n 0, 1)) rfl (by decide),
  zs_getR hX zFL_12_114 (by decide +kernel : decode prog_14_method_67_code 16 = .ok (.getfield 114, 3)) rfl,
  zs_pushI (zg_bipush (by decide) hX (by decide +kernel : decode prog_14_method_67_code 19 = .ok (.bipush 10, 2)) rfl),
  zs_iload_n (i := 3) rfl hX (by decide +kernel : decode prog_14_method_67_code 21 = .ok (.iload_n 3, 1)) rfl (by decide),
  zs_ii (zg_iadd hX (by decide +kernel : decode prog_14_method_67_code 22 = .ok (.iadd, 1)) rfl),
  zs_iald hX (by decide +kernel : decode prog_14_method_67_code 23 = .ok (.iaload, 1)) rfl,
  zs_iload_n (i := 1) rfl hX (by decide +kernel : decode prog_14_method_67_code 24 = .ok (.iload_n 1, 1)) rfl (by decide),
  zs_cne hX (by decide +kernel : decode prog_14_method_67_code 25 = .ok (.if_icmp .ne 15, 3)) (by decide) rfl,
  zs_aload_n (i := 0) rfl hX (by decide +kernel : decode prog_14_method_67_code 28 = .ok (.aload_n 0, 1)) rfl (by decide), trivial⟩
set_option maxRecDepth 20000 in
theorem s_X12_sliversOf_1 {l : Launch} {D : va_G} {ad : Nat → Nat → Nat} {cy : Nat → ClassId} {L : List (Nat × Nat)} (hcl : zclo L = true) (hinj : zAd ad L) {X : zCtx} (hX : zXok X "SoapTreatyModel" prog_14_method_67_code 4) (hR : zRt X (some .int)) (hl : zXl X l D ad cy L (zroom 3)) : zAllR (zSo X) p_X12_sliversOf_1 := ⟨zs_iload_n (i := 3) rfl hX (by decide +kernel : decode prog_14_method_67_code 29 = .ok (.iload_n 3, 1)) rfl (by decide),
  zs_callVi hX zMV_12_406 (zXc_of hl (by decide) (k_X12_isSliverNow hcl hinj)) (by decide +kernel : decode prog_14_method_67_code 30 = .ok (.invokevirtual 406, 3)) rfl,
  zs_0eq hX (by decide +kernel : decode prog_14_method_67_code 33 = .ok (.ifCond .eq 7, 3)) (by decide) rfl,
  zs_pushI (zg_iconst (by decide) hX (by decide +kernel : decode prog_14_method_67_code 36 = .ok (.iconst 1, 1)) rfl),
  zs_goto hX (by decide +kernel : decode prog_14_method_67_code 37 = .ok (.goto 4, 3)) (by decide),
  zs_pushI (zg_iconst (by decide) hX (by decide +kernel : decode prog_14_method_67_code 40 = .ok (.iconst 0, 1)) rfl),
  zs_ii (zg_iadd hX (by decide +kernel : decode prog_14_method_67_code 41 = .ok (.iadd, 1)) rfl),
  zs_istore_n (i := 2) rfl hX (by decide +kernel : decode prog_14_method_67_code 42 = .ok (.istore_n 2, 1)) rfl (by decide),
  zs_iinc hX (by decide +kernel : decode prog_14_method_67_code 43 = .ok (.iinc 3 1, 3)) (by decide) rfl (by decide),
  zs_goto hX (by decide +kernel : decode prog_14_method_67_code 46 = .ok (.goto (-42), 3)) (by decide),
  zs_iload_n (i := 2) rfl hX (by decide +kernel : decode prog_14_method_67_code 49 = .ok (.iload_n 2, 1)) rfl (by decide),
  zs_iret hX hR (by decide +kernel : decode prog_14_method_67_code 50 = .ok (.ireturn, 1)), trivial⟩
theorem k_X12_sliversOf {l : Launch} {D : va_G} {ad : Nat → Nat → Nat} {cy : Nat → ClassId} {L : List (Nat × Nat)} (hcl : zclo L = true) (hinj : zAd ad L) : zCk l D ad cy L 3 f_X12_sliversOf y_X12_sliversOf (.code y_X12_sliversOf prog_14_method_67_code 4 (some .int)) :=
  z_met (by decide) t_X12_sliversOf hcl hinj (fun X hX hR hl k => zgs_all (Q := zSo X) (c := [(29, p_X12_sliversOf_0), (51, p_X12_sliversOf_1)]) (fun _ => zs_bad) ⟨s_X12_sliversOf_0 hcl hinj hX hR hl, s_X12_sliversOf_1 hcl hinj hX hR hl, trivial⟩ k)
set_option maxRecDepth 1000000 in
theorem e_X12_sliversOf_0 (x1 : Int32) (h : zH) : zL p_X12_sliversOf 0 [some (.inr (.inr (12, 0))), some (.inl x1), none, none] [] h = zL p_X12_sliversOf 4 [some (.inr (.inr (12, 0))), some (.inl x1), some (.inl 0), some (.inl 0)] [] h := (zL_s (t_X12_sliversOf) [0, 4] 1000 0 _ _ _).trans rfl
theorem g_X12_sliversOf (x1 : Int32) (h : zH) : f_X12_sliversOf [(.inr (.inr (12, 0))), (.inl x1)] h = zL p_X12_sliversOf 4 [some (.inr (.inr (12, 0))), some (.inl x1), some (.inl 0), some (.inl 0)] [] h := (show f_X12_sliversOf _ h = zL p_X12_sliversOf 0 _ [] h from rfl).trans (e_X12_sliversOf_0 x1 h)
set_option maxRecDepth 1000000 in
theorem e_X12_sliversOf_4 (x1 : Int32) (x2 : Int32) (x3 : Int32) (h : zH) : zL p_X12_sliversOf 4 [some (.inr (.inr (12, 0))), some (.inl x1), some (.inl x2), some (.inl x3)] [] h = zf (x3 < (h.1 39 0 1)) (zf (vp_in ((10 : Int32) + x3) 24) (zf ((h.1 72 0 ((10 : Int32) + x3).toNatClampNeg) = x1) (zci (f_X12_isSliverNow [(.inr (.inr (12, 0))), (.inl x3)] h) (fun r2 h1 => zf (r2 = 0) (zL p_X12_sliversOf 4 [some (.inr (.inr (12, 0))), some (.inl x1), some (.inl (x2 + (0 : Int32))), some (.inl (x3 + 1))] [] h1) (zL p_X12_sliversOf 4 [some (.inr (.inr (12, 0))), some (.inl x1), some (.inl (x2 + (1 : Int32))), some (.inl (x3 + 1))] [] h1))) (zL p_X12_sliversOf 4 [some (.inr (.inr (12, 0))), some (.inl x1), some (.inl (x2 + (0 : Int32))), some (.inl (x3 + 1))] [] h)) none) (some (some (.inl x2), h)) := (zL_s (t_X12_sliversOf) [0, 4] 1000 4 _ _ _).trans rfl
theorem zMV_12_409 : zMV "SoapTreatyModel" 409 12 y_X12_isPower prog_14_method_47_code 2 (some .boolean) 1 := ⟨⟨zT_of 1543 (by decide +kernel) (by decide +kernel), zT_of 1545 (by decide +kernel) (by decide +kernel), zT_of 62 (by decide +kernel) (by decide +kernel), zT_of 118 (by decide +kernel) (by decide +kernel), zT_of 1546 (by decide +kernel) (by decide +kernel)⟩, by decide, rfl, ⟨zT12, 57, rfl⟩, by decide, by decide, by decide +kernel⟩
theorem zMV_12_412 : zMV "SoapTreatyModel" 412 12 y_X12_sliversOf prog_14_method_67_code 4 (some .int) 1 := ⟨⟨zT_of 1547 (by decide +kernel) (by decide +kernel), zT_of 1549 (by decide +kernel) (by decide +kernel), zT_of 63 (by decide +kernel) (by decide +kernel), zT_of 118 (by decide +kernel) (by decide +kernel), zT_of 1550 (by decide +kernel) (by decide +kernel)⟩, by decide, rfl, ⟨zT12, 57, rfl⟩, by decide, by decide, by decide +kernel⟩
theorem zMV_12_415 : zMV "SoapTreatyModel" 415 12 y_X12_foesOf prog_14_method_63_code 4 (some .int) 1 := ⟨⟨zT_of 1559 (by decide +kernel) (by decide +kernel), zT_of 1561 (by decide +kernel) (by decide +kernel), zT_of 66 (by decide +kernel) (by decide +kernel), zT_of 118 (by decide +kernel) (by decide +kernel), zT_of 1562 (by decide +kernel) (by decide +kernel)⟩, by decide, rfl, ⟨zT12, 57, rfl⟩, by decide, by decide, by decide +kernel⟩
theorem zMV_12_418 : zMV "SoapTreatyModel" 418 12 y_X12_blocOf prog_14_method_65_code 5 (some .int) 1 := ⟨⟨zT_of 1571 (by decide +kernel) (by decide +kernel), zT_of 1573 (by decide +kernel) (by decide +kernel), zT_of 69 (by decide +kernel) (by decide +kernel), zT_of 118 (by decide +kernel) (by decide +kernel), zT_of 1574 (by decide +kernel) (by decide +kernel)⟩, by decide, rfl, ⟨zT12, 57, rfl⟩, by decide, by decide, by decide +kernel⟩
/-! SoapTreatyModel.power(II)I -/
def y_X12_power : MethodName := ⟨"SoapTreatyModel", "power", "(II)I"⟩
noncomputable def p_X12_power_0 : List (Nat × zO) := [(0, zo_aload 0 1),
  (1, zo_push (.inl 0) 2),
  (2, zo_putI 12 0 5),
  (5, zo_aload 0 6),
  (6, zo_iload 1 7),
  (7, zo_vir 12 2 (zo_calli (f_X12_isPower) 2 10)),
  (10, zo_0eq 22 13),
  (13, zo_iload 2 14),
  (14, zo_push (.inl 0) 15),
  (15, zo_push (.inl 5) 16),
  (16, zo_calli (f_X12_within) 3 19),
  (19, zo_0ne 24 22),
  (22, zo_push (.inl zm1) 23),
  (23, zo_iret),
  (24, zo_iload 2 25),
  (25, zo_push (.inl 2) 26),
  (26, zo_cge 49 29),
  (29, zo_iload 2 30),
  (30, zo_0ne 42 33),
  (33, zo_aload 0 34)]
noncomputable def p_X12_power_1 : List (Nat × zO) := [(34, zo_getR 12 42 none 37),
  (37, zo_iload 1 38),
  (38, zo_iald 39),
  (39, zo_goto 48),
  (42, zo_aload 0 43),
  (43, zo_getR 12 43 none 46),
  (46, zo_iload 1 47),
  (47, zo_iald 48),
  (48, zo_iret),
  (49, zo_iload 2 50),
  (50, zo_push (.inl 2) 51),
  (51, zo_cle 92 54),
  (54, zo_iload 2 55),
  (55, zo_push (.inl 3) 56),
  (56, zo_cne 67 59),
  (59, zo_aload 0 60),
  (60, zo_iload 1 61),
  (61, zo_vir 12 2 (zo_calli (f_X12_sliversOf) 2 64)),
  (64, zo_goto 91),
  (67, zo_iload 2 68)]
noncomputable def p_X12_power_2 : List (Nat × zO) := [(68, zo_push (.inl 4) 69),
  (69, zo_cne 80 72),
  (72, zo_aload 0 73),
  (73, zo_iload 1 74),
  (74, zo_vir 12 2 (zo_calli (f_X12_foesOf) 2 77)),
  (77, zo_goto 91),
  (80, zo_aload 0 81),
  (81, zo_iload 1 82),
  (82, zo_vir 12 2 (zo_calli (f_X12_blocOf) 2 85)),
  (85, zo_push (.inl 1) 86),
  (86, zo_iload 1 87),
  (87, zo_ii (fun x y => x <<< (y &&& 31)) 88),
  (88, zo_push (.inl zm1) 89),
  (89, zo_ii (fun x y => x ^^^ y) 90),
  (90, zo_ii (fun x y => x &&& y) 91),
  (91, zo_iret),
  (92, zo_push (.inl 0) 93),
  (93, zo_istore 3 94),
  (94, zo_push (.inl 0) 95),
  (95, zo_istore 4 97)]
noncomputable def p_X12_power_3 : List (Nat × zO) := [(97, zo_kill [2] (zo_iload 4 99)),
  (99, zo_aload 0 100),
  (100, zo_getR 12 39 none 103),
  (103, zo_push (.inl 1) 104),
  (104, zo_ialdc 105),
  (105, zo_cge 139 108),
  (108, zo_iload 3 109),
  (109, zo_aload 0 110),
  (110, zo_getR 12 72 none 113),
  (113, zo_push (.inl 10) 115),
  (115, zo_iload 4 117),
  (117, zo_ii (fun x y => x + y) 118),
  (118, zo_iald 119),
  (119, zo_iload 1 120),
  (120, zo_cne 130 123),
  (123, zo_push (.inl 1) 124),
  (124, zo_iload 4 126),
  (126, zo_ii (fun x y => x <<< (y &&& 31)) 127),
  (127, zo_goto 131),
  (130, zo_push (.inl 0) 131)]
noncomputable def p_X12_power_4 : List (Nat × zO) := [(131, zo_ii (fun x y => x ||| y) 132),
  (132, zo_istore 3 133),
  (133, zo_iinc 4 1 136),
  (136, zo_goto 97),
  (139, zo_iload 3 140),
  (140, zo_iret)]
noncomputable def p_X12_power : Nat → zO := zgs [(34, p_X12_power_0), (68, p_X12_power_1), (96, p_X12_power_2), (131, p_X12_power_3), (141, p_X12_power_4)]
theorem t_X12_power : ∀ k, zTl (p_X12_power k) := fun k => zgs_all (c := [(34, p_X12_power_0), (68, p_X12_power_1), (96, p_X12_power_2), (131, p_X12_power_3), (141, p_X12_power_4)]) (fun _ => zl_bad) ⟨⟨zl_aload, zl_push, zl_putI, zl_aload, zl_iload, (zl_vir zl_calli), zl_0eq, zl_iload, zl_push, zl_push, zl_calli, zl_0ne, zl_push, zl_iret, zl_iload, zl_push, zl_cge, zl_iload, zl_0ne, zl_aload, trivial⟩, ⟨zl_getR, zl_iload, zl_iald, zl_goto, zl_aload, zl_getR, zl_iload, zl_iald, zl_iret, zl_iload, zl_push, zl_cle, zl_iload, zl_push, zl_cne, zl_aload, zl_iload, (zl_vir zl_calli), zl_goto, zl_iload, trivial⟩, ⟨zl_push, zl_cne, zl_aload, zl_iload, (zl_vir zl_calli), zl_goto, zl_aload, zl_iload, (zl_vir zl_calli), zl_push, zl_iload, zl_ii, zl_push, zl_ii, zl_ii, zl_iret, zl_push, zl_istore, zl_push, zl_istore, trivial⟩, ⟨(zl_kill zl_iload), zl_aload, zl_getR, zl_push, zl_ialdc, zl_cge, zl_iload, zl_aload, zl_getR, zl_push, zl_iload, zl_ii, zl_iald, zl_iload, zl_cne, zl_push, zl_iload, zl_ii, zl_goto, zl_push, trivial⟩, ⟨zl_ii, zl_istore, zl_iinc, zl_goto, zl_iload, zl_iret, trivial⟩, trivial⟩ k
noncomputable def f_X12_power : zS := zrun p_X12_power 5
set_option maxRecDepth 20000 in
theorem s_X12_power_0 {l : Launch} {D : va_G} {ad : Nat → Nat → Nat} {cy : Nat → ClassId} {L : List (Nat × Nat)} (hcl : zclo L = true) (hinj : zAd ad L) {X : zCtx} (hX : zXok X "SoapTreatyModel" prog_14_method_68_code 5) (hR : zRt X (some .int)) (hl : zXl X l D ad cy L (zroom 6)) : zAllR (zSo X) p_X12_power_0 := ⟨zs_aload_n (i := 0) rfl hX (by decide +kernel : decode prog_14_method_68_code 0 = .ok (.aload_n 0, 1)) rfl (by decide),
  zs_pushI (zg_iconst (by decide) hX (by decide +kernel : decode prog_14_method_68_code 1 = .ok (.iconst 0, 1)) rfl),
  zs_putI hX zFP_12_139 (by decide +kernel : decode prog_14_method_68_code 2 = .ok (.putfield 139, 3)) rfl,
  zs_aload_n (i := 0) rfl hX (by decide +kernel : decode prog_14_method_68_code 5 = .ok (.aload_n 0, 1)) rfl (by decide),
  zs_iload_n (i := 1) rfl hX (by decide +kernel : decode prog_14_method_68_code 6 = .ok (.iload_n 1, 1)) rfl (by decide),
  zs_callVi hX zMV_12_409 (zXc_of hl (by decide) (k_X12_isPower hcl hinj)) (by decide +kernel : decode prog_14_method_68_code 7 = .ok (.invokevirtual 409, 3)) rfl,
  zs_0eq hX (by decide +kernel : decode prog_14_method_68_code 10 = .ok (.ifCond .eq 12, 3)) (by decide) rfl,
  zs_iload_n (i := 2) rfl hX (by decide +kernel : decode prog_14_method_68_code 13 = .ok (.iload_n 2, 1)) rfl (by decide),
  zs_pushI (zg_iconst (by decide) hX (by decide +kernel : decode prog_14_method_68_code 14 = .ok (.iconst 0, 1)) rfl),
  zs_pushI (zg_iconst (by decide) hX (by decide +kernel : decode prog_14_method_68_code 15 = .ok (.iconst 5, 1)) rfl),
  zs_callSi hX zMS_12_265 (zXc_of hl (by decide) (k_X12_within hcl hinj)) (by decide +kernel : decode prog_14_method_68_code 16 = .ok (.invokestatic 265, 3)) rfl,
  zs_0ne hX (by decide +kernel : decode prog_14_method_68_code 19 = .ok (.ifCond .ne 5, 3)) (by decide) rfl,
  zs_pushI (zg_iconst (by decide) hX (by decide +kernel : decode prog_14_method_68_code 22 = .ok (.iconst (-1), 1)) rfl),
  zs_iret hX hR (by decide +kernel : decode prog_14_method_68_code 23 = .ok (.ireturn, 1)),
  zs_iload_n (i := 2) rfl hX (by decide +kernel : decode prog_14_method_68_code 24 = .ok (.iload_n 2, 1)) rfl (by decide),
  zs_pushI (zg_iconst (by decide) hX (by decide +kernel : decode prog_14_method_68_code 25 = .ok (.iconst 2, 1)) rfl),
  zs_cge hX (by decide +kernel : decode prog_14_method_68_code 26 = .ok (.if_icmp .ge 23, 3)) (by decide) rfl,
  zs_iload_n (i := 2) rfl hX (by decide +kernel : decode prog_14_method_68_code 29 = .ok (.iload_n 2, 1)) rfl (by decide),
  zs_0ne hX (by decide +kernel : decode prog_14_method_68_code 30 = .ok (.ifCond .ne 12, 3)) (by decide) rfl,
  zs_aload_n (i := 0) rfl hX (by decide +kernel : decode prog_14_method_68_code 33 = .ok (.aload_n 0, 1)) rfl (by decide), trivial⟩
set_option maxRecDepth 20000 in
theorem s_X12_power_1 {l : Launch} {D : va_G} {ad : Nat → Nat → Nat} {cy : Nat → ClassId} {L : List (Nat × Nat)} (hcl : zclo L = true) (hinj : zAd ad L) {X : zCtx} (hX : zXok X "SoapTreatyModel" prog_14_method_68_code 5) (hR : zRt X (some .int)) (hl : zXl X l D ad cy L (zroom 6)) : zAllR (zSo X) p_X12_power_1 := ⟨zs_getR hX zFL_12_23 (by decide +kernel : decode prog_14_method_68_code 34 = .ok (.getfield 23, 3)) rfl,
  zs_iload_n (i := 1) rfl hX (by decide +kernel : decode prog_14_method_68_code 37 = .ok (.iload_n 1, 1)) rfl (by decide),
  zs_iald hX (by decide +kernel : decode prog_14_method_68_code 38 = .ok (.iaload, 1)) rfl,
  zs_goto hX (by decide +kernel : decode prog_14_method_68_code 39 = .ok (.goto 9, 3)) (by decide),
  zs_aload_n (i := 0) rfl hX (by decide +kernel : decode prog_14_method_68_code 42 = .ok (.aload_n 0, 1)) rfl (by decide),
  zs_getR hX zFL_12_26 (by decide +kernel : decode prog_14_method_68_code 43 = .ok (.getfield 26, 3)) rfl,
  zs_iload_n (i := 1) rfl hX (by decide +kernel : decode prog_14_method_68_code 46 = .ok (.iload_n 1, 1)) rfl (by decide),
  zs_iald hX (by decide +kernel : decode prog_14_method_68_code 47 = .ok (.iaload, 1)) rfl,
  zs_iret hX hR (by decide +kernel : decode prog_14_method_68_code 48 = .ok (.ireturn, 1)),
  zs_iload_n (i := 2) rfl hX (by decide +kernel : decode prog_14_method_68_code 49 = .ok (.iload_n 2, 1)) rfl (by decide),
  zs_pushI (zg_iconst (by decide) hX (by decide +kernel : decode prog_14_method_68_code 50 = .ok (.iconst 2, 1)) rfl),
  zs_cle hX (by decide +kernel : decode prog_14_method_68_code 51 = .ok (.if_icmp .le 41, 3)) (by decide) rfl,
  zs_iload_n (i := 2) rfl hX (by decide +kernel : decode prog_14_method_68_code 54 = .ok (.iload_n 2, 1)) rfl (by decide),
  zs_pushI (zg_iconst (by decide) hX (by decide +kernel : decode prog_14_method_68_code 55 = .ok (.iconst 3, 1)) rfl),
  zs_cne hX (by decide +kernel : decode prog_14_method_68_code 56 = .ok (.if_icmp .ne 11, 3)) (by decide) rfl,
  zs_aload_n (i := 0) rfl hX (by decide +kernel : decode prog_14_method_68_code 59 = .ok (.aload_n 0, 1)) rfl (by decide),
  zs_iload_n (i := 1) rfl hX (by decide +kernel : decode prog_14_method_68_code 60 = .ok (.iload_n 1, 1)) rfl (by decide),
  zs_callVi hX zMV_12_412 (zXc_of hl (by decide) (k_X12_sliversOf hcl hinj)) (by decide +kernel : decode prog_14_method_68_code 61 = .ok (.invokevirtual 412, 3)) rfl,
  zs_goto hX (by decide +kernel : decode prog_14_method_68_code 64 = .ok (.goto 27, 3)) (by decide),
  zs_iload_n (i := 2) rfl hX (by decide +kernel : decode prog_14_method_68_code 67 = .ok (.iload_n 2, 1)) rfl (by decide), trivial⟩
set_option maxRecDepth 20000 in
theorem s_X12_power_2 {l : Launch} {D : va_G} {ad : Nat → Nat → Nat} {cy : Nat → ClassId} {L : List (Nat × Nat)} (hcl : zclo L = true) (hinj : zAd ad L) {X : zCtx} (hX : zXok X "SoapTreatyModel" prog_14_method_68_code 5) (hR : zRt X (some .int)) (hl : zXl X l D ad cy L (zroom 6)) : zAllR (zSo X) p_X12_power_2 := ⟨zs_pushI (zg_iconst (by decide) hX (by decide +kernel : decode prog_14_method_68_code 68 = .ok (.iconst 4, 1)) rfl),
  zs_cne hX (by decide +kernel : decode prog_14_method_68_code 69 = .ok (.if_icmp .ne 11, 3)) (by decide) rfl,
  zs_aload_n (i := 0) rfl hX (by decide +kernel : decode prog_14_method_68_code 72 = .ok (.aload_n 0, 1)) rfl (by decide),
  zs_iload_n (i := 1) rfl hX (by decide +kernel : decode prog_14_method_68_code 73 = .ok (.iload_n 1, 1)) rfl (by decide),
  zs_callVi hX zMV_12_415 (zXc_of hl (by decide) (k_X12_foesOf hcl hinj)) (by decide +kernel : decode prog_14_method_68_code 74 = .ok (.invokevirtual 415, 3)) rfl,
  zs_goto hX (by decide +kernel : decode prog_14_method_68_code 77 = .ok (.goto 14, 3)) (by decide),
  zs_aload_n (i := 0) rfl hX (by decide +kernel : decode prog_14_method_68_code 80 = .ok (.aload_n 0, 1)) rfl (by decide),
  zs_iload_n (i := 1) rfl hX (by decide +kernel : decode prog_14_method_68_code 81 = .ok (.iload_n 1, 1)) rfl (by decide),
  zs_callVi hX zMV_12_418 (zXc_of hl (by decide) (k_X12_blocOf hcl hinj)) (by decide +kernel : decode prog_14_method_68_code 82 = .ok (.invokevirtual 418, 3)) rfl,
  zs_pushI (zg_iconst (by decide) hX (by decide +kernel : decode prog_14_method_68_code 85 = .ok (.iconst 1, 1)) rfl),
  zs_iload_n (i := 1) rfl hX (by decide +kernel : decode prog_14_method_68_code 86 = .ok (.iload_n 1, 1)) rfl (by decide),
  zs_ii (zg_ishl hX (by decide +kernel : decode prog_14_method_68_code 87 = .ok (.ishl, 1)) rfl),
  zs_pushI (zg_iconst (by decide) hX (by decide +kernel : decode prog_14_method_68_code 88 = .ok (.iconst (-1), 1)) rfl),
  zs_ii (zg_ixor hX (by decide +kernel : decode prog_14_method_68_code 89 = .ok (.ixor, 1)) rfl),
  zs_ii (zg_iand hX (by decide +kernel : decode prog_14_method_68_code 90 = .ok (.iand, 1)) rfl),
  zs_iret hX hR (by decide +kernel : decode prog_14_method_68_code 91 = .ok (.ireturn, 1)),
  zs_pushI (zg_iconst (by decide) hX (by decide +kernel : decode prog_14_method_68_code 92 = .ok (.iconst 0, 1)) rfl),
  zs_istore_n (i := 3) rfl hX (by decide +kernel : decode prog_14_method_68_code 93 = .ok (.istore_n 3, 1)) rfl (by decide),
  zs_pushI (zg_iconst (by decide) hX (by decide +kernel : decode prog_14_method_68_code 94 = .ok (.iconst 0, 1)) rfl),
  zs_istore hX (by decide +kernel : decode prog_14_method_68_code 95 = .ok (.istore 4, 2)) rfl (by decide), trivial⟩
set_option maxRecDepth 20000 in
theorem s_X12_power_3 {l : Launch} {D : va_G} {ad : Nat → Nat → Nat} {cy : Nat → ClassId} {L : List (Nat × Nat)} (hcl : zclo L = true) (hinj : zAd ad L) {X : zCtx} (hX : zXok X "SoapTreatyModel" prog_14_method_68_code 5) (hR : zRt X (some .int)) (hl : zXl X l D ad cy L (zroom 6)) : zAllR (zSo X) p_X12_power_3 := ⟨zs_kill hX (by decide) (zs_iload hX (by decide +kernel : decode prog_14_method_68_code 97 = .ok (.iload 4, 2)) rfl (by decide)),
  zs_aload_n (i := 0) rfl hX (by decide +kernel : decode prog_14_method_68_code 99 = .ok (.aload_n 0, 1)) rfl (by decide),
  zs_getR hX zFL_12_13 (by decide +kernel : decode prog_14_method_68_code 100 = .ok (.getfield 13, 3)) rfl,
  zs_pushI (zg_iconst (by decide) hX (by decide +kernel : decode prog_14_method_68_code 103 = .ok (.iconst 1, 1)) rfl),
  zs_ialdc hX (by decide +kernel : decode prog_14_method_68_code 104 = .ok (.iaload, 1)) rfl,
  zs_cge hX (by decide +kernel : decode prog_14_method_68_code 105 = .ok (.if_icmp .ge 34, 3)) (by decide) rfl,
  zs_iload_n (i := 3) rfl hX (by decide +kernel : decode prog_14_method_68_code 108 = .ok (.iload_n 3, 1)) rfl (by decide),
  zs_aload_n (i := 0) rfl hX (by decide +kernel : decode prog_14_method_68_code 109 = .ok (.aload_n 0, 1)) rfl (by decide),
  zs_getR hX zFL_12_114 (by decide +kernel : decode prog_14_method_68_code 110 = .ok (.getfield 114, 3)) rfl,
  zs_pushI (zg_bipush (by decide) hX (by decide +kernel : decode prog_14_method_68_code 113 = .ok (.bipush 10, 2)) rfl),
  zs_iload hX (by decide +kernel : decode prog_14_method_68_code 115 = .ok (.iload 4, 2)) rfl (by decide),
  zs_ii (zg_iadd hX (by decide +kernel : decode prog_14_method_68_code 117 = .ok (.iadd, 1)) rfl),
  zs_iald hX (by decide +kernel : decode prog_14_method_68_code 118 = .ok (.iaload, 1)) rfl,
  zs_iload_n (i := 1) rfl hX (by decide +kernel : decode prog_14_method_68_code 119 = .ok (.iload_n 1, 1)) rfl (by decide),
  zs_cne hX (by decide +kernel : decode prog_14_method_68_code 120 = .ok (.if_icmp .ne 10, 3)) (by decide) rfl,
  zs_pushI (zg_iconst (by decide) hX (by decide +kernel : decode prog_14_method_68_code 123 = .ok (.iconst 1, 1)) rfl),
  zs_iload hX (by decide +kernel : decode prog_14_method_68_code 124 = .ok (.iload 4, 2)) rfl (by decide),
  zs_ii (zg_ishl hX (by decide +kernel : decode prog_14_method_68_code 126 = .ok (.ishl, 1)) rfl),
  zs_goto hX (by decide +kernel : decode prog_14_method_68_code 127 = .ok (.goto 4, 3)) (by decide),
  zs_pushI (zg_iconst (by decide) hX (by decide +kernel : decode prog_14_method_68_code 130 = .ok (.iconst 0, 1)) rfl), trivial⟩
set_option maxRecDepth 20000 in
theorem s_X12_power_4 {l : Launch} {D : va_G} {ad : Nat → Nat → Nat} {cy : Nat → ClassId} {L : List (Nat × Nat)} (hcl : zclo L = true) (hinj : zAd ad L) {X : zCtx} (hX : zXok X "SoapTreatyModel" prog_14_method_68_code 5) (hR : zRt X (some .int)) (hl : zXl X l D ad cy L (zroom 6)) : zAllR (zSo X) p_X12_power_4 := ⟨zs_ii (zg_ior hX (by decide +kernel : decode prog_14_method_68_code 131 = .ok (.ior, 1)) rfl),
  zs_istore_n (i := 3) rfl hX (by decide +kernel : decode prog_14_method_68_code 132 = .ok (.istore_n 3, 1)) rfl (by decide),
  zs_iinc hX (by decide +kernel : decode prog_14_method_68_code 133 = .ok (.iinc 4 1, 3)) (by decide) rfl (by decide),
  zs_goto hX (by decide +kernel : decode prog_14_method_68_code 136 = .ok (.goto (-39), 3)) (by decide),
  zs_iload_n (i := 3) rfl hX (by decide +kernel : decode prog_14_method_68_code 139 = .ok (.iload_n 3, 1)) rfl (by decide),
  zs_iret hX hR (by decide +kernel : decode prog_14_method_68_code 140 = .ok (.ireturn, 1)), trivial⟩
theorem k_X12_power {l : Launch} {D : va_G} {ad : Nat → Nat → Nat} {cy : Nat → ClassId} {L : List (Nat × Nat)} (hcl : zclo L = true) (hinj : zAd ad L) : zCk l D ad cy L 6 f_X12_power y_X12_power (.code y_X12_power prog_14_method_68_code 5 (some .int)) :=
  z_met (by decide) t_X12_power hcl hinj (fun X hX hR hl k => zgs_all (Q := zSo X) (c := [(34, p_X12_power_0), (68, p_X12_power_1), (96, p_X12_power_2), (131, p_X12_power_3), (141, p_X12_power_4)]) (fun _ => zs_bad) ⟨s_X12_power_0 hcl hinj hX hR hl, s_X12_power_1 hcl hinj hX hR hl, s_X12_power_2 hcl hinj hX hR hl, s_X12_power_3 hcl hinj hX hR hl, s_X12_power_4 hcl hinj hX hR hl, trivial⟩ k)
set_option maxRecDepth 1000000 in
theorem e_X12_power_0 (x1 : Int32) (x2 : Int32) (h : zH) : zL p_X12_power 0 [some (.inr (.inr (12, 0))), some (.inl x1), some (.inl x2), none, none] [] h = zci (f_X12_isPower [(.inr (.inr (12, 0))), (.inl x1)] (zuI h 12 0 0 0)) (fun r2 h1 => zf (r2 = 0) (some (some (.inl zm1), h1)) (zci (f_X12_within [(.inl x2), (.inl 0), (.inl 5)] h1) (fun r4 h3 => zf (r4 = 0) (some (some (.inl zm1), h3)) (zf (x2 < 2) (zf (x2 = 0) (zf (vp_in x1 10) (some (some (.inl (h3.1 42 0 x1.toNatClampNeg)), h3)) none) (zf (vp_in x1 10) (some (some (.inl (h3.1 43 0 x1.toNatClampNeg)), h3)) none)) (zf (2 < x2) (zf (x2 = 3) (zci (f_X12_sliversOf [(.inr (.inr (12, 0))), (.inl x1)] h3) (fun r10 h9 => some (some (.inl r10), h9))) (zf (x2 = 4) (zci (f_X12_foesOf [(.inr (.inr (12, 0))), (.inl x1)] h3) (fun r8 h7 => some (some (.inl r8), h7))) (zci (f_X12_blocOf [(.inr (.inr (12, 0))), (.inl x1)] h3) (fun r6 h5 => some (some (.inl (r6 &&& (((1 : Int32) <<< (x1 &&& 31)) ^^^ zm1))), h5))))) (zL p_X12_power 97 [some (.inr (.inr (12, 0))), some (.inl x1), some (.inl x2), some (.inl 0), some (.inl 0)] [] h3)))))) := (zL_s (t_X12_power) [0, 97] 1000 0 _ _ _).trans rfl
theorem g_X12_power (x1 : Int32) (x2 : Int32) (h : zH) : f_X12_power [(.inr (.inr (12, 0))), (.inl x1), (.inl x2)] h = zci (f_X12_isPower [(.inr (.inr (12, 0))), (.inl x1)] (zuI h 12 0 0 0)) (fun r2 h1 => zf (r2 = 0) (some (some (.inl zm1), h1)) (zci (f_X12_within [(.inl x2), (.inl 0), (.inl 5)] h1) (fun r4 h3 => zf (r4 = 0) (some (some (.inl zm1), h3)) (zf (x2 < 2) (zf (x2 = 0) (zf (vp_in x1 10) (some (some (.inl (h3.1 42 0 x1.toNatClampNeg)), h3)) none) (zf (vp_in x1 10) (some (some (.inl (h3.1 43 0 x1.toNatClampNeg)), h3)) none)) (zf (2 < x2) (zf (x2 = 3) (zci (f_X12_sliversOf [(.inr (.inr (12, 0))), (.inl x1)] h3) (fun r10 h9 => some (some (.inl r10), h9))) (zf (x2 = 4) (zci (f_X12_foesOf [(.inr (.inr (12, 0))), (.inl x1)] h3) (fun r8 h7 => some (some (.inl r8), h7))) (zci (f_X12_blocOf [(.inr (.inr (12, 0))), (.inl x1)] h3) (fun r6 h5 => some (some (.inl (r6 &&& (((1 : Int32) <<< (x1 &&& 31)) ^^^ zm1))), h5))))) (zL p_X12_power 97 [some (.inr (.inr (12, 0))), some (.inl x1), some (.inl x2), some (.inl 0), some (.inl 0)] [] h3)))))) := (show f_X12_power _ h = zL p_X12_power 0 _ [] h from rfl).trans (e_X12_power_0 x1 x2 h)
set_option maxRecDepth 1000000 in
theorem e_X12_power_97 (x1 : Int32) (o2 : Option zV) (x3 : Int32) (x4 : Int32) (h : zH) : zL p_X12_power 97 [some (.inr (.inr (12, 0))), some (.inl x1), o2, some (.inl x3), some (.inl x4)] [] h = zf (x4 < (h.1 39 0 1)) (zf (vp_in ((10 : Int32) + x4) 24) (zf ((h.1 72 0 ((10 : Int32) + x4).toNatClampNeg) = x1) (zL p_X12_power 97 [some (.inr (.inr (12, 0))), some (.inl x1), none, some (.inl (x3 ||| ((1 : Int32) <<< (x4 &&& 31)))), some (.inl (x4 + 1))] [] h) (zL p_X12_power 97 [some (.inr (.inr (12, 0))), some (.inl x1), none, some (.inl (x3 ||| (0 : Int32))), some (.inl (x4 + 1))] [] h)) none) (some (some (.inl x3), h)) := (zL_s (t_X12_power) [0, 97] 1000 97 _ _ _).trans rfl
theorem zMV_12_421 : zMV "SoapTreatyModel" 421 12 y_X12_isCake prog_14_method_48_code 2 (some .boolean) 1 := ⟨⟨zT_of 1591 (by decide +kernel) (by decide +kernel), zT_of 1593 (by decide +kernel) (by decide +kernel), zT_of 73 (by decide +kernel) (by decide +kernel), zT_of 118 (by decide +kernel) (by decide +kernel), zT_of 1594 (by decide +kernel) (by decide +kernel)⟩, by decide, rfl, ⟨zT12, 57, rfl⟩, by decide, by decide, by decide +kernel⟩
theorem zMV_12_424 : zMV "SoapTreatyModel" 424 12 y_X12_isFound prog_14_method_55_code 2 (some .boolean) 1 := ⟨⟨zT_of 1595 (by decide +kernel) (by decide +kernel), zT_of 1597 (by decide +kernel) (by decide +kernel), zT_of 74 (by decide +kernel) (by decide +kernel), zT_of 118 (by decide +kernel) (by decide +kernel), zT_of 1598 (by decide +kernel) (by decide +kernel)⟩, by decide, rfl, ⟨zT12, 57, rfl⟩, by decide, by decide, by decide +kernel⟩
/-! SoapTreatyModel.cake(II)I -/
def y_X12_cake : MethodName := ⟨"SoapTreatyModel", "cake", "(II)I"⟩
noncomputable def p_X12_cake_0 : List (Nat × zO) := [(0, zo_aload 0 1),
  (1, zo_push (.inl 0) 2),
  (2, zo_putI 12 0 5),
  (5, zo_aload 0 6),
  (6, zo_iload 1 7),
  (7, zo_vir 12 2 (zo_calli (f_X12_isCake) 2 10)),
  (10, zo_0eq 23 13),
  (13, zo_iload 2 14),
  (14, zo_push (.inl 0) 15),
  (15, zo_push (.inl 6) 17),
  (17, zo_calli (f_X12_within) 3 20),
  (20, zo_0ne 26 23),
  (23, zo_push (.inl zm2) 25),
  (25, zo_iret),
  (26, zo_iload 2 27),
  (27, zo_push (.inl 3) 28),
  (28, zo_cge 70 31),
  (31, zo_iload 2 32),
  (32, zo_0ne 44 35),
  (35, zo_aload 0 36)]
noncomputable def p_X12_cake_1 : List (Nat × zO) := [(36, zo_getR 12 44 none 39),
  (39, zo_iload 1 40),
  (40, zo_iald 41),
  (41, zo_goto 69),
  (44, zo_iload 2 45),
  (45, zo_push (.inl 1) 46),
  (46, zo_cne 61 49),
  (49, zo_aload 0 50),
  (50, zo_getR 12 72 none 53),
  (53, zo_push (.inl 10) 55),
  (55, zo_iload 1 56),
  (56, zo_ii (fun x y => x + y) 57),
  (57, zo_iald 58),
  (58, zo_goto 69),
  (61, zo_aload 0 62),
  (62, zo_getR 12 72 none 65),
  (65, zo_push (.inl 3) 66),
  (66, zo_iload 1 67),
  (67, zo_ii (fun x y => x + y) 68),
  (68, zo_iald 69)]
noncomputable def p_X12_cake_2 : List (Nat × zO) := [(69, zo_iret),
  (70, zo_iload 2 71),
  (71, zo_push (.inl 5) 72),
  (72, zo_cge 103 75),
  (75, zo_iload 2 76),
  (76, zo_push (.inl 3) 77),
  (77, zo_cne 92 80),
  (80, zo_aload 0 81),
  (81, zo_getR 12 72 none 84),
  (84, zo_push (.inl 17) 86),
  (86, zo_iload 1 87),
  (87, zo_ii (fun x y => x + y) 88),
  (88, zo_iald 89),
  (89, zo_goto 102),
  (92, zo_aload 0 93),
  (93, zo_getR 12 72 none 96),
  (96, zo_push (.inl 2) 97),
  (97, zo_ialdc 98),
  (98, zo_iload 1 99),
  (99, zo_ii (fun x y => x >>> (y &&& 31)) 100)]
noncomputable def p_X12_cake_3 : List (Nat × zO) := [(100, zo_push (.inl 1) 101),
  (101, zo_ii (fun x y => x &&& y) 102),
  (102, zo_iret),
  (103, zo_iload 2 104),
  (104, zo_push (.inl 6) 106),
  (106, zo_cne 116 109),
  (109, zo_aload 0 110),
  (110, zo_getR 12 47 none 113),
  (113, zo_iload 1 114),
  (114, zo_iald 115),
  (115, zo_iret),
  (116, zo_aload 0 117),
  (117, zo_getR 12 48 none 120),
  (120, zo_iload 1 121),
  (121, zo_iald 122),
  (122, zo_0ge 129 125),
  (125, zo_push (.inl zm1) 126),
  (126, zo_goto 142),
  (129, zo_aload 0 130),
  (130, zo_iload 1 131)]
noncomputable def p_X12_cake_4 : List (Nat × zO) := [(131, zo_vir 12 2 (zo_calli (f_X12_isFound) 2 134)),
  (134, zo_0eq 141 137),
  (137, zo_push (.inl 1) 138),
  (138, zo_goto 142),
  (141, zo_push (.inl 0) 142),
  (142, zo_iret)]
noncomputable def p_X12_cake : Nat → zO := zgs [(36, p_X12_cake_0), (69, p_X12_cake_1), (100, p_X12_cake_2), (131, p_X12_cake_3), (143, p_X12_cake_4)]
theorem t_X12_cake : ∀ k, zTl (p_X12_cake k) := fun k => zgs_all (c := [(36, p_X12_cake_0), (69, p_X12_cake_1), (100, p_X12_cake_2), (131, p_X12_cake_3), (143, p_X12_cake_4)]) (fun _ => zl_bad) ⟨⟨zl_aload, zl_push, zl_putI, zl_aload, zl_iload, (zl_vir zl_calli), zl_0eq, zl_iload, zl_push, zl_push, zl_calli, zl_0ne, zl_push, zl_iret, zl_iload, zl_push, zl_cge, zl_iload, zl_0ne, zl_aload, trivial⟩, ⟨zl_getR, zl_iload, zl_iald, zl_goto, zl_iload, zl_push, zl_cne, zl_aload, zl_getR, zl_push, zl_iload, zl_ii, zl_iald, zl_goto, zl_aload, zl_getR, zl_push, zl_iload, zl_ii, zl_iald, trivial⟩, ⟨zl_iret, zl_iload, zl_push, zl_cge, zl_iload, zl_push, zl_cne, zl_aload, zl_getR, zl_push, zl_iload, zl_ii, zl_iald, zl_goto, zl_aload, zl_getR, zl_push, zl_ialdc, zl_iload, zl_ii, trivial⟩, ⟨zl_push, zl_ii, zl_iret, zl_iload, zl_push, zl_cne, zl_aload, zl_getR, zl_iload, zl_iald, zl_iret, zl_aload, zl_getR, zl_iload, zl_iald, zl_0ge, zl_push, zl_goto, zl_aload, zl_iload, trivial⟩, ⟨(zl_vir zl_calli), zl_0eq, zl_push, zl_goto, zl_push, zl_iret, trivial⟩, trivial⟩ k
noncomputable def f_X12_cake : zS := zrun p_X12_cake 3
set_option maxRecDepth 20000 in
theorem s_X12_cake_0 {l : Launch} {D : va_G} {ad : Nat → Nat → Nat} {cy : Nat → ClassId} {L : List (Nat × Nat)} (hcl : zclo L = true) (hinj : zAd ad L) {X : zCtx} (hX : zXok X "SoapTreatyModel" prog_14_method_69_code 3) (hR : zRt X (some .int)) (hl : zXl X l D ad cy L (zroom 2)) : zAllR (zSo X) p_X12_cake_0 := ⟨zs_aload_n (i := 0) rfl hX (by decide +kernel : decode prog_14_method_69_code 0 = .ok (.aload_n 0, 1)) rfl (by decide),
  zs_pushI (zg_iconst (by decide) hX (by decide +kernel : decode prog_14_method_69_code 1 = .ok (.iconst 0, 1)) rfl),
  zs_putI hX zFP_12_139 (by decide +kernel : decode prog_14_method_69_code 2 = .ok (.putfield 139, 3)) rfl,
  zs_aload_n (i := 0) rfl hX (by decide +kernel : decode prog_14_method_69_code 5 = .ok (.aload_n 0, 1)) rfl (by decide),
  zs_iload_n (i := 1) rfl hX (by decide +kernel : decode prog_14_method_69_code 6 = .ok (.iload_n 1, 1)) rfl (by decide),
  zs_callVi hX zMV_12_421 (zXc_of hl (by decide) (k_X12_isCake hcl hinj)) (by decide +kernel : decode prog_14_method_69_code 7 = .ok (.invokevirtual 421, 3)) rfl,
  zs_0eq hX (by decide +kernel : decode prog_14_method_69_code 10 = .ok (.ifCond .eq 13, 3)) (by decide) rfl,
  zs_iload_n (i := 2) rfl hX (by decide +kernel : decode prog_14_method_69_code 13 = .ok (.iload_n 2, 1)) rfl (by decide),
  zs_pushI (zg_iconst (by decide) hX (by decide +kernel : decode prog_14_method_69_code 14 = .ok (.iconst 0, 1)) rfl),
  zs_pushI (zg_bipush (by decide) hX (by decide +kernel : decode prog_14_method_69_code 15 = .ok (.bipush 6, 2)) rfl),
  zs_callSi hX zMS_12_265 (zXc_of hl (by decide) (k_X12_within hcl hinj)) (by decide +kernel : decode prog_14_method_69_code 17 = .ok (.invokestatic 265, 3)) rfl,
  zs_0ne hX (by decide +kernel : decode prog_14_method_69_code 20 = .ok (.ifCond .ne 6, 3)) (by decide) rfl,
  zs_pushI (zg_bipush (by decide) hX (by decide +kernel : decode prog_14_method_69_code 23 = .ok (.bipush (-2), 2)) rfl),
  zs_iret hX hR (by decide +kernel : decode prog_14_method_69_code 25 = .ok (.ireturn, 1)),
  zs_iload_n (i := 2) rfl hX (by decide +kernel : decode prog_14_method_69_code 26 = .ok (.iload_n 2, 1)) rfl (by decide),
  zs_pushI (zg_iconst (by decide) hX (by decide +kernel : decode prog_14_method_69_code 27 = .ok (.iconst 3, 1)) rfl),
  zs_cge hX (by decide +kernel : decode prog_14_method_69_code 28 = .ok (.if_icmp .ge 42, 3)) (by decide) rfl,
  zs_iload_n (i := 2) rfl hX (by decide +kernel : decode prog_14_method_69_code 31 = .ok (.iload_n 2, 1)) rfl (by decide),
  zs_0ne hX (by decide +kernel : decode prog_14_method_69_code 32 = .ok (.ifCond .ne 12, 3)) (by decide) rfl,
  zs_aload_n (i := 0) rfl hX (by decide +kernel : decode prog_14_method_69_code 35 = .ok (.aload_n 0, 1)) rfl (by decide), trivial⟩
set_option maxRecDepth 20000 in
theorem s_X12_cake_1 {l : Launch} {D : va_G} {ad : Nat → Nat → Nat} {cy : Nat → ClassId} {L : List (Nat × Nat)} (hcl : zclo L = true) (hinj : zAd ad L) {X : zCtx} (hX : zXok X "SoapTreatyModel" prog_14_method_69_code 3) (hR : zRt X (some .int)) (hl : zXl X l D ad cy L (zroom 2)) : zAllR (zSo X) p_X12_cake_1 := ⟨zs_getR hX zFL_12_29 (by decide +kernel : decode prog_14_method_69_code 36 = .ok (.getfield 29, 3)) rfl,
  zs_iload_n (i := 1) rfl hX (by decide +kernel : decode prog_14_method_69_code 39 = .ok (.iload_n 1, 1)) rfl (by decide),
  zs_iald hX (by decide +kernel : decode prog_14_method_69_code 40 = .ok (.iaload, 1)) rfl,
  zs_goto hX (by decide +kernel : decode prog_14_method_69_code 41 = .ok (.goto 28, 3)) (by decide),
  zs_iload_n (i := 2) rfl hX (by decide +kernel : decode prog_14_method_69_code 44 = .ok (.iload_n 2, 1)) rfl (by decide),
  zs_pushI (zg_iconst (by decide) hX (by decide +kernel : decode prog_14_method_69_code 45 = .ok (.iconst 1, 1)) rfl),
  zs_cne hX (by decide +kernel : decode prog_14_method_69_code 46 = .ok (.if_icmp .ne 15, 3)) (by decide) rfl,
  zs_aload_n (i := 0) rfl hX (by decide +kernel : decode prog_14_method_69_code 49 = .ok (.aload_n 0, 1)) rfl (by decide),
  zs_getR hX zFL_12_114 (by decide +kernel : decode prog_14_method_69_code 50 = .ok (.getfield 114, 3)) rfl,
  zs_pushI (zg_bipush (by decide) hX (by decide +kernel : decode prog_14_method_69_code 53 = .ok (.bipush 10, 2)) rfl),
  zs_iload_n (i := 1) rfl hX (by decide +kernel : decode prog_14_method_69_code 55 = .ok (.iload_n 1, 1)) rfl (by decide),
  zs_ii (zg_iadd hX (by decide +kernel : decode prog_14_method_69_code 56 = .ok (.iadd, 1)) rfl),
  zs_iald hX (by decide +kernel : decode prog_14_method_69_code 57 = .ok (.iaload, 1)) rfl,
  zs_goto hX (by decide +kernel : decode prog_14_method_69_code 58 = .ok (.goto 11, 3)) (by decide),
  zs_aload_n (i := 0) rfl hX (by decide +kernel : decode prog_14_method_69_code 61 = .ok (.aload_n 0, 1)) rfl (by decide),
  zs_getR hX zFL_12_114 (by decide +kernel : decode prog_14_method_69_code 62 = .ok (.getfield 114, 3)) rfl,
  zs_pushI (zg_iconst (by decide) hX (by decide +kernel : decode prog_14_method_69_code 65 = .ok (.iconst 3, 1)) rfl),
  zs_iload_n (i := 1) rfl hX (by decide +kernel : decode prog_14_method_69_code 66 = .ok (.iload_n 1, 1)) rfl (by decide),
  zs_ii (zg_iadd hX (by decide +kernel : decode prog_14_method_69_code 67 = .ok (.iadd, 1)) rfl),
  zs_iald hX (by decide +kernel : decode prog_14_method_69_code 68 = .ok (.iaload, 1)) rfl, trivial⟩
set_option maxRecDepth 20000 in
theorem s_X12_cake_2 {l : Launch} {D : va_G} {ad : Nat → Nat → Nat} {cy : Nat → ClassId} {L : List (Nat × Nat)} (hcl : zclo L = true) (hinj : zAd ad L) {X : zCtx} (hX : zXok X "SoapTreatyModel" prog_14_method_69_code 3) (hR : zRt X (some .int)) (hl : zXl X l D ad cy L (zroom 2)) : zAllR (zSo X) p_X12_cake_2 := ⟨zs_iret hX hR (by decide +kernel : decode prog_14_method_69_code 69 = .ok (.ireturn, 1)),
  zs_iload_n (i := 2) rfl hX (by decide +kernel : decode prog_14_method_69_code 70 = .ok (.iload_n 2, 1)) rfl (by decide),
  zs_pushI (zg_iconst (by decide) hX (by decide +kernel : decode prog_14_method_69_code 71 = .ok (.iconst 5, 1)) rfl),
  zs_cge hX (by decide +kernel : decode prog_14_method_69_code 72 = .ok (.if_icmp .ge 31, 3)) (by decide) rfl,
  zs_iload_n (i := 2) rfl hX (by decide +kernel : decode prog_14_method_69_code 75 = .ok (.iload_n 2, 1)) rfl (by decide),
  zs_pushI (zg_iconst (by decide) hX (by decide +kernel : decode prog_14_method_69_code 76 = .ok (.iconst 3, 1)) rfl),
  zs_cne hX (by decide +kernel : decode prog_14_method_69_code 77 = .ok (.if_icmp .ne 15, 3)) (by decide) rfl,
  zs_aload_n (i := 0) rfl hX (by decide +kernel : decode prog_14_method_69_code 80 = .ok (.aload_n 0, 1)) rfl (by decide),
  zs_getR hX zFL_12_114 (by decide +kernel : decode prog_14_method_69_code 81 = .ok (.getfield 114, 3)) rfl,
  zs_pushI (zg_bipush (by decide) hX (by decide +kernel : decode prog_14_method_69_code 84 = .ok (.bipush 17, 2)) rfl),
  zs_iload_n (i := 1) rfl hX (by decide +kernel : decode prog_14_method_69_code 86 = .ok (.iload_n 1, 1)) rfl (by decide),
  zs_ii (zg_iadd hX (by decide +kernel : decode prog_14_method_69_code 87 = .ok (.iadd, 1)) rfl),
  zs_iald hX (by decide +kernel : decode prog_14_method_69_code 88 = .ok (.iaload, 1)) rfl,
  zs_goto hX (by decide +kernel : decode prog_14_method_69_code 89 = .ok (.goto 13, 3)) (by decide),
  zs_aload_n (i := 0) rfl hX (by decide +kernel : decode prog_14_method_69_code 92 = .ok (.aload_n 0, 1)) rfl (by decide),
  zs_getR hX zFL_12_114 (by decide +kernel : decode prog_14_method_69_code 93 = .ok (.getfield 114, 3)) rfl,
  zs_pushI (zg_iconst (by decide) hX (by decide +kernel : decode prog_14_method_69_code 96 = .ok (.iconst 2, 1)) rfl),
  zs_ialdc hX (by decide +kernel : decode prog_14_method_69_code 97 = .ok (.iaload, 1)) rfl,
  zs_iload_n (i := 1) rfl hX (by decide +kernel : decode prog_14_method_69_code 98 = .ok (.iload_n 1, 1)) rfl (by decide),
  zs_ii (zg_ishr hX (by decide +kernel : decode prog_14_method_69_code 99 = .ok (.ishr, 1)) rfl), trivial⟩
set_option maxRecDepth 20000 in
theorem s_X12_cake_3 {l : Launch} {D : va_G} {ad : Nat → Nat → Nat} {cy : Nat → ClassId} {L : List (Nat × Nat)} (hcl : zclo L = true) (hinj : zAd ad L) {X : zCtx} (hX : zXok X "SoapTreatyModel" prog_14_method_69_code 3) (hR : zRt X (some .int)) (hl : zXl X l D ad cy L (zroom 2)) : zAllR (zSo X) p_X12_cake_3 := ⟨zs_pushI (zg_iconst (by decide) hX (by decide +kernel : decode prog_14_method_69_code 100 = .ok (.iconst 1, 1)) rfl),
  zs_ii (zg_iand hX (by decide +kernel : decode prog_14_method_69_code 101 = .ok (.iand, 1)) rfl),
  zs_iret hX hR (by decide +kernel : decode prog_14_method_69_code 102 = .ok (.ireturn, 1)),
  zs_iload_n (i := 2) rfl hX (by decide +kernel : decode prog_14_method_69_code 103 = .ok (.iload_n 2, 1)) rfl (by decide),
  zs_pushI (zg_bipush (by decide) hX (by decide +kernel : decode prog_14_method_69_code 104 = .ok (.bipush 6, 2)) rfl),
  zs_cne hX (by decide +kernel : decode prog_14_method_69_code 106 = .ok (.if_icmp .ne 10, 3)) (by decide) rfl,
  zs_aload_n (i := 0) rfl hX (by decide +kernel : decode prog_14_method_69_code 109 = .ok (.aload_n 0, 1)) rfl (by decide),
  zs_getR hX zFL_12_38 (by decide +kernel : decode prog_14_method_69_code 110 = .ok (.getfield 38, 3)) rfl,
  zs_iload_n (i := 1) rfl hX (by decide +kernel : decode prog_14_method_69_code 113 = .ok (.iload_n 1, 1)) rfl (by decide),
  zs_iald hX (by decide +kernel : decode prog_14_method_69_code 114 = .ok (.iaload, 1)) rfl,
  zs_iret hX hR (by decide +kernel : decode prog_14_method_69_code 115 = .ok (.ireturn, 1)),
  zs_aload_n (i := 0) rfl hX (by decide +kernel : decode prog_14_method_69_code 116 = .ok (.aload_n 0, 1)) rfl (by decide),
  zs_getR hX zFL_12_41 (by decide +kernel : decode prog_14_method_69_code 117 = .ok (.getfield 41, 3)) rfl,
  zs_iload_n (i := 1) rfl hX (by decide +kernel : decode prog_14_method_69_code 120 = .ok (.iload_n 1, 1)) rfl (by decide),
  zs_iald hX (by decide +kernel : decode prog_14_method_69_code 121 = .ok (.iaload, 1)) rfl,
  zs_0ge hX (by decide +kernel : decode prog_14_method_69_code 122 = .ok (.ifCond .ge 7, 3)) (by decide) rfl,
  zs_pushI (zg_iconst (by decide) hX (by decide +kernel : decode prog_14_method_69_code 125 = .ok (.iconst (-1), 1)) rfl),
  zs_goto hX (by decide +kernel : decode prog_14_method_69_code 126 = .ok (.goto 16, 3)) (by decide),
  zs_aload_n (i := 0) rfl hX (by decide +kernel : decode prog_14_method_69_code 129 = .ok (.aload_n 0, 1)) rfl (by decide),
  zs_iload_n (i := 1) rfl hX (by decide +kernel : decode prog_14_method_69_code 130 = .ok (.iload_n 1, 1)) rfl (by decide), trivial⟩
set_option maxRecDepth 20000 in
theorem s_X12_cake_4 {l : Launch} {D : va_G} {ad : Nat → Nat → Nat} {cy : Nat → ClassId} {L : List (Nat × Nat)} (hcl : zclo L = true) (hinj : zAd ad L) {X : zCtx} (hX : zXok X "SoapTreatyModel" prog_14_method_69_code 3) (hR : zRt X (some .int)) (hl : zXl X l D ad cy L (zroom 2)) : zAllR (zSo X) p_X12_cake_4 := ⟨zs_callVi hX zMV_12_424 (zXc_of hl (by decide) (k_X12_isFound hcl hinj)) (by decide +kernel : decode prog_14_method_69_code 131 = .ok (.invokevirtual 424, 3)) rfl,
  zs_0eq hX (by decide +kernel : decode prog_14_method_69_code 134 = .ok (.ifCond .eq 7, 3)) (by decide) rfl,
  zs_pushI (zg_iconst (by decide) hX (by decide +kernel : decode prog_14_method_69_code 137 = .ok (.iconst 1, 1)) rfl),
  zs_goto hX (by decide +kernel : decode prog_14_method_69_code 138 = .ok (.goto 4, 3)) (by decide),
  zs_pushI (zg_iconst (by decide) hX (by decide +kernel : decode prog_14_method_69_code 141 = .ok (.iconst 0, 1)) rfl),
  zs_iret hX hR (by decide +kernel : decode prog_14_method_69_code 142 = .ok (.ireturn, 1)), trivial⟩
theorem k_X12_cake {l : Launch} {D : va_G} {ad : Nat → Nat → Nat} {cy : Nat → ClassId} {L : List (Nat × Nat)} (hcl : zclo L = true) (hinj : zAd ad L) : zCk l D ad cy L 2 f_X12_cake y_X12_cake (.code y_X12_cake prog_14_method_69_code 3 (some .int)) :=
  z_met (by decide) t_X12_cake hcl hinj (fun X hX hR hl k => zgs_all (Q := zSo X) (c := [(36, p_X12_cake_0), (69, p_X12_cake_1), (100, p_X12_cake_2), (131, p_X12_cake_3), (143, p_X12_cake_4)]) (fun _ => zs_bad) ⟨s_X12_cake_0 hcl hinj hX hR hl, s_X12_cake_1 hcl hinj hX hR hl, s_X12_cake_2 hcl hinj hX hR hl, s_X12_cake_3 hcl hinj hX hR hl, s_X12_cake_4 hcl hinj hX hR hl, trivial⟩ k)
set_option maxRecDepth 1000000 in
theorem e_X12_cake_0 (x1 : Int32) (x2 : Int32) (h : zH) : zL p_X12_cake 0 [some (.inr (.inr (12, 0))), some (.inl x1), some (.inl x2)] [] h = zci (f_X12_isCake [(.inr (.inr (12, 0))), (.inl x1)] (zuI h 12 0 0 0)) (fun r2 h1 => zf (r2 = 0) (some (some (.inl zm2), h1)) (zci (f_X12_within [(.inl x2), (.inl 0), (.inl 6)] h1) (fun r4 h3 => zf (r4 = 0) (some (some (.inl zm2), h3)) (zf (x2 < 3) (zf (x2 = 0) (zf (vp_in x1 14) (some (some (.inl (h3.1 44 0 x1.toNatClampNeg)), h3)) none) (zf (x2 = 1) (zf (vp_in ((10 : Int32) + x1) 24) (some (some (.inl (h3.1 72 0 ((10 : Int32) + x1).toNatClampNeg)), h3)) none) (zf (vp_in ((3 : Int32) + x1) 24) (some (some (.inl (h3.1 72 0 ((3 : Int32) + x1).toNatClampNeg)), h3)) none))) (zf (x2 < 5) (zf (x2 = 3) (zf (vp_in ((17 : Int32) + x1) 24) (some (some (.inl (h3.1 72 0 ((17 : Int32) + x1).toNatClampNeg)), h3)) none) (some (some (.inl (((h3.1 72 0 2) >>> (x1 &&& 31)) &&& (1 : Int32))), h3))) (zf (x2 = 6) (zf (vp_in x1 14) (some (some (.inl (h3.1 47 0 x1.toNatClampNeg)), h3)) none) (zf (vp_in x1 14) (zf ((h3.1 48 0 x1.toNatClampNeg) < 0) (some (some (.inl zm1), h3)) (zci (f_X12_isFound [(.inr (.inr (12, 0))), (.inl x1)] h3) (fun r6 h5 => zf (r6 = 0) (some (some (.inl 0), h5)) (some (some (.inl 1), h5))))) none))))))) := (zL_s (t_X12_cake) [0] 1000 0 _ _ _).trans rfl
theorem g_X12_cake (x1 : Int32) (x2 : Int32) (h : zH) : f_X12_cake [(.inr (.inr (12, 0))), (.inl x1), (.inl x2)] h = zci (f_X12_isCake [(.inr (.inr (12, 0))), (.inl x1)] (zuI h 12 0 0 0)) (fun r2 h1 => zf (r2 = 0) (some (some (.inl zm2), h1)) (zci (f_X12_within [(.inl x2), (.inl 0), (.inl 6)] h1) (fun r4 h3 => zf (r4 = 0) (some (some (.inl zm2), h3)) (zf (x2 < 3) (zf (x2 = 0) (zf (vp_in x1 14) (some (some (.inl (h3.1 44 0 x1.toNatClampNeg)), h3)) none) (zf (x2 = 1) (zf (vp_in ((10 : Int32) + x1) 24) (some (some (.inl (h3.1 72 0 ((10 : Int32) + x1).toNatClampNeg)), h3)) none) (zf (vp_in ((3 : Int32) + x1) 24) (some (some (.inl (h3.1 72 0 ((3 : Int32) + x1).toNatClampNeg)), h3)) none))) (zf (x2 < 5) (zf (x2 = 3) (zf (vp_in ((17 : Int32) + x1) 24) (some (some (.inl (h3.1 72 0 ((17 : Int32) + x1).toNatClampNeg)), h3)) none) (some (some (.inl (((h3.1 72 0 2) >>> (x1 &&& 31)) &&& (1 : Int32))), h3))) (zf (x2 = 6) (zf (vp_in x1 14) (some (some (.inl (h3.1 47 0 x1.toNatClampNeg)), h3)) none) (zf (vp_in x1 14) (zf ((h3.1 48 0 x1.toNatClampNeg) < 0) (some (some (.inl zm1), h3)) (zci (f_X12_isFound [(.inr (.inr (12, 0))), (.inl x1)] h3) (fun r6 h5 => zf (r6 = 0) (some (some (.inl 0), h5)) (some (some (.inl 1), h5))))) none))))))) := (show f_X12_cake _ h = zL p_X12_cake 0 _ [] h from rfl).trans (e_X12_cake_0 x1 x2 h)
theorem zMS_12_427 : zMS "SoapTreatyModel" 427 y_X12_copies prog_14_method_40_code 5 none 4 := ⟨⟨zT_of 1611 (by decide +kernel) (by decide +kernel), zT_of 1612 (by decide +kernel) (by decide +kernel), zT_of 118 (by decide +kernel) (by decide +kernel), zT_of 1613 (by decide +kernel) (by decide +kernel)⟩, by decide, by decide, by decide, by decide +kernel⟩
/-! SoapTreatyModel.keeps()V -/
def y_X12_keeps : MethodName := ⟨"SoapTreatyModel", "keeps", "()V"⟩
noncomputable def p_X12_keeps_0 : List (Nat × zO) := [(0, zo_aload 0 1),
  (1, zo_getI 12 53 4),
  (4, zo_push (.inl 16) 6),
  (6, zo_cne 49 9),
  (9, zo_push (.inl 0) 10),
  (10, zo_istore 1 11),
  (11, zo_iload 1 12),
  (12, zo_push (.inl 360) 15),
  (15, zo_cge 39 18),
  (18, zo_aload 0 19),
  (19, zo_getR 12 76 none 22),
  (22, zo_iload 1 23),
  (23, zo_aload 0 24),
  (24, zo_getR 12 76 none 27),
  (27, zo_iload 1 28),
  (28, zo_push (.inl 24) 30),
  (30, zo_ii (fun x y => x + y) 31),
  (31, zo_iald 32),
  (32, zo_iast 33),
  (33, zo_iinc 1 1 36)]
noncomputable def p_X12_keeps_1 : List (Nat × zO) := [(36, zo_goto 11),
  (39, zo_aload 0 40),
  (40, zo_dup 41),
  (41, zo_getI 12 53 44),
  (44, zo_push (.inl 1) 45),
  (45, zo_ii (fun x y => x - y) 46),
  (46, zo_putI 12 53 49),
  (49, zo_kill [1] (zo_aload 0 50)),
  (50, zo_getR 12 72 none 53),
  (53, zo_push (.inl 0) 54),
  (54, zo_aload 0 55),
  (55, zo_getR 12 76 none 58),
  (58, zo_push (.inl 24) 60),
  (60, zo_aload 0 61),
  (61, zo_getI 12 53 64),
  (64, zo_ii (fun x y => x * y) 65),
  (65, zo_callv (f_X12_copies) 4 68),
  (68, zo_aload 0 69),
  (69, zo_dup 70),
  (70, zo_getI 12 53 73)]
noncomputable def p_X12_keeps_2 : List (Nat × zO) := [(73, zo_push (.inl 1) 74),
  (74, zo_ii (fun x y => x + y) 75),
  (75, zo_putI 12 53 78),
  (78, zo_ret)]
noncomputable def p_X12_keeps : Nat → zO := zgs [(34, p_X12_keeps_0), (71, p_X12_keeps_1), (79, p_X12_keeps_2)]
theorem t_X12_keeps : ∀ k, zTl (p_X12_keeps k) := fun k => zgs_all (c := [(34, p_X12_keeps_0), (71, p_X12_keeps_1), (79, p_X12_keeps_2)]) (fun _ => zl_bad) ⟨⟨zl_aload, zl_getI, zl_push, zl_cne, zl_push, zl_istore, zl_iload, zl_push, zl_cge, zl_aload, zl_getR, zl_iload, zl_aload, zl_getR, zl_iload, zl_push, zl_ii, zl_iald, zl_iast, zl_iinc, trivial⟩, ⟨zl_goto, zl_aload, zl_dup, zl_getI, zl_push, zl_ii, zl_putI, (zl_kill zl_aload), zl_getR, zl_push, zl_aload, zl_getR, zl_push, zl_aload, zl_getI, zl_ii, zl_callv, zl_aload, zl_dup, zl_getI, trivial⟩, ⟨zl_push, zl_ii, zl_putI, zl_ret, trivial⟩, trivial⟩ k
noncomputable def f_X12_keeps : zS := zrun p_X12_keeps 2
set_option maxRecDepth 20000 in
theorem s_X12_keeps_0 {l : Launch} {D : va_G} {ad : Nat → Nat → Nat} {cy : Nat → ClassId} {L : List (Nat × Nat)} (hcl : zclo L = true) (hinj : zAd ad L) {X : zCtx} (hX : zXok X "SoapTreatyModel" prog_14_method_70_code 2) (hR : zRt X none) (hl : zXl X l D ad cy L (zroom 2)) : zAllR (zSo X) p_X12_keeps_0 := ⟨zs_aload_n (i := 0) rfl hX (by decide +kernel : decode prog_14_method_70_code 0 = .ok (.aload_n 0, 1)) rfl (by decide),
  zs_getI hX zFL_12_350 (by decide) (by decide) (by decide +kernel : decode prog_14_method_70_code 1 = .ok (.getfield 350, 3)) rfl,
  zs_pushI (zg_bipush (by decide) hX (by decide +kernel : decode prog_14_method_70_code 4 = .ok (.bipush 16, 2)) rfl),
  zs_cne hX (by decide +kernel : decode prog_14_method_70_code 6 = .ok (.if_icmp .ne 43, 3)) (by decide) rfl,
  zs_pushI (zg_iconst (by decide) hX (by decide +kernel : decode prog_14_method_70_code 9 = .ok (.iconst 0, 1)) rfl),
  zs_istore_n (i := 1) rfl hX (by decide +kernel : decode prog_14_method_70_code 10 = .ok (.istore_n 1, 1)) rfl (by decide),
  zs_iload_n (i := 1) rfl hX (by decide +kernel : decode prog_14_method_70_code 11 = .ok (.iload_n 1, 1)) rfl (by decide),
  zs_pushI (zg_sipush (by decide) hX (by decide +kernel : decode prog_14_method_70_code 12 = .ok (.sipush 360, 3)) rfl),
  zs_cge hX (by decide +kernel : decode prog_14_method_70_code 15 = .ok (.if_icmp .ge 24, 3)) (by decide) rfl,
  zs_aload_n (i := 0) rfl hX (by decide +kernel : decode prog_14_method_70_code 18 = .ok (.aload_n 0, 1)) rfl (by decide),
  zs_getR hX zFL_12_126 (by decide +kernel : decode prog_14_method_70_code 19 = .ok (.getfield 126, 3)) rfl,
  zs_iload_n (i := 1) rfl hX (by decide +kernel : decode prog_14_method_70_code 22 = .ok (.iload_n 1, 1)) rfl (by decide),
  zs_aload_n (i := 0) rfl hX (by decide +kernel : decode prog_14_method_70_code 23 = .ok (.aload_n 0, 1)) rfl (by decide),
  zs_getR hX zFL_12_126 (by decide +kernel : decode prog_14_method_70_code 24 = .ok (.getfield 126, 3)) rfl,
  zs_iload_n (i := 1) rfl hX (by decide +kernel : decode prog_14_method_70_code 27 = .ok (.iload_n 1, 1)) rfl (by decide),
  zs_pushI (zg_bipush (by decide) hX (by decide +kernel : decode prog_14_method_70_code 28 = .ok (.bipush 24, 2)) rfl),
  zs_ii (zg_iadd hX (by decide +kernel : decode prog_14_method_70_code 30 = .ok (.iadd, 1)) rfl),
  zs_iald hX (by decide +kernel : decode prog_14_method_70_code 31 = .ok (.iaload, 1)) rfl,
  zs_iast hX (by decide +kernel : decode prog_14_method_70_code 32 = .ok (.iastore, 1)) rfl,
  zs_iinc hX (by decide +kernel : decode prog_14_method_70_code 33 = .ok (.iinc 1 1, 3)) (by decide) rfl (by decide), trivial⟩
set_option maxRecDepth 20000 in
theorem s_X12_keeps_1 {l : Launch} {D : va_G} {ad : Nat → Nat → Nat} {cy : Nat → ClassId} {L : List (Nat × Nat)} (hcl : zclo L = true) (hinj : zAd ad L) {X : zCtx} (hX : zXok X "SoapTreatyModel" prog_14_method_70_code 2) (hR : zRt X none) (hl : zXl X l D ad cy L (zroom 2)) : zAllR (zSo X) p_X12_keeps_1 := ⟨zs_goto hX (by decide +kernel : decode prog_14_method_70_code 36 = .ok (.goto (-25), 3)) (by decide),
  zs_aload_n (i := 0) rfl hX (by decide +kernel : decode prog_14_method_70_code 39 = .ok (.aload_n 0, 1)) rfl (by decide),
  zs_dup hX (by decide +kernel : decode prog_14_method_70_code 40 = .ok (.dup, 1)) rfl,
  zs_getI hX zFL_12_350 (by decide) (by decide) (by decide +kernel : decode prog_14_method_70_code 41 = .ok (.getfield 350, 3)) rfl,
  zs_pushI (zg_iconst (by decide) hX (by decide +kernel : decode prog_14_method_70_code 44 = .ok (.iconst 1, 1)) rfl),
  zs_ii (zg_isub hX (by decide +kernel : decode prog_14_method_70_code 45 = .ok (.isub, 1)) rfl),
  zs_putI hX zFP_12_350 (by decide +kernel : decode prog_14_method_70_code 46 = .ok (.putfield 350, 3)) rfl,
  zs_kill hX (by decide) (zs_aload_n (i := 0) rfl hX (by decide +kernel : decode prog_14_method_70_code 49 = .ok (.aload_n 0, 1)) rfl (by decide)),
  zs_getR hX zFL_12_114 (by decide +kernel : decode prog_14_method_70_code 50 = .ok (.getfield 114, 3)) rfl,
  zs_pushI (zg_iconst (by decide) hX (by decide +kernel : decode prog_14_method_70_code 53 = .ok (.iconst 0, 1)) rfl),
  zs_aload_n (i := 0) rfl hX (by decide +kernel : decode prog_14_method_70_code 54 = .ok (.aload_n 0, 1)) rfl (by decide),
  zs_getR hX zFL_12_126 (by decide +kernel : decode prog_14_method_70_code 55 = .ok (.getfield 126, 3)) rfl,
  zs_pushI (zg_bipush (by decide) hX (by decide +kernel : decode prog_14_method_70_code 58 = .ok (.bipush 24, 2)) rfl),
  zs_aload_n (i := 0) rfl hX (by decide +kernel : decode prog_14_method_70_code 60 = .ok (.aload_n 0, 1)) rfl (by decide),
  zs_getI hX zFL_12_350 (by decide) (by decide) (by decide +kernel : decode prog_14_method_70_code 61 = .ok (.getfield 350, 3)) rfl,
  zs_ii (zg_imul hX (by decide +kernel : decode prog_14_method_70_code 64 = .ok (.imul, 1)) rfl),
  zs_callSv hX zMS_12_427 (zXc_of hl (by decide) (k_X12_copies hcl hinj)) (by decide +kernel : decode prog_14_method_70_code 65 = .ok (.invokestatic 427, 3)) rfl,
  zs_aload_n (i := 0) rfl hX (by decide +kernel : decode prog_14_method_70_code 68 = .ok (.aload_n 0, 1)) rfl (by decide),
  zs_dup hX (by decide +kernel : decode prog_14_method_70_code 69 = .ok (.dup, 1)) rfl,
  zs_getI hX zFL_12_350 (by decide) (by decide) (by decide +kernel : decode prog_14_method_70_code 70 = .ok (.getfield 350, 3)) rfl, trivial⟩
set_option maxRecDepth 20000 in
theorem s_X12_keeps_2 {l : Launch} {D : va_G} {ad : Nat → Nat → Nat} {cy : Nat → ClassId} {L : List (Nat × Nat)} (hcl : zclo L = true) (hinj : zAd ad L) {X : zCtx} (hX : zXok X "SoapTreatyModel" prog_14_method_70_code 2) (hR : zRt X none) (hl : zXl X l D ad cy L (zroom 2)) : zAllR (zSo X) p_X12_keeps_2 := ⟨zs_pushI (zg_iconst (by decide) hX (by decide +kernel : decode prog_14_method_70_code 73 = .ok (.iconst 1, 1)) rfl),
  zs_ii (zg_iadd hX (by decide +kernel : decode prog_14_method_70_code 74 = .ok (.iadd, 1)) rfl),
  zs_putI hX zFP_12_350 (by decide +kernel : decode prog_14_method_70_code 75 = .ok (.putfield 350, 3)) rfl,
  zs_ret hX hR (by decide +kernel : decode prog_14_method_70_code 78 = .ok (.return_, 1)), trivial⟩
theorem k_X12_keeps {l : Launch} {D : va_G} {ad : Nat → Nat → Nat} {cy : Nat → ClassId} {L : List (Nat × Nat)} (hcl : zclo L = true) (hinj : zAd ad L) : zCk l D ad cy L 2 f_X12_keeps y_X12_keeps (.code y_X12_keeps prog_14_method_70_code 2 none) :=
  z_met (by decide) t_X12_keeps hcl hinj (fun X hX hR hl k => zgs_all (Q := zSo X) (c := [(34, p_X12_keeps_0), (71, p_X12_keeps_1), (79, p_X12_keeps_2)]) (fun _ => zs_bad) ⟨s_X12_keeps_0 hcl hinj hX hR hl, s_X12_keeps_1 hcl hinj hX hR hl, s_X12_keeps_2 hcl hinj hX hR hl, trivial⟩ k)
set_option maxRecDepth 1000000 in
theorem e_X12_keeps_0 (h : zH) : zL p_X12_keeps 0 [some (.inr (.inr (12, 0))), none] [] h = zf ((h.1 12 0 53) = 16) (zL p_X12_keeps 11 [some (.inr (.inr (12, 0))), some (.inl 0)] [] h) (zL p_X12_keeps 49 [some (.inr (.inr (12, 0))), none] [] h) := (zL_s (t_X12_keeps) [0, 11, 49] 1000 0 _ _ _).trans rfl
theorem g_X12_keeps (h : zH) : f_X12_keeps [(.inr (.inr (12, 0)))] h = zf ((h.1 12 0 53) = 16) (zL p_X12_keeps 11 [some (.inr (.inr (12, 0))), some (.inl 0)] [] h) (zL p_X12_keeps 49 [some (.inr (.inr (12, 0))), none] [] h) := (show f_X12_keeps _ h = zL p_X12_keeps 0 _ [] h from rfl).trans (e_X12_keeps_0 h)
set_option maxRecDepth 1000000 in
theorem e_X12_keeps_11 (x1 : Int32) (h : zH) : zL p_X12_keeps 11 [some (.inr (.inr (12, 0))), some (.inl x1)] [] h = zf (x1 < 360) (zf (vp_in (x1 + (24 : Int32)) 384) (zf (vp_in x1 384) (zL p_X12_keeps 11 [some (.inr (.inr (12, 0))), some (.inl (x1 + 1))] [] (zuI h 76 0 x1.toNatClampNeg (h.1 76 0 (x1 + (24 : Int32)).toNatClampNeg))) none) none) (zL p_X12_keeps 49 [some (.inr (.inr (12, 0))), some (.inl x1)] [] (zuI h 12 0 53 ((h.1 12 0 53) - (1 : Int32)))) := (zL_s (t_X12_keeps) [0, 11, 49] 1000 11 _ _ _).trans rfl
set_option maxRecDepth 1000000 in
theorem e_X12_keeps_49 (o1 : Option zV) (h : zH) : zL p_X12_keeps 49 [some (.inr (.inr (12, 0))), o1] [] h = zcv (f_X12_copies [(.inr (.inr (72, 0))), (.inl 0), (.inr (.inr (76, 0))), (.inl ((24 : Int32) * (h.1 12 0 53)))] h) (fun h1 => some (none, (zuI h1 12 0 53 ((h1.1 12 0 53) + (1 : Int32))))) := (zL_s (t_X12_keeps) [0, 11, 49] 1000 49 _ _ _).trans rfl
theorem zMV_12_431 : zMV "SoapTreatyModel" 431 12 y_X12_keeps prog_14_method_70_code 2 none 0 := ⟨⟨zT_of 1607 (by decide +kernel) (by decide +kernel), zT_of 1609 (by decide +kernel) (by decide +kernel), zT_of 76 (by decide +kernel) (by decide +kernel), zT_of 118 (by decide +kernel) (by decide +kernel), zT_of 1610 (by decide +kernel) (by decide +kernel)⟩, by decide, rfl, ⟨zT12, 57, rfl⟩, by decide, by decide, by decide +kernel⟩
/-! SoapTreatyModel.wash(I)I -/
def y_X12_wash : MethodName := ⟨"SoapTreatyModel", "wash", "(I)I"⟩
noncomputable def p_X12_wash_0 : List (Nat × zO) := [(0, zo_aload 0 1),
  (1, zo_push (.inl 0) 2),
  (2, zo_putI 12 0 5),
  (5, zo_aload 0 6),
  (6, zo_iload 1 7),
  (7, zo_vir 12 2 (zo_calli (f_X12_isCake) 2 10)),
  (10, zo_0eq 21 13),
  (13, zo_aload 0 14),
  (14, zo_iload 1 15),
  (15, zo_vir 12 2 (zo_calli (f_X12_canWash) 2 18)),
  (18, zo_0ne 23 21),
  (21, zo_push (.inl zm1) 22),
  (22, zo_iret),
  (23, zo_aload 0 24),
  (24, zo_vir 12 1 (zo_callv (f_X12_keeps) 1 27)),
  (27, zo_aload 0 28),
  (28, zo_iload 1 29),
  (29, zo_vir 12 2 (zo_callv (f_X12_washes) 2 32)),
  (32, zo_aload 0 33),
  (33, zo_getR 12 72 none 36)]
noncomputable def p_X12_wash_1 : List (Nat × zO) := [(36, zo_push (.inl 3) 37),
  (37, zo_iload 1 38),
  (38, zo_ii (fun x y => x + y) 39),
  (39, zo_iald 40),
  (40, zo_iret)]
noncomputable def p_X12_wash : Nat → zO := zgs [(34, p_X12_wash_0), (41, p_X12_wash_1)]
theorem t_X12_wash : ∀ k, zTl (p_X12_wash k) := fun k => zgs_all (c := [(34, p_X12_wash_0), (41, p_X12_wash_1)]) (fun _ => zl_bad) ⟨⟨zl_aload, zl_push, zl_putI, zl_aload, zl_iload, (zl_vir zl_calli), zl_0eq, zl_aload, zl_iload, (zl_vir zl_calli), zl_0ne, zl_push, zl_iret, zl_aload, (zl_vir zl_callv), zl_aload, zl_iload, (zl_vir zl_callv), zl_aload, zl_getR, trivial⟩, ⟨zl_push, zl_iload, zl_ii, zl_iald, zl_iret, trivial⟩, trivial⟩ k
noncomputable def f_X12_wash : zS := zrun p_X12_wash 2
set_option maxRecDepth 20000 in
theorem s_X12_wash_0 {l : Launch} {D : va_G} {ad : Nat → Nat → Nat} {cy : Nat → ClassId} {L : List (Nat × Nat)} (hcl : zclo L = true) (hinj : zAd ad L) {X : zCtx} (hX : zXok X "SoapTreatyModel" prog_14_method_71_code 2) (hR : zRt X (some .int)) (hl : zXl X l D ad cy L (zroom 5)) : zAllR (zSo X) p_X12_wash_0 := ⟨zs_aload_n (i := 0) rfl hX (by decide +kernel : decode prog_14_method_71_code 0 = .ok (.aload_n 0, 1)) rfl (by decide),
  zs_pushI (zg_iconst (by decide) hX (by decide +kernel : decode prog_14_method_71_code 1 = .ok (.iconst 0, 1)) rfl),
  zs_putI hX zFP_12_139 (by decide +kernel : decode prog_14_method_71_code 2 = .ok (.putfield 139, 3)) rfl,
  zs_aload_n (i := 0) rfl hX (by decide +kernel : decode prog_14_method_71_code 5 = .ok (.aload_n 0, 1)) rfl (by decide),
  zs_iload_n (i := 1) rfl hX (by decide +kernel : decode prog_14_method_71_code 6 = .ok (.iload_n 1, 1)) rfl (by decide),
  zs_callVi hX zMV_12_421 (zXc_of hl (by decide) (k_X12_isCake hcl hinj)) (by decide +kernel : decode prog_14_method_71_code 7 = .ok (.invokevirtual 421, 3)) rfl,
  zs_0eq hX (by decide +kernel : decode prog_14_method_71_code 10 = .ok (.ifCond .eq 11, 3)) (by decide) rfl,
  zs_aload_n (i := 0) rfl hX (by decide +kernel : decode prog_14_method_71_code 13 = .ok (.aload_n 0, 1)) rfl (by decide),
  zs_iload_n (i := 1) rfl hX (by decide +kernel : decode prog_14_method_71_code 14 = .ok (.iload_n 1, 1)) rfl (by decide),
  zs_callVi hX zMV_12_382 (zXc_of hl (by decide) (k_X12_canWash hcl hinj)) (by decide +kernel : decode prog_14_method_71_code 15 = .ok (.invokevirtual 382, 3)) rfl,
  zs_0ne hX (by decide +kernel : decode prog_14_method_71_code 18 = .ok (.ifCond .ne 5, 3)) (by decide) rfl,
  zs_pushI (zg_iconst (by decide) hX (by decide +kernel : decode prog_14_method_71_code 21 = .ok (.iconst (-1), 1)) rfl),
  zs_iret hX hR (by decide +kernel : decode prog_14_method_71_code 22 = .ok (.ireturn, 1)),
  zs_aload_n (i := 0) rfl hX (by decide +kernel : decode prog_14_method_71_code 23 = .ok (.aload_n 0, 1)) rfl (by decide),
  zs_callVv hX zMV_12_431 (zXc_of hl (by decide) (k_X12_keeps hcl hinj)) (by decide +kernel : decode prog_14_method_71_code 24 = .ok (.invokevirtual 431, 3)) rfl,
  zs_aload_n (i := 0) rfl hX (by decide +kernel : decode prog_14_method_71_code 27 = .ok (.aload_n 0, 1)) rfl (by decide),
  zs_iload_n (i := 1) rfl hX (by decide +kernel : decode prog_14_method_71_code 28 = .ok (.iload_n 1, 1)) rfl (by decide),
  zs_callVv hX zMV_12_388 (zXc_of hl (by decide) (k_X12_washes hcl hinj)) (by decide +kernel : decode prog_14_method_71_code 29 = .ok (.invokevirtual 388, 3)) rfl,
  zs_aload_n (i := 0) rfl hX (by decide +kernel : decode prog_14_method_71_code 32 = .ok (.aload_n 0, 1)) rfl (by decide),
  zs_getR hX zFL_12_114 (by decide +kernel : decode prog_14_method_71_code 33 = .ok (.getfield 114, 3)) rfl, trivial⟩
set_option maxRecDepth 20000 in
theorem s_X12_wash_1 {l : Launch} {D : va_G} {ad : Nat → Nat → Nat} {cy : Nat → ClassId} {L : List (Nat × Nat)} (hcl : zclo L = true) (hinj : zAd ad L) {X : zCtx} (hX : zXok X "SoapTreatyModel" prog_14_method_71_code 2) (hR : zRt X (some .int)) (hl : zXl X l D ad cy L (zroom 5)) : zAllR (zSo X) p_X12_wash_1 := ⟨zs_pushI (zg_iconst (by decide) hX (by decide +kernel : decode prog_14_method_71_code 36 = .ok (.iconst 3, 1)) rfl),
  zs_iload_n (i := 1) rfl hX (by decide +kernel : decode prog_14_method_71_code 37 = .ok (.iload_n 1, 1)) rfl (by decide),
  zs_ii (zg_iadd hX (by decide +kernel : decode prog_14_method_71_code 38 = .ok (.iadd, 1)) rfl),
  zs_iald hX (by decide +kernel : decode prog_14_method_71_code 39 = .ok (.iaload, 1)) rfl,
  zs_iret hX hR (by decide +kernel : decode prog_14_method_71_code 40 = .ok (.ireturn, 1)), trivial⟩
theorem k_X12_wash {l : Launch} {D : va_G} {ad : Nat → Nat → Nat} {cy : Nat → ClassId} {L : List (Nat × Nat)} (hcl : zclo L = true) (hinj : zAd ad L) : zCk l D ad cy L 5 f_X12_wash y_X12_wash (.code y_X12_wash prog_14_method_71_code 2 (some .int)) :=
  z_met (by decide) t_X12_wash hcl hinj (fun X hX hR hl k => zgs_all (Q := zSo X) (c := [(34, p_X12_wash_0), (41, p_X12_wash_1)]) (fun _ => zs_bad) ⟨s_X12_wash_0 hcl hinj hX hR hl, s_X12_wash_1 hcl hinj hX hR hl, trivial⟩ k)
set_option maxRecDepth 1000000 in
theorem e_X12_wash_0 (x1 : Int32) (h : zH) : zL p_X12_wash 0 [some (.inr (.inr (12, 0))), some (.inl x1)] [] h = zci (f_X12_isCake [(.inr (.inr (12, 0))), (.inl x1)] (zuI h 12 0 0 0)) (fun r2 h1 => zf (r2 = 0) (some (some (.inl zm1), h1)) (zci (f_X12_canWash [(.inr (.inr (12, 0))), (.inl x1)] h1) (fun r4 h3 => zf (r4 = 0) (some (some (.inl zm1), h3)) (zcv (f_X12_keeps [(.inr (.inr (12, 0)))] h3) (fun h5 => zcv (f_X12_washes [(.inr (.inr (12, 0))), (.inl x1)] h5) (fun h6 => zf (vp_in ((3 : Int32) + x1) 24) (some (some (.inl (h6.1 72 0 ((3 : Int32) + x1).toNatClampNeg)), h6)) none)))))) := (zL_s (t_X12_wash) [0] 1000 0 _ _ _).trans rfl
theorem g_X12_wash (x1 : Int32) (h : zH) : f_X12_wash [(.inr (.inr (12, 0))), (.inl x1)] h = zci (f_X12_isCake [(.inr (.inr (12, 0))), (.inl x1)] (zuI h 12 0 0 0)) (fun r2 h1 => zf (r2 = 0) (some (some (.inl zm1), h1)) (zci (f_X12_canWash [(.inr (.inr (12, 0))), (.inl x1)] h1) (fun r4 h3 => zf (r4 = 0) (some (some (.inl zm1), h3)) (zcv (f_X12_keeps [(.inr (.inr (12, 0)))] h3) (fun h5 => zcv (f_X12_washes [(.inr (.inr (12, 0))), (.inl x1)] h5) (fun h6 => zf (vp_in ((3 : Int32) + x1) 24) (some (some (.inl (h6.1 72 0 ((3 : Int32) + x1).toNatClampNeg)), h6)) none)))))) := (show f_X12_wash _ h = zL p_X12_wash 0 _ [] h from rfl).trans (e_X12_wash_0 x1 h)
/-! SoapTreatyModel.hair(I)Z -/
def y_X12_hair : MethodName := ⟨"SoapTreatyModel", "hair", "(I)Z"⟩
noncomputable def p_X12_hair_0 : List (Nat × zO) := [(0, zo_aload 0 1),
  (1, zo_push (.inl 0) 2),
  (2, zo_putI 12 0 5),
  (5, zo_aload 0 6),
  (6, zo_iload 1 7),
  (7, zo_vir 12 2 (zo_calli (f_X12_isCake) 2 10)),
  (10, zo_0eq 21 13),
  (13, zo_aload 0 14),
  (14, zo_iload 1 15),
  (15, zo_vir 12 2 (zo_calli (f_X12_canWash) 2 18)),
  (18, zo_0ne 23 21),
  (21, zo_push (.inl 0) 22),
  (22, zo_zretc),
  (23, zo_aload 0 24),
  (24, zo_vir 12 1 (zo_callv (f_X12_keeps) 1 27)),
  (27, zo_aload 0 28),
  (28, zo_getR 12 72 none 31),
  (31, zo_push (.inl 2) 32),
  (32, zo_dup2 33),
  (33, zo_ialdc 34)]
noncomputable def p_X12_hair_1 : List (Nat × zO) := [(34, zo_push (.inl 1) 35),
  (35, zo_iload 1 36),
  (36, zo_ii (fun x y => x <<< (y &&& 31)) 37),
  (37, zo_ii (fun x y => x ||| y) 38),
  (38, zo_iastc 39),
  (39, zo_push (.inl 1) 40),
  (40, zo_zretc)]
noncomputable def p_X12_hair : Nat → zO := zgs [(34, p_X12_hair_0), (41, p_X12_hair_1)]
theorem t_X12_hair : ∀ k, zTl (p_X12_hair k) := fun k => zgs_all (c := [(34, p_X12_hair_0), (41, p_X12_hair_1)]) (fun _ => zl_bad) ⟨⟨zl_aload, zl_push, zl_putI, zl_aload, zl_iload, (zl_vir zl_calli), zl_0eq, zl_aload, zl_iload, (zl_vir zl_calli), zl_0ne, zl_push, zl_zretc, zl_aload, (zl_vir zl_callv), zl_aload, zl_getR, zl_push, zl_dup2, zl_ialdc, trivial⟩, ⟨zl_push, zl_iload, zl_ii, zl_ii, zl_iastc, zl_push, zl_zretc, trivial⟩, trivial⟩ k
noncomputable def f_X12_hair : zS := zrun p_X12_hair 2
set_option maxRecDepth 20000 in
theorem s_X12_hair_0 {l : Launch} {D : va_G} {ad : Nat → Nat → Nat} {cy : Nat → ClassId} {L : List (Nat × Nat)} (hcl : zclo L = true) (hinj : zAd ad L) {X : zCtx} (hX : zXok X "SoapTreatyModel" prog_14_method_72_code 2) (hR : zRt X (some .boolean)) (hl : zXl X l D ad cy L (zroom 3)) : zAllR (zSo X) p_X12_hair_0 := ⟨zs_aload_n (i := 0) rfl hX (by decide +kernel : decode prog_14_method_72_code 0 = .ok (.aload_n 0, 1)) rfl (by decide),
  zs_pushI (zg_iconst (by decide) hX (by decide +kernel : decode prog_14_method_72_code 1 = .ok (.iconst 0, 1)) rfl),
  zs_putI hX zFP_12_139 (by decide +kernel : decode prog_14_method_72_code 2 = .ok (.putfield 139, 3)) rfl,
  zs_aload_n (i := 0) rfl hX (by decide +kernel : decode prog_14_method_72_code 5 = .ok (.aload_n 0, 1)) rfl (by decide),
  zs_iload_n (i := 1) rfl hX (by decide +kernel : decode prog_14_method_72_code 6 = .ok (.iload_n 1, 1)) rfl (by decide),
  zs_callVi hX zMV_12_421 (zXc_of hl (by decide) (k_X12_isCake hcl hinj)) (by decide +kernel : decode prog_14_method_72_code 7 = .ok (.invokevirtual 421, 3)) rfl,
  zs_0eq hX (by decide +kernel : decode prog_14_method_72_code 10 = .ok (.ifCond .eq 11, 3)) (by decide) rfl,
  zs_aload_n (i := 0) rfl hX (by decide +kernel : decode prog_14_method_72_code 13 = .ok (.aload_n 0, 1)) rfl (by decide),
  zs_iload_n (i := 1) rfl hX (by decide +kernel : decode prog_14_method_72_code 14 = .ok (.iload_n 1, 1)) rfl (by decide),
  zs_callVi hX zMV_12_382 (zXc_of hl (by decide) (k_X12_canWash hcl hinj)) (by decide +kernel : decode prog_14_method_72_code 15 = .ok (.invokevirtual 382, 3)) rfl,
  zs_0ne hX (by decide +kernel : decode prog_14_method_72_code 18 = .ok (.ifCond .ne 5, 3)) (by decide) rfl,
  zs_pushI (zg_iconst (by decide) hX (by decide +kernel : decode prog_14_method_72_code 21 = .ok (.iconst 0, 1)) rfl),
  zs_zretc hX hR (by decide +kernel : decode prog_14_method_72_code 22 = .ok (.ireturn, 1)),
  zs_aload_n (i := 0) rfl hX (by decide +kernel : decode prog_14_method_72_code 23 = .ok (.aload_n 0, 1)) rfl (by decide),
  zs_callVv hX zMV_12_431 (zXc_of hl (by decide) (k_X12_keeps hcl hinj)) (by decide +kernel : decode prog_14_method_72_code 24 = .ok (.invokevirtual 431, 3)) rfl,
  zs_aload_n (i := 0) rfl hX (by decide +kernel : decode prog_14_method_72_code 27 = .ok (.aload_n 0, 1)) rfl (by decide),
  zs_getR hX zFL_12_114 (by decide +kernel : decode prog_14_method_72_code 28 = .ok (.getfield 114, 3)) rfl,
  zs_pushI (zg_iconst (by decide) hX (by decide +kernel : decode prog_14_method_72_code 31 = .ok (.iconst 2, 1)) rfl),
  zs_dup2 hX (by decide +kernel : decode prog_14_method_72_code 32 = .ok (.dup2, 1)) rfl,
  zs_ialdc hX (by decide +kernel : decode prog_14_method_72_code 33 = .ok (.iaload, 1)) rfl, trivial⟩
set_option maxRecDepth 20000 in
theorem s_X12_hair_1 {l : Launch} {D : va_G} {ad : Nat → Nat → Nat} {cy : Nat → ClassId} {L : List (Nat × Nat)} (hcl : zclo L = true) (hinj : zAd ad L) {X : zCtx} (hX : zXok X "SoapTreatyModel" prog_14_method_72_code 2) (hR : zRt X (some .boolean)) (hl : zXl X l D ad cy L (zroom 3)) : zAllR (zSo X) p_X12_hair_1 := ⟨zs_pushI (zg_iconst (by decide) hX (by decide +kernel : decode prog_14_method_72_code 34 = .ok (.iconst 1, 1)) rfl),
  zs_iload_n (i := 1) rfl hX (by decide +kernel : decode prog_14_method_72_code 35 = .ok (.iload_n 1, 1)) rfl (by decide),
  zs_ii (zg_ishl hX (by decide +kernel : decode prog_14_method_72_code 36 = .ok (.ishl, 1)) rfl),
  zs_ii (zg_ior hX (by decide +kernel : decode prog_14_method_72_code 37 = .ok (.ior, 1)) rfl),
  zs_iastc hX (by decide +kernel : decode prog_14_method_72_code 38 = .ok (.iastore, 1)) rfl,
  zs_pushI (zg_iconst (by decide) hX (by decide +kernel : decode prog_14_method_72_code 39 = .ok (.iconst 1, 1)) rfl),
  zs_zretc hX hR (by decide +kernel : decode prog_14_method_72_code 40 = .ok (.ireturn, 1)), trivial⟩
theorem k_X12_hair {l : Launch} {D : va_G} {ad : Nat → Nat → Nat} {cy : Nat → ClassId} {L : List (Nat × Nat)} (hcl : zclo L = true) (hinj : zAd ad L) : zCk l D ad cy L 3 f_X12_hair y_X12_hair (.code y_X12_hair prog_14_method_72_code 2 (some .boolean)) :=
  z_met (by decide) t_X12_hair hcl hinj (fun X hX hR hl k => zgs_all (Q := zSo X) (c := [(34, p_X12_hair_0), (41, p_X12_hair_1)]) (fun _ => zs_bad) ⟨s_X12_hair_0 hcl hinj hX hR hl, s_X12_hair_1 hcl hinj hX hR hl, trivial⟩ k)
set_option maxRecDepth 1000000 in
theorem e_X12_hair_0 (x1 : Int32) (h : zH) : zL p_X12_hair 0 [some (.inr (.inr (12, 0))), some (.inl x1)] [] h = zci (f_X12_isCake [(.inr (.inr (12, 0))), (.inl x1)] (zuI h 12 0 0 0)) (fun r2 h1 => zf (r2 = 0) (some (some (.inl 0), h1)) (zci (f_X12_canWash [(.inr (.inr (12, 0))), (.inl x1)] h1) (fun r4 h3 => zf (r4 = 0) (some (some (.inl 0), h3)) (zcv (f_X12_keeps [(.inr (.inr (12, 0)))] h3) (fun h5 => some (some (.inl 1), (zuI h5 72 0 2 ((h5.1 72 0 2) ||| ((1 : Int32) <<< (x1 &&& 31)))))))))) := (zL_s (t_X12_hair) [0] 1000 0 _ _ _).trans rfl
theorem g_X12_hair (x1 : Int32) (h : zH) : f_X12_hair [(.inr (.inr (12, 0))), (.inl x1)] h = zci (f_X12_isCake [(.inr (.inr (12, 0))), (.inl x1)] (zuI h 12 0 0 0)) (fun r2 h1 => zf (r2 = 0) (some (some (.inl 0), h1)) (zci (f_X12_canWash [(.inr (.inr (12, 0))), (.inl x1)] h1) (fun r4 h3 => zf (r4 = 0) (some (some (.inl 0), h3)) (zcv (f_X12_keeps [(.inr (.inr (12, 0)))] h3) (fun h5 => some (some (.inl 1), (zuI h5 72 0 2 ((h5.1 72 0 2) ||| ((1 : Int32) <<< (x1 &&& 31)))))))))) := (show f_X12_hair _ h = zL p_X12_hair 0 _ [] h from rfl).trans (e_X12_hair_0 x1 h)
/-! SoapTreatyModel.pick(I)Z -/
def y_X12_pick : MethodName := ⟨"SoapTreatyModel", "pick", "(I)Z"⟩
noncomputable def p_X12_pick_0 : List (Nat × zO) := [(0, zo_aload 0 1),
  (1, zo_push (.inl 0) 2),
  (2, zo_putI 12 0 5),
  (5, zo_aload 0 6),
  (6, zo_iload 1 7),
  (7, zo_vir 12 2 (zo_calli (f_X12_isCake) 2 10)),
  (10, zo_0eq 21 13),
  (13, zo_aload 0 14),
  (14, zo_iload 1 15),
  (15, zo_vir 12 2 (zo_calli (f_X12_hasHair) 2 18)),
  (18, zo_0ne 23 21),
  (21, zo_push (.inl 0) 22),
  (22, zo_zretc),
  (23, zo_aload 0 24),
  (24, zo_vir 12 1 (zo_callv (f_X12_keeps) 1 27)),
  (27, zo_aload 0 28),
  (28, zo_getR 12 72 none 31),
  (31, zo_push (.inl 2) 32),
  (32, zo_dup2 33),
  (33, zo_ialdc 34)]
noncomputable def p_X12_pick_1 : List (Nat × zO) := [(34, zo_push (.inl 1) 35),
  (35, zo_iload 1 36),
  (36, zo_ii (fun x y => x <<< (y &&& 31)) 37),
  (37, zo_push (.inl zm1) 38),
  (38, zo_ii (fun x y => x ^^^ y) 39),
  (39, zo_ii (fun x y => x &&& y) 40),
  (40, zo_iastc 41),
  (41, zo_push (.inl 1) 42),
  (42, zo_zretc)]
noncomputable def p_X12_pick : Nat → zO := zgs [(34, p_X12_pick_0), (43, p_X12_pick_1)]
theorem t_X12_pick : ∀ k, zTl (p_X12_pick k) := fun k => zgs_all (c := [(34, p_X12_pick_0), (43, p_X12_pick_1)]) (fun _ => zl_bad) ⟨⟨zl_aload, zl_push, zl_putI, zl_aload, zl_iload, (zl_vir zl_calli), zl_0eq, zl_aload, zl_iload, (zl_vir zl_calli), zl_0ne, zl_push, zl_zretc, zl_aload, (zl_vir zl_callv), zl_aload, zl_getR, zl_push, zl_dup2, zl_ialdc, trivial⟩, ⟨zl_push, zl_iload, zl_ii, zl_push, zl_ii, zl_ii, zl_iastc, zl_push, zl_zretc, trivial⟩, trivial⟩ k
noncomputable def f_X12_pick : zS := zrun p_X12_pick 2
set_option maxRecDepth 20000 in
theorem s_X12_pick_0 {l : Launch} {D : va_G} {ad : Nat → Nat → Nat} {cy : Nat → ClassId} {L : List (Nat × Nat)} (hcl : zclo L = true) (hinj : zAd ad L) {X : zCtx} (hX : zXok X "SoapTreatyModel" prog_14_method_73_code 2) (hR : zRt X (some .boolean)) (hl : zXl X l D ad cy L (zroom 3)) : zAllR (zSo X) p_X12_pick_0 := ⟨zs_aload_n (i := 0) rfl hX (by decide +kernel : decode prog_14_method_73_code 0 = .ok (.aload_n 0, 1)) rfl (by decide),
  zs_pushI (zg_iconst (by decide) hX (by decide +kernel : decode prog_14_method_73_code 1 = .ok (.iconst 0, 1)) rfl),
  zs_putI hX zFP_12_139 (by decide +kernel : decode prog_14_method_73_code 2 = .ok (.putfield 139, 3)) rfl,
  zs_aload_n (i := 0) rfl hX (by decide +kernel : decode prog_14_method_73_code 5 = .ok (.aload_n 0, 1)) rfl (by decide),
  zs_iload_n (i := 1) rfl hX (by decide +kernel : decode prog_14_method_73_code 6 = .ok (.iload_n 1, 1)) rfl (by decide),
  zs_callVi hX zMV_12_421 (zXc_of hl (by decide) (k_X12_isCake hcl hinj)) (by decide +kernel : decode prog_14_method_73_code 7 = .ok (.invokevirtual 421, 3)) rfl,
  zs_0eq hX (by decide +kernel : decode prog_14_method_73_code 10 = .ok (.ifCond .eq 11, 3)) (by decide) rfl,
  zs_aload_n (i := 0) rfl hX (by decide +kernel : decode prog_14_method_73_code 13 = .ok (.aload_n 0, 1)) rfl (by decide),
  zs_iload_n (i := 1) rfl hX (by decide +kernel : decode prog_14_method_73_code 14 = .ok (.iload_n 1, 1)) rfl (by decide),
  zs_callVi hX zMV_12_363 (zXc_of hl (by decide) (k_X12_hasHair hcl hinj)) (by decide +kernel : decode prog_14_method_73_code 15 = .ok (.invokevirtual 363, 3)) rfl,
  zs_0ne hX (by decide +kernel : decode prog_14_method_73_code 18 = .ok (.ifCond .ne 5, 3)) (by decide) rfl,
  zs_pushI (zg_iconst (by decide) hX (by decide +kernel : decode prog_14_method_73_code 21 = .ok (.iconst 0, 1)) rfl),
  zs_zretc hX hR (by decide +kernel : decode prog_14_method_73_code 22 = .ok (.ireturn, 1)),
  zs_aload_n (i := 0) rfl hX (by decide +kernel : decode prog_14_method_73_code 23 = .ok (.aload_n 0, 1)) rfl (by decide),
  zs_callVv hX zMV_12_431 (zXc_of hl (by decide) (k_X12_keeps hcl hinj)) (by decide +kernel : decode prog_14_method_73_code 24 = .ok (.invokevirtual 431, 3)) rfl,
  zs_aload_n (i := 0) rfl hX (by decide +kernel : decode prog_14_method_73_code 27 = .ok (.aload_n 0, 1)) rfl (by decide),
  zs_getR hX zFL_12_114 (by decide +kernel : decode prog_14_method_73_code 28 = .ok (.getfield 114, 3)) rfl,
  zs_pushI (zg_iconst (by decide) hX (by decide +kernel : decode prog_14_method_73_code 31 = .ok (.iconst 2, 1)) rfl),
  zs_dup2 hX (by decide +kernel : decode prog_14_method_73_code 32 = .ok (.dup2, 1)) rfl,
  zs_ialdc hX (by decide +kernel : decode prog_14_method_73_code 33 = .ok (.iaload, 1)) rfl, trivial⟩
set_option maxRecDepth 20000 in
theorem s_X12_pick_1 {l : Launch} {D : va_G} {ad : Nat → Nat → Nat} {cy : Nat → ClassId} {L : List (Nat × Nat)} (hcl : zclo L = true) (hinj : zAd ad L) {X : zCtx} (hX : zXok X "SoapTreatyModel" prog_14_method_73_code 2) (hR : zRt X (some .boolean)) (hl : zXl X l D ad cy L (zroom 3)) : zAllR (zSo X) p_X12_pick_1 := ⟨zs_pushI (zg_iconst (by decide) hX (by decide +kernel : decode prog_14_method_73_code 34 = .ok (.iconst 1, 1)) rfl),
  zs_iload_n (i := 1) rfl hX (by decide +kernel : decode prog_14_method_73_code 35 = .ok (.iload_n 1, 1)) rfl (by decide),
  zs_ii (zg_ishl hX (by decide +kernel : decode prog_14_method_73_code 36 = .ok (.ishl, 1)) rfl),
  zs_pushI (zg_iconst (by decide) hX (by decide +kernel : decode prog_14_method_73_code 37 = .ok (.iconst (-1), 1)) rfl),
  zs_ii (zg_ixor hX (by decide +kernel : decode prog_14_method_73_code 38 = .ok (.ixor, 1)) rfl),
  zs_ii (zg_iand hX (by decide +kernel : decode prog_14_method_73_code 39 = .ok (.iand, 1)) rfl),
  zs_iastc hX (by decide +kernel : decode prog_14_method_73_code 40 = .ok (.iastore, 1)) rfl,
  zs_pushI (zg_iconst (by decide) hX (by decide +kernel : decode prog_14_method_73_code 41 = .ok (.iconst 1, 1)) rfl),
  zs_zretc hX hR (by decide +kernel : decode prog_14_method_73_code 42 = .ok (.ireturn, 1)), trivial⟩
theorem k_X12_pick {l : Launch} {D : va_G} {ad : Nat → Nat → Nat} {cy : Nat → ClassId} {L : List (Nat × Nat)} (hcl : zclo L = true) (hinj : zAd ad L) : zCk l D ad cy L 3 f_X12_pick y_X12_pick (.code y_X12_pick prog_14_method_73_code 2 (some .boolean)) :=
  z_met (by decide) t_X12_pick hcl hinj (fun X hX hR hl k => zgs_all (Q := zSo X) (c := [(34, p_X12_pick_0), (43, p_X12_pick_1)]) (fun _ => zs_bad) ⟨s_X12_pick_0 hcl hinj hX hR hl, s_X12_pick_1 hcl hinj hX hR hl, trivial⟩ k)
set_option maxRecDepth 1000000 in
theorem e_X12_pick_0 (x1 : Int32) (h : zH) : zL p_X12_pick 0 [some (.inr (.inr (12, 0))), some (.inl x1)] [] h = zci (f_X12_isCake [(.inr (.inr (12, 0))), (.inl x1)] (zuI h 12 0 0 0)) (fun r2 h1 => zf (r2 = 0) (some (some (.inl 0), h1)) (zci (f_X12_hasHair [(.inr (.inr (12, 0))), (.inl x1)] h1) (fun r4 h3 => zf (r4 = 0) (some (some (.inl 0), h3)) (zcv (f_X12_keeps [(.inr (.inr (12, 0)))] h3) (fun h5 => some (some (.inl 1), (zuI h5 72 0 2 ((h5.1 72 0 2) &&& (((1 : Int32) <<< (x1 &&& 31)) ^^^ zm1))))))))) := (zL_s (t_X12_pick) [0] 1000 0 _ _ _).trans rfl
theorem g_X12_pick (x1 : Int32) (h : zH) : f_X12_pick [(.inr (.inr (12, 0))), (.inl x1)] h = zci (f_X12_isCake [(.inr (.inr (12, 0))), (.inl x1)] (zuI h 12 0 0 0)) (fun r2 h1 => zf (r2 = 0) (some (some (.inl 0), h1)) (zci (f_X12_hasHair [(.inr (.inr (12, 0))), (.inl x1)] h1) (fun r4 h3 => zf (r4 = 0) (some (some (.inl 0), h3)) (zcv (f_X12_keeps [(.inr (.inr (12, 0)))] h3) (fun h5 => some (some (.inl 1), (zuI h5 72 0 2 ((h5.1 72 0 2) &&& (((1 : Int32) <<< (x1 &&& 31)) ^^^ zm1))))))))) := (show f_X12_pick _ h = zL p_X12_pick 0 _ [] h from rfl).trans (e_X12_pick_0 x1 h)
theorem zMV_12_434 : zMV "SoapTreatyModel" 434 12 y_X12_canGift prog_14_method_57_code 3 (some .boolean) 2 := ⟨⟨zT_of 1650 (by decide +kernel) (by decide +kernel), zT_of 1652 (by decide +kernel) (by decide +kernel), zT_of 82 (by decide +kernel) (by decide +kernel), zT_of 118 (by decide +kernel) (by decide +kernel), zT_of 1653 (by decide +kernel) (by decide +kernel)⟩, by decide, rfl, ⟨zT12, 57, rfl⟩, by decide, by decide, by decide +kernel⟩
/-! SoapTreatyModel.gift(II)Z -/
def y_X12_gift : MethodName := ⟨"SoapTreatyModel", "gift", "(II)Z"⟩
noncomputable def p_X12_gift_0 : List (Nat × zO) := [(0, zo_aload 0 1),
  (1, zo_push (.inl 0) 2),
  (2, zo_putI 12 0 5),
  (5, zo_aload 0 6),
  (6, zo_iload 1 7),
  (7, zo_vir 12 2 (zo_calli (f_X12_isCake) 2 10)),
  (10, zo_0eq 30 13),
  (13, zo_aload 0 14),
  (14, zo_iload 2 15),
  (15, zo_vir 12 2 (zo_calli (f_X12_isPower) 2 18)),
  (18, zo_0eq 30 21),
  (21, zo_aload 0 22),
  (22, zo_iload 1 23),
  (23, zo_iload 2 24),
  (24, zo_vir 12 3 (zo_calli (f_X12_canGift) 3 27)),
  (27, zo_0ne 32 30),
  (30, zo_push (.inl 0) 31),
  (31, zo_zretc),
  (32, zo_aload 0 33),
  (33, zo_vir 12 1 (zo_callv (f_X12_keeps) 1 36))]
noncomputable def p_X12_gift_1 : List (Nat × zO) := [(36, zo_aload 0 37),
  (37, zo_getR 12 72 none 40),
  (40, zo_push (.inl 10) 42),
  (42, zo_iload 1 43),
  (43, zo_ii (fun x y => x + y) 44),
  (44, zo_iload 2 45),
  (45, zo_iast 46),
  (46, zo_push (.inl 1) 47),
  (47, zo_zretc)]
noncomputable def p_X12_gift : Nat → zO := zgs [(34, p_X12_gift_0), (48, p_X12_gift_1)]
theorem t_X12_gift : ∀ k, zTl (p_X12_gift k) := fun k => zgs_all (c := [(34, p_X12_gift_0), (48, p_X12_gift_1)]) (fun _ => zl_bad) ⟨⟨zl_aload, zl_push, zl_putI, zl_aload, zl_iload, (zl_vir zl_calli), zl_0eq, zl_aload, zl_iload, (zl_vir zl_calli), zl_0eq, zl_aload, zl_iload, zl_iload, (zl_vir zl_calli), zl_0ne, zl_push, zl_zretc, zl_aload, (zl_vir zl_callv), trivial⟩, ⟨zl_aload, zl_getR, zl_push, zl_iload, zl_ii, zl_iload, zl_iast, zl_push, zl_zretc, trivial⟩, trivial⟩ k
noncomputable def f_X12_gift : zS := zrun p_X12_gift 3
set_option maxRecDepth 20000 in
theorem s_X12_gift_0 {l : Launch} {D : va_G} {ad : Nat → Nat → Nat} {cy : Nat → ClassId} {L : List (Nat × Nat)} (hcl : zclo L = true) (hinj : zAd ad L) {X : zCtx} (hX : zXok X "SoapTreatyModel" prog_14_method_74_code 3) (hR : zRt X (some .boolean)) (hl : zXl X l D ad cy L (zroom 3)) : zAllR (zSo X) p_X12_gift_0 := ⟨zs_aload_n (i := 0) rfl hX (by decide +kernel : decode prog_14_method_74_code 0 = .ok (.aload_n 0, 1)) rfl (by decide),
  zs_pushI (zg_iconst (by decide) hX (by decide +kernel : decode prog_14_method_74_code 1 = .ok (.iconst 0, 1)) rfl),
  zs_putI hX zFP_12_139 (by decide +kernel : decode prog_14_method_74_code 2 = .ok (.putfield 139, 3)) rfl,
  zs_aload_n (i := 0) rfl hX (by decide +kernel : decode prog_14_method_74_code 5 = .ok (.aload_n 0, 1)) rfl (by decide),
  zs_iload_n (i := 1) rfl hX (by decide +kernel : decode prog_14_method_74_code 6 = .ok (.iload_n 1, 1)) rfl (by decide),
  zs_callVi hX zMV_12_421 (zXc_of hl (by decide) (k_X12_isCake hcl hinj)) (by decide +kernel : decode prog_14_method_74_code 7 = .ok (.invokevirtual 421, 3)) rfl,
  zs_0eq hX (by decide +kernel : decode prog_14_method_74_code 10 = .ok (.ifCond .eq 20, 3)) (by decide) rfl,
  zs_aload_n (i := 0) rfl hX (by decide +kernel : decode prog_14_method_74_code 13 = .ok (.aload_n 0, 1)) rfl (by decide),
  zs_iload_n (i := 2) rfl hX (by decide +kernel : decode prog_14_method_74_code 14 = .ok (.iload_n 2, 1)) rfl (by decide),
  zs_callVi hX zMV_12_409 (zXc_of hl (by decide) (k_X12_isPower hcl hinj)) (by decide +kernel : decode prog_14_method_74_code 15 = .ok (.invokevirtual 409, 3)) rfl,
  zs_0eq hX (by decide +kernel : decode prog_14_method_74_code 18 = .ok (.ifCond .eq 12, 3)) (by decide) rfl,
  zs_aload_n (i := 0) rfl hX (by decide +kernel : decode prog_14_method_74_code 21 = .ok (.aload_n 0, 1)) rfl (by decide),
  zs_iload_n (i := 1) rfl hX (by decide +kernel : decode prog_14_method_74_code 22 = .ok (.iload_n 1, 1)) rfl (by decide),
  zs_iload_n (i := 2) rfl hX (by decide +kernel : decode prog_14_method_74_code 23 = .ok (.iload_n 2, 1)) rfl (by decide),
  zs_callVi hX zMV_12_434 (zXc_of hl (by decide) (k_X12_canGift hcl hinj)) (by decide +kernel : decode prog_14_method_74_code 24 = .ok (.invokevirtual 434, 3)) rfl,
  zs_0ne hX (by decide +kernel : decode prog_14_method_74_code 27 = .ok (.ifCond .ne 5, 3)) (by decide) rfl,
  zs_pushI (zg_iconst (by decide) hX (by decide +kernel : decode prog_14_method_74_code 30 = .ok (.iconst 0, 1)) rfl),
  zs_zretc hX hR (by decide +kernel : decode prog_14_method_74_code 31 = .ok (.ireturn, 1)),
  zs_aload_n (i := 0) rfl hX (by decide +kernel : decode prog_14_method_74_code 32 = .ok (.aload_n 0, 1)) rfl (by decide),
  zs_callVv hX zMV_12_431 (zXc_of hl (by decide) (k_X12_keeps hcl hinj)) (by decide +kernel : decode prog_14_method_74_code 33 = .ok (.invokevirtual 431, 3)) rfl, trivial⟩
set_option maxRecDepth 20000 in
theorem s_X12_gift_1 {l : Launch} {D : va_G} {ad : Nat → Nat → Nat} {cy : Nat → ClassId} {L : List (Nat × Nat)} (hcl : zclo L = true) (hinj : zAd ad L) {X : zCtx} (hX : zXok X "SoapTreatyModel" prog_14_method_74_code 3) (hR : zRt X (some .boolean)) (hl : zXl X l D ad cy L (zroom 3)) : zAllR (zSo X) p_X12_gift_1 := ⟨zs_aload_n (i := 0) rfl hX (by decide +kernel : decode prog_14_method_74_code 36 = .ok (.aload_n 0, 1)) rfl (by decide),
  zs_getR hX zFL_12_114 (by decide +kernel : decode prog_14_method_74_code 37 = .ok (.getfield 114, 3)) rfl,
  zs_pushI (zg_bipush (by decide) hX (by decide +kernel : decode prog_14_method_74_code 40 = .ok (.bipush 10, 2)) rfl),
  zs_iload_n (i := 1) rfl hX (by decide +kernel : decode prog_14_method_74_code 42 = .ok (.iload_n 1, 1)) rfl (by decide),
  zs_ii (zg_iadd hX (by decide +kernel : decode prog_14_method_74_code 43 = .ok (.iadd, 1)) rfl),
  zs_iload_n (i := 2) rfl hX (by decide +kernel : decode prog_14_method_74_code 44 = .ok (.iload_n 2, 1)) rfl (by decide),
  zs_iast hX (by decide +kernel : decode prog_14_method_74_code 45 = .ok (.iastore, 1)) rfl,
  zs_pushI (zg_iconst (by decide) hX (by decide +kernel : decode prog_14_method_74_code 46 = .ok (.iconst 1, 1)) rfl),
  zs_zretc hX hR (by decide +kernel : decode prog_14_method_74_code 47 = .ok (.ireturn, 1)), trivial⟩
theorem k_X12_gift {l : Launch} {D : va_G} {ad : Nat → Nat → Nat} {cy : Nat → ClassId} {L : List (Nat × Nat)} (hcl : zclo L = true) (hinj : zAd ad L) : zCk l D ad cy L 3 f_X12_gift y_X12_gift (.code y_X12_gift prog_14_method_74_code 3 (some .boolean)) :=
  z_met (by decide) t_X12_gift hcl hinj (fun X hX hR hl k => zgs_all (Q := zSo X) (c := [(34, p_X12_gift_0), (48, p_X12_gift_1)]) (fun _ => zs_bad) ⟨s_X12_gift_0 hcl hinj hX hR hl, s_X12_gift_1 hcl hinj hX hR hl, trivial⟩ k)
set_option maxRecDepth 1000000 in
theorem e_X12_gift_0 (x1 : Int32) (x2 : Int32) (h : zH) : zL p_X12_gift 0 [some (.inr (.inr (12, 0))), some (.inl x1), some (.inl x2)] [] h = zci (f_X12_isCake [(.inr (.inr (12, 0))), (.inl x1)] (zuI h 12 0 0 0)) (fun r2 h1 => zf (r2 = 0) (some (some (.inl 0), h1)) (zci (f_X12_isPower [(.inr (.inr (12, 0))), (.inl x2)] h1) (fun r4 h3 => zf (r4 = 0) (some (some (.inl 0), h3)) (zci (f_X12_canGift [(.inr (.inr (12, 0))), (.inl x1), (.inl x2)] h3) (fun r6 h5 => zf (r6 = 0) (some (some (.inl 0), h5)) (zcv (f_X12_keeps [(.inr (.inr (12, 0)))] h5) (fun h7 => zf (vp_in ((10 : Int32) + x1) 24) (some (some (.inl 1), (zuI h7 72 0 ((10 : Int32) + x1).toNatClampNeg x2))) none))))))) := (zL_s (t_X12_gift) [0] 1000 0 _ _ _).trans rfl
theorem g_X12_gift (x1 : Int32) (x2 : Int32) (h : zH) : f_X12_gift [(.inr (.inr (12, 0))), (.inl x1), (.inl x2)] h = zci (f_X12_isCake [(.inr (.inr (12, 0))), (.inl x1)] (zuI h 12 0 0 0)) (fun r2 h1 => zf (r2 = 0) (some (some (.inl 0), h1)) (zci (f_X12_isPower [(.inr (.inr (12, 0))), (.inl x2)] h1) (fun r4 h3 => zf (r4 = 0) (some (some (.inl 0), h3)) (zci (f_X12_canGift [(.inr (.inr (12, 0))), (.inl x1), (.inl x2)] h3) (fun r6 h5 => zf (r6 = 0) (some (some (.inl 0), h5)) (zcv (f_X12_keeps [(.inr (.inr (12, 0)))] h5) (fun h7 => zf (vp_in ((10 : Int32) + x1) 24) (some (some (.inl 1), (zuI h7 72 0 ((10 : Int32) + x1).toNatClampNeg x2))) none))))))) := (show f_X12_gift _ h = zL p_X12_gift 0 _ [] h from rfl).trans (e_X12_gift_0 x1 x2 h)
theorem zMV_12_437 : zMV "SoapTreatyModel" 437 12 y_X12_canPress prog_14_method_58_code 2 (some .boolean) 1 := ⟨⟨zT_of 1658 (by decide +kernel) (by decide +kernel), zT_of 1660 (by decide +kernel) (by decide +kernel), zT_of 83 (by decide +kernel) (by decide +kernel), zT_of 118 (by decide +kernel) (by decide +kernel), zT_of 1661 (by decide +kernel) (by decide +kernel)⟩, by decide, rfl, ⟨zT12, 57, rfl⟩, by decide, by decide, by decide +kernel⟩
theorem zMV_12_440 : zMV "SoapTreatyModel" 440 12 y_X12_presses prog_14_method_59_code 2 none 1 := ⟨⟨zT_of 1662 (by decide +kernel) (by decide +kernel), zT_of 1664 (by decide +kernel) (by decide +kernel), zT_of 84 (by decide +kernel) (by decide +kernel), zT_of 118 (by decide +kernel) (by decide +kernel), zT_of 1665 (by decide +kernel) (by decide +kernel)⟩, by decide, rfl, ⟨zT12, 57, rfl⟩, by decide, by decide, by decide +kernel⟩
/-! SoapTreatyModel.press(I)I -/
def y_X12_press : MethodName := ⟨"SoapTreatyModel", "press", "(I)I"⟩
noncomputable def p_X12_press_0 : List (Nat × zO) := [(0, zo_aload 0 1),
  (1, zo_push (.inl 0) 2),
  (2, zo_putI 12 0 5),
  (5, zo_aload 0 6),
  (6, zo_iload 1 7),
  (7, zo_vir 12 2 (zo_calli (f_X12_isCake) 2 10)),
  (10, zo_0eq 21 13),
  (13, zo_aload 0 14),
  (14, zo_iload 1 15),
  (15, zo_vir 12 2 (zo_calli (f_X12_canPress) 2 18)),
  (18, zo_0ne 23 21),
  (21, zo_push (.inl zm1) 22),
  (22, zo_iret),
  (23, zo_aload 0 24),
  (24, zo_vir 12 1 (zo_callv (f_X12_keeps) 1 27)),
  (27, zo_aload 0 28),
  (28, zo_iload 1 29),
  (29, zo_vir 12 2 (zo_callv (f_X12_presses) 2 32)),
  (32, zo_aload 0 33),
  (33, zo_getR 12 72 none 36)]
noncomputable def p_X12_press_1 : List (Nat × zO) := [(36, zo_push (.inl 1) 37),
  (37, zo_ialdc 38),
  (38, zo_iret)]
noncomputable def p_X12_press : Nat → zO := zgs [(34, p_X12_press_0), (39, p_X12_press_1)]
theorem t_X12_press : ∀ k, zTl (p_X12_press k) := fun k => zgs_all (c := [(34, p_X12_press_0), (39, p_X12_press_1)]) (fun _ => zl_bad) ⟨⟨zl_aload, zl_push, zl_putI, zl_aload, zl_iload, (zl_vir zl_calli), zl_0eq, zl_aload, zl_iload, (zl_vir zl_calli), zl_0ne, zl_push, zl_iret, zl_aload, (zl_vir zl_callv), zl_aload, zl_iload, (zl_vir zl_callv), zl_aload, zl_getR, trivial⟩, ⟨zl_push, zl_ialdc, zl_iret, trivial⟩, trivial⟩ k
noncomputable def f_X12_press : zS := zrun p_X12_press 2
set_option maxRecDepth 20000 in
theorem s_X12_press_0 {l : Launch} {D : va_G} {ad : Nat → Nat → Nat} {cy : Nat → ClassId} {L : List (Nat × Nat)} (hcl : zclo L = true) (hinj : zAd ad L) {X : zCtx} (hX : zXok X "SoapTreatyModel" prog_14_method_75_code 2) (hR : zRt X (some .int)) (hl : zXl X l D ad cy L (zroom 3)) : zAllR (zSo X) p_X12_press_0 := ⟨zs_aload_n (i := 0) rfl hX (by decide +kernel : decode prog_14_method_75_code 0 = .ok (.aload_n 0, 1)) rfl (by decide),
  zs_pushI (zg_iconst (by decide) hX (by decide +kernel : decode prog_14_method_75_code 1 = .ok (.iconst 0, 1)) rfl),
  zs_putI hX zFP_12_139 (by decide +kernel : decode prog_14_method_75_code 2 = .ok (.putfield 139, 3)) rfl,
  zs_aload_n (i := 0) rfl hX (by decide +kernel : decode prog_14_method_75_code 5 = .ok (.aload_n 0, 1)) rfl (by decide),
  zs_iload_n (i := 1) rfl hX (by decide +kernel : decode prog_14_method_75_code 6 = .ok (.iload_n 1, 1)) rfl (by decide),
  zs_callVi hX zMV_12_421 (zXc_of hl (by decide) (k_X12_isCake hcl hinj)) (by decide +kernel : decode prog_14_method_75_code 7 = .ok (.invokevirtual 421, 3)) rfl,
  zs_0eq hX (by decide +kernel : decode prog_14_method_75_code 10 = .ok (.ifCond .eq 11, 3)) (by decide) rfl,
  zs_aload_n (i := 0) rfl hX (by decide +kernel : decode prog_14_method_75_code 13 = .ok (.aload_n 0, 1)) rfl (by decide),
  zs_iload_n (i := 1) rfl hX (by decide +kernel : decode prog_14_method_75_code 14 = .ok (.iload_n 1, 1)) rfl (by decide),
  zs_callVi hX zMV_12_437 (zXc_of hl (by decide) (k_X12_canPress hcl hinj)) (by decide +kernel : decode prog_14_method_75_code 15 = .ok (.invokevirtual 437, 3)) rfl,
  zs_0ne hX (by decide +kernel : decode prog_14_method_75_code 18 = .ok (.ifCond .ne 5, 3)) (by decide) rfl,
  zs_pushI (zg_iconst (by decide) hX (by decide +kernel : decode prog_14_method_75_code 21 = .ok (.iconst (-1), 1)) rfl),
  zs_iret hX hR (by decide +kernel : decode prog_14_method_75_code 22 = .ok (.ireturn, 1)),
  zs_aload_n (i := 0) rfl hX (by decide +kernel : decode prog_14_method_75_code 23 = .ok (.aload_n 0, 1)) rfl (by decide),
  zs_callVv hX zMV_12_431 (zXc_of hl (by decide) (k_X12_keeps hcl hinj)) (by decide +kernel : decode prog_14_method_75_code 24 = .ok (.invokevirtual 431, 3)) rfl,
  zs_aload_n (i := 0) rfl hX (by decide +kernel : decode prog_14_method_75_code 27 = .ok (.aload_n 0, 1)) rfl (by decide),
  zs_iload_n (i := 1) rfl hX (by decide +kernel : decode prog_14_method_75_code 28 = .ok (.iload_n 1, 1)) rfl (by decide),
  zs_callVv hX zMV_12_440 (zXc_of hl (by decide) (k_X12_presses hcl hinj)) (by decide +kernel : decode prog_14_method_75_code 29 = .ok (.invokevirtual 440, 3)) rfl,
  zs_aload_n (i := 0) rfl hX (by decide +kernel : decode prog_14_method_75_code 32 = .ok (.aload_n 0, 1)) rfl (by decide),
  zs_getR hX zFL_12_114 (by decide +kernel : decode prog_14_method_75_code 33 = .ok (.getfield 114, 3)) rfl, trivial⟩
set_option maxRecDepth 20000 in
theorem s_X12_press_1 {l : Launch} {D : va_G} {ad : Nat → Nat → Nat} {cy : Nat → ClassId} {L : List (Nat × Nat)} (hcl : zclo L = true) (hinj : zAd ad L) {X : zCtx} (hX : zXok X "SoapTreatyModel" prog_14_method_75_code 2) (hR : zRt X (some .int)) (hl : zXl X l D ad cy L (zroom 3)) : zAllR (zSo X) p_X12_press_1 := ⟨zs_pushI (zg_iconst (by decide) hX (by decide +kernel : decode prog_14_method_75_code 36 = .ok (.iconst 1, 1)) rfl),
  zs_ialdc hX (by decide +kernel : decode prog_14_method_75_code 37 = .ok (.iaload, 1)) rfl,
  zs_iret hX hR (by decide +kernel : decode prog_14_method_75_code 38 = .ok (.ireturn, 1)), trivial⟩
theorem k_X12_press {l : Launch} {D : va_G} {ad : Nat → Nat → Nat} {cy : Nat → ClassId} {L : List (Nat × Nat)} (hcl : zclo L = true) (hinj : zAd ad L) : zCk l D ad cy L 3 f_X12_press y_X12_press (.code y_X12_press prog_14_method_75_code 2 (some .int)) :=
  z_met (by decide) t_X12_press hcl hinj (fun X hX hR hl k => zgs_all (Q := zSo X) (c := [(34, p_X12_press_0), (39, p_X12_press_1)]) (fun _ => zs_bad) ⟨s_X12_press_0 hcl hinj hX hR hl, s_X12_press_1 hcl hinj hX hR hl, trivial⟩ k)
set_option maxRecDepth 1000000 in
theorem e_X12_press_0 (x1 : Int32) (h : zH) : zL p_X12_press 0 [some (.inr (.inr (12, 0))), some (.inl x1)] [] h = zci (f_X12_isCake [(.inr (.inr (12, 0))), (.inl x1)] (zuI h 12 0 0 0)) (fun r2 h1 => zf (r2 = 0) (some (some (.inl zm1), h1)) (zci (f_X12_canPress [(.inr (.inr (12, 0))), (.inl x1)] h1) (fun r4 h3 => zf (r4 = 0) (some (some (.inl zm1), h3)) (zcv (f_X12_keeps [(.inr (.inr (12, 0)))] h3) (fun h5 => zcv (f_X12_presses [(.inr (.inr (12, 0))), (.inl x1)] h5) (fun h6 => some (some (.inl (h6.1 72 0 1)), h6))))))) := (zL_s (t_X12_press) [0] 1000 0 _ _ _).trans rfl
theorem g_X12_press (x1 : Int32) (h : zH) : f_X12_press [(.inr (.inr (12, 0))), (.inl x1)] h = zci (f_X12_isCake [(.inr (.inr (12, 0))), (.inl x1)] (zuI h 12 0 0 0)) (fun r2 h1 => zf (r2 = 0) (some (some (.inl zm1), h1)) (zci (f_X12_canPress [(.inr (.inr (12, 0))), (.inl x1)] h1) (fun r4 h3 => zf (r4 = 0) (some (some (.inl zm1), h3)) (zcv (f_X12_keeps [(.inr (.inr (12, 0)))] h3) (fun h5 => zcv (f_X12_presses [(.inr (.inr (12, 0))), (.inl x1)] h5) (fun h6 => some (some (.inl (h6.1 72 0 1)), h6))))))) := (show f_X12_press _ h = zL p_X12_press 0 _ [] h from rfl).trans (e_X12_press_0 x1 h)
theorem zMV_12_443 : zMV "SoapTreatyModel" 443 12 y_X12_passes prog_14_method_54_code 3 (some .int) 0 := ⟨⟨zT_of 1670 (by decide +kernel) (by decide +kernel), zT_of 1672 (by decide +kernel) (by decide +kernel), zT_of 85 (by decide +kernel) (by decide +kernel), zT_of 118 (by decide +kernel) (by decide +kernel), zT_of 1673 (by decide +kernel) (by decide +kernel)⟩, by decide, rfl, ⟨zT12, 57, rfl⟩, by decide, by decide, by decide +kernel⟩
/-! SoapTreatyModel.week()I -/
def y_X12_week : MethodName := ⟨"SoapTreatyModel", "week", "()I"⟩
noncomputable def p_X12_week_0 : List (Nat × zO) := [(0, zo_aload 0 1),
  (1, zo_push (.inl 0) 2),
  (2, zo_putI 12 0 5),
  (5, zo_aload 0 6),
  (6, zo_vir 12 1 (zo_callv (f_X12_keeps) 1 9)),
  (9, zo_aload 0 10),
  (10, zo_vir 12 1 (zo_calli (f_X12_passes) 1 13)),
  (13, zo_iret)]
noncomputable def p_X12_week : Nat → zO := zgs [(14, p_X12_week_0)]
theorem t_X12_week : ∀ k, zTl (p_X12_week k) := fun k => zgs_all (c := [(14, p_X12_week_0)]) (fun _ => zl_bad) ⟨⟨zl_aload, zl_push, zl_putI, zl_aload, (zl_vir zl_callv), zl_aload, (zl_vir zl_calli), zl_iret, trivial⟩, trivial⟩ k
noncomputable def f_X12_week : zS := zrun p_X12_week 1
set_option maxRecDepth 20000 in
theorem s_X12_week_0 {l : Launch} {D : va_G} {ad : Nat → Nat → Nat} {cy : Nat → ClassId} {L : List (Nat × Nat)} (hcl : zclo L = true) (hinj : zAd ad L) {X : zCtx} (hX : zXok X "SoapTreatyModel" prog_14_method_76_code 1) (hR : zRt X (some .int)) (hl : zXl X l D ad cy L (zroom 6)) : zAllR (zSo X) p_X12_week_0 := ⟨zs_aload_n (i := 0) rfl hX (by decide +kernel : decode prog_14_method_76_code 0 = .ok (.aload_n 0, 1)) rfl (by decide),
  zs_pushI (zg_iconst (by decide) hX (by decide +kernel : decode prog_14_method_76_code 1 = .ok (.iconst 0, 1)) rfl),
  zs_putI hX zFP_12_139 (by decide +kernel : decode prog_14_method_76_code 2 = .ok (.putfield 139, 3)) rfl,
  zs_aload_n (i := 0) rfl hX (by decide +kernel : decode prog_14_method_76_code 5 = .ok (.aload_n 0, 1)) rfl (by decide),
  zs_callVv hX zMV_12_431 (zXc_of hl (by decide) (k_X12_keeps hcl hinj)) (by decide +kernel : decode prog_14_method_76_code 6 = .ok (.invokevirtual 431, 3)) rfl,
  zs_aload_n (i := 0) rfl hX (by decide +kernel : decode prog_14_method_76_code 9 = .ok (.aload_n 0, 1)) rfl (by decide),
  zs_callVi hX zMV_12_443 (zXc_of hl (by decide) (k_X12_passes hcl hinj)) (by decide +kernel : decode prog_14_method_76_code 10 = .ok (.invokevirtual 443, 3)) rfl,
  zs_iret hX hR (by decide +kernel : decode prog_14_method_76_code 13 = .ok (.ireturn, 1)), trivial⟩
theorem k_X12_week {l : Launch} {D : va_G} {ad : Nat → Nat → Nat} {cy : Nat → ClassId} {L : List (Nat × Nat)} (hcl : zclo L = true) (hinj : zAd ad L) : zCk l D ad cy L 6 f_X12_week y_X12_week (.code y_X12_week prog_14_method_76_code 1 (some .int)) :=
  z_met (by decide) t_X12_week hcl hinj (fun X hX hR hl k => zgs_all (Q := zSo X) (c := [(14, p_X12_week_0)]) (fun _ => zs_bad) ⟨s_X12_week_0 hcl hinj hX hR hl, trivial⟩ k)
set_option maxRecDepth 1000000 in
theorem e_X12_week_0 (h : zH) : zL p_X12_week 0 [some (.inr (.inr (12, 0)))] [] h = zcv (f_X12_keeps [(.inr (.inr (12, 0)))] (zuI h 12 0 0 0)) (fun h1 => zci (f_X12_passes [(.inr (.inr (12, 0)))] h1) (fun r3 h2 => some (some (.inl r3), h2))) := (zL_s (t_X12_week) [0] 1000 0 _ _ _).trans rfl
theorem g_X12_week (h : zH) : f_X12_week [(.inr (.inr (12, 0)))] h = zcv (f_X12_keeps [(.inr (.inr (12, 0)))] (zuI h 12 0 0 0)) (fun h1 => zci (f_X12_passes [(.inr (.inr (12, 0)))] h1) (fun r3 h2 => some (some (.inl r3), h2))) := (show f_X12_week _ h = zL p_X12_week 0 _ [] h from rfl).trans (e_X12_week_0 h)
/-! SoapTreatyModel.undo()Z -/
def y_X12_undo : MethodName := ⟨"SoapTreatyModel", "undo", "()Z"⟩
noncomputable def p_X12_undo_0 : List (Nat × zO) := [(0, zo_aload 0 1),
  (1, zo_push (.inl 0) 2),
  (2, zo_putI 12 0 5),
  (5, zo_aload 0 6),
  (6, zo_getI 12 53 9),
  (9, zo_0ne 14 12),
  (12, zo_push (.inl 0) 13),
  (13, zo_zretc),
  (14, zo_aload 0 15),
  (15, zo_dup 16),
  (16, zo_getI 12 53 19),
  (19, zo_push (.inl 1) 20),
  (20, zo_ii (fun x y => x - y) 21),
  (21, zo_putI 12 53 24),
  (24, zo_aload 0 25),
  (25, zo_getR 12 76 none 28),
  (28, zo_push (.inl 24) 30),
  (30, zo_aload 0 31),
  (31, zo_getI 12 53 34),
  (34, zo_ii (fun x y => x * y) 35)]
noncomputable def p_X12_undo_1 : List (Nat × zO) := [(35, zo_aload 0 36),
  (36, zo_getR 12 72 none 39),
  (39, zo_push (.inl 0) 40),
  (40, zo_callv (f_X12_copies) 4 43),
  (43, zo_push (.inl 1) 44),
  (44, zo_zretc)]
noncomputable def p_X12_undo : Nat → zO := zgs [(35, p_X12_undo_0), (45, p_X12_undo_1)]
theorem t_X12_undo : ∀ k, zTl (p_X12_undo k) := fun k => zgs_all (c := [(35, p_X12_undo_0), (45, p_X12_undo_1)]) (fun _ => zl_bad) ⟨⟨zl_aload, zl_push, zl_putI, zl_aload, zl_getI, zl_0ne, zl_push, zl_zretc, zl_aload, zl_dup, zl_getI, zl_push, zl_ii, zl_putI, zl_aload, zl_getR, zl_push, zl_aload, zl_getI, zl_ii, trivial⟩, ⟨zl_aload, zl_getR, zl_push, zl_callv, zl_push, zl_zretc, trivial⟩, trivial⟩ k
noncomputable def f_X12_undo : zS := zrun p_X12_undo 1
set_option maxRecDepth 20000 in
theorem s_X12_undo_0 {l : Launch} {D : va_G} {ad : Nat → Nat → Nat} {cy : Nat → ClassId} {L : List (Nat × Nat)} (hcl : zclo L = true) (hinj : zAd ad L) {X : zCtx} (hX : zXok X "SoapTreatyModel" prog_14_method_77_code 1) (hR : zRt X (some .boolean)) (hl : zXl X l D ad cy L (zroom 2)) : zAllR (zSo X) p_X12_undo_0 := ⟨zs_aload_n (i := 0) rfl hX (by decide +kernel : decode prog_14_method_77_code 0 = .ok (.aload_n 0, 1)) rfl (by decide),
  zs_pushI (zg_iconst (by decide) hX (by decide +kernel : decode prog_14_method_77_code 1 = .ok (.iconst 0, 1)) rfl),
  zs_putI hX zFP_12_139 (by decide +kernel : decode prog_14_method_77_code 2 = .ok (.putfield 139, 3)) rfl,
  zs_aload_n (i := 0) rfl hX (by decide +kernel : decode prog_14_method_77_code 5 = .ok (.aload_n 0, 1)) rfl (by decide),
  zs_getI hX zFL_12_350 (by decide) (by decide) (by decide +kernel : decode prog_14_method_77_code 6 = .ok (.getfield 350, 3)) rfl,
  zs_0ne hX (by decide +kernel : decode prog_14_method_77_code 9 = .ok (.ifCond .ne 5, 3)) (by decide) rfl,
  zs_pushI (zg_iconst (by decide) hX (by decide +kernel : decode prog_14_method_77_code 12 = .ok (.iconst 0, 1)) rfl),
  zs_zretc hX hR (by decide +kernel : decode prog_14_method_77_code 13 = .ok (.ireturn, 1)),
  zs_aload_n (i := 0) rfl hX (by decide +kernel : decode prog_14_method_77_code 14 = .ok (.aload_n 0, 1)) rfl (by decide),
  zs_dup hX (by decide +kernel : decode prog_14_method_77_code 15 = .ok (.dup, 1)) rfl,
  zs_getI hX zFL_12_350 (by decide) (by decide) (by decide +kernel : decode prog_14_method_77_code 16 = .ok (.getfield 350, 3)) rfl,
  zs_pushI (zg_iconst (by decide) hX (by decide +kernel : decode prog_14_method_77_code 19 = .ok (.iconst 1, 1)) rfl),
  zs_ii (zg_isub hX (by decide +kernel : decode prog_14_method_77_code 20 = .ok (.isub, 1)) rfl),
  zs_putI hX zFP_12_350 (by decide +kernel : decode prog_14_method_77_code 21 = .ok (.putfield 350, 3)) rfl,
  zs_aload_n (i := 0) rfl hX (by decide +kernel : decode prog_14_method_77_code 24 = .ok (.aload_n 0, 1)) rfl (by decide),
  zs_getR hX zFL_12_126 (by decide +kernel : decode prog_14_method_77_code 25 = .ok (.getfield 126, 3)) rfl,
  zs_pushI (zg_bipush (by decide) hX (by decide +kernel : decode prog_14_method_77_code 28 = .ok (.bipush 24, 2)) rfl),
  zs_aload_n (i := 0) rfl hX (by decide +kernel : decode prog_14_method_77_code 30 = .ok (.aload_n 0, 1)) rfl (by decide),
  zs_getI hX zFL_12_350 (by decide) (by decide) (by decide +kernel : decode prog_14_method_77_code 31 = .ok (.getfield 350, 3)) rfl,
  zs_ii (zg_imul hX (by decide +kernel : decode prog_14_method_77_code 34 = .ok (.imul, 1)) rfl), trivial⟩
set_option maxRecDepth 20000 in
theorem s_X12_undo_1 {l : Launch} {D : va_G} {ad : Nat → Nat → Nat} {cy : Nat → ClassId} {L : List (Nat × Nat)} (hcl : zclo L = true) (hinj : zAd ad L) {X : zCtx} (hX : zXok X "SoapTreatyModel" prog_14_method_77_code 1) (hR : zRt X (some .boolean)) (hl : zXl X l D ad cy L (zroom 2)) : zAllR (zSo X) p_X12_undo_1 := ⟨zs_aload_n (i := 0) rfl hX (by decide +kernel : decode prog_14_method_77_code 35 = .ok (.aload_n 0, 1)) rfl (by decide),
  zs_getR hX zFL_12_114 (by decide +kernel : decode prog_14_method_77_code 36 = .ok (.getfield 114, 3)) rfl,
  zs_pushI (zg_iconst (by decide) hX (by decide +kernel : decode prog_14_method_77_code 39 = .ok (.iconst 0, 1)) rfl),
  zs_callSv hX zMS_12_427 (zXc_of hl (by decide) (k_X12_copies hcl hinj)) (by decide +kernel : decode prog_14_method_77_code 40 = .ok (.invokestatic 427, 3)) rfl,
  zs_pushI (zg_iconst (by decide) hX (by decide +kernel : decode prog_14_method_77_code 43 = .ok (.iconst 1, 1)) rfl),
  zs_zretc hX hR (by decide +kernel : decode prog_14_method_77_code 44 = .ok (.ireturn, 1)), trivial⟩
theorem k_X12_undo {l : Launch} {D : va_G} {ad : Nat → Nat → Nat} {cy : Nat → ClassId} {L : List (Nat × Nat)} (hcl : zclo L = true) (hinj : zAd ad L) : zCk l D ad cy L 2 f_X12_undo y_X12_undo (.code y_X12_undo prog_14_method_77_code 1 (some .boolean)) :=
  z_met (by decide) t_X12_undo hcl hinj (fun X hX hR hl k => zgs_all (Q := zSo X) (c := [(35, p_X12_undo_0), (45, p_X12_undo_1)]) (fun _ => zs_bad) ⟨s_X12_undo_0 hcl hinj hX hR hl, s_X12_undo_1 hcl hinj hX hR hl, trivial⟩ k)
set_option maxRecDepth 1000000 in
theorem e_X12_undo_0 (h : zH) : zL p_X12_undo 0 [some (.inr (.inr (12, 0)))] [] h = zf ((h.1 12 0 53) = 0) (some (some (.inl 0), (zuI h 12 0 0 0))) (zcv (f_X12_copies [(.inr (.inr (76, 0))), (.inl ((24 : Int32) * ((h.1 12 0 53) - (1 : Int32)))), (.inr (.inr (72, 0))), (.inl 0)] (zuI (zuI h 12 0 0 0) 12 0 53 ((h.1 12 0 53) - (1 : Int32)))) (fun h1 => some (some (.inl 1), h1))) := (zL_s (t_X12_undo) [0] 1000 0 _ _ _).trans rfl
theorem g_X12_undo (h : zH) : f_X12_undo [(.inr (.inr (12, 0)))] h = zf ((h.1 12 0 53) = 0) (some (some (.inl 0), (zuI h 12 0 0 0))) (zcv (f_X12_copies [(.inr (.inr (76, 0))), (.inl ((24 : Int32) * ((h.1 12 0 53) - (1 : Int32)))), (.inr (.inr (72, 0))), (.inl 0)] (zuI (zuI h 12 0 0 0) 12 0 53 ((h.1 12 0 53) - (1 : Int32)))) (fun h1 => some (some (.inl 1), h1))) := (show f_X12_undo _ h = zL p_X12_undo 0 _ [] h from rfl).trans (e_X12_undo_0 h)
/-! SoapTreatyModel.goes(I)Z -/
def y_X12_goes : MethodName := ⟨"SoapTreatyModel", "goes", "(I)Z"⟩
noncomputable def p_X12_goes_0 : List (Nat × zO) := [(0, zo_aload 0 1),
  (1, zo_getR 12 66 none 4),
  (4, zo_iload 1 5),
  (5, zo_iald 6),
  (6, zo_istore 2 7),
  (7, zo_aload 0 8),
  (8, zo_getR 12 65 none 11),
  (11, zo_iload 1 12),
  (12, zo_iald 13),
  (13, zo_istore 3 14),
  (14, zo_iload 3 15),
  (15, zo_0ne 36 18),
  (18, zo_aload 0 19),
  (19, zo_iload 2 20),
  (20, zo_vir 12 2 (zo_calli (f_X12_canWash) 2 23)),
  (23, zo_0ne 28 26),
  (26, zo_push (.inl 0) 27),
  (27, zo_zretc),
  (28, zo_aload 0 29),
  (29, zo_iload 2 30)]
noncomputable def p_X12_goes_1 : List (Nat × zO) := [(30, zo_vir 12 2 (zo_callv (f_X12_washes) 2 33)),
  (33, zo_goto 165),
  (36, zo_iload 3 37),
  (37, zo_push (.inl 1) 38),
  (38, zo_cne 66 41),
  (41, zo_aload 0 42),
  (42, zo_iload 2 43),
  (43, zo_vir 12 2 (zo_calli (f_X12_canWash) 2 46)),
  (46, zo_0ne 51 49),
  (49, zo_push (.inl 0) 50),
  (50, zo_zretc),
  (51, zo_aload 0 52),
  (52, zo_getR 12 72 none 55),
  (55, zo_push (.inl 2) 56),
  (56, zo_dup2 57),
  (57, zo_ialdc 58),
  (58, zo_push (.inl 1) 59),
  (59, zo_iload 2 60),
  (60, zo_ii (fun x y => x <<< (y &&& 31)) 61),
  (61, zo_ii (fun x y => x ||| y) 62)]
noncomputable def p_X12_goes_2 : List (Nat × zO) := [(62, zo_iastc 63),
  (63, zo_goto 165),
  (66, zo_iload 3 67),
  (67, zo_push (.inl 2) 68),
  (68, zo_cne 98 71),
  (71, zo_aload 0 72),
  (72, zo_iload 2 73),
  (73, zo_vir 12 2 (zo_calli (f_X12_hasHair) 2 76)),
  (76, zo_0ne 81 79),
  (79, zo_push (.inl 0) 80),
  (80, zo_zretc),
  (81, zo_aload 0 82),
  (82, zo_getR 12 72 none 85),
  (85, zo_push (.inl 2) 86),
  (86, zo_dup2 87),
  (87, zo_ialdc 88),
  (88, zo_push (.inl 1) 89),
  (89, zo_iload 2 90),
  (90, zo_ii (fun x y => x <<< (y &&& 31)) 91),
  (91, zo_push (.inl zm1) 92)]
noncomputable def p_X12_goes_3 : List (Nat × zO) := [(92, zo_ii (fun x y => x ^^^ y) 93),
  (93, zo_ii (fun x y => x &&& y) 94),
  (94, zo_iastc 95),
  (95, zo_goto 165),
  (98, zo_iload 3 99),
  (99, zo_push (.inl 3) 100),
  (100, zo_cne 137 103),
  (103, zo_aload 0 104),
  (104, zo_iload 2 105),
  (105, zo_aload 0 106),
  (106, zo_getR 12 67 none 109),
  (109, zo_iload 1 110),
  (110, zo_iald 111),
  (111, zo_vir 12 3 (zo_calli (f_X12_canGift) 3 114)),
  (114, zo_0ne 119 117),
  (117, zo_push (.inl 0) 118),
  (118, zo_zretc),
  (119, zo_aload 0 120),
  (120, zo_getR 12 72 none 123),
  (123, zo_push (.inl 10) 125)]
noncomputable def p_X12_goes_4 : List (Nat × zO) := [(125, zo_iload 2 126),
  (126, zo_ii (fun x y => x + y) 127),
  (127, zo_aload 0 128),
  (128, zo_getR 12 67 none 131),
  (131, zo_iload 1 132),
  (132, zo_iald 133),
  (133, zo_iast 134),
  (134, zo_goto 165),
  (137, zo_iload 3 138),
  (138, zo_push (.inl 4) 139),
  (139, zo_cne 160 142),
  (142, zo_aload 0 143),
  (143, zo_iload 2 144),
  (144, zo_vir 12 2 (zo_calli (f_X12_canPress) 2 147)),
  (147, zo_0ne 152 150),
  (150, zo_push (.inl 0) 151),
  (151, zo_zretc),
  (152, zo_aload 0 153),
  (153, zo_iload 2 154),
  (154, zo_vir 12 2 (zo_callv (f_X12_presses) 2 157))]
noncomputable def p_X12_goes_5 : List (Nat × zO) := [(157, zo_goto 165),
  (160, zo_aload 0 161),
  (161, zo_vir 12 1 (zo_calli (f_X12_passes) 1 164)),
  (164, zo_pop 165),
  (165, zo_push (.inl 1) 166),
  (166, zo_zretc)]
noncomputable def p_X12_goes : Nat → zO := zgs [(30, p_X12_goes_0), (62, p_X12_goes_1), (92, p_X12_goes_2), (124, p_X12_goes_3), (155, p_X12_goes_4), (167, p_X12_goes_5)]
theorem t_X12_goes : ∀ k, zTl (p_X12_goes k) := fun k => zgs_all (c := [(30, p_X12_goes_0), (62, p_X12_goes_1), (92, p_X12_goes_2), (124, p_X12_goes_3), (155, p_X12_goes_4), (167, p_X12_goes_5)]) (fun _ => zl_bad) ⟨⟨zl_aload, zl_getR, zl_iload, zl_iald, zl_istore, zl_aload, zl_getR, zl_iload, zl_iald, zl_istore, zl_iload, zl_0ne, zl_aload, zl_iload, (zl_vir zl_calli), zl_0ne, zl_push, zl_zretc, zl_aload, zl_iload, trivial⟩, ⟨(zl_vir zl_callv), zl_goto, zl_iload, zl_push, zl_cne, zl_aload, zl_iload, (zl_vir zl_calli), zl_0ne, zl_push, zl_zretc, zl_aload, zl_getR, zl_push, zl_dup2, zl_ialdc, zl_push, zl_iload, zl_ii, zl_ii, trivial⟩, ⟨zl_iastc, zl_goto, zl_iload, zl_push, zl_cne, zl_aload, zl_iload, (zl_vir zl_calli), zl_0ne, zl_push, zl_zretc, zl_aload, zl_getR, zl_push, zl_dup2, zl_ialdc, zl_push, zl_iload, zl_ii, zl_push, trivial⟩, ⟨zl_ii, zl_ii, zl_iastc, zl_goto, zl_iload, zl_push, zl_cne, zl_aload, zl_iload, zl_aload, zl_getR, zl_iload, zl_iald, (zl_vir zl_calli), zl_0ne, zl_push, zl_zretc, zl_aload, zl_getR, zl_push, trivial⟩, ⟨zl_iload, zl_ii, zl_aload, zl_getR, zl_iload, zl_iald, zl_iast, zl_goto, zl_iload, zl_push, zl_cne, zl_aload, zl_iload, (zl_vir zl_calli), zl_0ne, zl_push, zl_zretc, zl_aload, zl_iload, (zl_vir zl_callv), trivial⟩, ⟨zl_goto, zl_aload, (zl_vir zl_calli), zl_pop, zl_push, zl_zretc, trivial⟩, trivial⟩ k
noncomputable def f_X12_goes : zS := zrun p_X12_goes 4
set_option maxRecDepth 20000 in
theorem s_X12_goes_0 {l : Launch} {D : va_G} {ad : Nat → Nat → Nat} {cy : Nat → ClassId} {L : List (Nat × Nat)} (hcl : zclo L = true) (hinj : zAd ad L) {X : zCtx} (hX : zXok X "SoapTreatyModel" prog_14_method_78_code 4) (hR : zRt X (some .boolean)) (hl : zXl X l D ad cy L (zroom 6)) : zAllR (zSo X) p_X12_goes_0 := ⟨zs_aload_n (i := 0) rfl hX (by decide +kernel : decode prog_14_method_78_code 0 = .ok (.aload_n 0, 1)) rfl (by decide),
  zs_getR hX zFL_12_96 (by decide +kernel : decode prog_14_method_78_code 1 = .ok (.getfield 96, 3)) rfl,
  zs_iload_n (i := 1) rfl hX (by decide +kernel : decode prog_14_method_78_code 4 = .ok (.iload_n 1, 1)) rfl (by decide),
  zs_iald hX (by decide +kernel : decode prog_14_method_78_code 5 = .ok (.iaload, 1)) rfl,
  zs_istore_n (i := 2) rfl hX (by decide +kernel : decode prog_14_method_78_code 6 = .ok (.istore_n 2, 1)) rfl (by decide),
  zs_aload_n (i := 0) rfl hX (by decide +kernel : decode prog_14_method_78_code 7 = .ok (.aload_n 0, 1)) rfl (by decide),
  zs_getR hX zFL_12_93 (by decide +kernel : decode prog_14_method_78_code 8 = .ok (.getfield 93, 3)) rfl,
  zs_iload_n (i := 1) rfl hX (by decide +kernel : decode prog_14_method_78_code 11 = .ok (.iload_n 1, 1)) rfl (by decide),
  zs_iald hX (by decide +kernel : decode prog_14_method_78_code 12 = .ok (.iaload, 1)) rfl,
  zs_istore_n (i := 3) rfl hX (by decide +kernel : decode prog_14_method_78_code 13 = .ok (.istore_n 3, 1)) rfl (by decide),
  zs_iload_n (i := 3) rfl hX (by decide +kernel : decode prog_14_method_78_code 14 = .ok (.iload_n 3, 1)) rfl (by decide),
  zs_0ne hX (by decide +kernel : decode prog_14_method_78_code 15 = .ok (.ifCond .ne 21, 3)) (by decide) rfl,
  zs_aload_n (i := 0) rfl hX (by decide +kernel : decode prog_14_method_78_code 18 = .ok (.aload_n 0, 1)) rfl (by decide),
  zs_iload_n (i := 2) rfl hX (by decide +kernel : decode prog_14_method_78_code 19 = .ok (.iload_n 2, 1)) rfl (by decide),
  zs_callVi hX zMV_12_382 (zXc_of hl (by decide) (k_X12_canWash hcl hinj)) (by decide +kernel : decode prog_14_method_78_code 20 = .ok (.invokevirtual 382, 3)) rfl,
  zs_0ne hX (by decide +kernel : decode prog_14_method_78_code 23 = .ok (.ifCond .ne 5, 3)) (by decide) rfl,
  zs_pushI (zg_iconst (by decide) hX (by decide +kernel : decode prog_14_method_78_code 26 = .ok (.iconst 0, 1)) rfl),
  zs_zretc hX hR (by decide +kernel : decode prog_14_method_78_code 27 = .ok (.ireturn, 1)),
  zs_aload_n (i := 0) rfl hX (by decide +kernel : decode prog_14_method_78_code 28 = .ok (.aload_n 0, 1)) rfl (by decide),
  zs_iload_n (i := 2) rfl hX (by decide +kernel : decode prog_14_method_78_code 29 = .ok (.iload_n 2, 1)) rfl (by decide), trivial⟩
set_option maxRecDepth 20000 in
theorem s_X12_goes_1 {l : Launch} {D : va_G} {ad : Nat → Nat → Nat} {cy : Nat → ClassId} {L : List (Nat × Nat)} (hcl : zclo L = true) (hinj : zAd ad L) {X : zCtx} (hX : zXok X "SoapTreatyModel" prog_14_method_78_code 4) (hR : zRt X (some .boolean)) (hl : zXl X l D ad cy L (zroom 6)) : zAllR (zSo X) p_X12_goes_1 := ⟨zs_callVv hX zMV_12_388 (zXc_of hl (by decide) (k_X12_washes hcl hinj)) (by decide +kernel : decode prog_14_method_78_code 30 = .ok (.invokevirtual 388, 3)) rfl,
  zs_goto hX (by decide +kernel : decode prog_14_method_78_code 33 = .ok (.goto 132, 3)) (by decide),
  zs_iload_n (i := 3) rfl hX (by decide +kernel : decode prog_14_method_78_code 36 = .ok (.iload_n 3, 1)) rfl (by decide),
  zs_pushI (zg_iconst (by decide) hX (by decide +kernel : decode prog_14_method_78_code 37 = .ok (.iconst 1, 1)) rfl),
  zs_cne hX (by decide +kernel : decode prog_14_method_78_code 38 = .ok (.if_icmp .ne 28, 3)) (by decide) rfl,
  zs_aload_n (i := 0) rfl hX (by decide +kernel : decode prog_14_method_78_code 41 = .ok (.aload_n 0, 1)) rfl (by decide),
  zs_iload_n (i := 2) rfl hX (by decide +kernel : decode prog_14_method_78_code 42 = .ok (.iload_n 2, 1)) rfl (by decide),
  zs_callVi hX zMV_12_382 (zXc_of hl (by decide) (k_X12_canWash hcl hinj)) (by decide +kernel : decode prog_14_method_78_code 43 = .ok (.invokevirtual 382, 3)) rfl,
  zs_0ne hX (by decide +kernel : decode prog_14_method_78_code 46 = .ok (.ifCond .ne 5, 3)) (by decide) rfl,
  zs_pushI (zg_iconst (by decide) hX (by decide +kernel : decode prog_14_method_78_code 49 = .ok (.iconst 0, 1)) rfl),
  zs_zretc hX hR (by decide +kernel : decode prog_14_method_78_code 50 = .ok (.ireturn, 1)),
  zs_aload_n (i := 0) rfl hX (by decide +kernel : decode prog_14_method_78_code 51 = .ok (.aload_n 0, 1)) rfl (by decide),
  zs_getR hX zFL_12_114 (by decide +kernel : decode prog_14_method_78_code 52 = .ok (.getfield 114, 3)) rfl,
  zs_pushI (zg_iconst (by decide) hX (by decide +kernel : decode prog_14_method_78_code 55 = .ok (.iconst 2, 1)) rfl),
  zs_dup2 hX (by decide +kernel : decode prog_14_method_78_code 56 = .ok (.dup2, 1)) rfl,
  zs_ialdc hX (by decide +kernel : decode prog_14_method_78_code 57 = .ok (.iaload, 1)) rfl,
  zs_pushI (zg_iconst (by decide) hX (by decide +kernel : decode prog_14_method_78_code 58 = .ok (.iconst 1, 1)) rfl),
  zs_iload_n (i := 2) rfl hX (by decide +kernel : decode prog_14_method_78_code 59 = .ok (.iload_n 2, 1)) rfl (by decide),
  zs_ii (zg_ishl hX (by decide +kernel : decode prog_14_method_78_code 60 = .ok (.ishl, 1)) rfl),
  zs_ii (zg_ior hX (by decide +kernel : decode prog_14_method_78_code 61 = .ok (.ior, 1)) rfl), trivial⟩
set_option maxRecDepth 20000 in
theorem s_X12_goes_2 {l : Launch} {D : va_G} {ad : Nat → Nat → Nat} {cy : Nat → ClassId} {L : List (Nat × Nat)} (hcl : zclo L = true) (hinj : zAd ad L) {X : zCtx} (hX : zXok X "SoapTreatyModel" prog_14_method_78_code 4) (hR : zRt X (some .boolean)) (hl : zXl X l D ad cy L (zroom 6)) : zAllR (zSo X) p_X12_goes_2 := ⟨zs_iastc hX (by decide +kernel : decode prog_14_method_78_code 62 = .ok (.iastore, 1)) rfl,
  zs_goto hX (by decide +kernel : decode prog_14_method_78_code 63 = .ok (.goto 102, 3)) (by decide),
  zs_iload_n (i := 3) rfl hX (by decide +kernel : decode prog_14_method_78_code 66 = .ok (.iload_n 3, 1)) rfl (by decide),
  zs_pushI (zg_iconst (by decide) hX (by decide +kernel : decode prog_14_method_78_code 67 = .ok (.iconst 2, 1)) rfl),
  zs_cne hX (by decide +kernel : decode prog_14_method_78_code 68 = .ok (.if_icmp .ne 30, 3)) (by decide) rfl,
  zs_aload_n (i := 0) rfl hX (by decide +kernel : decode prog_14_method_78_code 71 = .ok (.aload_n 0, 1)) rfl (by decide),
  zs_iload_n (i := 2) rfl hX (by decide +kernel : decode prog_14_method_78_code 72 = .ok (.iload_n 2, 1)) rfl (by decide),
  zs_callVi hX zMV_12_363 (zXc_of hl (by decide) (k_X12_hasHair hcl hinj)) (by decide +kernel : decode prog_14_method_78_code 73 = .ok (.invokevirtual 363, 3)) rfl,
  zs_0ne hX (by decide +kernel : decode prog_14_method_78_code 76 = .ok (.ifCond .ne 5, 3)) (by decide) rfl,
  zs_pushI (zg_iconst (by decide) hX (by decide +kernel : decode prog_14_method_78_code 79 = .ok (.iconst 0, 1)) rfl),
  zs_zretc hX hR (by decide +kernel : decode prog_14_method_78_code 80 = .ok (.ireturn, 1)),
  zs_aload_n (i := 0) rfl hX (by decide +kernel : decode prog_14_method_78_code 81 = .ok (.aload_n 0, 1)) rfl (by decide),
  zs_getR hX zFL_12_114 (by decide +kernel : decode prog_14_method_78_code 82 = .ok (.getfield 114, 3)) rfl,
  zs_pushI (zg_iconst (by decide) hX (by decide +kernel : decode prog_14_method_78_code 85 = .ok (.iconst 2, 1)) rfl),
  zs_dup2 hX (by decide +kernel : decode prog_14_method_78_code 86 = .ok (.dup2, 1)) rfl,
  zs_ialdc hX (by decide +kernel : decode prog_14_method_78_code 87 = .ok (.iaload, 1)) rfl,
  zs_pushI (zg_iconst (by decide) hX (by decide +kernel : decode prog_14_method_78_code 88 = .ok (.iconst 1, 1)) rfl),
  zs_iload_n (i := 2) rfl hX (by decide +kernel : decode prog_14_method_78_code 89 = .ok (.iload_n 2, 1)) rfl (by decide),
  zs_ii (zg_ishl hX (by decide +kernel : decode prog_14_method_78_code 90 = .ok (.ishl, 1)) rfl),
  zs_pushI (zg_iconst (by decide) hX (by decide +kernel : decode prog_14_method_78_code 91 = .ok (.iconst (-1), 1)) rfl), trivial⟩
set_option maxRecDepth 20000 in
theorem s_X12_goes_3 {l : Launch} {D : va_G} {ad : Nat → Nat → Nat} {cy : Nat → ClassId} {L : List (Nat × Nat)} (hcl : zclo L = true) (hinj : zAd ad L) {X : zCtx} (hX : zXok X "SoapTreatyModel" prog_14_method_78_code 4) (hR : zRt X (some .boolean)) (hl : zXl X l D ad cy L (zroom 6)) : zAllR (zSo X) p_X12_goes_3 := ⟨zs_ii (zg_ixor hX (by decide +kernel : decode prog_14_method_78_code 92 = .ok (.ixor, 1)) rfl),
  zs_ii (zg_iand hX (by decide +kernel : decode prog_14_method_78_code 93 = .ok (.iand, 1)) rfl),
  zs_iastc hX (by decide +kernel : decode prog_14_method_78_code 94 = .ok (.iastore, 1)) rfl,
  zs_goto hX (by decide +kernel : decode prog_14_method_78_code 95 = .ok (.goto 70, 3)) (by decide),
  zs_iload_n (i := 3) rfl hX (by decide +kernel : decode prog_14_method_78_code 98 = .ok (.iload_n 3, 1)) rfl (by decide),
  zs_pushI (zg_iconst (by decide) hX (by decide +kernel : decode prog_14_method_78_code 99 = .ok (.iconst 3, 1)) rfl),
  zs_cne hX (by decide +kernel : decode prog_14_method_78_code 100 = .ok (.if_icmp .ne 37, 3)) (by decide) rfl,
  zs_aload_n (i := 0) rfl hX (by decide +kernel : decode prog_14_method_78_code 103 = .ok (.aload_n 0, 1)) rfl (by decide),
  zs_iload_n (i := 2) rfl hX (by decide +kernel : decode prog_14_method_78_code 104 = .ok (.iload_n 2, 1)) rfl (by decide),
  zs_aload_n (i := 0) rfl hX (by decide +kernel : decode prog_14_method_78_code 105 = .ok (.aload_n 0, 1)) rfl (by decide),
  zs_getR hX zFL_12_99 (by decide +kernel : decode prog_14_method_78_code 106 = .ok (.getfield 99, 3)) rfl,
  zs_iload_n (i := 1) rfl hX (by decide +kernel : decode prog_14_method_78_code 109 = .ok (.iload_n 1, 1)) rfl (by decide),
  zs_iald hX (by decide +kernel : decode prog_14_method_78_code 110 = .ok (.iaload, 1)) rfl,
  zs_callVi hX zMV_12_434 (zXc_of hl (by decide) (k_X12_canGift hcl hinj)) (by decide +kernel : decode prog_14_method_78_code 111 = .ok (.invokevirtual 434, 3)) rfl,
  zs_0ne hX (by decide +kernel : decode prog_14_method_78_code 114 = .ok (.ifCond .ne 5, 3)) (by decide) rfl,
  zs_pushI (zg_iconst (by decide) hX (by decide +kernel : decode prog_14_method_78_code 117 = .ok (.iconst 0, 1)) rfl),
  zs_zretc hX hR (by decide +kernel : decode prog_14_method_78_code 118 = .ok (.ireturn, 1)),
  zs_aload_n (i := 0) rfl hX (by decide +kernel : decode prog_14_method_78_code 119 = .ok (.aload_n 0, 1)) rfl (by decide),
  zs_getR hX zFL_12_114 (by decide +kernel : decode prog_14_method_78_code 120 = .ok (.getfield 114, 3)) rfl,
  zs_pushI (zg_bipush (by decide) hX (by decide +kernel : decode prog_14_method_78_code 123 = .ok (.bipush 10, 2)) rfl), trivial⟩
set_option maxRecDepth 20000 in
theorem s_X12_goes_4 {l : Launch} {D : va_G} {ad : Nat → Nat → Nat} {cy : Nat → ClassId} {L : List (Nat × Nat)} (hcl : zclo L = true) (hinj : zAd ad L) {X : zCtx} (hX : zXok X "SoapTreatyModel" prog_14_method_78_code 4) (hR : zRt X (some .boolean)) (hl : zXl X l D ad cy L (zroom 6)) : zAllR (zSo X) p_X12_goes_4 := ⟨zs_iload_n (i := 2) rfl hX (by decide +kernel : decode prog_14_method_78_code 125 = .ok (.iload_n 2, 1)) rfl (by decide),
  zs_ii (zg_iadd hX (by decide +kernel : decode prog_14_method_78_code 126 = .ok (.iadd, 1)) rfl),
  zs_aload_n (i := 0) rfl hX (by decide +kernel : decode prog_14_method_78_code 127 = .ok (.aload_n 0, 1)) rfl (by decide),
  zs_getR hX zFL_12_99 (by decide +kernel : decode prog_14_method_78_code 128 = .ok (.getfield 99, 3)) rfl,
  zs_iload_n (i := 1) rfl hX (by decide +kernel : decode prog_14_method_78_code 131 = .ok (.iload_n 1, 1)) rfl (by decide),
  zs_iald hX (by decide +kernel : decode prog_14_method_78_code 132 = .ok (.iaload, 1)) rfl,
  zs_iast hX (by decide +kernel : decode prog_14_method_78_code 133 = .ok (.iastore, 1)) rfl,
  zs_goto hX (by decide +kernel : decode prog_14_method_78_code 134 = .ok (.goto 31, 3)) (by decide),
  zs_iload_n (i := 3) rfl hX (by decide +kernel : decode prog_14_method_78_code 137 = .ok (.iload_n 3, 1)) rfl (by decide),
  zs_pushI (zg_iconst (by decide) hX (by decide +kernel : decode prog_14_method_78_code 138 = .ok (.iconst 4, 1)) rfl),
  zs_cne hX (by decide +kernel : decode prog_14_method_78_code 139 = .ok (.if_icmp .ne 21, 3)) (by decide) rfl,
  zs_aload_n (i := 0) rfl hX (by decide +kernel : decode prog_14_method_78_code 142 = .ok (.aload_n 0, 1)) rfl (by decide),
  zs_iload_n (i := 2) rfl hX (by decide +kernel : decode prog_14_method_78_code 143 = .ok (.iload_n 2, 1)) rfl (by decide),
  zs_callVi hX zMV_12_437 (zXc_of hl (by decide) (k_X12_canPress hcl hinj)) (by decide +kernel : decode prog_14_method_78_code 144 = .ok (.invokevirtual 437, 3)) rfl,
  zs_0ne hX (by decide +kernel : decode prog_14_method_78_code 147 = .ok (.ifCond .ne 5, 3)) (by decide) rfl,
  zs_pushI (zg_iconst (by decide) hX (by decide +kernel : decode prog_14_method_78_code 150 = .ok (.iconst 0, 1)) rfl),
  zs_zretc hX hR (by decide +kernel : decode prog_14_method_78_code 151 = .ok (.ireturn, 1)),
  zs_aload_n (i := 0) rfl hX (by decide +kernel : decode prog_14_method_78_code 152 = .ok (.aload_n 0, 1)) rfl (by decide),
  zs_iload_n (i := 2) rfl hX (by decide +kernel : decode prog_14_method_78_code 153 = .ok (.iload_n 2, 1)) rfl (by decide),
  zs_callVv hX zMV_12_440 (zXc_of hl (by decide) (k_X12_presses hcl hinj)) (by decide +kernel : decode prog_14_method_78_code 154 = .ok (.invokevirtual 440, 3)) rfl, trivial⟩
set_option maxRecDepth 20000 in
theorem s_X12_goes_5 {l : Launch} {D : va_G} {ad : Nat → Nat → Nat} {cy : Nat → ClassId} {L : List (Nat × Nat)} (hcl : zclo L = true) (hinj : zAd ad L) {X : zCtx} (hX : zXok X "SoapTreatyModel" prog_14_method_78_code 4) (hR : zRt X (some .boolean)) (hl : zXl X l D ad cy L (zroom 6)) : zAllR (zSo X) p_X12_goes_5 := ⟨zs_goto hX (by decide +kernel : decode prog_14_method_78_code 157 = .ok (.goto 8, 3)) (by decide),
  zs_aload_n (i := 0) rfl hX (by decide +kernel : decode prog_14_method_78_code 160 = .ok (.aload_n 0, 1)) rfl (by decide),
  zs_callVi hX zMV_12_443 (zXc_of hl (by decide) (k_X12_passes hcl hinj)) (by decide +kernel : decode prog_14_method_78_code 161 = .ok (.invokevirtual 443, 3)) rfl,
  zs_pop_ (zg_pop hX (by decide +kernel : decode prog_14_method_78_code 164 = .ok (.pop, 1)) rfl),
  zs_pushI (zg_iconst (by decide) hX (by decide +kernel : decode prog_14_method_78_code 165 = .ok (.iconst 1, 1)) rfl),
  zs_zretc hX hR (by decide +kernel : decode prog_14_method_78_code 166 = .ok (.ireturn, 1)), trivial⟩
theorem k_X12_goes {l : Launch} {D : va_G} {ad : Nat → Nat → Nat} {cy : Nat → ClassId} {L : List (Nat × Nat)} (hcl : zclo L = true) (hinj : zAd ad L) : zCk l D ad cy L 6 f_X12_goes y_X12_goes (.code y_X12_goes prog_14_method_78_code 4 (some .boolean)) :=
  z_met (by decide) t_X12_goes hcl hinj (fun X hX hR hl k => zgs_all (Q := zSo X) (c := [(30, p_X12_goes_0), (62, p_X12_goes_1), (92, p_X12_goes_2), (124, p_X12_goes_3), (155, p_X12_goes_4), (167, p_X12_goes_5)]) (fun _ => zs_bad) ⟨s_X12_goes_0 hcl hinj hX hR hl, s_X12_goes_1 hcl hinj hX hR hl, s_X12_goes_2 hcl hinj hX hR hl, s_X12_goes_3 hcl hinj hX hR hl, s_X12_goes_4 hcl hinj hX hR hl, s_X12_goes_5 hcl hinj hX hR hl, trivial⟩ k)
set_option maxRecDepth 1000000 in
theorem e_X12_goes_0 (x1 : Int32) (h : zH) : zL p_X12_goes 0 [some (.inr (.inr (12, 0))), some (.inl x1), none, none] [] h = zf (vp_in x1 240) (zf (vp_in x1 240) (zf ((h.1 65 0 x1.toNatClampNeg) = 0) (zci (f_X12_canWash [(.inr (.inr (12, 0))), (.inl (h.1 66 0 x1.toNatClampNeg))] h) (fun r13 h12 => zf (r13 = 0) (some (some (.inl 0), h12)) (zcv (f_X12_washes [(.inr (.inr (12, 0))), (.inl (h.1 66 0 x1.toNatClampNeg))] h12) (fun h14 => some (some (.inl 1), h14))))) (zf ((h.1 65 0 x1.toNatClampNeg) = 1) (zci (f_X12_canWash [(.inr (.inr (12, 0))), (.inl (h.1 66 0 x1.toNatClampNeg))] h) (fun r11 h10 => zf (r11 = 0) (some (some (.inl 0), h10)) (some (some (.inl 1), (zuI h10 72 0 2 ((h10.1 72 0 2) ||| ((1 : Int32) <<< ((h.1 66 0 x1.toNatClampNeg) &&& 31)))))))) (zf ((h.1 65 0 x1.toNatClampNeg) = 2) (zci (f_X12_hasHair [(.inr (.inr (12, 0))), (.inl (h.1 66 0 x1.toNatClampNeg))] h) (fun r9 h8 => zf (r9 = 0) (some (some (.inl 0), h8)) (some (some (.inl 1), (zuI h8 72 0 2 ((h8.1 72 0 2) &&& (((1 : Int32) <<< ((h.1 66 0 x1.toNatClampNeg) &&& 31)) ^^^ zm1))))))) (zf ((h.1 65 0 x1.toNatClampNeg) = 3) (zf (vp_in x1 240) (zci (f_X12_canGift [(.inr (.inr (12, 0))), (.inl (h.1 66 0 x1.toNatClampNeg)), (.inl (h.1 67 0 x1.toNatClampNeg))] h) (fun r7 h6 => zf (r7 = 0) (some (some (.inl 0), h6)) (zf (vp_in x1 240) (zf (vp_in ((10 : Int32) + (h.1 66 0 x1.toNatClampNeg)) 24) (some (some (.inl 1), (zuI h6 72 0 ((10 : Int32) + (h.1 66 0 x1.toNatClampNeg)).toNatClampNeg (h6.1 67 0 x1.toNatClampNeg)))) none) none))) none) (zf ((h.1 65 0 x1.toNatClampNeg) = 4) (zci (f_X12_canPress [(.inr (.inr (12, 0))), (.inl (h.1 66 0 x1.toNatClampNeg))] h) (fun r4 h3 => zf (r4 = 0) (some (some (.inl 0), h3)) (zcv (f_X12_presses [(.inr (.inr (12, 0))), (.inl (h.1 66 0 x1.toNatClampNeg))] h3) (fun h5 => some (some (.inl 1), h5))))) (zci (f_X12_passes [(.inr (.inr (12, 0)))] h) (fun r2 h1 => some (some (.inl 1), h1)))))))) none) none := (zL_s (t_X12_goes) [0] 1000 0 _ _ _).trans rfl
theorem g_X12_goes (x1 : Int32) (h : zH) : f_X12_goes [(.inr (.inr (12, 0))), (.inl x1)] h = zf (vp_in x1 240) (zf (vp_in x1 240) (zf ((h.1 65 0 x1.toNatClampNeg) = 0) (zci (f_X12_canWash [(.inr (.inr (12, 0))), (.inl (h.1 66 0 x1.toNatClampNeg))] h) (fun r13 h12 => zf (r13 = 0) (some (some (.inl 0), h12)) (zcv (f_X12_washes [(.inr (.inr (12, 0))), (.inl (h.1 66 0 x1.toNatClampNeg))] h12) (fun h14 => some (some (.inl 1), h14))))) (zf ((h.1 65 0 x1.toNatClampNeg) = 1) (zci (f_X12_canWash [(.inr (.inr (12, 0))), (.inl (h.1 66 0 x1.toNatClampNeg))] h) (fun r11 h10 => zf (r11 = 0) (some (some (.inl 0), h10)) (some (some (.inl 1), (zuI h10 72 0 2 ((h10.1 72 0 2) ||| ((1 : Int32) <<< ((h.1 66 0 x1.toNatClampNeg) &&& 31)))))))) (zf ((h.1 65 0 x1.toNatClampNeg) = 2) (zci (f_X12_hasHair [(.inr (.inr (12, 0))), (.inl (h.1 66 0 x1.toNatClampNeg))] h) (fun r9 h8 => zf (r9 = 0) (some (some (.inl 0), h8)) (some (some (.inl 1), (zuI h8 72 0 2 ((h8.1 72 0 2) &&& (((1 : Int32) <<< ((h.1 66 0 x1.toNatClampNeg) &&& 31)) ^^^ zm1))))))) (zf ((h.1 65 0 x1.toNatClampNeg) = 3) (zf (vp_in x1 240) (zci (f_X12_canGift [(.inr (.inr (12, 0))), (.inl (h.1 66 0 x1.toNatClampNeg)), (.inl (h.1 67 0 x1.toNatClampNeg))] h) (fun r7 h6 => zf (r7 = 0) (some (some (.inl 0), h6)) (zf (vp_in x1 240) (zf (vp_in ((10 : Int32) + (h.1 66 0 x1.toNatClampNeg)) 24) (some (some (.inl 1), (zuI h6 72 0 ((10 : Int32) + (h.1 66 0 x1.toNatClampNeg)).toNatClampNeg (h6.1 67 0 x1.toNatClampNeg)))) none) none))) none) (zf ((h.1 65 0 x1.toNatClampNeg) = 4) (zci (f_X12_canPress [(.inr (.inr (12, 0))), (.inl (h.1 66 0 x1.toNatClampNeg))] h) (fun r4 h3 => zf (r4 = 0) (some (some (.inl 0), h3)) (zcv (f_X12_presses [(.inr (.inr (12, 0))), (.inl (h.1 66 0 x1.toNatClampNeg))] h3) (fun h5 => some (some (.inl 1), h5))))) (zci (f_X12_passes [(.inr (.inr (12, 0)))] h) (fun r2 h1 => some (some (.inl 1), h1)))))))) none) none := (show f_X12_goes _ h = zL p_X12_goes 0 _ [] h from rfl).trans (e_X12_goes_0 x1 h)
/-! SoapTreatyModel.isSomeFound()Z -/
def y_X12_isSomeFound : MethodName := ⟨"SoapTreatyModel", "isSomeFound", "()Z"⟩
noncomputable def p_X12_isSomeFound_0 : List (Nat × zO) := [(0, zo_push (.inl 0) 1),
  (1, zo_istore 1 2),
  (2, zo_iload 1 3),
  (3, zo_aload 0 4),
  (4, zo_getR 12 39 none 7),
  (7, zo_push (.inl 1) 8),
  (8, zo_ialdc 9),
  (9, zo_cge 28 12),
  (12, zo_aload 0 13),
  (13, zo_iload 1 14),
  (14, zo_vir 12 2 (zo_calli (f_X12_isFound) 2 17)),
  (17, zo_0eq 22 20),
  (20, zo_push (.inl 1) 21),
  (21, zo_zretc),
  (22, zo_iinc 1 1 25),
  (25, zo_goto 2),
  (28, zo_push (.inl 0) 29),
  (29, zo_zretc)]
noncomputable def p_X12_isSomeFound : Nat → zO := zgs [(30, p_X12_isSomeFound_0)]
theorem t_X12_isSomeFound : ∀ k, zTl (p_X12_isSomeFound k) := fun k => zgs_all (c := [(30, p_X12_isSomeFound_0)]) (fun _ => zl_bad) ⟨⟨zl_push, zl_istore, zl_iload, zl_aload, zl_getR, zl_push, zl_ialdc, zl_cge, zl_aload, zl_iload, (zl_vir zl_calli), zl_0eq, zl_push, zl_zretc, zl_iinc, zl_goto, zl_push, zl_zretc, trivial⟩, trivial⟩ k
noncomputable def f_X12_isSomeFound : zS := zrun p_X12_isSomeFound 2
set_option maxRecDepth 20000 in
theorem s_X12_isSomeFound_0 {l : Launch} {D : va_G} {ad : Nat → Nat → Nat} {cy : Nat → ClassId} {L : List (Nat × Nat)} (hcl : zclo L = true) (hinj : zAd ad L) {X : zCtx} (hX : zXok X "SoapTreatyModel" prog_14_method_79_code 2) (hR : zRt X (some .boolean)) (hl : zXl X l D ad cy L (zroom 2)) : zAllR (zSo X) p_X12_isSomeFound_0 := ⟨zs_pushI (zg_iconst (by decide) hX (by decide +kernel : decode prog_14_method_79_code 0 = .ok (.iconst 0, 1)) rfl),
  zs_istore_n (i := 1) rfl hX (by decide +kernel : decode prog_14_method_79_code 1 = .ok (.istore_n 1, 1)) rfl (by decide),
  zs_iload_n (i := 1) rfl hX (by decide +kernel : decode prog_14_method_79_code 2 = .ok (.iload_n 1, 1)) rfl (by decide),
  zs_aload_n (i := 0) rfl hX (by decide +kernel : decode prog_14_method_79_code 3 = .ok (.aload_n 0, 1)) rfl (by decide),
  zs_getR hX zFL_12_13 (by decide +kernel : decode prog_14_method_79_code 4 = .ok (.getfield 13, 3)) rfl,
  zs_pushI (zg_iconst (by decide) hX (by decide +kernel : decode prog_14_method_79_code 7 = .ok (.iconst 1, 1)) rfl),
  zs_ialdc hX (by decide +kernel : decode prog_14_method_79_code 8 = .ok (.iaload, 1)) rfl,
  zs_cge hX (by decide +kernel : decode prog_14_method_79_code 9 = .ok (.if_icmp .ge 19, 3)) (by decide) rfl,
  zs_aload_n (i := 0) rfl hX (by decide +kernel : decode prog_14_method_79_code 12 = .ok (.aload_n 0, 1)) rfl (by decide),
  zs_iload_n (i := 1) rfl hX (by decide +kernel : decode prog_14_method_79_code 13 = .ok (.iload_n 1, 1)) rfl (by decide),
  zs_callVi hX zMV_12_424 (zXc_of hl (by decide) (k_X12_isFound hcl hinj)) (by decide +kernel : decode prog_14_method_79_code 14 = .ok (.invokevirtual 424, 3)) rfl,
  zs_0eq hX (by decide +kernel : decode prog_14_method_79_code 17 = .ok (.ifCond .eq 5, 3)) (by decide) rfl,
  zs_pushI (zg_iconst (by decide) hX (by decide +kernel : decode prog_14_method_79_code 20 = .ok (.iconst 1, 1)) rfl),
  zs_zretc hX hR (by decide +kernel : decode prog_14_method_79_code 21 = .ok (.ireturn, 1)),
  zs_iinc hX (by decide +kernel : decode prog_14_method_79_code 22 = .ok (.iinc 1 1, 3)) (by decide) rfl (by decide),
  zs_goto hX (by decide +kernel : decode prog_14_method_79_code 25 = .ok (.goto (-23), 3)) (by decide),
  zs_pushI (zg_iconst (by decide) hX (by decide +kernel : decode prog_14_method_79_code 28 = .ok (.iconst 0, 1)) rfl),
  zs_zretc hX hR (by decide +kernel : decode prog_14_method_79_code 29 = .ok (.ireturn, 1)), trivial⟩
theorem k_X12_isSomeFound {l : Launch} {D : va_G} {ad : Nat → Nat → Nat} {cy : Nat → ClassId} {L : List (Nat × Nat)} (hcl : zclo L = true) (hinj : zAd ad L) : zCk l D ad cy L 2 f_X12_isSomeFound y_X12_isSomeFound (.code y_X12_isSomeFound prog_14_method_79_code 2 (some .boolean)) :=
  z_met (by decide) t_X12_isSomeFound hcl hinj (fun X hX hR hl k => zgs_all (Q := zSo X) (c := [(30, p_X12_isSomeFound_0)]) (fun _ => zs_bad) ⟨s_X12_isSomeFound_0 hcl hinj hX hR hl, trivial⟩ k)
set_option maxRecDepth 1000000 in
theorem e_X12_isSomeFound_0 (h : zH) : zL p_X12_isSomeFound 0 [some (.inr (.inr (12, 0))), none] [] h = zL p_X12_isSomeFound 2 [some (.inr (.inr (12, 0))), some (.inl 0)] [] h := (zL_s (t_X12_isSomeFound) [0, 2] 1000 0 _ _ _).trans rfl
theorem g_X12_isSomeFound (h : zH) : f_X12_isSomeFound [(.inr (.inr (12, 0)))] h = zL p_X12_isSomeFound 2 [some (.inr (.inr (12, 0))), some (.inl 0)] [] h := (show f_X12_isSomeFound _ h = zL p_X12_isSomeFound 0 _ [] h from rfl).trans (e_X12_isSomeFound_0 h)
set_option maxRecDepth 1000000 in
theorem e_X12_isSomeFound_2 (x1 : Int32) (h : zH) : zL p_X12_isSomeFound 2 [some (.inr (.inr (12, 0))), some (.inl x1)] [] h = zf (x1 < (h.1 39 0 1)) (zci (f_X12_isFound [(.inr (.inr (12, 0))), (.inl x1)] h) (fun r2 h1 => zf (r2 = 0) (zL p_X12_isSomeFound 2 [some (.inr (.inr (12, 0))), some (.inl (x1 + 1))] [] h1) (some (some (.inl 1), h1)))) (some (some (.inl 0), h)) := (zL_s (t_X12_isSomeFound) [0, 2] 1000 2 _ _ _).trans rfl
theorem zMV_12_446 : zMV "SoapTreatyModel" 446 12 y_X12_goes prog_14_method_78_code 4 (some .boolean) 1 := ⟨⟨zT_of 1686 (by decide +kernel) (by decide +kernel), zT_of 1688 (by decide +kernel) (by decide +kernel), zT_of 87 (by decide +kernel) (by decide +kernel), zT_of 118 (by decide +kernel) (by decide +kernel), zT_of 1689 (by decide +kernel) (by decide +kernel)⟩, by decide, rfl, ⟨zT12, 57, rfl⟩, by decide, by decide, by decide +kernel⟩
theorem zMV_12_449 : zMV "SoapTreatyModel" 449 12 y_X12_isSomeFound prog_14_method_79_code 2 (some .boolean) 0 := ⟨⟨zT_of 1690 (by decide +kernel) (by decide +kernel), zT_of 1692 (by decide +kernel) (by decide +kernel), zT_of 88 (by decide +kernel) (by decide +kernel), zT_of 118 (by decide +kernel) (by decide +kernel), zT_of 1693 (by decide +kernel) (by decide +kernel)⟩, by decide, rfl, ⟨zT12, 57, rfl⟩, by decide, by decide, by decide +kernel⟩
/-! SoapTreatyModel.judged(I)I -/
def y_X12_judged : MethodName := ⟨"SoapTreatyModel", "judged", "(I)I"⟩
noncomputable def p_X12_judged_0 : List (Nat × zO) := [(0, zo_aload 0 1),
  (1, zo_push (.inl 0) 2),
  (2, zo_putI 12 0 5),
  (5, zo_iload 1 6),
  (6, zo_push (.inl 0) 7),
  (7, zo_push (.inl 2) 8),
  (8, zo_calli (f_X12_within) 3 11),
  (11, zo_0ne 17 14),
  (14, zo_push (.inl zm2) 16),
  (16, zo_iret),
  (17, zo_aload 0 18),
  (18, zo_getR 12 72 none 21),
  (21, zo_push (.inl 0) 22),
  (22, zo_aload 0 23),
  (23, zo_getR 12 73 none 26),
  (26, zo_push (.inl 0) 27),
  (27, zo_callv (f_X12_copies) 4 30),
  (30, zo_aload 0 31),
  (31, zo_vir 12 1 (zo_callv (f_X12_fresh0) 1 34)),
  (34, zo_push (.inl zm1) 35)]
noncomputable def p_X12_judged_1 : List (Nat × zO) := [(35, zo_istore 2 36),
  (36, zo_push (.inl zm1) 37),
  (37, zo_istore 3 38),
  (38, zo_push (.inl 0) 39),
  (39, zo_istore 4 41),
  (41, zo_iload 4 43),
  (43, zo_aload 0 44),
  (44, zo_getR 12 64 none 47),
  (47, zo_push (.inl 0) 48),
  (48, zo_ialdc 49),
  (49, zo_cge 88 52),
  (52, zo_aload 0 53),
  (53, zo_iload 4 55),
  (55, zo_vir 12 2 (zo_calli (f_X12_goes) 2 58)),
  (58, zo_0ne 68 61),
  (61, zo_iload 2 62),
  (62, zo_0ge 68 65),
  (65, zo_iload 4 67),
  (67, zo_istore 2 68),
  (68, zo_iload 3 69)]
noncomputable def p_X12_judged_2 : List (Nat × zO) := [(69, zo_0ge 82 72),
  (72, zo_aload 0 73),
  (73, zo_vir 12 1 (zo_calli (f_X12_isSomeFound) 1 76)),
  (76, zo_0eq 82 79),
  (79, zo_iload 4 81),
  (81, zo_istore 3 82),
  (82, zo_iinc 4 1 85),
  (85, zo_goto 41),
  (88, zo_aload 0 89),
  (89, zo_getR 12 72 none 92),
  (92, zo_push (.inl 1) 93),
  (93, zo_ialdc 94),
  (94, zo_istore 4 96),
  (96, zo_aload 0 97),
  (97, zo_getR 12 73 none 100),
  (100, zo_push (.inl 0) 101),
  (101, zo_aload 0 102),
  (102, zo_getR 12 72 none 105),
  (105, zo_push (.inl 0) 106),
  (106, zo_callv (f_X12_copies) 4 109)]
noncomputable def p_X12_judged_3 : List (Nat × zO) := [(109, zo_iload 1 110),
  (110, zo_0ne 117 113),
  (113, zo_iload 2 114),
  (114, zo_goto 128),
  (117, zo_iload 1 118),
  (118, zo_push (.inl 1) 119),
  (119, zo_cne 126 122),
  (122, zo_iload 3 123),
  (123, zo_goto 128),
  (126, zo_iload 4 128),
  (128, zo_iret)]
noncomputable def p_X12_judged : Nat → zO := zgs [(35, p_X12_judged_0), (69, p_X12_judged_1), (107, p_X12_judged_2), (129, p_X12_judged_3)]
theorem t_X12_judged : ∀ k, zTl (p_X12_judged k) := fun k => zgs_all (c := [(35, p_X12_judged_0), (69, p_X12_judged_1), (107, p_X12_judged_2), (129, p_X12_judged_3)]) (fun _ => zl_bad) ⟨⟨zl_aload, zl_push, zl_putI, zl_iload, zl_push, zl_push, zl_calli, zl_0ne, zl_push, zl_iret, zl_aload, zl_getR, zl_push, zl_aload, zl_getR, zl_push, zl_callv, zl_aload, (zl_vir zl_callv), zl_push, trivial⟩, ⟨zl_istore, zl_push, zl_istore, zl_push, zl_istore, zl_iload, zl_aload, zl_getR, zl_push, zl_ialdc, zl_cge, zl_aload, zl_iload, (zl_vir zl_calli), zl_0ne, zl_iload, zl_0ge, zl_iload, zl_istore, zl_iload, trivial⟩, ⟨zl_0ge, zl_aload, (zl_vir zl_calli), zl_0eq, zl_iload, zl_istore, zl_iinc, zl_goto, zl_aload, zl_getR, zl_push, zl_ialdc, zl_istore, zl_aload, zl_getR, zl_push, zl_aload, zl_getR, zl_push, zl_callv, trivial⟩, ⟨zl_iload, zl_0ne, zl_iload, zl_goto, zl_iload, zl_push, zl_cne, zl_iload, zl_goto, zl_iload, zl_iret, trivial⟩, trivial⟩ k
noncomputable def f_X12_judged : zS := zrun p_X12_judged 5
set_option maxRecDepth 20000 in
theorem s_X12_judged_0 {l : Launch} {D : va_G} {ad : Nat → Nat → Nat} {cy : Nat → ClassId} {L : List (Nat × Nat)} (hcl : zclo L = true) (hinj : zAd ad L) {X : zCtx} (hX : zXok X "SoapTreatyModel" prog_14_method_80_code 5) (hR : zRt X (some .int)) (hl : zXl X l D ad cy L (zroom 7)) : zAllR (zSo X) p_X12_judged_0 := ⟨zs_aload_n (i := 0) rfl hX (by decide +kernel : decode prog_14_method_80_code 0 = .ok (.aload_n 0, 1)) rfl (by decide),
  zs_pushI (zg_iconst (by decide) hX (by decide +kernel : decode prog_14_method_80_code 1 = .ok (.iconst 0, 1)) rfl),
  zs_putI hX zFP_12_139 (by decide +kernel : decode prog_14_method_80_code 2 = .ok (.putfield 139, 3)) rfl,
  zs_iload_n (i := 1) rfl hX (by decide +kernel : decode prog_14_method_80_code 5 = .ok (.iload_n 1, 1)) rfl (by decide),
  zs_pushI (zg_iconst (by decide) hX (by decide +kernel : decode prog_14_method_80_code 6 = .ok (.iconst 0, 1)) rfl),
  zs_pushI (zg_iconst (by decide) hX (by decide +kernel : decode prog_14_method_80_code 7 = .ok (.iconst 2, 1)) rfl),
  zs_callSi hX zMS_12_265 (zXc_of hl (by decide) (k_X12_within hcl hinj)) (by decide +kernel : decode prog_14_method_80_code 8 = .ok (.invokestatic 265, 3)) rfl,
  zs_0ne hX (by decide +kernel : decode prog_14_method_80_code 11 = .ok (.ifCond .ne 6, 3)) (by decide) rfl,
  zs_pushI (zg_bipush (by decide) hX (by decide +kernel : decode prog_14_method_80_code 14 = .ok (.bipush (-2), 2)) rfl),
  zs_iret hX hR (by decide +kernel : decode prog_14_method_80_code 16 = .ok (.ireturn, 1)),
  zs_aload_n (i := 0) rfl hX (by decide +kernel : decode prog_14_method_80_code 17 = .ok (.aload_n 0, 1)) rfl (by decide),
  zs_getR hX zFL_12_114 (by decide +kernel : decode prog_14_method_80_code 18 = .ok (.getfield 114, 3)) rfl,
  zs_pushI (zg_iconst (by decide) hX (by decide +kernel : decode prog_14_method_80_code 21 = .ok (.iconst 0, 1)) rfl),
  zs_aload_n (i := 0) rfl hX (by decide +kernel : decode prog_14_method_80_code 22 = .ok (.aload_n 0, 1)) rfl (by decide),
  zs_getR hX zFL_12_117 (by decide +kernel : decode prog_14_method_80_code 23 = .ok (.getfield 117, 3)) rfl,
  zs_pushI (zg_iconst (by decide) hX (by decide +kernel : decode prog_14_method_80_code 26 = .ok (.iconst 0, 1)) rfl),
  zs_callSv hX zMS_12_427 (zXc_of hl (by decide) (k_X12_copies hcl hinj)) (by decide +kernel : decode prog_14_method_80_code 27 = .ok (.invokestatic 427, 3)) rfl,
  zs_aload_n (i := 0) rfl hX (by decide +kernel : decode prog_14_method_80_code 30 = .ok (.aload_n 0, 1)) rfl (by decide),
  zs_callVv hX zMV_12_347 (zXc_of hl (by decide) (k_X12_fresh0 hcl hinj)) (by decide +kernel : decode prog_14_method_80_code 31 = .ok (.invokevirtual 347, 3)) rfl,
  zs_pushI (zg_iconst (by decide) hX (by decide +kernel : decode prog_14_method_80_code 34 = .ok (.iconst (-1), 1)) rfl), trivial⟩
set_option maxRecDepth 20000 in
theorem s_X12_judged_1 {l : Launch} {D : va_G} {ad : Nat → Nat → Nat} {cy : Nat → ClassId} {L : List (Nat × Nat)} (hcl : zclo L = true) (hinj : zAd ad L) {X : zCtx} (hX : zXok X "SoapTreatyModel" prog_14_method_80_code 5) (hR : zRt X (some .int)) (hl : zXl X l D ad cy L (zroom 7)) : zAllR (zSo X) p_X12_judged_1 := ⟨zs_istore_n (i := 2) rfl hX (by decide +kernel : decode prog_14_method_80_code 35 = .ok (.istore_n 2, 1)) rfl (by decide),
  zs_pushI (zg_iconst (by decide) hX (by decide +kernel : decode prog_14_method_80_code 36 = .ok (.iconst (-1), 1)) rfl),
  zs_istore_n (i := 3) rfl hX (by decide +kernel : decode prog_14_method_80_code 37 = .ok (.istore_n 3, 1)) rfl (by decide),
  zs_pushI (zg_iconst (by decide) hX (by decide +kernel : decode prog_14_method_80_code 38 = .ok (.iconst 0, 1)) rfl),
  zs_istore hX (by decide +kernel : decode prog_14_method_80_code 39 = .ok (.istore 4, 2)) rfl (by decide),
  zs_iload hX (by decide +kernel : decode prog_14_method_80_code 41 = .ok (.iload 4, 2)) rfl (by decide),
  zs_aload_n (i := 0) rfl hX (by decide +kernel : decode prog_14_method_80_code 43 = .ok (.aload_n 0, 1)) rfl (by decide),
  zs_getR hX zFL_12_90 (by decide +kernel : decode prog_14_method_80_code 44 = .ok (.getfield 90, 3)) rfl,
  zs_pushI (zg_iconst (by decide) hX (by decide +kernel : decode prog_14_method_80_code 47 = .ok (.iconst 0, 1)) rfl),
  zs_ialdc hX (by decide +kernel : decode prog_14_method_80_code 48 = .ok (.iaload, 1)) rfl,
  zs_cge hX (by decide +kernel : decode prog_14_method_80_code 49 = .ok (.if_icmp .ge 39, 3)) (by decide) rfl,
  zs_aload_n (i := 0) rfl hX (by decide +kernel : decode prog_14_method_80_code 52 = .ok (.aload_n 0, 1)) rfl (by decide),
  zs_iload hX (by decide +kernel : decode prog_14_method_80_code 53 = .ok (.iload 4, 2)) rfl (by decide),
  zs_callVi hX zMV_12_446 (zXc_of hl (by decide) (k_X12_goes hcl hinj)) (by decide +kernel : decode prog_14_method_80_code 55 = .ok (.invokevirtual 446, 3)) rfl,
  zs_0ne hX (by decide +kernel : decode prog_14_method_80_code 58 = .ok (.ifCond .ne 10, 3)) (by decide) rfl,
  zs_iload_n (i := 2) rfl hX (by decide +kernel : decode prog_14_method_80_code 61 = .ok (.iload_n 2, 1)) rfl (by decide),
  zs_0ge hX (by decide +kernel : decode prog_14_method_80_code 62 = .ok (.ifCond .ge 6, 3)) (by decide) rfl,
  zs_iload hX (by decide +kernel : decode prog_14_method_80_code 65 = .ok (.iload 4, 2)) rfl (by decide),
  zs_istore_n (i := 2) rfl hX (by decide +kernel : decode prog_14_method_80_code 67 = .ok (.istore_n 2, 1)) rfl (by decide),
  zs_iload_n (i := 3) rfl hX (by decide +kernel : decode prog_14_method_80_code 68 = .ok (.iload_n 3, 1)) rfl (by decide), trivial⟩
set_option maxRecDepth 20000 in
theorem s_X12_judged_2 {l : Launch} {D : va_G} {ad : Nat → Nat → Nat} {cy : Nat → ClassId} {L : List (Nat × Nat)} (hcl : zclo L = true) (hinj : zAd ad L) {X : zCtx} (hX : zXok X "SoapTreatyModel" prog_14_method_80_code 5) (hR : zRt X (some .int)) (hl : zXl X l D ad cy L (zroom 7)) : zAllR (zSo X) p_X12_judged_2 := ⟨zs_0ge hX (by decide +kernel : decode prog_14_method_80_code 69 = .ok (.ifCond .ge 13, 3)) (by decide) rfl,
  zs_aload_n (i := 0) rfl hX (by decide +kernel : decode prog_14_method_80_code 72 = .ok (.aload_n 0, 1)) rfl (by decide),
  zs_callVi hX zMV_12_449 (zXc_of hl (by decide) (k_X12_isSomeFound hcl hinj)) (by decide +kernel : decode prog_14_method_80_code 73 = .ok (.invokevirtual 449, 3)) rfl,
  zs_0eq hX (by decide +kernel : decode prog_14_method_80_code 76 = .ok (.ifCond .eq 6, 3)) (by decide) rfl,
  zs_iload hX (by decide +kernel : decode prog_14_method_80_code 79 = .ok (.iload 4, 2)) rfl (by decide),
  zs_istore_n (i := 3) rfl hX (by decide +kernel : decode prog_14_method_80_code 81 = .ok (.istore_n 3, 1)) rfl (by decide),
  zs_iinc hX (by decide +kernel : decode prog_14_method_80_code 82 = .ok (.iinc 4 1, 3)) (by decide) rfl (by decide),
  zs_goto hX (by decide +kernel : decode prog_14_method_80_code 85 = .ok (.goto (-44), 3)) (by decide),
  zs_aload_n (i := 0) rfl hX (by decide +kernel : decode prog_14_method_80_code 88 = .ok (.aload_n 0, 1)) rfl (by decide),
  zs_getR hX zFL_12_114 (by decide +kernel : decode prog_14_method_80_code 89 = .ok (.getfield 114, 3)) rfl,
  zs_pushI (zg_iconst (by decide) hX (by decide +kernel : decode prog_14_method_80_code 92 = .ok (.iconst 1, 1)) rfl),
  zs_ialdc hX (by decide +kernel : decode prog_14_method_80_code 93 = .ok (.iaload, 1)) rfl,
  zs_istore hX (by decide +kernel : decode prog_14_method_80_code 94 = .ok (.istore 4, 2)) rfl (by decide),
  zs_aload_n (i := 0) rfl hX (by decide +kernel : decode prog_14_method_80_code 96 = .ok (.aload_n 0, 1)) rfl (by decide),
  zs_getR hX zFL_12_117 (by decide +kernel : decode prog_14_method_80_code 97 = .ok (.getfield 117, 3)) rfl,
  zs_pushI (zg_iconst (by decide) hX (by decide +kernel : decode prog_14_method_80_code 100 = .ok (.iconst 0, 1)) rfl),
  zs_aload_n (i := 0) rfl hX (by decide +kernel : decode prog_14_method_80_code 101 = .ok (.aload_n 0, 1)) rfl (by decide),
  zs_getR hX zFL_12_114 (by decide +kernel : decode prog_14_method_80_code 102 = .ok (.getfield 114, 3)) rfl,
  zs_pushI (zg_iconst (by decide) hX (by decide +kernel : decode prog_14_method_80_code 105 = .ok (.iconst 0, 1)) rfl),
  zs_callSv hX zMS_12_427 (zXc_of hl (by decide) (k_X12_copies hcl hinj)) (by decide +kernel : decode prog_14_method_80_code 106 = .ok (.invokestatic 427, 3)) rfl, trivial⟩
set_option maxRecDepth 20000 in
theorem s_X12_judged_3 {l : Launch} {D : va_G} {ad : Nat → Nat → Nat} {cy : Nat → ClassId} {L : List (Nat × Nat)} (hcl : zclo L = true) (hinj : zAd ad L) {X : zCtx} (hX : zXok X "SoapTreatyModel" prog_14_method_80_code 5) (hR : zRt X (some .int)) (hl : zXl X l D ad cy L (zroom 7)) : zAllR (zSo X) p_X12_judged_3 := ⟨zs_iload_n (i := 1) rfl hX (by decide +kernel : decode prog_14_method_80_code 109 = .ok (.iload_n 1, 1)) rfl (by decide),
  zs_0ne hX (by decide +kernel : decode prog_14_method_80_code 110 = .ok (.ifCond .ne 7, 3)) (by decide) rfl,
  zs_iload_n (i := 2) rfl hX (by decide +kernel : decode prog_14_method_80_code 113 = .ok (.iload_n 2, 1)) rfl (by decide),
  zs_goto hX (by decide +kernel : decode prog_14_method_80_code 114 = .ok (.goto 14, 3)) (by decide),
  zs_iload_n (i := 1) rfl hX (by decide +kernel : decode prog_14_method_80_code 117 = .ok (.iload_n 1, 1)) rfl (by decide),
  zs_pushI (zg_iconst (by decide) hX (by decide +kernel : decode prog_14_method_80_code 118 = .ok (.iconst 1, 1)) rfl),
  zs_cne hX (by decide +kernel : decode prog_14_method_80_code 119 = .ok (.if_icmp .ne 7, 3)) (by decide) rfl,
  zs_iload_n (i := 3) rfl hX (by decide +kernel : decode prog_14_method_80_code 122 = .ok (.iload_n 3, 1)) rfl (by decide),
  zs_goto hX (by decide +kernel : decode prog_14_method_80_code 123 = .ok (.goto 5, 3)) (by decide),
  zs_iload hX (by decide +kernel : decode prog_14_method_80_code 126 = .ok (.iload 4, 2)) rfl (by decide),
  zs_iret hX hR (by decide +kernel : decode prog_14_method_80_code 128 = .ok (.ireturn, 1)), trivial⟩
theorem k_X12_judged {l : Launch} {D : va_G} {ad : Nat → Nat → Nat} {cy : Nat → ClassId} {L : List (Nat × Nat)} (hcl : zclo L = true) (hinj : zAd ad L) : zCk l D ad cy L 7 f_X12_judged y_X12_judged (.code y_X12_judged prog_14_method_80_code 5 (some .int)) :=
  z_met (by decide) t_X12_judged hcl hinj (fun X hX hR hl k => zgs_all (Q := zSo X) (c := [(35, p_X12_judged_0), (69, p_X12_judged_1), (107, p_X12_judged_2), (129, p_X12_judged_3)]) (fun _ => zs_bad) ⟨s_X12_judged_0 hcl hinj hX hR hl, s_X12_judged_1 hcl hinj hX hR hl, s_X12_judged_2 hcl hinj hX hR hl, s_X12_judged_3 hcl hinj hX hR hl, trivial⟩ k)
set_option maxRecDepth 1000000 in
theorem e_X12_judged_0 (x1 : Int32) (h : zH) : zL p_X12_judged 0 [some (.inr (.inr (12, 0))), some (.inl x1), none, none, none] [] h = zci (f_X12_within [(.inl x1), (.inl 0), (.inl 2)] (zuI h 12 0 0 0)) (fun r2 h1 => zf (r2 = 0) (some (some (.inl zm2), h1)) (zcv (f_X12_copies [(.inr (.inr (72, 0))), (.inl 0), (.inr (.inr (73, 0))), (.inl 0)] h1) (fun h3 => zcv (f_X12_fresh0 [(.inr (.inr (12, 0)))] h3) (fun h4 => zL p_X12_judged 41 [some (.inr (.inr (12, 0))), some (.inl x1), some (.inl zm1), some (.inl zm1), some (.inl 0)] [] h4)))) := (zL_s (t_X12_judged) [0, 41, 68] 1000 0 _ _ _).trans rfl
theorem g_X12_judged (x1 : Int32) (h : zH) : f_X12_judged [(.inr (.inr (12, 0))), (.inl x1)] h = zci (f_X12_within [(.inl x1), (.inl 0), (.inl 2)] (zuI h 12 0 0 0)) (fun r2 h1 => zf (r2 = 0) (some (some (.inl zm2), h1)) (zcv (f_X12_copies [(.inr (.inr (72, 0))), (.inl 0), (.inr (.inr (73, 0))), (.inl 0)] h1) (fun h3 => zcv (f_X12_fresh0 [(.inr (.inr (12, 0)))] h3) (fun h4 => zL p_X12_judged 41 [some (.inr (.inr (12, 0))), some (.inl x1), some (.inl zm1), some (.inl zm1), some (.inl 0)] [] h4)))) := (show f_X12_judged _ h = zL p_X12_judged 0 _ [] h from rfl).trans (e_X12_judged_0 x1 h)
set_option maxRecDepth 1000000 in
theorem e_X12_judged_41 (x1 : Int32) (x2 : Int32) (x3 : Int32) (x4 : Int32) (h : zH) : zL p_X12_judged 41 [some (.inr (.inr (12, 0))), some (.inl x1), some (.inl x2), some (.inl x3), some (.inl x4)] [] h = zf (x4 < (h.1 64 0 0)) (zci (f_X12_goes [(.inr (.inr (12, 0))), (.inl x4)] h) (fun r3 h2 => zf (r3 = 0) (zf (x2 < 0) (zL p_X12_judged 68 [some (.inr (.inr (12, 0))), some (.inl x1), some (.inl x4), some (.inl x3), some (.inl x4)] [] h2) (zL p_X12_judged 68 [some (.inr (.inr (12, 0))), some (.inl x1), some (.inl x2), some (.inl x3), some (.inl x4)] [] h2)) (zL p_X12_judged 68 [some (.inr (.inr (12, 0))), some (.inl x1), some (.inl x2), some (.inl x3), some (.inl x4)] [] h2))) (zcv (f_X12_copies [(.inr (.inr (73, 0))), (.inl 0), (.inr (.inr (72, 0))), (.inl 0)] h) (fun h1 => zf (x1 = 0) (some (some (.inl x2), h1)) (zf (x1 = 1) (some (some (.inl x3), h1)) (some (some (.inl (h.1 72 0 1)), h1))))) := (zL_s (t_X12_judged) [0, 41, 68] 1000 41 _ _ _).trans rfl
set_option maxRecDepth 1000000 in
theorem e_X12_judged_68 (x1 : Int32) (x2 : Int32) (x3 : Int32) (x4 : Int32) (h : zH) : zL p_X12_judged 68 [some (.inr (.inr (12, 0))), some (.inl x1), some (.inl x2), some (.inl x3), some (.inl x4)] [] h = zf (x3 < 0) (zci (f_X12_isSomeFound [(.inr (.inr (12, 0)))] h) (fun r2 h1 => zf (r2 = 0) (zL p_X12_judged 41 [some (.inr (.inr (12, 0))), some (.inl x1), some (.inl x2), some (.inl x3), some (.inl (x4 + 1))] [] h1) (zL p_X12_judged 41 [some (.inr (.inr (12, 0))), some (.inl x1), some (.inl x2), some (.inl x4), some (.inl (x4 + 1))] [] h1))) (zL p_X12_judged 41 [some (.inr (.inr (12, 0))), some (.inl x1), some (.inl x2), some (.inl x3), some (.inl (x4 + 1))] [] h) := (zL_s (t_X12_judged) [0, 41, 68] 1000 68 _ _ _).trans rfl
/-! SoapTreatyModel.earnest(II)I -/
def y_X12_earnest : MethodName := ⟨"SoapTreatyModel", "earnest", "(II)I"⟩
noncomputable def p_X12_earnest_0 : List (Nat × zO) := [(0, zo_aload 0 1),
  (1, zo_push (.inl 0) 2),
  (2, zo_putI 12 0 5),
  (5, zo_aload 0 6),
  (6, zo_iload 1 7),
  (7, zo_vir 12 2 (zo_calli (f_X12_isPower) 2 10)),
  (10, zo_0eq 26 13),
  (13, zo_aload 0 14),
  (14, zo_iload 2 15),
  (15, zo_vir 12 2 (zo_calli (f_X12_isPower) 2 18)),
  (18, zo_0eq 26 21),
  (21, zo_iload 1 22),
  (22, zo_iload 2 23),
  (23, zo_cne 28 26),
  (26, zo_push (.inl zm1) 27),
  (27, zo_iret),
  (28, zo_aload 0 29),
  (29, zo_iload 1 30),
  (30, zo_iload 2 31),
  (31, zo_vir 12 3 (zo_calli (f_X12_areEarnest) 3 34))]
noncomputable def p_X12_earnest_1 : List (Nat × zO) := [(34, zo_0eq 41 37),
  (37, zo_push (.inl 1) 38),
  (38, zo_goto 42),
  (41, zo_push (.inl 0) 42),
  (42, zo_iret)]
noncomputable def p_X12_earnest : Nat → zO := zgs [(32, p_X12_earnest_0), (43, p_X12_earnest_1)]
theorem t_X12_earnest : ∀ k, zTl (p_X12_earnest k) := fun k => zgs_all (c := [(32, p_X12_earnest_0), (43, p_X12_earnest_1)]) (fun _ => zl_bad) ⟨⟨zl_aload, zl_push, zl_putI, zl_aload, zl_iload, (zl_vir zl_calli), zl_0eq, zl_aload, zl_iload, (zl_vir zl_calli), zl_0eq, zl_iload, zl_iload, zl_cne, zl_push, zl_iret, zl_aload, zl_iload, zl_iload, (zl_vir zl_calli), trivial⟩, ⟨zl_0eq, zl_push, zl_goto, zl_push, zl_iret, trivial⟩, trivial⟩ k
noncomputable def f_X12_earnest : zS := zrun p_X12_earnest 3
set_option maxRecDepth 20000 in
theorem s_X12_earnest_0 {l : Launch} {D : va_G} {ad : Nat → Nat → Nat} {cy : Nat → ClassId} {L : List (Nat × Nat)} (hcl : zclo L = true) (hinj : zAd ad L) {X : zCtx} (hX : zXok X "SoapTreatyModel" prog_14_method_81_code 3) (hR : zRt X (some .int)) (hl : zXl X l D ad cy L (zroom 4)) : zAllR (zSo X) p_X12_earnest_0 := ⟨zs_aload_n (i := 0) rfl hX (by decide +kernel : decode prog_14_method_81_code 0 = .ok (.aload_n 0, 1)) rfl (by decide),
  zs_pushI (zg_iconst (by decide) hX (by decide +kernel : decode prog_14_method_81_code 1 = .ok (.iconst 0, 1)) rfl),
  zs_putI hX zFP_12_139 (by decide +kernel : decode prog_14_method_81_code 2 = .ok (.putfield 139, 3)) rfl,
  zs_aload_n (i := 0) rfl hX (by decide +kernel : decode prog_14_method_81_code 5 = .ok (.aload_n 0, 1)) rfl (by decide),
  zs_iload_n (i := 1) rfl hX (by decide +kernel : decode prog_14_method_81_code 6 = .ok (.iload_n 1, 1)) rfl (by decide),
  zs_callVi hX zMV_12_409 (zXc_of hl (by decide) (k_X12_isPower hcl hinj)) (by decide +kernel : decode prog_14_method_81_code 7 = .ok (.invokevirtual 409, 3)) rfl,
  zs_0eq hX (by decide +kernel : decode prog_14_method_81_code 10 = .ok (.ifCond .eq 16, 3)) (by decide) rfl,
  zs_aload_n (i := 0) rfl hX (by decide +kernel : decode prog_14_method_81_code 13 = .ok (.aload_n 0, 1)) rfl (by decide),
  zs_iload_n (i := 2) rfl hX (by decide +kernel : decode prog_14_method_81_code 14 = .ok (.iload_n 2, 1)) rfl (by decide),
  zs_callVi hX zMV_12_409 (zXc_of hl (by decide) (k_X12_isPower hcl hinj)) (by decide +kernel : decode prog_14_method_81_code 15 = .ok (.invokevirtual 409, 3)) rfl,
  zs_0eq hX (by decide +kernel : decode prog_14_method_81_code 18 = .ok (.ifCond .eq 8, 3)) (by decide) rfl,
  zs_iload_n (i := 1) rfl hX (by decide +kernel : decode prog_14_method_81_code 21 = .ok (.iload_n 1, 1)) rfl (by decide),
  zs_iload_n (i := 2) rfl hX (by decide +kernel : decode prog_14_method_81_code 22 = .ok (.iload_n 2, 1)) rfl (by decide),
  zs_cne hX (by decide +kernel : decode prog_14_method_81_code 23 = .ok (.if_icmp .ne 5, 3)) (by decide) rfl,
  zs_pushI (zg_iconst (by decide) hX (by decide +kernel : decode prog_14_method_81_code 26 = .ok (.iconst (-1), 1)) rfl),
  zs_iret hX hR (by decide +kernel : decode prog_14_method_81_code 27 = .ok (.ireturn, 1)),
  zs_aload_n (i := 0) rfl hX (by decide +kernel : decode prog_14_method_81_code 28 = .ok (.aload_n 0, 1)) rfl (by decide),
  zs_iload_n (i := 1) rfl hX (by decide +kernel : decode prog_14_method_81_code 29 = .ok (.iload_n 1, 1)) rfl (by decide),
  zs_iload_n (i := 2) rfl hX (by decide +kernel : decode prog_14_method_81_code 30 = .ok (.iload_n 2, 1)) rfl (by decide),
  zs_callVi hX zMV_12_397 (zXc_of hl (by decide) (k_X12_areEarnest hcl hinj)) (by decide +kernel : decode prog_14_method_81_code 31 = .ok (.invokevirtual 397, 3)) rfl, trivial⟩
set_option maxRecDepth 20000 in
theorem s_X12_earnest_1 {l : Launch} {D : va_G} {ad : Nat → Nat → Nat} {cy : Nat → ClassId} {L : List (Nat × Nat)} (hcl : zclo L = true) (hinj : zAd ad L) {X : zCtx} (hX : zXok X "SoapTreatyModel" prog_14_method_81_code 3) (hR : zRt X (some .int)) (hl : zXl X l D ad cy L (zroom 4)) : zAllR (zSo X) p_X12_earnest_1 := ⟨zs_0eq hX (by decide +kernel : decode prog_14_method_81_code 34 = .ok (.ifCond .eq 7, 3)) (by decide) rfl,
  zs_pushI (zg_iconst (by decide) hX (by decide +kernel : decode prog_14_method_81_code 37 = .ok (.iconst 1, 1)) rfl),
  zs_goto hX (by decide +kernel : decode prog_14_method_81_code 38 = .ok (.goto 4, 3)) (by decide),
  zs_pushI (zg_iconst (by decide) hX (by decide +kernel : decode prog_14_method_81_code 41 = .ok (.iconst 0, 1)) rfl),
  zs_iret hX hR (by decide +kernel : decode prog_14_method_81_code 42 = .ok (.ireturn, 1)), trivial⟩
theorem k_X12_earnest {l : Launch} {D : va_G} {ad : Nat → Nat → Nat} {cy : Nat → ClassId} {L : List (Nat × Nat)} (hcl : zclo L = true) (hinj : zAd ad L) : zCk l D ad cy L 4 f_X12_earnest y_X12_earnest (.code y_X12_earnest prog_14_method_81_code 3 (some .int)) :=
  z_met (by decide) t_X12_earnest hcl hinj (fun X hX hR hl k => zgs_all (Q := zSo X) (c := [(32, p_X12_earnest_0), (43, p_X12_earnest_1)]) (fun _ => zs_bad) ⟨s_X12_earnest_0 hcl hinj hX hR hl, s_X12_earnest_1 hcl hinj hX hR hl, trivial⟩ k)
set_option maxRecDepth 1000000 in
theorem e_X12_earnest_0 (x1 : Int32) (x2 : Int32) (h : zH) : zL p_X12_earnest 0 [some (.inr (.inr (12, 0))), some (.inl x1), some (.inl x2)] [] h = zci (f_X12_isPower [(.inr (.inr (12, 0))), (.inl x1)] (zuI h 12 0 0 0)) (fun r2 h1 => zf (r2 = 0) (some (some (.inl zm1), h1)) (zci (f_X12_isPower [(.inr (.inr (12, 0))), (.inl x2)] h1) (fun r4 h3 => zf (r4 = 0) (some (some (.inl zm1), h3)) (zf (x1 = x2) (some (some (.inl zm1), h3)) (zci (f_X12_areEarnest [(.inr (.inr (12, 0))), (.inl x1), (.inl x2)] h3) (fun r6 h5 => zf (r6 = 0) (some (some (.inl 0), h5)) (some (some (.inl 1), h5)))))))) := (zL_s (t_X12_earnest) [0] 1000 0 _ _ _).trans rfl
theorem g_X12_earnest (x1 : Int32) (x2 : Int32) (h : zH) : f_X12_earnest [(.inr (.inr (12, 0))), (.inl x1), (.inl x2)] h = zci (f_X12_isPower [(.inr (.inr (12, 0))), (.inl x1)] (zuI h 12 0 0 0)) (fun r2 h1 => zf (r2 = 0) (some (some (.inl zm1), h1)) (zci (f_X12_isPower [(.inr (.inr (12, 0))), (.inl x2)] h1) (fun r4 h3 => zf (r4 = 0) (some (some (.inl zm1), h3)) (zf (x1 = x2) (some (some (.inl zm1), h3)) (zci (f_X12_areEarnest [(.inr (.inr (12, 0))), (.inl x1), (.inl x2)] h3) (fun r6 h5 => zf (r6 = 0) (some (some (.inl 0), h5)) (some (some (.inl 1), h5)))))))) := (show f_X12_earnest _ h = zL p_X12_earnest 0 _ [] h from rfl).trans (e_X12_earnest_0 x1 x2 h)
