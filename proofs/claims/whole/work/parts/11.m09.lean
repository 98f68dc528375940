/-! SoapTreatyModel.laysSeen(II)V -/
def y_X12_laysSeen : MethodName := ⟨"SoapTreatyModel", "laysSeen", "(II)V"⟩
noncomputable def p_X12_laysSeen_0 : List (Nat × zO) := [(0, zo_aload 0 1),
  (1, zo_getR 12 68 none 4),
  (4, zo_iload 2 5),
  (5, zo_aload 0 6),
  (6, zo_getR 12 68 none 9),
  (9, zo_iload 1 10),
  (10, zo_iald 11),
  (11, zo_iast 12),
  (12, zo_push (.inl 0) 13),
  (13, zo_istore 3 14),
  (14, zo_iload 3 15),
  (15, zo_push (.inl 8) 17),
  (17, zo_cge 92 20),
  (20, zo_aload 0 21),
  (21, zo_getR 12 69 none 24),
  (24, zo_push (.inl 8) 26),
  (26, zo_iload 2 27),
  (27, zo_ii (fun x y => x * y) 28),
  (28, zo_iload 3 29),
  (29, zo_ii (fun x y => x + y) 30)]
noncomputable def p_X12_laysSeen_1 : List (Nat × zO) := [(30, zo_aload 0 31),
  (31, zo_getR 12 69 none 34),
  (34, zo_push (.inl 8) 36),
  (36, zo_iload 1 37),
  (37, zo_ii (fun x y => x * y) 38),
  (38, zo_iload 3 39),
  (39, zo_ii (fun x y => x + y) 40),
  (40, zo_iald 41),
  (41, zo_iast 42),
  (42, zo_aload 0 43),
  (43, zo_getR 12 70 none 46),
  (46, zo_push (.inl 8) 48),
  (48, zo_iload 2 49),
  (49, zo_ii (fun x y => x * y) 50),
  (50, zo_iload 3 51),
  (51, zo_ii (fun x y => x + y) 52),
  (52, zo_aload 0 53),
  (53, zo_getR 12 70 none 56),
  (56, zo_push (.inl 8) 58),
  (58, zo_iload 1 59)]
noncomputable def p_X12_laysSeen_2 : List (Nat × zO) := [(59, zo_ii (fun x y => x * y) 60),
  (60, zo_iload 3 61),
  (61, zo_ii (fun x y => x + y) 62),
  (62, zo_iald 63),
  (63, zo_iast 64),
  (64, zo_aload 0 65),
  (65, zo_getR 12 71 none 68),
  (68, zo_push (.inl 8) 70),
  (70, zo_iload 2 71),
  (71, zo_ii (fun x y => x * y) 72),
  (72, zo_iload 3 73),
  (73, zo_ii (fun x y => x + y) 74),
  (74, zo_aload 0 75),
  (75, zo_getR 12 71 none 78),
  (78, zo_push (.inl 8) 80),
  (80, zo_iload 1 81),
  (81, zo_ii (fun x y => x * y) 82),
  (82, zo_iload 3 83),
  (83, zo_ii (fun x y => x + y) 84),
  (84, zo_iald 85)]
noncomputable def p_X12_laysSeen_3 : List (Nat × zO) := [(85, zo_iast 86),
  (86, zo_iinc 3 1 89),
  (89, zo_goto 14),
  (92, zo_ret)]
noncomputable def p_X12_laysSeen : Nat → zO := zgs [(30, p_X12_laysSeen_0), (59, p_X12_laysSeen_1), (85, p_X12_laysSeen_2), (93, p_X12_laysSeen_3)]
theorem t_X12_laysSeen : ∀ k, zTl (p_X12_laysSeen k) := fun k => zgs_all (c := [(30, p_X12_laysSeen_0), (59, p_X12_laysSeen_1), (85, p_X12_laysSeen_2), (93, p_X12_laysSeen_3)]) (fun _ => zl_bad) ⟨⟨zl_aload, zl_getR, zl_iload, zl_aload, zl_getR, zl_iload, zl_iald, zl_iast, zl_push, zl_istore, zl_iload, zl_push, zl_cge, zl_aload, zl_getR, zl_push, zl_iload, zl_ii, zl_iload, zl_ii, trivial⟩, ⟨zl_aload, zl_getR, zl_push, zl_iload, zl_ii, zl_iload, zl_ii, zl_iald, zl_iast, zl_aload, zl_getR, zl_push, zl_iload, zl_ii, zl_iload, zl_ii, zl_aload, zl_getR, zl_push, zl_iload, trivial⟩, ⟨zl_ii, zl_iload, zl_ii, zl_iald, zl_iast, zl_aload, zl_getR, zl_push, zl_iload, zl_ii, zl_iload, zl_ii, zl_aload, zl_getR, zl_push, zl_iload, zl_ii, zl_iload, zl_ii, zl_iald, trivial⟩, ⟨zl_iast, zl_iinc, zl_goto, zl_ret, trivial⟩, trivial⟩ k
noncomputable def f_X12_laysSeen : zS := zrun p_X12_laysSeen 4
set_option maxRecDepth 20000 in
theorem s_X12_laysSeen_0 {l : Launch} {D : va_G} {ad : Nat → Nat → Nat} {cy : Nat → ClassId} {L : List (Nat × Nat)} (hcl : zclo L = true) (hinj : zAd ad L) {X : zCtx} (hX : zXok X "SoapTreatyModel" prog_14_method_43_code 4) (hR : zRt X none) (hl : zXl X l D ad cy L (zroom 1)) : zAllR (zSo X) p_X12_laysSeen_0 := ⟨zs_aload_n (i := 0) rfl hX (by decide +kernel : decode prog_14_method_43_code 0 = .ok (.aload_n 0, 1)) rfl (by decide),
  zs_getR hX zFL_12_102 (by decide +kernel : decode prog_14_method_43_code 1 = .ok (.getfield 102, 3)) rfl,
  zs_iload_n (i := 2) rfl hX (by decide +kernel : decode prog_14_method_43_code 4 = .ok (.iload_n 2, 1)) rfl (by decide),
  zs_aload_n (i := 0) rfl hX (by decide +kernel : decode prog_14_method_43_code 5 = .ok (.aload_n 0, 1)) rfl (by decide),
  zs_getR hX zFL_12_102 (by decide +kernel : decode prog_14_method_43_code 6 = .ok (.getfield 102, 3)) rfl,
  zs_iload_n (i := 1) rfl hX (by decide +kernel : decode prog_14_method_43_code 9 = .ok (.iload_n 1, 1)) rfl (by decide),
  zs_iald hX (by decide +kernel : decode prog_14_method_43_code 10 = .ok (.iaload, 1)) rfl,
  zs_iast hX (by decide +kernel : decode prog_14_method_43_code 11 = .ok (.iastore, 1)) rfl,
  zs_pushI (zg_iconst (by decide) hX (by decide +kernel : decode prog_14_method_43_code 12 = .ok (.iconst 0, 1)) rfl),
  zs_istore_n (i := 3) rfl hX (by decide +kernel : decode prog_14_method_43_code 13 = .ok (.istore_n 3, 1)) rfl (by decide),
  zs_iload_n (i := 3) rfl hX (by decide +kernel : decode prog_14_method_43_code 14 = .ok (.iload_n 3, 1)) rfl (by decide),
  zs_pushI (zg_bipush (by decide) hX (by decide +kernel : decode prog_14_method_43_code 15 = .ok (.bipush 8, 2)) rfl),
  zs_cge hX (by decide +kernel : decode prog_14_method_43_code 17 = .ok (.if_icmp .ge 75, 3)) (by decide) rfl,
  zs_aload_n (i := 0) rfl hX (by decide +kernel : decode prog_14_method_43_code 20 = .ok (.aload_n 0, 1)) rfl (by decide),
  zs_getR hX zFL_12_105 (by decide +kernel : decode prog_14_method_43_code 21 = .ok (.getfield 105, 3)) rfl,
  zs_pushI (zg_bipush (by decide) hX (by decide +kernel : decode prog_14_method_43_code 24 = .ok (.bipush 8, 2)) rfl),
  zs_iload_n (i := 2) rfl hX (by decide +kernel : decode prog_14_method_43_code 26 = .ok (.iload_n 2, 1)) rfl (by decide),
  zs_ii (zg_imul hX (by decide +kernel : decode prog_14_method_43_code 27 = .ok (.imul, 1)) rfl),
  zs_iload_n (i := 3) rfl hX (by decide +kernel : decode prog_14_method_43_code 28 = .ok (.iload_n 3, 1)) rfl (by decide),
  zs_ii (zg_iadd hX (by decide +kernel : decode prog_14_method_43_code 29 = .ok (.iadd, 1)) rfl), trivial⟩
set_option maxRecDepth 20000 in
theorem s_X12_laysSeen_1 {l : Launch} {D : va_G} {ad : Nat → Nat → Nat} {cy : Nat → ClassId} {L : List (Nat × Nat)} (hcl : zclo L = true) (hinj : zAd ad L) {X : zCtx} (hX : zXok X "SoapTreatyModel" prog_14_method_43_code 4) (hR : zRt X none) (hl : zXl X l D ad cy L (zroom 1)) : zAllR (zSo X) p_X12_laysSeen_1 := ⟨zs_aload_n (i := 0) rfl hX (by decide +kernel : decode prog_14_method_43_code 30 = .ok (.aload_n 0, 1)) rfl (by decide),
  zs_getR hX zFL_12_105 (by decide +kernel : decode prog_14_method_43_code 31 = .ok (.getfield 105, 3)) rfl,
  zs_pushI (zg_bipush (by decide) hX (by decide +kernel : decode prog_14_method_43_code 34 = .ok (.bipush 8, 2)) rfl),
  zs_iload_n (i := 1) rfl hX (by decide +kernel : decode prog_14_method_43_code 36 = .ok (.iload_n 1, 1)) rfl (by decide),
  zs_ii (zg_imul hX (by decide +kernel : decode prog_14_method_43_code 37 = .ok (.imul, 1)) rfl),
  zs_iload_n (i := 3) rfl hX (by decide +kernel : decode prog_14_method_43_code 38 = .ok (.iload_n 3, 1)) rfl (by decide),
  zs_ii (zg_iadd hX (by decide +kernel : decode prog_14_method_43_code 39 = .ok (.iadd, 1)) rfl),
  zs_iald hX (by decide +kernel : decode prog_14_method_43_code 40 = .ok (.iaload, 1)) rfl,
  zs_iast hX (by decide +kernel : decode prog_14_method_43_code 41 = .ok (.iastore, 1)) rfl,
  zs_aload_n (i := 0) rfl hX (by decide +kernel : decode prog_14_method_43_code 42 = .ok (.aload_n 0, 1)) rfl (by decide),
  zs_getR hX zFL_12_108 (by decide +kernel : decode prog_14_method_43_code 43 = .ok (.getfield 108, 3)) rfl,
  zs_pushI (zg_bipush (by decide) hX (by decide +kernel : decode prog_14_method_43_code 46 = .ok (.bipush 8, 2)) rfl),
  zs_iload_n (i := 2) rfl hX (by decide +kernel : decode prog_14_method_43_code 48 = .ok (.iload_n 2, 1)) rfl (by decide),
  zs_ii (zg_imul hX (by decide +kernel : decode prog_14_method_43_code 49 = .ok (.imul, 1)) rfl),
  zs_iload_n (i := 3) rfl hX (by decide +kernel : decode prog_14_method_43_code 50 = .ok (.iload_n 3, 1)) rfl (by decide),
  zs_ii (zg_iadd hX (by decide +kernel : decode prog_14_method_43_code 51 = .ok (.iadd, 1)) rfl),
  zs_aload_n (i := 0) rfl hX (by decide +kernel : decode prog_14_method_43_code 52 = .ok (.aload_n 0, 1)) rfl (by decide),
  zs_getR hX zFL_12_108 (by decide +kernel : decode prog_14_method_43_code 53 = .ok (.getfield 108, 3)) rfl,
  zs_pushI (zg_bipush (by decide) hX (by decide +kernel : decode prog_14_method_43_code 56 = .ok (.bipush 8, 2)) rfl),
  zs_iload_n (i := 1) rfl hX (by decide +kernel : decode prog_14_method_43_code 58 = .ok (.iload_n 1, 1)) rfl (by decide), trivial⟩
set_option maxRecDepth 20000 in
theorem s_X12_laysSeen_2 {l : Launch} {D : va_G} {ad : Nat → Nat → Nat} {cy : Nat → ClassId} {L : List (Nat × Nat)} (hcl : zclo L = true) (hinj : zAd ad L) {X : zCtx} (hX : zXok X "SoapTreatyModel" prog_14_method_43_code 4) (hR : zRt X none) (hl : zXl X l D ad cy L (zroom 1)) : zAllR (zSo X) p_X12_laysSeen_2 := ⟨zs_ii (zg_imul hX (by decide +kernel : decode prog_14_method_43_code 59 = .ok (.imul, 1)) rfl),
  zs_iload_n (i := 3) rfl hX (by decide +kernel : decode prog_14_method_43_code 60 = .ok (.iload_n 3, 1)) rfl (by decide),
  zs_ii (zg_iadd hX (by decide +kernel : decode prog_14_method_43_code 61 = .ok (.iadd, 1)) rfl),
  zs_iald hX (by decide +kernel : decode prog_14_method_43_code 62 = .ok (.iaload, 1)) rfl,
  zs_iast hX (by decide +kernel : decode prog_14_method_43_code 63 = .ok (.iastore, 1)) rfl,
  zs_aload_n (i := 0) rfl hX (by decide +kernel : decode prog_14_method_43_code 64 = .ok (.aload_n 0, 1)) rfl (by decide),
  zs_getR hX zFL_12_111 (by decide +kernel : decode prog_14_method_43_code 65 = .ok (.getfield 111, 3)) rfl,
  zs_pushI (zg_bipush (by decide) hX (by decide +kernel : decode prog_14_method_43_code 68 = .ok (.bipush 8, 2)) rfl),
  zs_iload_n (i := 2) rfl hX (by decide +kernel : decode prog_14_method_43_code 70 = .ok (.iload_n 2, 1)) rfl (by decide),
  zs_ii (zg_imul hX (by decide +kernel : decode prog_14_method_43_code 71 = .ok (.imul, 1)) rfl),
  zs_iload_n (i := 3) rfl hX (by decide +kernel : decode prog_14_method_43_code 72 = .ok (.iload_n 3, 1)) rfl (by decide),
  zs_ii (zg_iadd hX (by decide +kernel : decode prog_14_method_43_code 73 = .ok (.iadd, 1)) rfl),
  zs_aload_n (i := 0) rfl hX (by decide +kernel : decode prog_14_method_43_code 74 = .ok (.aload_n 0, 1)) rfl (by decide),
  zs_getR hX zFL_12_111 (by decide +kernel : decode prog_14_method_43_code 75 = .ok (.getfield 111, 3)) rfl,
  zs_pushI (zg_bipush (by decide) hX (by decide +kernel : decode prog_14_method_43_code 78 = .ok (.bipush 8, 2)) rfl),
  zs_iload_n (i := 1) rfl hX (by decide +kernel : decode prog_14_method_43_code 80 = .ok (.iload_n 1, 1)) rfl (by decide),
  zs_ii (zg_imul hX (by decide +kernel : decode prog_14_method_43_code 81 = .ok (.imul, 1)) rfl),
  zs_iload_n (i := 3) rfl hX (by decide +kernel : decode prog_14_method_43_code 82 = .ok (.iload_n 3, 1)) rfl (by decide),
  zs_ii (zg_iadd hX (by decide +kernel : decode prog_14_method_43_code 83 = .ok (.iadd, 1)) rfl),
  zs_iald hX (by decide +kernel : decode prog_14_method_43_code 84 = .ok (.iaload, 1)) rfl, trivial⟩
set_option maxRecDepth 20000 in
theorem s_X12_laysSeen_3 {l : Launch} {D : va_G} {ad : Nat → Nat → Nat} {cy : Nat → ClassId} {L : List (Nat × Nat)} (hcl : zclo L = true) (hinj : zAd ad L) {X : zCtx} (hX : zXok X "SoapTreatyModel" prog_14_method_43_code 4) (hR : zRt X none) (hl : zXl X l D ad cy L (zroom 1)) : zAllR (zSo X) p_X12_laysSeen_3 := ⟨zs_iast hX (by decide +kernel : decode prog_14_method_43_code 85 = .ok (.iastore, 1)) rfl,
  zs_iinc hX (by decide +kernel : decode prog_14_method_43_code 86 = .ok (.iinc 3 1, 3)) (by decide) rfl (by decide),
  zs_goto hX (by decide +kernel : decode prog_14_method_43_code 89 = .ok (.goto (-75), 3)) (by decide),
  zs_ret hX hR (by decide +kernel : decode prog_14_method_43_code 92 = .ok (.return_, 1)), trivial⟩
theorem k_X12_laysSeen {l : Launch} {D : va_G} {ad : Nat → Nat → Nat} {cy : Nat → ClassId} {L : List (Nat × Nat)} (hcl : zclo L = true) (hinj : zAd ad L) : zCk l D ad cy L 1 f_X12_laysSeen y_X12_laysSeen (.code y_X12_laysSeen prog_14_method_43_code 4 none) :=
  z_met (by decide) t_X12_laysSeen hcl hinj (fun X hX hR hl k => zgs_all (Q := zSo X) (c := [(30, p_X12_laysSeen_0), (59, p_X12_laysSeen_1), (85, p_X12_laysSeen_2), (93, p_X12_laysSeen_3)]) (fun _ => zs_bad) ⟨s_X12_laysSeen_0 hcl hinj hX hR hl, s_X12_laysSeen_1 hcl hinj hX hR hl, s_X12_laysSeen_2 hcl hinj hX hR hl, s_X12_laysSeen_3 hcl hinj hX hR hl, trivial⟩ k)
set_option maxRecDepth 1000000 in
theorem e_X12_laysSeen_0 (x1 : Int32) (x2 : Int32) (h : zH) : zL p_X12_laysSeen 0 [some (.inr (.inr (12, 0))), some (.inl x1), some (.inl x2), none] [] h = zf (vp_in x1 5) (zf (vp_in x2 5) (zL p_X12_laysSeen 14 [some (.inr (.inr (12, 0))), some (.inl x1), some (.inl x2), some (.inl 0)] [] (zuI h 68 0 x2.toNatClampNeg (h.1 68 0 x1.toNatClampNeg))) none) none := (zL_s (t_X12_laysSeen) [0, 14] 1000 0 _ _ _).trans rfl
theorem g_X12_laysSeen (x1 : Int32) (x2 : Int32) (h : zH) : f_X12_laysSeen [(.inr (.inr (12, 0))), (.inl x1), (.inl x2)] h = zf (vp_in x1 5) (zf (vp_in x2 5) (zL p_X12_laysSeen 14 [some (.inr (.inr (12, 0))), some (.inl x1), some (.inl x2), some (.inl 0)] [] (zuI h 68 0 x2.toNatClampNeg (h.1 68 0 x1.toNatClampNeg))) none) none := (show f_X12_laysSeen _ h = zL p_X12_laysSeen 0 _ [] h from rfl).trans (e_X12_laysSeen_0 x1 x2 h)
set_option maxRecDepth 1000000 in
theorem e_X12_laysSeen_14 (x1 : Int32) (x2 : Int32) (x3 : Int32) (h : zH) : zL p_X12_laysSeen 14 [some (.inr (.inr (12, 0))), some (.inl x1), some (.inl x2), some (.inl x3)] [] h = zf (x3 < 8) (zf (vp_in (((8 : Int32) * x1) + x3) 40) (zf (vp_in (((8 : Int32) * x2) + x3) 40) (zf (vp_in (((8 : Int32) * x1) + x3) 40) (zf (vp_in (((8 : Int32) * x2) + x3) 40) (zf (vp_in (((8 : Int32) * x1) + x3) 40) (zf (vp_in (((8 : Int32) * x2) + x3) 40) (zL p_X12_laysSeen 14 [some (.inr (.inr (12, 0))), some (.inl x1), some (.inl x2), some (.inl (x3 + 1))] [] (zuI (zuI (zuI h 69 0 (((8 : Int32) * x2) + x3).toNatClampNeg (h.1 69 0 (((8 : Int32) * x1) + x3).toNatClampNeg)) 70 0 (((8 : Int32) * x2) + x3).toNatClampNeg (h.1 70 0 (((8 : Int32) * x1) + x3).toNatClampNeg)) 71 0 (((8 : Int32) * x2) + x3).toNatClampNeg (h.1 71 0 (((8 : Int32) * x1) + x3).toNatClampNeg))) none) none) none) none) none) none) (some (none, h)) := (zL_s (t_X12_laysSeen) [0, 14] 1000 14 _ _ _).trans rfl
/-! SoapTreatyModel.fresh0()V -/
def y_X12_fresh0 : MethodName := ⟨"SoapTreatyModel", "fresh0", "()V"⟩
noncomputable def p_X12_fresh0_0 : List (Nat × zO) := [(0, zo_push (.inl 0) 1),
  (1, zo_istore 1 2),
  (2, zo_iload 1 3),
  (3, zo_push (.inl 24) 5),
  (5, zo_cge 21 8),
  (8, zo_aload 0 9),
  (9, zo_getR 12 72 none 12),
  (12, zo_iload 1 13),
  (13, zo_push (.inl 0) 14),
  (14, zo_iast 15),
  (15, zo_iinc 1 1 18),
  (18, zo_goto 2),
  (21, zo_push (.inl 0) 22),
  (22, zo_istore 1 23),
  (23, zo_iload 1 24),
  (24, zo_aload 0 25),
  (25, zo_getR 12 39 none 28),
  (28, zo_push (.inl 1) 29),
  (29, zo_ialdc 30),
  (30, zo_cge 68 33)]
noncomputable def p_X12_fresh0_1 : List (Nat × zO) := [(33, zo_aload 0 34),
  (34, zo_getR 12 72 none 37),
  (37, zo_push (.inl 3) 38),
  (38, zo_iload 1 39),
  (39, zo_ii (fun x y => x + y) 40),
  (40, zo_aload 0 41),
  (41, zo_getR 12 46 none 44),
  (44, zo_iload 1 45),
  (45, zo_iald 46),
  (46, zo_iast 47),
  (47, zo_aload 0 48),
  (48, zo_getR 12 72 none 51),
  (51, zo_push (.inl 10) 53),
  (53, zo_iload 1 54),
  (54, zo_ii (fun x y => x + y) 55),
  (55, zo_aload 0 56),
  (56, zo_getR 12 45 none 59),
  (59, zo_iload 1 60),
  (60, zo_iald 61),
  (61, zo_iast 62)]
noncomputable def p_X12_fresh0_2 : List (Nat × zO) := [(62, zo_iinc 1 1 65),
  (65, zo_goto 23),
  (68, zo_ret)]
noncomputable def p_X12_fresh0 : Nat → zO := zgs [(31, p_X12_fresh0_0), (62, p_X12_fresh0_1), (69, p_X12_fresh0_2)]
theorem t_X12_fresh0 : ∀ k, zTl (p_X12_fresh0 k) := fun k => zgs_all (c := [(31, p_X12_fresh0_0), (62, p_X12_fresh0_1), (69, p_X12_fresh0_2)]) (fun _ => zl_bad) ⟨⟨zl_push, zl_istore, zl_iload, zl_push, zl_cge, zl_aload, zl_getR, zl_iload, zl_push, zl_iast, zl_iinc, zl_goto, zl_push, zl_istore, zl_iload, zl_aload, zl_getR, zl_push, zl_ialdc, zl_cge, trivial⟩, ⟨zl_aload, zl_getR, zl_push, zl_iload, zl_ii, zl_aload, zl_getR, zl_iload, zl_iald, zl_iast, zl_aload, zl_getR, zl_push, zl_iload, zl_ii, zl_aload, zl_getR, zl_iload, zl_iald, zl_iast, trivial⟩, ⟨zl_iinc, zl_goto, zl_ret, trivial⟩, trivial⟩ k
noncomputable def f_X12_fresh0 : zS := zrun p_X12_fresh0 2
set_option maxRecDepth 20000 in
theorem s_X12_fresh0_0 {l : Launch} {D : va_G} {ad : Nat → Nat → Nat} {cy : Nat → ClassId} {L : List (Nat × Nat)} (hcl : zclo L = true) (hinj : zAd ad L) {X : zCtx} (hX : zXok X "SoapTreatyModel" prog_14_method_44_code 2) (hR : zRt X none) (hl : zXl X l D ad cy L (zroom 1)) : zAllR (zSo X) p_X12_fresh0_0 := ⟨zs_pushI (zg_iconst (by decide) hX (by decide +kernel : decode prog_14_method_44_code 0 = .ok (.iconst 0, 1)) rfl),
  zs_istore_n (i := 1) rfl hX (by decide +kernel : decode prog_14_method_44_code 1 = .ok (.istore_n 1, 1)) rfl (by decide),
  zs_iload_n (i := 1) rfl hX (by decide +kernel : decode prog_14_method_44_code 2 = .ok (.iload_n 1, 1)) rfl (by decide),
  zs_pushI (zg_bipush (by decide) hX (by decide +kernel : decode prog_14_method_44_code 3 = .ok (.bipush 24, 2)) rfl),
  zs_cge hX (by decide +kernel : decode prog_14_method_44_code 5 = .ok (.if_icmp .ge 16, 3)) (by decide) rfl,
  zs_aload_n (i := 0) rfl hX (by decide +kernel : decode prog_14_method_44_code 8 = .ok (.aload_n 0, 1)) rfl (by decide),
  zs_getR hX zFL_12_114 (by decide +kernel : decode prog_14_method_44_code 9 = .ok (.getfield 114, 3)) rfl,
  zs_iload_n (i := 1) rfl hX (by decide +kernel : decode prog_14_method_44_code 12 = .ok (.iload_n 1, 1)) rfl (by decide),
  zs_pushI (zg_iconst (by decide) hX (by decide +kernel : decode prog_14_method_44_code 13 = .ok (.iconst 0, 1)) rfl),
  zs_iast hX (by decide +kernel : decode prog_14_method_44_code 14 = .ok (.iastore, 1)) rfl,
  zs_iinc hX (by decide +kernel : decode prog_14_method_44_code 15 = .ok (.iinc 1 1, 3)) (by decide) rfl (by decide),
  zs_goto hX (by decide +kernel : decode prog_14_method_44_code 18 = .ok (.goto (-16), 3)) (by decide),
  zs_pushI (zg_iconst (by decide) hX (by decide +kernel : decode prog_14_method_44_code 21 = .ok (.iconst 0, 1)) rfl),
  zs_istore_n (i := 1) rfl hX (by decide +kernel : decode prog_14_method_44_code 22 = .ok (.istore_n 1, 1)) rfl (by decide),
  zs_iload_n (i := 1) rfl hX (by decide +kernel : decode prog_14_method_44_code 23 = .ok (.iload_n 1, 1)) rfl (by decide),
  zs_aload_n (i := 0) rfl hX (by decide +kernel : decode prog_14_method_44_code 24 = .ok (.aload_n 0, 1)) rfl (by decide),
  zs_getR hX zFL_12_13 (by decide +kernel : decode prog_14_method_44_code 25 = .ok (.getfield 13, 3)) rfl,
  zs_pushI (zg_iconst (by decide) hX (by decide +kernel : decode prog_14_method_44_code 28 = .ok (.iconst 1, 1)) rfl),
  zs_ialdc hX (by decide +kernel : decode prog_14_method_44_code 29 = .ok (.iaload, 1)) rfl,
  zs_cge hX (by decide +kernel : decode prog_14_method_44_code 30 = .ok (.if_icmp .ge 38, 3)) (by decide) rfl, trivial⟩
set_option maxRecDepth 20000 in
theorem s_X12_fresh0_1 {l : Launch} {D : va_G} {ad : Nat → Nat → Nat} {cy : Nat → ClassId} {L : List (Nat × Nat)} (hcl : zclo L = true) (hinj : zAd ad L) {X : zCtx} (hX : zXok X "SoapTreatyModel" prog_14_method_44_code 2) (hR : zRt X none) (hl : zXl X l D ad cy L (zroom 1)) : zAllR (zSo X) p_X12_fresh0_1 := ⟨zs_aload_n (i := 0) rfl hX (by decide +kernel : decode prog_14_method_44_code 33 = .ok (.aload_n 0, 1)) rfl (by decide),
  zs_getR hX zFL_12_114 (by decide +kernel : decode prog_14_method_44_code 34 = .ok (.getfield 114, 3)) rfl,
  zs_pushI (zg_iconst (by decide) hX (by decide +kernel : decode prog_14_method_44_code 37 = .ok (.iconst 3, 1)) rfl),
  zs_iload_n (i := 1) rfl hX (by decide +kernel : decode prog_14_method_44_code 38 = .ok (.iload_n 1, 1)) rfl (by decide),
  zs_ii (zg_iadd hX (by decide +kernel : decode prog_14_method_44_code 39 = .ok (.iadd, 1)) rfl),
  zs_aload_n (i := 0) rfl hX (by decide +kernel : decode prog_14_method_44_code 40 = .ok (.aload_n 0, 1)) rfl (by decide),
  zs_getR hX zFL_12_35 (by decide +kernel : decode prog_14_method_44_code 41 = .ok (.getfield 35, 3)) rfl,
  zs_iload_n (i := 1) rfl hX (by decide +kernel : decode prog_14_method_44_code 44 = .ok (.iload_n 1, 1)) rfl (by decide),
  zs_iald hX (by decide +kernel : decode prog_14_method_44_code 45 = .ok (.iaload, 1)) rfl,
  zs_iast hX (by decide +kernel : decode prog_14_method_44_code 46 = .ok (.iastore, 1)) rfl,
  zs_aload_n (i := 0) rfl hX (by decide +kernel : decode prog_14_method_44_code 47 = .ok (.aload_n 0, 1)) rfl (by decide),
  zs_getR hX zFL_12_114 (by decide +kernel : decode prog_14_method_44_code 48 = .ok (.getfield 114, 3)) rfl,
  zs_pushI (zg_bipush (by decide) hX (by decide +kernel : decode prog_14_method_44_code 51 = .ok (.bipush 10, 2)) rfl),
  zs_iload_n (i := 1) rfl hX (by decide +kernel : decode prog_14_method_44_code 53 = .ok (.iload_n 1, 1)) rfl (by decide),
  zs_ii (zg_iadd hX (by decide +kernel : decode prog_14_method_44_code 54 = .ok (.iadd, 1)) rfl),
  zs_aload_n (i := 0) rfl hX (by decide +kernel : decode prog_14_method_44_code 55 = .ok (.aload_n 0, 1)) rfl (by decide),
  zs_getR hX zFL_12_32 (by decide +kernel : decode prog_14_method_44_code 56 = .ok (.getfield 32, 3)) rfl,
  zs_iload_n (i := 1) rfl hX (by decide +kernel : decode prog_14_method_44_code 59 = .ok (.iload_n 1, 1)) rfl (by decide),
  zs_iald hX (by decide +kernel : decode prog_14_method_44_code 60 = .ok (.iaload, 1)) rfl,
  zs_iast hX (by decide +kernel : decode prog_14_method_44_code 61 = .ok (.iastore, 1)) rfl, trivial⟩
set_option maxRecDepth 20000 in
theorem s_X12_fresh0_2 {l : Launch} {D : va_G} {ad : Nat → Nat → Nat} {cy : Nat → ClassId} {L : List (Nat × Nat)} (hcl : zclo L = true) (hinj : zAd ad L) {X : zCtx} (hX : zXok X "SoapTreatyModel" prog_14_method_44_code 2) (hR : zRt X none) (hl : zXl X l D ad cy L (zroom 1)) : zAllR (zSo X) p_X12_fresh0_2 := ⟨zs_iinc hX (by decide +kernel : decode prog_14_method_44_code 62 = .ok (.iinc 1 1, 3)) (by decide) rfl (by decide),
  zs_goto hX (by decide +kernel : decode prog_14_method_44_code 65 = .ok (.goto (-42), 3)) (by decide),
  zs_ret hX hR (by decide +kernel : decode prog_14_method_44_code 68 = .ok (.return_, 1)), trivial⟩
theorem k_X12_fresh0 {l : Launch} {D : va_G} {ad : Nat → Nat → Nat} {cy : Nat → ClassId} {L : List (Nat × Nat)} (hcl : zclo L = true) (hinj : zAd ad L) : zCk l D ad cy L 1 f_X12_fresh0 y_X12_fresh0 (.code y_X12_fresh0 prog_14_method_44_code 2 none) :=
  z_met (by decide) t_X12_fresh0 hcl hinj (fun X hX hR hl k => zgs_all (Q := zSo X) (c := [(31, p_X12_fresh0_0), (62, p_X12_fresh0_1), (69, p_X12_fresh0_2)]) (fun _ => zs_bad) ⟨s_X12_fresh0_0 hcl hinj hX hR hl, s_X12_fresh0_1 hcl hinj hX hR hl, s_X12_fresh0_2 hcl hinj hX hR hl, trivial⟩ k)
set_option maxRecDepth 1000000 in
theorem e_X12_fresh0_0 (h : zH) : zL p_X12_fresh0 0 [some (.inr (.inr (12, 0))), none] [] h = zL p_X12_fresh0 2 [some (.inr (.inr (12, 0))), some (.inl 0)] [] h := (zL_s (t_X12_fresh0) [0, 2, 23] 1000 0 _ _ _).trans rfl
theorem g_X12_fresh0 (h : zH) : f_X12_fresh0 [(.inr (.inr (12, 0)))] h = zL p_X12_fresh0 2 [some (.inr (.inr (12, 0))), some (.inl 0)] [] h := (show f_X12_fresh0 _ h = zL p_X12_fresh0 0 _ [] h from rfl).trans (e_X12_fresh0_0 h)
set_option maxRecDepth 1000000 in
theorem e_X12_fresh0_2 (x1 : Int32) (h : zH) : zL p_X12_fresh0 2 [some (.inr (.inr (12, 0))), some (.inl x1)] [] h = zf (x1 < 24) (zf (vp_in x1 24) (zL p_X12_fresh0 2 [some (.inr (.inr (12, 0))), some (.inl (x1 + 1))] [] (zuI h 72 0 x1.toNatClampNeg 0)) none) (zL p_X12_fresh0 23 [some (.inr (.inr (12, 0))), some (.inl 0)] [] h) := (zL_s (t_X12_fresh0) [0, 2, 23] 1000 2 _ _ _).trans rfl
set_option maxRecDepth 1000000 in
theorem e_X12_fresh0_23 (x1 : Int32) (h : zH) : zL p_X12_fresh0 23 [some (.inr (.inr (12, 0))), some (.inl x1)] [] h = zf (x1 < (h.1 39 0 1)) (zf (vp_in x1 14) (zf (vp_in ((3 : Int32) + x1) 24) (zf (vp_in x1 14) (zf (vp_in ((10 : Int32) + x1) 24) (zL p_X12_fresh0 23 [some (.inr (.inr (12, 0))), some (.inl (x1 + 1))] [] (zuI (zuI h 72 0 ((3 : Int32) + x1).toNatClampNeg (h.1 46 0 x1.toNatClampNeg)) 72 0 ((10 : Int32) + x1).toNatClampNeg (h.1 45 0 x1.toNatClampNeg))) none) none) none) none) (some (none, h)) := (zL_s (t_X12_fresh0) [0, 2, 23] 1000 23 _ _ _).trans rfl
theorem zMV_12_341 : zMV "SoapTreatyModel" 341 12 y_X12_readsAll prog_14_method_36_code 2 (some .boolean) 0 := ⟨⟨zT_of 1381 (by decide +kernel) (by decide +kernel), zT_of 1383 (by decide +kernel) (by decide +kernel), zT_of 33 (by decide +kernel) (by decide +kernel), zT_of 118 (by decide +kernel) (by decide +kernel), zT_of 1384 (by decide +kernel) (by decide +kernel)⟩, by decide, rfl, ⟨zT12, 57, rfl⟩, by decide, by decide, by decide +kernel⟩
theorem zMV_12_344 : zMV "SoapTreatyModel" 344 12 y_X12_lays prog_14_method_39_code 1 none 0 := ⟨⟨zT_of 1513 (by decide +kernel) (by decide +kernel), zT_of 1515 (by decide +kernel) (by decide +kernel), zT_of 58 (by decide +kernel) (by decide +kernel), zT_of 118 (by decide +kernel) (by decide +kernel), zT_of 1516 (by decide +kernel) (by decide +kernel)⟩, by decide, rfl, ⟨zT12, 57, rfl⟩, by decide, by decide, by decide +kernel⟩
theorem zMV_12_347 : zMV "SoapTreatyModel" 347 12 y_X12_fresh0 prog_14_method_44_code 2 none 0 := ⟨⟨zT_of 1523 (by decide +kernel) (by decide +kernel), zT_of 1525 (by decide +kernel) (by decide +kernel), zT_of 59 (by decide +kernel) (by decide +kernel), zT_of 118 (by decide +kernel) (by decide +kernel), zT_of 1526 (by decide +kernel) (by decide +kernel)⟩, by decide, rfl, ⟨zT12, 57, rfl⟩, by decide, by decide, by decide +kernel⟩
/-! SoapTreatyModel.congress()I -/
def y_X12_congress : MethodName := ⟨"SoapTreatyModel", "congress", "()I"⟩
noncomputable def p_X12_congress_0 : List (Nat × zO) := [(0, zo_aload 0 1),
  (1, zo_push (.inl 0) 2),
  (2, zo_putI 12 0 5),
  (5, zo_aload 0 6),
  (6, zo_vir 12 1 (zo_calli (f_X12_readsAll) 1 9)),
  (9, zo_0ne 17 12),
  (12, zo_aload 0 13),
  (13, zo_getI 12 9 16),
  (16, zo_iret),
  (17, zo_aload 0 18),
  (18, zo_vir 12 1 (zo_callv (f_X12_lays) 1 21)),
  (21, zo_aload 0 22),
  (22, zo_vir 12 1 (zo_callv (f_X12_fresh0) 1 25)),
  (25, zo_aload 0 26),
  (26, zo_getR 12 64 none 29),
  (29, zo_push (.inl 0) 30),
  (30, zo_push (.inl 0) 31),
  (31, zo_iastc 32),
  (32, zo_aload 0 33),
  (33, zo_getR 12 68 none 36)]
noncomputable def p_X12_congress_1 : List (Nat × zO) := [(36, zo_push (.inl 0) 37),
  (37, zo_push (.inl 0) 38),
  (38, zo_iastc 39),
  (39, zo_aload 0 40),
  (40, zo_push (.inl 0) 41),
  (41, zo_putI 12 53 44),
  (44, zo_push (.inl 0) 45),
  (45, zo_istore 1 46),
  (46, zo_iload 1 47),
  (47, zo_push (.inl 4) 48),
  (48, zo_cge 64 51),
  (51, zo_aload 0 52),
  (52, zo_getR 12 77 none 55),
  (55, zo_iload 1 56),
  (56, zo_push (.inl 0) 57),
  (57, zo_zast 58),
  (58, zo_iinc 1 1 61),
  (61, zo_goto 46),
  (64, zo_push (.inl 0) 65),
  (65, zo_iret)]
noncomputable def p_X12_congress : Nat → zO := zgs [(34, p_X12_congress_0), (66, p_X12_congress_1)]
theorem t_X12_congress : ∀ k, zTl (p_X12_congress k) := fun k => zgs_all (c := [(34, p_X12_congress_0), (66, p_X12_congress_1)]) (fun _ => zl_bad) ⟨⟨zl_aload, zl_push, zl_putI, zl_aload, (zl_vir zl_calli), zl_0ne, zl_aload, zl_getI, zl_iret, zl_aload, (zl_vir zl_callv), zl_aload, (zl_vir zl_callv), zl_aload, zl_getR, zl_push, zl_push, zl_iastc, zl_aload, zl_getR, trivial⟩, ⟨zl_push, zl_push, zl_iastc, zl_aload, zl_push, zl_putI, zl_push, zl_istore, zl_iload, zl_push, zl_cge, zl_aload, zl_getR, zl_iload, zl_push, zl_zast, zl_iinc, zl_goto, zl_push, zl_iret, trivial⟩, trivial⟩ k
noncomputable def f_X12_congress : zS := zrun p_X12_congress 2
set_option maxRecDepth 20000 in
theorem s_X12_congress_0 {l : Launch} {D : va_G} {ad : Nat → Nat → Nat} {cy : Nat → ClassId} {L : List (Nat × Nat)} (hcl : zclo L = true) (hinj : zAd ad L) {X : zCtx} (hX : zXok X "SoapTreatyModel" prog_14_method_45_code 2) (hR : zRt X (some .int)) (hl : zXl X l D ad cy L (zroom 7)) : zAllR (zSo X) p_X12_congress_0 := ⟨zs_aload_n (i := 0) rfl hX (by decide +kernel : decode prog_14_method_45_code 0 = .ok (.aload_n 0, 1)) rfl (by decide),
  zs_pushI (zg_iconst (by decide) hX (by decide +kernel : decode prog_14_method_45_code 1 = .ok (.iconst 0, 1)) rfl),
  zs_putI hX zFP_12_139 (by decide +kernel : decode prog_14_method_45_code 2 = .ok (.putfield 139, 3)) rfl,
  zs_aload_n (i := 0) rfl hX (by decide +kernel : decode prog_14_method_45_code 5 = .ok (.aload_n 0, 1)) rfl (by decide),
  zs_callVi hX zMV_12_341 (zXc_of hl (by decide) (k_X12_readsAll hcl hinj)) (by decide +kernel : decode prog_14_method_45_code 6 = .ok (.invokevirtual 341, 3)) rfl,
  zs_0ne hX (by decide +kernel : decode prog_14_method_45_code 9 = .ok (.ifCond .ne 8, 3)) (by decide) rfl,
  zs_aload_n (i := 0) rfl hX (by decide +kernel : decode prog_14_method_45_code 12 = .ok (.aload_n 0, 1)) rfl (by decide),
  zs_getI hX zFL_12_175 (by decide) (by decide) (by decide +kernel : decode prog_14_method_45_code 13 = .ok (.getfield 175, 3)) rfl,
  zs_iret hX hR (by decide +kernel : decode prog_14_method_45_code 16 = .ok (.ireturn, 1)),
  zs_aload_n (i := 0) rfl hX (by decide +kernel : decode prog_14_method_45_code 17 = .ok (.aload_n 0, 1)) rfl (by decide),
  zs_callVv hX zMV_12_344 (zXc_of hl (by decide) (k_X12_lays hcl hinj)) (by decide +kernel : decode prog_14_method_45_code 18 = .ok (.invokevirtual 344, 3)) rfl,
  zs_aload_n (i := 0) rfl hX (by decide +kernel : decode prog_14_method_45_code 21 = .ok (.aload_n 0, 1)) rfl (by decide),
  zs_callVv hX zMV_12_347 (zXc_of hl (by decide) (k_X12_fresh0 hcl hinj)) (by decide +kernel : decode prog_14_method_45_code 22 = .ok (.invokevirtual 347, 3)) rfl,
  zs_aload_n (i := 0) rfl hX (by decide +kernel : decode prog_14_method_45_code 25 = .ok (.aload_n 0, 1)) rfl (by decide),
  zs_getR hX zFL_12_90 (by decide +kernel : decode prog_14_method_45_code 26 = .ok (.getfield 90, 3)) rfl,
  zs_pushI (zg_iconst (by decide) hX (by decide +kernel : decode prog_14_method_45_code 29 = .ok (.iconst 0, 1)) rfl),
  zs_pushI (zg_iconst (by decide) hX (by decide +kernel : decode prog_14_method_45_code 30 = .ok (.iconst 0, 1)) rfl),
  zs_iastc hX (by decide +kernel : decode prog_14_method_45_code 31 = .ok (.iastore, 1)) rfl,
  zs_aload_n (i := 0) rfl hX (by decide +kernel : decode prog_14_method_45_code 32 = .ok (.aload_n 0, 1)) rfl (by decide),
  zs_getR hX zFL_12_102 (by decide +kernel : decode prog_14_method_45_code 33 = .ok (.getfield 102, 3)) rfl, trivial⟩
set_option maxRecDepth 20000 in
theorem s_X12_congress_1 {l : Launch} {D : va_G} {ad : Nat → Nat → Nat} {cy : Nat → ClassId} {L : List (Nat × Nat)} (hcl : zclo L = true) (hinj : zAd ad L) {X : zCtx} (hX : zXok X "SoapTreatyModel" prog_14_method_45_code 2) (hR : zRt X (some .int)) (hl : zXl X l D ad cy L (zroom 7)) : zAllR (zSo X) p_X12_congress_1 := ⟨zs_pushI (zg_iconst (by decide) hX (by decide +kernel : decode prog_14_method_45_code 36 = .ok (.iconst 0, 1)) rfl),
  zs_pushI (zg_iconst (by decide) hX (by decide +kernel : decode prog_14_method_45_code 37 = .ok (.iconst 0, 1)) rfl),
  zs_iastc hX (by decide +kernel : decode prog_14_method_45_code 38 = .ok (.iastore, 1)) rfl,
  zs_aload_n (i := 0) rfl hX (by decide +kernel : decode prog_14_method_45_code 39 = .ok (.aload_n 0, 1)) rfl (by decide),
  zs_pushI (zg_iconst (by decide) hX (by decide +kernel : decode prog_14_method_45_code 40 = .ok (.iconst 0, 1)) rfl),
  zs_putI hX zFP_12_350 (by decide +kernel : decode prog_14_method_45_code 41 = .ok (.putfield 350, 3)) rfl,
  zs_pushI (zg_iconst (by decide) hX (by decide +kernel : decode prog_14_method_45_code 44 = .ok (.iconst 0, 1)) rfl),
  zs_istore_n (i := 1) rfl hX (by decide +kernel : decode prog_14_method_45_code 45 = .ok (.istore_n 1, 1)) rfl (by decide),
  zs_iload_n (i := 1) rfl hX (by decide +kernel : decode prog_14_method_45_code 46 = .ok (.iload_n 1, 1)) rfl (by decide),
  zs_pushI (zg_iconst (by decide) hX (by decide +kernel : decode prog_14_method_45_code 47 = .ok (.iconst 4, 1)) rfl),
  zs_cge hX (by decide +kernel : decode prog_14_method_45_code 48 = .ok (.if_icmp .ge 16, 3)) (by decide) rfl,
  zs_aload_n (i := 0) rfl hX (by decide +kernel : decode prog_14_method_45_code 51 = .ok (.aload_n 0, 1)) rfl (by decide),
  zs_getR hX zFL_12_129 (by decide +kernel : decode prog_14_method_45_code 52 = .ok (.getfield 129, 3)) rfl,
  zs_iload_n (i := 1) rfl hX (by decide +kernel : decode prog_14_method_45_code 55 = .ok (.iload_n 1, 1)) rfl (by decide),
  zs_pushI (zg_iconst (by decide) hX (by decide +kernel : decode prog_14_method_45_code 56 = .ok (.iconst 0, 1)) rfl),
  zs_zast hX (by decide +kernel : decode prog_14_method_45_code 57 = .ok (.bastore, 1)) rfl,
  zs_iinc hX (by decide +kernel : decode prog_14_method_45_code 58 = .ok (.iinc 1 1, 3)) (by decide) rfl (by decide),
  zs_goto hX (by decide +kernel : decode prog_14_method_45_code 61 = .ok (.goto (-15), 3)) (by decide),
  zs_pushI (zg_iconst (by decide) hX (by decide +kernel : decode prog_14_method_45_code 64 = .ok (.iconst 0, 1)) rfl),
  zs_iret hX hR (by decide +kernel : decode prog_14_method_45_code 65 = .ok (.ireturn, 1)), trivial⟩
theorem k_X12_congress {l : Launch} {D : va_G} {ad : Nat → Nat → Nat} {cy : Nat → ClassId} {L : List (Nat × Nat)} (hcl : zclo L = true) (hinj : zAd ad L) : zCk l D ad cy L 7 f_X12_congress y_X12_congress (.code y_X12_congress prog_14_method_45_code 2 (some .int)) :=
  z_met (by decide) t_X12_congress hcl hinj (fun X hX hR hl k => zgs_all (Q := zSo X) (c := [(34, p_X12_congress_0), (66, p_X12_congress_1)]) (fun _ => zs_bad) ⟨s_X12_congress_0 hcl hinj hX hR hl, s_X12_congress_1 hcl hinj hX hR hl, trivial⟩ k)
set_option maxRecDepth 1000000 in
theorem e_X12_congress_0 (h : zH) : zL p_X12_congress 0 [some (.inr (.inr (12, 0))), none] [] h = zci (f_X12_readsAll [(.inr (.inr (12, 0)))] (zuI h 12 0 0 0)) (fun r2 h1 => zf (r2 = 0) (some (some (.inl (h1.1 12 0 9)), h1)) (zcv (f_X12_lays [(.inr (.inr (12, 0)))] h1) (fun h3 => zcv (f_X12_fresh0 [(.inr (.inr (12, 0)))] h3) (fun h4 => zL p_X12_congress 46 [some (.inr (.inr (12, 0))), some (.inl 0)] [] (zuI (zuI (zuI h4 64 0 0 0) 68 0 0 0) 12 0 53 0))))) := (zL_s (t_X12_congress) [0, 46] 1000 0 _ _ _).trans rfl
theorem g_X12_congress (h : zH) : f_X12_congress [(.inr (.inr (12, 0)))] h = zci (f_X12_readsAll [(.inr (.inr (12, 0)))] (zuI h 12 0 0 0)) (fun r2 h1 => zf (r2 = 0) (some (some (.inl (h1.1 12 0 9)), h1)) (zcv (f_X12_lays [(.inr (.inr (12, 0)))] h1) (fun h3 => zcv (f_X12_fresh0 [(.inr (.inr (12, 0)))] h3) (fun h4 => zL p_X12_congress 46 [some (.inr (.inr (12, 0))), some (.inl 0)] [] (zuI (zuI (zuI h4 64 0 0 0) 68 0 0 0) 12 0 53 0))))) := (show f_X12_congress _ h = zL p_X12_congress 0 _ [] h from rfl).trans (e_X12_congress_0 h)
set_option maxRecDepth 1000000 in
theorem e_X12_congress_46 (x1 : Int32) (h : zH) : zL p_X12_congress 46 [some (.inr (.inr (12, 0))), some (.inl x1)] [] h = zf (x1 < 4) (zf (vp_in x1 4) (zL p_X12_congress 46 [some (.inr (.inr (12, 0))), some (.inl (x1 + 1))] [] (zuI h 77 0 x1.toNatClampNeg (vp_nar .boolean 0))) none) (some (some (.inl 0), h)) := (zL_s (t_X12_congress) [0, 46] 1000 46 _ _ _).trans rfl
theorem zMV_12_353 : zMV "SoapTreatyModel" 353 12 y_X12_readsLine prog_14_method_41_code 3 (some .boolean) 0 := ⟨⟨zT_of 1531 (by decide +kernel) (by decide +kernel), zT_of 1533 (by decide +kernel) (by decide +kernel), zT_of 60 (by decide +kernel) (by decide +kernel), zT_of 118 (by decide +kernel) (by decide +kernel), zT_of 1534 (by decide +kernel) (by decide +kernel)⟩, by decide, rfl, ⟨zT12, 57, rfl⟩, by decide, by decide, by decide +kernel⟩
theorem zMV_12_356 : zMV "SoapTreatyModel" 356 12 y_X12_laysLines prog_14_method_42_code 4 none 2 := ⟨⟨zT_of 1535 (by decide +kernel) (by decide +kernel), zT_of 1537 (by decide +kernel) (by decide +kernel), zT_of 61 (by decide +kernel) (by decide +kernel), zT_of 118 (by decide +kernel) (by decide +kernel), zT_of 1538 (by decide +kernel) (by decide +kernel)⟩, by decide, rfl, ⟨zT12, 57, rfl⟩, by decide, by decide, by decide +kernel⟩
/-! SoapTreatyModel.years()I -/
def y_X12_years : MethodName := ⟨"SoapTreatyModel", "years", "()I"⟩
noncomputable def p_X12_years_0 : List (Nat × zO) := [(0, zo_aload 0 1),
  (1, zo_push (.inl 0) 2),
  (2, zo_putI 12 0 5),
  (5, zo_aload 0 6),
  (6, zo_getR 12 64 none 9),
  (9, zo_push (.inl 5) 10),
  (10, zo_push (.inl 0) 11),
  (11, zo_iastc 12),
  (12, zo_aload 0 13),
  (13, zo_vir 12 1 (zo_callv (f_X12_begins) 1 16)),
  (16, zo_aload 0 17),
  (17, zo_getI 12 6 20),
  (20, zo_0eq 35 23),
  (23, zo_aload 0 24),
  (24, zo_vir 12 1 (zo_calli (f_X12_readsLine) 1 27)),
  (27, zo_0ne 16 30),
  (30, zo_aload 0 31),
  (31, zo_getI 12 9 34),
  (34, zo_iret),
  (35, zo_aload 0 36)]
noncomputable def p_X12_years_1 : List (Nat × zO) := [(36, zo_push (.inl 5) 37),
  (37, zo_push (.inl 0) 38),
  (38, zo_vir 12 3 (zo_callv (f_X12_laysLines) 3 41)),
  (41, zo_push (.inl 0) 42),
  (42, zo_iret)]
noncomputable def p_X12_years : Nat → zO := zgs [(36, p_X12_years_0), (43, p_X12_years_1)]
theorem t_X12_years : ∀ k, zTl (p_X12_years k) := fun k => zgs_all (c := [(36, p_X12_years_0), (43, p_X12_years_1)]) (fun _ => zl_bad) ⟨⟨zl_aload, zl_push, zl_putI, zl_aload, zl_getR, zl_push, zl_push, zl_iastc, zl_aload, (zl_vir zl_callv), zl_aload, zl_getI, zl_0eq, zl_aload, (zl_vir zl_calli), zl_0ne, zl_aload, zl_getI, zl_iret, zl_aload, trivial⟩, ⟨zl_push, zl_push, (zl_vir zl_callv), zl_push, zl_iret, trivial⟩, trivial⟩ k
noncomputable def f_X12_years : zS := zrun p_X12_years 1
set_option maxRecDepth 20000 in
theorem s_X12_years_0 {l : Launch} {D : va_G} {ad : Nat → Nat → Nat} {cy : Nat → ClassId} {L : List (Nat × Nat)} (hcl : zclo L = true) (hinj : zAd ad L) {X : zCtx} (hX : zXok X "SoapTreatyModel" prog_14_method_46_code 1) (hR : zRt X (some .int)) (hl : zXl X l D ad cy L (zroom 5)) : zAllR (zSo X) p_X12_years_0 := ⟨zs_aload_n (i := 0) rfl hX (by decide +kernel : decode prog_14_method_46_code 0 = .ok (.aload_n 0, 1)) rfl (by decide),
  zs_pushI (zg_iconst (by decide) hX (by decide +kernel : decode prog_14_method_46_code 1 = .ok (.iconst 0, 1)) rfl),
  zs_putI hX zFP_12_139 (by decide +kernel : decode prog_14_method_46_code 2 = .ok (.putfield 139, 3)) rfl,
  zs_aload_n (i := 0) rfl hX (by decide +kernel : decode prog_14_method_46_code 5 = .ok (.aload_n 0, 1)) rfl (by decide),
  zs_getR hX zFL_12_90 (by decide +kernel : decode prog_14_method_46_code 6 = .ok (.getfield 90, 3)) rfl,
  zs_pushI (zg_iconst (by decide) hX (by decide +kernel : decode prog_14_method_46_code 9 = .ok (.iconst 5, 1)) rfl),
  zs_pushI (zg_iconst (by decide) hX (by decide +kernel : decode prog_14_method_46_code 10 = .ok (.iconst 0, 1)) rfl),
  zs_iastc hX (by decide +kernel : decode prog_14_method_46_code 11 = .ok (.iastore, 1)) rfl,
  zs_aload_n (i := 0) rfl hX (by decide +kernel : decode prog_14_method_46_code 12 = .ok (.aload_n 0, 1)) rfl (by decide),
  zs_callVv hX zMV_12_315 (zXc_of hl (by decide) (k_X12_begins hcl hinj)) (by decide +kernel : decode prog_14_method_46_code 13 = .ok (.invokevirtual 315, 3)) rfl,
  zs_aload_n (i := 0) rfl hX (by decide +kernel : decode prog_14_method_46_code 16 = .ok (.aload_n 0, 1)) rfl (by decide),
  zs_getI hX zFL_12_164 (by decide) (by decide) (by decide +kernel : decode prog_14_method_46_code 17 = .ok (.getfield 164, 3)) rfl,
  zs_0eq hX (by decide +kernel : decode prog_14_method_46_code 20 = .ok (.ifCond .eq 15, 3)) (by decide) rfl,
  zs_aload_n (i := 0) rfl hX (by decide +kernel : decode prog_14_method_46_code 23 = .ok (.aload_n 0, 1)) rfl (by decide),
  zs_callVi hX zMV_12_353 (zXc_of hl (by decide) (k_X12_readsLine hcl hinj)) (by decide +kernel : decode prog_14_method_46_code 24 = .ok (.invokevirtual 353, 3)) rfl,
  zs_0ne hX (by decide +kernel : decode prog_14_method_46_code 27 = .ok (.ifCond .ne (-11), 3)) (by decide) rfl,
  zs_aload_n (i := 0) rfl hX (by decide +kernel : decode prog_14_method_46_code 30 = .ok (.aload_n 0, 1)) rfl (by decide),
  zs_getI hX zFL_12_175 (by decide) (by decide) (by decide +kernel : decode prog_14_method_46_code 31 = .ok (.getfield 175, 3)) rfl,
  zs_iret hX hR (by decide +kernel : decode prog_14_method_46_code 34 = .ok (.ireturn, 1)),
  zs_aload_n (i := 0) rfl hX (by decide +kernel : decode prog_14_method_46_code 35 = .ok (.aload_n 0, 1)) rfl (by decide), trivial⟩
set_option maxRecDepth 20000 in
theorem s_X12_years_1 {l : Launch} {D : va_G} {ad : Nat → Nat → Nat} {cy : Nat → ClassId} {L : List (Nat × Nat)} (hcl : zclo L = true) (hinj : zAd ad L) {X : zCtx} (hX : zXok X "SoapTreatyModel" prog_14_method_46_code 1) (hR : zRt X (some .int)) (hl : zXl X l D ad cy L (zroom 5)) : zAllR (zSo X) p_X12_years_1 := ⟨zs_pushI (zg_iconst (by decide) hX (by decide +kernel : decode prog_14_method_46_code 36 = .ok (.iconst 5, 1)) rfl),
  zs_pushI (zg_iconst (by decide) hX (by decide +kernel : decode prog_14_method_46_code 37 = .ok (.iconst 0, 1)) rfl),
  zs_callVv hX zMV_12_356 (zXc_of hl (by decide) (k_X12_laysLines hcl hinj)) (by decide +kernel : decode prog_14_method_46_code 38 = .ok (.invokevirtual 356, 3)) rfl,
  zs_pushI (zg_iconst (by decide) hX (by decide +kernel : decode prog_14_method_46_code 41 = .ok (.iconst 0, 1)) rfl),
  zs_iret hX hR (by decide +kernel : decode prog_14_method_46_code 42 = .ok (.ireturn, 1)), trivial⟩
theorem k_X12_years {l : Launch} {D : va_G} {ad : Nat → Nat → Nat} {cy : Nat → ClassId} {L : List (Nat × Nat)} (hcl : zclo L = true) (hinj : zAd ad L) : zCk l D ad cy L 5 f_X12_years y_X12_years (.code y_X12_years prog_14_method_46_code 1 (some .int)) :=
  z_met (by decide) t_X12_years hcl hinj (fun X hX hR hl k => zgs_all (Q := zSo X) (c := [(36, p_X12_years_0), (43, p_X12_years_1)]) (fun _ => zs_bad) ⟨s_X12_years_0 hcl hinj hX hR hl, s_X12_years_1 hcl hinj hX hR hl, trivial⟩ k)
set_option maxRecDepth 1000000 in
theorem e_X12_years_0 (h : zH) : zL p_X12_years 0 [some (.inr (.inr (12, 0)))] [] h = zcv (f_X12_begins [(.inr (.inr (12, 0)))] (zuI (zuI h 12 0 0 0) 64 0 5 0)) (fun h1 => zL p_X12_years 16 [some (.inr (.inr (12, 0)))] [] h1) := (zL_s (t_X12_years) [0, 16] 1000 0 _ _ _).trans rfl
theorem g_X12_years (h : zH) : f_X12_years [(.inr (.inr (12, 0)))] h = zcv (f_X12_begins [(.inr (.inr (12, 0)))] (zuI (zuI h 12 0 0 0) 64 0 5 0)) (fun h1 => zL p_X12_years 16 [some (.inr (.inr (12, 0)))] [] h1) := (show f_X12_years _ h = zL p_X12_years 0 _ [] h from rfl).trans (e_X12_years_0 h)
set_option maxRecDepth 1000000 in
theorem e_X12_years_16 (h : zH) : zL p_X12_years 16 [some (.inr (.inr (12, 0)))] [] h = zf ((h.1 12 0 6) = 0) (zcv (f_X12_laysLines [(.inr (.inr (12, 0))), (.inl 5), (.inl 0)] h) (fun h1 => some (some (.inl 0), h1))) (zci (f_X12_readsLine [(.inr (.inr (12, 0)))] h) (fun r3 h2 => zf (r3 = 0) (some (some (.inl (h2.1 12 0 9)), h2)) (zL p_X12_years 16 [some (.inr (.inr (12, 0)))] [] h2))) := (zL_s (t_X12_years) [0, 16] 1000 16 _ _ _).trans rfl
/-! SoapTreatyModel.isPower(I)Z -/
def y_X12_isPower : MethodName := ⟨"SoapTreatyModel", "isPower", "(I)Z"⟩
noncomputable def p_X12_isPower_0 : List (Nat × zO) := [(0, zo_iload 1 1),
  (1, zo_0lt 18 4),
  (4, zo_iload 1 5),
  (5, zo_aload 0 6),
  (6, zo_getR 12 39 none 9),
  (9, zo_push (.inl 0) 10),
  (10, zo_ialdc 11),
  (11, zo_cge 18 14),
  (14, zo_push (.inl 1) 15),
  (15, zo_goto 19),
  (18, zo_push (.inl 0) 19),
  (19, zo_zretc)]
noncomputable def p_X12_isPower : Nat → zO := zgs [(20, p_X12_isPower_0)]
theorem t_X12_isPower : ∀ k, zTl (p_X12_isPower k) := fun k => zgs_all (c := [(20, p_X12_isPower_0)]) (fun _ => zl_bad) ⟨⟨zl_iload, zl_0lt, zl_iload, zl_aload, zl_getR, zl_push, zl_ialdc, zl_cge, zl_push, zl_goto, zl_push, zl_zretc, trivial⟩, trivial⟩ k
noncomputable def f_X12_isPower : zS := zrun p_X12_isPower 2
set_option maxRecDepth 20000 in
theorem s_X12_isPower_0 {l : Launch} {D : va_G} {ad : Nat → Nat → Nat} {cy : Nat → ClassId} {L : List (Nat × Nat)} (hcl : zclo L = true) (hinj : zAd ad L) {X : zCtx} (hX : zXok X "SoapTreatyModel" prog_14_method_47_code 2) (hR : zRt X (some .boolean)) (hl : zXl X l D ad cy L (zroom 1)) : zAllR (zSo X) p_X12_isPower_0 := ⟨zs_iload_n (i := 1) rfl hX (by decide +kernel : decode prog_14_method_47_code 0 = .ok (.iload_n 1, 1)) rfl (by decide),
  zs_0lt hX (by decide +kernel : decode prog_14_method_47_code 1 = .ok (.ifCond .lt 17, 3)) (by decide) rfl,
  zs_iload_n (i := 1) rfl hX (by decide +kernel : decode prog_14_method_47_code 4 = .ok (.iload_n 1, 1)) rfl (by decide),
  zs_aload_n (i := 0) rfl hX (by decide +kernel : decode prog_14_method_47_code 5 = .ok (.aload_n 0, 1)) rfl (by decide),
  zs_getR hX zFL_12_13 (by decide +kernel : decode prog_14_method_47_code 6 = .ok (.getfield 13, 3)) rfl,
  zs_pushI (zg_iconst (by decide) hX (by decide +kernel : decode prog_14_method_47_code 9 = .ok (.iconst 0, 1)) rfl),
  zs_ialdc hX (by decide +kernel : decode prog_14_method_47_code 10 = .ok (.iaload, 1)) rfl,
  zs_cge hX (by decide +kernel : decode prog_14_method_47_code 11 = .ok (.if_icmp .ge 7, 3)) (by decide) rfl,
  zs_pushI (zg_iconst (by decide) hX (by decide +kernel : decode prog_14_method_47_code 14 = .ok (.iconst 1, 1)) rfl),
  zs_goto hX (by decide +kernel : decode prog_14_method_47_code 15 = .ok (.goto 4, 3)) (by decide),
  zs_pushI (zg_iconst (by decide) hX (by decide +kernel : decode prog_14_method_47_code 18 = .ok (.iconst 0, 1)) rfl),
  zs_zretc hX hR (by decide +kernel : decode prog_14_method_47_code 19 = .ok (.ireturn, 1)), trivial⟩
theorem k_X12_isPower {l : Launch} {D : va_G} {ad : Nat → Nat → Nat} {cy : Nat → ClassId} {L : List (Nat × Nat)} (hcl : zclo L = true) (hinj : zAd ad L) : zCk l D ad cy L 1 f_X12_isPower y_X12_isPower (.code y_X12_isPower prog_14_method_47_code 2 (some .boolean)) :=
  z_met (by decide) t_X12_isPower hcl hinj (fun X hX hR hl k => zgs_all (Q := zSo X) (c := [(20, p_X12_isPower_0)]) (fun _ => zs_bad) ⟨s_X12_isPower_0 hcl hinj hX hR hl, trivial⟩ k)
set_option maxRecDepth 1000000 in
theorem e_X12_isPower_0 (x1 : Int32) (h : zH) : zL p_X12_isPower 0 [some (.inr (.inr (12, 0))), some (.inl x1)] [] h = zf (x1 < 0) (some (some (.inl 0), h)) (zf (x1 < (h.1 39 0 0)) (some (some (.inl 1), h)) (some (some (.inl 0), h))) := (zL_s (t_X12_isPower) [0] 1000 0 _ _ _).trans rfl
theorem g_X12_isPower (x1 : Int32) (h : zH) : f_X12_isPower [(.inr (.inr (12, 0))), (.inl x1)] h = zf (x1 < 0) (some (some (.inl 0), h)) (zf (x1 < (h.1 39 0 0)) (some (some (.inl 1), h)) (some (some (.inl 0), h))) := (show f_X12_isPower _ h = zL p_X12_isPower 0 _ [] h from rfl).trans (e_X12_isPower_0 x1 h)
/-! SoapTreatyModel.isCake(I)Z -/
def y_X12_isCake : MethodName := ⟨"SoapTreatyModel", "isCake", "(I)Z"⟩
noncomputable def p_X12_isCake_0 : List (Nat × zO) := [(0, zo_iload 1 1),
  (1, zo_0lt 18 4),
  (4, zo_iload 1 5),
  (5, zo_aload 0 6),
  (6, zo_getR 12 39 none 9),
  (9, zo_push (.inl 1) 10),
  (10, zo_ialdc 11),
  (11, zo_cge 18 14),
  (14, zo_push (.inl 1) 15),
  (15, zo_goto 19),
  (18, zo_push (.inl 0) 19),
  (19, zo_zretc)]
noncomputable def p_X12_isCake : Nat → zO := zgs [(20, p_X12_isCake_0)]
theorem t_X12_isCake : ∀ k, zTl (p_X12_isCake k) := fun k => zgs_all (c := [(20, p_X12_isCake_0)]) (fun _ => zl_bad) ⟨⟨zl_iload, zl_0lt, zl_iload, zl_aload, zl_getR, zl_push, zl_ialdc, zl_cge, zl_push, zl_goto, zl_push, zl_zretc, trivial⟩, trivial⟩ k
noncomputable def f_X12_isCake : zS := zrun p_X12_isCake 2
set_option maxRecDepth 20000 in
theorem s_X12_isCake_0 {l : Launch} {D : va_G} {ad : Nat → Nat → Nat} {cy : Nat → ClassId} {L : List (Nat × Nat)} (hcl : zclo L = true) (hinj : zAd ad L) {X : zCtx} (hX : zXok X "SoapTreatyModel" prog_14_method_48_code 2) (hR : zRt X (some .boolean)) (hl : zXl X l D ad cy L (zroom 1)) : zAllR (zSo X) p_X12_isCake_0 := ⟨zs_iload_n (i := 1) rfl hX (by decide +kernel : decode prog_14_method_48_code 0 = .ok (.iload_n 1, 1)) rfl (by decide),
  zs_0lt hX (by decide +kernel : decode prog_14_method_48_code 1 = .ok (.ifCond .lt 17, 3)) (by decide) rfl,
  zs_iload_n (i := 1) rfl hX (by decide +kernel : decode prog_14_method_48_code 4 = .ok (.iload_n 1, 1)) rfl (by decide),
  zs_aload_n (i := 0) rfl hX (by decide +kernel : decode prog_14_method_48_code 5 = .ok (.aload_n 0, 1)) rfl (by decide),
  zs_getR hX zFL_12_13 (by decide +kernel : decode prog_14_method_48_code 6 = .ok (.getfield 13, 3)) rfl,
  zs_pushI (zg_iconst (by decide) hX (by decide +kernel : decode prog_14_method_48_code 9 = .ok (.iconst 1, 1)) rfl),
  zs_ialdc hX (by decide +kernel : decode prog_14_method_48_code 10 = .ok (.iaload, 1)) rfl,
  zs_cge hX (by decide +kernel : decode prog_14_method_48_code 11 = .ok (.if_icmp .ge 7, 3)) (by decide) rfl,
  zs_pushI (zg_iconst (by decide) hX (by decide +kernel : decode prog_14_method_48_code 14 = .ok (.iconst 1, 1)) rfl),
  zs_goto hX (by decide +kernel : decode prog_14_method_48_code 15 = .ok (.goto 4, 3)) (by decide),
  zs_pushI (zg_iconst (by decide) hX (by decide +kernel : decode prog_14_method_48_code 18 = .ok (.iconst 0, 1)) rfl),
  zs_zretc hX hR (by decide +kernel : decode prog_14_method_48_code 19 = .ok (.ireturn, 1)), trivial⟩
theorem k_X12_isCake {l : Launch} {D : va_G} {ad : Nat → Nat → Nat} {cy : Nat → ClassId} {L : List (Nat × Nat)} (hcl : zclo L = true) (hinj : zAd ad L) : zCk l D ad cy L 1 f_X12_isCake y_X12_isCake (.code y_X12_isCake prog_14_method_48_code 2 (some .boolean)) :=
  z_met (by decide) t_X12_isCake hcl hinj (fun X hX hR hl k => zgs_all (Q := zSo X) (c := [(20, p_X12_isCake_0)]) (fun _ => zs_bad) ⟨s_X12_isCake_0 hcl hinj hX hR hl, trivial⟩ k)
set_option maxRecDepth 1000000 in
theorem e_X12_isCake_0 (x1 : Int32) (h : zH) : zL p_X12_isCake 0 [some (.inr (.inr (12, 0))), some (.inl x1)] [] h = zf (x1 < 0) (some (some (.inl 0), h)) (zf (x1 < (h.1 39 0 1)) (some (some (.inl 1), h)) (some (some (.inl 0), h))) := (zL_s (t_X12_isCake) [0] 1000 0 _ _ _).trans rfl
theorem g_X12_isCake (x1 : Int32) (h : zH) : f_X12_isCake [(.inr (.inr (12, 0))), (.inl x1)] h = zf (x1 < 0) (some (some (.inl 0), h)) (zf (x1 < (h.1 39 0 1)) (some (some (.inl 1), h)) (some (some (.inl 0), h))) := (show f_X12_isCake _ h = zL p_X12_isCake 0 _ [] h from rfl).trans (e_X12_isCake_0 x1 h)
/-! SoapTreatyModel.isThere(I)Z -/
def y_X12_isThere : MethodName := ⟨"SoapTreatyModel", "isThere", "(I)Z"⟩
noncomputable def p_X12_isThere_0 : List (Nat × zO) := [(0, zo_aload 0 1),
  (1, zo_getR 12 72 none 4),
  (4, zo_push (.inl 3) 5),
  (5, zo_iload 1 6),
  (6, zo_ii (fun x y => x + y) 7),
  (7, zo_iald 8),
  (8, zo_0le 15 11),
  (11, zo_push (.inl 1) 12),
  (12, zo_goto 16),
  (15, zo_push (.inl 0) 16),
  (16, zo_zretc)]
noncomputable def p_X12_isThere : Nat → zO := zgs [(17, p_X12_isThere_0)]
theorem t_X12_isThere : ∀ k, zTl (p_X12_isThere k) := fun k => zgs_all (c := [(17, p_X12_isThere_0)]) (fun _ => zl_bad) ⟨⟨zl_aload, zl_getR, zl_push, zl_iload, zl_ii, zl_iald, zl_0le, zl_push, zl_goto, zl_push, zl_zretc, trivial⟩, trivial⟩ k
noncomputable def f_X12_isThere : zS := zrun p_X12_isThere 2
set_option maxRecDepth 20000 in
theorem s_X12_isThere_0 {l : Launch} {D : va_G} {ad : Nat → Nat → Nat} {cy : Nat → ClassId} {L : List (Nat × Nat)} (hcl : zclo L = true) (hinj : zAd ad L) {X : zCtx} (hX : zXok X "SoapTreatyModel" prog_14_method_49_code 2) (hR : zRt X (some .boolean)) (hl : zXl X l D ad cy L (zroom 1)) : zAllR (zSo X) p_X12_isThere_0 := ⟨zs_aload_n (i := 0) rfl hX (by decide +kernel : decode prog_14_method_49_code 0 = .ok (.aload_n 0, 1)) rfl (by decide),
  zs_getR hX zFL_12_114 (by decide +kernel : decode prog_14_method_49_code 1 = .ok (.getfield 114, 3)) rfl,
  zs_pushI (zg_iconst (by decide) hX (by decide +kernel : decode prog_14_method_49_code 4 = .ok (.iconst 3, 1)) rfl),
  zs_iload_n (i := 1) rfl hX (by decide +kernel : decode prog_14_method_49_code 5 = .ok (.iload_n 1, 1)) rfl (by decide),
  zs_ii (zg_iadd hX (by decide +kernel : decode prog_14_method_49_code 6 = .ok (.iadd, 1)) rfl),
  zs_iald hX (by decide +kernel : decode prog_14_method_49_code 7 = .ok (.iaload, 1)) rfl,
  zs_0le hX (by decide +kernel : decode prog_14_method_49_code 8 = .ok (.ifCond .le 7, 3)) (by decide) rfl,
  zs_pushI (zg_iconst (by decide) hX (by decide +kernel : decode prog_14_method_49_code 11 = .ok (.iconst 1, 1)) rfl),
  zs_goto hX (by decide +kernel : decode prog_14_method_49_code 12 = .ok (.goto 4, 3)) (by decide),
  zs_pushI (zg_iconst (by decide) hX (by decide +kernel : decode prog_14_method_49_code 15 = .ok (.iconst 0, 1)) rfl),
  zs_zretc hX hR (by decide +kernel : decode prog_14_method_49_code 16 = .ok (.ireturn, 1)), trivial⟩
theorem k_X12_isThere {l : Launch} {D : va_G} {ad : Nat → Nat → Nat} {cy : Nat → ClassId} {L : List (Nat × Nat)} (hcl : zclo L = true) (hinj : zAd ad L) : zCk l D ad cy L 1 f_X12_isThere y_X12_isThere (.code y_X12_isThere prog_14_method_49_code 2 (some .boolean)) :=
  z_met (by decide) t_X12_isThere hcl hinj (fun X hX hR hl k => zgs_all (Q := zSo X) (c := [(17, p_X12_isThere_0)]) (fun _ => zs_bad) ⟨s_X12_isThere_0 hcl hinj hX hR hl, trivial⟩ k)
set_option maxRecDepth 1000000 in
theorem e_X12_isThere_0 (x1 : Int32) (h : zH) : zL p_X12_isThere 0 [some (.inr (.inr (12, 0))), some (.inl x1)] [] h = zf (vp_in ((3 : Int32) + x1) 24) (zf (0 < (h.1 72 0 ((3 : Int32) + x1).toNatClampNeg)) (some (some (.inl 1), h)) (some (some (.inl 0), h))) none := (zL_s (t_X12_isThere) [0] 1000 0 _ _ _).trans rfl
theorem g_X12_isThere (x1 : Int32) (h : zH) : f_X12_isThere [(.inr (.inr (12, 0))), (.inl x1)] h = zf (vp_in ((3 : Int32) + x1) 24) (zf (0 < (h.1 72 0 ((3 : Int32) + x1).toNatClampNeg)) (some (some (.inl 1), h)) (some (some (.inl 0), h))) none := (show f_X12_isThere _ h = zL p_X12_isThere 0 _ [] h from rfl).trans (e_X12_isThere_0 x1 h)
/-! SoapTreatyModel.hasHair(I)Z -/
def y_X12_hasHair : MethodName := ⟨"SoapTreatyModel", "hasHair", "(I)Z"⟩
noncomputable def p_X12_hasHair_0 : List (Nat × zO) := [(0, zo_aload 0 1),
  (1, zo_getR 12 72 none 4),
  (4, zo_push (.inl 2) 5),
  (5, zo_ialdc 6),
  (6, zo_iload 1 7),
  (7, zo_ii (fun x y => x >>> (y &&& 31)) 8),
  (8, zo_push (.inl 1) 9),
  (9, zo_ii (fun x y => x &&& y) 10),
  (10, zo_push (.inl 1) 11),
  (11, zo_cne 18 14),
  (14, zo_push (.inl 1) 15),
  (15, zo_goto 19),
  (18, zo_push (.inl 0) 19),
  (19, zo_zretc)]
noncomputable def p_X12_hasHair : Nat → zO := zgs [(20, p_X12_hasHair_0)]
theorem t_X12_hasHair : ∀ k, zTl (p_X12_hasHair k) := fun k => zgs_all (c := [(20, p_X12_hasHair_0)]) (fun _ => zl_bad) ⟨⟨zl_aload, zl_getR, zl_push, zl_ialdc, zl_iload, zl_ii, zl_push, zl_ii, zl_push, zl_cne, zl_push, zl_goto, zl_push, zl_zretc, trivial⟩, trivial⟩ k
noncomputable def f_X12_hasHair : zS := zrun p_X12_hasHair 2
set_option maxRecDepth 20000 in
theorem s_X12_hasHair_0 {l : Launch} {D : va_G} {ad : Nat → Nat → Nat} {cy : Nat → ClassId} {L : List (Nat × Nat)} (hcl : zclo L = true) (hinj : zAd ad L) {X : zCtx} (hX : zXok X "SoapTreatyModel" prog_14_method_50_code 2) (hR : zRt X (some .boolean)) (hl : zXl X l D ad cy L (zroom 1)) : zAllR (zSo X) p_X12_hasHair_0 := ⟨zs_aload_n (i := 0) rfl hX (by decide +kernel : decode prog_14_method_50_code 0 = .ok (.aload_n 0, 1)) rfl (by decide),
  zs_getR hX zFL_12_114 (by decide +kernel : decode prog_14_method_50_code 1 = .ok (.getfield 114, 3)) rfl,
  zs_pushI (zg_iconst (by decide) hX (by decide +kernel : decode prog_14_method_50_code 4 = .ok (.iconst 2, 1)) rfl),
  zs_ialdc hX (by decide +kernel : decode prog_14_method_50_code 5 = .ok (.iaload, 1)) rfl,
  zs_iload_n (i := 1) rfl hX (by decide +kernel : decode prog_14_method_50_code 6 = .ok (.iload_n 1, 1)) rfl (by decide),
  zs_ii (zg_ishr hX (by decide +kernel : decode prog_14_method_50_code 7 = .ok (.ishr, 1)) rfl),
  zs_pushI (zg_iconst (by decide) hX (by decide +kernel : decode prog_14_method_50_code 8 = .ok (.iconst 1, 1)) rfl),
  zs_ii (zg_iand hX (by decide +kernel : decode prog_14_method_50_code 9 = .ok (.iand, 1)) rfl),
  zs_pushI (zg_iconst (by decide) hX (by decide +kernel : decode prog_14_method_50_code 10 = .ok (.iconst 1, 1)) rfl),
  zs_cne hX (by decide +kernel : decode prog_14_method_50_code 11 = .ok (.if_icmp .ne 7, 3)) (by decide) rfl,
  zs_pushI (zg_iconst (by decide) hX (by decide +kernel : decode prog_14_method_50_code 14 = .ok (.iconst 1, 1)) rfl),
  zs_goto hX (by decide +kernel : decode prog_14_method_50_code 15 = .ok (.goto 4, 3)) (by decide),
  zs_pushI (zg_iconst (by decide) hX (by decide +kernel : decode prog_14_method_50_code 18 = .ok (.iconst 0, 1)) rfl),
  zs_zretc hX hR (by decide +kernel : decode prog_14_method_50_code 19 = .ok (.ireturn, 1)), trivial⟩
theorem k_X12_hasHair {l : Launch} {D : va_G} {ad : Nat → Nat → Nat} {cy : Nat → ClassId} {L : List (Nat × Nat)} (hcl : zclo L = true) (hinj : zAd ad L) : zCk l D ad cy L 1 f_X12_hasHair y_X12_hasHair (.code y_X12_hasHair prog_14_method_50_code 2 (some .boolean)) :=
  z_met (by decide) t_X12_hasHair hcl hinj (fun X hX hR hl k => zgs_all (Q := zSo X) (c := [(20, p_X12_hasHair_0)]) (fun _ => zs_bad) ⟨s_X12_hasHair_0 hcl hinj hX hR hl, trivial⟩ k)
set_option maxRecDepth 1000000 in
theorem e_X12_hasHair_0 (x1 : Int32) (h : zH) : zL p_X12_hasHair 0 [some (.inr (.inr (12, 0))), some (.inl x1)] [] h = zf ((((h.1 72 0 2) >>> (x1 &&& 31)) &&& (1 : Int32)) = 1) (some (some (.inl 1), h)) (some (some (.inl 0), h)) := (zL_s (t_X12_hasHair) [0] 1000 0 _ _ _).trans rfl
theorem g_X12_hasHair (x1 : Int32) (h : zH) : f_X12_hasHair [(.inr (.inr (12, 0))), (.inl x1)] h = zf ((((h.1 72 0 2) >>> (x1 &&& 31)) &&& (1 : Int32)) = 1) (some (some (.inl 1), h)) (some (some (.inl 0), h)) := (show f_X12_hasHair _ h = zL p_X12_hasHair 0 _ [] h from rfl).trans (e_X12_hasHair_0 x1 h)
theorem zMV_12_360 : zMV "SoapTreatyModel" 360 12 y_X12_isThere prog_14_method_49_code 2 (some .boolean) 1 := ⟨⟨zT_of 1555 (by decide +kernel) (by decide +kernel), zT_of 1557 (by decide +kernel) (by decide +kernel), zT_of 65 (by decide +kernel) (by decide +kernel), zT_of 118 (by decide +kernel) (by decide +kernel), zT_of 1558 (by decide +kernel) (by decide +kernel)⟩, by decide, rfl, ⟨zT12, 57, rfl⟩, by decide, by decide, by decide +kernel⟩
theorem zMV_12_363 : zMV "SoapTreatyModel" 363 12 y_X12_hasHair prog_14_method_50_code 2 (some .boolean) 1 := ⟨⟨zT_of 1567 (by decide +kernel) (by decide +kernel), zT_of 1569 (by decide +kernel) (by decide +kernel), zT_of 68 (by decide +kernel) (by decide +kernel), zT_of 118 (by decide +kernel) (by decide +kernel), zT_of 1570 (by decide +kernel) (by decide +kernel)⟩, by decide, rfl, ⟨zT12, 57, rfl⟩, by decide, by decide, by decide +kernel⟩
/-! SoapTreatyModel.canWash(I)Z -/
def y_X12_canWash : MethodName := ⟨"SoapTreatyModel", "canWash", "(I)Z"⟩
noncomputable def p_X12_canWash_0 : List (Nat × zO) := [(0, zo_aload 0 1),
  (1, zo_iload 1 2),
  (2, zo_vir 12 2 (zo_calli (f_X12_isThere) 2 5)),
  (5, zo_0eq 20 8),
  (8, zo_aload 0 9),
  (9, zo_iload 1 10),
  (10, zo_vir 12 2 (zo_calli (f_X12_hasHair) 2 13)),
  (13, zo_0ne 20 16),
  (16, zo_push (.inl 1) 17),
  (17, zo_goto 21),
  (20, zo_push (.inl 0) 21),
  (21, zo_zretc)]
noncomputable def p_X12_canWash : Nat → zO := zgs [(22, p_X12_canWash_0)]
theorem t_X12_canWash : ∀ k, zTl (p_X12_canWash k) := fun k => zgs_all (c := [(22, p_X12_canWash_0)]) (fun _ => zl_bad) ⟨⟨zl_aload, zl_iload, (zl_vir zl_calli), zl_0eq, zl_aload, zl_iload, (zl_vir zl_calli), zl_0ne, zl_push, zl_goto, zl_push, zl_zretc, trivial⟩, trivial⟩ k
noncomputable def f_X12_canWash : zS := zrun p_X12_canWash 2
set_option maxRecDepth 20000 in
theorem s_X12_canWash_0 {l : Launch} {D : va_G} {ad : Nat → Nat → Nat} {cy : Nat → ClassId} {L : List (Nat × Nat)} (hcl : zclo L = true) (hinj : zAd ad L) {X : zCtx} (hX : zXok X "SoapTreatyModel" prog_14_method_51_code 2) (hR : zRt X (some .boolean)) (hl : zXl X l D ad cy L (zroom 2)) : zAllR (zSo X) p_X12_canWash_0 := ⟨zs_aload_n (i := 0) rfl hX (by decide +kernel : decode prog_14_method_51_code 0 = .ok (.aload_n 0, 1)) rfl (by decide),
  zs_iload_n (i := 1) rfl hX (by decide +kernel : decode prog_14_method_51_code 1 = .ok (.iload_n 1, 1)) rfl (by decide),
  zs_callVi hX zMV_12_360 (zXc_of hl (by decide) (k_X12_isThere hcl hinj)) (by decide +kernel : decode prog_14_method_51_code 2 = .ok (.invokevirtual 360, 3)) rfl,
  zs_0eq hX (by decide +kernel : decode prog_14_method_51_code 5 = .ok (.ifCond .eq 15, 3)) (by decide) rfl,
  zs_aload_n (i := 0) rfl hX (by decide +kernel : decode prog_14_method_51_code 8 = .ok (.aload_n 0, 1)) rfl (by decide),
  zs_iload_n (i := 1) rfl hX (by decide +kernel : decode prog_14_method_51_code 9 = .ok (.iload_n 1, 1)) rfl (by decide),
  zs_callVi hX zMV_12_363 (zXc_of hl (by decide) (k_X12_hasHair hcl hinj)) (by decide +kernel : decode prog_14_method_51_code 10 = .ok (.invokevirtual 363, 3)) rfl,
  zs_0ne hX (by decide +kernel : decode prog_14_method_51_code 13 = .ok (.ifCond .ne 7, 3)) (by decide) rfl,
  zs_pushI (zg_iconst (by decide) hX (by decide +kernel : decode prog_14_method_51_code 16 = .ok (.iconst 1, 1)) rfl),
  zs_goto hX (by decide +kernel : decode prog_14_method_51_code 17 = .ok (.goto 4, 3)) (by decide),
  zs_pushI (zg_iconst (by decide) hX (by decide +kernel : decode prog_14_method_51_code 20 = .ok (.iconst 0, 1)) rfl),
  zs_zretc hX hR (by decide +kernel : decode prog_14_method_51_code 21 = .ok (.ireturn, 1)), trivial⟩
theorem k_X12_canWash {l : Launch} {D : va_G} {ad : Nat → Nat → Nat} {cy : Nat → ClassId} {L : List (Nat × Nat)} (hcl : zclo L = true) (hinj : zAd ad L) : zCk l D ad cy L 2 f_X12_canWash y_X12_canWash (.code y_X12_canWash prog_14_method_51_code 2 (some .boolean)) :=
  z_met (by decide) t_X12_canWash hcl hinj (fun X hX hR hl k => zgs_all (Q := zSo X) (c := [(22, p_X12_canWash_0)]) (fun _ => zs_bad) ⟨s_X12_canWash_0 hcl hinj hX hR hl, trivial⟩ k)
set_option maxRecDepth 1000000 in
theorem e_X12_canWash_0 (x1 : Int32) (h : zH) : zL p_X12_canWash 0 [some (.inr (.inr (12, 0))), some (.inl x1)] [] h = zci (f_X12_isThere [(.inr (.inr (12, 0))), (.inl x1)] h) (fun r2 h1 => zf (r2 = 0) (some (some (.inl 0), h1)) (zci (f_X12_hasHair [(.inr (.inr (12, 0))), (.inl x1)] h1) (fun r4 h3 => zf (r4 = 0) (some (some (.inl 1), h3)) (some (some (.inl 0), h3))))) := (zL_s (t_X12_canWash) [0] 1000 0 _ _ _).trans rfl
theorem g_X12_canWash (x1 : Int32) (h : zH) : f_X12_canWash [(.inr (.inr (12, 0))), (.inl x1)] h = zci (f_X12_isThere [(.inr (.inr (12, 0))), (.inl x1)] h) (fun r2 h1 => zf (r2 = 0) (some (some (.inl 0), h1)) (zci (f_X12_hasHair [(.inr (.inr (12, 0))), (.inl x1)] h1) (fun r4 h3 => zf (r4 = 0) (some (some (.inl 1), h3)) (some (some (.inl 0), h3))))) := (show f_X12_canWash _ h = zL p_X12_canWash 0 _ [] h from rfl).trans (e_X12_canWash_0 x1 h)
theorem zMV_12_366 : zMV "SoapTreatyModel" 366 12 y_X12_worked prog_14_method_19_code 6 (some .int) 1 := ⟨⟨zT_of 1618 (by decide +kernel) (by decide +kernel), zT_of 1620 (by decide +kernel) (by decide +kernel), zT_of 78 (by decide +kernel) (by decide +kernel), zT_of 118 (by decide +kernel) (by decide +kernel), zT_of 1621 (by decide +kernel) (by decide +kernel)⟩, by decide, rfl, ⟨zT12, 57, rfl⟩, by decide, by decide, by decide +kernel⟩
theorem zMS_12_369 : zMS "SoapTreatyModel" 369 y_X12_between prog_14_method_4_code 3 (some .int) 3 := ⟨⟨zT_of 1634 (by decide +kernel) (by decide +kernel), zT_of 1635 (by decide +kernel) (by decide +kernel), zT_of 118 (by decide +kernel) (by decide +kernel), zT_of 1636 (by decide +kernel) (by decide +kernel)⟩, by decide, by decide, by decide, by decide +kernel⟩
/-! SoapTreatyModel.washes(I)V -/
def y_X12_washes : MethodName := ⟨"SoapTreatyModel", "washes", "(I)V"⟩
noncomputable def p_X12_washes_0 : List (Nat × zO) := [(0, zo_aload 0 1),
  (1, zo_getR 12 72 none 4),
  (4, zo_push (.inl 10) 6),
  (6, zo_iload 1 7),
  (7, zo_ii (fun x y => x + y) 8),
  (8, zo_iald 9),
  (9, zo_istore 2 10),
  (10, zo_push (.inl 1) 11),
  (11, zo_aload 0 12),
  (12, zo_getR 12 47 none 15),
  (15, zo_iload 1 16),
  (16, zo_iald 17),
  (17, zo_aload 0 18),
  (18, zo_getR 12 43 none 21),
  (21, zo_iload 2 22),
  (22, zo_iald 23),
  (23, zo_cge 30 26),
  (26, zo_push (.inl 1) 27),
  (27, zo_goto 31),
  (30, zo_push (.inl 0) 31)]
noncomputable def p_X12_washes_1 : List (Nat × zO) := [(31, zo_kill [3] (zo_ii (fun x y => x + y) 32)),
  (32, zo_istore 3 33),
  (33, zo_aload 0 34),
  (34, zo_getR 12 50 none 37),
  (37, zo_push (.inl 0) 38),
  (38, zo_ialdc 39),
  (39, zo_aload 0 40),
  (40, zo_getR 12 49 none 43),
  (43, zo_push (.inl 0) 44),
  (44, zo_ialdc 45),
  (45, zo_cle 107 48),
  (48, zo_aload 0 49),
  (49, zo_getR 12 63 none 52),
  (52, zo_push (.inl 1) 53),
  (53, zo_aload 0 54),
  (54, zo_getR 12 72 none 57),
  (57, zo_push (.inl 3) 58),
  (58, zo_iload 1 59),
  (59, zo_ii (fun x y => x + y) 60),
  (60, zo_iald 61)]
noncomputable def p_X12_washes_2 : List (Nat × zO) := [(61, zo_iastc 62),
  (62, zo_aload 0 63),
  (63, zo_getR 12 63 none 66),
  (66, zo_push (.inl 2) 67),
  (67, zo_aload 0 68),
  (68, zo_getR 12 47 none 71),
  (71, zo_iload 1 72),
  (72, zo_iald 73),
  (73, zo_iastc 74),
  (74, zo_aload 0 75),
  (75, zo_getR 12 63 none 78),
  (78, zo_push (.inl 3) 79),
  (79, zo_aload 0 80),
  (80, zo_getR 12 43 none 83),
  (83, zo_iload 2 84),
  (84, zo_iald 85),
  (85, zo_iastc 86),
  (86, zo_aload 0 87),
  (87, zo_getR 12 63 none 90),
  (90, zo_push (.inl 4) 91)]
noncomputable def p_X12_washes_3 : List (Nat × zO) := [(91, zo_aload 0 92),
  (92, zo_getR 12 72 none 95),
  (95, zo_push (.inl 17) 97),
  (97, zo_iload 1 98),
  (98, zo_ii (fun x y => x + y) 99),
  (99, zo_iald 100),
  (100, zo_iastc 101),
  (101, zo_aload 0 102),
  (102, zo_push (.inl 0) 103),
  (103, zo_vir 12 2 (zo_calli (f_X12_worked) 2 106)),
  (106, zo_istore 3 107),
  (107, zo_iload 3 108),
  (108, zo_push (.inl 0) 109),
  (109, zo_push (.inl 9) 111),
  (111, zo_calli (f_X12_between) 3 114),
  (114, zo_istore 3 115),
  (115, zo_aload 0 116),
  (116, zo_getR 12 42 none 119),
  (119, zo_iload 2 120),
  (120, zo_iald 121)]
noncomputable def p_X12_washes_4 : List (Nat × zO) := [(121, zo_push (.inl 1) 122),
  (122, zo_cne 129 125),
  (125, zo_iload 3 126),
  (126, zo_push (.inl 2) 127),
  (127, zo_idc (fun x y => x / y) 128),
  (128, zo_istore 3 129),
  (129, zo_aload 0 130),
  (130, zo_getR 12 42 none 133),
  (133, zo_iload 2 134),
  (134, zo_iald 135),
  (135, zo_push (.inl 3) 136),
  (136, zo_cne 141 139),
  (139, zo_push (.inl 0) 140),
  (140, zo_istore 3 141),
  (141, zo_kill [2] (zo_aload 0 142)),
  (142, zo_getR 12 72 none 145),
  (145, zo_push (.inl 3) 146),
  (146, zo_iload 1 147),
  (147, zo_ii (fun x y => x + y) 148),
  (148, zo_push (.inl 0) 149)]
noncomputable def p_X12_washes_5 : List (Nat × zO) := [(149, zo_aload 0 150),
  (150, zo_getR 12 72 none 153),
  (153, zo_push (.inl 3) 154),
  (154, zo_iload 1 155),
  (155, zo_ii (fun x y => x + y) 156),
  (156, zo_iald 157),
  (157, zo_iload 3 158),
  (158, zo_ii (fun x y => x - y) 159),
  (159, zo_max 162),
  (162, zo_iast 163),
  (163, zo_aload 0 164),
  (164, zo_getR 12 72 none 167),
  (167, zo_push (.inl 17) 169),
  (169, zo_iload 1 170),
  (170, zo_ii (fun x y => x + y) 171),
  (171, zo_dup2 172),
  (172, zo_iald 173),
  (173, zo_push (.inl 1) 174),
  (174, zo_ii (fun x y => x + y) 175),
  (175, zo_iast 176)]
noncomputable def p_X12_washes_6 : List (Nat × zO) := [(176, zo_ret)]
noncomputable def p_X12_washes : Nat → zO := zgs [(31, p_X12_washes_0), (61, p_X12_washes_1), (91, p_X12_washes_2), (121, p_X12_washes_3), (149, p_X12_washes_4), (176, p_X12_washes_5), (177, p_X12_washes_6)]
theorem t_X12_washes : ∀ k, zTl (p_X12_washes k) := fun k => zgs_all (c := [(31, p_X12_washes_0), (61, p_X12_washes_1), (91, p_X12_washes_2), (121, p_X12_washes_3), (149, p_X12_washes_4), (176, p_X12_washes_5), (177, p_X12_washes_6)]) (fun _ => zl_bad) ⟨⟨zl_aload, zl_getR, zl_push, zl_iload, zl_ii, zl_iald, zl_istore, zl_push, zl_aload, zl_getR, zl_iload, zl_iald, zl_aload, zl_getR, zl_iload, zl_iald, zl_cge, zl_push, zl_goto, zl_push, trivial⟩, ⟨(zl_kill zl_ii), zl_istore, zl_aload, zl_getR, zl_push, zl_ialdc, zl_aload, zl_getR, zl_push, zl_ialdc, zl_cle, zl_aload, zl_getR, zl_push, zl_aload, zl_getR, zl_push, zl_iload, zl_ii, zl_iald, trivial⟩, ⟨zl_iastc, zl_aload, zl_getR, zl_push, zl_aload, zl_getR, zl_iload, zl_iald, zl_iastc, zl_aload, zl_getR, zl_push, zl_aload, zl_getR, zl_iload, zl_iald, zl_iastc, zl_aload, zl_getR, zl_push, trivial⟩, ⟨zl_aload, zl_getR, zl_push, zl_iload, zl_ii, zl_iald, zl_iastc, zl_aload, zl_push, (zl_vir zl_calli), zl_istore, zl_iload, zl_push, zl_push, zl_calli, zl_istore, zl_aload, zl_getR, zl_iload, zl_iald, trivial⟩, ⟨zl_push, zl_cne, zl_iload, zl_push, zl_idc, zl_istore, zl_aload, zl_getR, zl_iload, zl_iald, zl_push, zl_cne, zl_push, zl_istore, (zl_kill zl_aload), zl_getR, zl_push, zl_iload, zl_ii, zl_push, trivial⟩, ⟨zl_aload, zl_getR, zl_push, zl_iload, zl_ii, zl_iald, zl_iload, zl_ii, zl_max, zl_iast, zl_aload, zl_getR, zl_push, zl_iload, zl_ii, zl_dup2, zl_iald, zl_push, zl_ii, zl_iast, trivial⟩, ⟨zl_ret, trivial⟩, trivial⟩ k
noncomputable def f_X12_washes : zS := zrun p_X12_washes 4
set_option maxRecDepth 20000 in
theorem s_X12_washes_0 {l : Launch} {D : va_G} {ad : Nat → Nat → Nat} {cy : Nat → ClassId} {L : List (Nat × Nat)} (hcl : zclo L = true) (hinj : zAd ad L) {X : zCtx} (hX : zXok X "SoapTreatyModel" prog_14_method_52_code 4) (hR : zRt X none) (hl : zXl X l D ad cy L (zroom 4)) : zAllR (zSo X) p_X12_washes_0 := ⟨zs_aload_n (i := 0) rfl hX (by decide +kernel : decode prog_14_method_52_code 0 = .ok (.aload_n 0, 1)) rfl (by decide),
  zs_getR hX zFL_12_114 (by decide +kernel : decode prog_14_method_52_code 1 = .ok (.getfield 114, 3)) rfl,
  zs_pushI (zg_bipush (by decide) hX (by decide +kernel : decode prog_14_method_52_code 4 = .ok (.bipush 10, 2)) rfl),
  zs_iload_n (i := 1) rfl hX (by decide +kernel : decode prog_14_method_52_code 6 = .ok (.iload_n 1, 1)) rfl (by decide),
  zs_ii (zg_iadd hX (by decide +kernel : decode prog_14_method_52_code 7 = .ok (.iadd, 1)) rfl),
  zs_iald hX (by decide +kernel : decode prog_14_method_52_code 8 = .ok (.iaload, 1)) rfl,
  zs_istore_n (i := 2) rfl hX (by decide +kernel : decode prog_14_method_52_code 9 = .ok (.istore_n 2, 1)) rfl (by decide),
  zs_pushI (zg_iconst (by decide) hX (by decide +kernel : decode prog_14_method_52_code 10 = .ok (.iconst 1, 1)) rfl),
  zs_aload_n (i := 0) rfl hX (by decide +kernel : decode prog_14_method_52_code 11 = .ok (.aload_n 0, 1)) rfl (by decide),
  zs_getR hX zFL_12_38 (by decide +kernel : decode prog_14_method_52_code 12 = .ok (.getfield 38, 3)) rfl,
  zs_iload_n (i := 1) rfl hX (by decide +kernel : decode prog_14_method_52_code 15 = .ok (.iload_n 1, 1)) rfl (by decide),
  zs_iald hX (by decide +kernel : decode prog_14_method_52_code 16 = .ok (.iaload, 1)) rfl,
  zs_aload_n (i := 0) rfl hX (by decide +kernel : decode prog_14_method_52_code 17 = .ok (.aload_n 0, 1)) rfl (by decide),
  zs_getR hX zFL_12_26 (by decide +kernel : decode prog_14_method_52_code 18 = .ok (.getfield 26, 3)) rfl,
  zs_iload_n (i := 2) rfl hX (by decide +kernel : decode prog_14_method_52_code 21 = .ok (.iload_n 2, 1)) rfl (by decide),
  zs_iald hX (by decide +kernel : decode prog_14_method_52_code 22 = .ok (.iaload, 1)) rfl,
  zs_cge hX (by decide +kernel : decode prog_14_method_52_code 23 = .ok (.if_icmp .ge 7, 3)) (by decide) rfl,
  zs_pushI (zg_iconst (by decide) hX (by decide +kernel : decode prog_14_method_52_code 26 = .ok (.iconst 1, 1)) rfl),
  zs_goto hX (by decide +kernel : decode prog_14_method_52_code 27 = .ok (.goto 4, 3)) (by decide),
  zs_pushI (zg_iconst (by decide) hX (by decide +kernel : decode prog_14_method_52_code 30 = .ok (.iconst 0, 1)) rfl), trivial⟩
set_option maxRecDepth 20000 in
theorem s_X12_washes_1 {l : Launch} {D : va_G} {ad : Nat → Nat → Nat} {cy : Nat → ClassId} {L : List (Nat × Nat)} (hcl : zclo L = true) (hinj : zAd ad L) {X : zCtx} (hX : zXok X "SoapTreatyModel" prog_14_method_52_code 4) (hR : zRt X none) (hl : zXl X l D ad cy L (zroom 4)) : zAllR (zSo X) p_X12_washes_1 := ⟨zs_kill hX (by decide) (zs_ii (zg_iadd hX (by decide +kernel : decode prog_14_method_52_code 31 = .ok (.iadd, 1)) rfl)),
  zs_istore_n (i := 3) rfl hX (by decide +kernel : decode prog_14_method_52_code 32 = .ok (.istore_n 3, 1)) rfl (by decide),
  zs_aload_n (i := 0) rfl hX (by decide +kernel : decode prog_14_method_52_code 33 = .ok (.aload_n 0, 1)) rfl (by decide),
  zs_getR hX zFL_12_47 (by decide +kernel : decode prog_14_method_52_code 34 = .ok (.getfield 47, 3)) rfl,
  zs_pushI (zg_iconst (by decide) hX (by decide +kernel : decode prog_14_method_52_code 37 = .ok (.iconst 0, 1)) rfl),
  zs_ialdc hX (by decide +kernel : decode prog_14_method_52_code 38 = .ok (.iaload, 1)) rfl,
  zs_aload_n (i := 0) rfl hX (by decide +kernel : decode prog_14_method_52_code 39 = .ok (.aload_n 0, 1)) rfl (by decide),
  zs_getR hX zFL_12_44 (by decide +kernel : decode prog_14_method_52_code 40 = .ok (.getfield 44, 3)) rfl,
  zs_pushI (zg_iconst (by decide) hX (by decide +kernel : decode prog_14_method_52_code 43 = .ok (.iconst 0, 1)) rfl),
  zs_ialdc hX (by decide +kernel : decode prog_14_method_52_code 44 = .ok (.iaload, 1)) rfl,
  zs_cle hX (by decide +kernel : decode prog_14_method_52_code 45 = .ok (.if_icmp .le 62, 3)) (by decide) rfl,
  zs_aload_n (i := 0) rfl hX (by decide +kernel : decode prog_14_method_52_code 48 = .ok (.aload_n 0, 1)) rfl (by decide),
  zs_getR hX zFL_12_87 (by decide +kernel : decode prog_14_method_52_code 49 = .ok (.getfield 87, 3)) rfl,
  zs_pushI (zg_iconst (by decide) hX (by decide +kernel : decode prog_14_method_52_code 52 = .ok (.iconst 1, 1)) rfl),
  zs_aload_n (i := 0) rfl hX (by decide +kernel : decode prog_14_method_52_code 53 = .ok (.aload_n 0, 1)) rfl (by decide),
  zs_getR hX zFL_12_114 (by decide +kernel : decode prog_14_method_52_code 54 = .ok (.getfield 114, 3)) rfl,
  zs_pushI (zg_iconst (by decide) hX (by decide +kernel : decode prog_14_method_52_code 57 = .ok (.iconst 3, 1)) rfl),
  zs_iload_n (i := 1) rfl hX (by decide +kernel : decode prog_14_method_52_code 58 = .ok (.iload_n 1, 1)) rfl (by decide),
  zs_ii (zg_iadd hX (by decide +kernel : decode prog_14_method_52_code 59 = .ok (.iadd, 1)) rfl),
  zs_iald hX (by decide +kernel : decode prog_14_method_52_code 60 = .ok (.iaload, 1)) rfl, trivial⟩
set_option maxRecDepth 20000 in
theorem s_X12_washes_2 {l : Launch} {D : va_G} {ad : Nat → Nat → Nat} {cy : Nat → ClassId} {L : List (Nat × Nat)} (hcl : zclo L = true) (hinj : zAd ad L) {X : zCtx} (hX : zXok X "SoapTreatyModel" prog_14_method_52_code 4) (hR : zRt X none) (hl : zXl X l D ad cy L (zroom 4)) : zAllR (zSo X) p_X12_washes_2 := ⟨zs_iastc hX (by decide +kernel : decode prog_14_method_52_code 61 = .ok (.iastore, 1)) rfl,
  zs_aload_n (i := 0) rfl hX (by decide +kernel : decode prog_14_method_52_code 62 = .ok (.aload_n 0, 1)) rfl (by decide),
  zs_getR hX zFL_12_87 (by decide +kernel : decode prog_14_method_52_code 63 = .ok (.getfield 87, 3)) rfl,
  zs_pushI (zg_iconst (by decide) hX (by decide +kernel : decode prog_14_method_52_code 66 = .ok (.iconst 2, 1)) rfl),
  zs_aload_n (i := 0) rfl hX (by decide +kernel : decode prog_14_method_52_code 67 = .ok (.aload_n 0, 1)) rfl (by decide),
  zs_getR hX zFL_12_38 (by decide +kernel : decode prog_14_method_52_code 68 = .ok (.getfield 38, 3)) rfl,
  zs_iload_n (i := 1) rfl hX (by decide +kernel : decode prog_14_method_52_code 71 = .ok (.iload_n 1, 1)) rfl (by decide),
  zs_iald hX (by decide +kernel : decode prog_14_method_52_code 72 = .ok (.iaload, 1)) rfl,
  zs_iastc hX (by decide +kernel : decode prog_14_method_52_code 73 = .ok (.iastore, 1)) rfl,
  zs_aload_n (i := 0) rfl hX (by decide +kernel : decode prog_14_method_52_code 74 = .ok (.aload_n 0, 1)) rfl (by decide),
  zs_getR hX zFL_12_87 (by decide +kernel : decode prog_14_method_52_code 75 = .ok (.getfield 87, 3)) rfl,
  zs_pushI (zg_iconst (by decide) hX (by decide +kernel : decode prog_14_method_52_code 78 = .ok (.iconst 3, 1)) rfl),
  zs_aload_n (i := 0) rfl hX (by decide +kernel : decode prog_14_method_52_code 79 = .ok (.aload_n 0, 1)) rfl (by decide),
  zs_getR hX zFL_12_26 (by decide +kernel : decode prog_14_method_52_code 80 = .ok (.getfield 26, 3)) rfl,
  zs_iload_n (i := 2) rfl hX (by decide +kernel : decode prog_14_method_52_code 83 = .ok (.iload_n 2, 1)) rfl (by decide),
  zs_iald hX (by decide +kernel : decode prog_14_method_52_code 84 = .ok (.iaload, 1)) rfl,
  zs_iastc hX (by decide +kernel : decode prog_14_method_52_code 85 = .ok (.iastore, 1)) rfl,
  zs_aload_n (i := 0) rfl hX (by decide +kernel : decode prog_14_method_52_code 86 = .ok (.aload_n 0, 1)) rfl (by decide),
  zs_getR hX zFL_12_87 (by decide +kernel : decode prog_14_method_52_code 87 = .ok (.getfield 87, 3)) rfl,
  zs_pushI (zg_iconst (by decide) hX (by decide +kernel : decode prog_14_method_52_code 90 = .ok (.iconst 4, 1)) rfl), trivial⟩
set_option maxRecDepth 20000 in
theorem s_X12_washes_3 {l : Launch} {D : va_G} {ad : Nat → Nat → Nat} {cy : Nat → ClassId} {L : List (Nat × Nat)} (hcl : zclo L = true) (hinj : zAd ad L) {X : zCtx} (hX : zXok X "SoapTreatyModel" prog_14_method_52_code 4) (hR : zRt X none) (hl : zXl X l D ad cy L (zroom 4)) : zAllR (zSo X) p_X12_washes_3 := ⟨zs_aload_n (i := 0) rfl hX (by decide +kernel : decode prog_14_method_52_code 91 = .ok (.aload_n 0, 1)) rfl (by decide),
  zs_getR hX zFL_12_114 (by decide +kernel : decode prog_14_method_52_code 92 = .ok (.getfield 114, 3)) rfl,
  zs_pushI (zg_bipush (by decide) hX (by decide +kernel : decode prog_14_method_52_code 95 = .ok (.bipush 17, 2)) rfl),
  zs_iload_n (i := 1) rfl hX (by decide +kernel : decode prog_14_method_52_code 97 = .ok (.iload_n 1, 1)) rfl (by decide),
  zs_ii (zg_iadd hX (by decide +kernel : decode prog_14_method_52_code 98 = .ok (.iadd, 1)) rfl),
  zs_iald hX (by decide +kernel : decode prog_14_method_52_code 99 = .ok (.iaload, 1)) rfl,
  zs_iastc hX (by decide +kernel : decode prog_14_method_52_code 100 = .ok (.iastore, 1)) rfl,
  zs_aload_n (i := 0) rfl hX (by decide +kernel : decode prog_14_method_52_code 101 = .ok (.aload_n 0, 1)) rfl (by decide),
  zs_pushI (zg_iconst (by decide) hX (by decide +kernel : decode prog_14_method_52_code 102 = .ok (.iconst 0, 1)) rfl),
  zs_callVi hX zMV_12_366 (zXc_of hl (by decide) (k_X12_worked hcl hinj)) (by decide +kernel : decode prog_14_method_52_code 103 = .ok (.invokevirtual 366, 3)) rfl,
  zs_istore_n (i := 3) rfl hX (by decide +kernel : decode prog_14_method_52_code 106 = .ok (.istore_n 3, 1)) rfl (by decide),
  zs_iload_n (i := 3) rfl hX (by decide +kernel : decode prog_14_method_52_code 107 = .ok (.iload_n 3, 1)) rfl (by decide),
  zs_pushI (zg_iconst (by decide) hX (by decide +kernel : decode prog_14_method_52_code 108 = .ok (.iconst 0, 1)) rfl),
  zs_pushI (zg_bipush (by decide) hX (by decide +kernel : decode prog_14_method_52_code 109 = .ok (.bipush 9, 2)) rfl),
  zs_callSi hX zMS_12_369 (zXc_of hl (by decide) (k_X12_between hcl hinj)) (by decide +kernel : decode prog_14_method_52_code 111 = .ok (.invokestatic 369, 3)) rfl,
  zs_istore_n (i := 3) rfl hX (by decide +kernel : decode prog_14_method_52_code 114 = .ok (.istore_n 3, 1)) rfl (by decide),
  zs_aload_n (i := 0) rfl hX (by decide +kernel : decode prog_14_method_52_code 115 = .ok (.aload_n 0, 1)) rfl (by decide),
  zs_getR hX zFL_12_23 (by decide +kernel : decode prog_14_method_52_code 116 = .ok (.getfield 23, 3)) rfl,
  zs_iload_n (i := 2) rfl hX (by decide +kernel : decode prog_14_method_52_code 119 = .ok (.iload_n 2, 1)) rfl (by decide),
  zs_iald hX (by decide +kernel : decode prog_14_method_52_code 120 = .ok (.iaload, 1)) rfl, trivial⟩
set_option maxRecDepth 20000 in
theorem s_X12_washes_4 {l : Launch} {D : va_G} {ad : Nat → Nat → Nat} {cy : Nat → ClassId} {L : List (Nat × Nat)} (hcl : zclo L = true) (hinj : zAd ad L) {X : zCtx} (hX : zXok X "SoapTreatyModel" prog_14_method_52_code 4) (hR : zRt X none) (hl : zXl X l D ad cy L (zroom 4)) : zAllR (zSo X) p_X12_washes_4 := ⟨zs_pushI (zg_iconst (by decide) hX (by decide +kernel : decode prog_14_method_52_code 121 = .ok (.iconst 1, 1)) rfl),
  zs_cne hX (by decide +kernel : decode prog_14_method_52_code 122 = .ok (.if_icmp .ne 7, 3)) (by decide) rfl,
  zs_iload_n (i := 3) rfl hX (by decide +kernel : decode prog_14_method_52_code 125 = .ok (.iload_n 3, 1)) rfl (by decide),
  zs_pushI (zg_iconst (by decide) hX (by decide +kernel : decode prog_14_method_52_code 126 = .ok (.iconst 2, 1)) rfl),
  zs_idc (zg_idiv hX (by decide +kernel : decode prog_14_method_52_code 127 = .ok (.idiv, 1)) rfl),
  zs_istore_n (i := 3) rfl hX (by decide +kernel : decode prog_14_method_52_code 128 = .ok (.istore_n 3, 1)) rfl (by decide),
  zs_aload_n (i := 0) rfl hX (by decide +kernel : decode prog_14_method_52_code 129 = .ok (.aload_n 0, 1)) rfl (by decide),
  zs_getR hX zFL_12_23 (by decide +kernel : decode prog_14_method_52_code 130 = .ok (.getfield 23, 3)) rfl,
  zs_iload_n (i := 2) rfl hX (by decide +kernel : decode prog_14_method_52_code 133 = .ok (.iload_n 2, 1)) rfl (by decide),
  zs_iald hX (by decide +kernel : decode prog_14_method_52_code 134 = .ok (.iaload, 1)) rfl,
  zs_pushI (zg_iconst (by decide) hX (by decide +kernel : decode prog_14_method_52_code 135 = .ok (.iconst 3, 1)) rfl),
  zs_cne hX (by decide +kernel : decode prog_14_method_52_code 136 = .ok (.if_icmp .ne 5, 3)) (by decide) rfl,
  zs_pushI (zg_iconst (by decide) hX (by decide +kernel : decode prog_14_method_52_code 139 = .ok (.iconst 0, 1)) rfl),
  zs_istore_n (i := 3) rfl hX (by decide +kernel : decode prog_14_method_52_code 140 = .ok (.istore_n 3, 1)) rfl (by decide),
  zs_kill hX (by decide) (zs_aload_n (i := 0) rfl hX (by decide +kernel : decode prog_14_method_52_code 141 = .ok (.aload_n 0, 1)) rfl (by decide)),
  zs_getR hX zFL_12_114 (by decide +kernel : decode prog_14_method_52_code 142 = .ok (.getfield 114, 3)) rfl,
  zs_pushI (zg_iconst (by decide) hX (by decide +kernel : decode prog_14_method_52_code 145 = .ok (.iconst 3, 1)) rfl),
  zs_iload_n (i := 1) rfl hX (by decide +kernel : decode prog_14_method_52_code 146 = .ok (.iload_n 1, 1)) rfl (by decide),
  zs_ii (zg_iadd hX (by decide +kernel : decode prog_14_method_52_code 147 = .ok (.iadd, 1)) rfl),
  zs_pushI (zg_iconst (by decide) hX (by decide +kernel : decode prog_14_method_52_code 148 = .ok (.iconst 0, 1)) rfl), trivial⟩
set_option maxRecDepth 20000 in
theorem s_X12_washes_5 {l : Launch} {D : va_G} {ad : Nat → Nat → Nat} {cy : Nat → ClassId} {L : List (Nat × Nat)} (hcl : zclo L = true) (hinj : zAd ad L) {X : zCtx} (hX : zXok X "SoapTreatyModel" prog_14_method_52_code 4) (hR : zRt X none) (hl : zXl X l D ad cy L (zroom 4)) : zAllR (zSo X) p_X12_washes_5 := ⟨zs_aload_n (i := 0) rfl hX (by decide +kernel : decode prog_14_method_52_code 149 = .ok (.aload_n 0, 1)) rfl (by decide),
  zs_getR hX zFL_12_114 (by decide +kernel : decode prog_14_method_52_code 150 = .ok (.getfield 114, 3)) rfl,
  zs_pushI (zg_iconst (by decide) hX (by decide +kernel : decode prog_14_method_52_code 153 = .ok (.iconst 3, 1)) rfl),
  zs_iload_n (i := 1) rfl hX (by decide +kernel : decode prog_14_method_52_code 154 = .ok (.iload_n 1, 1)) rfl (by decide),
  zs_ii (zg_iadd hX (by decide +kernel : decode prog_14_method_52_code 155 = .ok (.iadd, 1)) rfl),
  zs_iald hX (by decide +kernel : decode prog_14_method_52_code 156 = .ok (.iaload, 1)) rfl,
  zs_iload_n (i := 3) rfl hX (by decide +kernel : decode prog_14_method_52_code 157 = .ok (.iload_n 3, 1)) rfl (by decide),
  zs_ii (zg_isub hX (by decide +kernel : decode prog_14_method_52_code 158 = .ok (.isub, 1)) rfl),
  zs_max hX zKmax_12_373 (by decide +kernel : decode prog_14_method_52_code 159 = .ok (.invokestatic 373, 3)) rfl,
  zs_iast hX (by decide +kernel : decode prog_14_method_52_code 162 = .ok (.iastore, 1)) rfl,
  zs_aload_n (i := 0) rfl hX (by decide +kernel : decode prog_14_method_52_code 163 = .ok (.aload_n 0, 1)) rfl (by decide),
  zs_getR hX zFL_12_114 (by decide +kernel : decode prog_14_method_52_code 164 = .ok (.getfield 114, 3)) rfl,
  zs_pushI (zg_bipush (by decide) hX (by decide +kernel : decode prog_14_method_52_code 167 = .ok (.bipush 17, 2)) rfl),
  zs_iload_n (i := 1) rfl hX (by decide +kernel : decode prog_14_method_52_code 169 = .ok (.iload_n 1, 1)) rfl (by decide),
  zs_ii (zg_iadd hX (by decide +kernel : decode prog_14_method_52_code 170 = .ok (.iadd, 1)) rfl),
  zs_dup2 hX (by decide +kernel : decode prog_14_method_52_code 171 = .ok (.dup2, 1)) rfl,
  zs_iald hX (by decide +kernel : decode prog_14_method_52_code 172 = .ok (.iaload, 1)) rfl,
  zs_pushI (zg_iconst (by decide) hX (by decide +kernel : decode prog_14_method_52_code 173 = .ok (.iconst 1, 1)) rfl),
  zs_ii (zg_iadd hX (by decide +kernel : decode prog_14_method_52_code 174 = .ok (.iadd, 1)) rfl),
  zs_iast hX (by decide +kernel : decode prog_14_method_52_code 175 = .ok (.iastore, 1)) rfl, trivial⟩
set_option maxRecDepth 20000 in
theorem s_X12_washes_6 {l : Launch} {D : va_G} {ad : Nat → Nat → Nat} {cy : Nat → ClassId} {L : List (Nat × Nat)} (hcl : zclo L = true) (hinj : zAd ad L) {X : zCtx} (hX : zXok X "SoapTreatyModel" prog_14_method_52_code 4) (hR : zRt X none) (hl : zXl X l D ad cy L (zroom 4)) : zAllR (zSo X) p_X12_washes_6 := ⟨zs_ret hX hR (by decide +kernel : decode prog_14_method_52_code 176 = .ok (.return_, 1)), trivial⟩
theorem k_X12_washes {l : Launch} {D : va_G} {ad : Nat → Nat → Nat} {cy : Nat → ClassId} {L : List (Nat × Nat)} (hcl : zclo L = true) (hinj : zAd ad L) : zCk l D ad cy L 4 f_X12_washes y_X12_washes (.code y_X12_washes prog_14_method_52_code 4 none) :=
  z_met (by decide) t_X12_washes hcl hinj (fun X hX hR hl k => zgs_all (Q := zSo X) (c := [(31, p_X12_washes_0), (61, p_X12_washes_1), (91, p_X12_washes_2), (121, p_X12_washes_3), (149, p_X12_washes_4), (176, p_X12_washes_5), (177, p_X12_washes_6)]) (fun _ => zs_bad) ⟨s_X12_washes_0 hcl hinj hX hR hl, s_X12_washes_1 hcl hinj hX hR hl, s_X12_washes_2 hcl hinj hX hR hl, s_X12_washes_3 hcl hinj hX hR hl, s_X12_washes_4 hcl hinj hX hR hl, s_X12_washes_5 hcl hinj hX hR hl, s_X12_washes_6 hcl hinj hX hR hl, trivial⟩ k)
set_option maxRecDepth 1000000 in
theorem e_X12_washes_0 (x1 : Int32) (h : zH) : zL p_X12_washes 0 [some (.inr (.inr (12, 0))), some (.inl x1), none, none] [] h = zf (vp_in ((10 : Int32) + x1) 24) (zf (vp_in x1 14) (zf (vp_in (h.1 72 0 ((10 : Int32) + x1).toNatClampNeg) 10) (zf ((h.1 47 0 x1.toNatClampNeg) < (h.1 43 0 (h.1 72 0 ((10 : Int32) + x1).toNatClampNeg).toNatClampNeg)) (zL p_X12_washes 31 [some (.inr (.inr (12, 0))), some (.inl x1), some (.inl (h.1 72 0 ((10 : Int32) + x1).toNatClampNeg)), none] [(.inl 1), (.inl 1)] h) (zL p_X12_washes 31 [some (.inr (.inr (12, 0))), some (.inl x1), some (.inl (h.1 72 0 ((10 : Int32) + x1).toNatClampNeg)), none] [(.inl 0), (.inl 1)] h)) none) none) none := (zL_s (t_X12_washes) [0, 31, 107, 141] 1000 0 _ _ _).trans rfl
theorem g_X12_washes (x1 : Int32) (h : zH) : f_X12_washes [(.inr (.inr (12, 0))), (.inl x1)] h = zf (vp_in ((10 : Int32) + x1) 24) (zf (vp_in x1 14) (zf (vp_in (h.1 72 0 ((10 : Int32) + x1).toNatClampNeg) 10) (zf ((h.1 47 0 x1.toNatClampNeg) < (h.1 43 0 (h.1 72 0 ((10 : Int32) + x1).toNatClampNeg).toNatClampNeg)) (zL p_X12_washes 31 [some (.inr (.inr (12, 0))), some (.inl x1), some (.inl (h.1 72 0 ((10 : Int32) + x1).toNatClampNeg)), none] [(.inl 1), (.inl 1)] h) (zL p_X12_washes 31 [some (.inr (.inr (12, 0))), some (.inl x1), some (.inl (h.1 72 0 ((10 : Int32) + x1).toNatClampNeg)), none] [(.inl 0), (.inl 1)] h)) none) none) none := (show f_X12_washes _ h = zL p_X12_washes 0 _ [] h from rfl).trans (e_X12_washes_0 x1 h)
set_option maxRecDepth 1000000 in
theorem e_X12_washes_31 (x1 : Int32) (x2 : Int32) (o3 : Option zV) (s0 : Int32) (s1 : Int32) (h : zH) : zL p_X12_washes 31 [some (.inr (.inr (12, 0))), some (.inl x1), some (.inl x2), o3] [(.inl s0), (.inl s1)] h = zf ((h.1 49 0 0) < (h.1 50 0 0)) (zf (vp_in ((3 : Int32) + x1) 24) (zf (vp_in x1 14) (zf (vp_in x2 10) (zf (vp_in ((17 : Int32) + x1) 24) (zci (f_X12_worked [(.inr (.inr (12, 0))), (.inl 0)] (zuI (zuI (zuI (zuI h 63 0 1 (h.1 72 0 ((3 : Int32) + x1).toNatClampNeg)) 63 0 2 (h.1 47 0 x1.toNatClampNeg)) 63 0 3 (h.1 43 0 x2.toNatClampNeg)) 63 0 4 (h.1 72 0 ((17 : Int32) + x1).toNatClampNeg))) (fun r2 h1 => zL p_X12_washes 107 [some (.inr (.inr (12, 0))), some (.inl x1), some (.inl x2), some (.inl r2)] [] h1)) none) none) none) none) (zL p_X12_washes 107 [some (.inr (.inr (12, 0))), some (.inl x1), some (.inl x2), some (.inl (s1 + s0))] [] h) := (zL_s (t_X12_washes) [0, 31, 107, 141] 1000 31 _ _ _).trans rfl
set_option maxRecDepth 1000000 in
theorem e_X12_washes_107 (x1 : Int32) (x2 : Int32) (x3 : Int32) (h : zH) : zL p_X12_washes 107 [some (.inr (.inr (12, 0))), some (.inl x1), some (.inl x2), some (.inl x3)] [] h = zci (f_X12_between [(.inl x3), (.inl 0), (.inl 9)] h) (fun r2 h1 => zf (vp_in x2 10) (zf ((h1.1 42 0 x2.toNatClampNeg) = 1) (zf (vp_in x2 10) (zf ((h1.1 42 0 x2.toNatClampNeg) = 3) (zL p_X12_washes 141 [some (.inr (.inr (12, 0))), some (.inl x1), some (.inl x2), some (.inl 0)] [] h1) (zL p_X12_washes 141 [some (.inr (.inr (12, 0))), some (.inl x1), some (.inl x2), some (.inl (r2 / 2))] [] h1)) none) (zf (vp_in x2 10) (zf ((h1.1 42 0 x2.toNatClampNeg) = 3) (zL p_X12_washes 141 [some (.inr (.inr (12, 0))), some (.inl x1), some (.inl x2), some (.inl 0)] [] h1) (zL p_X12_washes 141 [some (.inr (.inr (12, 0))), some (.inl x1), some (.inl x2), some (.inl r2)] [] h1)) none)) none) := (zL_s (t_X12_washes) [0, 31, 107, 141] 1000 107 _ _ _).trans rfl
set_option maxRecDepth 1000000 in
theorem e_X12_washes_141 (x1 : Int32) (o2 : Option zV) (x3 : Int32) (h : zH) : zL p_X12_washes 141 [some (.inr (.inr (12, 0))), some (.inl x1), o2, some (.inl x3)] [] h = zf (vp_in ((3 : Int32) + x1) 24) (zf (vp_in ((3 : Int32) + x1) 24) (zf (vp_in ((17 : Int32) + x1) 24) (zf (vp_in ((17 : Int32) + x1) 24) (some (none, (zuI (zuI h 72 0 ((3 : Int32) + x1).toNatClampNeg (if 0 < ((h.1 72 0 ((3 : Int32) + x1).toNatClampNeg) - x3) then ((h.1 72 0 ((3 : Int32) + x1).toNatClampNeg) - x3) else 0)) 72 0 ((17 : Int32) + x1).toNatClampNeg (((zuI h 72 0 ((3 : Int32) + x1).toNatClampNeg (if 0 < ((h.1 72 0 ((3 : Int32) + x1).toNatClampNeg) - x3) then ((h.1 72 0 ((3 : Int32) + x1).toNatClampNeg) - x3) else 0)).1 72 0 ((17 : Int32) + x1).toNatClampNeg) + (1 : Int32))))) none) none) none) none := (zL_s (t_X12_washes) [0, 31, 107, 141] 1000 141 _ _ _).trans rfl
/-! SoapTreatyModel.isDry(I)Z -/
def y_X12_isDry : MethodName := ⟨"SoapTreatyModel", "isDry", "(I)Z"⟩
noncomputable def p_X12_isDry_0 : List (Nat × zO) := [(0, zo_aload 0 1),
  (1, zo_getR 12 42 none 4),
  (4, zo_iload 1 5),
  (5, zo_iald 6),
  (6, zo_push (.inl 2) 7),
  (7, zo_ceq 22 10),
  (10, zo_aload 0 11),
  (11, zo_getI 12 54 14),
  (14, zo_iload 1 15),
  (15, zo_ii (fun x y => x >>> (y &&& 31)) 16),
  (16, zo_push (.inl 1) 17),
  (17, zo_ii (fun x y => x &&& y) 18),
  (18, zo_push (.inl 1) 19),
  (19, zo_cne 26 22),
  (22, zo_push (.inl 1) 23),
  (23, zo_goto 27),
  (26, zo_push (.inl 0) 27),
  (27, zo_zretc)]
noncomputable def p_X12_isDry : Nat → zO := zgs [(28, p_X12_isDry_0)]
theorem t_X12_isDry : ∀ k, zTl (p_X12_isDry k) := fun k => zgs_all (c := [(28, p_X12_isDry_0)]) (fun _ => zl_bad) ⟨⟨zl_aload, zl_getR, zl_iload, zl_iald, zl_push, zl_ceq, zl_aload, zl_getI, zl_iload, zl_ii, zl_push, zl_ii, zl_push, zl_cne, zl_push, zl_goto, zl_push, zl_zretc, trivial⟩, trivial⟩ k
noncomputable def f_X12_isDry : zS := zrun p_X12_isDry 2
set_option maxRecDepth 20000 in
theorem s_X12_isDry_0 {l : Launch} {D : va_G} {ad : Nat → Nat → Nat} {cy : Nat → ClassId} {L : List (Nat × Nat)} (hcl : zclo L = true) (hinj : zAd ad L) {X : zCtx} (hX : zXok X "SoapTreatyModel" prog_14_method_53_code 2) (hR : zRt X (some .boolean)) (hl : zXl X l D ad cy L (zroom 1)) : zAllR (zSo X) p_X12_isDry_0 := ⟨zs_aload_n (i := 0) rfl hX (by decide +kernel : decode prog_14_method_53_code 0 = .ok (.aload_n 0, 1)) rfl (by decide),
  zs_getR hX zFL_12_23 (by decide +kernel : decode prog_14_method_53_code 1 = .ok (.getfield 23, 3)) rfl,
  zs_iload_n (i := 1) rfl hX (by decide +kernel : decode prog_14_method_53_code 4 = .ok (.iload_n 1, 1)) rfl (by decide),
  zs_iald hX (by decide +kernel : decode prog_14_method_53_code 5 = .ok (.iaload, 1)) rfl,
  zs_pushI (zg_iconst (by decide) hX (by decide +kernel : decode prog_14_method_53_code 6 = .ok (.iconst 2, 1)) rfl),
  zs_ceq hX (by decide +kernel : decode prog_14_method_53_code 7 = .ok (.if_icmp .eq 15, 3)) (by decide) rfl,
  zs_aload_n (i := 0) rfl hX (by decide +kernel : decode prog_14_method_53_code 10 = .ok (.aload_n 0, 1)) rfl (by decide),
  zs_getI hX zFL_12_379 (by decide) (by decide) (by decide +kernel : decode prog_14_method_53_code 11 = .ok (.getfield 379, 3)) rfl,
  zs_iload_n (i := 1) rfl hX (by decide +kernel : decode prog_14_method_53_code 14 = .ok (.iload_n 1, 1)) rfl (by decide),
  zs_ii (zg_ishr hX (by decide +kernel : decode prog_14_method_53_code 15 = .ok (.ishr, 1)) rfl),
  zs_pushI (zg_iconst (by decide) hX (by decide +kernel : decode prog_14_method_53_code 16 = .ok (.iconst 1, 1)) rfl),
  zs_ii (zg_iand hX (by decide +kernel : decode prog_14_method_53_code 17 = .ok (.iand, 1)) rfl),
  zs_pushI (zg_iconst (by decide) hX (by decide +kernel : decode prog_14_method_53_code 18 = .ok (.iconst 1, 1)) rfl),
  zs_cne hX (by decide +kernel : decode prog_14_method_53_code 19 = .ok (.if_icmp .ne 7, 3)) (by decide) rfl,
  zs_pushI (zg_iconst (by decide) hX (by decide +kernel : decode prog_14_method_53_code 22 = .ok (.iconst 1, 1)) rfl),
  zs_goto hX (by decide +kernel : decode prog_14_method_53_code 23 = .ok (.goto 4, 3)) (by decide),
  zs_pushI (zg_iconst (by decide) hX (by decide +kernel : decode prog_14_method_53_code 26 = .ok (.iconst 0, 1)) rfl),
  zs_zretc hX hR (by decide +kernel : decode prog_14_method_53_code 27 = .ok (.ireturn, 1)), trivial⟩
theorem k_X12_isDry {l : Launch} {D : va_G} {ad : Nat → Nat → Nat} {cy : Nat → ClassId} {L : List (Nat × Nat)} (hcl : zclo L = true) (hinj : zAd ad L) : zCk l D ad cy L 1 f_X12_isDry y_X12_isDry (.code y_X12_isDry prog_14_method_53_code 2 (some .boolean)) :=
  z_met (by decide) t_X12_isDry hcl hinj (fun X hX hR hl k => zgs_all (Q := zSo X) (c := [(28, p_X12_isDry_0)]) (fun _ => zs_bad) ⟨s_X12_isDry_0 hcl hinj hX hR hl, trivial⟩ k)
set_option maxRecDepth 1000000 in
theorem e_X12_isDry_0 (x1 : Int32) (h : zH) : zL p_X12_isDry 0 [some (.inr (.inr (12, 0))), some (.inl x1)] [] h = zf (vp_in x1 10) (zf ((h.1 42 0 x1.toNatClampNeg) = 2) (some (some (.inl 1), h)) (zf ((((h.1 12 0 54) >>> (x1 &&& 31)) &&& (1 : Int32)) = 1) (some (some (.inl 1), h)) (some (some (.inl 0), h)))) none := (zL_s (t_X12_isDry) [0] 1000 0 _ _ _).trans rfl
theorem g_X12_isDry (x1 : Int32) (h : zH) : f_X12_isDry [(.inr (.inr (12, 0))), (.inl x1)] h = zf (vp_in x1 10) (zf ((h.1 42 0 x1.toNatClampNeg) = 2) (some (some (.inl 1), h)) (zf ((((h.1 12 0 54) >>> (x1 &&& 31)) &&& (1 : Int32)) = 1) (some (some (.inl 1), h)) (some (some (.inl 0), h)))) none := (show f_X12_isDry _ h = zL p_X12_isDry 0 _ [] h from rfl).trans (e_X12_isDry_0 x1 h)
theorem zMV_12_382 : zMV "SoapTreatyModel" 382 12 y_X12_canWash prog_14_method_51_code 2 (some .boolean) 1 := ⟨⟨zT_of 1603 (by decide +kernel) (by decide +kernel), zT_of 1605 (by decide +kernel) (by decide +kernel), zT_of 75 (by decide +kernel) (by decide +kernel), zT_of 118 (by decide +kernel) (by decide +kernel), zT_of 1606 (by decide +kernel) (by decide +kernel)⟩, by decide, rfl, ⟨zT12, 57, rfl⟩, by decide, by decide, by decide +kernel⟩
theorem zMV_12_385 : zMV "SoapTreatyModel" 385 12 y_X12_isDry prog_14_method_53_code 2 (some .boolean) 1 := ⟨⟨zT_of 1674 (by decide +kernel) (by decide +kernel), zT_of 1676 (by decide +kernel) (by decide +kernel), zT_of 86 (by decide +kernel) (by decide +kernel), zT_of 118 (by decide +kernel) (by decide +kernel), zT_of 1677 (by decide +kernel) (by decide +kernel)⟩, by decide, rfl, ⟨zT12, 57, rfl⟩, by decide, by decide, by decide +kernel⟩
theorem zMV_12_388 : zMV "SoapTreatyModel" 388 12 y_X12_washes prog_14_method_52_code 4 none 1 := ⟨⟨zT_of 1614 (by decide +kernel) (by decide +kernel), zT_of 1616 (by decide +kernel) (by decide +kernel), zT_of 77 (by decide +kernel) (by decide +kernel), zT_of 118 (by decide +kernel) (by decide +kernel), zT_of 1617 (by decide +kernel) (by decide +kernel)⟩, by decide, rfl, ⟨zT12, 57, rfl⟩, by decide, by decide, by decide +kernel⟩
/-! SoapTreatyModel.passes()I -/
def y_X12_passes : MethodName := ⟨"SoapTreatyModel", "passes", "()I"⟩
noncomputable def p_X12_passes_0 : List (Nat × zO) := [(0, zo_push (.inl 0) 1),
  (1, zo_istore 1 2),
  (2, zo_push (.inl 0) 3),
  (3, zo_istore 2 4),
  (4, zo_iload 2 5),
  (5, zo_aload 0 6),
  (6, zo_getR 12 39 none 9),
  (9, zo_push (.inl 1) 10),
  (10, zo_ialdc 11),
  (11, zo_cge 70 14),
  (14, zo_aload 0 15),
  (15, zo_iload 2 16),
  (16, zo_vir 12 2 (zo_calli (f_X12_canWash) 2 19)),
  (19, zo_0eq 64 22),
  (22, zo_aload 0 23),
  (23, zo_aload 0 24),
  (24, zo_getR 12 72 none 27),
  (27, zo_push (.inl 10) 29),
  (29, zo_iload 2 30),
  (30, zo_ii (fun x y => x + y) 31)]
noncomputable def p_X12_passes_1 : List (Nat × zO) := [(31, zo_iald 32),
  (32, zo_vir 12 2 (zo_calli (f_X12_isDry) 2 35)),
  (35, zo_0eq 41 38),
  (38, zo_goto 64),
  (41, zo_aload 0 42),
  (42, zo_iload 2 43),
  (43, zo_vir 12 2 (zo_callv (f_X12_washes) 2 46)),
  (46, zo_iload 1 47),
  (47, zo_aload 0 48),
  (48, zo_iload 2 49),
  (49, zo_vir 12 2 (zo_calli (f_X12_isThere) 2 52)),
  (52, zo_0eq 59 55),
  (55, zo_push (.inl 0) 56),
  (56, zo_goto 62),
  (59, zo_push (.inl 1) 60),
  (60, zo_iload 2 61),
  (61, zo_ii (fun x y => x <<< (y &&& 31)) 62),
  (62, zo_ii (fun x y => x ||| y) 63),
  (63, zo_istore 1 64),
  (64, zo_iinc 2 1 67)]
noncomputable def p_X12_passes_2 : List (Nat × zO) := [(67, zo_goto 4),
  (70, zo_aload 0 71),
  (71, zo_getR 12 72 none 74),
  (74, zo_push (.inl 0) 75),
  (75, zo_dup2 76),
  (76, zo_ialdc 77),
  (77, zo_push (.inl 1) 78),
  (78, zo_ii (fun x y => x + y) 79),
  (79, zo_iastc 80),
  (80, zo_iload 1 81),
  (81, zo_iret)]
noncomputable def p_X12_passes : Nat → zO := zgs [(31, p_X12_passes_0), (65, p_X12_passes_1), (82, p_X12_passes_2)]
theorem t_X12_passes : ∀ k, zTl (p_X12_passes k) := fun k => zgs_all (c := [(31, p_X12_passes_0), (65, p_X12_passes_1), (82, p_X12_passes_2)]) (fun _ => zl_bad) ⟨⟨zl_push, zl_istore, zl_push, zl_istore, zl_iload, zl_aload, zl_getR, zl_push, zl_ialdc, zl_cge, zl_aload, zl_iload, (zl_vir zl_calli), zl_0eq, zl_aload, zl_aload, zl_getR, zl_push, zl_iload, zl_ii, trivial⟩, ⟨zl_iald, (zl_vir zl_calli), zl_0eq, zl_goto, zl_aload, zl_iload, (zl_vir zl_callv), zl_iload, zl_aload, zl_iload, (zl_vir zl_calli), zl_0eq, zl_push, zl_goto, zl_push, zl_iload, zl_ii, zl_ii, zl_istore, zl_iinc, trivial⟩, ⟨zl_goto, zl_aload, zl_getR, zl_push, zl_dup2, zl_ialdc, zl_push, zl_ii, zl_iastc, zl_iload, zl_iret, trivial⟩, trivial⟩ k
noncomputable def f_X12_passes : zS := zrun p_X12_passes 3
set_option maxRecDepth 20000 in
theorem s_X12_passes_0 {l : Launch} {D : va_G} {ad : Nat → Nat → Nat} {cy : Nat → ClassId} {L : List (Nat × Nat)} (hcl : zclo L = true) (hinj : zAd ad L) {X : zCtx} (hX : zXok X "SoapTreatyModel" prog_14_method_54_code 3) (hR : zRt X (some .int)) (hl : zXl X l D ad cy L (zroom 5)) : zAllR (zSo X) p_X12_passes_0 := ⟨zs_pushI (zg_iconst (by decide) hX (by decide +kernel : decode prog_14_method_54_code 0 = .ok (.iconst 0, 1)) rfl),
  zs_istore_n (i := 1) rfl hX (by decide +kernel : decode prog_14_method_54_code 1 = .ok (.istore_n 1, 1)) rfl (by decide),
  zs_pushI (zg_iconst (by decide) hX (by decide +kernel : decode prog_14_method_54_code 2 = .ok (.iconst 0, 1)) rfl),
  zs_istore_n (i := 2) rfl hX (by decide +kernel : decode prog_14_method_54_code 3 = .ok (.istore_n 2, 1)) rfl (by decide),
  zs_iload_n (i := 2) rfl hX (by decide +kernel : decode prog_14_method_54_code 4 = .ok (.iload_n 2, 1)) rfl (by decide),
  zs_aload_n (i := 0) rfl hX (by decide +kernel : decode prog_14_method_54_code 5 = .ok (.aload_n 0, 1)) rfl (by decide),
  zs_getR hX zFL_12_13 (by decide +kernel : decode prog_14_method_54_code 6 = .ok (.getfield 13, 3)) rfl,
  zs_pushI (zg_iconst (by decide) hX (by decide +kernel : decode prog_14_method_54_code 9 = .ok (.iconst 1, 1)) rfl),
  zs_ialdc hX (by decide +kernel : decode prog_14_method_54_code 10 = .ok (.iaload, 1)) rfl,
  zs_cge hX (by decide +kernel : decode prog_14_method_54_code 11 = .ok (.if_icmp .ge 59, 3)) (by decide) rfl,
  zs_aload_n (i := 0) rfl hX (by decide +kernel : decode prog_14_method_54_code 14 = .ok (.aload_n 0, 1)) rfl (by decide),
  zs_iload_n (i := 2) rfl hX (by decide +kernel : decode prog_14_method_54_code 15 = .ok (.iload_n 2, 1)) rfl (by decide),
  zs_callVi hX zMV_12_382 (zXc_of hl (by decide) (k_X12_canWash hcl hinj)) (by decide +kernel : decode prog_14_method_54_code 16 = .ok (.invokevirtual 382, 3)) rfl,
  zs_0eq hX (by decide +kernel : decode prog_14_method_54_code 19 = .ok (.ifCond .eq 45, 3)) (by decide) rfl,
  zs_aload_n (i := 0) rfl hX (by decide +kernel : decode prog_14_method_54_code 22 = .ok (.aload_n 0, 1)) rfl (by decide),
  zs_aload_n (i := 0) rfl hX (by decide +kernel : decode prog_14_method_54_code 23 = .ok (.aload_n 0, 1)) rfl (by decide),
  zs_getR hX zFL_12_114 (by decide +kernel : decode prog_14_method_54_code 24 = .ok (.getfield 114, 3)) rfl,
  zs_pushI (zg_bipush (by decide) hX (by decide +kernel : decode prog_14_method_54_code 27 = .ok (.bipush 10, 2)) rfl),
  zs_iload_n (i := 2) rfl hX (by decide +kernel : decode prog_14_method_54_code 29 = .ok (.iload_n 2, 1)) rfl (by decide),
  zs_ii (zg_iadd hX (by decide +kernel : decode prog_14_method_54_code 30 = .ok (.iadd, 1)) rfl), trivial⟩
set_option maxRecDepth 20000 in
theorem s_X12_passes_1 {l : Launch} {D : va_G} {ad : Nat → Nat → Nat} {cy : Nat → ClassId} {L : List (Nat × Nat)} (hcl : zclo L = true) (hinj : zAd ad L) {X : zCtx} (hX : zXok X "SoapTreatyModel" prog_14_method_54_code 3) (hR : zRt X (some .int)) (hl : zXl X l D ad cy L (zroom 5)) : zAllR (zSo X) p_X12_passes_1 := ⟨zs_iald hX (by decide +kernel : decode prog_14_method_54_code 31 = .ok (.iaload, 1)) rfl,
  zs_callVi hX zMV_12_385 (zXc_of hl (by decide) (k_X12_isDry hcl hinj)) (by decide +kernel : decode prog_14_method_54_code 32 = .ok (.invokevirtual 385, 3)) rfl,
  zs_0eq hX (by decide +kernel : decode prog_14_method_54_code 35 = .ok (.ifCond .eq 6, 3)) (by decide) rfl,
  zs_goto hX (by decide +kernel : decode prog_14_method_54_code 38 = .ok (.goto 26, 3)) (by decide),
  zs_aload_n (i := 0) rfl hX (by decide +kernel : decode prog_14_method_54_code 41 = .ok (.aload_n 0, 1)) rfl (by decide),
  zs_iload_n (i := 2) rfl hX (by decide +kernel : decode prog_14_method_54_code 42 = .ok (.iload_n 2, 1)) rfl (by decide),
  zs_callVv hX zMV_12_388 (zXc_of hl (by decide) (k_X12_washes hcl hinj)) (by decide +kernel : decode prog_14_method_54_code 43 = .ok (.invokevirtual 388, 3)) rfl,
  zs_iload_n (i := 1) rfl hX (by decide +kernel : decode prog_14_method_54_code 46 = .ok (.iload_n 1, 1)) rfl (by decide),
  zs_aload_n (i := 0) rfl hX (by decide +kernel : decode prog_14_method_54_code 47 = .ok (.aload_n 0, 1)) rfl (by decide),
  zs_iload_n (i := 2) rfl hX (by decide +kernel : decode prog_14_method_54_code 48 = .ok (.iload_n 2, 1)) rfl (by decide),
  zs_callVi hX zMV_12_360 (zXc_of hl (by decide) (k_X12_isThere hcl hinj)) (by decide +kernel : decode prog_14_method_54_code 49 = .ok (.invokevirtual 360, 3)) rfl,
  zs_0eq hX (by decide +kernel : decode prog_14_method_54_code 52 = .ok (.ifCond .eq 7, 3)) (by decide) rfl,
  zs_pushI (zg_iconst (by decide) hX (by decide +kernel : decode prog_14_method_54_code 55 = .ok (.iconst 0, 1)) rfl),
  zs_goto hX (by decide +kernel : decode prog_14_method_54_code 56 = .ok (.goto 6, 3)) (by decide),
  zs_pushI (zg_iconst (by decide) hX (by decide +kernel : decode prog_14_method_54_code 59 = .ok (.iconst 1, 1)) rfl),
  zs_iload_n (i := 2) rfl hX (by decide +kernel : decode prog_14_method_54_code 60 = .ok (.iload_n 2, 1)) rfl (by decide),
  zs_ii (zg_ishl hX (by decide +kernel : decode prog_14_method_54_code 61 = .ok (.ishl, 1)) rfl),
  zs_ii (zg_ior hX (by decide +kernel : decode prog_14_method_54_code 62 = .ok (.ior, 1)) rfl),
  zs_istore_n (i := 1) rfl hX (by decide +kernel : decode prog_14_method_54_code 63 = .ok (.istore_n 1, 1)) rfl (by decide),
  zs_iinc hX (by decide +kernel : decode prog_14_method_54_code 64 = .ok (.iinc 2 1, 3)) (by decide) rfl (by decide), trivial⟩
set_option maxRecDepth 20000 in
theorem s_X12_passes_2 {l : Launch} {D : va_G} {ad : Nat → Nat → Nat} {cy : Nat → ClassId} {L : List (Nat × Nat)} (hcl : zclo L = true) (hinj : zAd ad L) {X : zCtx} (hX : zXok X "SoapTreatyModel" prog_14_method_54_code 3) (hR : zRt X (some .int)) (hl : zXl X l D ad cy L (zroom 5)) : zAllR (zSo X) p_X12_passes_2 := ⟨zs_goto hX (by decide +kernel : decode prog_14_method_54_code 67 = .ok (.goto (-63), 3)) (by decide),
  zs_aload_n (i := 0) rfl hX (by decide +kernel : decode prog_14_method_54_code 70 = .ok (.aload_n 0, 1)) rfl (by decide),
  zs_getR hX zFL_12_114 (by decide +kernel : decode prog_14_method_54_code 71 = .ok (.getfield 114, 3)) rfl,
  zs_pushI (zg_iconst (by decide) hX (by decide +kernel : decode prog_14_method_54_code 74 = .ok (.iconst 0, 1)) rfl),
  zs_dup2 hX (by decide +kernel : decode prog_14_method_54_code 75 = .ok (.dup2, 1)) rfl,
  zs_ialdc hX (by decide +kernel : decode prog_14_method_54_code 76 = .ok (.iaload, 1)) rfl,
  zs_pushI (zg_iconst (by decide) hX (by decide +kernel : decode prog_14_method_54_code 77 = .ok (.iconst 1, 1)) rfl),
  zs_ii (zg_iadd hX (by decide +kernel : decode prog_14_method_54_code 78 = .ok (.iadd, 1)) rfl),
  zs_iastc hX (by decide +kernel : decode prog_14_method_54_code 79 = .ok (.iastore, 1)) rfl,
  zs_iload_n (i := 1) rfl hX (by decide +kernel : decode prog_14_method_54_code 80 = .ok (.iload_n 1, 1)) rfl (by decide),
  zs_iret hX hR (by decide +kernel : decode prog_14_method_54_code 81 = .ok (.ireturn, 1)), trivial⟩
theorem k_X12_passes {l : Launch} {D : va_G} {ad : Nat → Nat → Nat} {cy : Nat → ClassId} {L : List (Nat × Nat)} (hcl : zclo L = true) (hinj : zAd ad L) : zCk l D ad cy L 5 f_X12_passes y_X12_passes (.code y_X12_passes prog_14_method_54_code 3 (some .int)) :=
  z_met (by decide) t_X12_passes hcl hinj (fun X hX hR hl k => zgs_all (Q := zSo X) (c := [(31, p_X12_passes_0), (65, p_X12_passes_1), (82, p_X12_passes_2)]) (fun _ => zs_bad) ⟨s_X12_passes_0 hcl hinj hX hR hl, s_X12_passes_1 hcl hinj hX hR hl, s_X12_passes_2 hcl hinj hX hR hl, trivial⟩ k)
set_option maxRecDepth 1000000 in
theorem e_X12_passes_0 (h : zH) : zL p_X12_passes 0 [some (.inr (.inr (12, 0))), none, none] [] h = zL p_X12_passes 4 [some (.inr (.inr (12, 0))), some (.inl 0), some (.inl 0)] [] h := (zL_s (t_X12_passes) [0, 4] 1000 0 _ _ _).trans rfl
theorem g_X12_passes (h : zH) : f_X12_passes [(.inr (.inr (12, 0)))] h = zL p_X12_passes 4 [some (.inr (.inr (12, 0))), some (.inl 0), some (.inl 0)] [] h := (show f_X12_passes _ h = zL p_X12_passes 0 _ [] h from rfl).trans (e_X12_passes_0 h)
set_option maxRecDepth 1000000 in
theorem e_X12_passes_4 (x1 : Int32) (x2 : Int32) (h : zH) : zL p_X12_passes 4 [some (.inr (.inr (12, 0))), some (.inl x1), some (.inl x2)] [] h = zf (x2 < (h.1 39 0 1)) (zci (f_X12_canWash [(.inr (.inr (12, 0))), (.inl x2)] h) (fun r2 h1 => zf (r2 = 0) (zL p_X12_passes 4 [some (.inr (.inr (12, 0))), some (.inl x1), some (.inl (x2 + 1))] [] h1) (zf (vp_in ((10 : Int32) + x2) 24) (zci (f_X12_isDry [(.inr (.inr (12, 0))), (.inl (h1.1 72 0 ((10 : Int32) + x2).toNatClampNeg))] h1) (fun r4 h3 => zf (r4 = 0) (zcv (f_X12_washes [(.inr (.inr (12, 0))), (.inl x2)] h3) (fun h5 => zci (f_X12_isThere [(.inr (.inr (12, 0))), (.inl x2)] h5) (fun r7 h6 => zf (r7 = 0) (zL p_X12_passes 4 [some (.inr (.inr (12, 0))), some (.inl (x1 ||| ((1 : Int32) <<< (x2 &&& 31)))), some (.inl (x2 + 1))] [] h6) (zL p_X12_passes 4 [some (.inr (.inr (12, 0))), some (.inl (x1 ||| (0 : Int32))), some (.inl (x2 + 1))] [] h6)))) (zL p_X12_passes 4 [some (.inr (.inr (12, 0))), some (.inl x1), some (.inl (x2 + 1))] [] h3))) none))) (some (some (.inl x1), (zuI h 72 0 0 ((h.1 72 0 0) + (1 : Int32))))) := (zL_s (t_X12_passes) [0, 4] 1000 4 _ _ _).trans rfl
/-! SoapTreatyModel.isFound(I)Z -/
def y_X12_isFound : MethodName := ⟨"SoapTreatyModel", "isFound", "(I)Z"⟩
noncomputable def p_X12_isFound_0 : List (Nat × zO) := [(0, zo_aload 0 1),
  (1, zo_getR 12 48 none 4),
  (4, zo_iload 1 5),
  (5, zo_iald 6),
  (6, zo_0lt 30 9),
  (9, zo_aload 0 10),
  (10, zo_getR 12 72 none 13),
  (13, zo_push (.inl 3) 14),
  (14, zo_iload 1 15),
  (15, zo_ii (fun x y => x + y) 16),
  (16, zo_iald 17),
  (17, zo_aload 0 18),
  (18, zo_getR 12 48 none 21),
  (21, zo_iload 1 22),
  (22, zo_iald 23),
  (23, zo_cgt 30 26),
  (26, zo_push (.inl 1) 27),
  (27, zo_goto 31),
  (30, zo_push (.inl 0) 31),
  (31, zo_zretc)]
noncomputable def p_X12_isFound : Nat → zO := zgs [(32, p_X12_isFound_0)]
theorem t_X12_isFound : ∀ k, zTl (p_X12_isFound k) := fun k => zgs_all (c := [(32, p_X12_isFound_0)]) (fun _ => zl_bad) ⟨⟨zl_aload, zl_getR, zl_iload, zl_iald, zl_0lt, zl_aload, zl_getR, zl_push, zl_iload, zl_ii, zl_iald, zl_aload, zl_getR, zl_iload, zl_iald, zl_cgt, zl_push, zl_goto, zl_push, zl_zretc, trivial⟩, trivial⟩ k
noncomputable def f_X12_isFound : zS := zrun p_X12_isFound 2
set_option maxRecDepth 20000 in
theorem s_X12_isFound_0 {l : Launch} {D : va_G} {ad : Nat → Nat → Nat} {cy : Nat → ClassId} {L : List (Nat × Nat)} (hcl : zclo L = true) (hinj : zAd ad L) {X : zCtx} (hX : zXok X "SoapTreatyModel" prog_14_method_55_code 2) (hR : zRt X (some .boolean)) (hl : zXl X l D ad cy L (zroom 1)) : zAllR (zSo X) p_X12_isFound_0 := ⟨zs_aload_n (i := 0) rfl hX (by decide +kernel : decode prog_14_method_55_code 0 = .ok (.aload_n 0, 1)) rfl (by decide),
  zs_getR hX zFL_12_41 (by decide +kernel : decode prog_14_method_55_code 1 = .ok (.getfield 41, 3)) rfl,
  zs_iload_n (i := 1) rfl hX (by decide +kernel : decode prog_14_method_55_code 4 = .ok (.iload_n 1, 1)) rfl (by decide),
  zs_iald hX (by decide +kernel : decode prog_14_method_55_code 5 = .ok (.iaload, 1)) rfl,
  zs_0lt hX (by decide +kernel : decode prog_14_method_55_code 6 = .ok (.ifCond .lt 24, 3)) (by decide) rfl,
  zs_aload_n (i := 0) rfl hX (by decide +kernel : decode prog_14_method_55_code 9 = .ok (.aload_n 0, 1)) rfl (by decide),
  zs_getR hX zFL_12_114 (by decide +kernel : decode prog_14_method_55_code 10 = .ok (.getfield 114, 3)) rfl,
  zs_pushI (zg_iconst (by decide) hX (by decide +kernel : decode prog_14_method_55_code 13 = .ok (.iconst 3, 1)) rfl),
  zs_iload_n (i := 1) rfl hX (by decide +kernel : decode prog_14_method_55_code 14 = .ok (.iload_n 1, 1)) rfl (by decide),
  zs_ii (zg_iadd hX (by decide +kernel : decode prog_14_method_55_code 15 = .ok (.iadd, 1)) rfl),
  zs_iald hX (by decide +kernel : decode prog_14_method_55_code 16 = .ok (.iaload, 1)) rfl,
  zs_aload_n (i := 0) rfl hX (by decide +kernel : decode prog_14_method_55_code 17 = .ok (.aload_n 0, 1)) rfl (by decide),
  zs_getR hX zFL_12_41 (by decide +kernel : decode prog_14_method_55_code 18 = .ok (.getfield 41, 3)) rfl,
  zs_iload_n (i := 1) rfl hX (by decide +kernel : decode prog_14_method_55_code 21 = .ok (.iload_n 1, 1)) rfl (by decide),
  zs_iald hX (by decide +kernel : decode prog_14_method_55_code 22 = .ok (.iaload, 1)) rfl,
  zs_cgt hX (by decide +kernel : decode prog_14_method_55_code 23 = .ok (.if_icmp .gt 7, 3)) (by decide) rfl,
  zs_pushI (zg_iconst (by decide) hX (by decide +kernel : decode prog_14_method_55_code 26 = .ok (.iconst 1, 1)) rfl),
  zs_goto hX (by decide +kernel : decode prog_14_method_55_code 27 = .ok (.goto 4, 3)) (by decide),
  zs_pushI (zg_iconst (by decide) hX (by decide +kernel : decode prog_14_method_55_code 30 = .ok (.iconst 0, 1)) rfl),
  zs_zretc hX hR (by decide +kernel : decode prog_14_method_55_code 31 = .ok (.ireturn, 1)), trivial⟩
theorem k_X12_isFound {l : Launch} {D : va_G} {ad : Nat → Nat → Nat} {cy : Nat → ClassId} {L : List (Nat × Nat)} (hcl : zclo L = true) (hinj : zAd ad L) : zCk l D ad cy L 1 f_X12_isFound y_X12_isFound (.code y_X12_isFound prog_14_method_55_code 2 (some .boolean)) :=
  z_met (by decide) t_X12_isFound hcl hinj (fun X hX hR hl k => zgs_all (Q := zSo X) (c := [(32, p_X12_isFound_0)]) (fun _ => zs_bad) ⟨s_X12_isFound_0 hcl hinj hX hR hl, trivial⟩ k)
set_option maxRecDepth 1000000 in
theorem e_X12_isFound_0 (x1 : Int32) (h : zH) : zL p_X12_isFound 0 [some (.inr (.inr (12, 0))), some (.inl x1)] [] h = zf (vp_in x1 14) (zf ((h.1 48 0 x1.toNatClampNeg) < 0) (some (some (.inl 0), h)) (zf (vp_in ((3 : Int32) + x1) 24) (zf (vp_in x1 14) (zf ((h.1 48 0 x1.toNatClampNeg) < (h.1 72 0 ((3 : Int32) + x1).toNatClampNeg)) (some (some (.inl 0), h)) (some (some (.inl 1), h))) none) none)) none := (zL_s (t_X12_isFound) [0] 1000 0 _ _ _).trans rfl
theorem g_X12_isFound (x1 : Int32) (h : zH) : f_X12_isFound [(.inr (.inr (12, 0))), (.inl x1)] h = zf (vp_in x1 14) (zf ((h.1 48 0 x1.toNatClampNeg) < 0) (some (some (.inl 0), h)) (zf (vp_in ((3 : Int32) + x1) 24) (zf (vp_in x1 14) (zf ((h.1 48 0 x1.toNatClampNeg) < (h.1 72 0 ((3 : Int32) + x1).toNatClampNeg)) (some (some (.inl 0), h)) (some (some (.inl 1), h))) none) none)) none := (show f_X12_isFound _ h = zL p_X12_isFound 0 _ [] h from rfl).trans (e_X12_isFound_0 x1 h)
/-! SoapTreatyModel.isSliverNow(I)Z -/
def y_X12_isSliverNow : MethodName := ⟨"SoapTreatyModel", "isSliverNow", "(I)Z"⟩
noncomputable def p_X12_isSliverNow_0 : List (Nat × zO) := [(0, zo_aload 0 1),
  (1, zo_iload 1 2),
  (2, zo_vir 12 2 (zo_calli (f_X12_isThere) 2 5)),
  (5, zo_0eq 29 8),
  (8, zo_aload 0 9),
  (9, zo_getR 12 72 none 12),
  (12, zo_push (.inl 3) 13),
  (13, zo_iload 1 14),
  (14, zo_ii (fun x y => x + y) 15),
  (15, zo_iald 16),
  (16, zo_aload 0 17),
  (17, zo_getR 12 39 none 20),
  (20, zo_push (.inl 2) 21),
  (21, zo_ialdc 22),
  (22, zo_cgt 29 25),
  (25, zo_push (.inl 1) 26),
  (26, zo_goto 30),
  (29, zo_push (.inl 0) 30),
  (30, zo_zretc)]
noncomputable def p_X12_isSliverNow : Nat → zO := zgs [(31, p_X12_isSliverNow_0)]
theorem t_X12_isSliverNow : ∀ k, zTl (p_X12_isSliverNow k) := fun k => zgs_all (c := [(31, p_X12_isSliverNow_0)]) (fun _ => zl_bad) ⟨⟨zl_aload, zl_iload, (zl_vir zl_calli), zl_0eq, zl_aload, zl_getR, zl_push, zl_iload, zl_ii, zl_iald, zl_aload, zl_getR, zl_push, zl_ialdc, zl_cgt, zl_push, zl_goto, zl_push, zl_zretc, trivial⟩, trivial⟩ k
noncomputable def f_X12_isSliverNow : zS := zrun p_X12_isSliverNow 2
set_option maxRecDepth 20000 in
theorem s_X12_isSliverNow_0 {l : Launch} {D : va_G} {ad : Nat → Nat → Nat} {cy : Nat → ClassId} {L : List (Nat × Nat)} (hcl : zclo L = true) (hinj : zAd ad L) {X : zCtx} (hX : zXok X "SoapTreatyModel" prog_14_method_56_code 2) (hR : zRt X (some .boolean)) (hl : zXl X l D ad cy L (zroom 2)) : zAllR (zSo X) p_X12_isSliverNow_0 := ⟨zs_aload_n (i := 0) rfl hX (by decide +kernel : decode prog_14_method_56_code 0 = .ok (.aload_n 0, 1)) rfl (by decide),
  zs_iload_n (i := 1) rfl hX (by decide +kernel : decode prog_14_method_56_code 1 = .ok (.iload_n 1, 1)) rfl (by decide),
  zs_callVi hX zMV_12_360 (zXc_of hl (by decide) (k_X12_isThere hcl hinj)) (by decide +kernel : decode prog_14_method_56_code 2 = .ok (.invokevirtual 360, 3)) rfl,
  zs_0eq hX (by decide +kernel : decode prog_14_method_56_code 5 = .ok (.ifCond .eq 24, 3)) (by decide) rfl,
  zs_aload_n (i := 0) rfl hX (by decide +kernel : decode prog_14_method_56_code 8 = .ok (.aload_n 0, 1)) rfl (by decide),
  zs_getR hX zFL_12_114 (by decide +kernel : decode prog_14_method_56_code 9 = .ok (.getfield 114, 3)) rfl,
  zs_pushI (zg_iconst (by decide) hX (by decide +kernel : decode prog_14_method_56_code 12 = .ok (.iconst 3, 1)) rfl),
  zs_iload_n (i := 1) rfl hX (by decide +kernel : decode prog_14_method_56_code 13 = .ok (.iload_n 1, 1)) rfl (by decide),
  zs_ii (zg_iadd hX (by decide +kernel : decode prog_14_method_56_code 14 = .ok (.iadd, 1)) rfl),
  zs_iald hX (by decide +kernel : decode prog_14_method_56_code 15 = .ok (.iaload, 1)) rfl,
  zs_aload_n (i := 0) rfl hX (by decide +kernel : decode prog_14_method_56_code 16 = .ok (.aload_n 0, 1)) rfl (by decide),
  zs_getR hX zFL_12_13 (by decide +kernel : decode prog_14_method_56_code 17 = .ok (.getfield 13, 3)) rfl,
  zs_pushI (zg_iconst (by decide) hX (by decide +kernel : decode prog_14_method_56_code 20 = .ok (.iconst 2, 1)) rfl),
  zs_ialdc hX (by decide +kernel : decode prog_14_method_56_code 21 = .ok (.iaload, 1)) rfl,
  zs_cgt hX (by decide +kernel : decode prog_14_method_56_code 22 = .ok (.if_icmp .gt 7, 3)) (by decide) rfl,
  zs_pushI (zg_iconst (by decide) hX (by decide +kernel : decode prog_14_method_56_code 25 = .ok (.iconst 1, 1)) rfl),
  zs_goto hX (by decide +kernel : decode prog_14_method_56_code 26 = .ok (.goto 4, 3)) (by decide),
  zs_pushI (zg_iconst (by decide) hX (by decide +kernel : decode prog_14_method_56_code 29 = .ok (.iconst 0, 1)) rfl),
  zs_zretc hX hR (by decide +kernel : decode prog_14_method_56_code 30 = .ok (.ireturn, 1)), trivial⟩
theorem k_X12_isSliverNow {l : Launch} {D : va_G} {ad : Nat → Nat → Nat} {cy : Nat → ClassId} {L : List (Nat × Nat)} (hcl : zclo L = true) (hinj : zAd ad L) : zCk l D ad cy L 2 f_X12_isSliverNow y_X12_isSliverNow (.code y_X12_isSliverNow prog_14_method_56_code 2 (some .boolean)) :=
  z_met (by decide) t_X12_isSliverNow hcl hinj (fun X hX hR hl k => zgs_all (Q := zSo X) (c := [(31, p_X12_isSliverNow_0)]) (fun _ => zs_bad) ⟨s_X12_isSliverNow_0 hcl hinj hX hR hl, trivial⟩ k)
set_option maxRecDepth 1000000 in
theorem e_X12_isSliverNow_0 (x1 : Int32) (h : zH) : zL p_X12_isSliverNow 0 [some (.inr (.inr (12, 0))), some (.inl x1)] [] h = zci (f_X12_isThere [(.inr (.inr (12, 0))), (.inl x1)] h) (fun r2 h1 => zf (r2 = 0) (some (some (.inl 0), h1)) (zf (vp_in ((3 : Int32) + x1) 24) (zf ((h1.1 39 0 2) < (h1.1 72 0 ((3 : Int32) + x1).toNatClampNeg)) (some (some (.inl 0), h1)) (some (some (.inl 1), h1))) none)) := (zL_s (t_X12_isSliverNow) [0] 1000 0 _ _ _).trans rfl
theorem g_X12_isSliverNow (x1 : Int32) (h : zH) : f_X12_isSliverNow [(.inr (.inr (12, 0))), (.inl x1)] h = zci (f_X12_isThere [(.inr (.inr (12, 0))), (.inl x1)] h) (fun r2 h1 => zf (r2 = 0) (some (some (.inl 0), h1)) (zf (vp_in ((3 : Int32) + x1) 24) (zf ((h1.1 39 0 2) < (h1.1 72 0 ((3 : Int32) + x1).toNatClampNeg)) (some (some (.inl 0), h1)) (some (some (.inl 1), h1))) none)) := (show f_X12_isSliverNow _ h = zL p_X12_isSliverNow 0 _ [] h from rfl).trans (e_X12_isSliverNow_0 x1 h)
/-! SoapTreatyModel.canGift(II)Z -/
def y_X12_canGift : MethodName := ⟨"SoapTreatyModel", "canGift", "(II)Z"⟩
noncomputable def p_X12_canGift_0 : List (Nat × zO) := [(0, zo_aload 0 1),
  (1, zo_iload 1 2),
  (2, zo_vir 12 2 (zo_calli (f_X12_isThere) 2 5)),
  (5, zo_0eq 25 8),
  (8, zo_aload 0 9),
  (9, zo_getR 12 72 none 12),
  (12, zo_push (.inl 10) 14),
  (14, zo_iload 1 15),
  (15, zo_ii (fun x y => x + y) 16),
  (16, zo_iald 17),
  (17, zo_iload 2 18),
  (18, zo_ceq 25 21),
  (21, zo_push (.inl 1) 22),
  (22, zo_goto 26),
  (25, zo_push (.inl 0) 26),
  (26, zo_zretc)]
noncomputable def p_X12_canGift : Nat → zO := zgs [(27, p_X12_canGift_0)]
theorem t_X12_canGift : ∀ k, zTl (p_X12_canGift k) := fun k => zgs_all (c := [(27, p_X12_canGift_0)]) (fun _ => zl_bad) ⟨⟨zl_aload, zl_iload, (zl_vir zl_calli), zl_0eq, zl_aload, zl_getR, zl_push, zl_iload, zl_ii, zl_iald, zl_iload, zl_ceq, zl_push, zl_goto, zl_push, zl_zretc, trivial⟩, trivial⟩ k
noncomputable def f_X12_canGift : zS := zrun p_X12_canGift 3
set_option maxRecDepth 20000 in
theorem s_X12_canGift_0 {l : Launch} {D : va_G} {ad : Nat → Nat → Nat} {cy : Nat → ClassId} {L : List (Nat × Nat)} (hcl : zclo L = true) (hinj : zAd ad L) {X : zCtx} (hX : zXok X "SoapTreatyModel" prog_14_method_57_code 3) (hR : zRt X (some .boolean)) (hl : zXl X l D ad cy L (zroom 2)) : zAllR (zSo X) p_X12_canGift_0 := ⟨zs_aload_n (i := 0) rfl hX (by decide +kernel : decode prog_14_method_57_code 0 = .ok (.aload_n 0, 1)) rfl (by decide),
  zs_iload_n (i := 1) rfl hX (by decide +kernel : decode prog_14_method_57_code 1 = .ok (.iload_n 1, 1)) rfl (by decide),
  zs_callVi hX zMV_12_360 (zXc_of hl (by decide) (k_X12_isThere hcl hinj)) (by decide +kernel : decode prog_14_method_57_code 2 = .ok (.invokevirtual 360, 3)) rfl,
  zs_0eq hX (by decide +kernel : decode prog_14_method_57_code 5 = .ok (.ifCond .eq 20, 3)) (by decide) rfl,
  zs_aload_n (i := 0) rfl hX (by decide +kernel : decode prog_14_method_57_code 8 = .ok (.aload_n 0, 1)) rfl (by decide),
  zs_getR hX zFL_12_114 (by decide +kernel : decode prog_14_method_57_code 9 = .ok (.getfield 114, 3)) rfl,
  zs_pushI (zg_bipush (by decide) hX (by decide +kernel : decode prog_14_method_57_code 12 = .ok (.bipush 10, 2)) rfl),
  zs_iload_n (i := 1) rfl hX (by decide +kernel : decode prog_14_method_57_code 14 = .ok (.iload_n 1, 1)) rfl (by decide),
  zs_ii (zg_iadd hX (by decide +kernel : decode prog_14_method_57_code 15 = .ok (.iadd, 1)) rfl),
  zs_iald hX (by decide +kernel : decode prog_14_method_57_code 16 = .ok (.iaload, 1)) rfl,
  zs_iload_n (i := 2) rfl hX (by decide +kernel : decode prog_14_method_57_code 17 = .ok (.iload_n 2, 1)) rfl (by decide),
  zs_ceq hX (by decide +kernel : decode prog_14_method_57_code 18 = .ok (.if_icmp .eq 7, 3)) (by decide) rfl,
  zs_pushI (zg_iconst (by decide) hX (by decide +kernel : decode prog_14_method_57_code 21 = .ok (.iconst 1, 1)) rfl),
  zs_goto hX (by decide +kernel : decode prog_14_method_57_code 22 = .ok (.goto 4, 3)) (by decide),
  zs_pushI (zg_iconst (by decide) hX (by decide +kernel : decode prog_14_method_57_code 25 = .ok (.iconst 0, 1)) rfl),
  zs_zretc hX hR (by decide +kernel : decode prog_14_method_57_code 26 = .ok (.ireturn, 1)), trivial⟩
theorem k_X12_canGift {l : Launch} {D : va_G} {ad : Nat → Nat → Nat} {cy : Nat → ClassId} {L : List (Nat × Nat)} (hcl : zclo L = true) (hinj : zAd ad L) : zCk l D ad cy L 2 f_X12_canGift y_X12_canGift (.code y_X12_canGift prog_14_method_57_code 3 (some .boolean)) :=
  z_met (by decide) t_X12_canGift hcl hinj (fun X hX hR hl k => zgs_all (Q := zSo X) (c := [(27, p_X12_canGift_0)]) (fun _ => zs_bad) ⟨s_X12_canGift_0 hcl hinj hX hR hl, trivial⟩ k)
set_option maxRecDepth 1000000 in
theorem e_X12_canGift_0 (x1 : Int32) (x2 : Int32) (h : zH) : zL p_X12_canGift 0 [some (.inr (.inr (12, 0))), some (.inl x1), some (.inl x2)] [] h = zci (f_X12_isThere [(.inr (.inr (12, 0))), (.inl x1)] h) (fun r2 h1 => zf (r2 = 0) (some (some (.inl 0), h1)) (zf (vp_in ((10 : Int32) + x1) 24) (zf ((h1.1 72 0 ((10 : Int32) + x1).toNatClampNeg) = x2) (some (some (.inl 0), h1)) (some (some (.inl 1), h1))) none)) := (zL_s (t_X12_canGift) [0] 1000 0 _ _ _).trans rfl
theorem g_X12_canGift (x1 : Int32) (x2 : Int32) (h : zH) : f_X12_canGift [(.inr (.inr (12, 0))), (.inl x1), (.inl x2)] h = zci (f_X12_isThere [(.inr (.inr (12, 0))), (.inl x1)] h) (fun r2 h1 => zf (r2 = 0) (some (some (.inl 0), h1)) (zf (vp_in ((10 : Int32) + x1) 24) (zf ((h1.1 72 0 ((10 : Int32) + x1).toNatClampNeg) = x2) (some (some (.inl 0), h1)) (some (some (.inl 1), h1))) none)) := (show f_X12_canGift _ h = zL p_X12_canGift 0 _ [] h from rfl).trans (e_X12_canGift_0 x1 x2 h)
/-! SoapTreatyModel.canPress(I)Z -/
def y_X12_canPress : MethodName := ⟨"SoapTreatyModel", "canPress", "(I)Z"⟩
noncomputable def p_X12_canPress_0 : List (Nat × zO) := [(0, zo_aload 0 1),
  (1, zo_iload 1 2),
  (2, zo_vir 12 2 (zo_calli (f_X12_isThere) 2 5)),
  (5, zo_0eq 24 8),
  (8, zo_aload 0 9),
  (9, zo_getR 12 72 none 12),
  (12, zo_push (.inl 17) 14),
  (14, zo_iload 1 15),
  (15, zo_ii (fun x y => x + y) 16),
  (16, zo_iald 17),
  (17, zo_0le 24 20),
  (20, zo_push (.inl 1) 21),
  (21, zo_goto 25),
  (24, zo_push (.inl 0) 25),
  (25, zo_zretc)]
noncomputable def p_X12_canPress : Nat → zO := zgs [(26, p_X12_canPress_0)]
theorem t_X12_canPress : ∀ k, zTl (p_X12_canPress k) := fun k => zgs_all (c := [(26, p_X12_canPress_0)]) (fun _ => zl_bad) ⟨⟨zl_aload, zl_iload, (zl_vir zl_calli), zl_0eq, zl_aload, zl_getR, zl_push, zl_iload, zl_ii, zl_iald, zl_0le, zl_push, zl_goto, zl_push, zl_zretc, trivial⟩, trivial⟩ k
noncomputable def f_X12_canPress : zS := zrun p_X12_canPress 2
set_option maxRecDepth 20000 in
theorem s_X12_canPress_0 {l : Launch} {D : va_G} {ad : Nat → Nat → Nat} {cy : Nat → ClassId} {L : List (Nat × Nat)} (hcl : zclo L = true) (hinj : zAd ad L) {X : zCtx} (hX : zXok X "SoapTreatyModel" prog_14_method_58_code 2) (hR : zRt X (some .boolean)) (hl : zXl X l D ad cy L (zroom 2)) : zAllR (zSo X) p_X12_canPress_0 := ⟨zs_aload_n (i := 0) rfl hX (by decide +kernel : decode prog_14_method_58_code 0 = .ok (.aload_n 0, 1)) rfl (by decide),
  zs_iload_n (i := 1) rfl hX (by decide +kernel : decode prog_14_method_58_code 1 = .ok (.iload_n 1, 1)) rfl (by decide),
  zs_callVi hX zMV_12_360 (zXc_of hl (by decide) (k_X12_isThere hcl hinj)) (by decide +kernel : decode prog_14_method_58_code 2 = .ok (.invokevirtual 360, 3)) rfl,
  zs_0eq hX (by decide +kernel : decode prog_14_method_58_code 5 = .ok (.ifCond .eq 19, 3)) (by decide) rfl,
  zs_aload_n (i := 0) rfl hX (by decide +kernel : decode prog_14_method_58_code 8 = .ok (.aload_n 0, 1)) rfl (by decide),
  zs_getR hX zFL_12_114 (by decide +kernel : decode prog_14_method_58_code 9 = .ok (.getfield 114, 3)) rfl,
  zs_pushI (zg_bipush (by decide) hX (by decide +kernel : decode prog_14_method_58_code 12 = .ok (.bipush 17, 2)) rfl),
  zs_iload_n (i := 1) rfl hX (by decide +kernel : decode prog_14_method_58_code 14 = .ok (.iload_n 1, 1)) rfl (by decide),
  zs_ii (zg_iadd hX (by decide +kernel : decode prog_14_method_58_code 15 = .ok (.iadd, 1)) rfl),
  zs_iald hX (by decide +kernel : decode prog_14_method_58_code 16 = .ok (.iaload, 1)) rfl,
  zs_0le hX (by decide +kernel : decode prog_14_method_58_code 17 = .ok (.ifCond .le 7, 3)) (by decide) rfl,
  zs_pushI (zg_iconst (by decide) hX (by decide +kernel : decode prog_14_method_58_code 20 = .ok (.iconst 1, 1)) rfl),
  zs_goto hX (by decide +kernel : decode prog_14_method_58_code 21 = .ok (.goto 4, 3)) (by decide),
  zs_pushI (zg_iconst (by decide) hX (by decide +kernel : decode prog_14_method_58_code 24 = .ok (.iconst 0, 1)) rfl),
  zs_zretc hX hR (by decide +kernel : decode prog_14_method_58_code 25 = .ok (.ireturn, 1)), trivial⟩
theorem k_X12_canPress {l : Launch} {D : va_G} {ad : Nat → Nat → Nat} {cy : Nat → ClassId} {L : List (Nat × Nat)} (hcl : zclo L = true) (hinj : zAd ad L) : zCk l D ad cy L 2 f_X12_canPress y_X12_canPress (.code y_X12_canPress prog_14_method_58_code 2 (some .boolean)) :=
  z_met (by decide) t_X12_canPress hcl hinj (fun X hX hR hl k => zgs_all (Q := zSo X) (c := [(26, p_X12_canPress_0)]) (fun _ => zs_bad) ⟨s_X12_canPress_0 hcl hinj hX hR hl, trivial⟩ k)
set_option maxRecDepth 1000000 in
theorem e_X12_canPress_0 (x1 : Int32) (h : zH) : zL p_X12_canPress 0 [some (.inr (.inr (12, 0))), some (.inl x1)] [] h = zci (f_X12_isThere [(.inr (.inr (12, 0))), (.inl x1)] h) (fun r2 h1 => zf (r2 = 0) (some (some (.inl 0), h1)) (zf (vp_in ((17 : Int32) + x1) 24) (zf (0 < (h1.1 72 0 ((17 : Int32) + x1).toNatClampNeg)) (some (some (.inl 1), h1)) (some (some (.inl 0), h1))) none)) := (zL_s (t_X12_canPress) [0] 1000 0 _ _ _).trans rfl
theorem g_X12_canPress (x1 : Int32) (h : zH) : f_X12_canPress [(.inr (.inr (12, 0))), (.inl x1)] h = zci (f_X12_isThere [(.inr (.inr (12, 0))), (.inl x1)] h) (fun r2 h1 => zf (r2 = 0) (some (some (.inl 0), h1)) (zf (vp_in ((17 : Int32) + x1) 24) (zf (0 < (h1.1 72 0 ((17 : Int32) + x1).toNatClampNeg)) (some (some (.inl 1), h1)) (some (some (.inl 0), h1))) none)) := (show f_X12_canPress _ h = zL p_X12_canPress 0 _ [] h from rfl).trans (e_X12_canPress_0 x1 h)
/-! SoapTreatyModel.presses(I)V -/
def y_X12_presses : MethodName := ⟨"SoapTreatyModel", "presses", "(I)V"⟩
noncomputable def p_X12_presses_0 : List (Nat × zO) := [(0, zo_aload 0 1),
  (1, zo_getR 12 72 none 4),
  (4, zo_push (.inl 1) 5),
  (5, zo_dup2 6),
  (6, zo_ialdc 7),
  (7, zo_aload 0 8),
  (8, zo_getR 12 72 none 11),
  (11, zo_push (.inl 3) 12),
  (12, zo_iload 1 13),
  (13, zo_ii (fun x y => x + y) 14),
  (14, zo_iald 15),
  (15, zo_ii (fun x y => x + y) 16),
  (16, zo_iastc 17),
  (17, zo_aload 0 18),
  (18, zo_getR 12 72 none 21),
  (21, zo_push (.inl 3) 22),
  (22, zo_iload 1 23),
  (23, zo_ii (fun x y => x + y) 24),
  (24, zo_push (.inl 0) 25),
  (25, zo_iast 26)]
noncomputable def p_X12_presses_1 : List (Nat × zO) := [(26, zo_ret)]
noncomputable def p_X12_presses : Nat → zO := zgs [(26, p_X12_presses_0), (27, p_X12_presses_1)]
theorem t_X12_presses : ∀ k, zTl (p_X12_presses k) := fun k => zgs_all (c := [(26, p_X12_presses_0), (27, p_X12_presses_1)]) (fun _ => zl_bad) ⟨⟨zl_aload, zl_getR, zl_push, zl_dup2, zl_ialdc, zl_aload, zl_getR, zl_push, zl_iload, zl_ii, zl_iald, zl_ii, zl_iastc, zl_aload, zl_getR, zl_push, zl_iload, zl_ii, zl_push, zl_iast, trivial⟩, ⟨zl_ret, trivial⟩, trivial⟩ k
noncomputable def f_X12_presses : zS := zrun p_X12_presses 2
set_option maxRecDepth 20000 in
theorem s_X12_presses_0 {l : Launch} {D : va_G} {ad : Nat → Nat → Nat} {cy : Nat → ClassId} {L : List (Nat × Nat)} (hcl : zclo L = true) (hinj : zAd ad L) {X : zCtx} (hX : zXok X "SoapTreatyModel" prog_14_method_59_code 2) (hR : zRt X none) (hl : zXl X l D ad cy L (zroom 1)) : zAllR (zSo X) p_X12_presses_0 := ⟨zs_aload_n (i := 0) rfl hX (by decide +kernel : decode prog_14_method_59_code 0 = .ok (.aload_n 0, 1)) rfl (by decide),
  zs_getR hX zFL_12_114 (by decide +kernel : decode prog_14_method_59_code 1 = .ok (.getfield 114, 3)) rfl,
  zs_pushI (zg_iconst (by decide) hX (by decide +kernel : decode prog_14_method_59_code 4 = .ok (.iconst 1, 1)) rfl),
  zs_dup2 hX (by decide +kernel : decode prog_14_method_59_code 5 = .ok (.dup2, 1)) rfl,
  zs_ialdc hX (by decide +kernel : decode prog_14_method_59_code 6 = .ok (.iaload, 1)) rfl,
  zs_aload_n (i := 0) rfl hX (by decide +kernel : decode prog_14_method_59_code 7 = .ok (.aload_n 0, 1)) rfl (by decide),
  zs_getR hX zFL_12_114 (by decide +kernel : decode prog_14_method_59_code 8 = .ok (.getfield 114, 3)) rfl,
  zs_pushI (zg_iconst (by decide) hX (by decide +kernel : decode prog_14_method_59_code 11 = .ok (.iconst 3, 1)) rfl),
  zs_iload_n (i := 1) rfl hX (by decide +kernel : decode prog_14_method_59_code 12 = .ok (.iload_n 1, 1)) rfl (by decide),
  zs_ii (zg_iadd hX (by decide +kernel : decode prog_14_method_59_code 13 = .ok (.iadd, 1)) rfl),
  zs_iald hX (by decide +kernel : decode prog_14_method_59_code 14 = .ok (.iaload, 1)) rfl,
  zs_ii (zg_iadd hX (by decide +kernel : decode prog_14_method_59_code 15 = .ok (.iadd, 1)) rfl),
  zs_iastc hX (by decide +kernel : decode prog_14_method_59_code 16 = .ok (.iastore, 1)) rfl,
  zs_aload_n (i := 0) rfl hX (by decide +kernel : decode prog_14_method_59_code 17 = .ok (.aload_n 0, 1)) rfl (by decide),
  zs_getR hX zFL_12_114 (by decide +kernel : decode prog_14_method_59_code 18 = .ok (.getfield 114, 3)) rfl,
  zs_pushI (zg_iconst (by decide) hX (by decide +kernel : decode prog_14_method_59_code 21 = .ok (.iconst 3, 1)) rfl),
  zs_iload_n (i := 1) rfl hX (by decide +kernel : decode prog_14_method_59_code 22 = .ok (.iload_n 1, 1)) rfl (by decide),
  zs_ii (zg_iadd hX (by decide +kernel : decode prog_14_method_59_code 23 = .ok (.iadd, 1)) rfl),
  zs_pushI (zg_iconst (by decide) hX (by decide +kernel : decode prog_14_method_59_code 24 = .ok (.iconst 0, 1)) rfl),
  zs_iast hX (by decide +kernel : decode prog_14_method_59_code 25 = .ok (.iastore, 1)) rfl, trivial⟩
set_option maxRecDepth 20000 in
theorem s_X12_presses_1 {l : Launch} {D : va_G} {ad : Nat → Nat → Nat} {cy : Nat → ClassId} {L : List (Nat × Nat)} (hcl : zclo L = true) (hinj : zAd ad L) {X : zCtx} (hX : zXok X "SoapTreatyModel" prog_14_method_59_code 2) (hR : zRt X none) (hl : zXl X l D ad cy L (zroom 1)) : zAllR (zSo X) p_X12_presses_1 := ⟨zs_ret hX hR (by decide +kernel : decode prog_14_method_59_code 26 = .ok (.return_, 1)), trivial⟩
theorem k_X12_presses {l : Launch} {D : va_G} {ad : Nat → Nat → Nat} {cy : Nat → ClassId} {L : List (Nat × Nat)} (hcl : zclo L = true) (hinj : zAd ad L) : zCk l D ad cy L 1 f_X12_presses y_X12_presses (.code y_X12_presses prog_14_method_59_code 2 none) :=
  z_met (by decide) t_X12_presses hcl hinj (fun X hX hR hl k => zgs_all (Q := zSo X) (c := [(26, p_X12_presses_0), (27, p_X12_presses_1)]) (fun _ => zs_bad) ⟨s_X12_presses_0 hcl hinj hX hR hl, s_X12_presses_1 hcl hinj hX hR hl, trivial⟩ k)
set_option maxRecDepth 1000000 in
theorem e_X12_presses_0 (x1 : Int32) (h : zH) : zL p_X12_presses 0 [some (.inr (.inr (12, 0))), some (.inl x1)] [] h = zf (vp_in ((3 : Int32) + x1) 24) (zf (vp_in ((3 : Int32) + x1) 24) (some (none, (zuI (zuI h 72 0 1 ((h.1 72 0 1) + (h.1 72 0 ((3 : Int32) + x1).toNatClampNeg))) 72 0 ((3 : Int32) + x1).toNatClampNeg 0))) none) none := (zL_s (t_X12_presses) [0] 1000 0 _ _ _).trans rfl
theorem g_X12_presses (x1 : Int32) (h : zH) : f_X12_presses [(.inr (.inr (12, 0))), (.inl x1)] h = zf (vp_in ((3 : Int32) + x1) 24) (zf (vp_in ((3 : Int32) + x1) 24) (some (none, (zuI (zuI h 72 0 1 ((h.1 72 0 1) + (h.1 72 0 ((3 : Int32) + x1).toNatClampNeg))) 72 0 ((3 : Int32) + x1).toNatClampNeg 0))) none) none := (show f_X12_presses _ h = zL p_X12_presses 0 _ [] h from rfl).trans (e_X12_presses_0 x1 h)
/-! SoapTreatyModel.areAtWar(II)Z -/
def y_X12_areAtWar : MethodName := ⟨"SoapTreatyModel", "areAtWar", "(II)Z"⟩
noncomputable def p_X12_areAtWar_0 : List (Nat × zO) := [(0, zo_push (.inl 0) 1),
  (1, zo_istore 3 2),
  (2, zo_iload 3 3),
  (3, zo_aload 0 4),
  (4, zo_getR 12 39 none 7),
  (7, zo_push (.inl 1) 8),
  (8, zo_ialdc 9),
  (9, zo_cge 82 12),
  (12, zo_aload 0 13),
  (13, zo_iload 3 14),
  (14, zo_vir 12 2 (zo_calli (f_X12_isThere) 2 17)),
  (17, zo_0eq 76 20),
  (20, zo_aload 0 21),
  (21, zo_iload 3 22),
  (22, zo_vir 12 2 (zo_calli (f_X12_hasHair) 2 25)),
  (25, zo_0eq 76 28),
  (28, zo_aload 0 29),
  (29, zo_getR 12 44 none 32),
  (32, zo_iload 3 33),
  (33, zo_iald 34)]
noncomputable def p_X12_areAtWar_1 : List (Nat × zO) := [(34, zo_iload 1 35),
  (35, zo_cne 51 38),
  (38, zo_aload 0 39),
  (39, zo_getR 12 72 none 42),
  (42, zo_push (.inl 10) 44),
  (44, zo_iload 3 45),
  (45, zo_ii (fun x y => x + y) 46),
  (46, zo_iald 47),
  (47, zo_iload 2 48),
  (48, zo_ceq 74 51),
  (51, zo_aload 0 52),
  (52, zo_getR 12 44 none 55),
  (55, zo_iload 3 56),
  (56, zo_iald 57),
  (57, zo_iload 2 58),
  (58, zo_cne 76 61),
  (61, zo_aload 0 62),
  (62, zo_getR 12 72 none 65),
  (65, zo_push (.inl 10) 67),
  (67, zo_iload 3 68)]
noncomputable def p_X12_areAtWar_2 : List (Nat × zO) := [(68, zo_ii (fun x y => x + y) 69),
  (69, zo_iald 70),
  (70, zo_iload 1 71),
  (71, zo_cne 76 74),
  (74, zo_push (.inl 1) 75),
  (75, zo_zretc),
  (76, zo_iinc 3 1 79),
  (79, zo_goto 2),
  (82, zo_push (.inl 0) 83),
  (83, zo_zretc)]
noncomputable def p_X12_areAtWar : Nat → zO := zgs [(34, p_X12_areAtWar_0), (68, p_X12_areAtWar_1), (84, p_X12_areAtWar_2)]
theorem t_X12_areAtWar : ∀ k, zTl (p_X12_areAtWar k) := fun k => zgs_all (c := [(34, p_X12_areAtWar_0), (68, p_X12_areAtWar_1), (84, p_X12_areAtWar_2)]) (fun _ => zl_bad) ⟨⟨zl_push, zl_istore, zl_iload, zl_aload, zl_getR, zl_push, zl_ialdc, zl_cge, zl_aload, zl_iload, (zl_vir zl_calli), zl_0eq, zl_aload, zl_iload, (zl_vir zl_calli), zl_0eq, zl_aload, zl_getR, zl_iload, zl_iald, trivial⟩, ⟨zl_iload, zl_cne, zl_aload, zl_getR, zl_push, zl_iload, zl_ii, zl_iald, zl_iload, zl_ceq, zl_aload, zl_getR, zl_iload, zl_iald, zl_iload, zl_cne, zl_aload, zl_getR, zl_push, zl_iload, trivial⟩, ⟨zl_ii, zl_iald, zl_iload, zl_cne, zl_push, zl_zretc, zl_iinc, zl_goto, zl_push, zl_zretc, trivial⟩, trivial⟩ k
noncomputable def f_X12_areAtWar : zS := zrun p_X12_areAtWar 4
set_option maxRecDepth 20000 in
theorem s_X12_areAtWar_0 {l : Launch} {D : va_G} {ad : Nat → Nat → Nat} {cy : Nat → ClassId} {L : List (Nat × Nat)} (hcl : zclo L = true) (hinj : zAd ad L) {X : zCtx} (hX : zXok X "SoapTreatyModel" prog_14_method_60_code 4) (hR : zRt X (some .boolean)) (hl : zXl X l D ad cy L (zroom 2)) : zAllR (zSo X) p_X12_areAtWar_0 := ⟨zs_pushI (zg_iconst (by decide) hX (by decide +kernel : decode prog_14_method_60_code 0 = .ok (.iconst 0, 1)) rfl),
  zs_istore_n (i := 3) rfl hX (by decide +kernel : decode prog_14_method_60_code 1 = .ok (.istore_n 3, 1)) rfl (by decide),
  zs_iload_n (i := 3) rfl hX (by decide +kernel : decode prog_14_method_60_code 2 = .ok (.iload_n 3, 1)) rfl (by decide),
  zs_aload_n (i := 0) rfl hX (by decide +kernel : decode prog_14_method_60_code 3 = .ok (.aload_n 0, 1)) rfl (by decide),
  zs_getR hX zFL_12_13 (by decide +kernel : decode prog_14_method_60_code 4 = .ok (.getfield 13, 3)) rfl,
  zs_pushI (zg_iconst (by decide) hX (by decide +kernel : decode prog_14_method_60_code 7 = .ok (.iconst 1, 1)) rfl),
  zs_ialdc hX (by decide +kernel : decode prog_14_method_60_code 8 = .ok (.iaload, 1)) rfl,
  zs_cge hX (by decide +kernel : decode prog_14_method_60_code 9 = .ok (.if_icmp .ge 73, 3)) (by decide) rfl,
  zs_aload_n (i := 0) rfl hX (by decide +kernel : decode prog_14_method_60_code 12 = .ok (.aload_n 0, 1)) rfl (by decide),
  zs_iload_n (i := 3) rfl hX (by decide +kernel : decode prog_14_method_60_code 13 = .ok (.iload_n 3, 1)) rfl (by decide),
  zs_callVi hX zMV_12_360 (zXc_of hl (by decide) (k_X12_isThere hcl hinj)) (by decide +kernel : decode prog_14_method_60_code 14 = .ok (.invokevirtual 360, 3)) rfl,
  zs_0eq hX (by decide +kernel : decode prog_14_method_60_code 17 = .ok (.ifCond .eq 59, 3)) (by decide) rfl,
  zs_aload_n (i := 0) rfl hX (by decide +kernel : decode prog_14_method_60_code 20 = .ok (.aload_n 0, 1)) rfl (by decide),
  zs_iload_n (i := 3) rfl hX (by decide +kernel : decode prog_14_method_60_code 21 = .ok (.iload_n 3, 1)) rfl (by decide),
  zs_callVi hX zMV_12_363 (zXc_of hl (by decide) (k_X12_hasHair hcl hinj)) (by decide +kernel : decode prog_14_method_60_code 22 = .ok (.invokevirtual 363, 3)) rfl,
  zs_0eq hX (by decide +kernel : decode prog_14_method_60_code 25 = .ok (.ifCond .eq 51, 3)) (by decide) rfl,
  zs_aload_n (i := 0) rfl hX (by decide +kernel : decode prog_14_method_60_code 28 = .ok (.aload_n 0, 1)) rfl (by decide),
  zs_getR hX zFL_12_29 (by decide +kernel : decode prog_14_method_60_code 29 = .ok (.getfield 29, 3)) rfl,
  zs_iload_n (i := 3) rfl hX (by decide +kernel : decode prog_14_method_60_code 32 = .ok (.iload_n 3, 1)) rfl (by decide),
  zs_iald hX (by decide +kernel : decode prog_14_method_60_code 33 = .ok (.iaload, 1)) rfl, trivial⟩
set_option maxRecDepth 20000 in
theorem s_X12_areAtWar_1 {l : Launch} {D : va_G} {ad : Nat → Nat → Nat} {cy : Nat → ClassId} {L : List (Nat × Nat)} (hcl : zclo L = true) (hinj : zAd ad L) {X : zCtx} (hX : zXok X "SoapTreatyModel" prog_14_method_60_code 4) (hR : zRt X (some .boolean)) (hl : zXl X l D ad cy L (zroom 2)) : zAllR (zSo X) p_X12_areAtWar_1 := ⟨zs_iload_n (i := 1) rfl hX (by decide +kernel : decode prog_14_method_60_code 34 = .ok (.iload_n 1, 1)) rfl (by decide),
  zs_cne hX (by decide +kernel : decode prog_14_method_60_code 35 = .ok (.if_icmp .ne 16, 3)) (by decide) rfl,
  zs_aload_n (i := 0) rfl hX (by decide +kernel : decode prog_14_method_60_code 38 = .ok (.aload_n 0, 1)) rfl (by decide),
  zs_getR hX zFL_12_114 (by decide +kernel : decode prog_14_method_60_code 39 = .ok (.getfield 114, 3)) rfl,
  zs_pushI (zg_bipush (by decide) hX (by decide +kernel : decode prog_14_method_60_code 42 = .ok (.bipush 10, 2)) rfl),
  zs_iload_n (i := 3) rfl hX (by decide +kernel : decode prog_14_method_60_code 44 = .ok (.iload_n 3, 1)) rfl (by decide),
  zs_ii (zg_iadd hX (by decide +kernel : decode prog_14_method_60_code 45 = .ok (.iadd, 1)) rfl),
  zs_iald hX (by decide +kernel : decode prog_14_method_60_code 46 = .ok (.iaload, 1)) rfl,
  zs_iload_n (i := 2) rfl hX (by decide +kernel : decode prog_14_method_60_code 47 = .ok (.iload_n 2, 1)) rfl (by decide),
  zs_ceq hX (by decide +kernel : decode prog_14_method_60_code 48 = .ok (.if_icmp .eq 26, 3)) (by decide) rfl,
  zs_aload_n (i := 0) rfl hX (by decide +kernel : decode prog_14_method_60_code 51 = .ok (.aload_n 0, 1)) rfl (by decide),
  zs_getR hX zFL_12_29 (by decide +kernel : decode prog_14_method_60_code 52 = .ok (.getfield 29, 3)) rfl,
  zs_iload_n (i := 3) rfl hX (by decide +kernel : decode prog_14_method_60_code 55 = .ok (.iload_n 3, 1)) rfl (by decide),
  zs_iald hX (by decide +kernel : decode prog_14_method_60_code 56 = .ok (.iaload, 1)) rfl,
  zs_iload_n (i := 2) rfl hX (by decide +kernel : decode prog_14_method_60_code 57 = .ok (.iload_n 2, 1)) rfl (by decide),
  zs_cne hX (by decide +kernel : decode prog_14_method_60_code 58 = .ok (.if_icmp .ne 18, 3)) (by decide) rfl,
  zs_aload_n (i := 0) rfl hX (by decide +kernel : decode prog_14_method_60_code 61 = .ok (.aload_n 0, 1)) rfl (by decide),
  zs_getR hX zFL_12_114 (by decide +kernel : decode prog_14_method_60_code 62 = .ok (.getfield 114, 3)) rfl,
  zs_pushI (zg_bipush (by decide) hX (by decide +kernel : decode prog_14_method_60_code 65 = .ok (.bipush 10, 2)) rfl),
  zs_iload_n (i := 3) rfl hX (by decide +kernel : decode prog_14_method_60_code 67 = .ok (.iload_n 3, 1)) rfl (by decide), trivial⟩
set_option maxRecDepth 20000 in
theorem s_X12_areAtWar_2 {l : Launch} {D : va_G} {ad : Nat → Nat → Nat} {cy : Nat → ClassId} {L : List (Nat × Nat)} (hcl : zclo L = true) (hinj : zAd ad L) {X : zCtx} (hX : zXok X "SoapTreatyModel" prog_14_method_60_code 4) (hR : zRt X (some .boolean)) (hl : zXl X l D ad cy L (zroom 2)) : zAllR (zSo X) p_X12_areAtWar_2 := ⟨zs_ii (zg_iadd hX (by decide +kernel : decode prog_14_method_60_code 68 = .ok (.iadd, 1)) rfl),
  zs_iald hX (by decide +kernel : decode prog_14_method_60_code 69 = .ok (.iaload, 1)) rfl,
  zs_iload_n (i := 1) rfl hX (by decide +kernel : decode prog_14_method_60_code 70 = .ok (.iload_n 1, 1)) rfl (by decide),
  zs_cne hX (by decide +kernel : decode prog_14_method_60_code 71 = .ok (.if_icmp .ne 5, 3)) (by decide) rfl,
  zs_pushI (zg_iconst (by decide) hX (by decide +kernel : decode prog_14_method_60_code 74 = .ok (.iconst 1, 1)) rfl),
  zs_zretc hX hR (by decide +kernel : decode prog_14_method_60_code 75 = .ok (.ireturn, 1)),
  zs_iinc hX (by decide +kernel : decode prog_14_method_60_code 76 = .ok (.iinc 3 1, 3)) (by decide) rfl (by decide),
  zs_goto hX (by decide +kernel : decode prog_14_method_60_code 79 = .ok (.goto (-77), 3)) (by decide),
  zs_pushI (zg_iconst (by decide) hX (by decide +kernel : decode prog_14_method_60_code 82 = .ok (.iconst 0, 1)) rfl),
  zs_zretc hX hR (by decide +kernel : decode prog_14_method_60_code 83 = .ok (.ireturn, 1)), trivial⟩
theorem k_X12_areAtWar {l : Launch} {D : va_G} {ad : Nat → Nat → Nat} {cy : Nat → ClassId} {L : List (Nat × Nat)} (hcl : zclo L = true) (hinj : zAd ad L) : zCk l D ad cy L 2 f_X12_areAtWar y_X12_areAtWar (.code y_X12_areAtWar prog_14_method_60_code 4 (some .boolean)) :=
  z_met (by decide) t_X12_areAtWar hcl hinj (fun X hX hR hl k => zgs_all (Q := zSo X) (c := [(34, p_X12_areAtWar_0), (68, p_X12_areAtWar_1), (84, p_X12_areAtWar_2)]) (fun _ => zs_bad) ⟨s_X12_areAtWar_0 hcl hinj hX hR hl, s_X12_areAtWar_1 hcl hinj hX hR hl, s_X12_areAtWar_2 hcl hinj hX hR hl, trivial⟩ k)
set_option maxRecDepth 1000000 in
theorem e_X12_areAtWar_0 (x1 : Int32) (x2 : Int32) (h : zH) : zL p_X12_areAtWar 0 [some (.inr (.inr (12, 0))), some (.inl x1), some (.inl x2), none] [] h = zL p_X12_areAtWar 2 [some (.inr (.inr (12, 0))), some (.inl x1), some (.inl x2), some (.inl 0)] [] h := (zL_s (t_X12_areAtWar) [0, 2, 51] 1000 0 _ _ _).trans rfl
theorem g_X12_areAtWar (x1 : Int32) (x2 : Int32) (h : zH) : f_X12_areAtWar [(.inr (.inr (12, 0))), (.inl x1), (.inl x2)] h = zL p_X12_areAtWar 2 [some (.inr (.inr (12, 0))), some (.inl x1), some (.inl x2), some (.inl 0)] [] h := (show f_X12_areAtWar _ h = zL p_X12_areAtWar 0 _ [] h from rfl).trans (e_X12_areAtWar_0 x1 x2 h)
set_option maxRecDepth 1000000 in
theorem e_X12_areAtWar_2 (x1 : Int32) (x2 : Int32) (x3 : Int32) (h : zH) : zL p_X12_areAtWar 2 [some (.inr (.inr (12, 0))), some (.inl x1), some (.inl x2), some (.inl x3)] [] h = zf (x3 < (h.1 39 0 1)) (zci (f_X12_isThere [(.inr (.inr (12, 0))), (.inl x3)] h) (fun r2 h1 => zf (r2 = 0) (zL p_X12_areAtWar 2 [some (.inr (.inr (12, 0))), some (.inl x1), some (.inl x2), some (.inl (x3 + 1))] [] h1) (zci (f_X12_hasHair [(.inr (.inr (12, 0))), (.inl x3)] h1) (fun r4 h3 => zf (r4 = 0) (zL p_X12_areAtWar 2 [some (.inr (.inr (12, 0))), some (.inl x1), some (.inl x2), some (.inl (x3 + 1))] [] h3) (zf (vp_in x3 14) (zf ((h3.1 44 0 x3.toNatClampNeg) = x1) (zf (vp_in ((10 : Int32) + x3) 24) (zf ((h3.1 72 0 ((10 : Int32) + x3).toNatClampNeg) = x2) (some (some (.inl 1), h3)) (zL p_X12_areAtWar 51 [some (.inr (.inr (12, 0))), some (.inl x1), some (.inl x2), some (.inl x3)] [] h3)) none) (zL p_X12_areAtWar 51 [some (.inr (.inr (12, 0))), some (.inl x1), some (.inl x2), some (.inl x3)] [] h3)) none))))) (some (some (.inl 0), h)) := (zL_s (t_X12_areAtWar) [0, 2, 51] 1000 2 _ _ _).trans rfl
set_option maxRecDepth 1000000 in
theorem e_X12_areAtWar_51 (x1 : Int32) (x2 : Int32) (x3 : Int32) (h : zH) : zL p_X12_areAtWar 51 [some (.inr (.inr (12, 0))), some (.inl x1), some (.inl x2), some (.inl x3)] [] h = zf (vp_in x3 14) (zf ((h.1 44 0 x3.toNatClampNeg) = x2) (zf (vp_in ((10 : Int32) + x3) 24) (zf ((h.1 72 0 ((10 : Int32) + x3).toNatClampNeg) = x1) (some (some (.inl 1), h)) (zL p_X12_areAtWar 2 [some (.inr (.inr (12, 0))), some (.inl x1), some (.inl x2), some (.inl (x3 + 1))] [] h)) none) (zL p_X12_areAtWar 2 [some (.inr (.inr (12, 0))), some (.inl x1), some (.inl x2), some (.inl (x3 + 1))] [] h)) none := (zL_s (t_X12_areAtWar) [0, 2, 51] 1000 51 _ _ _).trans rfl
/-! SoapTreatyModel.hasUsed(II)Z -/
def y_X12_hasUsed : MethodName := ⟨"SoapTreatyModel", "hasUsed", "(II)Z"⟩
noncomputable def p_X12_hasUsed_0 : List (Nat × zO) := [(0, zo_push (.inl 0) 1),
  (1, zo_istore 3 2),
  (2, zo_iload 3 3),
  (3, zo_aload 0 4),
  (4, zo_getR 12 39 none 7),
  (7, zo_push (.inl 1) 8),
  (8, zo_ialdc 9),
  (9, zo_cge 55 12),
  (12, zo_aload 0 13),
  (13, zo_getR 12 72 none 16),
  (16, zo_push (.inl 10) 18),
  (18, zo_iload 3 19),
  (19, zo_ii (fun x y => x + y) 20),
  (20, zo_iald 21),
  (21, zo_iload 1 22),
  (22, zo_cne 49 25),
  (25, zo_aload 0 26),
  (26, zo_getR 12 44 none 29),
  (29, zo_iload 3 30),
  (30, zo_iald 31)]
noncomputable def p_X12_hasUsed_1 : List (Nat × zO) := [(31, zo_iload 2 32),
  (32, zo_cne 49 35),
  (35, zo_aload 0 36),
  (36, zo_getR 12 72 none 39),
  (39, zo_push (.inl 17) 41),
  (41, zo_iload 3 42),
  (42, zo_ii (fun x y => x + y) 43),
  (43, zo_iald 44),
  (44, zo_0le 49 47),
  (47, zo_push (.inl 1) 48),
  (48, zo_zretc),
  (49, zo_iinc 3 1 52),
  (52, zo_goto 2),
  (55, zo_push (.inl 0) 56),
  (56, zo_zretc)]
noncomputable def p_X12_hasUsed : Nat → zO := zgs [(31, p_X12_hasUsed_0), (57, p_X12_hasUsed_1)]
theorem t_X12_hasUsed : ∀ k, zTl (p_X12_hasUsed k) := fun k => zgs_all (c := [(31, p_X12_hasUsed_0), (57, p_X12_hasUsed_1)]) (fun _ => zl_bad) ⟨⟨zl_push, zl_istore, zl_iload, zl_aload, zl_getR, zl_push, zl_ialdc, zl_cge, zl_aload, zl_getR, zl_push, zl_iload, zl_ii, zl_iald, zl_iload, zl_cne, zl_aload, zl_getR, zl_iload, zl_iald, trivial⟩, ⟨zl_iload, zl_cne, zl_aload, zl_getR, zl_push, zl_iload, zl_ii, zl_iald, zl_0le, zl_push, zl_zretc, zl_iinc, zl_goto, zl_push, zl_zretc, trivial⟩, trivial⟩ k
noncomputable def f_X12_hasUsed : zS := zrun p_X12_hasUsed 4
set_option maxRecDepth 20000 in
theorem s_X12_hasUsed_0 {l : Launch} {D : va_G} {ad : Nat → Nat → Nat} {cy : Nat → ClassId} {L : List (Nat × Nat)} (hcl : zclo L = true) (hinj : zAd ad L) {X : zCtx} (hX : zXok X "SoapTreatyModel" prog_14_method_61_code 4) (hR : zRt X (some .boolean)) (hl : zXl X l D ad cy L (zroom 1)) : zAllR (zSo X) p_X12_hasUsed_0 := ⟨zs_pushI (zg_iconst (by decide) hX (by decide +kernel : decode prog_14_method_61_code 0 = .ok (.iconst 0, 1)) rfl),
  zs_istore_n (i := 3) rfl hX (by decide +kernel : decode prog_14_method_61_code 1 = .ok (.istore_n 3, 1)) rfl (by decide),
  zs_iload_n (i := 3) rfl hX (by decide +kernel : decode prog_14_method_61_code 2 = .ok (.iload_n 3, 1)) rfl (by decide),
  zs_aload_n (i := 0) rfl hX (by decide +kernel : decode prog_14_method_61_code 3 = .ok (.aload_n 0, 1)) rfl (by decide),
  zs_getR hX zFL_12_13 (by decide +kernel : decode prog_14_method_61_code 4 = .ok (.getfield 13, 3)) rfl,
  zs_pushI (zg_iconst (by decide) hX (by decide +kernel : decode prog_14_method_61_code 7 = .ok (.iconst 1, 1)) rfl),
  zs_ialdc hX (by decide +kernel : decode prog_14_method_61_code 8 = .ok (.iaload, 1)) rfl,
  zs_cge hX (by decide +kernel : decode prog_14_method_61_code 9 = .ok (.if_icmp .ge 46, 3)) (by decide) rfl,
  zs_aload_n (i := 0) rfl hX (by decide +kernel : decode prog_14_method_61_code 12 = .ok (.aload_n 0, 1)) rfl (by decide),
  zs_getR hX zFL_12_114 (by decide +kernel : decode prog_14_method_61_code 13 = .ok (.getfield 114, 3)) rfl,
  zs_pushI (zg_bipush (by decide) hX (by decide +kernel : decode prog_14_method_61_code 16 = .ok (.bipush 10, 2)) rfl),
  zs_iload_n (i := 3) rfl hX (by decide +kernel : decode prog_14_method_61_code 18 = .ok (.iload_n 3, 1)) rfl (by decide),
  zs_ii (zg_iadd hX (by decide +kernel : decode prog_14_method_61_code 19 = .ok (.iadd, 1)) rfl),
  zs_iald hX (by decide +kernel : decode prog_14_method_61_code 20 = .ok (.iaload, 1)) rfl,
  zs_iload_n (i := 1) rfl hX (by decide +kernel : decode prog_14_method_61_code 21 = .ok (.iload_n 1, 1)) rfl (by decide),
  zs_cne hX (by decide +kernel : decode prog_14_method_61_code 22 = .ok (.if_icmp .ne 27, 3)) (by decide) rfl,
  zs_aload_n (i := 0) rfl hX (by decide +kernel : decode prog_14_method_61_code 25 = .ok (.aload_n 0, 1)) rfl (by decide),
  zs_getR hX zFL_12_29 (by decide +kernel : decode prog_14_method_61_code 26 = .ok (.getfield 29, 3)) rfl,
  zs_iload_n (i := 3) rfl hX (by decide +kernel : decode prog_14_method_61_code 29 = .ok (.iload_n 3, 1)) rfl (by decide),
  zs_iald hX (by decide +kernel : decode prog_14_method_61_code 30 = .ok (.iaload, 1)) rfl, trivial⟩
set_option maxRecDepth 20000 in
theorem s_X12_hasUsed_1 {l : Launch} {D : va_G} {ad : Nat → Nat → Nat} {cy : Nat → ClassId} {L : List (Nat × Nat)} (hcl : zclo L = true) (hinj : zAd ad L) {X : zCtx} (hX : zXok X "SoapTreatyModel" prog_14_method_61_code 4) (hR : zRt X (some .boolean)) (hl : zXl X l D ad cy L (zroom 1)) : zAllR (zSo X) p_X12_hasUsed_1 := ⟨zs_iload_n (i := 2) rfl hX (by decide +kernel : decode prog_14_method_61_code 31 = .ok (.iload_n 2, 1)) rfl (by decide),
  zs_cne hX (by decide +kernel : decode prog_14_method_61_code 32 = .ok (.if_icmp .ne 17, 3)) (by decide) rfl,
  zs_aload_n (i := 0) rfl hX (by decide +kernel : decode prog_14_method_61_code 35 = .ok (.aload_n 0, 1)) rfl (by decide),
  zs_getR hX zFL_12_114 (by decide +kernel : decode prog_14_method_61_code 36 = .ok (.getfield 114, 3)) rfl,
  zs_pushI (zg_bipush (by decide) hX (by decide +kernel : decode prog_14_method_61_code 39 = .ok (.bipush 17, 2)) rfl),
  zs_iload_n (i := 3) rfl hX (by decide +kernel : decode prog_14_method_61_code 41 = .ok (.iload_n 3, 1)) rfl (by decide),
  zs_ii (zg_iadd hX (by decide +kernel : decode prog_14_method_61_code 42 = .ok (.iadd, 1)) rfl),
  zs_iald hX (by decide +kernel : decode prog_14_method_61_code 43 = .ok (.iaload, 1)) rfl,
  zs_0le hX (by decide +kernel : decode prog_14_method_61_code 44 = .ok (.ifCond .le 5, 3)) (by decide) rfl,
  zs_pushI (zg_iconst (by decide) hX (by decide +kernel : decode prog_14_method_61_code 47 = .ok (.iconst 1, 1)) rfl),
  zs_zretc hX hR (by decide +kernel : decode prog_14_method_61_code 48 = .ok (.ireturn, 1)),
  zs_iinc hX (by decide +kernel : decode prog_14_method_61_code 49 = .ok (.iinc 3 1, 3)) (by decide) rfl (by decide),
  zs_goto hX (by decide +kernel : decode prog_14_method_61_code 52 = .ok (.goto (-50), 3)) (by decide),
  zs_pushI (zg_iconst (by decide) hX (by decide +kernel : decode prog_14_method_61_code 55 = .ok (.iconst 0, 1)) rfl),
  zs_zretc hX hR (by decide +kernel : decode prog_14_method_61_code 56 = .ok (.ireturn, 1)), trivial⟩
theorem k_X12_hasUsed {l : Launch} {D : va_G} {ad : Nat → Nat → Nat} {cy : Nat → ClassId} {L : List (Nat × Nat)} (hcl : zclo L = true) (hinj : zAd ad L) : zCk l D ad cy L 1 f_X12_hasUsed y_X12_hasUsed (.code y_X12_hasUsed prog_14_method_61_code 4 (some .boolean)) :=
  z_met (by decide) t_X12_hasUsed hcl hinj (fun X hX hR hl k => zgs_all (Q := zSo X) (c := [(31, p_X12_hasUsed_0), (57, p_X12_hasUsed_1)]) (fun _ => zs_bad) ⟨s_X12_hasUsed_0 hcl hinj hX hR hl, s_X12_hasUsed_1 hcl hinj hX hR hl, trivial⟩ k)
set_option maxRecDepth 1000000 in
theorem e_X12_hasUsed_0 (x1 : Int32) (x2 : Int32) (h : zH) : zL p_X12_hasUsed 0 [some (.inr (.inr (12, 0))), some (.inl x1), some (.inl x2), none] [] h = zL p_X12_hasUsed 2 [some (.inr (.inr (12, 0))), some (.inl x1), some (.inl x2), some (.inl 0)] [] h := (zL_s (t_X12_hasUsed) [0, 2] 1000 0 _ _ _).trans rfl
theorem g_X12_hasUsed (x1 : Int32) (x2 : Int32) (h : zH) : f_X12_hasUsed [(.inr (.inr (12, 0))), (.inl x1), (.inl x2)] h = zL p_X12_hasUsed 2 [some (.inr (.inr (12, 0))), some (.inl x1), some (.inl x2), some (.inl 0)] [] h := (show f_X12_hasUsed _ h = zL p_X12_hasUsed 0 _ [] h from rfl).trans (e_X12_hasUsed_0 x1 x2 h)
set_option maxRecDepth 1000000 in
theorem e_X12_hasUsed_2 (x1 : Int32) (x2 : Int32) (x3 : Int32) (h : zH) : zL p_X12_hasUsed 2 [some (.inr (.inr (12, 0))), some (.inl x1), some (.inl x2), some (.inl x3)] [] h = zf (x3 < (h.1 39 0 1)) (zf (vp_in ((10 : Int32) + x3) 24) (zf ((h.1 72 0 ((10 : Int32) + x3).toNatClampNeg) = x1) (zf (vp_in x3 14) (zf ((h.1 44 0 x3.toNatClampNeg) = x2) (zf (vp_in ((17 : Int32) + x3) 24) (zf (0 < (h.1 72 0 ((17 : Int32) + x3).toNatClampNeg)) (some (some (.inl 1), h)) (zL p_X12_hasUsed 2 [some (.inr (.inr (12, 0))), some (.inl x1), some (.inl x2), some (.inl (x3 + 1))] [] h)) none) (zL p_X12_hasUsed 2 [some (.inr (.inr (12, 0))), some (.inl x1), some (.inl x2), some (.inl (x3 + 1))] [] h)) none) (zL p_X12_hasUsed 2 [some (.inr (.inr (12, 0))), some (.inl x1), some (.inl x2), some (.inl (x3 + 1))] [] h)) none) (some (some (.inl 0), h)) := (zL_s (t_X12_hasUsed) [0, 2] 1000 2 _ _ _).trans rfl
theorem zMV_12_391 : zMV "SoapTreatyModel" 391 12 y_X12_areAtWar prog_14_method_60_code 4 (some .boolean) 2 := ⟨⟨zT_of 1563 (by decide +kernel) (by decide +kernel), zT_of 1565 (by decide +kernel) (by decide +kernel), zT_of 67 (by decide +kernel) (by decide +kernel), zT_of 118 (by decide +kernel) (by decide +kernel), zT_of 1566 (by decide +kernel) (by decide +kernel)⟩, by decide, rfl, ⟨zT12, 57, rfl⟩, by decide, by decide, by decide +kernel⟩
theorem zMV_12_394 : zMV "SoapTreatyModel" 394 12 y_X12_hasUsed prog_14_method_61_code 4 (some .boolean) 2 := ⟨⟨zT_of 1583 (by decide +kernel) (by decide +kernel), zT_of 1585 (by decide +kernel) (by decide +kernel), zT_of 72 (by decide +kernel) (by decide +kernel), zT_of 118 (by decide +kernel) (by decide +kernel), zT_of 1586 (by decide +kernel) (by decide +kernel)⟩, by decide, rfl, ⟨zT12, 57, rfl⟩, by decide, by decide, by decide +kernel⟩
/-! SoapTreatyModel.areEarnest(II)Z -/
def y_X12_areEarnest : MethodName := ⟨"SoapTreatyModel", "areEarnest", "(II)Z"⟩
noncomputable def p_X12_areEarnest_0 : List (Nat × zO) := [(0, zo_iload 1 1),
  (1, zo_iload 2 2),
  (2, zo_ceq 36 5),
  (5, zo_aload 0 6),
  (6, zo_iload 1 7),
  (7, zo_iload 2 8),
  (8, zo_vir 12 3 (zo_calli (f_X12_areAtWar) 3 11)),
  (11, zo_0ne 36 14),
  (14, zo_aload 0 15),
  (15, zo_iload 1 16),
  (16, zo_iload 2 17),
  (17, zo_vir 12 3 (zo_calli (f_X12_hasUsed) 3 20)),
  (20, zo_0eq 36 23),
  (23, zo_aload 0 24),
  (24, zo_iload 2 25),
  (25, zo_iload 1 26),
  (26, zo_vir 12 3 (zo_calli (f_X12_hasUsed) 3 29)),
  (29, zo_0eq 36 32),
  (32, zo_push (.inl 1) 33),
  (33, zo_goto 37)]
noncomputable def p_X12_areEarnest_1 : List (Nat × zO) := [(36, zo_push (.inl 0) 37),
  (37, zo_zretc)]
noncomputable def p_X12_areEarnest : Nat → zO := zgs [(34, p_X12_areEarnest_0), (38, p_X12_areEarnest_1)]
theorem t_X12_areEarnest : ∀ k, zTl (p_X12_areEarnest k) := fun k => zgs_all (c := [(34, p_X12_areEarnest_0), (38, p_X12_areEarnest_1)]) (fun _ => zl_bad) ⟨⟨zl_iload, zl_iload, zl_ceq, zl_aload, zl_iload, zl_iload, (zl_vir zl_calli), zl_0ne, zl_aload, zl_iload, zl_iload, (zl_vir zl_calli), zl_0eq, zl_aload, zl_iload, zl_iload, (zl_vir zl_calli), zl_0eq, zl_push, zl_goto, trivial⟩, ⟨zl_push, zl_zretc, trivial⟩, trivial⟩ k
noncomputable def f_X12_areEarnest : zS := zrun p_X12_areEarnest 3
set_option maxRecDepth 20000 in
theorem s_X12_areEarnest_0 {l : Launch} {D : va_G} {ad : Nat → Nat → Nat} {cy : Nat → ClassId} {L : List (Nat × Nat)} (hcl : zclo L = true) (hinj : zAd ad L) {X : zCtx} (hX : zXok X "SoapTreatyModel" prog_14_method_62_code 3) (hR : zRt X (some .boolean)) (hl : zXl X l D ad cy L (zroom 3)) : zAllR (zSo X) p_X12_areEarnest_0 := ⟨zs_iload_n (i := 1) rfl hX (by decide +kernel : decode prog_14_method_62_code 0 = .ok (.iload_n 1, 1)) rfl (by decide),
  zs_iload_n (i := 2) rfl hX (by decide +kernel : decode prog_14_method_62_code 1 = .ok (.iload_n 2, 1)) rfl (by decide),
  zs_ceq hX (by decide +kernel : decode prog_14_method_62_code 2 = .ok (.if_icmp .eq 34, 3)) (by decide) rfl,
  zs_aload_n (i := 0) rfl hX (by decide +kernel : decode prog_14_method_62_code 5 = .ok (.aload_n 0, 1)) rfl (by decide),
  zs_iload_n (i := 1) rfl hX (by decide +kernel : decode prog_14_method_62_code 6 = .ok (.iload_n 1, 1)) rfl (by decide),
  zs_iload_n (i := 2) rfl hX (by decide +kernel : decode prog_14_method_62_code 7 = .ok (.iload_n 2, 1)) rfl (by decide),
  zs_callVi hX zMV_12_391 (zXc_of hl (by decide) (k_X12_areAtWar hcl hinj)) (by decide +kernel : decode prog_14_method_62_code 8 = .ok (.invokevirtual 391, 3)) rfl,
  zs_0ne hX (by decide +kernel : decode prog_14_method_62_code 11 = .ok (.ifCond .ne 25, 3)) (by decide) rfl,
  zs_aload_n (i := 0) rfl hX (by decide +kernel : decode prog_14_method_62_code 14 = .ok (.aload_n 0, 1)) rfl (by decide),
  zs_iload_n (i := 1) rfl hX (by decide +kernel : decode prog_14_method_62_code 15 = .ok (.iload_n 1, 1)) rfl (by decide),
  zs_iload_n (i := 2) rfl hX (by decide +kernel : decode prog_14_method_62_code 16 = .ok (.iload_n 2, 1)) rfl (by decide),
  zs_callVi hX zMV_12_394 (zXc_of hl (by decide) (k_X12_hasUsed hcl hinj)) (by decide +kernel : decode prog_14_method_62_code 17 = .ok (.invokevirtual 394, 3)) rfl,
  zs_0eq hX (by decide +kernel : decode prog_14_method_62_code 20 = .ok (.ifCond .eq 16, 3)) (by decide) rfl,
  zs_aload_n (i := 0) rfl hX (by decide +kernel : decode prog_14_method_62_code 23 = .ok (.aload_n 0, 1)) rfl (by decide),
  zs_iload_n (i := 2) rfl hX (by decide +kernel : decode prog_14_method_62_code 24 = .ok (.iload_n 2, 1)) rfl (by decide),
  zs_iload_n (i := 1) rfl hX (by decide +kernel : decode prog_14_method_62_code 25 = .ok (.iload_n 1, 1)) rfl (by decide),
  zs_callVi hX zMV_12_394 (zXc_of hl (by decide) (k_X12_hasUsed hcl hinj)) (by decide +kernel : decode prog_14_method_62_code 26 = .ok (.invokevirtual 394, 3)) rfl,
  zs_0eq hX (by decide +kernel : decode prog_14_method_62_code 29 = .ok (.ifCond .eq 7, 3)) (by decide) rfl,
  zs_pushI (zg_iconst (by decide) hX (by decide +kernel : decode prog_14_method_62_code 32 = .ok (.iconst 1, 1)) rfl),
  zs_goto hX (by decide +kernel : decode prog_14_method_62_code 33 = .ok (.goto 4, 3)) (by decide), trivial⟩
set_option maxRecDepth 20000 in
theorem s_X12_areEarnest_1 {l : Launch} {D : va_G} {ad : Nat → Nat → Nat} {cy : Nat → ClassId} {L : List (Nat × Nat)} (hcl : zclo L = true) (hinj : zAd ad L) {X : zCtx} (hX : zXok X "SoapTreatyModel" prog_14_method_62_code 3) (hR : zRt X (some .boolean)) (hl : zXl X l D ad cy L (zroom 3)) : zAllR (zSo X) p_X12_areEarnest_1 := ⟨zs_pushI (zg_iconst (by decide) hX (by decide +kernel : decode prog_14_method_62_code 36 = .ok (.iconst 0, 1)) rfl),
  zs_zretc hX hR (by decide +kernel : decode prog_14_method_62_code 37 = .ok (.ireturn, 1)), trivial⟩
theorem k_X12_areEarnest {l : Launch} {D : va_G} {ad : Nat → Nat → Nat} {cy : Nat → ClassId} {L : List (Nat × Nat)} (hcl : zclo L = true) (hinj : zAd ad L) : zCk l D ad cy L 3 f_X12_areEarnest y_X12_areEarnest (.code y_X12_areEarnest prog_14_method_62_code 3 (some .boolean)) :=
  z_met (by decide) t_X12_areEarnest hcl hinj (fun X hX hR hl k => zgs_all (Q := zSo X) (c := [(34, p_X12_areEarnest_0), (38, p_X12_areEarnest_1)]) (fun _ => zs_bad) ⟨s_X12_areEarnest_0 hcl hinj hX hR hl, s_X12_areEarnest_1 hcl hinj hX hR hl, trivial⟩ k)
set_option maxRecDepth 1000000 in
theorem e_X12_areEarnest_0 (x1 : Int32) (x2 : Int32) (h : zH) : zL p_X12_areEarnest 0 [some (.inr (.inr (12, 0))), some (.inl x1), some (.inl x2)] [] h = zf (x1 = x2) (some (some (.inl 0), h)) (zci (f_X12_areAtWar [(.inr (.inr (12, 0))), (.inl x1), (.inl x2)] h) (fun r2 h1 => zf (r2 = 0) (zci (f_X12_hasUsed [(.inr (.inr (12, 0))), (.inl x1), (.inl x2)] h1) (fun r4 h3 => zf (r4 = 0) (some (some (.inl 0), h3)) (zci (f_X12_hasUsed [(.inr (.inr (12, 0))), (.inl x2), (.inl x1)] h3) (fun r6 h5 => zf (r6 = 0) (some (some (.inl 0), h5)) (some (some (.inl 1), h5)))))) (some (some (.inl 0), h1)))) := (zL_s (t_X12_areEarnest) [0] 1000 0 _ _ _).trans rfl
theorem g_X12_areEarnest (x1 : Int32) (x2 : Int32) (h : zH) : f_X12_areEarnest [(.inr (.inr (12, 0))), (.inl x1), (.inl x2)] h = zf (x1 = x2) (some (some (.inl 0), h)) (zci (f_X12_areAtWar [(.inr (.inr (12, 0))), (.inl x1), (.inl x2)] h) (fun r2 h1 => zf (r2 = 0) (zci (f_X12_hasUsed [(.inr (.inr (12, 0))), (.inl x1), (.inl x2)] h1) (fun r4 h3 => zf (r4 = 0) (some (some (.inl 0), h3)) (zci (f_X12_hasUsed [(.inr (.inr (12, 0))), (.inl x2), (.inl x1)] h3) (fun r6 h5 => zf (r6 = 0) (some (some (.inl 0), h5)) (some (some (.inl 1), h5)))))) (some (some (.inl 0), h1)))) := (show f_X12_areEarnest _ h = zL p_X12_areEarnest 0 _ [] h from rfl).trans (e_X12_areEarnest_0 x1 x2 h)
/-! SoapTreatyModel.foesOf(I)I -/
def y_X12_foesOf : MethodName := ⟨"SoapTreatyModel", "foesOf", "(I)I"⟩
noncomputable def p_X12_foesOf_0 : List (Nat × zO) := [(0, zo_push (.inl 0) 1),
  (1, zo_istore 2 2),
  (2, zo_push (.inl 0) 3),
  (3, zo_istore 3 4),
  (4, zo_iload 3 5),
  (5, zo_aload 0 6),
  (6, zo_getR 12 39 none 9),
  (9, zo_push (.inl 0) 10),
  (10, zo_ialdc 11),
  (11, zo_cge 44 14),
  (14, zo_iload 2 15),
  (15, zo_iload 3 16),
  (16, zo_iload 1 17),
  (17, zo_ceq 35 20),
  (20, zo_aload 0 21),
  (21, zo_iload 1 22),
  (22, zo_iload 3 23),
  (23, zo_vir 12 3 (zo_calli (f_X12_areAtWar) 3 26)),
  (26, zo_0eq 35 29),
  (29, zo_push (.inl 1) 30)]
noncomputable def p_X12_foesOf_1 : List (Nat × zO) := [(30, zo_iload 3 31),
  (31, zo_ii (fun x y => x <<< (y &&& 31)) 32),
  (32, zo_goto 36),
  (35, zo_push (.inl 0) 36),
  (36, zo_ii (fun x y => x ||| y) 37),
  (37, zo_istore 2 38),
  (38, zo_iinc 3 1 41),
  (41, zo_goto 4),
  (44, zo_iload 2 45),
  (45, zo_iret)]
noncomputable def p_X12_foesOf : Nat → zO := zgs [(30, p_X12_foesOf_0), (46, p_X12_foesOf_1)]
theorem t_X12_foesOf : ∀ k, zTl (p_X12_foesOf k) := fun k => zgs_all (c := [(30, p_X12_foesOf_0), (46, p_X12_foesOf_1)]) (fun _ => zl_bad) ⟨⟨zl_push, zl_istore, zl_push, zl_istore, zl_iload, zl_aload, zl_getR, zl_push, zl_ialdc, zl_cge, zl_iload, zl_iload, zl_iload, zl_ceq, zl_aload, zl_iload, zl_iload, (zl_vir zl_calli), zl_0eq, zl_push, trivial⟩, ⟨zl_iload, zl_ii, zl_goto, zl_push, zl_ii, zl_istore, zl_iinc, zl_goto, zl_iload, zl_iret, trivial⟩, trivial⟩ k
noncomputable def f_X12_foesOf : zS := zrun p_X12_foesOf 4
set_option maxRecDepth 20000 in
theorem s_X12_foesOf_0 {l : Launch} {D : va_G} {ad : Nat → Nat → Nat} {cy : Nat → ClassId} {L : List (Nat × Nat)} (hcl : zclo L = true) (hinj : zAd ad L) {X : zCtx} (hX : zXok X "SoapTreatyModel" prog_14_method_63_code 4) (hR : zRt X (some .int)) (hl : zXl X l D ad cy L (zroom 3)) : zAllR (zSo X) p_X12_foesOf_0 := ⟨zs_pushI (zg_iconst (by decide) hX (by decide +kernel : decode prog_14_method_63_code 0 = .ok (.iconst 0, 1)) rfl),
  zs_istore_n (i := 2) rfl hX (by decide +kernel : decode prog_14_method_63_code 1 = .ok (.istore_n 2, 1)) rfl (by decide),
  zs_pushI (zg_iconst (by decide) hX (by decide +kernel : decode prog_14_method_63_code 2 = .ok (.iconst 0, 1)) rfl),
  zs_istore_n (i := 3) rfl hX (by decide +kernel : decode prog_14_method_63_code 3 = .ok (.istore_n 3, 1)) rfl (by decide),
  zs_iload_n (i := 3) rfl hX (by decide +kernel : decode prog_14_method_63_code 4 = .ok (.iload_n 3, 1)) rfl (by decide),
  zs_aload_n (i := 0) rfl hX (by decide +kernel : decode prog_14_method_63_code 5 = .ok (.aload_n 0, 1)) rfl (by decide),
  zs_getR hX zFL_12_13 (by decide +kernel : decode prog_14_method_63_code 6 = .ok (.getfield 13, 3)) rfl,
  zs_pushI (zg_iconst (by decide) hX (by decide +kernel : decode prog_14_method_63_code 9 = .ok (.iconst 0, 1)) rfl),
  zs_ialdc hX (by decide +kernel : decode prog_14_method_63_code 10 = .ok (.iaload, 1)) rfl,
  zs_cge hX (by decide +kernel : decode prog_14_method_63_code 11 = .ok (.if_icmp .ge 33, 3)) (by decide) rfl,
  zs_iload_n (i := 2) rfl hX (by decide +kernel : decode prog_14_method_63_code 14 = .ok (.iload_n 2, 1)) rfl (by decide),
  zs_iload_n (i := 3) rfl hX (by decide +kernel : decode prog_14_method_63_code 15 = .ok (.iload_n 3, 1)) rfl (by decide),
  zs_iload_n (i := 1) rfl hX (by decide +kernel : decode prog_14_method_63_code 16 = .ok (.iload_n 1, 1)) rfl (by decide),
  zs_ceq hX (by decide +kernel : decode prog_14_method_63_code 17 = .ok (.if_icmp .eq 18, 3)) (by decide) rfl,
  zs_aload_n (i := 0) rfl hX (by decide +kernel : decode prog_14_method_63_code 20 = .ok (.aload_n 0, 1)) rfl (by decide),
  zs_iload_n (i := 1) rfl hX (by decide +kernel : decode prog_14_method_63_code 21 = .ok (.iload_n 1, 1)) rfl (by decide),
  zs_iload_n (i := 3) rfl hX (by decide +kernel : decode prog_14_method_63_code 22 = .ok (.iload_n 3, 1)) rfl (by decide),
  zs_callVi hX zMV_12_391 (zXc_of hl (by decide) (k_X12_areAtWar hcl hinj)) (by decide +kernel : decode prog_14_method_63_code 23 = .ok (.invokevirtual 391, 3)) rfl,
  zs_0eq hX (by decide +kernel : decode prog_14_method_63_code 26 = .ok (.ifCond .eq 9, 3)) (by decide) rfl,
  zs_pushI (zg_iconst (by decide) hX (by decide +kernel : decode prog_14_method_63_code 29 = .ok (.iconst 1, 1)) rfl), trivial⟩
set_option maxRecDepth 20000 in
theorem s_X12_foesOf_1 {l : Launch} {D : va_G} {ad : Nat → Nat → Nat} {cy : Nat → ClassId} {L : List (Nat × Nat)} (hcl : zclo L = true) (hinj : zAd ad L) {X : zCtx} (hX : zXok X "SoapTreatyModel" prog_14_method_63_code 4) (hR : zRt X (some .int)) (hl : zXl X l D ad cy L (zroom 3)) : zAllR (zSo X) p_X12_foesOf_1 := ⟨zs_iload_n (i := 3) rfl hX (by decide +kernel : decode prog_14_method_63_code 30 = .ok (.iload_n 3, 1)) rfl (by decide),
  zs_ii (zg_ishl hX (by decide +kernel : decode prog_14_method_63_code 31 = .ok (.ishl, 1)) rfl),
  zs_goto hX (by decide +kernel : decode prog_14_method_63_code 32 = .ok (.goto 4, 3)) (by decide),
  zs_pushI (zg_iconst (by decide) hX (by decide +kernel : decode prog_14_method_63_code 35 = .ok (.iconst 0, 1)) rfl),
  zs_ii (zg_ior hX (by decide +kernel : decode prog_14_method_63_code 36 = .ok (.ior, 1)) rfl),
  zs_istore_n (i := 2) rfl hX (by decide +kernel : decode prog_14_method_63_code 37 = .ok (.istore_n 2, 1)) rfl (by decide),
  zs_iinc hX (by decide +kernel : decode prog_14_method_63_code 38 = .ok (.iinc 3 1, 3)) (by decide) rfl (by decide),
  zs_goto hX (by decide +kernel : decode prog_14_method_63_code 41 = .ok (.goto (-37), 3)) (by decide),
  zs_iload_n (i := 2) rfl hX (by decide +kernel : decode prog_14_method_63_code 44 = .ok (.iload_n 2, 1)) rfl (by decide),
  zs_iret hX hR (by decide +kernel : decode prog_14_method_63_code 45 = .ok (.ireturn, 1)), trivial⟩
theorem k_X12_foesOf {l : Launch} {D : va_G} {ad : Nat → Nat → Nat} {cy : Nat → ClassId} {L : List (Nat × Nat)} (hcl : zclo L = true) (hinj : zAd ad L) : zCk l D ad cy L 3 f_X12_foesOf y_X12_foesOf (.code y_X12_foesOf prog_14_method_63_code 4 (some .int)) :=
  z_met (by decide) t_X12_foesOf hcl hinj (fun X hX hR hl k => zgs_all (Q := zSo X) (c := [(30, p_X12_foesOf_0), (46, p_X12_foesOf_1)]) (fun _ => zs_bad) ⟨s_X12_foesOf_0 hcl hinj hX hR hl, s_X12_foesOf_1 hcl hinj hX hR hl, trivial⟩ k)
set_option maxRecDepth 1000000 in
theorem e_X12_foesOf_0 (x1 : Int32) (h : zH) : zL p_X12_foesOf 0 [some (.inr (.inr (12, 0))), some (.inl x1), none, none] [] h = zL p_X12_foesOf 4 [some (.inr (.inr (12, 0))), some (.inl x1), some (.inl 0), some (.inl 0)] [] h := (zL_s (t_X12_foesOf) [0, 4] 1000 0 _ _ _).trans rfl
theorem g_X12_foesOf (x1 : Int32) (h : zH) : f_X12_foesOf [(.inr (.inr (12, 0))), (.inl x1)] h = zL p_X12_foesOf 4 [some (.inr (.inr (12, 0))), some (.inl x1), some (.inl 0), some (.inl 0)] [] h := (show f_X12_foesOf _ h = zL p_X12_foesOf 0 _ [] h from rfl).trans (e_X12_foesOf_0 x1 h)
set_option maxRecDepth 1000000 in
theorem e_X12_foesOf_4 (x1 : Int32) (x2 : Int32) (x3 : Int32) (h : zH) : zL p_X12_foesOf 4 [some (.inr (.inr (12, 0))), some (.inl x1), some (.inl x2), some (.inl x3)] [] h = zf (x3 < (h.1 39 0 0)) (zf (x3 = x1) (zL p_X12_foesOf 4 [some (.inr (.inr (12, 0))), some (.inl x1), some (.inl (x2 ||| (0 : Int32))), some (.inl (x3 + 1))] [] h) (zci (f_X12_areAtWar [(.inr (.inr (12, 0))), (.inl x1), (.inl x3)] h) (fun r2 h1 => zf (r2 = 0) (zL p_X12_foesOf 4 [some (.inr (.inr (12, 0))), some (.inl x1), some (.inl (x2 ||| (0 : Int32))), some (.inl (x3 + 1))] [] h1) (zL p_X12_foesOf 4 [some (.inr (.inr (12, 0))), some (.inl x1), some (.inl (x2 ||| ((1 : Int32) <<< (x3 &&& 31)))), some (.inl (x3 + 1))] [] h1)))) (some (some (.inl x2), h)) := (zL_s (t_X12_foesOf) [0, 4] 1000 4 _ _ _).trans rfl
theorem zMV_12_397 : zMV "SoapTreatyModel" 397 12 y_X12_areEarnest prog_14_method_62_code 3 (some .boolean) 2 := ⟨⟨zT_of 1579 (by decide +kernel) (by decide +kernel), zT_of 1581 (by decide +kernel) (by decide +kernel), zT_of 71 (by decide +kernel) (by decide +kernel), zT_of 118 (by decide +kernel) (by decide +kernel), zT_of 1582 (by decide +kernel) (by decide +kernel)⟩, by decide, rfl, ⟨zT12, 57, rfl⟩, by decide, by decide, by decide +kernel⟩
/-! SoapTreatyModel.earnestWith(I)I -/
def y_X12_earnestWith : MethodName := ⟨"SoapTreatyModel", "earnestWith", "(I)I"⟩
noncomputable def p_X12_earnestWith_0 : List (Nat × zO) := [(0, zo_push (.inl 0) 1),
  (1, zo_istore 2 2),
  (2, zo_push (.inl 0) 3),
  (3, zo_istore 3 4),
  (4, zo_iload 3 5),
  (5, zo_aload 0 6),
  (6, zo_getR 12 39 none 9),
  (9, zo_push (.inl 0) 10),
  (10, zo_ialdc 11),
  (11, zo_cge 39 14),
  (14, zo_iload 2 15),
  (15, zo_aload 0 16),
  (16, zo_iload 1 17),
  (17, zo_iload 3 18),
  (18, zo_vir 12 3 (zo_calli (f_X12_areEarnest) 3 21)),
  (21, zo_0eq 30 24),
  (24, zo_push (.inl 1) 25),
  (25, zo_iload 3 26),
  (26, zo_ii (fun x y => x <<< (y &&& 31)) 27),
  (27, zo_goto 31)]
noncomputable def p_X12_earnestWith_1 : List (Nat × zO) := [(30, zo_push (.inl 0) 31),
  (31, zo_ii (fun x y => x ||| y) 32),
  (32, zo_istore 2 33),
  (33, zo_iinc 3 1 36),
  (36, zo_goto 4),
  (39, zo_iload 2 40),
  (40, zo_iret)]
noncomputable def p_X12_earnestWith : Nat → zO := zgs [(28, p_X12_earnestWith_0), (41, p_X12_earnestWith_1)]
theorem t_X12_earnestWith : ∀ k, zTl (p_X12_earnestWith k) := fun k => zgs_all (c := [(28, p_X12_earnestWith_0), (41, p_X12_earnestWith_1)]) (fun _ => zl_bad) ⟨⟨zl_push, zl_istore, zl_push, zl_istore, zl_iload, zl_aload, zl_getR, zl_push, zl_ialdc, zl_cge, zl_iload, zl_aload, zl_iload, zl_iload, (zl_vir zl_calli), zl_0eq, zl_push, zl_iload, zl_ii, zl_goto, trivial⟩, ⟨zl_push, zl_ii, zl_istore, zl_iinc, zl_goto, zl_iload, zl_iret, trivial⟩, trivial⟩ k
noncomputable def f_X12_earnestWith : zS := zrun p_X12_earnestWith 4
set_option maxRecDepth 20000 in
theorem s_X12_earnestWith_0 {l : Launch} {D : va_G} {ad : Nat → Nat → Nat} {cy : Nat → ClassId} {L : List (Nat × Nat)} (hcl : zclo L = true) (hinj : zAd ad L) {X : zCtx} (hX : zXok X "SoapTreatyModel" prog_14_method_64_code 4) (hR : zRt X (some .int)) (hl : zXl X l D ad cy L (zroom 4)) : zAllR (zSo X) p_X12_earnestWith_0 := ⟨zs_pushI (zg_iconst (by decide) hX (by decide +kernel : decode prog_14_method_64_code 0 = .ok (.iconst 0, 1)) rfl),
  zs_istore_n (i := 2) rfl hX (by decide +kernel : decode prog_14_method_64_code 1 = .ok (.istore_n 2, 1)) rfl (by decide),
  zs_pushI (zg_iconst (by decide) hX (by decide +kernel : decode prog_14_method_64_code 2 = .ok (.iconst 0, 1)) rfl),
  zs_istore_n (i := 3) rfl hX (by decide +kernel : decode prog_14_method_64_code 3 = .ok (.istore_n 3, 1)) rfl (by decide),
  zs_iload_n (i := 3) rfl hX (by decide +kernel : decode prog_14_method_64_code 4 = .ok (.iload_n 3, 1)) rfl (by decide),
  zs_aload_n (i := 0) rfl hX (by decide +kernel : decode prog_14_method_64_code 5 = .ok (.aload_n 0, 1)) rfl (by decide),
  zs_getR hX zFL_12_13 (by decide +kernel : decode prog_14_method_64_code 6 = .ok (.getfield 13, 3)) rfl,
  zs_pushI (zg_iconst (by decide) hX (by decide +kernel : decode prog_14_method_64_code 9 = .ok (.iconst 0, 1)) rfl),
  zs_ialdc hX (by decide +kernel : decode prog_14_method_64_code 10 = .ok (.iaload, 1)) rfl,
  zs_cge hX (by decide +kernel : decode prog_14_method_64_code 11 = .ok (.if_icmp .ge 28, 3)) (by decide) rfl,
  zs_iload_n (i := 2) rfl hX (by decide +kernel : decode prog_14_method_64_code 14 = .ok (.iload_n 2, 1)) rfl (by decide),
  zs_aload_n (i := 0) rfl hX (by decide +kernel : decode prog_14_method_64_code 15 = .ok (.aload_n 0, 1)) rfl (by decide),
  zs_iload_n (i := 1) rfl hX (by decide +kernel : decode prog_14_method_64_code 16 = .ok (.iload_n 1, 1)) rfl (by decide),
  zs_iload_n (i := 3) rfl hX (by decide +kernel : decode prog_14_method_64_code 17 = .ok (.iload_n 3, 1)) rfl (by decide),
  zs_callVi hX zMV_12_397 (zXc_of hl (by decide) (k_X12_areEarnest hcl hinj)) (by decide +kernel : decode prog_14_method_64_code 18 = .ok (.invokevirtual 397, 3)) rfl,
  zs_0eq hX (by decide +kernel : decode prog_14_method_64_code 21 = .ok (.ifCond .eq 9, 3)) (by decide) rfl,
  zs_pushI (zg_iconst (by decide) hX (by decide +kernel : decode prog_14_method_64_code 24 = .ok (.iconst 1, 1)) rfl),
  zs_iload_n (i := 3) rfl hX (by decide +kernel : decode prog_14_method_64_code 25 = .ok (.iload_n 3, 1)) rfl (by decide),
  zs_ii (zg_ishl hX (by decide +kernel : decode prog_14_method_64_code 26 = .ok (.ishl, 1)) rfl),
  zs_goto hX (by decide +kernel : decode prog_14_method_64_code 27 = .ok (.goto 4, 3)) (by decide), trivial⟩
set_option maxRecDepth 20000 in
theorem s_X12_earnestWith_1 {l : Launch} {D : va_G} {ad : Nat → Nat → Nat} {cy : Nat → ClassId} {L : List (Nat × Nat)} (hcl : zclo L = true) (hinj : zAd ad L) {X : zCtx} (hX : zXok X "SoapTreatyModel" prog_14_method_64_code 4) (hR : zRt X (some .int)) (hl : zXl X l D ad cy L (zroom 4)) : zAllR (zSo X) p_X12_earnestWith_1 := ⟨zs_pushI (zg_iconst (by decide) hX (by decide +kernel : decode prog_14_method_64_code 30 = .ok (.iconst 0, 1)) rfl),
  zs_ii (zg_ior hX (by decide +kernel : decode prog_14_method_64_code 31 = .ok (.ior, 1)) rfl),
  zs_istore_n (i := 2) rfl hX (by decide +kernel : decode prog_14_method_64_code 32 = .ok (.istore_n 2, 1)) rfl (by decide),
  zs_iinc hX (by decide +kernel : decode prog_14_method_64_code 33 = .ok (.iinc 3 1, 3)) (by decide) rfl (by decide),
  zs_goto hX (by decide +kernel : decode prog_14_method_64_code 36 = .ok (.goto (-32), 3)) (by decide),
  zs_iload_n (i := 2) rfl hX (by decide +kernel : decode prog_14_method_64_code 39 = .ok (.iload_n 2, 1)) rfl (by decide),
  zs_iret hX hR (by decide +kernel : decode prog_14_method_64_code 40 = .ok (.ireturn, 1)), trivial⟩
theorem k_X12_earnestWith {l : Launch} {D : va_G} {ad : Nat → Nat → Nat} {cy : Nat → ClassId} {L : List (Nat × Nat)} (hcl : zclo L = true) (hinj : zAd ad L) : zCk l D ad cy L 4 f_X12_earnestWith y_X12_earnestWith (.code y_X12_earnestWith prog_14_method_64_code 4 (some .int)) :=
  z_met (by decide) t_X12_earnestWith hcl hinj (fun X hX hR hl k => zgs_all (Q := zSo X) (c := [(28, p_X12_earnestWith_0), (41, p_X12_earnestWith_1)]) (fun _ => zs_bad) ⟨s_X12_earnestWith_0 hcl hinj hX hR hl, s_X12_earnestWith_1 hcl hinj hX hR hl, trivial⟩ k)
set_option maxRecDepth 1000000 in
theorem e_X12_earnestWith_0 (x1 : Int32) (h : zH) : zL p_X12_earnestWith 0 [some (.inr (.inr (12, 0))), some (.inl x1), none, none] [] h = zL p_X12_earnestWith 4 [some (.inr (.inr (12, 0))), some (.inl x1), some (.inl 0), some (.inl 0)] [] h := (zL_s (t_X12_earnestWith) [0, 4] 1000 0 _ _ _).trans rfl
theorem g_X12_earnestWith (x1 : Int32) (h : zH) : f_X12_earnestWith [(.inr (.inr (12, 0))), (.inl x1)] h = zL p_X12_earnestWith 4 [some (.inr (.inr (12, 0))), some (.inl x1), some (.inl 0), some (.inl 0)] [] h := (show f_X12_earnestWith _ h = zL p_X12_earnestWith 0 _ [] h from rfl).trans (e_X12_earnestWith_0 x1 h)
set_option maxRecDepth 1000000 in
theorem e_X12_earnestWith_4 (x1 : Int32) (x2 : Int32) (x3 : Int32) (h : zH) : zL p_X12_earnestWith 4 [some (.inr (.inr (12, 0))), some (.inl x1), some (.inl x2), some (.inl x3)] [] h = zf (x3 < (h.1 39 0 0)) (zci (f_X12_areEarnest [(.inr (.inr (12, 0))), (.inl x1), (.inl x3)] h) (fun r2 h1 => zf (r2 = 0) (zL p_X12_earnestWith 4 [some (.inr (.inr (12, 0))), some (.inl x1), some (.inl (x2 ||| (0 : Int32))), some (.inl (x3 + 1))] [] h1) (zL p_X12_earnestWith 4 [some (.inr (.inr (12, 0))), some (.inl x1), some (.inl (x2 ||| ((1 : Int32) <<< (x3 &&& 31)))), some (.inl (x3 + 1))] [] h1))) (some (some (.inl x2), h)) := (zL_s (t_X12_earnestWith) [0, 4] 1000 4 _ _ _).trans rfl
