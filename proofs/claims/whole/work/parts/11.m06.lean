theorem zMS_11_315 : zMS "SoapTreaty" 315 y_X11_gain prog_1_method_44_code 5 (some .int) 5 := ⟨⟨zT_of 1182 (by decide +kernel) (by decide +kernel), zT_of 1183 (by decide +kernel) (by decide +kernel), zT_of 102 (by decide +kernel) (by decide +kernel), zT_of 1184 (by decide +kernel) (by decide +kernel)⟩, by decide, by decide, by decide, by decide +kernel⟩
/-! SoapTreaty.isAtRest(IIII)Z -/
def y_X11_isAtRest : MethodName := ⟨"SoapTreaty", "isAtRest", "(IIII)Z"⟩
noncomputable def p_X11_isAtRest_0 : List (Nat × zO) := [(0, zo_iload 3 1),
  (1, zo_push (.inl 1) 2),
  (2, zo_ii (fun x y => x >>> (y &&& 31)) 3),
  (3, zo_istore 4 5),
  (5, zo_iload 3 6),
  (6, zo_push (.inl 1) 7),
  (7, zo_ii (fun x y => x &&& y) 8),
  (8, zo_istore 5 10),
  (10, zo_iload 4 12),
  (12, zo_iload 5 14),
  (14, zo_iload 0 15),
  (15, zo_iload 1 16),
  (16, zo_iload 2 17),
  (17, zo_calli (f_X11_gain) 5 20),
  (20, zo_push (.inl 1) 21),
  (21, zo_iload 4 23),
  (23, zo_ii (fun x y => x - y) 24),
  (24, zo_iload 5 26),
  (26, zo_iload 0 27),
  (27, zo_iload 1 28)]
noncomputable def p_X11_isAtRest_1 : List (Nat × zO) := [(28, zo_iload 2 29),
  (29, zo_calli (f_X11_gain) 5 32),
  (32, zo_clt 64 35),
  (35, zo_iload 5 37),
  (37, zo_iload 4 39),
  (39, zo_iload 0 40),
  (40, zo_iload 1 41),
  (41, zo_iload 2 42),
  (42, zo_calli (f_X11_gain) 5 45),
  (45, zo_push (.inl 1) 46),
  (46, zo_iload 5 48),
  (48, zo_ii (fun x y => x - y) 49),
  (49, zo_iload 4 51),
  (51, zo_iload 0 52),
  (52, zo_iload 1 53),
  (53, zo_iload 2 54),
  (54, zo_calli (f_X11_gain) 5 57),
  (57, zo_clt 64 60),
  (60, zo_push (.inl 1) 61),
  (61, zo_goto 65)]
noncomputable def p_X11_isAtRest_2 : List (Nat × zO) := [(64, zo_push (.inl 0) 65),
  (65, zo_zretc)]
noncomputable def p_X11_isAtRest : Nat → zO := zgs [(28, p_X11_isAtRest_0), (62, p_X11_isAtRest_1), (66, p_X11_isAtRest_2)]
theorem t_X11_isAtRest : ∀ k, zTl (p_X11_isAtRest k) := fun k => zgs_all (c := [(28, p_X11_isAtRest_0), (62, p_X11_isAtRest_1), (66, p_X11_isAtRest_2)]) (fun _ => zl_bad) ⟨⟨zl_iload, zl_push, zl_ii, zl_istore, zl_iload, zl_push, zl_ii, zl_istore, zl_iload, zl_iload, zl_iload, zl_iload, zl_iload, zl_calli, zl_push, zl_iload, zl_ii, zl_iload, zl_iload, zl_iload, trivial⟩, ⟨zl_iload, zl_calli, zl_clt, zl_iload, zl_iload, zl_iload, zl_iload, zl_iload, zl_calli, zl_push, zl_iload, zl_ii, zl_iload, zl_iload, zl_iload, zl_iload, zl_calli, zl_clt, zl_push, zl_goto, trivial⟩, ⟨zl_push, zl_zretc, trivial⟩, trivial⟩ k
noncomputable def f_X11_isAtRest : zS := zrun p_X11_isAtRest 6
set_option maxRecDepth 20000 in
theorem s_X11_isAtRest_0 {l : Launch} {D : va_G} {ad : Nat → Nat → Nat} {cy : Nat → ClassId} {L : List (Nat × Nat)} (hcl : zclo L = true) (hinj : zAd ad L) {X : zCtx} (hX : zXok X "SoapTreaty" prog_1_method_43_code 6) (hR : zRt X (some .boolean)) (hl : zXl X l D ad cy L (zroom 2)) : zAllR (zSo X) p_X11_isAtRest_0 := ⟨zs_iload_n (i := 3) rfl hX (by decide +kernel : decode prog_1_method_43_code 0 = .ok (.iload_n 3, 1)) rfl (by decide),
  zs_pushI (zg_iconst (by decide) hX (by decide +kernel : decode prog_1_method_43_code 1 = .ok (.iconst 1, 1)) rfl),
  zs_ii (zg_ishr hX (by decide +kernel : decode prog_1_method_43_code 2 = .ok (.ishr, 1)) rfl),
  zs_istore hX (by decide +kernel : decode prog_1_method_43_code 3 = .ok (.istore 4, 2)) rfl (by decide),
  zs_iload_n (i := 3) rfl hX (by decide +kernel : decode prog_1_method_43_code 5 = .ok (.iload_n 3, 1)) rfl (by decide),
  zs_pushI (zg_iconst (by decide) hX (by decide +kernel : decode prog_1_method_43_code 6 = .ok (.iconst 1, 1)) rfl),
  zs_ii (zg_iand hX (by decide +kernel : decode prog_1_method_43_code 7 = .ok (.iand, 1)) rfl),
  zs_istore hX (by decide +kernel : decode prog_1_method_43_code 8 = .ok (.istore 5, 2)) rfl (by decide),
  zs_iload hX (by decide +kernel : decode prog_1_method_43_code 10 = .ok (.iload 4, 2)) rfl (by decide),
  zs_iload hX (by decide +kernel : decode prog_1_method_43_code 12 = .ok (.iload 5, 2)) rfl (by decide),
  zs_iload_n (i := 0) rfl hX (by decide +kernel : decode prog_1_method_43_code 14 = .ok (.iload_n 0, 1)) rfl (by decide),
  zs_iload_n (i := 1) rfl hX (by decide +kernel : decode prog_1_method_43_code 15 = .ok (.iload_n 1, 1)) rfl (by decide),
  zs_iload_n (i := 2) rfl hX (by decide +kernel : decode prog_1_method_43_code 16 = .ok (.iload_n 2, 1)) rfl (by decide),
  zs_callSi hX zMS_11_315 (zXc_of hl (by decide) (k_X11_gain hcl hinj)) (by decide +kernel : decode prog_1_method_43_code 17 = .ok (.invokestatic 315, 3)) rfl,
  zs_pushI (zg_iconst (by decide) hX (by decide +kernel : decode prog_1_method_43_code 20 = .ok (.iconst 1, 1)) rfl),
  zs_iload hX (by decide +kernel : decode prog_1_method_43_code 21 = .ok (.iload 4, 2)) rfl (by decide),
  zs_ii (zg_isub hX (by decide +kernel : decode prog_1_method_43_code 23 = .ok (.isub, 1)) rfl),
  zs_iload hX (by decide +kernel : decode prog_1_method_43_code 24 = .ok (.iload 5, 2)) rfl (by decide),
  zs_iload_n (i := 0) rfl hX (by decide +kernel : decode prog_1_method_43_code 26 = .ok (.iload_n 0, 1)) rfl (by decide),
  zs_iload_n (i := 1) rfl hX (by decide +kernel : decode prog_1_method_43_code 27 = .ok (.iload_n 1, 1)) rfl (by decide), trivial⟩
set_option maxRecDepth 20000 in
theorem s_X11_isAtRest_1 {l : Launch} {D : va_G} {ad : Nat → Nat → Nat} {cy : Nat → ClassId} {L : List (Nat × Nat)} (hcl : zclo L = true) (hinj : zAd ad L) {X : zCtx} (hX : zXok X "SoapTreaty" prog_1_method_43_code 6) (hR : zRt X (some .boolean)) (hl : zXl X l D ad cy L (zroom 2)) : zAllR (zSo X) p_X11_isAtRest_1 := ⟨zs_iload_n (i := 2) rfl hX (by decide +kernel : decode prog_1_method_43_code 28 = .ok (.iload_n 2, 1)) rfl (by decide),
  zs_callSi hX zMS_11_315 (zXc_of hl (by decide) (k_X11_gain hcl hinj)) (by decide +kernel : decode prog_1_method_43_code 29 = .ok (.invokestatic 315, 3)) rfl,
  zs_clt hX (by decide +kernel : decode prog_1_method_43_code 32 = .ok (.if_icmp .lt 32, 3)) (by decide) rfl,
  zs_iload hX (by decide +kernel : decode prog_1_method_43_code 35 = .ok (.iload 5, 2)) rfl (by decide),
  zs_iload hX (by decide +kernel : decode prog_1_method_43_code 37 = .ok (.iload 4, 2)) rfl (by decide),
  zs_iload_n (i := 0) rfl hX (by decide +kernel : decode prog_1_method_43_code 39 = .ok (.iload_n 0, 1)) rfl (by decide),
  zs_iload_n (i := 1) rfl hX (by decide +kernel : decode prog_1_method_43_code 40 = .ok (.iload_n 1, 1)) rfl (by decide),
  zs_iload_n (i := 2) rfl hX (by decide +kernel : decode prog_1_method_43_code 41 = .ok (.iload_n 2, 1)) rfl (by decide),
  zs_callSi hX zMS_11_315 (zXc_of hl (by decide) (k_X11_gain hcl hinj)) (by decide +kernel : decode prog_1_method_43_code 42 = .ok (.invokestatic 315, 3)) rfl,
  zs_pushI (zg_iconst (by decide) hX (by decide +kernel : decode prog_1_method_43_code 45 = .ok (.iconst 1, 1)) rfl),
  zs_iload hX (by decide +kernel : decode prog_1_method_43_code 46 = .ok (.iload 5, 2)) rfl (by decide),
  zs_ii (zg_isub hX (by decide +kernel : decode prog_1_method_43_code 48 = .ok (.isub, 1)) rfl),
  zs_iload hX (by decide +kernel : decode prog_1_method_43_code 49 = .ok (.iload 4, 2)) rfl (by decide),
  zs_iload_n (i := 0) rfl hX (by decide +kernel : decode prog_1_method_43_code 51 = .ok (.iload_n 0, 1)) rfl (by decide),
  zs_iload_n (i := 1) rfl hX (by decide +kernel : decode prog_1_method_43_code 52 = .ok (.iload_n 1, 1)) rfl (by decide),
  zs_iload_n (i := 2) rfl hX (by decide +kernel : decode prog_1_method_43_code 53 = .ok (.iload_n 2, 1)) rfl (by decide),
  zs_callSi hX zMS_11_315 (zXc_of hl (by decide) (k_X11_gain hcl hinj)) (by decide +kernel : decode prog_1_method_43_code 54 = .ok (.invokestatic 315, 3)) rfl,
  zs_clt hX (by decide +kernel : decode prog_1_method_43_code 57 = .ok (.if_icmp .lt 7, 3)) (by decide) rfl,
  zs_pushI (zg_iconst (by decide) hX (by decide +kernel : decode prog_1_method_43_code 60 = .ok (.iconst 1, 1)) rfl),
  zs_goto hX (by decide +kernel : decode prog_1_method_43_code 61 = .ok (.goto 4, 3)) (by decide), trivial⟩
set_option maxRecDepth 20000 in
theorem s_X11_isAtRest_2 {l : Launch} {D : va_G} {ad : Nat → Nat → Nat} {cy : Nat → ClassId} {L : List (Nat × Nat)} (hcl : zclo L = true) (hinj : zAd ad L) {X : zCtx} (hX : zXok X "SoapTreaty" prog_1_method_43_code 6) (hR : zRt X (some .boolean)) (hl : zXl X l D ad cy L (zroom 2)) : zAllR (zSo X) p_X11_isAtRest_2 := ⟨zs_pushI (zg_iconst (by decide) hX (by decide +kernel : decode prog_1_method_43_code 64 = .ok (.iconst 0, 1)) rfl),
  zs_zretc hX hR (by decide +kernel : decode prog_1_method_43_code 65 = .ok (.ireturn, 1)), trivial⟩
theorem k_X11_isAtRest {l : Launch} {D : va_G} {ad : Nat → Nat → Nat} {cy : Nat → ClassId} {L : List (Nat × Nat)} (hcl : zclo L = true) (hinj : zAd ad L) : zCk l D ad cy L 2 f_X11_isAtRest y_X11_isAtRest (.code y_X11_isAtRest prog_1_method_43_code 6 (some .boolean)) :=
  z_met (by decide) t_X11_isAtRest hcl hinj (fun X hX hR hl k => zgs_all (Q := zSo X) (c := [(28, p_X11_isAtRest_0), (62, p_X11_isAtRest_1), (66, p_X11_isAtRest_2)]) (fun _ => zs_bad) ⟨s_X11_isAtRest_0 hcl hinj hX hR hl, s_X11_isAtRest_1 hcl hinj hX hR hl, s_X11_isAtRest_2 hcl hinj hX hR hl, trivial⟩ k)
set_option maxRecDepth 1000000 in
theorem e_X11_isAtRest_0 (x0 : Int32) (x1 : Int32) (x2 : Int32) (x3 : Int32) (h : zH) : zL p_X11_isAtRest 0 [some (.inl x0), some (.inl x1), some (.inl x2), some (.inl x3), none, none] [] h = zci (f_X11_gain [(.inl (x3 >>> ((1 : Int32) &&& 31))), (.inl (x3 &&& (1 : Int32))), (.inl x0), (.inl x1), (.inl x2)] h) (fun r2 h1 => zci (f_X11_gain [(.inl ((1 : Int32) - (x3 >>> ((1 : Int32) &&& 31)))), (.inl (x3 &&& (1 : Int32))), (.inl x0), (.inl x1), (.inl x2)] h1) (fun r4 h3 => zf (r2 < r4) (some (some (.inl 0), h3)) (zci (f_X11_gain [(.inl (x3 &&& (1 : Int32))), (.inl (x3 >>> ((1 : Int32) &&& 31))), (.inl x0), (.inl x1), (.inl x2)] h3) (fun r6 h5 => zci (f_X11_gain [(.inl ((1 : Int32) - (x3 &&& (1 : Int32)))), (.inl (x3 >>> ((1 : Int32) &&& 31))), (.inl x0), (.inl x1), (.inl x2)] h5) (fun r8 h7 => zf (r6 < r8) (some (some (.inl 0), h7)) (some (some (.inl 1), h7))))))) := (zL_s (t_X11_isAtRest) [0] 1000 0 _ _ _).trans rfl
theorem g_X11_isAtRest (x0 : Int32) (x1 : Int32) (x2 : Int32) (x3 : Int32) (h : zH) : f_X11_isAtRest [(.inl x0), (.inl x1), (.inl x2), (.inl x3)] h = zci (f_X11_gain [(.inl (x3 >>> ((1 : Int32) &&& 31))), (.inl (x3 &&& (1 : Int32))), (.inl x0), (.inl x1), (.inl x2)] h) (fun r2 h1 => zci (f_X11_gain [(.inl ((1 : Int32) - (x3 >>> ((1 : Int32) &&& 31)))), (.inl (x3 &&& (1 : Int32))), (.inl x0), (.inl x1), (.inl x2)] h1) (fun r4 h3 => zf (r2 < r4) (some (some (.inl 0), h3)) (zci (f_X11_gain [(.inl (x3 &&& (1 : Int32))), (.inl (x3 >>> ((1 : Int32) &&& 31))), (.inl x0), (.inl x1), (.inl x2)] h3) (fun r6 h5 => zci (f_X11_gain [(.inl ((1 : Int32) - (x3 &&& (1 : Int32)))), (.inl (x3 >>> ((1 : Int32) &&& 31))), (.inl x0), (.inl x1), (.inl x2)] h5) (fun r8 h7 => zf (r6 < r8) (some (some (.inl 0), h7)) (some (some (.inl 1), h7))))))) := (show f_X11_isAtRest _ h = zL p_X11_isAtRest 0 _ [] h from rfl).trans (e_X11_isAtRest_0 x0 x1 x2 x3 h)
/-! SoapTreatyModel.thrown()I -/
def y_X12_thrown : MethodName := ⟨"SoapTreatyModel", "thrown", "()I"⟩
noncomputable def p_X12_thrown_0 : List (Nat × zO) := [(0, zo_aload 0 1),
  (1, zo_getI 12 0 4),
  (4, zo_iret)]
noncomputable def p_X12_thrown : Nat → zO := zgs [(5, p_X12_thrown_0)]
theorem t_X12_thrown : ∀ k, zTl (p_X12_thrown k) := fun k => zgs_all (c := [(5, p_X12_thrown_0)]) (fun _ => zl_bad) ⟨⟨zl_aload, zl_getI, zl_iret, trivial⟩, trivial⟩ k
noncomputable def f_X12_thrown : zS := zrun p_X12_thrown 1
set_option maxRecDepth 20000 in
theorem s_X12_thrown_0 {l : Launch} {D : va_G} {ad : Nat → Nat → Nat} {cy : Nat → ClassId} {L : List (Nat × Nat)} (hcl : zclo L = true) (hinj : zAd ad L) {X : zCtx} (hX : zXok X "SoapTreatyModel" prog_14_method_2_code 1) (hR : zRt X (some .int)) (hl : zXl X l D ad cy L (zroom 1)) : zAllR (zSo X) p_X12_thrown_0 := ⟨zs_aload_n (i := 0) rfl hX (by decide +kernel : decode prog_14_method_2_code 0 = .ok (.aload_n 0, 1)) rfl (by decide),
  zs_getI hX zFL_12_139 (by decide) (by decide) (by decide +kernel : decode prog_14_method_2_code 1 = .ok (.getfield 139, 3)) rfl,
  zs_iret hX hR (by decide +kernel : decode prog_14_method_2_code 4 = .ok (.ireturn, 1)), trivial⟩
theorem k_X12_thrown {l : Launch} {D : va_G} {ad : Nat → Nat → Nat} {cy : Nat → ClassId} {L : List (Nat × Nat)} (hcl : zclo L = true) (hinj : zAd ad L) : zCk l D ad cy L 1 f_X12_thrown y_X12_thrown (.code y_X12_thrown prog_14_method_2_code 1 (some .int)) :=
  z_met (by decide) t_X12_thrown hcl hinj (fun X hX hR hl k => zgs_all (Q := zSo X) (c := [(5, p_X12_thrown_0)]) (fun _ => zs_bad) ⟨s_X12_thrown_0 hcl hinj hX hR hl, trivial⟩ k)
set_option maxRecDepth 1000000 in
theorem e_X12_thrown_0 (h : zH) : zL p_X12_thrown 0 [some (.inr (.inr (12, 0)))] [] h = some (some (.inl (h.1 12 0 0)), h) := (zL_s (t_X12_thrown) [0] 1000 0 _ _ _).trans rfl
theorem g_X12_thrown (h : zH) : f_X12_thrown [(.inr (.inr (12, 0)))] h = some (some (.inl (h.1 12 0 0)), h) := (show f_X12_thrown _ h = zL p_X12_thrown 0 _ [] h from rfl).trans (e_X12_thrown_0 h)
/-! SoapTreatyModel.within(III)Z -/
def y_X12_within : MethodName := ⟨"SoapTreatyModel", "within", "(III)Z"⟩
noncomputable def p_X12_within_0 : List (Nat × zO) := [(0, zo_iload 0 1),
  (1, zo_iload 1 2),
  (2, zo_clt 14 5),
  (5, zo_iload 0 6),
  (6, zo_iload 2 7),
  (7, zo_cgt 14 10),
  (10, zo_push (.inl 1) 11),
  (11, zo_goto 15),
  (14, zo_push (.inl 0) 15),
  (15, zo_zretc)]
noncomputable def p_X12_within : Nat → zO := zgs [(16, p_X12_within_0)]
theorem t_X12_within : ∀ k, zTl (p_X12_within k) := fun k => zgs_all (c := [(16, p_X12_within_0)]) (fun _ => zl_bad) ⟨⟨zl_iload, zl_iload, zl_clt, zl_iload, zl_iload, zl_cgt, zl_push, zl_goto, zl_push, zl_zretc, trivial⟩, trivial⟩ k
noncomputable def f_X12_within : zS := zrun p_X12_within 3
set_option maxRecDepth 20000 in
theorem s_X12_within_0 {l : Launch} {D : va_G} {ad : Nat → Nat → Nat} {cy : Nat → ClassId} {L : List (Nat × Nat)} (hcl : zclo L = true) (hinj : zAd ad L) {X : zCtx} (hX : zXok X "SoapTreatyModel" prog_14_method_3_code 3) (hR : zRt X (some .boolean)) (hl : zXl X l D ad cy L (zroom 1)) : zAllR (zSo X) p_X12_within_0 := ⟨zs_iload_n (i := 0) rfl hX (by decide +kernel : decode prog_14_method_3_code 0 = .ok (.iload_n 0, 1)) rfl (by decide),
  zs_iload_n (i := 1) rfl hX (by decide +kernel : decode prog_14_method_3_code 1 = .ok (.iload_n 1, 1)) rfl (by decide),
  zs_clt hX (by decide +kernel : decode prog_14_method_3_code 2 = .ok (.if_icmp .lt 12, 3)) (by decide) rfl,
  zs_iload_n (i := 0) rfl hX (by decide +kernel : decode prog_14_method_3_code 5 = .ok (.iload_n 0, 1)) rfl (by decide),
  zs_iload_n (i := 2) rfl hX (by decide +kernel : decode prog_14_method_3_code 6 = .ok (.iload_n 2, 1)) rfl (by decide),
  zs_cgt hX (by decide +kernel : decode prog_14_method_3_code 7 = .ok (.if_icmp .gt 7, 3)) (by decide) rfl,
  zs_pushI (zg_iconst (by decide) hX (by decide +kernel : decode prog_14_method_3_code 10 = .ok (.iconst 1, 1)) rfl),
  zs_goto hX (by decide +kernel : decode prog_14_method_3_code 11 = .ok (.goto 4, 3)) (by decide),
  zs_pushI (zg_iconst (by decide) hX (by decide +kernel : decode prog_14_method_3_code 14 = .ok (.iconst 0, 1)) rfl),
  zs_zretc hX hR (by decide +kernel : decode prog_14_method_3_code 15 = .ok (.ireturn, 1)), trivial⟩
theorem k_X12_within {l : Launch} {D : va_G} {ad : Nat → Nat → Nat} {cy : Nat → ClassId} {L : List (Nat × Nat)} (hcl : zclo L = true) (hinj : zAd ad L) : zCk l D ad cy L 1 f_X12_within y_X12_within (.code y_X12_within prog_14_method_3_code 3 (some .boolean)) :=
  z_met (by decide) t_X12_within hcl hinj (fun X hX hR hl k => zgs_all (Q := zSo X) (c := [(16, p_X12_within_0)]) (fun _ => zs_bad) ⟨s_X12_within_0 hcl hinj hX hR hl, trivial⟩ k)
set_option maxRecDepth 1000000 in
theorem e_X12_within_0 (x0 : Int32) (x1 : Int32) (x2 : Int32) (h : zH) : zL p_X12_within 0 [some (.inl x0), some (.inl x1), some (.inl x2)] [] h = zf (x0 < x1) (some (some (.inl 0), h)) (zf (x2 < x0) (some (some (.inl 0), h)) (some (some (.inl 1), h))) := (zL_s (t_X12_within) [0] 1000 0 _ _ _).trans rfl
theorem g_X12_within (x0 : Int32) (x1 : Int32) (x2 : Int32) (h : zH) : f_X12_within [(.inl x0), (.inl x1), (.inl x2)] h = zf (x0 < x1) (some (some (.inl 0), h)) (zf (x2 < x0) (some (some (.inl 0), h)) (some (some (.inl 1), h))) := (show f_X12_within _ h = zL p_X12_within 0 _ [] h from rfl).trans (e_X12_within_0 x0 x1 x2 h)
/-! SoapTreatyModel.between(III)I -/
def y_X12_between : MethodName := ⟨"SoapTreatyModel", "between", "(III)I"⟩
noncomputable def p_X12_between_0 : List (Nat × zO) := [(0, zo_iload 0 1),
  (1, zo_iload 1 2),
  (2, zo_cge 9 5),
  (5, zo_iload 1 6),
  (6, zo_goto 19),
  (9, zo_iload 0 10),
  (10, zo_iload 2 11),
  (11, zo_cle 18 14),
  (14, zo_iload 2 15),
  (15, zo_goto 19),
  (18, zo_iload 0 19),
  (19, zo_iret)]
noncomputable def p_X12_between : Nat → zO := zgs [(20, p_X12_between_0)]
theorem t_X12_between : ∀ k, zTl (p_X12_between k) := fun k => zgs_all (c := [(20, p_X12_between_0)]) (fun _ => zl_bad) ⟨⟨zl_iload, zl_iload, zl_cge, zl_iload, zl_goto, zl_iload, zl_iload, zl_cle, zl_iload, zl_goto, zl_iload, zl_iret, trivial⟩, trivial⟩ k
noncomputable def f_X12_between : zS := zrun p_X12_between 3
set_option maxRecDepth 20000 in
theorem s_X12_between_0 {l : Launch} {D : va_G} {ad : Nat → Nat → Nat} {cy : Nat → ClassId} {L : List (Nat × Nat)} (hcl : zclo L = true) (hinj : zAd ad L) {X : zCtx} (hX : zXok X "SoapTreatyModel" prog_14_method_4_code 3) (hR : zRt X (some .int)) (hl : zXl X l D ad cy L (zroom 1)) : zAllR (zSo X) p_X12_between_0 := ⟨zs_iload_n (i := 0) rfl hX (by decide +kernel : decode prog_14_method_4_code 0 = .ok (.iload_n 0, 1)) rfl (by decide),
  zs_iload_n (i := 1) rfl hX (by decide +kernel : decode prog_14_method_4_code 1 = .ok (.iload_n 1, 1)) rfl (by decide),
  zs_cge hX (by decide +kernel : decode prog_14_method_4_code 2 = .ok (.if_icmp .ge 7, 3)) (by decide) rfl,
  zs_iload_n (i := 1) rfl hX (by decide +kernel : decode prog_14_method_4_code 5 = .ok (.iload_n 1, 1)) rfl (by decide),
  zs_goto hX (by decide +kernel : decode prog_14_method_4_code 6 = .ok (.goto 13, 3)) (by decide),
  zs_iload_n (i := 0) rfl hX (by decide +kernel : decode prog_14_method_4_code 9 = .ok (.iload_n 0, 1)) rfl (by decide),
  zs_iload_n (i := 2) rfl hX (by decide +kernel : decode prog_14_method_4_code 10 = .ok (.iload_n 2, 1)) rfl (by decide),
  zs_cle hX (by decide +kernel : decode prog_14_method_4_code 11 = .ok (.if_icmp .le 7, 3)) (by decide) rfl,
  zs_iload_n (i := 2) rfl hX (by decide +kernel : decode prog_14_method_4_code 14 = .ok (.iload_n 2, 1)) rfl (by decide),
  zs_goto hX (by decide +kernel : decode prog_14_method_4_code 15 = .ok (.goto 4, 3)) (by decide),
  zs_iload_n (i := 0) rfl hX (by decide +kernel : decode prog_14_method_4_code 18 = .ok (.iload_n 0, 1)) rfl (by decide),
  zs_iret hX hR (by decide +kernel : decode prog_14_method_4_code 19 = .ok (.ireturn, 1)), trivial⟩
theorem k_X12_between {l : Launch} {D : va_G} {ad : Nat → Nat → Nat} {cy : Nat → ClassId} {L : List (Nat × Nat)} (hcl : zclo L = true) (hinj : zAd ad L) : zCk l D ad cy L 1 f_X12_between y_X12_between (.code y_X12_between prog_14_method_4_code 3 (some .int)) :=
  z_met (by decide) t_X12_between hcl hinj (fun X hX hR hl k => zgs_all (Q := zSo X) (c := [(20, p_X12_between_0)]) (fun _ => zs_bad) ⟨s_X12_between_0 hcl hinj hX hR hl, trivial⟩ k)
set_option maxRecDepth 1000000 in
theorem e_X12_between_0 (x0 : Int32) (x1 : Int32) (x2 : Int32) (h : zH) : zL p_X12_between 0 [some (.inl x0), some (.inl x1), some (.inl x2)] [] h = zf (x0 < x1) (some (some (.inl x1), h)) (zf (x2 < x0) (some (some (.inl x2), h)) (some (some (.inl x0), h))) := (zL_s (t_X12_between) [0] 1000 0 _ _ _).trans rfl
theorem g_X12_between (x0 : Int32) (x1 : Int32) (x2 : Int32) (h : zH) : f_X12_between [(.inl x0), (.inl x1), (.inl x2)] h = zf (x0 < x1) (some (some (.inl x1), h)) (zf (x2 < x0) (some (some (.inl x2), h)) (some (some (.inl x0), h))) := (show f_X12_between _ h = zL p_X12_between 0 _ [] h from rfl).trans (e_X12_between_0 x0 x1 x2 h)
/-! SoapTreatyModel.bits(I)I -/
def y_X12_bits : MethodName := ⟨"SoapTreatyModel", "bits", "(I)I"⟩
noncomputable def p_X12_bits_0 : List (Nat × zO) := [(0, zo_push (.inl 0) 1),
  (1, zo_istore 1 2),
  (2, zo_push (.inl 0) 3),
  (3, zo_istore 2 4),
  (4, zo_iload 2 5),
  (5, zo_push (.inl 7) 7),
  (7, zo_cge 24 10),
  (10, zo_iload 1 11),
  (11, zo_iload 0 12),
  (12, zo_iload 2 13),
  (13, zo_ii (fun x y => x >>> (y &&& 31)) 14),
  (14, zo_push (.inl 1) 15),
  (15, zo_ii (fun x y => x &&& y) 16),
  (16, zo_ii (fun x y => x + y) 17),
  (17, zo_istore 1 18),
  (18, zo_iinc 2 1 21),
  (21, zo_goto 4),
  (24, zo_iload 1 25),
  (25, zo_iret)]
noncomputable def p_X12_bits : Nat → zO := zgs [(26, p_X12_bits_0)]
theorem t_X12_bits : ∀ k, zTl (p_X12_bits k) := fun k => zgs_all (c := [(26, p_X12_bits_0)]) (fun _ => zl_bad) ⟨⟨zl_push, zl_istore, zl_push, zl_istore, zl_iload, zl_push, zl_cge, zl_iload, zl_iload, zl_iload, zl_ii, zl_push, zl_ii, zl_ii, zl_istore, zl_iinc, zl_goto, zl_iload, zl_iret, trivial⟩, trivial⟩ k
noncomputable def f_X12_bits : zS := zrun p_X12_bits 3
set_option maxRecDepth 20000 in
theorem s_X12_bits_0 {l : Launch} {D : va_G} {ad : Nat → Nat → Nat} {cy : Nat → ClassId} {L : List (Nat × Nat)} (hcl : zclo L = true) (hinj : zAd ad L) {X : zCtx} (hX : zXok X "SoapTreatyModel" prog_14_method_5_code 3) (hR : zRt X (some .int)) (hl : zXl X l D ad cy L (zroom 1)) : zAllR (zSo X) p_X12_bits_0 := ⟨zs_pushI (zg_iconst (by decide) hX (by decide +kernel : decode prog_14_method_5_code 0 = .ok (.iconst 0, 1)) rfl),
  zs_istore_n (i := 1) rfl hX (by decide +kernel : decode prog_14_method_5_code 1 = .ok (.istore_n 1, 1)) rfl (by decide),
  zs_pushI (zg_iconst (by decide) hX (by decide +kernel : decode prog_14_method_5_code 2 = .ok (.iconst 0, 1)) rfl),
  zs_istore_n (i := 2) rfl hX (by decide +kernel : decode prog_14_method_5_code 3 = .ok (.istore_n 2, 1)) rfl (by decide),
  zs_iload_n (i := 2) rfl hX (by decide +kernel : decode prog_14_method_5_code 4 = .ok (.iload_n 2, 1)) rfl (by decide),
  zs_pushI (zg_bipush (by decide) hX (by decide +kernel : decode prog_14_method_5_code 5 = .ok (.bipush 7, 2)) rfl),
  zs_cge hX (by decide +kernel : decode prog_14_method_5_code 7 = .ok (.if_icmp .ge 17, 3)) (by decide) rfl,
  zs_iload_n (i := 1) rfl hX (by decide +kernel : decode prog_14_method_5_code 10 = .ok (.iload_n 1, 1)) rfl (by decide),
  zs_iload_n (i := 0) rfl hX (by decide +kernel : decode prog_14_method_5_code 11 = .ok (.iload_n 0, 1)) rfl (by decide),
  zs_iload_n (i := 2) rfl hX (by decide +kernel : decode prog_14_method_5_code 12 = .ok (.iload_n 2, 1)) rfl (by decide),
  zs_ii (zg_ishr hX (by decide +kernel : decode prog_14_method_5_code 13 = .ok (.ishr, 1)) rfl),
  zs_pushI (zg_iconst (by decide) hX (by decide +kernel : decode prog_14_method_5_code 14 = .ok (.iconst 1, 1)) rfl),
  zs_ii (zg_iand hX (by decide +kernel : decode prog_14_method_5_code 15 = .ok (.iand, 1)) rfl),
  zs_ii (zg_iadd hX (by decide +kernel : decode prog_14_method_5_code 16 = .ok (.iadd, 1)) rfl),
  zs_istore_n (i := 1) rfl hX (by decide +kernel : decode prog_14_method_5_code 17 = .ok (.istore_n 1, 1)) rfl (by decide),
  zs_iinc hX (by decide +kernel : decode prog_14_method_5_code 18 = .ok (.iinc 2 1, 3)) (by decide) rfl (by decide),
  zs_goto hX (by decide +kernel : decode prog_14_method_5_code 21 = .ok (.goto (-17), 3)) (by decide),
  zs_iload_n (i := 1) rfl hX (by decide +kernel : decode prog_14_method_5_code 24 = .ok (.iload_n 1, 1)) rfl (by decide),
  zs_iret hX hR (by decide +kernel : decode prog_14_method_5_code 25 = .ok (.ireturn, 1)), trivial⟩
theorem k_X12_bits {l : Launch} {D : va_G} {ad : Nat → Nat → Nat} {cy : Nat → ClassId} {L : List (Nat × Nat)} (hcl : zclo L = true) (hinj : zAd ad L) : zCk l D ad cy L 1 f_X12_bits y_X12_bits (.code y_X12_bits prog_14_method_5_code 3 (some .int)) :=
  z_met (by decide) t_X12_bits hcl hinj (fun X hX hR hl k => zgs_all (Q := zSo X) (c := [(26, p_X12_bits_0)]) (fun _ => zs_bad) ⟨s_X12_bits_0 hcl hinj hX hR hl, trivial⟩ k)
set_option maxRecDepth 1000000 in
theorem e_X12_bits_0 (x0 : Int32) (h : zH) : zL p_X12_bits 0 [some (.inl x0), none, none] [] h = zL p_X12_bits 4 [some (.inl x0), some (.inl 0), some (.inl 0)] [] h := (zL_s (t_X12_bits) [0, 4] 1000 0 _ _ _).trans rfl
theorem g_X12_bits (x0 : Int32) (h : zH) : f_X12_bits [(.inl x0)] h = zL p_X12_bits 4 [some (.inl x0), some (.inl 0), some (.inl 0)] [] h := (show f_X12_bits _ h = zL p_X12_bits 0 _ [] h from rfl).trans (e_X12_bits_0 x0 h)
set_option maxRecDepth 1000000 in
theorem e_X12_bits_4 (x0 : Int32) (x1 : Int32) (x2 : Int32) (h : zH) : zL p_X12_bits 4 [some (.inl x0), some (.inl x1), some (.inl x2)] [] h = zf (x2 < 7) (zL p_X12_bits 4 [some (.inl x0), some (.inl (x1 + ((x0 >>> (x2 &&& 31)) &&& (1 : Int32)))), some (.inl (x2 + 1))] [] h) (some (some (.inl x1), h)) := (zL_s (t_X12_bits) [0, 4] 1000 4 _ _ _).trans rfl
/-! SoapTreatyModel.feed(JJJ)I -/
def y_X12_feed : MethodName := ⟨"SoapTreatyModel", "feed", "(JJJ)I"⟩
noncomputable def p_X12_feed_0 : List (Nat × zO) := [(0, zo_aload 0 1),
  (1, zo_push (.inl 0) 2),
  (2, zo_putI 12 0 5),
  (5, zo_push (.inl 0) 6),
  (6, zo_istore 7 8),
  (8, zo_kill [2, 4, 6, 8, 9, 10] (zo_iload 7 10)),
  (10, zo_push (.inl 24) 12),
  (12, zo_cge 120 15),
  (15, zo_iload 7 17),
  (17, zo_push (.inl 8) 19),
  (19, zo_cge 26 22),
  (22, zo_lload 1 23),
  (23, zo_goto 39),
  (26, zo_iload 7 28),
  (28, zo_push (.inl 16) 30),
  (30, zo_cge 37 33),
  (33, zo_lload 3 34),
  (34, zo_goto 39),
  (37, zo_lload 5 39),
  (39, zo_kill [2, 4, 6, 8, 9, 10] (zo_lstore 8 41))]
noncomputable def p_X12_feed_1 : List (Nat × zO) := [(41, zo_lload 8 43),
  (43, zo_push (.inl 56) 45),
  (45, zo_push (.inl 8) 47),
  (47, zo_iload 7 49),
  (49, zo_push (.inl 7) 51),
  (51, zo_ii (fun x y => x &&& y) 52),
  (52, zo_ii (fun x y => x * y) 53),
  (53, zo_ii (fun x y => x - y) 54),
  (54, zo_li (fun x y => (x.toUInt64 >>> (y.toInt64.toUInt64 &&& Int64.toUInt64 63)).toInt64) 55),
  (55, zo_push (.inr (.inl 255)) 58),
  (58, zo_ll (fun x y => x &&& y) 59),
  (59, zo_l2i 60),
  (60, zo_istore 10 62),
  (62, zo_aload 0 63),
  (63, zo_getI 12 1 66),
  (66, zo_push (.inl 1000) 69),
  (69, zo_cge 114 72),
  (72, zo_iload 10 74),
  (74, zo_push (.inl 10) 76),
  (76, zo_ceq 93 79)]
noncomputable def p_X12_feed_2 : List (Nat × zO) := [(79, zo_iload 10 81),
  (81, zo_push (.inl 32) 83),
  (83, zo_clt 114 86),
  (86, zo_iload 10 88),
  (88, zo_push (.inl 126) 90),
  (90, zo_cgt 114 93),
  (93, zo_kill [2, 4, 6, 8, 9] (zo_aload 0 94)),
  (94, zo_getR 12 38 none 97),
  (97, zo_aload 0 98),
  (98, zo_getI 12 1 101),
  (101, zo_iload 10 103),
  (103, zo_iast 104),
  (104, zo_aload 0 105),
  (105, zo_dup 106),
  (106, zo_getI 12 1 109),
  (109, zo_push (.inl 1) 110),
  (110, zo_ii (fun x y => x + y) 111),
  (111, zo_putI 12 1 114),
  (114, zo_iinc 7 1 117),
  (117, zo_goto 8)]
noncomputable def p_X12_feed_3 : List (Nat × zO) := [(120, zo_aload 0 121),
  (121, zo_getI 12 1 124),
  (124, zo_iret)]
noncomputable def p_X12_feed : Nat → zO := zgs [(40, p_X12_feed_0), (77, p_X12_feed_1), (118, p_X12_feed_2), (125, p_X12_feed_3)]
theorem t_X12_feed : ∀ k, zTl (p_X12_feed k) := fun k => zgs_all (c := [(40, p_X12_feed_0), (77, p_X12_feed_1), (118, p_X12_feed_2), (125, p_X12_feed_3)]) (fun _ => zl_bad) ⟨⟨zl_aload, zl_push, zl_putI, zl_push, zl_istore, (zl_kill zl_iload), zl_push, zl_cge, zl_iload, zl_push, zl_cge, zl_lload, zl_goto, zl_iload, zl_push, zl_cge, zl_lload, zl_goto, zl_lload, (zl_kill zl_lstore), trivial⟩, ⟨zl_lload, zl_push, zl_push, zl_iload, zl_push, zl_ii, zl_ii, zl_ii, zl_li, zl_push, zl_ll, zl_l2i, zl_istore, zl_aload, zl_getI, zl_push, zl_cge, zl_iload, zl_push, zl_ceq, trivial⟩, ⟨zl_iload, zl_push, zl_clt, zl_iload, zl_push, zl_cgt, (zl_kill zl_aload), zl_getR, zl_aload, zl_getI, zl_iload, zl_iast, zl_aload, zl_dup, zl_getI, zl_push, zl_ii, zl_putI, zl_iinc, zl_goto, trivial⟩, ⟨zl_aload, zl_getI, zl_iret, trivial⟩, trivial⟩ k
noncomputable def f_X12_feed : zS := zrun p_X12_feed 11
set_option maxRecDepth 20000 in
theorem s_X12_feed_0 {l : Launch} {D : va_G} {ad : Nat → Nat → Nat} {cy : Nat → ClassId} {L : List (Nat × Nat)} (hcl : zclo L = true) (hinj : zAd ad L) {X : zCtx} (hX : zXok X "SoapTreatyModel" prog_14_method_6_code 11) (hR : zRt X (some .int)) (hl : zXl X l D ad cy L (zroom 1)) : zAllR (zSo X) p_X12_feed_0 := ⟨zs_aload_n (i := 0) rfl hX (by decide +kernel : decode prog_14_method_6_code 0 = .ok (.aload_n 0, 1)) rfl (by decide),
  zs_pushI (zg_iconst (by decide) hX (by decide +kernel : decode prog_14_method_6_code 1 = .ok (.iconst 0, 1)) rfl),
  zs_putI hX zFP_12_139 (by decide +kernel : decode prog_14_method_6_code 2 = .ok (.putfield 139, 3)) rfl,
  zs_pushI (zg_iconst (by decide) hX (by decide +kernel : decode prog_14_method_6_code 5 = .ok (.iconst 0, 1)) rfl),
  zs_istore hX (by decide +kernel : decode prog_14_method_6_code 6 = .ok (.istore 7, 2)) rfl (by decide),
  zs_kill hX (by decide) (zs_iload hX (by decide +kernel : decode prog_14_method_6_code 8 = .ok (.iload 7, 2)) rfl (by decide)),
  zs_pushI (zg_bipush (by decide) hX (by decide +kernel : decode prog_14_method_6_code 10 = .ok (.bipush 24, 2)) rfl),
  zs_cge hX (by decide +kernel : decode prog_14_method_6_code 12 = .ok (.if_icmp .ge 108, 3)) (by decide) rfl,
  zs_iload hX (by decide +kernel : decode prog_14_method_6_code 15 = .ok (.iload 7, 2)) rfl (by decide),
  zs_pushI (zg_bipush (by decide) hX (by decide +kernel : decode prog_14_method_6_code 17 = .ok (.bipush 8, 2)) rfl),
  zs_cge hX (by decide +kernel : decode prog_14_method_6_code 19 = .ok (.if_icmp .ge 7, 3)) (by decide) rfl,
  zs_lload_n (i := 1) rfl hX (by decide +kernel : decode prog_14_method_6_code 22 = .ok (.lload_n 1, 1)) rfl (by decide),
  zs_goto hX (by decide +kernel : decode prog_14_method_6_code 23 = .ok (.goto 16, 3)) (by decide),
  zs_iload hX (by decide +kernel : decode prog_14_method_6_code 26 = .ok (.iload 7, 2)) rfl (by decide),
  zs_pushI (zg_bipush (by decide) hX (by decide +kernel : decode prog_14_method_6_code 28 = .ok (.bipush 16, 2)) rfl),
  zs_cge hX (by decide +kernel : decode prog_14_method_6_code 30 = .ok (.if_icmp .ge 7, 3)) (by decide) rfl,
  zs_lload_n (i := 3) rfl hX (by decide +kernel : decode prog_14_method_6_code 33 = .ok (.lload_n 3, 1)) rfl (by decide),
  zs_goto hX (by decide +kernel : decode prog_14_method_6_code 34 = .ok (.goto 5, 3)) (by decide),
  zs_lload hX (by decide +kernel : decode prog_14_method_6_code 37 = .ok (.lload 5, 2)) rfl (by decide),
  zs_kill hX (by decide) (zs_lstore hX (by decide +kernel : decode prog_14_method_6_code 39 = .ok (.lstore 8, 2)) rfl (by decide)), trivial⟩
set_option maxRecDepth 20000 in
theorem s_X12_feed_1 {l : Launch} {D : va_G} {ad : Nat → Nat → Nat} {cy : Nat → ClassId} {L : List (Nat × Nat)} (hcl : zclo L = true) (hinj : zAd ad L) {X : zCtx} (hX : zXok X "SoapTreatyModel" prog_14_method_6_code 11) (hR : zRt X (some .int)) (hl : zXl X l D ad cy L (zroom 1)) : zAllR (zSo X) p_X12_feed_1 := ⟨zs_lload hX (by decide +kernel : decode prog_14_method_6_code 41 = .ok (.lload 8, 2)) rfl (by decide),
  zs_pushI (zg_bipush (by decide) hX (by decide +kernel : decode prog_14_method_6_code 43 = .ok (.bipush 56, 2)) rfl),
  zs_pushI (zg_bipush (by decide) hX (by decide +kernel : decode prog_14_method_6_code 45 = .ok (.bipush 8, 2)) rfl),
  zs_iload hX (by decide +kernel : decode prog_14_method_6_code 47 = .ok (.iload 7, 2)) rfl (by decide),
  zs_pushI (zg_bipush (by decide) hX (by decide +kernel : decode prog_14_method_6_code 49 = .ok (.bipush 7, 2)) rfl),
  zs_ii (zg_iand hX (by decide +kernel : decode prog_14_method_6_code 51 = .ok (.iand, 1)) rfl),
  zs_ii (zg_imul hX (by decide +kernel : decode prog_14_method_6_code 52 = .ok (.imul, 1)) rfl),
  zs_ii (zg_isub hX (by decide +kernel : decode prog_14_method_6_code 53 = .ok (.isub, 1)) rfl),
  zs_li (zg_lushr hX (by decide +kernel : decode prog_14_method_6_code 54 = .ok (.lushr, 1)) rfl),
  zs_pushJ (zg_ldc2 (zT_of 1376 (by decide +kernel) (by decide +kernel)) hX (by decide +kernel : decode prog_14_method_6_code 55 = .ok (.ldc2_w 143, 3)) rfl),
  zs_ll (zg_land hX (by decide +kernel : decode prog_14_method_6_code 58 = .ok (.land, 1)) rfl),
  zs_l2i_ (zg_l2i hX (by decide +kernel : decode prog_14_method_6_code 59 = .ok (.l2i, 1)) rfl),
  zs_istore hX (by decide +kernel : decode prog_14_method_6_code 60 = .ok (.istore 10, 2)) rfl (by decide),
  zs_aload_n (i := 0) rfl hX (by decide +kernel : decode prog_14_method_6_code 62 = .ok (.aload_n 0, 1)) rfl (by decide),
  zs_getI hX zFL_12_145 (by decide) (by decide) (by decide +kernel : decode prog_14_method_6_code 63 = .ok (.getfield 145, 3)) rfl,
  zs_pushI (zg_sipush (by decide) hX (by decide +kernel : decode prog_14_method_6_code 66 = .ok (.sipush 1000, 3)) rfl),
  zs_cge hX (by decide +kernel : decode prog_14_method_6_code 69 = .ok (.if_icmp .ge 45, 3)) (by decide) rfl,
  zs_iload hX (by decide +kernel : decode prog_14_method_6_code 72 = .ok (.iload 10, 2)) rfl (by decide),
  zs_pushI (zg_bipush (by decide) hX (by decide +kernel : decode prog_14_method_6_code 74 = .ok (.bipush 10, 2)) rfl),
  zs_ceq hX (by decide +kernel : decode prog_14_method_6_code 76 = .ok (.if_icmp .eq 17, 3)) (by decide) rfl, trivial⟩
set_option maxRecDepth 20000 in
theorem s_X12_feed_2 {l : Launch} {D : va_G} {ad : Nat → Nat → Nat} {cy : Nat → ClassId} {L : List (Nat × Nat)} (hcl : zclo L = true) (hinj : zAd ad L) {X : zCtx} (hX : zXok X "SoapTreatyModel" prog_14_method_6_code 11) (hR : zRt X (some .int)) (hl : zXl X l D ad cy L (zroom 1)) : zAllR (zSo X) p_X12_feed_2 := ⟨zs_iload hX (by decide +kernel : decode prog_14_method_6_code 79 = .ok (.iload 10, 2)) rfl (by decide),
  zs_pushI (zg_bipush (by decide) hX (by decide +kernel : decode prog_14_method_6_code 81 = .ok (.bipush 32, 2)) rfl),
  zs_clt hX (by decide +kernel : decode prog_14_method_6_code 83 = .ok (.if_icmp .lt 31, 3)) (by decide) rfl,
  zs_iload hX (by decide +kernel : decode prog_14_method_6_code 86 = .ok (.iload 10, 2)) rfl (by decide),
  zs_pushI (zg_bipush (by decide) hX (by decide +kernel : decode prog_14_method_6_code 88 = .ok (.bipush 126, 2)) rfl),
  zs_cgt hX (by decide +kernel : decode prog_14_method_6_code 90 = .ok (.if_icmp .gt 24, 3)) (by decide) rfl,
  zs_kill hX (by decide) (zs_aload_n (i := 0) rfl hX (by decide +kernel : decode prog_14_method_6_code 93 = .ok (.aload_n 0, 1)) rfl (by decide)),
  zs_getR hX zFL_12_7 (by decide +kernel : decode prog_14_method_6_code 94 = .ok (.getfield 7, 3)) rfl,
  zs_aload_n (i := 0) rfl hX (by decide +kernel : decode prog_14_method_6_code 97 = .ok (.aload_n 0, 1)) rfl (by decide),
  zs_getI hX zFL_12_145 (by decide) (by decide) (by decide +kernel : decode prog_14_method_6_code 98 = .ok (.getfield 145, 3)) rfl,
  zs_iload hX (by decide +kernel : decode prog_14_method_6_code 101 = .ok (.iload 10, 2)) rfl (by decide),
  zs_iast hX (by decide +kernel : decode prog_14_method_6_code 103 = .ok (.iastore, 1)) rfl,
  zs_aload_n (i := 0) rfl hX (by decide +kernel : decode prog_14_method_6_code 104 = .ok (.aload_n 0, 1)) rfl (by decide),
  zs_dup hX (by decide +kernel : decode prog_14_method_6_code 105 = .ok (.dup, 1)) rfl,
  zs_getI hX zFL_12_145 (by decide) (by decide) (by decide +kernel : decode prog_14_method_6_code 106 = .ok (.getfield 145, 3)) rfl,
  zs_pushI (zg_iconst (by decide) hX (by decide +kernel : decode prog_14_method_6_code 109 = .ok (.iconst 1, 1)) rfl),
  zs_ii (zg_iadd hX (by decide +kernel : decode prog_14_method_6_code 110 = .ok (.iadd, 1)) rfl),
  zs_putI hX zFP_12_145 (by decide +kernel : decode prog_14_method_6_code 111 = .ok (.putfield 145, 3)) rfl,
  zs_iinc hX (by decide +kernel : decode prog_14_method_6_code 114 = .ok (.iinc 7 1, 3)) (by decide) rfl (by decide),
  zs_goto hX (by decide +kernel : decode prog_14_method_6_code 117 = .ok (.goto (-109), 3)) (by decide), trivial⟩
set_option maxRecDepth 20000 in
theorem s_X12_feed_3 {l : Launch} {D : va_G} {ad : Nat → Nat → Nat} {cy : Nat → ClassId} {L : List (Nat × Nat)} (hcl : zclo L = true) (hinj : zAd ad L) {X : zCtx} (hX : zXok X "SoapTreatyModel" prog_14_method_6_code 11) (hR : zRt X (some .int)) (hl : zXl X l D ad cy L (zroom 1)) : zAllR (zSo X) p_X12_feed_3 := ⟨zs_aload_n (i := 0) rfl hX (by decide +kernel : decode prog_14_method_6_code 120 = .ok (.aload_n 0, 1)) rfl (by decide),
  zs_getI hX zFL_12_145 (by decide) (by decide) (by decide +kernel : decode prog_14_method_6_code 121 = .ok (.getfield 145, 3)) rfl,
  zs_iret hX hR (by decide +kernel : decode prog_14_method_6_code 124 = .ok (.ireturn, 1)), trivial⟩
theorem k_X12_feed {l : Launch} {D : va_G} {ad : Nat → Nat → Nat} {cy : Nat → ClassId} {L : List (Nat × Nat)} (hcl : zclo L = true) (hinj : zAd ad L) : zCk l D ad cy L 1 f_X12_feed y_X12_feed (.code y_X12_feed prog_14_method_6_code 11 (some .int)) :=
  z_met (by decide) t_X12_feed hcl hinj (fun X hX hR hl k => zgs_all (Q := zSo X) (c := [(40, p_X12_feed_0), (77, p_X12_feed_1), (118, p_X12_feed_2), (125, p_X12_feed_3)]) (fun _ => zs_bad) ⟨s_X12_feed_0 hcl hinj hX hR hl, s_X12_feed_1 hcl hinj hX hR hl, s_X12_feed_2 hcl hinj hX hR hl, s_X12_feed_3 hcl hinj hX hR hl, trivial⟩ k)
set_option maxRecDepth 1000000 in
theorem e_X12_feed_0 (x1 : Int64) (x3 : Int64) (x5 : Int64) (h : zH) : zL p_X12_feed 0 [some (.inr (.inr (12, 0))), some (.inr (.inl x1)), none, some (.inr (.inl x3)), none, some (.inr (.inl x5)), none, none, none, none, none] [] h = zL p_X12_feed 8 [some (.inr (.inr (12, 0))), some (.inr (.inl x1)), none, some (.inr (.inl x3)), none, some (.inr (.inl x5)), none, some (.inl 0), none, none, none] [] (zuI h 12 0 0 0) := (zL_s (t_X12_feed) [0, 8, 39, 93] 1000 0 _ _ _).trans rfl
theorem g_X12_feed (x1 : Int64) (x3 : Int64) (x5 : Int64) (h : zH) : f_X12_feed [(.inr (.inr (12, 0))), (.inr (.inl x1)), (.inr (.inl x3)), (.inr (.inl x5))] h = zL p_X12_feed 8 [some (.inr (.inr (12, 0))), some (.inr (.inl x1)), none, some (.inr (.inl x3)), none, some (.inr (.inl x5)), none, some (.inl 0), none, none, none] [] (zuI h 12 0 0 0) := (show f_X12_feed _ h = zL p_X12_feed 0 _ [] h from rfl).trans (e_X12_feed_0 x1 x3 x5 h)
set_option maxRecDepth 1000000 in
theorem e_X12_feed_8 (x1 : Int64) (o2 : Option zV) (x3 : Int64) (o4 : Option zV) (x5 : Int64) (o6 : Option zV) (x7 : Int32) (o8 : Option zV) (o9 : Option zV) (o10 : Option zV) (h : zH) : zL p_X12_feed 8 [some (.inr (.inr (12, 0))), some (.inr (.inl x1)), o2, some (.inr (.inl x3)), o4, some (.inr (.inl x5)), o6, some (.inl x7), o8, o9, o10] [] h = zf (x7 < 24) (zf (x7 < 8) (zL p_X12_feed 39 [some (.inr (.inr (12, 0))), some (.inr (.inl x1)), none, some (.inr (.inl x3)), none, some (.inr (.inl x5)), none, some (.inl x7), none, none, none] [(.inr (.inl x1))] h) (zf (x7 < 16) (zL p_X12_feed 39 [some (.inr (.inr (12, 0))), some (.inr (.inl x1)), none, some (.inr (.inl x3)), none, some (.inr (.inl x5)), none, some (.inl x7), none, none, none] [(.inr (.inl x3))] h) (zL p_X12_feed 39 [some (.inr (.inr (12, 0))), some (.inr (.inl x1)), none, some (.inr (.inl x3)), none, some (.inr (.inl x5)), none, some (.inl x7), none, none, none] [(.inr (.inl x5))] h))) (some (some (.inl (h.1 12 0 1)), h)) := (zL_s (t_X12_feed) [0, 8, 39, 93] 1000 8 _ _ _).trans rfl
set_option maxRecDepth 1000000 in
theorem e_X12_feed_39 (x1 : Int64) (o2 : Option zV) (x3 : Int64) (o4 : Option zV) (x5 : Int64) (o6 : Option zV) (x7 : Int32) (o8 : Option zV) (o9 : Option zV) (o10 : Option zV) (s0 : Int64) (h : zH) : zL p_X12_feed 39 [some (.inr (.inr (12, 0))), some (.inr (.inl x1)), o2, some (.inr (.inl x3)), o4, some (.inr (.inl x5)), o6, some (.inl x7), o8, o9, o10] [(.inr (.inl s0))] h = zf ((h.1 12 0 1) < 1000) (zf (((((s0.toUInt64 >>> (((56 : Int32) - ((8 : Int32) * (x7 &&& (7 : Int32)))).toInt64.toUInt64 &&& Int64.toUInt64 63)).toInt64) &&& (255 : Int64)).toInt32) = 10) (zL p_X12_feed 93 [some (.inr (.inr (12, 0))), some (.inr (.inl x1)), none, some (.inr (.inl x3)), none, some (.inr (.inl x5)), none, some (.inl x7), some (.inr (.inl s0)), none, some (.inl ((((s0.toUInt64 >>> (((56 : Int32) - ((8 : Int32) * (x7 &&& (7 : Int32)))).toInt64.toUInt64 &&& Int64.toUInt64 63)).toInt64) &&& (255 : Int64)).toInt32))] [] h) (zf (((((s0.toUInt64 >>> (((56 : Int32) - ((8 : Int32) * (x7 &&& (7 : Int32)))).toInt64.toUInt64 &&& Int64.toUInt64 63)).toInt64) &&& (255 : Int64)).toInt32) < 32) (zL p_X12_feed 8 [some (.inr (.inr (12, 0))), some (.inr (.inl x1)), none, some (.inr (.inl x3)), none, some (.inr (.inl x5)), none, some (.inl (x7 + 1)), some (.inr (.inl s0)), none, some (.inl ((((s0.toUInt64 >>> (((56 : Int32) - ((8 : Int32) * (x7 &&& (7 : Int32)))).toInt64.toUInt64 &&& Int64.toUInt64 63)).toInt64) &&& (255 : Int64)).toInt32))] [] h) (zf (126 < ((((s0.toUInt64 >>> (((56 : Int32) - ((8 : Int32) * (x7 &&& (7 : Int32)))).toInt64.toUInt64 &&& Int64.toUInt64 63)).toInt64) &&& (255 : Int64)).toInt32)) (zL p_X12_feed 8 [some (.inr (.inr (12, 0))), some (.inr (.inl x1)), none, some (.inr (.inl x3)), none, some (.inr (.inl x5)), none, some (.inl (x7 + 1)), some (.inr (.inl s0)), none, some (.inl ((((s0.toUInt64 >>> (((56 : Int32) - ((8 : Int32) * (x7 &&& (7 : Int32)))).toInt64.toUInt64 &&& Int64.toUInt64 63)).toInt64) &&& (255 : Int64)).toInt32))] [] h) (zL p_X12_feed 93 [some (.inr (.inr (12, 0))), some (.inr (.inl x1)), none, some (.inr (.inl x3)), none, some (.inr (.inl x5)), none, some (.inl x7), some (.inr (.inl s0)), none, some (.inl ((((s0.toUInt64 >>> (((56 : Int32) - ((8 : Int32) * (x7 &&& (7 : Int32)))).toInt64.toUInt64 &&& Int64.toUInt64 63)).toInt64) &&& (255 : Int64)).toInt32))] [] h)))) (zL p_X12_feed 8 [some (.inr (.inr (12, 0))), some (.inr (.inl x1)), none, some (.inr (.inl x3)), none, some (.inr (.inl x5)), none, some (.inl (x7 + 1)), some (.inr (.inl s0)), none, some (.inl ((((s0.toUInt64 >>> (((56 : Int32) - ((8 : Int32) * (x7 &&& (7 : Int32)))).toInt64.toUInt64 &&& Int64.toUInt64 63)).toInt64) &&& (255 : Int64)).toInt32))] [] h) := (zL_s (t_X12_feed) [0, 8, 39, 93] 1000 39 _ _ _).trans rfl
set_option maxRecDepth 1000000 in
theorem e_X12_feed_93 (x1 : Int64) (o2 : Option zV) (x3 : Int64) (o4 : Option zV) (x5 : Int64) (o6 : Option zV) (x7 : Int32) (o8 : Option zV) (o9 : Option zV) (x10 : Int32) (h : zH) : zL p_X12_feed 93 [some (.inr (.inr (12, 0))), some (.inr (.inl x1)), o2, some (.inr (.inl x3)), o4, some (.inr (.inl x5)), o6, some (.inl x7), o8, o9, some (.inl x10)] [] h = zf (vp_in (h.1 12 0 1) 1000) (zL p_X12_feed 8 [some (.inr (.inr (12, 0))), some (.inr (.inl x1)), none, some (.inr (.inl x3)), none, some (.inr (.inl x5)), none, some (.inl (x7 + 1)), none, none, some (.inl x10)] [] (zuI (zuI h 38 0 (h.1 12 0 1).toNatClampNeg x10) 12 0 1 ((h.1 12 0 1) + (1 : Int32)))) none := (zL_s (t_X12_feed) [0, 8, 39, 93] 1000 93 _ _ _).trans rfl
/-! SoapTreatyModel.signAt(I)I -/
def y_X12_signAt : MethodName := ⟨"SoapTreatyModel", "signAt", "(I)I"⟩
noncomputable def p_X12_signAt_0 : List (Nat × zO) := [(0, zo_iload 1 1),
  (1, zo_aload 0 2),
  (2, zo_getI 12 3 5),
  (5, zo_cge 17 8),
  (8, zo_aload 0 9),
  (9, zo_getR 12 38 none 12),
  (12, zo_iload 1 13),
  (13, zo_iald 14),
  (14, zo_goto 18),
  (17, zo_push (.inl 0) 18),
  (18, zo_iret)]
noncomputable def p_X12_signAt : Nat → zO := zgs [(19, p_X12_signAt_0)]
theorem t_X12_signAt : ∀ k, zTl (p_X12_signAt k) := fun k => zgs_all (c := [(19, p_X12_signAt_0)]) (fun _ => zl_bad) ⟨⟨zl_iload, zl_aload, zl_getI, zl_cge, zl_aload, zl_getR, zl_iload, zl_iald, zl_goto, zl_push, zl_iret, trivial⟩, trivial⟩ k
noncomputable def f_X12_signAt : zS := zrun p_X12_signAt 2
set_option maxRecDepth 20000 in
theorem s_X12_signAt_0 {l : Launch} {D : va_G} {ad : Nat → Nat → Nat} {cy : Nat → ClassId} {L : List (Nat × Nat)} (hcl : zclo L = true) (hinj : zAd ad L) {X : zCtx} (hX : zXok X "SoapTreatyModel" prog_14_method_7_code 2) (hR : zRt X (some .int)) (hl : zXl X l D ad cy L (zroom 1)) : zAllR (zSo X) p_X12_signAt_0 := ⟨zs_iload_n (i := 1) rfl hX (by decide +kernel : decode prog_14_method_7_code 0 = .ok (.iload_n 1, 1)) rfl (by decide),
  zs_aload_n (i := 0) rfl hX (by decide +kernel : decode prog_14_method_7_code 1 = .ok (.aload_n 0, 1)) rfl (by decide),
  zs_getI hX zFL_12_148 (by decide) (by decide) (by decide +kernel : decode prog_14_method_7_code 2 = .ok (.getfield 148, 3)) rfl,
  zs_cge hX (by decide +kernel : decode prog_14_method_7_code 5 = .ok (.if_icmp .ge 12, 3)) (by decide) rfl,
  zs_aload_n (i := 0) rfl hX (by decide +kernel : decode prog_14_method_7_code 8 = .ok (.aload_n 0, 1)) rfl (by decide),
  zs_getR hX zFL_12_7 (by decide +kernel : decode prog_14_method_7_code 9 = .ok (.getfield 7, 3)) rfl,
  zs_iload_n (i := 1) rfl hX (by decide +kernel : decode prog_14_method_7_code 12 = .ok (.iload_n 1, 1)) rfl (by decide),
  zs_iald hX (by decide +kernel : decode prog_14_method_7_code 13 = .ok (.iaload, 1)) rfl,
  zs_goto hX (by decide +kernel : decode prog_14_method_7_code 14 = .ok (.goto 4, 3)) (by decide),
  zs_pushI (zg_iconst (by decide) hX (by decide +kernel : decode prog_14_method_7_code 17 = .ok (.iconst 0, 1)) rfl),
  zs_iret hX hR (by decide +kernel : decode prog_14_method_7_code 18 = .ok (.ireturn, 1)), trivial⟩
theorem k_X12_signAt {l : Launch} {D : va_G} {ad : Nat → Nat → Nat} {cy : Nat → ClassId} {L : List (Nat × Nat)} (hcl : zclo L = true) (hinj : zAd ad L) : zCk l D ad cy L 1 f_X12_signAt y_X12_signAt (.code y_X12_signAt prog_14_method_7_code 2 (some .int)) :=
  z_met (by decide) t_X12_signAt hcl hinj (fun X hX hR hl k => zgs_all (Q := zSo X) (c := [(19, p_X12_signAt_0)]) (fun _ => zs_bad) ⟨s_X12_signAt_0 hcl hinj hX hR hl, trivial⟩ k)
set_option maxRecDepth 1000000 in
theorem e_X12_signAt_0 (x1 : Int32) (h : zH) : zL p_X12_signAt 0 [some (.inr (.inr (12, 0))), some (.inl x1)] [] h = zf (x1 < (h.1 12 0 3)) (zf (vp_in x1 1000) (some (some (.inl (h.1 38 0 x1.toNatClampNeg)), h)) none) (some (some (.inl 0), h)) := (zL_s (t_X12_signAt) [0] 1000 0 _ _ _).trans rfl
theorem g_X12_signAt (x1 : Int32) (h : zH) : f_X12_signAt [(.inr (.inr (12, 0))), (.inl x1)] h = zf (x1 < (h.1 12 0 3)) (zf (vp_in x1 1000) (some (some (.inl (h.1 38 0 x1.toNatClampNeg)), h)) none) (some (some (.inl 0), h)) := (show f_X12_signAt _ h = zL p_X12_signAt 0 _ [] h from rfl).trans (e_X12_signAt_0 x1 h)
theorem zMV_12_167 : zMV "SoapTreatyModel" 167 12 y_X12_signAt prog_14_method_7_code 2 (some .int) 1 := ⟨⟨zT_of 1393 (by decide +kernel) (by decide +kernel), zT_of 1395 (by decide +kernel) (by decide +kernel), zT_of 36 (by decide +kernel) (by decide +kernel), zT_of 118 (by decide +kernel) (by decide +kernel), zT_of 1396 (by decide +kernel) (by decide +kernel)⟩, by decide, rfl, ⟨zT12, 57, rfl⟩, by decide, by decide, by decide +kernel⟩
/-! SoapTreatyModel.nextToken()V -/
def y_X12_nextToken : MethodName := ⟨"SoapTreatyModel", "nextToken", "()V"⟩
noncomputable def p_X12_nextToken_0 : List (Nat × zO) := [(0, zo_kill [1] (zo_aload 0 1)),
  (1, zo_getI 12 4 4),
  (4, zo_aload 0 5),
  (5, zo_getI 12 3 8),
  (8, zo_cge 52 11),
  (11, zo_aload 0 12),
  (12, zo_getR 12 38 none 15),
  (15, zo_aload 0 16),
  (16, zo_getI 12 4 19),
  (19, zo_iald 20),
  (20, zo_push (.inl 32) 22),
  (22, zo_ceq 39 25),
  (25, zo_aload 0 26),
  (26, zo_getR 12 38 none 29),
  (29, zo_aload 0 30),
  (30, zo_getI 12 4 33),
  (33, zo_iald 34),
  (34, zo_push (.inl 10) 36),
  (36, zo_cne 52 39),
  (39, zo_aload 0 40)]
noncomputable def p_X12_nextToken_1 : List (Nat × zO) := [(40, zo_dup 41),
  (41, zo_getI 12 4 44),
  (44, zo_push (.inl 1) 45),
  (45, zo_ii (fun x y => x + y) 46),
  (46, zo_putI 12 4 49),
  (49, zo_goto 0),
  (52, zo_kill [1] (zo_aload 0 53)),
  (53, zo_aload 0 54),
  (54, zo_getI 12 4 57),
  (57, zo_putI 12 5 60),
  (60, zo_aload 0 61),
  (61, zo_push (.inr (.inl 0)) 62),
  (62, zo_putJ 12 7 65),
  (65, zo_aload 0 66),
  (66, zo_push (.inl 0) 67),
  (67, zo_putI 12 8 70),
  (70, zo_aload 0 71),
  (71, zo_getI 12 4 74),
  (74, zo_aload 0 75),
  (75, zo_getI 12 3 78)]
noncomputable def p_X12_nextToken_2 : List (Nat × zO) := [(78, zo_cne 87 81),
  (81, zo_aload 0 82),
  (82, zo_push (.inl 0) 83),
  (83, zo_putI 12 6 86),
  (86, zo_ret),
  (87, zo_aload 0 88),
  (88, zo_getR 12 38 none 91),
  (91, zo_aload 0 92),
  (92, zo_getI 12 4 95),
  (95, zo_iald 96),
  (96, zo_istore 1 97),
  (97, zo_iload 1 98),
  (98, zo_push (.inl 97) 100),
  (100, zo_clt 212 103),
  (103, zo_iload 1 104),
  (104, zo_push (.inl 122) 106),
  (106, zo_cgt 212 109),
  (109, zo_kill [1] (zo_aload 0 110)),
  (110, zo_aload 0 111),
  (111, zo_getI 12 4 114)]
noncomputable def p_X12_nextToken_3 : List (Nat × zO) := [(114, zo_vir 12 2 (zo_calli (f_X12_signAt) 2 117)),
  (117, zo_push (.inl 97) 119),
  (119, zo_clt 188 122),
  (122, zo_aload 0 123),
  (123, zo_aload 0 124),
  (124, zo_getI 12 4 127),
  (127, zo_vir 12 2 (zo_calli (f_X12_signAt) 2 130)),
  (130, zo_push (.inl 122) 132),
  (132, zo_cgt 188 135),
  (135, zo_aload 0 136),
  (136, zo_getI 12 4 139),
  (139, zo_aload 0 140),
  (140, zo_getI 12 5 143),
  (143, zo_ii (fun x y => x - y) 144),
  (144, zo_push (.inl 8) 146),
  (146, zo_cge 175 149),
  (149, zo_aload 0 150),
  (150, zo_aload 0 151),
  (151, zo_getJ 12 7 154),
  (154, zo_push (.inr (.inl 27)) 157)]
noncomputable def p_X12_nextToken_4 : List (Nat × zO) := [(157, zo_ll (fun x y => x * y) 158),
  (158, zo_aload 0 159),
  (159, zo_aload 0 160),
  (160, zo_getI 12 4 163),
  (163, zo_vir 12 2 (zo_calli (f_X12_signAt) 2 166)),
  (166, zo_i2l 167),
  (167, zo_ll (fun x y => x + y) 168),
  (168, zo_push (.inr (.inl 96)) 171),
  (171, zo_ll (fun x y => x - y) 172),
  (172, zo_putJ 12 7 175),
  (175, zo_aload 0 176),
  (176, zo_dup 177),
  (177, zo_getI 12 4 180),
  (180, zo_push (.inl 1) 181),
  (181, zo_ii (fun x y => x + y) 182),
  (182, zo_putI 12 4 185),
  (185, zo_goto 109),
  (188, zo_kill [1] (zo_aload 0 189)),
  (189, zo_aload 0 190),
  (190, zo_getI 12 4 193)]
noncomputable def p_X12_nextToken_5 : List (Nat × zO) := [(193, zo_aload 0 194),
  (194, zo_getI 12 5 197),
  (197, zo_ii (fun x y => x - y) 198),
  (198, zo_push (.inl 8) 200),
  (200, zo_cle 207 203),
  (203, zo_push (.inl 4) 204),
  (204, zo_goto 208),
  (207, zo_push (.inl 1) 208),
  (208, zo_putI 12 6 211),
  (211, zo_ret),
  (212, zo_iload 1 213),
  (213, zo_push (.inl 48) 215),
  (215, zo_clt 322 218),
  (218, zo_iload 1 219),
  (219, zo_push (.inl 57) 221),
  (221, zo_cgt 322 224),
  (224, zo_kill [1] (zo_aload 0 225)),
  (225, zo_aload 0 226),
  (226, zo_getI 12 4 229),
  (229, zo_vir 12 2 (zo_calli (f_X12_signAt) 2 232))]
noncomputable def p_X12_nextToken_6 : List (Nat × zO) := [(232, zo_push (.inl 48) 234),
  (234, zo_clt 299 237),
  (237, zo_aload 0 238),
  (238, zo_aload 0 239),
  (239, zo_getI 12 4 242),
  (242, zo_vir 12 2 (zo_calli (f_X12_signAt) 2 245)),
  (245, zo_push (.inl 57) 247),
  (247, zo_cgt 299 250),
  (250, zo_aload 0 251),
  (251, zo_getI 12 4 254),
  (254, zo_aload 0 255),
  (255, zo_getI 12 5 258),
  (258, zo_ii (fun x y => x - y) 259),
  (259, zo_push (.inl 4) 260),
  (260, zo_cge 286 263),
  (263, zo_aload 0 264),
  (264, zo_aload 0 265),
  (265, zo_getI 12 8 268),
  (268, zo_push (.inl 10) 270),
  (270, zo_ii (fun x y => x * y) 271)]
noncomputable def p_X12_nextToken_7 : List (Nat × zO) := [(271, zo_aload 0 272),
  (272, zo_aload 0 273),
  (273, zo_getI 12 4 276),
  (276, zo_vir 12 2 (zo_calli (f_X12_signAt) 2 279)),
  (279, zo_ii (fun x y => x + y) 280),
  (280, zo_push (.inl 48) 282),
  (282, zo_ii (fun x y => x - y) 283),
  (283, zo_putI 12 8 286),
  (286, zo_aload 0 287),
  (287, zo_dup 288),
  (288, zo_getI 12 4 291),
  (291, zo_push (.inl 1) 292),
  (292, zo_ii (fun x y => x + y) 293),
  (293, zo_putI 12 4 296),
  (296, zo_goto 224),
  (299, zo_kill [1] (zo_aload 0 300)),
  (300, zo_aload 0 301),
  (301, zo_getI 12 4 304),
  (304, zo_aload 0 305),
  (305, zo_getI 12 5 308)]
noncomputable def p_X12_nextToken_8 : List (Nat × zO) := [(308, zo_ii (fun x y => x - y) 309),
  (309, zo_push (.inl 4) 310),
  (310, zo_cle 317 313),
  (313, zo_push (.inl 4) 314),
  (314, zo_goto 318),
  (317, zo_push (.inl 2) 318),
  (318, zo_putI 12 6 321),
  (321, zo_ret),
  (322, zo_aload 0 323),
  (323, zo_dup 324),
  (324, zo_getI 12 4 327),
  (327, zo_push (.inl 1) 328),
  (328, zo_ii (fun x y => x + y) 329),
  (329, zo_putI 12 4 332),
  (332, zo_aload 0 333),
  (333, zo_iload 1 334),
  (334, zo_push (.inl 40) 336),
  (336, zo_clt 345 339),
  (339, zo_iload 1 340),
  (340, zo_push (.inl 43) 342)]
noncomputable def p_X12_nextToken_9 : List (Nat × zO) := [(342, zo_cle 363 345),
  (345, zo_kill [0] (zo_iload 1 346)),
  (346, zo_push (.inl 45) 348),
  (348, zo_ceq 363 351),
  (351, zo_iload 1 352),
  (352, zo_push (.inl 59) 354),
  (354, zo_clt 367 357),
  (357, zo_iload 1 358),
  (358, zo_push (.inl 61) 360),
  (360, zo_cgt 367 363),
  (363, zo_push (.inl 3) 364),
  (364, zo_goto 368),
  (367, zo_push (.inl 4) 368),
  (368, zo_putI 12 6 371),
  (371, zo_ret)]
noncomputable def p_X12_nextToken : Nat → zO := zgs [(40, p_X12_nextToken_0), (76, p_X12_nextToken_1), (112, p_X12_nextToken_2), (155, p_X12_nextToken_3), (191, p_X12_nextToken_4), (230, p_X12_nextToken_5), (271, p_X12_nextToken_6), (306, p_X12_nextToken_7), (341, p_X12_nextToken_8), (372, p_X12_nextToken_9)]
theorem t_X12_nextToken : ∀ k, zTl (p_X12_nextToken k) := fun k => zgs_all (c := [(40, p_X12_nextToken_0), (76, p_X12_nextToken_1), (112, p_X12_nextToken_2), (155, p_X12_nextToken_3), (191, p_X12_nextToken_4), (230, p_X12_nextToken_5), (271, p_X12_nextToken_6), (306, p_X12_nextToken_7), (341, p_X12_nextToken_8), (372, p_X12_nextToken_9)]) (fun _ => zl_bad) ⟨⟨(zl_kill zl_aload), zl_getI, zl_aload, zl_getI, zl_cge, zl_aload, zl_getR, zl_aload, zl_getI, zl_iald, zl_push, zl_ceq, zl_aload, zl_getR, zl_aload, zl_getI, zl_iald, zl_push, zl_cne, zl_aload, trivial⟩, ⟨zl_dup, zl_getI, zl_push, zl_ii, zl_putI, zl_goto, (zl_kill zl_aload), zl_aload, zl_getI, zl_putI, zl_aload, zl_push, zl_putJ, zl_aload, zl_push, zl_putI, zl_aload, zl_getI, zl_aload, zl_getI, trivial⟩, ⟨zl_cne, zl_aload, zl_push, zl_putI, zl_ret, zl_aload, zl_getR, zl_aload, zl_getI, zl_iald, zl_istore, zl_iload, zl_push, zl_clt, zl_iload, zl_push, zl_cgt, (zl_kill zl_aload), zl_aload, zl_getI, trivial⟩, ⟨(zl_vir zl_calli), zl_push, zl_clt, zl_aload, zl_aload, zl_getI, (zl_vir zl_calli), zl_push, zl_cgt, zl_aload, zl_getI, zl_aload, zl_getI, zl_ii, zl_push, zl_cge, zl_aload, zl_aload, zl_getJ, zl_push, trivial⟩, ⟨zl_ll, zl_aload, zl_aload, zl_getI, (zl_vir zl_calli), zl_i2l, zl_ll, zl_push, zl_ll, zl_putJ, zl_aload, zl_dup, zl_getI, zl_push, zl_ii, zl_putI, zl_goto, (zl_kill zl_aload), zl_aload, zl_getI, trivial⟩, ⟨zl_aload, zl_getI, zl_ii, zl_push, zl_cle, zl_push, zl_goto, zl_push, zl_putI, zl_ret, zl_iload, zl_push, zl_clt, zl_iload, zl_push, zl_cgt, (zl_kill zl_aload), zl_aload, zl_getI, (zl_vir zl_calli), trivial⟩, ⟨zl_push, zl_clt, zl_aload, zl_aload, zl_getI, (zl_vir zl_calli), zl_push, zl_cgt, zl_aload, zl_getI, zl_aload, zl_getI, zl_ii, zl_push, zl_cge, zl_aload, zl_aload, zl_getI, zl_push, zl_ii, trivial⟩, ⟨zl_aload, zl_aload, zl_getI, (zl_vir zl_calli), zl_ii, zl_push, zl_ii, zl_putI, zl_aload, zl_dup, zl_getI, zl_push, zl_ii, zl_putI, zl_goto, (zl_kill zl_aload), zl_aload, zl_getI, zl_aload, zl_getI, trivial⟩, ⟨zl_ii, zl_push, zl_cle, zl_push, zl_goto, zl_push, zl_putI, zl_ret, zl_aload, zl_dup, zl_getI, zl_push, zl_ii, zl_putI, zl_aload, zl_iload, zl_push, zl_clt, zl_iload, zl_push, trivial⟩, ⟨zl_cle, (zl_kill zl_iload), zl_push, zl_ceq, zl_iload, zl_push, zl_clt, zl_iload, zl_push, zl_cgt, zl_push, zl_goto, zl_push, zl_putI, zl_ret, trivial⟩, trivial⟩ k
noncomputable def f_X12_nextToken : zS := zrun p_X12_nextToken 2
set_option maxRecDepth 20000 in
theorem s_X12_nextToken_0 {l : Launch} {D : va_G} {ad : Nat → Nat → Nat} {cy : Nat → ClassId} {L : List (Nat × Nat)} (hcl : zclo L = true) (hinj : zAd ad L) {X : zCtx} (hX : zXok X "SoapTreatyModel" prog_14_method_8_code 2) (hR : zRt X none) (hl : zXl X l D ad cy L (zroom 2)) : zAllR (zSo X) p_X12_nextToken_0 := ⟨zs_kill hX (by decide) (zs_aload_n (i := 0) rfl hX (by decide +kernel : decode prog_14_method_8_code 0 = .ok (.aload_n 0, 1)) rfl (by decide)),
  zs_getI hX zFL_12_151 (by decide) (by decide) (by decide +kernel : decode prog_14_method_8_code 1 = .ok (.getfield 151, 3)) rfl,
  zs_aload_n (i := 0) rfl hX (by decide +kernel : decode prog_14_method_8_code 4 = .ok (.aload_n 0, 1)) rfl (by decide),
  zs_getI hX zFL_12_148 (by decide) (by decide) (by decide +kernel : decode prog_14_method_8_code 5 = .ok (.getfield 148, 3)) rfl,
  zs_cge hX (by decide +kernel : decode prog_14_method_8_code 8 = .ok (.if_icmp .ge 44, 3)) (by decide) rfl,
  zs_aload_n (i := 0) rfl hX (by decide +kernel : decode prog_14_method_8_code 11 = .ok (.aload_n 0, 1)) rfl (by decide),
  zs_getR hX zFL_12_7 (by decide +kernel : decode prog_14_method_8_code 12 = .ok (.getfield 7, 3)) rfl,
  zs_aload_n (i := 0) rfl hX (by decide +kernel : decode prog_14_method_8_code 15 = .ok (.aload_n 0, 1)) rfl (by decide),
  zs_getI hX zFL_12_151 (by decide) (by decide) (by decide +kernel : decode prog_14_method_8_code 16 = .ok (.getfield 151, 3)) rfl,
  zs_iald hX (by decide +kernel : decode prog_14_method_8_code 19 = .ok (.iaload, 1)) rfl,
  zs_pushI (zg_bipush (by decide) hX (by decide +kernel : decode prog_14_method_8_code 20 = .ok (.bipush 32, 2)) rfl),
  zs_ceq hX (by decide +kernel : decode prog_14_method_8_code 22 = .ok (.if_icmp .eq 17, 3)) (by decide) rfl,
  zs_aload_n (i := 0) rfl hX (by decide +kernel : decode prog_14_method_8_code 25 = .ok (.aload_n 0, 1)) rfl (by decide),
  zs_getR hX zFL_12_7 (by decide +kernel : decode prog_14_method_8_code 26 = .ok (.getfield 7, 3)) rfl,
  zs_aload_n (i := 0) rfl hX (by decide +kernel : decode prog_14_method_8_code 29 = .ok (.aload_n 0, 1)) rfl (by decide),
  zs_getI hX zFL_12_151 (by decide) (by decide) (by decide +kernel : decode prog_14_method_8_code 30 = .ok (.getfield 151, 3)) rfl,
  zs_iald hX (by decide +kernel : decode prog_14_method_8_code 33 = .ok (.iaload, 1)) rfl,
  zs_pushI (zg_bipush (by decide) hX (by decide +kernel : decode prog_14_method_8_code 34 = .ok (.bipush 10, 2)) rfl),
  zs_cne hX (by decide +kernel : decode prog_14_method_8_code 36 = .ok (.if_icmp .ne 16, 3)) (by decide) rfl,
  zs_aload_n (i := 0) rfl hX (by decide +kernel : decode prog_14_method_8_code 39 = .ok (.aload_n 0, 1)) rfl (by decide), trivial⟩
set_option maxRecDepth 20000 in
theorem s_X12_nextToken_1 {l : Launch} {D : va_G} {ad : Nat → Nat → Nat} {cy : Nat → ClassId} {L : List (Nat × Nat)} (hcl : zclo L = true) (hinj : zAd ad L) {X : zCtx} (hX : zXok X "SoapTreatyModel" prog_14_method_8_code 2) (hR : zRt X none) (hl : zXl X l D ad cy L (zroom 2)) : zAllR (zSo X) p_X12_nextToken_1 := ⟨zs_dup hX (by decide +kernel : decode prog_14_method_8_code 40 = .ok (.dup, 1)) rfl,
  zs_getI hX zFL_12_151 (by decide) (by decide) (by decide +kernel : decode prog_14_method_8_code 41 = .ok (.getfield 151, 3)) rfl,
  zs_pushI (zg_iconst (by decide) hX (by decide +kernel : decode prog_14_method_8_code 44 = .ok (.iconst 1, 1)) rfl),
  zs_ii (zg_iadd hX (by decide +kernel : decode prog_14_method_8_code 45 = .ok (.iadd, 1)) rfl),
  zs_putI hX zFP_12_151 (by decide +kernel : decode prog_14_method_8_code 46 = .ok (.putfield 151, 3)) rfl,
  zs_goto hX (by decide +kernel : decode prog_14_method_8_code 49 = .ok (.goto (-49), 3)) (by decide),
  zs_kill hX (by decide) (zs_aload_n (i := 0) rfl hX (by decide +kernel : decode prog_14_method_8_code 52 = .ok (.aload_n 0, 1)) rfl (by decide)),
  zs_aload_n (i := 0) rfl hX (by decide +kernel : decode prog_14_method_8_code 53 = .ok (.aload_n 0, 1)) rfl (by decide),
  zs_getI hX zFL_12_151 (by decide) (by decide) (by decide +kernel : decode prog_14_method_8_code 54 = .ok (.getfield 151, 3)) rfl,
  zs_putI hX zFP_12_154 (by decide +kernel : decode prog_14_method_8_code 57 = .ok (.putfield 154, 3)) rfl,
  zs_aload_n (i := 0) rfl hX (by decide +kernel : decode prog_14_method_8_code 60 = .ok (.aload_n 0, 1)) rfl (by decide),
  zs_pushJ (zg_lconst (by decide) hX (by decide +kernel : decode prog_14_method_8_code 61 = .ok (.lconst 0, 1)) rfl),
  zs_putJ hX zFP_12_157 (by decide +kernel : decode prog_14_method_8_code 62 = .ok (.putfield 157, 3)) rfl,
  zs_aload_n (i := 0) rfl hX (by decide +kernel : decode prog_14_method_8_code 65 = .ok (.aload_n 0, 1)) rfl (by decide),
  zs_pushI (zg_iconst (by decide) hX (by decide +kernel : decode prog_14_method_8_code 66 = .ok (.iconst 0, 1)) rfl),
  zs_putI hX zFP_12_161 (by decide +kernel : decode prog_14_method_8_code 67 = .ok (.putfield 161, 3)) rfl,
  zs_aload_n (i := 0) rfl hX (by decide +kernel : decode prog_14_method_8_code 70 = .ok (.aload_n 0, 1)) rfl (by decide),
  zs_getI hX zFL_12_151 (by decide) (by decide) (by decide +kernel : decode prog_14_method_8_code 71 = .ok (.getfield 151, 3)) rfl,
  zs_aload_n (i := 0) rfl hX (by decide +kernel : decode prog_14_method_8_code 74 = .ok (.aload_n 0, 1)) rfl (by decide),
  zs_getI hX zFL_12_148 (by decide) (by decide) (by decide +kernel : decode prog_14_method_8_code 75 = .ok (.getfield 148, 3)) rfl, trivial⟩
set_option maxRecDepth 20000 in
theorem s_X12_nextToken_2 {l : Launch} {D : va_G} {ad : Nat → Nat → Nat} {cy : Nat → ClassId} {L : List (Nat × Nat)} (hcl : zclo L = true) (hinj : zAd ad L) {X : zCtx} (hX : zXok X "SoapTreatyModel" prog_14_method_8_code 2) (hR : zRt X none) (hl : zXl X l D ad cy L (zroom 2)) : zAllR (zSo X) p_X12_nextToken_2 := ⟨zs_cne hX (by decide +kernel : decode prog_14_method_8_code 78 = .ok (.if_icmp .ne 9, 3)) (by decide) rfl,
  zs_aload_n (i := 0) rfl hX (by decide +kernel : decode prog_14_method_8_code 81 = .ok (.aload_n 0, 1)) rfl (by decide),
  zs_pushI (zg_iconst (by decide) hX (by decide +kernel : decode prog_14_method_8_code 82 = .ok (.iconst 0, 1)) rfl),
  zs_putI hX zFP_12_164 (by decide +kernel : decode prog_14_method_8_code 83 = .ok (.putfield 164, 3)) rfl,
  zs_ret hX hR (by decide +kernel : decode prog_14_method_8_code 86 = .ok (.return_, 1)),
  zs_aload_n (i := 0) rfl hX (by decide +kernel : decode prog_14_method_8_code 87 = .ok (.aload_n 0, 1)) rfl (by decide),
  zs_getR hX zFL_12_7 (by decide +kernel : decode prog_14_method_8_code 88 = .ok (.getfield 7, 3)) rfl,
  zs_aload_n (i := 0) rfl hX (by decide +kernel : decode prog_14_method_8_code 91 = .ok (.aload_n 0, 1)) rfl (by decide),
  zs_getI hX zFL_12_151 (by decide) (by decide) (by decide +kernel : decode prog_14_method_8_code 92 = .ok (.getfield 151, 3)) rfl,
  zs_iald hX (by decide +kernel : decode prog_14_method_8_code 95 = .ok (.iaload, 1)) rfl,
  zs_istore_n (i := 1) rfl hX (by decide +kernel : decode prog_14_method_8_code 96 = .ok (.istore_n 1, 1)) rfl (by decide),
  zs_iload_n (i := 1) rfl hX (by decide +kernel : decode prog_14_method_8_code 97 = .ok (.iload_n 1, 1)) rfl (by decide),
  zs_pushI (zg_bipush (by decide) hX (by decide +kernel : decode prog_14_method_8_code 98 = .ok (.bipush 97, 2)) rfl),
  zs_clt hX (by decide +kernel : decode prog_14_method_8_code 100 = .ok (.if_icmp .lt 112, 3)) (by decide) rfl,
  zs_iload_n (i := 1) rfl hX (by decide +kernel : decode prog_14_method_8_code 103 = .ok (.iload_n 1, 1)) rfl (by decide),
  zs_pushI (zg_bipush (by decide) hX (by decide +kernel : decode prog_14_method_8_code 104 = .ok (.bipush 122, 2)) rfl),
  zs_cgt hX (by decide +kernel : decode prog_14_method_8_code 106 = .ok (.if_icmp .gt 106, 3)) (by decide) rfl,
  zs_kill hX (by decide) (zs_aload_n (i := 0) rfl hX (by decide +kernel : decode prog_14_method_8_code 109 = .ok (.aload_n 0, 1)) rfl (by decide)),
  zs_aload_n (i := 0) rfl hX (by decide +kernel : decode prog_14_method_8_code 110 = .ok (.aload_n 0, 1)) rfl (by decide),
  zs_getI hX zFL_12_151 (by decide) (by decide) (by decide +kernel : decode prog_14_method_8_code 111 = .ok (.getfield 151, 3)) rfl, trivial⟩
set_option maxRecDepth 20000 in
theorem s_X12_nextToken_3 {l : Launch} {D : va_G} {ad : Nat → Nat → Nat} {cy : Nat → ClassId} {L : List (Nat × Nat)} (hcl : zclo L = true) (hinj : zAd ad L) {X : zCtx} (hX : zXok X "SoapTreatyModel" prog_14_method_8_code 2) (hR : zRt X none) (hl : zXl X l D ad cy L (zroom 2)) : zAllR (zSo X) p_X12_nextToken_3 := ⟨zs_callVi hX zMV_12_167 (zXc_of hl (by decide) (k_X12_signAt hcl hinj)) (by decide +kernel : decode prog_14_method_8_code 114 = .ok (.invokevirtual 167, 3)) rfl,
  zs_pushI (zg_bipush (by decide) hX (by decide +kernel : decode prog_14_method_8_code 117 = .ok (.bipush 97, 2)) rfl),
  zs_clt hX (by decide +kernel : decode prog_14_method_8_code 119 = .ok (.if_icmp .lt 69, 3)) (by decide) rfl,
  zs_aload_n (i := 0) rfl hX (by decide +kernel : decode prog_14_method_8_code 122 = .ok (.aload_n 0, 1)) rfl (by decide),
  zs_aload_n (i := 0) rfl hX (by decide +kernel : decode prog_14_method_8_code 123 = .ok (.aload_n 0, 1)) rfl (by decide),
  zs_getI hX zFL_12_151 (by decide) (by decide) (by decide +kernel : decode prog_14_method_8_code 124 = .ok (.getfield 151, 3)) rfl,
  zs_callVi hX zMV_12_167 (zXc_of hl (by decide) (k_X12_signAt hcl hinj)) (by decide +kernel : decode prog_14_method_8_code 127 = .ok (.invokevirtual 167, 3)) rfl,
  zs_pushI (zg_bipush (by decide) hX (by decide +kernel : decode prog_14_method_8_code 130 = .ok (.bipush 122, 2)) rfl),
  zs_cgt hX (by decide +kernel : decode prog_14_method_8_code 132 = .ok (.if_icmp .gt 56, 3)) (by decide) rfl,
  zs_aload_n (i := 0) rfl hX (by decide +kernel : decode prog_14_method_8_code 135 = .ok (.aload_n 0, 1)) rfl (by decide),
  zs_getI hX zFL_12_151 (by decide) (by decide) (by decide +kernel : decode prog_14_method_8_code 136 = .ok (.getfield 151, 3)) rfl,
  zs_aload_n (i := 0) rfl hX (by decide +kernel : decode prog_14_method_8_code 139 = .ok (.aload_n 0, 1)) rfl (by decide),
  zs_getI hX zFL_12_154 (by decide) (by decide) (by decide +kernel : decode prog_14_method_8_code 140 = .ok (.getfield 154, 3)) rfl,
  zs_ii (zg_isub hX (by decide +kernel : decode prog_14_method_8_code 143 = .ok (.isub, 1)) rfl),
  zs_pushI (zg_bipush (by decide) hX (by decide +kernel : decode prog_14_method_8_code 144 = .ok (.bipush 8, 2)) rfl),
  zs_cge hX (by decide +kernel : decode prog_14_method_8_code 146 = .ok (.if_icmp .ge 29, 3)) (by decide) rfl,
  zs_aload_n (i := 0) rfl hX (by decide +kernel : decode prog_14_method_8_code 149 = .ok (.aload_n 0, 1)) rfl (by decide),
  zs_aload_n (i := 0) rfl hX (by decide +kernel : decode prog_14_method_8_code 150 = .ok (.aload_n 0, 1)) rfl (by decide),
  zs_getJ hX zFL_12_157 (by decide +kernel : decode prog_14_method_8_code 151 = .ok (.getfield 157, 3)) rfl,
  zs_pushJ (zg_ldc2 (zT_of 1397 (by decide +kernel) (by decide +kernel)) hX (by decide +kernel : decode prog_14_method_8_code 154 = .ok (.ldc2_w 171, 3)) rfl), trivial⟩
set_option maxRecDepth 20000 in
theorem s_X12_nextToken_4 {l : Launch} {D : va_G} {ad : Nat → Nat → Nat} {cy : Nat → ClassId} {L : List (Nat × Nat)} (hcl : zclo L = true) (hinj : zAd ad L) {X : zCtx} (hX : zXok X "SoapTreatyModel" prog_14_method_8_code 2) (hR : zRt X none) (hl : zXl X l D ad cy L (zroom 2)) : zAllR (zSo X) p_X12_nextToken_4 := ⟨zs_ll (zg_lmul hX (by decide +kernel : decode prog_14_method_8_code 157 = .ok (.lmul, 1)) rfl),
  zs_aload_n (i := 0) rfl hX (by decide +kernel : decode prog_14_method_8_code 158 = .ok (.aload_n 0, 1)) rfl (by decide),
  zs_aload_n (i := 0) rfl hX (by decide +kernel : decode prog_14_method_8_code 159 = .ok (.aload_n 0, 1)) rfl (by decide),
  zs_getI hX zFL_12_151 (by decide) (by decide) (by decide +kernel : decode prog_14_method_8_code 160 = .ok (.getfield 151, 3)) rfl,
  zs_callVi hX zMV_12_167 (zXc_of hl (by decide) (k_X12_signAt hcl hinj)) (by decide +kernel : decode prog_14_method_8_code 163 = .ok (.invokevirtual 167, 3)) rfl,
  zs_i2l_ (zg_i2l hX (by decide +kernel : decode prog_14_method_8_code 166 = .ok (.i2l, 1)) rfl),
  zs_ll (zg_ladd hX (by decide +kernel : decode prog_14_method_8_code 167 = .ok (.ladd, 1)) rfl),
  zs_pushJ (zg_ldc2 (zT_of 1398 (by decide +kernel) (by decide +kernel)) hX (by decide +kernel : decode prog_14_method_8_code 168 = .ok (.ldc2_w 173, 3)) rfl),
  zs_ll (zg_lsub hX (by decide +kernel : decode prog_14_method_8_code 171 = .ok (.lsub, 1)) rfl),
  zs_putJ hX zFP_12_157 (by decide +kernel : decode prog_14_method_8_code 172 = .ok (.putfield 157, 3)) rfl,
  zs_aload_n (i := 0) rfl hX (by decide +kernel : decode prog_14_method_8_code 175 = .ok (.aload_n 0, 1)) rfl (by decide),
  zs_dup hX (by decide +kernel : decode prog_14_method_8_code 176 = .ok (.dup, 1)) rfl,
  zs_getI hX zFL_12_151 (by decide) (by decide) (by decide +kernel : decode prog_14_method_8_code 177 = .ok (.getfield 151, 3)) rfl,
  zs_pushI (zg_iconst (by decide) hX (by decide +kernel : decode prog_14_method_8_code 180 = .ok (.iconst 1, 1)) rfl),
  zs_ii (zg_iadd hX (by decide +kernel : decode prog_14_method_8_code 181 = .ok (.iadd, 1)) rfl),
  zs_putI hX zFP_12_151 (by decide +kernel : decode prog_14_method_8_code 182 = .ok (.putfield 151, 3)) rfl,
  zs_goto hX (by decide +kernel : decode prog_14_method_8_code 185 = .ok (.goto (-76), 3)) (by decide),
  zs_kill hX (by decide) (zs_aload_n (i := 0) rfl hX (by decide +kernel : decode prog_14_method_8_code 188 = .ok (.aload_n 0, 1)) rfl (by decide)),
  zs_aload_n (i := 0) rfl hX (by decide +kernel : decode prog_14_method_8_code 189 = .ok (.aload_n 0, 1)) rfl (by decide),
  zs_getI hX zFL_12_151 (by decide) (by decide) (by decide +kernel : decode prog_14_method_8_code 190 = .ok (.getfield 151, 3)) rfl, trivial⟩
set_option maxRecDepth 20000 in
theorem s_X12_nextToken_5 {l : Launch} {D : va_G} {ad : Nat → Nat → Nat} {cy : Nat → ClassId} {L : List (Nat × Nat)} (hcl : zclo L = true) (hinj : zAd ad L) {X : zCtx} (hX : zXok X "SoapTreatyModel" prog_14_method_8_code 2) (hR : zRt X none) (hl : zXl X l D ad cy L (zroom 2)) : zAllR (zSo X) p_X12_nextToken_5 := ⟨zs_aload_n (i := 0) rfl hX (by decide +kernel : decode prog_14_method_8_code 193 = .ok (.aload_n 0, 1)) rfl (by decide),
  zs_getI hX zFL_12_154 (by decide) (by decide) (by decide +kernel : decode prog_14_method_8_code 194 = .ok (.getfield 154, 3)) rfl,
  zs_ii (zg_isub hX (by decide +kernel : decode prog_14_method_8_code 197 = .ok (.isub, 1)) rfl),
  zs_pushI (zg_bipush (by decide) hX (by decide +kernel : decode prog_14_method_8_code 198 = .ok (.bipush 8, 2)) rfl),
  zs_cle hX (by decide +kernel : decode prog_14_method_8_code 200 = .ok (.if_icmp .le 7, 3)) (by decide) rfl,
  zs_pushI (zg_iconst (by decide) hX (by decide +kernel : decode prog_14_method_8_code 203 = .ok (.iconst 4, 1)) rfl),
  zs_goto hX (by decide +kernel : decode prog_14_method_8_code 204 = .ok (.goto 4, 3)) (by decide),
  zs_pushI (zg_iconst (by decide) hX (by decide +kernel : decode prog_14_method_8_code 207 = .ok (.iconst 1, 1)) rfl),
  zs_putI hX zFP_12_164 (by decide +kernel : decode prog_14_method_8_code 208 = .ok (.putfield 164, 3)) rfl,
  zs_ret hX hR (by decide +kernel : decode prog_14_method_8_code 211 = .ok (.return_, 1)),
  zs_iload_n (i := 1) rfl hX (by decide +kernel : decode prog_14_method_8_code 212 = .ok (.iload_n 1, 1)) rfl (by decide),
  zs_pushI (zg_bipush (by decide) hX (by decide +kernel : decode prog_14_method_8_code 213 = .ok (.bipush 48, 2)) rfl),
  zs_clt hX (by decide +kernel : decode prog_14_method_8_code 215 = .ok (.if_icmp .lt 107, 3)) (by decide) rfl,
  zs_iload_n (i := 1) rfl hX (by decide +kernel : decode prog_14_method_8_code 218 = .ok (.iload_n 1, 1)) rfl (by decide),
  zs_pushI (zg_bipush (by decide) hX (by decide +kernel : decode prog_14_method_8_code 219 = .ok (.bipush 57, 2)) rfl),
  zs_cgt hX (by decide +kernel : decode prog_14_method_8_code 221 = .ok (.if_icmp .gt 101, 3)) (by decide) rfl,
  zs_kill hX (by decide) (zs_aload_n (i := 0) rfl hX (by decide +kernel : decode prog_14_method_8_code 224 = .ok (.aload_n 0, 1)) rfl (by decide)),
  zs_aload_n (i := 0) rfl hX (by decide +kernel : decode prog_14_method_8_code 225 = .ok (.aload_n 0, 1)) rfl (by decide),
  zs_getI hX zFL_12_151 (by decide) (by decide) (by decide +kernel : decode prog_14_method_8_code 226 = .ok (.getfield 151, 3)) rfl,
  zs_callVi hX zMV_12_167 (zXc_of hl (by decide) (k_X12_signAt hcl hinj)) (by decide +kernel : decode prog_14_method_8_code 229 = .ok (.invokevirtual 167, 3)) rfl, trivial⟩
set_option maxRecDepth 20000 in
theorem s_X12_nextToken_6 {l : Launch} {D : va_G} {ad : Nat → Nat → Nat} {cy : Nat → ClassId} {L : List (Nat × Nat)} (hcl : zclo L = true) (hinj : zAd ad L) {X : zCtx} (hX : zXok X "SoapTreatyModel" prog_14_method_8_code 2) (hR : zRt X none) (hl : zXl X l D ad cy L (zroom 2)) : zAllR (zSo X) p_X12_nextToken_6 := ⟨zs_pushI (zg_bipush (by decide) hX (by decide +kernel : decode prog_14_method_8_code 232 = .ok (.bipush 48, 2)) rfl),
  zs_clt hX (by decide +kernel : decode prog_14_method_8_code 234 = .ok (.if_icmp .lt 65, 3)) (by decide) rfl,
  zs_aload_n (i := 0) rfl hX (by decide +kernel : decode prog_14_method_8_code 237 = .ok (.aload_n 0, 1)) rfl (by decide),
  zs_aload_n (i := 0) rfl hX (by decide +kernel : decode prog_14_method_8_code 238 = .ok (.aload_n 0, 1)) rfl (by decide),
  zs_getI hX zFL_12_151 (by decide) (by decide) (by decide +kernel : decode prog_14_method_8_code 239 = .ok (.getfield 151, 3)) rfl,
  zs_callVi hX zMV_12_167 (zXc_of hl (by decide) (k_X12_signAt hcl hinj)) (by decide +kernel : decode prog_14_method_8_code 242 = .ok (.invokevirtual 167, 3)) rfl,
  zs_pushI (zg_bipush (by decide) hX (by decide +kernel : decode prog_14_method_8_code 245 = .ok (.bipush 57, 2)) rfl),
  zs_cgt hX (by decide +kernel : decode prog_14_method_8_code 247 = .ok (.if_icmp .gt 52, 3)) (by decide) rfl,
  zs_aload_n (i := 0) rfl hX (by decide +kernel : decode prog_14_method_8_code 250 = .ok (.aload_n 0, 1)) rfl (by decide),
  zs_getI hX zFL_12_151 (by decide) (by decide) (by decide +kernel : decode prog_14_method_8_code 251 = .ok (.getfield 151, 3)) rfl,
  zs_aload_n (i := 0) rfl hX (by decide +kernel : decode prog_14_method_8_code 254 = .ok (.aload_n 0, 1)) rfl (by decide),
  zs_getI hX zFL_12_154 (by decide) (by decide) (by decide +kernel : decode prog_14_method_8_code 255 = .ok (.getfield 154, 3)) rfl,
  zs_ii (zg_isub hX (by decide +kernel : decode prog_14_method_8_code 258 = .ok (.isub, 1)) rfl),
  zs_pushI (zg_iconst (by decide) hX (by decide +kernel : decode prog_14_method_8_code 259 = .ok (.iconst 4, 1)) rfl),
  zs_cge hX (by decide +kernel : decode prog_14_method_8_code 260 = .ok (.if_icmp .ge 26, 3)) (by decide) rfl,
  zs_aload_n (i := 0) rfl hX (by decide +kernel : decode prog_14_method_8_code 263 = .ok (.aload_n 0, 1)) rfl (by decide),
  zs_aload_n (i := 0) rfl hX (by decide +kernel : decode prog_14_method_8_code 264 = .ok (.aload_n 0, 1)) rfl (by decide),
  zs_getI hX zFL_12_161 (by decide) (by decide) (by decide +kernel : decode prog_14_method_8_code 265 = .ok (.getfield 161, 3)) rfl,
  zs_pushI (zg_bipush (by decide) hX (by decide +kernel : decode prog_14_method_8_code 268 = .ok (.bipush 10, 2)) rfl),
  zs_ii (zg_imul hX (by decide +kernel : decode prog_14_method_8_code 270 = .ok (.imul, 1)) rfl), trivial⟩
set_option maxRecDepth 20000 in
theorem s_X12_nextToken_7 {l : Launch} {D : va_G} {ad : Nat → Nat → Nat} {cy : Nat → ClassId} {L : List (Nat × Nat)} (hcl : zclo L = true) (hinj : zAd ad L) {X : zCtx} (hX : zXok X "SoapTreatyModel" prog_14_method_8_code 2) (hR : zRt X none) (hl : zXl X l D ad cy L (zroom 2)) : zAllR (zSo X) p_X12_nextToken_7 := ⟨zs_aload_n (i := 0) rfl hX (by decide +kernel : decode prog_14_method_8_code 271 = .ok (.aload_n 0, 1)) rfl (by decide),
  zs_aload_n (i := 0) rfl hX (by decide +kernel : decode prog_14_method_8_code 272 = .ok (.aload_n 0, 1)) rfl (by decide),
  zs_getI hX zFL_12_151 (by decide) (by decide) (by decide +kernel : decode prog_14_method_8_code 273 = .ok (.getfield 151, 3)) rfl,
  zs_callVi hX zMV_12_167 (zXc_of hl (by decide) (k_X12_signAt hcl hinj)) (by decide +kernel : decode prog_14_method_8_code 276 = .ok (.invokevirtual 167, 3)) rfl,
  zs_ii (zg_iadd hX (by decide +kernel : decode prog_14_method_8_code 279 = .ok (.iadd, 1)) rfl),
  zs_pushI (zg_bipush (by decide) hX (by decide +kernel : decode prog_14_method_8_code 280 = .ok (.bipush 48, 2)) rfl),
  zs_ii (zg_isub hX (by decide +kernel : decode prog_14_method_8_code 282 = .ok (.isub, 1)) rfl),
  zs_putI hX zFP_12_161 (by decide +kernel : decode prog_14_method_8_code 283 = .ok (.putfield 161, 3)) rfl,
  zs_aload_n (i := 0) rfl hX (by decide +kernel : decode prog_14_method_8_code 286 = .ok (.aload_n 0, 1)) rfl (by decide),
  zs_dup hX (by decide +kernel : decode prog_14_method_8_code 287 = .ok (.dup, 1)) rfl,
  zs_getI hX zFL_12_151 (by decide) (by decide) (by decide +kernel : decode prog_14_method_8_code 288 = .ok (.getfield 151, 3)) rfl,
  zs_pushI (zg_iconst (by decide) hX (by decide +kernel : decode prog_14_method_8_code 291 = .ok (.iconst 1, 1)) rfl),
  zs_ii (zg_iadd hX (by decide +kernel : decode prog_14_method_8_code 292 = .ok (.iadd, 1)) rfl),
  zs_putI hX zFP_12_151 (by decide +kernel : decode prog_14_method_8_code 293 = .ok (.putfield 151, 3)) rfl,
  zs_goto hX (by decide +kernel : decode prog_14_method_8_code 296 = .ok (.goto (-72), 3)) (by decide),
  zs_kill hX (by decide) (zs_aload_n (i := 0) rfl hX (by decide +kernel : decode prog_14_method_8_code 299 = .ok (.aload_n 0, 1)) rfl (by decide)),
  zs_aload_n (i := 0) rfl hX (by decide +kernel : decode prog_14_method_8_code 300 = .ok (.aload_n 0, 1)) rfl (by decide),
  zs_getI hX zFL_12_151 (by decide) (by decide) (by decide +kernel : decode prog_14_method_8_code 301 = .ok (.getfield 151, 3)) rfl,
  zs_aload_n (i := 0) rfl hX (by decide +kernel : decode prog_14_method_8_code 304 = .ok (.aload_n 0, 1)) rfl (by decide),
  zs_getI hX zFL_12_154 (by decide) (by decide) (by decide +kernel : decode prog_14_method_8_code 305 = .ok (.getfield 154, 3)) rfl, trivial⟩
set_option maxRecDepth 20000 in
theorem s_X12_nextToken_8 {l : Launch} {D : va_G} {ad : Nat → Nat → Nat} {cy : Nat → ClassId} {L : List (Nat × Nat)} (hcl : zclo L = true) (hinj : zAd ad L) {X : zCtx} (hX : zXok X "SoapTreatyModel" prog_14_method_8_code 2) (hR : zRt X none) (hl : zXl X l D ad cy L (zroom 2)) : zAllR (zSo X) p_X12_nextToken_8 := ⟨zs_ii (zg_isub hX (by decide +kernel : decode prog_14_method_8_code 308 = .ok (.isub, 1)) rfl),
  zs_pushI (zg_iconst (by decide) hX (by decide +kernel : decode prog_14_method_8_code 309 = .ok (.iconst 4, 1)) rfl),
  zs_cle hX (by decide +kernel : decode prog_14_method_8_code 310 = .ok (.if_icmp .le 7, 3)) (by decide) rfl,
  zs_pushI (zg_iconst (by decide) hX (by decide +kernel : decode prog_14_method_8_code 313 = .ok (.iconst 4, 1)) rfl),
  zs_goto hX (by decide +kernel : decode prog_14_method_8_code 314 = .ok (.goto 4, 3)) (by decide),
  zs_pushI (zg_iconst (by decide) hX (by decide +kernel : decode prog_14_method_8_code 317 = .ok (.iconst 2, 1)) rfl),
  zs_putI hX zFP_12_164 (by decide +kernel : decode prog_14_method_8_code 318 = .ok (.putfield 164, 3)) rfl,
  zs_ret hX hR (by decide +kernel : decode prog_14_method_8_code 321 = .ok (.return_, 1)),
  zs_aload_n (i := 0) rfl hX (by decide +kernel : decode prog_14_method_8_code 322 = .ok (.aload_n 0, 1)) rfl (by decide),
  zs_dup hX (by decide +kernel : decode prog_14_method_8_code 323 = .ok (.dup, 1)) rfl,
  zs_getI hX zFL_12_151 (by decide) (by decide) (by decide +kernel : decode prog_14_method_8_code 324 = .ok (.getfield 151, 3)) rfl,
  zs_pushI (zg_iconst (by decide) hX (by decide +kernel : decode prog_14_method_8_code 327 = .ok (.iconst 1, 1)) rfl),
  zs_ii (zg_iadd hX (by decide +kernel : decode prog_14_method_8_code 328 = .ok (.iadd, 1)) rfl),
  zs_putI hX zFP_12_151 (by decide +kernel : decode prog_14_method_8_code 329 = .ok (.putfield 151, 3)) rfl,
  zs_aload_n (i := 0) rfl hX (by decide +kernel : decode prog_14_method_8_code 332 = .ok (.aload_n 0, 1)) rfl (by decide),
  zs_iload_n (i := 1) rfl hX (by decide +kernel : decode prog_14_method_8_code 333 = .ok (.iload_n 1, 1)) rfl (by decide),
  zs_pushI (zg_bipush (by decide) hX (by decide +kernel : decode prog_14_method_8_code 334 = .ok (.bipush 40, 2)) rfl),
  zs_clt hX (by decide +kernel : decode prog_14_method_8_code 336 = .ok (.if_icmp .lt 9, 3)) (by decide) rfl,
  zs_iload_n (i := 1) rfl hX (by decide +kernel : decode prog_14_method_8_code 339 = .ok (.iload_n 1, 1)) rfl (by decide),
  zs_pushI (zg_bipush (by decide) hX (by decide +kernel : decode prog_14_method_8_code 340 = .ok (.bipush 43, 2)) rfl), trivial⟩
set_option maxRecDepth 20000 in
theorem s_X12_nextToken_9 {l : Launch} {D : va_G} {ad : Nat → Nat → Nat} {cy : Nat → ClassId} {L : List (Nat × Nat)} (hcl : zclo L = true) (hinj : zAd ad L) {X : zCtx} (hX : zXok X "SoapTreatyModel" prog_14_method_8_code 2) (hR : zRt X none) (hl : zXl X l D ad cy L (zroom 2)) : zAllR (zSo X) p_X12_nextToken_9 := ⟨zs_cle hX (by decide +kernel : decode prog_14_method_8_code 342 = .ok (.if_icmp .le 21, 3)) (by decide) rfl,
  zs_kill hX (by decide) (zs_iload_n (i := 1) rfl hX (by decide +kernel : decode prog_14_method_8_code 345 = .ok (.iload_n 1, 1)) rfl (by decide)),
  zs_pushI (zg_bipush (by decide) hX (by decide +kernel : decode prog_14_method_8_code 346 = .ok (.bipush 45, 2)) rfl),
  zs_ceq hX (by decide +kernel : decode prog_14_method_8_code 348 = .ok (.if_icmp .eq 15, 3)) (by decide) rfl,
  zs_iload_n (i := 1) rfl hX (by decide +kernel : decode prog_14_method_8_code 351 = .ok (.iload_n 1, 1)) rfl (by decide),
  zs_pushI (zg_bipush (by decide) hX (by decide +kernel : decode prog_14_method_8_code 352 = .ok (.bipush 59, 2)) rfl),
  zs_clt hX (by decide +kernel : decode prog_14_method_8_code 354 = .ok (.if_icmp .lt 13, 3)) (by decide) rfl,
  zs_iload_n (i := 1) rfl hX (by decide +kernel : decode prog_14_method_8_code 357 = .ok (.iload_n 1, 1)) rfl (by decide),
  zs_pushI (zg_bipush (by decide) hX (by decide +kernel : decode prog_14_method_8_code 358 = .ok (.bipush 61, 2)) rfl),
  zs_cgt hX (by decide +kernel : decode prog_14_method_8_code 360 = .ok (.if_icmp .gt 7, 3)) (by decide) rfl,
  zs_pushI (zg_iconst (by decide) hX (by decide +kernel : decode prog_14_method_8_code 363 = .ok (.iconst 3, 1)) rfl),
  zs_goto hX (by decide +kernel : decode prog_14_method_8_code 364 = .ok (.goto 4, 3)) (by decide),
  zs_pushI (zg_iconst (by decide) hX (by decide +kernel : decode prog_14_method_8_code 367 = .ok (.iconst 4, 1)) rfl),
  zs_putI hX zFP_12_164 (by decide +kernel : decode prog_14_method_8_code 368 = .ok (.putfield 164, 3)) rfl,
  zs_ret hX hR (by decide +kernel : decode prog_14_method_8_code 371 = .ok (.return_, 1)), trivial⟩
theorem k_X12_nextToken {l : Launch} {D : va_G} {ad : Nat → Nat → Nat} {cy : Nat → ClassId} {L : List (Nat × Nat)} (hcl : zclo L = true) (hinj : zAd ad L) : zCk l D ad cy L 2 f_X12_nextToken y_X12_nextToken (.code y_X12_nextToken prog_14_method_8_code 2 none) :=
  z_met (by decide) t_X12_nextToken hcl hinj (fun X hX hR hl k => zgs_all (Q := zSo X) (c := [(40, p_X12_nextToken_0), (76, p_X12_nextToken_1), (112, p_X12_nextToken_2), (155, p_X12_nextToken_3), (191, p_X12_nextToken_4), (230, p_X12_nextToken_5), (271, p_X12_nextToken_6), (306, p_X12_nextToken_7), (341, p_X12_nextToken_8), (372, p_X12_nextToken_9)]) (fun _ => zs_bad) ⟨s_X12_nextToken_0 hcl hinj hX hR hl, s_X12_nextToken_1 hcl hinj hX hR hl, s_X12_nextToken_2 hcl hinj hX hR hl, s_X12_nextToken_3 hcl hinj hX hR hl, s_X12_nextToken_4 hcl hinj hX hR hl, s_X12_nextToken_5 hcl hinj hX hR hl, s_X12_nextToken_6 hcl hinj hX hR hl, s_X12_nextToken_7 hcl hinj hX hR hl, s_X12_nextToken_8 hcl hinj hX hR hl, s_X12_nextToken_9 hcl hinj hX hR hl, trivial⟩ k)
set_option maxRecDepth 1000000 in
theorem e_X12_nextToken_0 (o1 : Option zV) (h : zH) : zL p_X12_nextToken 0 [some (.inr (.inr (12, 0))), o1] [] h = zf ((h.1 12 0 4) < (h.1 12 0 3)) (zf (vp_in (h.1 12 0 4) 1000) (zf ((h.1 38 0 (h.1 12 0 4).toNatClampNeg) = 32) (zL p_X12_nextToken 0 [some (.inr (.inr (12, 0))), none] [] (zuI h 12 0 4 ((h.1 12 0 4) + (1 : Int32)))) (zf (vp_in (h.1 12 0 4) 1000) (zf ((h.1 38 0 (h.1 12 0 4).toNatClampNeg) = 10) (zL p_X12_nextToken 0 [some (.inr (.inr (12, 0))), none] [] (zuI h 12 0 4 ((h.1 12 0 4) + (1 : Int32)))) (zL p_X12_nextToken 52 [some (.inr (.inr (12, 0))), none] [] h)) none)) none) (zL p_X12_nextToken 52 [some (.inr (.inr (12, 0))), none] [] h) := (zL_s (t_X12_nextToken) [0, 52, 109, 188, 224, 299, 322, 345] 1000 0 _ _ _).trans rfl
theorem g_X12_nextToken (h : zH) : f_X12_nextToken [(.inr (.inr (12, 0)))] h = zf ((h.1 12 0 4) < (h.1 12 0 3)) (zf (vp_in (h.1 12 0 4) 1000) (zf ((h.1 38 0 (h.1 12 0 4).toNatClampNeg) = 32) (zL p_X12_nextToken 0 [some (.inr (.inr (12, 0))), none] [] (zuI h 12 0 4 ((h.1 12 0 4) + (1 : Int32)))) (zf (vp_in (h.1 12 0 4) 1000) (zf ((h.1 38 0 (h.1 12 0 4).toNatClampNeg) = 10) (zL p_X12_nextToken 0 [some (.inr (.inr (12, 0))), none] [] (zuI h 12 0 4 ((h.1 12 0 4) + (1 : Int32)))) (zL p_X12_nextToken 52 [some (.inr (.inr (12, 0))), none] [] h)) none)) none) (zL p_X12_nextToken 52 [some (.inr (.inr (12, 0))), none] [] h) := (show f_X12_nextToken _ h = zL p_X12_nextToken 0 _ [] h from rfl).trans (e_X12_nextToken_0 none h)
set_option maxRecDepth 1000000 in
theorem e_X12_nextToken_52 (o1 : Option zV) (h : zH) : zL p_X12_nextToken 52 [some (.inr (.inr (12, 0))), o1] [] h = zf ((h.1 12 0 4) = (h.1 12 0 3)) (some (none, (zuI (zuI (zuJ (zuI h 12 0 5 (h.1 12 0 4)) 12 0 7 0) 12 0 8 0) 12 0 6 0))) (zf (vp_in (h.1 12 0 4) 1000) (zf ((h.1 38 0 (h.1 12 0 4).toNatClampNeg) < 97) (zf ((h.1 38 0 (h.1 12 0 4).toNatClampNeg) < 48) (zL p_X12_nextToken 322 [some (.inr (.inr (12, 0))), some (.inl (h.1 38 0 (h.1 12 0 4).toNatClampNeg))] [] (zuI (zuJ (zuI h 12 0 5 (h.1 12 0 4)) 12 0 7 0) 12 0 8 0)) (zf (57 < (h.1 38 0 (h.1 12 0 4).toNatClampNeg)) (zL p_X12_nextToken 322 [some (.inr (.inr (12, 0))), some (.inl (h.1 38 0 (h.1 12 0 4).toNatClampNeg))] [] (zuI (zuJ (zuI h 12 0 5 (h.1 12 0 4)) 12 0 7 0) 12 0 8 0)) (zL p_X12_nextToken 224 [some (.inr (.inr (12, 0))), some (.inl (h.1 38 0 (h.1 12 0 4).toNatClampNeg))] [] (zuI (zuJ (zuI h 12 0 5 (h.1 12 0 4)) 12 0 7 0) 12 0 8 0)))) (zf (122 < (h.1 38 0 (h.1 12 0 4).toNatClampNeg)) (zf ((h.1 38 0 (h.1 12 0 4).toNatClampNeg) < 48) (zL p_X12_nextToken 322 [some (.inr (.inr (12, 0))), some (.inl (h.1 38 0 (h.1 12 0 4).toNatClampNeg))] [] (zuI (zuJ (zuI h 12 0 5 (h.1 12 0 4)) 12 0 7 0) 12 0 8 0)) (zf (57 < (h.1 38 0 (h.1 12 0 4).toNatClampNeg)) (zL p_X12_nextToken 322 [some (.inr (.inr (12, 0))), some (.inl (h.1 38 0 (h.1 12 0 4).toNatClampNeg))] [] (zuI (zuJ (zuI h 12 0 5 (h.1 12 0 4)) 12 0 7 0) 12 0 8 0)) (zL p_X12_nextToken 224 [some (.inr (.inr (12, 0))), some (.inl (h.1 38 0 (h.1 12 0 4).toNatClampNeg))] [] (zuI (zuJ (zuI h 12 0 5 (h.1 12 0 4)) 12 0 7 0) 12 0 8 0)))) (zL p_X12_nextToken 109 [some (.inr (.inr (12, 0))), some (.inl (h.1 38 0 (h.1 12 0 4).toNatClampNeg))] [] (zuI (zuJ (zuI h 12 0 5 (h.1 12 0 4)) 12 0 7 0) 12 0 8 0)))) none) := (zL_s (t_X12_nextToken) [0, 52, 109, 188, 224, 299, 322, 345] 1000 52 _ _ _).trans rfl
set_option maxRecDepth 1000000 in
theorem e_X12_nextToken_109 (o1 : Option zV) (h : zH) : zL p_X12_nextToken 109 [some (.inr (.inr (12, 0))), o1] [] h = zci (f_X12_signAt [(.inr (.inr (12, 0))), (.inl (h.1 12 0 4))] h) (fun r2 h1 => zf (r2 < 97) (zL p_X12_nextToken 188 [some (.inr (.inr (12, 0))), none] [] h1) (zci (f_X12_signAt [(.inr (.inr (12, 0))), (.inl (h1.1 12 0 4))] h1) (fun r4 h3 => zf (122 < r4) (zL p_X12_nextToken 188 [some (.inr (.inr (12, 0))), none] [] h3) (zf (((h3.1 12 0 4) - (h3.1 12 0 5)) < 8) (zci (f_X12_signAt [(.inr (.inr (12, 0))), (.inl (h3.1 12 0 4))] h3) (fun r6 h5 => zL p_X12_nextToken 109 [some (.inr (.inr (12, 0))), none] [] (zuI (zuJ h5 12 0 7 ((((h3.2 12 0 7) * (27 : Int64)) + (r6.toInt64)) - (96 : Int64))) 12 0 4 ((h5.1 12 0 4) + (1 : Int32))))) (zL p_X12_nextToken 109 [some (.inr (.inr (12, 0))), none] [] (zuI h3 12 0 4 ((h3.1 12 0 4) + (1 : Int32)))))))) := (zL_s (t_X12_nextToken) [0, 52, 109, 188, 224, 299, 322, 345] 1000 109 _ _ _).trans rfl
set_option maxRecDepth 1000000 in
theorem e_X12_nextToken_188 (o1 : Option zV) (h : zH) : zL p_X12_nextToken 188 [some (.inr (.inr (12, 0))), o1] [] h = zf (8 < ((h.1 12 0 4) - (h.1 12 0 5))) (some (none, (zuI h 12 0 6 4))) (some (none, (zuI h 12 0 6 1))) := (zL_s (t_X12_nextToken) [0, 52, 109, 188, 224, 299, 322, 345] 1000 188 _ _ _).trans rfl
set_option maxRecDepth 1000000 in
theorem e_X12_nextToken_224 (o1 : Option zV) (h : zH) : zL p_X12_nextToken 224 [some (.inr (.inr (12, 0))), o1] [] h = zci (f_X12_signAt [(.inr (.inr (12, 0))), (.inl (h.1 12 0 4))] h) (fun r2 h1 => zf (r2 < 48) (zL p_X12_nextToken 299 [some (.inr (.inr (12, 0))), none] [] h1) (zci (f_X12_signAt [(.inr (.inr (12, 0))), (.inl (h1.1 12 0 4))] h1) (fun r4 h3 => zf (57 < r4) (zL p_X12_nextToken 299 [some (.inr (.inr (12, 0))), none] [] h3) (zf (((h3.1 12 0 4) - (h3.1 12 0 5)) < 4) (zci (f_X12_signAt [(.inr (.inr (12, 0))), (.inl (h3.1 12 0 4))] h3) (fun r6 h5 => zL p_X12_nextToken 224 [some (.inr (.inr (12, 0))), none] [] (zuI (zuI h5 12 0 8 ((((h3.1 12 0 8) * (10 : Int32)) + r6) - (48 : Int32))) 12 0 4 ((h5.1 12 0 4) + (1 : Int32))))) (zL p_X12_nextToken 224 [some (.inr (.inr (12, 0))), none] [] (zuI h3 12 0 4 ((h3.1 12 0 4) + (1 : Int32)))))))) := (zL_s (t_X12_nextToken) [0, 52, 109, 188, 224, 299, 322, 345] 1000 224 _ _ _).trans rfl
set_option maxRecDepth 1000000 in
theorem e_X12_nextToken_299 (o1 : Option zV) (h : zH) : zL p_X12_nextToken 299 [some (.inr (.inr (12, 0))), o1] [] h = zf (4 < ((h.1 12 0 4) - (h.1 12 0 5))) (some (none, (zuI h 12 0 6 4))) (some (none, (zuI h 12 0 6 2))) := (zL_s (t_X12_nextToken) [0, 52, 109, 188, 224, 299, 322, 345] 1000 299 _ _ _).trans rfl
set_option maxRecDepth 1000000 in
theorem e_X12_nextToken_322 (x1 : Int32) (h : zH) : zL p_X12_nextToken 322 [some (.inr (.inr (12, 0))), some (.inl x1)] [] h = zf (x1 < 40) (zL p_X12_nextToken 345 [some (.inr (.inr (12, 0))), some (.inl x1)] [(.inr (.inr (12, 0)))] (zuI h 12 0 4 ((h.1 12 0 4) + (1 : Int32)))) (zf (43 < x1) (zL p_X12_nextToken 345 [some (.inr (.inr (12, 0))), some (.inl x1)] [(.inr (.inr (12, 0)))] (zuI h 12 0 4 ((h.1 12 0 4) + (1 : Int32)))) (some (none, (zuI (zuI h 12 0 4 ((h.1 12 0 4) + (1 : Int32))) 12 0 6 3)))) := (zL_s (t_X12_nextToken) [0, 52, 109, 188, 224, 299, 322, 345] 1000 322 _ _ _).trans rfl
set_option maxRecDepth 1000000 in
theorem e_X12_nextToken_345 (o0 : Option zV) (x1 : Int32) (h : zH) : zL p_X12_nextToken 345 [o0, some (.inl x1)] [(.inr (.inr (12, 0)))] h = zf (x1 = 45) (some (none, (zuI h 12 0 6 3))) (zf (x1 < 59) (some (none, (zuI h 12 0 6 4))) (zf (61 < x1) (some (none, (zuI h 12 0 6 4))) (some (none, (zuI h 12 0 6 3))))) := (zL_s (t_X12_nextToken) [0, 52, 109, 188, 224, 299, 322, 345] 1000 345 _ _ _).trans rfl
/-! SoapTreatyModel.isWord(J)Z -/
def y_X12_isWord : MethodName := ⟨"SoapTreatyModel", "isWord", "(J)Z"⟩
noncomputable def p_X12_isWord_0 : List (Nat × zO) := [(0, zo_aload 0 1),
  (1, zo_getI 12 6 4),
  (4, zo_push (.inl 1) 5),
  (5, zo_cne 21 8),
  (8, zo_aload 0 9),
  (9, zo_getJ 12 7 12),
  (12, zo_lload 1 13),
  (13, zo_lcmp 14),
  (14, zo_0ne 21 17),
  (17, zo_push (.inl 1) 18),
  (18, zo_goto 22),
  (21, zo_push (.inl 0) 22),
  (22, zo_zretc)]
noncomputable def p_X12_isWord : Nat → zO := zgs [(23, p_X12_isWord_0)]
theorem t_X12_isWord : ∀ k, zTl (p_X12_isWord k) := fun k => zgs_all (c := [(23, p_X12_isWord_0)]) (fun _ => zl_bad) ⟨⟨zl_aload, zl_getI, zl_push, zl_cne, zl_aload, zl_getJ, zl_lload, zl_lcmp, zl_0ne, zl_push, zl_goto, zl_push, zl_zretc, trivial⟩, trivial⟩ k
noncomputable def f_X12_isWord : zS := zrun p_X12_isWord 3
set_option maxRecDepth 20000 in
theorem s_X12_isWord_0 {l : Launch} {D : va_G} {ad : Nat → Nat → Nat} {cy : Nat → ClassId} {L : List (Nat × Nat)} (hcl : zclo L = true) (hinj : zAd ad L) {X : zCtx} (hX : zXok X "SoapTreatyModel" prog_14_method_9_code 3) (hR : zRt X (some .boolean)) (hl : zXl X l D ad cy L (zroom 1)) : zAllR (zSo X) p_X12_isWord_0 := ⟨zs_aload_n (i := 0) rfl hX (by decide +kernel : decode prog_14_method_9_code 0 = .ok (.aload_n 0, 1)) rfl (by decide),
  zs_getI hX zFL_12_164 (by decide) (by decide) (by decide +kernel : decode prog_14_method_9_code 1 = .ok (.getfield 164, 3)) rfl,
  zs_pushI (zg_iconst (by decide) hX (by decide +kernel : decode prog_14_method_9_code 4 = .ok (.iconst 1, 1)) rfl),
  zs_cne hX (by decide +kernel : decode prog_14_method_9_code 5 = .ok (.if_icmp .ne 16, 3)) (by decide) rfl,
  zs_aload_n (i := 0) rfl hX (by decide +kernel : decode prog_14_method_9_code 8 = .ok (.aload_n 0, 1)) rfl (by decide),
  zs_getJ hX zFL_12_157 (by decide +kernel : decode prog_14_method_9_code 9 = .ok (.getfield 157, 3)) rfl,
  zs_lload_n (i := 1) rfl hX (by decide +kernel : decode prog_14_method_9_code 12 = .ok (.lload_n 1, 1)) rfl (by decide),
  zs_lcmp_ (zg_lcmp hX (by decide +kernel : decode prog_14_method_9_code 13 = .ok (.lcmp, 1)) rfl),
  zs_0ne hX (by decide +kernel : decode prog_14_method_9_code 14 = .ok (.ifCond .ne 7, 3)) (by decide) rfl,
  zs_pushI (zg_iconst (by decide) hX (by decide +kernel : decode prog_14_method_9_code 17 = .ok (.iconst 1, 1)) rfl),
  zs_goto hX (by decide +kernel : decode prog_14_method_9_code 18 = .ok (.goto 4, 3)) (by decide),
  zs_pushI (zg_iconst (by decide) hX (by decide +kernel : decode prog_14_method_9_code 21 = .ok (.iconst 0, 1)) rfl),
  zs_zretc hX hR (by decide +kernel : decode prog_14_method_9_code 22 = .ok (.ireturn, 1)), trivial⟩
theorem k_X12_isWord {l : Launch} {D : va_G} {ad : Nat → Nat → Nat} {cy : Nat → ClassId} {L : List (Nat × Nat)} (hcl : zclo L = true) (hinj : zAd ad L) : zCk l D ad cy L 1 f_X12_isWord y_X12_isWord (.code y_X12_isWord prog_14_method_9_code 3 (some .boolean)) :=
  z_met (by decide) t_X12_isWord hcl hinj (fun X hX hR hl k => zgs_all (Q := zSo X) (c := [(23, p_X12_isWord_0)]) (fun _ => zs_bad) ⟨s_X12_isWord_0 hcl hinj hX hR hl, trivial⟩ k)
set_option maxRecDepth 1000000 in
theorem e_X12_isWord_0 (x1 : Int64) (h : zH) : zL p_X12_isWord 0 [some (.inr (.inr (12, 0))), some (.inr (.inl x1)), none] [] h = zf ((h.1 12 0 6) = 1) (zf ((lg_cmp (h.2 12 0 7) x1) = 0) (some (some (.inl 1), h)) (some (some (.inl 0), h))) (some (some (.inl 0), h)) := (zL_s (t_X12_isWord) [0] 1000 0 _ _ _).trans rfl
theorem g_X12_isWord (x1 : Int64) (h : zH) : f_X12_isWord [(.inr (.inr (12, 0))), (.inr (.inl x1))] h = zf ((h.1 12 0 6) = 1) (zf ((lg_cmp (h.2 12 0 7) x1) = 0) (some (some (.inl 1), h)) (some (some (.inl 0), h))) (some (some (.inl 0), h)) := (show f_X12_isWord _ h = zL p_X12_isWord 0 _ [] h from rfl).trans (e_X12_isWord_0 x1 h)
/-! SoapTreatyModel.isSign(I)Z -/
def y_X12_isSign : MethodName := ⟨"SoapTreatyModel", "isSign", "(I)Z"⟩
noncomputable def p_X12_isSign_0 : List (Nat × zO) := [(0, zo_aload 0 1),
  (1, zo_getI 12 6 4),
  (4, zo_push (.inl 3) 5),
  (5, zo_cne 25 8),
  (8, zo_aload 0 9),
  (9, zo_getR 12 38 none 12),
  (12, zo_aload 0 13),
  (13, zo_getI 12 5 16),
  (16, zo_iald 17),
  (17, zo_iload 1 18),
  (18, zo_cne 25 21),
  (21, zo_push (.inl 1) 22),
  (22, zo_goto 26),
  (25, zo_push (.inl 0) 26),
  (26, zo_zretc)]
noncomputable def p_X12_isSign : Nat → zO := zgs [(27, p_X12_isSign_0)]
theorem t_X12_isSign : ∀ k, zTl (p_X12_isSign k) := fun k => zgs_all (c := [(27, p_X12_isSign_0)]) (fun _ => zl_bad) ⟨⟨zl_aload, zl_getI, zl_push, zl_cne, zl_aload, zl_getR, zl_aload, zl_getI, zl_iald, zl_iload, zl_cne, zl_push, zl_goto, zl_push, zl_zretc, trivial⟩, trivial⟩ k
noncomputable def f_X12_isSign : zS := zrun p_X12_isSign 2
set_option maxRecDepth 20000 in
theorem s_X12_isSign_0 {l : Launch} {D : va_G} {ad : Nat → Nat → Nat} {cy : Nat → ClassId} {L : List (Nat × Nat)} (hcl : zclo L = true) (hinj : zAd ad L) {X : zCtx} (hX : zXok X "SoapTreatyModel" prog_14_method_10_code 2) (hR : zRt X (some .boolean)) (hl : zXl X l D ad cy L (zroom 1)) : zAllR (zSo X) p_X12_isSign_0 := ⟨zs_aload_n (i := 0) rfl hX (by decide +kernel : decode prog_14_method_10_code 0 = .ok (.aload_n 0, 1)) rfl (by decide),
  zs_getI hX zFL_12_164 (by decide) (by decide) (by decide +kernel : decode prog_14_method_10_code 1 = .ok (.getfield 164, 3)) rfl,
  zs_pushI (zg_iconst (by decide) hX (by decide +kernel : decode prog_14_method_10_code 4 = .ok (.iconst 3, 1)) rfl),
  zs_cne hX (by decide +kernel : decode prog_14_method_10_code 5 = .ok (.if_icmp .ne 20, 3)) (by decide) rfl,
  zs_aload_n (i := 0) rfl hX (by decide +kernel : decode prog_14_method_10_code 8 = .ok (.aload_n 0, 1)) rfl (by decide),
  zs_getR hX zFL_12_7 (by decide +kernel : decode prog_14_method_10_code 9 = .ok (.getfield 7, 3)) rfl,
  zs_aload_n (i := 0) rfl hX (by decide +kernel : decode prog_14_method_10_code 12 = .ok (.aload_n 0, 1)) rfl (by decide),
  zs_getI hX zFL_12_154 (by decide) (by decide) (by decide +kernel : decode prog_14_method_10_code 13 = .ok (.getfield 154, 3)) rfl,
  zs_iald hX (by decide +kernel : decode prog_14_method_10_code 16 = .ok (.iaload, 1)) rfl,
  zs_iload_n (i := 1) rfl hX (by decide +kernel : decode prog_14_method_10_code 17 = .ok (.iload_n 1, 1)) rfl (by decide),
  zs_cne hX (by decide +kernel : decode prog_14_method_10_code 18 = .ok (.if_icmp .ne 7, 3)) (by decide) rfl,
  zs_pushI (zg_iconst (by decide) hX (by decide +kernel : decode prog_14_method_10_code 21 = .ok (.iconst 1, 1)) rfl),
  zs_goto hX (by decide +kernel : decode prog_14_method_10_code 22 = .ok (.goto 4, 3)) (by decide),
  zs_pushI (zg_iconst (by decide) hX (by decide +kernel : decode prog_14_method_10_code 25 = .ok (.iconst 0, 1)) rfl),
  zs_zretc hX hR (by decide +kernel : decode prog_14_method_10_code 26 = .ok (.ireturn, 1)), trivial⟩
theorem k_X12_isSign {l : Launch} {D : va_G} {ad : Nat → Nat → Nat} {cy : Nat → ClassId} {L : List (Nat × Nat)} (hcl : zclo L = true) (hinj : zAd ad L) : zCk l D ad cy L 1 f_X12_isSign y_X12_isSign (.code y_X12_isSign prog_14_method_10_code 2 (some .boolean)) :=
  z_met (by decide) t_X12_isSign hcl hinj (fun X hX hR hl k => zgs_all (Q := zSo X) (c := [(27, p_X12_isSign_0)]) (fun _ => zs_bad) ⟨s_X12_isSign_0 hcl hinj hX hR hl, trivial⟩ k)
set_option maxRecDepth 1000000 in
theorem e_X12_isSign_0 (x1 : Int32) (h : zH) : zL p_X12_isSign 0 [some (.inr (.inr (12, 0))), some (.inl x1)] [] h = zf ((h.1 12 0 6) = 3) (zf (vp_in (h.1 12 0 5) 1000) (zf ((h.1 38 0 (h.1 12 0 5).toNatClampNeg) = x1) (some (some (.inl 1), h)) (some (some (.inl 0), h))) none) (some (some (.inl 0), h)) := (zL_s (t_X12_isSign) [0] 1000 0 _ _ _).trans rfl
theorem g_X12_isSign (x1 : Int32) (h : zH) : f_X12_isSign [(.inr (.inr (12, 0))), (.inl x1)] h = zf ((h.1 12 0 6) = 3) (zf (vp_in (h.1 12 0 5) 1000) (zf ((h.1 38 0 (h.1 12 0 5).toNatClampNeg) = x1) (some (some (.inl 1), h)) (some (some (.inl 0), h))) none) (some (some (.inl 0), h)) := (show f_X12_isSign _ h = zL p_X12_isSign 0 _ [] h from rfl).trans (e_X12_isSign_0 x1 h)
/-! SoapTreatyModel.fails(I)Z -/
def y_X12_fails : MethodName := ⟨"SoapTreatyModel", "fails", "(I)Z"⟩
noncomputable def p_X12_fails_0 : List (Nat × zO) := [(0, zo_aload 0 1),
  (1, zo_iload 1 2),
  (2, zo_push (.inl 16) 4),
  (4, zo_aload 0 5),
  (5, zo_getI 12 5 8),
  (8, zo_ii (fun x y => x * y) 9),
  (9, zo_ii (fun x y => x + y) 10),
  (10, zo_putI 12 9 13),
  (13, zo_push (.inl 0) 14),
  (14, zo_zretc)]
noncomputable def p_X12_fails : Nat → zO := zgs [(15, p_X12_fails_0)]
theorem t_X12_fails : ∀ k, zTl (p_X12_fails k) := fun k => zgs_all (c := [(15, p_X12_fails_0)]) (fun _ => zl_bad) ⟨⟨zl_aload, zl_iload, zl_push, zl_aload, zl_getI, zl_ii, zl_ii, zl_putI, zl_push, zl_zretc, trivial⟩, trivial⟩ k
noncomputable def f_X12_fails : zS := zrun p_X12_fails 2
set_option maxRecDepth 20000 in
theorem s_X12_fails_0 {l : Launch} {D : va_G} {ad : Nat → Nat → Nat} {cy : Nat → ClassId} {L : List (Nat × Nat)} (hcl : zclo L = true) (hinj : zAd ad L) {X : zCtx} (hX : zXok X "SoapTreatyModel" prog_14_method_11_code 2) (hR : zRt X (some .boolean)) (hl : zXl X l D ad cy L (zroom 1)) : zAllR (zSo X) p_X12_fails_0 := ⟨zs_aload_n (i := 0) rfl hX (by decide +kernel : decode prog_14_method_11_code 0 = .ok (.aload_n 0, 1)) rfl (by decide),
  zs_iload_n (i := 1) rfl hX (by decide +kernel : decode prog_14_method_11_code 1 = .ok (.iload_n 1, 1)) rfl (by decide),
  zs_pushI (zg_bipush (by decide) hX (by decide +kernel : decode prog_14_method_11_code 2 = .ok (.bipush 16, 2)) rfl),
  zs_aload_n (i := 0) rfl hX (by decide +kernel : decode prog_14_method_11_code 4 = .ok (.aload_n 0, 1)) rfl (by decide),
  zs_getI hX zFL_12_154 (by decide) (by decide) (by decide +kernel : decode prog_14_method_11_code 5 = .ok (.getfield 154, 3)) rfl,
  zs_ii (zg_imul hX (by decide +kernel : decode prog_14_method_11_code 8 = .ok (.imul, 1)) rfl),
  zs_ii (zg_iadd hX (by decide +kernel : decode prog_14_method_11_code 9 = .ok (.iadd, 1)) rfl),
  zs_putI hX zFP_12_175 (by decide +kernel : decode prog_14_method_11_code 10 = .ok (.putfield 175, 3)) rfl,
  zs_pushI (zg_iconst (by decide) hX (by decide +kernel : decode prog_14_method_11_code 13 = .ok (.iconst 0, 1)) rfl),
  zs_zretc hX hR (by decide +kernel : decode prog_14_method_11_code 14 = .ok (.ireturn, 1)), trivial⟩
theorem k_X12_fails {l : Launch} {D : va_G} {ad : Nat → Nat → Nat} {cy : Nat → ClassId} {L : List (Nat × Nat)} (hcl : zclo L = true) (hinj : zAd ad L) : zCk l D ad cy L 1 f_X12_fails y_X12_fails (.code y_X12_fails prog_14_method_11_code 2 (some .boolean)) :=
  z_met (by decide) t_X12_fails hcl hinj (fun X hX hR hl k => zgs_all (Q := zSo X) (c := [(15, p_X12_fails_0)]) (fun _ => zs_bad) ⟨s_X12_fails_0 hcl hinj hX hR hl, trivial⟩ k)
set_option maxRecDepth 1000000 in
theorem e_X12_fails_0 (x1 : Int32) (h : zH) : zL p_X12_fails 0 [some (.inr (.inr (12, 0))), some (.inl x1)] [] h = some (some (.inl 0), (zuI h 12 0 9 (x1 + ((16 : Int32) * (h.1 12 0 5))))) := (zL_s (t_X12_fails) [0] 1000 0 _ _ _).trans rfl
theorem g_X12_fails (x1 : Int32) (h : zH) : f_X12_fails [(.inr (.inr (12, 0))), (.inl x1)] h = some (some (.inl 0), (zuI h 12 0 9 (x1 + ((16 : Int32) * (h.1 12 0 5))))) := (show f_X12_fails _ h = zL p_X12_fails 0 _ [] h from rfl).trans (e_X12_fails_0 x1 h)
/-! SoapTreatyModel.usual(I)V -/
def y_X12_usual : MethodName := ⟨"SoapTreatyModel", "usual", "(I)V"⟩
noncomputable def p_X12_usual_0 : List (Nat × zO) := [(0, zo_aload 0 1),
  (1, zo_getR 12 39 none 4),
  (4, zo_push (.inl 3) 5),
  (5, zo_iload 1 6),
  (6, zo_ii (fun x y => x * y) 7),
  (7, zo_push (.inl 0) 8),
  (8, zo_ii (fun x y => x + y) 9),
  (9, zo_push (.inl 0) 10),
  (10, zo_iast 11),
  (11, zo_aload 0 12),
  (12, zo_getR 12 39 none 15),
  (15, zo_push (.inl 3) 16),
  (16, zo_iload 1 17),
  (17, zo_ii (fun x y => x * y) 18),
  (18, zo_push (.inl 1) 19),
  (19, zo_ii (fun x y => x + y) 20),
  (20, zo_push (.inl 0) 21),
  (21, zo_iast 22),
  (22, zo_aload 0 23),
  (23, zo_getR 12 39 none 26)]
noncomputable def p_X12_usual_1 : List (Nat × zO) := [(26, zo_push (.inl 3) 27),
  (27, zo_iload 1 28),
  (28, zo_ii (fun x y => x * y) 29),
  (29, zo_push (.inl 2) 30),
  (30, zo_ii (fun x y => x + y) 31),
  (31, zo_push (.inl 2) 32),
  (32, zo_iast 33),
  (33, zo_ret)]
noncomputable def p_X12_usual : Nat → zO := zgs [(24, p_X12_usual_0), (34, p_X12_usual_1)]
theorem t_X12_usual : ∀ k, zTl (p_X12_usual k) := fun k => zgs_all (c := [(24, p_X12_usual_0), (34, p_X12_usual_1)]) (fun _ => zl_bad) ⟨⟨zl_aload, zl_getR, zl_push, zl_iload, zl_ii, zl_push, zl_ii, zl_push, zl_iast, zl_aload, zl_getR, zl_push, zl_iload, zl_ii, zl_push, zl_ii, zl_push, zl_iast, zl_aload, zl_getR, trivial⟩, ⟨zl_push, zl_iload, zl_ii, zl_push, zl_ii, zl_push, zl_iast, zl_ret, trivial⟩, trivial⟩ k
noncomputable def f_X12_usual : zS := zrun p_X12_usual 2
set_option maxRecDepth 20000 in
theorem s_X12_usual_0 {l : Launch} {D : va_G} {ad : Nat → Nat → Nat} {cy : Nat → ClassId} {L : List (Nat × Nat)} (hcl : zclo L = true) (hinj : zAd ad L) {X : zCtx} (hX : zXok X "SoapTreatyModel" prog_14_method_12_code 2) (hR : zRt X none) (hl : zXl X l D ad cy L (zroom 1)) : zAllR (zSo X) p_X12_usual_0 := ⟨zs_aload_n (i := 0) rfl hX (by decide +kernel : decode prog_14_method_12_code 0 = .ok (.aload_n 0, 1)) rfl (by decide),
  zs_getR hX zFL_12_13 (by decide +kernel : decode prog_14_method_12_code 1 = .ok (.getfield 13, 3)) rfl,
  zs_pushI (zg_iconst (by decide) hX (by decide +kernel : decode prog_14_method_12_code 4 = .ok (.iconst 3, 1)) rfl),
  zs_iload_n (i := 1) rfl hX (by decide +kernel : decode prog_14_method_12_code 5 = .ok (.iload_n 1, 1)) rfl (by decide),
  zs_ii (zg_imul hX (by decide +kernel : decode prog_14_method_12_code 6 = .ok (.imul, 1)) rfl),
  zs_pushI (zg_iconst (by decide) hX (by decide +kernel : decode prog_14_method_12_code 7 = .ok (.iconst 0, 1)) rfl),
  zs_ii (zg_iadd hX (by decide +kernel : decode prog_14_method_12_code 8 = .ok (.iadd, 1)) rfl),
  zs_pushI (zg_iconst (by decide) hX (by decide +kernel : decode prog_14_method_12_code 9 = .ok (.iconst 0, 1)) rfl),
  zs_iast hX (by decide +kernel : decode prog_14_method_12_code 10 = .ok (.iastore, 1)) rfl,
  zs_aload_n (i := 0) rfl hX (by decide +kernel : decode prog_14_method_12_code 11 = .ok (.aload_n 0, 1)) rfl (by decide),
  zs_getR hX zFL_12_13 (by decide +kernel : decode prog_14_method_12_code 12 = .ok (.getfield 13, 3)) rfl,
  zs_pushI (zg_iconst (by decide) hX (by decide +kernel : decode prog_14_method_12_code 15 = .ok (.iconst 3, 1)) rfl),
  zs_iload_n (i := 1) rfl hX (by decide +kernel : decode prog_14_method_12_code 16 = .ok (.iload_n 1, 1)) rfl (by decide),
  zs_ii (zg_imul hX (by decide +kernel : decode prog_14_method_12_code 17 = .ok (.imul, 1)) rfl),
  zs_pushI (zg_iconst (by decide) hX (by decide +kernel : decode prog_14_method_12_code 18 = .ok (.iconst 1, 1)) rfl),
  zs_ii (zg_iadd hX (by decide +kernel : decode prog_14_method_12_code 19 = .ok (.iadd, 1)) rfl),
  zs_pushI (zg_iconst (by decide) hX (by decide +kernel : decode prog_14_method_12_code 20 = .ok (.iconst 0, 1)) rfl),
  zs_iast hX (by decide +kernel : decode prog_14_method_12_code 21 = .ok (.iastore, 1)) rfl,
  zs_aload_n (i := 0) rfl hX (by decide +kernel : decode prog_14_method_12_code 22 = .ok (.aload_n 0, 1)) rfl (by decide),
  zs_getR hX zFL_12_13 (by decide +kernel : decode prog_14_method_12_code 23 = .ok (.getfield 13, 3)) rfl, trivial⟩
set_option maxRecDepth 20000 in
theorem s_X12_usual_1 {l : Launch} {D : va_G} {ad : Nat → Nat → Nat} {cy : Nat → ClassId} {L : List (Nat × Nat)} (hcl : zclo L = true) (hinj : zAd ad L) {X : zCtx} (hX : zXok X "SoapTreatyModel" prog_14_method_12_code 2) (hR : zRt X none) (hl : zXl X l D ad cy L (zroom 1)) : zAllR (zSo X) p_X12_usual_1 := ⟨zs_pushI (zg_iconst (by decide) hX (by decide +kernel : decode prog_14_method_12_code 26 = .ok (.iconst 3, 1)) rfl),
  zs_iload_n (i := 1) rfl hX (by decide +kernel : decode prog_14_method_12_code 27 = .ok (.iload_n 1, 1)) rfl (by decide),
  zs_ii (zg_imul hX (by decide +kernel : decode prog_14_method_12_code 28 = .ok (.imul, 1)) rfl),
  zs_pushI (zg_iconst (by decide) hX (by decide +kernel : decode prog_14_method_12_code 29 = .ok (.iconst 2, 1)) rfl),
  zs_ii (zg_iadd hX (by decide +kernel : decode prog_14_method_12_code 30 = .ok (.iadd, 1)) rfl),
  zs_pushI (zg_iconst (by decide) hX (by decide +kernel : decode prog_14_method_12_code 31 = .ok (.iconst 2, 1)) rfl),
  zs_iast hX (by decide +kernel : decode prog_14_method_12_code 32 = .ok (.iastore, 1)) rfl,
  zs_ret hX hR (by decide +kernel : decode prog_14_method_12_code 33 = .ok (.return_, 1)), trivial⟩
theorem k_X12_usual {l : Launch} {D : va_G} {ad : Nat → Nat → Nat} {cy : Nat → ClassId} {L : List (Nat × Nat)} (hcl : zclo L = true) (hinj : zAd ad L) : zCk l D ad cy L 1 f_X12_usual y_X12_usual (.code y_X12_usual prog_14_method_12_code 2 none) :=
  z_met (by decide) t_X12_usual hcl hinj (fun X hX hR hl k => zgs_all (Q := zSo X) (c := [(24, p_X12_usual_0), (34, p_X12_usual_1)]) (fun _ => zs_bad) ⟨s_X12_usual_0 hcl hinj hX hR hl, s_X12_usual_1 hcl hinj hX hR hl, trivial⟩ k)
set_option maxRecDepth 1000000 in
theorem e_X12_usual_0 (x1 : Int32) (h : zH) : zL p_X12_usual 0 [some (.inr (.inr (12, 0))), some (.inl x1)] [] h = zf (vp_in (((3 : Int32) * x1) + (0 : Int32)) 6) (zf (vp_in (((3 : Int32) * x1) + (1 : Int32)) 6) (zf (vp_in (((3 : Int32) * x1) + (2 : Int32)) 6) (some (none, (zuI (zuI (zuI h 39 0 (((3 : Int32) * x1) + (0 : Int32)).toNatClampNeg 0) 39 0 (((3 : Int32) * x1) + (1 : Int32)).toNatClampNeg 0) 39 0 (((3 : Int32) * x1) + (2 : Int32)).toNatClampNeg 2))) none) none) none := (zL_s (t_X12_usual) [0] 1000 0 _ _ _).trans rfl
theorem g_X12_usual (x1 : Int32) (h : zH) : f_X12_usual [(.inr (.inr (12, 0))), (.inl x1)] h = zf (vp_in (((3 : Int32) * x1) + (0 : Int32)) 6) (zf (vp_in (((3 : Int32) * x1) + (1 : Int32)) 6) (zf (vp_in (((3 : Int32) * x1) + (2 : Int32)) 6) (some (none, (zuI (zuI (zuI h 39 0 (((3 : Int32) * x1) + (0 : Int32)).toNatClampNeg 0) 39 0 (((3 : Int32) * x1) + (1 : Int32)).toNatClampNeg 0) 39 0 (((3 : Int32) * x1) + (2 : Int32)).toNatClampNeg 2))) none) none) none := (show f_X12_usual _ h = zL p_X12_usual 0 _ [] h from rfl).trans (e_X12_usual_0 x1 h)
/-! SoapTreatyModel.puts(I)V -/
def y_X12_puts : MethodName := ⟨"SoapTreatyModel", "puts", "(I)V"⟩
noncomputable def p_X12_puts_0 : List (Nat × zO) := [(0, zo_aload 0 1),
  (1, zo_getR 12 51 none 4),
  (4, zo_aload 0 5),
  (5, zo_getI 12 23 8),
  (8, zo_iload 1 9),
  (9, zo_iast 10),
  (10, zo_aload 0 11),
  (11, zo_dup 12),
  (12, zo_getI 12 23 15),
  (15, zo_push (.inl 1) 16),
  (16, zo_ii (fun x y => x + y) 17),
  (17, zo_putI 12 23 20),
  (20, zo_ret)]
noncomputable def p_X12_puts : Nat → zO := zgs [(21, p_X12_puts_0)]
theorem t_X12_puts : ∀ k, zTl (p_X12_puts k) := fun k => zgs_all (c := [(21, p_X12_puts_0)]) (fun _ => zl_bad) ⟨⟨zl_aload, zl_getR, zl_aload, zl_getI, zl_iload, zl_iast, zl_aload, zl_dup, zl_getI, zl_push, zl_ii, zl_putI, zl_ret, trivial⟩, trivial⟩ k
noncomputable def f_X12_puts : zS := zrun p_X12_puts 2
set_option maxRecDepth 20000 in
theorem s_X12_puts_0 {l : Launch} {D : va_G} {ad : Nat → Nat → Nat} {cy : Nat → ClassId} {L : List (Nat × Nat)} (hcl : zclo L = true) (hinj : zAd ad L) {X : zCtx} (hX : zXok X "SoapTreatyModel" prog_14_method_13_code 2) (hR : zRt X none) (hl : zXl X l D ad cy L (zroom 1)) : zAllR (zSo X) p_X12_puts_0 := ⟨zs_aload_n (i := 0) rfl hX (by decide +kernel : decode prog_14_method_13_code 0 = .ok (.aload_n 0, 1)) rfl (by decide),
  zs_getR hX zFL_12_50 (by decide +kernel : decode prog_14_method_13_code 1 = .ok (.getfield 50, 3)) rfl,
  zs_aload_n (i := 0) rfl hX (by decide +kernel : decode prog_14_method_13_code 4 = .ok (.aload_n 0, 1)) rfl (by decide),
  zs_getI hX zFL_12_178 (by decide) (by decide) (by decide +kernel : decode prog_14_method_13_code 5 = .ok (.getfield 178, 3)) rfl,
  zs_iload_n (i := 1) rfl hX (by decide +kernel : decode prog_14_method_13_code 8 = .ok (.iload_n 1, 1)) rfl (by decide),
  zs_iast hX (by decide +kernel : decode prog_14_method_13_code 9 = .ok (.iastore, 1)) rfl,
  zs_aload_n (i := 0) rfl hX (by decide +kernel : decode prog_14_method_13_code 10 = .ok (.aload_n 0, 1)) rfl (by decide),
  zs_dup hX (by decide +kernel : decode prog_14_method_13_code 11 = .ok (.dup, 1)) rfl,
  zs_getI hX zFL_12_178 (by decide) (by decide) (by decide +kernel : decode prog_14_method_13_code 12 = .ok (.getfield 178, 3)) rfl,
  zs_pushI (zg_iconst (by decide) hX (by decide +kernel : decode prog_14_method_13_code 15 = .ok (.iconst 1, 1)) rfl),
  zs_ii (zg_iadd hX (by decide +kernel : decode prog_14_method_13_code 16 = .ok (.iadd, 1)) rfl),
  zs_putI hX zFP_12_178 (by decide +kernel : decode prog_14_method_13_code 17 = .ok (.putfield 178, 3)) rfl,
  zs_ret hX hR (by decide +kernel : decode prog_14_method_13_code 20 = .ok (.return_, 1)), trivial⟩
theorem k_X12_puts {l : Launch} {D : va_G} {ad : Nat → Nat → Nat} {cy : Nat → ClassId} {L : List (Nat × Nat)} (hcl : zclo L = true) (hinj : zAd ad L) : zCk l D ad cy L 1 f_X12_puts y_X12_puts (.code y_X12_puts prog_14_method_13_code 2 none) :=
  z_met (by decide) t_X12_puts hcl hinj (fun X hX hR hl k => zgs_all (Q := zSo X) (c := [(21, p_X12_puts_0)]) (fun _ => zs_bad) ⟨s_X12_puts_0 hcl hinj hX hR hl, trivial⟩ k)
set_option maxRecDepth 1000000 in
theorem e_X12_puts_0 (x1 : Int32) (h : zH) : zL p_X12_puts 0 [some (.inr (.inr (12, 0))), some (.inl x1)] [] h = zf (vp_in (h.1 12 0 23) 2000) (some (none, (zuI (zuI h 51 0 (h.1 12 0 23).toNatClampNeg x1) 12 0 23 ((h.1 12 0 23) + (1 : Int32))))) none := (zL_s (t_X12_puts) [0] 1000 0 _ _ _).trans rfl
theorem g_X12_puts (x1 : Int32) (h : zH) : f_X12_puts [(.inr (.inr (12, 0))), (.inl x1)] h = zf (vp_in (h.1 12 0 23) 2000) (some (none, (zuI (zuI h 51 0 (h.1 12 0 23).toNatClampNeg x1) 12 0 23 ((h.1 12 0 23) + (1 : Int32))))) none := (show f_X12_puts _ h = zL p_X12_puts 0 _ [] h from rfl).trans (e_X12_puts_0 x1 h)
/-! SoapTreatyModel.fact()I -/
def y_X12_fact : MethodName := ⟨"SoapTreatyModel", "fact", "()I"⟩
noncomputable def p_X12_fact_0 : List (Nat × zO) := [(0, zo_aload 0 1),
  (1, zo_getI 12 6 4),
  (4, zo_push (.inl 1) 5),
  (5, zo_ceq 10 8),
  (8, zo_push (.inl 0) 9),
  (9, zo_iret),
  (10, zo_aload 0 11),
  (11, zo_getJ 12 7 14),
  (14, zo_push (.inr (.inl 240023)) 17),
  (17, zo_lcmp 18),
  (18, zo_0ne 23 21),
  (21, zo_push (.inl 1) 22),
  (22, zo_iret),
  (23, zo_aload 0 24),
  (24, zo_getJ 12 7 27),
  (27, zo_push (.inr (.inl 10939571)) 30),
  (30, zo_lcmp 31),
  (31, zo_0ne 36 34),
  (34, zo_push (.inl 2) 35),
  (35, zo_iret)]
noncomputable def p_X12_fact_1 : List (Nat × zO) := [(36, zo_aload 0 37),
  (37, zo_getJ 12 7 40),
  (40, zo_push (.inr (.inl 16922)) 43),
  (43, zo_lcmp 44),
  (44, zo_0ne 51 47),
  (47, zo_push (.inl 3) 48),
  (48, zo_goto 67),
  (51, zo_aload 0 52),
  (52, zo_getJ 12 7 55),
  (55, zo_push (.inr (.inl 427333)) 58),
  (58, zo_lcmp 59),
  (59, zo_0ne 66 62),
  (62, zo_push (.inl 4) 63),
  (63, zo_goto 67),
  (66, zo_push (.inl 0) 67),
  (67, zo_iret)]
noncomputable def p_X12_fact : Nat → zO := zgs [(36, p_X12_fact_0), (68, p_X12_fact_1)]
theorem t_X12_fact : ∀ k, zTl (p_X12_fact k) := fun k => zgs_all (c := [(36, p_X12_fact_0), (68, p_X12_fact_1)]) (fun _ => zl_bad) ⟨⟨zl_aload, zl_getI, zl_push, zl_ceq, zl_push, zl_iret, zl_aload, zl_getJ, zl_push, zl_lcmp, zl_0ne, zl_push, zl_iret, zl_aload, zl_getJ, zl_push, zl_lcmp, zl_0ne, zl_push, zl_iret, trivial⟩, ⟨zl_aload, zl_getJ, zl_push, zl_lcmp, zl_0ne, zl_push, zl_goto, zl_aload, zl_getJ, zl_push, zl_lcmp, zl_0ne, zl_push, zl_goto, zl_push, zl_iret, trivial⟩, trivial⟩ k
noncomputable def f_X12_fact : zS := zrun p_X12_fact 1
set_option maxRecDepth 20000 in
theorem s_X12_fact_0 {l : Launch} {D : va_G} {ad : Nat → Nat → Nat} {cy : Nat → ClassId} {L : List (Nat × Nat)} (hcl : zclo L = true) (hinj : zAd ad L) {X : zCtx} (hX : zXok X "SoapTreatyModel" prog_14_method_14_code 1) (hR : zRt X (some .int)) (hl : zXl X l D ad cy L (zroom 1)) : zAllR (zSo X) p_X12_fact_0 := ⟨zs_aload_n (i := 0) rfl hX (by decide +kernel : decode prog_14_method_14_code 0 = .ok (.aload_n 0, 1)) rfl (by decide),
  zs_getI hX zFL_12_164 (by decide) (by decide) (by decide +kernel : decode prog_14_method_14_code 1 = .ok (.getfield 164, 3)) rfl,
  zs_pushI (zg_iconst (by decide) hX (by decide +kernel : decode prog_14_method_14_code 4 = .ok (.iconst 1, 1)) rfl),
  zs_ceq hX (by decide +kernel : decode prog_14_method_14_code 5 = .ok (.if_icmp .eq 5, 3)) (by decide) rfl,
  zs_pushI (zg_iconst (by decide) hX (by decide +kernel : decode prog_14_method_14_code 8 = .ok (.iconst 0, 1)) rfl),
  zs_iret hX hR (by decide +kernel : decode prog_14_method_14_code 9 = .ok (.ireturn, 1)),
  zs_aload_n (i := 0) rfl hX (by decide +kernel : decode prog_14_method_14_code 10 = .ok (.aload_n 0, 1)) rfl (by decide),
  zs_getJ hX zFL_12_157 (by decide +kernel : decode prog_14_method_14_code 11 = .ok (.getfield 157, 3)) rfl,
  zs_pushJ (zg_ldc2 (zT_of 1505 (by decide +kernel) (by decide +kernel)) hX (by decide +kernel : decode prog_14_method_14_code 14 = .ok (.ldc2_w 181, 3)) rfl),
  zs_lcmp_ (zg_lcmp hX (by decide +kernel : decode prog_14_method_14_code 17 = .ok (.lcmp, 1)) rfl),
  zs_0ne hX (by decide +kernel : decode prog_14_method_14_code 18 = .ok (.ifCond .ne 5, 3)) (by decide) rfl,
  zs_pushI (zg_iconst (by decide) hX (by decide +kernel : decode prog_14_method_14_code 21 = .ok (.iconst 1, 1)) rfl),
  zs_iret hX hR (by decide +kernel : decode prog_14_method_14_code 22 = .ok (.ireturn, 1)),
  zs_aload_n (i := 0) rfl hX (by decide +kernel : decode prog_14_method_14_code 23 = .ok (.aload_n 0, 1)) rfl (by decide),
  zs_getJ hX zFL_12_157 (by decide +kernel : decode prog_14_method_14_code 24 = .ok (.getfield 157, 3)) rfl,
  zs_pushJ (zg_ldc2 (zT_of 1506 (by decide +kernel) (by decide +kernel)) hX (by decide +kernel : decode prog_14_method_14_code 27 = .ok (.ldc2_w 183, 3)) rfl),
  zs_lcmp_ (zg_lcmp hX (by decide +kernel : decode prog_14_method_14_code 30 = .ok (.lcmp, 1)) rfl),
  zs_0ne hX (by decide +kernel : decode prog_14_method_14_code 31 = .ok (.ifCond .ne 5, 3)) (by decide) rfl,
  zs_pushI (zg_iconst (by decide) hX (by decide +kernel : decode prog_14_method_14_code 34 = .ok (.iconst 2, 1)) rfl),
  zs_iret hX hR (by decide +kernel : decode prog_14_method_14_code 35 = .ok (.ireturn, 1)), trivial⟩
set_option maxRecDepth 20000 in
theorem s_X12_fact_1 {l : Launch} {D : va_G} {ad : Nat → Nat → Nat} {cy : Nat → ClassId} {L : List (Nat × Nat)} (hcl : zclo L = true) (hinj : zAd ad L) {X : zCtx} (hX : zXok X "SoapTreatyModel" prog_14_method_14_code 1) (hR : zRt X (some .int)) (hl : zXl X l D ad cy L (zroom 1)) : zAllR (zSo X) p_X12_fact_1 := ⟨zs_aload_n (i := 0) rfl hX (by decide +kernel : decode prog_14_method_14_code 36 = .ok (.aload_n 0, 1)) rfl (by decide),
  zs_getJ hX zFL_12_157 (by decide +kernel : decode prog_14_method_14_code 37 = .ok (.getfield 157, 3)) rfl,
  zs_pushJ (zg_ldc2 (zT_of 1507 (by decide +kernel) (by decide +kernel)) hX (by decide +kernel : decode prog_14_method_14_code 40 = .ok (.ldc2_w 185, 3)) rfl),
  zs_lcmp_ (zg_lcmp hX (by decide +kernel : decode prog_14_method_14_code 43 = .ok (.lcmp, 1)) rfl),
  zs_0ne hX (by decide +kernel : decode prog_14_method_14_code 44 = .ok (.ifCond .ne 7, 3)) (by decide) rfl,
  zs_pushI (zg_iconst (by decide) hX (by decide +kernel : decode prog_14_method_14_code 47 = .ok (.iconst 3, 1)) rfl),
  zs_goto hX (by decide +kernel : decode prog_14_method_14_code 48 = .ok (.goto 19, 3)) (by decide),
  zs_aload_n (i := 0) rfl hX (by decide +kernel : decode prog_14_method_14_code 51 = .ok (.aload_n 0, 1)) rfl (by decide),
  zs_getJ hX zFL_12_157 (by decide +kernel : decode prog_14_method_14_code 52 = .ok (.getfield 157, 3)) rfl,
  zs_pushJ (zg_ldc2 (zT_of 1508 (by decide +kernel) (by decide +kernel)) hX (by decide +kernel : decode prog_14_method_14_code 55 = .ok (.ldc2_w 187, 3)) rfl),
  zs_lcmp_ (zg_lcmp hX (by decide +kernel : decode prog_14_method_14_code 58 = .ok (.lcmp, 1)) rfl),
  zs_0ne hX (by decide +kernel : decode prog_14_method_14_code 59 = .ok (.ifCond .ne 7, 3)) (by decide) rfl,
  zs_pushI (zg_iconst (by decide) hX (by decide +kernel : decode prog_14_method_14_code 62 = .ok (.iconst 4, 1)) rfl),
  zs_goto hX (by decide +kernel : decode prog_14_method_14_code 63 = .ok (.goto 4, 3)) (by decide),
  zs_pushI (zg_iconst (by decide) hX (by decide +kernel : decode prog_14_method_14_code 66 = .ok (.iconst 0, 1)) rfl),
  zs_iret hX hR (by decide +kernel : decode prog_14_method_14_code 67 = .ok (.ireturn, 1)), trivial⟩
theorem k_X12_fact {l : Launch} {D : va_G} {ad : Nat → Nat → Nat} {cy : Nat → ClassId} {L : List (Nat × Nat)} (hcl : zclo L = true) (hinj : zAd ad L) : zCk l D ad cy L 1 f_X12_fact y_X12_fact (.code y_X12_fact prog_14_method_14_code 1 (some .int)) :=
  z_met (by decide) t_X12_fact hcl hinj (fun X hX hR hl k => zgs_all (Q := zSo X) (c := [(36, p_X12_fact_0), (68, p_X12_fact_1)]) (fun _ => zs_bad) ⟨s_X12_fact_0 hcl hinj hX hR hl, s_X12_fact_1 hcl hinj hX hR hl, trivial⟩ k)
set_option maxRecDepth 1000000 in
theorem e_X12_fact_0 (h : zH) : zL p_X12_fact 0 [some (.inr (.inr (12, 0)))] [] h = zf ((h.1 12 0 6) = 1) (zf ((lg_cmp (h.2 12 0 7) (240023 : Int64)) = 0) (some (some (.inl 1), h)) (zf ((lg_cmp (h.2 12 0 7) (10939571 : Int64)) = 0) (some (some (.inl 2), h)) (zf ((lg_cmp (h.2 12 0 7) (16922 : Int64)) = 0) (some (some (.inl 3), h)) (zf ((lg_cmp (h.2 12 0 7) (427333 : Int64)) = 0) (some (some (.inl 4), h)) (some (some (.inl 0), h)))))) (some (some (.inl 0), h)) := (zL_s (t_X12_fact) [0] 1000 0 _ _ _).trans rfl
theorem g_X12_fact (h : zH) : f_X12_fact [(.inr (.inr (12, 0)))] h = zf ((h.1 12 0 6) = 1) (zf ((lg_cmp (h.2 12 0 7) (240023 : Int64)) = 0) (some (some (.inl 1), h)) (zf ((lg_cmp (h.2 12 0 7) (10939571 : Int64)) = 0) (some (some (.inl 2), h)) (zf ((lg_cmp (h.2 12 0 7) (16922 : Int64)) = 0) (some (some (.inl 3), h)) (zf ((lg_cmp (h.2 12 0 7) (427333 : Int64)) = 0) (some (some (.inl 4), h)) (some (some (.inl 0), h)))))) (some (some (.inl 0), h)) := (show f_X12_fact _ h = zL p_X12_fact 0 _ [] h from rfl).trans (e_X12_fact_0 h)
theorem zMV_12_189 : zMV "SoapTreatyModel" 189 12 y_X12_fact prog_14_method_14_code 1 (some .int) 0 := ⟨⟨zT_of 1501 (by decide +kernel) (by decide +kernel), zT_of 1503 (by decide +kernel) (by decide +kernel), zT_of 56 (by decide +kernel) (by decide +kernel), zT_of 118 (by decide +kernel) (by decide +kernel), zT_of 1504 (by decide +kernel) (by decide +kernel)⟩, by decide, rfl, ⟨zT12, 57, rfl⟩, by decide, by decide, by decide +kernel⟩
theorem zMV_12_195 : zMV "SoapTreatyModel" 195 12 y_X12_isWord prog_14_method_9_code 3 (some .boolean) 1 := ⟨⟨zT_of 1400 (by decide +kernel) (by decide +kernel), zT_of 1402 (by decide +kernel) (by decide +kernel), zT_of 37 (by decide +kernel) (by decide +kernel), zT_of 118 (by decide +kernel) (by decide +kernel), zT_of 1403 (by decide +kernel) (by decide +kernel)⟩, by decide, rfl, ⟨zT12, 57, rfl⟩, by decide, by decide, by decide +kernel⟩
theorem zMV_12_199 : zMV "SoapTreatyModel" 199 12 y_X12_isSign prog_14_method_10_code 2 (some .boolean) 1 := ⟨⟨zT_of 1469 (by decide +kernel) (by decide +kernel), zT_of 1471 (by decide +kernel) (by decide +kernel), zT_of 48 (by decide +kernel) (by decide +kernel), zT_of 118 (by decide +kernel) (by decide +kernel), zT_of 1472 (by decide +kernel) (by decide +kernel)⟩, by decide, rfl, ⟨zT12, 57, rfl⟩, by decide, by decide, by decide +kernel⟩
theorem zMV_12_203 : zMV "SoapTreatyModel" 203 12 y_X12_fails prog_14_method_11_code 2 (some .boolean) 1 := ⟨⟨zT_of 1408 (by decide +kernel) (by decide +kernel), zT_of 1410 (by decide +kernel) (by decide +kernel), zT_of 39 (by decide +kernel) (by decide +kernel), zT_of 118 (by decide +kernel) (by decide +kernel), zT_of 1411 (by decide +kernel) (by decide +kernel)⟩, by decide, rfl, ⟨zT12, 57, rfl⟩, by decide, by decide, by decide +kernel⟩
theorem zMV_12_206 : zMV "SoapTreatyModel" 206 12 y_X12_puts prog_14_method_13_code 2 none 1 := ⟨⟨zT_of 1509 (by decide +kernel) (by decide +kernel), zT_of 1511 (by decide +kernel) (by decide +kernel), zT_of 57 (by decide +kernel) (by decide +kernel), zT_of 118 (by decide +kernel) (by decide +kernel), zT_of 1512 (by decide +kernel) (by decide +kernel)⟩, by decide, rfl, ⟨zT12, 57, rfl⟩, by decide, by decide, by decide +kernel⟩
theorem zMV_12_209 : zMV "SoapTreatyModel" 209 12 y_X12_nextToken prog_14_method_8_code 2 none 0 := ⟨⟨zT_of 1389 (by decide +kernel) (by decide +kernel), zT_of 1391 (by decide +kernel) (by decide +kernel), zT_of 35 (by decide +kernel) (by decide +kernel), zT_of 118 (by decide +kernel) (by decide +kernel), zT_of 1392 (by decide +kernel) (by decide +kernel)⟩, by decide, rfl, ⟨zT12, 57, rfl⟩, by decide, by decide, by decide +kernel⟩
/-! SoapTreatyModel.reads()Z -/
def y_X12_reads : MethodName := ⟨"SoapTreatyModel", "reads", "()Z"⟩
noncomputable def p_X12_reads_0 : List (Nat × zO) := [(0, zo_push (.inl 0) 1),
  (1, zo_istore 1 2),
  (2, zo_push (.inl 1) 3),
  (3, zo_istore 2 4),
  (4, zo_aload 0 5),
  (5, zo_getR 12 53 none 8),
  (8, zo_push (.inl 0) 9),
  (9, zo_push (.inl 0) 10),
  (10, zo_zastc 11),
  (11, zo_kill [3, 4, 5] (zo_iload 2 12)),
  (12, zo_0eq 179 15),
  (15, zo_aload 0 16),
  (16, zo_vir 12 1 (zo_calli (f_X12_fact) 1 19)),
  (19, zo_istore 3 20),
  (20, zo_aload 0 21),
  (21, zo_push (.inr (.inl 10631)) 24),
  (24, zo_vir 12 2 (zo_calli (f_X12_isWord) 2 27)),
  (27, zo_istore 4 29),
  (29, zo_aload 0 30),
  (30, zo_push (.inl 40) 32)]
noncomputable def p_X12_reads_1 : List (Nat × zO) := [(32, zo_vir 12 2 (zo_calli (f_X12_isSign) 2 35)),
  (35, zo_istore 5 37),
  (37, zo_iload 3 38),
  (38, zo_0ne 65 41),
  (41, zo_iload 4 43),
  (43, zo_0ne 65 46),
  (46, zo_iload 5 48),
  (48, zo_0ne 65 51),
  (51, zo_aload 0 52),
  (52, zo_getI 12 6 55),
  (55, zo_push (.inl 2) 56),
  (56, zo_ceq 65 59),
  (59, zo_aload 0 60),
  (60, zo_push (.inl 1) 61),
  (61, zo_vir 12 2 (zo_calli (f_X12_fails) 2 64)),
  (64, zo_zret),
  (65, zo_iload 1 66),
  (66, zo_push (.inl 5) 67),
  (67, zo_cne 76 70),
  (70, zo_aload 0 71)]
noncomputable def p_X12_reads_2 : List (Nat × zO) := [(71, zo_push (.inl 5) 72),
  (72, zo_vir 12 2 (zo_calli (f_X12_fails) 2 75)),
  (75, zo_zret),
  (76, zo_iload 4 78),
  (78, zo_0ne 86 81),
  (81, zo_iload 5 83),
  (83, zo_0eq 131 86),
  (86, zo_aload 0 87),
  (87, zo_iload 4 89),
  (89, zo_0eq 97 92),
  (92, zo_push (.inl 30) 94),
  (94, zo_goto 99),
  (97, zo_push (.inl 28) 99),
  (99, zo_kill [3, 5] (zo_vir 12 2 (zo_callv (f_X12_puts) 2 102))),
  (102, zo_iinc 1 1 105),
  (105, zo_aload 0 106),
  (106, zo_getR 12 52 none 109),
  (109, zo_iload 1 110),
  (110, zo_iload 4 112),
  (112, zo_0eq 119 115)]
noncomputable def p_X12_reads_3 : List (Nat × zO) := [(115, zo_push (.inl 1) 116),
  (116, zo_goto 120),
  (119, zo_push (.inl 2) 120),
  (120, zo_kill [3, 4, 5] (zo_iast 121)),
  (121, zo_aload 0 122),
  (122, zo_getR 12 53 none 125),
  (125, zo_iload 1 126),
  (126, zo_push (.inl 0) 127),
  (127, zo_zast 128),
  (128, zo_goto 172),
  (131, zo_aload 0 132),
  (132, zo_iload 3 133),
  (133, zo_0le 140 136),
  (136, zo_iload 3 137),
  (137, zo_goto 147),
  (140, zo_push (.inl 100) 142),
  (142, zo_aload 0 143),
  (143, zo_getI 12 8 146),
  (146, zo_ii (fun x y => x + y) 147),
  (147, zo_kill [2, 3, 4, 5] (zo_vir 12 2 (zo_callv (f_X12_puts) 2 150)))]
noncomputable def p_X12_reads_4 : List (Nat × zO) := [(150, zo_push (.inl 0) 151),
  (151, zo_istore 2 152),
  (152, zo_kill [3, 4, 5] (zo_iload 1 153)),
  (153, zo_0le 172 156),
  (156, zo_aload 0 157),
  (157, zo_getR 12 52 none 160),
  (160, zo_iload 1 161),
  (161, zo_iald 162),
  (162, zo_push (.inl 1) 163),
  (163, zo_cne 172 166),
  (166, zo_iinc 1 zm1 169),
  (169, zo_goto 152),
  (172, zo_aload 0 173),
  (173, zo_vir 12 1 (zo_callv (f_X12_nextToken) 1 176)),
  (176, zo_goto 11),
  (179, zo_aload 0 180),
  (180, zo_push (.inl 43) 182),
  (182, zo_vir 12 2 (zo_calli (f_X12_isSign) 2 185)),
  (185, zo_0ne 206 188),
  (188, zo_aload 0 189)]
noncomputable def p_X12_reads_5 : List (Nat × zO) := [(189, zo_push (.inl 45) 191),
  (191, zo_vir 12 2 (zo_calli (f_X12_isSign) 2 194)),
  (194, zo_0ne 206 197),
  (197, zo_aload 0 198),
  (198, zo_push (.inl 42) 200),
  (200, zo_vir 12 2 (zo_calli (f_X12_isSign) 2 203)),
  (203, zo_0eq 245 206),
  (206, zo_kill [2, 3, 4, 5] (zo_aload 0 207)),
  (207, zo_aload 0 208),
  (208, zo_push (.inl 43) 210),
  (210, zo_vir 12 2 (zo_calli (f_X12_isSign) 2 213)),
  (213, zo_0eq 221 216),
  (216, zo_push (.inl 20) 218),
  (218, zo_goto 237),
  (221, zo_aload 0 222),
  (222, zo_push (.inl 45) 224),
  (224, zo_vir 12 2 (zo_calli (f_X12_isSign) 2 227)),
  (227, zo_0eq 235 230),
  (230, zo_push (.inl 21) 232),
  (232, zo_goto 237)]
noncomputable def p_X12_reads_6 : List (Nat × zO) := [(235, zo_push (.inl 22) 237),
  (237, zo_kill [2, 3, 4, 5] (zo_vir 12 2 (zo_callv (f_X12_puts) 2 240))),
  (240, zo_push (.inl 1) 241),
  (241, zo_istore 2 242),
  (242, zo_goto 424),
  (245, zo_aload 0 246),
  (246, zo_push (.inl 60) 248),
  (248, zo_vir 12 2 (zo_calli (f_X12_isSign) 2 251)),
  (251, zo_0ne 263 254),
  (254, zo_aload 0 255),
  (255, zo_push (.inl 61) 257),
  (257, zo_vir 12 2 (zo_calli (f_X12_isSign) 2 260)),
  (260, zo_0eq 304 263),
  (263, zo_kill [3, 4, 5] (zo_aload 0 264)),
  (264, zo_getR 12 53 none 267),
  (267, zo_iload 1 268),
  (268, zo_zald 269),
  (269, zo_0ne 304 272),
  (272, zo_aload 0 273),
  (273, zo_aload 0 274)]
noncomputable def p_X12_reads_7 : List (Nat × zO) := [(274, zo_push (.inl 60) 276),
  (276, zo_vir 12 2 (zo_calli (f_X12_isSign) 2 279)),
  (279, zo_0eq 287 282),
  (282, zo_push (.inl 24) 284),
  (284, zo_goto 289),
  (287, zo_push (.inl 25) 289),
  (289, zo_kill [2, 3, 4, 5] (zo_vir 12 2 (zo_callv (f_X12_puts) 2 292))),
  (292, zo_aload 0 293),
  (293, zo_getR 12 53 none 296),
  (296, zo_iload 1 297),
  (297, zo_push (.inl 1) 298),
  (298, zo_zast 299),
  (299, zo_push (.inl 1) 300),
  (300, zo_istore 2 301),
  (301, zo_goto 424),
  (304, zo_kill [3, 4, 5] (zo_aload 0 305)),
  (305, zo_push (.inr (.inl 1111)) 308),
  (308, zo_vir 12 2 (zo_calli (f_X12_isWord) 2 311)),
  (311, zo_0ne 324 314),
  (314, zo_aload 0 315)]
noncomputable def p_X12_reads_8 : List (Nat × zO) := [(315, zo_push (.inr (.inl 423)) 318),
  (318, zo_vir 12 2 (zo_calli (f_X12_isWord) 2 321)),
  (321, zo_0eq 357 324),
  (324, zo_aload 0 325),
  (325, zo_aload 0 326),
  (326, zo_push (.inr (.inl 1111)) 329),
  (329, zo_vir 12 2 (zo_calli (f_X12_isWord) 2 332)),
  (332, zo_0eq 340 335),
  (335, zo_push (.inl 26) 337),
  (337, zo_goto 342),
  (340, zo_push (.inl 27) 342),
  (342, zo_kill [2, 3, 4, 5] (zo_vir 12 2 (zo_callv (f_X12_puts) 2 345))),
  (345, zo_aload 0 346),
  (346, zo_getR 12 53 none 349),
  (349, zo_iload 1 350),
  (350, zo_push (.inl 0) 351),
  (351, zo_zast 352),
  (352, zo_push (.inl 1) 353),
  (353, zo_istore 2 354),
  (354, zo_goto 424)]
noncomputable def p_X12_reads_9 : List (Nat × zO) := [(357, zo_aload 0 358),
  (358, zo_push (.inl 41) 360),
  (360, zo_vir 12 2 (zo_calli (f_X12_isSign) 2 363)),
  (363, zo_0eq 399 366),
  (366, zo_iload 1 367),
  (367, zo_0le 399 370),
  (370, zo_aload 0 371),
  (371, zo_push (.inl 29) 373),
  (373, zo_vir 12 2 (zo_callv (f_X12_puts) 2 376)),
  (376, zo_iinc 1 zm1 379),
  (379, zo_kill [3, 4, 5] (zo_iload 1 380)),
  (380, zo_0le 424 383),
  (383, zo_aload 0 384),
  (384, zo_getR 12 52 none 387),
  (387, zo_iload 1 388),
  (388, zo_iald 389),
  (389, zo_push (.inl 1) 390),
  (390, zo_cne 424 393),
  (393, zo_iinc 1 zm1 396),
  (396, zo_goto 379)]
noncomputable def p_X12_reads_10 : List (Nat × zO) := [(399, zo_kill [2, 3, 4, 5] (zo_iload 1 400)),
  (400, zo_0ne 418 403),
  (403, zo_aload 0 404),
  (404, zo_push (.inl 59) 406),
  (406, zo_vir 12 2 (zo_calli (f_X12_isSign) 2 409)),
  (409, zo_0eq 418 412),
  (412, zo_aload 0 413),
  (413, zo_vir 12 1 (zo_callv (f_X12_nextToken) 1 416)),
  (416, zo_push (.inl 1) 417),
  (417, zo_zretc),
  (418, zo_aload 0 419),
  (419, zo_push (.inl 1) 420),
  (420, zo_vir 12 2 (zo_calli (f_X12_fails) 2 423)),
  (423, zo_zret),
  (424, zo_aload 0 425),
  (425, zo_vir 12 1 (zo_callv (f_X12_nextToken) 1 428)),
  (428, zo_goto 11)]
noncomputable def p_X12_reads : Nat → zO := zgs [(31, p_X12_reads_0), (71, p_X12_reads_1), (113, p_X12_reads_2), (148, p_X12_reads_3), (189, p_X12_reads_4), (233, p_X12_reads_5), (274, p_X12_reads_6), (315, p_X12_reads_7), (355, p_X12_reads_8), (397, p_X12_reads_9), (429, p_X12_reads_10)]
theorem t_X12_reads : ∀ k, zTl (p_X12_reads k) := fun k => zgs_all (c := [(31, p_X12_reads_0), (71, p_X12_reads_1), (113, p_X12_reads_2), (148, p_X12_reads_3), (189, p_X12_reads_4), (233, p_X12_reads_5), (274, p_X12_reads_6), (315, p_X12_reads_7), (355, p_X12_reads_8), (397, p_X12_reads_9), (429, p_X12_reads_10)]) (fun _ => zl_bad) ⟨⟨zl_push, zl_istore, zl_push, zl_istore, zl_aload, zl_getR, zl_push, zl_push, zl_zastc, (zl_kill zl_iload), zl_0eq, zl_aload, (zl_vir zl_calli), zl_istore, zl_aload, zl_push, (zl_vir zl_calli), zl_istore, zl_aload, zl_push, trivial⟩, ⟨(zl_vir zl_calli), zl_istore, zl_iload, zl_0ne, zl_iload, zl_0ne, zl_iload, zl_0ne, zl_aload, zl_getI, zl_push, zl_ceq, zl_aload, zl_push, (zl_vir zl_calli), zl_zret, zl_iload, zl_push, zl_cne, zl_aload, trivial⟩, ⟨zl_push, (zl_vir zl_calli), zl_zret, zl_iload, zl_0ne, zl_iload, zl_0eq, zl_aload, zl_iload, zl_0eq, zl_push, zl_goto, zl_push, (zl_kill (zl_vir zl_callv)), zl_iinc, zl_aload, zl_getR, zl_iload, zl_iload, zl_0eq, trivial⟩, ⟨zl_push, zl_goto, zl_push, (zl_kill zl_iast), zl_aload, zl_getR, zl_iload, zl_push, zl_zast, zl_goto, zl_aload, zl_iload, zl_0le, zl_iload, zl_goto, zl_push, zl_aload, zl_getI, zl_ii, (zl_kill (zl_vir zl_callv)), trivial⟩, ⟨zl_push, zl_istore, (zl_kill zl_iload), zl_0le, zl_aload, zl_getR, zl_iload, zl_iald, zl_push, zl_cne, zl_iinc, zl_goto, zl_aload, (zl_vir zl_callv), zl_goto, zl_aload, zl_push, (zl_vir zl_calli), zl_0ne, zl_aload, trivial⟩, ⟨zl_push, (zl_vir zl_calli), zl_0ne, zl_aload, zl_push, (zl_vir zl_calli), zl_0eq, (zl_kill zl_aload), zl_aload, zl_push, (zl_vir zl_calli), zl_0eq, zl_push, zl_goto, zl_aload, zl_push, (zl_vir zl_calli), zl_0eq, zl_push, zl_goto, trivial⟩, ⟨zl_push, (zl_kill (zl_vir zl_callv)), zl_push, zl_istore, zl_goto, zl_aload, zl_push, (zl_vir zl_calli), zl_0ne, zl_aload, zl_push, (zl_vir zl_calli), zl_0eq, (zl_kill zl_aload), zl_getR, zl_iload, zl_zald, zl_0ne, zl_aload, zl_aload, trivial⟩, ⟨zl_push, (zl_vir zl_calli), zl_0eq, zl_push, zl_goto, zl_push, (zl_kill (zl_vir zl_callv)), zl_aload, zl_getR, zl_iload, zl_push, zl_zast, zl_push, zl_istore, zl_goto, (zl_kill zl_aload), zl_push, (zl_vir zl_calli), zl_0ne, zl_aload, trivial⟩, ⟨zl_push, (zl_vir zl_calli), zl_0eq, zl_aload, zl_aload, zl_push, (zl_vir zl_calli), zl_0eq, zl_push, zl_goto, zl_push, (zl_kill (zl_vir zl_callv)), zl_aload, zl_getR, zl_iload, zl_push, zl_zast, zl_push, zl_istore, zl_goto, trivial⟩, ⟨zl_aload, zl_push, (zl_vir zl_calli), zl_0eq, zl_iload, zl_0le, zl_aload, zl_push, (zl_vir zl_callv), zl_iinc, (zl_kill zl_iload), zl_0le, zl_aload, zl_getR, zl_iload, zl_iald, zl_push, zl_cne, zl_iinc, zl_goto, trivial⟩, ⟨(zl_kill zl_iload), zl_0ne, zl_aload, zl_push, (zl_vir zl_calli), zl_0eq, zl_aload, (zl_vir zl_callv), zl_push, zl_zretc, zl_aload, zl_push, (zl_vir zl_calli), zl_zret, zl_aload, (zl_vir zl_callv), zl_goto, trivial⟩, trivial⟩ k
noncomputable def f_X12_reads : zS := zrun p_X12_reads 6
set_option maxRecDepth 20000 in
theorem s_X12_reads_0 {l : Launch} {D : va_G} {ad : Nat → Nat → Nat} {cy : Nat → ClassId} {L : List (Nat × Nat)} (hcl : zclo L = true) (hinj : zAd ad L) {X : zCtx} (hX : zXok X "SoapTreatyModel" prog_14_method_15_code 6) (hR : zRt X (some .boolean)) (hl : zXl X l D ad cy L (zroom 3)) : zAllR (zSo X) p_X12_reads_0 := ⟨zs_pushI (zg_iconst (by decide) hX (by decide +kernel : decode prog_14_method_15_code 0 = .ok (.iconst 0, 1)) rfl),
  zs_istore_n (i := 1) rfl hX (by decide +kernel : decode prog_14_method_15_code 1 = .ok (.istore_n 1, 1)) rfl (by decide),
  zs_pushI (zg_iconst (by decide) hX (by decide +kernel : decode prog_14_method_15_code 2 = .ok (.iconst 1, 1)) rfl),
  zs_istore_n (i := 2) rfl hX (by decide +kernel : decode prog_14_method_15_code 3 = .ok (.istore_n 2, 1)) rfl (by decide),
  zs_aload_n (i := 0) rfl hX (by decide +kernel : decode prog_14_method_15_code 4 = .ok (.aload_n 0, 1)) rfl (by decide),
  zs_getR hX zFL_12_56 (by decide +kernel : decode prog_14_method_15_code 5 = .ok (.getfield 56, 3)) rfl,
  zs_pushI (zg_iconst (by decide) hX (by decide +kernel : decode prog_14_method_15_code 8 = .ok (.iconst 0, 1)) rfl),
  zs_pushI (zg_iconst (by decide) hX (by decide +kernel : decode prog_14_method_15_code 9 = .ok (.iconst 0, 1)) rfl),
  zs_zastc hX (by decide +kernel : decode prog_14_method_15_code 10 = .ok (.bastore, 1)) rfl,
  zs_kill hX (by decide) (zs_iload_n (i := 2) rfl hX (by decide +kernel : decode prog_14_method_15_code 11 = .ok (.iload_n 2, 1)) rfl (by decide)),
  zs_0eq hX (by decide +kernel : decode prog_14_method_15_code 12 = .ok (.ifCond .eq 167, 3)) (by decide) rfl,
  zs_aload_n (i := 0) rfl hX (by decide +kernel : decode prog_14_method_15_code 15 = .ok (.aload_n 0, 1)) rfl (by decide),
  zs_callVi hX zMV_12_189 (zXc_of hl (by decide) (k_X12_fact hcl hinj)) (by decide +kernel : decode prog_14_method_15_code 16 = .ok (.invokevirtual 189, 3)) rfl,
  zs_istore_n (i := 3) rfl hX (by decide +kernel : decode prog_14_method_15_code 19 = .ok (.istore_n 3, 1)) rfl (by decide),
  zs_aload_n (i := 0) rfl hX (by decide +kernel : decode prog_14_method_15_code 20 = .ok (.aload_n 0, 1)) rfl (by decide),
  zs_pushJ (zg_ldc2 (zT_of 1439 (by decide +kernel) (by decide +kernel)) hX (by decide +kernel : decode prog_14_method_15_code 21 = .ok (.ldc2_w 193, 3)) rfl),
  zs_callVi hX zMV_12_195 (zXc_of hl (by decide) (k_X12_isWord hcl hinj)) (by decide +kernel : decode prog_14_method_15_code 24 = .ok (.invokevirtual 195, 3)) rfl,
  zs_istore hX (by decide +kernel : decode prog_14_method_15_code 27 = .ok (.istore 4, 2)) rfl (by decide),
  zs_aload_n (i := 0) rfl hX (by decide +kernel : decode prog_14_method_15_code 29 = .ok (.aload_n 0, 1)) rfl (by decide),
  zs_pushI (zg_bipush (by decide) hX (by decide +kernel : decode prog_14_method_15_code 30 = .ok (.bipush 40, 2)) rfl), trivial⟩
set_option maxRecDepth 20000 in
theorem s_X12_reads_1 {l : Launch} {D : va_G} {ad : Nat → Nat → Nat} {cy : Nat → ClassId} {L : List (Nat × Nat)} (hcl : zclo L = true) (hinj : zAd ad L) {X : zCtx} (hX : zXok X "SoapTreatyModel" prog_14_method_15_code 6) (hR : zRt X (some .boolean)) (hl : zXl X l D ad cy L (zroom 3)) : zAllR (zSo X) p_X12_reads_1 := ⟨zs_callVi hX zMV_12_199 (zXc_of hl (by decide) (k_X12_isSign hcl hinj)) (by decide +kernel : decode prog_14_method_15_code 32 = .ok (.invokevirtual 199, 3)) rfl,
  zs_istore hX (by decide +kernel : decode prog_14_method_15_code 35 = .ok (.istore 5, 2)) rfl (by decide),
  zs_iload_n (i := 3) rfl hX (by decide +kernel : decode prog_14_method_15_code 37 = .ok (.iload_n 3, 1)) rfl (by decide),
  zs_0ne hX (by decide +kernel : decode prog_14_method_15_code 38 = .ok (.ifCond .ne 27, 3)) (by decide) rfl,
  zs_iload hX (by decide +kernel : decode prog_14_method_15_code 41 = .ok (.iload 4, 2)) rfl (by decide),
  zs_0ne hX (by decide +kernel : decode prog_14_method_15_code 43 = .ok (.ifCond .ne 22, 3)) (by decide) rfl,
  zs_iload hX (by decide +kernel : decode prog_14_method_15_code 46 = .ok (.iload 5, 2)) rfl (by decide),
  zs_0ne hX (by decide +kernel : decode prog_14_method_15_code 48 = .ok (.ifCond .ne 17, 3)) (by decide) rfl,
  zs_aload_n (i := 0) rfl hX (by decide +kernel : decode prog_14_method_15_code 51 = .ok (.aload_n 0, 1)) rfl (by decide),
  zs_getI hX zFL_12_164 (by decide) (by decide) (by decide +kernel : decode prog_14_method_15_code 52 = .ok (.getfield 164, 3)) rfl,
  zs_pushI (zg_iconst (by decide) hX (by decide +kernel : decode prog_14_method_15_code 55 = .ok (.iconst 2, 1)) rfl),
  zs_ceq hX (by decide +kernel : decode prog_14_method_15_code 56 = .ok (.if_icmp .eq 9, 3)) (by decide) rfl,
  zs_aload_n (i := 0) rfl hX (by decide +kernel : decode prog_14_method_15_code 59 = .ok (.aload_n 0, 1)) rfl (by decide),
  zs_pushI (zg_iconst (by decide) hX (by decide +kernel : decode prog_14_method_15_code 60 = .ok (.iconst 1, 1)) rfl),
  zs_callVi hX zMV_12_203 (zXc_of hl (by decide) (k_X12_fails hcl hinj)) (by decide +kernel : decode prog_14_method_15_code 61 = .ok (.invokevirtual 203, 3)) rfl,
  zs_zret hX hR (by decide +kernel : decode prog_14_method_15_code 64 = .ok (.ireturn, 1)),
  zs_iload_n (i := 1) rfl hX (by decide +kernel : decode prog_14_method_15_code 65 = .ok (.iload_n 1, 1)) rfl (by decide),
  zs_pushI (zg_iconst (by decide) hX (by decide +kernel : decode prog_14_method_15_code 66 = .ok (.iconst 5, 1)) rfl),
  zs_cne hX (by decide +kernel : decode prog_14_method_15_code 67 = .ok (.if_icmp .ne 9, 3)) (by decide) rfl,
  zs_aload_n (i := 0) rfl hX (by decide +kernel : decode prog_14_method_15_code 70 = .ok (.aload_n 0, 1)) rfl (by decide), trivial⟩
set_option maxRecDepth 20000 in
theorem s_X12_reads_2 {l : Launch} {D : va_G} {ad : Nat → Nat → Nat} {cy : Nat → ClassId} {L : List (Nat × Nat)} (hcl : zclo L = true) (hinj : zAd ad L) {X : zCtx} (hX : zXok X "SoapTreatyModel" prog_14_method_15_code 6) (hR : zRt X (some .boolean)) (hl : zXl X l D ad cy L (zroom 3)) : zAllR (zSo X) p_X12_reads_2 := ⟨zs_pushI (zg_iconst (by decide) hX (by decide +kernel : decode prog_14_method_15_code 71 = .ok (.iconst 5, 1)) rfl),
  zs_callVi hX zMV_12_203 (zXc_of hl (by decide) (k_X12_fails hcl hinj)) (by decide +kernel : decode prog_14_method_15_code 72 = .ok (.invokevirtual 203, 3)) rfl,
  zs_zret hX hR (by decide +kernel : decode prog_14_method_15_code 75 = .ok (.ireturn, 1)),
  zs_iload hX (by decide +kernel : decode prog_14_method_15_code 76 = .ok (.iload 4, 2)) rfl (by decide),
  zs_0ne hX (by decide +kernel : decode prog_14_method_15_code 78 = .ok (.ifCond .ne 8, 3)) (by decide) rfl,
  zs_iload hX (by decide +kernel : decode prog_14_method_15_code 81 = .ok (.iload 5, 2)) rfl (by decide),
  zs_0eq hX (by decide +kernel : decode prog_14_method_15_code 83 = .ok (.ifCond .eq 48, 3)) (by decide) rfl,
  zs_aload_n (i := 0) rfl hX (by decide +kernel : decode prog_14_method_15_code 86 = .ok (.aload_n 0, 1)) rfl (by decide),
  zs_iload hX (by decide +kernel : decode prog_14_method_15_code 87 = .ok (.iload 4, 2)) rfl (by decide),
  zs_0eq hX (by decide +kernel : decode prog_14_method_15_code 89 = .ok (.ifCond .eq 8, 3)) (by decide) rfl,
  zs_pushI (zg_bipush (by decide) hX (by decide +kernel : decode prog_14_method_15_code 92 = .ok (.bipush 30, 2)) rfl),
  zs_goto hX (by decide +kernel : decode prog_14_method_15_code 94 = .ok (.goto 5, 3)) (by decide),
  zs_pushI (zg_bipush (by decide) hX (by decide +kernel : decode prog_14_method_15_code 97 = .ok (.bipush 28, 2)) rfl),
  zs_kill hX (by decide) (zs_callVv hX zMV_12_206 (zXc_of hl (by decide) (k_X12_puts hcl hinj)) (by decide +kernel : decode prog_14_method_15_code 99 = .ok (.invokevirtual 206, 3)) rfl),
  zs_iinc hX (by decide +kernel : decode prog_14_method_15_code 102 = .ok (.iinc 1 1, 3)) (by decide) rfl (by decide),
  zs_aload_n (i := 0) rfl hX (by decide +kernel : decode prog_14_method_15_code 105 = .ok (.aload_n 0, 1)) rfl (by decide),
  zs_getR hX zFL_12_53 (by decide +kernel : decode prog_14_method_15_code 106 = .ok (.getfield 53, 3)) rfl,
  zs_iload_n (i := 1) rfl hX (by decide +kernel : decode prog_14_method_15_code 109 = .ok (.iload_n 1, 1)) rfl (by decide),
  zs_iload hX (by decide +kernel : decode prog_14_method_15_code 110 = .ok (.iload 4, 2)) rfl (by decide),
  zs_0eq hX (by decide +kernel : decode prog_14_method_15_code 112 = .ok (.ifCond .eq 7, 3)) (by decide) rfl, trivial⟩
set_option maxRecDepth 20000 in
theorem s_X12_reads_3 {l : Launch} {D : va_G} {ad : Nat → Nat → Nat} {cy : Nat → ClassId} {L : List (Nat × Nat)} (hcl : zclo L = true) (hinj : zAd ad L) {X : zCtx} (hX : zXok X "SoapTreatyModel" prog_14_method_15_code 6) (hR : zRt X (some .boolean)) (hl : zXl X l D ad cy L (zroom 3)) : zAllR (zSo X) p_X12_reads_3 := ⟨zs_pushI (zg_iconst (by decide) hX (by decide +kernel : decode prog_14_method_15_code 115 = .ok (.iconst 1, 1)) rfl),
  zs_goto hX (by decide +kernel : decode prog_14_method_15_code 116 = .ok (.goto 4, 3)) (by decide),
  zs_pushI (zg_iconst (by decide) hX (by decide +kernel : decode prog_14_method_15_code 119 = .ok (.iconst 2, 1)) rfl),
  zs_kill hX (by decide) (zs_iast hX (by decide +kernel : decode prog_14_method_15_code 120 = .ok (.iastore, 1)) rfl),
  zs_aload_n (i := 0) rfl hX (by decide +kernel : decode prog_14_method_15_code 121 = .ok (.aload_n 0, 1)) rfl (by decide),
  zs_getR hX zFL_12_56 (by decide +kernel : decode prog_14_method_15_code 122 = .ok (.getfield 56, 3)) rfl,
  zs_iload_n (i := 1) rfl hX (by decide +kernel : decode prog_14_method_15_code 125 = .ok (.iload_n 1, 1)) rfl (by decide),
  zs_pushI (zg_iconst (by decide) hX (by decide +kernel : decode prog_14_method_15_code 126 = .ok (.iconst 0, 1)) rfl),
  zs_zast hX (by decide +kernel : decode prog_14_method_15_code 127 = .ok (.bastore, 1)) rfl,
  zs_goto hX (by decide +kernel : decode prog_14_method_15_code 128 = .ok (.goto 44, 3)) (by decide),
  zs_aload_n (i := 0) rfl hX (by decide +kernel : decode prog_14_method_15_code 131 = .ok (.aload_n 0, 1)) rfl (by decide),
  zs_iload_n (i := 3) rfl hX (by decide +kernel : decode prog_14_method_15_code 132 = .ok (.iload_n 3, 1)) rfl (by decide),
  zs_0le hX (by decide +kernel : decode prog_14_method_15_code 133 = .ok (.ifCond .le 7, 3)) (by decide) rfl,
  zs_iload_n (i := 3) rfl hX (by decide +kernel : decode prog_14_method_15_code 136 = .ok (.iload_n 3, 1)) rfl (by decide),
  zs_goto hX (by decide +kernel : decode prog_14_method_15_code 137 = .ok (.goto 10, 3)) (by decide),
  zs_pushI (zg_bipush (by decide) hX (by decide +kernel : decode prog_14_method_15_code 140 = .ok (.bipush 100, 2)) rfl),
  zs_aload_n (i := 0) rfl hX (by decide +kernel : decode prog_14_method_15_code 142 = .ok (.aload_n 0, 1)) rfl (by decide),
  zs_getI hX zFL_12_161 (by decide) (by decide) (by decide +kernel : decode prog_14_method_15_code 143 = .ok (.getfield 161, 3)) rfl,
  zs_ii (zg_iadd hX (by decide +kernel : decode prog_14_method_15_code 146 = .ok (.iadd, 1)) rfl),
  zs_kill hX (by decide) (zs_callVv hX zMV_12_206 (zXc_of hl (by decide) (k_X12_puts hcl hinj)) (by decide +kernel : decode prog_14_method_15_code 147 = .ok (.invokevirtual 206, 3)) rfl), trivial⟩
set_option maxRecDepth 20000 in
theorem s_X12_reads_4 {l : Launch} {D : va_G} {ad : Nat → Nat → Nat} {cy : Nat → ClassId} {L : List (Nat × Nat)} (hcl : zclo L = true) (hinj : zAd ad L) {X : zCtx} (hX : zXok X "SoapTreatyModel" prog_14_method_15_code 6) (hR : zRt X (some .boolean)) (hl : zXl X l D ad cy L (zroom 3)) : zAllR (zSo X) p_X12_reads_4 := ⟨zs_pushI (zg_iconst (by decide) hX (by decide +kernel : decode prog_14_method_15_code 150 = .ok (.iconst 0, 1)) rfl),
  zs_istore_n (i := 2) rfl hX (by decide +kernel : decode prog_14_method_15_code 151 = .ok (.istore_n 2, 1)) rfl (by decide),
  zs_kill hX (by decide) (zs_iload_n (i := 1) rfl hX (by decide +kernel : decode prog_14_method_15_code 152 = .ok (.iload_n 1, 1)) rfl (by decide)),
  zs_0le hX (by decide +kernel : decode prog_14_method_15_code 153 = .ok (.ifCond .le 19, 3)) (by decide) rfl,
  zs_aload_n (i := 0) rfl hX (by decide +kernel : decode prog_14_method_15_code 156 = .ok (.aload_n 0, 1)) rfl (by decide),
  zs_getR hX zFL_12_53 (by decide +kernel : decode prog_14_method_15_code 157 = .ok (.getfield 53, 3)) rfl,
  zs_iload_n (i := 1) rfl hX (by decide +kernel : decode prog_14_method_15_code 160 = .ok (.iload_n 1, 1)) rfl (by decide),
  zs_iald hX (by decide +kernel : decode prog_14_method_15_code 161 = .ok (.iaload, 1)) rfl,
  zs_pushI (zg_iconst (by decide) hX (by decide +kernel : decode prog_14_method_15_code 162 = .ok (.iconst 1, 1)) rfl),
  zs_cne hX (by decide +kernel : decode prog_14_method_15_code 163 = .ok (.if_icmp .ne 9, 3)) (by decide) rfl,
  zs_iinc hX (by decide +kernel : decode prog_14_method_15_code 166 = .ok (.iinc 1 (-1), 3)) (by decide) rfl (by decide),
  zs_goto hX (by decide +kernel : decode prog_14_method_15_code 169 = .ok (.goto (-17), 3)) (by decide),
  zs_aload_n (i := 0) rfl hX (by decide +kernel : decode prog_14_method_15_code 172 = .ok (.aload_n 0, 1)) rfl (by decide),
  zs_callVv hX zMV_12_209 (zXc_of hl (by decide) (k_X12_nextToken hcl hinj)) (by decide +kernel : decode prog_14_method_15_code 173 = .ok (.invokevirtual 209, 3)) rfl,
  zs_goto hX (by decide +kernel : decode prog_14_method_15_code 176 = .ok (.goto (-165), 3)) (by decide),
  zs_aload_n (i := 0) rfl hX (by decide +kernel : decode prog_14_method_15_code 179 = .ok (.aload_n 0, 1)) rfl (by decide),
  zs_pushI (zg_bipush (by decide) hX (by decide +kernel : decode prog_14_method_15_code 180 = .ok (.bipush 43, 2)) rfl),
  zs_callVi hX zMV_12_199 (zXc_of hl (by decide) (k_X12_isSign hcl hinj)) (by decide +kernel : decode prog_14_method_15_code 182 = .ok (.invokevirtual 199, 3)) rfl,
  zs_0ne hX (by decide +kernel : decode prog_14_method_15_code 185 = .ok (.ifCond .ne 21, 3)) (by decide) rfl,
  zs_aload_n (i := 0) rfl hX (by decide +kernel : decode prog_14_method_15_code 188 = .ok (.aload_n 0, 1)) rfl (by decide), trivial⟩
set_option maxRecDepth 20000 in
theorem s_X12_reads_5 {l : Launch} {D : va_G} {ad : Nat → Nat → Nat} {cy : Nat → ClassId} {L : List (Nat × Nat)} (hcl : zclo L = true) (hinj : zAd ad L) {X : zCtx} (hX : zXok X "SoapTreatyModel" prog_14_method_15_code 6) (hR : zRt X (some .boolean)) (hl : zXl X l D ad cy L (zroom 3)) : zAllR (zSo X) p_X12_reads_5 := ⟨zs_pushI (zg_bipush (by decide) hX (by decide +kernel : decode prog_14_method_15_code 189 = .ok (.bipush 45, 2)) rfl),
  zs_callVi hX zMV_12_199 (zXc_of hl (by decide) (k_X12_isSign hcl hinj)) (by decide +kernel : decode prog_14_method_15_code 191 = .ok (.invokevirtual 199, 3)) rfl,
  zs_0ne hX (by decide +kernel : decode prog_14_method_15_code 194 = .ok (.ifCond .ne 12, 3)) (by decide) rfl,
  zs_aload_n (i := 0) rfl hX (by decide +kernel : decode prog_14_method_15_code 197 = .ok (.aload_n 0, 1)) rfl (by decide),
  zs_pushI (zg_bipush (by decide) hX (by decide +kernel : decode prog_14_method_15_code 198 = .ok (.bipush 42, 2)) rfl),
  zs_callVi hX zMV_12_199 (zXc_of hl (by decide) (k_X12_isSign hcl hinj)) (by decide +kernel : decode prog_14_method_15_code 200 = .ok (.invokevirtual 199, 3)) rfl,
  zs_0eq hX (by decide +kernel : decode prog_14_method_15_code 203 = .ok (.ifCond .eq 42, 3)) (by decide) rfl,
  zs_kill hX (by decide) (zs_aload_n (i := 0) rfl hX (by decide +kernel : decode prog_14_method_15_code 206 = .ok (.aload_n 0, 1)) rfl (by decide)),
  zs_aload_n (i := 0) rfl hX (by decide +kernel : decode prog_14_method_15_code 207 = .ok (.aload_n 0, 1)) rfl (by decide),
  zs_pushI (zg_bipush (by decide) hX (by decide +kernel : decode prog_14_method_15_code 208 = .ok (.bipush 43, 2)) rfl),
  zs_callVi hX zMV_12_199 (zXc_of hl (by decide) (k_X12_isSign hcl hinj)) (by decide +kernel : decode prog_14_method_15_code 210 = .ok (.invokevirtual 199, 3)) rfl,
  zs_0eq hX (by decide +kernel : decode prog_14_method_15_code 213 = .ok (.ifCond .eq 8, 3)) (by decide) rfl,
  zs_pushI (zg_bipush (by decide) hX (by decide +kernel : decode prog_14_method_15_code 216 = .ok (.bipush 20, 2)) rfl),
  zs_goto hX (by decide +kernel : decode prog_14_method_15_code 218 = .ok (.goto 19, 3)) (by decide),
  zs_aload_n (i := 0) rfl hX (by decide +kernel : decode prog_14_method_15_code 221 = .ok (.aload_n 0, 1)) rfl (by decide),
  zs_pushI (zg_bipush (by decide) hX (by decide +kernel : decode prog_14_method_15_code 222 = .ok (.bipush 45, 2)) rfl),
  zs_callVi hX zMV_12_199 (zXc_of hl (by decide) (k_X12_isSign hcl hinj)) (by decide +kernel : decode prog_14_method_15_code 224 = .ok (.invokevirtual 199, 3)) rfl,
  zs_0eq hX (by decide +kernel : decode prog_14_method_15_code 227 = .ok (.ifCond .eq 8, 3)) (by decide) rfl,
  zs_pushI (zg_bipush (by decide) hX (by decide +kernel : decode prog_14_method_15_code 230 = .ok (.bipush 21, 2)) rfl),
  zs_goto hX (by decide +kernel : decode prog_14_method_15_code 232 = .ok (.goto 5, 3)) (by decide), trivial⟩
set_option maxRecDepth 20000 in
theorem s_X12_reads_6 {l : Launch} {D : va_G} {ad : Nat → Nat → Nat} {cy : Nat → ClassId} {L : List (Nat × Nat)} (hcl : zclo L = true) (hinj : zAd ad L) {X : zCtx} (hX : zXok X "SoapTreatyModel" prog_14_method_15_code 6) (hR : zRt X (some .boolean)) (hl : zXl X l D ad cy L (zroom 3)) : zAllR (zSo X) p_X12_reads_6 := ⟨zs_pushI (zg_bipush (by decide) hX (by decide +kernel : decode prog_14_method_15_code 235 = .ok (.bipush 22, 2)) rfl),
  zs_kill hX (by decide) (zs_callVv hX zMV_12_206 (zXc_of hl (by decide) (k_X12_puts hcl hinj)) (by decide +kernel : decode prog_14_method_15_code 237 = .ok (.invokevirtual 206, 3)) rfl),
  zs_pushI (zg_iconst (by decide) hX (by decide +kernel : decode prog_14_method_15_code 240 = .ok (.iconst 1, 1)) rfl),
  zs_istore_n (i := 2) rfl hX (by decide +kernel : decode prog_14_method_15_code 241 = .ok (.istore_n 2, 1)) rfl (by decide),
  zs_goto hX (by decide +kernel : decode prog_14_method_15_code 242 = .ok (.goto 182, 3)) (by decide),
  zs_aload_n (i := 0) rfl hX (by decide +kernel : decode prog_14_method_15_code 245 = .ok (.aload_n 0, 1)) rfl (by decide),
  zs_pushI (zg_bipush (by decide) hX (by decide +kernel : decode prog_14_method_15_code 246 = .ok (.bipush 60, 2)) rfl),
  zs_callVi hX zMV_12_199 (zXc_of hl (by decide) (k_X12_isSign hcl hinj)) (by decide +kernel : decode prog_14_method_15_code 248 = .ok (.invokevirtual 199, 3)) rfl,
  zs_0ne hX (by decide +kernel : decode prog_14_method_15_code 251 = .ok (.ifCond .ne 12, 3)) (by decide) rfl,
  zs_aload_n (i := 0) rfl hX (by decide +kernel : decode prog_14_method_15_code 254 = .ok (.aload_n 0, 1)) rfl (by decide),
  zs_pushI (zg_bipush (by decide) hX (by decide +kernel : decode prog_14_method_15_code 255 = .ok (.bipush 61, 2)) rfl),
  zs_callVi hX zMV_12_199 (zXc_of hl (by decide) (k_X12_isSign hcl hinj)) (by decide +kernel : decode prog_14_method_15_code 257 = .ok (.invokevirtual 199, 3)) rfl,
  zs_0eq hX (by decide +kernel : decode prog_14_method_15_code 260 = .ok (.ifCond .eq 44, 3)) (by decide) rfl,
  zs_kill hX (by decide) (zs_aload_n (i := 0) rfl hX (by decide +kernel : decode prog_14_method_15_code 263 = .ok (.aload_n 0, 1)) rfl (by decide)),
  zs_getR hX zFL_12_56 (by decide +kernel : decode prog_14_method_15_code 264 = .ok (.getfield 56, 3)) rfl,
  zs_iload_n (i := 1) rfl hX (by decide +kernel : decode prog_14_method_15_code 267 = .ok (.iload_n 1, 1)) rfl (by decide),
  zs_zald hX (by decide +kernel : decode prog_14_method_15_code 268 = .ok (.baload, 1)) rfl,
  zs_0ne hX (by decide +kernel : decode prog_14_method_15_code 269 = .ok (.ifCond .ne 35, 3)) (by decide) rfl,
  zs_aload_n (i := 0) rfl hX (by decide +kernel : decode prog_14_method_15_code 272 = .ok (.aload_n 0, 1)) rfl (by decide),
  zs_aload_n (i := 0) rfl hX (by decide +kernel : decode prog_14_method_15_code 273 = .ok (.aload_n 0, 1)) rfl (by decide), trivial⟩
set_option maxRecDepth 20000 in
theorem s_X12_reads_7 {l : Launch} {D : va_G} {ad : Nat → Nat → Nat} {cy : Nat → ClassId} {L : List (Nat × Nat)} (hcl : zclo L = true) (hinj : zAd ad L) {X : zCtx} (hX : zXok X "SoapTreatyModel" prog_14_method_15_code 6) (hR : zRt X (some .boolean)) (hl : zXl X l D ad cy L (zroom 3)) : zAllR (zSo X) p_X12_reads_7 := ⟨zs_pushI (zg_bipush (by decide) hX (by decide +kernel : decode prog_14_method_15_code 274 = .ok (.bipush 60, 2)) rfl),
  zs_callVi hX zMV_12_199 (zXc_of hl (by decide) (k_X12_isSign hcl hinj)) (by decide +kernel : decode prog_14_method_15_code 276 = .ok (.invokevirtual 199, 3)) rfl,
  zs_0eq hX (by decide +kernel : decode prog_14_method_15_code 279 = .ok (.ifCond .eq 8, 3)) (by decide) rfl,
  zs_pushI (zg_bipush (by decide) hX (by decide +kernel : decode prog_14_method_15_code 282 = .ok (.bipush 24, 2)) rfl),
  zs_goto hX (by decide +kernel : decode prog_14_method_15_code 284 = .ok (.goto 5, 3)) (by decide),
  zs_pushI (zg_bipush (by decide) hX (by decide +kernel : decode prog_14_method_15_code 287 = .ok (.bipush 25, 2)) rfl),
  zs_kill hX (by decide) (zs_callVv hX zMV_12_206 (zXc_of hl (by decide) (k_X12_puts hcl hinj)) (by decide +kernel : decode prog_14_method_15_code 289 = .ok (.invokevirtual 206, 3)) rfl),
  zs_aload_n (i := 0) rfl hX (by decide +kernel : decode prog_14_method_15_code 292 = .ok (.aload_n 0, 1)) rfl (by decide),
  zs_getR hX zFL_12_56 (by decide +kernel : decode prog_14_method_15_code 293 = .ok (.getfield 56, 3)) rfl,
  zs_iload_n (i := 1) rfl hX (by decide +kernel : decode prog_14_method_15_code 296 = .ok (.iload_n 1, 1)) rfl (by decide),
  zs_pushI (zg_iconst (by decide) hX (by decide +kernel : decode prog_14_method_15_code 297 = .ok (.iconst 1, 1)) rfl),
  zs_zast hX (by decide +kernel : decode prog_14_method_15_code 298 = .ok (.bastore, 1)) rfl,
  zs_pushI (zg_iconst (by decide) hX (by decide +kernel : decode prog_14_method_15_code 299 = .ok (.iconst 1, 1)) rfl),
  zs_istore_n (i := 2) rfl hX (by decide +kernel : decode prog_14_method_15_code 300 = .ok (.istore_n 2, 1)) rfl (by decide),
  zs_goto hX (by decide +kernel : decode prog_14_method_15_code 301 = .ok (.goto 123, 3)) (by decide),
  zs_kill hX (by decide) (zs_aload_n (i := 0) rfl hX (by decide +kernel : decode prog_14_method_15_code 304 = .ok (.aload_n 0, 1)) rfl (by decide)),
  zs_pushJ (zg_ldc2 (zT_of 1440 (by decide +kernel) (by decide +kernel)) hX (by decide +kernel : decode prog_14_method_15_code 305 = .ok (.ldc2_w 212, 3)) rfl),
  zs_callVi hX zMV_12_195 (zXc_of hl (by decide) (k_X12_isWord hcl hinj)) (by decide +kernel : decode prog_14_method_15_code 308 = .ok (.invokevirtual 195, 3)) rfl,
  zs_0ne hX (by decide +kernel : decode prog_14_method_15_code 311 = .ok (.ifCond .ne 13, 3)) (by decide) rfl,
  zs_aload_n (i := 0) rfl hX (by decide +kernel : decode prog_14_method_15_code 314 = .ok (.aload_n 0, 1)) rfl (by decide), trivial⟩
set_option maxRecDepth 20000 in
theorem s_X12_reads_8 {l : Launch} {D : va_G} {ad : Nat → Nat → Nat} {cy : Nat → ClassId} {L : List (Nat × Nat)} (hcl : zclo L = true) (hinj : zAd ad L) {X : zCtx} (hX : zXok X "SoapTreatyModel" prog_14_method_15_code 6) (hR : zRt X (some .boolean)) (hl : zXl X l D ad cy L (zroom 3)) : zAllR (zSo X) p_X12_reads_8 := ⟨zs_pushJ (zg_ldc2 (zT_of 1441 (by decide +kernel) (by decide +kernel)) hX (by decide +kernel : decode prog_14_method_15_code 315 = .ok (.ldc2_w 214, 3)) rfl),
  zs_callVi hX zMV_12_195 (zXc_of hl (by decide) (k_X12_isWord hcl hinj)) (by decide +kernel : decode prog_14_method_15_code 318 = .ok (.invokevirtual 195, 3)) rfl,
  zs_0eq hX (by decide +kernel : decode prog_14_method_15_code 321 = .ok (.ifCond .eq 36, 3)) (by decide) rfl,
  zs_aload_n (i := 0) rfl hX (by decide +kernel : decode prog_14_method_15_code 324 = .ok (.aload_n 0, 1)) rfl (by decide),
  zs_aload_n (i := 0) rfl hX (by decide +kernel : decode prog_14_method_15_code 325 = .ok (.aload_n 0, 1)) rfl (by decide),
  zs_pushJ (zg_ldc2 (zT_of 1440 (by decide +kernel) (by decide +kernel)) hX (by decide +kernel : decode prog_14_method_15_code 326 = .ok (.ldc2_w 212, 3)) rfl),
  zs_callVi hX zMV_12_195 (zXc_of hl (by decide) (k_X12_isWord hcl hinj)) (by decide +kernel : decode prog_14_method_15_code 329 = .ok (.invokevirtual 195, 3)) rfl,
  zs_0eq hX (by decide +kernel : decode prog_14_method_15_code 332 = .ok (.ifCond .eq 8, 3)) (by decide) rfl,
  zs_pushI (zg_bipush (by decide) hX (by decide +kernel : decode prog_14_method_15_code 335 = .ok (.bipush 26, 2)) rfl),
  zs_goto hX (by decide +kernel : decode prog_14_method_15_code 337 = .ok (.goto 5, 3)) (by decide),
  zs_pushI (zg_bipush (by decide) hX (by decide +kernel : decode prog_14_method_15_code 340 = .ok (.bipush 27, 2)) rfl),
  zs_kill hX (by decide) (zs_callVv hX zMV_12_206 (zXc_of hl (by decide) (k_X12_puts hcl hinj)) (by decide +kernel : decode prog_14_method_15_code 342 = .ok (.invokevirtual 206, 3)) rfl),
  zs_aload_n (i := 0) rfl hX (by decide +kernel : decode prog_14_method_15_code 345 = .ok (.aload_n 0, 1)) rfl (by decide),
  zs_getR hX zFL_12_56 (by decide +kernel : decode prog_14_method_15_code 346 = .ok (.getfield 56, 3)) rfl,
  zs_iload_n (i := 1) rfl hX (by decide +kernel : decode prog_14_method_15_code 349 = .ok (.iload_n 1, 1)) rfl (by decide),
  zs_pushI (zg_iconst (by decide) hX (by decide +kernel : decode prog_14_method_15_code 350 = .ok (.iconst 0, 1)) rfl),
  zs_zast hX (by decide +kernel : decode prog_14_method_15_code 351 = .ok (.bastore, 1)) rfl,
  zs_pushI (zg_iconst (by decide) hX (by decide +kernel : decode prog_14_method_15_code 352 = .ok (.iconst 1, 1)) rfl),
  zs_istore_n (i := 2) rfl hX (by decide +kernel : decode prog_14_method_15_code 353 = .ok (.istore_n 2, 1)) rfl (by decide),
  zs_goto hX (by decide +kernel : decode prog_14_method_15_code 354 = .ok (.goto 70, 3)) (by decide), trivial⟩
set_option maxRecDepth 20000 in
theorem s_X12_reads_9 {l : Launch} {D : va_G} {ad : Nat → Nat → Nat} {cy : Nat → ClassId} {L : List (Nat × Nat)} (hcl : zclo L = true) (hinj : zAd ad L) {X : zCtx} (hX : zXok X "SoapTreatyModel" prog_14_method_15_code 6) (hR : zRt X (some .boolean)) (hl : zXl X l D ad cy L (zroom 3)) : zAllR (zSo X) p_X12_reads_9 := ⟨zs_aload_n (i := 0) rfl hX (by decide +kernel : decode prog_14_method_15_code 357 = .ok (.aload_n 0, 1)) rfl (by decide),
  zs_pushI (zg_bipush (by decide) hX (by decide +kernel : decode prog_14_method_15_code 358 = .ok (.bipush 41, 2)) rfl),
  zs_callVi hX zMV_12_199 (zXc_of hl (by decide) (k_X12_isSign hcl hinj)) (by decide +kernel : decode prog_14_method_15_code 360 = .ok (.invokevirtual 199, 3)) rfl,
  zs_0eq hX (by decide +kernel : decode prog_14_method_15_code 363 = .ok (.ifCond .eq 36, 3)) (by decide) rfl,
  zs_iload_n (i := 1) rfl hX (by decide +kernel : decode prog_14_method_15_code 366 = .ok (.iload_n 1, 1)) rfl (by decide),
  zs_0le hX (by decide +kernel : decode prog_14_method_15_code 367 = .ok (.ifCond .le 32, 3)) (by decide) rfl,
  zs_aload_n (i := 0) rfl hX (by decide +kernel : decode prog_14_method_15_code 370 = .ok (.aload_n 0, 1)) rfl (by decide),
  zs_pushI (zg_bipush (by decide) hX (by decide +kernel : decode prog_14_method_15_code 371 = .ok (.bipush 29, 2)) rfl),
  zs_callVv hX zMV_12_206 (zXc_of hl (by decide) (k_X12_puts hcl hinj)) (by decide +kernel : decode prog_14_method_15_code 373 = .ok (.invokevirtual 206, 3)) rfl,
  zs_iinc hX (by decide +kernel : decode prog_14_method_15_code 376 = .ok (.iinc 1 (-1), 3)) (by decide) rfl (by decide),
  zs_kill hX (by decide) (zs_iload_n (i := 1) rfl hX (by decide +kernel : decode prog_14_method_15_code 379 = .ok (.iload_n 1, 1)) rfl (by decide)),
  zs_0le hX (by decide +kernel : decode prog_14_method_15_code 380 = .ok (.ifCond .le 44, 3)) (by decide) rfl,
  zs_aload_n (i := 0) rfl hX (by decide +kernel : decode prog_14_method_15_code 383 = .ok (.aload_n 0, 1)) rfl (by decide),
  zs_getR hX zFL_12_53 (by decide +kernel : decode prog_14_method_15_code 384 = .ok (.getfield 53, 3)) rfl,
  zs_iload_n (i := 1) rfl hX (by decide +kernel : decode prog_14_method_15_code 387 = .ok (.iload_n 1, 1)) rfl (by decide),
  zs_iald hX (by decide +kernel : decode prog_14_method_15_code 388 = .ok (.iaload, 1)) rfl,
  zs_pushI (zg_iconst (by decide) hX (by decide +kernel : decode prog_14_method_15_code 389 = .ok (.iconst 1, 1)) rfl),
  zs_cne hX (by decide +kernel : decode prog_14_method_15_code 390 = .ok (.if_icmp .ne 34, 3)) (by decide) rfl,
  zs_iinc hX (by decide +kernel : decode prog_14_method_15_code 393 = .ok (.iinc 1 (-1), 3)) (by decide) rfl (by decide),
  zs_goto hX (by decide +kernel : decode prog_14_method_15_code 396 = .ok (.goto (-17), 3)) (by decide), trivial⟩
set_option maxRecDepth 20000 in
theorem s_X12_reads_10 {l : Launch} {D : va_G} {ad : Nat → Nat → Nat} {cy : Nat → ClassId} {L : List (Nat × Nat)} (hcl : zclo L = true) (hinj : zAd ad L) {X : zCtx} (hX : zXok X "SoapTreatyModel" prog_14_method_15_code 6) (hR : zRt X (some .boolean)) (hl : zXl X l D ad cy L (zroom 3)) : zAllR (zSo X) p_X12_reads_10 := ⟨zs_kill hX (by decide) (zs_iload_n (i := 1) rfl hX (by decide +kernel : decode prog_14_method_15_code 399 = .ok (.iload_n 1, 1)) rfl (by decide)),
  zs_0ne hX (by decide +kernel : decode prog_14_method_15_code 400 = .ok (.ifCond .ne 18, 3)) (by decide) rfl,
  zs_aload_n (i := 0) rfl hX (by decide +kernel : decode prog_14_method_15_code 403 = .ok (.aload_n 0, 1)) rfl (by decide),
  zs_pushI (zg_bipush (by decide) hX (by decide +kernel : decode prog_14_method_15_code 404 = .ok (.bipush 59, 2)) rfl),
  zs_callVi hX zMV_12_199 (zXc_of hl (by decide) (k_X12_isSign hcl hinj)) (by decide +kernel : decode prog_14_method_15_code 406 = .ok (.invokevirtual 199, 3)) rfl,
  zs_0eq hX (by decide +kernel : decode prog_14_method_15_code 409 = .ok (.ifCond .eq 9, 3)) (by decide) rfl,
  zs_aload_n (i := 0) rfl hX (by decide +kernel : decode prog_14_method_15_code 412 = .ok (.aload_n 0, 1)) rfl (by decide),
  zs_callVv hX zMV_12_209 (zXc_of hl (by decide) (k_X12_nextToken hcl hinj)) (by decide +kernel : decode prog_14_method_15_code 413 = .ok (.invokevirtual 209, 3)) rfl,
  zs_pushI (zg_iconst (by decide) hX (by decide +kernel : decode prog_14_method_15_code 416 = .ok (.iconst 1, 1)) rfl),
  zs_zretc hX hR (by decide +kernel : decode prog_14_method_15_code 417 = .ok (.ireturn, 1)),
  zs_aload_n (i := 0) rfl hX (by decide +kernel : decode prog_14_method_15_code 418 = .ok (.aload_n 0, 1)) rfl (by decide),
  zs_pushI (zg_iconst (by decide) hX (by decide +kernel : decode prog_14_method_15_code 419 = .ok (.iconst 1, 1)) rfl),
  zs_callVi hX zMV_12_203 (zXc_of hl (by decide) (k_X12_fails hcl hinj)) (by decide +kernel : decode prog_14_method_15_code 420 = .ok (.invokevirtual 203, 3)) rfl,
  zs_zret hX hR (by decide +kernel : decode prog_14_method_15_code 423 = .ok (.ireturn, 1)),
  zs_aload_n (i := 0) rfl hX (by decide +kernel : decode prog_14_method_15_code 424 = .ok (.aload_n 0, 1)) rfl (by decide),
  zs_callVv hX zMV_12_209 (zXc_of hl (by decide) (k_X12_nextToken hcl hinj)) (by decide +kernel : decode prog_14_method_15_code 425 = .ok (.invokevirtual 209, 3)) rfl,
  zs_goto hX (by decide +kernel : decode prog_14_method_15_code 428 = .ok (.goto (-417), 3)) (by decide), trivial⟩
theorem k_X12_reads {l : Launch} {D : va_G} {ad : Nat → Nat → Nat} {cy : Nat → ClassId} {L : List (Nat × Nat)} (hcl : zclo L = true) (hinj : zAd ad L) : zCk l D ad cy L 3 f_X12_reads y_X12_reads (.code y_X12_reads prog_14_method_15_code 6 (some .boolean)) :=
  z_met (by decide) t_X12_reads hcl hinj (fun X hX hR hl k => zgs_all (Q := zSo X) (c := [(31, p_X12_reads_0), (71, p_X12_reads_1), (113, p_X12_reads_2), (148, p_X12_reads_3), (189, p_X12_reads_4), (233, p_X12_reads_5), (274, p_X12_reads_6), (315, p_X12_reads_7), (355, p_X12_reads_8), (397, p_X12_reads_9), (429, p_X12_reads_10)]) (fun _ => zs_bad) ⟨s_X12_reads_0 hcl hinj hX hR hl, s_X12_reads_1 hcl hinj hX hR hl, s_X12_reads_2 hcl hinj hX hR hl, s_X12_reads_3 hcl hinj hX hR hl, s_X12_reads_4 hcl hinj hX hR hl, s_X12_reads_5 hcl hinj hX hR hl, s_X12_reads_6 hcl hinj hX hR hl, s_X12_reads_7 hcl hinj hX hR hl, s_X12_reads_8 hcl hinj hX hR hl, s_X12_reads_9 hcl hinj hX hR hl, s_X12_reads_10 hcl hinj hX hR hl, trivial⟩ k)
set_option maxRecDepth 1000000 in
theorem e_X12_reads_0 (h : zH) : zL p_X12_reads 0 [some (.inr (.inr (12, 0))), none, none, none, none, none] [] h = zL p_X12_reads 11 [some (.inr (.inr (12, 0))), some (.inl 0), some (.inl 1), none, none, none] [] (zuI h 53 0 0 (vp_nar .boolean 0)) := (zL_s (t_X12_reads) [0, 11, 65, 99, 120, 147, 152, 206, 237, 263, 289, 304, 342, 379, 399] 1000 0 _ _ _).trans rfl
theorem g_X12_reads (h : zH) : f_X12_reads [(.inr (.inr (12, 0)))] h = zL p_X12_reads 11 [some (.inr (.inr (12, 0))), some (.inl 0), some (.inl 1), none, none, none] [] (zuI h 53 0 0 (vp_nar .boolean 0)) := (show f_X12_reads _ h = zL p_X12_reads 0 _ [] h from rfl).trans (e_X12_reads_0 h)
set_option maxRecDepth 1000000 in
theorem e_X12_reads_11 (x1 : Int32) (x2 : Int32) (o3 : Option zV) (o4 : Option zV) (o5 : Option zV) (h : zH) : zL p_X12_reads 11 [some (.inr (.inr (12, 0))), some (.inl x1), some (.inl x2), o3, o4, o5] [] h = zf (x2 = 0) (zci (f_X12_isSign [(.inr (.inr (12, 0))), (.inl 43)] h) (fun r2 h1 => zf (r2 = 0) (zci (f_X12_isSign [(.inr (.inr (12, 0))), (.inl 45)] h1) (fun r4 h3 => zf (r4 = 0) (zci (f_X12_isSign [(.inr (.inr (12, 0))), (.inl 42)] h3) (fun r6 h5 => zf (r6 = 0) (zci (f_X12_isSign [(.inr (.inr (12, 0))), (.inl 60)] h5) (fun r8 h7 => zf (r8 = 0) (zci (f_X12_isSign [(.inr (.inr (12, 0))), (.inl 61)] h7) (fun r10 h9 => zf (r10 = 0) (zL p_X12_reads 304 [some (.inr (.inr (12, 0))), some (.inl x1), some (.inl x2), none, none, none] [] h9) (zL p_X12_reads 263 [some (.inr (.inr (12, 0))), some (.inl x1), some (.inl x2), none, none, none] [] h9))) (zL p_X12_reads 263 [some (.inr (.inr (12, 0))), some (.inl x1), some (.inl x2), none, none, none] [] h7))) (zL p_X12_reads 206 [some (.inr (.inr (12, 0))), some (.inl x1), some (.inl x2), none, none, none] [] h5))) (zL p_X12_reads 206 [some (.inr (.inr (12, 0))), some (.inl x1), some (.inl x2), none, none, none] [] h3))) (zL p_X12_reads 206 [some (.inr (.inr (12, 0))), some (.inl x1), some (.inl x2), none, none, none] [] h1))) (zci (f_X12_fact [(.inr (.inr (12, 0)))] h) (fun r12 h11 => zci (f_X12_isWord [(.inr (.inr (12, 0))), (.inr (.inl 10631))] h11) (fun r14 h13 => zci (f_X12_isSign [(.inr (.inr (12, 0))), (.inl 40)] h13) (fun r16 h15 => zf (r12 = 0) (zf (r14 = 0) (zf (r16 = 0) (zf ((h15.1 12 0 6) = 2) (zL p_X12_reads 65 [some (.inr (.inr (12, 0))), some (.inl x1), some (.inl x2), some (.inl r12), some (.inl r14), some (.inl r16)] [] h15) (zci (f_X12_fails [(.inr (.inr (12, 0))), (.inl 1)] h15) (fun r18 h17 => zf ((r18 : Int32) = 0 ∨ (r18 : Int32) = 1) (some (some (.inl r18), h17)) none))) (zL p_X12_reads 65 [some (.inr (.inr (12, 0))), some (.inl x1), some (.inl x2), some (.inl r12), some (.inl r14), some (.inl r16)] [] h15)) (zL p_X12_reads 65 [some (.inr (.inr (12, 0))), some (.inl x1), some (.inl x2), some (.inl r12), some (.inl r14), some (.inl r16)] [] h15)) (zL p_X12_reads 65 [some (.inr (.inr (12, 0))), some (.inl x1), some (.inl x2), some (.inl r12), some (.inl r14), some (.inl r16)] [] h15))))) := (zL_s (t_X12_reads) [0, 11, 65, 99, 120, 147, 152, 206, 237, 263, 289, 304, 342, 379, 399] 1000 11 _ _ _).trans rfl
set_option maxRecDepth 1000000 in
theorem e_X12_reads_65 (x1 : Int32) (x2 : Int32) (x3 : Int32) (x4 : Int32) (x5 : Int32) (h : zH) : zL p_X12_reads 65 [some (.inr (.inr (12, 0))), some (.inl x1), some (.inl x2), some (.inl x3), some (.inl x4), some (.inl x5)] [] h = zf (x1 = 5) (zci (f_X12_fails [(.inr (.inr (12, 0))), (.inl 5)] h) (fun r2 h1 => zf ((r2 : Int32) = 0 ∨ (r2 : Int32) = 1) (some (some (.inl r2), h1)) none)) (zf (x4 = 0) (zf (x5 = 0) (zf (0 < x3) (zL p_X12_reads 147 [some (.inr (.inr (12, 0))), some (.inl x1), some (.inl x2), some (.inl x3), some (.inl x4), some (.inl x5)] [(.inl x3), (.inr (.inr (12, 0)))] h) (zL p_X12_reads 147 [some (.inr (.inr (12, 0))), some (.inl x1), some (.inl x2), some (.inl x3), some (.inl x4), some (.inl x5)] [(.inl ((100 : Int32) + (h.1 12 0 8))), (.inr (.inr (12, 0)))] h)) (zf (x4 = 0) (zL p_X12_reads 99 [some (.inr (.inr (12, 0))), some (.inl x1), some (.inl x2), some (.inl x3), some (.inl x4), some (.inl x5)] [(.inl 28), (.inr (.inr (12, 0)))] h) (zL p_X12_reads 99 [some (.inr (.inr (12, 0))), some (.inl x1), some (.inl x2), some (.inl x3), some (.inl x4), some (.inl x5)] [(.inl 30), (.inr (.inr (12, 0)))] h))) (zf (x4 = 0) (zL p_X12_reads 99 [some (.inr (.inr (12, 0))), some (.inl x1), some (.inl x2), some (.inl x3), some (.inl x4), some (.inl x5)] [(.inl 28), (.inr (.inr (12, 0)))] h) (zL p_X12_reads 99 [some (.inr (.inr (12, 0))), some (.inl x1), some (.inl x2), some (.inl x3), some (.inl x4), some (.inl x5)] [(.inl 30), (.inr (.inr (12, 0)))] h))) := (zL_s (t_X12_reads) [0, 11, 65, 99, 120, 147, 152, 206, 237, 263, 289, 304, 342, 379, 399] 1000 65 _ _ _).trans rfl
set_option maxRecDepth 1000000 in
theorem e_X12_reads_99 (x1 : Int32) (x2 : Int32) (o3 : Option zV) (x4 : Int32) (o5 : Option zV) (s0 : Int32) (h : zH) : zL p_X12_reads 99 [some (.inr (.inr (12, 0))), some (.inl x1), some (.inl x2), o3, some (.inl x4), o5] [(.inl s0), (.inr (.inr (12, 0)))] h = zcv (f_X12_puts [(.inr (.inr (12, 0))), (.inl s0)] h) (fun h1 => zf (x4 = 0) (zL p_X12_reads 120 [some (.inr (.inr (12, 0))), some (.inl (x1 + 1)), some (.inl x2), none, some (.inl x4), none] [(.inl 2), (.inl (x1 + 1)), (.inr (.inr (52, 0)))] h1) (zL p_X12_reads 120 [some (.inr (.inr (12, 0))), some (.inl (x1 + 1)), some (.inl x2), none, some (.inl x4), none] [(.inl 1), (.inl (x1 + 1)), (.inr (.inr (52, 0)))] h1)) := (zL_s (t_X12_reads) [0, 11, 65, 99, 120, 147, 152, 206, 237, 263, 289, 304, 342, 379, 399] 1000 99 _ _ _).trans rfl
set_option maxRecDepth 1000000 in
theorem e_X12_reads_120 (x1 : Int32) (x2 : Int32) (o3 : Option zV) (o4 : Option zV) (o5 : Option zV) (s0 : Int32) (s1 : Int32) (h : zH) : zL p_X12_reads 120 [some (.inr (.inr (12, 0))), some (.inl x1), some (.inl x2), o3, o4, o5] [(.inl s0), (.inl s1), (.inr (.inr (52, 0)))] h = zf (vp_in s1 7) (zf (vp_in x1 7) (zcv (f_X12_nextToken [(.inr (.inr (12, 0)))] (zuI (zuI h 52 0 s1.toNatClampNeg s0) 53 0 x1.toNatClampNeg (vp_nar .boolean 0))) (fun h1 => zL p_X12_reads 11 [some (.inr (.inr (12, 0))), some (.inl x1), some (.inl x2), none, none, none] [] h1)) none) none := (zL_s (t_X12_reads) [0, 11, 65, 99, 120, 147, 152, 206, 237, 263, 289, 304, 342, 379, 399] 1000 120 _ _ _).trans rfl
set_option maxRecDepth 1000000 in
theorem e_X12_reads_147 (x1 : Int32) (o2 : Option zV) (o3 : Option zV) (o4 : Option zV) (o5 : Option zV) (s0 : Int32) (h : zH) : zL p_X12_reads 147 [some (.inr (.inr (12, 0))), some (.inl x1), o2, o3, o4, o5] [(.inl s0), (.inr (.inr (12, 0)))] h = zcv (f_X12_puts [(.inr (.inr (12, 0))), (.inl s0)] h) (fun h1 => zL p_X12_reads 152 [some (.inr (.inr (12, 0))), some (.inl x1), some (.inl 0), none, none, none] [] h1) := (zL_s (t_X12_reads) [0, 11, 65, 99, 120, 147, 152, 206, 237, 263, 289, 304, 342, 379, 399] 1000 147 _ _ _).trans rfl
set_option maxRecDepth 1000000 in
theorem e_X12_reads_152 (x1 : Int32) (x2 : Int32) (o3 : Option zV) (o4 : Option zV) (o5 : Option zV) (h : zH) : zL p_X12_reads 152 [some (.inr (.inr (12, 0))), some (.inl x1), some (.inl x2), o3, o4, o5] [] h = zf (0 < x1) (zf (vp_in x1 7) (zf ((h.1 52 0 x1.toNatClampNeg) = 1) (zL p_X12_reads 152 [some (.inr (.inr (12, 0))), some (.inl (x1 + zm1)), some (.inl x2), none, none, none] [] h) (zcv (f_X12_nextToken [(.inr (.inr (12, 0)))] h) (fun h2 => zL p_X12_reads 11 [some (.inr (.inr (12, 0))), some (.inl x1), some (.inl x2), none, none, none] [] h2))) none) (zcv (f_X12_nextToken [(.inr (.inr (12, 0)))] h) (fun h1 => zL p_X12_reads 11 [some (.inr (.inr (12, 0))), some (.inl x1), some (.inl x2), none, none, none] [] h1)) := (zL_s (t_X12_reads) [0, 11, 65, 99, 120, 147, 152, 206, 237, 263, 289, 304, 342, 379, 399] 1000 152 _ _ _).trans rfl
set_option maxRecDepth 1000000 in
theorem e_X12_reads_206 (x1 : Int32) (o2 : Option zV) (o3 : Option zV) (o4 : Option zV) (o5 : Option zV) (h : zH) : zL p_X12_reads 206 [some (.inr (.inr (12, 0))), some (.inl x1), o2, o3, o4, o5] [] h = zci (f_X12_isSign [(.inr (.inr (12, 0))), (.inl 43)] h) (fun r2 h1 => zf (r2 = 0) (zci (f_X12_isSign [(.inr (.inr (12, 0))), (.inl 45)] h1) (fun r4 h3 => zf (r4 = 0) (zL p_X12_reads 237 [some (.inr (.inr (12, 0))), some (.inl x1), none, none, none, none] [(.inl 22), (.inr (.inr (12, 0)))] h3) (zL p_X12_reads 237 [some (.inr (.inr (12, 0))), some (.inl x1), none, none, none, none] [(.inl 21), (.inr (.inr (12, 0)))] h3))) (zL p_X12_reads 237 [some (.inr (.inr (12, 0))), some (.inl x1), none, none, none, none] [(.inl 20), (.inr (.inr (12, 0)))] h1)) := (zL_s (t_X12_reads) [0, 11, 65, 99, 120, 147, 152, 206, 237, 263, 289, 304, 342, 379, 399] 1000 206 _ _ _).trans rfl
set_option maxRecDepth 1000000 in
theorem e_X12_reads_237 (x1 : Int32) (o2 : Option zV) (o3 : Option zV) (o4 : Option zV) (o5 : Option zV) (s0 : Int32) (h : zH) : zL p_X12_reads 237 [some (.inr (.inr (12, 0))), some (.inl x1), o2, o3, o4, o5] [(.inl s0), (.inr (.inr (12, 0)))] h = zcv (f_X12_puts [(.inr (.inr (12, 0))), (.inl s0)] h) (fun h1 => zcv (f_X12_nextToken [(.inr (.inr (12, 0)))] h1) (fun h2 => zL p_X12_reads 11 [some (.inr (.inr (12, 0))), some (.inl x1), some (.inl 1), none, none, none] [] h2)) := (zL_s (t_X12_reads) [0, 11, 65, 99, 120, 147, 152, 206, 237, 263, 289, 304, 342, 379, 399] 1000 237 _ _ _).trans rfl
set_option maxRecDepth 1000000 in
theorem e_X12_reads_263 (x1 : Int32) (x2 : Int32) (o3 : Option zV) (o4 : Option zV) (o5 : Option zV) (h : zH) : zL p_X12_reads 263 [some (.inr (.inr (12, 0))), some (.inl x1), some (.inl x2), o3, o4, o5] [] h = zf (vp_in x1 7) (zf ((h.1 53 0 x1.toNatClampNeg) = 0) (zci (f_X12_isSign [(.inr (.inr (12, 0))), (.inl 60)] h) (fun r2 h1 => zf (r2 = 0) (zL p_X12_reads 289 [some (.inr (.inr (12, 0))), some (.inl x1), some (.inl x2), none, none, none] [(.inl 25), (.inr (.inr (12, 0)))] h1) (zL p_X12_reads 289 [some (.inr (.inr (12, 0))), some (.inl x1), some (.inl x2), none, none, none] [(.inl 24), (.inr (.inr (12, 0)))] h1))) (zL p_X12_reads 304 [some (.inr (.inr (12, 0))), some (.inl x1), some (.inl x2), none, none, none] [] h)) none := (zL_s (t_X12_reads) [0, 11, 65, 99, 120, 147, 152, 206, 237, 263, 289, 304, 342, 379, 399] 1000 263 _ _ _).trans rfl
set_option maxRecDepth 1000000 in
theorem e_X12_reads_289 (x1 : Int32) (o2 : Option zV) (o3 : Option zV) (o4 : Option zV) (o5 : Option zV) (s0 : Int32) (h : zH) : zL p_X12_reads 289 [some (.inr (.inr (12, 0))), some (.inl x1), o2, o3, o4, o5] [(.inl s0), (.inr (.inr (12, 0)))] h = zcv (f_X12_puts [(.inr (.inr (12, 0))), (.inl s0)] h) (fun h1 => zf (vp_in x1 7) (zcv (f_X12_nextToken [(.inr (.inr (12, 0)))] (zuI h1 53 0 x1.toNatClampNeg (vp_nar .boolean 1))) (fun h2 => zL p_X12_reads 11 [some (.inr (.inr (12, 0))), some (.inl x1), some (.inl 1), none, none, none] [] h2)) none) := (zL_s (t_X12_reads) [0, 11, 65, 99, 120, 147, 152, 206, 237, 263, 289, 304, 342, 379, 399] 1000 289 _ _ _).trans rfl
set_option maxRecDepth 1000000 in
theorem e_X12_reads_304 (x1 : Int32) (x2 : Int32) (o3 : Option zV) (o4 : Option zV) (o5 : Option zV) (h : zH) : zL p_X12_reads 304 [some (.inr (.inr (12, 0))), some (.inl x1), some (.inl x2), o3, o4, o5] [] h = zci (f_X12_isWord [(.inr (.inr (12, 0))), (.inr (.inl 1111))] h) (fun r2 h1 => zf (r2 = 0) (zci (f_X12_isWord [(.inr (.inr (12, 0))), (.inr (.inl 423))] h1) (fun r6 h5 => zf (r6 = 0) (zci (f_X12_isSign [(.inr (.inr (12, 0))), (.inl 41)] h5) (fun r8 h7 => zf (r8 = 0) (zL p_X12_reads 399 [some (.inr (.inr (12, 0))), some (.inl x1), some (.inl x2), none, none, none] [] h7) (zf (0 < x1) (zcv (f_X12_puts [(.inr (.inr (12, 0))), (.inl 29)] h7) (fun h9 => zL p_X12_reads 379 [some (.inr (.inr (12, 0))), some (.inl (x1 + zm1)), some (.inl x2), none, none, none] [] h9)) (zL p_X12_reads 399 [some (.inr (.inr (12, 0))), some (.inl x1), some (.inl x2), none, none, none] [] h7)))) (zci (f_X12_isWord [(.inr (.inr (12, 0))), (.inr (.inl 1111))] h5) (fun r11 h10 => zf (r11 = 0) (zL p_X12_reads 342 [some (.inr (.inr (12, 0))), some (.inl x1), some (.inl x2), none, none, none] [(.inl 27), (.inr (.inr (12, 0)))] h10) (zL p_X12_reads 342 [some (.inr (.inr (12, 0))), some (.inl x1), some (.inl x2), none, none, none] [(.inl 26), (.inr (.inr (12, 0)))] h10))))) (zci (f_X12_isWord [(.inr (.inr (12, 0))), (.inr (.inl 1111))] h1) (fun r4 h3 => zf (r4 = 0) (zL p_X12_reads 342 [some (.inr (.inr (12, 0))), some (.inl x1), some (.inl x2), none, none, none] [(.inl 27), (.inr (.inr (12, 0)))] h3) (zL p_X12_reads 342 [some (.inr (.inr (12, 0))), some (.inl x1), some (.inl x2), none, none, none] [(.inl 26), (.inr (.inr (12, 0)))] h3)))) := (zL_s (t_X12_reads) [0, 11, 65, 99, 120, 147, 152, 206, 237, 263, 289, 304, 342, 379, 399] 1000 304 _ _ _).trans rfl
set_option maxRecDepth 1000000 in
theorem e_X12_reads_342 (x1 : Int32) (o2 : Option zV) (o3 : Option zV) (o4 : Option zV) (o5 : Option zV) (s0 : Int32) (h : zH) : zL p_X12_reads 342 [some (.inr (.inr (12, 0))), some (.inl x1), o2, o3, o4, o5] [(.inl s0), (.inr (.inr (12, 0)))] h = zcv (f_X12_puts [(.inr (.inr (12, 0))), (.inl s0)] h) (fun h1 => zf (vp_in x1 7) (zcv (f_X12_nextToken [(.inr (.inr (12, 0)))] (zuI h1 53 0 x1.toNatClampNeg (vp_nar .boolean 0))) (fun h2 => zL p_X12_reads 11 [some (.inr (.inr (12, 0))), some (.inl x1), some (.inl 1), none, none, none] [] h2)) none) := (zL_s (t_X12_reads) [0, 11, 65, 99, 120, 147, 152, 206, 237, 263, 289, 304, 342, 379, 399] 1000 342 _ _ _).trans rfl
set_option maxRecDepth 1000000 in
theorem e_X12_reads_379 (x1 : Int32) (x2 : Int32) (o3 : Option zV) (o4 : Option zV) (o5 : Option zV) (h : zH) : zL p_X12_reads 379 [some (.inr (.inr (12, 0))), some (.inl x1), some (.inl x2), o3, o4, o5] [] h = zf (0 < x1) (zf (vp_in x1 7) (zf ((h.1 52 0 x1.toNatClampNeg) = 1) (zL p_X12_reads 379 [some (.inr (.inr (12, 0))), some (.inl (x1 + zm1)), some (.inl x2), none, none, none] [] h) (zcv (f_X12_nextToken [(.inr (.inr (12, 0)))] h) (fun h2 => zL p_X12_reads 11 [some (.inr (.inr (12, 0))), some (.inl x1), some (.inl x2), none, none, none] [] h2))) none) (zcv (f_X12_nextToken [(.inr (.inr (12, 0)))] h) (fun h1 => zL p_X12_reads 11 [some (.inr (.inr (12, 0))), some (.inl x1), some (.inl x2), none, none, none] [] h1)) := (zL_s (t_X12_reads) [0, 11, 65, 99, 120, 147, 152, 206, 237, 263, 289, 304, 342, 379, 399] 1000 379 _ _ _).trans rfl
set_option maxRecDepth 1000000 in
theorem e_X12_reads_399 (x1 : Int32) (o2 : Option zV) (o3 : Option zV) (o4 : Option zV) (o5 : Option zV) (h : zH) : zL p_X12_reads 399 [some (.inr (.inr (12, 0))), some (.inl x1), o2, o3, o4, o5] [] h = zf (x1 = 0) (zci (f_X12_isSign [(.inr (.inr (12, 0))), (.inl 59)] h) (fun r4 h3 => zf (r4 = 0) (zci (f_X12_fails [(.inr (.inr (12, 0))), (.inl 1)] h3) (fun r6 h5 => zf ((r6 : Int32) = 0 ∨ (r6 : Int32) = 1) (some (some (.inl r6), h5)) none)) (zcv (f_X12_nextToken [(.inr (.inr (12, 0)))] h3) (fun h7 => some (some (.inl 1), h7))))) (zci (f_X12_fails [(.inr (.inr (12, 0))), (.inl 1)] h) (fun r2 h1 => zf ((r2 : Int32) = 0 ∨ (r2 : Int32) = 1) (some (some (.inl r2), h1)) none)) := (zL_s (t_X12_reads) [0, 11, 65, 99, 120, 147, 152, 206, 237, 263, 289, 304, 342, 379, 399] 1000 399 _ _ _).trans rfl
