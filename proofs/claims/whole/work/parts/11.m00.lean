/-! SoapTreaty$Law.clear()V -/
def y_X1_clear : MethodName := ⟨"SoapTreaty$Law", "clear", "()V"⟩
noncomputable def p_X1_clear_0 : List (Nat × zO) := [(0, zo_aload 0 1),
  (1, zo_push (.inl 0) 2),
  (2, zo_putI 1 2 5),
  (5, zo_ret)]
noncomputable def p_X1_clear : Nat → zO := zgs [(6, p_X1_clear_0)]
theorem t_X1_clear : ∀ k, zTl (p_X1_clear k) := fun k => zgs_all (c := [(6, p_X1_clear_0)]) (fun _ => zl_bad) ⟨⟨zl_aload, zl_push, zl_putI, zl_ret, trivial⟩, trivial⟩ k
noncomputable def f_X1_clear : zS := zrun p_X1_clear 1
set_option maxRecDepth 20000 in
theorem s_X1_clear_0 {l : Launch} {D : va_G} {ad : Nat → Nat → Nat} {cy : Nat → ClassId} {L : List (Nat × Nat)} (hcl : zclo L = true) (hinj : zAd ad L) {X : zCtx} (hX : zXok X "SoapTreaty$Law" prog_3_method_2_code 1) (hR : zRt X none) (hl : zXl X l D ad cy L (zroom 1)) : zAllR (zSo X) p_X1_clear_0 := ⟨zs_aload_n (i := 0) rfl hX (by decide +kernel : decode prog_3_method_2_code 0 = .ok (.aload_n 0, 1)) rfl (by decide),
  zs_pushI (zg_iconst (by decide) hX (by decide +kernel : decode prog_3_method_2_code 1 = .ok (.iconst 0, 1)) rfl),
  zs_putI hX zFP_1_18 (by decide +kernel : decode prog_3_method_2_code 2 = .ok (.putfield 18, 3)) rfl,
  zs_ret hX hR (by decide +kernel : decode prog_3_method_2_code 5 = .ok (.return_, 1)), trivial⟩
theorem k_X1_clear {l : Launch} {D : va_G} {ad : Nat → Nat → Nat} {cy : Nat → ClassId} {L : List (Nat × Nat)} (hcl : zclo L = true) (hinj : zAd ad L) : zCk l D ad cy L 1 f_X1_clear y_X1_clear (.code y_X1_clear prog_3_method_2_code 1 none) :=
  z_met (by decide) t_X1_clear hcl hinj (fun X hX hR hl k => zgs_all (Q := zSo X) (c := [(6, p_X1_clear_0)]) (fun _ => zs_bad) ⟨s_X1_clear_0 hcl hinj hX hR hl, trivial⟩ k)
set_option maxRecDepth 1000000 in
theorem e_X1_clear_0 (jx0 : Nat) (h : zH) : zL p_X1_clear 0 [some (.inr (.inr (1, jx0)))] [] h = some (none, (zuI h 1 jx0 2 0)) := (zL_s (t_X1_clear) [0] 1000 0 _ _ _).trans rfl
theorem g_X1_clear (jx0 : Nat) (h : zH) : f_X1_clear [(.inr (.inr (1, jx0)))] h = some (none, (zuI h 1 jx0 2 0)) := (show f_X1_clear _ h = zL p_X1_clear 0 _ [] h from rfl).trans (e_X1_clear_0 jx0 h)
/-! SoapTreaty$Law.add(I)V -/
def y_X1_add : MethodName := ⟨"SoapTreaty$Law", "add", "(I)V"⟩
noncomputable def p_X1_add_0 : List (Nat × zO) := [(0, zo_aload 0 1),
  (1, zo_getI 1 2 4),
  (4, zo_push (.inl 1000) 7),
  (7, zo_cge 30 10),
  (10, zo_aload 0 11),
  (11, zo_getR 1 22 none 14),
  (14, zo_aload 0 15),
  (15, zo_getI 1 2 18),
  (18, zo_iload 1 19),
  (19, zo_iast 20),
  (20, zo_aload 0 21),
  (21, zo_dup 22),
  (22, zo_getI 1 2 25),
  (25, zo_push (.inl 1) 26),
  (26, zo_ii (fun x y => x + y) 27),
  (27, zo_putI 1 2 30),
  (30, zo_ret)]
noncomputable def p_X1_add : Nat → zO := zgs [(31, p_X1_add_0)]
theorem t_X1_add : ∀ k, zTl (p_X1_add k) := fun k => zgs_all (c := [(31, p_X1_add_0)]) (fun _ => zl_bad) ⟨⟨zl_aload, zl_getI, zl_push, zl_cge, zl_aload, zl_getR, zl_aload, zl_getI, zl_iload, zl_iast, zl_aload, zl_dup, zl_getI, zl_push, zl_ii, zl_putI, zl_ret, trivial⟩, trivial⟩ k
noncomputable def f_X1_add : zS := zrun p_X1_add 2
set_option maxRecDepth 20000 in
theorem s_X1_add_0 {l : Launch} {D : va_G} {ad : Nat → Nat → Nat} {cy : Nat → ClassId} {L : List (Nat × Nat)} (hcl : zclo L = true) (hinj : zAd ad L) {X : zCtx} (hX : zXok X "SoapTreaty$Law" prog_3_method_4_code 2) (hR : zRt X none) (hl : zXl X l D ad cy L (zroom 1)) : zAllR (zSo X) p_X1_add_0 := ⟨zs_aload_n (i := 0) rfl hX (by decide +kernel : decode prog_3_method_4_code 0 = .ok (.aload_n 0, 1)) rfl (by decide),
  zs_getI hX zFL_1_18 (by decide) (by decide) (by decide +kernel : decode prog_3_method_4_code 1 = .ok (.getfield 18, 3)) rfl,
  zs_pushI (zg_sipush (by decide) hX (by decide +kernel : decode prog_3_method_4_code 4 = .ok (.sipush 1000, 3)) rfl),
  zs_cge hX (by decide +kernel : decode prog_3_method_4_code 7 = .ok (.if_icmp .ge 23, 3)) (by decide) rfl,
  zs_aload_n (i := 0) rfl hX (by decide +kernel : decode prog_3_method_4_code 10 = .ok (.aload_n 0, 1)) rfl (by decide),
  zs_getR hX zFL_1_9 (by decide +kernel : decode prog_3_method_4_code 11 = .ok (.getfield 9, 3)) rfl,
  zs_aload_n (i := 0) rfl hX (by decide +kernel : decode prog_3_method_4_code 14 = .ok (.aload_n 0, 1)) rfl (by decide),
  zs_getI hX zFL_1_18 (by decide) (by decide) (by decide +kernel : decode prog_3_method_4_code 15 = .ok (.getfield 18, 3)) rfl,
  zs_iload_n (i := 1) rfl hX (by decide +kernel : decode prog_3_method_4_code 18 = .ok (.iload_n 1, 1)) rfl (by decide),
  zs_iast hX (by decide +kernel : decode prog_3_method_4_code 19 = .ok (.iastore, 1)) rfl,
  zs_aload_n (i := 0) rfl hX (by decide +kernel : decode prog_3_method_4_code 20 = .ok (.aload_n 0, 1)) rfl (by decide),
  zs_dup hX (by decide +kernel : decode prog_3_method_4_code 21 = .ok (.dup, 1)) rfl,
  zs_getI hX zFL_1_18 (by decide) (by decide) (by decide +kernel : decode prog_3_method_4_code 22 = .ok (.getfield 18, 3)) rfl,
  zs_pushI (zg_iconst (by decide) hX (by decide +kernel : decode prog_3_method_4_code 25 = .ok (.iconst 1, 1)) rfl),
  zs_ii (zg_iadd hX (by decide +kernel : decode prog_3_method_4_code 26 = .ok (.iadd, 1)) rfl),
  zs_putI hX zFP_1_18 (by decide +kernel : decode prog_3_method_4_code 27 = .ok (.putfield 18, 3)) rfl,
  zs_ret hX hR (by decide +kernel : decode prog_3_method_4_code 30 = .ok (.return_, 1)), trivial⟩
theorem k_X1_add {l : Launch} {D : va_G} {ad : Nat → Nat → Nat} {cy : Nat → ClassId} {L : List (Nat × Nat)} (hcl : zclo L = true) (hinj : zAd ad L) : zCk l D ad cy L 1 f_X1_add y_X1_add (.code y_X1_add prog_3_method_4_code 2 none) :=
  z_met (by decide) t_X1_add hcl hinj (fun X hX hR hl k => zgs_all (Q := zSo X) (c := [(31, p_X1_add_0)]) (fun _ => zs_bad) ⟨s_X1_add_0 hcl hinj hX hR hl, trivial⟩ k)
set_option maxRecDepth 1000000 in
theorem e_X1_add_0 (jx0 : Nat) (x1 : Int32) (h : zH) : zL p_X1_add 0 [some (.inr (.inr (1, jx0))), some (.inl x1)] [] h = zf ((h.1 1 jx0 2) < 1000) (zf (vp_in (h.1 1 jx0 2) 1000) (some (none, (zuI (zuI h 22 jx0 (h.1 1 jx0 2).toNatClampNeg x1) 1 jx0 2 ((h.1 1 jx0 2) + (1 : Int32))))) none) (some (none, h)) := (zL_s (t_X1_add) [0] 1000 0 _ _ _).trans rfl
theorem g_X1_add (jx0 : Nat) (x1 : Int32) (h : zH) : f_X1_add [(.inr (.inr (1, jx0))), (.inl x1)] h = zf ((h.1 1 jx0 2) < 1000) (zf (vp_in (h.1 1 jx0 2) 1000) (some (none, (zuI (zuI h 22 jx0 (h.1 1 jx0 2).toNatClampNeg x1) 1 jx0 2 ((h.1 1 jx0 2) + (1 : Int32))))) none) (some (none, h)) := (show f_X1_add _ h = zL p_X1_add 0 _ [] h from rfl).trans (e_X1_add_0 jx0 x1 h)
theorem zMV_1_22 : zMV "SoapTreaty$Law" 22 1 y_X1_clear prog_3_method_2_code 1 none 0 := ⟨⟨zT_of 178 (by decide +kernel) (by decide +kernel), zT_of 179 (by decide +kernel) (by decide +kernel), zT_of 180 (by decide +kernel) (by decide +kernel), zT_of 105 (by decide +kernel) (by decide +kernel), zT_of 181 (by decide +kernel) (by decide +kernel)⟩, by decide, rfl, ⟨zT1, 3, rfl⟩, by decide, by decide, by decide +kernel⟩
theorem zMV_1_25 : zMV "SoapTreaty$Law" 25 1 y_X1_add prog_3_method_4_code 2 none 1 := ⟨⟨zT_of 182 (by decide +kernel) (by decide +kernel), zT_of 183 (by decide +kernel) (by decide +kernel), zT_of 184 (by decide +kernel) (by decide +kernel), zT_of 105 (by decide +kernel) (by decide +kernel), zT_of 185 (by decide +kernel) (by decide +kernel)⟩, by decide, rfl, ⟨zT1, 3, rfl⟩, by decide, by decide, by decide +kernel⟩
/-! SoapTreaty$Law.tellUsual()V -/
def y_X1_tellUsual : MethodName := ⟨"SoapTreaty$Law", "tellUsual", "()V"⟩
noncomputable def p_X1_tellUsual_0 : List (Nat × zO) := [(0, zo_aload 0 1),
  (1, zo_vir 1 1 (zo_callv (f_X1_clear) 1 4)),
  (4, zo_aload 0 5),
  (5, zo_push (.inl 1) 6),
  (6, zo_vir 1 2 (zo_callv (f_X1_add) 2 9)),
  (9, zo_aload 0 10),
  (10, zo_push (.inl zm2) 12),
  (12, zo_vir 1 2 (zo_callv (f_X1_add) 2 15)),
  (15, zo_aload 0 16),
  (16, zo_push (.inl zm3) 18),
  (18, zo_vir 1 2 (zo_callv (f_X1_add) 2 21)),
  (21, zo_aload 0 22),
  (22, zo_push (.inl zm8) 24),
  (24, zo_vir 1 2 (zo_callv (f_X1_add) 2 27)),
  (27, zo_aload 0 28),
  (28, zo_push (.inl zm10) 30),
  (30, zo_vir 1 2 (zo_callv (f_X1_add) 2 33)),
  (33, zo_ret)]
noncomputable def p_X1_tellUsual : Nat → zO := zgs [(34, p_X1_tellUsual_0)]
theorem t_X1_tellUsual : ∀ k, zTl (p_X1_tellUsual k) := fun k => zgs_all (c := [(34, p_X1_tellUsual_0)]) (fun _ => zl_bad) ⟨⟨zl_aload, (zl_vir zl_callv), zl_aload, zl_push, (zl_vir zl_callv), zl_aload, zl_push, (zl_vir zl_callv), zl_aload, zl_push, (zl_vir zl_callv), zl_aload, zl_push, (zl_vir zl_callv), zl_aload, zl_push, (zl_vir zl_callv), zl_ret, trivial⟩, trivial⟩ k
noncomputable def f_X1_tellUsual : zS := zrun p_X1_tellUsual 1
set_option maxRecDepth 20000 in
theorem s_X1_tellUsual_0 {l : Launch} {D : va_G} {ad : Nat → Nat → Nat} {cy : Nat → ClassId} {L : List (Nat × Nat)} (hcl : zclo L = true) (hinj : zAd ad L) {X : zCtx} (hX : zXok X "SoapTreaty$Law" prog_3_method_3_code 1) (hR : zRt X none) (hl : zXl X l D ad cy L (zroom 2)) : zAllR (zSo X) p_X1_tellUsual_0 := ⟨zs_aload_n (i := 0) rfl hX (by decide +kernel : decode prog_3_method_3_code 0 = .ok (.aload_n 0, 1)) rfl (by decide),
  zs_callVv hX zMV_1_22 (zXc_of hl (by decide) (k_X1_clear hcl hinj)) (by decide +kernel : decode prog_3_method_3_code 1 = .ok (.invokevirtual 22, 3)) rfl,
  zs_aload_n (i := 0) rfl hX (by decide +kernel : decode prog_3_method_3_code 4 = .ok (.aload_n 0, 1)) rfl (by decide),
  zs_pushI (zg_iconst (by decide) hX (by decide +kernel : decode prog_3_method_3_code 5 = .ok (.iconst 1, 1)) rfl),
  zs_callVv hX zMV_1_25 (zXc_of hl (by decide) (k_X1_add hcl hinj)) (by decide +kernel : decode prog_3_method_3_code 6 = .ok (.invokevirtual 25, 3)) rfl,
  zs_aload_n (i := 0) rfl hX (by decide +kernel : decode prog_3_method_3_code 9 = .ok (.aload_n 0, 1)) rfl (by decide),
  zs_pushI (zg_bipush (by decide) hX (by decide +kernel : decode prog_3_method_3_code 10 = .ok (.bipush (-2), 2)) rfl),
  zs_callVv hX zMV_1_25 (zXc_of hl (by decide) (k_X1_add hcl hinj)) (by decide +kernel : decode prog_3_method_3_code 12 = .ok (.invokevirtual 25, 3)) rfl,
  zs_aload_n (i := 0) rfl hX (by decide +kernel : decode prog_3_method_3_code 15 = .ok (.aload_n 0, 1)) rfl (by decide),
  zs_pushI (zg_bipush (by decide) hX (by decide +kernel : decode prog_3_method_3_code 16 = .ok (.bipush (-3), 2)) rfl),
  zs_callVv hX zMV_1_25 (zXc_of hl (by decide) (k_X1_add hcl hinj)) (by decide +kernel : decode prog_3_method_3_code 18 = .ok (.invokevirtual 25, 3)) rfl,
  zs_aload_n (i := 0) rfl hX (by decide +kernel : decode prog_3_method_3_code 21 = .ok (.aload_n 0, 1)) rfl (by decide),
  zs_pushI (zg_bipush (by decide) hX (by decide +kernel : decode prog_3_method_3_code 22 = .ok (.bipush (-8), 2)) rfl),
  zs_callVv hX zMV_1_25 (zXc_of hl (by decide) (k_X1_add hcl hinj)) (by decide +kernel : decode prog_3_method_3_code 24 = .ok (.invokevirtual 25, 3)) rfl,
  zs_aload_n (i := 0) rfl hX (by decide +kernel : decode prog_3_method_3_code 27 = .ok (.aload_n 0, 1)) rfl (by decide),
  zs_pushI (zg_bipush (by decide) hX (by decide +kernel : decode prog_3_method_3_code 28 = .ok (.bipush (-10), 2)) rfl),
  zs_callVv hX zMV_1_25 (zXc_of hl (by decide) (k_X1_add hcl hinj)) (by decide +kernel : decode prog_3_method_3_code 30 = .ok (.invokevirtual 25, 3)) rfl,
  zs_ret hX hR (by decide +kernel : decode prog_3_method_3_code 33 = .ok (.return_, 1)), trivial⟩
theorem k_X1_tellUsual {l : Launch} {D : va_G} {ad : Nat → Nat → Nat} {cy : Nat → ClassId} {L : List (Nat × Nat)} (hcl : zclo L = true) (hinj : zAd ad L) : zCk l D ad cy L 2 f_X1_tellUsual y_X1_tellUsual (.code y_X1_tellUsual prog_3_method_3_code 1 none) :=
  z_met (by decide) t_X1_tellUsual hcl hinj (fun X hX hR hl k => zgs_all (Q := zSo X) (c := [(34, p_X1_tellUsual_0)]) (fun _ => zs_bad) ⟨s_X1_tellUsual_0 hcl hinj hX hR hl, trivial⟩ k)
set_option maxRecDepth 1000000 in
theorem e_X1_tellUsual_0 (jx0 : Nat) (h : zH) : zL p_X1_tellUsual 0 [some (.inr (.inr (1, jx0)))] [] h = zcv (f_X1_clear [(.inr (.inr (1, jx0)))] h) (fun h1 => zcv (f_X1_add [(.inr (.inr (1, jx0))), (.inl 1)] h1) (fun h2 => zcv (f_X1_add [(.inr (.inr (1, jx0))), (.inl zm2)] h2) (fun h3 => zcv (f_X1_add [(.inr (.inr (1, jx0))), (.inl zm3)] h3) (fun h4 => zcv (f_X1_add [(.inr (.inr (1, jx0))), (.inl zm8)] h4) (fun h5 => zcv (f_X1_add [(.inr (.inr (1, jx0))), (.inl zm10)] h5) (fun h6 => some (none, h6))))))) := (zL_s (t_X1_tellUsual) [0] 1000 0 _ _ _).trans rfl
theorem g_X1_tellUsual (jx0 : Nat) (h : zH) : f_X1_tellUsual [(.inr (.inr (1, jx0)))] h = zcv (f_X1_clear [(.inr (.inr (1, jx0)))] h) (fun h1 => zcv (f_X1_add [(.inr (.inr (1, jx0))), (.inl 1)] h1) (fun h2 => zcv (f_X1_add [(.inr (.inr (1, jx0))), (.inl zm2)] h2) (fun h3 => zcv (f_X1_add [(.inr (.inr (1, jx0))), (.inl zm3)] h3) (fun h4 => zcv (f_X1_add [(.inr (.inr (1, jx0))), (.inl zm8)] h4) (fun h5 => zcv (f_X1_add [(.inr (.inr (1, jx0))), (.inl zm10)] h5) (fun h6 => some (none, h6))))))) := (show f_X1_tellUsual _ h = zL p_X1_tellUsual 0 _ [] h from rfl).trans (e_X1_tellUsual_0 jx0 h)
theorem zMV_0_51 : zMV "SoapTreaty$Congress" 51 1 y_X1_tellUsual prog_3_method_3_code 1 none 0 := ⟨⟨zT_of 174 (by decide +kernel) (by decide +kernel), zT_of 175 (by decide +kernel) (by decide +kernel), zT_of 176 (by decide +kernel) (by decide +kernel), zT_of 105 (by decide +kernel) (by decide +kernel), zT_of 177 (by decide +kernel) (by decide +kernel)⟩, by decide, rfl, ⟨zT1, 3, rfl⟩, by decide, by decide, by decide +kernel⟩
/-! SoapTreaty$Congress.clear()V -/
def y_X0_clear : MethodName := ⟨"SoapTreaty$Congress", "clear", "()V"⟩
noncomputable def p_X0_clear_0 : List (Nat × zO) := [(0, zo_aload 0 1),
  (1, zo_push (.inl 0) 2),
  (2, zo_putI 0 0 5),
  (5, zo_aload 0 6),
  (6, zo_push (.inl 0) 7),
  (7, zo_putI 0 4 10),
  (10, zo_aload 0 11),
  (11, zo_push (.inl 2) 12),
  (12, zo_putI 0 11 15),
  (15, zo_aload 0 16),
  (16, zo_getR 0 1 none 19),
  (19, zo_vir 1 1 (zo_callv (f_X1_tellUsual) 1 22)),
  (22, zo_ret)]
noncomputable def p_X0_clear : Nat → zO := zgs [(23, p_X0_clear_0)]
theorem t_X0_clear : ∀ k, zTl (p_X0_clear k) := fun k => zgs_all (c := [(23, p_X0_clear_0)]) (fun _ => zl_bad) ⟨⟨zl_aload, zl_push, zl_putI, zl_aload, zl_push, zl_putI, zl_aload, zl_push, zl_putI, zl_aload, zl_getR, (zl_vir zl_callv), zl_ret, trivial⟩, trivial⟩ k
noncomputable def f_X0_clear : zS := zrun p_X0_clear 1
set_option maxRecDepth 20000 in
theorem s_X0_clear_0 {l : Launch} {D : va_G} {ad : Nat → Nat → Nat} {cy : Nat → ClassId} {L : List (Nat × Nat)} (hcl : zclo L = true) (hinj : zAd ad L) {X : zCtx} (hX : zXok X "SoapTreaty$Congress" prog_2_method_2_code 1) (hR : zRt X none) (hl : zXl X l D ad cy L (zroom 3)) : zAllR (zSo X) p_X0_clear_0 := ⟨zs_aload_n (i := 0) rfl hX (by decide +kernel : decode prog_2_method_2_code 0 = .ok (.aload_n 0, 1)) rfl (by decide),
  zs_pushI (zg_iconst (by decide) hX (by decide +kernel : decode prog_2_method_2_code 1 = .ok (.iconst 0, 1)) rfl),
  zs_putI hX zFP_0_54 (by decide +kernel : decode prog_2_method_2_code 2 = .ok (.putfield 54, 3)) rfl,
  zs_aload_n (i := 0) rfl hX (by decide +kernel : decode prog_2_method_2_code 5 = .ok (.aload_n 0, 1)) rfl (by decide),
  zs_pushI (zg_iconst (by decide) hX (by decide +kernel : decode prog_2_method_2_code 6 = .ok (.iconst 0, 1)) rfl),
  zs_putI hX zFP_0_57 (by decide +kernel : decode prog_2_method_2_code 7 = .ok (.putfield 57, 3)) rfl,
  zs_aload_n (i := 0) rfl hX (by decide +kernel : decode prog_2_method_2_code 10 = .ok (.aload_n 0, 1)) rfl (by decide),
  zs_pushI (zg_iconst (by decide) hX (by decide +kernel : decode prog_2_method_2_code 11 = .ok (.iconst 2, 1)) rfl),
  zs_putI hX zFP_0_47 (by decide +kernel : decode prog_2_method_2_code 12 = .ok (.putfield 47, 3)) rfl,
  zs_aload_n (i := 0) rfl hX (by decide +kernel : decode prog_2_method_2_code 15 = .ok (.aload_n 0, 1)) rfl (by decide),
  zs_getR hX zFL_0_43 (by decide +kernel : decode prog_2_method_2_code 16 = .ok (.getfield 43, 3)) rfl,
  zs_callVv hX zMV_0_51 (zXc_of hl (by decide) (k_X1_tellUsual hcl hinj)) (by decide +kernel : decode prog_2_method_2_code 19 = .ok (.invokevirtual 51, 3)) rfl,
  zs_ret hX hR (by decide +kernel : decode prog_2_method_2_code 22 = .ok (.return_, 1)), trivial⟩
theorem k_X0_clear {l : Launch} {D : va_G} {ad : Nat → Nat → Nat} {cy : Nat → ClassId} {L : List (Nat × Nat)} (hcl : zclo L = true) (hinj : zAd ad L) : zCk l D ad cy L 3 f_X0_clear y_X0_clear (.code y_X0_clear prog_2_method_2_code 1 none) :=
  z_met (by decide) t_X0_clear hcl hinj (fun X hX hR hl k => zgs_all (Q := zSo X) (c := [(23, p_X0_clear_0)]) (fun _ => zs_bad) ⟨s_X0_clear_0 hcl hinj hX hR hl, trivial⟩ k)
set_option maxRecDepth 1000000 in
theorem e_X0_clear_0 (jx0 : Nat) (h : zH) : zL p_X0_clear 0 [some (.inr (.inr (0, jx0)))] [] h = zcv (f_X1_tellUsual [(.inr (.inr (1, jx0)))] (zuI (zuI (zuI h 0 jx0 0 0) 0 jx0 4 0) 0 jx0 11 2)) (fun h1 => some (none, h1)) := (zL_s (t_X0_clear) [0] 1000 0 _ _ _).trans rfl
theorem g_X0_clear (jx0 : Nat) (h : zH) : f_X0_clear [(.inr (.inr (0, jx0)))] h = zcv (f_X1_tellUsual [(.inr (.inr (1, jx0)))] (zuI (zuI (zuI h 0 jx0 0 0) 0 jx0 4 0) 0 jx0 11 2)) (fun h1 => some (none, h1)) := (show f_X0_clear _ h = zL p_X0_clear 0 _ [] h from rfl).trans (e_X0_clear_0 jx0 h)
/-! SoapTreaty$Law.copyFrom(LSoapTreaty$Law;)V -/
def y_X1_copyFrom : MethodName := ⟨"SoapTreaty$Law", "copyFrom", "(LSoapTreaty$Law;)V"⟩
noncomputable def p_X1_copyFrom_0 : List (Nat × zO) := [(0, zo_aload 0 1),
  (1, zo_aload 1 2),
  (2, zo_getI 1 2 5),
  (5, zo_putI 1 2 8),
  (8, zo_aload 1 9),
  (9, zo_getR 1 22 none 12),
  (12, zo_push (.inl 0) 13),
  (13, zo_aload 0 14),
  (14, zo_getR 1 22 none 17),
  (17, zo_push (.inl 0) 18),
  (18, zo_push (.inl 1000) 21),
  (21, zo_cpyI 24),
  (24, zo_ret)]
noncomputable def p_X1_copyFrom : Nat → zO := zgs [(25, p_X1_copyFrom_0)]
theorem t_X1_copyFrom : ∀ k, zTl (p_X1_copyFrom k) := fun k => zgs_all (c := [(25, p_X1_copyFrom_0)]) (fun _ => zl_bad) ⟨⟨zl_aload, zl_aload, zl_getI, zl_putI, zl_aload, zl_getR, zl_push, zl_aload, zl_getR, zl_push, zl_push, zl_cpyI, zl_ret, trivial⟩, trivial⟩ k
noncomputable def f_X1_copyFrom : zS := zrun p_X1_copyFrom 2
set_option maxRecDepth 20000 in
theorem s_X1_copyFrom_0 {l : Launch} {D : va_G} {ad : Nat → Nat → Nat} {cy : Nat → ClassId} {L : List (Nat × Nat)} (hcl : zclo L = true) (hinj : zAd ad L) {X : zCtx} (hX : zXok X "SoapTreaty$Law" prog_3_method_5_code 2) (hR : zRt X none) (hl : zXl X l D ad cy L (zroom 1)) : zAllR (zSo X) p_X1_copyFrom_0 := ⟨zs_aload_n (i := 0) rfl hX (by decide +kernel : decode prog_3_method_5_code 0 = .ok (.aload_n 0, 1)) rfl (by decide),
  zs_aload_n (i := 1) rfl hX (by decide +kernel : decode prog_3_method_5_code 1 = .ok (.aload_n 1, 1)) rfl (by decide),
  zs_getI hX zFL_1_18 (by decide) (by decide) (by decide +kernel : decode prog_3_method_5_code 2 = .ok (.getfield 18, 3)) rfl,
  zs_putI hX zFP_1_18 (by decide +kernel : decode prog_3_method_5_code 5 = .ok (.putfield 18, 3)) rfl,
  zs_aload_n (i := 1) rfl hX (by decide +kernel : decode prog_3_method_5_code 8 = .ok (.aload_n 1, 1)) rfl (by decide),
  zs_getR hX zFL_1_9 (by decide +kernel : decode prog_3_method_5_code 9 = .ok (.getfield 9, 3)) rfl,
  zs_pushI (zg_iconst (by decide) hX (by decide +kernel : decode prog_3_method_5_code 12 = .ok (.iconst 0, 1)) rfl),
  zs_aload_n (i := 0) rfl hX (by decide +kernel : decode prog_3_method_5_code 13 = .ok (.aload_n 0, 1)) rfl (by decide),
  zs_getR hX zFL_1_9 (by decide +kernel : decode prog_3_method_5_code 14 = .ok (.getfield 9, 3)) rfl,
  zs_pushI (zg_iconst (by decide) hX (by decide +kernel : decode prog_3_method_5_code 17 = .ok (.iconst 0, 1)) rfl),
  zs_pushI (zg_sipush (by decide) hX (by decide +kernel : decode prog_3_method_5_code 18 = .ok (.sipush 1000, 3)) rfl),
  zs_cpyI hX zK_1_29 (by decide +kernel : decode prog_3_method_5_code 21 = .ok (.invokestatic 29, 3)) rfl,
  zs_ret hX hR (by decide +kernel : decode prog_3_method_5_code 24 = .ok (.return_, 1)), trivial⟩
theorem k_X1_copyFrom {l : Launch} {D : va_G} {ad : Nat → Nat → Nat} {cy : Nat → ClassId} {L : List (Nat × Nat)} (hcl : zclo L = true) (hinj : zAd ad L) : zCk l D ad cy L 1 f_X1_copyFrom y_X1_copyFrom (.code y_X1_copyFrom prog_3_method_5_code 2 none) :=
  z_met (by decide) t_X1_copyFrom hcl hinj (fun X hX hR hl k => zgs_all (Q := zSo X) (c := [(25, p_X1_copyFrom_0)]) (fun _ => zs_bad) ⟨s_X1_copyFrom_0 hcl hinj hX hR hl, trivial⟩ k)
set_option maxRecDepth 1000000 in
theorem e_X1_copyFrom_0 (jx0 : Nat) (jx1 : Nat) (h : zH) : zL p_X1_copyFrom 0 [some (.inr (.inr (1, jx0))), some (.inr (.inr (1, jx1)))] [] h = some (none, (zcI (zuI h 1 jx0 2 (h.1 1 jx1 2)) 22 jx1 22 jx0 1000)) := (zL_s (t_X1_copyFrom) [0] 1000 0 _ _ _).trans rfl
theorem g_X1_copyFrom (jx0 : Nat) (jx1 : Nat) (h : zH) : f_X1_copyFrom [(.inr (.inr (1, jx0))), (.inr (.inr (1, jx1)))] h = some (none, (zcI (zuI h 1 jx0 2 (h.1 1 jx1 2)) 22 jx1 22 jx0 1000)) := (show f_X1_copyFrom _ h = zL p_X1_copyFrom 0 _ [] h from rfl).trans (e_X1_copyFrom_0 jx0 jx1 h)
theorem zMV_0_66 : zMV "SoapTreaty$Congress" 66 1 y_X1_copyFrom prog_3_method_5_code 2 none 1 := ⟨⟨zT_of 722 (by decide +kernel) (by decide +kernel), zT_of 723 (by decide +kernel) (by decide +kernel), zT_of 724 (by decide +kernel) (by decide +kernel), zT_of 105 (by decide +kernel) (by decide +kernel), zT_of 725 (by decide +kernel) (by decide +kernel)⟩, by decide, rfl, ⟨zT1, 3, rfl⟩, by decide, by decide, by decide +kernel⟩
/-! SoapTreaty$Congress.copyFrom(LSoapTreaty$Congress;)V -/
def y_X0_copyFrom : MethodName := ⟨"SoapTreaty$Congress", "copyFrom", "(LSoapTreaty$Congress;)V"⟩
noncomputable def p_X0_copyFrom_0 : List (Nat × zO) := [(0, zo_aload 0 1),
  (1, zo_aload 1 2),
  (2, zo_getI 0 0 5),
  (5, zo_putI 0 0 8),
  (8, zo_aload 1 9),
  (9, zo_getR 0 13 none 12),
  (12, zo_push (.inl 0) 13),
  (13, zo_aload 0 14),
  (14, zo_getR 0 13 none 17),
  (17, zo_push (.inl 0) 18),
  (18, zo_push (.inl 5) 19),
  (19, zo_cpyJ 22),
  (22, zo_aload 1 23),
  (23, zo_getR 0 14 none 26),
  (26, zo_push (.inl 0) 27),
  (27, zo_aload 0 28),
  (28, zo_getR 0 14 none 31),
  (31, zo_push (.inl 0) 32),
  (32, zo_push (.inl 5) 33),
  (33, zo_cpyI 36)]
noncomputable def p_X0_copyFrom_1 : List (Nat × zO) := [(36, zo_aload 1 37),
  (37, zo_getR 0 15 none 40),
  (40, zo_push (.inl 0) 41),
  (41, zo_aload 0 42),
  (42, zo_getR 0 15 none 45),
  (45, zo_push (.inl 0) 46),
  (46, zo_push (.inl 5) 47),
  (47, zo_cpyI 50),
  (50, zo_aload 0 51),
  (51, zo_aload 1 52),
  (52, zo_getI 0 4 55),
  (55, zo_putI 0 4 58),
  (58, zo_aload 1 59),
  (59, zo_getR 0 16 none 62),
  (62, zo_push (.inl 0) 63),
  (63, zo_aload 0 64),
  (64, zo_getR 0 16 none 67),
  (67, zo_push (.inl 0) 68),
  (68, zo_push (.inl 7) 70),
  (70, zo_cpyJ 73)]
noncomputable def p_X0_copyFrom_2 : List (Nat × zO) := [(73, zo_aload 1 74),
  (74, zo_getR 0 17 none 77),
  (77, zo_push (.inl 0) 78),
  (78, zo_aload 0 79),
  (79, zo_getR 0 17 none 82),
  (82, zo_push (.inl 0) 83),
  (83, zo_push (.inl 7) 85),
  (85, zo_cpyI 88),
  (88, zo_aload 1 89),
  (89, zo_getR 0 18 none 92),
  (92, zo_push (.inl 0) 93),
  (93, zo_aload 0 94),
  (94, zo_getR 0 18 none 97),
  (97, zo_push (.inl 0) 98),
  (98, zo_push (.inl 7) 100),
  (100, zo_cpyI 103),
  (103, zo_aload 1 104),
  (104, zo_getR 0 19 none 107),
  (107, zo_push (.inl 0) 108),
  (108, zo_aload 0 109)]
noncomputable def p_X0_copyFrom_3 : List (Nat × zO) := [(109, zo_getR 0 19 none 112),
  (112, zo_push (.inl 0) 113),
  (113, zo_push (.inl 7) 115),
  (115, zo_cpyI 118),
  (118, zo_aload 1 119),
  (119, zo_getR 0 20 none 122),
  (122, zo_push (.inl 0) 123),
  (123, zo_aload 0 124),
  (124, zo_getR 0 20 none 127),
  (127, zo_push (.inl 0) 128),
  (128, zo_push (.inl 7) 130),
  (130, zo_cpyI 133),
  (133, zo_aload 1 134),
  (134, zo_getR 0 21 none 137),
  (137, zo_push (.inl 0) 138),
  (138, zo_aload 0 139),
  (139, zo_getR 0 21 none 142),
  (142, zo_push (.inl 0) 143),
  (143, zo_push (.inl 7) 145),
  (145, zo_cpyI 148)]
noncomputable def p_X0_copyFrom_4 : List (Nat × zO) := [(148, zo_aload 0 149),
  (149, zo_aload 1 150),
  (150, zo_getI 0 11 153),
  (153, zo_putI 0 11 156),
  (156, zo_aload 0 157),
  (157, zo_getR 0 1 none 160),
  (160, zo_aload 1 161),
  (161, zo_getR 0 1 none 164),
  (164, zo_vir 1 2 (zo_callv (f_X1_copyFrom) 2 167)),
  (167, zo_ret)]
noncomputable def p_X0_copyFrom : Nat → zO := zgs [(34, p_X0_copyFrom_0), (71, p_X0_copyFrom_1), (109, p_X0_copyFrom_2), (146, p_X0_copyFrom_3), (168, p_X0_copyFrom_4)]
theorem t_X0_copyFrom : ∀ k, zTl (p_X0_copyFrom k) := fun k => zgs_all (c := [(34, p_X0_copyFrom_0), (71, p_X0_copyFrom_1), (109, p_X0_copyFrom_2), (146, p_X0_copyFrom_3), (168, p_X0_copyFrom_4)]) (fun _ => zl_bad) ⟨⟨zl_aload, zl_aload, zl_getI, zl_putI, zl_aload, zl_getR, zl_push, zl_aload, zl_getR, zl_push, zl_push, zl_cpyJ, zl_aload, zl_getR, zl_push, zl_aload, zl_getR, zl_push, zl_push, zl_cpyI, trivial⟩, ⟨zl_aload, zl_getR, zl_push, zl_aload, zl_getR, zl_push, zl_push, zl_cpyI, zl_aload, zl_aload, zl_getI, zl_putI, zl_aload, zl_getR, zl_push, zl_aload, zl_getR, zl_push, zl_push, zl_cpyJ, trivial⟩, ⟨zl_aload, zl_getR, zl_push, zl_aload, zl_getR, zl_push, zl_push, zl_cpyI, zl_aload, zl_getR, zl_push, zl_aload, zl_getR, zl_push, zl_push, zl_cpyI, zl_aload, zl_getR, zl_push, zl_aload, trivial⟩, ⟨zl_getR, zl_push, zl_push, zl_cpyI, zl_aload, zl_getR, zl_push, zl_aload, zl_getR, zl_push, zl_push, zl_cpyI, zl_aload, zl_getR, zl_push, zl_aload, zl_getR, zl_push, zl_push, zl_cpyI, trivial⟩, ⟨zl_aload, zl_aload, zl_getI, zl_putI, zl_aload, zl_getR, zl_aload, zl_getR, (zl_vir zl_callv), zl_ret, trivial⟩, trivial⟩ k
noncomputable def f_X0_copyFrom : zS := zrun p_X0_copyFrom 2
set_option maxRecDepth 20000 in
theorem s_X0_copyFrom_0 {l : Launch} {D : va_G} {ad : Nat → Nat → Nat} {cy : Nat → ClassId} {L : List (Nat × Nat)} (hcl : zclo L = true) (hinj : zAd ad L) {X : zCtx} (hX : zXok X "SoapTreaty$Congress" prog_2_method_3_code 2) (hR : zRt X none) (hl : zXl X l D ad cy L (zroom 2)) : zAllR (zSo X) p_X0_copyFrom_0 := ⟨zs_aload_n (i := 0) rfl hX (by decide +kernel : decode prog_2_method_3_code 0 = .ok (.aload_n 0, 1)) rfl (by decide),
  zs_aload_n (i := 1) rfl hX (by decide +kernel : decode prog_2_method_3_code 1 = .ok (.aload_n 1, 1)) rfl (by decide),
  zs_getI hX zFL_0_54 (by decide) (by decide) (by decide +kernel : decode prog_2_method_3_code 2 = .ok (.getfield 54, 3)) rfl,
  zs_putI hX zFP_0_54 (by decide +kernel : decode prog_2_method_3_code 5 = .ok (.putfield 54, 3)) rfl,
  zs_aload_n (i := 1) rfl hX (by decide +kernel : decode prog_2_method_3_code 8 = .ok (.aload_n 1, 1)) rfl (by decide),
  zs_getR hX zFL_0_11 (by decide +kernel : decode prog_2_method_3_code 9 = .ok (.getfield 11, 3)) rfl,
  zs_pushI (zg_iconst (by decide) hX (by decide +kernel : decode prog_2_method_3_code 12 = .ok (.iconst 0, 1)) rfl),
  zs_aload_n (i := 0) rfl hX (by decide +kernel : decode prog_2_method_3_code 13 = .ok (.aload_n 0, 1)) rfl (by decide),
  zs_getR hX zFL_0_11 (by decide +kernel : decode prog_2_method_3_code 14 = .ok (.getfield 11, 3)) rfl,
  zs_pushI (zg_iconst (by decide) hX (by decide +kernel : decode prog_2_method_3_code 17 = .ok (.iconst 0, 1)) rfl),
  zs_pushI (zg_iconst (by decide) hX (by decide +kernel : decode prog_2_method_3_code 18 = .ok (.iconst 5, 1)) rfl),
  zs_cpyJ hX zK_0_60 (by decide +kernel : decode prog_2_method_3_code 19 = .ok (.invokestatic 60, 3)) rfl,
  zs_aload_n (i := 1) rfl hX (by decide +kernel : decode prog_2_method_3_code 22 = .ok (.aload_n 1, 1)) rfl (by decide),
  zs_getR hX zFL_0_15 (by decide +kernel : decode prog_2_method_3_code 23 = .ok (.getfield 15, 3)) rfl,
  zs_pushI (zg_iconst (by decide) hX (by decide +kernel : decode prog_2_method_3_code 26 = .ok (.iconst 0, 1)) rfl),
  zs_aload_n (i := 0) rfl hX (by decide +kernel : decode prog_2_method_3_code 27 = .ok (.aload_n 0, 1)) rfl (by decide),
  zs_getR hX zFL_0_15 (by decide +kernel : decode prog_2_method_3_code 28 = .ok (.getfield 15, 3)) rfl,
  zs_pushI (zg_iconst (by decide) hX (by decide +kernel : decode prog_2_method_3_code 31 = .ok (.iconst 0, 1)) rfl),
  zs_pushI (zg_iconst (by decide) hX (by decide +kernel : decode prog_2_method_3_code 32 = .ok (.iconst 5, 1)) rfl),
  zs_cpyI hX zK_0_60 (by decide +kernel : decode prog_2_method_3_code 33 = .ok (.invokestatic 60, 3)) rfl, trivial⟩
set_option maxRecDepth 20000 in
theorem s_X0_copyFrom_1 {l : Launch} {D : va_G} {ad : Nat → Nat → Nat} {cy : Nat → ClassId} {L : List (Nat × Nat)} (hcl : zclo L = true) (hinj : zAd ad L) {X : zCtx} (hX : zXok X "SoapTreaty$Congress" prog_2_method_3_code 2) (hR : zRt X none) (hl : zXl X l D ad cy L (zroom 2)) : zAllR (zSo X) p_X0_copyFrom_1 := ⟨zs_aload_n (i := 1) rfl hX (by decide +kernel : decode prog_2_method_3_code 36 = .ok (.aload_n 1, 1)) rfl (by decide),
  zs_getR hX zFL_0_19 (by decide +kernel : decode prog_2_method_3_code 37 = .ok (.getfield 19, 3)) rfl,
  zs_pushI (zg_iconst (by decide) hX (by decide +kernel : decode prog_2_method_3_code 40 = .ok (.iconst 0, 1)) rfl),
  zs_aload_n (i := 0) rfl hX (by decide +kernel : decode prog_2_method_3_code 41 = .ok (.aload_n 0, 1)) rfl (by decide),
  zs_getR hX zFL_0_19 (by decide +kernel : decode prog_2_method_3_code 42 = .ok (.getfield 19, 3)) rfl,
  zs_pushI (zg_iconst (by decide) hX (by decide +kernel : decode prog_2_method_3_code 45 = .ok (.iconst 0, 1)) rfl),
  zs_pushI (zg_iconst (by decide) hX (by decide +kernel : decode prog_2_method_3_code 46 = .ok (.iconst 5, 1)) rfl),
  zs_cpyI hX zK_0_60 (by decide +kernel : decode prog_2_method_3_code 47 = .ok (.invokestatic 60, 3)) rfl,
  zs_aload_n (i := 0) rfl hX (by decide +kernel : decode prog_2_method_3_code 50 = .ok (.aload_n 0, 1)) rfl (by decide),
  zs_aload_n (i := 1) rfl hX (by decide +kernel : decode prog_2_method_3_code 51 = .ok (.aload_n 1, 1)) rfl (by decide),
  zs_getI hX zFL_0_57 (by decide) (by decide) (by decide +kernel : decode prog_2_method_3_code 52 = .ok (.getfield 57, 3)) rfl,
  zs_putI hX zFP_0_57 (by decide +kernel : decode prog_2_method_3_code 55 = .ok (.putfield 57, 3)) rfl,
  zs_aload_n (i := 1) rfl hX (by decide +kernel : decode prog_2_method_3_code 58 = .ok (.aload_n 1, 1)) rfl (by decide),
  zs_getR hX zFL_0_22 (by decide +kernel : decode prog_2_method_3_code 59 = .ok (.getfield 22, 3)) rfl,
  zs_pushI (zg_iconst (by decide) hX (by decide +kernel : decode prog_2_method_3_code 62 = .ok (.iconst 0, 1)) rfl),
  zs_aload_n (i := 0) rfl hX (by decide +kernel : decode prog_2_method_3_code 63 = .ok (.aload_n 0, 1)) rfl (by decide),
  zs_getR hX zFL_0_22 (by decide +kernel : decode prog_2_method_3_code 64 = .ok (.getfield 22, 3)) rfl,
  zs_pushI (zg_iconst (by decide) hX (by decide +kernel : decode prog_2_method_3_code 67 = .ok (.iconst 0, 1)) rfl),
  zs_pushI (zg_bipush (by decide) hX (by decide +kernel : decode prog_2_method_3_code 68 = .ok (.bipush 7, 2)) rfl),
  zs_cpyJ hX zK_0_60 (by decide +kernel : decode prog_2_method_3_code 70 = .ok (.invokestatic 60, 3)) rfl, trivial⟩
set_option maxRecDepth 20000 in
theorem s_X0_copyFrom_2 {l : Launch} {D : va_G} {ad : Nat → Nat → Nat} {cy : Nat → ClassId} {L : List (Nat × Nat)} (hcl : zclo L = true) (hinj : zAd ad L) {X : zCtx} (hX : zXok X "SoapTreaty$Congress" prog_2_method_3_code 2) (hR : zRt X none) (hl : zXl X l D ad cy L (zroom 2)) : zAllR (zSo X) p_X0_copyFrom_2 := ⟨zs_aload_n (i := 1) rfl hX (by decide +kernel : decode prog_2_method_3_code 73 = .ok (.aload_n 1, 1)) rfl (by decide),
  zs_getR hX zFL_0_25 (by decide +kernel : decode prog_2_method_3_code 74 = .ok (.getfield 25, 3)) rfl,
  zs_pushI (zg_iconst (by decide) hX (by decide +kernel : decode prog_2_method_3_code 77 = .ok (.iconst 0, 1)) rfl),
  zs_aload_n (i := 0) rfl hX (by decide +kernel : decode prog_2_method_3_code 78 = .ok (.aload_n 0, 1)) rfl (by decide),
  zs_getR hX zFL_0_25 (by decide +kernel : decode prog_2_method_3_code 79 = .ok (.getfield 25, 3)) rfl,
  zs_pushI (zg_iconst (by decide) hX (by decide +kernel : decode prog_2_method_3_code 82 = .ok (.iconst 0, 1)) rfl),
  zs_pushI (zg_bipush (by decide) hX (by decide +kernel : decode prog_2_method_3_code 83 = .ok (.bipush 7, 2)) rfl),
  zs_cpyI hX zK_0_60 (by decide +kernel : decode prog_2_method_3_code 85 = .ok (.invokestatic 60, 3)) rfl,
  zs_aload_n (i := 1) rfl hX (by decide +kernel : decode prog_2_method_3_code 88 = .ok (.aload_n 1, 1)) rfl (by decide),
  zs_getR hX zFL_0_28 (by decide +kernel : decode prog_2_method_3_code 89 = .ok (.getfield 28, 3)) rfl,
  zs_pushI (zg_iconst (by decide) hX (by decide +kernel : decode prog_2_method_3_code 92 = .ok (.iconst 0, 1)) rfl),
  zs_aload_n (i := 0) rfl hX (by decide +kernel : decode prog_2_method_3_code 93 = .ok (.aload_n 0, 1)) rfl (by decide),
  zs_getR hX zFL_0_28 (by decide +kernel : decode prog_2_method_3_code 94 = .ok (.getfield 28, 3)) rfl,
  zs_pushI (zg_iconst (by decide) hX (by decide +kernel : decode prog_2_method_3_code 97 = .ok (.iconst 0, 1)) rfl),
  zs_pushI (zg_bipush (by decide) hX (by decide +kernel : decode prog_2_method_3_code 98 = .ok (.bipush 7, 2)) rfl),
  zs_cpyI hX zK_0_60 (by decide +kernel : decode prog_2_method_3_code 100 = .ok (.invokestatic 60, 3)) rfl,
  zs_aload_n (i := 1) rfl hX (by decide +kernel : decode prog_2_method_3_code 103 = .ok (.aload_n 1, 1)) rfl (by decide),
  zs_getR hX zFL_0_31 (by decide +kernel : decode prog_2_method_3_code 104 = .ok (.getfield 31, 3)) rfl,
  zs_pushI (zg_iconst (by decide) hX (by decide +kernel : decode prog_2_method_3_code 107 = .ok (.iconst 0, 1)) rfl),
  zs_aload_n (i := 0) rfl hX (by decide +kernel : decode prog_2_method_3_code 108 = .ok (.aload_n 0, 1)) rfl (by decide), trivial⟩
set_option maxRecDepth 20000 in
theorem s_X0_copyFrom_3 {l : Launch} {D : va_G} {ad : Nat → Nat → Nat} {cy : Nat → ClassId} {L : List (Nat × Nat)} (hcl : zclo L = true) (hinj : zAd ad L) {X : zCtx} (hX : zXok X "SoapTreaty$Congress" prog_2_method_3_code 2) (hR : zRt X none) (hl : zXl X l D ad cy L (zroom 2)) : zAllR (zSo X) p_X0_copyFrom_3 := ⟨zs_getR hX zFL_0_31 (by decide +kernel : decode prog_2_method_3_code 109 = .ok (.getfield 31, 3)) rfl,
  zs_pushI (zg_iconst (by decide) hX (by decide +kernel : decode prog_2_method_3_code 112 = .ok (.iconst 0, 1)) rfl),
  zs_pushI (zg_bipush (by decide) hX (by decide +kernel : decode prog_2_method_3_code 113 = .ok (.bipush 7, 2)) rfl),
  zs_cpyI hX zK_0_60 (by decide +kernel : decode prog_2_method_3_code 115 = .ok (.invokestatic 60, 3)) rfl,
  zs_aload_n (i := 1) rfl hX (by decide +kernel : decode prog_2_method_3_code 118 = .ok (.aload_n 1, 1)) rfl (by decide),
  zs_getR hX zFL_0_34 (by decide +kernel : decode prog_2_method_3_code 119 = .ok (.getfield 34, 3)) rfl,
  zs_pushI (zg_iconst (by decide) hX (by decide +kernel : decode prog_2_method_3_code 122 = .ok (.iconst 0, 1)) rfl),
  zs_aload_n (i := 0) rfl hX (by decide +kernel : decode prog_2_method_3_code 123 = .ok (.aload_n 0, 1)) rfl (by decide),
  zs_getR hX zFL_0_34 (by decide +kernel : decode prog_2_method_3_code 124 = .ok (.getfield 34, 3)) rfl,
  zs_pushI (zg_iconst (by decide) hX (by decide +kernel : decode prog_2_method_3_code 127 = .ok (.iconst 0, 1)) rfl),
  zs_pushI (zg_bipush (by decide) hX (by decide +kernel : decode prog_2_method_3_code 128 = .ok (.bipush 7, 2)) rfl),
  zs_cpyI hX zK_0_60 (by decide +kernel : decode prog_2_method_3_code 130 = .ok (.invokestatic 60, 3)) rfl,
  zs_aload_n (i := 1) rfl hX (by decide +kernel : decode prog_2_method_3_code 133 = .ok (.aload_n 1, 1)) rfl (by decide),
  zs_getR hX zFL_0_37 (by decide +kernel : decode prog_2_method_3_code 134 = .ok (.getfield 37, 3)) rfl,
  zs_pushI (zg_iconst (by decide) hX (by decide +kernel : decode prog_2_method_3_code 137 = .ok (.iconst 0, 1)) rfl),
  zs_aload_n (i := 0) rfl hX (by decide +kernel : decode prog_2_method_3_code 138 = .ok (.aload_n 0, 1)) rfl (by decide),
  zs_getR hX zFL_0_37 (by decide +kernel : decode prog_2_method_3_code 139 = .ok (.getfield 37, 3)) rfl,
  zs_pushI (zg_iconst (by decide) hX (by decide +kernel : decode prog_2_method_3_code 142 = .ok (.iconst 0, 1)) rfl),
  zs_pushI (zg_bipush (by decide) hX (by decide +kernel : decode prog_2_method_3_code 143 = .ok (.bipush 7, 2)) rfl),
  zs_cpyI hX zK_0_60 (by decide +kernel : decode prog_2_method_3_code 145 = .ok (.invokestatic 60, 3)) rfl, trivial⟩
set_option maxRecDepth 20000 in
theorem s_X0_copyFrom_4 {l : Launch} {D : va_G} {ad : Nat → Nat → Nat} {cy : Nat → ClassId} {L : List (Nat × Nat)} (hcl : zclo L = true) (hinj : zAd ad L) {X : zCtx} (hX : zXok X "SoapTreaty$Congress" prog_2_method_3_code 2) (hR : zRt X none) (hl : zXl X l D ad cy L (zroom 2)) : zAllR (zSo X) p_X0_copyFrom_4 := ⟨zs_aload_n (i := 0) rfl hX (by decide +kernel : decode prog_2_method_3_code 148 = .ok (.aload_n 0, 1)) rfl (by decide),
  zs_aload_n (i := 1) rfl hX (by decide +kernel : decode prog_2_method_3_code 149 = .ok (.aload_n 1, 1)) rfl (by decide),
  zs_getI hX zFL_0_47 (by decide) (by decide) (by decide +kernel : decode prog_2_method_3_code 150 = .ok (.getfield 47, 3)) rfl,
  zs_putI hX zFP_0_47 (by decide +kernel : decode prog_2_method_3_code 153 = .ok (.putfield 47, 3)) rfl,
  zs_aload_n (i := 0) rfl hX (by decide +kernel : decode prog_2_method_3_code 156 = .ok (.aload_n 0, 1)) rfl (by decide),
  zs_getR hX zFL_0_43 (by decide +kernel : decode prog_2_method_3_code 157 = .ok (.getfield 43, 3)) rfl,
  zs_aload_n (i := 1) rfl hX (by decide +kernel : decode prog_2_method_3_code 160 = .ok (.aload_n 1, 1)) rfl (by decide),
  zs_getR hX zFL_0_43 (by decide +kernel : decode prog_2_method_3_code 161 = .ok (.getfield 43, 3)) rfl,
  zs_callVv hX zMV_0_66 (zXc_of hl (by decide) (k_X1_copyFrom hcl hinj)) (by decide +kernel : decode prog_2_method_3_code 164 = .ok (.invokevirtual 66, 3)) rfl,
  zs_ret hX hR (by decide +kernel : decode prog_2_method_3_code 167 = .ok (.return_, 1)), trivial⟩
theorem k_X0_copyFrom {l : Launch} {D : va_G} {ad : Nat → Nat → Nat} {cy : Nat → ClassId} {L : List (Nat × Nat)} (hcl : zclo L = true) (hinj : zAd ad L) : zCk l D ad cy L 2 f_X0_copyFrom y_X0_copyFrom (.code y_X0_copyFrom prog_2_method_3_code 2 none) :=
  z_met (by decide) t_X0_copyFrom hcl hinj (fun X hX hR hl k => zgs_all (Q := zSo X) (c := [(34, p_X0_copyFrom_0), (71, p_X0_copyFrom_1), (109, p_X0_copyFrom_2), (146, p_X0_copyFrom_3), (168, p_X0_copyFrom_4)]) (fun _ => zs_bad) ⟨s_X0_copyFrom_0 hcl hinj hX hR hl, s_X0_copyFrom_1 hcl hinj hX hR hl, s_X0_copyFrom_2 hcl hinj hX hR hl, s_X0_copyFrom_3 hcl hinj hX hR hl, s_X0_copyFrom_4 hcl hinj hX hR hl, trivial⟩ k)
set_option maxRecDepth 1000000 in
theorem e_X0_copyFrom_0 (jx0 : Nat) (jx1 : Nat) (h : zH) : zL p_X0_copyFrom 0 [some (.inr (.inr (0, jx0))), some (.inr (.inr (0, jx1)))] [] h = zcv (f_X1_copyFrom [(.inr (.inr (1, jx0))), (.inr (.inr (1, jx1)))] (zuI (zcI (zcI (zcI (zcI (zcI (zcJ (zuI (zcI (zcI (zcJ (zuI h 0 jx0 0 (h.1 0 jx1 0)) 13 jx1 13 jx0 5) 14 jx1 14 jx0 5) 15 jx1 15 jx0 5) 0 jx0 4 ((zuI h 0 jx0 0 (h.1 0 jx1 0)).1 0 jx1 4)) 16 jx1 16 jx0 7) 17 jx1 17 jx0 7) 18 jx1 18 jx0 7) 19 jx1 19 jx0 7) 20 jx1 20 jx0 7) 21 jx1 21 jx0 7) 0 jx0 11 ((zuI (zcI (zcI (zcJ (zuI h 0 jx0 0 (h.1 0 jx1 0)) 13 jx1 13 jx0 5) 14 jx1 14 jx0 5) 15 jx1 15 jx0 5) 0 jx0 4 ((zuI h 0 jx0 0 (h.1 0 jx1 0)).1 0 jx1 4)).1 0 jx1 11))) (fun h1 => some (none, h1)) := (zL_s (t_X0_copyFrom) [0] 1000 0 _ _ _).trans rfl
theorem g_X0_copyFrom (jx0 : Nat) (jx1 : Nat) (h : zH) : f_X0_copyFrom [(.inr (.inr (0, jx0))), (.inr (.inr (0, jx1)))] h = zcv (f_X1_copyFrom [(.inr (.inr (1, jx0))), (.inr (.inr (1, jx1)))] (zuI (zcI (zcI (zcI (zcI (zcI (zcJ (zuI (zcI (zcI (zcJ (zuI h 0 jx0 0 (h.1 0 jx1 0)) 13 jx1 13 jx0 5) 14 jx1 14 jx0 5) 15 jx1 15 jx0 5) 0 jx0 4 ((zuI h 0 jx0 0 (h.1 0 jx1 0)).1 0 jx1 4)) 16 jx1 16 jx0 7) 17 jx1 17 jx0 7) 18 jx1 18 jx0 7) 19 jx1 19 jx0 7) 20 jx1 20 jx0 7) 21 jx1 21 jx0 7) 0 jx0 11 ((zuI (zcI (zcI (zcJ (zuI h 0 jx0 0 (h.1 0 jx1 0)) 13 jx1 13 jx0 5) 14 jx1 14 jx0 5) 15 jx1 15 jx0 5) 0 jx0 4 ((zuI h 0 jx0 0 (h.1 0 jx1 0)).1 0 jx1 4)).1 0 jx1 11))) (fun h1 => some (none, h1)) := (show f_X0_copyFrom _ h = zL p_X0_copyFrom 0 _ [] h from rfl).trans (e_X0_copyFrom_0 jx0 jx1 h)
/-! SoapTreaty$Congress.hasPower(I)Z -/
def y_X0_hasPower : MethodName := ⟨"SoapTreaty$Congress", "hasPower", "(I)Z"⟩
noncomputable def p_X0_hasPower_0 : List (Nat × zO) := [(0, zo_iload 1 1),
  (1, zo_0lt 21 4),
  (4, zo_iload 1 5),
  (5, zo_aload 0 6),
  (6, zo_getI 0 0 9),
  (9, zo_cge 21 12),
  (12, zo_iload 1 13),
  (13, zo_push (.inl 5) 14),
  (14, zo_cge 21 17),
  (17, zo_push (.inl 1) 18),
  (18, zo_goto 22),
  (21, zo_push (.inl 0) 22),
  (22, zo_zretc)]
noncomputable def p_X0_hasPower : Nat → zO := zgs [(23, p_X0_hasPower_0)]
theorem t_X0_hasPower : ∀ k, zTl (p_X0_hasPower k) := fun k => zgs_all (c := [(23, p_X0_hasPower_0)]) (fun _ => zl_bad) ⟨⟨zl_iload, zl_0lt, zl_iload, zl_aload, zl_getI, zl_cge, zl_iload, zl_push, zl_cge, zl_push, zl_goto, zl_push, zl_zretc, trivial⟩, trivial⟩ k
noncomputable def f_X0_hasPower : zS := zrun p_X0_hasPower 2
set_option maxRecDepth 20000 in
theorem s_X0_hasPower_0 {l : Launch} {D : va_G} {ad : Nat → Nat → Nat} {cy : Nat → ClassId} {L : List (Nat × Nat)} (hcl : zclo L = true) (hinj : zAd ad L) {X : zCtx} (hX : zXok X "SoapTreaty$Congress" prog_2_method_4_code 2) (hR : zRt X (some .boolean)) (hl : zXl X l D ad cy L (zroom 1)) : zAllR (zSo X) p_X0_hasPower_0 := ⟨zs_iload_n (i := 1) rfl hX (by decide +kernel : decode prog_2_method_4_code 0 = .ok (.iload_n 1, 1)) rfl (by decide),
  zs_0lt hX (by decide +kernel : decode prog_2_method_4_code 1 = .ok (.ifCond .lt 20, 3)) (by decide) rfl,
  zs_iload_n (i := 1) rfl hX (by decide +kernel : decode prog_2_method_4_code 4 = .ok (.iload_n 1, 1)) rfl (by decide),
  zs_aload_n (i := 0) rfl hX (by decide +kernel : decode prog_2_method_4_code 5 = .ok (.aload_n 0, 1)) rfl (by decide),
  zs_getI hX zFL_0_54 (by decide) (by decide) (by decide +kernel : decode prog_2_method_4_code 6 = .ok (.getfield 54, 3)) rfl,
  zs_cge hX (by decide +kernel : decode prog_2_method_4_code 9 = .ok (.if_icmp .ge 12, 3)) (by decide) rfl,
  zs_iload_n (i := 1) rfl hX (by decide +kernel : decode prog_2_method_4_code 12 = .ok (.iload_n 1, 1)) rfl (by decide),
  zs_pushI (zg_iconst (by decide) hX (by decide +kernel : decode prog_2_method_4_code 13 = .ok (.iconst 5, 1)) rfl),
  zs_cge hX (by decide +kernel : decode prog_2_method_4_code 14 = .ok (.if_icmp .ge 7, 3)) (by decide) rfl,
  zs_pushI (zg_iconst (by decide) hX (by decide +kernel : decode prog_2_method_4_code 17 = .ok (.iconst 1, 1)) rfl),
  zs_goto hX (by decide +kernel : decode prog_2_method_4_code 18 = .ok (.goto 4, 3)) (by decide),
  zs_pushI (zg_iconst (by decide) hX (by decide +kernel : decode prog_2_method_4_code 21 = .ok (.iconst 0, 1)) rfl),
  zs_zretc hX hR (by decide +kernel : decode prog_2_method_4_code 22 = .ok (.ireturn, 1)), trivial⟩
theorem k_X0_hasPower {l : Launch} {D : va_G} {ad : Nat → Nat → Nat} {cy : Nat → ClassId} {L : List (Nat × Nat)} (hcl : zclo L = true) (hinj : zAd ad L) : zCk l D ad cy L 1 f_X0_hasPower y_X0_hasPower (.code y_X0_hasPower prog_2_method_4_code 2 (some .boolean)) :=
  z_met (by decide) t_X0_hasPower hcl hinj (fun X hX hR hl k => zgs_all (Q := zSo X) (c := [(23, p_X0_hasPower_0)]) (fun _ => zs_bad) ⟨s_X0_hasPower_0 hcl hinj hX hR hl, trivial⟩ k)
set_option maxRecDepth 1000000 in
theorem e_X0_hasPower_0 (jx0 : Nat) (x1 : Int32) (h : zH) : zL p_X0_hasPower 0 [some (.inr (.inr (0, jx0))), some (.inl x1)] [] h = zf (x1 < 0) (some (some (.inl 0), h)) (zf (x1 < (h.1 0 jx0 0)) (zf (x1 < 5) (some (some (.inl 1), h)) (some (some (.inl 0), h))) (some (some (.inl 0), h))) := (zL_s (t_X0_hasPower) [0] 1000 0 _ _ _).trans rfl
theorem g_X0_hasPower (jx0 : Nat) (x1 : Int32) (h : zH) : f_X0_hasPower [(.inr (.inr (0, jx0))), (.inl x1)] h = zf (x1 < 0) (some (some (.inl 0), h)) (zf (x1 < (h.1 0 jx0 0)) (zf (x1 < 5) (some (some (.inl 1), h)) (some (some (.inl 0), h))) (some (some (.inl 0), h))) := (show f_X0_hasPower _ h = zL p_X0_hasPower 0 _ [] h from rfl).trans (e_X0_hasPower_0 jx0 x1 h)
/-! SoapTreaty$Congress.hasCake(I)Z -/
def y_X0_hasCake : MethodName := ⟨"SoapTreaty$Congress", "hasCake", "(I)Z"⟩
noncomputable def p_X0_hasCake_0 : List (Nat × zO) := [(0, zo_iload 1 1),
  (1, zo_0lt 22 4),
  (4, zo_iload 1 5),
  (5, zo_aload 0 6),
  (6, zo_getI 0 4 9),
  (9, zo_cge 22 12),
  (12, zo_iload 1 13),
  (13, zo_push (.inl 7) 15),
  (15, zo_cge 22 18),
  (18, zo_push (.inl 1) 19),
  (19, zo_goto 23),
  (22, zo_push (.inl 0) 23),
  (23, zo_zretc)]
noncomputable def p_X0_hasCake : Nat → zO := zgs [(24, p_X0_hasCake_0)]
theorem t_X0_hasCake : ∀ k, zTl (p_X0_hasCake k) := fun k => zgs_all (c := [(24, p_X0_hasCake_0)]) (fun _ => zl_bad) ⟨⟨zl_iload, zl_0lt, zl_iload, zl_aload, zl_getI, zl_cge, zl_iload, zl_push, zl_cge, zl_push, zl_goto, zl_push, zl_zretc, trivial⟩, trivial⟩ k
noncomputable def f_X0_hasCake : zS := zrun p_X0_hasCake 2
set_option maxRecDepth 20000 in
theorem s_X0_hasCake_0 {l : Launch} {D : va_G} {ad : Nat → Nat → Nat} {cy : Nat → ClassId} {L : List (Nat × Nat)} (hcl : zclo L = true) (hinj : zAd ad L) {X : zCtx} (hX : zXok X "SoapTreaty$Congress" prog_2_method_5_code 2) (hR : zRt X (some .boolean)) (hl : zXl X l D ad cy L (zroom 1)) : zAllR (zSo X) p_X0_hasCake_0 := ⟨zs_iload_n (i := 1) rfl hX (by decide +kernel : decode prog_2_method_5_code 0 = .ok (.iload_n 1, 1)) rfl (by decide),
  zs_0lt hX (by decide +kernel : decode prog_2_method_5_code 1 = .ok (.ifCond .lt 21, 3)) (by decide) rfl,
  zs_iload_n (i := 1) rfl hX (by decide +kernel : decode prog_2_method_5_code 4 = .ok (.iload_n 1, 1)) rfl (by decide),
  zs_aload_n (i := 0) rfl hX (by decide +kernel : decode prog_2_method_5_code 5 = .ok (.aload_n 0, 1)) rfl (by decide),
  zs_getI hX zFL_0_57 (by decide) (by decide) (by decide +kernel : decode prog_2_method_5_code 6 = .ok (.getfield 57, 3)) rfl,
  zs_cge hX (by decide +kernel : decode prog_2_method_5_code 9 = .ok (.if_icmp .ge 13, 3)) (by decide) rfl,
  zs_iload_n (i := 1) rfl hX (by decide +kernel : decode prog_2_method_5_code 12 = .ok (.iload_n 1, 1)) rfl (by decide),
  zs_pushI (zg_bipush (by decide) hX (by decide +kernel : decode prog_2_method_5_code 13 = .ok (.bipush 7, 2)) rfl),
  zs_cge hX (by decide +kernel : decode prog_2_method_5_code 15 = .ok (.if_icmp .ge 7, 3)) (by decide) rfl,
  zs_pushI (zg_iconst (by decide) hX (by decide +kernel : decode prog_2_method_5_code 18 = .ok (.iconst 1, 1)) rfl),
  zs_goto hX (by decide +kernel : decode prog_2_method_5_code 19 = .ok (.goto 4, 3)) (by decide),
  zs_pushI (zg_iconst (by decide) hX (by decide +kernel : decode prog_2_method_5_code 22 = .ok (.iconst 0, 1)) rfl),
  zs_zretc hX hR (by decide +kernel : decode prog_2_method_5_code 23 = .ok (.ireturn, 1)), trivial⟩
theorem k_X0_hasCake {l : Launch} {D : va_G} {ad : Nat → Nat → Nat} {cy : Nat → ClassId} {L : List (Nat × Nat)} (hcl : zclo L = true) (hinj : zAd ad L) : zCk l D ad cy L 1 f_X0_hasCake y_X0_hasCake (.code y_X0_hasCake prog_2_method_5_code 2 (some .boolean)) :=
  z_met (by decide) t_X0_hasCake hcl hinj (fun X hX hR hl k => zgs_all (Q := zSo X) (c := [(24, p_X0_hasCake_0)]) (fun _ => zs_bad) ⟨s_X0_hasCake_0 hcl hinj hX hR hl, trivial⟩ k)
set_option maxRecDepth 1000000 in
theorem e_X0_hasCake_0 (jx0 : Nat) (x1 : Int32) (h : zH) : zL p_X0_hasCake 0 [some (.inr (.inr (0, jx0))), some (.inl x1)] [] h = zf (x1 < 0) (some (some (.inl 0), h)) (zf (x1 < (h.1 0 jx0 4)) (zf (x1 < 7) (some (some (.inl 1), h)) (some (some (.inl 0), h))) (some (some (.inl 0), h))) := (zL_s (t_X0_hasCake) [0] 1000 0 _ _ _).trans rfl
theorem g_X0_hasCake (jx0 : Nat) (x1 : Int32) (h : zH) : f_X0_hasCake [(.inr (.inr (0, jx0))), (.inl x1)] h = zf (x1 < 0) (some (some (.inl 0), h)) (zf (x1 < (h.1 0 jx0 4)) (zf (x1 < 7) (some (some (.inl 1), h)) (some (some (.inl 0), h))) (some (some (.inl 0), h))) := (show f_X0_hasCake _ h = zL p_X0_hasCake 0 _ [] h from rfl).trans (e_X0_hasCake_0 jx0 x1 h)
theorem zMV_0_70 : zMV "SoapTreaty$Congress" 70 0 y_X0_hasPower prog_2_method_4_code 2 (some .boolean) 1 := ⟨⟨zT_of 769 (by decide +kernel) (by decide +kernel), zT_of 762 (by decide +kernel) (by decide +kernel), zT_of 763 (by decide +kernel) (by decide +kernel), zT_of 104 (by decide +kernel) (by decide +kernel), zT_of 764 (by decide +kernel) (by decide +kernel)⟩, by decide, rfl, ⟨zT0, 13, rfl⟩, by decide, by decide, by decide +kernel⟩
/-! SoapTreaty$Congress.kindOf(I)I -/
def y_X0_kindOf : MethodName := ⟨"SoapTreaty$Congress", "kindOf", "(I)I"⟩
noncomputable def p_X0_kindOf_0 : List (Nat × zO) := [(0, zo_aload 0 1),
  (1, zo_iload 1 2),
  (2, zo_vir 0 2 (zo_calli (f_X0_hasPower) 2 5)),
  (5, zo_0eq 17 8),
  (8, zo_aload 0 9),
  (9, zo_getR 0 14 none 12),
  (12, zo_iload 1 13),
  (13, zo_iald 14),
  (14, zo_goto 18),
  (17, zo_push (.inl zm1) 18),
  (18, zo_iret)]
noncomputable def p_X0_kindOf : Nat → zO := zgs [(19, p_X0_kindOf_0)]
theorem t_X0_kindOf : ∀ k, zTl (p_X0_kindOf k) := fun k => zgs_all (c := [(19, p_X0_kindOf_0)]) (fun _ => zl_bad) ⟨⟨zl_aload, zl_iload, (zl_vir zl_calli), zl_0eq, zl_aload, zl_getR, zl_iload, zl_iald, zl_goto, zl_push, zl_iret, trivial⟩, trivial⟩ k
noncomputable def f_X0_kindOf : zS := zrun p_X0_kindOf 2
set_option maxRecDepth 20000 in
theorem s_X0_kindOf_0 {l : Launch} {D : va_G} {ad : Nat → Nat → Nat} {cy : Nat → ClassId} {L : List (Nat × Nat)} (hcl : zclo L = true) (hinj : zAd ad L) {X : zCtx} (hX : zXok X "SoapTreaty$Congress" prog_2_method_6_code 2) (hR : zRt X (some .int)) (hl : zXl X l D ad cy L (zroom 2)) : zAllR (zSo X) p_X0_kindOf_0 := ⟨zs_aload_n (i := 0) rfl hX (by decide +kernel : decode prog_2_method_6_code 0 = .ok (.aload_n 0, 1)) rfl (by decide),
  zs_iload_n (i := 1) rfl hX (by decide +kernel : decode prog_2_method_6_code 1 = .ok (.iload_n 1, 1)) rfl (by decide),
  zs_callVi hX zMV_0_70 (zXc_of hl (by decide) (k_X0_hasPower hcl hinj)) (by decide +kernel : decode prog_2_method_6_code 2 = .ok (.invokevirtual 70, 3)) rfl,
  zs_0eq hX (by decide +kernel : decode prog_2_method_6_code 5 = .ok (.ifCond .eq 12, 3)) (by decide) rfl,
  zs_aload_n (i := 0) rfl hX (by decide +kernel : decode prog_2_method_6_code 8 = .ok (.aload_n 0, 1)) rfl (by decide),
  zs_getR hX zFL_0_15 (by decide +kernel : decode prog_2_method_6_code 9 = .ok (.getfield 15, 3)) rfl,
  zs_iload_n (i := 1) rfl hX (by decide +kernel : decode prog_2_method_6_code 12 = .ok (.iload_n 1, 1)) rfl (by decide),
  zs_iald hX (by decide +kernel : decode prog_2_method_6_code 13 = .ok (.iaload, 1)) rfl,
  zs_goto hX (by decide +kernel : decode prog_2_method_6_code 14 = .ok (.goto 4, 3)) (by decide),
  zs_pushI (zg_iconst (by decide) hX (by decide +kernel : decode prog_2_method_6_code 17 = .ok (.iconst (-1), 1)) rfl),
  zs_iret hX hR (by decide +kernel : decode prog_2_method_6_code 18 = .ok (.ireturn, 1)), trivial⟩
theorem k_X0_kindOf {l : Launch} {D : va_G} {ad : Nat → Nat → Nat} {cy : Nat → ClassId} {L : List (Nat × Nat)} (hcl : zclo L = true) (hinj : zAd ad L) : zCk l D ad cy L 2 f_X0_kindOf y_X0_kindOf (.code y_X0_kindOf prog_2_method_6_code 2 (some .int)) :=
  z_met (by decide) t_X0_kindOf hcl hinj (fun X hX hR hl k => zgs_all (Q := zSo X) (c := [(19, p_X0_kindOf_0)]) (fun _ => zs_bad) ⟨s_X0_kindOf_0 hcl hinj hX hR hl, trivial⟩ k)
set_option maxRecDepth 1000000 in
theorem e_X0_kindOf_0 (jx0 : Nat) (x1 : Int32) (h : zH) : zL p_X0_kindOf 0 [some (.inr (.inr (0, jx0))), some (.inl x1)] [] h = zci (f_X0_hasPower [(.inr (.inr (0, jx0))), (.inl x1)] h) (fun r2 h1 => zf (r2 = 0) (some (some (.inl zm1), h1)) (zf (vp_in x1 5) (some (some (.inl (h1.1 14 jx0 x1.toNatClampNeg)), h1)) none)) := (zL_s (t_X0_kindOf) [0] 1000 0 _ _ _).trans rfl
theorem g_X0_kindOf (jx0 : Nat) (x1 : Int32) (h : zH) : f_X0_kindOf [(.inr (.inr (0, jx0))), (.inl x1)] h = zci (f_X0_hasPower [(.inr (.inr (0, jx0))), (.inl x1)] h) (fun r2 h1 => zf (r2 = 0) (some (some (.inl zm1), h1)) (zf (vp_in x1 5) (some (some (.inl (h1.1 14 jx0 x1.toNatClampNeg)), h1)) none)) := (show f_X0_kindOf _ h = zL p_X0_kindOf 0 _ [] h from rfl).trans (e_X0_kindOf_0 jx0 x1 h)
/-! SoapTreaty$Congress.waterOf(I)I -/
def y_X0_waterOf : MethodName := ⟨"SoapTreaty$Congress", "waterOf", "(I)I"⟩
noncomputable def p_X0_waterOf_0 : List (Nat × zO) := [(0, zo_aload 0 1),
  (1, zo_iload 1 2),
  (2, zo_vir 0 2 (zo_calli (f_X0_hasPower) 2 5)),
  (5, zo_0eq 17 8),
  (8, zo_aload 0 9),
  (9, zo_getR 0 15 none 12),
  (12, zo_iload 1 13),
  (13, zo_iald 14),
  (14, zo_goto 18),
  (17, zo_push (.inl zm1) 18),
  (18, zo_iret)]
noncomputable def p_X0_waterOf : Nat → zO := zgs [(19, p_X0_waterOf_0)]
theorem t_X0_waterOf : ∀ k, zTl (p_X0_waterOf k) := fun k => zgs_all (c := [(19, p_X0_waterOf_0)]) (fun _ => zl_bad) ⟨⟨zl_aload, zl_iload, (zl_vir zl_calli), zl_0eq, zl_aload, zl_getR, zl_iload, zl_iald, zl_goto, zl_push, zl_iret, trivial⟩, trivial⟩ k
noncomputable def f_X0_waterOf : zS := zrun p_X0_waterOf 2
set_option maxRecDepth 20000 in
theorem s_X0_waterOf_0 {l : Launch} {D : va_G} {ad : Nat → Nat → Nat} {cy : Nat → ClassId} {L : List (Nat × Nat)} (hcl : zclo L = true) (hinj : zAd ad L) {X : zCtx} (hX : zXok X "SoapTreaty$Congress" prog_2_method_7_code 2) (hR : zRt X (some .int)) (hl : zXl X l D ad cy L (zroom 2)) : zAllR (zSo X) p_X0_waterOf_0 := ⟨zs_aload_n (i := 0) rfl hX (by decide +kernel : decode prog_2_method_7_code 0 = .ok (.aload_n 0, 1)) rfl (by decide),
  zs_iload_n (i := 1) rfl hX (by decide +kernel : decode prog_2_method_7_code 1 = .ok (.iload_n 1, 1)) rfl (by decide),
  zs_callVi hX zMV_0_70 (zXc_of hl (by decide) (k_X0_hasPower hcl hinj)) (by decide +kernel : decode prog_2_method_7_code 2 = .ok (.invokevirtual 70, 3)) rfl,
  zs_0eq hX (by decide +kernel : decode prog_2_method_7_code 5 = .ok (.ifCond .eq 12, 3)) (by decide) rfl,
  zs_aload_n (i := 0) rfl hX (by decide +kernel : decode prog_2_method_7_code 8 = .ok (.aload_n 0, 1)) rfl (by decide),
  zs_getR hX zFL_0_19 (by decide +kernel : decode prog_2_method_7_code 9 = .ok (.getfield 19, 3)) rfl,
  zs_iload_n (i := 1) rfl hX (by decide +kernel : decode prog_2_method_7_code 12 = .ok (.iload_n 1, 1)) rfl (by decide),
  zs_iald hX (by decide +kernel : decode prog_2_method_7_code 13 = .ok (.iaload, 1)) rfl,
  zs_goto hX (by decide +kernel : decode prog_2_method_7_code 14 = .ok (.goto 4, 3)) (by decide),
  zs_pushI (zg_iconst (by decide) hX (by decide +kernel : decode prog_2_method_7_code 17 = .ok (.iconst (-1), 1)) rfl),
  zs_iret hX hR (by decide +kernel : decode prog_2_method_7_code 18 = .ok (.ireturn, 1)), trivial⟩
theorem k_X0_waterOf {l : Launch} {D : va_G} {ad : Nat → Nat → Nat} {cy : Nat → ClassId} {L : List (Nat × Nat)} (hcl : zclo L = true) (hinj : zAd ad L) : zCk l D ad cy L 2 f_X0_waterOf y_X0_waterOf (.code y_X0_waterOf prog_2_method_7_code 2 (some .int)) :=
  z_met (by decide) t_X0_waterOf hcl hinj (fun X hX hR hl k => zgs_all (Q := zSo X) (c := [(19, p_X0_waterOf_0)]) (fun _ => zs_bad) ⟨s_X0_waterOf_0 hcl hinj hX hR hl, trivial⟩ k)
set_option maxRecDepth 1000000 in
theorem e_X0_waterOf_0 (jx0 : Nat) (x1 : Int32) (h : zH) : zL p_X0_waterOf 0 [some (.inr (.inr (0, jx0))), some (.inl x1)] [] h = zci (f_X0_hasPower [(.inr (.inr (0, jx0))), (.inl x1)] h) (fun r2 h1 => zf (r2 = 0) (some (some (.inl zm1), h1)) (zf (vp_in x1 5) (some (some (.inl (h1.1 15 jx0 x1.toNatClampNeg)), h1)) none)) := (zL_s (t_X0_waterOf) [0] 1000 0 _ _ _).trans rfl
theorem g_X0_waterOf (jx0 : Nat) (x1 : Int32) (h : zH) : f_X0_waterOf [(.inr (.inr (0, jx0))), (.inl x1)] h = zci (f_X0_hasPower [(.inr (.inr (0, jx0))), (.inl x1)] h) (fun r2 h1 => zf (r2 = 0) (some (some (.inl zm1), h1)) (zf (vp_in x1 5) (some (some (.inl (h1.1 15 jx0 x1.toNatClampNeg)), h1)) none)) := (show f_X0_waterOf _ h = zL p_X0_waterOf 0 _ [] h from rfl).trans (e_X0_waterOf_0 jx0 x1 h)
/-! SoapTreaty$Congress.cakeBits()I -/
def y_X0_cakeBits : MethodName := ⟨"SoapTreaty$Congress", "cakeBits", "()I"⟩
noncomputable def p_X0_cakeBits_0 : List (Nat × zO) := [(0, zo_push (.inl 1) 1),
  (1, zo_aload 0 2),
  (2, zo_getI 0 4 5),
  (5, zo_ii (fun x y => x <<< (y &&& 31)) 6),
  (6, zo_push (.inl 1) 7),
  (7, zo_ii (fun x y => x - y) 8),
  (8, zo_iret)]
noncomputable def p_X0_cakeBits : Nat → zO := zgs [(9, p_X0_cakeBits_0)]
theorem t_X0_cakeBits : ∀ k, zTl (p_X0_cakeBits k) := fun k => zgs_all (c := [(9, p_X0_cakeBits_0)]) (fun _ => zl_bad) ⟨⟨zl_push, zl_aload, zl_getI, zl_ii, zl_push, zl_ii, zl_iret, trivial⟩, trivial⟩ k
noncomputable def f_X0_cakeBits : zS := zrun p_X0_cakeBits 1
set_option maxRecDepth 20000 in
theorem s_X0_cakeBits_0 {l : Launch} {D : va_G} {ad : Nat → Nat → Nat} {cy : Nat → ClassId} {L : List (Nat × Nat)} (hcl : zclo L = true) (hinj : zAd ad L) {X : zCtx} (hX : zXok X "SoapTreaty$Congress" prog_2_method_8_code 1) (hR : zRt X (some .int)) (hl : zXl X l D ad cy L (zroom 1)) : zAllR (zSo X) p_X0_cakeBits_0 := ⟨zs_pushI (zg_iconst (by decide) hX (by decide +kernel : decode prog_2_method_8_code 0 = .ok (.iconst 1, 1)) rfl),
  zs_aload_n (i := 0) rfl hX (by decide +kernel : decode prog_2_method_8_code 1 = .ok (.aload_n 0, 1)) rfl (by decide),
  zs_getI hX zFL_0_57 (by decide) (by decide) (by decide +kernel : decode prog_2_method_8_code 2 = .ok (.getfield 57, 3)) rfl,
  zs_ii (zg_ishl hX (by decide +kernel : decode prog_2_method_8_code 5 = .ok (.ishl, 1)) rfl),
  zs_pushI (zg_iconst (by decide) hX (by decide +kernel : decode prog_2_method_8_code 6 = .ok (.iconst 1, 1)) rfl),
  zs_ii (zg_isub hX (by decide +kernel : decode prog_2_method_8_code 7 = .ok (.isub, 1)) rfl),
  zs_iret hX hR (by decide +kernel : decode prog_2_method_8_code 8 = .ok (.ireturn, 1)), trivial⟩
theorem k_X0_cakeBits {l : Launch} {D : va_G} {ad : Nat → Nat → Nat} {cy : Nat → ClassId} {L : List (Nat × Nat)} (hcl : zclo L = true) (hinj : zAd ad L) : zCk l D ad cy L 1 f_X0_cakeBits y_X0_cakeBits (.code y_X0_cakeBits prog_2_method_8_code 1 (some .int)) :=
  z_met (by decide) t_X0_cakeBits hcl hinj (fun X hX hR hl k => zgs_all (Q := zSo X) (c := [(9, p_X0_cakeBits_0)]) (fun _ => zs_bad) ⟨s_X0_cakeBits_0 hcl hinj hX hR hl, trivial⟩ k)
set_option maxRecDepth 1000000 in
theorem e_X0_cakeBits_0 (jx0 : Nat) (h : zH) : zL p_X0_cakeBits 0 [some (.inr (.inr (0, jx0)))] [] h = some (some (.inl (((1 : Int32) <<< ((h.1 0 jx0 4) &&& 31)) - (1 : Int32))), h) := (zL_s (t_X0_cakeBits) [0] 1000 0 _ _ _).trans rfl
theorem g_X0_cakeBits (jx0 : Nat) (h : zH) : f_X0_cakeBits [(.inr (.inr (0, jx0)))] h = some (some (.inl (((1 : Int32) <<< ((h.1 0 jx0 4) &&& 31)) - (1 : Int32))), h) := (show f_X0_cakeBits _ h = zL p_X0_cakeBits 0 _ [] h from rfl).trans (e_X0_cakeBits_0 jx0 h)
/-! SoapTreaty$Congress.dryBits()I -/
def y_X0_dryBits : MethodName := ⟨"SoapTreaty$Congress", "dryBits", "()I"⟩
noncomputable def p_X0_dryBits_0 : List (Nat × zO) := [(0, zo_push (.inl 0) 1),
  (1, zo_istore 1 2),
  (2, zo_push (.inl 0) 3),
  (3, zo_istore 2 4),
  (4, zo_iload 2 5),
  (5, zo_aload 0 6),
  (6, zo_getI 0 0 9),
  (9, zo_cge 34 12),
  (12, zo_aload 0 13),
  (13, zo_getR 0 14 none 16),
  (16, zo_iload 2 17),
  (17, zo_iald 18),
  (18, zo_push (.inl 2) 19),
  (19, zo_cne 28 22),
  (22, zo_iload 1 23),
  (23, zo_push (.inl 1) 24),
  (24, zo_iload 2 25),
  (25, zo_ii (fun x y => x <<< (y &&& 31)) 26),
  (26, zo_ii (fun x y => x ||| y) 27),
  (27, zo_istore 1 28)]
noncomputable def p_X0_dryBits_1 : List (Nat × zO) := [(28, zo_iinc 2 1 31),
  (31, zo_goto 4),
  (34, zo_iload 1 35),
  (35, zo_iret)]
noncomputable def p_X0_dryBits : Nat → zO := zgs [(28, p_X0_dryBits_0), (36, p_X0_dryBits_1)]
theorem t_X0_dryBits : ∀ k, zTl (p_X0_dryBits k) := fun k => zgs_all (c := [(28, p_X0_dryBits_0), (36, p_X0_dryBits_1)]) (fun _ => zl_bad) ⟨⟨zl_push, zl_istore, zl_push, zl_istore, zl_iload, zl_aload, zl_getI, zl_cge, zl_aload, zl_getR, zl_iload, zl_iald, zl_push, zl_cne, zl_iload, zl_push, zl_iload, zl_ii, zl_ii, zl_istore, trivial⟩, ⟨zl_iinc, zl_goto, zl_iload, zl_iret, trivial⟩, trivial⟩ k
noncomputable def f_X0_dryBits : zS := zrun p_X0_dryBits 3
set_option maxRecDepth 20000 in
theorem s_X0_dryBits_0 {l : Launch} {D : va_G} {ad : Nat → Nat → Nat} {cy : Nat → ClassId} {L : List (Nat × Nat)} (hcl : zclo L = true) (hinj : zAd ad L) {X : zCtx} (hX : zXok X "SoapTreaty$Congress" prog_2_method_9_code 3) (hR : zRt X (some .int)) (hl : zXl X l D ad cy L (zroom 1)) : zAllR (zSo X) p_X0_dryBits_0 := ⟨zs_pushI (zg_iconst (by decide) hX (by decide +kernel : decode prog_2_method_9_code 0 = .ok (.iconst 0, 1)) rfl),
  zs_istore_n (i := 1) rfl hX (by decide +kernel : decode prog_2_method_9_code 1 = .ok (.istore_n 1, 1)) rfl (by decide),
  zs_pushI (zg_iconst (by decide) hX (by decide +kernel : decode prog_2_method_9_code 2 = .ok (.iconst 0, 1)) rfl),
  zs_istore_n (i := 2) rfl hX (by decide +kernel : decode prog_2_method_9_code 3 = .ok (.istore_n 2, 1)) rfl (by decide),
  zs_iload_n (i := 2) rfl hX (by decide +kernel : decode prog_2_method_9_code 4 = .ok (.iload_n 2, 1)) rfl (by decide),
  zs_aload_n (i := 0) rfl hX (by decide +kernel : decode prog_2_method_9_code 5 = .ok (.aload_n 0, 1)) rfl (by decide),
  zs_getI hX zFL_0_54 (by decide) (by decide) (by decide +kernel : decode prog_2_method_9_code 6 = .ok (.getfield 54, 3)) rfl,
  zs_cge hX (by decide +kernel : decode prog_2_method_9_code 9 = .ok (.if_icmp .ge 25, 3)) (by decide) rfl,
  zs_aload_n (i := 0) rfl hX (by decide +kernel : decode prog_2_method_9_code 12 = .ok (.aload_n 0, 1)) rfl (by decide),
  zs_getR hX zFL_0_15 (by decide +kernel : decode prog_2_method_9_code 13 = .ok (.getfield 15, 3)) rfl,
  zs_iload_n (i := 2) rfl hX (by decide +kernel : decode prog_2_method_9_code 16 = .ok (.iload_n 2, 1)) rfl (by decide),
  zs_iald hX (by decide +kernel : decode prog_2_method_9_code 17 = .ok (.iaload, 1)) rfl,
  zs_pushI (zg_iconst (by decide) hX (by decide +kernel : decode prog_2_method_9_code 18 = .ok (.iconst 2, 1)) rfl),
  zs_cne hX (by decide +kernel : decode prog_2_method_9_code 19 = .ok (.if_icmp .ne 9, 3)) (by decide) rfl,
  zs_iload_n (i := 1) rfl hX (by decide +kernel : decode prog_2_method_9_code 22 = .ok (.iload_n 1, 1)) rfl (by decide),
  zs_pushI (zg_iconst (by decide) hX (by decide +kernel : decode prog_2_method_9_code 23 = .ok (.iconst 1, 1)) rfl),
  zs_iload_n (i := 2) rfl hX (by decide +kernel : decode prog_2_method_9_code 24 = .ok (.iload_n 2, 1)) rfl (by decide),
  zs_ii (zg_ishl hX (by decide +kernel : decode prog_2_method_9_code 25 = .ok (.ishl, 1)) rfl),
  zs_ii (zg_ior hX (by decide +kernel : decode prog_2_method_9_code 26 = .ok (.ior, 1)) rfl),
  zs_istore_n (i := 1) rfl hX (by decide +kernel : decode prog_2_method_9_code 27 = .ok (.istore_n 1, 1)) rfl (by decide), trivial⟩
set_option maxRecDepth 20000 in
theorem s_X0_dryBits_1 {l : Launch} {D : va_G} {ad : Nat → Nat → Nat} {cy : Nat → ClassId} {L : List (Nat × Nat)} (hcl : zclo L = true) (hinj : zAd ad L) {X : zCtx} (hX : zXok X "SoapTreaty$Congress" prog_2_method_9_code 3) (hR : zRt X (some .int)) (hl : zXl X l D ad cy L (zroom 1)) : zAllR (zSo X) p_X0_dryBits_1 := ⟨zs_iinc hX (by decide +kernel : decode prog_2_method_9_code 28 = .ok (.iinc 2 1, 3)) (by decide) rfl (by decide),
  zs_goto hX (by decide +kernel : decode prog_2_method_9_code 31 = .ok (.goto (-27), 3)) (by decide),
  zs_iload_n (i := 1) rfl hX (by decide +kernel : decode prog_2_method_9_code 34 = .ok (.iload_n 1, 1)) rfl (by decide),
  zs_iret hX hR (by decide +kernel : decode prog_2_method_9_code 35 = .ok (.ireturn, 1)), trivial⟩
theorem k_X0_dryBits {l : Launch} {D : va_G} {ad : Nat → Nat → Nat} {cy : Nat → ClassId} {L : List (Nat × Nat)} (hcl : zclo L = true) (hinj : zAd ad L) : zCk l D ad cy L 1 f_X0_dryBits y_X0_dryBits (.code y_X0_dryBits prog_2_method_9_code 3 (some .int)) :=
  z_met (by decide) t_X0_dryBits hcl hinj (fun X hX hR hl k => zgs_all (Q := zSo X) (c := [(28, p_X0_dryBits_0), (36, p_X0_dryBits_1)]) (fun _ => zs_bad) ⟨s_X0_dryBits_0 hcl hinj hX hR hl, s_X0_dryBits_1 hcl hinj hX hR hl, trivial⟩ k)
set_option maxRecDepth 1000000 in
theorem e_X0_dryBits_0 (jx0 : Nat) (h : zH) : zL p_X0_dryBits 0 [some (.inr (.inr (0, jx0))), none, none] [] h = zL p_X0_dryBits 4 [some (.inr (.inr (0, jx0))), some (.inl 0), some (.inl 0)] [] h := (zL_s (t_X0_dryBits) [0, 4] 1000 0 _ _ _).trans rfl
theorem g_X0_dryBits (jx0 : Nat) (h : zH) : f_X0_dryBits [(.inr (.inr (0, jx0)))] h = zL p_X0_dryBits 4 [some (.inr (.inr (0, jx0))), some (.inl 0), some (.inl 0)] [] h := (show f_X0_dryBits _ h = zL p_X0_dryBits 0 _ [] h from rfl).trans (e_X0_dryBits_0 jx0 h)
set_option maxRecDepth 1000000 in
theorem e_X0_dryBits_4 (jx0 : Nat) (x1 : Int32) (x2 : Int32) (h : zH) : zL p_X0_dryBits 4 [some (.inr (.inr (0, jx0))), some (.inl x1), some (.inl x2)] [] h = zf (x2 < (h.1 0 jx0 0)) (zf (vp_in x2 5) (zf ((h.1 14 jx0 x2.toNatClampNeg) = 2) (zL p_X0_dryBits 4 [some (.inr (.inr (0, jx0))), some (.inl (x1 ||| ((1 : Int32) <<< (x2 &&& 31)))), some (.inl (x2 + 1))] [] h) (zL p_X0_dryBits 4 [some (.inr (.inr (0, jx0))), some (.inl x1), some (.inl (x2 + 1))] [] h)) none) (some (some (.inl x1), h)) := (zL_s (t_X0_dryBits) [0, 4] 1000 4 _ _ _).trans rfl
/-! SoapTreaty$Congress.powerNamed(J)I -/
def y_X0_powerNamed : MethodName := ⟨"SoapTreaty$Congress", "powerNamed", "(J)I"⟩
noncomputable def p_X0_powerNamed_0 : List (Nat × zO) := [(0, zo_push (.inl 0) 1),
  (1, zo_istore 3 2),
  (2, zo_kill [2] (zo_iload 3 3)),
  (3, zo_aload 0 4),
  (4, zo_getI 0 0 7),
  (7, zo_cge 29 10),
  (10, zo_aload 0 11),
  (11, zo_getR 0 13 none 14),
  (14, zo_iload 3 15),
  (15, zo_lald 16),
  (16, zo_lload 1 17),
  (17, zo_lcmp 18),
  (18, zo_0ne 23 21),
  (21, zo_iload 3 22),
  (22, zo_iret),
  (23, zo_iinc 3 1 26),
  (26, zo_goto 2),
  (29, zo_push (.inl zm1) 30),
  (30, zo_iret)]
noncomputable def p_X0_powerNamed : Nat → zO := zgs [(31, p_X0_powerNamed_0)]
theorem t_X0_powerNamed : ∀ k, zTl (p_X0_powerNamed k) := fun k => zgs_all (c := [(31, p_X0_powerNamed_0)]) (fun _ => zl_bad) ⟨⟨zl_push, zl_istore, (zl_kill zl_iload), zl_aload, zl_getI, zl_cge, zl_aload, zl_getR, zl_iload, zl_lald, zl_lload, zl_lcmp, zl_0ne, zl_iload, zl_iret, zl_iinc, zl_goto, zl_push, zl_iret, trivial⟩, trivial⟩ k
noncomputable def f_X0_powerNamed : zS := zrun p_X0_powerNamed 4
set_option maxRecDepth 20000 in
theorem s_X0_powerNamed_0 {l : Launch} {D : va_G} {ad : Nat → Nat → Nat} {cy : Nat → ClassId} {L : List (Nat × Nat)} (hcl : zclo L = true) (hinj : zAd ad L) {X : zCtx} (hX : zXok X "SoapTreaty$Congress" prog_2_method_10_code 4) (hR : zRt X (some .int)) (hl : zXl X l D ad cy L (zroom 1)) : zAllR (zSo X) p_X0_powerNamed_0 := ⟨zs_pushI (zg_iconst (by decide) hX (by decide +kernel : decode prog_2_method_10_code 0 = .ok (.iconst 0, 1)) rfl),
  zs_istore_n (i := 3) rfl hX (by decide +kernel : decode prog_2_method_10_code 1 = .ok (.istore_n 3, 1)) rfl (by decide),
  zs_kill hX (by decide) (zs_iload_n (i := 3) rfl hX (by decide +kernel : decode prog_2_method_10_code 2 = .ok (.iload_n 3, 1)) rfl (by decide)),
  zs_aload_n (i := 0) rfl hX (by decide +kernel : decode prog_2_method_10_code 3 = .ok (.aload_n 0, 1)) rfl (by decide),
  zs_getI hX zFL_0_54 (by decide) (by decide) (by decide +kernel : decode prog_2_method_10_code 4 = .ok (.getfield 54, 3)) rfl,
  zs_cge hX (by decide +kernel : decode prog_2_method_10_code 7 = .ok (.if_icmp .ge 22, 3)) (by decide) rfl,
  zs_aload_n (i := 0) rfl hX (by decide +kernel : decode prog_2_method_10_code 10 = .ok (.aload_n 0, 1)) rfl (by decide),
  zs_getR hX zFL_0_11 (by decide +kernel : decode prog_2_method_10_code 11 = .ok (.getfield 11, 3)) rfl,
  zs_iload_n (i := 3) rfl hX (by decide +kernel : decode prog_2_method_10_code 14 = .ok (.iload_n 3, 1)) rfl (by decide),
  zs_lald hX (by decide +kernel : decode prog_2_method_10_code 15 = .ok (.laload, 1)) rfl,
  zs_lload_n (i := 1) rfl hX (by decide +kernel : decode prog_2_method_10_code 16 = .ok (.lload_n 1, 1)) rfl (by decide),
  zs_lcmp_ (zg_lcmp hX (by decide +kernel : decode prog_2_method_10_code 17 = .ok (.lcmp, 1)) rfl),
  zs_0ne hX (by decide +kernel : decode prog_2_method_10_code 18 = .ok (.ifCond .ne 5, 3)) (by decide) rfl,
  zs_iload_n (i := 3) rfl hX (by decide +kernel : decode prog_2_method_10_code 21 = .ok (.iload_n 3, 1)) rfl (by decide),
  zs_iret hX hR (by decide +kernel : decode prog_2_method_10_code 22 = .ok (.ireturn, 1)),
  zs_iinc hX (by decide +kernel : decode prog_2_method_10_code 23 = .ok (.iinc 3 1, 3)) (by decide) rfl (by decide),
  zs_goto hX (by decide +kernel : decode prog_2_method_10_code 26 = .ok (.goto (-24), 3)) (by decide),
  zs_pushI (zg_iconst (by decide) hX (by decide +kernel : decode prog_2_method_10_code 29 = .ok (.iconst (-1), 1)) rfl),
  zs_iret hX hR (by decide +kernel : decode prog_2_method_10_code 30 = .ok (.ireturn, 1)), trivial⟩
theorem k_X0_powerNamed {l : Launch} {D : va_G} {ad : Nat → Nat → Nat} {cy : Nat → ClassId} {L : List (Nat × Nat)} (hcl : zclo L = true) (hinj : zAd ad L) : zCk l D ad cy L 1 f_X0_powerNamed y_X0_powerNamed (.code y_X0_powerNamed prog_2_method_10_code 4 (some .int)) :=
  z_met (by decide) t_X0_powerNamed hcl hinj (fun X hX hR hl k => zgs_all (Q := zSo X) (c := [(31, p_X0_powerNamed_0)]) (fun _ => zs_bad) ⟨s_X0_powerNamed_0 hcl hinj hX hR hl, trivial⟩ k)
set_option maxRecDepth 1000000 in
theorem e_X0_powerNamed_0 (jx0 : Nat) (x1 : Int64) (h : zH) : zL p_X0_powerNamed 0 [some (.inr (.inr (0, jx0))), some (.inr (.inl x1)), none, none] [] h = zL p_X0_powerNamed 2 [some (.inr (.inr (0, jx0))), some (.inr (.inl x1)), none, some (.inl 0)] [] h := (zL_s (t_X0_powerNamed) [0, 2] 1000 0 _ _ _).trans rfl
theorem g_X0_powerNamed (jx0 : Nat) (x1 : Int64) (h : zH) : f_X0_powerNamed [(.inr (.inr (0, jx0))), (.inr (.inl x1))] h = zL p_X0_powerNamed 2 [some (.inr (.inr (0, jx0))), some (.inr (.inl x1)), none, some (.inl 0)] [] h := (show f_X0_powerNamed _ h = zL p_X0_powerNamed 0 _ [] h from rfl).trans (e_X0_powerNamed_0 jx0 x1 h)
set_option maxRecDepth 1000000 in
theorem e_X0_powerNamed_2 (jx0 : Nat) (x1 : Int64) (o2 : Option zV) (x3 : Int32) (h : zH) : zL p_X0_powerNamed 2 [some (.inr (.inr (0, jx0))), some (.inr (.inl x1)), o2, some (.inl x3)] [] h = zf (x3 < (h.1 0 jx0 0)) (zf (vp_in x3 5) (zf ((lg_cmp (h.2 13 jx0 x3.toNatClampNeg) x1) = 0) (some (some (.inl x3), h)) (zL p_X0_powerNamed 2 [some (.inr (.inr (0, jx0))), some (.inr (.inl x1)), none, some (.inl (x3 + 1))] [] h)) none) (some (some (.inl zm1), h)) := (zL_s (t_X0_powerNamed) [0, 2] 1000 2 _ _ _).trans rfl
/-! SoapTreaty$Congress.cakeNamed(J)I -/
def y_X0_cakeNamed : MethodName := ⟨"SoapTreaty$Congress", "cakeNamed", "(J)I"⟩
noncomputable def p_X0_cakeNamed_0 : List (Nat × zO) := [(0, zo_push (.inl 0) 1),
  (1, zo_istore 3 2),
  (2, zo_kill [2] (zo_iload 3 3)),
  (3, zo_aload 0 4),
  (4, zo_getI 0 4 7),
  (7, zo_cge 29 10),
  (10, zo_aload 0 11),
  (11, zo_getR 0 16 none 14),
  (14, zo_iload 3 15),
  (15, zo_lald 16),
  (16, zo_lload 1 17),
  (17, zo_lcmp 18),
  (18, zo_0ne 23 21),
  (21, zo_iload 3 22),
  (22, zo_iret),
  (23, zo_iinc 3 1 26),
  (26, zo_goto 2),
  (29, zo_push (.inl zm1) 30),
  (30, zo_iret)]
noncomputable def p_X0_cakeNamed : Nat → zO := zgs [(31, p_X0_cakeNamed_0)]
theorem t_X0_cakeNamed : ∀ k, zTl (p_X0_cakeNamed k) := fun k => zgs_all (c := [(31, p_X0_cakeNamed_0)]) (fun _ => zl_bad) ⟨⟨zl_push, zl_istore, (zl_kill zl_iload), zl_aload, zl_getI, zl_cge, zl_aload, zl_getR, zl_iload, zl_lald, zl_lload, zl_lcmp, zl_0ne, zl_iload, zl_iret, zl_iinc, zl_goto, zl_push, zl_iret, trivial⟩, trivial⟩ k
noncomputable def f_X0_cakeNamed : zS := zrun p_X0_cakeNamed 4
set_option maxRecDepth 20000 in
theorem s_X0_cakeNamed_0 {l : Launch} {D : va_G} {ad : Nat → Nat → Nat} {cy : Nat → ClassId} {L : List (Nat × Nat)} (hcl : zclo L = true) (hinj : zAd ad L) {X : zCtx} (hX : zXok X "SoapTreaty$Congress" prog_2_method_11_code 4) (hR : zRt X (some .int)) (hl : zXl X l D ad cy L (zroom 1)) : zAllR (zSo X) p_X0_cakeNamed_0 := ⟨zs_pushI (zg_iconst (by decide) hX (by decide +kernel : decode prog_2_method_11_code 0 = .ok (.iconst 0, 1)) rfl),
  zs_istore_n (i := 3) rfl hX (by decide +kernel : decode prog_2_method_11_code 1 = .ok (.istore_n 3, 1)) rfl (by decide),
  zs_kill hX (by decide) (zs_iload_n (i := 3) rfl hX (by decide +kernel : decode prog_2_method_11_code 2 = .ok (.iload_n 3, 1)) rfl (by decide)),
  zs_aload_n (i := 0) rfl hX (by decide +kernel : decode prog_2_method_11_code 3 = .ok (.aload_n 0, 1)) rfl (by decide),
  zs_getI hX zFL_0_57 (by decide) (by decide) (by decide +kernel : decode prog_2_method_11_code 4 = .ok (.getfield 57, 3)) rfl,
  zs_cge hX (by decide +kernel : decode prog_2_method_11_code 7 = .ok (.if_icmp .ge 22, 3)) (by decide) rfl,
  zs_aload_n (i := 0) rfl hX (by decide +kernel : decode prog_2_method_11_code 10 = .ok (.aload_n 0, 1)) rfl (by decide),
  zs_getR hX zFL_0_22 (by decide +kernel : decode prog_2_method_11_code 11 = .ok (.getfield 22, 3)) rfl,
  zs_iload_n (i := 3) rfl hX (by decide +kernel : decode prog_2_method_11_code 14 = .ok (.iload_n 3, 1)) rfl (by decide),
  zs_lald hX (by decide +kernel : decode prog_2_method_11_code 15 = .ok (.laload, 1)) rfl,
  zs_lload_n (i := 1) rfl hX (by decide +kernel : decode prog_2_method_11_code 16 = .ok (.lload_n 1, 1)) rfl (by decide),
  zs_lcmp_ (zg_lcmp hX (by decide +kernel : decode prog_2_method_11_code 17 = .ok (.lcmp, 1)) rfl),
  zs_0ne hX (by decide +kernel : decode prog_2_method_11_code 18 = .ok (.ifCond .ne 5, 3)) (by decide) rfl,
  zs_iload_n (i := 3) rfl hX (by decide +kernel : decode prog_2_method_11_code 21 = .ok (.iload_n 3, 1)) rfl (by decide),
  zs_iret hX hR (by decide +kernel : decode prog_2_method_11_code 22 = .ok (.ireturn, 1)),
  zs_iinc hX (by decide +kernel : decode prog_2_method_11_code 23 = .ok (.iinc 3 1, 3)) (by decide) rfl (by decide),
  zs_goto hX (by decide +kernel : decode prog_2_method_11_code 26 = .ok (.goto (-24), 3)) (by decide),
  zs_pushI (zg_iconst (by decide) hX (by decide +kernel : decode prog_2_method_11_code 29 = .ok (.iconst (-1), 1)) rfl),
  zs_iret hX hR (by decide +kernel : decode prog_2_method_11_code 30 = .ok (.ireturn, 1)), trivial⟩
theorem k_X0_cakeNamed {l : Launch} {D : va_G} {ad : Nat → Nat → Nat} {cy : Nat → ClassId} {L : List (Nat × Nat)} (hcl : zclo L = true) (hinj : zAd ad L) : zCk l D ad cy L 1 f_X0_cakeNamed y_X0_cakeNamed (.code y_X0_cakeNamed prog_2_method_11_code 4 (some .int)) :=
  z_met (by decide) t_X0_cakeNamed hcl hinj (fun X hX hR hl k => zgs_all (Q := zSo X) (c := [(31, p_X0_cakeNamed_0)]) (fun _ => zs_bad) ⟨s_X0_cakeNamed_0 hcl hinj hX hR hl, trivial⟩ k)
set_option maxRecDepth 1000000 in
theorem e_X0_cakeNamed_0 (jx0 : Nat) (x1 : Int64) (h : zH) : zL p_X0_cakeNamed 0 [some (.inr (.inr (0, jx0))), some (.inr (.inl x1)), none, none] [] h = zL p_X0_cakeNamed 2 [some (.inr (.inr (0, jx0))), some (.inr (.inl x1)), none, some (.inl 0)] [] h := (zL_s (t_X0_cakeNamed) [0, 2] 1000 0 _ _ _).trans rfl
theorem g_X0_cakeNamed (jx0 : Nat) (x1 : Int64) (h : zH) : f_X0_cakeNamed [(.inr (.inr (0, jx0))), (.inr (.inl x1))] h = zL p_X0_cakeNamed 2 [some (.inr (.inr (0, jx0))), some (.inr (.inl x1)), none, some (.inl 0)] [] h := (show f_X0_cakeNamed _ h = zL p_X0_cakeNamed 0 _ [] h from rfl).trans (e_X0_cakeNamed_0 jx0 x1 h)
set_option maxRecDepth 1000000 in
theorem e_X0_cakeNamed_2 (jx0 : Nat) (x1 : Int64) (o2 : Option zV) (x3 : Int32) (h : zH) : zL p_X0_cakeNamed 2 [some (.inr (.inr (0, jx0))), some (.inr (.inl x1)), o2, some (.inl x3)] [] h = zf (x3 < (h.1 0 jx0 4)) (zf (vp_in x3 7) (zf ((lg_cmp (h.2 16 jx0 x3.toNatClampNeg) x1) = 0) (some (some (.inl x3), h)) (zL p_X0_cakeNamed 2 [some (.inr (.inr (0, jx0))), some (.inr (.inl x1)), none, some (.inl (x3 + 1))] [] h)) none) (some (some (.inl zm1), h)) := (zL_s (t_X0_cakeNamed) [0, 2] 1000 2 _ _ _).trans rfl
/-! SoapTreaty$Law.operand(IIIII)I -/
def y_X1_operand : MethodName := ⟨"SoapTreaty$Law", "operand", "(IIIII)I"⟩
noncomputable def p_X1_operand_0 : List (Nat × zO) := [(0, zo_iload 0 1),
  (1, zo_tsw [(zm4, 38), (zm3, 36), (zm2, 34), (zm1, 32)] 41),
  (32, zo_iload 1 33),
  (33, zo_iret),
  (34, zo_iload 2 35),
  (35, zo_iret),
  (36, zo_iload 3 37),
  (37, zo_iret),
  (38, zo_iload 4 40),
  (40, zo_iret),
  (41, zo_iload 0 42),
  (42, zo_iret)]
noncomputable def p_X1_operand : Nat → zO := zgs [(43, p_X1_operand_0)]
theorem t_X1_operand : ∀ k, zTl (p_X1_operand k) := fun k => zgs_all (c := [(43, p_X1_operand_0)]) (fun _ => zl_bad) ⟨⟨zl_iload, zl_tsw, zl_iload, zl_iret, zl_iload, zl_iret, zl_iload, zl_iret, zl_iload, zl_iret, zl_iload, zl_iret, trivial⟩, trivial⟩ k
noncomputable def f_X1_operand : zS := zrun p_X1_operand 5
set_option maxRecDepth 20000 in
theorem s_X1_operand_0 {l : Launch} {D : va_G} {ad : Nat → Nat → Nat} {cy : Nat → ClassId} {L : List (Nat × Nat)} (hcl : zclo L = true) (hinj : zAd ad L) {X : zCtx} (hX : zXok X "SoapTreaty$Law" prog_3_method_7_code 5) (hR : zRt X (some .int)) (hl : zXl X l D ad cy L (zroom 1)) : zAllR (zSo X) p_X1_operand_0 := ⟨zs_iload_n (i := 0) rfl hX (by decide +kernel : decode prog_3_method_7_code 0 = .ok (.iload_n 0, 1)) rfl (by decide),
  zs_tsw hX (by decide +kernel : decode prog_3_method_7_code 1 = .ok (.tableswitch 40 (-4) (-1) #[37, 35, 33, 31], 31)) (by decide) (by decide) (by decide) (by decide),
  zs_iload_n (i := 1) rfl hX (by decide +kernel : decode prog_3_method_7_code 32 = .ok (.iload_n 1, 1)) rfl (by decide),
  zs_iret hX hR (by decide +kernel : decode prog_3_method_7_code 33 = .ok (.ireturn, 1)),
  zs_iload_n (i := 2) rfl hX (by decide +kernel : decode prog_3_method_7_code 34 = .ok (.iload_n 2, 1)) rfl (by decide),
  zs_iret hX hR (by decide +kernel : decode prog_3_method_7_code 35 = .ok (.ireturn, 1)),
  zs_iload_n (i := 3) rfl hX (by decide +kernel : decode prog_3_method_7_code 36 = .ok (.iload_n 3, 1)) rfl (by decide),
  zs_iret hX hR (by decide +kernel : decode prog_3_method_7_code 37 = .ok (.ireturn, 1)),
  zs_iload hX (by decide +kernel : decode prog_3_method_7_code 38 = .ok (.iload 4, 2)) rfl (by decide),
  zs_iret hX hR (by decide +kernel : decode prog_3_method_7_code 40 = .ok (.ireturn, 1)),
  zs_iload_n (i := 0) rfl hX (by decide +kernel : decode prog_3_method_7_code 41 = .ok (.iload_n 0, 1)) rfl (by decide),
  zs_iret hX hR (by decide +kernel : decode prog_3_method_7_code 42 = .ok (.ireturn, 1)), trivial⟩
theorem k_X1_operand {l : Launch} {D : va_G} {ad : Nat → Nat → Nat} {cy : Nat → ClassId} {L : List (Nat × Nat)} (hcl : zclo L = true) (hinj : zAd ad L) : zCk l D ad cy L 1 f_X1_operand y_X1_operand (.code y_X1_operand prog_3_method_7_code 5 (some .int)) :=
  z_met (by decide) t_X1_operand hcl hinj (fun X hX hR hl k => zgs_all (Q := zSo X) (c := [(43, p_X1_operand_0)]) (fun _ => zs_bad) ⟨s_X1_operand_0 hcl hinj hX hR hl, trivial⟩ k)
set_option maxRecDepth 1000000 in
theorem e_X1_operand_0 (x0 : Int32) (x1 : Int32) (x2 : Int32) (x3 : Int32) (x4 : Int32) (h : zH) : zL p_X1_operand 0 [some (.inl x0), some (.inl x1), some (.inl x2), some (.inl x3), some (.inl x4)] [] h = zf (x0 = zm4) (some (some (.inl x4), h)) (zf (x0 = zm3) (some (some (.inl x3), h)) (zf (x0 = zm2) (some (some (.inl x2), h)) (zf (x0 = zm1) (some (some (.inl x1), h)) (some (some (.inl x0), h))))) := (zL_s (t_X1_operand) [0] 1000 0 _ _ _).trans rfl
theorem g_X1_operand (x0 : Int32) (x1 : Int32) (x2 : Int32) (x3 : Int32) (x4 : Int32) (h : zH) : f_X1_operand [(.inl x0), (.inl x1), (.inl x2), (.inl x3), (.inl x4)] h = zf (x0 = zm4) (some (some (.inl x4), h)) (zf (x0 = zm3) (some (some (.inl x3), h)) (zf (x0 = zm2) (some (some (.inl x2), h)) (zf (x0 = zm1) (some (some (.inl x1), h)) (some (some (.inl x0), h))))) := (show f_X1_operand _ h = zL p_X1_operand 0 _ [] h from rfl).trans (e_X1_operand_0 x0 x1 x2 x3 x4 h)
/-! SoapTreaty$Law.joined(III)I -/
def y_X1_joined : MethodName := ⟨"SoapTreaty$Law", "joined", "(III)I"⟩
noncomputable def p_X1_joined_0 : List (Nat × zO) := [(0, zo_iload 0 1),
  (1, zo_tsw [(zm11, 94), (zm10, 90), (zm9, 79), (zm8, 68), (zm7, 54), (zm6, 40)] 98),
  (40, zo_iload 1 41),
  (41, zo_0eq 52 44),
  (44, zo_iload 2 45),
  (45, zo_0eq 52 48),
  (48, zo_push (.inl 1) 49),
  (49, zo_goto 53),
  (52, zo_push (.inl 0) 53),
  (53, zo_iret),
  (54, zo_iload 1 55),
  (55, zo_0ne 62 58),
  (58, zo_iload 2 59),
  (59, zo_0eq 66 62),
  (62, zo_push (.inl 1) 63),
  (63, zo_goto 67),
  (66, zo_push (.inl 0) 67),
  (67, zo_iret),
  (68, zo_iload 1 69),
  (69, zo_iload 2 70)]
noncomputable def p_X1_joined_1 : List (Nat × zO) := [(70, zo_cge 77 73),
  (73, zo_push (.inl 1) 74),
  (74, zo_goto 78),
  (77, zo_push (.inl 0) 78),
  (78, zo_iret),
  (79, zo_iload 1 80),
  (80, zo_iload 2 81),
  (81, zo_cne 88 84),
  (84, zo_push (.inl 1) 85),
  (85, zo_goto 89),
  (88, zo_push (.inl 0) 89),
  (89, zo_iret),
  (90, zo_iload 1 91),
  (91, zo_iload 2 92),
  (92, zo_ii (fun x y => x + y) 93),
  (93, zo_iret),
  (94, zo_iload 1 95),
  (95, zo_iload 2 96),
  (96, zo_ii (fun x y => x - y) 97),
  (97, zo_iret)]
noncomputable def p_X1_joined_2 : List (Nat × zO) := [(98, zo_iload 1 99),
  (99, zo_iload 2 100),
  (100, zo_ii (fun x y => x * y) 101),
  (101, zo_iret)]
noncomputable def p_X1_joined : Nat → zO := zgs [(70, p_X1_joined_0), (98, p_X1_joined_1), (102, p_X1_joined_2)]
theorem t_X1_joined : ∀ k, zTl (p_X1_joined k) := fun k => zgs_all (c := [(70, p_X1_joined_0), (98, p_X1_joined_1), (102, p_X1_joined_2)]) (fun _ => zl_bad) ⟨⟨zl_iload, zl_tsw, zl_iload, zl_0eq, zl_iload, zl_0eq, zl_push, zl_goto, zl_push, zl_iret, zl_iload, zl_0ne, zl_iload, zl_0eq, zl_push, zl_goto, zl_push, zl_iret, zl_iload, zl_iload, trivial⟩, ⟨zl_cge, zl_push, zl_goto, zl_push, zl_iret, zl_iload, zl_iload, zl_cne, zl_push, zl_goto, zl_push, zl_iret, zl_iload, zl_iload, zl_ii, zl_iret, zl_iload, zl_iload, zl_ii, zl_iret, trivial⟩, ⟨zl_iload, zl_iload, zl_ii, zl_iret, trivial⟩, trivial⟩ k
noncomputable def f_X1_joined : zS := zrun p_X1_joined 3
set_option maxRecDepth 20000 in
theorem s_X1_joined_0 {l : Launch} {D : va_G} {ad : Nat → Nat → Nat} {cy : Nat → ClassId} {L : List (Nat × Nat)} (hcl : zclo L = true) (hinj : zAd ad L) {X : zCtx} (hX : zXok X "SoapTreaty$Law" prog_3_method_8_code 3) (hR : zRt X (some .int)) (hl : zXl X l D ad cy L (zroom 1)) : zAllR (zSo X) p_X1_joined_0 := ⟨zs_iload_n (i := 0) rfl hX (by decide +kernel : decode prog_3_method_8_code 0 = .ok (.iload_n 0, 1)) rfl (by decide),
  zs_tsw hX (by decide +kernel : decode prog_3_method_8_code 1 = .ok (.tableswitch 97 (-11) (-6) #[93, 89, 78, 67, 53, 39], 39)) (by decide) (by decide) (by decide) (by decide),
  zs_iload_n (i := 1) rfl hX (by decide +kernel : decode prog_3_method_8_code 40 = .ok (.iload_n 1, 1)) rfl (by decide),
  zs_0eq hX (by decide +kernel : decode prog_3_method_8_code 41 = .ok (.ifCond .eq 11, 3)) (by decide) rfl,
  zs_iload_n (i := 2) rfl hX (by decide +kernel : decode prog_3_method_8_code 44 = .ok (.iload_n 2, 1)) rfl (by decide),
  zs_0eq hX (by decide +kernel : decode prog_3_method_8_code 45 = .ok (.ifCond .eq 7, 3)) (by decide) rfl,
  zs_pushI (zg_iconst (by decide) hX (by decide +kernel : decode prog_3_method_8_code 48 = .ok (.iconst 1, 1)) rfl),
  zs_goto hX (by decide +kernel : decode prog_3_method_8_code 49 = .ok (.goto 4, 3)) (by decide),
  zs_pushI (zg_iconst (by decide) hX (by decide +kernel : decode prog_3_method_8_code 52 = .ok (.iconst 0, 1)) rfl),
  zs_iret hX hR (by decide +kernel : decode prog_3_method_8_code 53 = .ok (.ireturn, 1)),
  zs_iload_n (i := 1) rfl hX (by decide +kernel : decode prog_3_method_8_code 54 = .ok (.iload_n 1, 1)) rfl (by decide),
  zs_0ne hX (by decide +kernel : decode prog_3_method_8_code 55 = .ok (.ifCond .ne 7, 3)) (by decide) rfl,
  zs_iload_n (i := 2) rfl hX (by decide +kernel : decode prog_3_method_8_code 58 = .ok (.iload_n 2, 1)) rfl (by decide),
  zs_0eq hX (by decide +kernel : decode prog_3_method_8_code 59 = .ok (.ifCond .eq 7, 3)) (by decide) rfl,
  zs_pushI (zg_iconst (by decide) hX (by decide +kernel : decode prog_3_method_8_code 62 = .ok (.iconst 1, 1)) rfl),
  zs_goto hX (by decide +kernel : decode prog_3_method_8_code 63 = .ok (.goto 4, 3)) (by decide),
  zs_pushI (zg_iconst (by decide) hX (by decide +kernel : decode prog_3_method_8_code 66 = .ok (.iconst 0, 1)) rfl),
  zs_iret hX hR (by decide +kernel : decode prog_3_method_8_code 67 = .ok (.ireturn, 1)),
  zs_iload_n (i := 1) rfl hX (by decide +kernel : decode prog_3_method_8_code 68 = .ok (.iload_n 1, 1)) rfl (by decide),
  zs_iload_n (i := 2) rfl hX (by decide +kernel : decode prog_3_method_8_code 69 = .ok (.iload_n 2, 1)) rfl (by decide), trivial⟩
set_option maxRecDepth 20000 in
theorem s_X1_joined_1 {l : Launch} {D : va_G} {ad : Nat → Nat → Nat} {cy : Nat → ClassId} {L : List (Nat × Nat)} (hcl : zclo L = true) (hinj : zAd ad L) {X : zCtx} (hX : zXok X "SoapTreaty$Law" prog_3_method_8_code 3) (hR : zRt X (some .int)) (hl : zXl X l D ad cy L (zroom 1)) : zAllR (zSo X) p_X1_joined_1 := ⟨zs_cge hX (by decide +kernel : decode prog_3_method_8_code 70 = .ok (.if_icmp .ge 7, 3)) (by decide) rfl,
  zs_pushI (zg_iconst (by decide) hX (by decide +kernel : decode prog_3_method_8_code 73 = .ok (.iconst 1, 1)) rfl),
  zs_goto hX (by decide +kernel : decode prog_3_method_8_code 74 = .ok (.goto 4, 3)) (by decide),
  zs_pushI (zg_iconst (by decide) hX (by decide +kernel : decode prog_3_method_8_code 77 = .ok (.iconst 0, 1)) rfl),
  zs_iret hX hR (by decide +kernel : decode prog_3_method_8_code 78 = .ok (.ireturn, 1)),
  zs_iload_n (i := 1) rfl hX (by decide +kernel : decode prog_3_method_8_code 79 = .ok (.iload_n 1, 1)) rfl (by decide),
  zs_iload_n (i := 2) rfl hX (by decide +kernel : decode prog_3_method_8_code 80 = .ok (.iload_n 2, 1)) rfl (by decide),
  zs_cne hX (by decide +kernel : decode prog_3_method_8_code 81 = .ok (.if_icmp .ne 7, 3)) (by decide) rfl,
  zs_pushI (zg_iconst (by decide) hX (by decide +kernel : decode prog_3_method_8_code 84 = .ok (.iconst 1, 1)) rfl),
  zs_goto hX (by decide +kernel : decode prog_3_method_8_code 85 = .ok (.goto 4, 3)) (by decide),
  zs_pushI (zg_iconst (by decide) hX (by decide +kernel : decode prog_3_method_8_code 88 = .ok (.iconst 0, 1)) rfl),
  zs_iret hX hR (by decide +kernel : decode prog_3_method_8_code 89 = .ok (.ireturn, 1)),
  zs_iload_n (i := 1) rfl hX (by decide +kernel : decode prog_3_method_8_code 90 = .ok (.iload_n 1, 1)) rfl (by decide),
  zs_iload_n (i := 2) rfl hX (by decide +kernel : decode prog_3_method_8_code 91 = .ok (.iload_n 2, 1)) rfl (by decide),
  zs_ii (zg_iadd hX (by decide +kernel : decode prog_3_method_8_code 92 = .ok (.iadd, 1)) rfl),
  zs_iret hX hR (by decide +kernel : decode prog_3_method_8_code 93 = .ok (.ireturn, 1)),
  zs_iload_n (i := 1) rfl hX (by decide +kernel : decode prog_3_method_8_code 94 = .ok (.iload_n 1, 1)) rfl (by decide),
  zs_iload_n (i := 2) rfl hX (by decide +kernel : decode prog_3_method_8_code 95 = .ok (.iload_n 2, 1)) rfl (by decide),
  zs_ii (zg_isub hX (by decide +kernel : decode prog_3_method_8_code 96 = .ok (.isub, 1)) rfl),
  zs_iret hX hR (by decide +kernel : decode prog_3_method_8_code 97 = .ok (.ireturn, 1)), trivial⟩
set_option maxRecDepth 20000 in
theorem s_X1_joined_2 {l : Launch} {D : va_G} {ad : Nat → Nat → Nat} {cy : Nat → ClassId} {L : List (Nat × Nat)} (hcl : zclo L = true) (hinj : zAd ad L) {X : zCtx} (hX : zXok X "SoapTreaty$Law" prog_3_method_8_code 3) (hR : zRt X (some .int)) (hl : zXl X l D ad cy L (zroom 1)) : zAllR (zSo X) p_X1_joined_2 := ⟨zs_iload_n (i := 1) rfl hX (by decide +kernel : decode prog_3_method_8_code 98 = .ok (.iload_n 1, 1)) rfl (by decide),
  zs_iload_n (i := 2) rfl hX (by decide +kernel : decode prog_3_method_8_code 99 = .ok (.iload_n 2, 1)) rfl (by decide),
  zs_ii (zg_imul hX (by decide +kernel : decode prog_3_method_8_code 100 = .ok (.imul, 1)) rfl),
  zs_iret hX hR (by decide +kernel : decode prog_3_method_8_code 101 = .ok (.ireturn, 1)), trivial⟩
theorem k_X1_joined {l : Launch} {D : va_G} {ad : Nat → Nat → Nat} {cy : Nat → ClassId} {L : List (Nat × Nat)} (hcl : zclo L = true) (hinj : zAd ad L) : zCk l D ad cy L 1 f_X1_joined y_X1_joined (.code y_X1_joined prog_3_method_8_code 3 (some .int)) :=
  z_met (by decide) t_X1_joined hcl hinj (fun X hX hR hl k => zgs_all (Q := zSo X) (c := [(70, p_X1_joined_0), (98, p_X1_joined_1), (102, p_X1_joined_2)]) (fun _ => zs_bad) ⟨s_X1_joined_0 hcl hinj hX hR hl, s_X1_joined_1 hcl hinj hX hR hl, s_X1_joined_2 hcl hinj hX hR hl, trivial⟩ k)
set_option maxRecDepth 1000000 in
theorem e_X1_joined_0 (x0 : Int32) (x1 : Int32) (x2 : Int32) (h : zH) : zL p_X1_joined 0 [some (.inl x0), some (.inl x1), some (.inl x2)] [] h = zf (x0 = zm11) (some (some (.inl (x1 - x2)), h)) (zf (x0 = zm10) (some (some (.inl (x1 + x2)), h)) (zf (x0 = zm9) (zf (x1 = x2) (some (some (.inl 1), h)) (some (some (.inl 0), h))) (zf (x0 = zm8) (zf (x1 < x2) (some (some (.inl 1), h)) (some (some (.inl 0), h))) (zf (x0 = zm7) (zf (x1 = 0) (zf (x2 = 0) (some (some (.inl 0), h)) (some (some (.inl 1), h))) (some (some (.inl 1), h))) (zf (x0 = zm6) (zf (x1 = 0) (some (some (.inl 0), h)) (zf (x2 = 0) (some (some (.inl 0), h)) (some (some (.inl 1), h)))) (some (some (.inl (x1 * x2)), h))))))) := (zL_s (t_X1_joined) [0] 1000 0 _ _ _).trans rfl
theorem g_X1_joined (x0 : Int32) (x1 : Int32) (x2 : Int32) (h : zH) : f_X1_joined [(.inl x0), (.inl x1), (.inl x2)] h = zf (x0 = zm11) (some (some (.inl (x1 - x2)), h)) (zf (x0 = zm10) (some (some (.inl (x1 + x2)), h)) (zf (x0 = zm9) (zf (x1 = x2) (some (some (.inl 1), h)) (some (some (.inl 0), h))) (zf (x0 = zm8) (zf (x1 < x2) (some (some (.inl 1), h)) (some (some (.inl 0), h))) (zf (x0 = zm7) (zf (x1 = 0) (zf (x2 = 0) (some (some (.inl 0), h)) (some (some (.inl 1), h))) (some (some (.inl 1), h))) (zf (x0 = zm6) (zf (x1 = 0) (some (some (.inl 0), h)) (zf (x2 = 0) (some (some (.inl 0), h)) (some (some (.inl 1), h)))) (some (some (.inl (x1 * x2)), h))))))) := (show f_X1_joined _ h = zL p_X1_joined 0 _ [] h from rfl).trans (e_X1_joined_0 x0 x1 x2 h)
theorem zMS_1_35 : zMS "SoapTreaty$Law" 35 y_X1_operand prog_3_method_7_code 5 (some .int) 5 := ⟨⟨zT_of 888 (by decide +kernel) (by decide +kernel), zT_of 889 (by decide +kernel) (by decide +kernel), zT_of 105 (by decide +kernel) (by decide +kernel), zT_of 890 (by decide +kernel) (by decide +kernel)⟩, by decide, by decide, by decide, by decide +kernel⟩
theorem zMS_1_39 : zMS "SoapTreaty$Law" 39 y_X1_joined prog_3_method_8_code 3 (some .int) 3 := ⟨⟨zT_of 891 (by decide +kernel) (by decide +kernel), zT_of 892 (by decide +kernel) (by decide +kernel), zT_of 105 (by decide +kernel) (by decide +kernel), zT_of 893 (by decide +kernel) (by decide +kernel)⟩, by decide, by decide, by decide, by decide +kernel⟩
/-! SoapTreaty$Law.valueFor(IIII)I -/
def y_X1_valueFor : MethodName := ⟨"SoapTreaty$Law", "valueFor", "(IIII)I"⟩
noncomputable def p_X1_valueFor_0 : List (Nat × zO) := [(0, zo_push (.inl 0) 1),
  (1, zo_istore 5 3),
  (3, zo_push (.inl 0) 4),
  (4, zo_istore 6 6),
  (6, zo_kill [7] (zo_iload 6 8)),
  (8, zo_aload 0 9),
  (9, zo_getI 1 2 12),
  (12, zo_cge 148 15),
  (15, zo_aload 0 16),
  (16, zo_getR 1 22 none 19),
  (19, zo_iload 6 21),
  (21, zo_iald 22),
  (22, zo_istore 7 24),
  (24, zo_iload 7 26),
  (26, zo_push (.inl zm4) 28),
  (28, zo_clt 61 31),
  (31, zo_iload 5 33),
  (33, zo_push (.inl 24) 35),
  (35, zo_cge 142 38),
  (38, zo_aload 0 39)]
noncomputable def p_X1_valueFor_1 : List (Nat × zO) := [(39, zo_getR 1 23 none 42),
  (42, zo_iload 5 44),
  (44, zo_iload 7 46),
  (46, zo_iload 1 47),
  (47, zo_iload 2 48),
  (48, zo_iload 3 49),
  (49, zo_iload 4 51),
  (51, zo_calli (f_X1_operand) 5 54),
  (54, zo_iast 55),
  (55, zo_iinc 5 1 58),
  (58, zo_goto 142),
  (61, zo_iload 7 63),
  (63, zo_push (.inl zm5) 65),
  (65, zo_cne 103 68),
  (68, zo_iload 5 70),
  (70, zo_push (.inl 1) 71),
  (71, zo_clt 142 74),
  (74, zo_aload 0 75),
  (75, zo_getR 1 23 none 78),
  (78, zo_iload 5 80)]
noncomputable def p_X1_valueFor_2 : List (Nat × zO) := [(80, zo_push (.inl 1) 81),
  (81, zo_ii (fun x y => x - y) 82),
  (82, zo_aload 0 83),
  (83, zo_getR 1 23 none 86),
  (86, zo_iload 5 88),
  (88, zo_push (.inl 1) 89),
  (89, zo_ii (fun x y => x - y) 90),
  (90, zo_iald 91),
  (91, zo_0ne 98 94),
  (94, zo_push (.inl 1) 95),
  (95, zo_goto 99),
  (98, zo_push (.inl 0) 99),
  (99, zo_iast 100),
  (100, zo_goto 142),
  (103, zo_iload 5 105),
  (105, zo_push (.inl 2) 106),
  (106, zo_clt 142 109),
  (109, zo_iinc 5 zm1 112),
  (112, zo_aload 0 113),
  (113, zo_getR 1 23 none 116)]
noncomputable def p_X1_valueFor_3 : List (Nat × zO) := [(116, zo_iload 5 118),
  (118, zo_push (.inl 1) 119),
  (119, zo_ii (fun x y => x - y) 120),
  (120, zo_iload 7 122),
  (122, zo_aload 0 123),
  (123, zo_getR 1 23 none 126),
  (126, zo_iload 5 128),
  (128, zo_push (.inl 1) 129),
  (129, zo_ii (fun x y => x - y) 130),
  (130, zo_iald 131),
  (131, zo_aload 0 132),
  (132, zo_getR 1 23 none 135),
  (135, zo_iload 5 137),
  (137, zo_iald 138),
  (138, zo_calli (f_X1_joined) 3 141),
  (141, zo_iast 142),
  (142, zo_iinc 6 1 145),
  (145, zo_goto 6),
  (148, zo_iload 5 150),
  (150, zo_0le 162 153)]
noncomputable def p_X1_valueFor_4 : List (Nat × zO) := [(153, zo_aload 0 154),
  (154, zo_getR 1 23 none 157),
  (157, zo_push (.inl 0) 158),
  (158, zo_ialdc 159),
  (159, zo_goto 163),
  (162, zo_push (.inl 0) 163),
  (163, zo_iret)]
noncomputable def p_X1_valueFor : Nat → zO := zgs [(39, p_X1_valueFor_0), (79, p_X1_valueFor_1), (114, p_X1_valueFor_2), (151, p_X1_valueFor_3), (164, p_X1_valueFor_4)]
theorem t_X1_valueFor : ∀ k, zTl (p_X1_valueFor k) := fun k => zgs_all (c := [(39, p_X1_valueFor_0), (79, p_X1_valueFor_1), (114, p_X1_valueFor_2), (151, p_X1_valueFor_3), (164, p_X1_valueFor_4)]) (fun _ => zl_bad) ⟨⟨zl_push, zl_istore, zl_push, zl_istore, (zl_kill zl_iload), zl_aload, zl_getI, zl_cge, zl_aload, zl_getR, zl_iload, zl_iald, zl_istore, zl_iload, zl_push, zl_clt, zl_iload, zl_push, zl_cge, zl_aload, trivial⟩, ⟨zl_getR, zl_iload, zl_iload, zl_iload, zl_iload, zl_iload, zl_iload, zl_calli, zl_iast, zl_iinc, zl_goto, zl_iload, zl_push, zl_cne, zl_iload, zl_push, zl_clt, zl_aload, zl_getR, zl_iload, trivial⟩, ⟨zl_push, zl_ii, zl_aload, zl_getR, zl_iload, zl_push, zl_ii, zl_iald, zl_0ne, zl_push, zl_goto, zl_push, zl_iast, zl_goto, zl_iload, zl_push, zl_clt, zl_iinc, zl_aload, zl_getR, trivial⟩, ⟨zl_iload, zl_push, zl_ii, zl_iload, zl_aload, zl_getR, zl_iload, zl_push, zl_ii, zl_iald, zl_aload, zl_getR, zl_iload, zl_iald, zl_calli, zl_iast, zl_iinc, zl_goto, zl_iload, zl_0le, trivial⟩, ⟨zl_aload, zl_getR, zl_push, zl_ialdc, zl_goto, zl_push, zl_iret, trivial⟩, trivial⟩ k
noncomputable def f_X1_valueFor : zS := zrun p_X1_valueFor 8
set_option maxRecDepth 20000 in
theorem s_X1_valueFor_0 {l : Launch} {D : va_G} {ad : Nat → Nat → Nat} {cy : Nat → ClassId} {L : List (Nat × Nat)} (hcl : zclo L = true) (hinj : zAd ad L) {X : zCtx} (hX : zXok X "SoapTreaty$Law" prog_3_method_6_code 8) (hR : zRt X (some .int)) (hl : zXl X l D ad cy L (zroom 2)) : zAllR (zSo X) p_X1_valueFor_0 := ⟨zs_pushI (zg_iconst (by decide) hX (by decide +kernel : decode prog_3_method_6_code 0 = .ok (.iconst 0, 1)) rfl),
  zs_istore hX (by decide +kernel : decode prog_3_method_6_code 1 = .ok (.istore 5, 2)) rfl (by decide),
  zs_pushI (zg_iconst (by decide) hX (by decide +kernel : decode prog_3_method_6_code 3 = .ok (.iconst 0, 1)) rfl),
  zs_istore hX (by decide +kernel : decode prog_3_method_6_code 4 = .ok (.istore 6, 2)) rfl (by decide),
  zs_kill hX (by decide) (zs_iload hX (by decide +kernel : decode prog_3_method_6_code 6 = .ok (.iload 6, 2)) rfl (by decide)),
  zs_aload_n (i := 0) rfl hX (by decide +kernel : decode prog_3_method_6_code 8 = .ok (.aload_n 0, 1)) rfl (by decide),
  zs_getI hX zFL_1_18 (by decide) (by decide) (by decide +kernel : decode prog_3_method_6_code 9 = .ok (.getfield 18, 3)) rfl,
  zs_cge hX (by decide +kernel : decode prog_3_method_6_code 12 = .ok (.if_icmp .ge 136, 3)) (by decide) rfl,
  zs_aload_n (i := 0) rfl hX (by decide +kernel : decode prog_3_method_6_code 15 = .ok (.aload_n 0, 1)) rfl (by decide),
  zs_getR hX zFL_1_9 (by decide +kernel : decode prog_3_method_6_code 16 = .ok (.getfield 9, 3)) rfl,
  zs_iload hX (by decide +kernel : decode prog_3_method_6_code 19 = .ok (.iload 6, 2)) rfl (by decide),
  zs_iald hX (by decide +kernel : decode prog_3_method_6_code 21 = .ok (.iaload, 1)) rfl,
  zs_istore hX (by decide +kernel : decode prog_3_method_6_code 22 = .ok (.istore 7, 2)) rfl (by decide),
  zs_iload hX (by decide +kernel : decode prog_3_method_6_code 24 = .ok (.iload 7, 2)) rfl (by decide),
  zs_pushI (zg_bipush (by decide) hX (by decide +kernel : decode prog_3_method_6_code 26 = .ok (.bipush (-4), 2)) rfl),
  zs_clt hX (by decide +kernel : decode prog_3_method_6_code 28 = .ok (.if_icmp .lt 33, 3)) (by decide) rfl,
  zs_iload hX (by decide +kernel : decode prog_3_method_6_code 31 = .ok (.iload 5, 2)) rfl (by decide),
  zs_pushI (zg_bipush (by decide) hX (by decide +kernel : decode prog_3_method_6_code 33 = .ok (.bipush 24, 2)) rfl),
  zs_cge hX (by decide +kernel : decode prog_3_method_6_code 35 = .ok (.if_icmp .ge 107, 3)) (by decide) rfl,
  zs_aload_n (i := 0) rfl hX (by decide +kernel : decode prog_3_method_6_code 38 = .ok (.aload_n 0, 1)) rfl (by decide), trivial⟩
set_option maxRecDepth 20000 in
theorem s_X1_valueFor_1 {l : Launch} {D : va_G} {ad : Nat → Nat → Nat} {cy : Nat → ClassId} {L : List (Nat × Nat)} (hcl : zclo L = true) (hinj : zAd ad L) {X : zCtx} (hX : zXok X "SoapTreaty$Law" prog_3_method_6_code 8) (hR : zRt X (some .int)) (hl : zXl X l D ad cy L (zroom 2)) : zAllR (zSo X) p_X1_valueFor_1 := ⟨zs_getR hX zFL_1_15 (by decide +kernel : decode prog_3_method_6_code 39 = .ok (.getfield 15, 3)) rfl,
  zs_iload hX (by decide +kernel : decode prog_3_method_6_code 42 = .ok (.iload 5, 2)) rfl (by decide),
  zs_iload hX (by decide +kernel : decode prog_3_method_6_code 44 = .ok (.iload 7, 2)) rfl (by decide),
  zs_iload_n (i := 1) rfl hX (by decide +kernel : decode prog_3_method_6_code 46 = .ok (.iload_n 1, 1)) rfl (by decide),
  zs_iload_n (i := 2) rfl hX (by decide +kernel : decode prog_3_method_6_code 47 = .ok (.iload_n 2, 1)) rfl (by decide),
  zs_iload_n (i := 3) rfl hX (by decide +kernel : decode prog_3_method_6_code 48 = .ok (.iload_n 3, 1)) rfl (by decide),
  zs_iload hX (by decide +kernel : decode prog_3_method_6_code 49 = .ok (.iload 4, 2)) rfl (by decide),
  zs_callSi hX zMS_1_35 (zXc_of hl (by decide) (k_X1_operand hcl hinj)) (by decide +kernel : decode prog_3_method_6_code 51 = .ok (.invokestatic 35, 3)) rfl,
  zs_iast hX (by decide +kernel : decode prog_3_method_6_code 54 = .ok (.iastore, 1)) rfl,
  zs_iinc hX (by decide +kernel : decode prog_3_method_6_code 55 = .ok (.iinc 5 1, 3)) (by decide) rfl (by decide),
  zs_goto hX (by decide +kernel : decode prog_3_method_6_code 58 = .ok (.goto 84, 3)) (by decide),
  zs_iload hX (by decide +kernel : decode prog_3_method_6_code 61 = .ok (.iload 7, 2)) rfl (by decide),
  zs_pushI (zg_bipush (by decide) hX (by decide +kernel : decode prog_3_method_6_code 63 = .ok (.bipush (-5), 2)) rfl),
  zs_cne hX (by decide +kernel : decode prog_3_method_6_code 65 = .ok (.if_icmp .ne 38, 3)) (by decide) rfl,
  zs_iload hX (by decide +kernel : decode prog_3_method_6_code 68 = .ok (.iload 5, 2)) rfl (by decide),
  zs_pushI (zg_iconst (by decide) hX (by decide +kernel : decode prog_3_method_6_code 70 = .ok (.iconst 1, 1)) rfl),
  zs_clt hX (by decide +kernel : decode prog_3_method_6_code 71 = .ok (.if_icmp .lt 71, 3)) (by decide) rfl,
  zs_aload_n (i := 0) rfl hX (by decide +kernel : decode prog_3_method_6_code 74 = .ok (.aload_n 0, 1)) rfl (by decide),
  zs_getR hX zFL_1_15 (by decide +kernel : decode prog_3_method_6_code 75 = .ok (.getfield 15, 3)) rfl,
  zs_iload hX (by decide +kernel : decode prog_3_method_6_code 78 = .ok (.iload 5, 2)) rfl (by decide), trivial⟩
set_option maxRecDepth 20000 in
theorem s_X1_valueFor_2 {l : Launch} {D : va_G} {ad : Nat → Nat → Nat} {cy : Nat → ClassId} {L : List (Nat × Nat)} (hcl : zclo L = true) (hinj : zAd ad L) {X : zCtx} (hX : zXok X "SoapTreaty$Law" prog_3_method_6_code 8) (hR : zRt X (some .int)) (hl : zXl X l D ad cy L (zroom 2)) : zAllR (zSo X) p_X1_valueFor_2 := ⟨zs_pushI (zg_iconst (by decide) hX (by decide +kernel : decode prog_3_method_6_code 80 = .ok (.iconst 1, 1)) rfl),
  zs_ii (zg_isub hX (by decide +kernel : decode prog_3_method_6_code 81 = .ok (.isub, 1)) rfl),
  zs_aload_n (i := 0) rfl hX (by decide +kernel : decode prog_3_method_6_code 82 = .ok (.aload_n 0, 1)) rfl (by decide),
  zs_getR hX zFL_1_15 (by decide +kernel : decode prog_3_method_6_code 83 = .ok (.getfield 15, 3)) rfl,
  zs_iload hX (by decide +kernel : decode prog_3_method_6_code 86 = .ok (.iload 5, 2)) rfl (by decide),
  zs_pushI (zg_iconst (by decide) hX (by decide +kernel : decode prog_3_method_6_code 88 = .ok (.iconst 1, 1)) rfl),
  zs_ii (zg_isub hX (by decide +kernel : decode prog_3_method_6_code 89 = .ok (.isub, 1)) rfl),
  zs_iald hX (by decide +kernel : decode prog_3_method_6_code 90 = .ok (.iaload, 1)) rfl,
  zs_0ne hX (by decide +kernel : decode prog_3_method_6_code 91 = .ok (.ifCond .ne 7, 3)) (by decide) rfl,
  zs_pushI (zg_iconst (by decide) hX (by decide +kernel : decode prog_3_method_6_code 94 = .ok (.iconst 1, 1)) rfl),
  zs_goto hX (by decide +kernel : decode prog_3_method_6_code 95 = .ok (.goto 4, 3)) (by decide),
  zs_pushI (zg_iconst (by decide) hX (by decide +kernel : decode prog_3_method_6_code 98 = .ok (.iconst 0, 1)) rfl),
  zs_iast hX (by decide +kernel : decode prog_3_method_6_code 99 = .ok (.iastore, 1)) rfl,
  zs_goto hX (by decide +kernel : decode prog_3_method_6_code 100 = .ok (.goto 42, 3)) (by decide),
  zs_iload hX (by decide +kernel : decode prog_3_method_6_code 103 = .ok (.iload 5, 2)) rfl (by decide),
  zs_pushI (zg_iconst (by decide) hX (by decide +kernel : decode prog_3_method_6_code 105 = .ok (.iconst 2, 1)) rfl),
  zs_clt hX (by decide +kernel : decode prog_3_method_6_code 106 = .ok (.if_icmp .lt 36, 3)) (by decide) rfl,
  zs_iinc hX (by decide +kernel : decode prog_3_method_6_code 109 = .ok (.iinc 5 (-1), 3)) (by decide) rfl (by decide),
  zs_aload_n (i := 0) rfl hX (by decide +kernel : decode prog_3_method_6_code 112 = .ok (.aload_n 0, 1)) rfl (by decide),
  zs_getR hX zFL_1_15 (by decide +kernel : decode prog_3_method_6_code 113 = .ok (.getfield 15, 3)) rfl, trivial⟩
set_option maxRecDepth 20000 in
theorem s_X1_valueFor_3 {l : Launch} {D : va_G} {ad : Nat → Nat → Nat} {cy : Nat → ClassId} {L : List (Nat × Nat)} (hcl : zclo L = true) (hinj : zAd ad L) {X : zCtx} (hX : zXok X "SoapTreaty$Law" prog_3_method_6_code 8) (hR : zRt X (some .int)) (hl : zXl X l D ad cy L (zroom 2)) : zAllR (zSo X) p_X1_valueFor_3 := ⟨zs_iload hX (by decide +kernel : decode prog_3_method_6_code 116 = .ok (.iload 5, 2)) rfl (by decide),
  zs_pushI (zg_iconst (by decide) hX (by decide +kernel : decode prog_3_method_6_code 118 = .ok (.iconst 1, 1)) rfl),
  zs_ii (zg_isub hX (by decide +kernel : decode prog_3_method_6_code 119 = .ok (.isub, 1)) rfl),
  zs_iload hX (by decide +kernel : decode prog_3_method_6_code 120 = .ok (.iload 7, 2)) rfl (by decide),
  zs_aload_n (i := 0) rfl hX (by decide +kernel : decode prog_3_method_6_code 122 = .ok (.aload_n 0, 1)) rfl (by decide),
  zs_getR hX zFL_1_15 (by decide +kernel : decode prog_3_method_6_code 123 = .ok (.getfield 15, 3)) rfl,
  zs_iload hX (by decide +kernel : decode prog_3_method_6_code 126 = .ok (.iload 5, 2)) rfl (by decide),
  zs_pushI (zg_iconst (by decide) hX (by decide +kernel : decode prog_3_method_6_code 128 = .ok (.iconst 1, 1)) rfl),
  zs_ii (zg_isub hX (by decide +kernel : decode prog_3_method_6_code 129 = .ok (.isub, 1)) rfl),
  zs_iald hX (by decide +kernel : decode prog_3_method_6_code 130 = .ok (.iaload, 1)) rfl,
  zs_aload_n (i := 0) rfl hX (by decide +kernel : decode prog_3_method_6_code 131 = .ok (.aload_n 0, 1)) rfl (by decide),
  zs_getR hX zFL_1_15 (by decide +kernel : decode prog_3_method_6_code 132 = .ok (.getfield 15, 3)) rfl,
  zs_iload hX (by decide +kernel : decode prog_3_method_6_code 135 = .ok (.iload 5, 2)) rfl (by decide),
  zs_iald hX (by decide +kernel : decode prog_3_method_6_code 137 = .ok (.iaload, 1)) rfl,
  zs_callSi hX zMS_1_39 (zXc_of hl (by decide) (k_X1_joined hcl hinj)) (by decide +kernel : decode prog_3_method_6_code 138 = .ok (.invokestatic 39, 3)) rfl,
  zs_iast hX (by decide +kernel : decode prog_3_method_6_code 141 = .ok (.iastore, 1)) rfl,
  zs_iinc hX (by decide +kernel : decode prog_3_method_6_code 142 = .ok (.iinc 6 1, 3)) (by decide) rfl (by decide),
  zs_goto hX (by decide +kernel : decode prog_3_method_6_code 145 = .ok (.goto (-139), 3)) (by decide),
  zs_iload hX (by decide +kernel : decode prog_3_method_6_code 148 = .ok (.iload 5, 2)) rfl (by decide),
  zs_0le hX (by decide +kernel : decode prog_3_method_6_code 150 = .ok (.ifCond .le 12, 3)) (by decide) rfl, trivial⟩
set_option maxRecDepth 20000 in
theorem s_X1_valueFor_4 {l : Launch} {D : va_G} {ad : Nat → Nat → Nat} {cy : Nat → ClassId} {L : List (Nat × Nat)} (hcl : zclo L = true) (hinj : zAd ad L) {X : zCtx} (hX : zXok X "SoapTreaty$Law" prog_3_method_6_code 8) (hR : zRt X (some .int)) (hl : zXl X l D ad cy L (zroom 2)) : zAllR (zSo X) p_X1_valueFor_4 := ⟨zs_aload_n (i := 0) rfl hX (by decide +kernel : decode prog_3_method_6_code 153 = .ok (.aload_n 0, 1)) rfl (by decide),
  zs_getR hX zFL_1_15 (by decide +kernel : decode prog_3_method_6_code 154 = .ok (.getfield 15, 3)) rfl,
  zs_pushI (zg_iconst (by decide) hX (by decide +kernel : decode prog_3_method_6_code 157 = .ok (.iconst 0, 1)) rfl),
  zs_ialdc hX (by decide +kernel : decode prog_3_method_6_code 158 = .ok (.iaload, 1)) rfl,
  zs_goto hX (by decide +kernel : decode prog_3_method_6_code 159 = .ok (.goto 4, 3)) (by decide),
  zs_pushI (zg_iconst (by decide) hX (by decide +kernel : decode prog_3_method_6_code 162 = .ok (.iconst 0, 1)) rfl),
  zs_iret hX hR (by decide +kernel : decode prog_3_method_6_code 163 = .ok (.ireturn, 1)), trivial⟩
theorem k_X1_valueFor {l : Launch} {D : va_G} {ad : Nat → Nat → Nat} {cy : Nat → ClassId} {L : List (Nat × Nat)} (hcl : zclo L = true) (hinj : zAd ad L) : zCk l D ad cy L 2 f_X1_valueFor y_X1_valueFor (.code y_X1_valueFor prog_3_method_6_code 8 (some .int)) :=
  z_met (by decide) t_X1_valueFor hcl hinj (fun X hX hR hl k => zgs_all (Q := zSo X) (c := [(39, p_X1_valueFor_0), (79, p_X1_valueFor_1), (114, p_X1_valueFor_2), (151, p_X1_valueFor_3), (164, p_X1_valueFor_4)]) (fun _ => zs_bad) ⟨s_X1_valueFor_0 hcl hinj hX hR hl, s_X1_valueFor_1 hcl hinj hX hR hl, s_X1_valueFor_2 hcl hinj hX hR hl, s_X1_valueFor_3 hcl hinj hX hR hl, s_X1_valueFor_4 hcl hinj hX hR hl, trivial⟩ k)
set_option maxRecDepth 1000000 in
theorem e_X1_valueFor_0 (jx0 : Nat) (x1 : Int32) (x2 : Int32) (x3 : Int32) (x4 : Int32) (h : zH) : zL p_X1_valueFor 0 [some (.inr (.inr (1, jx0))), some (.inl x1), some (.inl x2), some (.inl x3), some (.inl x4), none, none, none] [] h = zL p_X1_valueFor 6 [some (.inr (.inr (1, jx0))), some (.inl x1), some (.inl x2), some (.inl x3), some (.inl x4), some (.inl 0), some (.inl 0), none] [] h := (zL_s (t_X1_valueFor) [0, 6] 1000 0 _ _ _).trans rfl
theorem g_X1_valueFor (jx0 : Nat) (x1 : Int32) (x2 : Int32) (x3 : Int32) (x4 : Int32) (h : zH) : f_X1_valueFor [(.inr (.inr (1, jx0))), (.inl x1), (.inl x2), (.inl x3), (.inl x4)] h = zL p_X1_valueFor 6 [some (.inr (.inr (1, jx0))), some (.inl x1), some (.inl x2), some (.inl x3), some (.inl x4), some (.inl 0), some (.inl 0), none] [] h := (show f_X1_valueFor _ h = zL p_X1_valueFor 0 _ [] h from rfl).trans (e_X1_valueFor_0 jx0 x1 x2 x3 x4 h)
set_option maxRecDepth 1000000 in
theorem e_X1_valueFor_6 (jx0 : Nat) (x1 : Int32) (x2 : Int32) (x3 : Int32) (x4 : Int32) (x5 : Int32) (x6 : Int32) (o7 : Option zV) (h : zH) : zL p_X1_valueFor 6 [some (.inr (.inr (1, jx0))), some (.inl x1), some (.inl x2), some (.inl x3), some (.inl x4), some (.inl x5), some (.inl x6), o7] [] h = zf (x6 < (h.1 1 jx0 2)) (zf (vp_in x6 1000) (zf ((h.1 22 jx0 x6.toNatClampNeg) < zm4) (zf ((h.1 22 jx0 x6.toNatClampNeg) = zm5) (zf (x5 < 1) (zL p_X1_valueFor 6 [some (.inr (.inr (1, jx0))), some (.inl x1), some (.inl x2), some (.inl x3), some (.inl x4), some (.inl x5), some (.inl (x6 + 1)), some (.inl (h.1 22 jx0 x6.toNatClampNeg))] [] h) (zf (vp_in (x5 - (1 : Int32)) 24) (zf ((h.1 23 jx0 (x5 - (1 : Int32)).toNatClampNeg) = 0) (zf (vp_in (x5 - (1 : Int32)) 24) (zL p_X1_valueFor 6 [some (.inr (.inr (1, jx0))), some (.inl x1), some (.inl x2), some (.inl x3), some (.inl x4), some (.inl x5), some (.inl (x6 + 1)), some (.inl (h.1 22 jx0 x6.toNatClampNeg))] [] (zuI h 23 jx0 (x5 - (1 : Int32)).toNatClampNeg 1)) none) (zf (vp_in (x5 - (1 : Int32)) 24) (zL p_X1_valueFor 6 [some (.inr (.inr (1, jx0))), some (.inl x1), some (.inl x2), some (.inl x3), some (.inl x4), some (.inl x5), some (.inl (x6 + 1)), some (.inl (h.1 22 jx0 x6.toNatClampNeg))] [] (zuI h 23 jx0 (x5 - (1 : Int32)).toNatClampNeg 0)) none)) none)) (zf (x5 < 2) (zL p_X1_valueFor 6 [some (.inr (.inr (1, jx0))), some (.inl x1), some (.inl x2), some (.inl x3), some (.inl x4), some (.inl x5), some (.inl (x6 + 1)), some (.inl (h.1 22 jx0 x6.toNatClampNeg))] [] h) (zf (vp_in ((x5 + zm1) - (1 : Int32)) 24) (zf (vp_in (x5 + zm1) 24) (zci (f_X1_joined [(.inl (h.1 22 jx0 x6.toNatClampNeg)), (.inl (h.1 23 jx0 ((x5 + zm1) - (1 : Int32)).toNatClampNeg)), (.inl (h.1 23 jx0 (x5 + zm1).toNatClampNeg))] h) (fun r2 h1 => zf (vp_in ((x5 + zm1) - (1 : Int32)) 24) (zL p_X1_valueFor 6 [some (.inr (.inr (1, jx0))), some (.inl x1), some (.inl x2), some (.inl x3), some (.inl x4), some (.inl (x5 + zm1)), some (.inl (x6 + 1)), some (.inl (h.1 22 jx0 x6.toNatClampNeg))] [] (zuI h1 23 jx0 ((x5 + zm1) - (1 : Int32)).toNatClampNeg r2)) none)) none) none))) (zf (x5 < 24) (zci (f_X1_operand [(.inl (h.1 22 jx0 x6.toNatClampNeg)), (.inl x1), (.inl x2), (.inl x3), (.inl x4)] h) (fun r4 h3 => zf (vp_in x5 24) (zL p_X1_valueFor 6 [some (.inr (.inr (1, jx0))), some (.inl x1), some (.inl x2), some (.inl x3), some (.inl x4), some (.inl (x5 + 1)), some (.inl (x6 + 1)), some (.inl (h.1 22 jx0 x6.toNatClampNeg))] [] (zuI h3 23 jx0 x5.toNatClampNeg r4)) none)) (zL p_X1_valueFor 6 [some (.inr (.inr (1, jx0))), some (.inl x1), some (.inl x2), some (.inl x3), some (.inl x4), some (.inl x5), some (.inl (x6 + 1)), some (.inl (h.1 22 jx0 x6.toNatClampNeg))] [] h))) none) (zf (0 < x5) (some (some (.inl (h.1 23 jx0 0)), h)) (some (some (.inl 0), h))) := (zL_s (t_X1_valueFor) [0, 6] 1000 6 _ _ _).trans rfl
theorem zMV_0_74 : zMV "SoapTreaty$Congress" 74 0 y_X0_hasCake prog_2_method_5_code 2 (some .boolean) 1 := ⟨⟨zT_of 881 (by decide +kernel) (by decide +kernel), zT_of 660 (by decide +kernel) (by decide +kernel), zT_of 661 (by decide +kernel) (by decide +kernel), zT_of 104 (by decide +kernel) (by decide +kernel), zT_of 662 (by decide +kernel) (by decide +kernel)⟩, by decide, rfl, ⟨zT0, 13, rfl⟩, by decide, by decide, by decide +kernel⟩
theorem zMV_0_77 : zMV "SoapTreaty$Congress" 77 0 y_X0_kindOf prog_2_method_6_code 2 (some .int) 1 := ⟨⟨zT_of 882 (by decide +kernel) (by decide +kernel), zT_of 766 (by decide +kernel) (by decide +kernel), zT_of 767 (by decide +kernel) (by decide +kernel), zT_of 104 (by decide +kernel) (by decide +kernel), zT_of 768 (by decide +kernel) (by decide +kernel)⟩, by decide, rfl, ⟨zT0, 13, rfl⟩, by decide, by decide, by decide +kernel⟩
theorem zMV_0_81 : zMV "SoapTreaty$Congress" 81 0 y_X0_waterOf prog_2_method_7_code 2 (some .int) 1 := ⟨⟨zT_of 883 (by decide +kernel) (by decide +kernel), zT_of 771 (by decide +kernel) (by decide +kernel), zT_of 772 (by decide +kernel) (by decide +kernel), zT_of 104 (by decide +kernel) (by decide +kernel), zT_of 773 (by decide +kernel) (by decide +kernel)⟩, by decide, rfl, ⟨zT0, 13, rfl⟩, by decide, by decide, by decide +kernel⟩
theorem zMV_0_84 : zMV "SoapTreaty$Congress" 84 1 y_X1_valueFor prog_3_method_6_code 8 (some .int) 4 := ⟨⟨zT_of 884 (by decide +kernel) (by decide +kernel), zT_of 885 (by decide +kernel) (by decide +kernel), zT_of 886 (by decide +kernel) (by decide +kernel), zT_of 105 (by decide +kernel) (by decide +kernel), zT_of 887 (by decide +kernel) (by decide +kernel)⟩, by decide, rfl, ⟨zT1, 3, rfl⟩, by decide, by decide, by decide +kernel⟩
/-! SoapTreaty$Congress.thickWashed(IIII)I -/
def y_X0_thickWashed : MethodName := ⟨"SoapTreaty$Congress", "thickWashed", "(IIII)I"⟩
noncomputable def p_X0_thickWashed_0 : List (Nat × zO) := [(0, zo_aload 0 1),
  (1, zo_iload 1 2),
  (2, zo_vir 0 2 (zo_calli (f_X0_hasCake) 2 5)),
  (5, zo_0eq 17 8),
  (8, zo_aload 0 9),
  (9, zo_iload 2 10),
  (10, zo_vir 0 2 (zo_calli (f_X0_kindOf) 2 13)),
  (13, zo_push (.inl 3) 14),
  (14, zo_cne 19 17),
  (17, zo_iload 3 18),
  (18, zo_iret),
  (19, zo_push (.inl 0) 20),
  (20, zo_push (.inl 9) 22),
  (22, zo_aload 0 23),
  (23, zo_getR 0 1 none 26),
  (26, zo_iload 3 27),
  (27, zo_aload 0 28),
  (28, zo_getR 0 20 none 31),
  (31, zo_iload 1 32),
  (32, zo_iald 33)]
noncomputable def p_X0_thickWashed_1 : List (Nat × zO) := [(33, zo_aload 0 34),
  (34, zo_iload 2 35),
  (35, zo_vir 0 2 (zo_calli (f_X0_waterOf) 2 38)),
  (38, zo_iload 4 40),
  (40, zo_vir 1 5 (zo_calli (f_X1_valueFor) 5 43)),
  (43, zo_min 46),
  (46, zo_max 49),
  (49, zo_istore 5 51),
  (51, zo_push (.inl 0) 52),
  (52, zo_iload 3 53),
  (53, zo_aload 0 54),
  (54, zo_iload 2 55),
  (55, zo_vir 0 2 (zo_calli (f_X0_kindOf) 2 58)),
  (58, zo_push (.inl 1) 59),
  (59, zo_cne 69 62),
  (62, zo_iload 5 64),
  (64, zo_push (.inl 2) 65),
  (65, zo_idc (fun x y => x / y) 66),
  (66, zo_goto 71),
  (69, zo_iload 5 71)]
noncomputable def p_X0_thickWashed_2 : List (Nat × zO) := [(71, zo_ii (fun x y => x - y) 72),
  (72, zo_max 75),
  (75, zo_iret)]
noncomputable def p_X0_thickWashed : Nat → zO := zgs [(33, p_X0_thickWashed_0), (70, p_X0_thickWashed_1), (76, p_X0_thickWashed_2)]
theorem t_X0_thickWashed : ∀ k, zTl (p_X0_thickWashed k) := fun k => zgs_all (c := [(33, p_X0_thickWashed_0), (70, p_X0_thickWashed_1), (76, p_X0_thickWashed_2)]) (fun _ => zl_bad) ⟨⟨zl_aload, zl_iload, (zl_vir zl_calli), zl_0eq, zl_aload, zl_iload, (zl_vir zl_calli), zl_push, zl_cne, zl_iload, zl_iret, zl_push, zl_push, zl_aload, zl_getR, zl_iload, zl_aload, zl_getR, zl_iload, zl_iald, trivial⟩, ⟨zl_aload, zl_iload, (zl_vir zl_calli), zl_iload, (zl_vir zl_calli), zl_min, zl_max, zl_istore, zl_push, zl_iload, zl_aload, zl_iload, (zl_vir zl_calli), zl_push, zl_cne, zl_iload, zl_push, zl_idc, zl_goto, zl_iload, trivial⟩, ⟨zl_ii, zl_max, zl_iret, trivial⟩, trivial⟩ k
noncomputable def f_X0_thickWashed : zS := zrun p_X0_thickWashed 6
set_option maxRecDepth 20000 in
theorem s_X0_thickWashed_0 {l : Launch} {D : va_G} {ad : Nat → Nat → Nat} {cy : Nat → ClassId} {L : List (Nat × Nat)} (hcl : zclo L = true) (hinj : zAd ad L) {X : zCtx} (hX : zXok X "SoapTreaty$Congress" prog_2_method_12_code 6) (hR : zRt X (some .int)) (hl : zXl X l D ad cy L (zroom 3)) : zAllR (zSo X) p_X0_thickWashed_0 := ⟨zs_aload_n (i := 0) rfl hX (by decide +kernel : decode prog_2_method_12_code 0 = .ok (.aload_n 0, 1)) rfl (by decide),
  zs_iload_n (i := 1) rfl hX (by decide +kernel : decode prog_2_method_12_code 1 = .ok (.iload_n 1, 1)) rfl (by decide),
  zs_callVi hX zMV_0_74 (zXc_of hl (by decide) (k_X0_hasCake hcl hinj)) (by decide +kernel : decode prog_2_method_12_code 2 = .ok (.invokevirtual 74, 3)) rfl,
  zs_0eq hX (by decide +kernel : decode prog_2_method_12_code 5 = .ok (.ifCond .eq 12, 3)) (by decide) rfl,
  zs_aload_n (i := 0) rfl hX (by decide +kernel : decode prog_2_method_12_code 8 = .ok (.aload_n 0, 1)) rfl (by decide),
  zs_iload_n (i := 2) rfl hX (by decide +kernel : decode prog_2_method_12_code 9 = .ok (.iload_n 2, 1)) rfl (by decide),
  zs_callVi hX zMV_0_77 (zXc_of hl (by decide) (k_X0_kindOf hcl hinj)) (by decide +kernel : decode prog_2_method_12_code 10 = .ok (.invokevirtual 77, 3)) rfl,
  zs_pushI (zg_iconst (by decide) hX (by decide +kernel : decode prog_2_method_12_code 13 = .ok (.iconst 3, 1)) rfl),
  zs_cne hX (by decide +kernel : decode prog_2_method_12_code 14 = .ok (.if_icmp .ne 5, 3)) (by decide) rfl,
  zs_iload_n (i := 3) rfl hX (by decide +kernel : decode prog_2_method_12_code 17 = .ok (.iload_n 3, 1)) rfl (by decide),
  zs_iret hX hR (by decide +kernel : decode prog_2_method_12_code 18 = .ok (.ireturn, 1)),
  zs_pushI (zg_iconst (by decide) hX (by decide +kernel : decode prog_2_method_12_code 19 = .ok (.iconst 0, 1)) rfl),
  zs_pushI (zg_bipush (by decide) hX (by decide +kernel : decode prog_2_method_12_code 20 = .ok (.bipush 9, 2)) rfl),
  zs_aload_n (i := 0) rfl hX (by decide +kernel : decode prog_2_method_12_code 22 = .ok (.aload_n 0, 1)) rfl (by decide),
  zs_getR hX zFL_0_43 (by decide +kernel : decode prog_2_method_12_code 23 = .ok (.getfield 43, 3)) rfl,
  zs_iload_n (i := 3) rfl hX (by decide +kernel : decode prog_2_method_12_code 26 = .ok (.iload_n 3, 1)) rfl (by decide),
  zs_aload_n (i := 0) rfl hX (by decide +kernel : decode prog_2_method_12_code 27 = .ok (.aload_n 0, 1)) rfl (by decide),
  zs_getR hX zFL_0_34 (by decide +kernel : decode prog_2_method_12_code 28 = .ok (.getfield 34, 3)) rfl,
  zs_iload_n (i := 1) rfl hX (by decide +kernel : decode prog_2_method_12_code 31 = .ok (.iload_n 1, 1)) rfl (by decide),
  zs_iald hX (by decide +kernel : decode prog_2_method_12_code 32 = .ok (.iaload, 1)) rfl, trivial⟩
set_option maxRecDepth 20000 in
theorem s_X0_thickWashed_1 {l : Launch} {D : va_G} {ad : Nat → Nat → Nat} {cy : Nat → ClassId} {L : List (Nat × Nat)} (hcl : zclo L = true) (hinj : zAd ad L) {X : zCtx} (hX : zXok X "SoapTreaty$Congress" prog_2_method_12_code 6) (hR : zRt X (some .int)) (hl : zXl X l D ad cy L (zroom 3)) : zAllR (zSo X) p_X0_thickWashed_1 := ⟨zs_aload_n (i := 0) rfl hX (by decide +kernel : decode prog_2_method_12_code 33 = .ok (.aload_n 0, 1)) rfl (by decide),
  zs_iload_n (i := 2) rfl hX (by decide +kernel : decode prog_2_method_12_code 34 = .ok (.iload_n 2, 1)) rfl (by decide),
  zs_callVi hX zMV_0_81 (zXc_of hl (by decide) (k_X0_waterOf hcl hinj)) (by decide +kernel : decode prog_2_method_12_code 35 = .ok (.invokevirtual 81, 3)) rfl,
  zs_iload hX (by decide +kernel : decode prog_2_method_12_code 38 = .ok (.iload 4, 2)) rfl (by decide),
  zs_callVi hX zMV_0_84 (zXc_of hl (by decide) (k_X1_valueFor hcl hinj)) (by decide +kernel : decode prog_2_method_12_code 40 = .ok (.invokevirtual 84, 3)) rfl,
  zs_min hX zKmin_0_88 (by decide +kernel : decode prog_2_method_12_code 43 = .ok (.invokestatic 88, 3)) rfl,
  zs_max hX zKmax_0_94 (by decide +kernel : decode prog_2_method_12_code 46 = .ok (.invokestatic 94, 3)) rfl,
  zs_istore hX (by decide +kernel : decode prog_2_method_12_code 49 = .ok (.istore 5, 2)) rfl (by decide),
  zs_pushI (zg_iconst (by decide) hX (by decide +kernel : decode prog_2_method_12_code 51 = .ok (.iconst 0, 1)) rfl),
  zs_iload_n (i := 3) rfl hX (by decide +kernel : decode prog_2_method_12_code 52 = .ok (.iload_n 3, 1)) rfl (by decide),
  zs_aload_n (i := 0) rfl hX (by decide +kernel : decode prog_2_method_12_code 53 = .ok (.aload_n 0, 1)) rfl (by decide),
  zs_iload_n (i := 2) rfl hX (by decide +kernel : decode prog_2_method_12_code 54 = .ok (.iload_n 2, 1)) rfl (by decide),
  zs_callVi hX zMV_0_77 (zXc_of hl (by decide) (k_X0_kindOf hcl hinj)) (by decide +kernel : decode prog_2_method_12_code 55 = .ok (.invokevirtual 77, 3)) rfl,
  zs_pushI (zg_iconst (by decide) hX (by decide +kernel : decode prog_2_method_12_code 58 = .ok (.iconst 1, 1)) rfl),
  zs_cne hX (by decide +kernel : decode prog_2_method_12_code 59 = .ok (.if_icmp .ne 10, 3)) (by decide) rfl,
  zs_iload hX (by decide +kernel : decode prog_2_method_12_code 62 = .ok (.iload 5, 2)) rfl (by decide),
  zs_pushI (zg_iconst (by decide) hX (by decide +kernel : decode prog_2_method_12_code 64 = .ok (.iconst 2, 1)) rfl),
  zs_idc (zg_idiv hX (by decide +kernel : decode prog_2_method_12_code 65 = .ok (.idiv, 1)) rfl),
  zs_goto hX (by decide +kernel : decode prog_2_method_12_code 66 = .ok (.goto 5, 3)) (by decide),
  zs_iload hX (by decide +kernel : decode prog_2_method_12_code 69 = .ok (.iload 5, 2)) rfl (by decide), trivial⟩
set_option maxRecDepth 20000 in
theorem s_X0_thickWashed_2 {l : Launch} {D : va_G} {ad : Nat → Nat → Nat} {cy : Nat → ClassId} {L : List (Nat × Nat)} (hcl : zclo L = true) (hinj : zAd ad L) {X : zCtx} (hX : zXok X "SoapTreaty$Congress" prog_2_method_12_code 6) (hR : zRt X (some .int)) (hl : zXl X l D ad cy L (zroom 3)) : zAllR (zSo X) p_X0_thickWashed_2 := ⟨zs_ii (zg_isub hX (by decide +kernel : decode prog_2_method_12_code 71 = .ok (.isub, 1)) rfl),
  zs_max hX zKmax_0_94 (by decide +kernel : decode prog_2_method_12_code 72 = .ok (.invokestatic 94, 3)) rfl,
  zs_iret hX hR (by decide +kernel : decode prog_2_method_12_code 75 = .ok (.ireturn, 1)), trivial⟩
theorem k_X0_thickWashed {l : Launch} {D : va_G} {ad : Nat → Nat → Nat} {cy : Nat → ClassId} {L : List (Nat × Nat)} (hcl : zclo L = true) (hinj : zAd ad L) : zCk l D ad cy L 3 f_X0_thickWashed y_X0_thickWashed (.code y_X0_thickWashed prog_2_method_12_code 6 (some .int)) :=
  z_met (by decide) t_X0_thickWashed hcl hinj (fun X hX hR hl k => zgs_all (Q := zSo X) (c := [(33, p_X0_thickWashed_0), (70, p_X0_thickWashed_1), (76, p_X0_thickWashed_2)]) (fun _ => zs_bad) ⟨s_X0_thickWashed_0 hcl hinj hX hR hl, s_X0_thickWashed_1 hcl hinj hX hR hl, s_X0_thickWashed_2 hcl hinj hX hR hl, trivial⟩ k)
set_option maxRecDepth 1000000 in
theorem e_X0_thickWashed_0 (jx0 : Nat) (x1 : Int32) (x2 : Int32) (x3 : Int32) (x4 : Int32) (h : zH) : zL p_X0_thickWashed 0 [some (.inr (.inr (0, jx0))), some (.inl x1), some (.inl x2), some (.inl x3), some (.inl x4), none] [] h = zci (f_X0_hasCake [(.inr (.inr (0, jx0))), (.inl x1)] h) (fun r2 h1 => zf (r2 = 0) (some (some (.inl x3), h1)) (zci (f_X0_kindOf [(.inr (.inr (0, jx0))), (.inl x2)] h1) (fun r4 h3 => zf (r4 = 3) (some (some (.inl x3), h3)) (zf (vp_in x1 7) (zci (f_X0_waterOf [(.inr (.inr (0, jx0))), (.inl x2)] h3) (fun r6 h5 => zci (f_X1_valueFor [(.inr (.inr (1, jx0))), (.inl x3), (.inl (h3.1 20 jx0 x1.toNatClampNeg)), (.inl r6), (.inl x4)] h5) (fun r8 h7 => zci (f_X0_kindOf [(.inr (.inr (0, jx0))), (.inl x2)] h7) (fun r10 h9 => zf (r10 = 1) (some (some (.inl (if 0 < (x3 - ((if 0 < (if r8 < 9 then r8 else 9) then (if r8 < 9 then r8 else 9) else 0) / 2)) then (x3 - ((if 0 < (if r8 < 9 then r8 else 9) then (if r8 < 9 then r8 else 9) else 0) / 2)) else 0)), h9)) (some (some (.inl (if 0 < (x3 - (if 0 < (if r8 < 9 then r8 else 9) then (if r8 < 9 then r8 else 9) else 0)) then (x3 - (if 0 < (if r8 < 9 then r8 else 9) then (if r8 < 9 then r8 else 9) else 0)) else 0)), h9)))))) none)))) := (zL_s (t_X0_thickWashed) [0] 1000 0 _ _ _).trans rfl
theorem g_X0_thickWashed (jx0 : Nat) (x1 : Int32) (x2 : Int32) (x3 : Int32) (x4 : Int32) (h : zH) : f_X0_thickWashed [(.inr (.inr (0, jx0))), (.inl x1), (.inl x2), (.inl x3), (.inl x4)] h = zci (f_X0_hasCake [(.inr (.inr (0, jx0))), (.inl x1)] h) (fun r2 h1 => zf (r2 = 0) (some (some (.inl x3), h1)) (zci (f_X0_kindOf [(.inr (.inr (0, jx0))), (.inl x2)] h1) (fun r4 h3 => zf (r4 = 3) (some (some (.inl x3), h3)) (zf (vp_in x1 7) (zci (f_X0_waterOf [(.inr (.inr (0, jx0))), (.inl x2)] h3) (fun r6 h5 => zci (f_X1_valueFor [(.inr (.inr (1, jx0))), (.inl x3), (.inl (h3.1 20 jx0 x1.toNatClampNeg)), (.inl r6), (.inl x4)] h5) (fun r8 h7 => zci (f_X0_kindOf [(.inr (.inr (0, jx0))), (.inl x2)] h7) (fun r10 h9 => zf (r10 = 1) (some (some (.inl (if 0 < (x3 - ((if 0 < (if r8 < 9 then r8 else 9) then (if r8 < 9 then r8 else 9) else 0) / 2)) then (x3 - ((if 0 < (if r8 < 9 then r8 else 9) then (if r8 < 9 then r8 else 9) else 0) / 2)) else 0)), h9)) (some (some (.inl (if 0 < (x3 - (if 0 < (if r8 < 9 then r8 else 9) then (if r8 < 9 then r8 else 9) else 0)) then (x3 - (if 0 < (if r8 < 9 then r8 else 9) then (if r8 < 9 then r8 else 9) else 0)) else 0)), h9)))))) none)))) := (show f_X0_thickWashed _ h = zL p_X0_thickWashed 0 _ [] h from rfl).trans (e_X0_thickWashed_0 jx0 x1 x2 x3 x4 h)
/-! SoapTreaty$Tokens.isSign(I)Z -/
def y_X10_isSign : MethodName := ⟨"SoapTreaty$Tokens", "isSign", "(I)Z"⟩
noncomputable def p_X10_isSign_0 : List (Nat × zO) := [(0, zo_aload 0 1),
  (1, zo_getI 10 7 4),
  (4, zo_0ne 27 7),
  (7, zo_aload 0 8),
  (8, zo_getI 10 3 11),
  (11, zo_push (.inl 4) 12),
  (12, zo_cne 27 15),
  (15, zo_aload 0 16),
  (16, zo_getI 10 5 19),
  (19, zo_iload 1 20),
  (20, zo_cne 27 23),
  (23, zo_push (.inl 1) 24),
  (24, zo_goto 28),
  (27, zo_push (.inl 0) 28),
  (28, zo_zretc)]
noncomputable def p_X10_isSign : Nat → zO := zgs [(29, p_X10_isSign_0)]
theorem t_X10_isSign : ∀ k, zTl (p_X10_isSign k) := fun k => zgs_all (c := [(29, p_X10_isSign_0)]) (fun _ => zl_bad) ⟨⟨zl_aload, zl_getI, zl_0ne, zl_aload, zl_getI, zl_push, zl_cne, zl_aload, zl_getI, zl_iload, zl_cne, zl_push, zl_goto, zl_push, zl_zretc, trivial⟩, trivial⟩ k
noncomputable def f_X10_isSign : zS := zrun p_X10_isSign 2
set_option maxRecDepth 20000 in
theorem s_X10_isSign_0 {l : Launch} {D : va_G} {ad : Nat → Nat → Nat} {cy : Nat → ClassId} {L : List (Nat × Nat)} (hcl : zclo L = true) (hinj : zAd ad L) {X : zCtx} (hX : zXok X "SoapTreaty$Tokens" prog_12_method_14_code 2) (hR : zRt X (some .boolean)) (hl : zXl X l D ad cy L (zroom 1)) : zAllR (zSo X) p_X10_isSign_0 := ⟨zs_aload_n (i := 0) rfl hX (by decide +kernel : decode prog_12_method_14_code 0 = .ok (.aload_n 0, 1)) rfl (by decide),
  zs_getI hX zFL_10_41 (by decide) (by decide) (by decide +kernel : decode prog_12_method_14_code 1 = .ok (.getfield 41, 3)) rfl,
  zs_0ne hX (by decide +kernel : decode prog_12_method_14_code 4 = .ok (.ifCond .ne 23, 3)) (by decide) rfl,
  zs_aload_n (i := 0) rfl hX (by decide +kernel : decode prog_12_method_14_code 7 = .ok (.aload_n 0, 1)) rfl (by decide),
  zs_getI hX zFL_10_62 (by decide) (by decide) (by decide +kernel : decode prog_12_method_14_code 8 = .ok (.getfield 62, 3)) rfl,
  zs_pushI (zg_iconst (by decide) hX (by decide +kernel : decode prog_12_method_14_code 11 = .ok (.iconst 4, 1)) rfl),
  zs_cne hX (by decide +kernel : decode prog_12_method_14_code 12 = .ok (.if_icmp .ne 15, 3)) (by decide) rfl,
  zs_aload_n (i := 0) rfl hX (by decide +kernel : decode prog_12_method_14_code 15 = .ok (.aload_n 0, 1)) rfl (by decide),
  zs_getI hX zFL_10_80 (by decide) (by decide) (by decide +kernel : decode prog_12_method_14_code 16 = .ok (.getfield 80, 3)) rfl,
  zs_iload_n (i := 1) rfl hX (by decide +kernel : decode prog_12_method_14_code 19 = .ok (.iload_n 1, 1)) rfl (by decide),
  zs_cne hX (by decide +kernel : decode prog_12_method_14_code 20 = .ok (.if_icmp .ne 7, 3)) (by decide) rfl,
  zs_pushI (zg_iconst (by decide) hX (by decide +kernel : decode prog_12_method_14_code 23 = .ok (.iconst 1, 1)) rfl),
  zs_goto hX (by decide +kernel : decode prog_12_method_14_code 24 = .ok (.goto 4, 3)) (by decide),
  zs_pushI (zg_iconst (by decide) hX (by decide +kernel : decode prog_12_method_14_code 27 = .ok (.iconst 0, 1)) rfl),
  zs_zretc hX hR (by decide +kernel : decode prog_12_method_14_code 28 = .ok (.ireturn, 1)), trivial⟩
theorem k_X10_isSign {l : Launch} {D : va_G} {ad : Nat → Nat → Nat} {cy : Nat → ClassId} {L : List (Nat × Nat)} (hcl : zclo L = true) (hinj : zAd ad L) : zCk l D ad cy L 1 f_X10_isSign y_X10_isSign (.code y_X10_isSign prog_12_method_14_code 2 (some .boolean)) :=
  z_met (by decide) t_X10_isSign hcl hinj (fun X hX hR hl k => zgs_all (Q := zSo X) (c := [(29, p_X10_isSign_0)]) (fun _ => zs_bad) ⟨s_X10_isSign_0 hcl hinj hX hR hl, trivial⟩ k)
set_option maxRecDepth 1000000 in
theorem e_X10_isSign_0 (x1 : Int32) (h : zH) : zL p_X10_isSign 0 [some (.inr (.inr (10, 0))), some (.inl x1)] [] h = zf ((h.1 10 0 7) = 0) (zf ((h.1 10 0 3) = 4) (zf ((h.1 10 0 5) = x1) (some (some (.inl 1), h)) (some (some (.inl 0), h))) (some (some (.inl 0), h))) (some (some (.inl 0), h)) := (zL_s (t_X10_isSign) [0] 1000 0 _ _ _).trans rfl
theorem g_X10_isSign (x1 : Int32) (h : zH) : f_X10_isSign [(.inr (.inr (10, 0))), (.inl x1)] h = zf ((h.1 10 0 7) = 0) (zf ((h.1 10 0 3) = 4) (zf ((h.1 10 0 5) = x1) (some (some (.inl 1), h)) (some (some (.inl 0), h))) (some (some (.inl 0), h))) (some (some (.inl 0), h)) := (show f_X10_isSign _ h = zL p_X10_isSign 0 _ [] h from rfl).trans (e_X10_isSign_0 x1 h)
/-! SoapTreaty$Tokens.isWord(I)Z -/
def y_X10_isWord : MethodName := ⟨"SoapTreaty$Tokens", "isWord", "(I)Z"⟩
noncomputable def p_X10_isWord_0 : List (Nat × zO) := [(0, zo_aload 0 1),
  (1, zo_getI 10 7 4),
  (4, zo_0ne 27 7),
  (7, zo_aload 0 8),
  (8, zo_getI 10 3 11),
  (11, zo_push (.inl 2) 12),
  (12, zo_cne 27 15),
  (15, zo_aload 0 16),
  (16, zo_getI 10 5 19),
  (19, zo_iload 1 20),
  (20, zo_cne 27 23),
  (23, zo_push (.inl 1) 24),
  (24, zo_goto 28),
  (27, zo_push (.inl 0) 28),
  (28, zo_zretc)]
noncomputable def p_X10_isWord : Nat → zO := zgs [(29, p_X10_isWord_0)]
theorem t_X10_isWord : ∀ k, zTl (p_X10_isWord k) := fun k => zgs_all (c := [(29, p_X10_isWord_0)]) (fun _ => zl_bad) ⟨⟨zl_aload, zl_getI, zl_0ne, zl_aload, zl_getI, zl_push, zl_cne, zl_aload, zl_getI, zl_iload, zl_cne, zl_push, zl_goto, zl_push, zl_zretc, trivial⟩, trivial⟩ k
noncomputable def f_X10_isWord : zS := zrun p_X10_isWord 2
set_option maxRecDepth 20000 in
theorem s_X10_isWord_0 {l : Launch} {D : va_G} {ad : Nat → Nat → Nat} {cy : Nat → ClassId} {L : List (Nat × Nat)} (hcl : zclo L = true) (hinj : zAd ad L) {X : zCtx} (hX : zXok X "SoapTreaty$Tokens" prog_12_method_13_code 2) (hR : zRt X (some .boolean)) (hl : zXl X l D ad cy L (zroom 1)) : zAllR (zSo X) p_X10_isWord_0 := ⟨zs_aload_n (i := 0) rfl hX (by decide +kernel : decode prog_12_method_13_code 0 = .ok (.aload_n 0, 1)) rfl (by decide),
  zs_getI hX zFL_10_41 (by decide) (by decide) (by decide +kernel : decode prog_12_method_13_code 1 = .ok (.getfield 41, 3)) rfl,
  zs_0ne hX (by decide +kernel : decode prog_12_method_13_code 4 = .ok (.ifCond .ne 23, 3)) (by decide) rfl,
  zs_aload_n (i := 0) rfl hX (by decide +kernel : decode prog_12_method_13_code 7 = .ok (.aload_n 0, 1)) rfl (by decide),
  zs_getI hX zFL_10_62 (by decide) (by decide) (by decide +kernel : decode prog_12_method_13_code 8 = .ok (.getfield 62, 3)) rfl,
  zs_pushI (zg_iconst (by decide) hX (by decide +kernel : decode prog_12_method_13_code 11 = .ok (.iconst 2, 1)) rfl),
  zs_cne hX (by decide +kernel : decode prog_12_method_13_code 12 = .ok (.if_icmp .ne 15, 3)) (by decide) rfl,
  zs_aload_n (i := 0) rfl hX (by decide +kernel : decode prog_12_method_13_code 15 = .ok (.aload_n 0, 1)) rfl (by decide),
  zs_getI hX zFL_10_80 (by decide) (by decide) (by decide +kernel : decode prog_12_method_13_code 16 = .ok (.getfield 80, 3)) rfl,
  zs_iload_n (i := 1) rfl hX (by decide +kernel : decode prog_12_method_13_code 19 = .ok (.iload_n 1, 1)) rfl (by decide),
  zs_cne hX (by decide +kernel : decode prog_12_method_13_code 20 = .ok (.if_icmp .ne 7, 3)) (by decide) rfl,
  zs_pushI (zg_iconst (by decide) hX (by decide +kernel : decode prog_12_method_13_code 23 = .ok (.iconst 1, 1)) rfl),
  zs_goto hX (by decide +kernel : decode prog_12_method_13_code 24 = .ok (.goto 4, 3)) (by decide),
  zs_pushI (zg_iconst (by decide) hX (by decide +kernel : decode prog_12_method_13_code 27 = .ok (.iconst 0, 1)) rfl),
  zs_zretc hX hR (by decide +kernel : decode prog_12_method_13_code 28 = .ok (.ireturn, 1)), trivial⟩
theorem k_X10_isWord {l : Launch} {D : va_G} {ad : Nat → Nat → Nat} {cy : Nat → ClassId} {L : List (Nat × Nat)} (hcl : zclo L = true) (hinj : zAd ad L) : zCk l D ad cy L 1 f_X10_isWord y_X10_isWord (.code y_X10_isWord prog_12_method_13_code 2 (some .boolean)) :=
  z_met (by decide) t_X10_isWord hcl hinj (fun X hX hR hl k => zgs_all (Q := zSo X) (c := [(29, p_X10_isWord_0)]) (fun _ => zs_bad) ⟨s_X10_isWord_0 hcl hinj hX hR hl, trivial⟩ k)
set_option maxRecDepth 1000000 in
theorem e_X10_isWord_0 (x1 : Int32) (h : zH) : zL p_X10_isWord 0 [some (.inr (.inr (10, 0))), some (.inl x1)] [] h = zf ((h.1 10 0 7) = 0) (zf ((h.1 10 0 3) = 2) (zf ((h.1 10 0 5) = x1) (some (some (.inl 1), h)) (some (some (.inl 0), h))) (some (some (.inl 0), h))) (some (some (.inl 0), h)) := (zL_s (t_X10_isWord) [0] 1000 0 _ _ _).trans rfl
theorem g_X10_isWord (x1 : Int32) (h : zH) : f_X10_isWord [(.inr (.inr (10, 0))), (.inl x1)] h = zf ((h.1 10 0 7) = 0) (zf ((h.1 10 0 3) = 2) (zf ((h.1 10 0 5) = x1) (some (some (.inl 1), h)) (some (some (.inl 0), h))) (some (some (.inl 0), h))) (some (some (.inl 0), h)) := (show f_X10_isWord _ h = zL p_X10_isWord 0 _ [] h from rfl).trans (e_X10_isWord_0 x1 h)
/-! SoapTreaty$LawReader.factStep()I -/
def y_X2_factStep : MethodName := ⟨"SoapTreaty$LawReader", "factStep", "()I"⟩
noncomputable def p_X2_factStep_0 : List (Nat × zO) := [(0, zo_aload 0 1),
  (1, zo_getR 2 10 none 4),
  (4, zo_getI 10 3 7),
  (7, zo_push (.inl 2) 8),
  (8, zo_ceq 13 11),
  (11, zo_push (.inl 0) 12),
  (12, zo_iret),
  (13, zo_aload 0 14),
  (14, zo_getR 2 10 none 17),
  (17, zo_getI 10 5 20),
  (20, zo_tsw [(23, 52), (24, 54), (25, 57), (26, 60)] 63),
  (52, zo_push (.inl zm1) 53),
  (53, zo_iret),
  (54, zo_push (.inl zm2) 56),
  (56, zo_iret),
  (57, zo_push (.inl zm3) 59),
  (59, zo_iret),
  (60, zo_push (.inl zm4) 62),
  (62, zo_iret),
  (63, zo_push (.inl 0) 64)]
noncomputable def p_X2_factStep_1 : List (Nat × zO) := [(64, zo_iret)]
noncomputable def p_X2_factStep : Nat → zO := zgs [(64, p_X2_factStep_0), (65, p_X2_factStep_1)]
theorem t_X2_factStep : ∀ k, zTl (p_X2_factStep k) := fun k => zgs_all (c := [(64, p_X2_factStep_0), (65, p_X2_factStep_1)]) (fun _ => zl_bad) ⟨⟨zl_aload, zl_getR, zl_getI, zl_push, zl_ceq, zl_push, zl_iret, zl_aload, zl_getR, zl_getI, zl_tsw, zl_push, zl_iret, zl_push, zl_iret, zl_push, zl_iret, zl_push, zl_iret, zl_push, trivial⟩, ⟨zl_iret, trivial⟩, trivial⟩ k
noncomputable def f_X2_factStep : zS := zrun p_X2_factStep 1
set_option maxRecDepth 20000 in
theorem s_X2_factStep_0 {l : Launch} {D : va_G} {ad : Nat → Nat → Nat} {cy : Nat → ClassId} {L : List (Nat × Nat)} (hcl : zclo L = true) (hinj : zAd ad L) {X : zCtx} (hX : zXok X "SoapTreaty$LawReader" prog_4_method_8_code 1) (hR : zRt X (some .int)) (hl : zXl X l D ad cy L (zroom 1)) : zAllR (zSo X) p_X2_factStep_0 := ⟨zs_aload_n (i := 0) rfl hX (by decide +kernel : decode prog_4_method_8_code 0 = .ok (.aload_n 0, 1)) rfl (by decide),
  zs_getR hX zFL_2_7 (by decide +kernel : decode prog_4_method_8_code 1 = .ok (.getfield 7, 3)) rfl,
  zs_getI hX zFL_2_62 (by decide) (by decide) (by decide +kernel : decode prog_4_method_8_code 4 = .ok (.getfield 62, 3)) rfl,
  zs_pushI (zg_iconst (by decide) hX (by decide +kernel : decode prog_4_method_8_code 7 = .ok (.iconst 2, 1)) rfl),
  zs_ceq hX (by decide +kernel : decode prog_4_method_8_code 8 = .ok (.if_icmp .eq 5, 3)) (by decide) rfl,
  zs_pushI (zg_iconst (by decide) hX (by decide +kernel : decode prog_4_method_8_code 11 = .ok (.iconst 0, 1)) rfl),
  zs_iret hX hR (by decide +kernel : decode prog_4_method_8_code 12 = .ok (.ireturn, 1)),
  zs_aload_n (i := 0) rfl hX (by decide +kernel : decode prog_4_method_8_code 13 = .ok (.aload_n 0, 1)) rfl (by decide),
  zs_getR hX zFL_2_7 (by decide +kernel : decode prog_4_method_8_code 14 = .ok (.getfield 7, 3)) rfl,
  zs_getI hX zFL_2_66 (by decide) (by decide) (by decide +kernel : decode prog_4_method_8_code 17 = .ok (.getfield 66, 3)) rfl,
  zs_tsw hX (by decide +kernel : decode prog_4_method_8_code 20 = .ok (.tableswitch 43 23 26 #[32, 34, 37, 40], 32)) (by decide) (by decide) (by decide) (by decide),
  zs_pushI (zg_iconst (by decide) hX (by decide +kernel : decode prog_4_method_8_code 52 = .ok (.iconst (-1), 1)) rfl),
  zs_iret hX hR (by decide +kernel : decode prog_4_method_8_code 53 = .ok (.ireturn, 1)),
  zs_pushI (zg_bipush (by decide) hX (by decide +kernel : decode prog_4_method_8_code 54 = .ok (.bipush (-2), 2)) rfl),
  zs_iret hX hR (by decide +kernel : decode prog_4_method_8_code 56 = .ok (.ireturn, 1)),
  zs_pushI (zg_bipush (by decide) hX (by decide +kernel : decode prog_4_method_8_code 57 = .ok (.bipush (-3), 2)) rfl),
  zs_iret hX hR (by decide +kernel : decode prog_4_method_8_code 59 = .ok (.ireturn, 1)),
  zs_pushI (zg_bipush (by decide) hX (by decide +kernel : decode prog_4_method_8_code 60 = .ok (.bipush (-4), 2)) rfl),
  zs_iret hX hR (by decide +kernel : decode prog_4_method_8_code 62 = .ok (.ireturn, 1)),
  zs_pushI (zg_iconst (by decide) hX (by decide +kernel : decode prog_4_method_8_code 63 = .ok (.iconst 0, 1)) rfl), trivial⟩
set_option maxRecDepth 20000 in
theorem s_X2_factStep_1 {l : Launch} {D : va_G} {ad : Nat → Nat → Nat} {cy : Nat → ClassId} {L : List (Nat × Nat)} (hcl : zclo L = true) (hinj : zAd ad L) {X : zCtx} (hX : zXok X "SoapTreaty$LawReader" prog_4_method_8_code 1) (hR : zRt X (some .int)) (hl : zXl X l D ad cy L (zroom 1)) : zAllR (zSo X) p_X2_factStep_1 := ⟨zs_iret hX hR (by decide +kernel : decode prog_4_method_8_code 64 = .ok (.ireturn, 1)), trivial⟩
theorem k_X2_factStep {l : Launch} {D : va_G} {ad : Nat → Nat → Nat} {cy : Nat → ClassId} {L : List (Nat × Nat)} (hcl : zclo L = true) (hinj : zAd ad L) : zCk l D ad cy L 1 f_X2_factStep y_X2_factStep (.code y_X2_factStep prog_4_method_8_code 1 (some .int)) :=
  z_met (by decide) t_X2_factStep hcl hinj (fun X hX hR hl k => zgs_all (Q := zSo X) (c := [(64, p_X2_factStep_0), (65, p_X2_factStep_1)]) (fun _ => zs_bad) ⟨s_X2_factStep_0 hcl hinj hX hR hl, s_X2_factStep_1 hcl hinj hX hR hl, trivial⟩ k)
set_option maxRecDepth 1000000 in
theorem e_X2_factStep_0 (h : zH) : zL p_X2_factStep 0 [some (.inr (.inr (2, 0)))] [] h = zf ((h.1 10 0 3) = 2) (zf ((h.1 10 0 5) = 23) (some (some (.inl zm1), h)) (zf ((h.1 10 0 5) = 24) (some (some (.inl zm2), h)) (zf ((h.1 10 0 5) = 25) (some (some (.inl zm3), h)) (zf ((h.1 10 0 5) = 26) (some (some (.inl zm4), h)) (some (some (.inl 0), h)))))) (some (some (.inl 0), h)) := (zL_s (t_X2_factStep) [0] 1000 0 _ _ _).trans rfl
theorem g_X2_factStep (h : zH) : f_X2_factStep [(.inr (.inr (2, 0)))] h = zf ((h.1 10 0 3) = 2) (zf ((h.1 10 0 5) = 23) (some (some (.inl zm1), h)) (zf ((h.1 10 0 5) = 24) (some (some (.inl zm2), h)) (zf ((h.1 10 0 5) = 25) (some (some (.inl zm3), h)) (zf ((h.1 10 0 5) = 26) (some (some (.inl zm4), h)) (some (some (.inl 0), h)))))) (some (some (.inl 0), h)) := (show f_X2_factStep _ h = zL p_X2_factStep 0 _ [] h from rfl).trans (e_X2_factStep_0 h)
theorem zMV_2_25 : zMV "SoapTreaty$LawReader" 25 10 y_X10_isWord prog_12_method_13_code 2 (some .boolean) 1 := ⟨⟨zT_of 700 (by decide +kernel) (by decide +kernel), zT_of 635 (by decide +kernel) (by decide +kernel), zT_of 636 (by decide +kernel) (by decide +kernel), zT_of 108 (by decide +kernel) (by decide +kernel), zT_of 637 (by decide +kernel) (by decide +kernel)⟩, by decide, rfl, ⟨zT10, 8, rfl⟩, by decide, by decide, by decide +kernel⟩
theorem zMV_2_40 : zMV "SoapTreaty$LawReader" 40 10 y_X10_isSign prog_12_method_14_code 2 (some .boolean) 1 := ⟨⟨zT_of 696 (by decide +kernel) (by decide +kernel), zT_of 697 (by decide +kernel) (by decide +kernel), zT_of 698 (by decide +kernel) (by decide +kernel), zT_of 108 (by decide +kernel) (by decide +kernel), zT_of 699 (by decide +kernel) (by decide +kernel)⟩, by decide, rfl, ⟨zT10, 8, rfl⟩, by decide, by decide, by decide +kernel⟩
theorem zMV_2_69 : zMV "SoapTreaty$LawReader" 69 2 y_X2_factStep prog_4_method_8_code 1 (some .int) 0 := ⟨⟨zT_of 701 (by decide +kernel) (by decide +kernel), zT_of 703 (by decide +kernel) (by decide +kernel), zT_of 16 (by decide +kernel) (by decide +kernel), zT_of 113 (by decide +kernel) (by decide +kernel), zT_of 704 (by decide +kernel) (by decide +kernel)⟩, by decide, rfl, ⟨zT2, 2, rfl⟩, by decide, by decide, by decide +kernel⟩
/-! SoapTreaty$LawReader.canBeginPart()Z -/
def y_X2_canBeginPart : MethodName := ⟨"SoapTreaty$LawReader", "canBeginPart", "()Z"⟩
noncomputable def p_X2_canBeginPart_0 : List (Nat × zO) := [(0, zo_aload 0 1),
  (1, zo_getR 2 10 none 4),
  (4, zo_getI 10 3 7),
  (7, zo_push (.inl 3) 8),
  (8, zo_ceq 42 11),
  (11, zo_aload 0 12),
  (12, zo_getR 2 10 none 15),
  (15, zo_push (.inl 40) 17),
  (17, zo_vir 10 2 (zo_calli (f_X10_isSign) 2 20)),
  (20, zo_0ne 42 23),
  (23, zo_aload 0 24),
  (24, zo_getR 2 10 none 27),
  (27, zo_push (.inl 20) 29),
  (29, zo_vir 10 2 (zo_calli (f_X10_isWord) 2 32)),
  (32, zo_0ne 42 35),
  (35, zo_aload 0 36),
  (36, zo_vir 2 1 (zo_calli (f_X2_factStep) 1 39)),
  (39, zo_0eq 46 42),
  (42, zo_push (.inl 1) 43),
  (43, zo_goto 47)]
noncomputable def p_X2_canBeginPart_1 : List (Nat × zO) := [(46, zo_push (.inl 0) 47),
  (47, zo_zretc)]
noncomputable def p_X2_canBeginPart : Nat → zO := zgs [(44, p_X2_canBeginPart_0), (48, p_X2_canBeginPart_1)]
theorem t_X2_canBeginPart : ∀ k, zTl (p_X2_canBeginPart k) := fun k => zgs_all (c := [(44, p_X2_canBeginPart_0), (48, p_X2_canBeginPart_1)]) (fun _ => zl_bad) ⟨⟨zl_aload, zl_getR, zl_getI, zl_push, zl_ceq, zl_aload, zl_getR, zl_push, (zl_vir zl_calli), zl_0ne, zl_aload, zl_getR, zl_push, (zl_vir zl_calli), zl_0ne, zl_aload, (zl_vir zl_calli), zl_0eq, zl_push, zl_goto, trivial⟩, ⟨zl_push, zl_zretc, trivial⟩, trivial⟩ k
noncomputable def f_X2_canBeginPart : zS := zrun p_X2_canBeginPart 1
set_option maxRecDepth 20000 in
theorem s_X2_canBeginPart_0 {l : Launch} {D : va_G} {ad : Nat → Nat → Nat} {cy : Nat → ClassId} {L : List (Nat × Nat)} (hcl : zclo L = true) (hinj : zAd ad L) {X : zCtx} (hX : zXok X "SoapTreaty$LawReader" prog_4_method_7_code 1) (hR : zRt X (some .boolean)) (hl : zXl X l D ad cy L (zroom 2)) : zAllR (zSo X) p_X2_canBeginPart_0 := ⟨zs_aload_n (i := 0) rfl hX (by decide +kernel : decode prog_4_method_7_code 0 = .ok (.aload_n 0, 1)) rfl (by decide),
  zs_getR hX zFL_2_7 (by decide +kernel : decode prog_4_method_7_code 1 = .ok (.getfield 7, 3)) rfl,
  zs_getI hX zFL_2_62 (by decide) (by decide) (by decide +kernel : decode prog_4_method_7_code 4 = .ok (.getfield 62, 3)) rfl,
  zs_pushI (zg_iconst (by decide) hX (by decide +kernel : decode prog_4_method_7_code 7 = .ok (.iconst 3, 1)) rfl),
  zs_ceq hX (by decide +kernel : decode prog_4_method_7_code 8 = .ok (.if_icmp .eq 34, 3)) (by decide) rfl,
  zs_aload_n (i := 0) rfl hX (by decide +kernel : decode prog_4_method_7_code 11 = .ok (.aload_n 0, 1)) rfl (by decide),
  zs_getR hX zFL_2_7 (by decide +kernel : decode prog_4_method_7_code 12 = .ok (.getfield 7, 3)) rfl,
  zs_pushI (zg_bipush (by decide) hX (by decide +kernel : decode prog_4_method_7_code 15 = .ok (.bipush 40, 2)) rfl),
  zs_callVi hX zMV_2_40 (zXc_of hl (by decide) (k_X10_isSign hcl hinj)) (by decide +kernel : decode prog_4_method_7_code 17 = .ok (.invokevirtual 40, 3)) rfl,
  zs_0ne hX (by decide +kernel : decode prog_4_method_7_code 20 = .ok (.ifCond .ne 22, 3)) (by decide) rfl,
  zs_aload_n (i := 0) rfl hX (by decide +kernel : decode prog_4_method_7_code 23 = .ok (.aload_n 0, 1)) rfl (by decide),
  zs_getR hX zFL_2_7 (by decide +kernel : decode prog_4_method_7_code 24 = .ok (.getfield 7, 3)) rfl,
  zs_pushI (zg_bipush (by decide) hX (by decide +kernel : decode prog_4_method_7_code 27 = .ok (.bipush 20, 2)) rfl),
  zs_callVi hX zMV_2_25 (zXc_of hl (by decide) (k_X10_isWord hcl hinj)) (by decide +kernel : decode prog_4_method_7_code 29 = .ok (.invokevirtual 25, 3)) rfl,
  zs_0ne hX (by decide +kernel : decode prog_4_method_7_code 32 = .ok (.ifCond .ne 10, 3)) (by decide) rfl,
  zs_aload_n (i := 0) rfl hX (by decide +kernel : decode prog_4_method_7_code 35 = .ok (.aload_n 0, 1)) rfl (by decide),
  zs_callVi hX zMV_2_69 (zXc_of hl (by decide) (k_X2_factStep hcl hinj)) (by decide +kernel : decode prog_4_method_7_code 36 = .ok (.invokevirtual 69, 3)) rfl,
  zs_0eq hX (by decide +kernel : decode prog_4_method_7_code 39 = .ok (.ifCond .eq 7, 3)) (by decide) rfl,
  zs_pushI (zg_iconst (by decide) hX (by decide +kernel : decode prog_4_method_7_code 42 = .ok (.iconst 1, 1)) rfl),
  zs_goto hX (by decide +kernel : decode prog_4_method_7_code 43 = .ok (.goto 4, 3)) (by decide), trivial⟩
set_option maxRecDepth 20000 in
theorem s_X2_canBeginPart_1 {l : Launch} {D : va_G} {ad : Nat → Nat → Nat} {cy : Nat → ClassId} {L : List (Nat × Nat)} (hcl : zclo L = true) (hinj : zAd ad L) {X : zCtx} (hX : zXok X "SoapTreaty$LawReader" prog_4_method_7_code 1) (hR : zRt X (some .boolean)) (hl : zXl X l D ad cy L (zroom 2)) : zAllR (zSo X) p_X2_canBeginPart_1 := ⟨zs_pushI (zg_iconst (by decide) hX (by decide +kernel : decode prog_4_method_7_code 46 = .ok (.iconst 0, 1)) rfl),
  zs_zretc hX hR (by decide +kernel : decode prog_4_method_7_code 47 = .ok (.ireturn, 1)), trivial⟩
theorem k_X2_canBeginPart {l : Launch} {D : va_G} {ad : Nat → Nat → Nat} {cy : Nat → ClassId} {L : List (Nat × Nat)} (hcl : zclo L = true) (hinj : zAd ad L) : zCk l D ad cy L 2 f_X2_canBeginPart y_X2_canBeginPart (.code y_X2_canBeginPart prog_4_method_7_code 1 (some .boolean)) :=
  z_met (by decide) t_X2_canBeginPart hcl hinj (fun X hX hR hl k => zgs_all (Q := zSo X) (c := [(44, p_X2_canBeginPart_0), (48, p_X2_canBeginPart_1)]) (fun _ => zs_bad) ⟨s_X2_canBeginPart_0 hcl hinj hX hR hl, s_X2_canBeginPart_1 hcl hinj hX hR hl, trivial⟩ k)
set_option maxRecDepth 1000000 in
theorem e_X2_canBeginPart_0 (h : zH) : zL p_X2_canBeginPart 0 [some (.inr (.inr (2, 0)))] [] h = zf ((h.1 10 0 3) = 3) (some (some (.inl 1), h)) (zci (f_X10_isSign [(.inr (.inr (10, 0))), (.inl 40)] h) (fun r2 h1 => zf (r2 = 0) (zci (f_X10_isWord [(.inr (.inr (10, 0))), (.inl 20)] h1) (fun r4 h3 => zf (r4 = 0) (zci (f_X2_factStep [(.inr (.inr (2, 0)))] h3) (fun r6 h5 => zf (r6 = 0) (some (some (.inl 0), h5)) (some (some (.inl 1), h5)))) (some (some (.inl 1), h3)))) (some (some (.inl 1), h1)))) := (zL_s (t_X2_canBeginPart) [0] 1000 0 _ _ _).trans rfl
theorem g_X2_canBeginPart (h : zH) : f_X2_canBeginPart [(.inr (.inr (2, 0)))] h = zf ((h.1 10 0 3) = 3) (some (some (.inl 1), h)) (zci (f_X10_isSign [(.inr (.inr (10, 0))), (.inl 40)] h) (fun r2 h1 => zf (r2 = 0) (zci (f_X10_isWord [(.inr (.inr (10, 0))), (.inl 20)] h1) (fun r4 h3 => zf (r4 = 0) (zci (f_X2_factStep [(.inr (.inr (2, 0)))] h3) (fun r6 h5 => zf (r6 = 0) (some (some (.inl 0), h5)) (some (some (.inl 1), h5)))) (some (some (.inl 1), h3)))) (some (some (.inl 1), h1)))) := (show f_X2_canBeginPart _ h = zL p_X2_canBeginPart 0 _ [] h from rfl).trans (e_X2_canBeginPart_0 h)
/-! SoapTreaty$Tokens.complain(I)V -/
def y_X10_complain : MethodName := ⟨"SoapTreaty$Tokens", "complain", "(I)V"⟩
noncomputable def p_X10_complain_0 : List (Nat × zO) := [(0, zo_aload 0 1),
  (1, zo_getI 10 7 4),
  (4, zo_0ne 20 7),
  (7, zo_aload 0 8),
  (8, zo_iload 1 9),
  (9, zo_push (.inl 16) 11),
  (11, zo_aload 0 12),
  (12, zo_getI 10 4 15),
  (15, zo_ii (fun x y => x * y) 16),
  (16, zo_ii (fun x y => x + y) 17),
  (17, zo_putI 10 7 20),
  (20, zo_ret)]
noncomputable def p_X10_complain : Nat → zO := zgs [(21, p_X10_complain_0)]
theorem t_X10_complain : ∀ k, zTl (p_X10_complain k) := fun k => zgs_all (c := [(21, p_X10_complain_0)]) (fun _ => zl_bad) ⟨⟨zl_aload, zl_getI, zl_0ne, zl_aload, zl_iload, zl_push, zl_aload, zl_getI, zl_ii, zl_ii, zl_putI, zl_ret, trivial⟩, trivial⟩ k
noncomputable def f_X10_complain : zS := zrun p_X10_complain 2
set_option maxRecDepth 20000 in
theorem s_X10_complain_0 {l : Launch} {D : va_G} {ad : Nat → Nat → Nat} {cy : Nat → ClassId} {L : List (Nat × Nat)} (hcl : zclo L = true) (hinj : zAd ad L) {X : zCtx} (hX : zXok X "SoapTreaty$Tokens" prog_12_method_11_code 2) (hR : zRt X none) (hl : zXl X l D ad cy L (zroom 1)) : zAllR (zSo X) p_X10_complain_0 := ⟨zs_aload_n (i := 0) rfl hX (by decide +kernel : decode prog_12_method_11_code 0 = .ok (.aload_n 0, 1)) rfl (by decide),
  zs_getI hX zFL_10_41 (by decide) (by decide) (by decide +kernel : decode prog_12_method_11_code 1 = .ok (.getfield 41, 3)) rfl,
  zs_0ne hX (by decide +kernel : decode prog_12_method_11_code 4 = .ok (.ifCond .ne 16, 3)) (by decide) rfl,
  zs_aload_n (i := 0) rfl hX (by decide +kernel : decode prog_12_method_11_code 7 = .ok (.aload_n 0, 1)) rfl (by decide),
  zs_iload_n (i := 1) rfl hX (by decide +kernel : decode prog_12_method_11_code 8 = .ok (.iload_n 1, 1)) rfl (by decide),
  zs_pushI (zg_bipush (by decide) hX (by decide +kernel : decode prog_12_method_11_code 9 = .ok (.bipush 16, 2)) rfl),
  zs_aload_n (i := 0) rfl hX (by decide +kernel : decode prog_12_method_11_code 11 = .ok (.aload_n 0, 1)) rfl (by decide),
  zs_getI hX zFL_10_59 (by decide) (by decide) (by decide +kernel : decode prog_12_method_11_code 12 = .ok (.getfield 59, 3)) rfl,
  zs_ii (zg_imul hX (by decide +kernel : decode prog_12_method_11_code 15 = .ok (.imul, 1)) rfl),
  zs_ii (zg_iadd hX (by decide +kernel : decode prog_12_method_11_code 16 = .ok (.iadd, 1)) rfl),
  zs_putI hX zFP_10_41 (by decide +kernel : decode prog_12_method_11_code 17 = .ok (.putfield 41, 3)) rfl,
  zs_ret hX hR (by decide +kernel : decode prog_12_method_11_code 20 = .ok (.return_, 1)), trivial⟩
theorem k_X10_complain {l : Launch} {D : va_G} {ad : Nat → Nat → Nat} {cy : Nat → ClassId} {L : List (Nat × Nat)} (hcl : zclo L = true) (hinj : zAd ad L) : zCk l D ad cy L 1 f_X10_complain y_X10_complain (.code y_X10_complain prog_12_method_11_code 2 none) :=
  z_met (by decide) t_X10_complain hcl hinj (fun X hX hR hl k => zgs_all (Q := zSo X) (c := [(21, p_X10_complain_0)]) (fun _ => zs_bad) ⟨s_X10_complain_0 hcl hinj hX hR hl, trivial⟩ k)
set_option maxRecDepth 1000000 in
theorem e_X10_complain_0 (x1 : Int32) (h : zH) : zL p_X10_complain 0 [some (.inr (.inr (10, 0))), some (.inl x1)] [] h = zf ((h.1 10 0 7) = 0) (some (none, (zuI h 10 0 7 (x1 + ((16 : Int32) * (h.1 10 0 4)))))) (some (none, h)) := (zL_s (t_X10_complain) [0] 1000 0 _ _ _).trans rfl
theorem g_X10_complain (x1 : Int32) (h : zH) : f_X10_complain [(.inr (.inr (10, 0))), (.inl x1)] h = zf ((h.1 10 0 7) = 0) (some (none, (zuI h 10 0 7 (x1 + ((16 : Int32) * (h.1 10 0 4)))))) (some (none, h)) := (show f_X10_complain _ h = zL p_X10_complain 0 _ [] h from rfl).trans (e_X10_complain_0 x1 h)
/-! SoapTreaty$Tape.signAt(I)I -/
def y_X9_signAt : MethodName := ⟨"SoapTreaty$Tape", "signAt", "(I)I"⟩
noncomputable def p_X9_signAt_0 : List (Nat × zO) := [(0, zo_iload 1 1),
  (1, zo_0lt 21 4),
  (4, zo_iload 1 5),
  (5, zo_aload 0 6),
  (6, zo_getI 9 1 9),
  (9, zo_cge 21 12),
  (12, zo_aload 0 13),
  (13, zo_getR 9 34 none 16),
  (16, zo_iload 1 17),
  (17, zo_bald 18),
  (18, zo_goto 22),
  (21, zo_push (.inl 0) 22),
  (22, zo_iret)]
noncomputable def p_X9_signAt : Nat → zO := zgs [(23, p_X9_signAt_0)]
theorem t_X9_signAt : ∀ k, zTl (p_X9_signAt k) := fun k => zgs_all (c := [(23, p_X9_signAt_0)]) (fun _ => zl_bad) ⟨⟨zl_iload, zl_0lt, zl_iload, zl_aload, zl_getI, zl_cge, zl_aload, zl_getR, zl_iload, zl_bald, zl_goto, zl_push, zl_iret, trivial⟩, trivial⟩ k
noncomputable def f_X9_signAt : zS := zrun p_X9_signAt 2
set_option maxRecDepth 20000 in
theorem s_X9_signAt_0 {l : Launch} {D : va_G} {ad : Nat → Nat → Nat} {cy : Nat → ClassId} {L : List (Nat × Nat)} (hcl : zclo L = true) (hinj : zAd ad L) {X : zCtx} (hX : zXok X "SoapTreaty$Tape" prog_11_method_3_code 2) (hR : zRt X (some .int)) (hl : zXl X l D ad cy L (zroom 1)) : zAllR (zSo X) p_X9_signAt_0 := ⟨zs_iload_n (i := 1) rfl hX (by decide +kernel : decode prog_11_method_3_code 0 = .ok (.iload_n 1, 1)) rfl (by decide),
  zs_0lt hX (by decide +kernel : decode prog_11_method_3_code 1 = .ok (.ifCond .lt 20, 3)) (by decide) rfl,
  zs_iload_n (i := 1) rfl hX (by decide +kernel : decode prog_11_method_3_code 4 = .ok (.iload_n 1, 1)) rfl (by decide),
  zs_aload_n (i := 0) rfl hX (by decide +kernel : decode prog_11_method_3_code 5 = .ok (.aload_n 0, 1)) rfl (by decide),
  zs_getI hX zFL_9_15 (by decide) (by decide) (by decide +kernel : decode prog_11_method_3_code 6 = .ok (.getfield 15, 3)) rfl,
  zs_cge hX (by decide +kernel : decode prog_11_method_3_code 9 = .ok (.if_icmp .ge 12, 3)) (by decide) rfl,
  zs_aload_n (i := 0) rfl hX (by decide +kernel : decode prog_11_method_3_code 12 = .ok (.aload_n 0, 1)) rfl (by decide),
  zs_getR hX zFL_9_9 (by decide +kernel : decode prog_11_method_3_code 13 = .ok (.getfield 9, 3)) rfl,
  zs_iload_n (i := 1) rfl hX (by decide +kernel : decode prog_11_method_3_code 16 = .ok (.iload_n 1, 1)) rfl (by decide),
  zs_bald hX (by decide +kernel : decode prog_11_method_3_code 17 = .ok (.baload, 1)) rfl,
  zs_goto hX (by decide +kernel : decode prog_11_method_3_code 18 = .ok (.goto 4, 3)) (by decide),
  zs_pushI (zg_iconst (by decide) hX (by decide +kernel : decode prog_11_method_3_code 21 = .ok (.iconst 0, 1)) rfl),
  zs_iret hX hR (by decide +kernel : decode prog_11_method_3_code 22 = .ok (.ireturn, 1)), trivial⟩
theorem k_X9_signAt {l : Launch} {D : va_G} {ad : Nat → Nat → Nat} {cy : Nat → ClassId} {L : List (Nat × Nat)} (hcl : zclo L = true) (hinj : zAd ad L) : zCk l D ad cy L 1 f_X9_signAt y_X9_signAt (.code y_X9_signAt prog_11_method_3_code 2 (some .int)) :=
  z_met (by decide) t_X9_signAt hcl hinj (fun X hX hR hl k => zgs_all (Q := zSo X) (c := [(23, p_X9_signAt_0)]) (fun _ => zs_bad) ⟨s_X9_signAt_0 hcl hinj hX hR hl, trivial⟩ k)
set_option maxRecDepth 1000000 in
theorem e_X9_signAt_0 (x1 : Int32) (h : zH) : zL p_X9_signAt 0 [some (.inr (.inr (9, 0))), some (.inl x1)] [] h = zf (x1 < 0) (some (some (.inl 0), h)) (zf (x1 < (h.1 9 0 1)) (zf (vp_in x1 1000) (some (some (.inl (h.1 34 0 x1.toNatClampNeg)), h)) none) (some (some (.inl 0), h))) := (zL_s (t_X9_signAt) [0] 1000 0 _ _ _).trans rfl
theorem g_X9_signAt (x1 : Int32) (h : zH) : f_X9_signAt [(.inr (.inr (9, 0))), (.inl x1)] h = zf (x1 < 0) (some (some (.inl 0), h)) (zf (x1 < (h.1 9 0 1)) (zf (vp_in x1 1000) (some (some (.inl (h.1 34 0 x1.toNatClampNeg)), h)) none) (some (some (.inl 0), h))) := (show f_X9_signAt _ h = zL p_X9_signAt 0 _ [] h from rfl).trans (e_X9_signAt_0 x1 h)
/-! SoapTreaty$Tokens.isBlank(I)Z -/
def y_X10_isBlank : MethodName := ⟨"SoapTreaty$Tokens", "isBlank", "(I)Z"⟩
noncomputable def p_X10_isBlank_0 : List (Nat × zO) := [(0, zo_iload 0 1),
  (1, zo_push (.inl 10) 3),
  (3, zo_ceq 12 6),
  (6, zo_iload 0 7),
  (7, zo_push (.inl 32) 9),
  (9, zo_cne 16 12),
  (12, zo_push (.inl 1) 13),
  (13, zo_goto 17),
  (16, zo_push (.inl 0) 17),
  (17, zo_zretc)]
noncomputable def p_X10_isBlank : Nat → zO := zgs [(18, p_X10_isBlank_0)]
theorem t_X10_isBlank : ∀ k, zTl (p_X10_isBlank k) := fun k => zgs_all (c := [(18, p_X10_isBlank_0)]) (fun _ => zl_bad) ⟨⟨zl_iload, zl_push, zl_ceq, zl_iload, zl_push, zl_cne, zl_push, zl_goto, zl_push, zl_zretc, trivial⟩, trivial⟩ k
noncomputable def f_X10_isBlank : zS := zrun p_X10_isBlank 1
set_option maxRecDepth 20000 in
theorem s_X10_isBlank_0 {l : Launch} {D : va_G} {ad : Nat → Nat → Nat} {cy : Nat → ClassId} {L : List (Nat × Nat)} (hcl : zclo L = true) (hinj : zAd ad L) {X : zCtx} (hX : zXok X "SoapTreaty$Tokens" prog_12_method_7_code 1) (hR : zRt X (some .boolean)) (hl : zXl X l D ad cy L (zroom 1)) : zAllR (zSo X) p_X10_isBlank_0 := ⟨zs_iload_n (i := 0) rfl hX (by decide +kernel : decode prog_12_method_7_code 0 = .ok (.iload_n 0, 1)) rfl (by decide),
  zs_pushI (zg_bipush (by decide) hX (by decide +kernel : decode prog_12_method_7_code 1 = .ok (.bipush 10, 2)) rfl),
  zs_ceq hX (by decide +kernel : decode prog_12_method_7_code 3 = .ok (.if_icmp .eq 9, 3)) (by decide) rfl,
  zs_iload_n (i := 0) rfl hX (by decide +kernel : decode prog_12_method_7_code 6 = .ok (.iload_n 0, 1)) rfl (by decide),
  zs_pushI (zg_bipush (by decide) hX (by decide +kernel : decode prog_12_method_7_code 7 = .ok (.bipush 32, 2)) rfl),
  zs_cne hX (by decide +kernel : decode prog_12_method_7_code 9 = .ok (.if_icmp .ne 7, 3)) (by decide) rfl,
  zs_pushI (zg_iconst (by decide) hX (by decide +kernel : decode prog_12_method_7_code 12 = .ok (.iconst 1, 1)) rfl),
  zs_goto hX (by decide +kernel : decode prog_12_method_7_code 13 = .ok (.goto 4, 3)) (by decide),
  zs_pushI (zg_iconst (by decide) hX (by decide +kernel : decode prog_12_method_7_code 16 = .ok (.iconst 0, 1)) rfl),
  zs_zretc hX hR (by decide +kernel : decode prog_12_method_7_code 17 = .ok (.ireturn, 1)), trivial⟩
theorem k_X10_isBlank {l : Launch} {D : va_G} {ad : Nat → Nat → Nat} {cy : Nat → ClassId} {L : List (Nat × Nat)} (hcl : zclo L = true) (hinj : zAd ad L) : zCk l D ad cy L 1 f_X10_isBlank y_X10_isBlank (.code y_X10_isBlank prog_12_method_7_code 1 (some .boolean)) :=
  z_met (by decide) t_X10_isBlank hcl hinj (fun X hX hR hl k => zgs_all (Q := zSo X) (c := [(18, p_X10_isBlank_0)]) (fun _ => zs_bad) ⟨s_X10_isBlank_0 hcl hinj hX hR hl, trivial⟩ k)
set_option maxRecDepth 1000000 in
theorem e_X10_isBlank_0 (x0 : Int32) (h : zH) : zL p_X10_isBlank 0 [some (.inl x0)] [] h = zf (x0 = 10) (some (some (.inl 1), h)) (zf (x0 = 32) (some (some (.inl 1), h)) (some (some (.inl 0), h))) := (zL_s (t_X10_isBlank) [0] 1000 0 _ _ _).trans rfl
theorem g_X10_isBlank (x0 : Int32) (h : zH) : f_X10_isBlank [(.inl x0)] h = zf (x0 = 10) (some (some (.inl 1), h)) (zf (x0 = 32) (some (some (.inl 1), h)) (some (some (.inl 0), h))) := (show f_X10_isBlank _ h = zL p_X10_isBlank 0 _ [] h from rfl).trans (e_X10_isBlank_0 x0 h)
/-! SoapTreaty$Tokens.isLetter(I)Z -/
def y_X10_isLetter : MethodName := ⟨"SoapTreaty$Tokens", "isLetter", "(I)Z"⟩
noncomputable def p_X10_isLetter_0 : List (Nat × zO) := [(0, zo_iload 0 1),
  (1, zo_push (.inl 97) 3),
  (3, zo_clt 16 6),
  (6, zo_iload 0 7),
  (7, zo_push (.inl 122) 9),
  (9, zo_cgt 16 12),
  (12, zo_push (.inl 1) 13),
  (13, zo_goto 17),
  (16, zo_push (.inl 0) 17),
  (17, zo_zretc)]
noncomputable def p_X10_isLetter : Nat → zO := zgs [(18, p_X10_isLetter_0)]
theorem t_X10_isLetter : ∀ k, zTl (p_X10_isLetter k) := fun k => zgs_all (c := [(18, p_X10_isLetter_0)]) (fun _ => zl_bad) ⟨⟨zl_iload, zl_push, zl_clt, zl_iload, zl_push, zl_cgt, zl_push, zl_goto, zl_push, zl_zretc, trivial⟩, trivial⟩ k
noncomputable def f_X10_isLetter : zS := zrun p_X10_isLetter 1
set_option maxRecDepth 20000 in
theorem s_X10_isLetter_0 {l : Launch} {D : va_G} {ad : Nat → Nat → Nat} {cy : Nat → ClassId} {L : List (Nat × Nat)} (hcl : zclo L = true) (hinj : zAd ad L) {X : zCtx} (hX : zXok X "SoapTreaty$Tokens" prog_12_method_8_code 1) (hR : zRt X (some .boolean)) (hl : zXl X l D ad cy L (zroom 1)) : zAllR (zSo X) p_X10_isLetter_0 := ⟨zs_iload_n (i := 0) rfl hX (by decide +kernel : decode prog_12_method_8_code 0 = .ok (.iload_n 0, 1)) rfl (by decide),
  zs_pushI (zg_bipush (by decide) hX (by decide +kernel : decode prog_12_method_8_code 1 = .ok (.bipush 97, 2)) rfl),
  zs_clt hX (by decide +kernel : decode prog_12_method_8_code 3 = .ok (.if_icmp .lt 13, 3)) (by decide) rfl,
  zs_iload_n (i := 0) rfl hX (by decide +kernel : decode prog_12_method_8_code 6 = .ok (.iload_n 0, 1)) rfl (by decide),
  zs_pushI (zg_bipush (by decide) hX (by decide +kernel : decode prog_12_method_8_code 7 = .ok (.bipush 122, 2)) rfl),
  zs_cgt hX (by decide +kernel : decode prog_12_method_8_code 9 = .ok (.if_icmp .gt 7, 3)) (by decide) rfl,
  zs_pushI (zg_iconst (by decide) hX (by decide +kernel : decode prog_12_method_8_code 12 = .ok (.iconst 1, 1)) rfl),
  zs_goto hX (by decide +kernel : decode prog_12_method_8_code 13 = .ok (.goto 4, 3)) (by decide),
  zs_pushI (zg_iconst (by decide) hX (by decide +kernel : decode prog_12_method_8_code 16 = .ok (.iconst 0, 1)) rfl),
  zs_zretc hX hR (by decide +kernel : decode prog_12_method_8_code 17 = .ok (.ireturn, 1)), trivial⟩
theorem k_X10_isLetter {l : Launch} {D : va_G} {ad : Nat → Nat → Nat} {cy : Nat → ClassId} {L : List (Nat × Nat)} (hcl : zclo L = true) (hinj : zAd ad L) : zCk l D ad cy L 1 f_X10_isLetter y_X10_isLetter (.code y_X10_isLetter prog_12_method_8_code 1 (some .boolean)) :=
  z_met (by decide) t_X10_isLetter hcl hinj (fun X hX hR hl k => zgs_all (Q := zSo X) (c := [(18, p_X10_isLetter_0)]) (fun _ => zs_bad) ⟨s_X10_isLetter_0 hcl hinj hX hR hl, trivial⟩ k)
set_option maxRecDepth 1000000 in
theorem e_X10_isLetter_0 (x0 : Int32) (h : zH) : zL p_X10_isLetter 0 [some (.inl x0)] [] h = zf (x0 < 97) (some (some (.inl 0), h)) (zf (122 < x0) (some (some (.inl 0), h)) (some (some (.inl 1), h))) := (zL_s (t_X10_isLetter) [0] 1000 0 _ _ _).trans rfl
theorem g_X10_isLetter (x0 : Int32) (h : zH) : f_X10_isLetter [(.inl x0)] h = zf (x0 < 97) (some (some (.inl 0), h)) (zf (122 < x0) (some (some (.inl 0), h)) (some (some (.inl 1), h))) := (show f_X10_isLetter _ h = zL p_X10_isLetter 0 _ [] h from rfl).trans (e_X10_isLetter_0 x0 h)
/-! SoapTreaty$Tokens.longer(JI)J -/
def y_X10_longer : MethodName := ⟨"SoapTreaty$Tokens", "longer", "(JI)J"⟩
noncomputable def p_X10_longer_0 : List (Nat × zO) := [(0, zo_lload 0 1),
  (1, zo_push (.inr (.inl 32)) 4),
  (4, zo_ll (fun x y => x * y) 5),
  (5, zo_iload 2 6),
  (6, zo_push (.inl 97) 8),
  (8, zo_ii (fun x y => x - y) 9),
  (9, zo_push (.inl 1) 10),
  (10, zo_ii (fun x y => x + y) 11),
  (11, zo_i2l 12),
  (12, zo_ll (fun x y => x + y) 13),
  (13, zo_lret)]
noncomputable def p_X10_longer : Nat → zO := zgs [(14, p_X10_longer_0)]
theorem t_X10_longer : ∀ k, zTl (p_X10_longer k) := fun k => zgs_all (c := [(14, p_X10_longer_0)]) (fun _ => zl_bad) ⟨⟨zl_lload, zl_push, zl_ll, zl_iload, zl_push, zl_ii, zl_push, zl_ii, zl_i2l, zl_ll, zl_lret, trivial⟩, trivial⟩ k
noncomputable def f_X10_longer : zS := zrun p_X10_longer 3
set_option maxRecDepth 20000 in
theorem s_X10_longer_0 {l : Launch} {D : va_G} {ad : Nat → Nat → Nat} {cy : Nat → ClassId} {L : List (Nat × Nat)} (hcl : zclo L = true) (hinj : zAd ad L) {X : zCtx} (hX : zXok X "SoapTreaty$Tokens" prog_12_method_2_code 3) (hR : zRt X (some .long)) (hl : zXl X l D ad cy L (zroom 1)) : zAllR (zSo X) p_X10_longer_0 := ⟨zs_lload_n (i := 0) rfl hX (by decide +kernel : decode prog_12_method_2_code 0 = .ok (.lload_n 0, 1)) rfl (by decide),
  zs_pushJ (zg_ldc2 (zT_of 343 (by decide +kernel) (by decide +kernel)) hX (by decide +kernel : decode prog_12_method_2_code 1 = .ok (.ldc2_w 35, 3)) rfl),
  zs_ll (zg_lmul hX (by decide +kernel : decode prog_12_method_2_code 4 = .ok (.lmul, 1)) rfl),
  zs_iload_n (i := 2) rfl hX (by decide +kernel : decode prog_12_method_2_code 5 = .ok (.iload_n 2, 1)) rfl (by decide),
  zs_pushI (zg_bipush (by decide) hX (by decide +kernel : decode prog_12_method_2_code 6 = .ok (.bipush 97, 2)) rfl),
  zs_ii (zg_isub hX (by decide +kernel : decode prog_12_method_2_code 8 = .ok (.isub, 1)) rfl),
  zs_pushI (zg_iconst (by decide) hX (by decide +kernel : decode prog_12_method_2_code 9 = .ok (.iconst 1, 1)) rfl),
  zs_ii (zg_iadd hX (by decide +kernel : decode prog_12_method_2_code 10 = .ok (.iadd, 1)) rfl),
  zs_i2l_ (zg_i2l hX (by decide +kernel : decode prog_12_method_2_code 11 = .ok (.i2l, 1)) rfl),
  zs_ll (zg_ladd hX (by decide +kernel : decode prog_12_method_2_code 12 = .ok (.ladd, 1)) rfl),
  zs_lret hX hR (by decide +kernel : decode prog_12_method_2_code 13 = .ok (.lreturn, 1)), trivial⟩
theorem k_X10_longer {l : Launch} {D : va_G} {ad : Nat → Nat → Nat} {cy : Nat → ClassId} {L : List (Nat × Nat)} (hcl : zclo L = true) (hinj : zAd ad L) : zCk l D ad cy L 1 f_X10_longer y_X10_longer (.code y_X10_longer prog_12_method_2_code 3 (some .long)) :=
  z_met (by decide) t_X10_longer hcl hinj (fun X hX hR hl k => zgs_all (Q := zSo X) (c := [(14, p_X10_longer_0)]) (fun _ => zs_bad) ⟨s_X10_longer_0 hcl hinj hX hR hl, trivial⟩ k)
set_option maxRecDepth 1000000 in
theorem e_X10_longer_0 (x0 : Int64) (x2 : Int32) (h : zH) : zL p_X10_longer 0 [some (.inr (.inl x0)), none, some (.inl x2)] [] h = some (some (.inr (.inl ((x0 * (32 : Int64)) + (((x2 - (97 : Int32)) + (1 : Int32)).toInt64)))), h) := (zL_s (t_X10_longer) [0] 1000 0 _ _ _).trans rfl
theorem g_X10_longer (x0 : Int64) (x2 : Int32) (h : zH) : f_X10_longer [(.inr (.inl x0)), (.inl x2)] h = some (some (.inr (.inl ((x0 * (32 : Int64)) + (((x2 - (97 : Int32)) + (1 : Int32)).toInt64)))), h) := (show f_X10_longer _ h = zL p_X10_longer 0 _ [] h from rfl).trans (e_X10_longer_0 x0 x2 h)
theorem zMV_10_51 : zMV "SoapTreaty$Tokens" 51 9 y_X9_signAt prog_11_method_3_code 2 (some .int) 1 := ⟨⟨zT_of 573 (by decide +kernel) (by decide +kernel), zT_of 574 (by decide +kernel) (by decide +kernel), zT_of 575 (by decide +kernel) (by decide +kernel), zT_of 103 (by decide +kernel) (by decide +kernel), zT_of 576 (by decide +kernel) (by decide +kernel)⟩, by decide, rfl, ⟨zT9, 2, rfl⟩, by decide, by decide, by decide +kernel⟩
theorem zMS_10_65 : zMS "SoapTreaty$Tokens" 65 y_X10_isLetter prog_12_method_8_code 1 (some .boolean) 1 := ⟨⟨zT_of 580 (by decide +kernel) (by decide +kernel), zT_of 581 (by decide +kernel) (by decide +kernel), zT_of 108 (by decide +kernel) (by decide +kernel), zT_of 582 (by decide +kernel) (by decide +kernel)⟩, by decide, by decide, by decide, by decide +kernel⟩
theorem zMS_10_31 : zMS "SoapTreaty$Tokens" 31 y_X10_longer prog_12_method_2_code 3 (some .long) 2 := ⟨⟨zT_of 340 (by decide +kernel) (by decide +kernel), zT_of 341 (by decide +kernel) (by decide +kernel), zT_of 108 (by decide +kernel) (by decide +kernel), zT_of 342 (by decide +kernel) (by decide +kernel)⟩, by decide, by decide, by decide, by decide +kernel⟩
/-! SoapTreaty$Tokens.stepWord()V -/
def y_X10_stepWord : MethodName := ⟨"SoapTreaty$Tokens", "stepWord", "()V"⟩
noncomputable def p_X10_stepWord_0 : List (Nat × zO) := [(0, zo_aload 0 1),
  (1, zo_push (.inr (.inl 0)) 2),
  (2, zo_putJ 10 6 5),
  (5, zo_kill [1] (zo_aload 0 6)),
  (6, zo_getI 10 2 9),
  (9, zo_aload 0 10),
  (10, zo_getR 10 9 none 13),
  (13, zo_getI 9 1 16),
  (16, zo_cge 71 19),
  (19, zo_aload 0 20),
  (20, zo_getR 10 9 none 23),
  (23, zo_aload 0 24),
  (24, zo_getI 10 2 27),
  (27, zo_vir 9 2 (zo_calli (f_X9_signAt) 2 30)),
  (30, zo_calli (f_X10_isLetter) 1 33),
  (33, zo_0eq 71 36),
  (36, zo_aload 0 37),
  (37, zo_aload 0 38),
  (38, zo_getJ 10 6 41),
  (41, zo_aload 0 42)]
noncomputable def p_X10_stepWord_1 : List (Nat × zO) := [(42, zo_getR 10 9 none 45),
  (45, zo_aload 0 46),
  (46, zo_getI 10 2 49),
  (49, zo_vir 9 2 (zo_calli (f_X9_signAt) 2 52)),
  (52, zo_callj (f_X10_longer) 2 55),
  (55, zo_putJ 10 6 58),
  (58, zo_aload 0 59),
  (59, zo_dup 60),
  (60, zo_getI 10 2 63),
  (63, zo_push (.inl 1) 64),
  (64, zo_ii (fun x y => x + y) 65),
  (65, zo_putI 10 2 68),
  (68, zo_goto 5),
  (71, zo_kill [1] (zo_aload 0 72)),
  (72, zo_aload 0 73),
  (73, zo_getI 10 2 76),
  (76, zo_aload 0 77),
  (77, zo_getI 10 4 80),
  (80, zo_ii (fun x y => x - y) 81),
  (81, zo_push (.inl 8) 83)]
noncomputable def p_X10_stepWord_2 : List (Nat × zO) := [(83, zo_cgt 90 86),
  (86, zo_push (.inl 2) 87),
  (87, zo_goto 91),
  (90, zo_push (.inl 1) 91),
  (91, zo_putI 10 3 94),
  (94, zo_aload 0 95),
  (95, zo_push (.inl zm1) 96),
  (96, zo_putI 10 5 99),
  (99, zo_push (.inl 0) 100),
  (100, zo_istore 1 101),
  (101, zo_iload 1 102),
  (102, zo_push (.inl 27) 104),
  (104, zo_cge 132 107),
  (107, zo_aload 0 108),
  (108, zo_getR 10 35 none 111),
  (111, zo_iload 1 112),
  (112, zo_lald 113),
  (113, zo_aload 0 114),
  (114, zo_getJ 10 6 117),
  (117, zo_lcmp 118)]
noncomputable def p_X10_stepWord_3 : List (Nat × zO) := [(118, zo_0ne 126 121),
  (121, zo_aload 0 122),
  (122, zo_iload 1 123),
  (123, zo_putI 10 5 126),
  (126, zo_iinc 1 1 129),
  (129, zo_goto 101),
  (132, zo_ret)]
noncomputable def p_X10_stepWord : Nat → zO := zgs [(42, p_X10_stepWord_0), (82, p_X10_stepWord_1), (118, p_X10_stepWord_2), (133, p_X10_stepWord_3)]
theorem t_X10_stepWord : ∀ k, zTl (p_X10_stepWord k) := fun k => zgs_all (c := [(42, p_X10_stepWord_0), (82, p_X10_stepWord_1), (118, p_X10_stepWord_2), (133, p_X10_stepWord_3)]) (fun _ => zl_bad) ⟨⟨zl_aload, zl_push, zl_putJ, (zl_kill zl_aload), zl_getI, zl_aload, zl_getR, zl_getI, zl_cge, zl_aload, zl_getR, zl_aload, zl_getI, (zl_vir zl_calli), zl_calli, zl_0eq, zl_aload, zl_aload, zl_getJ, zl_aload, trivial⟩, ⟨zl_getR, zl_aload, zl_getI, (zl_vir zl_calli), zl_callj, zl_putJ, zl_aload, zl_dup, zl_getI, zl_push, zl_ii, zl_putI, zl_goto, (zl_kill zl_aload), zl_aload, zl_getI, zl_aload, zl_getI, zl_ii, zl_push, trivial⟩, ⟨zl_cgt, zl_push, zl_goto, zl_push, zl_putI, zl_aload, zl_push, zl_putI, zl_push, zl_istore, zl_iload, zl_push, zl_cge, zl_aload, zl_getR, zl_iload, zl_lald, zl_aload, zl_getJ, zl_lcmp, trivial⟩, ⟨zl_0ne, zl_aload, zl_iload, zl_putI, zl_iinc, zl_goto, zl_ret, trivial⟩, trivial⟩ k
noncomputable def f_X10_stepWord : zS := zrun p_X10_stepWord 2
set_option maxRecDepth 20000 in
theorem s_X10_stepWord_0 {l : Launch} {D : va_G} {ad : Nat → Nat → Nat} {cy : Nat → ClassId} {L : List (Nat × Nat)} (hcl : zclo L = true) (hinj : zAd ad L) {X : zCtx} (hX : zXok X "SoapTreaty$Tokens" prog_12_method_5_code 2) (hR : zRt X none) (hl : zXl X l D ad cy L (zroom 2)) : zAllR (zSo X) p_X10_stepWord_0 := ⟨zs_aload_n (i := 0) rfl hX (by decide +kernel : decode prog_12_method_5_code 0 = .ok (.aload_n 0, 1)) rfl (by decide),
  zs_pushJ (zg_lconst (by decide) hX (by decide +kernel : decode prog_12_method_5_code 1 = .ok (.lconst 0, 1)) rfl),
  zs_putJ hX zFP_10_83 (by decide +kernel : decode prog_12_method_5_code 2 = .ok (.putfield 83, 3)) rfl,
  zs_kill hX (by decide) (zs_aload_n (i := 0) rfl hX (by decide +kernel : decode prog_12_method_5_code 5 = .ok (.aload_n 0, 1)) rfl (by decide)),
  zs_getI hX zFL_10_37 (by decide) (by decide) (by decide +kernel : decode prog_12_method_5_code 6 = .ok (.getfield 37, 3)) rfl,
  zs_aload_n (i := 0) rfl hX (by decide +kernel : decode prog_12_method_5_code 9 = .ok (.aload_n 0, 1)) rfl (by decide),
  zs_getR hX zFL_10_15 (by decide +kernel : decode prog_12_method_5_code 10 = .ok (.getfield 15, 3)) rfl,
  zs_getI hX zFL_10_47 (by decide) (by decide) (by decide +kernel : decode prog_12_method_5_code 13 = .ok (.getfield 47, 3)) rfl,
  zs_cge hX (by decide +kernel : decode prog_12_method_5_code 16 = .ok (.if_icmp .ge 55, 3)) (by decide) rfl,
  zs_aload_n (i := 0) rfl hX (by decide +kernel : decode prog_12_method_5_code 19 = .ok (.aload_n 0, 1)) rfl (by decide),
  zs_getR hX zFL_10_15 (by decide +kernel : decode prog_12_method_5_code 20 = .ok (.getfield 15, 3)) rfl,
  zs_aload_n (i := 0) rfl hX (by decide +kernel : decode prog_12_method_5_code 23 = .ok (.aload_n 0, 1)) rfl (by decide),
  zs_getI hX zFL_10_37 (by decide) (by decide) (by decide +kernel : decode prog_12_method_5_code 24 = .ok (.getfield 37, 3)) rfl,
  zs_callVi hX zMV_10_51 (zXc_of hl (by decide) (k_X9_signAt hcl hinj)) (by decide +kernel : decode prog_12_method_5_code 27 = .ok (.invokevirtual 51, 3)) rfl,
  zs_callSi hX zMS_10_65 (zXc_of hl (by decide) (k_X10_isLetter hcl hinj)) (by decide +kernel : decode prog_12_method_5_code 30 = .ok (.invokestatic 65, 3)) rfl,
  zs_0eq hX (by decide +kernel : decode prog_12_method_5_code 33 = .ok (.ifCond .eq 38, 3)) (by decide) rfl,
  zs_aload_n (i := 0) rfl hX (by decide +kernel : decode prog_12_method_5_code 36 = .ok (.aload_n 0, 1)) rfl (by decide),
  zs_aload_n (i := 0) rfl hX (by decide +kernel : decode prog_12_method_5_code 37 = .ok (.aload_n 0, 1)) rfl (by decide),
  zs_getJ hX zFL_10_83 (by decide +kernel : decode prog_12_method_5_code 38 = .ok (.getfield 83, 3)) rfl,
  zs_aload_n (i := 0) rfl hX (by decide +kernel : decode prog_12_method_5_code 41 = .ok (.aload_n 0, 1)) rfl (by decide), trivial⟩
set_option maxRecDepth 20000 in
theorem s_X10_stepWord_1 {l : Launch} {D : va_G} {ad : Nat → Nat → Nat} {cy : Nat → ClassId} {L : List (Nat × Nat)} (hcl : zclo L = true) (hinj : zAd ad L) {X : zCtx} (hX : zXok X "SoapTreaty$Tokens" prog_12_method_5_code 2) (hR : zRt X none) (hl : zXl X l D ad cy L (zroom 2)) : zAllR (zSo X) p_X10_stepWord_1 := ⟨zs_getR hX zFL_10_15 (by decide +kernel : decode prog_12_method_5_code 42 = .ok (.getfield 15, 3)) rfl,
  zs_aload_n (i := 0) rfl hX (by decide +kernel : decode prog_12_method_5_code 45 = .ok (.aload_n 0, 1)) rfl (by decide),
  zs_getI hX zFL_10_37 (by decide) (by decide) (by decide +kernel : decode prog_12_method_5_code 46 = .ok (.getfield 37, 3)) rfl,
  zs_callVi hX zMV_10_51 (zXc_of hl (by decide) (k_X9_signAt hcl hinj)) (by decide +kernel : decode prog_12_method_5_code 49 = .ok (.invokevirtual 51, 3)) rfl,
  zs_callSj hX zMS_10_31 (zXc_of hl (by decide) (k_X10_longer hcl hinj)) (by decide +kernel : decode prog_12_method_5_code 52 = .ok (.invokestatic 31, 3)) rfl,
  zs_putJ hX zFP_10_83 (by decide +kernel : decode prog_12_method_5_code 55 = .ok (.putfield 83, 3)) rfl,
  zs_aload_n (i := 0) rfl hX (by decide +kernel : decode prog_12_method_5_code 58 = .ok (.aload_n 0, 1)) rfl (by decide),
  zs_dup hX (by decide +kernel : decode prog_12_method_5_code 59 = .ok (.dup, 1)) rfl,
  zs_getI hX zFL_10_37 (by decide) (by decide) (by decide +kernel : decode prog_12_method_5_code 60 = .ok (.getfield 37, 3)) rfl,
  zs_pushI (zg_iconst (by decide) hX (by decide +kernel : decode prog_12_method_5_code 63 = .ok (.iconst 1, 1)) rfl),
  zs_ii (zg_iadd hX (by decide +kernel : decode prog_12_method_5_code 64 = .ok (.iadd, 1)) rfl),
  zs_putI hX zFP_10_37 (by decide +kernel : decode prog_12_method_5_code 65 = .ok (.putfield 37, 3)) rfl,
  zs_goto hX (by decide +kernel : decode prog_12_method_5_code 68 = .ok (.goto (-63), 3)) (by decide),
  zs_kill hX (by decide) (zs_aload_n (i := 0) rfl hX (by decide +kernel : decode prog_12_method_5_code 71 = .ok (.aload_n 0, 1)) rfl (by decide)),
  zs_aload_n (i := 0) rfl hX (by decide +kernel : decode prog_12_method_5_code 72 = .ok (.aload_n 0, 1)) rfl (by decide),
  zs_getI hX zFL_10_37 (by decide) (by decide) (by decide +kernel : decode prog_12_method_5_code 73 = .ok (.getfield 37, 3)) rfl,
  zs_aload_n (i := 0) rfl hX (by decide +kernel : decode prog_12_method_5_code 76 = .ok (.aload_n 0, 1)) rfl (by decide),
  zs_getI hX zFL_10_59 (by decide) (by decide) (by decide +kernel : decode prog_12_method_5_code 77 = .ok (.getfield 59, 3)) rfl,
  zs_ii (zg_isub hX (by decide +kernel : decode prog_12_method_5_code 80 = .ok (.isub, 1)) rfl),
  zs_pushI (zg_bipush (by decide) hX (by decide +kernel : decode prog_12_method_5_code 81 = .ok (.bipush 8, 2)) rfl), trivial⟩
set_option maxRecDepth 20000 in
theorem s_X10_stepWord_2 {l : Launch} {D : va_G} {ad : Nat → Nat → Nat} {cy : Nat → ClassId} {L : List (Nat × Nat)} (hcl : zclo L = true) (hinj : zAd ad L) {X : zCtx} (hX : zXok X "SoapTreaty$Tokens" prog_12_method_5_code 2) (hR : zRt X none) (hl : zXl X l D ad cy L (zroom 2)) : zAllR (zSo X) p_X10_stepWord_2 := ⟨zs_cgt hX (by decide +kernel : decode prog_12_method_5_code 83 = .ok (.if_icmp .gt 7, 3)) (by decide) rfl,
  zs_pushI (zg_iconst (by decide) hX (by decide +kernel : decode prog_12_method_5_code 86 = .ok (.iconst 2, 1)) rfl),
  zs_goto hX (by decide +kernel : decode prog_12_method_5_code 87 = .ok (.goto 4, 3)) (by decide),
  zs_pushI (zg_iconst (by decide) hX (by decide +kernel : decode prog_12_method_5_code 90 = .ok (.iconst 1, 1)) rfl),
  zs_putI hX zFP_10_62 (by decide +kernel : decode prog_12_method_5_code 91 = .ok (.putfield 62, 3)) rfl,
  zs_aload_n (i := 0) rfl hX (by decide +kernel : decode prog_12_method_5_code 94 = .ok (.aload_n 0, 1)) rfl (by decide),
  zs_pushI (zg_iconst (by decide) hX (by decide +kernel : decode prog_12_method_5_code 95 = .ok (.iconst (-1), 1)) rfl),
  zs_putI hX zFP_10_80 (by decide +kernel : decode prog_12_method_5_code 96 = .ok (.putfield 80, 3)) rfl,
  zs_pushI (zg_iconst (by decide) hX (by decide +kernel : decode prog_12_method_5_code 99 = .ok (.iconst 0, 1)) rfl),
  zs_istore_n (i := 1) rfl hX (by decide +kernel : decode prog_12_method_5_code 100 = .ok (.istore_n 1, 1)) rfl (by decide),
  zs_iload_n (i := 1) rfl hX (by decide +kernel : decode prog_12_method_5_code 101 = .ok (.iload_n 1, 1)) rfl (by decide),
  zs_pushI (zg_bipush (by decide) hX (by decide +kernel : decode prog_12_method_5_code 102 = .ok (.bipush 27, 2)) rfl),
  zs_cge hX (by decide +kernel : decode prog_12_method_5_code 104 = .ok (.if_icmp .ge 28, 3)) (by decide) rfl,
  zs_aload_n (i := 0) rfl hX (by decide +kernel : decode prog_12_method_5_code 107 = .ok (.aload_n 0, 1)) rfl (by decide),
  zs_getR hX zFL_10_11 (by decide +kernel : decode prog_12_method_5_code 108 = .ok (.getfield 11, 3)) rfl,
  zs_iload_n (i := 1) rfl hX (by decide +kernel : decode prog_12_method_5_code 111 = .ok (.iload_n 1, 1)) rfl (by decide),
  zs_lald hX (by decide +kernel : decode prog_12_method_5_code 112 = .ok (.laload, 1)) rfl,
  zs_aload_n (i := 0) rfl hX (by decide +kernel : decode prog_12_method_5_code 113 = .ok (.aload_n 0, 1)) rfl (by decide),
  zs_getJ hX zFL_10_83 (by decide +kernel : decode prog_12_method_5_code 114 = .ok (.getfield 83, 3)) rfl,
  zs_lcmp_ (zg_lcmp hX (by decide +kernel : decode prog_12_method_5_code 117 = .ok (.lcmp, 1)) rfl), trivial⟩
set_option maxRecDepth 20000 in
theorem s_X10_stepWord_3 {l : Launch} {D : va_G} {ad : Nat → Nat → Nat} {cy : Nat → ClassId} {L : List (Nat × Nat)} (hcl : zclo L = true) (hinj : zAd ad L) {X : zCtx} (hX : zXok X "SoapTreaty$Tokens" prog_12_method_5_code 2) (hR : zRt X none) (hl : zXl X l D ad cy L (zroom 2)) : zAllR (zSo X) p_X10_stepWord_3 := ⟨zs_0ne hX (by decide +kernel : decode prog_12_method_5_code 118 = .ok (.ifCond .ne 8, 3)) (by decide) rfl,
  zs_aload_n (i := 0) rfl hX (by decide +kernel : decode prog_12_method_5_code 121 = .ok (.aload_n 0, 1)) rfl (by decide),
  zs_iload_n (i := 1) rfl hX (by decide +kernel : decode prog_12_method_5_code 122 = .ok (.iload_n 1, 1)) rfl (by decide),
  zs_putI hX zFP_10_80 (by decide +kernel : decode prog_12_method_5_code 123 = .ok (.putfield 80, 3)) rfl,
  zs_iinc hX (by decide +kernel : decode prog_12_method_5_code 126 = .ok (.iinc 1 1, 3)) (by decide) rfl (by decide),
  zs_goto hX (by decide +kernel : decode prog_12_method_5_code 129 = .ok (.goto (-28), 3)) (by decide),
  zs_ret hX hR (by decide +kernel : decode prog_12_method_5_code 132 = .ok (.return_, 1)), trivial⟩
theorem k_X10_stepWord {l : Launch} {D : va_G} {ad : Nat → Nat → Nat} {cy : Nat → ClassId} {L : List (Nat × Nat)} (hcl : zclo L = true) (hinj : zAd ad L) : zCk l D ad cy L 2 f_X10_stepWord y_X10_stepWord (.code y_X10_stepWord prog_12_method_5_code 2 none) :=
  z_met (by decide) t_X10_stepWord hcl hinj (fun X hX hR hl k => zgs_all (Q := zSo X) (c := [(42, p_X10_stepWord_0), (82, p_X10_stepWord_1), (118, p_X10_stepWord_2), (133, p_X10_stepWord_3)]) (fun _ => zs_bad) ⟨s_X10_stepWord_0 hcl hinj hX hR hl, s_X10_stepWord_1 hcl hinj hX hR hl, s_X10_stepWord_2 hcl hinj hX hR hl, s_X10_stepWord_3 hcl hinj hX hR hl, trivial⟩ k)
set_option maxRecDepth 1000000 in
theorem e_X10_stepWord_0 (h : zH) : zL p_X10_stepWord 0 [some (.inr (.inr (10, 0))), none] [] h = zL p_X10_stepWord 5 [some (.inr (.inr (10, 0))), none] [] (zuJ h 10 0 6 0) := (zL_s (t_X10_stepWord) [0, 5, 71, 101] 1000 0 _ _ _).trans rfl
theorem g_X10_stepWord (h : zH) : f_X10_stepWord [(.inr (.inr (10, 0)))] h = zL p_X10_stepWord 5 [some (.inr (.inr (10, 0))), none] [] (zuJ h 10 0 6 0) := (show f_X10_stepWord _ h = zL p_X10_stepWord 0 _ [] h from rfl).trans (e_X10_stepWord_0 h)
set_option maxRecDepth 1000000 in
theorem e_X10_stepWord_5 (o1 : Option zV) (h : zH) : zL p_X10_stepWord 5 [some (.inr (.inr (10, 0))), o1] [] h = zf ((h.1 10 0 2) < (h.1 9 0 1)) (zci (f_X9_signAt [(.inr (.inr (9, 0))), (.inl (h.1 10 0 2))] h) (fun r2 h1 => zci (f_X10_isLetter [(.inl r2)] h1) (fun r4 h3 => zf (r4 = 0) (zL p_X10_stepWord 71 [some (.inr (.inr (10, 0))), none] [] h3) (zci (f_X9_signAt [(.inr (.inr (9, 0))), (.inl (h3.1 10 0 2))] h3) (fun r6 h5 => zcj (f_X10_longer [(.inr (.inl (h3.2 10 0 6))), (.inl r6)] h5) (fun r8 h7 => zL p_X10_stepWord 5 [some (.inr (.inr (10, 0))), none] [] (zuI (zuJ h7 10 0 6 r8) 10 0 2 ((h7.1 10 0 2) + (1 : Int32))))))))) (zL p_X10_stepWord 71 [some (.inr (.inr (10, 0))), none] [] h) := (zL_s (t_X10_stepWord) [0, 5, 71, 101] 1000 5 _ _ _).trans rfl
set_option maxRecDepth 1000000 in
theorem e_X10_stepWord_71 (o1 : Option zV) (h : zH) : zL p_X10_stepWord 71 [some (.inr (.inr (10, 0))), o1] [] h = zf (8 < ((h.1 10 0 2) - (h.1 10 0 4))) (zL p_X10_stepWord 101 [some (.inr (.inr (10, 0))), some (.inl 0)] [] (zuI (zuI h 10 0 3 1) 10 0 5 zm1)) (zL p_X10_stepWord 101 [some (.inr (.inr (10, 0))), some (.inl 0)] [] (zuI (zuI h 10 0 3 2) 10 0 5 zm1)) := (zL_s (t_X10_stepWord) [0, 5, 71, 101] 1000 71 _ _ _).trans rfl
set_option maxRecDepth 1000000 in
theorem e_X10_stepWord_101 (x1 : Int32) (h : zH) : zL p_X10_stepWord 101 [some (.inr (.inr (10, 0))), some (.inl x1)] [] h = zf (x1 < 27) (zf (vp_in x1 27) (zf ((lg_cmp (h.2 35 0 x1.toNatClampNeg) (h.2 10 0 6)) = 0) (zL p_X10_stepWord 101 [some (.inr (.inr (10, 0))), some (.inl (x1 + 1))] [] (zuI h 10 0 5 x1)) (zL p_X10_stepWord 101 [some (.inr (.inr (10, 0))), some (.inl (x1 + 1))] [] h)) none) (some (none, h)) := (zL_s (t_X10_stepWord) [0, 5, 71, 101] 1000 101 _ _ _).trans rfl
/-! SoapTreaty$Tokens.isDigit(I)Z -/
def y_X10_isDigit : MethodName := ⟨"SoapTreaty$Tokens", "isDigit", "(I)Z"⟩
noncomputable def p_X10_isDigit_0 : List (Nat × zO) := [(0, zo_iload 0 1),
  (1, zo_push (.inl 48) 3),
  (3, zo_clt 16 6),
  (6, zo_iload 0 7),
  (7, zo_push (.inl 57) 9),
  (9, zo_cgt 16 12),
  (12, zo_push (.inl 1) 13),
  (13, zo_goto 17),
  (16, zo_push (.inl 0) 17),
  (17, zo_zretc)]
noncomputable def p_X10_isDigit : Nat → zO := zgs [(18, p_X10_isDigit_0)]
theorem t_X10_isDigit : ∀ k, zTl (p_X10_isDigit k) := fun k => zgs_all (c := [(18, p_X10_isDigit_0)]) (fun _ => zl_bad) ⟨⟨zl_iload, zl_push, zl_clt, zl_iload, zl_push, zl_cgt, zl_push, zl_goto, zl_push, zl_zretc, trivial⟩, trivial⟩ k
noncomputable def f_X10_isDigit : zS := zrun p_X10_isDigit 1
set_option maxRecDepth 20000 in
theorem s_X10_isDigit_0 {l : Launch} {D : va_G} {ad : Nat → Nat → Nat} {cy : Nat → ClassId} {L : List (Nat × Nat)} (hcl : zclo L = true) (hinj : zAd ad L) {X : zCtx} (hX : zXok X "SoapTreaty$Tokens" prog_12_method_9_code 1) (hR : zRt X (some .boolean)) (hl : zXl X l D ad cy L (zroom 1)) : zAllR (zSo X) p_X10_isDigit_0 := ⟨zs_iload_n (i := 0) rfl hX (by decide +kernel : decode prog_12_method_9_code 0 = .ok (.iload_n 0, 1)) rfl (by decide),
  zs_pushI (zg_bipush (by decide) hX (by decide +kernel : decode prog_12_method_9_code 1 = .ok (.bipush 48, 2)) rfl),
  zs_clt hX (by decide +kernel : decode prog_12_method_9_code 3 = .ok (.if_icmp .lt 13, 3)) (by decide) rfl,
  zs_iload_n (i := 0) rfl hX (by decide +kernel : decode prog_12_method_9_code 6 = .ok (.iload_n 0, 1)) rfl (by decide),
  zs_pushI (zg_bipush (by decide) hX (by decide +kernel : decode prog_12_method_9_code 7 = .ok (.bipush 57, 2)) rfl),
  zs_cgt hX (by decide +kernel : decode prog_12_method_9_code 9 = .ok (.if_icmp .gt 7, 3)) (by decide) rfl,
  zs_pushI (zg_iconst (by decide) hX (by decide +kernel : decode prog_12_method_9_code 12 = .ok (.iconst 1, 1)) rfl),
  zs_goto hX (by decide +kernel : decode prog_12_method_9_code 13 = .ok (.goto 4, 3)) (by decide),
  zs_pushI (zg_iconst (by decide) hX (by decide +kernel : decode prog_12_method_9_code 16 = .ok (.iconst 0, 1)) rfl),
  zs_zretc hX hR (by decide +kernel : decode prog_12_method_9_code 17 = .ok (.ireturn, 1)), trivial⟩
theorem k_X10_isDigit {l : Launch} {D : va_G} {ad : Nat → Nat → Nat} {cy : Nat → ClassId} {L : List (Nat × Nat)} (hcl : zclo L = true) (hinj : zAd ad L) : zCk l D ad cy L 1 f_X10_isDigit y_X10_isDigit (.code y_X10_isDigit prog_12_method_9_code 1 (some .boolean)) :=
  z_met (by decide) t_X10_isDigit hcl hinj (fun X hX hR hl k => zgs_all (Q := zSo X) (c := [(18, p_X10_isDigit_0)]) (fun _ => zs_bad) ⟨s_X10_isDigit_0 hcl hinj hX hR hl, trivial⟩ k)
set_option maxRecDepth 1000000 in
theorem e_X10_isDigit_0 (x0 : Int32) (h : zH) : zL p_X10_isDigit 0 [some (.inl x0)] [] h = zf (x0 < 48) (some (some (.inl 0), h)) (zf (57 < x0) (some (some (.inl 0), h)) (some (some (.inl 1), h))) := (zL_s (t_X10_isDigit) [0] 1000 0 _ _ _).trans rfl
theorem g_X10_isDigit (x0 : Int32) (h : zH) : f_X10_isDigit [(.inl x0)] h = zf (x0 < 48) (some (some (.inl 0), h)) (zf (57 < x0) (some (some (.inl 0), h)) (some (some (.inl 1), h))) := (show f_X10_isDigit _ h = zL p_X10_isDigit 0 _ [] h from rfl).trans (e_X10_isDigit_0 x0 h)
