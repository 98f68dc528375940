/-! The constructors of the small classes. (By program: wip/whole/init2.py) -/
theorem zin_0 : ∀ w ∈ u_ws zN0 zT0 13, w ∈ zT := fun w h => List.mem_filter.mpr ⟨zi_0 w h, zj_0 w h⟩
theorem zin_1 : ∀ w ∈ u_ws zN1 zT1 3, w ∈ zT := fun w h => List.mem_filter.mpr ⟨zi_1 w h, zj_1 w h⟩
theorem zin_2 : ∀ w ∈ u_ws zN2 zT2 2, w ∈ zT := fun w h => List.mem_filter.mpr ⟨zi_2 w h, zj_2 w h⟩
theorem zin_3 : ∀ w ∈ u_ws zN3 zT3 4, w ∈ zT := fun w h => List.mem_filter.mpr ⟨zi_3 w h, zj_3 w h⟩
theorem zin_4 : ∀ w ∈ u_ws zN4 zT4 3, w ∈ zT := fun w h => List.mem_filter.mpr ⟨zi_4 w h, zj_4 w h⟩
theorem zin_5 : ∀ w ∈ u_ws zN5 zT5 3, w ∈ zT := fun w h => List.mem_filter.mpr ⟨zi_5 w h, zj_5 w h⟩
theorem zin_6 : ∀ w ∈ u_ws zN6 zT6 7, w ∈ zT := fun w h => List.mem_filter.mpr ⟨zi_6 w h, zj_6 w h⟩
theorem zin_7 : ∀ w ∈ u_ws zN7 zT7 4, w ∈ zT := fun w h => List.mem_filter.mpr ⟨zi_7 w h, zj_7 w h⟩
theorem zin_8 : ∀ w ∈ u_ws zN8 zT8 7, w ∈ zT := fun w h => List.mem_filter.mpr ⟨zi_8 w h, zj_8 w h⟩
theorem zin_9 : ∀ w ∈ u_ws zN9 zT9 2, w ∈ zT := fun w h => List.mem_filter.mpr ⟨zi_9 w h, zj_9 w h⟩
theorem zin_10 : ∀ w ∈ u_ws zN10 zT10 8, w ∈ zT := fun w h => List.mem_filter.mpr ⟨zi_10 w h, zj_10 w h⟩
theorem zin_11 : ∀ w ∈ u_ws zN11 zT11 10, w ∈ zT := fun w h => List.mem_filter.mpr ⟨zi_11 w h, zj_11 w h⟩
theorem zin_12 : ∀ w ∈ u_ws zN12 zT12 57, w ∈ zT := fun w h => List.mem_filter.mpr ⟨zi_12 w h, zj_12 w h⟩
theorem zAT1 : zAT 1 .int .int := ⟨rfl, zTd (by decide +kernel), fun _ => ⟨0, rfl⟩, fun _ _ h => h⟩
theorem zAT2 : zAT 2 .long .long := ⟨rfl, zTd (by decide +kernel), fun _ => ⟨1, rfl⟩, fun _ _ h => h⟩
theorem zAT3 : zAT 3 .byte .byte := ⟨rfl, zTd (by decide +kernel), fun _ => ⟨2, rfl⟩, fun _ _ h => h⟩
theorem zAT4 : zAT 4 .boolean .boolean := ⟨rfl, zTd (by decide +kernel), fun _ => ⟨3, rfl⟩, fun _ _ h => h⟩
theorem cW_eq {X : cT} {pc : Nat} {ls : Array Slot} {st : List Value} {w w' : va_W} {n n' k k' : Nat} (h1 : w = w') (h2 : n = n') (h3 : k = k') (h : cW X pc ls st w n k) : cW X pc ls st w' n' k' := by subst h1; subst h2; subst h3; exact h
theorem cXl_E {X : cT} {l : Launch} {D : va_G} {cy : Nat → ClassId} {d : Nat} {N : List (Nat × Nat)} {ad : Nat → Nat → Nat} {Z : State → Prop} (h : cXl X l D cy d N ad Z) {t : Nat} (a0 : vp_A) : match X with | (_, (_, cy', _, _)) => (.inl (cy t, a0) : va_E) = .inl (cy' t, a0) := by
  obtain ⟨⟨p, l9, e, R, s, m, args, below, meth, c⟩, ⟨D9, cy9, A, Q⟩⟩ := X
  obtain ⟨rfl, rfl, rfl, rfl, hatN, hZs⟩ := h
  rfl
/-- the start: nothing but the usual law, the usual sliver, the words spelt -/
def hz0 : zH := (fun _ _ _ => 0, fun _ _ _ => 0)
def us5 (k : Nat) : Int32 := ([1, -2, -3, -8, -10] : List Int32).getD k 0
noncomputable def h0_ : zH := (fun K _ k => bif Nat.beq K 22 then us5 k else bif Nat.beq K 1 && Nat.beq k 2 then 5 else bif Nat.beq K 0 && Nat.beq k 11 then 2 else 0, fun K _ k => bif Nat.beq K 35 then (bif Nat.blt k 27 then lN (enc 32 (kws.getD k [])) else 0) else 0)
def y_X0_init : MethodName := ⟨"SoapTreaty$Congress", "<init>", "()V"⟩
def y_X1_init : MethodName := ⟨"SoapTreaty$Law", "<init>", "()V"⟩
def y_X2_init : MethodName := ⟨"SoapTreaty$LawReader", "<init>", "(LSoapTreaty$Tokens;LSoapTreaty$Law;)V"⟩
def y_X3_init : MethodName := ⟨"SoapTreaty$Lines", "<init>", "()V"⟩
def y_X4_init : MethodName := ⟨"SoapTreaty$Page", "<init>", "(LSoapTreaty$Congress;)V"⟩
def y_X5_init : MethodName := ⟨"SoapTreaty$Past", "<init>", "(LSoapTreaty$Congress;)V"⟩
def y_X6_init : MethodName := ⟨"SoapTreaty$Reader", "<init>", "(LSoapTreaty$Tape;LSoapTreaty$Congress;)V"⟩
def y_X7_init : MethodName := ⟨"SoapTreaty$Seen", "<init>", "()V"⟩
def y_X8_init : MethodName := ⟨"SoapTreaty$State", "<init>", "(LSoapTreaty$Congress;)V"⟩
def y_X9_init : MethodName := ⟨"SoapTreaty$Tape", "<init>", "()V"⟩
def y_X10_init : MethodName := ⟨"SoapTreaty$Tokens", "<init>", "(LSoapTreaty$Tape;)V"⟩
def y_X11_init : MethodName := ⟨"SoapTreaty", "<init>", "()V"⟩
def y_X12_init : MethodName := ⟨"SoapTreatyModel", "<init>", "()V"⟩
theorem pf_9_9 : zPF "SoapTreaty$Tape" 9 9 0 true (.array .byte) := ⟨zN9, zT9, 2, zF9, rfl, zin_9, zf_9, zn_9, by decide, zTd (by decide +kernel), rfl, rfl, rfl⟩
theorem pf_1_9 : zPF "SoapTreaty$Law" 9 1 0 true (.array .int) := ⟨zN1, zT1, 3, zF1, rfl, zin_1, zf_1, zn_1, by decide, zTd (by decide +kernel), rfl, rfl, rfl⟩
theorem pf_1_15 : zPF "SoapTreaty$Law" 15 1 1 true (.array .int) := ⟨zN1, zT1, 3, zF1, rfl, zin_1, zf_1, zn_1, by decide, zTd (by decide +kernel), rfl, rfl, rfl⟩
theorem pf_3_9 : zPF "SoapTreaty$Lines" 9 3 1 true (.array .int) := ⟨zN3, zT3, 4, zF3, rfl, zin_3, zf_3, zn_3, by decide, zTd (by decide +kernel), rfl, rfl, rfl⟩
theorem pf_3_13 : zPF "SoapTreaty$Lines" 13 3 2 true (.array .int) := ⟨zN3, zT3, 4, zF3, rfl, zin_3, zf_3, zn_3, by decide, zTd (by decide +kernel), rfl, rfl, rfl⟩
theorem pf_3_16 : zPF "SoapTreaty$Lines" 16 3 3 true (.array .int) := ⟨zN3, zT3, 4, zF3, rfl, zin_3, zf_3, zn_3, by decide, zTd (by decide +kernel), rfl, rfl, rfl⟩
theorem pf_7_9 : zPF "SoapTreaty$Seen" 9 7 1 true (.array .int) := ⟨zN7, zT7, 4, zF7, rfl, zin_7, zf_7, zn_7, by decide, zTd (by decide +kernel), rfl, rfl, rfl⟩
theorem pf_7_13 : zPF "SoapTreaty$Seen" 13 7 2 true (.array .int) := ⟨zN7, zT7, 4, zF7, rfl, zin_7, zf_7, zn_7, by decide, zTd (by decide +kernel), rfl, rfl, rfl⟩
theorem pf_7_16 : zPF "SoapTreaty$Seen" 16 7 3 true (.array .int) := ⟨zN7, zT7, 4, zF7, rfl, zin_7, zf_7, zn_7, by decide, zTd (by decide +kernel), rfl, rfl, rfl⟩
theorem pf_8_11 : zPF "SoapTreaty$State" 11 8 1 true (.array .int) := ⟨zN8, zT8, 7, zF8, rfl, zin_8, zf_8, zn_8, by decide, zTd (by decide +kernel), rfl, rfl, rfl⟩
theorem pf_8_17 : zPF "SoapTreaty$State" 17 8 2 true (.array .int) := ⟨zN8, zT8, 7, zF8, rfl, zin_8, zf_8, zn_8, by decide, zTd (by decide +kernel), rfl, rfl, rfl⟩
theorem pf_8_20 : zPF "SoapTreaty$State" 20 8 3 true (.array .int) := ⟨zN8, zT8, 7, zF8, rfl, zin_8, zf_8, zn_8, by decide, zTd (by decide +kernel), rfl, rfl, rfl⟩
theorem pf_8_23 : zPF "SoapTreaty$State" 23 8 0 true (.object "SoapTreaty$Congress") := ⟨zN8, zT8, 7, zF8, rfl, zin_8, zf_8, zn_8, by decide, zTd (by decide +kernel), rfl, rfl, rfl⟩
theorem pf_2_7 : zPF "SoapTreaty$LawReader" 7 2 0 true (.object "SoapTreaty$Tokens") := ⟨zN2, zT2, 2, zF2, rfl, zin_2, zf_2, zn_2, by decide, zTd (by decide +kernel), rfl, rfl, rfl⟩
theorem pf_2_13 : zPF "SoapTreaty$LawReader" 13 2 1 true (.object "SoapTreaty$Law") := ⟨zN2, zT2, 2, zF2, rfl, zin_2, zf_2, zn_2, by decide, zTd (by decide +kernel), rfl, rfl, rfl⟩
set_option maxRecDepth 100000 in
theorem k_X9_init {l : Launch} {D : va_G} {ad : Nat → Nat → Nat} {cy : Nat → ClassId} : zMi l D ad cy 1 y_X9_init (.code y_X9_init prog_11_method_1_code 1 none) 9 0 [] [(34, 0)] h0_ (fun _ => True) := by
  refine c_start (by decide) rfl (Nat.le_of_ble_eq_true rfl) ?_
  intro X ls C hX hQ hR hl hE
  refine cr_aload C hl (j := 0) (by decide +kernel : decode prog_11_method_1_code 0 = .ok (.aload_n 0, 1)) rfl ?_
  refine cr_obj C hl.1 (zTd (by decide +kernel)) (by decide +kernel : decode prog_11_method_1_code 1 = .ok (.invokespecial 1, 3)) ?_
  refine cr_aload C hl (j := 0) (by decide +kernel : decode prog_11_method_1_code 4 = .ok (.aload_n 0, 1)) rfl ?_
  refine cr_sipush C (v := nI 1000) (by decide +kernel : decode prog_11_method_1_code 5 = .ok (.sipush 1000, 3)) (by decide) ?_
  refine cr_newa C zAT3 (N := 1000) (a0 := (1000, .inl (fun _ => 0))) (fun _ => rfl) rfl (by decide) (by decide) (hQ 0 _ rfl) (hR _ _ (Nat.le_of_ble_eq_true rfl) (Nat.le_of_ble_eq_true rfl)) (by decide +kernel : decode prog_11_method_1_code 8 = .ok (.newarray .byte, 2)) (cXl_E hX _) ?_
  refine cr_putF C pf_9_9 rfl rfl (Nat.le_of_ble_eq_true rfl) (by decide +kernel : decode prog_11_method_1_code 10 = .ok (.putfield 9, 3)) ?_
  exact cW_eq rfl rfl rfl (hE 13 ls (by decide +kernel : decode prog_11_method_1_code 13 = .ok (.return_, 1)))
set_option maxRecDepth 100000 in
theorem k_X1_init {l : Launch} {D : va_G} {ad : Nat → Nat → Nat} {cy : Nat → ClassId} {j : Nat} : zMi l D ad cy 1 y_X1_init (.code y_X1_init prog_3_method_1_code 1 none) 1 j [] [(22, j), (23, j)] hz0 (fun _ => True) := by
  refine c_start (by decide) rfl (Nat.le_of_ble_eq_true rfl) ?_
  intro X ls C hX hQ hR hl hE
  refine cr_aload C hl (j := 0) (by decide +kernel : decode prog_3_method_1_code 0 = .ok (.aload_n 0, 1)) rfl ?_
  refine cr_obj C hl.1 (zTd (by decide +kernel)) (by decide +kernel : decode prog_3_method_1_code 1 = .ok (.invokespecial 1, 3)) ?_
  refine cr_aload C hl (j := 0) (by decide +kernel : decode prog_3_method_1_code 4 = .ok (.aload_n 0, 1)) rfl ?_
  refine cr_sipush C (v := nI 1000) (by decide +kernel : decode prog_3_method_1_code 5 = .ok (.sipush 1000, 3)) (by decide) ?_
  refine cr_newa C zAT1 (N := 1000) (a0 := (1000, .inl (fun _ => 0))) (fun _ => rfl) rfl (by decide) (by decide) (hQ 0 _ rfl) (hR _ _ (Nat.le_of_ble_eq_true rfl) (Nat.le_of_ble_eq_true rfl)) (by decide +kernel : decode prog_3_method_1_code 8 = .ok (.newarray .int, 2)) (cXl_E hX _) ?_
  refine cr_putF C pf_1_9 rfl rfl (Nat.le_of_ble_eq_true rfl) (by decide +kernel : decode prog_3_method_1_code 10 = .ok (.putfield 9, 3)) ?_
  refine cr_aload C hl (j := 0) (by decide +kernel : decode prog_3_method_1_code 13 = .ok (.aload_n 0, 1)) rfl ?_
  refine cr_bipush C (v := nI 24) (by decide +kernel : decode prog_3_method_1_code 14 = .ok (.bipush 24, 2)) (by decide) ?_
  refine cr_newa C zAT1 (N := 24) (a0 := (24, .inl (fun _ => 0))) (fun _ => rfl) rfl (by decide) (by decide) (hQ 1 _ rfl) (hR _ _ (Nat.le_of_ble_eq_true rfl) (Nat.le_of_ble_eq_true rfl)) (by decide +kernel : decode prog_3_method_1_code 16 = .ok (.newarray .int, 2)) (cXl_E hX _) ?_
  refine cr_putF C pf_1_15 rfl rfl (Nat.le_of_ble_eq_true rfl) (by decide +kernel : decode prog_3_method_1_code 18 = .ok (.putfield 15, 3)) ?_
  exact cW_eq rfl rfl rfl (hE 21 ls (by decide +kernel : decode prog_3_method_1_code 21 = .ok (.return_, 1)))
set_option maxRecDepth 100000 in
theorem k_X3_init {l : Launch} {D : va_G} {ad : Nat → Nat → Nat} {cy : Nat → ClassId} {j : Nat} : zMi l D ad cy 1 y_X3_init (.code y_X3_init prog_5_method_1_code 1 none) 3 j [] [(24, j), (25, j), (26, j)] h0_ (fun _ => True) := by
  refine c_start (by decide) rfl (Nat.le_of_ble_eq_true rfl) ?_
  intro X ls C hX hQ hR hl hE
  refine cr_aload C hl (j := 0) (by decide +kernel : decode prog_5_method_1_code 0 = .ok (.aload_n 0, 1)) rfl ?_
  refine cr_obj C hl.1 (zTd (by decide +kernel)) (by decide +kernel : decode prog_5_method_1_code 1 = .ok (.invokespecial 1, 3)) ?_
  refine cr_aload C hl (j := 0) (by decide +kernel : decode prog_5_method_1_code 4 = .ok (.aload_n 0, 1)) rfl ?_
  refine cr_bipush C (v := nI 40) (by decide +kernel : decode prog_5_method_1_code 5 = .ok (.bipush 40, 2)) (by decide) ?_
  refine cr_newa C zAT1 (N := 40) (a0 := (40, .inl (fun _ => 0))) (fun _ => rfl) rfl (by decide) (by decide) (hQ 0 _ rfl) (hR _ _ (Nat.le_of_ble_eq_true rfl) (Nat.le_of_ble_eq_true rfl)) (by decide +kernel : decode prog_5_method_1_code 7 = .ok (.newarray .int, 2)) (cXl_E hX _) ?_
  refine cr_putF C pf_3_9 rfl rfl (Nat.le_of_ble_eq_true rfl) (by decide +kernel : decode prog_5_method_1_code 9 = .ok (.putfield 9, 3)) ?_
  refine cr_aload C hl (j := 0) (by decide +kernel : decode prog_5_method_1_code 12 = .ok (.aload_n 0, 1)) rfl ?_
  refine cr_bipush C (v := nI 40) (by decide +kernel : decode prog_5_method_1_code 13 = .ok (.bipush 40, 2)) (by decide) ?_
  refine cr_newa C zAT1 (N := 40) (a0 := (40, .inl (fun _ => 0))) (fun _ => rfl) rfl (by decide) (by decide) (hQ 1 _ rfl) (hR _ _ (Nat.le_of_ble_eq_true rfl) (Nat.le_of_ble_eq_true rfl)) (by decide +kernel : decode prog_5_method_1_code 15 = .ok (.newarray .int, 2)) (cXl_E hX _) ?_
  refine cr_putF C pf_3_13 rfl rfl (Nat.le_of_ble_eq_true rfl) (by decide +kernel : decode prog_5_method_1_code 17 = .ok (.putfield 13, 3)) ?_
  refine cr_aload C hl (j := 0) (by decide +kernel : decode prog_5_method_1_code 20 = .ok (.aload_n 0, 1)) rfl ?_
  refine cr_bipush C (v := nI 40) (by decide +kernel : decode prog_5_method_1_code 21 = .ok (.bipush 40, 2)) (by decide) ?_
  refine cr_newa C zAT1 (N := 40) (a0 := (40, .inl (fun _ => 0))) (fun _ => rfl) rfl (by decide) (by decide) (hQ 2 _ rfl) (hR _ _ (Nat.le_of_ble_eq_true rfl) (Nat.le_of_ble_eq_true rfl)) (by decide +kernel : decode prog_5_method_1_code 23 = .ok (.newarray .int, 2)) (cXl_E hX _) ?_
  refine cr_putF C pf_3_16 rfl rfl (Nat.le_of_ble_eq_true rfl) (by decide +kernel : decode prog_5_method_1_code 25 = .ok (.putfield 16, 3)) ?_
  exact cW_eq rfl rfl rfl (hE 28 ls (by decide +kernel : decode prog_5_method_1_code 28 = .ok (.return_, 1)))
set_option maxRecDepth 100000 in
theorem k_X7_init {l : Launch} {D : va_G} {ad : Nat → Nat → Nat} {cy : Nat → ClassId} {j : Nat} : zMi l D ad cy 1 y_X7_init (.code y_X7_init prog_9_method_1_code 1 none) 7 j [] [(28, j), (29, j), (30, j)] h0_ (fun _ => True) := by
  refine c_start (by decide) rfl (Nat.le_of_ble_eq_true rfl) ?_
  intro X ls C hX hQ hR hl hE
  refine cr_aload C hl (j := 0) (by decide +kernel : decode prog_9_method_1_code 0 = .ok (.aload_n 0, 1)) rfl ?_
  refine cr_obj C hl.1 (zTd (by decide +kernel)) (by decide +kernel : decode prog_9_method_1_code 1 = .ok (.invokespecial 1, 3)) ?_
  refine cr_aload C hl (j := 0) (by decide +kernel : decode prog_9_method_1_code 4 = .ok (.aload_n 0, 1)) rfl ?_
  refine cr_bipush C (v := nI 8) (by decide +kernel : decode prog_9_method_1_code 5 = .ok (.bipush 8, 2)) (by decide) ?_
  refine cr_newa C zAT1 (N := 8) (a0 := (8, .inl (fun _ => 0))) (fun _ => rfl) rfl (by decide) (by decide) (hQ 0 _ rfl) (hR _ _ (Nat.le_of_ble_eq_true rfl) (Nat.le_of_ble_eq_true rfl)) (by decide +kernel : decode prog_9_method_1_code 7 = .ok (.newarray .int, 2)) (cXl_E hX _) ?_
  refine cr_putF C pf_7_9 rfl rfl (Nat.le_of_ble_eq_true rfl) (by decide +kernel : decode prog_9_method_1_code 9 = .ok (.putfield 9, 3)) ?_
  refine cr_aload C hl (j := 0) (by decide +kernel : decode prog_9_method_1_code 12 = .ok (.aload_n 0, 1)) rfl ?_
  refine cr_bipush C (v := nI 8) (by decide +kernel : decode prog_9_method_1_code 13 = .ok (.bipush 8, 2)) (by decide) ?_
  refine cr_newa C zAT1 (N := 8) (a0 := (8, .inl (fun _ => 0))) (fun _ => rfl) rfl (by decide) (by decide) (hQ 1 _ rfl) (hR _ _ (Nat.le_of_ble_eq_true rfl) (Nat.le_of_ble_eq_true rfl)) (by decide +kernel : decode prog_9_method_1_code 15 = .ok (.newarray .int, 2)) (cXl_E hX _) ?_
  refine cr_putF C pf_7_13 rfl rfl (Nat.le_of_ble_eq_true rfl) (by decide +kernel : decode prog_9_method_1_code 17 = .ok (.putfield 13, 3)) ?_
  refine cr_aload C hl (j := 0) (by decide +kernel : decode prog_9_method_1_code 20 = .ok (.aload_n 0, 1)) rfl ?_
  refine cr_bipush C (v := nI 8) (by decide +kernel : decode prog_9_method_1_code 21 = .ok (.bipush 8, 2)) (by decide) ?_
  refine cr_newa C zAT1 (N := 8) (a0 := (8, .inl (fun _ => 0))) (fun _ => rfl) rfl (by decide) (by decide) (hQ 2 _ rfl) (hR _ _ (Nat.le_of_ble_eq_true rfl) (Nat.le_of_ble_eq_true rfl)) (by decide +kernel : decode prog_9_method_1_code 23 = .ok (.newarray .int, 2)) (cXl_E hX _) ?_
  refine cr_putF C pf_7_16 rfl rfl (Nat.le_of_ble_eq_true rfl) (by decide +kernel : decode prog_9_method_1_code 25 = .ok (.putfield 16, 3)) ?_
  exact cW_eq rfl rfl rfl (hE 28 ls (by decide +kernel : decode prog_9_method_1_code 28 = .ok (.return_, 1)))
set_option maxRecDepth 100000 in
theorem k_X8_init {l : Launch} {D : va_G} {ad : Nat → Nat → Nat} {cy : Nat → ClassId} {j : Nat} : zMi l D ad cy 1 y_X8_init (.code y_X8_init prog_10_method_1_code 2 none) 8 j [.ref (ad 0 0)] [(31, j), (32, j), (33, j)] h0_ (fun _ => True) := by
  refine c_start (by decide) rfl (Nat.le_of_ble_eq_true rfl) ?_
  intro X ls C hX hQ hR hl hE
  refine cr_aload C hl (j := 0) (by decide +kernel : decode prog_10_method_1_code 0 = .ok (.aload_n 0, 1)) rfl ?_
  refine cr_obj C hl.1 (zTd (by decide +kernel)) (by decide +kernel : decode prog_10_method_1_code 1 = .ok (.invokespecial 3, 3)) ?_
  refine cr_aload C hl (j := 0) (by decide +kernel : decode prog_10_method_1_code 4 = .ok (.aload_n 0, 1)) rfl ?_
  refine cr_bipush C (v := nI 7) (by decide +kernel : decode prog_10_method_1_code 5 = .ok (.bipush 7, 2)) (by decide) ?_
  refine cr_newa C zAT1 (N := 7) (a0 := (7, .inl (fun _ => 0))) (fun _ => rfl) rfl (by decide) (by decide) (hQ 0 _ rfl) (hR _ _ (Nat.le_of_ble_eq_true rfl) (Nat.le_of_ble_eq_true rfl)) (by decide +kernel : decode prog_10_method_1_code 7 = .ok (.newarray .int, 2)) (cXl_E hX _) ?_
  refine cr_putF C pf_8_11 rfl rfl (Nat.le_of_ble_eq_true rfl) (by decide +kernel : decode prog_10_method_1_code 9 = .ok (.putfield 11, 3)) ?_
  refine cr_aload C hl (j := 0) (by decide +kernel : decode prog_10_method_1_code 12 = .ok (.aload_n 0, 1)) rfl ?_
  refine cr_bipush C (v := nI 7) (by decide +kernel : decode prog_10_method_1_code 13 = .ok (.bipush 7, 2)) (by decide) ?_
  refine cr_newa C zAT1 (N := 7) (a0 := (7, .inl (fun _ => 0))) (fun _ => rfl) rfl (by decide) (by decide) (hQ 1 _ rfl) (hR _ _ (Nat.le_of_ble_eq_true rfl) (Nat.le_of_ble_eq_true rfl)) (by decide +kernel : decode prog_10_method_1_code 15 = .ok (.newarray .int, 2)) (cXl_E hX _) ?_
  refine cr_putF C pf_8_17 rfl rfl (Nat.le_of_ble_eq_true rfl) (by decide +kernel : decode prog_10_method_1_code 17 = .ok (.putfield 17, 3)) ?_
  refine cr_aload C hl (j := 0) (by decide +kernel : decode prog_10_method_1_code 20 = .ok (.aload_n 0, 1)) rfl ?_
  refine cr_bipush C (v := nI 7) (by decide +kernel : decode prog_10_method_1_code 21 = .ok (.bipush 7, 2)) (by decide) ?_
  refine cr_newa C zAT1 (N := 7) (a0 := (7, .inl (fun _ => 0))) (fun _ => rfl) rfl (by decide) (by decide) (hQ 2 _ rfl) (hR _ _ (Nat.le_of_ble_eq_true rfl) (Nat.le_of_ble_eq_true rfl)) (by decide +kernel : decode prog_10_method_1_code 23 = .ok (.newarray .int, 2)) (cXl_E hX _) ?_
  refine cr_putF C pf_8_20 rfl rfl (Nat.le_of_ble_eq_true rfl) (by decide +kernel : decode prog_10_method_1_code 25 = .ok (.putfield 20, 3)) ?_
  refine cr_aload C hl (j := 0) (by decide +kernel : decode prog_10_method_1_code 28 = .ok (.aload_n 0, 1)) rfl ?_
  refine cr_aload C hl (j := 1) (by decide +kernel : decode prog_10_method_1_code 29 = .ok (.aload_n 1, 1)) rfl ?_
  refine cr_putF C pf_8_23 rfl rfl (Nat.le_of_ble_eq_true rfl) (by decide +kernel : decode prog_10_method_1_code 30 = .ok (.putfield 23, 3)) ?_
  exact cW_eq rfl rfl rfl (hE 33 ls (by decide +kernel : decode prog_10_method_1_code 33 = .ok (.return_, 1)))
set_option maxRecDepth 100000 in
theorem k_X2_init {l : Launch} {D : va_G} {ad : Nat → Nat → Nat} {cy : Nat → ClassId} : zMi l D ad cy 1 y_X2_init (.code y_X2_init prog_4_method_1_code 3 none) 2 0 [.ref (ad 10 0), .ref (ad 1 1)] [] h0_ (fun _ => True) := by
  refine c_start (by decide) rfl (Nat.le_of_ble_eq_true rfl) ?_
  intro X ls C hX hQ hR hl hE
  refine cr_aload C hl (j := 0) (by decide +kernel : decode prog_4_method_1_code 0 = .ok (.aload_n 0, 1)) rfl ?_
  refine cr_obj C hl.1 (zTd (by decide +kernel)) (by decide +kernel : decode prog_4_method_1_code 1 = .ok (.invokespecial 1, 3)) ?_
  refine cr_aload C hl (j := 0) (by decide +kernel : decode prog_4_method_1_code 4 = .ok (.aload_n 0, 1)) rfl ?_
  refine cr_aload C hl (j := 1) (by decide +kernel : decode prog_4_method_1_code 5 = .ok (.aload_n 1, 1)) rfl ?_
  refine cr_putF C pf_2_7 rfl rfl (Nat.le_of_ble_eq_true rfl) (by decide +kernel : decode prog_4_method_1_code 6 = .ok (.putfield 7, 3)) ?_
  refine cr_aload C hl (j := 0) (by decide +kernel : decode prog_4_method_1_code 9 = .ok (.aload_n 0, 1)) rfl ?_
  refine cr_aload C hl (j := 2) (by decide +kernel : decode prog_4_method_1_code 10 = .ok (.aload_n 2, 1)) rfl ?_
  refine cr_putF C pf_2_13 rfl rfl (Nat.le_of_ble_eq_true rfl) (by decide +kernel : decode prog_4_method_1_code 11 = .ok (.putfield 13, 3)) ?_
  exact cW_eq rfl rfl rfl (hE 14 ls (by decide +kernel : decode prog_4_method_1_code 14 = .ok (.return_, 1)))
