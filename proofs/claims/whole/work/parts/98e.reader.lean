/-! Reader's constructor. (By program: wip/whole/init6.py) -/
theorem pf_6_9 : zPF "SoapTreaty$Reader" 9 6 2 true (.object "SoapTreaty$Congress") := ⟨zN6, zT6, 7, zF6, rfl, zin_6, zf_6, zn_6, by decide, zTd (by decide +kernel), rfl, rfl, rfl⟩
theorem pf_6_18 : zPF "SoapTreaty$Reader" 18 6 0 true (.object "SoapTreaty$Congress") := ⟨zN6, zT6, 7, zF6, rfl, zin_6, zf_6, zn_6, by decide, zTd (by decide +kernel), rfl, rfl, rfl⟩
theorem pf_6_24 : zPF "SoapTreaty$Reader" 24 6 1 true (.object "SoapTreaty$Lines") := ⟨zN6, zT6, 7, zF6, rfl, zin_6, zf_6, zn_6, by decide, zTd (by decide +kernel), rfl, rfl, rfl⟩
theorem pf_6_33 : zPF "SoapTreaty$Reader" 33 6 3 true (.object "SoapTreaty$Tokens") := ⟨zN6, zT6, 7, zF6, rfl, zin_6, zf_6, zn_6, by decide, zTd (by decide +kernel), rfl, rfl, rfl⟩
theorem pg_6_33 : ∃ (Cn : String) (T : u_T) (N : Nat), zcl[6]? = some (Cn, T, N) ∧ (∀ w ∈ u_ws Cn T N, w ∈ zT) ∧ 3 < N ∧ Cond.fieldLink "SoapTreaty$Reader" 33 (T 3).1 (T 3).2.1 (T 3).2.2.1 ∈ zT := ⟨zN6, zT6, 7, rfl, zin_6, by decide, zTd (by decide +kernel)⟩
theorem pg_6_18 : ∃ (Cn : String) (T : u_T) (N : Nat), zcl[6]? = some (Cn, T, N) ∧ (∀ w ∈ u_ws Cn T N, w ∈ zT) ∧ 0 < N ∧ Cond.fieldLink "SoapTreaty$Reader" 18 (T 0).1 (T 0).2.1 (T 0).2.2.1 ∈ zT := ⟨zN6, zT6, 7, rfl, zin_6, by decide, zTd (by decide +kernel)⟩
theorem pg_6_39 : ∃ (Cn : String) (T : u_T) (N : Nat), zcl[0]? = some (Cn, T, N) ∧ (∀ w ∈ u_ws Cn T N, w ∈ zT) ∧ 12 < N ∧ Cond.fieldLink "SoapTreaty$Reader" 39 (T 12).1 (T 12).2.1 (T 12).2.2.1 ∈ zT := ⟨zN0, zT0, 13, rfl, zin_0, by decide, zTd (by decide +kernel)⟩
theorem pf_6_46 : zPF "SoapTreaty$Reader" 46 6 4 true (.object "SoapTreaty$LawReader") := ⟨zN6, zT6, 7, zF6, rfl, zin_6, zf_6, zn_6, by decide, zTd (by decide +kernel), rfl, rfl, rfl⟩
theorem sl_X6_init : zsl [(0, 1), (13, 1), (14, 1), (15, 1), (16, 1), (17, 1), (18, 1), (19, 1), (20, 1), (21, 1), (1, 1), (22, 1), (23, 1), (3, 5), (24, 5), (25, 5), (26, 5), (10, 0), (35, 0), (2, 0)] = 1258 := by
  simp only [zsl, List.map_cons, List.map_nil, List.sum_cons, List.sum_nil, Nat.reduceAdd, szk_0, szk_1, szk_10, szk_13, szk_14, szk_15, szk_16, szk_17, szk_18, szk_19, szk_2, szk_20, szk_21, szk_22, szk_23, szk_24, szk_25, szk_26, szk_3, szk_35]
set_option maxRecDepth 100000 in
theorem k_X6_init {l : Launch} {D : va_G} {ad : Nat → Nat → Nat} {cy : Nat → ClassId} {b0 qK qV : Nat} (hb : b0 ≤ ad 6 0) (hb10 : b0 ≤ ad 10 0) : zMi l D ad cy 6 y_X6_init (.code y_X6_init prog_8_method_1_code 3 none) 6 0 [.ref (ad 9 0), .ref (ad 0 0)] [(0, 1), (13, 1), (14, 1), (15, 1), (16, 1), (17, 1), (18, 1), (19, 1), (20, 1), (21, 1), (1, 1), (22, 1), (23, 1), (3, 5), (24, 5), (25, 5), (26, 5), (10, 0), (35, 0), (2, 0)] h0_ (zZ1 b0 qK qV) := by
  refine c_startZ (by decide) rfl (Nat.le_of_ble_eq_true rfl) ?_
  intro X ls C hX hA hQ hR hl hE
  have hR : ∀ n k, n ≤ 20 → k ≤ 1258 → cR X n k := fun n k a b => hR n k a (Nat.le_trans b (Nat.le_of_eq sl_X6_init.symm))
  rw [sl_X6_init] at hE
  have hE : ∀ pc ls, decode prog_8_method_1_code pc = .ok (.return_, 1) → cW X pc ls [] (zws ad cy ((6, 0) :: [(0, 1), (13, 1), (14, 1), (15, 1), (16, 1), (17, 1), (18, 1), (19, 1), (20, 1), (21, 1), (1, 1), (22, 1), (23, 1), (3, 5), (24, 5), (25, 5), (26, 5), (10, 0), (35, 0), (2, 0)]) h0_) 20 1258 := hE
  refine cr_aload C hl (j := 0) (by decide +kernel : decode prog_8_method_1_code 0 = .ok (.aload_n 0, 1)) rfl ?_
  refine cr_obj C hl.1 (zTd (by decide +kernel)) (by decide +kernel : decode prog_8_method_1_code 1 = .ok (.invokespecial 3, 3)) ?_
  refine cr_aload C hl (j := 0) (by decide +kernel : decode prog_8_method_1_code 4 = .ok (.aload_n 0, 1)) rfl ?_
  refine cr_aload C hl (j := 2) (by decide +kernel : decode prog_8_method_1_code 5 = .ok (.aload_n 2, 1)) rfl ?_
  refine cr_putF C pf_6_9 rfl rfl (Nat.le_of_ble_eq_true rfl) (by decide +kernel : decode prog_8_method_1_code 6 = .ok (.putfield 9, 3)) ?_
  refine cr_aload C hl (j := 0) (by decide +kernel : decode prog_8_method_1_code 9 = .ok (.aload_n 0, 1)) rfl ?_
  refine cr_new C zCL_0 (zTd (by decide +kernel)) (hQ 0 _ rfl) (hR _ _ (by decide) (by decide)) (by decide +kernel : decode prog_8_method_1_code 10 = .ok (.new 15, 3)) ?_
  refine cW_nk (n' := 1) (k' := 13) rfl rfl ?_
  refine cr_dup C (by decide +kernel : decode prog_8_method_1_code 13 = .ok (.dup, 1)) ?_
  refine cr_kid C hX (n2 := 0) (as := []) (k_X0_init (Or.inr rfl)) (fun _ _ _ _ h => h) (cz_T) (cz_at hX [(0, 1)] [(3, 5), (24, 5), (25, 5), (26, 5), (10, 0), (35, 0), (2, 0)] rfl rfl) (by decide) (by decide) (zTd (by decide +kernel)) (zTd (by decide +kernel)) (zTd (by decide +kernel)) (zTd (by decide +kernel)) rfl (by decide) (by decide) (by decide +kernel) rfl hl.1 (Nat.le_of_ble_eq_true rfl) (hR 13 1097 (by decide) (by decide)) (by decide +kernel : decode prog_8_method_1_code 14 = .ok (.invokespecial 17, 3)) ?_
  refine cW_nk (n' := 13) (k' := 1097) rfl rfl ?_
  refine cr_putF C pf_6_18 rfl rfl (Nat.le_of_ble_eq_true rfl) (by decide +kernel : decode prog_8_method_1_code 17 = .ok (.putfield 18, 3)) ?_
  refine cr_aload C hl (j := 0) (by decide +kernel : decode prog_8_method_1_code 20 = .ok (.aload_n 0, 1)) rfl ?_
  refine cr_new C zCL_3 (zTd (by decide +kernel)) (hQ 13 _ rfl) (hR _ _ (by decide) (by decide)) (by decide +kernel : decode prog_8_method_1_code 21 = .ok (.new 21, 3)) ?_
  refine cW_nk (n' := 14) (k' := 1101) rfl rfl ?_
  refine cr_dup C (by decide +kernel : decode prog_8_method_1_code 24 = .ok (.dup, 1)) ?_
  refine cr_kidN C hX (n2 := 0) (as := []) (k_X3_init) (fun _ _ _ _ h => h) (cz_T) (cz_at hX [(0, 1), (13, 1), (14, 1), (15, 1), (16, 1), (17, 1), (18, 1), (19, 1), (20, 1), (21, 1), (1, 1), (22, 1), (23, 1), (3, 5)] [(10, 0), (35, 0), (2, 0)] rfl rfl) (by decide) (by decide) (cz_N5 C) (zTd (by decide +kernel)) (zTd (by decide +kernel)) (zTd (by decide +kernel)) rfl (by decide) (by decide) (by decide +kernel) rfl hl.1 (Nat.le_of_ble_eq_true rfl) (hR 17 1221 (by decide) (by decide)) (by decide +kernel : decode prog_8_method_1_code 25 = .ok (.invokespecial 23, 3)) ?_
  refine cW_nk (n' := 17) (k' := 1221) rfl rfl ?_
  refine cr_putF C pf_6_24 rfl rfl (Nat.le_of_ble_eq_true rfl) (by decide +kernel : decode prog_8_method_1_code 28 = .ok (.putfield 24, 3)) ?_
  refine cr_aload C hl (j := 0) (by decide +kernel : decode prog_8_method_1_code 31 = .ok (.aload_n 0, 1)) rfl ?_
  refine cr_new C zCL_10 (zTd (by decide +kernel)) (hQ 17 _ rfl) (hR _ _ (by decide) (by decide)) (by decide +kernel : decode prog_8_method_1_code 32 = .ok (.new 28, 3)) ?_
  refine cW_nk (n' := 18) (k' := 1229) rfl rfl ?_
  refine cr_dup C (by decide +kernel : decode prog_8_method_1_code 35 = .ok (.dup, 1)) ?_
  refine cr_aload C hl (j := 1) (by decide +kernel : decode prog_8_method_1_code 36 = .ok (.aload_n 1, 1)) rfl ?_
  refine cr_kid C hX (n2 := 1) (as := [.ref (ad 9 0)]) (k_X10_init hb10) zZ1.blind (cz_Z hX hA hb) (cz_at hX [(0, 1), (13, 1), (14, 1), (15, 1), (16, 1), (17, 1), (18, 1), (19, 1), (20, 1), (21, 1), (1, 1), (22, 1), (23, 1), (3, 5), (24, 5), (25, 5), (26, 5), (10, 0)] [(2, 0)] rfl rfl) (by decide) (by decide) (zTd (by decide +kernel)) (zTd (by decide +kernel)) (zTd (by decide +kernel)) (zTd (by decide +kernel)) rfl (by decide) (by decide) (by decide +kernel) rfl hl.1 (Nat.le_of_ble_eq_true rfl) (hR 19 1256 (by decide) (by decide)) (by decide +kernel : decode prog_8_method_1_code 37 = .ok (.invokespecial 30, 3)) ?_
  refine cW_nk (n' := 19) (k' := 1256) rfl rfl ?_
  refine cr_putF C pf_6_33 rfl rfl (Nat.le_of_ble_eq_true rfl) (by decide +kernel : decode prog_8_method_1_code 40 = .ok (.putfield 33, 3)) ?_
  refine cr_aload C hl (j := 0) (by decide +kernel : decode prog_8_method_1_code 43 = .ok (.aload_n 0, 1)) rfl ?_
  refine cr_new C zCL_2 (zTd (by decide +kernel)) (hQ 19 _ rfl) (hR _ _ (by decide) (by decide)) (by decide +kernel : decode prog_8_method_1_code 44 = .ok (.new 37, 3)) ?_
  refine cW_nk (n' := 20) (k' := 1258) rfl rfl ?_
  refine cr_dup C (by decide +kernel : decode prog_8_method_1_code 47 = .ok (.dup, 1)) ?_
  refine cr_aload C hl (j := 0) (by decide +kernel : decode prog_8_method_1_code 48 = .ok (.aload_n 0, 1)) rfl ?_
  refine cr_get C (ci := 6) (K := 6) (kf := 3) 0 rfl pg_6_33 rfl rfl (by decide +kernel : decode prog_8_method_1_code 49 = .ok (.getfield 33, 3)) ?_
  refine cr_aload C hl (j := 0) (by decide +kernel : decode prog_8_method_1_code 52 = .ok (.aload_n 0, 1)) rfl ?_
  refine cr_get C (ci := 6) (K := 6) (kf := 0) 0 rfl pg_6_18 rfl rfl (by decide +kernel : decode prog_8_method_1_code 53 = .ok (.getfield 18, 3)) ?_
  refine cr_get C (ci := 0) (K := 0) (kf := 12) 1 rfl pg_6_39 rfl rfl (by decide +kernel : decode prog_8_method_1_code 56 = .ok (.getfield 39, 3)) ?_
  refine cr_kid C hX (n2 := 2) (as := [.ref (ad 10 0), .ref (ad 1 1)]) (k_X2_init) (fun _ _ _ _ h => h) (cz_T) (cz_at hX [(0, 1), (13, 1), (14, 1), (15, 1), (16, 1), (17, 1), (18, 1), (19, 1), (20, 1), (21, 1), (1, 1), (22, 1), (23, 1), (3, 5), (24, 5), (25, 5), (26, 5), (10, 0), (35, 0), (2, 0)] [] rfl rfl) (by decide) (by decide) (zTd (by decide +kernel)) (zTd (by decide +kernel)) (zTd (by decide +kernel)) (zTd (by decide +kernel)) rfl (by decide) (by decide) (by decide +kernel) rfl hl.1 (Nat.le_of_ble_eq_true rfl) (hR 20 1258 (by decide) (by decide)) (by decide +kernel : decode prog_8_method_1_code 59 = .ok (.invokespecial 43, 3)) ?_
  refine cW_nk (n' := 20) (k' := 1258) rfl rfl ?_
  refine cr_putF C pf_6_46 rfl rfl (Nat.le_of_ble_eq_true rfl) (by decide +kernel : decode prog_8_method_1_code 62 = .ok (.putfield 46, 3)) ?_
  exact cW_eq rfl rfl rfl (hE 65 ls (by decide +kernel : decode prog_8_method_1_code 65 = .ok (.return_, 1)))
