/-! Congress, Page, the model. (By program: wip/whole/init3.py) -/
theorem zCL_0 : zCL 0 "SoapTreaty$Congress" 13 := ⟨zT0, rfl, zin_0, zTd (by decide +kernel), zTd (by decide +kernel), zF0, zf_0, by decide +kernel⟩
theorem zCL_1 : zCL 1 "SoapTreaty$Law" 3 := ⟨zT1, rfl, zin_1, zTd (by decide +kernel), zTd (by decide +kernel), zF1, zf_1, by decide +kernel⟩
theorem zCL_2 : zCL 2 "SoapTreaty$LawReader" 2 := ⟨zT2, rfl, zin_2, zTd (by decide +kernel), zTd (by decide +kernel), zF2, zf_2, by decide +kernel⟩
theorem zCL_3 : zCL 3 "SoapTreaty$Lines" 4 := ⟨zT3, rfl, zin_3, zTd (by decide +kernel), zTd (by decide +kernel), zF3, zf_3, by decide +kernel⟩
theorem zCL_4 : zCL 4 "SoapTreaty$Page" 3 := ⟨zT4, rfl, zin_4, zTd (by decide +kernel), zTd (by decide +kernel), zF4, zf_4, by decide +kernel⟩
theorem zCL_5 : zCL 5 "SoapTreaty$Past" 3 := ⟨zT5, rfl, zin_5, zTd (by decide +kernel), zTd (by decide +kernel), zF5, zf_5, by decide +kernel⟩
theorem zCL_6 : zCL 6 "SoapTreaty$Reader" 7 := ⟨zT6, rfl, zin_6, zTd (by decide +kernel), zTd (by decide +kernel), zF6, zf_6, by decide +kernel⟩
theorem zCL_7 : zCL 7 "SoapTreaty$Seen" 4 := ⟨zT7, rfl, zin_7, zTd (by decide +kernel), zTd (by decide +kernel), zF7, zf_7, by decide +kernel⟩
theorem zCL_8 : zCL 8 "SoapTreaty$State" 7 := ⟨zT8, rfl, zin_8, zTd (by decide +kernel), zTd (by decide +kernel), zF8, zf_8, by decide +kernel⟩
theorem zCL_9 : zCL 9 "SoapTreaty$Tape" 2 := ⟨zT9, rfl, zin_9, zTd (by decide +kernel), zTd (by decide +kernel), zF9, zf_9, by decide +kernel⟩
theorem zCL_10 : zCL 10 "SoapTreaty$Tokens" 8 := ⟨zT10, rfl, zin_10, zTd (by decide +kernel), zTd (by decide +kernel), zF10, zf_10, by decide +kernel⟩
theorem zCL_11 : zCL 11 "SoapTreaty" 10 := ⟨zT11, rfl, zin_11, zTd (by decide +kernel), zTd (by decide +kernel), zF11, zf_11, by decide +kernel⟩
theorem zCL_12 : zCL 12 "SoapTreatyModel" 57 := ⟨zT12, rfl, zin_12, zTd (by decide +kernel), zTd (by decide +kernel), zF12, zf_12, by decide +kernel⟩
theorem cz_T {X : cT} : match X with | ((_, _, _, _, s, _, _, _, _, _), (_, _, A, _)) => ∀ (H : Heap) (locs : List Loc) (U : State), va_S A s.heap H locs → U.heap = H → s.WarmedH U.vm → (fun _ : State => True) U := by
  obtain ⟨⟨p, l9, e, R, s, m, args, below, meth, c⟩, ⟨D9, cy9, A, Q⟩⟩ := X
  intro H locs U _ _ _
  trivial
theorem szk_0 {j : Nat} : zsz (0, j) = 13 := rfl
theorem szk_1 {j : Nat} : zsz (1, j) = 3 := rfl
theorem szk_2 {j : Nat} : zsz (2, j) = 2 := rfl
theorem szk_3 {j : Nat} : zsz (3, j) = 4 := rfl
theorem szk_4 {j : Nat} : zsz (4, j) = 3 := rfl
theorem szk_5 {j : Nat} : zsz (5, j) = 3 := rfl
theorem szk_6 {j : Nat} : zsz (6, j) = 7 := rfl
theorem szk_7 {j : Nat} : zsz (7, j) = 4 := rfl
theorem szk_8 {j : Nat} : zsz (8, j) = 7 := rfl
theorem szk_9 {j : Nat} : zsz (9, j) = 2 := rfl
theorem szk_10 {j : Nat} : zsz (10, j) = 8 := rfl
theorem szk_11 {j : Nat} : zsz (11, j) = 10 := rfl
theorem szk_12 {j : Nat} : zsz (12, j) = 57 := rfl
theorem szk_13 {j : Nat} : zsz (13, j) = 5 := rfl
theorem szk_14 {j : Nat} : zsz (14, j) = 5 := rfl
theorem szk_15 {j : Nat} : zsz (15, j) = 5 := rfl
theorem szk_16 {j : Nat} : zsz (16, j) = 7 := rfl
theorem szk_17 {j : Nat} : zsz (17, j) = 7 := rfl
theorem szk_18 {j : Nat} : zsz (18, j) = 7 := rfl
theorem szk_19 {j : Nat} : zsz (19, j) = 7 := rfl
theorem szk_20 {j : Nat} : zsz (20, j) = 7 := rfl
theorem szk_21 {j : Nat} : zsz (21, j) = 7 := rfl
theorem szk_22 {j : Nat} : zsz (22, j) = 1000 := rfl
theorem szk_23 {j : Nat} : zsz (23, j) = 24 := rfl
theorem szk_24 {j : Nat} : zsz (24, j) = 40 := rfl
theorem szk_25 {j : Nat} : zsz (25, j) = 40 := rfl
theorem szk_26 {j : Nat} : zsz (26, j) = 40 := rfl
theorem szk_27 {j : Nat} : zsz (27, j) = 16 := rfl
theorem szk_28 {j : Nat} : zsz (28, j) = 8 := rfl
theorem szk_29 {j : Nat} : zsz (29, j) = 8 := rfl
theorem szk_30 {j : Nat} : zsz (30, j) = 8 := rfl
theorem szk_31 {j : Nat} : zsz (31, j) = 7 := rfl
theorem szk_32 {j : Nat} : zsz (32, j) = 7 := rfl
theorem szk_33 {j : Nat} : zsz (33, j) = 7 := rfl
theorem szk_34 {j : Nat} : zsz (34, j) = 1000 := rfl
theorem szk_35 {j : Nat} : zsz (35, j) = 27 := rfl
theorem szk_36 {j : Nat} : zsz (36, j) = 4 := rfl
theorem szk_37 {j : Nat} : zsz (37, j) = 8 := rfl
theorem szk_38 {j : Nat} : zsz (38, j) = 1000 := rfl
theorem szk_39 {j : Nat} : zsz (39, j) = 6 := rfl
theorem szk_40 {j : Nat} : zsz (40, j) = 10 := rfl
theorem szk_41 {j : Nat} : zsz (41, j) = 14 := rfl
theorem szk_42 {j : Nat} : zsz (42, j) = 10 := rfl
theorem szk_43 {j : Nat} : zsz (43, j) = 10 := rfl
theorem szk_44 {j : Nat} : zsz (44, j) = 14 := rfl
theorem szk_45 {j : Nat} : zsz (45, j) = 14 := rfl
theorem szk_46 {j : Nat} : zsz (46, j) = 14 := rfl
theorem szk_47 {j : Nat} : zsz (47, j) = 14 := rfl
theorem szk_48 {j : Nat} : zsz (48, j) = 14 := rfl
theorem szk_49 {j : Nat} : zsz (49, j) = 2 := rfl
theorem szk_50 {j : Nat} : zsz (50, j) = 2 := rfl
theorem szk_51 {j : Nat} : zsz (51, j) = 2000 := rfl
theorem szk_52 {j : Nat} : zsz (52, j) = 7 := rfl
theorem szk_53 {j : Nat} : zsz (53, j) = 7 := rfl
theorem szk_54 {j : Nat} : zsz (54, j) = 7 := rfl
theorem szk_55 {j : Nat} : zsz (55, j) = 7 := rfl
theorem szk_56 {j : Nat} : zsz (56, j) = 7 := rfl
theorem szk_57 {j : Nat} : zsz (57, j) = 7 := rfl
theorem szk_58 {j : Nat} : zsz (58, j) = 7 := rfl
theorem szk_59 {j : Nat} : zsz (59, j) = 7 := rfl
theorem szk_60 {j : Nat} : zsz (60, j) = 7 := rfl
theorem szk_61 {j : Nat} : zsz (61, j) = 7 := rfl
theorem szk_62 {j : Nat} : zsz (62, j) = 7 := rfl
theorem szk_63 {j : Nat} : zsz (63, j) = 20 := rfl
theorem szk_64 {j : Nat} : zsz (64, j) = 6 := rfl
theorem szk_65 {j : Nat} : zsz (65, j) = 240 := rfl
theorem szk_66 {j : Nat} : zsz (66, j) = 240 := rfl
theorem szk_67 {j : Nat} : zsz (67, j) = 240 := rfl
theorem szk_68 {j : Nat} : zsz (68, j) = 5 := rfl
theorem szk_69 {j : Nat} : zsz (69, j) = 40 := rfl
theorem szk_70 {j : Nat} : zsz (70, j) = 40 := rfl
theorem szk_71 {j : Nat} : zsz (71, j) = 40 := rfl
theorem szk_72 {j : Nat} : zsz (72, j) = 24 := rfl
theorem szk_73 {j : Nat} : zsz (73, j) = 24 := rfl
theorem szk_74 {j : Nat} : zsz (74, j) = 24 := rfl
theorem szk_75 {j : Nat} : zsz (75, j) = 96 := rfl
theorem szk_76 {j : Nat} : zsz (76, j) = 384 := rfl
theorem szk_77 {j : Nat} : zsz (77, j) = 4 := rfl
theorem szk_78 {j : Nat} : zsz (78, j) = 4704 := rfl
theorem szk_79 {j : Nat} : zsz (79, j) = 1 := rfl
theorem cW_nk {X : cT} {pc : Nat} {ls : Array Slot} {st : List Value} {w : va_W} {n n' k k' : Nat} (h2 : n = n') (h3 : k = k') (h : cW X pc ls st w n' k') : cW X pc ls st w n k := by subst h2; subst h3; exact h
theorem cz_at {X : cT} {l : Launch} {D : va_G} {cy : Nat → ClassId} {d : Nat} {N : List (Nat × Nat)} {ad : Nat → Nat → Nat} {Z : State → Prop} (h : cXl X l D cy d N ad Z) (pre post : List (Nat × Nat)) {N2 : List (Nat × Nat)} {n : Nat} (e : N = pre ++ (N2 ++ post)) (hn : n = pre.length) : match X with | ((_, _, _, _, s, _, _, _, _, _), _) => zat ad (s.heap.size + n) N2 := by
  obtain ⟨⟨p, l9, e9, R, s, m, args, below, meth, c⟩, ⟨D9, cy9, A, Q⟩⟩ := X
  obtain ⟨rfl, rfl, rfl, rfl, hatN, hZs⟩ := h
  subst hn
  rw [e] at hatN
  exact (zat_app (zat_app hatN).2).1
theorem cz_N1 {X : cT} {own : String} {cc : ByteArray} {nL : Nat} (C : cX X own cc nL) : match X with | ((_, _, _, _, s, _, _, _, _, _), _) => va_Nw (.methodLinkNest "SoapTreaty" 9 ⟨"SoapTreaty$Tape", "<init>", "()V"⟩ "SoapTreaty") s := by
  obtain ⟨⟨p, l9, e9, R, s, m, args, below, meth, c⟩, ⟨D9, cy9, A, Q⟩⟩ := X
  exact C.2.2.2.2.2.2.2.2.1.1
theorem cz_N2 {X : cT} {own : String} {cc : ByteArray} {nL : Nat} (C : cX X own cc nL) : match X with | ((_, _, _, _, s, _, _, _, _, _), _) => va_Nw (.methodLinkNest "SoapTreaty$Congress" 42 ⟨"SoapTreaty$Law", "<init>", "()V"⟩ "SoapTreaty") s := by
  obtain ⟨⟨p, l9, e9, R, s, m, args, below, meth, c⟩, ⟨D9, cy9, A, Q⟩⟩ := X
  exact C.2.2.2.2.2.2.2.2.1.2.1
theorem cz_N3 {X : cT} {own : String} {cc : ByteArray} {nL : Nat} (C : cX X own cc nL) : match X with | ((_, _, _, _, s, _, _, _, _, _), _) => va_Nw (.methodLinkNest "SoapTreaty$Page" 20 ⟨"SoapTreaty$Lines", "<init>", "()V"⟩ "SoapTreaty") s := by
  obtain ⟨⟨p, l9, e9, R, s, m, args, below, meth, c⟩, ⟨D9, cy9, A, Q⟩⟩ := X
  exact C.2.2.2.2.2.2.2.2.1.2.2.1
theorem cz_N4 {X : cT} {own : String} {cc : ByteArray} {nL : Nat} (C : cX X own cc nL) : match X with | ((_, _, _, _, s, _, _, _, _, _), _) => va_Nw (.methodLinkNest "SoapTreaty$Page" 27 ⟨"SoapTreaty$Seen", "<init>", "()V"⟩ "SoapTreaty") s := by
  obtain ⟨⟨p, l9, e9, R, s, m, args, below, meth, c⟩, ⟨D9, cy9, A, Q⟩⟩ := X
  exact C.2.2.2.2.2.2.2.2.1.2.2.2.1
theorem cz_N5 {X : cT} {own : String} {cc : ByteArray} {nL : Nat} (C : cX X own cc nL) : match X with | ((_, _, _, _, s, _, _, _, _, _), _) => va_Nw (.methodLinkNest "SoapTreaty$Reader" 23 ⟨"SoapTreaty$Lines", "<init>", "()V"⟩ "SoapTreaty") s := by
  obtain ⟨⟨p, l9, e9, R, s, m, args, below, meth, c⟩, ⟨D9, cy9, A, Q⟩⟩ := X
  exact C.2.2.2.2.2.2.2.2.1.2.2.2.2.1
theorem pf_0_11 : zPF "SoapTreaty$Congress" 11 0 1 true (.array .long) := ⟨zN0, zT0, 13, zF0, rfl, zin_0, zf_0, zn_0, by decide, zTd (by decide +kernel), rfl, rfl, rfl⟩
theorem pf_0_15 : zPF "SoapTreaty$Congress" 15 0 2 true (.array .int) := ⟨zN0, zT0, 13, zF0, rfl, zin_0, zf_0, zn_0, by decide, zTd (by decide +kernel), rfl, rfl, rfl⟩
theorem pf_0_19 : zPF "SoapTreaty$Congress" 19 0 3 true (.array .int) := ⟨zN0, zT0, 13, zF0, rfl, zin_0, zf_0, zn_0, by decide, zTd (by decide +kernel), rfl, rfl, rfl⟩
theorem pf_0_22 : zPF "SoapTreaty$Congress" 22 0 5 true (.array .long) := ⟨zN0, zT0, 13, zF0, rfl, zin_0, zf_0, zn_0, by decide, zTd (by decide +kernel), rfl, rfl, rfl⟩
theorem pf_0_25 : zPF "SoapTreaty$Congress" 25 0 6 true (.array .int) := ⟨zN0, zT0, 13, zF0, rfl, zin_0, zf_0, zn_0, by decide, zTd (by decide +kernel), rfl, rfl, rfl⟩
theorem pf_0_28 : zPF "SoapTreaty$Congress" 28 0 7 true (.array .int) := ⟨zN0, zT0, 13, zF0, rfl, zin_0, zf_0, zn_0, by decide, zTd (by decide +kernel), rfl, rfl, rfl⟩
theorem pf_0_31 : zPF "SoapTreaty$Congress" 31 0 8 true (.array .int) := ⟨zN0, zT0, 13, zF0, rfl, zin_0, zf_0, zn_0, by decide, zTd (by decide +kernel), rfl, rfl, rfl⟩
theorem pf_0_34 : zPF "SoapTreaty$Congress" 34 0 9 true (.array .int) := ⟨zN0, zT0, 13, zF0, rfl, zin_0, zf_0, zn_0, by decide, zTd (by decide +kernel), rfl, rfl, rfl⟩
theorem pf_0_37 : zPF "SoapTreaty$Congress" 37 0 10 true (.array .int) := ⟨zN0, zT0, 13, zF0, rfl, zin_0, zf_0, zn_0, by decide, zTd (by decide +kernel), rfl, rfl, rfl⟩
theorem pf_0_43 : zPF "SoapTreaty$Congress" 43 0 12 true (.object "SoapTreaty$Law") := ⟨zN0, zT0, 13, zF0, rfl, zin_0, zf_0, zn_0, by decide, zTd (by decide +kernel), rfl, rfl, rfl⟩
theorem pf_0_47 : zPF "SoapTreaty$Congress" 47 0 11 false (.int) := ⟨zN0, zT0, 13, zF0, rfl, zin_0, zf_0, zn_0, by decide, zTd (by decide +kernel), rfl, rfl, rfl⟩
theorem pg_0_43 : ∃ (Cn : String) (T : u_T) (N : Nat), zcl[0]? = some (Cn, T, N) ∧ (∀ w ∈ u_ws Cn T N, w ∈ zT) ∧ 12 < N ∧ Cond.fieldLink "SoapTreaty$Congress" 43 (T 12).1 (T 12).2.1 (T 12).2.2.1 ∈ zT := ⟨zN0, zT0, 13, rfl, zin_0, by decide, zTd (by decide +kernel)⟩
theorem pf_4_12 : zPF "SoapTreaty$Page" 12 4 0 true (.object "SoapTreaty$State") := ⟨zN4, zT4, 3, zF4, rfl, zin_4, zf_4, zn_4, by decide, zTd (by decide +kernel), rfl, rfl, rfl⟩
theorem pf_4_21 : zPF "SoapTreaty$Page" 21 4 1 true (.object "SoapTreaty$Lines") := ⟨zN4, zT4, 3, zF4, rfl, zin_4, zf_4, zn_4, by decide, zTd (by decide +kernel), rfl, rfl, rfl⟩
theorem pf_4_28 : zPF "SoapTreaty$Page" 28 4 2 true (.object "SoapTreaty$Seen") := ⟨zN4, zT4, 3, zF4, rfl, zin_4, zf_4, zn_4, by decide, zTd (by decide +kernel), rfl, rfl, rfl⟩
theorem sl_X4_init {j : Nat} : zsl [(8, j), (31, j), (32, j), (33, j), (3, j), (24, j), (25, j), (26, j), (7, j), (28, j), (29, j), (30, j)] = 180 := by
  simp only [zsl, List.map_cons, List.map_nil, List.sum_cons, List.sum_nil, Nat.reduceAdd, szk_24, szk_25, szk_26, szk_28, szk_29, szk_3, szk_30, szk_31, szk_32, szk_33, szk_7, szk_8]
set_option maxRecDepth 100000 in
theorem k_X4_init {l : Launch} {D : va_G} {ad : Nat → Nat → Nat} {cy : Nat → ClassId} {j : Nat} : zMi l D ad cy 2 y_X4_init (.code y_X4_init prog_6_method_1_code 2 none) 4 j [.ref (ad 0 0)] [(8, j), (31, j), (32, j), (33, j), (3, j), (24, j), (25, j), (26, j), (7, j), (28, j), (29, j), (30, j)] h0_ (fun _ => True) := by
  refine c_start (by decide) rfl (Nat.le_of_ble_eq_true rfl) ?_
  intro X ls C hX hQ hR hl hE
  have hR : ∀ n k, n ≤ 12 → k ≤ 180 → cR X n k := fun n k a b => hR n k a (Nat.le_trans b (Nat.le_of_eq sl_X4_init.symm))
  rw [sl_X4_init] at hE
  have hE : ∀ pc ls, decode prog_6_method_1_code pc = .ok (.return_, 1) → cW X pc ls [] (zws ad cy ((4, j) :: [(8, j), (31, j), (32, j), (33, j), (3, j), (24, j), (25, j), (26, j), (7, j), (28, j), (29, j), (30, j)]) h0_) 12 180 := hE
  refine cr_aload C hl (j := 0) (by decide +kernel : decode prog_6_method_1_code 0 = .ok (.aload_n 0, 1)) rfl ?_
  refine cr_obj C hl.1 (zTd (by decide +kernel)) (by decide +kernel : decode prog_6_method_1_code 1 = .ok (.invokespecial 1, 3)) ?_
  refine cr_aload C hl (j := 0) (by decide +kernel : decode prog_6_method_1_code 4 = .ok (.aload_n 0, 1)) rfl ?_
  refine cr_new C zCL_8 (zTd (by decide +kernel)) (hQ 0 _ rfl) (hR _ _ (by decide) (by decide)) (by decide +kernel : decode prog_6_method_1_code 5 = .ok (.new 7, 3)) ?_
  refine cW_nk (n' := 1) (k' := 7) rfl rfl ?_
  refine cr_dup C (by decide +kernel : decode prog_6_method_1_code 8 = .ok (.dup, 1)) ?_
  refine cr_aload C hl (j := 1) (by decide +kernel : decode prog_6_method_1_code 9 = .ok (.aload_n 1, 1)) rfl ?_
  refine cr_kid C hX (n2 := 1) (as := [.ref (ad 0 0)]) (k_X8_init) (fun _ _ _ _ h => h) (cz_T) (cz_at hX [(8, j)] [(3, j), (24, j), (25, j), (26, j), (7, j), (28, j), (29, j), (30, j)] rfl rfl) (by decide) (by decide) (zTd (by decide +kernel)) (zTd (by decide +kernel)) (zTd (by decide +kernel)) (zTd (by decide +kernel)) rfl (by decide) (by decide) (by decide +kernel) rfl hl.1 (Nat.le_of_ble_eq_true rfl) (hR 4 28 (by decide) (by decide)) (by decide +kernel : decode prog_6_method_1_code 10 = .ok (.invokespecial 9, 3)) ?_
  refine cW_nk (n' := 4) (k' := 28) rfl rfl ?_
  refine cr_putF C pf_4_12 rfl rfl (Nat.le_of_ble_eq_true rfl) (by decide +kernel : decode prog_6_method_1_code 13 = .ok (.putfield 12, 3)) ?_
  refine cr_aload C hl (j := 0) (by decide +kernel : decode prog_6_method_1_code 16 = .ok (.aload_n 0, 1)) rfl ?_
  refine cr_new C zCL_3 (zTd (by decide +kernel)) (hQ 4 _ rfl) (hR _ _ (by decide) (by decide)) (by decide +kernel : decode prog_6_method_1_code 17 = .ok (.new 18, 3)) ?_
  refine cW_nk (n' := 5) (k' := 32) rfl rfl ?_
  refine cr_dup C (by decide +kernel : decode prog_6_method_1_code 20 = .ok (.dup, 1)) ?_
  refine cr_kidN C hX (n2 := 0) (as := []) (k_X3_init) (fun _ _ _ _ h => h) (cz_T) (cz_at hX [(8, j), (31, j), (32, j), (33, j), (3, j)] [(7, j), (28, j), (29, j), (30, j)] rfl rfl) (by decide) (by decide) (cz_N3 C) (zTd (by decide +kernel)) (zTd (by decide +kernel)) (zTd (by decide +kernel)) rfl (by decide) (by decide) (by decide +kernel) rfl hl.1 (Nat.le_of_ble_eq_true rfl) (hR 8 152 (by decide) (by decide)) (by decide +kernel : decode prog_6_method_1_code 21 = .ok (.invokespecial 20, 3)) ?_
  refine cW_nk (n' := 8) (k' := 152) rfl rfl ?_
  refine cr_putF C pf_4_21 rfl rfl (Nat.le_of_ble_eq_true rfl) (by decide +kernel : decode prog_6_method_1_code 24 = .ok (.putfield 21, 3)) ?_
  refine cr_aload C hl (j := 0) (by decide +kernel : decode prog_6_method_1_code 27 = .ok (.aload_n 0, 1)) rfl ?_
  refine cr_new C zCL_7 (zTd (by decide +kernel)) (hQ 8 _ rfl) (hR _ _ (by decide) (by decide)) (by decide +kernel : decode prog_6_method_1_code 28 = .ok (.new 25, 3)) ?_
  refine cW_nk (n' := 9) (k' := 156) rfl rfl ?_
  refine cr_dup C (by decide +kernel : decode prog_6_method_1_code 31 = .ok (.dup, 1)) ?_
  refine cr_kidN C hX (n2 := 0) (as := []) (k_X7_init) (fun _ _ _ _ h => h) (cz_T) (cz_at hX [(8, j), (31, j), (32, j), (33, j), (3, j), (24, j), (25, j), (26, j), (7, j)] [] rfl rfl) (by decide) (by decide) (cz_N4 C) (zTd (by decide +kernel)) (zTd (by decide +kernel)) (zTd (by decide +kernel)) rfl (by decide) (by decide) (by decide +kernel) rfl hl.1 (Nat.le_of_ble_eq_true rfl) (hR 12 180 (by decide) (by decide)) (by decide +kernel : decode prog_6_method_1_code 32 = .ok (.invokespecial 27, 3)) ?_
  refine cW_nk (n' := 12) (k' := 180) rfl rfl ?_
  refine cr_putF C pf_4_28 rfl rfl (Nat.le_of_ble_eq_true rfl) (by decide +kernel : decode prog_6_method_1_code 35 = .ok (.putfield 28, 3)) ?_
  exact cW_eq rfl rfl rfl (hE 38 ls (by decide +kernel : decode prog_6_method_1_code 38 = .ok (.return_, 1)))
theorem zcl3 {j : Nat} (hj : j = 0 ∨ j = 1) : zclo [(1, j), (22, j), (23, j)] = true := by
  rcases hj with rfl | rfl <;> decide +kernel
theorem ta_ {h : zH} {j n : Nat} {s : Int32} (hn : h.1 1 j 2 = nI n) (h1 : n < 1000) : f_X1_add [.inr (.inr (1, j)), .inl s] h = some (none, zuI (zuI h 22 j n s) 1 j 2 (nI (n + 1))) := by
  rw [g_X1_add, hn, zf_pos (show nI n < 1000 from nI_lt (b := 1000) h1 (by omega)), zf_pos (vp_in_nI h1 (by omega)), nI_clamp (by omega), nI_1]
theorem tu_z {ad : Nat → Nat → Nat} {cy : Nat → ClassId} {j : Nat} : ∃ h2, f_X1_tellUsual [.inr (.inr (1, j))] hz0 = some (none, h2) ∧ zws ad cy [(1, j), (22, j), (23, j)] h2 = zws ad cy [(1, j), (22, j), (23, j)] h0_ := by
  refine ⟨(zuI (zuI (zuI (zuI (zuI (zuI (zuI (zuI (zuI (zuI (zuI hz0 1 j 2 0) 22 j 0 1) 1 j 2 (nI (0 + 1))) 22 j 1 zm2) 1 j 2 (nI (1 + 1))) 22 j 2 zm3) 1 j 2 (nI (2 + 1))) 22 j 3 zm8) 1 j 2 (nI (3 + 1))) 22 j 4 zm10) 1 j 2 (nI (4 + 1))), ?_, ?_⟩
  · rw [g_X1_tellUsual, g_X1_clear, zcv_ok, ta_ (h := zuI hz0 1 j 2 0) (n := 0) (zuI_at.trans rfl) (by omega), zcv_ok, ta_ (n := 1) zuI_at (by omega), zcv_ok, ta_ (n := 2) zuI_at (by omega), zcv_ok, ta_ (n := 3) zuI_at (by omega), zcv_ok, ta_ (n := 4) zuI_at (by omega), zcv_ok]
  · have e22 : (zuI (zuI (zuI (zuI (zuI (zuI (zuI (zuI (zuI (zuI (zuI hz0 1 j 2 0) 22 j 0 1) 1 j 2 (nI (0 + 1))) 22 j 1 zm2) 1 j 2 (nI (1 + 1))) 22 j 2 zm3) 1 j 2 (nI (2 + 1))) 22 j 3 zm8) 1 j 2 (nI (3 + 1))) 22 j 4 zm10) 1 j 2 (nI (4 + 1))).1 22 j = h0_.1 22 j := by
      funext k
      match k with
      | 0 => simp [zuI, hz0]; rfl
      | 1 => simp [zuI, hz0]; rfl
      | 2 => simp [zuI, hz0]; rfl
      | 3 => simp [zuI, hz0]; rfl
      | 4 => simp [zuI, hz0]; rfl
      | k + 5 => simp [zuI, hz0]; rfl
    have e1 : (zuI (zuI (zuI (zuI (zuI (zuI (zuI (zuI (zuI (zuI (zuI hz0 1 j 2 0) 22 j 0 1) 1 j 2 (nI (0 + 1))) 22 j 1 zm2) 1 j 2 (nI (1 + 1))) 22 j 2 zm3) 1 j 2 (nI (2 + 1))) 22 j 3 zm8) 1 j 2 (nI (3 + 1))) 22 j 4 zm10) 1 j 2 (nI (4 + 1))).1 1 j 2 = 5 := zuI_at
    have e23 : (zuI (zuI (zuI (zuI (zuI (zuI (zuI (zuI (zuI (zuI (zuI hz0 1 j 2 0) 22 j 0 1) 1 j 2 (nI (0 + 1))) 22 j 1 zm2) 1 j 2 (nI (1 + 1))) 22 j 2 zm3) 1 j 2 (nI (2 + 1))) 22 j 3 zm8) 1 j 2 (nI (3 + 1))) 22 j 4 zm10) 1 j 2 (nI (4 + 1))).1 23 j = h0_.1 23 j := by
      funext k
      simp [zuI, hz0]; rfl
    show [(ad 1 j, .inr (1, [.ref (ad 22 j), .ref (ad 23 j), .int ((zuI (zuI (zuI (zuI (zuI (zuI (zuI (zuI (zuI (zuI (zuI hz0 1 j 2 0) 22 j 0 1) 1 j 2 (nI (0 + 1))) 22 j 1 zm2) 1 j 2 (nI (1 + 1))) 22 j 2 zm3) 1 j 2 (nI (2 + 1))) 22 j 3 zm8) 1 j 2 (nI (3 + 1))) 22 j 4 zm10) 1 j 2 (nI (4 + 1))).1 1 j 2)])), (ad 22 j, .inl (cy 1, 1000, .inl ((zuI (zuI (zuI (zuI (zuI (zuI (zuI (zuI (zuI (zuI (zuI hz0 1 j 2 0) 22 j 0 1) 1 j 2 (nI (0 + 1))) 22 j 1 zm2) 1 j 2 (nI (1 + 1))) 22 j 2 zm3) 1 j 2 (nI (2 + 1))) 22 j 3 zm8) 1 j 2 (nI (3 + 1))) 22 j 4 zm10) 1 j 2 (nI (4 + 1))).1 22 j))), (ad 23 j, .inl (cy 1, 24, .inl ((zuI (zuI (zuI (zuI (zuI (zuI (zuI (zuI (zuI (zuI (zuI hz0 1 j 2 0) 22 j 0 1) 1 j 2 (nI (0 + 1))) 22 j 1 zm2) 1 j 2 (nI (1 + 1))) 22 j 2 zm3) 1 j 2 (nI (2 + 1))) 22 j 3 zm8) 1 j 2 (nI (3 + 1))) 22 j 4 zm10) 1 j 2 (nI (4 + 1))).1 23 j)))] = zws ad cy [(1, j), (22, j), (23, j)] h0_
    rw [e22, e1, e23]
    rfl
theorem sl_X0_init {j : Nat} : zsl [(13, j), (14, j), (15, j), (16, j), (17, j), (18, j), (19, j), (20, j), (21, j), (1, j), (22, j), (23, j)] = 1084 := by
  simp only [zsl, List.map_cons, List.map_nil, List.sum_cons, List.sum_nil, Nat.reduceAdd, szk_1, szk_13, szk_14, szk_15, szk_16, szk_17, szk_18, szk_19, szk_20, szk_21, szk_22, szk_23]
set_option maxRecDepth 100000 in
theorem k_X0_init {l : Launch} {D : va_G} {ad : Nat → Nat → Nat} {cy : Nat → ClassId} {j : Nat} (hj : j = 0 ∨ j = 1) : zMi l D ad cy 3 y_X0_init (.code y_X0_init prog_2_method_1_code 1 none) 0 j [] [(13, j), (14, j), (15, j), (16, j), (17, j), (18, j), (19, j), (20, j), (21, j), (1, j), (22, j), (23, j)] h0_ (fun _ => True) := by
  refine c_start (by decide) rfl (Nat.le_of_ble_eq_true rfl) ?_
  intro X ls C hX hQ hR hl hE
  have hR : ∀ n k, n ≤ 12 → k ≤ 1084 → cR X n k := fun n k a b => hR n k a (Nat.le_trans b (Nat.le_of_eq sl_X0_init.symm))
  rw [sl_X0_init] at hE
  have hE : ∀ pc ls, decode prog_2_method_1_code pc = .ok (.return_, 1) → cW X pc ls [] (zws ad cy ((0, j) :: [(13, j), (14, j), (15, j), (16, j), (17, j), (18, j), (19, j), (20, j), (21, j), (1, j), (22, j), (23, j)]) h0_) 12 1084 := hE
  refine cr_aload C hl (j := 0) (by decide +kernel : decode prog_2_method_1_code 0 = .ok (.aload_n 0, 1)) rfl ?_
  refine cr_obj C hl.1 (zTd (by decide +kernel)) (by decide +kernel : decode prog_2_method_1_code 1 = .ok (.invokespecial 3, 3)) ?_
  refine cr_aload C hl (j := 0) (by decide +kernel : decode prog_2_method_1_code 4 = .ok (.aload_n 0, 1)) rfl ?_
  refine cr_iconst C (v := nI 5) (by decide +kernel : decode prog_2_method_1_code 5 = .ok (.iconst 5, 1)) (by decide) ?_
  refine cr_newa C zAT2 (N := 5) (a0 := (5, .inr (.inl (fun _ => 0)))) (fun _ => rfl) rfl (by decide) (by decide) (hQ 0 _ rfl) (hR _ _ (by decide) (by decide)) (by decide +kernel : decode prog_2_method_1_code 6 = .ok (.newarray .long, 2)) (cXl_E hX _) ?_
  refine cW_nk (n' := 1) (k' := 5) rfl rfl ?_
  refine cr_putF C pf_0_11 rfl rfl (Nat.le_of_ble_eq_true rfl) (by decide +kernel : decode prog_2_method_1_code 8 = .ok (.putfield 11, 3)) ?_
  refine cr_aload C hl (j := 0) (by decide +kernel : decode prog_2_method_1_code 11 = .ok (.aload_n 0, 1)) rfl ?_
  refine cr_iconst C (v := nI 5) (by decide +kernel : decode prog_2_method_1_code 12 = .ok (.iconst 5, 1)) (by decide) ?_
  refine cr_newa C zAT1 (N := 5) (a0 := (5, .inl (fun _ => 0))) (fun _ => rfl) rfl (by decide) (by decide) (hQ 1 _ rfl) (hR _ _ (by decide) (by decide)) (by decide +kernel : decode prog_2_method_1_code 13 = .ok (.newarray .int, 2)) (cXl_E hX _) ?_
  refine cW_nk (n' := 2) (k' := 10) rfl rfl ?_
  refine cr_putF C pf_0_15 rfl rfl (Nat.le_of_ble_eq_true rfl) (by decide +kernel : decode prog_2_method_1_code 15 = .ok (.putfield 15, 3)) ?_
  refine cr_aload C hl (j := 0) (by decide +kernel : decode prog_2_method_1_code 18 = .ok (.aload_n 0, 1)) rfl ?_
  refine cr_iconst C (v := nI 5) (by decide +kernel : decode prog_2_method_1_code 19 = .ok (.iconst 5, 1)) (by decide) ?_
  refine cr_newa C zAT1 (N := 5) (a0 := (5, .inl (fun _ => 0))) (fun _ => rfl) rfl (by decide) (by decide) (hQ 2 _ rfl) (hR _ _ (by decide) (by decide)) (by decide +kernel : decode prog_2_method_1_code 20 = .ok (.newarray .int, 2)) (cXl_E hX _) ?_
  refine cW_nk (n' := 3) (k' := 15) rfl rfl ?_
  refine cr_putF C pf_0_19 rfl rfl (Nat.le_of_ble_eq_true rfl) (by decide +kernel : decode prog_2_method_1_code 22 = .ok (.putfield 19, 3)) ?_
  refine cr_aload C hl (j := 0) (by decide +kernel : decode prog_2_method_1_code 25 = .ok (.aload_n 0, 1)) rfl ?_
  refine cr_bipush C (v := nI 7) (by decide +kernel : decode prog_2_method_1_code 26 = .ok (.bipush 7, 2)) (by decide) ?_
  refine cr_newa C zAT2 (N := 7) (a0 := (7, .inr (.inl (fun _ => 0)))) (fun _ => rfl) rfl (by decide) (by decide) (hQ 3 _ rfl) (hR _ _ (by decide) (by decide)) (by decide +kernel : decode prog_2_method_1_code 28 = .ok (.newarray .long, 2)) (cXl_E hX _) ?_
  refine cW_nk (n' := 4) (k' := 22) rfl rfl ?_
  refine cr_putF C pf_0_22 rfl rfl (Nat.le_of_ble_eq_true rfl) (by decide +kernel : decode prog_2_method_1_code 30 = .ok (.putfield 22, 3)) ?_
  refine cr_aload C hl (j := 0) (by decide +kernel : decode prog_2_method_1_code 33 = .ok (.aload_n 0, 1)) rfl ?_
  refine cr_bipush C (v := nI 7) (by decide +kernel : decode prog_2_method_1_code 34 = .ok (.bipush 7, 2)) (by decide) ?_
  refine cr_newa C zAT1 (N := 7) (a0 := (7, .inl (fun _ => 0))) (fun _ => rfl) rfl (by decide) (by decide) (hQ 4 _ rfl) (hR _ _ (by decide) (by decide)) (by decide +kernel : decode prog_2_method_1_code 36 = .ok (.newarray .int, 2)) (cXl_E hX _) ?_
  refine cW_nk (n' := 5) (k' := 29) rfl rfl ?_
  refine cr_putF C pf_0_25 rfl rfl (Nat.le_of_ble_eq_true rfl) (by decide +kernel : decode prog_2_method_1_code 38 = .ok (.putfield 25, 3)) ?_
  refine cr_aload C hl (j := 0) (by decide +kernel : decode prog_2_method_1_code 41 = .ok (.aload_n 0, 1)) rfl ?_
  refine cr_bipush C (v := nI 7) (by decide +kernel : decode prog_2_method_1_code 42 = .ok (.bipush 7, 2)) (by decide) ?_
  refine cr_newa C zAT1 (N := 7) (a0 := (7, .inl (fun _ => 0))) (fun _ => rfl) rfl (by decide) (by decide) (hQ 5 _ rfl) (hR _ _ (by decide) (by decide)) (by decide +kernel : decode prog_2_method_1_code 44 = .ok (.newarray .int, 2)) (cXl_E hX _) ?_
  refine cW_nk (n' := 6) (k' := 36) rfl rfl ?_
  refine cr_putF C pf_0_28 rfl rfl (Nat.le_of_ble_eq_true rfl) (by decide +kernel : decode prog_2_method_1_code 46 = .ok (.putfield 28, 3)) ?_
  refine cr_aload C hl (j := 0) (by decide +kernel : decode prog_2_method_1_code 49 = .ok (.aload_n 0, 1)) rfl ?_
  refine cr_bipush C (v := nI 7) (by decide +kernel : decode prog_2_method_1_code 50 = .ok (.bipush 7, 2)) (by decide) ?_
  refine cr_newa C zAT1 (N := 7) (a0 := (7, .inl (fun _ => 0))) (fun _ => rfl) rfl (by decide) (by decide) (hQ 6 _ rfl) (hR _ _ (by decide) (by decide)) (by decide +kernel : decode prog_2_method_1_code 52 = .ok (.newarray .int, 2)) (cXl_E hX _) ?_
  refine cW_nk (n' := 7) (k' := 43) rfl rfl ?_
  refine cr_putF C pf_0_31 rfl rfl (Nat.le_of_ble_eq_true rfl) (by decide +kernel : decode prog_2_method_1_code 54 = .ok (.putfield 31, 3)) ?_
  refine cr_aload C hl (j := 0) (by decide +kernel : decode prog_2_method_1_code 57 = .ok (.aload_n 0, 1)) rfl ?_
  refine cr_bipush C (v := nI 7) (by decide +kernel : decode prog_2_method_1_code 58 = .ok (.bipush 7, 2)) (by decide) ?_
  refine cr_newa C zAT1 (N := 7) (a0 := (7, .inl (fun _ => 0))) (fun _ => rfl) rfl (by decide) (by decide) (hQ 7 _ rfl) (hR _ _ (by decide) (by decide)) (by decide +kernel : decode prog_2_method_1_code 60 = .ok (.newarray .int, 2)) (cXl_E hX _) ?_
  refine cW_nk (n' := 8) (k' := 50) rfl rfl ?_
  refine cr_putF C pf_0_34 rfl rfl (Nat.le_of_ble_eq_true rfl) (by decide +kernel : decode prog_2_method_1_code 62 = .ok (.putfield 34, 3)) ?_
  refine cr_aload C hl (j := 0) (by decide +kernel : decode prog_2_method_1_code 65 = .ok (.aload_n 0, 1)) rfl ?_
  refine cr_bipush C (v := nI 7) (by decide +kernel : decode prog_2_method_1_code 66 = .ok (.bipush 7, 2)) (by decide) ?_
  refine cr_newa C zAT1 (N := 7) (a0 := (7, .inl (fun _ => 0))) (fun _ => rfl) rfl (by decide) (by decide) (hQ 8 _ rfl) (hR _ _ (by decide) (by decide)) (by decide +kernel : decode prog_2_method_1_code 68 = .ok (.newarray .int, 2)) (cXl_E hX _) ?_
  refine cW_nk (n' := 9) (k' := 57) rfl rfl ?_
  refine cr_putF C pf_0_37 rfl rfl (Nat.le_of_ble_eq_true rfl) (by decide +kernel : decode prog_2_method_1_code 70 = .ok (.putfield 37, 3)) ?_
  refine cr_aload C hl (j := 0) (by decide +kernel : decode prog_2_method_1_code 73 = .ok (.aload_n 0, 1)) rfl ?_
  refine cr_new C zCL_1 (zTd (by decide +kernel)) (hQ 9 _ rfl) (hR _ _ (by decide) (by decide)) (by decide +kernel : decode prog_2_method_1_code 74 = .ok (.new 40, 3)) ?_
  refine cW_nk (n' := 10) (k' := 60) rfl rfl ?_
  refine cr_dup C (by decide +kernel : decode prog_2_method_1_code 77 = .ok (.dup, 1)) ?_
  refine cr_kidN C hX (n2 := 0) (as := []) (k_X1_init) (fun _ _ _ _ h => h) (cz_T) (cz_at hX [(13, j), (14, j), (15, j), (16, j), (17, j), (18, j), (19, j), (20, j), (21, j), (1, j)] [] rfl rfl) (by decide) (by decide) (cz_N2 C) (zTd (by decide +kernel)) (zTd (by decide +kernel)) (zTd (by decide +kernel)) rfl (by decide) (by decide) (by decide +kernel) rfl hl.1 (Nat.le_of_ble_eq_true rfl) (hR 12 1084 (by decide) (by decide)) (by decide +kernel : decode prog_2_method_1_code 78 = .ok (.invokespecial 42, 3)) ?_
  refine cW_nk (n' := 12) (k' := 1084) rfl rfl ?_
  refine cr_putF C pf_0_43 rfl rfl (Nat.le_of_ble_eq_true rfl) (by decide +kernel : decode prog_2_method_1_code 81 = .ok (.putfield 43, 3)) ?_
  refine cr_aload C hl (j := 0) (by decide +kernel : decode prog_2_method_1_code 84 = .ok (.aload_n 0, 1)) rfl ?_
  refine cr_iconst C (v := nI 2) (by decide +kernel : decode prog_2_method_1_code 85 = .ok (.iconst 2, 1)) (by decide) ?_
  refine cr_put C pf_0_47 rfl rfl (Nat.le_of_ble_eq_true rfl) (by decide +kernel : decode prog_2_method_1_code 86 = .ok (.putfield 47, 3)) ?_
  refine cr_aload C hl (j := 0) (by decide +kernel : decode prog_2_method_1_code 89 = .ok (.aload_n 0, 1)) rfl ?_
  refine cr_get C (ci := 0) (K := 0) (kf := 12) 0 rfl pg_0_43 rfl rfl (by decide +kernel : decode prog_2_method_1_code 90 = .ok (.getfield 43, 3)) ?_
  obtain ⟨h2, t1, t2⟩ := tu_z (ad := ad) (cy := cy) (j := j)
  refine cW_eq (w := ((ad 0 j, .inr (0, [.int 0, .ref (ad 13 j), .ref (ad 14 j), .ref (ad 15 j), .int 0, .ref (ad 16 j), .ref (ad 17 j), .ref (ad 18 j), .ref (ad 19 j), .ref (ad 20 j), .ref (ad 21 j), .int 2, .ref (ad 1 j)])) :: [(ad 13 j, .inl (cy 2, 5, .inr (.inl (fun _ => 0)))), (ad 14 j, .inl (cy 1, 5, .inl (fun _ => 0))), (ad 15 j, .inl (cy 1, 5, .inl (fun _ => 0))), (ad 16 j, .inl (cy 2, 7, .inr (.inl (fun _ => 0)))), (ad 17 j, .inl (cy 1, 7, .inl (fun _ => 0))), (ad 18 j, .inl (cy 1, 7, .inl (fun _ => 0))), (ad 19 j, .inl (cy 1, 7, .inl (fun _ => 0))), (ad 20 j, .inl (cy 1, 7, .inl (fun _ => 0))), (ad 21 j, .inl (cy 1, 7, .inl (fun _ => 0)))] : va_W) ++ zws ad cy [(1, j), (22, j), (23, j)] hz0) rfl rfl rfl ?_
  refine cr_small C hX (as := []) (j := j) zMV_0_51 (fun hi => k_X1_tellUsual (zcl3 hj) hi) t1 (fun v hv => by rcases List.mem_cons.mp hv with rfl | hv; exact Or.inl List.mem_cons_self; cases hv) (by decide) rfl hl.1 (Nat.le_of_ble_eq_true rfl) (hR _ _ (by decide) (by decide)) (by decide +kernel : decode prog_2_method_1_code 93 = .ok (.invokevirtual 51, 3)) ?_
  rw [t2]
  exact cW_eq rfl rfl rfl (hE 96 ls (by decide +kernel : decode prog_2_method_1_code 96 = .ok (.return_, 1)))
