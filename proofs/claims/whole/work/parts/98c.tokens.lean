/-! The tokens' constructor: the words are spelt. (By program: wip/whole/init5.py) -/
def tkw : List Nat := [0, 0, 0, 0, 0, 0, 1, 1, 1, 1, 1, 1, 2, 2, 2, 2, 2, 3, 3, 3, 3, 3, 4, 4, 4, 5, 5, 5, 5, 5, 5, 6, 6, 6, 6, 6, 7, 7, 7, 7, 7, 7, 7, 8, 8, 8, 8, 8, 8, 8, 9, 9, 9, 9, 9, 9, 10, 10, 10, 10, 10, 11, 11, 11, 11, 11, 12, 12, 12, 12, 12, 13, 13, 13, 13, 13, 14, 14, 14, 14, 14, 14, 15, 15, 15, 15, 15, 16, 16, 16, 16, 16, 16, 17, 17, 17, 17, 17, 17, 18, 18, 18, 18, 19, 19, 19, 19, 19, 19, 19, 20, 20, 20, 20, 21, 21, 21, 21, 22, 22, 22, 23, 23, 23, 23, 23, 24, 24, 24, 24, 24, 24, 25, 25, 25, 25, 26, 26, 26, 26, 26, 27]
def tkp : List Nat := [0, 16, 527, 16887, 540389, 17292466, 0, 23, 737, 23604, 755333, 24170674, 0, 3, 97, 3115, 99685, 0, 6, 210, 6735, 215533, 0, 20, 655, 0, 20, 648, 20745, 663843, 21242987, 0, 8, 257, 8242, 263748, 0, 16, 517, 16546, 529474, 16943180, 542181765, 0, 19, 620, 19849, 635190, 20326085, 650434738, 0, 23, 741, 23713, 758834, 24282707, 0, 23, 737, 23603, 755304, 0, 8, 257, 8233, 263474, 0, 16, 521, 16675, 533611, 0, 7, 233, 7462, 238804, 0, 16, 530, 16965, 542899, 17372787, 0, 23, 741, 23717, 758955, 0, 16, 524, 16769, 536617, 17171758, 0, 14, 449, 14390, 460481, 14735404, 0, 4, 146, 4697, 0, 3, 97, 3122, 99926, 3197637, 102324402, 0, 14, 463, 14836, 0, 1, 46, 1476, 0, 15, 498, 0, 12, 389, 12454, 398548, 0, 20, 655, 20981, 671399, 21484776, 0, 23, 741, 23732, 0, 21, 691, 22117, 707748, 0]
noncomputable def tkf (i : Nat) : Nat → Int64 := fun k => bif Nat.blt k (tkw.getD i 0) then lN (enc 32 (kws.getD k [])) else 0
theorem zT_step : ∀ i, i < 141 → (zSt.getD i 0 &&& 255 = 32 → tkp.getD i 0 = enc 32 (kws.getD (tkw.getD i 0) []) ∧ tkw.getD (i + 1) 0 = tkw.getD i 0 + 1 ∧ tkp.getD (i + 1) 0 = 0) ∧ (¬ (zSt.getD i 0 &&& 255 = 32) → tkw.getD (i + 1) 0 = tkw.getD i 0 ∧ Int64.ofNat (tkp.getD i 0) * 32 + ((zSt.getD i 0 &&& 255) - 97 + 1).toInt64 = Int64.ofNat (tkp.getD (i + 1) 0)) ∧ tkw.getD i 0 < 27 := by decide +kernel
theorem tkf_up {i : Nat} (h : tkw.getD (i + 1) 0 = tkw.getD i 0 + 1) (h2 : tkp.getD i 0 = enc 32 (kws.getD (tkw.getD i 0) [])) : vp_updL (tkf i) (tkw.getD i 0) (lN (tkp.getD i 0)) = tkf (i + 1) := by
  funext k
  unfold vp_updL tkf
  rw [h]
  by_cases e : k = tkw.getD i 0
  · rw [if_pos e, e, h2, show Nat.blt (tkw.getD i 0) (tkw.getD i 0 + 1) = true from Nat.ble_eq.mpr (Nat.le_refl _)]
    rfl
  · rw [if_neg e]
    by_cases e2 : k < tkw.getD i 0
    · rw [show Nat.blt k (tkw.getD i 0) = true from Nat.ble_eq.mpr e2, show Nat.blt k (tkw.getD i 0 + 1) = true from Nat.ble_eq.mpr (by omega)]
    · rw [show Nat.blt k (tkw.getD i 0) = false from Bool.eq_false_iff.mpr (fun q => e2 (Nat.ble_eq.mp q)), show Nat.blt k (tkw.getD i 0 + 1) = false from Bool.eq_false_iff.mpr (fun q => by have := Nat.ble_eq.mp q; omega)]
theorem tkf_eq {i : Nat} (h : tkw.getD (i + 1) 0 = tkw.getD i 0) : tkf i = tkf (i + 1) := by
  unfold tkf; rw [h]
theorem tkf_0 : (fun _ => 0 : Nat → Int64) = tkf 0 := by
  funext k
  rfl
theorem tkf_141 : tkf 141 = h0_.2 35 0 := by
  funext k
  rfl
theorem pf_10_11 : zPF "SoapTreaty$Tokens" 11 10 1 true (.array .long) := ⟨zN10, zT10, 8, zF10, rfl, zin_10, zf_10, zn_10, by decide, zTd (by decide +kernel), rfl, rfl, rfl⟩
theorem pf_10_15 : zPF "SoapTreaty$Tokens" 15 10 0 true (.object "SoapTreaty$Tape") := ⟨zN10, zT10, 8, zF10, rfl, zin_10, zf_10, zn_10, by decide, zTd (by decide +kernel), rfl, rfl, rfl⟩
theorem pg_10_11 : ∃ (Cn : String) (T : u_T) (N : Nat), zcl[10]? = some (Cn, T, N) ∧ (∀ w ∈ u_ws Cn T N, w ∈ zT) ∧ 1 < N ∧ Cond.fieldLink "SoapTreaty$Tokens" 11 (T 1).1 (T 1).2.1 (T 1).2.2.1 ∈ zT := ⟨zN10, zT10, 8, rfl, zin_10, by decide, zTd (by decide +kernel)⟩
set_option maxRecDepth 100000 in
theorem tk_loop {l : Launch} {D : va_G} {ad : Nat → Nat → Nat} {cy : Nat → ClassId} {b0 qK qV : Nat} (hb : b0 ≤ ad 10 0) {X : cT} (C : cX X "SoapTreaty$Tokens" prog_12_method_1_code 6) (hX : cXl X l D cy 5 [(35, 0)] ad (zZ1 b0 qK qV)) (hA : cXa X ad 10 0) (hR : cR X 1 27) (hE : ∀ ls, cW X 85 ls [] ((ad 10 0, .inr (10, [.ref (ad 9 0), .ref (ad 35 0), .int 0, .int 0, .int 0, .int 0, .long 0, .int 0])) :: [(ad 35 0, .inl (cy 2, 27, .inr (.inl (tkf 141))))] : va_W) 1 27) :
    ∀ (r i : Nat) (ls : Array Slot), i + r = 141 → lv_has ls 6 [(5, .int (nI i)), (3, .long (lN (tkp.getD i 0))), (2, .int (nI (tkw.getD i 0))), (0, .ref (ad 10 0)), (1, .ref (ad 9 0))] → cW X 24 ls [] ((ad 10 0, .inr (10, [.ref (ad 9 0), .ref (ad 35 0), .int 0, .int 0, .int 0, .int 0, .long 0, .int 0])) :: [(ad 35 0, .inl (cy 2, 27, .inr (.inl (tkf i))))] : va_W) 1 27 := by
  have hcy : ∀ f : Nat → Int64, match X with | (_, (_, cy', _, _)) => (ztys cy')[1]? = some (cy 2, .long) := by
    intro f
    obtain ⟨⟨p, l9, e, R, s, m, args, below, meth, c⟩, ⟨D9, cy9, A, Q⟩⟩ := X
    obtain ⟨rfl, rfl, rfl, rfl, hatN, hZs⟩ := hX
    rfl
  intro r
  induction r with
  | zero =>
    intro i ls hi hl
    have hi : i = 141 := by omega
    subst hi
    refine cr_iload C hl (j := 0) (by decide +kernel : decode prog_12_method_1_code 24 = .ok (.iload 5, 2)) rfl ?_
    refine cr_ldcS C (cz_R hX) (by decide +kernel : decode prog_12_method_1_code 26 = .ok (.ldc 19, 2)) ?_
    refine cr_jVi C hX hA hb (as := []) j_len jm_len rfl (by decide) rfl hl.1 (Nat.le_of_ble_eq_true rfl) hR (by decide +kernel : decode prog_12_method_1_code 28 = .ok (.invokevirtual 21, 3)) ?_
    exact cr_icge C (tgt := 85) (by decide +kernel : decode prog_12_method_1_code 31 = .ok (.if_icmp .ge 54, 3)) (by decide) (fun _ => hE ls) (fun q => absurd (Int32.le_refl _) q)
  | succ r ih =>
    intro i ls hi hl
    have hi9 : i < 141 := by omega
    obtain ⟨s1, s2, s3⟩ := zT_step i hi9
    refine cr_iload C hl (j := 0) (by decide +kernel : decode prog_12_method_1_code 24 = .ok (.iload 5, 2)) rfl ?_
    refine cr_ldcS C (cz_R hX) (by decide +kernel : decode prog_12_method_1_code 26 = .ok (.ldc 19, 2)) ?_
    refine cr_jVi C hX hA hb (as := []) j_len jm_len rfl (by decide) rfl hl.1 (Nat.le_of_ble_eq_true rfl) hR (by decide +kernel : decode prog_12_method_1_code 28 = .ok (.invokevirtual 21, 3)) ?_
    refine cr_icge C (tgt := 85) (by decide +kernel : decode prog_12_method_1_code 31 = .ok (.if_icmp .ge 54, 3)) (by decide) (fun q => absurd q (nI_ge (by omega) (by omega))) (fun _ => ?_)
    refine cr_iload_n C hl (j := 2) (by decide +kernel : decode prog_12_method_1_code 34 = .ok (.iload_n 2, 1)) rfl ?_
    refine cr_bipush C (v := nI 27) (by decide +kernel : decode prog_12_method_1_code 35 = .ok (.bipush 27, 2)) (by decide) ?_
    refine cr_icge C (tgt := 85) (by decide +kernel : decode prog_12_method_1_code 37 = .ok (.if_icmp .ge 48, 3)) (by decide) (fun q => absurd q (nI_ge (by omega) (by omega))) (fun _ => ?_)
    refine cr_ldcS C (cz_R hX) (by decide +kernel : decode prog_12_method_1_code 40 = .ok (.ldc 19, 2)) ?_
    refine cr_iload C hl (j := 0) (by decide +kernel : decode prog_12_method_1_code 42 = .ok (.iload 5, 2)) rfl ?_
    refine cr_jVi C hX hA hb (as := [.int (nI i)]) (j_cha hi9) jm_cha rfl (by decide) rfl hl.1 (Nat.le_of_ble_eq_true rfl) hR (by decide +kernel : decode prog_12_method_1_code 44 = .ok (.invokevirtual 27, 3)) ?_
    refine cr_bipush C (v := 32) (by decide +kernel : decode prog_12_method_1_code 47 = .ok (.bipush 32, 2)) (by decide) ?_
    refine cr_icne C (tgt := 67) (by decide +kernel : decode prog_12_method_1_code 49 = .ok (.if_icmp .ne 18, 3)) (by decide) (fun q => ?_) (fun q => ?_)
    · obtain ⟨u1, u2⟩ := s2 q
      refine cr_lload_n C hl (j := 1) (by decide +kernel : decode prog_12_method_1_code 67 = .ok (.lload_n 3, 1)) rfl ?_
      refine cr_ldcS C (cz_R hX) (by decide +kernel : decode prog_12_method_1_code 68 = .ok (.ldc 19, 2)) ?_
      refine cr_iload C hl (j := 0) (by decide +kernel : decode prog_12_method_1_code 70 = .ok (.iload 5, 2)) rfl ?_
      refine cr_jVi C hX hA hb (as := [.int (nI i)]) (j_cha hi9) jm_cha rfl (by decide) rfl hl.1 (Nat.le_of_ble_eq_true rfl) hR (by decide +kernel : decode prog_12_method_1_code 72 = .ok (.invokevirtual 27, 3)) ?_
      refine cr_longer C hX (r := lN (tkp.getD (i + 1) 0)) zMS_10_31 u2 (by decide) hl.1 (Nat.le_of_ble_eq_true rfl) hR (by decide +kernel : decode prog_12_method_1_code 75 = .ok (.invokestatic 31, 3)) ?_
      refine cr_lstore_n C hl (by decide +kernel : decode prog_12_method_1_code 78 = .ok (.lstore_n 3, 1)) (by decide) rfl (fun ls2 hl2 => ?_)
      refine cr_iinc C hl2 (j := 1) (v := nI (i + 1)) (by decide +kernel : decode prog_12_method_1_code 79 = .ok (.iinc 5 1, 3)) rfl (nI_1 i) (by decide) rfl (fun ls3 hl3 => ?_)
      rw [tkf_eq u1]
      have hl3 : lv_has ls3 6 [(5, .int (nI (i + 1))), (3, .long (lN (tkp.getD (i + 1) 0))), (2, .int (nI (tkw.getD (i + 1) 0))), (0, .ref (ad 10 0)), (1, .ref (ad 9 0))] := by rw [u1]; exact lv_sub hl3 [0, 1, 2, 3, 4] rfl
      refine cr_goto C (tgt := 24) (by decide +kernel : decode prog_12_method_1_code 82 = .ok (.goto (-58), 3)) (by decide) ?_
      exact ih (i + 1) ls3 (by omega) hl3
    · obtain ⟨u1, u2, u3⟩ := s1 q
      refine cr_aload C hl (j := 3) (by decide +kernel : decode prog_12_method_1_code 52 = .ok (.aload_n 0, 1)) rfl ?_
      refine cr_get C (ci := 10) (K := 10) (kf := 1) 0 rfl pg_10_11 rfl rfl (by decide +kernel : decode prog_12_method_1_code 53 = .ok (.getfield 11, 3)) ?_
      refine cr_iload_n C hl (j := 2) (by decide +kernel : decode prog_12_method_1_code 56 = .ok (.iload_n 2, 1)) rfl ?_
      refine cr_lload_n C hl (j := 1) (by decide +kernel : decode prog_12_method_1_code 57 = .ok (.lload_n 3, 1)) rfl ?_
      refine cr_last C (q0 := 1) (t := 1) (N := 27) (f := tkf i) rfl (hcy (tkf i)) (vp_in_nI s3 (by omega)) (by decide +kernel : decode prog_12_method_1_code 58 = .ok (.lastore, 1)) ?_
      rw [nI_clamp (by omega), tkf_up u2 u1]
      refine cr_lconst C (v := lN 0) (by decide +kernel : decode prog_12_method_1_code 59 = .ok (.lconst 0, 1)) rfl ?_
      refine cr_lstore_n C hl (by decide +kernel : decode prog_12_method_1_code 60 = .ok (.lstore_n 3, 1)) (by decide) rfl (fun ls1 hl1 => ?_)
      refine cr_iinc C hl1 (j := 2) (v := nI (tkw.getD i 0 + 1)) (by decide +kernel : decode prog_12_method_1_code 61 = .ok (.iinc 2 1, 3)) rfl (nI_1 _) (by decide) rfl (fun ls2 hl2 => ?_)
      refine cr_goto C (tgt := 79) (by decide +kernel : decode prog_12_method_1_code 64 = .ok (.goto 15, 3)) (by decide) ?_
      refine cr_iinc C hl2 (j := 2) (v := nI (i + 1)) (by decide +kernel : decode prog_12_method_1_code 79 = .ok (.iinc 5 1, 3)) rfl (nI_1 i) (by decide) rfl (fun ls3 hl3 => ?_)
      have hl3 : lv_has ls3 6 [(5, .int (nI (i + 1))), (3, .long (lN (tkp.getD (i + 1) 0))), (2, .int (nI (tkw.getD (i + 1) 0))), (0, .ref (ad 10 0)), (1, .ref (ad 9 0))] := by rw [u2, u3]; exact lv_sub hl3 [0, 2, 1, 3, 4] rfl
      refine cr_goto C (tgt := 24) (by decide +kernel : decode prog_12_method_1_code 82 = .ok (.goto (-58), 3)) (by decide) ?_
      exact ih (i + 1) ls3 (by omega) hl3
theorem sl_X10_init : zsl [(35, 0)] = 27 := by
  simp only [zsl, List.map_cons, List.map_nil, List.sum_cons, List.sum_nil, Nat.reduceAdd, szk_35]
set_option maxRecDepth 100000 in
theorem k_X10_init {l : Launch} {D : va_G} {ad : Nat → Nat → Nat} {cy : Nat → ClassId} {b0 qK qV : Nat} (hb : b0 ≤ ad 10 0) : zMi l D ad cy 5 y_X10_init (.code y_X10_init prog_12_method_1_code 6 none) 10 0 [.ref (ad 9 0)] [(35, 0)] h0_ (zZ1 b0 qK qV) := by
  refine c_startZ (by decide) rfl (Nat.le_of_ble_eq_true rfl) ?_
  intro X ls C hX hA hQ hR hl hE
  have hR : ∀ n k, n ≤ 1 → k ≤ 27 → cR X n k := fun n k a b => hR n k a (Nat.le_trans b (Nat.le_of_eq sl_X10_init.symm))
  rw [sl_X10_init] at hE
  have hE : ∀ pc ls, decode prog_12_method_1_code pc = .ok (.return_, 1) → cW X pc ls [] (zws ad cy ((10, 0) :: [(35, 0)]) h0_) 1 27 := hE
  refine cr_aload C hl (j := 0) (by decide +kernel : decode prog_12_method_1_code 0 = .ok (.aload_n 0, 1)) rfl ?_
  refine cr_obj C hl.1 (zTd (by decide +kernel)) (by decide +kernel : decode prog_12_method_1_code 1 = .ok (.invokespecial 3, 3)) ?_
  refine cr_aload C hl (j := 0) (by decide +kernel : decode prog_12_method_1_code 4 = .ok (.aload_n 0, 1)) rfl ?_
  refine cr_bipush C (v := nI 27) (by decide +kernel : decode prog_12_method_1_code 5 = .ok (.bipush 27, 2)) (by decide) ?_
  refine cr_newa C zAT2 (N := 27) (a0 := (27, .inr (.inl (fun _ => 0)))) (fun _ => rfl) rfl (by decide) (by decide) (hQ 0 _ rfl) (hR _ _ (by decide) (by decide)) (by decide +kernel : decode prog_12_method_1_code 7 = .ok (.newarray .long, 2)) (cXl_E hX _) ?_
  refine cW_nk (n' := 1) (k' := 27) rfl rfl ?_
  refine cr_putF C pf_10_11 rfl rfl (Nat.le_of_ble_eq_true rfl) (by decide +kernel : decode prog_12_method_1_code 9 = .ok (.putfield 11, 3)) ?_
  refine cr_aload C hl (j := 0) (by decide +kernel : decode prog_12_method_1_code 12 = .ok (.aload_n 0, 1)) rfl ?_
  refine cr_aload C hl (j := 1) (by decide +kernel : decode prog_12_method_1_code 13 = .ok (.aload_n 1, 1)) rfl ?_
  refine cr_putF C pf_10_15 rfl rfl (Nat.le_of_ble_eq_true rfl) (by decide +kernel : decode prog_12_method_1_code 14 = .ok (.putfield 15, 3)) ?_
  refine cr_iconst C (v := nI 0) (by decide +kernel : decode prog_12_method_1_code 17 = .ok (.iconst 0, 1)) (by decide) ?_
  refine cr_istore_n C hl (by decide +kernel : decode prog_12_method_1_code 18 = .ok (.istore_n 2, 1)) (by decide) rfl (fun ls1 hl1 => ?_)
  refine cr_lconst C (v := lN 0) (by decide +kernel : decode prog_12_method_1_code 19 = .ok (.lconst 0, 1)) rfl ?_
  refine cr_lstore_n C hl1 (by decide +kernel : decode prog_12_method_1_code 20 = .ok (.lstore_n 3, 1)) (by decide) rfl (fun ls2 hl2 => ?_)
  refine cr_iconst C (v := nI 0) (by decide +kernel : decode prog_12_method_1_code 21 = .ok (.iconst 0, 1)) (by decide) ?_
  refine cr_istore C hl2 (by decide +kernel : decode prog_12_method_1_code 22 = .ok (.istore 5, 2)) (by decide) rfl (fun ls3 hl3 => ?_)
  refine cW_eq (w := ((ad 10 0, .inr (10, [.ref (ad 9 0), .ref (ad 35 0), .int 0, .int 0, .int 0, .int 0, .long 0, .int 0])) :: [(ad 35 0, .inl (cy 2, 27, .inr (.inl (tkf 0))))] : va_W)) (by rw [← tkf_0]; rfl) rfl rfl ?_
  exact tk_loop hb C hX hA (hR _ _ (by decide) (by decide)) (fun ls => cW_eq (by rw [tkf_141]; rfl) rfl rfl (hE 85 ls (by decide +kernel : decode prog_12_method_1_code 85 = .ok (.return_, 1)))) 141 0 ls3 rfl hl3
