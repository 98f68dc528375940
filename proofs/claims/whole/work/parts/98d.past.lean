/-! Past's constructor. (By program: wip/whole/init6.py) -/
def Np : Nat → List (Nat × Nat)
  | 0 => []
  | i + 1 => Np i ++ [(8, 5 + i), (31, 5 + i), (32, 5 + i), (33, 5 + i)]
abbrev lp_ : List (Nat × Nat) := [(27, 0), (8, 5), (31, 5), (32, 5), (33, 5), (8, 6), (31, 6), (32, 6), (33, 6), (8, 7), (31, 7), (32, 7), (33, 7), (8, 8), (31, 8), (32, 8), (33, 8), (8, 9), (31, 9), (32, 9), (33, 9), (8, 10), (31, 10), (32, 10), (33, 10), (8, 11), (31, 11), (32, 11), (33, 11), (8, 12), (31, 12), (32, 12), (33, 12), (8, 13), (31, 13), (32, 13), (33, 13), (8, 14), (31, 14), (32, 14), (33, 14), (8, 15), (31, 15), (32, 15), (33, 15), (8, 16), (31, 16), (32, 16), (33, 16), (8, 17), (31, 17), (32, 17), (33, 17), (8, 18), (31, 18), (32, 18), (33, 18), (8, 19), (31, 19), (32, 19), (33, 19), (8, 20), (31, 20), (32, 20), (33, 20)]
/-- the first i of the array of cells of kind K, from number b on -/
def apf (ad : Nat → Nat → Nat) (K b i : Nat) : Nat → Option Nat := fun x => bif Nat.blt x i then some (ad K (b + x)) else none
theorem apf_up {ad : Nat → Nat → Nat} {K b i q : Nat} {v : Int32} (hv : v = nI i) (hi : i < 1000) (hq : q = ad K (b + i)) : va_up (apf ad K b i) v.toNatClampNeg (some q) = apf ad K b (i + 1) := by
  subst hv; subst hq
  rw [nI_clamp (by omega)]
  funext x
  unfold va_up apf
  by_cases e : x = i
  · rw [if_pos e, e, show Nat.blt i (i + 1) = true from Nat.ble_eq.mpr (Nat.le_refl _)]; rfl
  · rw [if_neg e]
    by_cases e2 : x < i
    · rw [show Nat.blt x i = true from Nat.ble_eq.mpr e2, show Nat.blt x (i + 1) = true from Nat.ble_eq.mpr (by omega)]
    · rw [show Nat.blt x i = false from Bool.eq_false_iff.mpr (fun q => e2 (Nat.ble_eq.mp q)), show Nat.blt x (i + 1) = false from Bool.eq_false_iff.mpr (fun q => by have := Nat.ble_eq.mp q; omega)]
theorem apf_all {ad : Nat → Nat → Nat} {K b n : Nat} : ∀ j, j < n → apf ad K b n j = some (ad K (b + j)) := fun j hj => by
  unfold apf; rw [show Nat.blt j n = true from Nat.ble_eq.mpr hj]; rfl
theorem apf_0 {ad : Nat → Nat → Nat} {K b : Nat} : (fun _ => none : Nat → Option Nat) = apf ad K b 0 := by
  funext x; rfl
theorem lp_at : ∀ i, i < 16 → lp_ = ((27, 0) :: (Np i ++ [(8, 5 + i)])) ++ ([(31, 5 + i), (32, 5 + i), (33, 5 + i)] ++ lp_.drop (5 + 4 * i)) ∧ ((27, 0) :: (Np i ++ [(8, 5 + i)])).length = 2 + 4 * i ∧ lp_[1 + 4 * i]? = some (8, 5 + i) ∧ (Np (i + 1))[4 * i]? = some (8, 5 + i) := by decide +kernel
theorem cz_AP {X : cT} {own : String} {cc : ByteArray} {nL : Nat} (C : cX X own cc nL) : match X with | ((_, _, _, _, s, _, _, _, _, _), _) => va_AO "SoapTreaty$Page" s := by
  obtain ⟨⟨p, l9, e9, R, s, m, args, below, meth, c⟩, ⟨D9, cy9, A, Q⟩⟩ := X
  exact C.2.2.2.2.2.2.2.2.1.2.2.2.2.2.1
theorem cz_AS {X : cT} {own : String} {cc : ByteArray} {nL : Nat} (C : cX X own cc nL) : match X with | ((_, _, _, _, s, _, _, _, _, _), _) => va_AO "SoapTreaty$State" s := by
  obtain ⟨⟨p, l9, e9, R, s, m, args, below, meth, c⟩, ⟨D9, cy9, A, Q⟩⟩ := X
  exact C.2.2.2.2.2.2.2.2.1.2.2.2.2.2.2
theorem pg_5_11 : ∃ (Cn : String) (T : u_T) (N : Nat), zcl[5]? = some (Cn, T, N) ∧ (∀ w ∈ u_ws Cn T N, w ∈ zT) ∧ 0 < N ∧ Cond.fieldLink "SoapTreaty$Past" 11 (T 0).1 (T 0).2.1 (T 0).2.2.1 ∈ zT := ⟨zN5, zT5, 3, rfl, zin_5, by decide, zTd (by decide +kernel)⟩
theorem pf_5_11 : zPF "SoapTreaty$Past" 11 5 0 true (.array (.object "SoapTreaty$State")) := ⟨zN5, zT5, 3, zF5, rfl, zin_5, zf_5, zn_5, by decide, zTd (by decide +kernel), rfl, rfl, rfl⟩
set_option maxRecDepth 100000 in
theorem ps_loop {l : Launch} {D : va_G} {ad : Nat → Nat → Nat} {cy : Nat → ClassId} {X : cT} (C : cX X "SoapTreaty$Past" prog_7_method_1_code 3) (hX : cXl X l D cy 2 lp_ ad (fun _ => True)) (hQ : ∀ i q, lp_[i]? = some q → cQ X i (ad q.1 q.2)) (hR : ∀ n k, n ≤ 65 → k ≤ 464 → cR X n k) (hE : ∀ ls, cW X 41 ls [] ((ad 5 0, .inr (5, [.ref (ad 27 0), .int 0, .int 0])) :: (ad 27 0, .inl (cy 6, 16, .inr (.inr (.inr (.inr (apf ad 8 5 16)))))) :: zws ad cy (Np 16) h0_ : va_W) 65 464) :
    ∀ (r i : Nat) (ls : Array Slot), i + r = 16 → lv_has ls 3 [(2, .int (nI i)), (0, .ref (ad 5 0)), (1, .ref (ad 0 0))] → cW X 15 ls [] ((ad 5 0, .inr (5, [.ref (ad 27 0), .int 0, .int 0])) :: (ad 27 0, .inl (cy 6, 16, .inr (.inr (.inr (.inr (apf ad 8 5 i)))))) :: zws ad cy (Np i) h0_ : va_W) (1 + 4 * i) (16 + 28 * i) := by
  have hcy : match X with | (_, (_, cy', _, _)) => (ztys cy')[5]? = some (cy 6, .object "SoapTreaty$State") := by
    obtain ⟨⟨p, l9, e, R, s, m, args, below, meth, c⟩, ⟨D9, cy9, A, Q⟩⟩ := X
    obtain ⟨rfl, rfl, rfl, rfl, hatN, hZs⟩ := hX
    rfl
  intro r
  induction r with
  | zero =>
    intro i ls hi hl
    have hi : i = 16 := by omega
    subst hi
    refine cr_iload_n C hl (j := 0) (by decide +kernel : decode prog_7_method_1_code 15 = .ok (.iload_n 2, 1)) rfl ?_
    refine cr_bipush C (v := nI 16) (by decide +kernel : decode prog_7_method_1_code 16 = .ok (.bipush 16, 2)) (by decide) ?_
    exact cr_icge C (tgt := 41) (by decide +kernel : decode prog_7_method_1_code 18 = .ok (.if_icmp .ge 23, 3)) (by decide) (fun _ => hE ls) (fun q => absurd (Int32.le_refl _) q)
  | succ r ih =>
    intro i ls hi hl
    have hi9 : i < 16 := by omega
    obtain ⟨e1, e2, e3, e4⟩ := lp_at i hi9
    refine cr_iload_n C hl (j := 0) (by decide +kernel : decode prog_7_method_1_code 15 = .ok (.iload_n 2, 1)) rfl ?_
    refine cr_bipush C (v := nI 16) (by decide +kernel : decode prog_7_method_1_code 16 = .ok (.bipush 16, 2)) (by decide) ?_
    refine cr_icge C (tgt := 41) (by decide +kernel : decode prog_7_method_1_code 18 = .ok (.if_icmp .ge 23, 3)) (by decide) (fun q => absurd q (nI_ge (by omega) (by omega))) (fun _ => ?_)
    refine cr_aload C hl (j := 1) (by decide +kernel : decode prog_7_method_1_code 21 = .ok (.aload_n 0, 1)) rfl ?_
    refine cr_get C (ci := 5) (K := 5) (kf := 0) 0 rfl pg_5_11 rfl rfl (by decide +kernel : decode prog_7_method_1_code 22 = .ok (.getfield 11, 3)) ?_
    refine cr_iload_n C hl (j := 0) (by decide +kernel : decode prog_7_method_1_code 25 = .ok (.iload_n 2, 1)) rfl ?_
    refine cr_new C zCL_8 (zTd (by decide +kernel)) (hQ (1 + 4 * i) _ e3) (hR _ _ (by omega) (by omega)) (by decide +kernel : decode prog_7_method_1_code 26 = .ok (.new 9, 3)) ?_
    refine cr_dup C (by decide +kernel : decode prog_7_method_1_code 29 = .ok (.dup, 1)) ?_
    refine cr_aload C hl (j := 2) (by decide +kernel : decode prog_7_method_1_code 30 = .ok (.aload_n 1, 1)) rfl ?_
    refine cr_kid C hX (n2 := 1) (as := [.ref (ad 0 0)]) (k_X8_init (j := 5 + i)) (fun _ _ _ _ h => h) (cz_T) (cz_at hX _ _ e1 (by rw [e2]; omega)) (by decide) (by decide) (zTd (by decide +kernel)) (zTd (by decide +kernel)) (zTd (by decide +kernel)) (zTd (by decide +kernel)) rfl (by decide) (by decide) (by decide +kernel) rfl hl.1 (Nat.le_of_ble_eq_true rfl) (hR _ _ (show 1 + 4 * i + 1 + 3 ≤ 65 by omega) (show 16 + 28 * i + 7 + 21 ≤ 464 by omega)) (by decide +kernel : decode prog_7_method_1_code 31 = .ok (.invokespecial 15, 3)) ?_
    refine cW_eq (n := 1 + 4 * (i + 1)) (k := 16 + 28 * (i + 1)) (w := ((ad 5 0, .inr (5, [.ref (ad 27 0), .int 0, .int 0])) :: (ad 27 0, .inl (cy 6, 16, .inr (.inr (.inr (.inr (apf ad 8 5 i)))))) :: zws ad cy (Np (i + 1)) h0_ : va_W)) ?_ (show 1 + 4 * (i + 1) = 1 + 4 * i + 1 + 3 by omega) (show 16 + 28 * (i + 1) = 16 + 28 * i + 7 + 21 by omega) ?_
    · show _ = _ ++ _
      unfold zws
      rw [show Np (i + 1) = Np i ++ [(8, 5 + i), (31, 5 + i), (32, 5 + i), (33, 5 + i)] from rfl, List.map_append]
      rfl
    refine cr_astq C (q0 := 1) (qk := 2 + 4 * i) (ci := 8) (t := 5) (N := 16) (f := apf ad 8 5 i) (f9 := apf ad 8 5 (i + 1)) (r := (zN8, zT8, 7)) (vs := zfs ad h0_ 8 (5 + i) 0 (zfl 8)) rfl hcy (zws_get (w := [(ad 5 0, .inr (5, [.ref (ad 27 0), .int 0, .int 0])), (ad 27 0, .inl (cy 6, 16, .inr (.inr (.inr (.inr (apf ad 8 5 i))))))]) e4) rfl (vp_in_nI hi9 (by omega)) (apf_up rfl (by omega) rfl) (by decide +kernel : decode prog_7_method_1_code 34 = .ok (.aastore, 1)) ?_
    refine cr_iinc C hl (j := 0) (v := nI (i + 1)) (by decide +kernel : decode prog_7_method_1_code 35 = .ok (.iinc 2 1, 3)) rfl (nI_1 i) (by decide) rfl (fun ls1 hl1 => ?_)
    refine cr_goto C (tgt := 15) (by decide +kernel : decode prog_7_method_1_code 38 = .ok (.goto (-23), 3)) (by decide) ?_
    exact ih (i + 1) ls1 (by omega) hl1
theorem sl_X5_init : zsl lp_ = 464 := by
  simp only [lp_, zsl, List.map_cons, List.map_nil, List.sum_cons, List.sum_nil, Nat.reduceAdd, szk_27, szk_31, szk_32, szk_33, szk_8]
set_option maxRecDepth 100000 in
theorem k_X5_init {l : Launch} {D : va_G} {ad : Nat → Nat → Nat} {cy : Nat → ClassId} : zMi l D ad cy 2 y_X5_init (.code y_X5_init prog_7_method_1_code 3 none) 5 0 [.ref (ad 0 0)] lp_ h0_ (fun _ => True) := by
  refine c_start (by decide) rfl (Nat.le_of_ble_eq_true rfl) ?_
  intro X ls C hX hQ hR hl hE
  have hR : ∀ n k, n ≤ 65 → k ≤ 464 → cR X n k := fun n k a b => hR n k a (Nat.le_trans b (Nat.le_of_eq sl_X5_init.symm))
  rw [sl_X5_init] at hE
  have hE : ∀ pc ls, decode prog_7_method_1_code pc = .ok (.return_, 1) → cW X pc ls [] (zws ad cy ((5, 0) :: lp_) h0_) 65 464 := hE
  refine cr_aload C hl (j := 0) (by decide +kernel : decode prog_7_method_1_code 0 = .ok (.aload_n 0, 1)) rfl ?_
  refine cr_obj C hl.1 (zTd (by decide +kernel)) (by decide +kernel : decode prog_7_method_1_code 1 = .ok (.invokespecial 1, 3)) ?_
  refine cr_aload C hl (j := 0) (by decide +kernel : decode prog_7_method_1_code 4 = .ok (.aload_n 0, 1)) rfl ?_
  refine cr_bipush C (v := nI 16) (by decide +kernel : decode prog_7_method_1_code 5 = .ok (.bipush 16, 2)) (by decide) ?_
  refine cr_newq C (t := 6) (N := 16) (Cn := "SoapTreaty$State") (zTd (by decide +kernel)) (cz_AS C) (fun _ => ⟨5, rfl⟩) rfl (by decide) (hQ 0 _ rfl) (hR _ _ (by decide) (by decide)) (by decide +kernel : decode prog_7_method_1_code 7 = .ok (.anewarray 9, 3)) (cXl_E hX _) ?_
  refine cW_nk (n' := 1) (k' := 16) rfl rfl ?_
  refine cr_putF C pf_5_11 rfl rfl (Nat.le_of_ble_eq_true rfl) (by decide +kernel : decode prog_7_method_1_code 10 = .ok (.putfield 11, 3)) ?_
  refine cr_iconst C (v := nI 0) (by decide +kernel : decode prog_7_method_1_code 13 = .ok (.iconst 0, 1)) (by decide) ?_
  refine cr_istore_n C hl (by decide +kernel : decode prog_7_method_1_code 14 = .ok (.istore_n 2, 1)) (by decide) rfl (fun ls1 hl1 => ?_)
  refine cW_eq (n := 1 + 4 * 0) (k := 16 + 28 * 0) (w := ((ad 5 0, .inr (5, [.ref (ad 27 0), .int 0, .int 0])) :: (ad 27 0, .inl (cy 6, 16, .inr (.inr (.inr (.inr (apf ad 8 5 0)))))) :: zws ad cy (Np 0) h0_ : va_W)) (by rw [← apf_0]; rfl) rfl rfl ?_
  refine ps_loop C hX hQ hR (fun ls => ?_) 16 0 ls1 rfl hl1
  refine cW_arr (w1 := [(ad 5 0, .inr (5, [.ref (ad 27 0), .int 0, .int 0]))]) (g := fun j => some (ad 8 (5 + j))) apf_all ?_
  exact cW_eq rfl rfl rfl (hE 41 ls (by decide +kernel : decode prog_7_method_1_code 41 = .ok (.return_, 1)))
