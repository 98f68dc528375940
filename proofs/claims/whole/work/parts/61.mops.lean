/-! What the model asks of a token. -/
theorem mw_0 : (8815221 : Int64) = lN (enc 27 (kws.getD 0 [])) := by decide +kernel
theorem mw_1 : (12257559 : Int64) = lN (enc 27 (kws.getD 1 [])) := by decide +kernel
theorem mw_2 : (60080 : Int64) = lN (enc 27 (kws.getD 2 [])) := by decide +kernel
theorem mw_3 : (131638 : Int64) = lN (enc 27 (kws.getD 3 [])) := by decide +kernel
theorem mw_4 : (555 : Int64) = lN (enc 27 (kws.getD 4 [])) := by decide +kernel
theorem mw_5 : (10792937 : Int64) = lN (enc 27 (kws.getD 5 [])) := by decide +kernel
theorem mw_6 : (158683 : Int64) = lN (enc 27 (kws.getD 6 [])) := by decide +kernel
theorem mw_7 : (232280870 : Int64) = lN (enc 27 (kws.getD 7 [])) := by decide +kernel
theorem mw_8 : (279199863 : Int64) = lN (enc 27 (kws.getD 8 [])) := by decide +kernel
theorem mw_9 : (12322792 : Int64) = lN (enc 27 (kws.getD 9 [])) := by decide +kernel
theorem mw_10 : (453959 : Int64) = lN (enc 27 (kws.getD 10 [])) := by decide +kernel
theorem mw_11 : (158454 : Int64) = lN (enc 27 (kws.getD 11 [])) := by decide +kernel
theorem mw_12 : (321581 : Int64) = lN (enc 27 (kws.getD 12 [])) := by decide +kernel
theorem mw_13 : (144524 : Int64) = lN (enc 27 (kws.getD 13 [])) := by decide +kernel
theorem mw_14 : (8861527 : Int64) = lN (enc 27 (kws.getD 14 [])) := by decide +kernel
theorem mw_15 : (456500 : Int64) = lN (enc 27 (kws.getD 15 [])) := by decide +kernel
theorem mw_16 : (8740238 : Int64) = lN (enc 27 (kws.getD 16 [])) := by decide +kernel
theorem mw_17 : (7475934 : Int64) = lN (enc 27 (kws.getD 17 [])) := by decide +kernel
theorem mw_18 : (3427 : Int64) = lN (enc 27 (kws.getD 18 [])) := by decide +kernel
theorem mw_19 : (43948647 : Int64) = lN (enc 27 (kws.getD 19 [])) := by decide +kernel
theorem mw_20 : (10631 : Int64) = lN (enc 27 (kws.getD 20 [])) := by decide +kernel
theorem mw_21 : (1111 : Int64) = lN (enc 27 (kws.getD 21 [])) := by decide +kernel
theorem mw_22 : (423 : Int64) = lN (enc 27 (kws.getD 22 [])) := by decide +kernel
theorem mw_23 : (240023 : Int64) = lN (enc 27 (kws.getD 23 [])) := by decide +kernel
theorem mw_24 : (10939571 : Int64) = lN (enc 27 (kws.getD 24 [])) := by decide +kernel
theorem mw_25 : (16922 : Int64) = lN (enc 27 (kws.getD 25 [])) := by decide +kernel
theorem mw_26 : (427333 : Int64) = lN (enc 27 (kws.getD 26 [])) := by decide +kernel
theorem TM.kind {T : zTx} {p : Nat} {h : zH} (q : TM T p h) {k : Nat} (hk : k < 5) (x : Int32) (hx : x = nI k) : h.1 12 0 6 = x ↔ kK T p = k := by
  have l := kK_le (T := T) (p := p)
  rw [q.2.2.1, hx]; exact nI_eq (by omega) (by omega)
theorem ml_isWord {T : zTx} {p i : Nat} {x : Int64} {h : zH} (hp : p ≤ T.1) (q : TM T p h) (hi : i < 27) (hx : x = lN (enc 27 (kws.getD i []))) : f_X12_isWord [.inr (.inr (12, 0)), .inr (.inl x)] h = some (some (.inl (zb (kK T p = 1 ∧ kI T p = i))), h) := by
  rw [g_X12_isWord, zfc (q.kind (k := 1) (by omega) 1 rfl), zfc (lg_cmp_eq _ _), hx]
  by_cases e : kK T p = 1
  · rw [zf_pos e, q.2.2.2.1 e, zfc (lw_is hp e hi)]
    by_cases e2 : kI T p = i
    · rw [zf_pos e2, zb_pos ⟨e, e2⟩]
    · rw [zf_neg e2, zb_neg (fun z => e2 z.2)]
  · rw [zf_neg e, zb_neg (fun z => e z.1)]
theorem ml_isSign {T : zTx} {p s : Nat} {h : zH} (X : txM T h) (hp : p ≤ T.1) (q : TM T p h) (hs : s < 127) : f_X12_isSign [.inr (.inr (12, 0)), .inl (nI s)] h = some (some (.inl (zb (kK T p = 3 ∧ T.2 (kB T p) = s))), h) := by
  have t1 := X.1.1
  rw [g_X12_isSign, zfc (q.kind (k := 3) (by omega) 3 rfl)]
  by_cases e : kK T p = 3
  · have lt := (kK_3 hp e).1
    have s127 := X.lt lt
    rw [zf_pos e, q.2.1, zfx (by omega) (by omega), nI_clamp (by omega), X.2.2 _ lt, zfc (nI_eq (by omega) (by omega))]
    by_cases e2 : T.2 (kB T p) = s
    · rw [zf_pos e2, zb_pos ⟨e, e2⟩]
    · rw [zf_neg e2, zb_neg (fun z => e2 z.2)]
  · rw [zf_neg e, zb_neg (fun z => e z.1)]
theorem ml_fails {T : zTx} {p k : Nat} {h : zH} (q : h.1 12 0 5 = nI (kB T p)) : f_X12_fails [.inr (.inr (12, 0)), .inl (nI k)] h = some (some (.inl 0), zuI h 12 0 9 (nI (k + 16 * kB T p))) := by
  rw [g_X12_fails, q, show (16 : Int32) = nI 16 from rfl, pk_mul, nI_add]
theorem ml_isKept {T : zTx} {p : Nat} {h : zH} (hp : p ≤ T.1) (q : TM T p h) : f_X12_isKept [.inr (.inr (12, 0))] h = some (some (.inl (zb (¬ (kK T p = 1 ∧ 23 ≤ kI T p)))), h) := by
  have l := kI_le (T := T) (p := p)
  rw [g_X12_isKept, zfc (q.kind (k := 1) (by omega) 1 rfl)]
  by_cases e : kK T p = 1
  · have c : ∀ i, i < 27 → ∀ x, x = lN (enc 27 (kws.getD i [])) → (lg_cmp (h.2 12 0 7) x = 0 ↔ kI T p = i) := fun i hi x hx => by
      rw [lg_cmp_eq, hx, q.2.2.2.1 e]; exact lw_is hp e hi
    rw [zf_pos e]
    by_cases e0 : kI T p = 0
    · rw [zf_pos ((c 0 (by omega) _ mw_0).mpr e0), zb_pos (fun z => by omega)]
    rw [zf_neg (fun z => e0 ((c 0 (by omega) _ mw_0).mp z))]
    by_cases e1 : kI T p = 1
    · rw [zf_pos ((c 1 (by omega) _ mw_1).mpr e1), zb_pos (fun z => by omega)]
    rw [zf_neg (fun z => e1 ((c 1 (by omega) _ mw_1).mp z))]
    by_cases e2 : kI T p = 2
    · rw [zf_pos ((c 2 (by omega) _ mw_2).mpr e2), zb_pos (fun z => by omega)]
    rw [zf_neg (fun z => e2 ((c 2 (by omega) _ mw_2).mp z))]
    by_cases e3 : kI T p = 3
    · rw [zf_pos ((c 3 (by omega) _ mw_3).mpr e3), zb_pos (fun z => by omega)]
    rw [zf_neg (fun z => e3 ((c 3 (by omega) _ mw_3).mp z))]
    by_cases e4 : kI T p = 4
    · rw [zf_pos ((c 4 (by omega) _ mw_4).mpr e4), zb_pos (fun z => by omega)]
    rw [zf_neg (fun z => e4 ((c 4 (by omega) _ mw_4).mp z))]
    by_cases e5 : kI T p = 5
    · rw [zf_pos ((c 5 (by omega) _ mw_5).mpr e5), zb_pos (fun z => by omega)]
    rw [zf_neg (fun z => e5 ((c 5 (by omega) _ mw_5).mp z))]
    by_cases e6 : kI T p = 6
    · rw [zf_pos ((c 6 (by omega) _ mw_6).mpr e6), zb_pos (fun z => by omega)]
    rw [zf_neg (fun z => e6 ((c 6 (by omega) _ mw_6).mp z))]
    by_cases e7 : kI T p = 7
    · rw [zf_pos ((c 7 (by omega) _ mw_7).mpr e7), zb_pos (fun z => by omega)]
    rw [zf_neg (fun z => e7 ((c 7 (by omega) _ mw_7).mp z))]
    by_cases e8 : kI T p = 8
    · rw [zf_pos ((c 8 (by omega) _ mw_8).mpr e8), zb_pos (fun z => by omega)]
    rw [zf_neg (fun z => e8 ((c 8 (by omega) _ mw_8).mp z))]
    by_cases e9 : kI T p = 9
    · rw [zf_pos ((c 9 (by omega) _ mw_9).mpr e9), zb_pos (fun z => by omega)]
    rw [zf_neg (fun z => e9 ((c 9 (by omega) _ mw_9).mp z))]
    by_cases e10 : kI T p = 10
    · rw [zf_pos ((c 10 (by omega) _ mw_10).mpr e10), zb_pos (fun z => by omega)]
    rw [zf_neg (fun z => e10 ((c 10 (by omega) _ mw_10).mp z))]
    by_cases e11 : kI T p = 11
    · rw [zf_pos ((c 11 (by omega) _ mw_11).mpr e11), zb_pos (fun z => by omega)]
    rw [zf_neg (fun z => e11 ((c 11 (by omega) _ mw_11).mp z))]
    by_cases e12 : kI T p = 12
    · rw [zf_pos ((c 12 (by omega) _ mw_12).mpr e12), zb_pos (fun z => by omega)]
    rw [zf_neg (fun z => e12 ((c 12 (by omega) _ mw_12).mp z))]
    by_cases e13 : kI T p = 13
    · rw [zf_pos ((c 13 (by omega) _ mw_13).mpr e13), zb_pos (fun z => by omega)]
    rw [zf_neg (fun z => e13 ((c 13 (by omega) _ mw_13).mp z))]
    by_cases e14 : kI T p = 14
    · rw [zf_pos ((c 14 (by omega) _ mw_14).mpr e14), zb_pos (fun z => by omega)]
    rw [zf_neg (fun z => e14 ((c 14 (by omega) _ mw_14).mp z))]
    by_cases e15 : kI T p = 15
    · rw [zf_pos ((c 15 (by omega) _ mw_15).mpr e15), zb_pos (fun z => by omega)]
    rw [zf_neg (fun z => e15 ((c 15 (by omega) _ mw_15).mp z))]
    by_cases e16 : kI T p = 16
    · rw [zf_pos ((c 16 (by omega) _ mw_16).mpr e16), zb_pos (fun z => by omega)]
    rw [zf_neg (fun z => e16 ((c 16 (by omega) _ mw_16).mp z))]
    by_cases e17 : kI T p = 17
    · rw [zf_pos ((c 17 (by omega) _ mw_17).mpr e17), zb_pos (fun z => by omega)]
    rw [zf_neg (fun z => e17 ((c 17 (by omega) _ mw_17).mp z))]
    by_cases e18 : kI T p = 18
    · rw [zf_pos ((c 18 (by omega) _ mw_18).mpr e18), zb_pos (fun z => by omega)]
    rw [zf_neg (fun z => e18 ((c 18 (by omega) _ mw_18).mp z))]
    by_cases e19 : kI T p = 19
    · rw [zf_pos ((c 19 (by omega) _ mw_19).mpr e19), zb_pos (fun z => by omega)]
    rw [zf_neg (fun z => e19 ((c 19 (by omega) _ mw_19).mp z))]
    by_cases e20 : kI T p = 20
    · rw [zf_pos ((c 20 (by omega) _ mw_20).mpr e20), zb_pos (fun z => by omega)]
    rw [zf_neg (fun z => e20 ((c 20 (by omega) _ mw_20).mp z))]
    by_cases e21 : kI T p = 21
    · rw [zf_pos ((c 21 (by omega) _ mw_21).mpr e21), zb_pos (fun z => by omega)]
    rw [zf_neg (fun z => e21 ((c 21 (by omega) _ mw_21).mp z))]
    by_cases e22 : kI T p = 22
    · rw [zf_pos ((c 22 (by omega) _ mw_22).mpr e22), zb_pos (fun z => by omega)]
    rw [zf_neg (fun z => e22 ((c 22 (by omega) _ mw_22).mp z))]
    rw [zb_neg (fun z => z ⟨e, by omega⟩)]
  · rw [zf_neg e, zb_pos (fun z => e z.1)]
theorem ml_fact {T : zTx} {p : Nat} {h : zH} (hp : p ≤ T.1) (q : TM T p h) : f_X12_fact [.inr (.inr (12, 0))] h = some (some (.inl (nI (zn (kK T p = 1 ∧ 23 ≤ kI T p ∧ kI T p < 27) (kI T p - 22) 0))), h) := by
  have l := kI_le (T := T) (p := p)
  rw [g_X12_fact, zfc (q.kind (k := 1) (by omega) 1 rfl)]
  by_cases e : kK T p = 1
  · have c : ∀ i, i < 27 → ∀ x, x = lN (enc 27 (kws.getD i [])) → (lg_cmp (h.2 12 0 7) x = 0 ↔ kI T p = i) := fun i hi x hx => by
      rw [lg_cmp_eq, hx, q.2.2.2.1 e]; exact lw_is hp e hi
    rw [zf_pos e]
    by_cases e23 : kI T p = 23
    · rw [zf_pos ((c 23 (by omega) _ mw_23).mpr e23), zn_pos ⟨e, by omega, by omega⟩, e23]; rfl
    rw [zf_neg (fun z => e23 ((c 23 (by omega) _ mw_23).mp z))]
    by_cases e24 : kI T p = 24
    · rw [zf_pos ((c 24 (by omega) _ mw_24).mpr e24), zn_pos ⟨e, by omega, by omega⟩, e24]; rfl
    rw [zf_neg (fun z => e24 ((c 24 (by omega) _ mw_24).mp z))]
    by_cases e25 : kI T p = 25
    · rw [zf_pos ((c 25 (by omega) _ mw_25).mpr e25), zn_pos ⟨e, by omega, by omega⟩, e25]; rfl
    rw [zf_neg (fun z => e25 ((c 25 (by omega) _ mw_25).mp z))]
    by_cases e26 : kI T p = 26
    · rw [zf_pos ((c 26 (by omega) _ mw_26).mpr e26), zn_pos ⟨e, by omega, by omega⟩, e26]; rfl
    rw [zf_neg (fun z => e26 ((c 26 (by omega) _ mw_26).mp z))]
    rw [zn_neg (fun z => by omega)]; rfl
  · rw [zf_neg e, zn_neg (fun z => e z.1)]; rfl
theorem cl_factStep {T : zTx} {p : Nat} {h : zH} (q : TC T p h) : f_X2_factStep [.inr (.inr (2, 0))] h = some (some (.inl (-nI (zn (kK T p = 1 ∧ 23 ≤ kI T p ∧ kI T p < 27) (kI T p - 22) 0))), h) := by
  have l := kI_le (T := T) (p := p)
  rw [g_X2_factStep, zfc (q.kind (k := 1) (by omega) 2 rfl)]
  by_cases e : kK T p = 1
  · rw [zf_pos e, (q.2.2.2.2.1 e).2]
    by_cases e27 : kI T p < 27
    · rw [if_pos e27]
      by_cases e23 : kI T p = 23
      · rw [zf_pos ((eqO (b := 23) (by omega) (by decide)).mpr e23), zn_pos ⟨e, by omega, by omega⟩, e23]; rfl
      rw [zf_neg (fun z => e23 ((eqO (b := 23) (by omega) (by decide)).mp z))]
      by_cases e24 : kI T p = 24
      · rw [zf_pos ((eqO (b := 24) (by omega) (by decide)).mpr e24), zn_pos ⟨e, by omega, by omega⟩, e24]; rfl
      rw [zf_neg (fun z => e24 ((eqO (b := 24) (by omega) (by decide)).mp z))]
      by_cases e25 : kI T p = 25
      · rw [zf_pos ((eqO (b := 25) (by omega) (by decide)).mpr e25), zn_pos ⟨e, by omega, by omega⟩, e25]; rfl
      rw [zf_neg (fun z => e25 ((eqO (b := 25) (by omega) (by decide)).mp z))]
      by_cases e26 : kI T p = 26
      · rw [zf_pos ((eqO (b := 26) (by omega) (by decide)).mpr e26), zn_pos ⟨e, by omega, by omega⟩, e26]; rfl
      rw [zf_neg (fun z => e26 ((eqO (b := 26) (by omega) (by decide)).mp z))]
      rw [zn_neg (fun z => by omega)]; rfl
    · rw [if_neg e27, zf_neg (by decide), zf_neg (by decide), zf_neg (by decide), zf_neg (by decide), zn_neg (fun z => by omega)]; rfl
  · rw [zf_neg e, zn_neg (fun z => e z.1)]; rfl
/-- names in the model's lists, of the told congress (r = 0) or of the draft (r = 1) -/
def nmM (r n c : Nat) (wp wc : Nat → List Nat) (h : zH) : Prop := n ≤ 5 ∧ c ≤ 7 ∧ h.1 39 0 (3 * r) = nI n ∧ h.1 39 0 (3 * r + 1) = nI c ∧ (∀ q, q < n → okw (wp q) ∧ h.2 40 0 (5 * r + q) = lN (enc 27 (wp q))) ∧ (∀ q, q < c → okw (wc q) ∧ h.2 41 0 (7 * r + q) = lN (enc 27 (wc q)))
theorem ml_powerNamed {T : zTx} {p r n c : Nat} {wp wc : Nat → List Nat} {h : zH} (hp : p ≤ T.1) (q : TM T p h) (e : kK T p = 1) (hr : r < 2) (N : nmM r n c wp wc h) : f_X12_powerNamed [.inr (.inr (12, 0)), .inl (nI r)] h = some (some (.inl (fi9 n (fun q => wp q = kW T p))), h) := by
  obtain ⟨n1, n2, n3, n4, n5, n6⟩ := N
  rw [g_X12_powerNamed]
  have m3 : (3 : Int32) * nI r + 0 = nI (3 * r) := by
    have e1 : (3 : Int32) * nI r = nI (3 * r) := pk_mul 3 r
    rw [e1]; exact nI_add (3 * r) 0
  have m5 : (5 : Int32) * nI r = nI (5 * r) := pk_mul 5 r
  have := zloopF (fun i => zL p_X12_powerNamed 4 [some (.inr (.inr (12, 0))), some (.inl (nI r)), some (.inl (nI i))] [] h) (fun i => h.2 40 0 i = h.2 12 0 7) (fun i => some (some (.inl (nI (i - 5 * r))), h)) (some (some (.inl zm1), h)) n (5 * r) (fun i h1 h2 => by
    rw [e_X12_powerNamed_4, m3, m5, zfx (by omega) (by omega), nI_clamp (by omega), n3, nI_add, zf_pos (nI_lt (by omega) (by omega)), zfx (by omega) (by omega), nI_clamp (by omega), zfc (lg_cmp_eq _ _), nI_1, pk_sub (by omega)]) (by
    rw [e_X12_powerNamed_4, m3, m5, zfx (by omega) (by omega), nI_clamp (by omega), n3, nI_add, zf_neg (nI_nlt' (by omega))])
  rw [m5]
  refine this.trans ?_
  rw [show 5 * r + fst9 n (fun i => h.2 40 0 (5 * r + i) = h.2 12 0 7) - 5 * r = fst9 n (fun i => h.2 40 0 (5 * r + i) = h.2 12 0 7) by omega, zfS]
  exact congrArg (fun z => some (some (Sum.inl z), h)) (fi9_congr (fun i hi => by rw [(n5 i hi).2, q.2.2.2.1 e]; exact enc_eq (by omega) (by omega) (n5 i hi).1 (kW_ok hp e)))
theorem ml_cakeNamed {T : zTx} {p r n c : Nat} {wp wc : Nat → List Nat} {h : zH} (hp : p ≤ T.1) (q : TM T p h) (e : kK T p = 1) (hr : r < 2) (N : nmM r n c wp wc h) : f_X12_cakeNamed [.inr (.inr (12, 0)), .inl (nI r)] h = some (some (.inl (fi9 c (fun q => wc q = kW T p))), h) := by
  obtain ⟨n1, n2, n3, n4, n5, n6⟩ := N
  rw [g_X12_cakeNamed]
  have m3 : (3 : Int32) * nI r + 1 = nI (3 * r + 1) := by
    have e1 : (3 : Int32) * nI r = nI (3 * r) := pk_mul 3 r
    rw [e1]; exact nI_add (3 * r) 1
  have m5 : (7 : Int32) * nI r = nI (7 * r) := pk_mul 7 r
  have := zloopF (fun i => zL p_X12_cakeNamed 5 [some (.inr (.inr (12, 0))), some (.inl (nI r)), some (.inl (nI i))] [] h) (fun i => h.2 41 0 i = h.2 12 0 7) (fun i => some (some (.inl (nI (i - 7 * r))), h)) (some (some (.inl zm1), h)) c (7 * r) (fun i h1 h2 => by
    rw [e_X12_cakeNamed_5, m3, m5, zfx (by omega) (by omega), nI_clamp (by omega), n4, nI_add, zf_pos (nI_lt (by omega) (by omega)), zfx (by omega) (by omega), nI_clamp (by omega), zfc (lg_cmp_eq _ _), nI_1, pk_sub (by omega)]) (by
    rw [e_X12_cakeNamed_5, m3, m5, zfx (by omega) (by omega), nI_clamp (by omega), n4, nI_add, zf_neg (nI_nlt' (by omega))])
  rw [m5]
  refine this.trans ?_
  rw [show 7 * r + fst9 c (fun i => h.2 41 0 (7 * r + i) = h.2 12 0 7) - 7 * r = fst9 c (fun i => h.2 41 0 (7 * r + i) = h.2 12 0 7) by omega, zfS]
  exact congrArg (fun z => some (some (Sum.inl z), h)) (fi9_congr (fun i hi => by rw [(n6 i hi).2, q.2.2.2.1 e]; exact enc_eq (by omega) (by omega) (n6 i hi).1 (kW_ok hp e)))
theorem fi9_lt {n : Nat} {P : Nat → Prop} (hn : n < 100) : fi9 n P < 0 ↔ fi9 n P = zm1 := by
  have l := fst9_le n P
  refine zm1_or ?_
  unfold fi9
  by_cases e : fst9 n P < n
  · rw [zi_pos e]; exact Or.inr ⟨_, by omega, rfl⟩
  · rw [zi_neg e]; exact Or.inl rfl
theorem fi9_or {n : Nat} {P : Nat → Prop} (hn : n < 100) : fi9 n P = zm1 ∨ ∃ i, i < n ∧ fi9 n P = nI i ∧ ¬ fi9 n P = zm1 := by
  unfold fi9
  by_cases e : fst9 n P < n
  · rw [zi_pos e]; exact Or.inr ⟨_, e, rfl, ne_zm1 (by omega)⟩
  · rw [zi_neg e]; exact Or.inl rfl
