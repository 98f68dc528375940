/-! Both sides read one token. -/
/-- nothing but these of the model's fields is changed -/
def tmG (h g : zH) : Prop := (∀ K j k, ¬ (K = 12 ∧ j = 0 ∧ (k = 4 ∨ k = 5 ∨ k = 6 ∨ k = 8 ∨ k = 9 ∨ k = 37)) → g.1 K j k = h.1 K j k) ∧ ∀ K j k, ¬ (K = 12 ∧ j = 0 ∧ (k = 7 ∨ k = 38)) → g.2 K j k = h.2 K j k
theorem tmG.rf {h : zH} : tmG h h := ⟨fun _ _ _ _ => rfl, fun _ _ _ _ => rfl⟩
theorem tmG.trans {h g f : zH} (a : tmG h g) (b : tmG g f) : tmG h f := ⟨fun K j k n => (b.1 K j k n).trans (a.1 K j k n), fun K j k n => (b.2 K j k n).trans (a.2 K j k n)⟩
theorem tmS.G {h g : zH} (a : tmS h g) : tmG h g := ⟨fun K j k n => a.1 K j k (fun z => n (by omega)), fun K j k n => a.2 K j k (fun z => n (by omega))⟩
theorem tmG.set {h g : zH} {k : Nat} {v : Int32} (hk : k = 9 ∨ k = 37) (a : tmG h g) : tmG h (zuI g 12 0 k v) := ⟨fun K j k n => by rw [zuI_o (by omega)]; exact a.1 K j k n, a.2⟩
theorem tmG.setJ {h g : zH} {v : Int64} (a : tmG h g) : tmG h (zuJ g 12 0 38 v) := ⟨a.1, fun K j k n => by rw [zuJ_o (by omega)]; exact a.2 K j k n⟩
theorem tmG.tx {T : zTx} {h g : zH} (a : tmG h g) (X : txM T h) : txM T g := ⟨X.1, by rw [a.1 12 0 3 (by omega)]; exact X.2.1, fun k hk => by rw [a.1 38 0 k (by omega)]; exact X.2.2 k hk⟩
/-- both stand at the token from p on -/
def RD (T : zTx) (p : Nat) (hc hm : zH) : Prop := txC T hc ∧ TB hc ∧ txM T hm ∧ p ≤ T.1 ∧ TC T p hc ∧ TM T p hm
theorem RD.xc {T : zTx} {p : Nat} {hc hm : zH} (R : RD T p hc hm) : txC T hc := R.1
theorem RD.tb {T : zTx} {p : Nat} {hc hm : zH} (R : RD T p hc hm) : TB hc := R.2.1
theorem RD.xm {T : zTx} {p : Nat} {hc hm : zH} (R : RD T p hc hm) : txM T hm := R.2.2.1
theorem RD.le {T : zTx} {p : Nat} {hc hm : zH} (R : RD T p hc hm) : p ≤ T.1 := R.2.2.2.1
theorem RD.tc {T : zTx} {p : Nat} {hc hm : zH} (R : RD T p hc hm) : TC T p hc := R.2.2.2.2.1
theorem RD.tm {T : zTx} {p : Nat} {hc hm : zH} (R : RD T p hc hm) : TM T p hm := R.2.2.2.2.2
theorem RD.t1 {T : zTx} {p : Nat} {hc hm : zH} (R : RD T p hc hm) : T.1 ≤ 1000 := R.xc.1.1
/-- changes elsewhere leave it so -/
theorem TC.keep {T : zTx} {p : Nat} {h g : zH} (q : TC T p h) (a : ∀ k, g.1 10 0 k = h.1 10 0 k) (b : g.2 10 0 6 = h.2 10 0 6) : TC T p g := by
  unfold TC at q ⊢
  rw [a 7, a 2, a 4, a 3, a 5, b]; exact q
theorem TM.keep {T : zTx} {p : Nat} {h g : zH} (q : TM T p h) (a : ∀ k, k = 4 ∨ k = 5 ∨ k = 6 ∨ k = 8 → g.1 12 0 k = h.1 12 0 k) (b : g.2 12 0 7 = h.2 12 0 7) : TM T p g := by
  unfold TM at q ⊢
  rw [a 4 (by omega), a 5 (by omega), a 6 (by omega), a 8 (by omega), b]; exact q
theorem RD.keep {T : zTx} {p : Nat} {hc hm gc gm : zH} (R : RD T p hc hm) (a : ∀ K k, K = 9 ∨ K = 10 ∨ K = 34 → gc.1 K 0 k = hc.1 K 0 k) (a2 : ∀ K k, K = 10 ∨ K = 35 → gc.2 K 0 k = hc.2 K 0 k) (b : ∀ k, k = 3 ∨ k = 4 ∨ k = 5 ∨ k = 6 ∨ k = 8 → gm.1 12 0 k = hm.1 12 0 k) (b2 : gm.2 12 0 7 = hm.2 12 0 7) (b3 : ∀ k, gm.1 38 0 k = hm.1 38 0 k) : RD T p gc gm :=
  ⟨⟨R.xc.1, by rw [a 9 1 (by omega)]; exact R.xc.2.1, fun k hk => by rw [a 34 k (by omega)]; exact R.xc.2.2 k hk⟩, fun i hi => by rw [a2 35 i (by omega)]; exact R.tb i hi, ⟨R.xm.1, by rw [b 3 (by omega)]; exact R.xm.2.1, fun k hk => by rw [b3 k]; exact R.xm.2.2 k hk⟩, R.le, R.tc.keep (fun k => a 10 k (by omega)) (a2 10 6 (by omega)), R.tm.keep (fun k hk => b k (by omega)) b2⟩
/-- both step -/
theorem j_step {T : zTx} {p : Nat} {hc hm : zH} (R : RD T p hc hm) : ∃ gc gm, f_X10_step [.inr (.inr (10, 0))] hc = some (none, gc) ∧ f_X12_nextToken [.inr (.inr (12, 0))] hm = some (none, gm) ∧ tkS hc gc ∧ tmS hm gm ∧ RD T (kE T p) gc gm := by
  obtain ⟨gc, c1, c2, c3⟩ := cl_step R.xc R.tb (kE_le R.le) R.tc.2.1 R.tc.1
  obtain ⟨gm, m1, m2, m3⟩ := ml_next R.xm (kE_le R.le) R.tm.1
  exact ⟨gc, gm, c1, m1, c2, m2, c2.tx R.xc, c2.tb R.tb, m2.tx R.xm, kE_le R.le, c3, m3⟩
/-- the same, where the model's heap was changed elsewhere -/
theorem kE_lt {T : zTx} {p : Nat} (h : p ≤ T.1) (hk : kK T p ≠ 0) : p < kE T p := Nat.lt_of_le_of_lt kB_ge (kE_gt h hk)
/-- how both fail -/
def fl9 (T : zTx) (hc hm gc gm : zH) : Prop := ∃ F, FC F gc ∧ gm.1 12 0 9 = nI F ∧ tkS hc gc ∧ tmG hm gm
theorem fl9.mk {T : zTx} {p k : Nat} {hc hm hm' : zH} (R : RD T p hc hm) (h1 : 1 ≤ k) (h2 : k < 6) (a : tmG hm hm') : fl9 T hc hm (zuI hc 10 0 7 (nI (k + 16 * kB T p))) (zuI hm' 12 0 9 (nI (k + 16 * kB T p))) :=
  ⟨_, FC.set R.t1 R.le h1 h2, zuI_at, tkS.rf.set, a.set (by omega)⟩
theorem fc_ne {T : zTx} {p k : Nat} {hc hm : zH} (R : RD T p hc hm) (h1 : 1 ≤ k) (h2 : k < 6) : ¬ (zuI hc 10 0 7 (nI (k + 16 * kB T p))).1 10 0 7 = 0 := (FC.set (h := hc) R.t1 R.le h1 h2).ne
theorem zf_01 {A B : Option zRes} : zf ((0 : Int32) = 0 ∨ (0 : Int32) = 1) A B = A := zf_pos (Or.inl rfl) _ _
theorem cl_co {T : zTx} {p : Nat} {x : Int32} {h : zH} (k : Nat) (q : TC T p h) (hx : x = nI k) : f_X10_complain [.inr (.inr (10, 0)), .inl x] h = some (none, zuI h 10 0 7 (nI (k + 16 * kB T p))) := by rw [hx]; exact cl_complain q
theorem ml_fa {T : zTx} {p : Nat} {x : Int32} {h : zH} (k : Nat) (q : TM T p h) (hx : x = nI k) : f_X12_fails [.inr (.inr (12, 0)), .inl x] h = some (some (.inl 0), zuI h 12 0 9 (nI (k + 16 * kB T p))) := by rw [hx]; exact ml_fails q.2.1
theorem j_word {T : zTx} {p i : Nat} {x : Int64} {hc hm : zH} (R : RD T p hc hm) (hi : i < 27) (hx : x = lN (enc 27 (kws.getD i []))) : ∃ gc gm, f_X10_takeWord [.inr (.inr (10, 0)), .inl (nI i)] hc = some (none, gc) ∧ ((f_X12_needsWord [.inr (.inr (12, 0)), .inr (.inl x)] hm = some (some (.inl 1), gm) ∧ tkS hc gc ∧ tmS hm gm ∧ RD T (kE T p) gc gm) ∨ (f_X12_needsWord [.inr (.inr (12, 0)), .inr (.inl x)] hm = some (some (.inl 0), gm) ∧ fl9 T hc hm gc gm)) := by
  rw [g_X10_takeWord, g_X12_needsWord, cl_isWord R.tc hi, zci_ok, ml_isWord R.le R.tm hi hx, zci_ok, zf_b0, zf_b0]
  by_cases e : kK T p = 1 ∧ kI T p = i
  · rw [zf_pos e, zf_pos e]
    obtain ⟨gc, gm, a1, a2, a3, a4, a5⟩ := j_step R
    rw [a1, a2, zcv_ok, zcv_ok]
    exact ⟨gc, gm, rfl, Or.inl ⟨rfl, a3, a4, a5⟩⟩
  · rw [zf_neg e, zf_neg e, cl_co (x := 1) 1 R.tc rfl, zcv_ok, ml_fa (x := 1) 1 R.tm rfl, zci_ok, zf_01, fl_step (fc_ne R (by omega) (by omega)), zcv_ok]
    exact ⟨_, _, rfl, Or.inr ⟨rfl, fl9.mk R (by omega) (by omega) tmG.rf⟩⟩
theorem j_close {T : zTx} {p : Nat} {hc hm : zH} (R : RD T p hc hm) : ∃ gc gm, f_X10_takeSign [.inr (.inr (10, 0)), .inl 59] hc = some (none, gc) ∧ ((f_X12_closes [.inr (.inr (12, 0))] hm = some (some (.inl 1), gm) ∧ tkS hc gc ∧ tmS hm gm ∧ RD T (kE T p) gc gm ∧ p < kE T p) ∨ (f_X12_closes [.inr (.inr (12, 0))] hm = some (some (.inl 0), gm) ∧ fl9 T hc hm gc gm)) := by
  rw [g_X10_takeSign, g_X12_closes, show (59 : Int32) = nI 59 from rfl, cl_isSign R.xc R.le R.tc (by omega), zci_ok, ml_isSign R.xm R.le R.tm (by omega), zci_ok, zf_b0, zf_b0]
  by_cases e : kK T p = 3 ∧ T.2 (kB T p) = 59
  · rw [zf_pos e, zf_pos e]
    obtain ⟨gc, gm, a1, a2, a3, a4, a5⟩ := j_step R
    rw [a1, a2, zcv_ok, zcv_ok]
    exact ⟨gc, gm, rfl, Or.inl ⟨rfl, a3, a4, a5, kE_lt R.le (by omega)⟩⟩
  · rw [zf_neg e, zf_neg e, cl_co (x := 1) 1 R.tc rfl, zcv_ok, ml_fa (x := 1) 1 R.tm rfl, zci_ok, zf_01, fl_step (fc_ne R (by omega) (by omega)), zcv_ok]
    exact ⟨_, _, rfl, Or.inr ⟨rfl, fl9.mk R (by omega) (by omega) tmG.rf⟩⟩
theorem nl_lt {T : zTx} (X : okT T) {b : Nat} : ∀ k, b + k ≤ T.1 → nl T b k + 9 ≤ 9 * 10 ^ k
  | 0, _ => by show 0 + 9 ≤ _; decide
  | k + 1, h => by
    have ih := nl_lt X (b := b) k (by omega)
    have s := okS_lt (X.2 (b + k) (by omega))
    show nl T b k * 10 + (T.2 (b + k) - 48) + 9 ≤ _
    rw [Nat.pow_succ]; have : 0 < 10 ^ k := Nat.pow_pos (by omega)
    omega
theorem kN_lt {T : zTx} {p : Nat} (X : okT T) (hp : p ≤ T.1) (e : kK T p = 2) : kN T p < 2000000 := by
  obtain ⟨a1, a2, a3, a4, a5⟩ := kK_2 hp e
  have le := runE_le (T := T) (p := isDg) (a := kB T p) (by omega)
  have ge := runE_ge (T := T) (p := isDg) (a := kB T p)
  have := nl_lt X (b := kB T p) (runE T isDg (kB T p) - kB T p) (by omega)
  have := Nat.pow_le_pow_right (show 0 < 10 by omega) a4
  unfold kN; omega
theorem j_num {T : zTx} {p a b : Nat} {x y : Int32} {hc hm : zH} (R : RD T p hc hm) (hx : x = nI a) (hy : y = nI b) (ha : a < 100) (hb : b < 100) : ∃ v gc gm, f_X10_takeNumber [.inr (.inr (10, 0)), .inl x, .inl y] hc = some (some (.inl v), gc) ∧ ((∃ n, v = nI n ∧ a ≤ n ∧ n ≤ b ∧ f_X12_needsNumber [.inr (.inr (12, 0)), .inl x, .inl y] hm = some (some (.inl 1), gm) ∧ tkS hc gc ∧ tmS (zuI hm 12 0 37 (nI n)) gm ∧ RD T (kE T p) gc gm) ∨ (f_X12_needsNumber [.inr (.inr (12, 0)), .inl x, .inl y] hm = some (some (.inl 0), gm) ∧ fl9 T hc hm gc gm)) := by
  rw [g_X10_takeNumber, g_X12_needsNumber, zfc (R.tc.kind (k := 2) (by omega) 3 rfl), zfc (R.tm.kind (k := 2) (by omega) 2 rfl), sm_within, zci_ok, zf_b0]
  by_cases e : kK T p = 2
  · have nl := kN_lt R.xc.1 R.le e
    have i1 : nI (kN T p) < nI a ↔ kN T p < a := nI_ltI (by omega) (by omega)
    have i2 : nI b < nI (kN T p) ↔ b < kN T p := nI_ltI (by omega) (by omega)
    rw [zf_pos e, zf_pos e, R.tc.2.2.2.2.2.1 e, R.tm.2.2.2.2 e, hx, hy, cl_co (x := 4) 4 R.tc rfl, zcv_ok, fl_step (fc_ne R (by omega) (by omega)), zcv_ok, ml_fa (x := 4) 4 R.tm rfl, zci_ok, zf_01]
    by_cases l1 : kN T p < a
    · rw [zf_pos (i1.mpr l1), zf_neg (fun z => z.1 (i1.mpr l1))]
      exact ⟨_, _, _, rfl, Or.inr ⟨rfl, fl9.mk R (by omega) (by omega) tmG.rf⟩⟩
    · rw [zf_neg (fun z => l1 (i1.mp z))]
      by_cases l2 : b < kN T p
      · rw [zf_pos (i2.mpr l2), zf_neg (fun z => z.2 (i2.mpr l2))]
        exact ⟨_, _, _, rfl, Or.inr ⟨rfl, fl9.mk R (by omega) (by omega) tmG.rf⟩⟩
      · rw [zf_neg (fun z => l2 (i2.mp z)), zf_pos ⟨fun z => l1 (i1.mp z), fun z => l2 (i2.mp z)⟩]
        have R' : RD T p hc (zuI hm 12 0 37 (nI (kN T p))) := R.keep (fun _ _ _ => rfl) (fun _ _ _ => rfl) (fun k hk => by rw [zuI_o (by omega)]) rfl (fun k => by rw [zuI_o (by omega)])
        obtain ⟨gc, gm, a1, a2, a3, a4, a5⟩ := j_step R'
        rw [a1, a2, zcv_ok, zcv_ok]
        exact ⟨_, gc, gm, rfl, Or.inl ⟨_, rfl, by omega, by omega, rfl, a3, a4, a5⟩⟩
  · rw [zf_neg e, zf_neg e, cl_co (x := 1) 1 R.tc rfl, zcv_ok, ml_fa (x := 1) 1 R.tm rfl, zci_ok, zf_01, fl_step (fc_ne R (by omega) (by omega)), zcv_ok]
    exact ⟨_, _, _, rfl, Or.inr ⟨rfl, fl9.mk R (by omega) (by omega) tmG.rf⟩⟩
/-- a new name -/
theorem j_new {T : zTx} {p n c : Nat} {wp wc : Nat → List Nat} {hc hm : zH} (R : RD T p hc hm) (NC : nmC 1 n c wp wc hc) (NM9 : nmM 1 n c wp wc hm) : ∃ v gc gm, f_X6_takeNewName [.inr (.inr (6, 0))] hc = some (some (.inr (.inl v)), gc) ∧ ((∃ w, okw w ∧ v = lN (enc 32 w) ∧ f_X12_needsNew [.inr (.inr (12, 0))] hm = some (some (.inl 1), gm) ∧ tkS hc gc ∧ tmS (zuJ hm 12 0 38 (lN (enc 27 w))) gm ∧ RD T (kE T p) gc gm) ∨ (f_X12_needsNew [.inr (.inr (12, 0))] hm = some (some (.inl 0), gm) ∧ fl9 T hc hm gc gm)) := by
  rw [g_X6_takeNewName, g_X12_needsNew, cl_isName R.tc, zci_ok, ml_isKept R.le R.tm, zci_ok, zf_b0, zf_b0]
  by_cases e : kK T p = 1 ∧ 23 ≤ kI T p
  · have ow := kW_ok R.le e.1
    have mp : f_X12_powerNamed [.inr (.inr (12, 0)), .inl 1] hm = some (some (.inl (fi9 n (fun q => wp q = kW T p))), hm) := ml_powerNamed (r := 1) R.le R.tm e.1 (by omega) NM9
    have mc : f_X12_cakeNamed [.inr (.inr (12, 0)), .inl 1] hm = some (some (.inl (fi9 c (fun q => wc q = kW T p))), hm) := ml_cakeNamed (r := 1) R.le R.tm e.1 (by omega) NM9
    rw [zf_pos e, zf_neg (fun z => z e), (R.tc.2.2.2.2.1 e.1).1, cl_powerNamed NC ow, zci_ok, mp, zci_ok, cl_cakeNamed NC ow, zci_ok, mc, zci_ok, zfc (fi9_lt (n := n) (by have := NC.1; omega)), zfc (fi9_lt (n := c) (by have := NC.2.1; omega))]
    have f3 : f_X12_fails [.inr (.inr (12, 0)), .inl 3] hm = some (some (.inl 0), zuI hm 12 0 9 (nI (3 + 16 * kB T p))) := ml_fails R.tm.2.1
    have c3 : f_X10_complain [.inr (.inr (10, 0)), .inl 3] hc = some (none, zuI hc 10 0 7 (nI (3 + 16 * kB T p))) := cl_complain R.tc
    rw [f3, zci_ok, zf_01, e_X6_takeNewName_53, c3, zcv_ok, fl_step (fc_ne R (by omega) (by omega)), zcv_ok]
    by_cases l1 : fi9 n (fun q => wp q = kW T p) = zm1
    · rw [zf_pos l1, zf_pos l1]
      by_cases l2 : fi9 c (fun q => wc q = kW T p) = zm1
      · rw [zf_pos l2, zf_pos l2, R.tm.2.2.2.1 e.1]
        have R' : RD T p hc (zuJ hm 12 0 38 (lN (enc 27 (kW T p)))) := R.keep (fun _ _ _ => rfl) (fun _ _ _ => rfl) (fun k hk => rfl) (by rw [zuJ_o (by omega)]) (fun k => rfl)
        obtain ⟨gc, gm, a1, a2, a3, a4, a5⟩ := j_step R'
        rw [a1, a2, zcv_ok, zcv_ok]
        exact ⟨_, gc, gm, rfl, Or.inl ⟨_, ow, rfl, rfl, a3, a4, a5⟩⟩
      · rw [zf_neg l2, zf_neg l2]
        exact ⟨_, _, _, rfl, Or.inr ⟨rfl, fl9.mk R (by omega) (by omega) tmG.rf⟩⟩
    · rw [zf_neg l1, zf_neg l1]
      exact ⟨_, _, _, rfl, Or.inr ⟨rfl, fl9.mk R (by omega) (by omega) tmG.rf⟩⟩
  · rw [zf_neg e, zf_pos e, cl_co (x := 1) 1 R.tc rfl, zcv_ok, ml_fa (x := 1) 1 R.tm rfl, zci_ok, zf_01, fl_step (fc_ne R (by omega) (by omega)), zcv_ok]
    exact ⟨_, _, _, rfl, Or.inr ⟨rfl, fl9.mk R (by omega) (by omega) tmG.rf⟩⟩
/-- a power's name: the class -/
theorem cl_takePower {T : zTx} {p j n c : Nat} {wp wc : Nat → List Nat} {x : Int32} {hc hm : zH} (R : RD T p hc hm) (NC : nmC j n c wp wc hc) : (kK T p = 1 ∧ 23 ≤ kI T p → (fi9 n (fun q => wp q = kW T p) = zm1 → f_X6_takePower [.inr (.inr (6, 0)), .inr (.inr (0, j)), .inl x] hc = some (some (.inl zm1), zuI hc 10 0 7 (nI (2 + 16 * kB T p)))) ∧ (¬ fi9 n (fun q => wp q = kW T p) = zm1 → fi9 n (fun q => wp q = kW T p) = x → f_X6_takePower [.inr (.inr (6, 0)), .inr (.inr (0, j)), .inl x] hc = some (some (.inl x), zuI hc 10 0 7 (nI (3 + 16 * kB T p)))) ∧ (¬ fi9 n (fun q => wp q = kW T p) = zm1 → ¬ fi9 n (fun q => wp q = kW T p) = x → ∀ gc, f_X10_step [.inr (.inr (10, 0))] hc = some (none, gc) → f_X6_takePower [.inr (.inr (6, 0)), .inr (.inr (0, j)), .inl x] hc = some (some (.inl (fi9 n (fun q => wp q = kW T p))), gc))) ∧ (¬ (kK T p = 1 ∧ 23 ≤ kI T p) → f_X6_takePower [.inr (.inr (6, 0)), .inr (.inr (0, j)), .inl x] hc = some (some (.inl zm1), zuI hc 10 0 7 (nI (1 + 16 * kB T p)))) := by
  have c1 : f_X10_complain [.inr (.inr (10, 0)), .inl 1] hc = some (none, zuI hc 10 0 7 (nI (1 + 16 * kB T p))) := cl_complain R.tc
  have c2 : f_X10_complain [.inr (.inr (10, 0)), .inl 2] hc = some (none, zuI hc 10 0 7 (nI (2 + 16 * kB T p))) := cl_complain R.tc
  have c3 : f_X10_complain [.inr (.inr (10, 0)), .inl 3] hc = some (none, zuI hc 10 0 7 (nI (3 + 16 * kB T p))) := cl_complain R.tc
  have f1 := fc_ne (k := 1) R (by omega) (by omega)
  have f2 := fc_ne (k := 2) R (by omega) (by omega)
  have f3 := fc_ne (k := 3) R (by omega) (by omega)
  rw [g_X6_takePower, cl_isName R.tc, zci_ok, zf_b0]
  refine ⟨fun e => ?_, fun e => ?_⟩
  · have ow := kW_ok R.le e.1
    rw [zf_pos e, (R.tc.2.2.2.2.1 e.1).1, cl_powerNamed NC ow, zci_ok, e_X6_takePower_35]
    refine ⟨fun l1 => ?_, fun l1 l2 => ?_, fun l1 l2 gc st => ?_⟩
    · rw [zf_pos l1, c2, zcv_ok, fl_step f2, zcv_ok, l1]
    · rw [zf_neg l1, zf_pos l2, c3, zcv_ok, fl_step f3, zcv_ok, l2]
    · rw [zf_neg l1, zf_neg l2, st, zcv_ok]
  · rw [zf_neg e, c1, zcv_ok, e_X6_takePower_35, zf_pos rfl, fl_complain f1, zcv_ok, fl_step f1, zcv_ok]
theorem ml_needsPower {T : zTx} {p r n c : Nat} {wp wc : Nat → List Nat} {hc hm : zH} (R : RD T p hc hm) (hr : r < 2) (N : nmM r n c wp wc hm) : (kK T p = 1 ∧ 23 ≤ kI T p → (fi9 n (fun q => wp q = kW T p) = zm1 → f_X12_needsPower [.inr (.inr (12, 0)), .inl (nI r)] hm = some (some (.inl 0), zuI (zuI hm 12 0 37 zm1) 12 0 9 (nI (2 + 16 * kB T p)))) ∧ (¬ fi9 n (fun q => wp q = kW T p) = zm1 → f_X12_needsPower [.inr (.inr (12, 0)), .inl (nI r)] hm = some (some (.inl 1), zuI hm 12 0 37 (fi9 n (fun q => wp q = kW T p))))) ∧ (¬ (kK T p = 1 ∧ 23 ≤ kI T p) → f_X12_needsPower [.inr (.inr (12, 0)), .inl (nI r)] hm = some (some (.inl 0), zuI hm 12 0 9 (nI (1 + 16 * kB T p)))) := by
  rw [g_X12_needsPower, ml_isKept R.le R.tm, zci_ok, zf_b0]
  refine ⟨fun e => ?_, fun e => ?_⟩
  · rw [zf_neg (fun z => z e), ml_powerNamed R.le R.tm e.1 hr N, zci_ok, zfc (fi9_lt (n := n) (by have := N.1; omega))]
    refine ⟨fun l1 => ?_, fun l1 => ?_⟩
    · have f2 : f_X12_fails [.inr (.inr (12, 0)), .inl 2] (zuI hm 12 0 37 zm1) = some (some (.inl 0), zuI (zuI hm 12 0 37 zm1) 12 0 9 (nI (2 + 16 * kB T p))) := ml_fails (by rw [zuI_o (by omega)]; exact R.tm.2.1)
      rw [zf_pos l1, l1, f2, zci_ok, zf_pos rfl]
    · rw [zf_neg l1]
  · have f1 : f_X12_fails [.inr (.inr (12, 0)), .inl 1] hm = some (some (.inl 0), zuI hm 12 0 9 (nI (1 + 16 * kB T p))) := ml_fails R.tm.2.1
    rw [zf_pos e, f1, zci_ok, zf_01]
theorem ml_needsCake {T : zTx} {p r n c : Nat} {wp wc : Nat → List Nat} {hc hm : zH} (R : RD T p hc hm) (hr : r < 2) (N : nmM r n c wp wc hm) : (kK T p = 1 ∧ 23 ≤ kI T p → (fi9 c (fun q => wc q = kW T p) = zm1 → f_X12_needsCake [.inr (.inr (12, 0)), .inl (nI r)] hm = some (some (.inl 0), zuI (zuI hm 12 0 37 zm1) 12 0 9 (nI (2 + 16 * kB T p)))) ∧ (¬ fi9 c (fun q => wc q = kW T p) = zm1 → f_X12_needsCake [.inr (.inr (12, 0)), .inl (nI r)] hm = some (some (.inl 1), zuI hm 12 0 37 (fi9 c (fun q => wc q = kW T p))))) ∧ (¬ (kK T p = 1 ∧ 23 ≤ kI T p) → f_X12_needsCake [.inr (.inr (12, 0)), .inl (nI r)] hm = some (some (.inl 0), zuI hm 12 0 9 (nI (1 + 16 * kB T p)))) := by
  rw [g_X12_needsCake, ml_isKept R.le R.tm, zci_ok, zf_b0]
  refine ⟨fun e => ?_, fun e => ?_⟩
  · rw [zf_neg (fun z => z e), ml_cakeNamed R.le R.tm e.1 hr N, zci_ok, zfc (fi9_lt (n := c) (by have := N.2.1; omega))]
    refine ⟨fun l1 => ?_, fun l1 => ?_⟩
    · have f2 : f_X12_fails [.inr (.inr (12, 0)), .inl 2] (zuI hm 12 0 37 zm1) = some (some (.inl 0), zuI (zuI hm 12 0 37 zm1) 12 0 9 (nI (2 + 16 * kB T p))) := ml_fails (by rw [zuI_o (by omega)]; exact R.tm.2.1)
      rw [zf_pos l1, l1, f2, zci_ok, zf_pos rfl]
    · rw [zf_neg l1]
  · have f1 : f_X12_fails [.inr (.inr (12, 0)), .inl 1] hm = some (some (.inl 0), zuI hm 12 0 9 (nI (1 + 16 * kB T p))) := ml_fails R.tm.2.1
    rw [zf_pos e, f1, zci_ok, zf_01]
/-- a cake's name: neither side steps -/
theorem j_cake {T : zTx} {p j r n c : Nat} {wp wc : Nat → List Nat} {hc hm : zH} (R : RD T p hc hm) (hr : r < 2) (NC : nmC j n c wp wc hc) (N : nmM r n c wp wc hm) : ∃ v gc gm, f_X6_namedCake [.inr (.inr (6, 0)), .inr (.inr (0, j))] hc = some (some (.inl v), gc) ∧ ((∃ i, i < c ∧ v = nI i ∧ gc = hc ∧ gm = zuI hm 12 0 37 (nI i) ∧ f_X12_needsCake [.inr (.inr (12, 0)), .inl (nI r)] hm = some (some (.inl 1), gm)) ∨ (v = zm1 ∧ f_X12_needsCake [.inr (.inr (12, 0)), .inl (nI r)] hm = some (some (.inl 0), gm) ∧ fl9 T hc hm gc gm)) := by
  have M := ml_needsCake R hr N
  have c1 : f_X10_complain [.inr (.inr (10, 0)), .inl 1] hc = some (none, zuI hc 10 0 7 (nI (1 + 16 * kB T p))) := cl_complain R.tc
  have c2 : f_X10_complain [.inr (.inr (10, 0)), .inl 2] hc = some (none, zuI hc 10 0 7 (nI (2 + 16 * kB T p))) := cl_complain R.tc
  rw [g_X6_namedCake, cl_isName R.tc, zci_ok, zf_b0]
  by_cases e : kK T p = 1 ∧ 23 ≤ kI T p
  · have ow := kW_ok R.le e.1
    rw [zf_pos e, (R.tc.2.2.2.2.1 e.1).1, cl_cakeNamed NC ow, zci_ok]
    rcases fi9_or (n := c) (P := fun q => wc q = kW T p) (by have := N.2.1; omega) with l1 | ⟨i, hi, l1, l2⟩
    · rw [zf_pos l1, c2, zcv_ok, (M.1 e).1 l1, l1]
      exact ⟨_, _, _, rfl, Or.inr ⟨rfl, rfl, fl9.mk R (by omega) (by omega) (tmG.rf.set (by omega))⟩⟩
    · rw [zf_neg l2, (M.1 e).2 l2, l1]
      exact ⟨_, _, _, rfl, Or.inl ⟨i, hi, rfl, rfl, rfl, rfl⟩⟩
  · rw [zf_neg e, c1, zcv_ok, M.2 e]
    exact ⟨_, _, _, rfl, Or.inr ⟨rfl, rfl, fl9.mk R (by omega) (by omega) tmG.rf⟩⟩
