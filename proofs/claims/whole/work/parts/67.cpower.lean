/-! A power's line. -/
theorem k_fin {T : zTx} {p n c : Nat} {wp wc : Nat → List Nat} {hc hm : zH} (R : RD T p hc hm) (D : Dn n c wp wc hc hm) : oK T p hc hm (some (none, hc)) (zci (f_X12_closes [.inr (.inr (12, 0))] hm) (fun r5 h4 => zf (r5 = 0 ∨ r5 = 1) (some (some (.inl r5), h4)) none)) := by
  obtain ⟨gc, gm, a1, a2⟩ := j_close R
  rcases a2 with ⟨b1, b2, b3, b4, b5⟩ | ⟨b1, F, b2, b3, b4, b5⟩
  · rw [b1, zci_ok, zf_pos (Or.inr rfl)]
    exact ⟨hc, gc, gm, rfl, a1, b2.cg, b3.G.cm, Or.inl ⟨rfl, lwS.tk b2 b3.G, _, n, c, wp, wc, b5, b4, D.tk b2 b3.G⟩⟩
  · rw [b1, zci_ok, zf_01]
    exact ⟨hc, gc, gm, rfl, a1, b4.cg, b5.cm, Or.inr ⟨rfl, F, b2, b3⟩⟩
/-- a word, then a number -/
theorem j_both {T : zTx} {p i a b : Nat} {w : Int64} {x y : Int32} {hc hm : zH} (R : RD T p hc hm) (hi : i < 27) (hw : w = lN (enc 27 (kws.getD i []))) (hx : x = nI a) (hy : y = nI b) (ha : a < 100) (hb : b < 100) : ∃ c1 v c2 gm, f_X10_takeWord [.inr (.inr (10, 0)), .inl (nI i)] hc = some (none, c1) ∧ f_X10_takeNumber [.inr (.inr (10, 0)), .inl x, .inl y] c1 = some (some (.inl v), c2) ∧ ((∃ k, v = nI k ∧ a ≤ k ∧ k ≤ b ∧ f_X12_needsBoth [.inr (.inr (12, 0)), .inr (.inl w), .inl x, .inl y] hm = some (some (.inl 1), gm) ∧ tkS hc c2 ∧ tmG hm gm ∧ gm.1 12 0 37 = nI k ∧ gm.2 12 0 38 = hm.2 12 0 38 ∧ ∃ p', p ≤ p' ∧ RD T p' c2 gm) ∨ (f_X12_needsBoth [.inr (.inr (12, 0)), .inr (.inl w), .inl x, .inl y] hm = some (some (.inl 0), gm) ∧ fl9 T hc hm c2 gm)) := by
  obtain ⟨c1, m1, a1, a2⟩ := j_word R hi hw
  rcases a2 with ⟨b1, b2, b3, b4⟩ | ⟨b1, F, b2, b3, b4, b5⟩
  · obtain ⟨v, c2, m2, d1, d2⟩ := j_num b4 hx hy ha hb
    refine ⟨c1, v, c2, m2, a1, d1, ?_⟩
    rw [g_X12_needsBoth, b1, zci_ok, zf_neg (by decide)]
    rcases d2 with ⟨k, e1, e2, e3, e4, e5, e6, e7⟩ | ⟨e1, F, f1, f2, f3, f4⟩
    · rw [e4, zci_ok, zf_neg (by decide)]
      refine Or.inl ⟨k, e1, e2, e3, rfl, b2.trans e5, b3.G.trans ((tmG.rf.set (by omega)).trans e6.G), by rw [e6.1 12 0 37 (by omega), zuI_at], ?_, _, Nat.le_trans (kE_ge R.le) (kE_ge b4.le), e7⟩
      rw [e6.2 12 0 38 (by omega), zuI_2, b3.2 12 0 38 (by omega)]
    · rw [e1, zci_ok, zf_pos rfl]
      exact Or.inr ⟨rfl, F, f1, f2, b2.trans f3, b3.G.trans f4⟩
  · refine ⟨c1, _, c1, m1, a1, fl_takeNumber b2.ne, Or.inr ⟨?_, F, b2, b3, b4, b5⟩⟩
    rw [g_X12_needsBoth, b1, zci_ok, zf_pos rfl]
noncomputable def cP2 (x r5 : Int32) (h4 : zH) : Option zRes := zf (vp_in x 5) (zcv (f_X10_takeWord [.inr (.inr (10, 0)), .inl 1] (zuI h4 14 1 x.toNatClampNeg r5)) (fun h6 => zci (f_X10_takeNumber [.inr (.inr (10, 0)), .inl 0, .inl 9] h6) (fun r8 h7 => zf (vp_in x 5) (some (none, (zuI (zuI h7 15 1 x.toNatClampNeg r8) 0 1 0 ((h7.1 0 1 0) + (1))))) none))) none
noncomputable def cP1 (x : Int32) (r3 : Int64) (h2 : zH) : Option zRes := zf (vp_in x 5) (zci (f_X6_takeKind [.inr (.inr (6, 0))] (zuJ h2 13 1 x.toNatClampNeg r3)) (fun r5 h4 => cP2 x r5 h4)) none
theorem g_cP (h : zH) : f_X6_readPower [.inr (.inr (6, 0))] h = zf (h.1 0 1 0 < 5) (zcv (f_X10_step [.inr (.inr (10, 0))] h) (fun h1 => zcj (f_X6_takeNewName [.inr (.inr (6, 0))] h1) (fun r3 h2 => cP1 (h.1 0 1 0) r3 h2))) (zcv (f_X10_complain [.inr (.inr (10, 0)), .inl 5] h) (fun h9 => some (none, h9))) := g_X6_readPower h
theorem fP2 {F n : Nat} {r : Int32} {h : zH} (f : FC F h) (hn : n < 5) : ∃ g, cP2 (nI n) r h = some (none, g) ∧ FC F g ∧ cgS h g := by
  have f1 : FC F (zuI h 14 1 n r) := f.o (by omega)
  unfold cP2
  rw [zfx hn (by omega), nI_clamp (by omega), fl_takeWord f1.ne, zcv_ok, fl_takeNumber f1.ne, zci_ok, zfx hn (by omega)]
  exact ⟨_, rfl, (f1.o (by omega)).o (by omega), ((cgS.rf.set (by omega)).set (by omega)).set (by omega)⟩
theorem fP1 {F n : Nat} {r : Int64} {h : zH} (f : FC F h) (hn : n < 5) : ∃ g, cP1 (nI n) r h = some (none, g) ∧ FC F g ∧ cgS h g := by
  have f1 : FC F (zuJ h 13 1 n r) := f.oJ
  unfold cP1
  rw [zfx hn (by omega), nI_clamp (by omega), fl_takeKind f1.ne, zci_ok]
  obtain ⟨g, a1, a2, a3⟩ := fP2 (r := (zuJ h 13 1 n r).1 10 0 5 - 16) f1 hn
  exact ⟨g, a1, a2, (cgS.rf.setJ (by omega)).trans a3⟩
/-- the class asks for a kind -/
theorem kd_lo : ∀ k, k < 16 → nI k - 16 < 0 := by decide +kernel
theorem kd_hi : ∀ k, k < 27 → 20 ≤ k → 3 < nI k - 16 ∧ ¬ nI k - 16 < 0 := by decide +kernel
theorem kd_in : ∀ k, k < 20 → 16 ≤ k → nI k - 16 = nI (k - 16) ∧ ¬ nI (k - 16) < 0 ∧ ¬ 3 < nI (k - 16) := by decide +kernel
theorem cl_takeKind {T : zTx} {p : Nat} {hc hm : zH} (R : RD T p hc hm) : (kK T p = 1 ∧ 16 ≤ kI T p ∧ kI T p < 20 → ∀ gc, f_X10_step [.inr (.inr (10, 0))] hc = some (none, gc) → f_X6_takeKind [.inr (.inr (6, 0))] hc = some (some (.inl (nI (kI T p - 16))), gc)) ∧ (¬ (kK T p = 1 ∧ 16 ≤ kI T p ∧ kI T p < 20) → ∃ v, f_X6_takeKind [.inr (.inr (6, 0))] hc = some (some (.inl v), zuI hc 10 0 7 (nI (1 + 16 * kB T p)))) := by
  have f1 := fc_ne (k := 1) R (by omega) (by omega)
  have e31 : ∀ x : Int32, zL p_X6_takeKind 31 [some (.inr (.inr (6, 0))), some (.inl x)] [] hc = some (some (.inl x), zuI hc 10 0 7 (nI (1 + 16 * kB T p))) := fun x => by
    rw [e_X6_takeKind_31, cl_co (x := 1) 1 R.tc rfl, zcv_ok, fl_step f1, zcv_ok]
  rw [g_X6_takeKind, e31, zfc (R.tc.kind (k := 1) (by omega) 2 rfl)]
  refine ⟨fun e gc st => ?_, fun e => ?_⟩
  · obtain ⟨k1, k2, k3⟩ := kd_in (kI T p) e.2.2 e.2.1
    rw [zf_pos e.1, (R.tc.2.2.2.2.1 e.1).2, if_pos (by omega), k1, zf_neg k2, zf_neg k3, st, zcv_ok]
  · by_cases kk : kK T p = 1
    · rw [zf_pos kk, (R.tc.2.2.2.2.1 kk).2]
      by_cases e27 : kI T p < 27
      · rw [if_pos e27]
        by_cases l : kI T p < 16
        · rw [zf_pos (kd_lo _ l)]; exact ⟨_, rfl⟩
        · obtain ⟨q1, q2⟩ := kd_hi (kI T p) e27 (by omega)
          rw [zf_neg q2, zf_pos q1]; exact ⟨_, rfl⟩
      · rw [if_neg e27, zf_pos (by decide)]; exact ⟨_, rfl⟩
    · rw [zf_neg kk]; exact ⟨_, rfl⟩
theorem j_power {T : zTx} {p n c : Nat} {wp wc : Nat → List Nat} {hc hm : zH} (R : RD T p hc hm) (D : Dn n c wp wc hc hm) : oK T p hc hm (f_X6_readPower [.inr (.inr (6, 0))] hc) (f_X12_readsPower [.inr (.inr (12, 0))] hm) := by
  have n5 := D.n5
  have e5 : (5 : Int32) + nI n = nI (5 + n) := nI_add 5 n
  rw [g_cP, g_X12_readsPower, D.c0, D.m3, e5]
  by_cases full : n = 5
  · subst full
    rw [zf_neg (show ¬ nI 5 < 5 by decide), zf_pos (show nI (5 + 5) = 10 from rfl), cl_co (x := 5) 5 R.tc rfl, zcv_ok, ml_fa (x := 5) 5 R.tm rfl, zci_ok, zf_01]
    exact oK.flt (FC.set (h := hc) (k := 5) R.t1 R.le (by omega) (by omega)).cg tkS.rf.set.cg (tmG.rf.set (by omega)).cm rfl zuI_at
  have hn : n < 5 := by omega
  rw [zf_pos (show nI n < 5 from nI_lt (b := 5) hn (by omega)), zf_neg (show ¬ nI (5 + n) = 10 from fun z => by have := (eqO (by omega) (by decide)).mp z; omega)]
  obtain ⟨c1, m1, a1, a2, a3, a4, a5⟩ := j_step R
  have D1 := D.tk a3 a4.G
  rw [a1, a2, zcv_ok, zcv_ok]
  obtain ⟨v, c2, m2, b1, b2⟩ := j_new a5 D1.C D1.M
  rw [b1, zcj_ok]
  rcases b2 with ⟨w, ow, b3, b4, b5, b6, b7⟩ | ⟨b3, b4⟩
  case inr =>
    rw [b3, zci_ok, zf_pos rfl]
    exact oK.fl9 b4 (fun F f => fP1 f hn) a3.cg a4.G.cm rfl
  rw [b4, zci_ok, zf_neg (by decide)]
  have lk1 : p ≤ kE T (kE T p) := Nat.le_trans (kE_ge R.le) (kE_ge a5.le)
  have fm2 : tmG hm m2 := a4.G.trans ((tmG.rf.setJ).trans b6.G)
  have fc2 : tkS hc c2 := a3.trans b5
  have D2 := D.tk fc2 fm2
  have g38 : m2.2 12 0 38 = lN (enc 27 w) := by rw [b6.2 12 0 38 (by omega), zuJ_at]
  -- the kind
  have R3 : RD T (kE T (kE T p)) (zuJ c2 13 1 n v) m2 := b7.keep (fun _ _ _ => rfl) (fun K k hK => by rw [zuJ_o (by omega)]) (fun _ _ => rfl) rfl (fun _ => rfl)
  generalize hp2 : kE T (kE T p) = p2 at *
  have K := cl_takeKind R3
  unfold cP1
  rw [zfx hn (by omega), nI_clamp (by omega), ml_isWord (i := 16) b7.le b7.tm (by omega) mw_16, zci_ok, zf_b0, ml_isWord (i := 17) b7.le b7.tm (by omega) mw_17, zci_ok, zf_b0, ml_isWord (i := 18) b7.le b7.tm (by omega) mw_18, zci_ok, zf_b0, ml_isWord (i := 19) b7.le b7.tm (by omega) mw_19, zci_ok, zf_b0]
  have FC2 : cgS hc (zuJ c2 13 1 n v) := fc2.cg.setJ (by omega)
  -- the rest, of any kind
  have good : kK T p2 = 1 → 16 ≤ kI T p2 → kI T p2 < 20 → oK T p hc hm (zci (f_X6_takeKind [.inr (.inr (6, 0))] (zuJ c2 13 1 n v)) (fun r5 h4 => cP2 (nI n) r5 h4)) (zL p_X12_readsPower 96 [some (.inr (.inr (12, 0))), some (.inl (nI (5 + n)))] [.inl (nI (kI T p2 - 16)), .inl (nI (5 + n)), .inr (.inr (42, 0))] m2) := fun k1 k2 k3 => by
    have R4 : RD T p2 (zuJ c2 13 1 n v) (zuI m2 42 0 (5 + n) (nI (kI T p2 - 16))) := R3.keep (fun _ _ _ => rfl) (fun _ _ _ => rfl) (fun k hk => by rw [zuI_o (by omega)]) rfl (fun k => by rw [zuI_o (by omega)])
    obtain ⟨c4, m4, d1, d2, d3, d4, d5⟩ := j_step R4
    rw [K.1 ⟨k1, k2, k3⟩ c4 d1, zci_ok, e_X12_readsPower_96, zfx (by omega) (by omega), zfx (by omega) (by omega), nI_clamp (by omega), zuI_at, zf_neg (nI_pos (by omega)), d2, zcv_ok]
    unfold cP2
    rw [zfx hn (by omega), nI_clamp (by omega)]
    have R5 : RD T (kE T p2) (zuI c4 14 1 n (nI (kI T p2 - 16))) m4 := d5.keep (fun K k hK => by rw [zuI_o (by omega)]) (fun _ _ _ => rfl) (fun _ _ => rfl) rfl (fun _ => rfl)
    have FC4 : cgS hc (zuI c4 14 1 n (nI (kI T p2 - 16))) := (FC2.trans d3.cg).set (by omega)
    have FM4 : cmS hm m4 := (fm2.cm.set (by unfold mE; omega)).trans d4.G.cm
    obtain ⟨c5, v5, c6, m6, u1, u2, u3⟩ := j_both (i := 1) (a := 0) (b := 9) (x := 0) (y := 9) R5 (by omega) mw_1 rfl rfl (by omega) (by omega)
    have u1 : f_X10_takeWord [.inr (.inr (10, 0)), .inl 1] (zuI c4 14 1 n (nI (kI T p2 - 16))) = some (none, c5) := u1
    rw [u1, zcv_ok, u2, zci_ok, zfx hn (by omega)]
    rcases u3 with ⟨k, w1, w2, w3, w4, w5, w6, w7, w8, p', w9, w10⟩ | ⟨w1, w2⟩
    case inr =>
      rw [w1, zci_ok, zf_pos rfl]
      exact oK.fl9 w2 (fun F f => ⟨_, rfl, (f.o (by omega)).o (by omega), (cgS.rf.set (by omega)).set (by omega)⟩) FC4 FM4 rfl
    have q0 : c6.1 0 1 0 = nI n := by rw [w5.1 0 1 0 (by omega), zuI_o (by omega), d3.1 0 1 0 (by omega), zuJ_1]; exact D2.c0
    have q39 : m6.1 39 0 3 = nI n := by rw [w6.1 39 0 3 (by omega), d4.1 39 0 3 (by omega), zuI_o (by omega)]; exact D2.m3
    have q38 : m6.2 12 0 38 = lN (enc 27 w) := by rw [w8, d4.2 12 0 38 (by omega), zuI_2]; exact g38
    rw [w4, zci_ok, zf_neg (by decide), zfx (by omega) (by omega), zfx (by omega) (by omega), q0, q39, nI_1, w7, q38, w1]
    have R7 : RD T p' (zuI (zuI c6 15 1 n (nI k)) 0 1 0 (nI (n + 1))) (zuI (zuJ (zuI m6 43 0 (5 + n) (nI k)) 40 0 (5 + n) (lN (enc 27 w))) 39 0 3 (nI (n + 1))) := w10.keep (fun K k hK => by rw [zuI_o (by omega), zuI_o (by omega)]) (fun _ _ _ => rfl) (fun k hk => by rw [zuI_o (by omega), zuJ_1, zuI_o (by omega)]) (by rw [zuI_2, zuJ_o (by omega), zuI_2]) (fun k => by rw [zuI_o (by omega), zuJ_1, zuI_o (by omega)])
    have C : ∀ K j q, ¬ (K = 10 ∧ j = 0) → ¬ ((K = 14 ∨ K = 15) ∧ j = 1 ∧ q = n) → ¬ (K = 0 ∧ j = 1 ∧ q = 0) → (zuI (zuI c6 15 1 n (nI k)) 0 1 0 (nI (n + 1))).1 K j q = c2.1 K j q := fun K j q n1 n2 n3 => by
      rw [zuI_o (by omega), zuI_o (by omega), w5.1 K j q n1, zuI_o (by omega), d3.1 K j q n1, zuJ_1]
    have CJ : ∀ K j q, ¬ (K = 10 ∧ j = 0 ∧ q = 6) → (zuI (zuI c6 15 1 n (nI k)) 0 1 0 (nI (n + 1))).2 K j q = (zuJ c2 13 1 n v).2 K j q := fun K j q n1 => by
      rw [zuI_2, zuI_2, w5.2 K j q n1, zuI_2, d3.2 K j q n1]
    have M : ∀ K j q, ¬ (K = 12 ∧ j = 0 ∧ (q = 4 ∨ q = 5 ∨ q = 6 ∨ q = 8 ∨ q = 9 ∨ q = 37)) → ¬ ((K = 42 ∨ K = 43) ∧ q = 5 + n) → ¬ (K = 39 ∧ q = 3) → (zuI (zuJ (zuI m6 43 0 (5 + n) (nI k)) 40 0 (5 + n) (lN (enc 27 w))) 39 0 3 (nI (n + 1))).1 K j q = m2.1 K j q := fun K j q n1 n2 n3 => by
      rw [zuI_o (by omega), zuJ_1, zuI_o (by omega), w6.1 K j q n1, d4.1 K j q (by omega), zuI_o (by omega)]
    have MJ : ∀ K j q, ¬ (K = 12 ∧ j = 0 ∧ (q = 7 ∨ q = 38)) → ¬ (K = 40 ∧ q = 5 + n) → (zuI (zuJ (zuI m6 43 0 (5 + n) (nI k)) 40 0 (5 + n) (lN (enc 27 w))) 39 0 3 (nI (n + 1))).2 K j q = m2.2 K j q := fun K j q n1 n2 => by
      rw [zuI_2, zuJ_o (by omega), zuI_2, w6.2 K j q n1, d4.2 K j q (by omega), zuI_2]
    obtain ⟨⟨x1, x2, x3, x4, x5, x6⟩, ⟨y1, y2, y3, y4, y5, y6⟩, z1, z2, z3, z4⟩ := D2
    have D7 : Dn (n + 1) c (fun q => if q = n then w else wp q) wc (zuI (zuI c6 15 1 n (nI k)) 0 1 0 (nI (n + 1))) (zuI (zuJ (zuI m6 43 0 (5 + n) (nI k)) 40 0 (5 + n) (lN (enc 27 w))) 39 0 3 (nI (n + 1))) := by
      refine ⟨⟨by omega, x2, zuI_at, ?_, fun q hq => ?_, fun q hq => ?_⟩, ⟨by omega, y2, ?_, ?_, fun q hq => ?_, fun q hq => ?_⟩, ?_, fun q hq => ?_, fun q hq => (z3 q hq).up (by omega) |>.keep (fun K h1 h2 => C K 1 q (by omega) (by omega) (by omega)) (fun K h1 h2 => M K 0 _ (by omega) (by omega) (by omega)), ?_⟩
      · rw [C 0 1 4 (by omega) (by omega) (by omega)]; exact x4
      · rw [CJ 13 1 q (by omega)]
        by_cases e : q = n
        · subst e; dsimp only; rw [if_pos rfl, zuJ_at]; exact ⟨ow, b3⟩
        · dsimp only; rw [if_neg e, zuJ_o (by omega)]; exact x5 q (by omega)
      · rw [CJ 16 1 q (by omega), zuJ_o (by omega)]; exact x6 q hq
      · exact zuI_at
      · rw [M 39 0 _ (by omega) (by omega) (by omega)]; exact y4
      · dsimp only
        rw [Nat.mul_one]
        by_cases e : q = n
        · subst e; rw [if_pos rfl, zuI_2, zuJ_at]; exact ⟨ow, rfl⟩
        · rw [if_neg e, MJ 40 0 (5 + q) (by omega) (by omega)]; exact y5 q (by omega)
      · rw [Nat.mul_one, MJ 41 0 (7 + q) (by omega) (by omega)]; exact y6 q hq
      · rw [C 0 1 11 (by omega) (by omega) (by omega), M 39 0 5 (by omega) (by omega) (by omega)]; exact z1
      · by_cases e : q = n
        · subst e
          refine ⟨?_, ?_⟩
          · rw [zuI_o (by omega), zuI_o (by omega), w5.1 14 1 q (by omega), zuI_at, zuI_o (by omega), zuJ_1, zuI_o (by omega), w6.1 42 0 _ (by omega), d4.1 42 0 _ (by omega), zuI_at]
          · rw [zuI_o (by omega), zuI_at, zuI_o (by omega), zuJ_1, zuI_at]
        · rw [C 14 1 q (by omega) (by omega) (by omega), C 15 1 q (by omega) (by omega) (by omega), M 42 0 _ (by omega) (by omega) (by omega), M 43 0 _ (by omega) (by omega) (by omega)]; exact z2 q (by omega)
      · rw [C 6 0 5 (by omega) (by omega) (by omega), M 12 0 24 (by omega) (by omega) (by omega)]; exact z4
    have lw : lwS c2 m2 (zuI (zuI c6 15 1 n (nI k)) 0 1 0 (nI (n + 1))) (zuI (zuJ (zuI m6 43 0 (5 + n) (nI k)) 40 0 (5 + n) (lN (enc 27 w))) 39 0 3 (nI (n + 1))) := ⟨C 6 0 6 (by omega) (by omega) (by omega), fun q => C 1 1 q (by omega) (by omega) (by omega), fun q => C 22 1 q (by omega) (by omega) (by omega), M 49 0 1 (by omega) (by omega) (by omega), M 50 0 1 (by omega) (by omega) (by omega), M 12 0 23 (by omega) (by omega) (by omega), fun q => M 51 0 q (by omega) (by omega) (by omega)⟩
    refine (k_fin R7 D7).from (Nat.le_trans lk1 (Nat.le_trans (kE_ge b7.le) w9)) (((FC4.trans w5.cg).set (by omega)).set (by omega)) (((((FM4.trans w6.cm).set (by unfold mE; omega)).setJ (by omega)).set (by unfold mE; omega))) ((lwS.tk fc2 fm2).trans lw)
  by_cases e16 : kK T p2 = 1 ∧ kI T p2 = 16
  · rw [zf_pos e16]; have := good e16.1 (by omega) (by omega); rw [e16.2] at this; exact this
  rw [zf_neg e16]
  by_cases e17 : kK T p2 = 1 ∧ kI T p2 = 17
  · rw [zf_pos e17]; have := good e17.1 (by omega) (by omega); rw [e17.2] at this; exact this
  rw [zf_neg e17]
  by_cases e18 : kK T p2 = 1 ∧ kI T p2 = 18
  · rw [zf_pos e18]; have := good e18.1 (by omega) (by omega); rw [e18.2] at this; exact this
  rw [zf_neg e18]
  by_cases e19 : kK T p2 = 1 ∧ kI T p2 = 19
  · rw [zf_pos e19]; have := good e19.1 (by omega) (by omega); rw [e19.2] at this; exact this
  rw [zf_neg e19]
  obtain ⟨v9, ev⟩ := K.2 (fun z => by omega)
  have tm9 : TM T p2 (zuI m2 42 0 (5 + n) zm1) := b7.tm.keep (fun k hk => by rw [zuI_o (by omega)]) rfl
  rw [ev, zci_ok, e_X12_readsPower_96, zfx (by omega) (by omega), zfx (by omega) (by omega), nI_clamp (by omega), zuI_at, zf_pos (by decide), ml_fa (x := 1) 1 tm9 rfl, zci_ok, zf_01]
  have fs := FC.set (h := zuJ c2 13 1 n v) (k := 1) R3.t1 R3.le (by omega) (by omega)
  exact oK.flt (fP2 fs hn) (FC2.trans tkS.rf.set.cg) ((fm2.cm.set (by unfold mE; omega)).trans (tmG.rf.set (by omega)).cm) rfl zuI_at
