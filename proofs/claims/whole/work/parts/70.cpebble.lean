/-! A pebble's line, a sliver's. -/
theorem oK.of {T : zTx} {p : Nat} {hc hm : zH} {C C' M M' : Option zRes} (o : oK T p hc hm C M) (e1 : C' = C) (e2 : M' = M) : oK T p hc hm C' M' := by rw [e1, e2]; exact o
theorem hc_any {j c i : Nat} {h : zH} (h4 : h.1 0 j 4 = nI c) (c7 : c ≤ 7) (hi : i < c) : f_X0_hasCake [.inr (.inr (0, j)), .inl (nI i)] h = some (some (.inl 1), h) := by
  rw [g_X0_hasCake, zf_neg (nI_pos (by omega)), h4, zf_pos (nI_lt hi (by omega)), zf_pos (show nI i < 7 from nI_lt (b := 7) (by omega) (by omega))]
theorem hc_m1 {j : Nat} {h : zH} : f_X0_hasCake [.inr (.inr (0, j)), .inl zm1] h = some (some (.inl 0), h) := by
  rw [g_X0_hasCake, zf_pos (by decide)]
theorem j_pebble {T : zTx} {p n c : Nat} {wp wc : Nat → List Nat} {hc hm : zH} (R : RD T p hc hm) (D : Dn n c wp wc hc hm) : oK T p hc hm (f_X6_readPebble [.inr (.inr (6, 0))] hc) (f_X12_readsPebble [.inr (.inr (12, 0))] hm) := by
  have c7 := D.c7
  rw [g_X6_readPebble, g_X12_readsPebble]
  obtain ⟨c1, m1, a1, a2, a3, a4, a5⟩ := j_step R
  have D1 := D.tk a3 a4.G
  rw [a1, a2, zcv_ok, zcv_ok]
  obtain ⟨v, gc, gm, b1, b2⟩ := j_cake (j := 1) (r := 1) a5 (by omega) D1.C D1.M
  rw [b1, zci_ok]
  rcases b2 with ⟨i, i1, i2, i3, i4, i5⟩ | ⟨i0, i1, i2⟩
  case inr =>
    have i1 : f_X12_needsCake [.inr (.inr (12, 0)), .inl 1] m1 = some (some (.inl 0), gm) := i1
    rw [i0, hc_m1, zci_ok, zf_pos rfl, i1, zci_ok, zf_pos rfl]
    exact oK.fl9 i2 (fun F f => f.cg) a3.cg a4.G.cm rfl
  have i5 : f_X12_needsCake [.inr (.inr (12, 0)), .inl 1] m1 = some (some (.inl 1), gm) := i5
  subst i3
  have e7 : (7 : Int32) + nI i = nI (7 + i) := nI_add 7 i
  have g37 : gm.1 12 0 37 = nI i := by rw [i4, zuI_at]
  have fm : tmG m1 gm := by rw [i4]; exact tmG.rf.set (by omega)
  have R2 : RD T (kE T p) gc gm := by
    rw [i4]; exact a5.keep (fun _ _ _ => rfl) (fun _ _ _ => rfl) (fun q hq => by rw [zuI_o (by omega)]) rfl (fun q => by rw [zuI_o (by omega)])
  have D2 := D1.tk tkS.rf fm
  rw [i2, hc_any D1.c4 c7 i1, zci_ok, zf_neg (show ¬ (1 : Int32) = 0 by decide), zfx (by omega) (by omega), nI_clamp (by omega), i5, zci_ok, zf_neg (show ¬ (1 : Int32) = 0 by decide), g37, e7, zfx (by omega) (by omega), nI_clamp (by omega)]
  have W := D2.2.2.2.2.1 i i1
  rcases W.2.2.2.2 with ⟨p1, p2⟩ | ⟨t, t1, p1, p2⟩
  · rw [zf_pos p1, p2, zf_pos (show zm1 < 0 by decide), e_X6_readPebble_49]
    obtain ⟨c3, m3, d1, d2, d3, d4, d5⟩ := j_step R2
    rw [d1, d2, zcv_ok, zcv_ok]
    obtain ⟨v, c4, m4, u1, u2⟩ := j_num (a := 0) (b := 39) (x := 0) (y := 39) d5 rfl rfl (by omega) (by omega)
    rw [u1, zci_ok, zfx (by omega) (by omega), nI_clamp (by omega)]
    rcases u2 with ⟨k, w1, w2, w3, w4, w5, w6, w7⟩ | ⟨w1, w2⟩
    case inr =>
      rw [w1, zci_ok, zf_pos rfl]
      exact oK.fl9 w2 (fun F f => ⟨_, rfl, f.o (by omega), cgS.rf.set (by omega)⟩) (a3.cg.trans d3.cg) ((a4.G.trans fm).trans d4.G).cm rfl
    have q37 : m4.1 12 0 37 = nI k := by rw [w6.1 12 0 37 (by omega), zuI_at]
    rw [w4, zci_ok, zf_neg (show ¬ (1 : Int32) = 0 by decide), zfx (by omega) (by omega), q37, w1]
    have f4 : tmG hm m4 := ((a4.G.trans fm).trans d4.G).trans ((tmG.rf.set (by omega)).trans w6.G)
    have c4' : tkS hc c4 := (a3.trans d3).trans w5
    have D4 := D.tk c4' f4
    have R5 : RD T (kE T (kE T (kE T p))) (zuI c4 21 1 i (nI k)) (zuI m4 48 0 (7 + i) (nI k)) := w7.two (c := i) (by omega) (by omega) (by omega) (by omega)
    have D5 : Dn n c wp wc (zuI c4 21 1 i (nI k)) (zuI m4 48 0 (7 + i) (nI k)) := by
      obtain ⟨x, y, z1, z2, z3, z4⟩ := D4
      refine ⟨⟨x.1, x.2.1, by rw [zuI_o (by omega)]; exact x.2.2.1, by rw [zuI_o (by omega)]; exact x.2.2.2.1, x.2.2.2.2⟩, ⟨y.1, y.2.1, by rw [zuI_o (by omega)]; exact y.2.2.1, by rw [zuI_o (by omega)]; exact y.2.2.2.1, y.2.2.2.2⟩, by rw [zuI_o (by omega), zuI_o (by omega)]; exact z1, fun q hq => by rw [zuI_o (by omega), zuI_o (by omega), zuI_o (by omega), zuI_o (by omega)]; exact z2 q hq, fun q hq => ?_, by rw [zuI_o (by omega), zuI_o (by omega)]; exact z4⟩
      by_cases e : q = i
      · subst e
        obtain ⟨y1, y2, y3, y4, y5⟩ := z3 q hq
        refine ⟨?_, ?_, ?_, ?_, Or.inr ⟨k, w3, zuI_at, zuI_at⟩⟩
        · rw [zuI_o (by omega), zuI_o (by omega)]; exact y1
        · rw [zuI_o (by omega), zuI_o (by omega)]; exact y2
        · rw [zuI_o (by omega), zuI_o (by omega)]; exact y3
        · rw [zuI_o (by omega), zuI_o (by omega)]; exact y4
      · exact (z3 q hq).keep (fun K h1 h2 => by rw [zuI_o (by omega)]) (fun K h1 h2 => by rw [zuI_o (by omega)])
    have lw : lwS c4 m4 (zuI c4 21 1 i (nI k)) (zuI m4 48 0 (7 + i) (nI k)) := lwS.p (c := i) (tkS.rf.pC.set (by omega) (by omega)) (tmG.rf.pM.set (by omega) (by omega))
    exact (k_fin R5 D5).from (Nat.le_trans (kE_ge R.le) (Nat.le_trans (kE_ge a5.le) (kE_ge d5.le))) (c4'.cg.set (by omega)) (f4.cm.set (by unfold mE; omega)) ((lwS.tk c4' f4).trans lw)
  · rw [p1, zf_neg (ne_zm1 (by omega)), p2, zf_neg (nI_pos (by omega)), cl_co (x := 3) 3 R2.tc rfl, zcv_ok, ml_fa (x := 3) 3 R2.tm rfl, zci_ok, zf_01, e_X6_readPebble_49]
    have fs := FC.set (h := gc) (k := 3) R2.t1 R2.le (by omega) (by omega)
    rw [fl_step fs.ne, zcv_ok, fl_takeNumber fs.ne, zci_ok, zfx (by omega) (by omega), nI_clamp (by omega)]
    exact oK.flt ⟨_, rfl, fs.o (by omega), cgS.rf.set (by omega)⟩ (a3.cg.trans tkS.rf.set.cg) ((a4.G.trans fm).cm.trans (tmG.rf.set (by omega)).cm) rfl zuI_at
theorem j_sliver {T : zTx} {p n c : Nat} {wp wc : Nat → List Nat} {hc hm : zH} (R : RD T p hc hm) (D : Dn n c wp wc hc hm) : oK T p hc hm (f_X6_readSliver [.inr (.inr (6, 0))] hc) (f_X12_readsSliver [.inr (.inr (12, 0))] hm) := by
  rw [g_X6_readSliver, g_X12_readsSliver, D.2.2.2.2.2]
  by_cases e : hm.1 12 0 24 = 0
  · rw [zf_pos e, zf_pos e, e_X6_readSliver_15]
    have R1 : RD T p (zuI hc 6 0 5 1) (zuI hm 12 0 24 1) := R.keep (fun K k hK => by rw [zuI_o (by omega)]) (fun _ _ _ => rfl) (fun q hq => by rw [zuI_o (by omega)]) rfl (fun q => by rw [zuI_o (by omega)])
    obtain ⟨c3, m3, d1, d2, d3, d4, d5⟩ := j_step R1
    rw [d1, d2, zcv_ok, zcv_ok]
    obtain ⟨v, c4, m4, u1, u2⟩ := j_num (a := 1) (b := 9) (x := 1) (y := 9) d5 rfl rfl (by omega) (by omega)
    rw [u1, zci_ok]
    have F3 : cgS hc c3 := cgS.rf.set6.trans d3.cg
    have G3 : cmS hm m3 := (cmS.rf.set (by unfold mE; omega)).trans d4.G.cm
    rcases u2 with ⟨k, w1, w2, w3, w4, w5, w6, w7⟩ | ⟨w1, w2⟩
    case inr =>
      rw [w1, zci_ok, zf_pos rfl]
      exact oK.fl9 w2 (fun F f => ⟨_, rfl, f.o (by omega), cgS.rf.set (by omega)⟩) F3 G3 rfl
    have q37 : m4.1 12 0 37 = nI k := by rw [w6.1 12 0 37 (by omega), zuI_at]
    rw [w4, zci_ok, zf_neg (show ¬ (1 : Int32) = 0 by decide), q37, w1]
    have R5 : RD T (kE T (kE T p)) (zuI c4 0 1 11 (nI k)) (zuI m4 39 0 5 (nI k)) := w7.keep (fun K k hK => by rw [zuI_o (by omega)]) (fun _ _ _ => rfl) (fun q hq => by rw [zuI_o (by omega)]) rfl (fun q => by rw [zuI_o (by omega)])
    have C : ∀ K j q, ¬ (K = 10 ∧ j = 0) → ¬ (K = 0 ∧ j = 1 ∧ q = 11) → ¬ (K = 6 ∧ j = 0 ∧ q = 5) → (zuI c4 0 1 11 (nI k)).1 K j q = hc.1 K j q := fun K j q n1 n2 n3 => by
      rw [zuI_o (by omega), w5.1 K j q n1, d3.1 K j q n1, zuI_o (by omega)]
    have CJ : ∀ K j q, ¬ (K = 10 ∧ j = 0 ∧ q = 6) → (zuI c4 0 1 11 (nI k)).2 K j q = hc.2 K j q := fun K j q n1 => by
      rw [zuI_2, w5.2 K j q n1, d3.2 K j q n1, zuI_2]
    have M : ∀ K j q, ¬ (K = 12 ∧ j = 0 ∧ (q = 4 ∨ q = 5 ∨ q = 6 ∨ q = 8 ∨ q = 9 ∨ q = 37 ∨ q = 24)) → ¬ (K = 39 ∧ j = 0 ∧ q = 5) → (zuI m4 39 0 5 (nI k)).1 K j q = hm.1 K j q := fun K j q n1 n2 => by
      rw [zuI_o (by omega), w6.1 K j q (by omega), zuI_o (by omega), d4.1 K j q (by omega), zuI_o (by omega)]
    have MJ : ∀ K j q, ¬ (K = 12 ∧ j = 0 ∧ (q = 7 ∨ q = 38)) → (zuI m4 39 0 5 (nI k)).2 K j q = hm.2 K j q := fun K j q n1 => by
      rw [zuI_2, w6.2 K j q (by omega), zuI_2, d4.2 K j q (by omega), zuI_2]
    have D5 : Dn n c wp wc (zuI c4 0 1 11 (nI k)) (zuI m4 39 0 5 (nI k)) := by
      obtain ⟨x, y, z1, z2, z3, z4⟩ := D
      refine ⟨⟨x.1, x.2.1, by rw [C 0 1 0 (by omega) (by omega) (by omega)]; exact x.2.2.1, by rw [C 0 1 4 (by omega) (by omega) (by omega)]; exact x.2.2.2.1, fun q hq => by rw [CJ 13 1 q (by omega)]; exact x.2.2.2.2.1 q hq, fun q hq => by rw [CJ 16 1 q (by omega)]; exact x.2.2.2.2.2 q hq⟩, ⟨y.1, y.2.1, by rw [M 39 0 _ (by omega) (by omega)]; exact y.2.2.1, by rw [M 39 0 _ (by omega) (by omega)]; exact y.2.2.2.1, fun q hq => by rw [MJ 40 0 _ (by omega)]; exact y.2.2.2.2.1 q hq, fun q hq => by rw [MJ 41 0 _ (by omega)]; exact y.2.2.2.2.2 q hq⟩, by rw [zuI_at, zuI_at], fun q hq => by rw [C 14 1 q (by omega) (by omega) (by omega), C 15 1 q (by omega) (by omega) (by omega), M 42 0 _ (by omega) (by omega), M 43 0 _ (by omega) (by omega)]; exact z2 q hq, fun q hq => (z3 q hq).keep (fun K h1 h2 => C K 1 q (by omega) (by omega) (by omega)) (fun K h1 h2 => M K 0 _ (by omega) (by omega)), ?_⟩
      rw [zuI_o (by omega), w5.1 6 0 5 (by omega), d3.1 6 0 5 (by omega), zuI_at, zuI_o (by omega), w6.1 12 0 24 (by omega), zuI_o (by omega), d4.1 12 0 24 (by omega), zuI_at]
    have lw : lwS hc hm (zuI c4 0 1 11 (nI k)) (zuI m4 39 0 5 (nI k)) := ⟨C 6 0 6 (by omega) (by omega) (by omega), fun q => C 1 1 q (by omega) (by omega) (by omega), fun q => C 22 1 q (by omega) (by omega) (by omega), M 49 0 1 (by omega) (by omega), M 50 0 1 (by omega) (by omega), M 12 0 23 (by omega) (by omega), fun q => M 51 0 q (by omega) (by omega)⟩
    exact (k_fin R5 D5).from (Nat.le_trans (kE_ge R.le) (kE_ge d5.le)) ((F3.trans w5.cg).set (by omega)) ((G3.trans ((tmG.rf.set (by omega)).trans w6.G).cm).set (by unfold mE; omega)) lw
  · rw [zf_neg e, zf_neg e, cl_co (x := 3) 3 R.tc rfl, zcv_ok, ml_fa (x := 3) 3 R.tm rfl, zci_ok, zf_01, e_X6_readSliver_15]
    have fs := FC.set (h := hc) (k := 3) R.t1 R.le (by omega) (by omega)
    have fs2 := fs.o (K := 6) (j := 0) (k := 5) (v := 1) (by omega)
    rw [fl_step fs2.ne, zcv_ok, fl_takeNumber fs2.ne, zci_ok]
    exact oK.flt ⟨_, rfl, fs2.o (by omega), cgS.rf.set6.set (by omega)⟩ tkS.rf.set.cg (tmG.rf.set (by omega)).cm rfl zuI_at
