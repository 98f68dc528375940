/-! The line that tells the law. -/
def usl : List Int32 := [1, zm2, zm3, zm8, zm10]
/-- the law told so far, on both sides -/
def LW (hc hm : zH) : Prop := (hc.1 6 0 6 = 0 ∧ stC hc usl ∧ hm.1 49 0 1 = nI 1000 ∧ hm.1 50 0 1 = nI 1000 ∧ cdM hm []) ∨ (hc.1 6 0 6 = 1 ∧ ∃ S D v, S.length ≤ 1000 ∧ D.length ≤ 1000 ∧ stC hc S ∧ cdM hm D ∧ hm.1 49 0 1 = nI 1000 ∧ hm.1 50 0 1 = nI (1000 + D.length) ∧ sC 0 S v ∧ sEx 0 D v)
theorem LW.to {hc hm gc gm : zH} (q : LW hc hm) (a : lwS hc hm gc gm) : LW gc gm := by
  obtain ⟨a1, a2, a3, a4, a5, a6, a7⟩ := a
  have st : ∀ L, stC hc L → stC gc L := fun L z => ⟨by rw [a2]; exact z.1, fun i hi => by rw [a3]; exact z.2 i hi⟩
  have cd : ∀ C, cdM hm C → cdM gm C := fun L z => ⟨by rw [a6]; exact z.1, fun i hi => by rw [a7]; exact z.2 i hi⟩
  rcases q with ⟨q1, q2, q3, q4, q5⟩ | ⟨q1, S, D, v, q2, q3, q4, q5, q6, q7, q8⟩
  · exact Or.inl ⟨by rw [a1]; exact q1, st _ q2, by rw [a4]; exact q3, by rw [a5]; exact q4, cd _ q5⟩
  · exact Or.inr ⟨by rw [a1]; exact q1, S, D, v, q2, q3, st _ q4, cd _ q5, by rw [a4]; exact q6, by rw [a5]; exact q7, q8⟩
/-- after a fault, at a word that begins no part, nothing is read -/
theorem fl_readE {F : Nat} {h : zH} (f : FC F h) (k3 : h.1 10 0 3 = 2) (k5 : h.1 10 0 5 = nI 9) : f_X2_readE [.inr (.inr (2, 0)), .inl 0] h = some (none, h) := by
  have fs : f_X2_factStep [.inr (.inr (2, 0))] h = some (some (.inl 0), h) := by
    rw [g_X2_factStep, zf_pos k3, k5, zf_neg (by decide), zf_neg (by decide), zf_neg (by decide), zf_neg (by decide)]
  have cn : f_X2_canBeginPart [.inr (.inr (2, 0))] h = some (some (.inl 0), h) := by
    rw [g_X2_canBeginPart, k3, zf_neg (by decide), fl_isSign f.ne, zci_ok, zf_pos rfl, fl_isWord f.ne, zci_ok, zf_pos rfl, fs, zci_ok, zf_pos rfl]
  have eP : fP9 8 [.inr (.inr (2, 0)), .inl 0] h = some (none, h) := by
    refine (e_X2_readPart_0 (fE9 (fP9 7)) (fP9 7) 0 h).trans ?_
    rw [cn, zci_ok, zf_pos rfl, fl_complain f.ne, zcv_ok]
  have eD : fD9 (fP9 8) [.inr (.inr (2, 0)), .inl 0] h = some (none, h) := by
    refine (e_X2_readProduct_0 (fP9 8) 0 h).trans ?_
    rw [eP, zcv_ok, e_X2_readProduct_7, zf_pos (by decide), fl_isSign f.ne, zci_ok, zf_pos rfl]
  have eS : fS9 (fP9 8) [.inr (.inr (2, 0)), .inl 0] h = some (none, h) := by
    refine (e_X2_readSum_0 (fD9 (fP9 8)) 0 h).trans ?_
    rw [eD, zcv_ok, e_X2_readSum_7, zf_pos (by decide), fl_isSign f.ne, zci_ok, zf_pos rfl, fl_isSign f.ne, zci_ok, zf_pos rfl]
  have eT : fT9 (fP9 8) [.inr (.inr (2, 0)), .inl 0] h = some (none, h) := by
    refine (e_X2_readTest_0 (fS9 (fP9 8)) 0 h).trans ?_
    rw [eS, zcv_ok, fl_isSign f.ne, zci_ok, zf_pos rfl, fl_isSign f.ne, zci_ok, zf_pos rfl]
  refine (e_X2_readE_0 (fT9 (fP9 8)) 0 h).trans ?_
  rw [eT, zcv_ok, e_X2_readE_7, zf_pos (by decide), fl_isWord f.ne, zci_ok, zf_pos rfl, fl_isWord f.ne, zci_ok, zf_pos rfl]
theorem exS.cg {h g : zH} (a : exS h g) : cgS h g := ⟨fun K j k n1 n2 _ => a.1 K j k n1 (by omega), fun K j k n1 _ => a.2 K j k n1⟩
theorem emS.cm {d e : Nat} {h g : zH} (a : emS d e h g) : cmS h g := ⟨fun K j k n1 => by unfold mE at n1; exact a.1 K j k (by omega) (by omega) (by omega) (by omega), fun K j k n1 n2 n3 => a.2 K j k (by omega)⟩
/-- the outcome of the line -/
def oW (T : zTx) (p : Nat) (hc hm : zH) (C M : Option zRes) : Prop := ∃ g0 gc gm, C = some (none, g0) ∧ f_X10_takeSign [.inr (.inr (10, 0)), .inl 59] g0 = some (none, gc) ∧ cgS hc gc ∧ cmS hm gm ∧ ((M = some (some (.inl 1), gm) ∧ LW gc gm ∧ ∃ p' n c wp wc, p < p' ∧ RD T p' gc gm ∧ Dn n c wp wc gc gm) ∨ (M = some (some (.inl 0), gm) ∧ ∃ F, FC F gc ∧ gm.1 12 0 9 = nI F))
theorem oK.w {T : zTx} {p : Nat} {hc hm : zH} {C M : Option zRes} (o : oK T p hc hm C M) (q : LW hc hm) : oW T p hc hm C M := by
  obtain ⟨g0, gc, gm, a1, a2, a3, a4, a5⟩ := o
  exact ⟨g0, gc, gm, a1, a2, a3, a4, a5.imp (fun z => ⟨z.1, q.to z.2.1, z.2.2⟩) id⟩
theorem Dn.em {n c d e : Nat} {wp wc : Nat → List Nat} {hc hm gc gm : zH} (D : Dn n c wp wc hc hm) (a : exS hc gc) (b : emS d e hm gm) : Dn n c wp wc gc gm :=
  D.keep (fun k => a.1 0 1 k (by omega) (by omega)) (a.1 6 0 5 (by omega) (by omega)) (fun K k hK _ => a.1 K 1 k (by omega) (by omega)) (fun K k h1 h2 _ => a.1 K 1 k (by omega) (by omega)) (fun k _ => a.2 13 1 k (by omega)) (fun k _ => a.2 16 1 k (by omega)) (fun k _ => b.1 39 0 k (by omega) (by omega) (by omega) (by omega)) (b.1 12 0 24 (by omega) (by omega) (by omega) (by omega)) (fun K k hK _ => b.1 K 0 _ (by omega) (by omega) (by omega) (by omega)) (fun K k h1 h2 _ => b.1 K 0 _ (by omega) (by omega) (by omega) (by omega)) (fun k _ => b.2 40 0 _ (by omega)) (fun k _ => b.2 41 0 _ (by omega))
theorem j_wears {T : zTx} {p n c : Nat} {wp wc : Nat → List Nat} {hc hm : zH} (R : RD T p hc hm) (D : Dn n c wp wc hc hm) (W : LW hc hm) (kw : kK T p = 1 ∧ kI T p = 9) : oW T p hc hm (f_X6_readWears [.inr (.inr (6, 0))] hc) (f_X12_readsWears [.inr (.inr (12, 0))] hm) := by
  have t1 := R.t1
  rw [g_X6_readWears, g_X12_readsWears]
  rcases W with ⟨w1, w2, w3, w4, w5⟩ | ⟨w1, S, D9, v, w2, w3, w4, w5, w6, w7, w8, w9⟩
  case inr =>
    have l : 0 < D9.length := List.length_pos_iff.mpr w9.1
    have fs := FC.set (h := hc) (k := 3) R.t1 R.le (by omega) (by omega)
    have fs2 := fs.o (K := 6) (j := 0) (k := 6) (v := 1) (by omega)
    have fs3 := fs2.o (K := 1) (j := 1) (k := 2) (v := 0) (by omega)
    rw [w1, zf_neg (by decide), w6, w7, zf_pos (nI_lt (by omega) (by omega)), cl_co (x := 3) 3 R.tc rfl, zcv_ok, ml_fa (x := 3) 3 R.tm rfl, zci_ok, zf_01, e_X6_readWears_15, fl_step fs2.ne, zcv_ok, g_X1_clear, zcv_ok, fl_readE fs3 (by rw [zuI_o (by omega), zuI_o (by omega), zuI_o (by omega)]; exact (R.tc.kind (k := 1) (by omega) 2 rfl).mpr kw.1) (by rw [zuI_o (by omega), zuI_o (by omega), zuI_o (by omega), (R.tc.2.2.2.2.1 kw.1).2, if_pos (by omega), kw.2]), zcv_ok]
    exact ⟨_, _, _, rfl, fl_takeSign fs3.ne, (tkS.rf.set.cg.set6).set (by omega), (tmG.rf.set (by omega)).cm, Or.inr ⟨rfl, _, fs3, zuI_at⟩⟩
  have pe := kE_lt R.le (show kK T p ≠ 0 by omega)
  have R1 : RD T p (zuI hc 6 0 6 1) hm := R.keep (fun K k hK => by rw [zuI_o (by omega)]) (fun _ _ _ => rfl) (fun _ _ => rfl) rfl (fun _ => rfl)
  obtain ⟨c2, m2, a1, a2, a3, a4, a5⟩ := j_step R1
  have q23 : m2.1 12 0 23 = nI 1000 := by rw [a4.1 12 0 23 (by omega)]; exact w5.1
  rw [zf_pos w1, w3, w4, zf_neg (nI_nlt' (by omega)), e_X6_readWears_15, a1, zcv_ok, a2, zcv_ok, g_X1_clear, zcv_ok, g_X12_reads, q23, nar0]
  have R3 : RD T (kE T p) (zuI c2 1 1 2 0) (zuI (zuI m2 49 0 1 (nI 1000)) 53 0 0 0) := a5.keep (fun K k hK => by rw [zuI_o (by omega)]) (fun _ _ _ => rfl) (fun k hk => by rw [zuI_o (by omega), zuI_o (by omega)]) rfl (fun k => by rw [zuI_o (by omega), zuI_o (by omega)])
  have B3 : EB T (kE T p) [] [] (zuI c2 1 1 2 0) (zuI (zuI m2 49 0 1 (nI 1000)) 53 0 0 0) := ⟨R3, ⟨zuI_at, fun i hi => absurd hi (Nat.not_lt_zero i)⟩, ⟨by rw [zuI_o (by omega), zuI_o (by omega)]; exact q23, fun i hi => absurd hi (Nat.not_lt_zero i)⟩, Nat.zero_le _, Nat.zero_le _⟩
  have Fc : cgS hc (zuI c2 1 1 2 0) := (cgS.rf.set6.trans a3.cg).set (by omega)
  have Fm : cmS hm (zuI (zuI m2 49 0 1 (nI 1000)) 53 0 0 0) := (a4.G.cm.set (by unfold mE; omega)).set (by unfold mE; omega)
  have D3 : Dn n c wp wc (zuI c2 1 1 2 0) (zuI (zuI m2 49 0 1 (nI 1000)) 53 0 0 0) := (D.keep (gc := c2) (gm := m2) (fun k => by rw [a3.1 0 1 k (by omega), zuI_o (by omega)]) (by rw [a3.1 6 0 5 (by omega), zuI_o (by omega)]) (fun K k hK _ => by rw [a3.1 K 1 k (by omega), zuI_o (by omega)]) (fun K k h1 h2 _ => by rw [a3.1 K 1 k (by omega), zuI_o (by omega)]) (fun k _ => by rw [a3.2 13 1 k (by omega), zuI_2]) (fun k _ => by rw [a3.2 16 1 k (by omega), zuI_2]) (fun k _ => a4.1 39 0 k (by omega)) (a4.1 12 0 24 (by omega)) (fun K k hK _ => a4.1 K 0 _ (by omega)) (fun K k h1 h2 _ => a4.1 K 0 _ (by omega)) (fun k _ => a4.2 40 0 _ (by omega)) (fun k _ => a4.2 41 0 _ (by omega))).keep (fun k => by rw [zuI_o (by omega)]) (by rw [zuI_o (by omega)]) (fun K k hK _ => by rw [zuI_o (by omega)]) (fun K k h1 h2 _ => by rw [zuI_o (by omega)]) (fun k _ => rfl) (fun k _ => rfl) (fun k _ => by rw [zuI_o (by omega), zuI_o (by omega)]) (by rw [zuI_o (by omega), zuI_o (by omega)]) (fun K k hK _ => by rw [zuI_o (by omega), zuI_o (by omega)]) (fun K k h1 h2 _ => by rw [zuI_o (by omega), zuI_o (by omega)]) (fun k _ => rfl) (fun k _ => rfl)
  have q49 : (zuI (zuI m2 49 0 1 (nI 1000)) 53 0 0 0).1 49 0 1 = nI 1000 := by rw [zuI_o (by omega), zuI_at]
  have q6 : (zuI c2 1 1 2 0).1 6 0 6 = 1 := by rw [zuI_o (by omega), a3.1 6 0 6 (by omega), zuI_at]
  have X := X_all _ _ _ _ _ B3 zuI_at
  show oW T p hc hm _ (zci (mR 0 1 (zuI (zuI m2 49 0 1 (nI 1000)) 53 0 0 0)) _)
  generalize zuI c2 1 1 2 0 = xc at *
  generalize zuI (zuI m2 49 0 1 (nI 1000)) 53 0 0 0 = xm at *
  rcases X with ⟨gc, gm, S, E, v, p', o1, o2, o3, o4, o5, o6, o7, o8, o9, o10, o11, o12, o13⟩ | ⟨gc, gm, F, o1, o2, o3, o4, o5, o6⟩
  case inr =>
    rw [o1, zcv_ok, o5, zci_ok, zf_pos rfl]
    exact ⟨_, _, _, rfl, fl_takeSign o4.1.ne, Fc.trans o2.cg, Fm.trans o3.cm, Or.inr ⟨rfl, F, o4.1, o6⟩⟩
  have p'l := o6.le
  have n1 : ¬ wd T p' 21 := fun z => o7.2 26 zm6 (Or.inl ⟨z, rfl, rfl⟩)
  have n2 : ¬ wd T p' 22 := fun z => o7.2 27 zm7 (Or.inr ⟨z, rfl, rfl⟩)
  have i59 : f_X12_isSign [.inr (.inr (12, 0)), .inl 59] gm = some (some (.inl (zb (sg T p' 59))), gm) := ml_isSign o6.xm o6.le o6.tm (s := 59) (by omega)
  have j59 : f_X10_isSign [.inr (.inr (10, 0)), .inl 59] gc = some (some (.inl (zb (sg T p' 59))), gc) := cl_isSign o6.xc o6.le o6.tc (s := 59) (by omega)
  have mq : mQ 0 gm = zL p_X12_reads 399 [some (.inr (.inr (12, 0))), some (.inl (nI 0)), some (.inl 0), none, none, none] [] gm := by
    rw [(m_304 (d := 0) o6 (by omega)).2.2 n1 n2]
    by_cases c41 : sg T p' 41
    · rw [zf_pos c41, zf_neg (by decide)]
    · rw [zf_neg c41]
  rw [o1, zcv_ok, o4, mq, e_X12_reads_399, zf_pos (show nI 0 = 0 from rfl), i59, zci_ok, zf_b0]
  by_cases c59 : sg T p' 59
  · obtain ⟨c4, m4, u1, u2, u3, u4, u5⟩ := j_step o6
    have pe2 := kE_lt o6.le (show kK T p' ≠ 0 by have := c59.1; omega)
    have ts : f_X10_takeSign [.inr (.inr (10, 0)), .inl 59] gc = some (none, c4) := by rw [g_X10_takeSign, j59, zci_ok, zf_b0, zf_pos c59, u1, zcv_ok]
    have cd4 := o9.tm u4
    rw [zf_pos c59, u2, zcv_ok, zci_ok, zf_neg (show ¬ (1 : Int32) = 0 by decide), cd4.1]
    have R5 : RD T (kE T p') c4 (zuI m4 50 0 1 (nI (1000 + ([] ++ E).length))) := u5.keep (fun _ _ _ => rfl) (fun _ _ _ => rfl) (fun k hk => by rw [zuI_o (by omega)]) rfl (fun k => by rw [zuI_o (by omega)])
    have D5 : Dn n c wp wc c4 (zuI m4 50 0 1 (nI (1000 + ([] ++ E).length))) := ((D3.em o2 o3).tk u3 u4.G).keep (fun _ => rfl) rfl (fun _ _ _ _ => rfl) (fun _ _ _ _ _ => rfl) (fun _ _ => rfl) (fun _ _ => rfl) (fun k _ => by rw [zuI_o (by omega)]) (by rw [zuI_o (by omega)]) (fun K k hK _ => by rw [zuI_o (by omega)]) (fun K k h1 h2 _ => by rw [zuI_o (by omega)]) (fun _ _ => rfl) (fun _ _ => rfl)
    refine ⟨gc, c4, _, rfl, ts, (Fc.trans o2.cg).trans u3.cg, ((Fm.trans o3.cm).trans u4.G.cm).set (by unfold mE; omega), Or.inl ⟨rfl, Or.inr ⟨?_, S, E, v, by omega, by omega, o8.keep u3, cd4.keep (fun K k hK => by rw [zuI_o (by omega)]), ?_, zuI_at, o12, o13⟩, kE T p', n, c, wp, wc, by omega, R5, D5⟩⟩
    · rw [u3.1 6 0 6 (by omega), o2.1 6 0 6 (by omega) (by omega)]; exact q6
    · rw [zuI_o (by omega), u4.1 49 0 1 (by omega), o3.1 49 0 1 (by omega) (by omega) (by omega) (by omega)]; exact q49
  · have fs := FC.set (h := gc) (k := 1) o6.t1 o6.le (by omega) (by omega)
    have ts : f_X10_takeSign [.inr (.inr (10, 0)), .inl 59] gc = some (none, zuI gc 10 0 7 (nI (1 + 16 * kB T p'))) := by rw [g_X10_takeSign, j59, zci_ok, zf_b0, zf_neg c59, cl_co (x := 1) 1 o6.tc rfl, zcv_ok, fl_step fs.ne, zcv_ok]
    rw [zf_neg c59, ml_fa (x := 1) 1 o6.tm rfl, zci_ok, zf_01, zci_ok, zf_pos rfl]
    exact ⟨gc, _, _, rfl, ts, (Fc.trans o2.cg).trans tkS.rf.set.cg, (Fm.trans o3.cm).trans (tmG.rf.set (by omega)).cm, Or.inr ⟨rfl, _, fs, zuI_at⟩⟩
