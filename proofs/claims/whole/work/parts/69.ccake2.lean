/-- nothing changed but tokens and what is told of cake c -/
def pC (c : Nat) (h g : zH) : Prop := (∀ K j q, ¬ (K = 10 ∧ j = 0) → ¬ (17 ≤ K ∧ K ≤ 21 ∧ j = 1 ∧ q = c) → g.1 K j q = h.1 K j q) ∧ ∀ K j q, ¬ (K = 10 ∧ j = 0 ∧ q = 6) → ¬ (K = 16 ∧ j = 1 ∧ q = c) → g.2 K j q = h.2 K j q
def pM (c : Nat) (h g : zH) : Prop := (∀ K j q, ¬ (K = 12 ∧ j = 0 ∧ (q = 4 ∨ q = 5 ∨ q = 6 ∨ q = 8 ∨ q = 9 ∨ q = 37)) → ¬ (44 ≤ K ∧ K ≤ 48 ∧ j = 0 ∧ q = 7 + c) → g.1 K j q = h.1 K j q) ∧ ∀ K j q, ¬ (K = 12 ∧ j = 0 ∧ (q = 7 ∨ q = 38)) → ¬ (K = 41 ∧ j = 0 ∧ q = 7 + c) → g.2 K j q = h.2 K j q
theorem pC.trans {c : Nat} {h g f : zH} (a : pC c h g) (b : pC c g f) : pC c h f := ⟨fun K j k n1 n2 => (b.1 K j k n1 n2).trans (a.1 K j k n1 n2), fun K j k n1 n2 => (b.2 K j k n1 n2).trans (a.2 K j k n1 n2)⟩
theorem pM.trans {c : Nat} {h g f : zH} (a : pM c h g) (b : pM c g f) : pM c h f := ⟨fun K j k n1 n2 => (b.1 K j k n1 n2).trans (a.1 K j k n1 n2), fun K j k n1 n2 => (b.2 K j k n1 n2).trans (a.2 K j k n1 n2)⟩
theorem tkS.pC {c : Nat} {h g : zH} (a : tkS h g) : pC c h g := ⟨fun K j k n1 _ => a.1 K j k n1, fun K j k n1 _ => a.2 K j k n1⟩
theorem tmG.pM {c : Nat} {h g : zH} (a : tmG h g) : pM c h g := ⟨fun K j k n1 _ => a.1 K j k n1, fun K j k n1 _ => a.2 K j k n1⟩
theorem pC.set {c K : Nat} {v : Int32} {h g : zH} (h1 : 17 ≤ K) (h2 : K ≤ 21) (a : pC c h g) : pC c h (zuI g K 1 c v) := ⟨fun K' j k n1 n2 => by rw [zuI_o (by omega)]; exact a.1 K' j k n1 n2, a.2⟩
theorem pC.setJ {c : Nat} {v : Int64} {h g : zH} (a : pC c h g) : pC c h (zuJ g 16 1 c v) := ⟨a.1, fun K' j k n1 n2 => by rw [zuJ_o (by omega)]; exact a.2 K' j k n1 n2⟩
theorem pM.set {c K : Nat} {v : Int32} {h g : zH} (h1 : 44 ≤ K) (h2 : K ≤ 48) (a : pM c h g) : pM c h (zuI g K 0 (7 + c) v) := ⟨fun K' j k n1 n2 => by rw [zuI_o (by omega)]; exact a.1 K' j k n1 n2, a.2⟩
theorem pM.setJ {c : Nat} {v : Int64} {h g : zH} (a : pM c h g) : pM c h (zuJ g 41 0 (7 + c) v) := ⟨a.1, fun K' j k n1 n2 => by rw [zuJ_o (by omega)]; exact a.2 K' j k n1 n2⟩
theorem pC.cg {c : Nat} {h g : zH} (a : pC c h g) : cgS h g := ⟨fun K j k n1 n2 _ => a.1 K j k n1 (by omega), fun K j k n1 n2 => a.2 K j k n1 (by omega)⟩
theorem pM.cm {c : Nat} {h g : zH} (a : pM c h g) : cmS h g := ⟨fun K j k n1 => a.1 K j k (fun z => n1 (by unfold mE; omega)) (fun z => n1 (by unfold mE; omega)), fun K j k n1 n2 n3 => a.2 K j k (fun z => n1 (by omega)) (fun z => n3 (by omega))⟩
theorem lwS.p {c : Nat} {hc hm gc gm : zH} (a : pC c hc gc) (b : pM c hm gm) : lwS hc hm gc gm := ⟨a.1 6 0 6 (by omega) (by omega), fun k => a.1 1 1 k (by omega) (by omega), fun k => a.1 22 1 k (by omega) (by omega), b.1 49 0 1 (by omega) (by omega), b.1 50 0 1 (by omega) (by omega), b.1 12 0 23 (by omega) (by omega), fun k => b.1 51 0 k (by omega) (by omega)⟩
theorem Dn.pend {n c : Nat} {wp wc : Nat → List Nat} {hc hm gc gm : zH} (D : Dn n c wp wc hc hm) (a : pC c hc gc) (b : pM c hm gm) : Dn n c wp wc gc gm :=
  D.keep (fun k => a.1 0 1 k (by omega) (by omega)) (a.1 6 0 5 (by omega) (by omega)) (fun K k hK _ => a.1 K 1 k (by omega) (by omega)) (fun K k h1 h2 _ => a.1 K 1 k (by omega) (by omega)) (fun k _ => a.2 13 1 k (by omega) (by omega)) (fun k _ => a.2 16 1 k (by omega) (by omega)) (fun k _ => b.1 39 0 k (by omega) (by omega)) (b.1 12 0 24 (by omega) (by omega)) (fun K k hK _ => b.1 K 0 _ (by omega) (by omega)) (fun K k h1 h2 _ => b.1 K 0 _ (by omega) (by omega)) (fun k _ => b.2 40 0 _ (by omega) (by omega)) (fun k _ => b.2 41 0 _ (by omega) (by omega))
theorem RD.p {T : zTx} {p c : Nat} {hc hm gc gm : zH} (R : RD T p hc hm) (a : pC c hc gc) (a1 : ∀ k, gc.1 10 0 k = hc.1 10 0 k) (a2 : gc.2 10 0 6 = hc.2 10 0 6) (b : pM c hm gm) (b1 : ∀ k, k = 4 ∨ k = 5 ∨ k = 6 ∨ k = 8 → gm.1 12 0 k = hm.1 12 0 k) (b2 : gm.2 12 0 7 = hm.2 12 0 7) : RD T p gc gm :=
  R.keep (fun K k hK => by
    by_cases e : K = 10
    · subst e; exact a1 k
    · exact a.1 K 0 k (by omega) (by omega)) (fun K k hK => by
    by_cases e : K = 10 ∧ k = 6
    · obtain ⟨rfl, rfl⟩ := e; exact a2
    · exact a.2 K 0 k (by omega) (by omega)) (fun k hk => by
    by_cases e : k = 3
    · subst e; exact b.1 12 0 3 (by omega) (by omega)
    · exact b1 k (by omega)) b2 (fun k => b.1 38 0 k (by omega) (by omega))
/-- one more cell of the cake told, on both sides -/
theorem RD.two {T : zTx} {p c K K' : Nat} {v v' : Int32} {hc hm : zH} (R : RD T p hc hm) (h1 : 17 ≤ K) (h2 : K ≤ 21) (h3 : 44 ≤ K') (h4 : K' ≤ 48) : RD T p (zuI hc K 1 c v) (zuI hm K' 0 (7 + c) v') :=
  R.p (c := c) (tkS.rf.pC.set h1 h2) (fun k => by rw [zuI_o (by omega)]) rfl (tmG.rf.pM.set h3 h4) (fun k hk => by rw [zuI_o (by omega)]) rfl
theorem RD.cls {T : zTx} {p c K : Nat} {v : Int32} {hc hm : zH} (R : RD T p hc hm) (h1 : 17 ≤ K) (h2 : K ≤ 21) : RD T p (zuI hc K 1 c v) hm :=
  R.p (c := c) (tkS.rf.pC.set h1 h2) (fun k => by rw [zuI_o (by omega)]) rfl tmG.rf.pM (fun _ _ => rfl) rfl
theorem RD.mdl {T : zTx} {p c K : Nat} {v : Int32} {hc hm : zH} (R : RD T p hc hm) (h1 : 44 ≤ K) (h2 : K ≤ 48) : RD T p hc (zuI hm K 0 (7 + c) v) :=
  R.p (c := c) tkS.rf.pC (fun _ => rfl) rfl (tmG.rf.pM.set h1 h2) (fun k hk => by rw [zuI_o (by omega)]) rfl
theorem S4 {T : zTx} {p n c s u t : Nat} {wp wc : Nat → List Nat} {w : List Nat} {hc hm : zH} (R : RD T p hc hm) (D : Dn n c wp wc hc hm) (c7 : c < 7) (ow : okw w) (v17 : hc.1 17 1 c = nI s) (w44 : hm.1 44 0 (7 + c) = nI s) (hs : s < n) (v18 : hc.1 18 1 c = nI u) (w45 : hm.1 45 0 (7 + c) = nI u) (hu : u < n) (v16 : hc.2 16 1 c = lN (enc 32 w)) (ht : t ≤ 40) (w37 : hm.1 12 0 37 = nI t) : oK T p hc hm (cC4 (nI c) (nI t) hc) (mC4 (nI (7 + c)) (lN (enc 27 w)) hm) := by
  unfold cC4 mC4
  rw [zfx c7 (by omega), nI_clamp (by omega), zfx (by omega) (by omega), nI_clamp (by omega), w37]
  have R1 : RD T p (zuI hc 19 1 c (nI t)) (zuI hm 46 0 (7 + c) (nI t)) := R.two (by omega) (by omega) (by omega) (by omega)
  obtain ⟨c1, v, c2, m2, u1, u2, u3⟩ := j_both (i := 6) (a := 0) (b := 9) (x := 0) (y := 9) R1 (by omega) mw_6 rfl rfl (by omega) (by omega)
  have u1 : f_X10_takeWord [.inr (.inr (10, 0)), .inl 6] (zuI hc 19 1 c (nI t)) = some (none, c1) := u1
  have PC : pC c hc (zuI hc 19 1 c (nI t)) := tkS.rf.pC.set (by omega) (by omega)
  have PM : pM c hm (zuI hm 46 0 (7 + c) (nI t)) := tmG.rf.pM.set (by omega) (by omega)
  rw [u1, zcv_ok, u2, zci_ok, zfx c7 (by omega), zfx c7 (by omega)]
  rcases u3 with ⟨k, w1, w2, w3, w4, w5, w6, w7, w8, p', w9, w10⟩ | ⟨w1, w2⟩
  case inr =>
    rw [w1, zci_ok, zf_pos rfl]
    exact oK.fl9 w2 (fun F f => ⟨_, rfl, ((f.o (by omega)).o (by omega)).o (by omega), ((cgS.rf.set (by omega)).set (by omega)).set (by omega)⟩) PC.cg PM.cm rfl
  have q4 : c2.1 0 1 4 = nI c := by rw [w5.1 0 1 4 (by omega), zuI_o (by omega)]; exact D.c4
  have q39 : m2.1 39 0 4 = nI c := by rw [w6.1 39 0 4 (by omega), zuI_o (by omega)]; exact D.m4
  rw [w4, zci_ok, zf_neg (by decide), zfx (by omega) (by omega), zfx (by omega) (by omega), zfx (by omega) (by omega), q4, q39, nI_1, w7, w1]
  have PC2 : pC c hc (zuI (zuI c2 20 1 c (nI k)) 21 1 c zm1) := ((PC.trans w5.pC).set (by omega) (by omega)).set (by omega) (by omega)
  have PM2 : pM c hm (zuJ (zuI (zuI m2 47 0 (7 + c) (nI k)) 48 0 (7 + c) zm1) 41 0 (7 + c) (lN (enc 27 w))) := (((PM.trans w6.pM).set (by omega) (by omega)).set (by omega) (by omega)).setJ
  have D2 := D.pend PC2 PM2
  have R2 : RD T p' (zuI (zuI c2 20 1 c (nI k)) 21 1 c zm1) (zuJ (zuI (zuI m2 47 0 (7 + c) (nI k)) 48 0 (7 + c) zm1) 41 0 (7 + c) (lN (enc 27 w))) :=
    ((w10.two (c := c) (K := 20) (K' := 47) (v := nI k) (v' := nI k) (by omega) (by omega) (by omega) (by omega)).two (c := c) (K := 21) (K' := 48) (v := zm1) (v' := zm1) (by omega) (by omega) (by omega) (by omega)).keep (fun _ _ _ => rfl) (fun _ _ _ => rfl) (fun _ _ => rfl) (by rw [zuJ_o (by omega)]) (fun _ => rfl)
  have gc4 : ∀ K, 17 ≤ K → K ≤ 18 → (zuI (zuI c2 20 1 c (nI k)) 21 1 c zm1).1 K 1 c = hc.1 K 1 c := fun K h1 h2 => by
    rw [zuI_o (by omega), zuI_o (by omega), w5.1 K 1 c (by omega), zuI_o (by omega)]
  have gm4 : ∀ K, 44 ≤ K → K ≤ 45 → (zuJ (zuI (zuI m2 47 0 (7 + c) (nI k)) 48 0 (7 + c) zm1) 41 0 (7 + c) (lN (enc 27 w))).1 K 0 (7 + c) = hm.1 K 0 (7 + c) := fun K h1 h2 => by
    rw [zuJ_1, zuI_o (by omega), zuI_o (by omega), w6.1 K 0 _ (by omega), zuI_o (by omega)]
  have cwc : cw n c (zuI (zuI c2 20 1 c (nI k)) 21 1 c zm1) (zuJ (zuI (zuI m2 47 0 (7 + c) (nI k)) 48 0 (7 + c) zm1) 41 0 (7 + c) (lN (enc 27 w))) := by
    refine ⟨⟨s, hs, by rw [gc4 17 (by omega) (by omega)]; exact v17, by rw [gm4 44 (by omega) (by omega)]; exact w44⟩, ⟨u, hu, by rw [gc4 18 (by omega) (by omega)]; exact v18, by rw [gm4 45 (by omega) (by omega)]; exact w45⟩, ⟨t, ht, ?_, ?_⟩, ?_, Or.inl ⟨zuI_at, by rw [zuJ_1, zuI_at]⟩⟩
    · rw [zuI_o (by omega), zuI_o (by omega), w5.1 19 1 c (by omega), zuI_at]
    · rw [zuJ_1, zuI_o (by omega), zuI_o (by omega), w6.1 46 0 _ (by omega), zuI_at]
    · rw [zuI_o (by omega), zuI_at, zuJ_1, zuI_o (by omega), zuI_at]
  have n16 : (zuI (zuI c2 20 1 c (nI k)) 21 1 c zm1).2 16 1 c = lN (enc 32 w) := by rw [zuI_2, zuI_2, w5.2 16 1 c (by omega), zuI_2]; exact v16
  have n41 : (zuJ (zuI (zuI m2 47 0 (7 + c) (nI k)) 48 0 (7 + c) zm1) 41 0 (7 + c) (lN (enc 27 w))).2 41 0 (7 + c) = lN (enc 27 w) := zuJ_at
  generalize zuI (zuI c2 20 1 c (nI k)) 21 1 c zm1 = xc at *
  generalize zuJ (zuI (zuI m2 47 0 (7 + c) (nI k)) 48 0 (7 + c) zm1) 41 0 (7 + c) (lN (enc 27 w)) = xm at *
  have R3 : RD T p' (zuI xc 0 1 4 (nI (c + 1))) (zuI xm 39 0 4 (nI (c + 1))) := R2.keep (fun K k hK => by rw [zuI_o (by omega)]) (fun _ _ _ => rfl) (fun k hk => by rw [zuI_o (by omega)]) rfl (fun k => by rw [zuI_o (by omega)])
  obtain ⟨⟨x1, x2, x3, x4, x5, x6⟩, ⟨y1, y2, y3, y4, y5, y6⟩, z1, z2, z3, z4⟩ := D2
  have D3 : Dn n (c + 1) wp (fun q => if q = c then w else wc q) (zuI xc 0 1 4 (nI (c + 1))) (zuI xm 39 0 4 (nI (c + 1))) := by
    refine ⟨⟨x1, by omega, by rw [zuI_o (by omega)]; exact x3, zuI_at, x5, fun q hq => ?_⟩, ⟨y1, by omega, by rw [zuI_o (by omega)]; exact y3, zuI_at, y5, fun q hq => ?_⟩, by rw [zuI_o (by omega), zuI_o (by omega)]; exact z1, fun q hq => by rw [zuI_o (by omega), zuI_o (by omega), zuI_o (by omega), zuI_o (by omega)]; exact z2 q hq, fun q hq => ?_, by rw [zuI_o (by omega), zuI_o (by omega)]; exact z4⟩
    · dsimp only
      by_cases e : q = c
      · subst e; rw [if_pos rfl]; exact ⟨ow, n16⟩
      · rw [if_neg e]; exact x6 q (by omega)
    · dsimp only
      by_cases e : q = c
      · subst e; rw [if_pos rfl]; exact ⟨ow, n41⟩
      · rw [if_neg e]; exact y6 q (by omega)
    · refine cw.keep (hc := xc) (hm := xm) ?_ (fun K h1 h2 => by rw [zuI_o (by omega)]) (fun K h1 h2 => by rw [zuI_o (by omega)])
      by_cases e : q = c
      · subst e; exact cwc
      · exact z3 q (by omega)
  have lw : lwS xc xm (zuI xc 0 1 4 (nI (c + 1))) (zuI xm 39 0 4 (nI (c + 1))) := ⟨by rw [zuI_o (by omega)], fun k => by rw [zuI_o (by omega)], fun k => by rw [zuI_o (by omega)], by rw [zuI_o (by omega)], by rw [zuI_o (by omega)], by rw [zuI_o (by omega)], fun k => by rw [zuI_o (by omega)]⟩
  exact (k_fin R3 D3).from w9 (PC2.cg.set (by omega)) (PM2.cm.set (by unfold mE; omega)) ((lwS.p PC2 PM2).trans lw)
theorem S3 {T : zTx} {p n c s u : Nat} {wp wc : Nat → List Nat} {w : List Nat} {hc hm : zH} (R : RD T p hc hm) (D : Dn n c wp wc hc hm) (c7 : c < 7) (ow : okw w) (v17 : hc.1 17 1 c = nI s) (w44 : hm.1 44 0 (7 + c) = nI s) (hs : s < n) (w45 : hm.1 45 0 (7 + c) = nI u) (hu : u < n) (v16 : hc.2 16 1 c = lN (enc 32 w)) : oK T p hc hm (cC3 (nI c) (nI u) hc) (mC3 (nI (7 + c)) (lN (enc 27 w)) hm) := by
  unfold cC3 mC3
  rw [zfx c7 (by omega), nI_clamp (by omega)]
  have R1 : RD T p (zuI hc 18 1 c (nI u)) hm := R.cls (by omega) (by omega)
  obtain ⟨c1, v, c2, m2, u1, u2, u3⟩ := j_both (i := 5) (a := 1) (b := 40) (x := 1) (y := 40) R1 (by omega) mw_5 rfl rfl (by omega) (by omega)
  have u1 : f_X10_takeWord [.inr (.inr (10, 0)), .inl 5] (zuI hc 18 1 c (nI u)) = some (none, c1) := u1
  have PC : pC c hc (zuI hc 18 1 c (nI u)) := tkS.rf.pC.set (by omega) (by omega)
  rw [u1, zcv_ok, u2, zci_ok]
  rcases u3 with ⟨k, w1, w2, w3, w4, w5, w6, w7, w8, p', w9, w10⟩ | ⟨w1, w2⟩
  · rw [w4, zci_ok, zf_neg (by decide), w1]
    have P2 : pC c hc c2 := PC.trans w5.pC
    have Q2 : pM c hm m2 := w6.pM
    refine (S4 (s := s) (u := u) w10 (D.pend P2 Q2) c7 ow ?_ ?_ hs ?_ ?_ hu ?_ w3 w7).from w9 P2.cg Q2.cm (lwS.p P2 Q2)
    · rw [w5.1 17 1 c (by omega), zuI_o (by omega)]; exact v17
    · rw [w6.1 44 0 _ (by omega)]; exact w44
    · rw [w5.1 18 1 c (by omega), zuI_at]
    · rw [w6.1 45 0 _ (by omega)]; exact w45
    · rw [w5.2 16 1 c (by omega), zuI_2]; exact v16
  · rw [w1, zci_ok, zf_pos rfl]
    exact oK.fl9 w2 (fun F f => fC4 f c7) PC.cg tmG.rf.cm rfl
theorem S2 {T : zTx} {p n c s : Nat} {wp wc : Nat → List Nat} {w : List Nat} {hc hm : zH} (R : RD T p hc hm) (D : Dn n c wp wc hc hm) (c7 : c < 7) (ow : okw w) (w44 : hm.1 44 0 (7 + c) = nI s) (hs : s < n) (v16 : hc.2 16 1 c = lN (enc 32 w)) : oK T p hc hm (cC2 (nI c) (nI s) hc) (mWP 555 (mC2 (nI (7 + c)) (lN (enc 27 w))) hm) := by
  have n5 := D.n5
  have R1 : RD T p (zuI hc 17 1 c (nI s)) hm := R.cls (by omega) (by omega)
  have PC : pC c hc (zuI hc 17 1 c (nI s)) := tkS.rf.pC.set (by omega) (by omega)
  have D1 := D.pend PC tmG.rf.pM
  obtain ⟨c1, v, c2, u1, u2, u3, u4⟩ := j_wp (i := 4) (x := nI s) (mC2 (nI (7 + c)) (lN (enc 27 w))) R1 D1.C D1.M (by omega) mw_4
  have u1 : f_X10_takeWord [.inr (.inr (10, 0)), .inl 4] (zuI hc 17 1 c (nI s)) = some (none, c1) := u1
  have x17 : c1.1 17 1 c = nI s := by rw [u2.1 17 1 c (by omega), zuI_at]
  unfold cC2
  rw [zfx c7 (by omega), nI_clamp (by omega), u1, zcv_ok, zfx c7 (by omega), x17, u3, zci_ok]
  rcases u4 with ⟨gm, b1, b2⟩ | ⟨gm, u, p', b1, b2, b3, b4, b5, b6, b7, b8⟩
  · rw [b1]
    exact oK.fl9 b2 (fun F f => fC3 f c7) PC.cg tmG.rf.cm rfl
  · rw [b2]
    have P1 : pC c hc c1 := PC.trans u2.pC
    have g44 : gm.1 44 0 (7 + c) = nI s := by rw [b5.1 44 0 _ (by omega)]; exact w44
    unfold mC2
    rw [zfx (by omega) (by omega), nI_clamp (by omega), b3, g44]
    rcases b8 with ⟨e1, e2⟩ | ⟨e1, e2, e3⟩
    · rw [zf_pos e1, ml_fa (x := 3) 3 b6.tm rfl, zci_ok, zf_01, e2]
      have fs := FC.set (h := c1) (k := 3) b6.t1 b6.le (by omega) (by omega)
      exact oK.flt (fC3 fs c7) (P1.cg.trans tkS.rf.set.cg) (b5.cm.trans (tmG.rf.set (by omega)).cm) rfl zuI_at
    · have R2 : RD T p' c1 (zuI gm 45 0 (7 + c) (nI u)) := b6.mdl (by omega) (by omega)
      obtain ⟨gc, m3, d1, d2, d3, d4, d5⟩ := j_step R2
      have eqc : gc = c2 := by
        have := d1.symm.trans e3
        injection this with this
        injection this
      subst eqc
      rw [zf_neg e1, zfx (by omega) (by omega), d2, zcv_ok, e2]
      have P3 : pC c hc gc := P1.trans d3.pC
      have Q3 : pM c hm m3 := (b5.pM.set (by omega) (by omega)).trans d4.G.pM
      refine (S3 (s := s) (u := u) d5 (D.pend P3 Q3) c7 ow ?_ ?_ hs ?_ b1 ?_).from (Nat.le_trans b7 (kE_ge b6.le)) P3.cg Q3.cm (lwS.p P3 Q3)
      · rw [d3.1 17 1 c (by omega)]; exact x17
      · rw [d4.1 44 0 _ (by omega), zuI_o (by omega)]; exact g44
      · rw [d4.1 45 0 _ (by omega), zuI_at]
      · rw [d3.2 16 1 c (by omega), u2.2 16 1 c (by omega), zuI_2]; exact v16
theorem S1 {T : zTx} {p n c : Nat} {wp wc : Nat → List Nat} {w : List Nat} {hc hm : zH} (R : RD T p hc hm) (D : Dn n c wp wc hc hm) (c7 : c < 7) (ow : okw w) : oK T p hc hm (cC1 (nI c) (lN (enc 32 w)) hc) (mWP 131638 (mC1 (nI (7 + c)) (lN (enc 27 w))) hm) := by
  have n5 := D.n5
  have PC : pC c hc (zuJ hc 16 1 c (lN (enc 32 w))) := tkS.rf.pC.setJ
  have R1 : RD T p (zuJ hc 16 1 c (lN (enc 32 w))) hm := R.p PC (fun _ => rfl) (by rw [zuJ_o (by omega)]) tmG.rf.pM (fun _ _ => rfl) rfl
  have D1 := D.pend PC tmG.rf.pM
  obtain ⟨c1, v, c2, u1, u2, u3, u4⟩ := j_wp (i := 3) (x := zm1) (mC1 (nI (7 + c)) (lN (enc 27 w))) R1 D1.C D1.M (by omega) mw_3
  have u1 : f_X10_takeWord [.inr (.inr (10, 0)), .inl 3] (zuJ hc 16 1 c (lN (enc 32 w))) = some (none, c1) := u1
  unfold cC1
  rw [zfx c7 (by omega), nI_clamp (by omega), u1, zcv_ok, u3, zci_ok]
  have P1 : pC c hc c1 := PC.trans u2.pC
  rcases u4 with ⟨gm, b1, b2⟩ | ⟨gm, s, p', b1, b2, b3, b4, b5, b6, b7, b8⟩
  · rw [b1]
    obtain ⟨F, f1, f2, f3, f4⟩ := b2
    exact oK.flt (fC2 f1 c7 n5 (by rw [f3.1 0 1 0 (by omega)]; exact D1.c0)) (PC.cg.trans f3.cg) f4.cm rfl f2
  · rw [b2]
    obtain ⟨e1, e2, e3⟩ := b8.resolve_left (fun z => ne_zm1 (by omega) z.1)
    unfold mC1
    have R2 : RD T p' c1 (zuI gm 44 0 (7 + c) (nI s)) := b6.mdl (by omega) (by omega)
    obtain ⟨gc, m3, d1, d2, d3, d4, d5⟩ := j_step R2
    have eqc : gc = c2 := by
      have := d1.symm.trans e3
      injection this with this
      injection this
    subst eqc
    rw [zfx (by omega) (by omega), nI_clamp (by omega), b3, d2, zcv_ok, e2]
    have P3 : pC c hc gc := P1.trans d3.pC
    have Q3 : pM c hm m3 := (b5.pM.set (by omega) (by omega)).trans d4.G.pM
    refine (S2 (s := s) d5 (D.pend P3 Q3) c7 ow ?_ b1 ?_).from (Nat.le_trans b7 (kE_ge b6.le)) P3.cg Q3.cm (lwS.p P3 Q3)
    · rw [d4.1 44 0 _ (by omega), zuI_at]
    · rw [d3.2 16 1 c (by omega), u2.2 16 1 c (by omega), zuJ_at]
theorem j_cakeLine {T : zTx} {p n c : Nat} {wp wc : Nat → List Nat} {hc hm : zH} (R : RD T p hc hm) (D : Dn n c wp wc hc hm) : oK T p hc hm (f_X6_readCake [.inr (.inr (6, 0))] hc) (f_X12_readsCake [.inr (.inr (12, 0))] hm) := by
  have c7 := D.c7
  have e7 : (7 : Int32) + nI c = nI (7 + c) := nI_add 7 c
  rw [g_cC, g_mC, D.c4, D.m4, e7]
  by_cases full : c = 7
  · subst full
    rw [zf_neg (show ¬ nI 7 < 7 by decide), zf_pos (show nI (7 + 7) = 14 from rfl), cl_co (x := 5) 5 R.tc rfl, zcv_ok, ml_fa (x := 5) 5 R.tm rfl, zci_ok, zf_01]
    exact oK.flt (FC.set (h := hc) (k := 5) R.t1 R.le (by omega) (by omega)).cg tkS.rf.set.cg (tmG.rf.set (by omega)).cm rfl zuI_at
  have hn : c < 7 := by omega
  rw [zf_pos (show nI c < 7 from nI_lt (b := 7) hn (by omega)), zf_neg (show ¬ nI (7 + c) = 14 from fun z => by have := (eqO (by omega) (by decide)).mp z; omega)]
  obtain ⟨c1, m1, a1, a2, a3, a4, a5⟩ := j_step R
  have D1 := D.tk a3 a4.G
  rw [a1, a2, zcv_ok, zcv_ok]
  obtain ⟨v, c2, m2, b1, b2⟩ := j_new a5 D1.C D1.M
  rw [b1, zcj_ok]
  rcases b2 with ⟨w, ow, b3, b4, b5, b6, b7⟩ | ⟨b3, b4⟩
  · have fm2 : tmG hm m2 := a4.G.trans ((tmG.rf.setJ).trans b6.G)
    have fc2 : tkS hc c2 := a3.trans b5
    rw [b4, zci_ok, zf_neg (by decide), b3, b6.2 12 0 38 (by omega), zuJ_at]
    exact (S1 b7 (D.tk fc2 fm2) hn ow).from (Nat.le_trans (kE_ge R.le) (kE_ge a5.le)) fc2.cg fm2.cm (lwS.tk fc2 fm2)
  · rw [b3, zci_ok, zf_pos rfl]
    obtain ⟨F, f1, f2, f3, f4⟩ := b4
    exact oK.flt (fC1 f1 hn D.n5 (by rw [f3.1 0 1 0 (by omega)]; exact D1.c0)) (a3.cg.trans f3.cg) (a4.G.cm.trans f4.cm) rfl f2
