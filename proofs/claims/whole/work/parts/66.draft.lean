/-! A congress is read: what both sides hold of it so far. -/
/-- what the class, the model may change while they read a congress -/
def cgS (h g : zH) : Prop := (∀ K j k, ¬ (K = 10 ∧ j = 0) → ¬ (j = 1 ∧ (K ≤ 1 ∨ (13 ≤ K ∧ K ≤ 22))) → ¬ (K = 6 ∧ j = 0) → g.1 K j k = h.1 K j k) ∧ ∀ K j k, ¬ (K = 10 ∧ j = 0 ∧ k = 6) → ¬ (j = 1 ∧ (K = 13 ∨ K = 16)) → g.2 K j k = h.2 K j k
def mE (K k : Nat) : Prop := (K = 12 ∧ k < 53 ∧ k ≠ 1) ∨ (K = 39 ∧ 3 ≤ k) ∨ ((K = 42 ∨ K = 43) ∧ 5 ≤ k) ∨ (44 ≤ K ∧ K ≤ 48 ∧ 7 ≤ k) ∨ (K = 49 ∧ k = 1) ∨ (K = 50 ∧ k = 1) ∨ (K = 51 ∧ 1000 ≤ k) ∨ K = 52 ∨ K = 53
def cmS (h g : zH) : Prop := (∀ K j k, ¬ mE K k → g.1 K j k = h.1 K j k) ∧ ∀ K j k, ¬ (K = 12 ∧ (k = 7 ∨ k = 38)) → ¬ (K = 40 ∧ 5 ≤ k) → ¬ (K = 41 ∧ 7 ≤ k) → g.2 K j k = h.2 K j k
theorem cgS.trans {h g f : zH} (a : cgS h g) (b : cgS g f) : cgS h f := ⟨fun K j k n1 n2 n3 => (b.1 K j k n1 n2 n3).trans (a.1 K j k n1 n2 n3), fun K j k n1 n2 => (b.2 K j k n1 n2).trans (a.2 K j k n1 n2)⟩
theorem cmS.trans {h g f : zH} (a : cmS h g) (b : cmS g f) : cmS h f := ⟨fun K j k n1 => (b.1 K j k n1).trans (a.1 K j k n1), fun K j k n1 n2 n3 => (b.2 K j k n1 n2 n3).trans (a.2 K j k n1 n2 n3)⟩
theorem tkS.cg {h g : zH} (a : tkS h g) : cgS h g := ⟨fun K j k n1 _ _ => a.1 K j k n1, fun K j k n1 _ => a.2 K j k n1⟩
theorem tmG.cm {h g : zH} (a : tmG h g) : cmS h g := ⟨fun K j k n1 => a.1 K j k (fun z => n1 (by unfold mE; omega)), fun K j k n1 _ _ => a.2 K j k (fun z => n1 (by omega))⟩
theorem cgS.rf {h : zH} : cgS h h := tkS.rf.cg
theorem cmS.rf {h : zH} : cmS h h := tmG.rf.cm
theorem cgS.set {h g : zH} {K k : Nat} {v : Int32} (hK : K ≤ 1 ∨ (13 ≤ K ∧ K ≤ 22)) (a : cgS h g) : cgS h (zuI g K 1 k v) := ⟨fun K' j' k' n1 n2 n3 => by rw [zuI_o (by omega)]; exact a.1 K' j' k' n1 n2 n3, a.2⟩
theorem cgS.set6 {h g : zH} {k : Nat} {v : Int32} (a : cgS h g) : cgS h (zuI g 6 0 k v) := ⟨fun K' j' k' n1 n2 n3 => by rw [zuI_o (by omega)]; exact a.1 K' j' k' n1 n2 n3, a.2⟩
theorem cgS.setJ {h g : zH} {K k : Nat} {v : Int64} (hK : K = 13 ∨ K = 16) (a : cgS h g) : cgS h (zuJ g K 1 k v) := ⟨a.1, fun K' j' k' n1 n2 => by rw [zuJ_o (by omega)]; exact a.2 K' j' k' n1 n2⟩
theorem cmS.set {h g : zH} {K k : Nat} {v : Int32} (hK : mE K k) (a : cmS h g) : cmS h (zuI g K 0 k v) := ⟨fun K' j' k' n1 => by
  rw [zuI_o (fun z => n1 (by rw [z.1, z.2.2]; exact hK))]; exact a.1 K' j' k' n1, a.2⟩
theorem cmS.setJ {h g : zH} {K k : Nat} {v : Int64} (hK : (K = 40 ∧ 5 ≤ k) ∨ (K = 41 ∧ 7 ≤ k)) (a : cmS h g) : cmS h (zuJ g K 0 k v) := ⟨a.1, fun K' j' k' n1 n2 n3 => by rw [zuJ_o (by omega)]; exact a.2 K' j' k' n1 n2 n3⟩
theorem cmS.setF {h g : zH} {v : Int64} (a : cmS h g) : cmS h (zuJ g 12 0 38 v) := a.trans (tmG.rf.setJ).cm
/-- one cake, told alike -/
def cw (n q : Nat) (hc hm : zH) : Prop := (∃ s, s < n ∧ hc.1 17 1 q = nI s ∧ hm.1 44 0 (7 + q) = nI s) ∧ (∃ s, s < n ∧ hc.1 18 1 q = nI s ∧ hm.1 45 0 (7 + q) = nI s) ∧ (∃ t, t ≤ 40 ∧ hc.1 19 1 q = nI t ∧ hm.1 46 0 (7 + q) = nI t) ∧ hc.1 20 1 q = hm.1 47 0 (7 + q) ∧ ((hc.1 21 1 q = zm1 ∧ hm.1 48 0 (7 + q) = zm1) ∨ ∃ t, t ≤ 39 ∧ hc.1 21 1 q = nI t ∧ hm.1 48 0 (7 + q) = nI t)
def Dn (n c : Nat) (wp wc : Nat → List Nat) (hc hm : zH) : Prop := nmC 1 n c wp wc hc ∧ nmM 1 n c wp wc hm ∧ hc.1 0 1 11 = hm.1 39 0 5 ∧ (∀ q, q < n → hc.1 14 1 q = hm.1 42 0 (5 + q) ∧ hc.1 15 1 q = hm.1 43 0 (5 + q)) ∧ (∀ q, q < c → cw n q hc hm) ∧ hc.1 6 0 5 = hm.1 12 0 24
theorem Dn.C {n c : Nat} {wp wc : Nat → List Nat} {hc hm : zH} (D : Dn n c wp wc hc hm) : nmC 1 n c wp wc hc := D.1
theorem Dn.M {n c : Nat} {wp wc : Nat → List Nat} {hc hm : zH} (D : Dn n c wp wc hc hm) : nmM 1 n c wp wc hm := D.2.1
theorem Dn.c0 {n c : Nat} {wp wc : Nat → List Nat} {hc hm : zH} (D : Dn n c wp wc hc hm) : hc.1 0 1 0 = nI n := D.1.2.2.1
theorem Dn.c4 {n c : Nat} {wp wc : Nat → List Nat} {hc hm : zH} (D : Dn n c wp wc hc hm) : hc.1 0 1 4 = nI c := D.1.2.2.2.1
theorem Dn.m3 {n c : Nat} {wp wc : Nat → List Nat} {hc hm : zH} (D : Dn n c wp wc hc hm) : hm.1 39 0 3 = nI n := D.2.1.2.2.1
theorem Dn.m4 {n c : Nat} {wp wc : Nat → List Nat} {hc hm : zH} (D : Dn n c wp wc hc hm) : hm.1 39 0 4 = nI c := D.2.1.2.2.2.1
theorem Dn.n5 {n c : Nat} {wp wc : Nat → List Nat} {hc hm : zH} (D : Dn n c wp wc hc hm) : n ≤ 5 := D.1.1
theorem Dn.c7 {n c : Nat} {wp wc : Nat → List Nat} {hc hm : zH} (D : Dn n c wp wc hc hm) : c ≤ 7 := D.1.2.1
theorem cw.keep {n q : Nat} {hc hm gc gm : zH} (W : cw n q hc hm) (a : ∀ K, 17 ≤ K → K ≤ 21 → gc.1 K 1 q = hc.1 K 1 q) (b : ∀ K, 44 ≤ K → K ≤ 48 → gm.1 K 0 (7 + q) = hm.1 K 0 (7 + q)) : cw n q gc gm := by
  unfold cw at W ⊢
  rw [a 17 (by omega) (by omega), a 18 (by omega) (by omega), a 19 (by omega) (by omega), a 20 (by omega) (by omega), a 21 (by omega) (by omega), b 44 (by omega) (by omega), b 45 (by omega) (by omega), b 46 (by omega) (by omega), b 47 (by omega) (by omega), b 48 (by omega) (by omega)]; exact W
theorem cw.up {n n' q : Nat} {hc hm : zH} (W : cw n q hc hm) (hn : n ≤ n') : cw n' q hc hm := by
  obtain ⟨⟨s, s1, s2, s3⟩, ⟨t, t1, t2, t3⟩, r⟩ := W
  exact ⟨⟨s, by omega, s2, s3⟩, ⟨t, by omega, t2, t3⟩, r⟩
theorem Dn.keep {n c : Nat} {wp wc : Nat → List Nat} {hc hm gc gm : zH} (D : Dn n c wp wc hc hm) (a0 : ∀ k, gc.1 0 1 k = hc.1 0 1 k) (a6 : gc.1 6 0 5 = hc.1 6 0 5) (aP : ∀ K k, K = 14 ∨ K = 15 → k < n → gc.1 K 1 k = hc.1 K 1 k) (aC : ∀ K k, 17 ≤ K → K ≤ 21 → k < c → gc.1 K 1 k = hc.1 K 1 k) (aJ : ∀ k, k < n → gc.2 13 1 k = hc.2 13 1 k) (aK : ∀ k, k < c → gc.2 16 1 k = hc.2 16 1 k) (b39 : ∀ k, 3 ≤ k → gm.1 39 0 k = hm.1 39 0 k) (b24 : gm.1 12 0 24 = hm.1 12 0 24) (bP : ∀ K k, K = 42 ∨ K = 43 → k < n → gm.1 K 0 (5 + k) = hm.1 K 0 (5 + k)) (bC : ∀ K k, 44 ≤ K → K ≤ 48 → k < c → gm.1 K 0 (7 + k) = hm.1 K 0 (7 + k)) (bJ : ∀ k, k < n → gm.2 40 0 (5 + k) = hm.2 40 0 (5 + k)) (bK : ∀ k, k < c → gm.2 41 0 (7 + k) = hm.2 41 0 (7 + k)) : Dn n c wp wc gc gm := by
  obtain ⟨⟨d1, d2, d3, d4, d5, d6⟩, ⟨e1, e2, e3, e4, e5, e6⟩, f1, f2, f3, f4⟩ := D
  refine ⟨⟨d1, d2, by rw [a0]; exact d3, by rw [a0]; exact d4, fun q hq => by rw [aJ q hq]; exact d5 q hq, fun q hq => by rw [aK q hq]; exact d6 q hq⟩, ⟨e1, e2, by rw [b39 _ (by omega)]; exact e3, by rw [b39 _ (by omega)]; exact e4, fun q hq => ?_, fun q hq => ?_⟩, by rw [a0, b39 5 (by omega)]; exact f1, fun q hq => ?_, fun q hq => (f3 q hq).keep (fun K h1 h2 => aC K q h1 h2 hq) (fun K h1 h2 => bC K q h1 h2 hq), by rw [a6, b24]; exact f4⟩
  · rw [Nat.mul_one, bJ q hq]; exact e5 q hq
  · rw [Nat.mul_one, bK q hq]; exact e6 q hq
  · rw [aP 14 q (by omega) hq, aP 15 q (by omega) hq, bP 42 q (by omega) hq, bP 43 q (by omega) hq]; exact f2 q hq
theorem Dn.tk {n c : Nat} {wp wc : Nat → List Nat} {hc hm gc gm : zH} (D : Dn n c wp wc hc hm) (a : tkS hc gc) (b : tmG hm gm) : Dn n c wp wc gc gm :=
  D.keep (fun k => a.1 0 1 k (by omega)) (a.1 6 0 5 (by omega)) (fun K k hK _ => a.1 K 1 k (by omega)) (fun K k h1 h2 _ => a.1 K 1 k (by omega)) (fun k _ => a.2 13 1 k (by omega)) (fun k _ => a.2 16 1 k (by omega)) (fun k _ => b.1 39 0 k (by omega)) (b.1 12 0 24 (by omega)) (fun K k hK _ => b.1 K 0 _ (by omega)) (fun K k h1 h2 _ => b.1 K 0 _ (by omega)) (fun k _ => b.2 40 0 _ (by omega)) (fun k _ => b.2 41 0 _ (by omega))
/-- the law's cells on both sides are as they were -/
def lwS (hc hm gc gm : zH) : Prop := gc.1 6 0 6 = hc.1 6 0 6 ∧ (∀ k, gc.1 1 1 k = hc.1 1 1 k) ∧ (∀ k, gc.1 22 1 k = hc.1 22 1 k) ∧ gm.1 49 0 1 = hm.1 49 0 1 ∧ gm.1 50 0 1 = hm.1 50 0 1 ∧ gm.1 12 0 23 = hm.1 12 0 23 ∧ ∀ k, gm.1 51 0 k = hm.1 51 0 k
theorem lwS.trans {hc hm gc gm fc fm : zH} (a : lwS hc hm gc gm) (b : lwS gc gm fc fm) : lwS hc hm fc fm := ⟨b.1.trans a.1, fun k => (b.2.1 k).trans (a.2.1 k), fun k => (b.2.2.1 k).trans (a.2.2.1 k), b.2.2.2.1.trans a.2.2.2.1, b.2.2.2.2.1.trans a.2.2.2.2.1, b.2.2.2.2.2.1.trans a.2.2.2.2.2.1, fun k => (b.2.2.2.2.2.2 k).trans (a.2.2.2.2.2.2 k)⟩
theorem lwS.tk {hc hm gc gm : zH} (a : tkS hc gc) (b : tmG hm gm) : lwS hc hm gc gm := ⟨a.1 6 0 6 (by omega), fun k => a.1 1 1 k (by omega), fun k => a.1 22 1 k (by omega), b.1 49 0 1 (by omega), b.1 50 0 1 (by omega), b.1 12 0 23 (by omega), fun k => b.1 51 0 k (by omega)⟩
/-- the outcome of a line: read by both, or refused by both -/
def oK (T : zTx) (p : Nat) (hc hm : zH) (C M : Option zRes) : Prop := ∃ g0 gc gm, C = some (none, g0) ∧ f_X10_takeSign [.inr (.inr (10, 0)), .inl 59] g0 = some (none, gc) ∧ cgS hc gc ∧ cmS hm gm ∧ ((M = some (some (.inl 1), gm) ∧ lwS hc hm gc gm ∧ ∃ p' n c wp wc, p < p' ∧ RD T p' gc gm ∧ Dn n c wp wc gc gm) ∨ (M = some (some (.inl 0), gm) ∧ ∃ F, FC F gc ∧ gm.1 12 0 9 = nI F))
theorem oK.from {T : zTx} {p p' : Nat} {hc hm hc' hm' : zH} {C M : Option zRes} (o : oK T p' hc' hm' C M) (hp : p ≤ p') (a : cgS hc hc') (b : cmS hm hm') (l : lwS hc hm hc' hm') : oK T p hc hm C M := by
  obtain ⟨g0, gc, gm, a1, a2, a3, a4, a5⟩ := o
  refine ⟨g0, gc, gm, a1, a2, a.trans a3, b.trans a4, a5.imp (fun z => ⟨z.1, l.trans z.2.1, ?_⟩) id⟩
  obtain ⟨q, n, c, wp, wc, h1, h2, h3⟩ := z.2.2
  exact ⟨q, n, c, wp, wc, by omega, h2, h3⟩
theorem oK.flt {T : zTx} {p F : Nat} {hc hm gc gm : zH} {C M : Option zRes} (t : ∃ g, C = some (none, g) ∧ FC F g ∧ cgS gc g) (a : cgS hc gc) (b : cmS hm gm) (m : M = some (some (.inl 0), gm)) (e : gm.1 12 0 9 = nI F) : oK T p hc hm C M := by
  obtain ⟨g, t1, t2, t3⟩ := t
  exact ⟨g, g, gm, t1, fl_takeSign t2.ne, a.trans t3, b, Or.inr ⟨m, F, t2, e⟩⟩
theorem oK.fl9 {T : zTx} {p : Nat} {hc hm hc' hm' gc gm : zH} {C M : Option zRes} (f : fl9 T hc' hm' gc gm) (t : ∀ F, FC F gc → ∃ g, C = some (none, g) ∧ FC F g ∧ cgS gc g) (a : cgS hc hc') (b : cmS hm hm') (m : M = some (some (.inl 0), gm)) : oK T p hc hm C M := by
  obtain ⟨F, f1, f2, f3, f4⟩ := f
  exact oK.flt (t F f1) (a.trans f3.cg) (b.trans f4.cm) m f2
theorem FC.cg {F : Nat} {h : zH} (f : FC F h) : ∃ g, (some (none, h) : Option zRes) = some (none, g) ∧ FC F g ∧ cgS h g := ⟨h, rfl, f, cgS.rf⟩
