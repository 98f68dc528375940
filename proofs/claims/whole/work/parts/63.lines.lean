/-! A line of the years, on both sides. -/
def lnS (h g : zH) : Prop := (∀ K j k, ¬ (K = 10 ∧ j = 0) → ¬ (j = 5 ∧ (K = 3 ∨ K = 24 ∨ K = 25 ∨ K = 26)) → g.1 K j k = h.1 K j k) ∧ ∀ K j k, ¬ (K = 10 ∧ j = 0 ∧ k = 6) → g.2 K j k = h.2 K j k
def lmS (h g : zH) : Prop := (∀ K j k, ¬ (K = 12 ∧ j = 0 ∧ (k = 4 ∨ k = 5 ∨ k = 6 ∨ k = 8 ∨ k = 9 ∨ k = 37)) → ¬ (K = 64 ∧ j = 0 ∧ k = 5) → ¬ ((K = 65 ∨ K = 66 ∨ K = 67) ∧ j = 0 ∧ 200 ≤ k) → g.1 K j k = h.1 K j k) ∧ ∀ K j k, ¬ (K = 12 ∧ j = 0 ∧ (k = 7 ∨ k = 38)) → g.2 K j k = h.2 K j k
theorem lnS.trans {h g f : zH} (a : lnS h g) (b : lnS g f) : lnS h f := ⟨fun K j k n n2 => (b.1 K j k n n2).trans (a.1 K j k n n2), fun K j k n => (b.2 K j k n).trans (a.2 K j k n)⟩
theorem lmS.trans {h g f : zH} (a : lmS h g) (b : lmS g f) : lmS h f := ⟨fun K j k n n2 n3 => (b.1 K j k n n2 n3).trans (a.1 K j k n n2 n3), fun K j k n => (b.2 K j k n).trans (a.2 K j k n)⟩
theorem tkS.ln {h g : zH} (a : tkS h g) : lnS h g := ⟨fun K j k n _ => a.1 K j k n, a.2⟩
theorem tmG.lm {h g : zH} (a : tmG h g) : lmS h g := ⟨fun K j k n _ _ => a.1 K j k n, a.2⟩
theorem lmS.rf {h : zH} : lmS h h := tmG.rf.lm
theorem lmS.set37 {h g : zH} {v : Int32} (a : lmS h g) : lmS h (zuI g 12 0 37 v) := a.trans (tmG.rf.set (by omega)).lm
theorem lmS.set {h g : zH} {K k : Nat} {v : Int32} (hK : (K = 64 ∧ k = 5) ∨ ((K = 65 ∨ K = 66 ∨ K = 67) ∧ 200 ≤ k)) (a : lmS h g) : lmS h (zuI g K 0 k v) := ⟨fun K' j' k' n n2 n3 => by rw [zuI_o (by omega)]; exact a.1 K' j' k' n n2 n3, a.2⟩
theorem lnS.set {h g : zH} {K k : Nat} {v : Int32} (hK : K = 3 ∨ K = 24 ∨ K = 25 ∨ K = 26) (a : lnS h g) : lnS h (zuI g K 5 k v) := ⟨fun K' j' k' n n2 => by rw [zuI_o (by omega)]; exact a.1 K' j' k' n n2, a.2⟩
/-- k lines read so far -/
def L2 (κ : zK) (k : Nat) (hc hm : zH) : Prop := k ≤ 40 ∧ hc.1 3 5 0 = nI k ∧ hm.1 64 0 5 = nI k ∧ ∀ i, i < k → okL κ (hc.1 24 5 i) (hc.1 25 5 i) (hc.1 26 5 i) (hm.1 65 0 (200 + i)) (hm.1 66 0 (200 + i)) (hm.1 67 0 (200 + i))
theorem L2.keep {κ : zK} {k : Nat} {hc hm gc gm : zH} (q : L2 κ k hc hm) (a : ∀ K i, K = 3 ∨ K = 24 ∨ K = 25 ∨ K = 26 → gc.1 K 5 i = hc.1 K 5 i) (b : gm.1 64 0 5 = hm.1 64 0 5) (b2 : ∀ K i, K = 65 ∨ K = 66 ∨ K = 67 → i < 200 + k → gm.1 K 0 i = hm.1 K 0 i) : L2 κ k gc gm := by
  obtain ⟨q1, q2, q3, q4⟩ := q
  refine ⟨q1, by rw [a 3 0 (by omega)]; exact q2, by rw [b]; exact q3, fun i hi => ?_⟩
  rw [a 24 i (by omega), a 25 i (by omega), a 26 i (by omega), b2 65 _ (by omega) (by omega), b2 66 _ (by omega) (by omega), b2 67 _ (by omega) (by omega)]; exact q4 i hi
theorem L2.kc {κ : zK} {k : Nat} {hc hm gc gm : zH} (q : L2 κ k hc hm) (a : tkS hc gc) (b : tmG hm gm) : L2 κ k gc gm :=
  q.keep (fun K i hK => a.1 K 5 i (by omega)) (b.1 64 0 5 (by omega)) (fun K i hK _ => b.1 K 0 i (by omega))
theorem nmC.kc {j n c : Nat} {wp wc : Nat → List Nat} {h g : zH} (N : nmC j n c wp wc h) (a : lnS h g) : nmC j n c wp wc g :=
  ⟨N.1, N.2.1, by rw [a.1 0 j 0 (by omega) (by omega)]; exact N.2.2.1, by rw [a.1 0 j 4 (by omega) (by omega)]; exact N.2.2.2.1, fun q hq => by rw [a.2 13 j q (by omega)]; exact N.2.2.2.2.1 q hq, fun q hq => by rw [a.2 16 j q (by omega)]; exact N.2.2.2.2.2 q hq⟩
theorem nmM.kc {r n c : Nat} {wp wc : Nat → List Nat} {h g : zH} (N : nmM r n c wp wc h) (a : lmS h g) : nmM r n c wp wc g :=
  ⟨N.1, N.2.1, by rw [a.1 39 0 _ (by omega) (by omega) (by omega)]; exact N.2.2.1, by rw [a.1 39 0 _ (by omega) (by omega) (by omega)]; exact N.2.2.2.1, fun q hq => by rw [a.2 40 0 _ (by omega)]; exact N.2.2.2.2.1 q hq, fun q hq => by rw [a.2 41 0 _ (by omega)]; exact N.2.2.2.2.2 q hq⟩
theorem kE_ge {T : zTx} {p : Nat} (h : p ≤ T.1) : p ≤ kE T p := by
  rcases Nat.eq_zero_or_pos (kK T p) with z | z
  · have e : kE T p = kB T p := by unfold kE; rw [zn_pos (kK_0.mp z)]
    rw [e]; exact kB_ge
  · exact Nat.le_of_lt (kE_lt h (by omega))
/-- the class adds a line -/
theorem sp_lineAdd {k : Nat} {x y z : Int32} {h : zH} (hk : k ≤ 40) (h0 : h.1 3 5 0 = nI k) : ∃ g, f_X3_add [.inr (.inr (3, 5)), .inl x, .inl y, .inl z] h = some (none, g) ∧ lnS h g ∧ (∀ q, g.1 10 0 q = h.1 10 0 q) ∧ (k < 40 → g = zuI (zuI (zuI (zuI h 24 5 k x) 25 5 k y) 26 5 k z) 3 5 0 (nI (k + 1))) := by
  rw [g_X3_add, h0]
  by_cases e : k < 40
  · rw [zf_pos (show nI k < 40 from nI_lt (b := 40) e (by omega)), zfx e (by omega), zfx e (by omega), zfx e (by omega), nI_clamp (by omega), nI_1]
    exact ⟨_, rfl, (((tkS.rf.ln.set (by omega)).set (by omega)).set (by omega)).set (by omega), fun q => by rw [zuI_o (by omega), zuI_o (by omega), zuI_o (by omega), zuI_o (by omega)], fun _ => rfl⟩
  · rw [zf_neg (show ¬ nI k < 40 from nI_nlt (b := 40) (by omega) (by omega))]
    exact ⟨_, rfl, tkS.rf.ln, fun _ => rfl, fun z => absurd z e⟩
/-- after a fault the class goes on, and changes no token -/
theorem t119 {F k : Nat} {x y z : Int32} {o1 o4 : Option zV} {h : zH} (f : FC F h) (hk : k ≤ 40) (h0 : h.1 3 5 0 = nI k) : ∃ g, zL p_X6_readLine 119 [some (.inr (.inr (6, 0))), o1, some (.inl x), some (.inl y), o4] [.inl z] h = some (none, g) ∧ FC F g ∧ lnS h g := by
  rw [e_X6_readLine_119, fl_takeSign f.ne, zcv_ok]
  obtain ⟨g, a1, a2, a3, a4⟩ := sp_lineAdd (x := x) (y := y) (z := z) hk h0
  rw [a1, zcv_ok]
  exact ⟨g, rfl, ⟨by rw [a3]; exact f.1, f.2⟩, a2⟩
theorem t101 {F k n : Nat} {x y : Int32} {o1 o4 : Option zV} {h : zH} (f : FC F h) (hk : k ≤ 40) (h0 : h.1 3 5 0 = nI k) (hn : n ≤ 5) (h1 : h.1 0 0 0 = nI n) : ∃ g, zL p_X6_readLine 101 [some (.inr (.inr (6, 0))), o1, some (.inl x), some (.inl y), o4] [] h = some (none, g) ∧ FC F g ∧ lnS h g := by
  obtain ⟨v, ev⟩ := fl_takePower (j := 0) (x := zm1) f.ne hn h1
  rw [e_X6_readLine_101, ev, zci_ok]
  by_cases e : x = 3
  · rw [zf_pos e]; exact t119 f hk h0
  · rw [zf_neg e]; exact t119 f hk h0
theorem t66 {F k n c : Nat} {x : Int32} {o2 o3 o4 : Option zV} {h : zH} (f : FC F h) (hk : k ≤ 40) (h0 : h.1 3 5 0 = nI k) (hn : n ≤ 5) (h1 : h.1 0 0 0 = nI n) (hc : c ≤ 7) (h2 : h.1 0 0 4 = nI c) : ∃ g, zL p_X6_readLine 66 [some (.inr (.inr (6, 0))), some (.inl x), o2, o3, o4] [] h = some (none, g) ∧ FC F g ∧ lnS h g := by
  obtain ⟨v, ev⟩ := fl_namedCake (j := 0) f.ne hc h2
  rw [e_X6_readLine_66, fl_step f.ne, zcv_ok, ev, zci_ok, fl_step f.ne, zcv_ok]
  by_cases e : x - 10 = 5
  · rw [zf_pos e]; exact t101 f hk h0 hn h1
  · rw [zf_neg e]; exact t101 f hk h0 hn h1
/-- the outcome of a line -/
def oL (T : zTx) (κ : zK) (p k : Nat) (hc hm : zH) (C M : Option zRes) : Prop := ∃ gc gm, C = some (none, gc) ∧ lnS hc gc ∧ lmS hm gm ∧ ((M = some (some (.inl 1), gm) ∧ k < 40 ∧ ∃ p', p < p' ∧ RD T p' gc gm ∧ L2 κ (k + 1) gc gm) ∨ (M = some (some (.inl 0), gm) ∧ ∃ F, FC F gc ∧ gm.1 12 0 9 = nI F))
theorem oL.from {T : zTx} {κ : zK} {p p' k : Nat} {hc hm hc' hm' : zH} {C M : Option zRes} (o : oL T κ p' k hc' hm' C M) (hp : p ≤ p') (a : lnS hc hc') (b : lmS hm hm') : oL T κ p k hc hm C M := by
  obtain ⟨gc, gm, a1, a2, a3, a4⟩ := o
  refine ⟨gc, gm, a1, a.trans a2, b.trans a3, a4.imp (fun z => ⟨z.1, z.2.1, ?_⟩) id⟩
  obtain ⟨q, h1, h2, h3⟩ := z.2.2
  exact ⟨q, by omega, h2, h3⟩
theorem oL.flt {T : zTx} {κ : zK} {p k F : Nat} {hc hm gc gm : zH} {C M : Option zRes} (t : ∃ g, C = some (none, g) ∧ FC F g ∧ lnS gc g) (a : lnS hc gc) (b : lmS hm gm) (m : M = some (some (.inl 0), gm)) (e : gm.1 12 0 9 = nI F) : oL T κ p k hc hm C M := by
  obtain ⟨g, t1, t2, t3⟩ := t
  exact ⟨g, gm, t1, a.trans t3, b, Or.inr ⟨m, F, t2, e⟩⟩
theorem j_end {T : zTx} {κ : zK} {p k : Nat} {x y z : Int32} {o1 o4 o1' o2' : Option zV} {hc hm : zH} (R : RD T p hc hm) (L : L2 κ k hc hm) (hk : k < 40) (ok : okL κ x y z (hm.1 65 0 (200 + k)) (hm.1 66 0 (200 + k)) (hm.1 67 0 (200 + k))) :
    oL T κ p k hc hm (zL p_X6_readLine 119 [some (.inr (.inr (6, 0))), o1, some (.inl x), some (.inl y), o4] [.inl z] hc) (zL p_X12_readsLine 193 [some (.inr (.inr (12, 0))), o1', o2'] [] hm) := by
  have R' : RD T p hc (zuI hm 64 0 5 (nI (k + 1))) := R.keep (fun _ _ _ => rfl) (fun _ _ _ => rfl) (fun q hq => by rw [zuI_o (by omega)]) rfl (fun q => by rw [zuI_o (by omega)])
  rw [e_X12_readsLine_193, L.2.2.1, nI_1]
  obtain ⟨gc, gm, a1, a2⟩ := j_close R'
  rcases a2 with ⟨b1, b2, b3, b4, b5⟩ | ⟨b1, F, b2, b3, b4, b5⟩
  · rw [e_X6_readLine_119, a1, zcv_ok, b1, zci_ok, zf_pos (Or.inr rfl)]
    obtain ⟨g, c1, c2, c3, c4⟩ := sp_lineAdd (x := x) (y := y) (z := z) (h := gc) L.1 (by rw [b2.1 3 5 0 (by omega)]; exact L.2.1)
    have c4 := c4 hk
    rw [c1, zcv_ok]
    have fm : lmS hm gm := (lmS.rf.set (by omega)).trans b3.G.lm
    refine ⟨g, gm, rfl, b2.ln.trans c2, fm, Or.inl ⟨rfl, hk, kE T p, b5, b4.keep (fun K q hK => ?_) (fun K q hK => ?_) (fun _ _ => rfl) rfl (fun _ => rfl), by omega, ?_, ?_, fun i hi => ?_⟩⟩
    · rw [c4, zuI_o (by omega), zuI_o (by omega), zuI_o (by omega), zuI_o (by omega)]
    · rw [c4]; rfl
    · rw [c4, zuI_at]
    · rw [b3.1 64 0 5 (by omega), zuI_at]
    · have m : ∀ K, K = 65 ∨ K = 66 ∨ K = 67 → gm.1 K 0 (200 + i) = hm.1 K 0 (200 + i) := fun K hK => by rw [b3.1 K 0 _ (by omega), zuI_o (by omega)]
      rw [m 65 (by omega), m 66 (by omega), m 67 (by omega), c4]
      by_cases e : i = k
      · subst e
        rw [zuI_o (by omega), zuI_o (by omega), zuI_o (by omega), zuI_at, zuI_o (by omega), zuI_o (by omega), zuI_at, zuI_o (by omega), zuI_at]; exact ok
      · rw [zuI_o (by omega), zuI_o (by omega), zuI_o (by omega), zuI_o (by omega), zuI_o (by omega), zuI_o (by omega), zuI_o (by omega), zuI_o (by omega), zuI_o (by omega), zuI_o (by omega), zuI_o (by omega), zuI_o (by omega), b2.1 24 5 _ (by omega), b2.1 25 5 _ (by omega), b2.1 26 5 _ (by omega)]
        exact L.2.2.2 i (by omega)
  · rw [e_X6_readLine_119, a1, zcv_ok, b1, zci_ok, zf_01]
    obtain ⟨g, c1, c2, c3, c4⟩ := sp_lineAdd (x := x) (y := y) (z := z) (h := gc) L.1 (by rw [b4.1 3 5 0 (by omega)]; exact L.2.1)
    rw [c1, zcv_ok]
    exact ⟨g, gm, rfl, b4.ln.trans c2, (lmS.rf.set (by omega)).trans b5.lm, Or.inr ⟨rfl, F, ⟨by rw [c3]; exact b2.1, b2.2⟩, b3⟩⟩
theorem j_pow {T : zTx} {κ : zK} {p k n c a : Nat} {x y : Int32} {wp wc : Nat → List Nat} {o1 o4 : Option zV} {hc hm : zH} (R : RD T p hc hm) (L : L2 κ k hc hm) (hk : k < 40) (NC : nmC 0 n c wp wc hc) (N : nmM 0 n c wp wc hm) (hn : kP κ = n) (ha : a ≤ 5) (hx : x = nI a) (hact : hm.1 65 0 (200 + k) = nI a) (hcake : (a = 5 ∧ y = zm1) ∨ (a < 5 ∧ ∃ i, i < kC κ ∧ y = nI i ∧ hm.1 66 0 (200 + k) = nI i)) :
    oL T κ p k hc hm (zL p_X6_readLine 101 [some (.inr (.inr (6, 0))), o1, some (.inl x), some (.inl y), o4] [] hc) (zL p_X12_readsLine 164 [some (.inr (.inr (12, 0))), some (.inl x), some (.inl (nI (200 + k)))] [] hm) := by
  rw [e_X6_readLine_101, e_X12_readsLine_164, hx]
  by_cases e : a = 3
  · subst e
    obtain ⟨i, i1, i2, i3⟩ := (hcake.resolve_left (fun z => by omega)).2
    rw [zf_pos (show nI 3 = 3 from rfl), zf_pos (show nI 3 = 3 from rfl)]
    have C := cl_takePower (j := 0) (x := zm1) R NC
    have M := ml_needsPower (r := 0) R (by omega) N
    by_cases kk : kK T p = 1 ∧ 23 ≤ kI T p
    · rcases fi9_or (n := n) (P := fun q => wp q = kW T p) (by have := N.1; omega) with l1 | ⟨q, hq, l1, l2⟩
      · have C' := (C.1 kk).1 l1
        have M' : f_X12_needsPower [.inr (.inr (12, 0)), .inl 0] hm = _ := (M.1 kk).1 l1
        rw [C', M', zci_ok, zci_ok, zf_pos rfl]
        have fs := FC.set (h := hc) (k := 2) R.t1 R.le (by omega) (by omega)
        exact oL.flt (t119 fs L.1 (by rw [zuI_o (by omega)]; exact L.2.1)) tkS.rf.set.ln ((lmS.rf.set37).trans (tmG.rf.set (by omega)).lm) rfl zuI_at
      · have R' : RD T p hc (zuI (zuI hm 12 0 37 (nI q)) 67 0 (200 + k) (nI q)) := R.keep (fun _ _ _ => rfl) (fun _ _ _ => rfl) (fun w hw => by rw [zuI_o (by omega), zuI_o (by omega)]) rfl (fun w => by rw [zuI_o (by omega), zuI_o (by omega)])
        obtain ⟨gc, gm, a1, a2, a3, a4, a5⟩ := j_step R'
        have C' := (C.1 kk).2.2 l2 l2 gc a1
        have M' : f_X12_needsPower [.inr (.inr (12, 0)), .inl 0] hm = _ := (M.1 kk).2 l2
        rw [C', M', zci_ok, zci_ok, zf_neg (by decide), zfx (by omega) (by omega), nI_clamp (by omega), zuI_at, l1, a2, zcv_ok]
        have fm : lmS hm gm := ((lmS.rf.set37).set (by omega)).trans a4.G.lm
        have lk : kE T p ≥ p := Nat.le_trans kB_ge (Nat.le_of_lt (kE_gt R.le (by omega)))
        refine (j_end (κ := κ) a5 (L.keep (fun K i hK => a3.1 K 5 i (by omega)) (by rw [a4.1 64 0 5 (by omega), zuI_o (by omega), zuI_o (by omega)]) (fun K i hK hi => by rw [a4.1 K 0 i (by omega), zuI_o (by omega), zuI_o (by omega)])) hk ?_).from lk a3.ln fm
        rw [a4.1 65 0 _ (by omega), a4.1 66 0 _ (by omega), a4.1 67 0 _ (by omega), zuI_at, zuI_o (by omega), zuI_o (by omega), zuI_o (by omega), zuI_o (by omega), hact, i3]
        exact ⟨rfl, Or.inr ⟨3, by omega, rfl, ⟨i, i1, i2, rfl⟩, fun _ => ⟨q, by omega, rfl, rfl⟩, fun z => absurd rfl z⟩⟩
    · have C' := C.2 kk
      have M' : f_X12_needsPower [.inr (.inr (12, 0)), .inl 0] hm = _ := M.2 kk
      rw [C', M', zci_ok, zci_ok, zf_pos rfl]
      have fs := FC.set (h := hc) (k := 1) R.t1 R.le (by omega) (by omega)
      exact oL.flt (t119 fs L.1 (by rw [zuI_o (by omega)]; exact L.2.1)) tkS.rf.set.ln (tmG.rf.set (by omega)).lm rfl zuI_at
  · have n3 : ¬ nI a = 3 := fun z => e ((eqO (by omega) (by decide)).mp z)
    rw [zf_neg n3, zf_neg n3]
    refine j_end R L hk ?_
    rw [hact]
    refine ⟨rfl, ?_⟩
    rcases hcake with ⟨a5, hy⟩ | ⟨a5, i, i1, i2, i3⟩
    · subst a5; exact Or.inl ⟨rfl, hy, rfl⟩
    · exact Or.inr ⟨a, a5, rfl, ⟨i, i1, i2, i3⟩, fun z => absurd z e, fun _ => rfl⟩
theorem j_line {T : zTx} {κ : zK} {p k n c : Nat} {wp wc : Nat → List Nat} {hc hm : zH} (R : RD T p hc hm) (L : L2 κ k hc hm) (NC : nmC 0 n c wp wc hc) (N : nmM 0 n c wp wc hm) (hn : kP κ = n) (hcc : kC κ = c) :
    oL T κ p k hc hm (f_X6_readLine [.inr (.inr (6, 0))] hc) (f_X12_readsLine [.inr (.inr (12, 0))] hm) := by
  have l := kI_le (T := T) (p := p)
  have k40 := L.1
  -- the act
  have mh : ∀ v, (∀ a, a ≤ 5 → (kK T p = 1 ∧ kI T p = 10 + a) → v = nI a) → ((∀ a, a ≤ 5 → ¬ (kK T p = 1 ∧ kI T p = 10 + a)) → v = zm1) → f_X12_readsLine [.inr (.inr (12, 0))] hm = zL p_X12_readsLine 85 [some (.inr (.inr (12, 0))), none, none] [.inl v] hm := fun v h1 h2 => by
    rw [g_X12_readsLine, ml_isWord (i := 10) R.le R.tm (by omega) mw_10, zci_ok, zf_b0, ml_isWord (i := 11) R.le R.tm (by omega) mw_11, zci_ok, zf_b0, ml_isWord (i := 12) R.le R.tm (by omega) mw_12, zci_ok, zf_b0, ml_isWord (i := 13) R.le R.tm (by omega) mw_13, zci_ok, zf_b0, ml_isWord (i := 14) R.le R.tm (by omega) mw_14, zci_ok, zf_b0, ml_isWord (i := 15) R.le R.tm (by omega) mw_15, zci_ok, zf_b0]
    by_cases e0 : kK T p = 1 ∧ kI T p = 10
    · rw [zf_pos e0, h1 0 (by omega) e0]; rfl
    rw [zf_neg e0]
    by_cases e1 : kK T p = 1 ∧ kI T p = 11
    · rw [zf_pos e1, h1 1 (by omega) e1]; rfl
    rw [zf_neg e1]
    by_cases e2 : kK T p = 1 ∧ kI T p = 12
    · rw [zf_pos e2, h1 2 (by omega) e2]; rfl
    rw [zf_neg e2]
    by_cases e3 : kK T p = 1 ∧ kI T p = 13
    · rw [zf_pos e3, h1 3 (by omega) e3]; rfl
    rw [zf_neg e3]
    by_cases e4 : kK T p = 1 ∧ kI T p = 14
    · rw [zf_pos e4, h1 4 (by omega) e4]; rfl
    rw [zf_neg e4]
    by_cases e5 : kK T p = 1 ∧ kI T p = 15
    · rw [zf_pos e5, h1 5 (by omega) e5]; rfl
    rw [zf_neg e5, h2 (fun a ha z => by omega)]
  have f1 := FC.set (h := hc) (k := 1) R.t1 R.le (by omega) (by omega)
  have f5 := FC.set (h := hc) (k := 5) R.t1 R.le (by omega) (by omega)
  have z0 : ∀ v : Int32, (zuI hc 10 0 7 v).1 3 5 0 = nI k := fun v => by rw [zuI_o (by omega)]; exact L.2.1
  have z1 : ∀ v : Int32, (zuI hc 10 0 7 v).1 0 0 0 = nI n := fun v => by rw [zuI_o (by omega)]; exact NC.2.2.1
  have z2 : ∀ v : Int32, (zuI hc 10 0 7 v).1 0 0 4 = nI c := fun v => by rw [zuI_o (by omega)]; exact NC.2.2.2.1
  by_cases act : ∃ a, a ≤ 5 ∧ kK T p = 1 ∧ kI T p = 10 + a
  · obtain ⟨a, ha, kk, ki⟩ := act
    rw [mh (nI a) (fun b hb z => by rw [show a = b by omega]) (fun z => absurd ⟨kk, ki⟩ (z a ha)), e_X12_readsLine_85, zf_neg (nI_pos (by omega)), L.2.2.1]
    have v5 : hc.1 10 0 5 = nI (10 + a) := by rw [(R.tc.2.2.2.2.1 kk).2, if_pos (by omega), ki]
    rw [g_X6_readLine, zf_pos ((R.tc.kind (k := 1) (by omega) 2 rfl).mpr kk), v5, e_X6_readLine_22, zf_neg (show ¬ nI (10 + a) < 10 from nI_nlt (b := 10) (by omega) (by omega)), zf_neg (show ¬ 15 < nI (10 + a) from fun z => by have := (Olt (by omega) (by decide)).mp z; omega), L.2.1]
    by_cases e40 : k = 40
    · subst e40
      rw [zf_neg (show ¬ nI 40 < 40 by decide), zf_pos (show nI 40 = 40 from rfl), cl_co (x := 5) 5 R.tc rfl, zcv_ok, ml_fa (x := 5) 5 R.tm rfl, zci_ok, zf_01]
      exact oL.flt (t66 f5 L.1 (z0 _) NC.1 (z1 _) NC.2.1 (z2 _)) tkS.rf.set.ln (tmG.rf.set (by omega)).lm rfl zuI_at
    · have hk : k < 40 := by omega
      rw [zf_pos (show nI k < 40 from nI_lt (b := 40) hk (by omega)), zf_neg (show ¬ nI k = 40 from fun z => e40 ((eqO (by omega) (by decide)).mp z)), e_X6_readLine_66]
      obtain ⟨c1, m1, a1, a2, a3, a4, a5⟩ := j_step R
      have lk : kE T p ≥ p := Nat.le_of_lt (kE_lt R.le (by omega))
      have m64 : m1.1 64 0 5 = nI k := by rw [a4.1 64 0 5 (by omega)]; exact L.2.2.1
      have e200 : (200 : Int32) + nI k = nI (200 + k) := nI_add 200 k
      have e10 : nI (10 + a) - 10 = nI a := by rw [show (10 : Int32) = nI 10 from rfl, pk_sub (by omega), show 10 + a - 10 = a by omega]
      rw [a1, a2, zcv_ok, zcv_ok, m64, e200, zfx (by omega) (by omega), nI_clamp (by omega), e10, zfc (show nI a = 5 ↔ a = 5 from eqO (by omega) (by decide)), zfc (show nI a = 5 ↔ a = 5 from eqO (by omega) (by decide))]
      have R1 : RD T (kE T p) c1 (zuI m1 65 0 (200 + k) (nI a)) := a5.keep (fun _ _ _ => rfl) (fun _ _ _ => rfl) (fun w hw => by rw [zuI_o (by omega)]) rfl (fun w => by rw [zuI_o (by omega)])
      have L1 : L2 κ k c1 (zuI m1 65 0 (200 + k) (nI a)) := L.keep (fun K i hK => a3.1 K 5 i (by omega)) (by rw [zuI_o (by omega)]; exact a4.1 64 0 5 (by omega)) (fun K i hK hi => by rw [zuI_o (by omega)]; exact a4.1 K 0 i (by omega))
      have F1 : lmS hm (zuI m1 65 0 (200 + k) (nI a)) := a4.G.lm.set (by omega)
      have NC1 := NC.kc a3.ln
      have N1 := N.kc F1
      by_cases e5 : a = 5
      · rw [zf_pos e5, zf_pos e5]
        exact (j_pow R1 L1 hk NC1 N1 hn ha rfl zuI_at (Or.inl ⟨e5, rfl⟩)).from lk a3.ln F1
      · rw [zf_neg e5, zf_neg e5]
        obtain ⟨v, gc, gm, b1, b2⟩ := j_cake (j := 0) (r := 0) R1 (by omega) NC1 N1
        rcases b2 with ⟨i, i1, i2, i3, i4, i5⟩ | ⟨-, i1, F, i2, i3, i4, i5⟩
        · have i5 : f_X12_needsCake [.inr (.inr (12, 0)), .inl 0] (zuI m1 65 0 (200 + k) (nI a)) = some (some (.inl 1), gm) := i5
          subst i3 i4
          have R2 : RD T (kE T p) gc (zuI (zuI (zuI m1 65 0 (200 + k) (nI a)) 12 0 37 (nI i)) 66 0 (200 + k) (nI i)) := R1.keep (fun _ _ _ => rfl) (fun _ _ _ => rfl) (fun w hw => by rw [zuI_o (by omega), zuI_o (by omega)]) rfl (fun w => by rw [zuI_o (by omega), zuI_o (by omega)])
          obtain ⟨gc, gm, c1, c2, c3, c4, c5⟩ := j_step R2
          have lk2 : kE T (kE T p) ≥ kE T p := kE_ge a5.le
          rw [b1, zci_ok, c1, zcv_ok, i5, zci_ok, zf_neg (by decide), zfx (by omega) (by omega), zuI_at, c2, zcv_ok, i2]
          have F2 : lmS hm gm := ((F1.set37).set (by omega)).trans c4.G.lm
          refine (j_pow (κ := κ) (a := a) c5 (L1.keep (fun K i hK => c3.1 K 5 i (by omega)) (by rw [c4.1 64 0 5 (by omega), zuI_o (by omega), zuI_o (by omega)]) (fun K i hK hi => by rw [c4.1 K 0 i (by omega), zuI_o (by omega), zuI_o (by omega)])) hk (NC1.kc c3.ln) (N.kc F2) hn ha rfl ?_ (Or.inr ⟨by omega, i, by omega, rfl, ?_⟩)).from (Nat.le_trans lk lk2) (a3.ln.trans c3.ln) F2
          · rw [c4.1 65 0 _ (by omega), zuI_o (by omega), zuI_o (by omega), zuI_at]
          · rw [c4.1 66 0 _ (by omega), zuI_at]
        · have i1 : f_X12_needsCake [.inr (.inr (12, 0)), .inl 0] (zuI m1 65 0 (200 + k) (nI a)) = some (some (.inl 0), gm) := i1
          rw [b1, zci_ok, fl_step i2.ne, zcv_ok, i1, zci_ok, zf_pos rfl]
          have gl := i4.ln
          exact oL.flt (t101 i2 L.1 (by rw [i4.1 3 5 0 (by omega)]; exact L1.2.1) NC.1 (by rw [i4.1 0 0 0 (by omega)]; exact NC1.2.2.1)) (a3.ln.trans gl) (F1.trans i5.lm) rfl i3
  · have no : ∀ a, a ≤ 5 → ¬ (kK T p = 1 ∧ kI T p = 10 + a) := fun a ha z => act ⟨a, ha, z.1, z.2⟩
    rw [mh zm1 (fun a ha z => absurd z (no a ha)) (fun _ => rfl), e_X12_readsLine_85, zf_pos (by decide), ml_fa (x := 1) 1 R.tm rfl, zci_ok, zf_01]
    have go : ∀ x : Int32, ∃ g, zL p_X6_readLine 66 [some (.inr (.inr (6, 0))), some (.inl x), none, none, none] [] (zuI hc 10 0 7 (nI (1 + 16 * kB T p))) = some (none, g) ∧ FC (1 + 16 * kB T p) g ∧ lnS (zuI hc 10 0 7 (nI (1 + 16 * kB T p))) g := fun x => t66 f1 L.1 (z0 _) NC.1 (z1 _) NC.2.1 (z2 _)
    have cl : ∃ x : Int32, f_X6_readLine [.inr (.inr (6, 0))] hc = zL p_X6_readLine 66 [some (.inr (.inr (6, 0))), some (.inl x), none, none, none] [] (zuI hc 10 0 7 (nI (1 + 16 * kB T p))) := by
      have co := cl_co (x := 1) 1 R.tc rfl
      rw [g_X6_readLine, zfc (R.tc.kind (k := 1) (by omega) 2 rfl)]
      by_cases kk : kK T p = 1
      · rw [zf_pos kk, (R.tc.2.2.2.2.1 kk).2, e_X6_readLine_22, co, zcv_ok]
        by_cases e27 : kI T p < 27
        · rw [if_pos e27]
          by_cases l10 : kI T p < 10
          · rw [zf_pos (show nI (kI T p) < 10 from nI_lt (b := 10) l10 (by omega))]; exact ⟨_, rfl⟩
          · rw [zf_neg (show ¬ nI (kI T p) < 10 from nI_nlt (b := 10) (by omega) (by omega)), zf_pos (show 15 < nI (kI T p) from (Olt (by omega) (by decide)).mpr (by have := no (kI T p - 10); omega))]; exact ⟨_, rfl⟩
        · rw [if_neg e27, zf_pos (by decide)]; exact ⟨_, rfl⟩
      · rw [zf_neg kk, e_X6_readLine_22, zf_pos (by decide), co, zcv_ok]; exact ⟨_, rfl⟩
    obtain ⟨x, ex⟩ := cl
    rw [ex]
    exact oL.flt (go x) tkS.rf.set.ln (tmG.rf.set (by omega)).lm rfl zuI_at
