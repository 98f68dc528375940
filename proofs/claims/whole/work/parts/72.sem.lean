/-! What steps and codes come to: each kind of expression. -/
/-- the class's steps, on any stack of at most B -/
def sC (B : Nat) (S : List Int32) (v : zV4) : Prop := ∀ a b c e (k : List Int32), k.length ≤ B → S.foldl (fun k s => lst a b c e s k) k = v a b c e :: k
noncomputable def jn (s : Int32) (v w : zV4) : zV4 := fun a b c e => ljoin s (v a b c e) (w a b c e)
noncomputable def nt (v : zV4) : zV4 := fun a b c e => zi (v a b c e = 0) 1 0
theorem sC.le {B B' : Nat} {S : List Int32} {v : zV4} (q : sC B S v) (h : B' ≤ B) : sC B' S v := fun a b c e k hk => q a b c e k (by omega)
theorem sC.join {B : Nat} {S S2 : List Int32} {v w : zV4} {s : Int32} (q : sC B S v) (q2 : sC (B + 1) S2 w) (h1 : s < zm4) (h2 : ¬ s = zm5) : sC B (S ++ S2 ++ [s]) (jn s v w) := fun a b c e k hk => by
  rw [List.foldl_append, List.foldl_append, q a b c e k hk, q2 a b c e _ (by simp; omega)]
  show lst a b c e s (w a b c e :: v a b c e :: k) = _
  unfold lst
  rw [zite_pos h1, zite_neg h2]; rfl
theorem sC.not {B : Nat} {S : List Int32} {v : zV4} (q : sC B S v) : sC B (S ++ [zm5]) (nt v) := fun a b c e k hk => by
  rw [List.foldl_append, q a b c e k hk]
  show lst a b c e zm5 (v a b c e :: k) = _
  unfold lst
  rw [zite_pos (show zm5 < zm4 by decide), zite_pos rfl]; rfl
theorem sC.leaf {B : Nat} {s : Int32} (hB : B < 24) (h1 : ¬ s < zm4) : sC B [s] (fun a b c e => lopd s a b c e) := fun a b c e k hk => by
  show lst a b c e s k = _
  unfold lst
  rw [zite_neg h1, if_pos (by omega)]
/-- no not at this depth -/
def nn (d : Nat) (g : zH) : Prop := d = 0 ∨ ¬ g.1 62 0 d = 1
/-- a part's codes, a product's, a sum's, a test's, an expression's -/
def sPt (d : Nat) (C : List Int32) (v : zV4) : Prop := C ≠ [] ∧ ∀ g i, cds g i C → ∃ g', wk d i g = wv d (i + C.length - 1) (evm v g) g' ∧ rgS (d + 1) g g'
def sPr (d : Nat) (C : List Int32) (v : zV4) : Prop := C ≠ [] ∧ ∀ g i, cds g i C → nn d g → g.1 61 0 d = 0 → ∃ g', wk d i g = wk d (i + C.length) g' ∧ rgS d g g' ∧ g'.1 60 0 d = evm v g ∧ ∀ K, K ≠ 60 → K ≠ 61 → g'.1 K 0 d = g.1 K 0 d
def sSm (d : Nat) (C : List Int32) (v : zV4) : Prop := C ≠ [] ∧ ∀ g i, cds g i C → nn d g → g.1 61 0 d = 0 → g.1 58 0 d = 0 → g.1 59 0 d = 20 → ∃ g', wk d i g = wk d (i + C.length) g' ∧ rgS d g g' ∧ smv d g' = evm v g ∧ ∀ K, K ≠ 58 → K ≠ 59 → K ≠ 60 → K ≠ 61 → g'.1 K 0 d = g.1 K 0 d
def sTs (d : Nat) (C : List Int32) (v : zV4) : Prop := C ≠ [] ∧ ∀ g i, cds g i C → nn d g → g.1 61 0 d = 0 → g.1 58 0 d = 0 → g.1 59 0 d = 20 → g.1 57 0 d = 0 → ∃ g', wk d i g = wk d (i + C.length) g' ∧ rgS d g g' ∧ mtest1 (g'.1 57 0 d) (g'.1 56 0 d) (smv d g') = evm v g ∧ ∀ K, K = 54 ∨ K = 55 ∨ K = 62 → g'.1 K 0 d = g.1 K 0 d
def sEx (d : Nat) (C : List Int32) (v : zV4) : Prop := C ≠ [] ∧ ∀ g i, cds g i C → nn d g → g.1 61 0 d = 0 → g.1 58 0 d = 0 → g.1 59 0 d = 20 → g.1 57 0 d = 0 → g.1 55 0 d = 0 → ∃ g', wk d i g = wk d (i + C.length) g' ∧ rgS d g g' ∧ tsv d g' = evm v g ∧ g'.1 62 0 d = g.1 62 0 d
theorem sPt.pr {d : Nat} {C : List Int32} {v : zV4} (hd : d < 7) (q : sPt d C v) : sPr d C v := by
  refine ⟨q.1, fun g i hc hn h61 => ?_⟩
  obtain ⟨g', e1, e2⟩ := q.2 g i hc
  have f : ∀ K j k, ¬ (54 ≤ K ∧ K ≤ 62 ∧ d + 1 ≤ k) → g'.1 K j k = g.1 K j k := fun K j k n => e2.1 K j k (by omega)
  have l : 0 < C.length := List.length_pos_iff.mpr q.1
  refine ⟨zuI g' 60 0 d (evm v g), ?_, (e2.lo (by omega)).set (by omega) (by omega) (by omega), zuI_at, fun K h1 h2 => by rw [zuI_o (by omega)]; exact f K 0 d (by omega)⟩
  rw [e1, wv_term hd (hn.imp id (fun z => by rw [f 62 0 d (by omega)]; exact z)), zi_pos (by rw [f 61 0 d (by omega)]; exact h61), show i + C.length - 1 + 1 = i + C.length by omega]
theorem ev_jn {s : Int32} {v w : zV4} {g : zH} : evm (jn s v w) g = ljoin s (evm v g) (evm w g) := rfl
theorem jn12 {x y : Int32} : ljoin zm12 x y = x * y := by
  unfold ljoin
  rw [zi_neg (by decide), zi_neg (by decide), zi_neg (by decide), zi_neg (by decide), zi_neg (by decide), zi_neg (by decide)]
theorem jn11 {x y : Int32} : ljoin zm11 x y = x - y := by unfold ljoin; rw [zi_pos rfl]
theorem jn10 {x y : Int32} : ljoin zm10 x y = x + y := by unfold ljoin; rw [zi_neg (by decide), zi_pos rfl]
theorem jn9 {x y : Int32} : ljoin zm9 x y = zi (x = y) 1 0 := by unfold ljoin; rw [zi_neg (by decide), zi_neg (by decide), zi_pos rfl]
theorem jn8 {x y : Int32} : ljoin zm8 x y = zi (x < y) 1 0 := by unfold ljoin; rw [zi_neg (by decide), zi_neg (by decide), zi_neg (by decide), zi_pos rfl]
theorem jn7 {x y : Int32} : ljoin zm7 x y = zi (x = 0) (zi (y = 0) 0 1) 1 := by unfold ljoin; rw [zi_neg (by decide), zi_neg (by decide), zi_neg (by decide), zi_neg (by decide), zi_pos rfl]
theorem jn6 {x y : Int32} : ljoin zm6 x y = zi (x = 0) 0 (zi (y = 0) 0 1) := by unfold ljoin; rw [zi_neg (by decide), zi_neg (by decide), zi_neg (by decide), zi_neg (by decide), zi_neg (by decide), zi_pos rfl]
theorem sPr.mul {d : Nat} {C C2 : List Int32} {v w : zV4} (hd : d < 7) (q : sPr d C v) (q2 : sPt d C2 w) : sPr d (C ++ 22 :: C2) (jn zm12 v w) := by
  refine ⟨by simp, fun g i hc hn h61 => ?_⟩
  obtain ⟨g1, a1, a2, a3, a4⟩ := q.2 g i hc.left hn h61
  have c1 := (hc.to a2).right
  obtain ⟨e, e1, e2, e3, e4⟩ := c1.head
  have r2 : rgS d g1 (zuI g1 61 0 d 22) := rgS.rf.set (by omega) (by omega) (by omega)
  obtain ⟨g3, b1, b2⟩ := q2.2 (zuI g1 61 0 d 22) _ (c1.tail.to r2)
  have f : ∀ K j k, ¬ (54 ≤ K ∧ K ≤ 62 ∧ d + 1 ≤ k) → g3.1 K j k = (zuI g1 61 0 d 22).1 K j k := fun K j k n => b2.1 K j k (by omega)
  have l : 0 < C2.length := List.length_pos_iff.mpr q2.1
  have n3 : nn d g3 := hn.imp id (fun z => by rw [f 62 0 d (by omega), zuI_o (by omega), a4 62 (by omega) (by omega)]; exact z)
  refine ⟨zuI g3 60 0 d (evm (jn zm12 v w) g), ?_, ((a2.trans r2).trans (b2.lo (by omega))).set (by omega) (by omega) (by omega), zuI_at, fun K h1 h2 => by rw [zuI_o (by omega), f K 0 d (by omega), zuI_o (by omega)]; exact a4 K h1 h2⟩
  rw [a1, w_22 hd e1 e2 e3 e4, b1, wv_term hd n3, f 61 0 d (by omega), zuI_at, zi_neg (by decide), f 60 0 d (by omega), zuI_o (by omega), a3, r2.ev, a2.ev, ev_jn, jn12, List.length_append, List.length_cons, show i + C.length + 1 + C2.length - 1 + 1 = i + (C.length + (C2.length + 1)) by omega]
theorem sPr.sm {d : Nat} {C : List Int32} {v : zV4} (q : sPr d C v) : sSm d C v := by
  refine ⟨q.1, fun g i hc hn h61 h58 h59 => ?_⟩
  obtain ⟨g1, a1, a2, a3, a4⟩ := q.2 g i hc hn h61
  refine ⟨g1, a1, a2, ?_, fun K h1 h2 h3 h4 => a4 K h3 h4⟩
  unfold smv msum
  rw [a4 59 (by omega) (by omega), h59, zi_neg (by decide), a4 58 (by omega) (by omega), h58, a3, Int32.zero_add]
theorem sSm.add {d : Nat} {C C2 : List Int32} {v w : zV4} {x s : Int32} (hd : d < 7) (hx : (x = 20 ∧ s = zm10) ∨ (x = 21 ∧ s = zm11)) (q : sSm d C v) (q2 : sPr d C2 w) : sSm d (C ++ x :: C2) (jn s v w) := by
  refine ⟨by simp, fun g i hc hn h61 h58 h59 => ?_⟩
  obtain ⟨g1, a1, a2, a3, a4⟩ := q.2 g i hc.left hn h61 h58 h59
  have c1 := (hc.to a2).right
  obtain ⟨e, e1, e2, e3, e4⟩ := c1.head
  have r2 : rgS d g1 (zuI (smI d g1 (smv d g1)) 59 0 d x) := ((rgS.rf.set (by omega) (by omega) (by omega)).set (by omega) (by omega) (by omega)).set (by omega) (by omega) (by omega)
  have p : ∀ K, K ≠ 58 → K ≠ 61 → K ≠ 59 → (zuI (smI d g1 (smv d g1)) 59 0 d x).1 K 0 d = g1.1 K 0 d := fun K h1 h2 h3 => by
    unfold smI; rw [zuI_o (by omega), zuI_o (by omega), zuI_o (by omega)]
  obtain ⟨g3, b1, b2, b3, b4⟩ := q2.2 (zuI (smI d g1 (smv d g1)) 59 0 d x) _ (c1.tail.to r2) (hn.imp id (fun z => by rw [p 62 (by omega) (by omega) (by omega), a4 62 (by omega) (by omega) (by omega) (by omega)]; exact z)) (by unfold smI; rw [zuI_o (by omega), zuI_at])
  refine ⟨g3, ?_, (a2.trans r2).trans b2, ?_, fun K h1 h2 h3 h4 => by rw [b4 K h3 h4, p K h1 h4 h2]; exact a4 K h1 h2 h3 h4⟩
  · rw [a1, w_20 (hx.imp And.left And.left) hd e1 e2 e3 e4, b1, List.length_append, List.length_cons, show i + C.length + 1 + C2.length = i + (C.length + (C2.length + 1)) by omega]
  · have s58 : g3.1 58 0 d = evm v g := by rw [b4 58 (by omega) (by omega)]; unfold smI; rw [zuI_o (by omega), zuI_o (by omega), zuI_at, a3]
    have s59 : g3.1 59 0 d = x := by rw [b4 59 (by omega) (by omega), zuI_at]
    unfold smv msum
    rw [s58, s59, b3, r2.ev, a2.ev, ev_jn]
    rcases hx with ⟨rfl, rfl⟩ | ⟨rfl, rfl⟩
    · rw [zi_neg (by decide), jn10]
    · rw [zi_pos rfl, jn11]
theorem sSm.ts {d : Nat} {C : List Int32} {v : zV4} (q : sSm d C v) : sTs d C v := by
  refine ⟨q.1, fun g i hc hn h61 h58 h59 h57 => ?_⟩
  obtain ⟨g1, a1, a2, a3, a4⟩ := q.2 g i hc hn h61 h58 h59
  refine ⟨g1, a1, a2, ?_, fun K hK => a4 K (by omega) (by omega) (by omega) (by omega)⟩
  unfold mtest1
  rw [a4 57 (by omega) (by omega) (by omega) (by omega), h57, zi_neg (by decide), zi_neg (by decide), a3]
theorem sSm.cmp {d : Nat} {C C2 : List Int32} {v w : zV4} {x s : Int32} (hd : d < 7) (hx : (x = 24 ∧ s = zm8) ∨ (x = 25 ∧ s = zm9)) (q : sSm d C v) (q2 : sSm d C2 w) : sTs d (C ++ x :: C2) (jn s v w) := by
  refine ⟨by simp, fun g i hc hn h61 h58 h59 h57 => ?_⟩
  obtain ⟨g1, a1, a2, a3, a4⟩ := q.2 g i hc.left hn h61 h58 h59
  have c1 := (hc.to a2).right
  obtain ⟨e, e1, e2, e3, e4⟩ := c1.head
  generalize hg2 : zuI (zuI (zuI (zuI (smI d g1 (smv d g1)) 56 0 d (smv d g1)) 57 0 d x) 58 0 d 0) 59 0 d 20 = g2
  have r2 : rgS d g1 g2 := by
    rw [← hg2]; exact (((((rgS.rf.set (by omega) (by omega) (by omega)).set (by omega) (by omega) (by omega)).set (by omega) (by omega) (by omega)).set (by omega) (by omega) (by omega)).set (by omega) (by omega) (by omega)).set (by omega) (by omega) (by omega)
  have p : ∀ K, K = 54 ∨ K = 55 ∨ K = 62 → g2.1 K 0 d = g1.1 K 0 d := fun K h1 => by
    rw [← hg2]; unfold smI; rw [zuI_o (by omega), zuI_o (by omega), zuI_o (by omega), zuI_o (by omega), zuI_o (by omega), zuI_o (by omega)]
  have p56 : g2.1 56 0 d = evm v g := by rw [← hg2, zuI_o (by omega), zuI_o (by omega), zuI_o (by omega), zuI_at, a3]
  have p57 : g2.1 57 0 d = x := by rw [← hg2, zuI_o (by omega), zuI_o (by omega), zuI_at]
  obtain ⟨g3, b1, b2, b3, b4⟩ := q2.2 g2 _ (c1.tail.to r2) (hn.imp id (fun z => by rw [p 62 (by omega), a4 62 (by omega) (by omega) (by omega) (by omega)]; exact z)) (by rw [← hg2]; unfold smI; rw [zuI_o (by omega), zuI_o (by omega), zuI_o (by omega), zuI_o (by omega), zuI_at]) (by rw [← hg2, zuI_o (by omega), zuI_at]) (by rw [← hg2, zuI_at])
  refine ⟨g3, ?_, (a2.trans r2).trans b2, ?_, fun K hK => by rw [b4 K (by omega) (by omega) (by omega) (by omega), p K hK]; exact a4 K (by omega) (by omega) (by omega) (by omega)⟩
  · rw [a1, w_24 (hx.imp And.left And.left) hd e1 e2 e3 e4, hg2, b1, List.length_append, List.length_cons, show i + C.length + 1 + C2.length = i + (C.length + (C2.length + 1)) by omega]
  · unfold mtest1
    rw [b4 57 (by omega) (by omega) (by omega) (by omega), p57, b4 56 (by omega) (by omega) (by omega) (by omega), p56, b3, r2.ev, a2.ev, ev_jn]
    rcases hx with ⟨rfl, rfl⟩ | ⟨rfl, rfl⟩
    · rw [zi_neg (by decide), zi_pos rfl, jn8]
    · rw [zi_pos rfl, jn9]
theorem sTs.ex {d : Nat} {C : List Int32} {v : zV4} (q : sTs d C v) : sEx d C v := by
  refine ⟨q.1, fun g i hc hn h61 h58 h59 h57 h55 => ?_⟩
  obtain ⟨g1, a1, a2, a3, a4⟩ := q.2 g i hc hn h61 h58 h59 h57
  refine ⟨g1, a1, a2, ?_, a4 62 (by omega)⟩
  unfold tsv mtest mtest2 mtest3
  rw [a4 55 (by omega), h55, zi_neg (by decide), zi_neg (by decide), a3]
theorem sEx.and {d : Nat} {C C2 : List Int32} {v w : zV4} {x s : Int32} (hd : d < 7) (hx : (x = 26 ∧ s = zm6) ∨ (x = 27 ∧ s = zm7)) (q : sEx d C v) (q2 : sTs d C2 w) : sEx d (C ++ x :: C2) (jn s v w) := by
  refine ⟨by simp, fun g i hc hn h61 h58 h59 h57 h55 => ?_⟩
  obtain ⟨g1, a1, a2, a3, a4⟩ := q.2 g i hc.left hn h61 h58 h59 h57 h55
  have c1 := (hc.to a2).right
  obtain ⟨e, e1, e2, e3, e4⟩ := c1.head
  generalize hg2 : zuI (tsI d g1 (smv d g1) (tsv d g1)) 55 0 d x = g2
  have r2 : rgS d g1 g2 := by
    rw [← hg2]; exact ((((((rgS.rf.set (by omega) (by omega) (by omega)).set (by omega) (by omega) (by omega)).set (by omega) (by omega) (by omega)).set (by omega) (by omega) (by omega)).set (by omega) (by omega) (by omega)).set (by omega) (by omega) (by omega)).set (by omega) (by omega) (by omega)
  have p62 : g2.1 62 0 d = g1.1 62 0 d := by
    rw [← hg2]; unfold tsI smI; rw [zuI_o (by omega), zuI_o (by omega), zuI_o (by omega), zuI_o (by omega), zuI_o (by omega), zuI_o (by omega), zuI_o (by omega)]
  have p54 : g2.1 54 0 d = evm v g := by rw [← hg2]; unfold tsI; rw [zuI_o (by omega), zuI_o (by omega), zuI_o (by omega), zuI_o (by omega), zuI_at, a3]
  have p55 : g2.1 55 0 d = x := by rw [← hg2, zuI_at]
  obtain ⟨g3, b1, b2, b3, b4⟩ := q2.2 g2 _ (c1.tail.to r2) (hn.imp id (fun z => by rw [p62, a4]; exact z)) (by rw [← hg2]; unfold tsI smI; rw [zuI_o (by omega), zuI_o (by omega), zuI_o (by omega), zuI_o (by omega), zuI_o (by omega), zuI_at]) (by rw [← hg2]; unfold tsI; rw [zuI_o (by omega), zuI_o (by omega), zuI_at]) (by rw [← hg2]; unfold tsI; rw [zuI_o (by omega), zuI_at]) (by rw [← hg2]; unfold tsI; rw [zuI_o (by omega), zuI_o (by omega), zuI_o (by omega), zuI_at])
  refine ⟨g3, ?_, (a2.trans r2).trans b2, ?_, by rw [b4 62 (by omega), p62, a4]⟩
  · rw [a1, w_26 (hx.imp And.left And.left) hd e1 e2 e3 e4, hg2, b1, List.length_append, List.length_cons, show i + C.length + 1 + C2.length = i + (C.length + (C2.length + 1)) by omega]
  · unfold tsv mtest mtest2 mtest3
    rw [b3, b4 55 (by omega), p55, b4 54 (by omega), p54, r2.ev, a2.ev, ev_jn]
    rcases hx with ⟨rfl, rfl⟩ | ⟨rfl, rfl⟩
    · rw [zi_neg (show ¬ (26 : Int32) = 27 by decide), zi_pos rfl, jn6]
    · rw [zi_pos rfl, zi_neg (show ¬ (27 : Int32) = 26 by decide), jn7]
/-- a part in brackets, a part denied, a leaf -/
theorem sEx.pt {d : Nat} {C : List Int32} {v : zV4} (hd : d + 1 < 7) (q : sEx (d + 1) C v) : sPt d (28 :: C ++ [29]) v := ⟨by simp, fun g i hc => by
  have hc' : cds g i (28 :: (C ++ [29])) := hc
  obtain ⟨e, e1, e2, e3, e4⟩ := hc'.head
  have r1 : rgS (d + 1) g (opI (d + 1) g 0) := (((((rgS.rf.set (by omega) (by omega) (by omega)).set (by omega) (by omega) (by omega)).set (by omega) (by omega) (by omega)).set (by omega) (by omega) (by omega)).set (by omega) (by omega) (by omega)).set (by omega) (by omega) (by omega)
  have c1 := hc'.tail.to r1
  obtain ⟨g2, a1, a2, a3, a4⟩ := q.2 (opI (d + 1) g 0) (i + 1) c1.left (Or.inr (by unfold opI; rw [zuI_o (by omega), zuI_o (by omega), zuI_o (by omega), zuI_o (by omega), zuI_o (by omega), zuI_at]; decide)) (by unfold opI; rw [zuI_at]) (by unfold opI; rw [zuI_o (by omega), zuI_o (by omega), zuI_at]) (by unfold opI; rw [zuI_o (by omega), zuI_at]) (by unfold opI; rw [zuI_o (by omega), zuI_o (by omega), zuI_o (by omega), zuI_at]) (by unfold opI; rw [zuI_o (by omega), zuI_o (by omega), zuI_o (by omega), zuI_o (by omega), zuI_at])
  have c2 := (c1.to a2).right
  obtain ⟨e', f1, f2, f3, f4⟩ := c2.head
  refine ⟨tsI (d + 1) g2 (smv (d + 1) g2) (tsv (d + 1) g2), ?_, (r1.trans a2).trans ((((((rgS.rf.set (by omega) (by omega) (by omega)).set (by omega) (by omega) (by omega)).set (by omega) (by omega) (by omega)).set (by omega) (by omega) (by omega)).set (by omega) (by omega) (by omega)).set (by omega) (by omega) (by omega))⟩
  rw [w_28 hd e1 e2 e3 e4, a1, w_29 hd f1 f2 f3 f4, a3, r1.ev]
  have : i + 1 + C.length = i + (28 :: C ++ [29]).length - 1 := by simp only [List.length_append, List.length_cons, List.length_nil]; omega
  rw [this]⟩
theorem sPt.not {d : Nat} {C : List Int32} {v : zV4} (hd : d + 1 < 7) (q : sPt (d + 1) C v) : sPt d (30 :: C) (nt v) := ⟨by simp, fun g i hc => by
  obtain ⟨e, e1, e2, e3, e4⟩ := hc.head
  have r1 : rgS (d + 1) g (opI (d + 1) g 1) := (((((rgS.rf.set (by omega) (by omega) (by omega)).set (by omega) (by omega) (by omega)).set (by omega) (by omega) (by omega)).set (by omega) (by omega) (by omega)).set (by omega) (by omega) (by omega)).set (by omega) (by omega) (by omega)
  obtain ⟨g2, a1, a2⟩ := q.2 (opI (d + 1) g 1) (i + 1) (hc.tail.to r1)
  have f : ∀ K j k, ¬ (54 ≤ K ∧ K ≤ 62 ∧ d + 1 + 1 ≤ k) → g2.1 K j k = (opI (d + 1) g 1).1 K j k := fun K j k n => a2.1 K j k (by omega)
  have l : 0 < C.length := List.length_pos_iff.mpr q.1
  refine ⟨g2, ?_, r1.trans (a2.lo (by omega))⟩
  rw [w_30 hd e1 e2 e3 e4, a1, wv_not hd (by rw [f 62 0 _ (by omega)]; unfold opI; rw [zuI_o (by omega), zuI_o (by omega), zuI_o (by omega), zuI_o (by omega), zuI_o (by omega), zuI_at]), r1.ev, List.length_cons, show i + 1 + C.length - 1 = i + (C.length + 1) - 1 by omega]
  rfl⟩
theorem sPt.num {d f : Nat} (hf : f < 2000000) : sPt d [nI (100 + f)] (fun _ _ _ _ => nI f) := ⟨by simp, fun g i hc => by
  obtain ⟨e, e1, e2, e3, e4⟩ := hc.head
  exact ⟨g, w_num hf e1 e2 e3 e4, rgS.rf⟩⟩
def fct (f : Nat) : zV4 := fun a b c e => if f = 1 then a else if f = 2 then b else if f = 3 then c else e
theorem sPt.fact {d f : Nat} (h1 : 1 ≤ f) (h2 : f ≤ 4) : sPt d [nI f] (fct f) := ⟨by simp, fun g i hc => by
  obtain ⟨e, e1, e2, e3, e4⟩ := hc.head
  refine ⟨g, ?_, rgS.rf⟩
  rw [w_fact (by omega) e1 e2 e3 e4]
  have : g.1 63 0 f = evm (fct f) g := by
    have : f = 1 ∨ f = 2 ∨ f = 3 ∨ f = 4 := by omega
    rcases this with rfl | rfl | rfl | rfl <;> rfl
  rw [this]; rfl⟩
