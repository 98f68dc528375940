/-! The abstract state: a congress, a row; how the class's cells hold them. -/
/-- powers, cakes, sliver; kinds, waters; senders, receivers, how thick, how hard, pebbles; the law -/
abbrev zK : Type := (Nat × Nat × Int32) × ((Nat → Int32) × (Nat → Int32)) × ((Nat → Int32) × (Nat → Int32) × (Nat → Int32) × (Nat → Int32) × (Nat → Int32)) × (Int32 → Int32 → Int32 → Int32 → Int32)
def kP (κ : zK) : Nat := κ.1.1
def kC (κ : zK) : Nat := κ.1.2.1
def kSl (κ : zK) : Int32 := κ.1.2.2
def kKd (κ : zK) : Nat → Int32 := κ.2.1.1
def kWa (κ : zK) : Nat → Int32 := κ.2.1.2
def kSe (κ : zK) : Nat → Int32 := κ.2.2.1.1
def kTo (κ : zK) : Nat → Int32 := κ.2.2.1.2.1
def kTh (κ : zK) : Nat → Int32 := κ.2.2.1.2.2.1
def kHa (κ : zK) : Nat → Int32 := κ.2.2.1.2.2.2.1
def kPe (κ : zK) : Nat → Int32 := κ.2.2.1.2.2.2.2
def kLw (κ : zK) : Int32 → Int32 → Int32 → Int32 → Int32 := κ.2.2.2
/-- the model's row: 0 week, 1 lump, 2 hairs, 3.. thick, 10.. whose, 17.. used -/
abbrev zRo : Type := Nat → Int32
/-- what holds of every congress told -/
def gK (κ : zK) : Prop := kP κ ≤ 5 ∧ kC κ ≤ 7 ∧ ∀ c, c < kC κ → (∃ s, s < kP κ ∧ kSe κ c = nI s) ∧ (∃ w, w < kP κ ∧ kTo κ c = nI w) ∧ (∃ t, t ≤ 40 ∧ kTh κ c = nI t) ∧ (kPe κ c = zm1 ∨ ∃ p, p ≤ 39 ∧ kPe κ c = nI p)
/-- what holds of every row; m bounds how often a cake was washed with -/
def gR (κ : zK) (m : Nat) (r : zRo) : Prop := (∀ c, c < kC κ → (∃ w, w < kP κ ∧ r (10 + c) = nI w) ∧ (∃ t, t ≤ 40 ∧ r (3 + c) = nI t) ∧ (∃ u, u ≤ m ∧ r (17 + c) = nI u)) ∧ ∀ c, kC κ ≤ c → c < 7 → r (3 + c) = 0
/-- the told congress, in the class -/
def cK (κ : zK) (h : zH) : Prop :=
  h.1 0 0 0 = nI (kP κ) ∧ kP κ ≤ 5 ∧ h.1 0 0 4 = nI (kC κ) ∧ kC κ ≤ 7 ∧ h.1 0 0 11 = kSl κ ∧
  (∀ q, q < kP κ → h.1 14 0 q = kKd κ q ∧ h.1 15 0 q = kWa κ q) ∧
  (∀ c, c < kC κ → h.1 17 0 c = kSe κ c ∧ h.1 18 0 c = kTo κ c ∧ h.1 19 0 c = kTh κ c ∧ h.1 20 0 c = kHa κ c ∧ h.1 21 0 c = kPe κ c) ∧
  ∃ n, n ≤ 1000 ∧ h.1 1 0 2 = nI n ∧ ∀ a b c d, lval (lrun (h.1 22 0) a b c d n) = kLw κ a b c d
/-- State j of the class -/
def cS (κ : zK) (h : zH) (j : Nat) (r : zRo) : Prop := h.1 8 j 4 = r 2 ∧ h.1 8 j 5 = r 1 ∧ h.1 8 j 6 = r 0 ∧ ∀ c, c < kC κ → h.1 31 j c = r (10 + c) ∧ h.1 32 j c = r (3 + c) ∧ h.1 33 j c = r (17 + c)
theorem cK.same {κ : zK} {h g : zH} (q : cK κ h) {S : List (Nat × Nat)} (a : ∀ K j k, (K, j) ∉ S → g.1 K j k = h.1 K j k) (hS : ∀ p ∈ S, p.1 ∉ [0, 1, 14, 15, 17, 18, 19, 20, 21, 22]) : cK κ g := by
  have f : ∀ K k, K ∈ [0, 1, 14, 15, 17, 18, 19, 20, 21, 22] → g.1 K 0 k = h.1 K 0 k := fun K k hK => a K 0 k (fun m => hS _ m hK)
  obtain ⟨a1, a2, a3, a4, a5, a6, a7, n, a8, a9, a10⟩ := q
  refine ⟨by rw [f 0 0 (by decide)]; exact a1, a2, by rw [f 0 4 (by decide)]; exact a3, a4, by rw [f 0 11 (by decide)]; exact a5, fun q hq => ?_, fun c hc => ?_, n, a8, by rw [f 1 2 (by decide)]; exact a9, ?_⟩
  · rw [f 14 q (by decide), f 15 q (by decide)]; exact a6 q hq
  · rw [f 17 c (by decide), f 18 c (by decide), f 19 c (by decide), f 20 c (by decide), f 21 c (by decide)]; exact a7 c hc
  · rw [show g.1 22 0 = h.1 22 0 from funext (fun k => f 22 k (by decide))]; exact a10
theorem cS.same {κ : zK} {h g : zH} {j : Nat} {r : zRo} (q : cS κ h j r) {S : List (Nat × Nat)} (a : ∀ K j k, (K, j) ∉ S → g.1 K j k = h.1 K j k) (hS : ∀ p ∈ S, p ∉ [(8, j), (31, j), (32, j), (33, j)]) : cS κ g j r := by
  have f : ∀ K k, (K, j) ∈ [(8, j), (31, j), (32, j), (33, j)] → g.1 K j k = h.1 K j k := fun K k hK => a K j k (fun m => hS _ m hK)
  obtain ⟨a1, a2, a3, a4⟩ := q
  refine ⟨by rw [f 8 4 (by simp)]; exact a1, by rw [f 8 5 (by simp)]; exact a2, by rw [f 8 6 (by simp)]; exact a3, fun c hc => ?_⟩
  rw [f 31 c (by simp), f 32 c (by simp), f 33 c (by simp)]; exact a4 c hc
/-- an int that numbers a cake, a power -/
def isC (κ : zK) (x : Int32) : Prop := ¬ x < 0 ∧ x < nI (kC κ)
def isP (κ : zK) (x : Int32) : Prop := ¬ x < 0 ∧ x < nI (kP κ)
theorem isC.have {κ : zK} {x : Int32} (q : isC κ x) (h7 : kC κ ≤ 7) : ∃ c, c < kC κ ∧ x = nI c := nI_have q.1 q.2 (by omega)
theorem isP.have {κ : zK} {x : Int32} (q : isP κ x) (h5 : kP κ ≤ 5) : ∃ c, c < kP κ ∧ x = nI c := nI_have q.1 q.2 (by omega)
theorem isC_nI {κ : zK} {c : Nat} (h7 : kC κ ≤ 7) (hc : c < kC κ) : isC κ (nI c) := ⟨nI_pos (by omega), nI_lt hc (by omega)⟩
theorem isP_nI {κ : zK} {c : Nat} (h5 : kP κ ≤ 5) (hc : c < kP κ) : isP κ (nI c) := ⟨nI_pos (by omega), nI_lt hc (by omega)⟩
theorem cl_hasCake {κ : zK} {h : zH} (K : cK κ h) (x : Int32) : f_X0_hasCake [.inr (.inr (0, 0)), .inl x] h = some (some (.inl (zb (isC κ x))), h) := by
  obtain ⟨a1, a2, a3, a4, -⟩ := K
  rw [sp_hasCake, a3]
  refine congrArg (fun z => some (some (Sum.inl z), h)) (zb_congr ⟨fun q => ⟨q.1, q.2.1⟩, fun q => ⟨q.1, q.2, ?_⟩⟩)
  obtain ⟨c, hc, rfl⟩ := nI_have q.1 q.2 (by omega)
  exact nI_lt (b := 7) (by omega) (by omega)
theorem cl_hasPower {κ : zK} {h : zH} (K : cK κ h) (x : Int32) : f_X0_hasPower [.inr (.inr (0, 0)), .inl x] h = some (some (.inl (zb (isP κ x))), h) := by
  obtain ⟨a1, a2, a3, a4, -⟩ := K
  rw [sp_hasPower, a1]
  refine congrArg (fun z => some (some (Sum.inl z), h)) (zb_congr ⟨fun q => ⟨q.1, q.2.1⟩, fun q => ⟨q.1, q.2, ?_⟩⟩)
  obtain ⟨c, hc, rfl⟩ := nI_have q.1 q.2 (by omega)
  exact nI_lt (b := 5) (by omega) (by omega)
theorem cl_isThere {κ : zK} {h : zH} {j c : Nat} {r : zRo} (K : cK κ h) (S : cS κ h j r) (hc : c < kC κ) : f_X8_isThere [.inr (.inr (8, j)), .inl (nI c)] h = some (some (.inl (zb (0 < r (3 + c)))), h) := by
  rw [sp_isThere j h K.2.2.1 K.2.2.2.1 hc, (S.2.2.2 c hc).2.1]
theorem cl_hasHair {κ : zK} {h : zH} {j : Nat} {r : zRo} (S : cS κ h j r) (c : Nat) : f_X8_hasHair [.inr (.inr (8, j)), .inl (nI c)] h = some (some (.inl (zb (tb (r 2) c))), h) := by
  rw [sp_hasHair, S.1]; rfl
theorem cl_isFound {κ : zK} {h : zH} {j c : Nat} {r : zRo} (K : cK κ h) (S : cS κ h j r) (hc : c < kC κ) : f_X8_isFound [.inr (.inr (8, j)), .inl (nI c)] h = some (some (.inl (zb (¬ kPe κ c = zm1 ∧ ¬ kPe κ c < r (3 + c)))), h) := by
  rw [sp_isFound j h K.2.2.1 K.2.2.2.1 hc, (S.2.2.2 c hc).2.1, (K.2.2.2.2.2.2.1 c hc).2.2.2.2]
theorem cl_kindOf {κ : zK} {h : zH} {q : Nat} (K : cK κ h) (hq : q < kP κ) : f_X0_kindOf [.inr (.inr (0, 0)), .inl (nI q)] h = some (some (.inl (kKd κ q)), h) := by
  rw [sp_kindOf 0 h K.1 K.2.1 hq, (K.2.2.2.2.2.1 q hq).1]
theorem cl_waterOf {κ : zK} {h : zH} {q : Nat} (K : cK κ h) (hq : q < kP κ) : f_X0_waterOf [.inr (.inr (0, 0)), .inl (nI q)] h = some (some (.inl (kWa κ q)), h) := by
  rw [sp_waterOf 0 h K.1 K.2.1 hq, (K.2.2.2.2.2.1 q hq).2]
theorem cl_canWear {κ : zK} {h : zH} {j c q : Nat} {r : zRo} (K : cK κ h) (S : cS κ h j r) (hq : q < kP κ) : f_X8_canWear [.inr (.inr (8, j)), .inl (nI c), .inl (nI q)] h = some (some (.inl (zb (¬ tb (r 2) c ∧ ¬ kKd κ q = 2))), h) := by
  rw [sp_canWear j (nI c) h K.1 K.2.1 hq, S.1, (K.2.2.2.2.2.1 q hq).1]; rfl
/-- how thick cake c is that q has washed with once more -/
noncomputable def tw (κ : zK) (q c : Nat) (left used : Int32) : Int32 := twash (kKd κ q) (kLw κ left (kHa κ c) (kWa κ q) used) left
theorem cl_thickWashed {κ : zK} {h : zH} {c q : Nat} (left used : Int32) (K : cK κ h) (hc : c < kC κ) (hq : q < kP κ) : ∃ g, f_X0_thickWashed [.inr (.inr (0, 0)), .inl (nI c), .inl (nI q), .inl left, .inl used] h = some (some (.inl (tw κ q c left used)), g) ∧ zsame [(23, 0)] h g := by
  obtain ⟨a1, a2, a3, a4, a5, a6, a7, n, a8, a9, a10⟩ := K
  obtain ⟨g, e1, e2⟩ := sp_thickWashed left used h ⟨a1, a2, a3, a4, a9, a8⟩ hc hq
  refine ⟨g, ?_, e2.same⟩
  rw [e1, (a6 q hq).1, (a6 q hq).2, (a7 c hc).2.2.2.1]
  unfold zLV tw
  rw [a10]
/-- whose a cake is, who sent it -/
def ow (r : zRo) (c : Nat) : Nat := (r (10 + c)).toNatClampNeg
def se (κ : zK) (c : Nat) : Nat := (kSe κ c).toNatClampNeg
theorem gR.own {κ : zK} {m c : Nat} {r : zRo} (G : gR κ m r) (h5 : kP κ ≤ 5) (hc : c < kC κ) : ow r c < kP κ ∧ r (10 + c) = nI (ow r c) := by
  obtain ⟨w, h1, h2⟩ := (G.1 c hc).1
  unfold ow
  rw [h2, nI_clamp (by omega)]; exact ⟨h1, rfl⟩
theorem gK.sen {κ : zK} {c : Nat} (G : gK κ) (hc : c < kC κ) : se κ c < kP κ ∧ kSe κ c = nI (se κ c) := by
  obtain ⟨w, h1, h2⟩ := (G.2.2 c hc).1
  have := G.1
  unfold se
  rw [h2, nI_clamp (by omega)]; exact ⟨h1, rfl⟩
/-- a wash -/
noncomputable def washR (κ : zK) (r : zRo) (c : Nat) : zRo := fun k => if k = 3 + c then tw κ (ow r c) c (r (3 + c)) (r (17 + c)) else if k = 17 + c then r (17 + c) + 1 else r k
/-- one washes with it in a week, D being dry too -/
def canW (κ : zK) (D : Nat → Prop) (r : zRo) (c : Nat) : Prop := 0 < r (3 + c) ∧ ¬ tb (r 2) c ∧ ¬ (kKd κ (ow r c) = 2 ∨ D (ow r c))
/-- a week -/
noncomputable def weekR (κ : zK) (D : Nat → Prop) (r : zRo) : zRo := fun k =>
  if k = 0 then r 0 + 1
  else if 3 ≤ k ∧ k < 3 + kC κ then zi (canW κ D r (k - 3)) (tw κ (ow r (k - 3)) (k - 3) (r k) (r (17 + (k - 3)))) (r k)
  else if 17 ≤ k ∧ k < 17 + kC κ then zi (canW κ D r (k - 17)) (r k + 1) (r k)
  else r k
theorem cl_washOnce {κ : zK} {h : zH} {j c m : Nat} {r : zRo} (K : cK κ h) (S : cS κ h j r) (G : gR κ m r) (hc : c < kC κ) : ∃ g, f_X8_washOnce [.inr (.inr (8, j)), .inl (nI c)] h = some (none, g) ∧ zsame [(23, 0), (32, j), (33, j)] h g ∧ cS κ g j (washR κ r c) := by
  have K' := K
  obtain ⟨a1, a2, a3, a4, a5, a6, a7, n, a8, a9, a10⟩ := K'
  have O : zOW h j (kP κ) (kC κ) (fun c => ow r c) := fun c hc => ⟨(G.own a2 hc).1, by rw [(S.2.2.2 c hc).1]; exact (G.own a2 hc).2⟩
  obtain ⟨g, e1, e2, e3, e4⟩ := sp_washOnce h ⟨a1, a2, a3, a4, a9, a8⟩ O hc
  refine ⟨g, e1, e2, ?_⟩
  obtain ⟨s1, s2, s3, s4⟩ := S
  refine ⟨by rw [e2.1 8 j 4 (by simp), s1]; unfold washR; rw [if_neg (by omega), if_neg (by omega)], by rw [e2.1 8 j 5 (by simp), s2]; unfold washR; rw [if_neg (by omega), if_neg (by omega)], by rw [e2.1 8 j 6 (by simp), s3]; unfold washR; rw [if_neg (by omega), if_neg (by omega)], fun k hk => ⟨?_, ?_, ?_⟩⟩
  · rw [e2.1 31 j k (by simp), (s4 k hk).1]; unfold washR; rw [if_neg (by omega), if_neg (by omega)]
  · rw [e3 k]; unfold washR
    by_cases e : k = c
    · subst e
      rw [if_pos rfl, if_pos rfl]; unfold zTW zLV tw
      obtain ⟨o1, o2⟩ := G.own a2 hk
      rw [a10, (a6 _ o1).1, (a6 _ o1).2, (a7 k hk).2.2.2.1, (s4 k hk).2.1, (s4 k hk).2.2]
    · rw [if_neg e, if_neg (by omega), if_neg (by omega)]; exact (s4 k hk).2.1
  · rw [e4 k]; unfold washR
    by_cases e : k = c
    · subst e
      rw [if_pos rfl, if_neg (by omega), if_pos rfl, (s4 k hk).2.2]
    · rw [if_neg e, if_neg (by omega), if_neg (by omega)]; exact (s4 k hk).2.2
theorem cl_week {κ : zK} {h : zH} {j m : Nat} {r : zRo} (K : cK κ h) (S : cS κ h j r) (G : gR κ m r) : ∃ g, f_X8_passOneWeek [.inr (.inr (8, j))] h = some (none, g) ∧ zsame [(23, 0), (32, j), (33, j), (8, j)] h g ∧ cS κ g j (weekR κ (fun _ => False) r) := by
  have K' := K
  obtain ⟨a1, a2, a3, a4, a5, a6, a7, n, a8, a9, a10⟩ := K'
  have O : zOW h j (kP κ) (kC κ) (fun c => ow r c) := fun c hc => ⟨(G.own a2 hc).1, by rw [(S.2.2.2 c hc).1]; exact (G.own a2 hc).2⟩
  obtain ⟨g, e1, e2, e3, e4, e5⟩ := sp_passOneWeek h ⟨a1, a2, a3, a4, a9, a8⟩ O
  refine ⟨g, e1, e2, ?_⟩
  obtain ⟨s1, s2, s3, s4⟩ := S
  have cw : ∀ k, k < kC κ → (zCW h j (fun c => ow r c) k ↔ canW κ (fun _ => False) r k) := fun k hk => by
    unfold zCW canW
    rw [(s4 k hk).2.1, s1, (a6 _ (G.own a2 hk).1).1]
    exact ⟨fun q => ⟨q.1, q.2.1, fun z => z.elim q.2.2 id⟩, fun q => ⟨q.1, q.2.1, fun z => q.2.2 (Or.inl z)⟩⟩
  refine ⟨by rw [e5 4, if_neg (by omega), s1]; unfold weekR; rw [if_neg (by omega), if_neg (by omega), if_neg (by omega)], by rw [e5 5, if_neg (by omega), s2]; unfold weekR; rw [if_neg (by omega), if_neg (by omega), if_neg (by omega)], by rw [e5 6, if_pos rfl, s3]; unfold weekR; rw [if_pos rfl], fun k hk => ⟨?_, ?_, ?_⟩⟩
  · rw [e2.1 31 j k (by simp), (s4 k hk).1]; unfold weekR; rw [if_neg (by omega), if_neg (by omega), if_neg (by omega)]
  · rw [e3 k, if_pos hk]; unfold weekR zwT
    rw [if_neg (by omega), if_pos (by omega), show 3 + k - 3 = k by omega]
    by_cases e : canW κ (fun _ => False) r k
    · rw [zi_pos e, zi_pos ((cw k hk).mpr e)]; unfold zTW zLV tw
      obtain ⟨o1, o2⟩ := G.own a2 hk
      rw [a10, (a6 _ o1).1, (a6 _ o1).2, (a7 k hk).2.2.2.1, (s4 k hk).2.1, (s4 k hk).2.2]
    · rw [zi_neg e, zi_neg (fun z => e ((cw k hk).mp z))]; exact (s4 k hk).2.1
  · rw [e4 k, if_pos hk]; unfold weekR zwU
    rw [if_neg (by omega), if_neg (by omega), if_pos (by omega), show 17 + k - 17 = k by omega]
    by_cases e : canW κ (fun _ => False) r k
    · rw [zi_pos e, zi_pos ((cw k hk).mpr e), (s4 k hk).2.2]
    · rw [zi_neg e, zi_neg (fun z => e ((cw k hk).mp z))]; exact (s4 k hk).2.2
