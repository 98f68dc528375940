/-! The model's readings. -/
theorem mK.sen {κ : zK} {h : zH} {c : Nat} (M : mK κ h) (G : gK κ) (hc : c < kC κ) : h.1 44 0 c = nI (se κ c) := by
  rw [(M.2.2.2.2.1 c hc).1]; exact (G.sen hc).2
theorem ml_areAtWar {κ : zK} {h : zH} {m a b : Nat} (M : mK κ h) (G : gK κ) (R : gR κ m (h.1 72 0)) (ha : a < kP κ) (hb : b < kP κ) : f_X12_areAtWar [.inr (.inr (12, 0)), .inl (nI a), .inl (nI b)] h = some (some (.inl (zb (war κ (h.1 72 0) a b))), h) := by
  have h5 := G.1
  have h7 := G.2.1
  rw [g_X12_areAtWar, ← nI_0]
  refine (zloopX (fun i => zL p_X12_areAtWar 2 [some (.inr (.inr (12, 0))), some (.inl (nI a)), some (.inl (nI b)), some (.inl (nI i))] [] h) (fun c => 0 < h.1 72 0 (3 + c) ∧ tb (h.1 72 0 2) c ∧ ((se κ c = a ∧ ow (h.1 72 0) c = b) ∨ (se κ c = b ∧ ow (h.1 72 0) c = a))) (some (some (.inl 1), h)) (some (some (.inl 0), h)) (kC κ) (fun i hi => ?_) ?_).trans ?_
  · obtain ⟨o1, o2⟩ := R.own h5 hi
    have s1 := (G.sen hi).1
    rw [e_X12_areAtWar_2, M.2.1, zf_pos (nI_lt hi (by omega)), sm_isThere (by omega), zci_ok, zf_b0, sm_hasHair, tb_f, zci_ok, zf_b0, e_X12_areAtWar_51, z10]
    simp only [zfx (show i < 14 by omega) (show 14 < 2 ^ 31 by omega), zfx (show 10 + i < 24 by omega) (show 24 < 2 ^ 31 by omega), nI_clamp (show i < 2 ^ 31 by omega), nI_clamp (show 10 + i < 2 ^ 31 by omega), M.sen G hi, o2, nI_1, nI_eq (show se κ i < 2 ^ 31 by omega) (show a < 2 ^ 31 by omega), nI_eq (show se κ i < 2 ^ 31 by omega) (show b < 2 ^ 31 by omega), nI_eq (show ow (h.1 72 0) i < 2 ^ 31 by omega) (show a < 2 ^ 31 by omega), nI_eq (show ow (h.1 72 0) i < 2 ^ 31 by omega) (show b < 2 ^ 31 by omega)]
    rw [zf_and (p := se κ i = b), zf_and (p := se κ i = a), zf_or, zf_and, zf_and, and_assoc]
  · rw [e_X12_areAtWar_2, M.2.1, zf_neg (nI_nlt' (by omega))]
  · rw [zB10]; rfl
theorem ml_hasUsed {κ : zK} {h : zH} {m a b : Nat} (M : mK κ h) (G : gK κ) (R : gR κ m (h.1 72 0)) (ha : a < kP κ) (hb : b < kP κ) : f_X12_hasUsed [.inr (.inr (12, 0)), .inl (nI a), .inl (nI b)] h = some (some (.inl (zb (usd κ (h.1 72 0) a b))), h) := by
  have h5 := G.1
  have h7 := G.2.1
  rw [g_X12_hasUsed, ← nI_0]
  refine (zloopX (fun i => zL p_X12_hasUsed 2 [some (.inr (.inr (12, 0))), some (.inl (nI a)), some (.inl (nI b)), some (.inl (nI i))] [] h) (fun c => ow (h.1 72 0) c = a ∧ se κ c = b ∧ 0 < h.1 72 0 (17 + c)) (some (some (.inl 1), h)) (some (some (.inl 0), h)) (kC κ) (fun i hi => ?_) ?_).trans ?_
  · obtain ⟨o1, o2⟩ := R.own h5 hi
    have s1 := (G.sen hi).1
    rw [e_X12_hasUsed_2, M.2.1, zf_pos (nI_lt hi (by omega)), z10, z17]
    simp only [zfx (show i < 14 by omega) (show 14 < 2 ^ 31 by omega), zfx (show 10 + i < 24 by omega) (show 24 < 2 ^ 31 by omega), zfx (show 17 + i < 24 by omega) (show 24 < 2 ^ 31 by omega), nI_clamp (show i < 2 ^ 31 by omega), nI_clamp (show 10 + i < 2 ^ 31 by omega), nI_clamp (show 17 + i < 2 ^ 31 by omega), M.sen G hi, o2, nI_1, nI_eq (show se κ i < 2 ^ 31 by omega) (show b < 2 ^ 31 by omega), nI_eq (show ow (h.1 72 0) i < 2 ^ 31 by omega) (show a < 2 ^ 31 by omega)]
    rw [zf_and, zf_and, and_assoc]
  · rw [e_X12_hasUsed_2, M.2.1, zf_neg (nI_nlt' (by omega))]
  · rw [zB10]; rfl
theorem ml_areEarnest {κ : zK} {h : zH} {m a b : Nat} (M : mK κ h) (G : gK κ) (R : gR κ m (h.1 72 0)) (ha : a < kP κ) (hb : b < kP κ) : f_X12_areEarnest [.inr (.inr (12, 0)), .inl (nI a), .inl (nI b)] h = some (some (.inl (zb (ear κ (h.1 72 0) a b))), h) := by
  have h5 := G.1
  rw [g_X12_areEarnest, zfc (nI_eq (show a < 2 ^ 31 by omega) (show b < 2 ^ 31 by omega)), ml_areAtWar M G R ha hb, zci_ok, zf_b0, ml_hasUsed M G R ha hb, zci_ok, zf_b0, ml_hasUsed M G R hb ha, zci_ok, zf_b0, zB10, zBb0, zB0b, zB0b]
  rfl
theorem ml_foesOf {κ : zK} {h : zH} {m a : Nat} (M : mK κ h) (G : gK κ) (R : gR κ m (h.1 72 0)) (ha : a < kP κ) : f_X12_foesOf [.inr (.inr (12, 0)), .inl (nI a)] h = some (some (.inl (zbits (fun q => a ≠ q ∧ war κ (h.1 72 0) a q) (kP κ))), h) := by
  have h5 := G.1
  rw [g_X12_foesOf, ← nI_0]
  refine (zloopB (fun i b => zL p_X12_foesOf 4 [some (.inr (.inr (12, 0))), some (.inl (nI a)), some (.inl b), some (.inl (nI i))] [] h) (fun q => a ≠ q ∧ war κ (h.1 72 0) a q) (kP κ) (fun i b hi => ?_)).trans ?_
  · rw [e_X12_foesOf_4, M.1, zf_pos (nI_lt hi (by omega)), zfc (nI_eq (show i < 2 ^ 31 by omega) (show a < 2 ^ 31 by omega)), ml_areAtWar M G R ha hi, zci_ok, zf_b0, zor0, nI_1, zf_nand]
    exact zfc ⟨fun z => ⟨fun e => z.1 e.symm, z.2⟩, fun z => ⟨fun e => z.1 e.symm, z.2⟩⟩
  · rw [e_X12_foesOf_4, M.1, zf_neg (nI_nlt' (by omega))]
theorem ml_earnestWith {κ : zK} {h : zH} {m a : Nat} (M : mK κ h) (G : gK κ) (R : gR κ m (h.1 72 0)) (ha : a < kP κ) : f_X12_earnestWith [.inr (.inr (12, 0)), .inl (nI a)] h = some (some (.inl (zbits (fun q => ear κ (h.1 72 0) a q) (kP κ))), h) := by
  have h5 := G.1
  rw [g_X12_earnestWith, ← nI_0]
  refine (zloopB (fun i b => zL p_X12_earnestWith 4 [some (.inr (.inr (12, 0))), some (.inl (nI a)), some (.inl b), some (.inl (nI i))] [] h) (fun q => ear κ (h.1 72 0) a q) (kP κ) (fun i b hi => ?_)).trans ?_
  · rw [e_X12_earnestWith_4, M.1, zf_pos (nI_lt hi (by omega)), ml_areEarnest M G R ha hi, zci_ok, zf_b0, zor0, nI_1]
  · rw [e_X12_earnestWith_4, M.1, zf_neg (nI_nlt' (by omega))]
/-! sums of numbers -/
def nsum (f : Nat → Nat) : Nat → Nat
  | 0 => 0
  | n + 1 => nsum f n + f n
theorem nsum_congr {f g : Nat → Nat} : ∀ {n : Nat}, (∀ c, c < n → f c = g c) → nsum f n = nsum g n
  | 0, _ => rfl
  | n + 1, h => by simp only [nsum]; rw [nsum_congr (fun c hc => h c (by omega)), h n (by omega)]
theorem nsum_le {f : Nat → Nat} {b : Nat} : ∀ {n : Nat}, (∀ c, c < n → f c ≤ b) → nsum f n ≤ b * n
  | 0, _ => Nat.le_refl _
  | n + 1, h => by
    have := nsum_le (n := n) (fun c hc => h c (by omega))
    have := h n (by omega)
    simp only [nsum]; rw [Nat.mul_succ]; omega
theorem nsum_len {f : Nat → Nat} {n m : Nat} (hnm : n ≤ m) (h : ∀ c, n ≤ c → c < m → f c = 0) : nsum f m = nsum f n := by
  induction m with
  | zero => rw [show n = 0 by omega]
  | succ m ih =>
    by_cases e : n = m + 1
    · rw [e]
    · simp only [nsum]; rw [ih (by omega) (fun c h1 h2 => h c h1 (by omega)), h m (by omega) (by omega), Nat.add_zero]
theorem zloopN (F : Nat → Nat → Option zRes) (f : Nat → Nat) (n : Nat) (hs : ∀ i b, i < n → F i b = F (i + 1) (b + f i)) : F 0 0 = F n (nsum f n) := by
  induction n with
  | zero => rfl
  | succ n ih => rw [ih (fun i b hi => hs i b (by omega)), hs n _ (by omega)]; rfl
theorem cnt9_nsum (p : Nat → Prop) : ∀ n, cnt9 p n = nsum (fun c => @ite _ (p c) (Classical.propDecidable _) 1 0) n
  | 0 => rfl
  | n + 1 => by simp only [cnt9, nsum]; rw [cnt9_nsum p n]
theorem ml_bits (x : Int32) (h : zH) : f_X12_bits [.inl x] h = some (some (.inl (nI (cnt9 (fun i => tb x i) 7))), h) := by
  rw [g_X12_bits, ← nI_0]
  refine (zloopN (fun i b => zL p_X12_bits 4 [some (.inl x), some (.inl (nI b)), some (.inl (nI i))] [] h) (fun c => @ite _ (tb x c) (Classical.propDecidable _) 1 0) 7 (fun i b hi => ?_)).trans ?_
  · rw [e_X12_bits_4, zf_pos (show nI i < 7 from nI_lt (b := 7) hi (by omega)), tb_n, nI_add, nI_1]
  · rw [e_X12_bits_4, zf_neg (show ¬ nI 7 < 7 by decide), cnt9_nsum]
theorem cnt9_bz {p : Nat → Prop} {n k : Nat} (hn : n ≤ k) (hk : k ≤ 32) : cnt9 (fun i => tb (zbits p n) i) k = cnt9 p n := by
  rw [cnt9_congr (q := fun i => i < n ∧ p i) (fun i hi => tb_bits (by omega) (by omega)), cnt9_len (n := n) hn (fun c h1 h2 h3 => by omega)]
  exact cnt9_congr (fun k hk => ⟨fun h => h.2, fun h => ⟨hk, h⟩⟩)
theorem pcnt_sum (E : Nat → Nat → Prop) (P : Nat) (hP : P ≤ 5) (hE : ∀ a b, E a b → a < P ∧ b < P) : pcnt E P = nsum (fun a => cnt9 (E a) P) P := by
  unfold pcnt
  have k1 : ∀ k, cnt9 (fun t => E (t / 5) (t % 5)) (5 * k) = nsum (fun a => cnt9 (E a) 5) k := by
    intro k
    induction k with
    | zero => rfl
    | succ k ih =>
      rw [Nat.mul_succ, cnt9_split, ih]
      simp only [nsum]
      congr 1
      exact cnt9_congr (fun i hi => by rw [show (5 * k + i) / 5 = k by omega, show (5 * k + i) % 5 = i by omega])
  rw [cnt9_len (n := 25) (by omega) (fun c h1 h2 h3 => by omega), cnt9_congr (q := fun t => E (t / 5) (t % 5)) (fun k hk => ⟨fun z => z.2, fun z => ⟨hk, z⟩⟩), show (25 : Nat) = 5 * 5 from rfl, k1, nsum_len hP (fun c h1 h2 => cnt9_none (fun k _ z => by have := (hE _ _ z).1; omega))]
  exact nsum_congr (fun c hc => cnt9_len hP (fun k h1 h2 z => by have := (hE _ _ z).2; omega))
theorem ml_pairsEarnest {κ : zK} {h : zH} {m : Nat} (M : mK κ h) (G : gK κ) (R : gR κ m (h.1 72 0)) : f_X12_pairsEarnest [.inr (.inr (12, 0))] h = some (some (.inl (nI (pcnt (ear κ (h.1 72 0)) (kP κ) / 2))), h) := by
  have h5 := G.1
  rw [g_X12_pairsEarnest, ← nI_0]
  refine (zloopN (fun i b => zL p_X12_pairsEarnest 4 [some (.inr (.inr (12, 0))), some (.inl (nI b)), some (.inl (nI i))] [] h) (fun a => cnt9 (ear κ (h.1 72 0) a) (kP κ)) (kP κ) (fun i b hi => ?_)).trans ?_
  · rw [e_X12_pairsEarnest_4, M.1, zf_pos (nI_lt hi (by omega)), ml_earnestWith M G R hi, zci_ok, ml_bits, zci_ok, nI_add, nI_1, cnt9_bz (by omega) (by omega)]
  · rw [e_X12_pairsEarnest_4, M.1, zf_neg (nI_nlt' (by omega)), pcnt_sum _ _ h5 (ear_E G R), show (2 : Int32) = nI 2 from rfl, pk_div _ (by omega) (by omega)]
    have := nsum_le (f := fun a => cnt9 (ear κ (h.1 72 0) a) (kP κ)) (b := 5) (n := kP κ) (fun c _ => Nat.le_trans (cnt9_le _ _) h5)
    omega
theorem ml_pairsAtWar {κ : zK} {h : zH} {m : Nat} (M : mK κ h) (G : gK κ) (R : gR κ m (h.1 72 0)) : f_X12_pairsAtWar [.inr (.inr (12, 0))] h = some (some (.inl (nI (pcnt (fun a b => a ≠ b ∧ war κ (h.1 72 0) a b) (kP κ) / 2))), h) := by
  have h5 := G.1
  rw [g_X12_pairsAtWar, ← nI_0]
  refine (zloopN (fun i b => zL p_X12_pairsAtWar 4 [some (.inr (.inr (12, 0))), some (.inl (nI b)), some (.inl (nI i))] [] h) (fun a => cnt9 (fun q => a ≠ q ∧ war κ (h.1 72 0) a q) (kP κ)) (kP κ) (fun i b hi => ?_)).trans ?_
  · rw [e_X12_pairsAtWar_4, M.1, zf_pos (nI_lt hi (by omega)), ml_foesOf M G R hi, zci_ok, ml_bits, zci_ok, nI_add, nI_1, cnt9_bz (by omega) (by omega)]
  · rw [e_X12_pairsAtWar_4, M.1, zf_neg (nI_nlt' (by omega)), pcnt_sum _ _ h5 (fun a b q => q.2.lim G R), show (2 : Int32) = nI 2 from rfl, pk_div _ (by omega) (by omega)]
    have := nsum_le (f := fun a => cnt9 (fun q => a ≠ q ∧ war κ (h.1 72 0) a q) (kP κ)) (b := 5) (n := kP κ) (fun c _ => Nat.le_trans (cnt9_le _ _) h5)
    omega
theorem ml_sliversOf {κ : zK} {h : zH} (M : mK κ h) (G : gK κ) (x : Int32) : f_X12_sliversOf [.inr (.inr (12, 0)), .inl x] h = some (some (.inl (nI (cnt9 (fun c => h.1 72 0 (10 + c) = x ∧ (0 < h.1 72 0 (3 + c) ∧ ¬ kSl κ < h.1 72 0 (3 + c))) (kC κ)))), h) := by
  have h7 := G.2.1
  rw [g_X12_sliversOf]
  refine (zloopN (fun i b => zL p_X12_sliversOf 4 [some (.inr (.inr (12, 0))), some (.inl x), some (.inl (nI b)), some (.inl (nI i))] [] h) (fun c => @ite _ (h.1 72 0 (10 + c) = x ∧ (0 < h.1 72 0 (3 + c) ∧ ¬ kSl κ < h.1 72 0 (3 + c))) (Classical.propDecidable _) 1 0) (kC κ) (fun i b hi => ?_)).trans ?_
  · rw [e_X12_sliversOf_4, M.2.1, zf_pos (nI_lt hi (by omega)), z10, zfx (by omega) (by omega), nI_clamp (by omega), sm_isSliver (by omega), zci_ok, M.2.2.1, zf_b0, Int32.add_zero, nI_1, nI_1, zf_and]
    by_cases e : h.1 72 0 (10 + i) = x ∧ (0 < h.1 72 0 (3 + i) ∧ ¬ kSl κ < h.1 72 0 (3 + i))
    · rw [zf_pos e, zite_pos e]
    · rw [zf_neg e, zite_neg e]; rfl
  · rw [e_X12_sliversOf_4, M.2.1, zf_neg (nI_nlt' (by omega)), cnt9_nsum]
theorem ml_allThick {h : zH} : f_X12_allThick [.inr (.inr (12, 0))] h = some (some (.inl (zsum (fun c => h.1 72 0 (3 + c)) 7)), h) := by
  rw [g_X12_allThick, ← nI_0]
  refine (zloopS (fun i b => zL p_X12_allThick 4 [some (.inr (.inr (12, 0))), some (.inl b), some (.inl (nI i))] [] h) (fun c => h.1 72 0 (3 + c)) 7 (nI 0) (fun i b hi => ?_)).trans ?_
  · rw [e_X12_allThick_4, zf_pos (show nI i < 7 from nI_lt (b := 7) hi (by omega)), z3, zfx (by omega) (by omega), nI_clamp (by omega), nI_1]
  · rw [e_X12_allThick_4, zf_neg (show ¬ nI 7 < 7 by decide), nI_0, Int32.zero_add]
theorem ml_isSomeFound {κ : zK} {h : zH} (M : mK κ h) (G : gK κ) : f_X12_isSomeFound [.inr (.inr (12, 0))] h = some (some (.inl (zb (∃ c, c < kC κ ∧ (¬ kPe κ c < 0 ∧ ¬ kPe κ c < h.1 72 0 (3 + c))))), h) := by
  have h7 := G.2.1
  rw [g_X12_isSomeFound]
  refine (zloopX (fun i => zL p_X12_isSomeFound 2 [some (.inr (.inr (12, 0))), some (.inl (nI i))] [] h) (fun c => ¬ kPe κ c < 0 ∧ ¬ kPe κ c < h.1 72 0 (3 + c)) (some (some (.inl 1), h)) (some (some (.inl 0), h)) (kC κ) (fun i hi => ?_) ?_).trans ?_
  · rw [e_X12_isSomeFound_2, M.2.1, zf_pos (nI_lt hi (by omega)), sm_isFound (by omega), zci_ok, (M.2.2.2.2.1 i hi).2.2.2.2, zf_b0, nI_1]
  · rw [e_X12_isSomeFound_2, M.2.1, zf_neg (nI_nlt' (by omega))]
  · rw [zB10]
/-- a pebble is there: not below 0, in the model; not NONE, in the class -/
theorem gK.pe {κ : zK} {c : Nat} (G : gK κ) (hc : c < kC κ) : (¬ kPe κ c < 0 ↔ ¬ kPe κ c = zm1) ∧ (kPe κ c = zm1 ∨ ∃ p, p ≤ 39 ∧ kPe κ c = nI p) := by
  have q := (G.2.2 c hc).2.2.2
  refine ⟨?_, q⟩
  rcases q with q | ⟨p, p1, p2⟩
  · rw [q]; decide
  · rw [p2]
    have a1 : ¬ nI p < 0 := nI_pos (by omega)
    have a2 : ¬ nI p = zm1 := fun e => a1 (by rw [e]; decide)
    exact ⟨fun _ => a2, fun _ => a1⟩
theorem ml_blocOf {κ : zK} {h : zH} {m a : Nat} (M : mK κ h) (G : gK κ) (R : gR κ m (h.1 72 0)) (ha : a < kP κ) : f_X12_blocOf [.inr (.inr (12, 0)), .inl (nI a)] h = some (some (.inl (zbits (fun q => rch (ear κ (h.1 72 0)) a q) (kP κ))), h) := by
  have h5 := G.1
  have hE := ear_E G R
  have one : ∀ x, ∃ x', zL p_X12_blocOf 16 [some (.inr (.inr (12, 0))), none, some (.inl x), some (.inl x), some (.inl (nI 0))] [] h = zL p_X12_blocOf 6 [some (.inr (.inr (12, 0))), none, some (.inl x'), some (.inl x), some (.inl (nI (kP κ)))] [] h ∧ pass (ear κ (h.1 72 0)) (bset x) (bset x') := by
    intro x
    obtain ⟨x', e1, e2⟩ := zloopO (fun i b => zL p_X12_blocOf 16 [some (.inr (.inr (12, 0))), none, some (.inl b), some (.inl x), some (.inl (nI i))] [] h) (fun i t => tb x i ∧ ear κ (h.1 72 0) i t) (kP κ) x (fun i b hi => by
      rw [e_X12_blocOf_16, M.1, zf_pos (nI_lt hi (by omega)), tb_f, ml_earnestWith M G R hi, zci_ok, nI_1, zor0]
      by_cases e : tb x i
      · rw [zf_pos e]
        refine ⟨_, rfl, fun t ht => ?_⟩
        rw [tb_or ht, tb_bits (by omega) ht]
        exact ⟨fun z => z.elim Or.inl (fun y => Or.inr ⟨e, y.2⟩), fun z => z.elim Or.inl (fun y => Or.inr ⟨(hE _ _ y.2).2, y.2⟩)⟩
      · rw [zf_neg e]
        exact ⟨b, rfl, fun t ht => ⟨Or.inl, fun z => z.elim id (fun y => absurd y.1 e)⟩⟩)
    refine ⟨x', e1.trans ?_, fun q hq => ⟨hq.1, (e2 q hq.1).mpr (Or.inl hq.2)⟩, fun u v hu e => ?_, fun S hS hc q hq => ?_⟩
    · rw [e_X12_blocOf_16, M.1, zf_neg (nI_nlt' (by omega))]
    · have l := hE _ _ e
      have h32 : v < 32 := by omega
      exact ⟨h32, (e2 v h32).mpr (Or.inr ⟨u, l.1, hu.2, e⟩)⟩
    · rcases (e2 q hq.1).mp hq.2 with z | ⟨i, z1, z2, z3⟩
      · exact hS q ⟨hq.1, z⟩
      · exact hc i q (hS i ⟨by omega, z2⟩) z3
  have fin : ∀ x, (∀ q, bset x q ↔ rch (ear κ (h.1 72 0)) a q) → x = zbits (fun q => rch (ear κ (h.1 72 0)) a q) (kP κ) := fun x hx => zbits_of (by omega) (fun i hi => by
    constructor
    · intro t
      have w := (hx i).mp ⟨hi, t⟩
      exact ⟨w.lim hE ha, w⟩
    · intro t; exact ((hx i).mpr t.2).2)
  have key : ∀ f k x, binv (ear κ (h.1 72 0)) (kP κ) a k (bset x) → kP κ ≤ k + f → zL p_X12_blocOf 16 [some (.inr (.inr (12, 0))), none, some (.inl x), some (.inl x), some (.inl (nI 0))] [] h = some (some (.inl (zbits (fun q => rch (ear κ (h.1 72 0)) a q) (kP κ))), h) := by
    intro f
    induction f with
    | zero =>
      intro k x hx hk
      obtain ⟨x', e1, w⟩ := one x
      have hd := hx.done (Or.inr (by omega))
      have hcl : clsd (ear κ (h.1 72 0)) (bset x) := fun u v hu e => (hd v).mpr (((hd u).mp hu).step e)
      have ex : x' = x := tb_ext (fun i hi => ⟨fun t => (w.2.2 (bset x) (fun _ z => z) hcl i ⟨hi, t⟩).2, fun t => (w.1 i ⟨hi, t⟩).2⟩)
      rw [e1, e_X12_blocOf_6, zf_pos ex, ex, ← fin x hd]
    | succ f ih =>
      intro k x hx hk
      obtain ⟨x', e1, w⟩ := one x
      rw [e1, e_X12_blocOf_6]
      by_cases ex : x' = x
      · have hcl : clsd (ear κ (h.1 72 0)) (bset x) := fun u v hu e => by have := w.2.1 u v hu e; rwa [ex] at this
        rw [zf_pos ex, ex, ← fin x (hx.done (Or.inl hcl))]
      · rw [zf_neg ex, ← nI_0]
        exact ih (k + 1) x' (hx.pass hE w) (by omega)
  have ne : ¬ ((1 : Int32) <<< (nI a &&& 31)) = 0 := fun e => by
    have := (tb_one (c := a) (i := a) (by omega) (by omega)).mpr rfl
    rw [e] at this
    exact tb_zero (by omega) this
  rw [g_X12_blocOf, e_X12_blocOf_6, zf_neg ne, ← nI_0]
  exact key (kP κ) 0 _ (binv.start ha (fun q => ⟨fun z => (tb_one (by omega) z.1).mp z.2, fun z => by subst z; exact ⟨by omega, (tb_one (by omega) (by omega)).mpr rfl⟩⟩)) (by omega)
/-! who is dry: nobody more -/
theorem canW_congr {κ : zK} {D D' : Nat → Prop} {r : zRo} {c : Nat} (h : D (ow r c) ↔ D' (ow r c)) : canW κ D r c ↔ canW κ D' r c := by unfold canW; rw [h]
theorem weekR_congr {κ : zK} {D D' : Nat → Prop} {r : zRo} (h : ∀ c, c < kC κ → (D (ow r c) ↔ D' (ow r c))) : weekR κ D r = weekR κ D' r := by
  funext k
  unfold weekR
  by_cases e0 : k = 0
  · rw [if_pos e0, if_pos e0]
  · rw [if_neg e0, if_neg e0]
    by_cases e1 : 3 ≤ k ∧ k < 3 + kC κ
    · rw [if_pos e1, if_pos e1]
      have := canW_congr (κ := κ) (h (k - 3) (by omega))
      by_cases e : canW κ D r (k - 3)
      · rw [zi_pos e, zi_pos (this.mp e)]
      · rw [zi_neg e, zi_neg (fun z => e (this.mpr z))]
    · rw [if_neg e1, if_neg e1]
      by_cases e2 : 17 ≤ k ∧ k < 17 + kC κ
      · rw [if_pos e2, if_pos e2]
        have := canW_congr (κ := κ) (h (k - 17) (by omega))
        by_cases e : canW κ D r (k - 17)
        · rw [zi_pos e, zi_pos (this.mp e)]
        · rw [zi_neg e, zi_neg (fun z => e (this.mpr z))]
      · rw [if_neg e2, if_neg e2]
abbrev nD : Nat → Prop := fun _ => False
theorem dryB_0 {q : Nat} (h : q < 32) : dryB 0 q ↔ nD q := ⟨fun z => tb_zero h z, fun z => z.elim⟩
theorem sm_passes0 {κ : zK} {h : zH} {m : Nat} (M : mK κ h) (G : gK κ) (R : gR κ m (h.1 72 0)) (hd : h.1 12 0 54 = 0) : ∃ g, f_X12_passes [.inr (.inr (12, 0))] h = some (some (.inl (zbits (fun c => canW κ nD (h.1 72 0) c ∧ ¬ 0 < weekR κ nD (h.1 72 0) (3 + c)) (kC κ))), g) ∧ zsame Ww h g ∧ g.1 72 0 = weekR κ nD (h.1 72 0) := by
  have h5 := G.1
  have dd : ∀ c, c < kC κ → (dryB 0 (ow (h.1 72 0) c) ↔ nD (ow (h.1 72 0) c)) := fun c hc => dryB_0 (by have := (R.own h5 hc).1; omega)
  obtain ⟨g, e1, e2, e3⟩ := sm_passes M G R
  rw [hd] at e1 e3
  rw [weekR_congr dd] at e1 e3
  refine ⟨g, ?_, e2, e3⟩
  rw [e1]
  exact congrArg (fun z => some (some (Sum.inl z), g)) (zbits_congr (fun c hc => by rw [canW_congr (dd c hc)]))
/-! rows laid aside and back -/
theorem zsame.drop {S : List (Nat × Nat)} {K : Nat} {h g : zH} (a : zsame (S ++ [(K, 0)]) h g) (b : g.1 K 0 = h.1 K 0) : zsame S h g := ⟨fun K' j' k' hn => by
  by_cases e : (K', j') = (K, 0)
  · rw [Prod.mk.injEq] at e; rw [e.1, e.2, b]
  · exact a.1 K' j' k' (fun z => (List.mem_append.mp z).elim hn (fun y => e (List.mem_singleton.mp y))), a.2⟩
theorem weekR_hi {κ : zK} {D : Nat → Prop} {r : zRo} {k : Nat} (h7 : kC κ ≤ 7) (hk : 24 ≤ k) : weekR κ D r k = r k := weekR_el (by omega) (by omega) (by omega)
theorem wkn_hi {κ : zK} {D : Nat → Prop} {r : zRo} {k : Nat} (h7 : kC κ ≤ 7) (hk : 24 ≤ k) : ∀ n, wkn κ D r n k = r k
  | 0 => rfl
  | n + 1 => by simp only [wkn]; rw [weekR_hi h7 hk]; exact wkn_hi h7 hk n
/-- row 72 into K1 -/
theorem sm_aside {K1 : Nat} (h : zH) (hK : K1 = 73 ∨ K1 = 74) : ∃ g, f_X12_copies [.inr (.inr (72, 0)), .inl 0, .inr (.inr (K1, 0)), .inl 0] h = some (none, g) ∧ zsame [(K1, 0)] h g ∧ ∀ k, k < 24 → g.1 K1 0 k = h.1 72 0 k := by
  obtain ⟨g, e1, e2, e3⟩ := sm_copies (K0 := 72) (K1 := K1) (a := 0) (b := 0) h (by decide +kernel) (by rcases hK with q | q <;> rw [q] <;> decide +kernel) (by omega) (by decide +kernel) (by rcases hK with q | q <;> rw [q] <;> decide +kernel) (by decide +kernel) (by rcases hK with q | q <;> rw [q] <;> decide +kernel)
  exact ⟨g, e1, e2, fun k hk => by rw [e3 k, if_pos (by omega)]; rw [show 0 + (k - 0) = k by omega]⟩
theorem sm_back {K0 : Nat} (h : zH) (hK : K0 = 73 ∨ K0 = 74) : ∃ g, f_X12_copies [.inr (.inr (K0, 0)), .inl 0, .inr (.inr (72, 0)), .inl 0] h = some (none, g) ∧ zsame [(72, 0)] h g ∧ (∀ k, k < 24 → g.1 72 0 k = h.1 K0 0 k) ∧ ∀ k, 24 ≤ k → g.1 72 0 k = h.1 72 0 k := by
  obtain ⟨g, e1, e2, e3⟩ := sm_copies (K0 := K0) (K1 := 72) (a := 0) (b := 0) h (by rcases hK with q | q <;> rw [q] <;> decide +kernel) (by decide +kernel) (by omega) (by rcases hK with q | q <;> rw [q] <;> decide +kernel) (by decide +kernel) (by rcases hK with q | q <;> rw [q] <;> decide +kernel) (by decide +kernel)
  exact ⟨g, e1, e2, fun k hk => by rw [e3 k, if_pos (by omega)]; rw [show 0 + (k - 0) = k by omega], fun k hk => by rw [e3 k, if_neg (by omega)]⟩
abbrev Wb : List (Nat × Nat) := Wk ++ [(63, 0), (74, 0)]
theorem ml_wornTo {κ : zK} {h : zH} {m c lv : Nat} (M : mK κ h) (G : gK κ) (R : gR κ m (h.1 72 0)) (hd : h.1 12 0 54 = 0) (hc : c < kC κ) (hl : lv ≤ 40) : ∃ g, f_X12_wornTo [.inr (.inr (12, 0)), .inl (nI c), .inl (nI lv)] h = some (some (.inl (nI (fst9 100 (fun n => Tk κ nD (h.1 72 0) c (ow (h.1 72 0) c) n ≤ lv)))), g) ∧ zsame Wb h g := by
  have h5 := G.1
  have h7 := G.2.1
  obtain ⟨g0, a1, a2, a3⟩ := sm_aside (K1 := 74) h (Or.inr rfl)
  have r0 : g0.1 72 0 = h.1 72 0 := funext (fun k => a2.1 72 0 k (by decide))
  generalize hr : h.1 72 0 = r at R r0
  have tl := Tk_le (D := nD) (q := ow r c) R hc
  obtain ⟨g, e1, e2, e3⟩ := zloopE (fun i (g : zH) => zL p_X12_wornTo 15 [some (.inr (.inr (12, 0))), some (.inl (nI c)), some (.inl (nI lv)), some (.inl (nI i))] [] g)
    (fun i g => zsame Ww g0 g ∧ g.1 72 0 = wkn κ nD r i) (fst9 100 (fun n => Tk κ nD r c (ow r c) n ≤ lv)) g0 ⟨zsame.rf, r0⟩ (fun i g hi q => by
      obtain ⟨q1, q2⟩ := q
      have hi2 := fst9_not _ _ i hi
      have hi3 := fst9_le 100 (fun n => Tk κ nD r c (ow r c) n ≤ lv)
      have tli := tl i
      have Mg : mK κ g := (M.same G a2.1 (by decide)).same G q1.1 (by decide)
      have Rg : gR κ (m + i) (g.1 72 0) := by rw [q2]; exact wkn_gR h7 R i
      have dg : g.1 12 0 54 = 0 := by rw [q1.1 12 0 54 (by decide), a2.1 12 0 54 (by decide)]; exact hd
      rw [e_X12_wornTo_15, zf_neg (show ¬ 99 < nI i by rw [Olt (by omega) (by decide)]; exact Nat.not_lt.mpr (show i ≤ 99 by omega)), z3, zfx (by omega) (by omega), nI_clamp (by omega), q2, (wkn_c h7 R hc i).1, zf_pos (nI_lt (show lv < Tk κ nD r c (ow r c) i by omega) (by omega))]
      obtain ⟨g2, f1, f2, f3⟩ := sm_passes0 Mg G Rg dg
      rw [f1, zci_ok, nI_1]
      exact ⟨g2, rfl, q1.trans f2, by rw [f3, q2]; rfl⟩)
  have e1 : zL p_X12_wornTo 15 [some (.inr (.inr (12, 0))), some (.inl (nI c)), some (.inl (nI lv)), some (.inl (nI 0))] [] g0 = zL p_X12_wornTo 15 [some (.inr (.inr (12, 0))), some (.inl (nI c)), some (.inl (nI lv)), some (.inl (nI (fst9 100 (fun n => Tk κ nD r c (ow r c) n ≤ lv))))] [] g := e1
  have hk := fst9_le 100 (fun n => Tk κ nD r c (ow r c) n ≤ lv)
  have hp := fst9_is 100 (fun n => Tk κ nD r c (ow r c) n ≤ lv)
  rw [g_X12_wornTo, a1, zcv_ok, ← nI_0, e1]
  generalize fst9 100 (fun n => Tk κ nD r c (ow r c) n ≤ lv) = k at hk hp e3
  have tlk := tl k
  obtain ⟨g2, b1, b2, b3, b4⟩ := sm_back (K0 := 74) g (Or.inr rfl)
  have last : zL p_X12_wornTo 15 [some (.inr (.inr (12, 0))), some (.inl (nI c)), some (.inl (nI lv)), some (.inl (nI k))] [] g = some (some (.inl (nI k)), g2) := by
    have end_ : ∀ o1 o2, zL p_X12_wornTo 44 [some (.inr (.inr (12, 0))), o1, o2, some (.inl (nI k))] [] g = some (some (.inl (nI k)), g2) := fun o1 o2 => by
      rw [e_X12_wornTo_44, b1, zcv_ok]
    rw [e_X12_wornTo_15]
    by_cases e : k = 100
    · rw [zf_pos (show 99 < nI k by rw [Olt (by omega) (by decide)]; exact (show 99 < k by omega)), end_]
    · have hp := hp (by omega)
      rw [zf_neg (show ¬ 99 < nI k by rw [Olt (by omega) (by decide)]; exact Nat.not_lt.mpr (show k ≤ 99 by omega)), z3, zfx (by omega) (by omega), nI_clamp (by omega), e3, (wkn_c h7 R hc k).1, zf_neg (nI_nlt hp (by omega)), end_]
  refine ⟨g2, last, zsame.drop (K := 72) (((a2.mono (by simp)).trans (e2.mono (by simp))).trans (b2.mono (by simp))) ?_⟩
  funext k'
  by_cases e : k' < 24
  · rw [b3 k' e, e2.1 74 0 k' (by decide), a3 k' e]
  · rw [b4 k' (by omega), e3, wkn_hi h7 (by omega), hr]
