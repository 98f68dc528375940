/-! Shorter steps; the class's readings. -/
theorem zfx {n N : Nat} {A : Option zRes} (h : n < N) (hN : N < 2 ^ 31) : zf (vp_in (nI n) N) A none = A := zf_pos (vp_in_nI h hN) _ _
theorem zf_b0 {p : Prop} {A B : Option zRes} : zf (zb p = 0) A B = zf p B A := by rw [propext (zb_0 (p := p)), zf_not]
theorem zf_b01 {p : Prop} {A B : Option zRes} : zf (zb p = 0 ∨ zb p = 1) A B = A := zf_pos (zb_01.mpr trivial) _ _
theorem zfI {p : Prop} {A B C D : Option zRes} (h1 : p → A = C) (h2 : ¬ p → B = D) : zf p A B = zf p C D := by
  by_cases h : p
  · rw [zf_pos h, zf_pos h, h1 h]
  · rw [zf_neg h, zf_neg h, h2 h]
theorem zf_and {p q : Prop} {A B : Option zRes} : zf p (zf q A B) B = zf (p ∧ q) A B := by
  by_cases h : p
  · by_cases h2 : q
    · rw [zf_pos h, zf_pos h2, zf_pos ⟨h, h2⟩]
    · rw [zf_pos h, zf_neg h2, zf_neg (fun z => h2 z.2)]
  · rw [zf_neg h, zf_neg (fun z => h z.1)]
theorem zf_nand {p q : Prop} {A B : Option zRes} : zf p B (zf q A B) = zf (¬ p ∧ q) A B := by
  rw [← zf_and, zf_not]
theorem zf_or {p q : Prop} {A B : Option zRes} : zf p A (zf q A B) = zf (p ∨ q) A B := by
  by_cases h : p
  · rw [zf_pos h, zf_pos (Or.inl h)]
  · by_cases h2 : q
    · rw [zf_neg h, zf_pos h2, zf_pos (Or.inr h2)]
    · rw [zf_neg h, zf_neg h2, zf_neg (fun z => z.elim h h2)]
theorem zfc {p q : Prop} {A B : Option zRes} (h : p ↔ q) : zf p A B = zf q A B := by rw [propext h]
/-- a loop that gathers bits -/
theorem zloopB (F : Nat → Int32 → Option zRes) (p : Nat → Prop) (n : Nat) (hs : ∀ i b, i < n → F i b = zf (p i) (F (i + 1) (b ||| ((1 : Int32) <<< (nI i &&& 31)))) (F (i + 1) b)) : F 0 0 = F n (zbits p n) :=
  zloop F (fun c b => @ite _ (p c) (Classical.propDecidable (p c)) (b ||| ((1 : Int32) <<< (nI c &&& 31))) b) n 0 (fun i b hi => by
    rw [hs i b hi]
    by_cases h : p i
    · rw [zf_pos h, zite_pos h]
    · rw [zf_neg h, zite_neg h])
/-- a loop that looks for one -/
theorem zloopX (F : Nat → Option zRes) (p : Nat → Prop) (A B : Option zRes) (n : Nat) (hs : ∀ i, i < n → F i = zf (p i) A (F (i + 1))) (hn : F n = B) : F 0 = zf (∃ c, c < n ∧ p c) A B := by
  have key : ∀ k, k ≤ n → F (n - k) = zf (∃ c, n - k ≤ c ∧ c < n ∧ p c) A B := by
    intro k
    induction k with
    | zero => intro _; rw [zf_neg (fun ⟨c, h1, h2, _⟩ => by omega)]; exact hn
    | succ k ih =>
      intro hk
      rw [hs (n - (k + 1)) (by omega), show n - (k + 1) + 1 = n - k by omega, ih (by omega), zf_or]
      refine zfc ⟨?_, ?_⟩
      · rintro (h | ⟨c, h1, h2, h3⟩)
        · exact ⟨_, Nat.le_refl _, by omega, h⟩
        · exact ⟨c, by omega, h2, h3⟩
      · rintro ⟨c, h1, h2, h3⟩
        by_cases e : c = n - (k + 1)
        · exact Or.inl (e ▸ h3)
        · exact Or.inr ⟨c, by omega, h2, h3⟩
  have := key n (Nat.le_refl n)
  rw [Nat.sub_self] at this
  rw [this]
  exact zfc ⟨fun ⟨c, _, h⟩ => ⟨c, h⟩, fun ⟨c, h⟩ => ⟨c, Nat.zero_le c, h⟩⟩
/-- a loop that gathers sets of bits -/
theorem zloopO (F : Nat → Int32 → Option zRes) (p : Nat → Nat → Prop) (n : Nat) (a : Int32) (hs : ∀ i b, i < n → ∃ b', F i b = F (i + 1) b' ∧ ∀ t, t < 32 → (tb b' t ↔ tb b t ∨ p i t)) : ∃ x, F 0 a = F n x ∧ ∀ t, t < 32 → (tb x t ↔ tb a t ∨ ∃ i, i < n ∧ p i t) := by
  induction n with
  | zero => exact ⟨a, rfl, fun t _ => ⟨Or.inl, fun q => q.elim id (fun ⟨i, h, _⟩ => absurd h (Nat.not_lt_zero i))⟩⟩
  | succ n ih =>
    obtain ⟨x, e1, e2⟩ := ih (fun i b hi => hs i b (by omega))
    obtain ⟨y, e3, e4⟩ := hs n x (by omega)
    refine ⟨y, e1.trans e3, fun t ht => ?_⟩
    rw [e4 t ht, e2 t ht]
    constructor
    · rintro ((h | ⟨i, h1, h2⟩) | h)
      · exact Or.inl h
      · exact Or.inr ⟨i, by omega, h2⟩
      · exact Or.inr ⟨n, by omega, h⟩
    · rintro (h | ⟨i, h1, h2⟩)
      · exact Or.inl (Or.inl h)
      · by_cases e : i = n
        · exact Or.inr (e ▸ h2)
        · exact Or.inl (Or.inr ⟨i, by omega, h2⟩)
theorem zbits_len {p : Nat → Prop} {n m : Nat} (hnm : n ≤ m) (hm : m ≤ 32) (h : ∀ c, n ≤ c → c < m → ¬ p c) : zbits p m = zbits p n := by
  apply tb_ext
  intro i hi
  rw [tb_bits hm hi, tb_bits (by omega) hi]
  constructor
  · rintro ⟨h1, h2⟩
    refine ⟨?_, h2⟩
    rcases Nat.lt_or_ge i n with q | q
    · exact q
    · exact absurd h2 (h i q h1)
  · rintro ⟨h1, h2⟩; exact ⟨by omega, h2⟩
theorem zbits_of {p : Nat → Prop} {n : Nat} {x : Int32} (hn : n ≤ 32) (h : ∀ i, i < 32 → (tb x i ↔ i < n ∧ p i)) : x = zbits p n := tb_ext (fun i hi => by rw [h i hi, tb_bits hn hi])
theorem cnt9_len {p : Nat → Prop} {n m : Nat} (hnm : n ≤ m) (h : ∀ c, n ≤ c → c < m → ¬ p c) : cnt9 p m = cnt9 p n := by
  obtain ⟨k, rfl⟩ : ∃ k, m = n + k := ⟨m - n, by omega⟩
  rw [cnt9_split, cnt9_none (fun i hi => h (n + i) (by omega) (by omega)), Nat.add_zero]
theorem cnt9_tb {p : Nat → Prop} {n : Nat} (hn : n ≤ 32) : cnt9 (fun i => tb (zbits p n) i) 32 = cnt9 p n := by
  rw [cnt9_congr (q := fun i => i < n ∧ p i) (fun k hk => tb_bits hn hk), cnt9_len (n := n) hn (fun c h1 h2 h3 => by omega)]
  exact cnt9_congr (fun k hk => ⟨fun h => h.2, fun h => ⟨hk, h⟩⟩)
/-! the class's sets -/
theorem cl_thereBits {κ : zK} {h : zH} {j : Nat} {r : zRo} (K : cK κ h) (S : cS κ h j r) : f_X8_thereBits [.inr (.inr (8, j))] h = some (some (.inl (zbits (fun c => 0 < r (3 + c)) (kC κ))), h) := by
  rw [sp_thereBits j h K.2.2.1 K.2.2.2.1]
  exact congrArg (fun z => some (some (Sum.inl z), h)) (zbits_congr (fun c hc => by rw [(S.2.2.2 c hc).2.1]))
theorem cl_cakesOf {κ : zK} {h : zH} {j : Nat} {r : zRo} (K : cK κ h) (S : cS κ h j r) (x : Int32) : f_X8_cakesOf [.inr (.inr (8, j)), .inl x] h = some (some (.inl (zbits (fun c => r (10 + c) = x) (kC κ))), h) := by
  have h7 := K.2.2.2.1
  rw [g_X8_cakesOf]
  refine (zloopB (fun i b => zL p_X8_cakesOf 4 [some (.inr (.inr (8, j))), some (.inl x), some (.inl b), some (.inl (nI i))] [] h) (fun c => r (10 + c) = x) (kC κ) (fun i b hi => ?_)).trans ?_
  · rw [e_X8_cakesOf_4, K.2.2.1, zf_pos (nI_lt hi (by omega)), zfx (by omega) (by omega), nI_clamp (by omega), (S.2.2.2 i hi).1, nI_1]
  · rw [e_X8_cakesOf_4, K.2.2.1, zf_neg (nI_nlt' (by omega))]
theorem cl_slivers {κ : zK} {h : zH} {j : Nat} {r : zRo} (K : cK κ h) (S : cS κ h j r) : f_X8_slivers [.inr (.inr (8, j))] h = some (some (.inl (zbits (fun c => 0 < r (3 + c) ∧ ¬ kSl κ < r (3 + c)) (kC κ))), h) := by
  have h7 := K.2.2.2.1
  rw [g_X8_slivers]
  refine (zloopB (fun i b => zL p_X8_slivers 4 [some (.inr (.inr (8, j))), some (.inl b), some (.inl (nI i))] [] h) (fun c => 0 < r (3 + c) ∧ ¬ kSl κ < r (3 + c)) (kC κ) (fun i b hi => ?_)).trans ?_
  · rw [e_X8_slivers_4, K.2.2.1, zf_pos (nI_lt hi (by omega)), zfx (by omega) (by omega), zfx (by omega) (by omega), nI_clamp (by omega), (S.2.2.2 i hi).2.1, K.2.2.2.2.1, nI_1, ← zf_not (c := kSl κ < r (3 + i)), zf_and]
  · rw [e_X8_slivers_4, K.2.2.1, zf_neg (nI_nlt' (by omega))]
theorem cl_warringCakes {κ : zK} {h : zH} {j : Nat} {r : zRo} (K : cK κ h) (S : cS κ h j r) : f_X8_warringCakes [.inr (.inr (8, j))] h = some (some (.inl (zbits (fun c => 0 < r (3 + c) ∧ tb (r 2) c ∧ ¬ kSe κ c = r (10 + c)) (kC κ))), h) := by
  have h7 := K.2.2.2.1
  rw [g_X8_warringCakes]
  refine (zloopB (fun i b => zL p_X8_warringCakes 4 [some (.inr (.inr (8, j))), some (.inl b), some (.inl (nI i))] [] h) (fun c => 0 < r (3 + c) ∧ tb (r 2) c ∧ ¬ kSe κ c = r (10 + c)) (kC κ) (fun i b hi => ?_)).trans ?_
  · rw [e_X8_warringCakes_4, K.2.2.1, zf_pos (nI_lt hi (by omega)), zfx (by omega) (by omega), cl_hasHair S, zci_ok, zf_b0, zfx (by omega) (by omega), zfx (by omega) (by omega), nI_clamp (by omega), (S.2.2.2 i hi).2.1, (S.2.2.2 i hi).1, (K.2.2.2.2.2.2.1 i hi).1, nI_1, ← zf_not (c := kSe κ i = r (10 + i)), zf_and, zf_and, and_assoc]
  · rw [e_X8_warringCakes_4, K.2.2.1, zf_neg (nI_nlt' (by omega))]
/-- sums -/
def zsum (f : Nat → Int32) : Nat → Int32
  | 0 => 0
  | n + 1 => zsum f n + f n
theorem zsum_congr {f g : Nat → Int32} : ∀ {n : Nat}, (∀ c, c < n → f c = g c) → zsum f n = zsum g n
  | 0, _ => rfl
  | n + 1, h => by simp only [zsum]; rw [zsum_congr (fun c hc => h c (by omega)), h n (by omega)]
theorem zloopS (F : Nat → Int32 → Option zRes) (f : Nat → Int32) (n : Nat) (a : Int32) (hs : ∀ i b, i < n → F i b = F (i + 1) (b + f i)) : F 0 a = F n (a + zsum f n) := by
  induction n with
  | zero => simp [zsum]
  | succ n ih => rw [ih (fun i b hi => hs i b (by omega)), hs n _ (by omega)]; simp only [zsum]; rw [Int32.add_assoc]
theorem cl_thickOf {κ : zK} {h : zH} {j : Nat} {r : zRo} (K : cK κ h) (S : cS κ h j r) (x : Int32) : f_X8_thickOf [.inr (.inr (8, j)), .inl x] h = some (some (.inl (zsum (fun c => zi (tb x c) (r (3 + c)) 0) (kC κ))), h) := by
  have h7 := K.2.2.2.1
  rw [g_X8_thickOf]
  refine (zloopS (fun i b => zL p_X8_thickOf 4 [some (.inr (.inr (8, j))), some (.inl x), some (.inl b), some (.inl (nI i))] [] h) (fun c => zi (tb x c) (r (3 + c)) 0) (kC κ) (nI 0) (fun i b hi => ?_)).trans ?_
  · rw [e_X8_thickOf_4, K.2.2.1, zf_pos (nI_lt hi (by omega)), zfx (by omega) (by omega), nI_clamp (by omega), (S.2.2.2 i hi).2.1, nI_1, tb_f]
    by_cases e : tb x i
    · rw [zf_pos e, zi_pos e]
    · rw [zf_neg e, zi_neg e, Int32.add_zero]
  · rw [e_X8_thickOf_4, K.2.2.1, zf_neg (nI_nlt' (by omega)), nI_0, Int32.zero_add]
theorem cl_canPressAll {κ : zK} {h : zH} {j : Nat} {r : zRo} (K : cK κ h) (S : cS κ h j r) (x : Int32) : f_X8_canPressAll [.inr (.inr (8, j)), .inl x] h = some (some (.inl (zb (∀ c, c < kC κ → tb x c → 0 < r (3 + c) ∧ 0 < r (17 + c)))), h) := by
  have h7 := K.2.2.2.1
  rw [g_X8_canPressAll]
  refine (zloopX (fun i => zL p_X8_canPressAll 2 [some (.inr (.inr (8, j))), some (.inl x), some (.inl (nI i))] [] h) (fun c => tb x c ∧ ¬ (0 < r (3 + c) ∧ 0 < r (17 + c))) (some (some (.inl 0), h)) (some (some (.inl 1), h)) (kC κ) (fun i hi => ?_) ?_).trans ?_
  · have e4 := cl_can K S 4 (by omega) (nI i) zm1
    rw [e_X8_canPressAll_2, K.2.2.1, zf_pos (nI_lt hi (by omega)), tb_f, nI_1, show (4 : Int32) = nI 4 from rfl, e4, zci_ok, zf_b0]
    have ec : canR κ r 4 (nI i) zm1 ↔ (0 < r (3 + i) ∧ 0 < r (17 + i)) := by
      unfold canR
      rw [if_neg (by decide), if_neg (by decide), if_neg (by decide), if_pos rfl, nI_clamp (by omega)]
      exact ⟨fun q => q.2, fun q => ⟨isC_nI h7 hi, q⟩⟩
    rw [zfc ec, ← zf_not (c := 0 < r (3 + i) ∧ 0 < r (17 + i)), zf_and]
  · rw [e_X8_canPressAll_2, K.2.2.1, zf_neg (nI_nlt' (by omega))]
  · rw [zB01]
    refine zsI ⟨fun q c hc ht => Classical.byContradiction (fun z => q ⟨c, hc, ht, z⟩), fun q ⟨c, hc, ht, z⟩ => z (q c hc ht)⟩
theorem cl_isAnyFound {κ : zK} {h : zH} {j : Nat} {r : zRo} (K : cK κ h) (S : cS κ h j r) : f_X8_isAnyFound [.inr (.inr (8, j))] h = some (some (.inl (zb (∃ c, c < kC κ ∧ (¬ kPe κ c = zm1 ∧ ¬ kPe κ c < r (3 + c))))), h) := by
  have h7 := K.2.2.2.1
  rw [g_X8_isAnyFound]
  refine (zloopX (fun i => zL p_X8_isAnyFound 2 [some (.inr (.inr (8, j))), some (.inl (nI i))] [] h) (fun c => ¬ kPe κ c = zm1 ∧ ¬ kPe κ c < r (3 + c)) (some (some (.inl 1), h)) (some (some (.inl 0), h)) (kC κ) (fun i hi => ?_) ?_).trans ?_
  · rw [e_X8_isAnyFound_2, K.2.2.1, zf_pos (nI_lt hi (by omega)), cl_isFound K S hi, zci_ok, zf_b0, nI_1]
  · rw [e_X8_isAnyFound_2, K.2.2.1, zf_neg (nI_nlt' (by omega))]
  · rw [zB10]
/-! pairs -/
def war (κ : zK) (r : zRo) (a b : Nat) : Prop := ∃ c, c < kC κ ∧ 0 < r (3 + c) ∧ tb (r 2) c ∧ ((se κ c = a ∧ ow r c = b) ∨ (se κ c = b ∧ ow r c = a))
def usd (κ : zK) (r : zRo) (a b : Nat) : Prop := ∃ c, c < kC κ ∧ ow r c = a ∧ se κ c = b ∧ 0 < r (17 + c)
def ear (κ : zK) (r : zRo) (a b : Nat) : Prop := a ≠ b ∧ ¬ war κ r a b ∧ usd κ r a b ∧ usd κ r b a
theorem war.symm {κ : zK} {r : zRo} {a b : Nat} (q : war κ r a b) : war κ r b a := by
  obtain ⟨c, h1, h2, h3, h4⟩ := q; exact ⟨c, h1, h2, h3, h4.symm⟩
theorem ear.symm {κ : zK} {r : zRo} {a b : Nat} (q : ear κ r a b) : ear κ r b a := ⟨fun e => q.1 e.symm, fun w => q.2.1 w.symm, q.2.2.2, q.2.2.1⟩
/-- the bits of pairs -/
def pbits (x : Int32) (R : Nat → Nat → Prop) : Prop := ∀ i, i < 32 → (tb x i ↔ i < 25 ∧ R (i / 5) (i % 5))
theorem sp_pairBit {a b : Nat} (h : zH) : f_X8_pairBit [.inl (nI a), .inl (nI b)] h = some (some (.inl ((1 : Int32) <<< (nI (5 * a + b) &&& 31))), h) := by
  rw [g_X8_pairBit, show (5 : Int32) = nI 5 from rfl, pk_mul, nI_add, Nat.mul_comm a 5]
theorem and_one {x : Int32} {c : Nat} (hc : c < 32) : x &&& ((1 : Int32) <<< (nI c &&& 31)) = 0 ↔ ¬ tb x c := by
  constructor
  · intro e t
    have : tb (x &&& ((1 : Int32) <<< (nI c &&& 31))) c := (tb_and hc).mpr ⟨t, (tb_one hc hc).mpr rfl⟩
    rw [e] at this
    exact tb_zero hc this
  · intro t
    apply tb_ext
    intro i hi
    rw [tb_and hi, tb_one hc hi]
    exact ⟨fun q => absurd (q.2 ▸ q.1) t, fun q => absurd q (tb_zero hi)⟩
theorem sp_hasPair {x : Int32} {a b : Nat} (ha : a < 5) (hb : b < 5) (h : zH) : f_X8_hasPair [.inl x, .inl (nI a), .inl (nI b)] h = some (some (.inl (zb (tb x (5 * a + b)))), h) := by
  rw [g_X8_hasPair, sp_pairBit, zci_ok, zfc (and_one (by omega)), zf_not, zB10]
theorem sp_othersOf {x : Int32} {a : Nat} {R : Nat → Nat → Prop} (ha : a < 5) (hx : pbits x R) (h : zH) : f_X8_othersOf [.inl x, .inl (nI a)] h = some (some (.inl (zbits (fun q => R a q) 5)), h) := by
  rw [g_X8_othersOf, show (5 : Int32) = nI 5 from rfl, pk_mul]
  refine congrArg (fun z => some (some (Sum.inl z), h)) (zbits_of (by omega) (fun i hi => ?_))
  rw [tb_and hi]
  have e31 : tb (31 : Int32) i ↔ i < 5 := by
    rw [show (31 : Int32) = nI 31 from rfl, tb_nI hi]
    exact (by decide +kernel : ∀ i, i < 32 → ((31 : Nat).testBit i = true ↔ i < 5)) i hi
  rw [e31]
  by_cases h5 : i < 5
  · rw [tb_bt hi, b_sshr (a * 5) (by omega) x hi, if_pos (by omega), ← tb_bt (by omega), hx _ (by omega), show (a * 5 + i) / 5 = a by omega, show (a * 5 + i) % 5 = i by omega]
    exact ⟨fun q => ⟨h5, q.1.2⟩, fun q => ⟨⟨by omega, q.2⟩, h5⟩⟩
  · exact ⟨fun q => absurd q.2 h5, fun q => absurd q.1 h5⟩
theorem cl_warPairs {κ : zK} {h : zH} {j m : Nat} {r : zRo} (K : cK κ h) (S : cS κ h j r) (G : gK κ) (R : gR κ m r) : ∃ x, f_X8_warPairs [.inr (.inr (8, j))] h = some (some (.inl x), h) ∧ pbits x (fun a b => a ≠ b ∧ war κ r a b) := by
  have h7 := K.2.2.2.1
  have h5 := K.2.1
  rw [g_X8_warPairs, cl_warringCakes K S, zci_ok, ← nI_0]
  obtain ⟨x, e1, e2⟩ := zloopO (fun i b => zL p_X8_warPairs 9 [some (.inr (.inr (8, j))), some (.inl (zbits (fun c => 0 < r (3 + c) ∧ tb (r 2) c ∧ ¬ kSe κ c = r (10 + c)) (kC κ))), some (.inl b), some (.inl (nI i))] [] h)
    (fun c t => (0 < r (3 + c) ∧ tb (r 2) c ∧ ¬ kSe κ c = r (10 + c)) ∧ (t = 5 * ow r c + se κ c ∨ t = 5 * se κ c + ow r c)) (kC κ) (nI 0) (fun i b hi => by
      obtain ⟨o1, o2⟩ := R.own h5 hi
      obtain ⟨s1, s2⟩ := G.sen hi
      have st : zL p_X8_warPairs 9 [some (.inr (.inr (8, j))), some (.inl (zbits (fun c => 0 < r (3 + c) ∧ tb (r 2) c ∧ ¬ kSe κ c = r (10 + c)) (kC κ))), some (.inl b), some (.inl (nI i))] [] h = zf (tb (zbits (fun c => 0 < r (3 + c) ∧ tb (r 2) c ∧ ¬ kSe κ c = r (10 + c)) (kC κ)) i) (zL p_X8_warPairs 9 [some (.inr (.inr (8, j))), some (.inl (zbits (fun c => 0 < r (3 + c) ∧ tb (r 2) c ∧ ¬ kSe κ c = r (10 + c)) (kC κ))), some (.inl (b ||| (((1 : Int32) <<< (nI (5 * ow r i + se κ i) &&& 31)) ||| ((1 : Int32) <<< (nI (5 * se κ i + ow r i) &&& 31))))), some (.inl (nI (i + 1)))] [] h) (zL p_X8_warPairs 9 [some (.inr (.inr (8, j))), some (.inl (zbits (fun c => 0 < r (3 + c) ∧ tb (r 2) c ∧ ¬ kSe κ c = r (10 + c)) (kC κ))), some (.inl b), some (.inl (nI (i + 1)))] [] h) := by
        rw [e_X8_warPairs_9, K.2.2.1, zf_pos (nI_lt hi (by omega)), tb_f, nI_clamp (by omega), nI_1, (S.2.2.2 i hi).1, (K.2.2.2.2.2.2.1 i hi).1]
        simp only [zfx (show i < 7 by omega) (show 7 < 2 ^ 31 by omega)]
        rw [o2, s2, sp_pairBit, zci_ok, (S.2.2.2 i hi).1, (K.2.2.2.2.2.2.1 i hi).1, o2, s2, sp_pairBit, zci_ok]
      rw [st]
      by_cases e : 0 < r (3 + i) ∧ tb (r 2) i ∧ ¬ kSe κ i = r (10 + i)
      · rw [zf_pos ((tb_bits (by omega) (by omega)).mpr ⟨hi, e⟩)]
        refine ⟨_, rfl, fun t ht => ?_⟩
        rw [tb_or ht, tb_or ht, tb_one (by omega) ht, tb_one (by omega) ht]
        exact ⟨fun q => q.elim Or.inl (fun z => Or.inr ⟨e, z⟩), fun q => q.elim Or.inl (fun z => Or.inr z.2)⟩
      · rw [zf_neg (fun q => e ((tb_bits (by omega) (by omega)).mp q).2)]
        exact ⟨_, rfl, fun t ht => ⟨Or.inl, fun q => q.elim id (fun z => absurd z.1 e)⟩⟩)
  refine ⟨x, e1.trans ?_, fun t ht => ?_⟩
  · rw [e_X8_warPairs_9, K.2.2.1, zf_neg (nI_nlt' (by omega))]
  · rw [e2 t ht]
    constructor
    · rintro (q | ⟨c, hc, ⟨q1, q2, q3⟩, q4⟩)
      · exact absurd q (tb_zero ht)
      · obtain ⟨o1, o2⟩ := R.own h5 hc
        obtain ⟨s1, s2⟩ := G.sen hc
        have hne : se κ c ≠ ow r c := fun e => q3 (by rw [s2, o2, e])
        rcases q4 with q4 | q4
        · exact ⟨by omega, by omega, c, hc, q1, q2, Or.inr ⟨by omega, by omega⟩⟩
        · exact ⟨by omega, by omega, c, hc, q1, q2, Or.inl ⟨by omega, by omega⟩⟩
    · rintro ⟨h25, hne, c, hc, q1, q2, q4⟩
      obtain ⟨o1, o2⟩ := R.own h5 hc
      obtain ⟨s1, s2⟩ := G.sen hc
      refine Or.inr ⟨c, hc, ⟨q1, q2, fun e => ?_⟩, ?_⟩
      · rw [s2, o2, nI_eq (by omega) (by omega)] at e
        rcases q4 with q4 | q4 <;> omega
      · rcases q4 with q4 | q4
        · right; omega
        · left; omega
theorem cl_earnestPairs {κ : zK} {h : zH} {j m : Nat} {r : zRo} (K : cK κ h) (S : cS κ h j r) (G : gK κ) (R : gR κ m r) : ∃ x, f_X8_earnestPairs [.inr (.inr (8, j))] h = some (some (.inl x), h) ∧ pbits x (ear κ r) := by
  have h7 := K.2.2.2.1
  have h5 := K.2.1
  obtain ⟨w, w1, w2⟩ := cl_warPairs K S G R
  rw [g_X8_earnestPairs, ← nI_0]
  obtain ⟨x, e1, e2⟩ := zloopO (fun i b => zL p_X8_earnestPairs 4 [some (.inr (.inr (8, j))), some (.inl b), some (.inl (nI i)), none, none, none] [] h)
    (fun c t => 0 < r (17 + c) ∧ t = 5 * ow r c + se κ c) (kC κ) (nI 0) (fun i b hi => by
      rw [e_X8_earnestPairs_4, K.2.2.1, zf_pos (nI_lt hi (by omega)), nI_clamp (by omega), nI_1, (S.2.2.2 i hi).1, (S.2.2.2 i hi).2.2, (K.2.2.2.2.2.2.1 i hi).1]
      simp only [zfx (show i < 7 by omega) (show 7 < 2 ^ 31 by omega)]
      obtain ⟨o1, o2⟩ := R.own h5 hi
      obtain ⟨s1, s2⟩ := G.sen hi
      rw [o2, s2, sp_pairBit, zci_ok]
      by_cases e : 0 < r (17 + i)
      · rw [zf_pos e]
        refine ⟨_, rfl, fun t ht => ?_⟩
        rw [tb_or ht, tb_one (by omega) ht]
        exact ⟨fun q => q.elim Or.inl (fun z => Or.inr ⟨e, z⟩), fun q => q.elim Or.inl (fun z => Or.inr z.2)⟩
      · rw [zf_neg e]
        exact ⟨_, rfl, fun t ht => ⟨Or.inl, fun q => q.elim id (fun z => absurd z.1 e)⟩⟩)
  have e1 : zL p_X8_earnestPairs 4 [some (.inr (.inr (8, j))), some (.inl (nI 0)), some (.inl (nI 0)), none, none, none] [] h = _ := e1
  have px : pbits (x &&& (w ^^^ zm1)) (fun a b => usd κ r a b ∧ ¬ (a ≠ b ∧ war κ r a b)) := fun t ht => by
    rw [tb_and ht, tb_not ht, e2 t ht, w2 t ht]
    constructor
    · rintro ⟨q | ⟨c, hc, q1, q2⟩, q3⟩
      · exact absurd q (tb_zero ht)
      · obtain ⟨o1, o2⟩ := R.own h5 hc
        obtain ⟨s1, s2⟩ := G.sen hc
        exact ⟨by omega, ⟨c, hc, by omega, by omega, q1⟩, fun z => q3 ⟨by omega, z⟩⟩
    · rintro ⟨h25, ⟨c, hc, q1, q2, q3⟩, q4⟩
      exact ⟨Or.inr ⟨c, hc, q3, by omega⟩, fun z => q4 z.2⟩
  generalize hy : x &&& (w ^^^ zm1) = y at px
  have outer : ∀ a b o1 o5, zL p_X8_earnestPairs 65 [some (.inr (.inr (8, j))), o1, some (.inl y), some (.inl b), some (.inl a), o5] [] h = zL p_X8_earnestPairs 65 [some (.inr (.inr (8, j))), none, some (.inl y), some (.inl b), some (.inl a), none] [] h := fun a b o1 o5 => (e_X8_earnestPairs_65 _ _ _ _ _ _ _).trans (e_X8_earnestPairs_65 _ _ _ _ _ _ _).symm
  obtain ⟨z, f1, f2⟩ := zloopO (fun i b => zL p_X8_earnestPairs 65 [some (.inr (.inr (8, j))), none, some (.inl y), some (.inl b), some (.inl (nI i)), none] [] h)
    (fun a t => ∃ b, b < kP κ ∧ ear κ r a b ∧ t = 5 * a + b) (kP κ) (nI 0) (fun i b hi => by
      obtain ⟨b', g1, g2⟩ := zloopO (fun k b => zL p_X8_earnestPairs 80 [some (.inr (.inr (8, j))), none, some (.inl y), some (.inl b), some (.inl (nI i)), some (.inl (nI k))] [] h)
        (fun k t => ear κ r i k ∧ t = 5 * i + k) (kP κ) b (fun k b hk => by
          rw [e_X8_earnestPairs_80, K.1, zf_pos (nI_lt hk (by omega)), nI_1, sp_hasPair (by omega) (by omega), zci_ok, sp_hasPair (by omega) (by omega), zci_ok, sp_pairBit, zci_ok, zf_b0, zf_b0, zfc (nI_eq (by omega) (by omega))]
          have t1 : tb y (5 * i + k) ↔ usd κ r i k ∧ ¬ (i ≠ k ∧ war κ r i k) := by
            rw [px _ (by omega), show (5 * i + k) / 5 = i by omega, show (5 * i + k) % 5 = k by omega]
            exact ⟨fun q => q.2, fun q => ⟨by omega, q⟩⟩
          have t2 : tb y (5 * k + i) ↔ usd κ r k i ∧ ¬ (k ≠ i ∧ war κ r k i) := by
            rw [px _ (by omega), show (5 * k + i) / 5 = k by omega, show (5 * k + i) % 5 = i by omega]
            exact ⟨fun q => q.2, fun q => ⟨by omega, q⟩⟩
          by_cases e : ear κ r i k
          · obtain ⟨e0, e1, e2, e3⟩ := e
            rw [zf_neg e0, zf_pos (t1.mpr ⟨e2, fun z => e1 z.2⟩), zf_pos (t2.mpr ⟨e3, fun z => e1 z.2.symm⟩)]
            refine ⟨_, rfl, fun t ht => ?_⟩
            rw [tb_or ht, tb_one (by omega) ht]
            exact ⟨fun q => q.elim Or.inl (fun z => Or.inr ⟨⟨e0, e1, e2, e3⟩, z⟩), fun q => q.elim Or.inl (fun z => Or.inr z.2)⟩
          · refine ⟨b, ?_, fun t ht => ⟨Or.inl, fun q => q.elim id (fun z => absurd z.1 e)⟩⟩
            by_cases e0 : i = k
            · rw [zf_pos e0]
            · rw [zf_neg e0]
              by_cases e1 : tb y (5 * i + k)
              · rw [zf_pos e1]
                by_cases e2 : tb y (5 * k + i)
                · exact absurd ⟨e0, fun z => (t1.mp e1).2 ⟨e0, z⟩, (t1.mp e1).1, (t2.mp e2).1⟩ e
                · rw [zf_neg e2]
              · rw [zf_neg e1])
      rw [e_X8_earnestPairs_65, K.1, zf_pos (nI_lt hi (by omega)), ← nI_0]
      refine ⟨b', g1.trans ?_, fun t ht => ?_⟩
      · rw [e_X8_earnestPairs_80, K.1, zf_neg (nI_nlt' (by omega)), nI_1]; exact outer _ _ _ _
      · rw [g2 t ht])
  have f1 : zL p_X8_earnestPairs 65 [some (.inr (.inr (8, j))), none, some (.inl y), some (.inl (nI 0)), some (.inl (nI 0)), none] [] h = _ := f1
  refine ⟨z, ?_, fun t ht => ?_⟩
  · rw [e1, e_X8_earnestPairs_4, K.2.2.1, zf_neg (nI_nlt' (by omega)), w1, zci_ok, hy, ← nI_0, outer, f1, e_X8_earnestPairs_65, K.1, zf_neg (nI_nlt' (by omega))]
  · rw [f2 t ht]
    have lim : ∀ a b, ear κ r a b → a < kP κ ∧ b < kP κ := fun a b q => by
      obtain ⟨c, hc, u1, u2, -⟩ := q.2.2.1
      have := (R.own h5 hc).1
      have := (G.sen hc).1
      omega
    constructor
    · rintro (q | ⟨a, ha, b, hb, q1, q2⟩)
      · exact absurd q (tb_zero ht)
      · exact ⟨by omega, by rw [show t / 5 = a by omega, show t % 5 = b by omega]; exact q1⟩
    · rintro ⟨h25, q⟩
      have l := lim _ _ q
      exact Or.inr ⟨t / 5, l.1, t % 5, l.2, q, by omega⟩
theorem ear.lim {κ : zK} {m a b : Nat} {r : zRo} (G : gK κ) (R : gR κ m r) (q : ear κ r a b) : a < kP κ ∧ b < kP κ := by
  obtain ⟨c, hc, u1, u2, -⟩ := q.2.2.1
  have := (R.own G.1 hc).1
  have := (G.sen hc).1
  omega
theorem war.lim {κ : zK} {m a b : Nat} {r : zRo} (G : gK κ) (R : gR κ m r) (q : war κ r a b) : a < kP κ ∧ b < kP κ := by
  obtain ⟨c, hc, -, -, u⟩ := q
  have := (R.own G.1 hc).1
  have := (G.sen hc).1
  omega
theorem cl_foesOf {κ : zK} {h : zH} {j m a : Nat} {r : zRo} (K : cK κ h) (S : cS κ h j r) (G : gK κ) (R : gR κ m r) (ha : a < kP κ) : f_X8_foesOf [.inr (.inr (8, j)), .inl (nI a)] h = some (some (.inl (zbits (fun q => a ≠ q ∧ war κ r a q) (kP κ))), h) := by
  have h5 := K.2.1
  obtain ⟨w, w1, w2⟩ := cl_warPairs K S G R
  rw [g_X8_foesOf, w1, zci_ok, sp_othersOf (by omega) w2, zci_ok]
  exact congrArg (fun z => some (some (Sum.inl z), h)) (zbits_len h5 (by omega) (fun c h1 h2 q => by have := (q.2.lim G R).2; omega))
theorem cl_areInEarnest {κ : zK} {h : zH} {j m a b : Nat} {r : zRo} (K : cK κ h) (S : cS κ h j r) (G : gK κ) (R : gR κ m r) (ha : a < kP κ) (hb : b < kP κ) : f_X8_areInEarnest [.inr (.inr (8, j)), .inl (nI a), .inl (nI b)] h = some (some (.inl (zb (ear κ r a b))), h) := by
  have h5 := K.2.1
  obtain ⟨w, w1, w2⟩ := cl_earnestPairs K S G R
  rw [g_X8_areInEarnest, w1, zci_ok, sp_hasPair (by omega) (by omega), zci_ok, zf_b01]
  refine zsI ?_
  rw [w2 _ (by omega), show (5 * a + b) / 5 = a by omega, show (5 * a + b) % 5 = b by omega]
  exact ⟨fun q => q.2, fun q => ⟨by omega, q⟩⟩
/-- how many pairs, each told twice -/
noncomputable def pcnt (R : Nat → Nat → Prop) (P : Nat) : Nat := cnt9 (fun t => t < 25 ∧ R (t / 5) (t % 5)) 32
theorem cl_pairsAtWar {κ : zK} {h : zH} {j m : Nat} {r : zRo} (K : cK κ h) (S : cS κ h j r) (G : gK κ) (R : gR κ m r) : f_X8_pairsAtWar [.inr (.inr (8, j))] h = some (some (.inl (nI (pcnt (fun a b => a ≠ b ∧ war κ r a b) (kP κ) / 2))), h) := by
  obtain ⟨w, w1, w2⟩ := cl_warPairs K S G R
  rw [g_X8_pairsAtWar, w1, zci_ok, sj_bitCount, zci_ok, cnt9_congr (fun k hk => w2 k hk), show (2 : Int32) = nI 2 from rfl, pk_div _ (by omega) (by omega)]
  · rfl
  · exact Nat.lt_of_le_of_lt (cnt9_le _ _) (by omega)
theorem cl_pairsInEarnest {κ : zK} {h : zH} {j m : Nat} {r : zRo} (K : cK κ h) (S : cS κ h j r) (G : gK κ) (R : gR κ m r) : f_X8_pairsInEarnest [.inr (.inr (8, j))] h = some (some (.inl (nI (pcnt (ear κ r) (kP κ) / 2))), h) := by
  obtain ⟨w, w1, w2⟩ := cl_earnestPairs K S G R
  rw [g_X8_pairsInEarnest, w1, zci_ok, sj_bitCount, zci_ok, cnt9_congr (fun k hk => w2 k hk), show (2 : Int32) = nI 2 from rfl, pk_div _ (by omega) (by omega)]
  · rfl
  · exact Nat.lt_of_le_of_lt (cnt9_le _ _) (by omega)
