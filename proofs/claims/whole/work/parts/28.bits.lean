/-! Bits (the first family is the kit's BITS.to-paste). -/
def bt (x : Int32) (i : Nat) : Bool := x.toBitVec.getLsbD i
theorem b_ext {x y : Int32} (h : ∀ i, i < 32 → bt x i = bt y i) : x = y := Int32.toBitVec_inj.mp (BitVec.eq_of_getLsbD_eq (fun i hi => h i hi))
theorem b_or (x y : Int32) (i : Nat) : bt (x ||| y) i = (bt x i || bt y i) := by unfold bt; rw [Int32.toBitVec_or, BitVec.getLsbD_or]
theorem b_and (x y : Int32) (i : Nat) : bt (x &&& y) i = (bt x i && bt y i) := by unfold bt; rw [Int32.toBitVec_and, BitVec.getLsbD_and]
theorem b_xor (x y : Int32) (i : Nat) : bt (x ^^^ y) i = (bt x i ^^ bt y i) := by unfold bt; rw [Int32.toBitVec_xor, BitVec.getLsbD_xor]
theorem b_big {x : Int32} {i : Nat} (h : 32 ≤ i) : bt x i = false := BitVec.getLsbD_of_ge _ _ h
theorem b_255 (i : Nat) : bt 255 i = decide (i < 8) := by
  rcases Nat.lt_or_ge i 32 with h | h
  · exact (by decide +kernel : ∀ i, i < 32 → bt 255 i = decide (i < 8)) i h
  · rw [b_big h, decide_eq_false (by omega)]
theorem b_65535 (i : Nat) : bt 65535 i = decide (i < 16) := by
  rcases Nat.lt_or_ge i 32 with h | h
  · exact (by decide +kernel : ∀ i, i < 32 → bt 65535 i = decide (i < 16)) i h
  · rw [b_big h, decide_eq_false (by omega)]
theorem b_m1 : ∀ i, i < 32 → bt (-1) i = true := by decide +kernel
theorem b_0 (i : Nat) : bt 0 i = false := BitVec.getLsbD_zero
theorem s_l : ∀ n, n < 32 → ((nI n &&& 31).toBitVec.smod 32).toNat = n := by decide +kernel
theorem s_u : ∀ n, n < 32 → (((nI n).toUInt32 &&& Int32.toUInt32 31).toBitVec % 32).toNat = n := by decide +kernel
theorem b_shl (n : Nat) (hn : n < 32) (x : Int32) {i : Nat} (hi : i < 32) : bt (x <<< (nI n &&& 31)) i = (decide (n ≤ i) && bt x (i - n)) := by
  unfold bt
  rw [Int32.toBitVec_shiftLeft]
  show (x.toBitVec <<< ((nI n &&& 31).toBitVec.smod 32).toNat).getLsbD i = _
  rw [s_l n hn, BitVec.getLsbD_shiftLeft]
  rcases Nat.lt_or_ge i n with h | h
  · simp [h, Nat.not_le.mpr h]
  · simp [hi, h, Nat.not_lt.mpr h]
theorem b_ushr (n : Nat) (hn : n < 32) (x : Int32) (i : Nat) : bt ((x.toUInt32 >>> ((nI n).toUInt32 &&& Int32.toUInt32 31)).toInt32) i = bt x (n + i) := by
  show (x.toUInt32 >>> ((nI n).toUInt32 &&& Int32.toUInt32 31)).toBitVec.getLsbD i = x.toUInt32.toBitVec.getLsbD (n + i)
  rw [UInt32.toBitVec_shiftRight]
  show (x.toUInt32.toBitVec >>> (((nI n).toUInt32 &&& Int32.toUInt32 31).toBitVec % 32).toNat).getLsbD i = _
  rw [s_u n hn, BitVec.getLsbD_ushiftRight]
theorem b_sshr (n : Nat) (hn : n < 32) (x : Int32) {i : Nat} (hi : i < 32) : bt (x >>> (nI n &&& 31)) i = if n + i < 32 then bt x (n + i) else bt x 31 := by
  unfold bt
  rw [Int32.toBitVec_shiftRight]
  show (x.toBitVec.sshiftRight ((nI n &&& 31).toBitVec.smod 32).toNat).getLsbD i = _
  rw [s_l n hn, BitVec.getLsbD_sshiftRight, BitVec.msb_eq_getLsbD_last]
  simp [hi]
theorem nx_and (a b : Nat) : nI a &&& nI b = nI (a &&& b) := by
  apply Int32.toBitVec_inj.1
  show BitVec.ofNat 32 a &&& BitVec.ofNat 32 b = BitVec.ofNat 32 (a &&& b)
  apply BitVec.eq_of_getLsbD_eq
  intro i hi
  simp [hi]
theorem nx_xor (a b : Nat) : nI a ^^^ nI b = nI (a ^^^ b) := by
  apply Int32.toBitVec_inj.1
  show BitVec.ofNat 32 a ^^^ BitVec.ofNat 32 b = BitVec.ofNat 32 (a ^^^ b)
  apply BitVec.eq_of_getLsbD_eq
  intro i hi
  simp [hi]

/-! Numbers and bits: my own rows. -/
theorem vpI {n N : Nat} (hn : n < 2 ^ 31) : vp_in (nI n) N ↔ n < N := by
  rw [vp_in_iff, nI_toInt hn]; omega
theorem ltO {a b : Nat} (ha : a < 2 ^ 31) (hb : b < 2 ^ 31) : nI a < (OfNat.ofNat b : Int32) ↔ a < OfNat.ofNat b := nI_ltI (b := b) ha hb
theorem Olt {a b : Nat} (ha : a < 2 ^ 31) (hb : b < 2 ^ 31) : (OfNat.ofNat b : Int32) < nI a ↔ OfNat.ofNat b < a := nI_ltI (a := b) hb ha
theorem eqO {a b : Nat} (ha : a < 2 ^ 31) (hb : b < 2 ^ 31) : nI a = (OfNat.ofNat b : Int32) ↔ a = OfNat.ofNat b := nI_eq (b := b) ha hb
/-- an int that is a cake's, a power's number -/
theorem nI_have {x : Int32} {n : Nat} (h0 : ¬ x < 0) (h1 : x < nI n) (hn : n < 2 ^ 31) : ∃ c, c < n ∧ x = nI c := by
  obtain ⟨j, hj, rfl⟩ := nI_of h0
  exact ⟨j, (nI_ltI hj hn).mp h1, rfl⟩
theorem bt_nI {n : Nat} {i : Nat} (hi : i < 32) : bt (nI n) i = n.testBit i := by
  show (BitVec.ofNat 32 n).getLsbD i = _
  rw [BitVec.getLsbD_ofNat, decide_eq_true hi, Bool.true_and]
theorem bt_ofN (x : Int32) : x = nI x.toBitVec.toNat := by
  apply Int32.toBitVec_inj.1
  show x.toBitVec = BitVec.ofNat 32 x.toBitVec.toNat
  simp
theorem bt_toN (x : Int32) (i : Nat) : x.toBitVec.toNat.testBit i = bt x i := rfl
/-- bit c of x -/
def tb (x : Int32) (c : Nat) : Prop := (x >>> (nI c &&& 31)) &&& 1 = 1
theorem tb_f (x : Int32) (c : Nat) : ((x >>> (nI c &&& 31)) &&& 1 = 1) = tb x c := rfl
theorem b_1 : ∀ i, i < 32 → bt 1 i = decide (i = 0) := by decide +kernel
theorem b_and1 (y : Int32) : y &&& 1 = nI (bif bt y 0 then 1 else 0) := by
  apply b_ext
  intro i hi
  rw [b_and, b_1 i hi, bt_nI hi]
  by_cases e : i = 0
  · subst e; cases bt y 0 <;> decide
  · rw [decide_eq_false e, Bool.and_false]
    cases bt y 0
    · simp
    · simp only [cond_true]
      cases i with
      | zero => exact absurd rfl e
      | succ i => simp [Nat.testBit_succ]
theorem tb_bt {x : Int32} {c : Nat} (hc : c < 32) : tb x c ↔ bt x c = true := by
  unfold tb
  rw [b_and1, b_sshr c hc x (by omega), if_pos (by omega), Nat.add_zero]
  cases bt x c
  · exact ⟨fun q => absurd q (by decide), fun q => absurd q (by decide)⟩
  · exact ⟨fun _ => rfl, fun _ => rfl⟩
theorem tb_0 (x : Int32) (c : Nat) : ((x >>> (nI c &&& 31)) &&& 1 = 0) = ¬ tb x c := by
  unfold tb
  rw [b_and1]
  cases bt (x >>> (nI c &&& 31)) 0
  · exact propext ⟨fun _ => by decide, fun _ => rfl⟩
  · exact propext ⟨fun q => absurd q (by decide), fun q => absurd rfl q⟩
theorem tb_n (x : Int32) (c : Nat) : (x >>> (nI c &&& 31)) &&& 1 = nI (@ite _ (tb x c) (Classical.propDecidable _) 1 0) := by
  by_cases h : tb x c
  · rw [if_pos h]; exact h
  · rw [if_neg h]; exact (tb_0 x c).mpr h
/-- the bit c alone -/
theorem b_one {c i : Nat} (hc : c < 32) (hi : i < 32) : bt ((1 : Int32) <<< (nI c &&& 31)) i = decide (i = c) := by
  rw [b_shl c hc 1 hi]
  by_cases e : c ≤ i
  · rw [b_1 _ (by omega), decide_eq_true e, Bool.true_and]
    by_cases e2 : i = c
    · rw [decide_eq_true e2, decide_eq_true (by omega)]
    · rw [decide_eq_false e2, decide_eq_false (by omega)]
  · rw [decide_eq_false e, Bool.false_and, decide_eq_false (by omega)]
theorem b_not (x : Int32) {i : Nat} (hi : i < 32) : bt (x ^^^ zm1) i = !bt x i := by
  rw [b_xor, show zm1 = (-1 : Int32) from rfl, b_m1 i hi, Bool.xor_true]
theorem tb_bits {p : Nat → Prop} : ∀ {n i : Nat}, n ≤ 32 → i < 32 → (tb (zbits p n) i ↔ i < n ∧ p i) := by
  intro n
  induction n with
  | zero => intro i _ hi; rw [tb_bt hi, show zbits p 0 = 0 from rfl, b_0]; exact ⟨fun q => (by cases q), fun q => absurd q.1 (Nat.not_lt_zero i)⟩
  | succ n ih =>
    intro i hn hi
    have e : zbits p (n + 1) = @ite _ (p n) (Classical.propDecidable (p n)) (zbits p n ||| ((1 : Int32) <<< (nI n &&& 31))) (zbits p n) := rfl
    rw [e]
    by_cases hp : p n
    · rw [zite_pos hp, tb_bt hi, b_or, Bool.or_eq_true, ← tb_bt hi, ih (by omega) hi, b_one (by omega) hi, decide_eq_true_eq]
      constructor
      · rintro (q | q)
        · exact ⟨by omega, q.2⟩
        · subst q; exact ⟨by omega, hp⟩
      · rintro ⟨q1, q2⟩
        rcases Nat.lt_or_ge i n with q | q
        · exact Or.inl ⟨q, q2⟩
        · exact Or.inr (by omega)
    · rw [zite_neg hp, ih (by omega) hi]
      constructor
      · rintro ⟨q1, q2⟩; exact ⟨by omega, q2⟩
      · rintro ⟨q1, q2⟩
        rcases Nat.lt_or_ge i n with q | q
        · exact ⟨q, q2⟩
        · exact absurd (show p n by rw [show n = i by omega]; exact q2) hp
theorem tb_ext {x y : Int32} (h : ∀ i, i < 32 → (tb x i ↔ tb y i)) : x = y := by
  apply b_ext
  intro i hi
  have := h i hi
  rw [tb_bt hi, tb_bt hi] at this
  cases hx : bt x i <;> cases hy : bt y i <;> simp_all
theorem tb_or {x y : Int32} {i : Nat} (hi : i < 32) : tb (x ||| y) i ↔ tb x i ∨ tb y i := by
  rw [tb_bt hi, tb_bt hi, tb_bt hi, b_or, Bool.or_eq_true]
theorem tb_and {x y : Int32} {i : Nat} (hi : i < 32) : tb (x &&& y) i ↔ tb x i ∧ tb y i := by
  rw [tb_bt hi, tb_bt hi, tb_bt hi, b_and, Bool.and_eq_true]
theorem tb_not {x : Int32} {i : Nat} (hi : i < 32) : tb (x ^^^ zm1) i ↔ ¬ tb x i := by
  rw [tb_bt hi, tb_bt hi, b_not x hi]; simp
theorem tb_one {c i : Nat} (hc : c < 32) (hi : i < 32) : tb ((1 : Int32) <<< (nI c &&& 31)) i ↔ i = c := by
  rw [tb_bt hi, b_one hc hi]; simp
theorem tb_zero {i : Nat} (hi : i < 32) : ¬ tb 0 i := by
  rw [tb_bt hi, b_0]; simp
theorem tb_nI {n i : Nat} (hi : i < 32) : tb (nI n) i ↔ n.testBit i = true := by
  rw [tb_bt hi, bt_nI hi]
/-! how many: by a predicate -/
noncomputable def cnt9 (p : Nat → Prop) : Nat → Nat
  | 0 => 0
  | n + 1 => cnt9 p n + @ite _ (p n) (Classical.propDecidable _) 1 0
theorem cnt9_le (p : Nat → Prop) : ∀ n, cnt9 p n ≤ n
  | 0 => Nat.le_refl _
  | n + 1 => by
    have := cnt9_le p n
    simp only [cnt9]
    by_cases h : p n
    · rw [zite_pos h]; omega
    · rw [zite_neg h]; omega
theorem cnt9_congr {p q : Nat → Prop} : ∀ {n : Nat}, (∀ k, k < n → (p k ↔ q k)) → cnt9 p n = cnt9 q n
  | 0, _ => rfl
  | n + 1, h => by
    simp only [cnt9]
    rw [cnt9_congr (fun k hk => h k (by omega))]
    by_cases e : p n
    · rw [zite_pos e, zite_pos ((h n (by omega)).mp e)]
    · rw [zite_neg e, zite_neg (fun z => e ((h n (by omega)).mpr z))]
theorem cnt9_split (p : Nat → Prop) (m : Nat) : ∀ n, cnt9 p (m + n) = cnt9 p m + cnt9 (fun k => p (m + k)) n
  | 0 => rfl
  | n + 1 => by
    have := cnt9_split p m n
    show cnt9 p (m + n) + @ite _ (p (m + n)) (Classical.propDecidable _) 1 0 = cnt9 p m + (cnt9 (fun k => p (m + k)) n + @ite _ (p (m + n)) (Classical.propDecidable _) 1 0)
    rw [this, Nat.add_assoc]
theorem cnt9_none {p : Nat → Prop} : ∀ {n : Nat}, (∀ k, k < n → ¬ p k) → cnt9 p n = 0
  | 0, _ => rfl
  | n + 1, h => by
    simp only [cnt9]
    rw [cnt9_none (fun k hk => h k (by omega)), zite_neg (h n (by omega))]
theorem cnt9_mono {p q : Nat → Prop} : ∀ {n : Nat}, (∀ k, k < n → p k → q k) → cnt9 p n ≤ cnt9 q n
  | 0, _ => Nat.le_refl _
  | n + 1, h => by
    simp only [cnt9]
    have := cnt9_mono (n := n) (fun k hk => h k (by omega))
    by_cases e : p n
    · rw [zite_pos e, zite_pos (h n (by omega) e)]; omega
    · rw [zite_neg e]; omega
theorem cnt9_not (p : Nat → Prop) : ∀ n, cnt9 p n + cnt9 (fun k => ¬ p k) n = n
  | 0 => rfl
  | n + 1 => by
    have := cnt9_not p n
    simp only [cnt9]
    by_cases e : p n
    · rw [zite_pos e, zite_neg (fun z => z e)]; omega
    · rw [zite_neg e, zite_pos e]; omega
theorem cnt9_and (p q : Nat → Prop) : ∀ n, cnt9 (fun k => p k ∧ q k) n + cnt9 (fun k => p k ∧ ¬ q k) n = cnt9 p n
  | 0 => rfl
  | n + 1 => by
    have := cnt9_and p q n
    simp only [cnt9]
    by_cases e : p n
    · by_cases e2 : q n
      · rw [zite_pos ⟨e, e2⟩, zite_neg (fun z => z.2 e2), zite_pos e]; omega
      · rw [zite_neg (fun z => e2 z.2), zite_pos ⟨e, e2⟩, zite_pos e]; omega
    · rw [zite_neg (fun z => e z.1), zite_neg (fun z => e z.1), zite_neg e]; omega
/-! Integer.bitCount -/
theorem pc_cut {u v U w : Nat} (hv : v < 256) (hw : w < 256) : (256 * u + v) &&& (256 * U + w) = 256 * (u &&& U) + (v &&& w) := by
  apply Nat.eq_of_testBit_eq
  intro i
  have hvw : v &&& w < 2 ^ 8 := Nat.lt_of_le_of_lt Nat.and_le_left hv
  rw [Nat.testBit_and, show 256 * u + v = 2 ^ 8 * u + v from rfl, show 256 * U + w = 2 ^ 8 * U + w from rfl, show 256 * (u &&& U) + (v &&& w) = 2 ^ 8 * (u &&& U) + (v &&& w) from rfl, Nat.testBit_two_pow_mul_add _ (show v < 2 ^ 8 from hv), Nat.testBit_two_pow_mul_add _ (show w < 2 ^ 8 from hw), Nat.testBit_two_pow_mul_add _ hvw]
  by_cases e : i < 8
  · simp [e]
  · simp [e]
def pc1 (M n : Nat) : Nat := n - ((n / 2) &&& M)
def pc2 (M n : Nat) : Nat := (n &&& M) + ((n / 4) &&& M)
def pc3 (M n : Nat) : Nat := (n + n / 16) &&& M
theorem pc1_b : ∀ b, b < 256 → ∀ e, e < 2 → (128 * e + b / 2) &&& 85 = (b / 2) &&& 85 ∧ (b / 2) &&& 85 ≤ b ∧ b - ((b / 2) &&& 85) < 256 := by decide +kernel
theorem pc1_c {M a b : Nat} (hb : b < 256) (hM : (a / 2) &&& M ≤ a) : pc1 (256 * M + 85) (256 * a + b) = 256 * pc1 M a + pc1 85 b := by
  unfold pc1
  have h := pc1_b b hb (a % 2) (Nat.mod_lt _ (by omega))
  have e : (256 * a + b) / 2 = 256 * (a / 2) + (128 * (a % 2) + b / 2) := by omega
  rw [e, pc_cut (by omega) (by omega), h.1]
  omega
theorem pc1_l (M a : Nat) : (a / 2) &&& M ≤ a := Nat.le_trans Nat.and_le_left (Nat.div_le_self _ _)
theorem pc2_b : ∀ b, b < 256 → ∀ e, e < 4 → (64 * e + b / 4) &&& 51 = (b / 4) &&& 51 := by decide +kernel
theorem pc2_c {M a b : Nat} (hb : b < 256) : pc2 (256 * M + 51) (256 * a + b) = 256 * pc2 M a + pc2 51 b := by
  unfold pc2
  have h := pc2_b b hb (a % 4) (Nat.mod_lt _ (by omega))
  have e : (256 * a + b) / 4 = 256 * (a / 4) + (64 * (a % 4) + b / 4) := by omega
  rw [e, pc_cut (by omega) (by omega), pc_cut (by omega) (by omega), h]
  omega
theorem pc3_b : ∀ b, b < 69 → ∀ e, e < 5 → (b + (16 * e + b / 16)) &&& 15 = (b + b / 16) &&& 15 := by decide +kernel
theorem pc3_c {M a b : Nat} (hb : b < 69) (ha : a % 16 < 5) : pc3 (256 * M + 15) (256 * a + b) = 256 * pc3 M a + pc3 15 b := by
  unfold pc3
  have h := pc3_b b hb (a % 16) ha
  have e : 256 * a + b + (256 * a + b) / 16 = 256 * (a + a / 16) + (b + (16 * (a % 16) + b / 16)) := by omega
  rw [e, pc_cut (by omega) (by omega), h]
theorem pc_B : ∀ b, b < 256 → pc1 85 b < 256 ∧ pc2 51 (pc1 85 b) < 69 ∧ pc2 51 (pc1 85 b) % 16 < 5 ∧ pc3 15 (pc2 51 (pc1 85 b)) = (b % 2) + (b / 2 % 2) + (b / 4 % 2) + (b / 8 % 2) + (b / 16 % 2) + (b / 32 % 2) + (b / 64 % 2) + (b / 128 % 2) := by decide +kernel
def pcF (b : Nat) : Nat := pc3 15 (pc2 51 (pc1 85 b))
theorem pc_nat {b0 b1 b2 b3 : Nat} (h0 : b0 < 256) (h1 : b1 < 256) (h2 : b2 < 256) (h3 : b3 < 256) : pc3 252645135 (pc2 858993459 (pc1 1431655765 (256 * (256 * (256 * b3 + b2) + b1) + b0))) = 256 * (256 * (256 * pcF b3 + pcF b2) + pcF b1) + pcF b0 := by
  have c0 := pc_B b0 h0
  have c1 := pc_B b1 h1
  have c2 := pc_B b2 h2
  have c3 := pc_B b3 h3
  rw [show (1431655765 : Nat) = 256 * (256 * (256 * 85 + 85) + 85) + 85 from rfl, pc1_c h0 (pc1_l _ _), pc1_c h1 (pc1_l _ _), pc1_c h2 (pc1_l _ _)]
  rw [show (858993459 : Nat) = 256 * (256 * (256 * 51 + 51) + 51) + 51 from rfl, pc2_c c0.1, pc2_c c1.1, pc2_c c2.1]
  rw [show (252645135 : Nat) = 256 * (256 * (256 * 15 + 15) + 15) + 15 from rfl, pc3_c c0.2.1 (by omega), pc3_c c1.2.1 (by omega), pc3_c c2.2.1 (by omega)]
  rfl
theorem pcF_bits {b : Nat} (h : b < 256) : pcF b = cnt9 (fun i => b.testBit i = true) 8 := by
  have c := (pc_B b h).2.2.2
  unfold pcF
  rw [c]
  have e : ∀ i, @ite Nat (b.testBit i = true) (Classical.propDecidable _) 1 0 = b / 2 ^ i % 2 := by
    intro i
    rcases Nat.mod_two_eq_zero_or_one (b / 2 ^ i) with q | q
    · rw [zite_neg (by rw [Nat.testBit_eq_decide_div_mod_eq, decide_eq_true_eq]; omega), q]
    · rw [zite_pos (by rw [Nat.testBit_eq_decide_div_mod_eq, decide_eq_true_eq]; exact q), q]
  simp only [cnt9, e]
  omega
theorem pc_sum {f0 f1 f2 f3 : Nat} (h0 : f0 ≤ 8) (h1 : f1 ≤ 8) (h2 : f2 ≤ 8) (h3 : f3 ≤ 8) (y z : Nat) (hy : y = 256 * (256 * (256 * f3 + f2) + f1) + f0) (hz : z = y + y / 256) : (z + z / 65536) % 64 = f0 + f1 + f2 + f3 := by
  have h1' : y / 256 = 256 * (256 * f3 + f2) + f1 := by omega
  have h2' : z / 65536 = 256 * f3 + (f2 + f3) := by omega
  omega
theorem bt_div {b0 a : Nat} (h0 : b0 < 256) (i : Nat) : (256 * a + b0).testBit i = if i < 8 then b0.testBit i else a.testBit (i - 8) := by
  rw [show 256 * a + b0 = 2 ^ 8 * a + b0 from rfl, Nat.testBit_two_pow_mul_add _ (show b0 < 2 ^ 8 from h0)]
theorem cnt9_byte {b0 a n : Nat} (h0 : b0 < 256) : cnt9 (fun i => (256 * a + b0).testBit i = true) (8 + n) = cnt9 (fun i => b0.testBit i = true) 8 + cnt9 (fun i => a.testBit i = true) n := by
  rw [cnt9_split]
  congr 1
  · exact cnt9_congr (fun k hk => by rw [bt_div h0, if_pos hk])
  · exact cnt9_congr (fun k hk => by rw [bt_div h0, if_neg (by omega), show 8 + k - 8 = k by omega])
/-- Integer.bitCount tells how many bits there are -/
theorem sj_bitCount (x : Int32) (h : zH) : f_J6_bitCount [.inl x] h = some (some (.inl (nI (cnt9 (fun i => tb x i) 32))), h) := by
  have key : ∀ n, n < 2 ^ 32 → f_J6_bitCount [.inl (nI n)] h = some (some (.inl (nI (cnt9 (fun i => n.testBit i = true) 32))), h) := by
    intro n hn
    have e1 : nI n - (((nI n).toUInt32 >>> ((1 : Int32).toUInt32 &&& Int32.toUInt32 31)).toInt32 &&& (1431655765 : Int32)) = nI (pc1 1431655765 n) := by
      rw [pk_ushrN hn 1 1 (by decide +kernel), show (1431655765 : Int32) = nI 1431655765 from rfl, nx_and, pk_sub (by rw [Nat.pow_one]; exact pc1_l _ _)]
      rfl
    have e2 : ∀ m, m < 2 ^ 32 → (nI m &&& (858993459 : Int32)) + (((nI m).toUInt32 >>> ((2 : Int32).toUInt32 &&& Int32.toUInt32 31)).toInt32 &&& (858993459 : Int32)) = nI (pc2 858993459 m) := by
      intro m hm
      rw [pk_ushrN hm 2 2 (by decide +kernel), show (858993459 : Int32) = nI 858993459 from rfl, nx_and, nx_and, nI_add]
      rfl
    have e3 : ∀ m, m < 2 ^ 32 → (nI m + ((nI m).toUInt32 >>> ((4 : Int32).toUInt32 &&& Int32.toUInt32 31)).toInt32) &&& (252645135 : Int32) = nI (pc3 252645135 m) := by
      intro m hm
      rw [pk_ushrN hm 4 4 (by decide +kernel), show (252645135 : Int32) = nI 252645135 from rfl, nI_add, nx_and]
      rfl
    have e4 : ∀ m, m < 2 ^ 32 → nI m + ((nI m).toUInt32 >>> ((8 : Int32).toUInt32 &&& Int32.toUInt32 31)).toInt32 = nI (m + m / 256) := by
      intro m hm
      rw [pk_ushrN hm 8 8 (by decide +kernel), nI_add]
    have e5 : ∀ m, m < 2 ^ 32 → nI m + ((nI m).toUInt32 >>> ((16 : Int32).toUInt32 &&& Int32.toUInt32 31)).toInt32 = nI (m + m / 65536) := by
      intro m hm
      rw [pk_ushrN hm 16 16 (by decide +kernel), nI_add]
    have e6 : ∀ m, nI m &&& (63 : Int32) = nI (m % 64) := by
      intro m
      rw [show (63 : Int32) = nI 63 from rfl, nx_and, show (63 : Nat) = 2 ^ 6 - 1 from rfl, Nat.and_two_pow_sub_one_eq_mod]
    have l1 : pc1 1431655765 n < 2 ^ 32 := Nat.lt_of_le_of_lt (Nat.sub_le _ _) hn
    have l2 : pc2 858993459 (pc1 1431655765 n) < 2 ^ 32 := by
      unfold pc2
      have a1 : (pc1 1431655765 n &&& 858993459) ≤ 858993459 := Nat.and_le_right
      have a2 : (pc1 1431655765 n / 4 &&& 858993459) ≤ 858993459 := Nat.and_le_right
      omega
    have l3 : pc3 252645135 (pc2 858993459 (pc1 1431655765 n)) ≤ 252645135 := Nat.and_le_right
    rw [g_J6_bitCount, e1, e2 _ l1, e3 _ l2, e4 _ (by omega), e5 _ (by omega), e6]
    have hb : n = 256 * (256 * (256 * (n / 16777216) + n / 65536 % 256) + n / 256 % 256) + n % 256 := by omega
    have b0 : n % 256 < 256 := by omega
    have b1 : n / 256 % 256 < 256 := by omega
    have b2 : n / 65536 % 256 < 256 := by omega
    have b3 : n / 16777216 < 256 := by omega
    generalize n % 256 = c0 at hb b0
    generalize n / 256 % 256 = c1 at hb b1
    generalize n / 65536 % 256 = c2 at hb b2
    generalize n / 16777216 = c3 at hb b3
    have f : ∀ b, b < 256 → pcF b ≤ 8 := fun b hb => by rw [pcF_bits hb]; exact cnt9_le _ 8
    rw [hb, pc_sum (f c0 b0) (f c1 b1) (f c2 b2) (f c3 b3) _ _ (pc_nat b0 b1 b2 b3) rfl]
    rw [show (32 : Nat) = 8 + (8 + (8 + 8)) from rfl, cnt9_byte b0, cnt9_byte b1, cnt9_byte b2, ← pcF_bits b0, ← pcF_bits b1, ← pcF_bits b2, ← pcF_bits b3]
    simp only [Nat.add_assoc]
  have e := key x.toBitVec.toNat x.toBitVec.isLt
  rw [← bt_ofN x] at e
  rw [e]
  exact congrArg (fun z => some (some (Sum.inl (nI z)), h)) (cnt9_congr (fun k hk => by rw [tb_bt hk]; rfl))
