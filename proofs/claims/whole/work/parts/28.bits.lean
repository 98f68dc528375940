/-! Bits (the first family is the kit's BITS.to-paste). -/
def bt (x : Int32) (i : Nat) : Bool := x.toBitVec.getLsbD i
theorem b_ext {x y : Int32} (h : ∀ i, i < 32 → bt x i = bt y i) : x = y := Int32.toBitVec_inj.mp (BitVec.eq_of_getLsbD_eq (fun i hi => h i hi))
theorem b_or (x y : Int32) (i : Nat) : bt (x ||| y) i = (bt x i || bt y i) := by unfold bt; rw [Int32.toBitVec_or, BitVec.getLsbD_or]
theorem b_and (x y : Int32) (i : Nat) : bt (x &&& y) i = (bt x i && bt y i) := by unfold bt; rw [Int32.toBitVec_and, BitVec.getLsbD_and]
theorem b_xor (x y : Int32) (i : Nat) : bt (x ^^^ y) i = (bt x i ^^ bt y i) := by unfold bt; rw [Int32.toBitVec_xor, BitVec.getLsbD_xor]
theorem b_big {x : Int32} {i : Nat} (h : 32 ≤ i) : bt x i = false := BitVec.getLsbD_of_ge _ _ h
theorem b_255 (i : Nat) : bt 255 i = decide (i < 8) := by
  rcases Nat.lt_or_ge i 32 with h | h
  · exact (by decide +kernel : ∀ i, i < 32 → bt 255 i = decide (i < 8)) i h
  · rw [b_big h, decide_eq_false (by omega)]
theorem b_65535 (i : Nat) : bt 65535 i = decide (i < 16) := by
  rcases Nat.lt_or_ge i 32 with h | h
  · exact (by decide +kernel : ∀ i, i < 32 → bt 65535 i = decide (i < 16)) i h
  · rw [b_big h, decide_eq_false (by omega)]
theorem b_m1 : ∀ i, i < 32 → bt (-1) i = true := by decide +kernel
theorem b_0 (i : Nat) : bt 0 i = false := BitVec.getLsbD_zero
theorem s_l : ∀ n, n < 32 → ((nI n &&& 31).toBitVec.smod 32).toNat = n := by decide +kernel
theorem s_u : ∀ n, n < 32 → (((nI n).toUInt32 &&& Int32.toUInt32 31).toBitVec % 32).toNat = n := by decide +kernel
theorem b_shl (n : Nat) (hn : n < 32) (x : Int32) {i : Nat} (hi : i < 32) : bt (x <<< (nI n &&& 31)) i = (decide (n ≤ i) && bt x (i - n)) := by
  unfold bt
  rw [Int32.toBitVec_shiftLeft]
  show (x.toBitVec <<< ((nI n &&& 31).toBitVec.smod 32).toNat).getLsbD i = _
  rw [s_l n hn, BitVec.getLsbD_shiftLeft]
  rcases Nat.lt_or_ge i n with h | h
  · simp [h, Nat.not_le.mpr h]
  · simp [hi, h, Nat.not_lt.mpr h]
theorem b_ushr (n : Nat) (hn : n < 32) (x : Int32) (i : Nat) : bt ((x.toUInt32 >>> ((nI n).toUInt32 &&& Int32.toUInt32 31)).toInt32) i = bt x (n + i) := by
  show (x.toUInt32 >>> ((nI n).toUInt32 &&& Int32.toUInt32 31)).toBitVec.getLsbD i = x.toUInt32.toBitVec.getLsbD (n + i)
  rw [UInt32.toBitVec_shiftRight]
  show (x.toUInt32.toBitVec >>> (((nI n).toUInt32 &&& Int32.toUInt32 31).toBitVec % 32).toNat).getLsbD i = _
  rw [s_u n hn, BitVec.getLsbD_ushiftRight]
theorem b_sshr (n : Nat) (hn : n < 32) (x : Int32) {i : Nat} (hi : i < 32) : bt (x >>> (nI n &&& 31)) i = if n + i < 32 then bt x (n + i) else bt x 31 := by
  unfold bt
  rw [Int32.toBitVec_shiftRight]
  show (x.toBitVec.sshiftRight ((nI n &&& 31).toBitVec.smod 32).toNat).getLsbD i = _
  rw [s_l n hn, BitVec.getLsbD_sshiftRight, BitVec.msb_eq_getLsbD_last]
  simp [hi]
theorem nx_and (a b : Nat) : nI a &&& nI b = nI (a &&& b) := by
  apply Int32.toBitVec_inj.1
  show BitVec.ofNat 32 a &&& BitVec.ofNat 32 b = BitVec.ofNat 32 (a &&& b)
  apply BitVec.eq_of_getLsbD_eq
  intro i hi
  simp [hi]
theorem nx_xor (a b : Nat) : nI a ^^^ nI b = nI (a ^^^ b) := by
  apply Int32.toBitVec_inj.1
  show BitVec.ofNat 32 a ^^^ BitVec.ofNat 32 b = BitVec.ofNat 32 (a ^^^ b)
  apply BitVec.eq_of_getLsbD_eq
  intro i hi
  simp [hi]

/-! Numbers and bits: my own rows. -/
theorem vpI {n N : Nat} (hn : n < 2 ^ 31) : vp_in (nI n) N ↔ n < N := by
  rw [vp_in_iff, nI_toInt hn]; omega
theorem ltO {a b : Nat} (ha : a < 2 ^ 31) (hb : b < 2 ^ 31) : nI a < (OfNat.ofNat b : Int32) ↔ a < OfNat.ofNat b := nI_ltI (b := b) ha hb
theorem Olt {a b : Nat} (ha : a < 2 ^ 31) (hb : b < 2 ^ 31) : (OfNat.ofNat b : Int32) < nI a ↔ OfNat.ofNat b < a := nI_ltI (a := b) hb ha
theorem eqO {a b : Nat} (ha : a < 2 ^ 31) (hb : b < 2 ^ 31) : nI a = (OfNat.ofNat b : Int32) ↔ a = OfNat.ofNat b := nI_eq (b := b) ha hb
/-- an int that is a cake's, a power's number -/
theorem nI_have {x : Int32} {n : Nat} (h0 : ¬ x < 0) (h1 : x < nI n) (hn : n < 2 ^ 31) : ∃ c, c < n ∧ x = nI c := by
  obtain ⟨j, hj, rfl⟩ := nI_of h0
  exact ⟨j, (nI_ltI hj hn).mp h1, rfl⟩
theorem bt_nI {n : Nat} {i : Nat} (hi : i < 32) : bt (nI n) i = n.testBit i := by
  show (BitVec.ofNat 32 n).getLsbD i = _
  rw [BitVec.getLsbD_ofNat, decide_eq_true hi, Bool.true_and]
theorem bt_ofN (x : Int32) : x = nI x.toBitVec.toNat := by
  apply Int32.toBitVec_inj.1
  show x.toBitVec = BitVec.ofNat 32 x.toBitVec.toNat
  simp
theorem bt_toN (x : Int32) (i : Nat) : x.toBitVec.toNat.testBit i = bt x i := rfl
/-- bit c of x -/
def tb (x : Int32) (c : Nat) : Prop := (x >>> (nI c &&& 31)) &&& 1 = 1
theorem tb_f (x : Int32) (c : Nat) : ((x >>> (nI c &&& 31)) &&& 1 = 1) = tb x c := rfl
theorem b_1 : ∀ i, i < 32 → bt 1 i = decide (i = 0) := by decide +kernel
theorem b_and1 (y : Int32) : y &&& 1 = nI (bif bt y 0 then 1 else 0) := by
  apply b_ext
  intro i hi
  rw [b_and, b_1 i hi, bt_nI hi]
  by_cases e : i = 0
  · subst e; cases bt y 0 <;> decide
  · rw [decide_eq_false e, Bool.and_false]
    cases bt y 0
    · simp
    · simp only [cond_true]
      cases i with
      | zero => exact absurd rfl e
      | succ i => simp [Nat.testBit_succ]
theorem tb_bt {x : Int32} {c : Nat} (hc : c < 32) : tb x c ↔ bt x c = true := by
  unfold tb
  rw [b_and1, b_sshr c hc x (by omega), if_pos (by omega), Nat.add_zero]
  cases bt x c
  · exact ⟨fun q => absurd q (by decide), fun q => absurd q (by decide)⟩
  · exact ⟨fun _ => rfl, fun _ => rfl⟩
theorem tb_0 (x : Int32) (c : Nat) : ((x >>> (nI c &&& 31)) &&& 1 = 0) = ¬ tb x c := by
  unfold tb
  rw [b_and1]
  cases bt (x >>> (nI c &&& 31)) 0
  · exact propext ⟨fun _ => by decide, fun _ => rfl⟩
  · exact propext ⟨fun q => absurd q (by decide), fun q => absurd rfl q⟩
theorem tb_n (x : Int32) (c : Nat) : (x >>> (nI c &&& 31)) &&& 1 = nI (@ite _ (tb x c) (Classical.propDecidable _) 1 0) := by
  by_cases h : tb x c
  · rw [if_pos h]; exact h
  · rw [if_neg h]; exact (tb_0 x c).mpr h
/-- the bit c alone -/
theorem b_one {c i : Nat} (hc : c < 32) (hi : i < 32) : bt ((1 : Int32) <<< (nI c &&& 31)) i = decide (i = c) := by
  rw [b_shl c hc 1 hi]
  by_cases e : c ≤ i
  · rw [b_1 _ (by omega), decide_eq_true e, Bool.true_and]
    by_cases e2 : i = c
    · rw [decide_eq_true e2, decide_eq_true (by omega)]
    · rw [decide_eq_false e2, decide_eq_false (by omega)]
  · rw [decide_eq_false e, Bool.false_and, decide_eq_false (by omega)]
theorem b_not (x : Int32) {i : Nat} (hi : i < 32) : bt (x ^^^ zm1) i = !bt x i := by
  rw [b_xor, show zm1 = (-1 : Int32) from rfl, b_m1 i hi, Bool.xor_true]
theorem tb_bits {p : Nat → Prop} : ∀ {n i : Nat}, n ≤ 32 → i < 32 → (tb (zbits p n) i ↔ i < n ∧ p i) := by
  intro n
  induction n with
  | zero => intro i _ hi; rw [tb_bt hi, show zbits p 0 = 0 from rfl, b_0]; exact ⟨fun q => (by cases q), fun q => absurd q.1 (Nat.not_lt_zero i)⟩
  | succ n ih =>
    intro i hn hi
    have e : zbits p (n + 1) = @ite _ (p n) (Classical.propDecidable (p n)) (zbits p n ||| ((1 : Int32) <<< (nI n &&& 31))) (zbits p n) := rfl
    rw [e]
    by_cases hp : p n
    · rw [zite_pos hp, tb_bt hi, b_or, Bool.or_eq_true, ← tb_bt hi, ih (by omega) hi, b_one (by omega) hi, decide_eq_true_eq]
      constructor
      · rintro (q | q)
        · exact ⟨by omega, q.2⟩
        · subst q; exact ⟨by omega, hp⟩
      · rintro ⟨q1, q2⟩
        rcases Nat.lt_or_ge i n with q | q
        · exact Or.inl ⟨q, q2⟩
        · exact Or.inr (by omega)
    · rw [zite_neg hp, ih (by omega) hi]
      constructor
      · rintro ⟨q1, q2⟩; exact ⟨by omega, q2⟩
      · rintro ⟨q1, q2⟩
        rcases Nat.lt_or_ge i n with q | q
        · exact ⟨q, q2⟩
        · exact absurd (show p n by rw [show n = i by omega]; exact q2) hp
theorem tb_ext {x y : Int32} (h : ∀ i, i < 32 → (tb x i ↔ tb y i)) : x = y := by
  apply b_ext
  intro i hi
  have := h i hi
  rw [tb_bt hi, tb_bt hi] at this
  cases hx : bt x i <;> cases hy : bt y i <;> simp_all
theorem tb_or {x y : Int32} {i : Nat} (hi : i < 32) : tb (x ||| y) i ↔ tb x i ∨ tb y i := by
  rw [tb_bt hi, tb_bt hi, tb_bt hi, b_or, Bool.or_eq_true]
theorem tb_and {x y : Int32} {i : Nat} (hi : i < 32) : tb (x &&& y) i ↔ tb x i ∧ tb y i := by
  rw [tb_bt hi, tb_bt hi, tb_bt hi, b_and, Bool.and_eq_true]
theorem tb_not {x : Int32} {i : Nat} (hi : i < 32) : tb (x ^^^ zm1) i ↔ ¬ tb x i := by
  rw [tb_bt hi, tb_bt hi, b_not x hi]; simp
theorem tb_one {c i : Nat} (hc : c < 32) (hi : i < 32) : tb ((1 : Int32) <<< (nI c &&& 31)) i ↔ i = c := by
  rw [tb_bt hi, b_one hc hi]; simp
theorem tb_zero {i : Nat} (hi : i < 32) : ¬ tb 0 i := by
  rw [tb_bt hi, b_0]; simp
theorem tb_nI {n i : Nat} (hi : i < 32) : tb (nI n) i ↔ n.testBit i = true := by
  rw [tb_bt hi, bt_nI hi]
/-! how many: by a predicate -/
noncomputable def cnt9 (p : Nat → Prop) : Nat → Nat
  | 0 => 0
  | n + 1 => cnt9 p n + @ite _ (p n) (Classical.propDecidable _) 1 0
theorem cnt9_le (p : Nat → Prop) : ∀ n, cnt9 p n ≤ n
  | 0 => Nat.le_refl _
  | n + 1 => by
    have := cnt9_le p n
    simp only [cnt9]
    by_cases h : p n
    · rw [zite_pos h]; omega
    · rw [zite_neg h]; omega
theorem cnt9_congr {p q : Nat → Prop} : ∀ {n : Nat}, (∀ k, k < n → (p k ↔ q k)) → cnt9 p n = cnt9 q n
  | 0, _ => rfl
  | n + 1, h => by
    simp only [cnt9]
    rw [cnt9_congr (fun k hk => h k (by omega))]
    by_cases e : p n
    · rw [zite_pos e, zite_pos ((h n (by omega)).mp e)]
    · rw [zite_neg e, zite_neg (fun z => e ((h n (by omega)).mpr z))]
theorem cnt9_split (p : Nat → Prop) (m : Nat) : ∀ n, cnt9 p (m + n) = cnt9 p m + cnt9 (fun k => p (m + k)) n
  | 0 => rfl
  | n + 1 => by
    have := cnt9_split p m n
    show cnt9 p (m + n) + @ite _ (p (m + n)) (Classical.propDecidable _) 1 0 = cnt9 p m + (cnt9 (fun k => p (m + k)) n + @ite _ (p (m + n)) (Classical.propDecidable _) 1 0)
    rw [this, Nat.add_assoc]
theorem cnt9_none {p : Nat → Prop} : ∀ {n : Nat}, (∀ k, k < n → ¬ p k) → cnt9 p n = 0
  | 0, _ => rfl
  | n + 1, h => by
    simp only [cnt9]
    rw [cnt9_none (fun k hk => h k (by omega)), zite_neg (h n (by omega))]
theorem cnt9_mono {p q : Nat → Prop} : ∀ {n : Nat}, (∀ k, k < n → p k → q k) → cnt9 p n ≤ cnt9 q n
  | 0, _ => Nat.le_refl _
  | n + 1, h => by
    simp only [cnt9]
    have := cnt9_mono (n := n) (fun k hk => h k (by omega))
    by_cases e : p n
    · rw [zite_pos e, zite_pos (h n (by omega) e)]; omega
    · rw [zite_neg e]; omega
theorem cnt9_not (p : Nat → Prop) : ∀ n, cnt9 p n + cnt9 (fun k => ¬ p k) n = n
  | 0 => rfl
  | n + 1 => by
    have := cnt9_not p n
    simp only [cnt9]
    by_cases e : p n
    · rw [zite_pos e, zite_neg (fun z => z e)]; omega
    · rw [zite_neg e, zite_pos e]; omega
theorem cnt9_and (p q : Nat → Prop) : ∀ n, cnt9 (fun k => p k ∧ q k) n + cnt9 (fun k => p k ∧ ¬ q k) n = cnt9 p n
  | 0 => rfl
  | n + 1 => by
    have := cnt9_and p q n
    simp only [cnt9]
    by_cases e : p n
    · by_cases e2 : q n
      · rw [zite_pos ⟨e, e2⟩, zite_neg (fun z => z.2 e2), zite_pos e]; omega
      · rw [zite_neg (fun z => e2 z.2), zite_pos ⟨e, e2⟩, zite_pos e]; omega
    · rw [zite_neg (fun z => e z.1), zite_neg (fun z => e z.1), zite_neg e]; omega
