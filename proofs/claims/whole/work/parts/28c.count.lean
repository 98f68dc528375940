theorem pc_cut {u v U w : Nat} (hv : v < 256) (hw : w < 256) : (256 * u + v) &&& (256 * U + w) = 256 * (u &&& U) + (v &&& w) := by
  apply Nat.eq_of_testBit_eq
  intro i
  have hvw : v &&& w < 2 ^ 8 := Nat.lt_of_le_of_lt Nat.and_le_left hv
  rw [Nat.testBit_and, show 256 * u + v = 2 ^ 8 * u + v from rfl, show 256 * U + w = 2 ^ 8 * U + w from rfl, show 256 * (u &&& U) + (v &&& w) = 2 ^ 8 * (u &&& U) + (v &&& w) from rfl, Nat.testBit_two_pow_mul_add _ (show v < 2 ^ 8 from hv), Nat.testBit_two_pow_mul_add _ (show w < 2 ^ 8 from hw), Nat.testBit_two_pow_mul_add _ hvw]
  by_cases e : i < 8
  · simp [e]
  · simp [e]
def pc1 (M n : Nat) : Nat := n - ((n / 2) &&& M)
def pc2 (M n : Nat) : Nat := (n &&& M) + ((n / 4) &&& M)
def pc3 (M n : Nat) : Nat := (n + n / 16) &&& M
theorem pc1_b : ∀ b, b < 256 → ∀ e, e < 2 → (128 * e + b / 2) &&& 85 = (b / 2) &&& 85 ∧ (b / 2) &&& 85 ≤ b ∧ b - ((b / 2) &&& 85) < 256 := by decide +kernel
theorem pc1_c {M a b : Nat} (hb : b < 256) (hM : (a / 2) &&& M ≤ a) : pc1 (256 * M + 85) (256 * a + b) = 256 * pc1 M a + pc1 85 b := by
  unfold pc1
  have h := pc1_b b hb (a % 2) (Nat.mod_lt _ (by omega))
  have e : (256 * a + b) / 2 = 256 * (a / 2) + (128 * (a % 2) + b / 2) := by omega
  rw [e, pc_cut (by omega) (by omega), h.1]
  omega
theorem pc1_l (M a : Nat) : (a / 2) &&& M ≤ a := Nat.le_trans Nat.and_le_left (Nat.div_le_self _ _)
theorem pc2_b : ∀ b, b < 256 → ∀ e, e < 4 → (64 * e + b / 4) &&& 51 = (b / 4) &&& 51 := by decide +kernel
theorem pc2_c {M a b : Nat} (hb : b < 256) : pc2 (256 * M + 51) (256 * a + b) = 256 * pc2 M a + pc2 51 b := by
  unfold pc2
  have h := pc2_b b hb (a % 4) (Nat.mod_lt _ (by omega))
  have e : (256 * a + b) / 4 = 256 * (a / 4) + (64 * (a % 4) + b / 4) := by omega
  rw [e, pc_cut (by omega) (by omega), pc_cut (by omega) (by omega), h]
  omega
theorem pc3_b : ∀ b, b < 69 → ∀ e, e < 5 → (b + (16 * e + b / 16)) &&& 15 = (b + b / 16) &&& 15 := by decide +kernel
theorem pc3_c {M a b : Nat} (hb : b < 69) (ha : a % 16 < 5) : pc3 (256 * M + 15) (256 * a + b) = 256 * pc3 M a + pc3 15 b := by
  unfold pc3
  have h := pc3_b b hb (a % 16) ha
  have e : 256 * a + b + (256 * a + b) / 16 = 256 * (a + a / 16) + (b + (16 * (a % 16) + b / 16)) := by omega
  rw [e, pc_cut (by omega) (by omega), h]
theorem pc_B : ∀ b, b < 256 → pc1 85 b < 256 ∧ pc2 51 (pc1 85 b) < 69 ∧ pc2 51 (pc1 85 b) % 16 < 5 ∧ pc3 15 (pc2 51 (pc1 85 b)) = (b % 2) + (b / 2 % 2) + (b / 4 % 2) + (b / 8 % 2) + (b / 16 % 2) + (b / 32 % 2) + (b / 64 % 2) + (b / 128 % 2) := by decide +kernel
def pcF (b : Nat) : Nat := pc3 15 (pc2 51 (pc1 85 b))
theorem pc_gen {A A1 A2 B B1 B2 C C1 C2 b0 b1 b2 b3 : Nat} (hA : A = 256 * A1 + 85) (hA1 : A1 = 256 * A2 + 85) (hA2 : A2 = 256 * 85 + 85) (hB : B = 256 * B1 + 51) (hB1 : B1 = 256 * B2 + 51) (hB2 : B2 = 256 * 51 + 51) (hC : C = 256 * C1 + 15) (hC1 : C1 = 256 * C2 + 15) (hC2 : C2 = 256 * 15 + 15) (h0 : b0 < 256) (h1 : b1 < 256) (h2 : b2 < 256) (h3 : b3 < 256) : pc3 C (pc2 B (pc1 A (256 * (256 * (256 * b3 + b2) + b1) + b0))) = 256 * (256 * (256 * pcF b3 + pcF b2) + pcF b1) + pcF b0 := by
  have c0 := pc_B b0 h0
  have c1 := pc_B b1 h1
  have c2 := pc_B b2 h2
  have c3 := pc_B b3 h3
  rw [hA, pc1_c h0 (pc1_l _ _), hA1, pc1_c h1 (pc1_l _ _), hA2, pc1_c (M := 85) h2 (pc1_l _ _)]
  rw [hB, pc2_c c0.1, hB1, pc2_c c1.1, hB2, pc2_c (M := 51) c2.1]
  have p0 := c0.2.1
  have p1 := c1.2.1
  have p2 := c2.2.1
  have q1 := c1.2.2.1
  have q2 := c2.2.2.1
  have q3 := c3.2.2.1
  unfold pcF
  generalize pc2 51 (pc1 85 b0) = d0 at *
  generalize pc2 51 (pc1 85 b1) = d1 at *
  generalize pc2 51 (pc1 85 b2) = d2 at *
  generalize pc2 51 (pc1 85 b3) = d3 at *
  rw [hC, pc3_c p0 (by omega), hC1, pc3_c p1 (by omega), hC2, pc3_c (M := 15) p2 (by omega)]
theorem pcF_bits {b : Nat} (h : b < 256) : pcF b = cnt9 (fun i => b.testBit i = true) 8 := by
  have c := (pc_B b h).2.2.2
  unfold pcF
  rw [c]
  have e : ∀ i, @ite Nat (b.testBit i = true) (Classical.propDecidable _) 1 0 = b / 2 ^ i % 2 := by
    intro i
    rcases Nat.mod_two_eq_zero_or_one (b / 2 ^ i) with q | q
    · rw [zite_neg (by rw [Nat.testBit_eq_decide_div_mod_eq, decide_eq_true_eq]; omega), q]
    · rw [zite_pos (by rw [Nat.testBit_eq_decide_div_mod_eq, decide_eq_true_eq]; exact q), q]
  simp only [cnt9, e, Nat.reducePow, Nat.div_one, Nat.zero_add]
theorem pc_sum {f0 f1 f2 f3 : Nat} (h0 : f0 ≤ 8) (h1 : f1 ≤ 8) (h2 : f2 ≤ 8) (h3 : f3 ≤ 8) (y z : Nat) (hy : y = 256 * (256 * (256 * f3 + f2) + f1) + f0) (hz : z = y + y / 256) : (z + z / 65536) % 64 = f0 + f1 + f2 + f3 := by
  have h1' : y / 256 = 256 * (256 * f3 + f2) + f1 := by omega
  have h2' : z / 65536 = 256 * f3 + (f2 + f3) := by omega
  omega
theorem bt_div {b0 a : Nat} (h0 : b0 < 256) (i : Nat) : (256 * a + b0).testBit i = if i < 8 then b0.testBit i else a.testBit (i - 8) := by
  rw [show 256 * a + b0 = 2 ^ 8 * a + b0 from rfl, Nat.testBit_two_pow_mul_add _ (show b0 < 2 ^ 8 from h0)]
theorem cnt9_byte {b0 a n : Nat} (h0 : b0 < 256) : cnt9 (fun i => (256 * a + b0).testBit i = true) (8 + n) = cnt9 (fun i => b0.testBit i = true) 8 + cnt9 (fun i => a.testBit i = true) n := by
  rw [cnt9_split]
  congr 1
  · exact cnt9_congr (fun k hk => by rw [bt_div h0, if_pos hk])
  · exact cnt9_congr (fun k hk => by rw [bt_div h0, if_neg (by omega), show 8 + k - 8 = k by omega])
theorem m55 : (1431655765 : Int32) = nI 1431655765 := by decide +kernel
theorem m33 : (858993459 : Int32) = nI 858993459 := by decide +kernel
theorem m0f : (252645135 : Int32) = nI 252645135 := by decide +kernel
/-- the walk of bitCount, with any masks -/
theorem bc_walk {A B C n : Nat} (hn : n < 2 ^ 32) (hB : B < 1000000000) (hC : C < 1000000000) : ((nI (pc3 C (pc2 B (pc1 A n))) + ((nI (pc3 C (pc2 B (pc1 A n)))).toUInt32 >>> ((8 : Int32).toUInt32 &&& Int32.toUInt32 31)).toInt32) = nI (pc3 C (pc2 B (pc1 A n)) + pc3 C (pc2 B (pc1 A n)) / 256)) ∧ nI n - (((nI n).toUInt32 >>> ((1 : Int32).toUInt32 &&& Int32.toUInt32 31)).toInt32 &&& nI A) = nI (pc1 A n) ∧ (nI (pc1 A n) &&& nI B) + (((nI (pc1 A n)).toUInt32 >>> ((2 : Int32).toUInt32 &&& Int32.toUInt32 31)).toInt32 &&& nI B) = nI (pc2 B (pc1 A n)) ∧ (nI (pc2 B (pc1 A n)) + ((nI (pc2 B (pc1 A n))).toUInt32 >>> ((4 : Int32).toUInt32 &&& Int32.toUInt32 31)).toInt32) &&& nI C = nI (pc3 C (pc2 B (pc1 A n))) := by
  have l1 : pc1 A n < 2 ^ 32 := Nat.lt_of_le_of_lt (Nat.sub_le _ _) hn
  have l2 : pc2 B (pc1 A n) < 2 ^ 32 := by
    unfold pc2
    have a1 : (pc1 A n &&& B) ≤ B := Nat.and_le_right
    have a2 : (pc1 A n / 4 &&& B) ≤ B := Nat.and_le_right
    omega
  have l3 : pc3 C (pc2 B (pc1 A n)) < 2 ^ 32 := by
    have : pc3 C (pc2 B (pc1 A n)) ≤ C := Nat.and_le_right
    omega
  refine ⟨?_, ?_, ?_, ?_⟩
  · rw [pk_ushrN l3 8 8 (by decide +kernel), nI_add]
  · rw [pk_ushrN hn 1 1 (by decide +kernel), nx_and, pk_sub (by rw [Nat.pow_one]; exact pc1_l _ _), Nat.pow_one]; rfl
  · rw [pk_ushrN l1 2 2 (by decide +kernel), nx_and, nx_and, nI_add]; rfl
  · rw [pk_ushrN l2 4 4 (by decide +kernel), nI_add, nx_and]; rfl
theorem bc_fin {A A1 A2 B B1 B2 C C1 C2 n : Nat} (hA : A = 256 * A1 + 85) (hA1 : A1 = 256 * A2 + 85) (hA2 : A2 = 256 * 85 + 85) (hB : B = 256 * B1 + 51) (hB1 : B1 = 256 * B2 + 51) (hB2 : B2 = 256 * 51 + 51) (hC : C = 256 * C1 + 15) (hC1 : C1 = 256 * C2 + 15) (hC2 : C2 = 256 * 15 + 15) (hn : n < 2 ^ 32) (y z : Nat) (hy : y = pc3 C (pc2 B (pc1 A n))) (hz : z = y + y / 256) : (z + z / 65536) % 64 = cnt9 (fun i => n.testBit i = true) 32 := by
  have hb : n = 256 * (256 * (256 * (n / 16777216) + n / 65536 % 256) + n / 256 % 256) + n % 256 := by omega
  have b0 : n % 256 < 256 := by omega
  have b1 : n / 256 % 256 < 256 := by omega
  have b2 : n / 65536 % 256 < 256 := by omega
  have b3 : n / 16777216 < 256 := by omega
  generalize n % 256 = c0 at hb b0
  generalize n / 256 % 256 = c1 at hb b1
  generalize n / 65536 % 256 = c2 at hb b2
  generalize n / 16777216 = c3 at hb b3
  have f : ∀ b, b < 256 → pcF b ≤ 8 := fun b hb => by rw [pcF_bits hb]; exact cnt9_le _ 8
  have hy2 : y = 256 * (256 * (256 * pcF c3 + pcF c2) + pcF c1) + pcF c0 := by rw [hy, hb]; exact pc_gen hA hA1 hA2 hB hB1 hB2 hC hC1 hC2 b0 b1 b2 b3
  rw [pc_sum (f c0 b0) (f c1 b1) (f c2 b2) (f c3 b3) y z hy2 hz, hb, show (32 : Nat) = 8 + (8 + (8 + 8)) from rfl, cnt9_byte b0, cnt9_byte b1, cnt9_byte b2, ← pcF_bits b0, ← pcF_bits b1, ← pcF_bits b2, ← pcF_bits b3]
  omega
theorem sj_bitCount (x : Int32) (h : zH) : f_J6_bitCount [.inl x] h = some (some (.inl (nI (cnt9 (fun i => tb x i) 32))), h) := by
  have key : ∀ n, n < 2 ^ 32 → f_J6_bitCount [.inl (nI n)] h = some (some (.inl (nI (cnt9 (fun i => n.testBit i = true) 32))), h) := by
    intro n hn
    rw [g_J6_bitCount, m55, m33, m0f]
    have A1 : ∃ A A1 A2 : Nat, A = 1431655765 ∧ A = 256 * A1 + 85 ∧ A1 = 256 * A2 + 85 ∧ A2 = 256 * 85 + 85 := ⟨1431655765, 5592405, 21845, by decide, by decide, by decide, by decide⟩
    have B1 : ∃ B B1 B2 : Nat, B = 858993459 ∧ B = 256 * B1 + 51 ∧ B1 = 256 * B2 + 51 ∧ B2 = 256 * 51 + 51 := ⟨858993459, 3355443, 13107, by decide, by decide, by decide, by decide⟩
    have C1 : ∃ C C1 C2 : Nat, C = 252645135 ∧ C = 256 * C1 + 15 ∧ C1 = 256 * C2 + 15 ∧ C2 = 256 * 15 + 15 := ⟨252645135, 986895, 3855, by decide, by decide, by decide, by decide⟩
    obtain ⟨A, A1, A2, a0, a1, a2, a3⟩ := A1
    obtain ⟨B, B1, B2, b0, b1, b2, b3⟩ := B1
    obtain ⟨C, C1, C2, c0, c1, c2, c3⟩ := C1
    rw [← a0, ← b0, ← c0]
    obtain ⟨w1, w2, w3, w4⟩ := bc_walk (A := A) (B := B) (C := C) hn (by omega) (by omega)
    rw [w2, w3, w4, w1]
    have l3 : pc3 C (pc2 B (pc1 A n)) ≤ C := Nat.and_le_right
    have fin := bc_fin a1 a2 a3 b1 b2 b3 c1 c2 c3 hn (pc3 C (pc2 B (pc1 A n))) _ rfl rfl
    generalize pc3 C (pc2 B (pc1 A n)) = y at *
    have lz : y + y / 256 < 2 ^ 32 := by omega
    rw [pk_ushrN lz 16 16 (by decide +kernel), nI_add, show (63 : Int32) = nI 63 from rfl, nx_and, show (63 : Nat) = 2 ^ 6 - 1 from rfl, Nat.and_two_pow_sub_one_eq_mod]
    exact congrArg (fun z => some (some (Sum.inl (nI z)), h)) fin
  have e := key x.toBitVec.toNat x.toBitVec.isLt
  rw [← bt_ofN x] at e
  rw [e]
  exact congrArg (fun z => some (some (Sum.inl (nI z)), h)) (cnt9_congr (fun k hk => by rw [tb_bt hk]; rfl))
