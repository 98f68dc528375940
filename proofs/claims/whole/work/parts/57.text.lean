/-! Texts and their tokens. -/
noncomputable def zn (P : Prop) (x y : Nat) : Nat := @ite _ P (Classical.propDecidable P) x y
theorem zn_pos {P : Prop} {x y : Nat} (h : P) : zn P x y = x := if_pos h
theorem zn_neg {P : Prop} {x y : Nat} (h : ¬ P) : zn P x y = y := if_neg h
abbrev zTx : Type := Nat × (Nat → Nat)
def isBl (s : Nat) : Prop := s = 10 ∨ s = 32
def isLt (s : Nat) : Prop := 97 ≤ s ∧ s ≤ 122
def isDg (s : Nat) : Prop := 48 ≤ s ∧ s ≤ 57
def isSg (s : Nat) : Prop := (40 ≤ s ∧ s ≤ 43) ∨ s = 45 ∨ (59 ≤ s ∧ s ≤ 61)
/-- a text: at most 1,000 signs -/
def okT (T : zTx) : Prop := T.1 ≤ 1000 ∧ ∀ k, k < T.1 → okS (T.2 k)
noncomputable def runE (T : zTx) (p : Nat → Prop) (a : Nat) : Nat := a + fst9 (T.1 - a) (fun i => ¬ p (T.2 (a + i)))
theorem runE_ge {T : zTx} {p : Nat → Prop} {a : Nat} : a ≤ runE T p a := Nat.le_add_right _ _
theorem runE_le {T : zTx} {p : Nat → Prop} {a : Nat} (h : a ≤ T.1) : runE T p a ≤ T.1 := by
  unfold runE; have := fst9_le (T.1 - a) (fun i => ¬ p (T.2 (a + i))); omega
theorem runE_in {T : zTx} {p : Nat → Prop} {a k : Nat} (h1 : a ≤ k) (h2 : k < runE T p a) : p (T.2 k) := by
  unfold runE at h2
  have := fst9_not (T.1 - a) (fun i => ¬ p (T.2 (a + i))) (k - a) (by omega)
  rw [show a + (k - a) = k by omega] at this
  exact Classical.byContradiction this
theorem runE_out {T : zTx} {p : Nat → Prop} {a : Nat} (h : runE T p a < T.1) : ¬ p (T.2 (runE T p a)) := by
  unfold runE at h ⊢
  exact fst9_is (T.1 - a) (fun i => ¬ p (T.2 (a + i))) (by omega)
theorem runE_gt {T : zTx} {p : Nat → Prop} {a : Nat} (h : a < T.1) (hp : p (T.2 a)) : a < runE T p a := by
  rcases Nat.lt_or_ge a (runE T p a) with q | q
  · exact q
  · have e : runE T p a = a := Nat.le_antisymm q runE_ge
    exact absurd hp (by have := runE_out (T := T) (p := p) (a := a) (by omega); rw [e] at this; exact this)
/-- where the token from p on begins, its kind (0 none, 1 word, 2 number, 3 sign, 4 none of these), where it ends -/
noncomputable def kB (T : zTx) (p : Nat) : Nat := runE T isBl p
noncomputable def kK (T : zTx) (p : Nat) : Nat := zn (kB T p = T.1) 0 (zn (isLt (T.2 (kB T p))) (zn (8 < runE T isLt (kB T p) - kB T p) 4 1) (zn (isDg (T.2 (kB T p))) (zn (4 < runE T isDg (kB T p) - kB T p) 4 2) (zn (isSg (T.2 (kB T p))) 3 4)))
noncomputable def kE (T : zTx) (p : Nat) : Nat := zn (kB T p = T.1) (kB T p) (zn (isLt (T.2 (kB T p))) (runE T isLt (kB T p)) (zn (isDg (T.2 (kB T p))) (runE T isDg (kB T p)) (kB T p + 1)))
def wl (T : zTx) (b k : Nat) : List Nat := (List.range k).map (fun i => T.2 (b + i) - 96)
theorem wl_s {T : zTx} {b k : Nat} : wl T b (k + 1) = wl T b k ++ [T.2 (b + k) - 96] := by
  unfold wl; rw [List.range_succ, List.map_append]; rfl
theorem wl_len {T : zTx} {b k : Nat} : (wl T b k).length = k := by unfold wl; simp
def nl (T : zTx) (b : Nat) : Nat → Nat
  | 0 => 0
  | k + 1 => nl T b k * 10 + (T.2 (b + k) - 48)
/-- a word's letters, which of the spelt ones it is (27: another), a number -/
noncomputable def kW (T : zTx) (p : Nat) : List Nat := wl T (kB T p) (runE T isLt (kB T p) - kB T p)
noncomputable def kI (T : zTx) (p : Nat) : Nat := fst9 27 (fun i => kws.getD i [] = kW T p)
noncomputable def kN (T : zTx) (p : Nat) : Nat := nl T (kB T p) (runE T isDg (kB T p) - kB T p)
theorem kB_le {T : zTx} {p : Nat} (h : p ≤ T.1) : kB T p ≤ T.1 := runE_le h
theorem kB_ge {T : zTx} {p : Nat} : p ≤ kB T p := runE_ge
theorem kE_le {T : zTx} {p : Nat} (h : p ≤ T.1) : kE T p ≤ T.1 := by
  have hb := kB_le h
  unfold kE
  by_cases e : kB T p = T.1
  · rw [zn_pos e]; exact hb
  · rw [zn_neg e]
    by_cases e1 : isLt (T.2 (kB T p))
    · rw [zn_pos e1]; exact runE_le hb
    · rw [zn_neg e1]
      by_cases e2 : isDg (T.2 (kB T p))
      · rw [zn_pos e2]; exact runE_le hb
      · rw [zn_neg e2]; omega
theorem kK_0 {T : zTx} {p : Nat} : kK T p = 0 ↔ kB T p = T.1 := by
  unfold kK
  by_cases e : kB T p = T.1
  · rw [zn_pos e]; exact ⟨fun _ => e, fun _ => rfl⟩
  · rw [zn_neg e]
    refine ⟨fun z => ?_, fun z => absurd z e⟩
    by_cases e1 : isLt (T.2 (kB T p))
    · rw [zn_pos e1] at z
      by_cases e3 : 8 < runE T isLt (kB T p) - kB T p
      · rw [zn_pos e3] at z; omega
      · rw [zn_neg e3] at z; omega
    · rw [zn_neg e1] at z
      by_cases e2 : isDg (T.2 (kB T p))
      · rw [zn_pos e2] at z
        by_cases e3 : 4 < runE T isDg (kB T p) - kB T p
        · rw [zn_pos e3] at z; omega
        · rw [zn_neg e3] at z; omega
      · rw [zn_neg e2] at z
        by_cases e3 : isSg (T.2 (kB T p))
        · rw [zn_pos e3] at z; omega
        · rw [zn_neg e3] at z; omega
/-- a token that is one is behind the place where it was looked for -/
theorem kE_gt {T : zTx} {p : Nat} (h : p ≤ T.1) (hk : kK T p ≠ 0) : kB T p < kE T p := by
  have hb := kB_le h
  have e : ¬ kB T p = T.1 := fun z => hk (kK_0.mpr z)
  have lt : kB T p < T.1 := by omega
  unfold kE
  rw [zn_neg e]
  by_cases e1 : isLt (T.2 (kB T p))
  · rw [zn_pos e1]; exact runE_gt lt e1
  · rw [zn_neg e1]
    by_cases e2 : isDg (T.2 (kB T p))
    · rw [zn_pos e2]; exact runE_gt lt e2
    · rw [zn_neg e2]; omega
theorem kK_1 {T : zTx} {p : Nat} (hp : p ≤ T.1) (h : kK T p = 1) : kB T p < T.1 ∧ isLt (T.2 (kB T p)) ∧ runE T isLt (kB T p) - kB T p ≤ 8 ∧ kE T p = runE T isLt (kB T p) := by
  have hb := kB_le hp
  have e : ¬ kB T p = T.1 := fun z => by have := kK_0.mpr z; omega
  unfold kK at h
  unfold kE
  rw [zn_neg e] at h ⊢
  by_cases e1 : isLt (T.2 (kB T p))
  · rw [zn_pos e1] at h ⊢
    by_cases e3 : 8 < runE T isLt (kB T p) - kB T p
    · rw [zn_pos e3] at h; omega
    · exact ⟨by omega, e1, by omega, rfl⟩
  · rw [zn_neg e1] at h
    by_cases e2 : isDg (T.2 (kB T p))
    · rw [zn_pos e2] at h
      by_cases e3 : 4 < runE T isDg (kB T p) - kB T p
      · rw [zn_pos e3] at h; omega
      · rw [zn_neg e3] at h; omega
    · rw [zn_neg e2] at h
      by_cases e3 : isSg (T.2 (kB T p))
      · rw [zn_pos e3] at h; omega
      · rw [zn_neg e3] at h; omega
theorem kK_2 {T : zTx} {p : Nat} (hp : p ≤ T.1) (h : kK T p = 2) : kB T p < T.1 ∧ ¬ isLt (T.2 (kB T p)) ∧ isDg (T.2 (kB T p)) ∧ runE T isDg (kB T p) - kB T p ≤ 4 ∧ kE T p = runE T isDg (kB T p) := by
  have hb := kB_le hp
  have e : ¬ kB T p = T.1 := fun z => by have := kK_0.mpr z; omega
  unfold kK at h
  unfold kE
  rw [zn_neg e] at h ⊢
  by_cases e1 : isLt (T.2 (kB T p))
  · rw [zn_pos e1] at h
    by_cases e3 : 8 < runE T isLt (kB T p) - kB T p
    · rw [zn_pos e3] at h; omega
    · rw [zn_neg e3] at h; omega
  · rw [zn_neg e1] at h ⊢
    by_cases e2 : isDg (T.2 (kB T p))
    · rw [zn_pos e2] at h ⊢
      by_cases e3 : 4 < runE T isDg (kB T p) - kB T p
      · rw [zn_pos e3] at h; omega
      · exact ⟨by omega, e1, e2, by omega, rfl⟩
    · rw [zn_neg e2] at h
      by_cases e3 : isSg (T.2 (kB T p))
      · rw [zn_pos e3] at h; omega
      · rw [zn_neg e3] at h; omega
theorem kK_3 {T : zTx} {p : Nat} (hp : p ≤ T.1) (h : kK T p = 3) : kB T p < T.1 ∧ isSg (T.2 (kB T p)) ∧ kE T p = kB T p + 1 := by
  have hb := kB_le hp
  have e : ¬ kB T p = T.1 := fun z => by have := kK_0.mpr z; omega
  unfold kK at h
  unfold kE
  rw [zn_neg e] at h ⊢
  by_cases e1 : isLt (T.2 (kB T p))
  · rw [zn_pos e1] at h
    by_cases e3 : 8 < runE T isLt (kB T p) - kB T p
    · rw [zn_pos e3] at h; omega
    · rw [zn_neg e3] at h; omega
  · rw [zn_neg e1] at h ⊢
    by_cases e2 : isDg (T.2 (kB T p))
    · rw [zn_pos e2] at h
      by_cases e3 : 4 < runE T isDg (kB T p) - kB T p
      · rw [zn_pos e3] at h; omega
      · rw [zn_neg e3] at h; omega
    · rw [zn_neg e2] at h ⊢
      by_cases e3 : isSg (T.2 (kB T p))
      · exact ⟨by omega, e3, rfl⟩
      · rw [zn_neg e3] at h; omega
theorem kK_le {T : zTx} {p : Nat} : kK T p ≤ 4 := by
  unfold kK
  by_cases e : kB T p = T.1
  · rw [zn_pos e]; omega
  · rw [zn_neg e]
    by_cases e1 : isLt (T.2 (kB T p))
    · rw [zn_pos e1]
      by_cases e3 : 8 < runE T isLt (kB T p) - kB T p
      · rw [zn_pos e3]; omega
      · rw [zn_neg e3]; omega
    · rw [zn_neg e1]
      by_cases e2 : isDg (T.2 (kB T p))
      · rw [zn_pos e2]
        by_cases e3 : 4 < runE T isDg (kB T p) - kB T p
        · rw [zn_pos e3]; omega
        · rw [zn_neg e3]; omega
      · rw [zn_neg e2]
        by_cases e3 : isSg (T.2 (kB T p))
        · rw [zn_pos e3]; omega
        · rw [zn_neg e3]; omega
/-! words as numbers -/
theorem enc_s {b : Nat} {w : List Nat} {x : Nat} : enc b (w ++ [x]) = enc b w * b + x := by unfold enc; rw [List.foldl_append]; rfl
theorem snoc9 (w : List Nat) : w = [] ∨ ∃ v x, w = v ++ [x] := by
  rcases List.eq_nil_or_concat w with e | ⟨v, x, e⟩
  · exact Or.inl e
  · exact Or.inr ⟨v, x, by rw [e, List.concat_eq_append]⟩
theorem enc_lt {b : Nat} (hb : 27 ≤ b) : ∀ (n : Nat) (w : List Nat), w.length = n → (∀ x ∈ w, 1 ≤ x ∧ x ≤ 26) → enc b w < b ^ n
  | 0, w, h, _ => by rw [List.length_eq_zero_iff.mp h]; show 0 < b ^ 0; exact Nat.one_pos
  | n + 1, w, h, hw => by
    rcases snoc9 w with e | ⟨v, x, e⟩
    · rw [e] at h; cases h
    · subst e
      have hv : v.length = n := by simp at h; exact h
      have := enc_lt hb n v hv (fun y hy => hw y (by simp [hy]))
      have hx := hw x (by simp)
      rw [enc_s, Nat.pow_succ]
      have : enc b v * b + b ≤ b ^ n * b := by
        rw [← Nat.succ_mul]; exact Nat.mul_le_mul_right b this
      omega
theorem enc_inj {b : Nat} (hb : 27 ≤ b) : ∀ (n : Nat) (w v : List Nat), w.length = n → (∀ x ∈ w, 1 ≤ x ∧ x ≤ 26) → (∀ x ∈ v, 1 ≤ x ∧ x ≤ 26) → enc b w = enc b v → w = v
  | 0, w, v, h, _, hv, e => by
    rw [List.length_eq_zero_iff.mp h] at e ⊢
    rcases snoc9 v with e2 | ⟨u, x, e2⟩
    · exact e2.symm
    · subst e2
      have hx := hv x (by simp)
      rw [enc_s] at e
      have : enc b [] = 0 := rfl
      omega
  | n + 1, w, v, h, hw, hv, e => by
    rcases snoc9 w with e1 | ⟨w', x, e1⟩
    · rw [e1] at h; cases h
    · subst e1
      have hx := hw x (by simp)
      rcases snoc9 v with e2 | ⟨v', y, e2⟩
      · subst e2
        rw [enc_s] at e
        have : enc b [] = 0 := rfl
        omega
      · subst e2
        have hy := hv y (by simp)
        rw [enc_s, enc_s] at e
        have m1 : (enc b w' * b + x) % b = x := by rw [Nat.mul_comm, Nat.mul_add_mod, Nat.mod_eq_of_lt (by omega)]
        have m2 : (enc b v' * b + y) % b = y := by rw [Nat.mul_comm, Nat.mul_add_mod, Nat.mod_eq_of_lt (by omega)]
        have exy : x = y := by rw [← m1, ← m2, e]
        subst exy
        have e3 : enc b w' = enc b v' := Nat.eq_of_mul_eq_mul_right (show 0 < b by omega) (by omega)
        rw [enc_inj hb n w' v' (by simp at h; exact h) (fun z hz => hw z (by simp [hz])) (fun z hz => hv z (by simp [hz])) e3]
theorem okw_lt {b : Nat} {w : List Nat} (hb : 27 ≤ b) (hb2 : b ≤ 32) (h : okw w) : enc b w < 2 ^ 40 := by
  refine Nat.lt_of_lt_of_le (enc_lt hb w.length w rfl h.2.2) ?_
  refine Nat.le_trans (Nat.pow_le_pow_right (by omega) h.2.1) (Nat.le_trans (Nat.pow_le_pow_left hb2 8) (by decide))
theorem enc_eq {b : Nat} {w v : List Nat} (hb : 27 ≤ b) (hb2 : b ≤ 32) (hw : okw w) (hv : okw v) : lN (enc b w) = lN (enc b v) ↔ w = v := by
  have l1 := okw_lt hb hb2 hw
  have l2 := okw_lt hb hb2 hv
  rw [pk_lEQ (by omega) (by omega)]
  exact ⟨fun e => enc_inj hb _ w v rfl hw.2.2 hv.2.2 e, fun e => by rw [e]⟩
theorem kws_ok : ∀ i, i < 27 → okw (kws.getD i []) := by
  have h : ∀ i, i < 27 → (kws.getD i []) ≠ [] ∧ (kws.getD i []).length ≤ 8 ∧ ∀ x ∈ kws.getD i [], 1 ≤ x ∧ x ≤ 26 := by decide +kernel
  exact h
theorem kws_inj : ∀ i, i < 27 → ∀ j, j < 27 → kws.getD i [] = kws.getD j [] → i = j := by decide +kernel
theorem kW_ok {T : zTx} {p : Nat} (hp : p ≤ T.1) (h : kK T p = 1) : okw (kW T p) := by
  obtain ⟨h1, h2, h3, h4⟩ := kK_1 hp h
  have gt := runE_gt h1 h2
  refine ⟨fun e => ?_, ?_, fun x hx => ?_⟩
  · have := congrArg List.length e
    unfold kW at this
    rw [wl_len] at this
    simp at this; omega
  · unfold kW; rw [wl_len]; exact h3
  · unfold kW wl at hx
    obtain ⟨i, hi, rfl⟩ := List.mem_map.mp hx
    rw [List.mem_range] at hi
    have := runE_in (T := T) (p := isLt) (a := kB T p) (k := kB T p + i) (by omega) (by omega)
    unfold isLt at this
    omega
/-- which word it is -/
theorem kI_eq {T : zTx} {p i : Nat} (hp : p ≤ T.1) (h : kK T p = 1) (hi : i < 27) : kI T p = i ↔ kws.getD i [] = kW T p := by
  constructor
  · intro e; have := fst9_is 27 (fun i => kws.getD i [] = kW T p) (by show kI T p < 27; omega); rw [← e]; exact this
  · intro e
    refine fst9_uq (by omega) (fun j hj e2 => ?_) (fun _ => e)
    have := kws_inj j (by omega) i hi (e2.trans e.symm)
    omega
theorem lw_is {T : zTx} {p i : Nat} (hp : p ≤ T.1) (h : kK T p = 1) (hi : i < 27) : lN (enc 27 (kW T p)) = lN (enc 27 (kws.getD i [])) ↔ kI T p = i := by
  rw [enc_eq (by omega) (by omega) (kW_ok hp h) (kws_ok i hi), kI_eq hp h hi]
  exact eq_comm
theorem lw_is32 {T : zTx} {p i : Nat} (hp : p ≤ T.1) (h : kK T p = 1) (hi : i < 27) : lN (enc 32 (kws.getD i [])) = lN (enc 32 (kW T p)) ↔ kI T p = i := by
  rw [enc_eq (by omega) (by omega) (kws_ok i hi) (kW_ok hp h), kI_eq hp h hi]
