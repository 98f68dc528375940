/-! What the class asks of a token. -/
theorem zm1_ne {i : Nat} (hi : i < 2 ^ 31) : ¬ zm1 = nI i := fun e => nI_pos (n := i) hi (by rw [← e]; decide)
theorem ne_zm1 {i : Nat} (hi : i < 2 ^ 31) : ¬ nI i = zm1 := fun e => zm1_ne hi e.symm
theorem kI_le {T : zTx} {p : Nat} : kI T p ≤ 27 := fst9_le _ _
theorem TC.kind {T : zTx} {p : Nat} {h : zH} (q : TC T p h) {k : Nat} (hk : k < 4) (x : Int32) (hx : x = nI (kcm k)) : h.1 10 0 3 = x ↔ kK T p = k := by
  have l := kK_le (T := T) (p := p)
  rw [q.2.2.2.1, hx]
  generalize kK T p = n at l
  have := nI_eq (a := kcm n) (b := kcm k) (by unfold kcm; split <;> (try split) <;> (try split) <;> (try split) <;> omega) (by unfold kcm; split <;> (try split) <;> (try split) <;> (try split) <;> omega)
  rw [this]
  unfold kcm
  constructor
  · intro e
    split at e <;> (try split at e) <;> (try split at e) <;> (try split at e) <;> (try split at e) <;> (try split at e) <;> (try split at e) <;> (try split at e) <;> omega
  · intro e; rw [e]
theorem cl_isWord {T : zTx} {p i : Nat} {h : zH} (q : TC T p h) (hi : i < 27) : f_X10_isWord [.inr (.inr (10, 0)), .inl (nI i)] h = some (some (.inl (zb (kK T p = 1 ∧ kI T p = i))), h) := by
  rw [g_X10_isWord, zf_pos q.1, zfc (q.kind (k := 1) (by omega) 2 rfl)]
  by_cases e : kK T p = 1
  · rw [zf_pos e, (q.2.2.2.2.1 e).2]
    have l := kI_le (T := T) (p := p)
    by_cases e2 : kI T p = i
    · rw [if_pos (by omega), zf_pos (by rw [e2]), zb_pos ⟨e, e2⟩]
    · rw [zb_neg (fun z => e2 z.2)]
      by_cases e3 : kI T p < 27
      · rw [if_pos e3, zf_neg (fun z => e2 ((nI_eq (by omega) (by omega)).mp z))]
      · rw [if_neg e3, zf_neg (zm1_ne (by omega))]
  · rw [zf_neg e, zb_neg (fun z => e z.1)]
theorem cl_isSign {T : zTx} {p s : Nat} {h : zH} (X : txC T h) (hp : p ≤ T.1) (q : TC T p h) (hs : s < 127) : f_X10_isSign [.inr (.inr (10, 0)), .inl (nI s)] h = some (some (.inl (zb (kK T p = 3 ∧ T.2 (kB T p) = s))), h) := by
  rw [g_X10_isSign, zf_pos q.1, zfc (q.kind (k := 3) (by omega) 4 rfl)]
  by_cases e : kK T p = 3
  · have s127 := X.lt (kK_3 hp e).1
    rw [zf_pos e, q.2.2.2.2.2.2 e, zfc (nI_eq (by omega) (by omega))]
    by_cases e2 : T.2 (kB T p) = s
    · rw [zf_pos e2, zb_pos ⟨e, e2⟩]
    · rw [zf_neg e2, zb_neg (fun z => e2 z.2)]
  · rw [zf_neg e, zb_neg (fun z => e z.1)]
theorem cl_isName {T : zTx} {p : Nat} {h : zH} (q : TC T p h) : f_X10_isName [.inr (.inr (10, 0))] h = some (some (.inl (zb (kK T p = 1 ∧ 23 ≤ kI T p))), h) := by
  rw [g_X10_isName, zfc (q.kind (k := 1) (by omega) 2 rfl)]
  by_cases e : kK T p = 1
  · rw [zf_pos e, (q.2.2.2.2.1 e).2]
    have l := kI_le (T := T) (p := p)
    by_cases e3 : kI T p < 27
    · rw [if_pos e3, zf_neg (ne_zm1 (by omega))]
      by_cases e4 : 23 ≤ kI T p
      · rw [zf_neg (show ¬ nI (kI T p) < 23 from fun z => by have := (ltO (by omega) (by decide)).mp z; omega), zb_pos ⟨e, e4⟩]
      · rw [zf_pos (show nI (kI T p) < 23 from (ltO (by omega) (by decide)).mpr (by omega)), zb_neg (fun z => e4 z.2)]
    · rw [if_neg e3, zf_pos rfl, zb_pos ⟨e, by omega⟩]
  · rw [zf_neg e, zb_neg (fun z => e z.1)]
theorem cl_complain {T : zTx} {p k : Nat} {h : zH} (q : TC T p h) : f_X10_complain [.inr (.inr (10, 0)), .inl (nI k)] h = some (none, zuI h 10 0 7 (nI (k + 16 * kB T p))) := by
  rw [g_X10_complain, zf_pos q.1, q.2.2.1, show (16 : Int32) = nI 16 from rfl, pk_mul, nI_add]
/-- a fault was found -/
def FC (F : Nat) (h : zH) : Prop := h.1 10 0 7 = nI F ∧ 0 < F ∧ F < 100000
theorem FC.ne {F : Nat} {h : zH} (f : FC F h) : ¬ h.1 10 0 7 = 0 := by
  rw [f.1]; exact fun z => by have := (nI_eq (b := 0) (by have := f.2.2; omega) (by omega)).mp z; have := f.2.1; omega
theorem FC.o {F K j k : Nat} {v : Int32} {h : zH} (f : FC F h) (hK : K ≠ 10) : FC F (zuI h K j k v) := ⟨by rw [zuI_o (fun z => hK z.1.symm)]; exact f.1, f.2⟩
theorem FC.oJ {F K j k : Nat} {v : Int64} {h : zH} (f : FC F h) : FC F (zuJ h K j k v) := f
theorem FC.set {T : zTx} {p k : Nat} {h : zH} (ht : T.1 ≤ 1000) (hp : p ≤ T.1) (h1 : 1 ≤ k) (h2 : k < 6) : FC (k + 16 * kB T p) (zuI h 10 0 7 (nI (k + 16 * kB T p))) := ⟨zuI_at, by omega, by have := kB_le hp; omega⟩
theorem fl_isWord {x : Int32} {h : zH} (f : ¬ h.1 10 0 7 = 0) : f_X10_isWord [.inr (.inr (10, 0)), .inl x] h = some (some (.inl 0), h) := by rw [g_X10_isWord, zf_neg f]
theorem fl_isSign {x : Int32} {h : zH} (f : ¬ h.1 10 0 7 = 0) : f_X10_isSign [.inr (.inr (10, 0)), .inl x] h = some (some (.inl 0), h) := by rw [g_X10_isSign, zf_neg f]
theorem fl_isMore {h : zH} (f : ¬ h.1 10 0 7 = 0) : f_X10_isMore [.inr (.inr (10, 0))] h = some (some (.inl 0), h) := by rw [g_X10_isMore, zf_neg f]
theorem fl_complain {x : Int32} {h : zH} (f : ¬ h.1 10 0 7 = 0) : f_X10_complain [.inr (.inr (10, 0)), .inl x] h = some (none, h) := by rw [g_X10_complain, zf_neg f]
theorem fl_step {h : zH} (f : ¬ h.1 10 0 7 = 0) : f_X10_step [.inr (.inr (10, 0))] h = some (none, h) := by rw [g_X10_step, zf_neg f]
theorem fl_takeWord {x : Int32} {h : zH} (f : ¬ h.1 10 0 7 = 0) : f_X10_takeWord [.inr (.inr (10, 0)), .inl x] h = some (none, h) := by
  rw [g_X10_takeWord, fl_isWord f, zci_ok, zf_pos rfl, fl_complain f, zcv_ok, fl_step f, zcv_ok]
theorem fl_takeSign {x : Int32} {h : zH} (f : ¬ h.1 10 0 7 = 0) : f_X10_takeSign [.inr (.inr (10, 0)), .inl x] h = some (none, h) := by
  rw [g_X10_takeSign, fl_isSign f, zci_ok, zf_pos rfl, fl_complain f, zcv_ok, fl_step f, zcv_ok]
theorem fl_takeNumber {x y : Int32} {h : zH} (f : ¬ h.1 10 0 7 = 0) : f_X10_takeNumber [.inr (.inr (10, 0)), .inl x, .inl y] h = some (some (.inl (h.1 10 0 5)), h) := by
  rw [g_X10_takeNumber, fl_complain f, zcv_ok, fl_step f, zcv_ok, fl_complain f, zcv_ok, fl_step f, zcv_ok]
  by_cases a : h.1 10 0 3 = 3
  · rw [zf_pos a]
    by_cases b : h.1 10 0 5 < x
    · rw [zf_pos b]
    · rw [zf_neg b]
      by_cases c : y < h.1 10 0 5
      · rw [zf_pos c]
      · rw [zf_neg c]
  · rw [zf_neg a]
theorem isName_any (h : zH) : ∃ b : Prop, f_X10_isName [.inr (.inr (10, 0))] h = some (some (.inl (zb b)), h) := by
  rw [g_X10_isName]
  by_cases a : h.1 10 0 3 = 2
  · rw [zf_pos a]
    by_cases b : h.1 10 0 5 = zm1
    · rw [zf_pos b]; exact ⟨True, by rw [zb_pos trivial]⟩
    · rw [zf_neg b]
      by_cases c : h.1 10 0 5 < 23
      · rw [zf_pos c]; exact ⟨False, by rw [zb_neg id]⟩
      · rw [zf_neg c]; exact ⟨True, by rw [zb_pos trivial]⟩
  · rw [zf_neg a]; exact ⟨False, by rw [zb_neg id]⟩
theorem fl_takeKind {h : zH} (f : ¬ h.1 10 0 7 = 0) : f_X6_takeKind [.inr (.inr (6, 0))] h = some (some (.inl (h.1 10 0 5 - 16)), h) := by
  have e : ∀ x, zL p_X6_takeKind 31 [some (.inr (.inr (6, 0))), some (.inl x)] [] h = some (some (.inl x), h) := fun x => by rw [e_X6_takeKind_31, fl_complain f, zcv_ok, fl_step f, zcv_ok]
  rw [g_X6_takeKind, fl_step f, zcv_ok, e]
  by_cases a : h.1 10 0 3 = 2
  · rw [zf_pos a]
    by_cases b : h.1 10 0 5 - 16 < 0
    · rw [zf_pos b]
    · rw [zf_neg b]
      by_cases c : 3 < h.1 10 0 5 - 16
      · rw [zf_pos c]
      · rw [zf_neg c]
  · rw [zf_neg a]
/-! names -/
/-- the first of n that is so, or -1 -/
noncomputable def fi9 (n : Nat) (P : Nat → Prop) : Int32 := zi (fst9 n P < n) (nI (fst9 n P)) zm1
theorem zloopF (F : Nat → Option zRes) (P : Nat → Prop) (A : Nat → Option zRes) (B : Option zRes) : ∀ (n m : Nat), (∀ i, m ≤ i → i < m + n → F i = zf (P i) (A i) (F (i + 1))) → F (m + n) = B → F m = zf (fst9 n (fun i => P (m + i)) < n) (A (m + fst9 n (fun i => P (m + i)))) B
  | 0, m, _, hB => by rw [zf_neg (Nat.not_lt_zero _)]; exact hB
  | n + 1, m, hs, hB => by
    have ih := zloopF F P A B n (m + 1) (fun i h1 h2 => hs i (by omega) (by omega)) (by rw [show m + 1 + n = m + (n + 1) by omega]; exact hB)
    rw [hs m (by omega) (by omega)]
    by_cases e : P m
    · have : fst9 (n + 1) (fun i => P (m + i)) = 0 := fst9_uq (by omega) (fun i hi => by omega) (fun _ => e)
      rw [zf_pos e, this, zf_pos (by omega)]; rfl
    · rw [zf_neg e, ih]
      have hl := fst9_le n (fun i => P (m + 1 + i))
      have : fst9 (n + 1) (fun i => P (m + i)) = fst9 n (fun i => P (m + 1 + i)) + 1 := by
        refine fst9_uq (by omega) (fun i hi => ?_) (fun hl => ?_)
        · by_cases i0 : i = 0
          · subst i0; exact e
          · have := fst9_not n (fun i => P (m + 1 + i)) (i - 1) (by omega)
            rw [show m + 1 + (i - 1) = m + i by omega] at this; exact this
        · have := fst9_is n (fun i => P (m + 1 + i)) (by omega)
          rw [show m + (fst9 n (fun i => P (m + 1 + i)) + 1) = m + 1 + fst9 n (fun i => P (m + 1 + i)) by omega]; exact this
      rw [this, show m + 1 + fst9 n (fun i => P (m + 1 + i)) = m + (fst9 n (fun i => P (m + 1 + i)) + 1) by omega]
      exact zfc (by omega)
/-- names in the class's lists of Congress j -/
def nmC (j n c : Nat) (wp wc : Nat → List Nat) (h : zH) : Prop := n ≤ 5 ∧ c ≤ 7 ∧ h.1 0 j 0 = nI n ∧ h.1 0 j 4 = nI c ∧ (∀ q, q < n → okw (wp q) ∧ h.2 13 j q = lN (enc 32 (wp q))) ∧ (∀ q, q < c → okw (wc q) ∧ h.2 16 j q = lN (enc 32 (wc q)))
theorem zfS {P : Prop} {x y : Int32} {h : zH} : zf P (some (some (.inl x), h)) (some (some (.inl y), h)) = some (some (.inl (zi P x y)), h) := by
  by_cases p : P
  · rw [zf_pos p, zi_pos p]
  · rw [zf_neg p, zi_neg p]
theorem sp_powerNamed {j n : Nat} {x : Int64} {h : zH} (h5 : n ≤ 5) (h0 : h.1 0 j 0 = nI n) : f_X0_powerNamed [.inr (.inr (0, j)), .inr (.inl x)] h = some (some (.inl (fi9 n (fun q => h.2 13 j q = x))), h) := by
  have o2 : ∀ o2 i, zL p_X0_powerNamed 2 [some (.inr (.inr (0, j))), some (.inr (.inl x)), o2, some (.inl (nI i))] [] h = zL p_X0_powerNamed 2 [some (.inr (.inr (0, j))), some (.inr (.inl x)), none, some (.inl (nI i))] [] h := fun o2 i => (e_X0_powerNamed_2 _ _ _ _ _).trans (e_X0_powerNamed_2 _ _ _ _ _).symm
  rw [g_X0_powerNamed]
  have := zloopF (fun i => zL p_X0_powerNamed 2 [some (.inr (.inr (0, j))), some (.inr (.inl x)), none, some (.inl (nI i))] [] h) (fun q => h.2 13 j q = x) (fun q => some (some (.inl (nI q)), h)) (some (some (.inl zm1), h)) n 0 (fun i _ hi => by
    rw [e_X0_powerNamed_2, h0, zf_pos (nI_lt (by omega) (by omega)), zfx (by omega) (by omega), nI_clamp (by omega), zfc (lg_cmp_eq _ _), nI_1]) (by
    rw [Nat.zero_add, e_X0_powerNamed_2, h0, zf_neg (nI_nlt' (by omega))])
  refine this.trans ?_
  simp only [Nat.zero_add]
  rw [zfS]; rfl
theorem sp_cakeNamed {j n : Nat} {x : Int64} {h : zH} (h5 : n ≤ 7) (h0 : h.1 0 j 4 = nI n) : f_X0_cakeNamed [.inr (.inr (0, j)), .inr (.inl x)] h = some (some (.inl (fi9 n (fun q => h.2 16 j q = x))), h) := by
  rw [g_X0_cakeNamed]
  have := zloopF (fun i => zL p_X0_cakeNamed 2 [some (.inr (.inr (0, j))), some (.inr (.inl x)), none, some (.inl (nI i))] [] h) (fun q => h.2 16 j q = x) (fun q => some (some (.inl (nI q)), h)) (some (some (.inl zm1), h)) n 0 (fun i _ hi => by
    rw [e_X0_cakeNamed_2, h0, zf_pos (nI_lt (by omega) (by omega)), zfx (by omega) (by omega), nI_clamp (by omega), zfc (lg_cmp_eq _ _), nI_1]) (by
    rw [Nat.zero_add, e_X0_cakeNamed_2, h0, zf_neg (nI_nlt' (by omega))])
  refine this.trans ?_
  simp only [Nat.zero_add]
  rw [zfS]; rfl
theorem fi9_congr {n : Nat} {P Q : Nat → Prop} (h : ∀ i, i < n → (P i ↔ Q i)) : fi9 n P = fi9 n Q := by unfold fi9; rw [fst9_congr h]
theorem cl_powerNamed {j n c : Nat} {wp wc : Nat → List Nat} {w : List Nat} {h : zH} (N : nmC j n c wp wc h) (ow : okw w) : f_X0_powerNamed [.inr (.inr (0, j)), .inr (.inl (lN (enc 32 w)))] h = some (some (.inl (fi9 n (fun q => wp q = w))), h) := by
  rw [sp_powerNamed N.1 N.2.2.1]
  refine congrArg (fun z => some (some (Sum.inl z), h)) (fi9_congr (fun i hi => by rw [(N.2.2.2.2.1 i hi).2]; exact enc_eq (by omega) (by omega) (N.2.2.2.2.1 i hi).1 ow))
theorem cl_cakeNamed {j n c : Nat} {wp wc : Nat → List Nat} {w : List Nat} {h : zH} (N : nmC j n c wp wc h) (ow : okw w) : f_X0_cakeNamed [.inr (.inr (0, j)), .inr (.inl (lN (enc 32 w)))] h = some (some (.inl (fi9 c (fun q => wc q = w))), h) := by
  rw [sp_cakeNamed N.2.1 N.2.2.2.1]
  refine congrArg (fun z => some (some (Sum.inl z), h)) (fi9_congr (fun i hi => by rw [(N.2.2.2.2.2 i hi).2]; exact enc_eq (by omega) (by omega) (N.2.2.2.2.2 i hi).1 ow))
theorem fl_takeNewName {n c : Nat} {h : zH} (f : ¬ h.1 10 0 7 = 0) (hn : n ≤ 5) (hc : c ≤ 7) (h0 : h.1 0 1 0 = nI n) (h4 : h.1 0 1 4 = nI c) : f_X6_takeNewName [.inr (.inr (6, 0))] h = some (some (.inr (.inl (h.2 10 0 6))), h) := by
  obtain ⟨b, eb⟩ := isName_any h
  have e53 : ∀ o2, zL p_X6_takeNewName 53 [some (.inr (.inr (6, 0))), some (.inr (.inl (h.2 10 0 6))), o2] [] h = some (some (.inr (.inl (h.2 10 0 6))), h) := fun o2 => by rw [e_X6_takeNewName_53, fl_complain f, zcv_ok, fl_step f, zcv_ok]
  rw [g_X6_takeNewName, eb, zci_ok, zf_b0, sp_powerNamed hn h0, zci_ok, sp_cakeNamed hc h4, zci_ok, e53, fl_complain f, zcv_ok, fl_step f, zcv_ok]
  by_cases a : b
  · rw [zf_pos a]
    by_cases e1 : fi9 n (fun q => h.2 13 1 q = h.2 10 0 6) = zm1
    · rw [zf_pos e1]
      by_cases e2 : fi9 c (fun q => h.2 16 1 q = h.2 10 0 6) = zm1
      · rw [zf_pos e2]
      · rw [zf_neg e2]
    · rw [zf_neg e1]
  · rw [zf_neg a]
theorem fl_takePower {j n : Nat} {x : Int32} {h : zH} (f : ¬ h.1 10 0 7 = 0) (hn : n ≤ 5) (h0 : h.1 0 j 0 = nI n) : ∃ v, f_X6_takePower [.inr (.inr (6, 0)), .inr (.inr (0, j)), .inl x] h = some (some (.inl v), h) := by
  obtain ⟨b, eb⟩ := isName_any h
  have e35 : ∀ o1 y, zL p_X6_takePower 35 [some (.inr (.inr (6, 0))), o1, some (.inl x), some (.inl y)] [] h = some (some (.inl y), h) := fun o1 y => by
    rw [e_X6_takePower_35, fl_complain f, zcv_ok, fl_step f, zcv_ok, fl_complain f, zcv_ok, fl_step f, zcv_ok]
    by_cases a : y = zm1
    · rw [zf_pos a]
    · rw [zf_neg a]
      by_cases b : y = x
      · rw [zf_pos b]
      · rw [zf_neg b]
  rw [g_X6_takePower, eb, zci_ok, zf_b0, sp_powerNamed hn h0, zci_ok, fl_complain f, zcv_ok, e35, e35]
  by_cases a : b
  · rw [zf_pos a]; exact ⟨_, rfl⟩
  · rw [zf_neg a]; exact ⟨_, rfl⟩
theorem fl_namedCake {j n : Nat} {h : zH} (f : ¬ h.1 10 0 7 = 0) (hn : n ≤ 7) (h0 : h.1 0 j 4 = nI n) : ∃ v, f_X6_namedCake [.inr (.inr (6, 0)), .inr (.inr (0, j))] h = some (some (.inl v), h) := by
  obtain ⟨b, eb⟩ := isName_any h
  rw [g_X6_namedCake, eb, zci_ok, zf_b0, sp_cakeNamed hn h0, zci_ok, fl_complain f, zcv_ok, fl_complain f, zcv_ok]
  by_cases a : b
  · rw [zf_pos a]
    by_cases e : fi9 n (fun q => h.2 16 j q = h.2 10 0 6) = zm1
    · rw [zf_pos e]; exact ⟨_, rfl⟩
    · rw [zf_neg e]; exact ⟨_, rfl⟩
  · rw [zf_neg a]; exact ⟨_, rfl⟩
