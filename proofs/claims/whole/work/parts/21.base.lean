/-! Generic rows for the specs. -/
/-- n rounds from a -/
def zit {α : Type} (nx : Nat → α → α) (a : α) : Nat → α
  | 0 => a
  | k + 1 => nx k (zit nx a k)
theorem zloop {α : Type} (F : Nat → α → Option zRes) (nx : Nat → α → α) (n : Nat) (a : α) (hs : ∀ i a, i < n → F i a = F (i + 1) (nx i a)) : F 0 a = F n (zit nx a n) := by
  have key : ∀ k, k ≤ n → F 0 a = F k (zit nx a k) := by
    intro k
    induction k with
    | zero => intro _; rfl
    | succ k ih => intro hk; rw [ih (by omega), hs k _ (by omega)]; rfl
  exact key n (Nat.le_refl n)
/-- .. with what holds of the states on the way -/
theorem zloopI {α : Type} (F : Nat → α → Option zRes) (nx : Nat → α → α) (I : Nat → α → Prop) (n : Nat) (a : α) (h0 : I 0 a) (hI : ∀ i a, i < n → I i a → I (i + 1) (nx i a)) (hs : ∀ i a, i < n → I i a → F i a = F (i + 1) (nx i a)) : F 0 a = F n (zit nx a n) ∧ I n (zit nx a n) := by
  have key : ∀ k, k ≤ n → F 0 a = F k (zit nx a k) ∧ I k (zit nx a k) := by
    intro k
    induction k with
    | zero => intro _; exact ⟨rfl, h0⟩
    | succ k ih =>
      intro hk
      obtain ⟨h1, h2⟩ := ih (by omega)
      exact ⟨by rw [h1, hs k _ (by omega) h2]; rfl, hI k _ (by omega) h2⟩
  exact key n (Nat.le_refl n)
theorem zit_congr {α : Type} {f g : Nat → α → α} {a : α} {n : Nat} (h : ∀ i b, i < n → f i b = g i b) : zit f a n = zit g a n := by
  induction n with
  | zero => rfl
  | succ n ih => simp only [zit]; rw [ih (fun i b hi => h i b (by omega)), h n _ (by omega)]
/-- a set of places below n, as bits -/
noncomputable def zbits (p : Nat → Prop) (n : Nat) : Int32 := zit (fun c b => @ite _ (p c) (Classical.propDecidable (p c)) (b ||| ((1 : Int32) <<< (nI c &&& 31))) b) 0 n
theorem zbits_congr {p q : Nat → Prop} {n : Nat} (h : ∀ c, c < n → (p c ↔ q c)) : zbits p n = zbits q n := by
  unfold zbits
  refine zit_congr (fun i b hi => ?_)
  by_cases hp : p i
  · rw [if_pos hp, if_pos ((h i hi).mp hp)]
  · rw [if_neg hp, if_neg (fun q => hp ((h i hi).mpr q))]
theorem zite_pos {α : Type} {p : Prop} {a b : α} (h : p) : @ite α p (Classical.propDecidable p) a b = a := if_pos h
theorem zite_neg {α : Type} {p : Prop} {a b : α} (h : ¬ p) : @ite α p (Classical.propDecidable p) a b = b := if_neg h
theorem nI_nlt' {n : Nat} (h : n < 2 ^ 31) : ¬ nI n < nI n := nI_nlt (Nat.le_refl n) h
theorem zor0 (b : Int32) : b ||| 0 = b := by simp
/-! Congress and State: the small ones -/
theorem sp_thereBits (j : Nat) {C : Nat} (h : zH) (hC : h.1 0 0 4 = nI C) (h7 : C ≤ 7) : f_X8_thereBits [.inr (.inr (8, j))] h = some (some (.inl (zbits (fun c => 0 < h.1 32 j c) C)), h) := by
  rw [g_X8_thereBits]
  have key := zloop (fun i b => zL p_X8_thereBits 4 [some (.inr (.inr (8, j))), some (.inl b), some (.inl (nI i))] [] h) (fun c b => @ite _ (0 < h.1 32 j c) (Classical.propDecidable _) (b ||| ((1 : Int32) <<< (nI c &&& 31))) b) C 0 (fun i b hi => by
    have h1 : nI i < nI C := nI_lt hi (by omega)
    have h4 : vp_in (nI i) 7 := vp_in_nI (by omega) (by omega)
    have h5 : (nI i).toNatClampNeg = i := nI_clamp (by omega)
    rw [e_X8_thereBits_4, hC, zf_pos h1, zf_pos h4, h5, nI_1]
    by_cases h6 : 0 < h.1 32 j i
    · rw [zf_pos h6, zite_pos h6]
    · rw [zf_neg h6, zite_neg h6])
  rw [← nI_0]
  refine key.trans ?_
  rw [e_X8_thereBits_4, hC, zf_neg (nI_nlt' (by omega))]
  rfl
