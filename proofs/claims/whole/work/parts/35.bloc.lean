/-! Alliances: what is reached by pairs. -/
def rch (E : Nat → Nat → Prop) (p q : Nat) : Prop := ∀ S : Nat → Prop, S p → (∀ a b, S a → E a b → S b) → S q
theorem rch.rf {E : Nat → Nat → Prop} {p : Nat} : rch E p p := fun _ h _ => h
theorem rch.step {E : Nat → Nat → Prop} {p a b : Nat} (q : rch E p a) (e : E a b) : rch E p b := fun S h1 h2 => h2 a b (q S h1 h2) e
theorem rch.trans {E : Nat → Nat → Prop} {p a b : Nat} (q : rch E p a) (w : rch E a b) : rch E p b := fun S h1 h2 => w S (q S h1 h2) h2
theorem rch.symm {E : Nat → Nat → Prop} (hE : ∀ a b, E a b → E b a) {p q : Nat} (w : rch E p q) : rch E q p :=
  w (fun x => rch E x p) rch.rf (fun a b h e => (rch.rf.step (hE a b e)).trans h)
theorem rch.lim {E : Nat → Nat → Prop} {P p q : Nat} (hE : ∀ a b, E a b → a < P ∧ b < P) (hp : p < P) (w : rch E p q) : q < P := w (fun x => x < P) hp (fun a b _ e => (hE a b e).2)
def clsd (E : Nat → Nat → Prop) (B : Nat → Prop) : Prop := ∀ a b, B a → E a b → B b
def pass (E : Nat → Nat → Prop) (B B' : Nat → Prop) : Prop := (∀ q, B q → B' q) ∧ (∀ a b, B a → E a b → B' b) ∧ ∀ S : Nat → Prop, (∀ q, B q → S q) → clsd E S → ∀ q, B' q → S q
theorem cnt9_lt {p q : Nat → Prop} : ∀ {n : Nat}, (∀ k, k < n → p k → q k) → ∀ b, b < n → q b → ¬ p b → cnt9 p n + 1 ≤ cnt9 q n
  | 0, _, b, hb, _, _ => absurd hb (Nat.not_lt_zero b)
  | n + 1, h, b, hb, h1, h2 => by
    simp only [cnt9]
    by_cases e : b = n
    · subst e
      rw [zite_neg h2, zite_pos h1]
      have := cnt9_mono (n := b) (fun k hk => h k (by omega)); omega
    · have := cnt9_lt (n := n) (fun k hk => h k (by omega)) b (by omega) h1 h2
      by_cases e2 : p n
      · rw [zite_pos e2, zite_pos (h n (by omega) e2)]; omega
      · rw [zite_neg e2]; omega
/-- what holds of a growing set behind k passes -/
def binv (E : Nat → Nat → Prop) (P a k : Nat) (B : Nat → Prop) : Prop := B a ∧ (∀ q, B q → rch E a q) ∧ (clsd E B ∨ k + 1 ≤ cnt9 B P)
theorem binv.pass {E : Nat → Nat → Prop} {P a k : Nat} {B B' : Nat → Prop} (hE : ∀ a b, E a b → a < P ∧ b < P) (q : binv E P a k B) (w : pass E B B') : binv E P a (k + 1) B' := by
  obtain ⟨q1, q2, q3⟩ := q
  obtain ⟨w1, w2, w3⟩ := w
  refine ⟨w1 a q1, fun q hq => w3 (rch E a) q2 (fun x y h e => h.step e) q hq, ?_⟩
  by_cases hc : clsd E B
  · exact Or.inl (fun x y hx e => w1 y (hc x y (w3 B (fun _ h => h) hc x hx) e))
  · right
    obtain ⟨x, hx⟩ := Classical.not_forall.mp hc
    obtain ⟨y, hy⟩ := Classical.not_forall.mp hx
    have hy1 : B x := Classical.byContradiction (fun z => hy (fun h => absurd h z))
    have hy2 : E x y := Classical.byContradiction (fun z => hy (fun _ h => absurd h z))
    have hy3 : ¬ B y := fun z => hy (fun _ _ => z)
    have := cnt9_lt (p := B) (q := B') (n := P) (fun k _ h => w1 k h) y (hE x y hy2).2 (w2 x y hy1 hy2) hy3
    have := q3.resolve_left hc
    omega
theorem binv.start {E : Nat → Nat → Prop} {P a : Nat} {B : Nat → Prop} (ha : a < P) (hB : ∀ q, B q ↔ q = a) : binv E P a 0 B := by
  refine ⟨(hB a).mpr rfl, fun q hq => by rw [(hB q).mp hq]; exact rch.rf, Or.inr ?_⟩
  have := cnt9_lt (p := fun _ => False) (q := B) (n := P) (fun k _ h => h.elim) a ha ((hB a).mpr rfl) (fun z => z)
  omega
theorem binv.done {E : Nat → Nat → Prop} {P a k : Nat} {B : Nat → Prop} (q : binv E P a k B) (hk : clsd E B ∨ P ≤ k) (x : Nat) : B x ↔ rch E a x := by
  have hc : clsd E B := by
    rcases q.2.2 with h | h
    · exact h
    · rcases hk with h2 | h2
      · exact h2
      · have := cnt9_le B P; omega
  exact ⟨q.2.1 x, fun w => w B q.1 hc⟩
/-- the set whose bits x has -/
def bset (x : Int32) : Nat → Prop := fun q => q < 32 ∧ tb x q
theorem ear_E {κ : zK} {m : Nat} {r : zRo} (G : gK κ) (R : gR κ m r) : ∀ a b, ear κ r a b → a < kP κ ∧ b < kP κ := fun _ _ q => q.lim G R
theorem cl_blocOf {κ : zK} {h : zH} {j m a : Nat} {r : zRo} (K : cK κ h) (S : cS κ h j r) (G : gK κ) (R : gR κ m r) (ha : a < kP κ) : f_X8_blocOf [.inr (.inr (8, j)), .inl (nI a)] h = some (some (.inl (zbits (fun q => rch (ear κ r) a q) (kP κ))), h) := by
  have h5 := K.2.1
  have hE := ear_E G R
  obtain ⟨w, w1, w2⟩ := cl_earnestPairs K S G R
  rw [g_X8_blocOf, w1, zci_ok, ← nI_0]
  have outer : ∀ a b o1 o5, zL p_X8_blocOf 12 [some (.inr (.inr (8, j))), o1, some (.inl w), some (.inl b), some (.inl a), o5] [] h = zL p_X8_blocOf 12 [some (.inr (.inr (8, j))), none, some (.inl w), some (.inl b), some (.inl a), none] [] h := fun a b o1 o5 => (e_X8_blocOf_12 _ _ _ _ _ _ _).trans (e_X8_blocOf_12 _ _ _ _ _ _ _).symm
  obtain ⟨x, e1, e2⟩ := zloopE (fun i b => zL p_X8_blocOf 12 [some (.inr (.inr (8, j))), none, some (.inl w), some (.inl b), some (.inl (nI i)), none] [] h)
    (fun k x => binv (ear κ r) (kP κ) a k (bset x)) (kP κ) ((1 : Int32) <<< (nI a &&& 31)) (binv.start ha (fun q => ⟨fun z => (tb_one (by omega) z.1).mp z.2, fun z => by subst z; exact ⟨by omega, (tb_one (by omega) (by omega)).mpr rfl⟩⟩)) (fun i b hi q => by
      obtain ⟨x, f1, f2, f3, f4⟩ := zloopE (fun k x => zL p_X8_blocOf 27 [some (.inr (.inr (8, j))), none, some (.inl w), some (.inl x), some (.inl (nI i)), some (.inl (nI k))] [] h)
        (fun k x => (∀ q, bset b q → bset x q) ∧ (∀ a q, a < k → bset b a → ear κ r a q → bset x q) ∧ (∀ S : Nat → Prop, (∀ q, bset b q → S q) → clsd (ear κ r) S → ∀ q, bset x q → S q)) (kP κ) b ⟨fun _ h => h, fun a q h => absurd h (Nat.not_lt_zero a), fun S h _ => h⟩ (fun k x hk q => by
          obtain ⟨q1, q2, q3⟩ := q
          rw [e_X8_blocOf_27, K.1, zf_pos (nI_lt hk (by omega)), nI_1, tb_f, sp_othersOf (by omega) w2, zci_ok]
          have tu : ∀ t, bset (x ||| zbits (fun q => ear κ r k q) 5) t ↔ bset x t ∨ ear κ r k t := fun t => by
            unfold bset
            constructor
            · rintro ⟨h1, h2⟩
              rw [tb_or h1, tb_bits (by omega) h1] at h2
              exact h2.elim (fun z => Or.inl ⟨h1, z⟩) (fun z => Or.inr z.2)
            · rintro (⟨h1, h2⟩ | h2)
              · exact ⟨h1, (tb_or h1).mpr (Or.inl h2)⟩
              · have := (hE _ _ h2).2
                have h1 : t < 32 := by omega
                exact ⟨h1, (tb_or h1).mpr (Or.inr ((tb_bits (by omega) h1).mpr ⟨by omega, h2⟩))⟩
          by_cases e : tb x k
          · rw [zf_pos e]
            refine ⟨_, rfl, fun q hq => (tu q).mpr (Or.inl (q1 q hq)), fun a q ha hb he => ?_, fun S hS hc q hq => ?_⟩
            · by_cases e2 : a = k
              · subst e2; exact (tu q).mpr (Or.inr he)
              · exact (tu q).mpr (Or.inl (q2 a q (by omega) hb he))
            · rcases (tu q).mp hq with z | z
              · exact q3 S hS hc q z
              · exact hc k q (q3 S hS hc k ⟨by omega, e⟩) z
          · rw [zf_neg e]
            refine ⟨x, rfl, q1, fun a q ha hb he => ?_, q3⟩
            by_cases e2 : a = k
            · subst e2; exact absurd (q1 a hb).2 e
            · exact q2 a q (by omega) hb he)
      rw [e_X8_blocOf_12, K.1, zf_pos (nI_lt hi (by omega)), ← nI_0]
      refine ⟨x, f1.trans ?_, q.pass hE ⟨f2, fun a b h1 h2 => f3 a b (hE a b h2).1 h1 h2, f4⟩⟩
      rw [e_X8_blocOf_27, K.1, zf_neg (nI_nlt' (by omega)), nI_1]; exact outer _ _ _ _)
  have e1 : zL p_X8_blocOf 12 [some (.inr (.inr (8, j))), none, some (.inl w), some (.inl ((1 : Int32) <<< (nI a &&& 31))), some (.inl (nI 0)), none] [] h = zL p_X8_blocOf 12 [some (.inr (.inr (8, j))), none, some (.inl w), some (.inl x), some (.inl (nI (kP κ))), none] [] h := e1
  have hx : x = zbits (fun q => rch (ear κ r) a q) (kP κ) := zbits_of (by omega) (fun i hi => by
    have := e2.done (Or.inr (Nat.le_refl _)) i
    constructor
    · intro t
      have w := this.mp ⟨hi, t⟩
      exact ⟨w.lim hE ha, w⟩
    · intro t; exact (this.mpr t.2).2)
  rw [nI_0, outer, ← nI_0, e1, e_X8_blocOf_12, K.1, zf_neg (nI_nlt' (by omega)), hx]
