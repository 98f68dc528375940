/-! Sets of powers: the model. -/
/-- a set of numbers below k, as a number -/
theorem bits_nat {p : Nat → Prop} {n : Nat} (hn : n ≤ 31) : ∃ M, M < 2 ^ n ∧ zbits p n = nI M := by
  refine ⟨(zbits p n).toBitVec.toNat, ?_, bt_ofN _⟩
  apply Nat.lt_pow_two_of_testBit
  intro i hi
  rcases Nat.lt_or_ge i 32 with h | h
  · have : ¬ tb (zbits p n) i := fun z => by have := ((tb_bits (by omega) h).mp z).1; omega
    rw [tb_bt h] at this
    exact Bool.eq_false_iff.mpr this
  · exact b_big h
theorem sub_le {s M : Nat} (hs : s < 2 ^ 31) (h : ∀ i, i < 32 → tb (nI s) i → tb (nI M) i) : s ≤ M := by
  have e : s &&& M = s := by
    apply Nat.eq_of_testBit_eq
    intro i
    rw [Nat.testBit_and]
    cases hb : s.testBit i with
    | false => rfl
    | true =>
      have hi : i < 32 := Nat.lt_of_not_le (fun z => by
        have : s.testBit i = false := Nat.testBit_lt_two_pow (Nat.lt_of_lt_of_le hs (Nat.pow_le_pow_right (by omega) (by omega)))
        rw [this] at hb; cases hb)
      have := h i hi ((tb_nI hi).mpr hb)
      rw [tb_nI hi] at this
      rw [this]; rfl
  rw [← e]; exact Nat.and_le_right
/-- the powers that may be dry, as a number -/
def isMd (κ : zK) (M : Nat) : Prop := M < 2 ^ kP κ ∧ zbits (fun q => ¬ kKd κ q = 2) (kP κ) = nI M
theorem isMd.sub {κ : zK} {M s : Nat} (h : isMd κ M) (h5 : kP κ ≤ 5) (hs : s < 2 ^ kP κ) : nI s &&& (nI M ^^^ zm1) = 0 ↔ okd κ s := by
  rw [and0, ← h.2]
  constructor
  · intro z q hq ht hk
    refine z q (by omega) ht ((tb_not (by omega)).mpr (fun y => ?_))
    exact ((tb_bits (by omega) (by omega)).mp y).2 hk
  · intro z q hq ht hk
    rw [tb_not hq] at hk
    have hq2 := tb_lt hs hq ht
    exact hk ((tb_bits (by omega) hq).mpr ⟨hq2, z q hq2 ht⟩)
theorem isMd.le {κ : zK} {M s : Nat} (h : isMd κ M) (h5 : kP κ ≤ 5) (hs : s < 2 ^ kP κ) (ok : okd κ s) : s ≤ M := by
  have p32 := two5 h5
  refine sub_le (by omega) (fun i hi ht => ?_)
  rw [← h.2]
  have hq2 := tb_lt hs hi ht
  exact (tb_bits (by omega) hi).mpr ⟨hq2, ok i hq2 ht⟩
theorem ml_mayDry {κ : zK} {h : zH} (M : mK κ h) (G : gK κ) : f_X12_mayDry [.inr (.inr (12, 0))] h = some (some (.inl (zbits (fun q => ¬ kKd κ q = 2) (kP κ))), h) := by
  have h5 := G.1
  rw [g_X12_mayDry]
  refine (zloopB (fun i b => zL p_X12_mayDry 4 [some (.inr (.inr (12, 0))), some (.inl b), some (.inl (nI i))] [] h) (fun q => ¬ kKd κ q = 2) (kP κ) (fun i b hi => ?_)).trans ?_
  · rw [e_X12_mayDry_4, M.1, zf_pos (nI_lt hi (by omega)), zfx (by omega) (by omega), nI_clamp (by omega), (M.2.2.2.1 i hi).1, nI_1, zor0, zf_not]
  · rw [e_X12_mayDry_4, M.1, zf_neg (nI_nlt' (by omega))]
/-- all but the table, the law's registers, the row and who is dry -/
def al (h g : zH) : Prop := (∀ K j k, ¬ (K = 72 ∧ j = 0) → ¬ (K = 78 ∧ j = 0) → ¬ (54 ≤ K ∧ K ≤ 63) → ¬ (K = 12 ∧ j = 0 ∧ k = 54) → g.1 K j k = h.1 K j k) ∧ g.2 = h.2
theorem al.rf {h : zH} : al h h := ⟨fun _ _ _ _ _ _ _ => rfl, rfl⟩
theorem al.trans {h g f : zH} (a : al h g) (b : al g f) : al h f := ⟨fun K j k h1 h2 h3 h4 => (b.1 K j k h1 h2 h3 h4).trans (a.1 K j k h1 h2 h3 h4), b.2.trans a.2⟩
theorem al.of {S : List (Nat × Nat)} {h g : zH} (a : zsame S h g) (hS : ∀ p ∈ S, (p.1 = 72 ∧ p.2 = 0) ∨ (p.1 = 78 ∧ p.2 = 0) ∨ (54 ≤ p.1 ∧ p.1 ≤ 63)) : al h g := ⟨fun K j k h1 h2 h3 _ => a.1 K j k (fun z => by have := hS _ z; dsimp only at this; omega), a.2⟩
theorem al.M {κ : zK} {h g : zH} (a : al h g) (M : mK κ h) (G : gK κ) : mK κ g := M.agr G (fun K k hK => by
  simp only [List.mem_cons, List.not_mem_nil, or_false] at hK
  exact a.1 K 0 k (by omega) (by omega) (by omega) (by omega))
theorem tix {s n c : Nat} : (7 : Int32) * ((21 : Int32) * nI s + nI n) + nI c = nI (7 * (21 * s + n) + c) := by
  rw [show (21 : Int32) = nI 21 from rfl, pk_mul, nI_add, show (7 : Int32) = nI 7 from rfl, pk_mul, nI_add]
theorem al_ww {h g : zH} (a : zsame Ww h g) : al h g := al.of a (fun p hp => by
  simp only [Ww, Wk, List.mem_append, List.mem_cons, List.not_mem_nil, or_false] at hp
  rcases hp with (h | h | h | h | h | h | h | h | h) | h | h <;> subst h <;> simp)
/-- weeks with a set dry: the table's rows -/
theorem ml_rows {κ : zK} {m s M : Nat} {h : zH} {r : zRo} (Mk : mK κ h) (G : gK κ) (R : gR κ m r) (hs : s < 32) (hr : h.1 72 0 = r) (hd : h.1 12 0 54 = nI s) : ∃ g, (∀ o4, zL p_X12_laysThick 38 [some (.inr (.inr (12, 0))), some (.inl (nI M)), some (.inl (nI s)), some (.inl 0), o4] [] h = zL p_X12_laysThick 38 [some (.inr (.inr (12, 0))), some (.inl (nI M)), some (.inl (nI s)), some (.inl (nI 21)), none] [] g) ∧ al h g ∧ g.1 72 0 = wkn κ (dryB (nI s)) r 21 ∧ (∀ k, ¬ (147 * s ≤ k ∧ k < 147 * s + 147) → g.1 78 0 k = h.1 78 0 k) ∧ ∀ n c, n < 21 → c < kC κ → g.1 78 0 (7 * (21 * s + n) + c) = nI (Tk κ (dryB (nI s)) r c (ow r c) n) := by
  have h7 := G.2.1
  have o38 : ∀ (a : Int32) o4 (g : zH), zL p_X12_laysThick 38 [some (.inr (.inr (12, 0))), some (.inl (nI M)), some (.inl (nI s)), some (.inl a), o4] [] g = zL p_X12_laysThick 38 [some (.inr (.inr (12, 0))), some (.inl (nI M)), some (.inl (nI s)), some (.inl a), none] [] g := fun a o4 g => (e_X12_laysThick_38 _ _ _ _ _).trans (e_X12_laysThick_38 _ _ _ _ _).symm
  obtain ⟨g, e1, e2, e3, e4, e5, e6⟩ := zloopE (fun i (g : zH) => zL p_X12_laysThick 38 [some (.inr (.inr (12, 0))), some (.inl (nI M)), some (.inl (nI s)), some (.inl (nI i)), none] [] g)
    (fun i g => al h g ∧ g.1 72 0 = wkn κ (dryB (nI s)) r i ∧ g.1 12 0 54 = nI s ∧ (∀ k, ¬ (147 * s ≤ k ∧ k < 147 * s + 147) → g.1 78 0 k = h.1 78 0 k) ∧ ∀ n c, n < i → c < kC κ → g.1 78 0 (7 * (21 * s + n) + c) = nI (Tk κ (dryB (nI s)) r c (ow r c) n)) 21 h ⟨al.rf, hr, hd, fun _ _ => rfl, fun n c hn => absurd hn (Nat.not_lt_zero n)⟩ (fun i g hi q => by
      obtain ⟨q1, q2, q3, q4, q5⟩ := q
      obtain ⟨f, f1, f2, f3⟩ := zloopE (fun c (f : zH) => zL p_X12_laysThick 47 [some (.inr (.inr (12, 0))), some (.inl (nI M)), some (.inl (nI s)), some (.inl (nI i)), some (.inl (nI c))] [] f)
        (fun c f => zsame [(78, 0)] g f ∧ ∀ k, f.1 78 0 k = if 7 * (21 * s + i) ≤ k ∧ k < 7 * (21 * s + i) + c then g.1 72 0 (3 + (k - 7 * (21 * s + i))) else g.1 78 0 k) 7 g ⟨zsame.rf, fun k => by rw [if_neg (by omega)]⟩ (fun c f hc p => by
          obtain ⟨p1, p2⟩ := p
          rw [e_X12_laysThick_47, zf_pos (show nI c < 7 from nI_lt (b := 7) hc (by omega)), z3, tix, zfx (by omega) (by omega), zfx (by omega) (by omega), nI_clamp (by omega), nI_clamp (by omega), nI_1, p1.1 72 0 _ (by decide)]
          refine ⟨_, rfl, p1.set (by simp), fun k => ?_⟩
          by_cases e : k = 7 * (21 * s + i) + c
          · rw [e, zuI_at, if_pos (by omega), show 7 * (21 * s + i) + c - 7 * (21 * s + i) = c by omega]
          · rw [zuI_ne e, p2 k]
            by_cases e2 : 7 * (21 * s + i) ≤ k ∧ k < 7 * (21 * s + i) + c
            · rw [if_pos e2, if_pos (by omega)]
            · rw [if_neg e2, if_neg (by omega)])
      have f1 : zL p_X12_laysThick 47 [some (.inr (.inr (12, 0))), some (.inl (nI M)), some (.inl (nI s)), some (.inl (nI i)), some (.inl 0)] [] g = zL p_X12_laysThick 47 [some (.inr (.inr (12, 0))), some (.inl (nI M)), some (.inl (nI s)), some (.inl (nI i)), some (.inl (nI 7))] [] f := f1
      have fa : al h f := q1.trans (al.of f2 (fun p hp => by rw [List.mem_singleton.mp hp]; simp))
      have fr : f.1 72 0 = wkn κ (dryB (nI s)) r i := by rw [← q2]; exact funext (fun k => f2.1 72 0 k (by decide))
      have fd : f.1 12 0 54 = nI s := by rw [f2.1 12 0 54 (by decide)]; exact q3
      obtain ⟨g2, a1, a2, a3⟩ := sm_passes (m := m + i) (fa.M Mk G) G (by rw [fr]; exact wkn_gR h7 R i)
      rw [fr, fd] at a3
      rw [e_X12_laysThick_38, zf_pos (show nI i < 21 from nI_lt (b := 21) hi (by omega)), f1, e_X12_laysThick_47, zf_neg (show ¬ nI 7 < 7 by decide), a1, zci_ok, nI_1, o38]
      have g78 : ∀ k, g2.1 78 0 k = f.1 78 0 k := fun k => a2.1 78 0 k (by decide)
      refine ⟨g2, rfl, fa.trans (al_ww a2), a3, by rw [a2.1 12 0 54 (by decide)]; exact fd, fun k hk => ?_, fun n c hn hc => ?_⟩
      · rw [g78, f3 k, if_neg (by omega)]; exact q4 k hk
      · rw [g78, f3]
        by_cases e : n = i
        · subst e
          rw [if_pos (by omega), show 7 * (21 * s + n) + c - 7 * (21 * s + n) = c by omega, q2]; exact (wkn_c h7 R hc n).1
        · rw [if_neg (by omega)]; exact q5 n c (by omega) hc)
  exact ⟨g, fun o4 => (o38 _ _ _).trans e1, e2, e3, e5, e6⟩
theorem ml_laysThick {κ : zK} {m M : Nat} {h : zH} (I : IV κ m h) (hM : isMd κ M) : ∃ g, f_X12_laysThick [.inr (.inr (12, 0)), .inl (nI M)] h = some (none, g) ∧ quiet h g ∧ ∀ s n c, s < 2 ^ kP κ → okd κ s → n < 21 → c < kC κ → g.1 78 0 (7 * (21 * s + n) + c) = nI (Tk κ (dryB (nI s)) (h.1 72 0) c (ow (h.1 72 0) c) n) := by
  have h5 := I.h5
  have h7 := I.h7
  have p32 := two5 h5
  have hM1 := hM.1
  obtain ⟨g0, a1, a2, a3⟩ := sm_aside (K1 := 74) h (Or.inr rfl)
  have r0 : g0.1 72 0 = h.1 72 0 := funext (fun k => a2.1 72 0 k (by decide))
  have M0 : mK κ g0 := I.M.same I.G a2.1 (by decide)
  have o15 : ∀ (a : Int32) o3 o4 (g : zH), zL p_X12_laysThick 15 [some (.inr (.inr (12, 0))), some (.inl (nI M)), some (.inl a), o3, o4] [] g = zL p_X12_laysThick 15 [some (.inr (.inr (12, 0))), some (.inl (nI M)), some (.inl a), none, none] [] g := fun a o3 o4 g => (e_X12_laysThick_15 _ _ _ _ _).trans (e_X12_laysThick_15 _ _ _ _ _).symm
  obtain ⟨g, e1, e2, e3, e4⟩ := zloopE (fun i (g : zH) => zL p_X12_laysThick 15 [some (.inr (.inr (12, 0))), some (.inl (nI M)), some (.inl (nI i)), none, none] [] g)
    (fun i g => al g0 g ∧ g.1 72 0 = h.1 72 0 ∧ ∀ s n c, s < i → okd κ s → n < 21 → c < kC κ → g.1 78 0 (7 * (21 * s + n) + c) = nI (Tk κ (dryB (nI s)) (h.1 72 0) c (ow (h.1 72 0) c) n)) (M + 1) g0 ⟨al.rf, r0, fun s n c hs => absurd hs (Nat.not_lt_zero s)⟩ (fun i g hi q => by
      obtain ⟨q1, q2, q3⟩ := q
      rw [e_X12_laysThick_15, zf_neg (nI_nlt (show i ≤ M by omega) (by omega)), zfc (hM.sub h5 (by omega)), nI_1]
      by_cases e : okd κ i
      · rw [zf_pos e]
        have qa : al g0 (zuI g 12 0 54 (nI i)) := q1.trans ⟨fun K j k h1 h2 h3 h4 => zuI_o h4, rfl⟩
        obtain ⟨g1, b1, b2, b3, b4, b5⟩ := ml_rows (M := M) (s := i) (h := zuI g 12 0 54 (nI i)) (qa.M M0 I.G) I.G I.R (by omega) (by rw [← q2]; exact funext (fun k => zuI_o (by omega))) zuI_at
        obtain ⟨g2, c1, c2, c3, c4⟩ := sm_back (K0 := 74) g1 (Or.inr rfl)
        rw [b1, e_X12_laysThick_38, zf_neg (show ¬ nI 21 < 21 by decide), c1, zcv_ok, nI_1, o15]
        have qb : al g0 g2 := (qa.trans b2).trans (al.of c2 (fun p hp => by rw [List.mem_singleton.mp hp]; simp))
        refine ⟨g2, rfl, qb, ?_, fun s n c hs ho hn hc => ?_⟩
        · funext k
          by_cases e : k < 24
          · rw [c3 k e, (qa.trans b2).1 74 0 k (by omega) (by omega) (by omega) (by omega), a3 k e]
          · rw [c4 k (by omega), b3, wkn_hi h7 (by omega)]
        · rw [c2.1 78 0 _ (by decide)]
          by_cases e : s = i
          · subst e; exact b5 n c hn hc
          · rw [b4 _ (by omega), zuI_o (by omega)]; exact q3 s n c (by omega) ho hn hc
      · rw [zf_neg e]
        exact ⟨g, rfl, q1, q2, fun s n c hs ho hn hc => q3 s n c (by
          by_cases e2 : s = i
          · subst e2; exact absurd ho e
          · omega) ho hn hc⟩)
  have e1 : zL p_X12_laysThick 15 [some (.inr (.inr (12, 0))), some (.inl (nI M)), some (.inl 0), none, none] [] g0 = zL p_X12_laysThick 15 [some (.inr (.inr (12, 0))), some (.inl (nI M)), some (.inl (nI (M + 1))), none, none] [] g := e1
  refine ⟨zuI g 12 0 54 0, ?_, ?_, fun s n c hs ho hn hc => ?_⟩
  · rw [g_X12_laysThick, a1, zcv_ok, e1, e_X12_laysThick_15, zf_pos (nI_lt (by omega) (by omega))]
  · refine ⟨fun K j k hK => ?_, fun K j k _ => ?_⟩
    · by_cases e : K = 12 ∧ j = 0 ∧ k = 54
      · obtain ⟨rfl, rfl, rfl⟩ := e
        rw [zuI_at]; exact I.D.symm
      · rw [zuI_o e]
        by_cases e5 : K = 72 ∧ j = 0
        · obtain ⟨rfl, rfl⟩ := e5
          rw [e3]
        · unfold scr at hK
          rw [e2.1 K j k e5 (by omega) (by omega) e]
          exact a2.1 K j k (fun z => by rw [List.mem_singleton, Prod.mk.injEq] at z; omega)
    · show g.2 K j k = _
      rw [e2.2, a2.2]
  · rw [zuI_o (by omega)]
    exact e4 s n c (by have := hM.le h5 hs ho; omega) ho hn hc
