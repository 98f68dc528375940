/-! Weeks going by: one cake followed alone. -/
/-- the first below N, else N -/
noncomputable def fst9 : Nat → (Nat → Prop) → Nat
  | 0, _ => 0
  | n + 1, p => @ite _ (p 0) (Classical.propDecidable _) 0 (fst9 n (fun k => p (k + 1)) + 1)
theorem fst9_le : ∀ (N : Nat) (p : Nat → Prop), fst9 N p ≤ N
  | 0, _ => Nat.le_refl _
  | n + 1, p => by
    simp only [fst9]
    by_cases h : p 0
    · rw [zite_pos h]; omega
    · rw [zite_neg h]; have := fst9_le n (fun k => p (k + 1)); omega
theorem fst9_not : ∀ (N : Nat) (p : Nat → Prop) (i : Nat), i < fst9 N p → ¬ p i
  | 0, _, i, hi => absurd hi (Nat.not_lt_zero i)
  | n + 1, p, i, hi => by
    simp only [fst9] at hi
    by_cases h : p 0
    · rw [zite_pos h] at hi; omega
    · rw [zite_neg h] at hi
      cases i with
      | zero => exact h
      | succ i => exact fst9_not n (fun k => p (k + 1)) i (by omega)
theorem fst9_is : ∀ (N : Nat) (p : Nat → Prop), fst9 N p < N → p (fst9 N p)
  | 0, _, h => absurd h (Nat.not_lt_zero _)
  | n + 1, p, h => by
    simp only [fst9] at h ⊢
    by_cases h0 : p 0
    · rw [zite_pos h0]; exact h0
    · rw [zite_neg h0] at h ⊢; exact fst9_is n (fun k => p (k + 1)) (by omega)
theorem fst9_uq {N : Nat} {p : Nat → Prop} {k : Nat} (h1 : k ≤ N) (h2 : ∀ i, i < k → ¬ p i) (h3 : k < N → p k) : fst9 N p = k := by
  have a := fst9_le N p
  rcases Nat.lt_trichotomy (fst9 N p) k with h | h | h
  · exact absurd (fst9_is N p (by omega)) (h2 _ h)
  · exact h
  · exact absurd (h3 (by omega)) (fst9_not N p k h)
theorem fst9_congr {N : Nat} {p q : Nat → Prop} (h : ∀ i, i < N → (p i ↔ q i)) : fst9 N p = fst9 N q :=
  fst9_uq (fst9_le N q) (fun i hi e => fst9_not N q i hi ((h i (by have := fst9_le N q; omega)).mp e)) (fun hk => (h _ hk).mpr (fst9_is N q hk))
/-- how thick cake c is behind n weeks, were it q's -/
noncomputable def Tk (κ : zK) (D : Nat → Prop) (r : zRo) (c q : Nat) : Nat → Nat
  | 0 => (r (3 + c)).toNatClampNeg
  | n + 1 => Tk κ D r c q n - @ite _ (¬ tb (r 2) c ∧ ¬ (kKd κ q = 2 ∨ D q)) (Classical.propDecidable _) (wr κ q c (nI (Tk κ D r c q n)) (r (17 + c) + nI n)) 0
theorem Tk_mono {κ : zK} {D : Nat → Prop} {r : zRo} {c q n m : Nat} (h : n ≤ m) : Tk κ D r c q m ≤ Tk κ D r c q n := by
  induction m with
  | zero => rw [show n = 0 by omega]; exact Nat.le_refl _
  | succ m ih =>
    by_cases e : n = m + 1
    · rw [e]; exact Nat.le_refl _
    · exact Nat.le_trans (Nat.sub_le _ _) (ih (by omega))
theorem Tk_keep {κ : zK} {D : Nat → Prop} {r : zRo} {c q : Nat} (h : ¬ (¬ tb (r 2) c ∧ ¬ (kKd κ q = 2 ∨ D q))) : ∀ n, Tk κ D r c q n = Tk κ D r c q 0
  | 0 => rfl
  | n + 1 => by
    simp only [Tk]
    rw [zite_neg h, Nat.sub_zero]; exact Tk_keep h n
theorem Tk_0 {κ : zK} {D : Nat → Prop} {r : zRo} {m c q : Nat} (R : gR κ m r) (hc : c < kC κ) : r (3 + c) = nI (Tk κ D r c q 0) ∧ Tk κ D r c q 0 ≤ 40 := by
  obtain ⟨-, ⟨t, t1, t2⟩, -⟩ := R.1 c hc
  show r (3 + c) = nI (r (3 + c)).toNatClampNeg ∧ (r (3 + c)).toNatClampNeg ≤ 40
  rw [t2, nI_clamp (by omega)]; exact ⟨rfl, t1⟩
theorem Tk_le {κ : zK} {D : Nat → Prop} {r : zRo} {m c q : Nat} (R : gR κ m r) (hc : c < kC κ) (n : Nat) : Tk κ D r c q n ≤ 40 := Nat.le_trans (Tk_mono (Nat.zero_le n)) (Tk_0 R hc).2
theorem Tk_stop {κ : zK} {D : Nat → Prop} {r : zRo} {c q k n : Nat} (hk : k ≤ n) (h : Tk κ D r c q k = 0 ∨ ¬ (¬ tb (r 2) c ∧ ¬ (kKd κ q = 2 ∨ D q))) : Tk κ D r c q n = Tk κ D r c q k := by
  rcases h with h | h
  · have := Tk_mono (κ := κ) (D := D) (r := r) (c := c) (q := q) hk; omega
  · rw [Tk_keep h n, Tk_keep h k]
theorem nI_p0 {n : Nat} (h : n < 2 ^ 31) : (0 : Int32) < nI n ↔ 0 < n := nI_ltI (a := 0) (by omega) h
/-- n weeks -/
noncomputable def wkn (κ : zK) (D : Nat → Prop) (r : zRo) : Nat → zRo
  | 0 => r
  | n + 1 => weekR κ D (wkn κ D r n)
theorem wkn_gR {κ : zK} {D : Nat → Prop} {r : zRo} {m : Nat} (h7 : kC κ ≤ 7) (R : gR κ m r) : ∀ n, gR κ (m + n) (wkn κ D r n)
  | 0 => R
  | n + 1 => (wkn_gR h7 R n).week h7
theorem wkn_c {κ : zK} {D : Nat → Prop} {r : zRo} {m c : Nat} (h7 : kC κ ≤ 7) (R : gR κ m r) (hc : c < kC κ) : ∀ n, wkn κ D r n (3 + c) = nI (Tk κ D r c (ow r c) n) ∧ wkn κ D r n (10 + c) = r (10 + c) ∧ wkn κ D r n 2 = r 2 ∧ wkn κ D r n 1 = r 1 ∧ ((∀ k, k < n → 0 < Tk κ D r c (ow r c) k) → (¬ tb (r 2) c ∧ ¬ (kKd κ (ow r c) = 2 ∨ D (ow r c))) → wkn κ D r n (17 + c) = r (17 + c) + nI n) ∧ (¬ (¬ tb (r 2) c ∧ ¬ (kKd κ (ow r c) = 2 ∨ D (ow r c))) → wkn κ D r n (17 + c) = r (17 + c))
  | 0 => ⟨(Tk_0 R hc).1, rfl, rfl, rfl, fun _ _ => by show r (17 + c) = r (17 + c) + nI 0; rw [nI_0, Int32.add_zero], fun _ => rfl⟩
  | n + 1 => by
    obtain ⟨i1, i2, i3, i4, i5, i6⟩ := wkn_c h7 R hc n
    have hT := Tk_le (D := D) (q := ow r c) R hc n
    have ho : ow (wkn κ D r n) c = ow r c := by unfold ow; rw [i2]
    have cw : canW κ D (wkn κ D r n) c ↔ 0 < Tk κ D r c (ow r c) n ∧ (¬ tb (r 2) c ∧ ¬ (kKd κ (ow r c) = 2 ∨ D (ow r c))) := by
      unfold canW; rw [i1, i3, ho, nI_p0 (by omega)]
    show weekR κ D (wkn κ D r n) (3 + c) = _ ∧ weekR κ D (wkn κ D r n) (10 + c) = _ ∧ weekR κ D (wkn κ D r n) 2 = _ ∧ weekR κ D (wkn κ D r n) 1 = _ ∧ (_ → _ → weekR κ D (wkn κ D r n) (17 + c) = _) ∧ (_ → weekR κ D (wkn κ D r n) (17 + c) = _)
    rw [weekR_lo h7 hc, weekR_us h7 hc, weekR_el (k := 10 + c) (by omega) (by omega) (by omega), weekR_el (k := 2) (by omega) (by omega) (by omega), weekR_el (k := 1) (by omega) (by omega) (by omega)]
    refine ⟨?_, i2, i3, i4, fun hp hw => ?_, fun hw => ?_⟩
    · by_cases hw : ¬ tb (r 2) c ∧ ¬ (kKd κ (ow r c) = 2 ∨ D (ow r c))
      · by_cases h0 : 0 < Tk κ D r c (ow r c) n
        · rw [zi_pos (cw.mpr ⟨h0, hw⟩), ho, i1, tw_nI (by omega), i5 (fun k hk => Nat.lt_of_lt_of_le h0 (Tk_mono (by omega))) hw]
          simp only [Tk]; rw [zite_pos hw]
        · rw [zi_neg (fun z => h0 (cw.mp z).1), i1]
          simp only [Tk]; rw [show Tk κ D r c (ow r c) n = 0 by omega, Nat.zero_sub]
      · rw [zi_neg (fun z => hw (cw.mp z).2), i1]
        simp only [Tk]; rw [zite_neg hw, Nat.sub_zero]
    · rw [zi_pos (cw.mpr ⟨hp n (by omega), hw⟩), i5 (fun k hk => hp k (by omega)) hw, Int32.add_assoc, nI_1]
    · rw [zi_neg (fun z => hw (cw.mp z).2)]; exact i6 hw
/-! the class follows it -/
def wans (n : Nat) : Int32 := if n = 100 then zm1 else nI n
theorem cl_weeksTo {κ : zK} {h : zH} {j m c q lv : Nat} {r : zRo} (K : cK κ h) (S : cS κ h j r) (R : gR κ m r) (hc : c < kC κ) (hq : q < kP κ) (hl : lv ≤ 40) : ∃ g, f_X8_weeksTo [.inr (.inr (8, j)), .inl (nI lv), .inl (nI c), .inl (nI q)] h = some (some (.inl (wans (fst9 100 (fun n => Tk κ (fun _ => False) r c q n ≤ lv)))), g) ∧ zsame [(23, 0)] h g := by
  have h7 := K.2.2.2.1
  obtain ⟨s1, s2, s3⟩ := S.2.2.2 c hc
  obtain ⟨t1, t2⟩ := Tk_0 (D := fun _ => False) (q := q) R hc
  have tl := Tk_le (D := fun _ => False) (q := q) R hc
  have wf : (¬ tb (r 2) c ∧ ¬ kKd κ q = 2) ↔ (¬ tb (r 2) c ∧ ¬ (kKd κ q = 2 ∨ False)) := by rw [or_false]
  rw [g_X8_weeksTo, cl_hasCake K, zci_ok, zf_b0, zf_pos (isC_nI h7 hc), zfx (by omega) (by omega), nI_clamp (by omega), s2, t1]
  by_cases hw : ¬ tb (r 2) c ∧ ¬ kKd κ q = 2
  · obtain ⟨g, e1, e2⟩ := zloopE (fun i (g : zH) => zL p_X8_weeksTo 24 [some (.inr (.inr (8, j))), some (.inl (nI lv)), some (.inl (nI c)), some (.inl (nI q)), some (.inl (nI (Tk κ (fun _ => False) r c q i))), some (.inl (nI i))] [] g)
      (fun _ g => zsame [(23, 0)] h g) (fst9 100 (fun n => Tk κ (fun _ => False) r c q n ≤ lv)) h zsame.rf (fun i g hi hg => by
        have hi2 := fst9_not _ _ i hi
        have hi3 := fst9_le 100 (fun n => Tk κ (fun _ => False) r c q n ≤ lv)
        have Kg : cK κ g := K.same hg.1 (by decide)
        have Sg : cS κ g j r := S.same hg.1 (by simp)
        have tli := tl i
        rw [e_X8_weeksTo_24, zf_neg (show ¬ 99 < nI i by rw [Olt (by omega) (by decide)]; exact Nat.not_lt.mpr (show i ≤ 99 by omega)), zf_pos (nI_lt (show lv < Tk κ (fun _ => False) r c q i by omega) (by omega)), cl_canWear Kg Sg hq, zci_ok, zf_b0, zf_pos hw, zfx (by omega) (by omega), nI_clamp (by omega), (Sg.2.2.2 c hc).2.2]
        obtain ⟨g2, f1, f2⟩ := cl_thickWashed (nI (Tk κ (fun _ => False) r c q i)) (r (17 + c) + nI i) Kg hc hq
        rw [f1, zci_ok, nI_1]
        refine ⟨g2, ?_, hg.trans f2⟩
        rw [tw_nI (by omega)]
        simp only [Tk]; rw [zite_pos (wf.mp hw)])
    refine ⟨g, ?_, e2⟩
    rw [← nI_0]
    refine e1.trans ?_
    have hk := fst9_le 100 (fun n => Tk κ (fun _ => False) r c q n ≤ lv)
    have hp := fst9_is 100 (fun n => Tk κ (fun _ => False) r c q n ≤ lv)
    generalize fst9 100 (fun n => Tk κ (fun _ => False) r c q n ≤ lv) = k at hk hp
    have tlk := tl k
    rw [e_X8_weeksTo_24]
    unfold wans
    by_cases e : k = 100
    · rw [zf_pos (show 99 < nI k by rw [Olt (by omega) (by decide)]; exact (show 99 < k by omega)), if_pos e]
    · have hp := hp (by omega)
      rw [zf_neg (show ¬ 99 < nI k by rw [Olt (by omega) (by decide)]; exact Nat.not_lt.mpr (show k ≤ 99 by omega)), zf_neg (nI_nlt hp (by omega)), if_neg e]
  · refine ⟨h, ?_, zsame.rf⟩
    have kp := Tk_keep (D := fun _ => False) (fun z => hw (wf.mpr z))
    rw [e_X8_weeksTo_24, zf_neg (show ¬ (99 : Int32) < 0 by decide)]
    by_cases e : Tk κ (fun _ => False) r c q 0 ≤ lv
    · rw [zf_neg (nI_nlt e (by omega)), fst9_uq (k := 0) (by omega) (fun i hi => by omega) (fun _ => e)]; rfl
    · rw [zf_pos (nI_lt (by omega) (by omega)), cl_canWear K S hq, zci_ok, zf_b0, zf_neg hw, fst9_uq (k := 100) (by omega) (fun i _ => by rw [kp i]; exact e) (fun z => by omega)]; rfl
theorem cl_thickBehind {κ : zK} {h : zH} {j m c n : Nat} {r : zRo} (K : cK κ h) (S : cS κ h j r) (R : gR κ m r) (hc : c < kC κ) (hn : n < 1000) : ∃ g, f_X8_thickBehind [.inr (.inr (8, j)), .inl (nI n), .inl (nI c)] h = some (some (.inl (nI (Tk κ (fun _ => False) r c (ow r c) n))), g) ∧ zsame [(23, 0)] h g := by
  have h7 := K.2.2.2.1
  obtain ⟨s1, s2, s3⟩ := S.2.2.2 c hc
  obtain ⟨o1, o2⟩ := R.own K.2.1 hc
  generalize hq : ow r c = q at o1 o2
  obtain ⟨t1, t2⟩ := Tk_0 (D := fun _ => False) (q := q) R hc
  have tl := Tk_le (D := fun _ => False) (q := q) R hc
  have wf : (¬ tb (r 2) c ∧ ¬ kKd κ q = 2) ↔ (¬ tb (r 2) c ∧ ¬ (kKd κ q = 2 ∨ False)) := by rw [or_false]
  rw [g_X8_thickBehind, cl_hasCake K, zci_ok, zf_b0, zf_pos (isC_nI h7 hc), zfx (by omega) (by omega), nI_clamp (by omega), s2, t1]
  obtain ⟨g, e1, e2⟩ := zloopE (fun i (g : zH) => zL p_X8_thickBehind 23 [some (.inr (.inr (8, j))), some (.inl (nI n)), some (.inl (nI c)), some (.inl (nI (Tk κ (fun _ => False) r c q i))), some (.inl (nI i))] [] g)
      (fun _ g => zsame [(23, 0)] h g) (fst9 n (fun i => Tk κ (fun _ => False) r c q i = 0 ∨ ¬ (¬ tb (r 2) c ∧ ¬ kKd κ q = 2))) h zsame.rf (fun i g hi hg => by
        have hi2 := fst9_not _ _ i hi
        have hi3 := fst9_le n (fun i => Tk κ (fun _ => False) r c q i = 0 ∨ ¬ (¬ tb (r 2) c ∧ ¬ kKd κ q = 2))
        have Kg : cK κ g := K.same hg.1 (by decide)
        have Sg : cS κ g j r := S.same hg.1 (by simp)
        have hw : ¬ tb (r 2) c ∧ ¬ kKd κ q = 2 := Classical.byContradiction (fun z => hi2 (Or.inr z))
        have h0 : 0 < Tk κ (fun _ => False) r c q i := Nat.pos_of_ne_zero (fun z => hi2 (Or.inl z))
        have tli := tl i
        rw [e_X8_thickBehind_23, zf_pos (nI_lt (show i < n by omega) (by omega)), zf_pos ((nI_p0 (by omega)).mpr h0), zfx (by omega) (by omega), nI_clamp (by omega), (Sg.2.2.2 c hc).1, o2, cl_canWear Kg Sg o1, zci_ok, zf_b0, zf_pos hw, zfx (by omega) (by omega), zfx (by omega) (by omega), (Sg.2.2.2 c hc).1, o2, (Sg.2.2.2 c hc).2.2]
        obtain ⟨g2, f1, f2⟩ := cl_thickWashed (nI (Tk κ (fun _ => False) r c q i)) (r (17 + c) + nI i) Kg hc o1
        rw [f1, zci_ok, nI_1]
        refine ⟨g2, ?_, hg.trans f2⟩
        rw [tw_nI (by omega)]
        simp only [Tk]; rw [zite_pos (wf.mp hw)])
  refine ⟨g, ?_, e2⟩
  rw [← nI_0]
  refine e1.trans ?_
  have Kg : cK κ g := K.same e2.1 (by decide)
  have Sg : cS κ g j r := S.same e2.1 (by simp)
  have hk := fst9_le n (fun i => Tk κ (fun _ => False) r c q i = 0 ∨ ¬ (¬ tb (r 2) c ∧ ¬ kKd κ q = 2))
  have hp := fst9_is n (fun i => Tk κ (fun _ => False) r c q i = 0 ∨ ¬ (¬ tb (r 2) c ∧ ¬ kKd κ q = 2))
  generalize fst9 n (fun i => Tk κ (fun _ => False) r c q i = 0 ∨ ¬ (¬ tb (r 2) c ∧ ¬ kKd κ q = 2)) = k at hk hp
  have tlk := tl k
  rw [e_X8_thickBehind_23]
  by_cases e : k = n
  · rw [zf_neg (nI_nlt (by omega) (by omega)), e]
  · have hp := hp (by omega)
    have st : Tk κ (fun _ => False) r c q n = Tk κ (fun _ => False) r c q k := Tk_stop hk (hp.elim Or.inl (fun z => Or.inr (fun y => z (wf.mpr y))))
    rw [zf_pos (nI_lt (show k < n by omega) (by omega)), st]
    by_cases e0 : Tk κ (fun _ => False) r c q k = 0
    · rw [zf_neg (fun z => by rw [nI_p0 (by omega)] at z; omega)]
    · rw [zf_pos ((nI_p0 (by omega)).mpr (by omega)), zfx (by omega) (by omega), nI_clamp (by omega), (Sg.2.2.2 c hc).1, o2, cl_canWear Kg Sg o1, zci_ok, zf_b0, zf_neg (hp.resolve_left e0)]
