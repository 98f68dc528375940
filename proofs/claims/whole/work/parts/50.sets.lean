/-! Sets of powers: the class. -/
theorem Tk_D {κ : zK} {D D' : Nat → Prop} {r : zRo} {c q : Nat} (h : D q ↔ D' q) : ∀ n, Tk κ D r c q n = Tk κ D' r c q n
  | 0 => rfl
  | n + 1 => by simp only [Tk]; rw [Tk_D h n, h]
theorem Tk_dry {κ : zK} {D : Nat → Prop} {r : zRo} {c q : Nat} (h : D q) (n : Nat) : Tk κ D r c q n = Tk κ nD r c q 0 := by
  rw [Tk_keep (fun z => z.2 (Or.inr h)) n]; rfl
theorem Tk_wet {κ : zK} {D : Nat → Prop} {r : zRo} {c q : Nat} (h : ¬ D q) (n : Nat) : Tk κ D r c q n = Tk κ nD r c q n := Tk_D ⟨fun z => absurd z h, fun z => z.elim⟩ n
theorem and0 {x y : Int32} : x &&& y = 0 ↔ ∀ i, i < 32 → tb x i → ¬ tb y i := by
  constructor
  · intro e i hi h1 h2
    have := (tb_and hi).mpr ⟨h1, h2⟩
    rw [e] at this
    exact tb_zero hi this
  · intro h
    apply tb_ext
    intro i hi
    rw [tb_and hi]
    exact ⟨fun z => absurd z.2 (h i hi z.1), fun z => absurd z (tb_zero hi)⟩
theorem two5 {P : Nat} (h : P ≤ 5) : 2 ^ P ≤ 32 := Nat.le_trans (Nat.pow_le_pow_right (by omega) h) (by decide)
theorem tb_lt {n k i : Nat} (hn : n < 2 ^ k) (hi : i < 32) (h : tb (nI n) i) : i < k := Nat.lt_of_not_le (fun z => tb_hi hn z hi h)
/-- no dry power is in the set -/
def okd (κ : zK) (s : Nat) : Prop := ∀ q, q < kP κ → tb (nI s) q → ¬ kKd κ q = 2
/-- what is seen is so -/
def sCk (h : zH) (k : Nat) : Nat := (h.1 69 0 k).toNatClampNeg
def sWk (h : zH) (k : Nat) : Nat := (h.1 70 0 k).toNatClampNeg
def sTh (h : zH) (k : Nat) : Nat := (h.1 71 0 k).toNatClampNeg
def sft (κ : zK) (h : zH) (n s : Nat) : Prop := ∀ k, k < n → Tk κ (dryB (nI s)) (h.1 72 0) (sCk h k) (ow (h.1 72 0) (sCk h k)) (sWk h k) = sTh h k
def fitS (κ : zK) (h : zH) (n s : Nat) : Prop := okd κ s ∧ sft κ h n s
theorem SN.at {κ : zK} {h : zH} {n : Nat} (q : SN κ h 0) (h7 : kC κ ≤ 7) (hn : h.1 7 0 0 = nI n) (h8 : n ≤ 8) {k : Nat} (hk : k < n) : sCk h k < kC κ ∧ 1 ≤ sWk h k ∧ sWk h k ≤ 20 ∧ sTh h k ≤ 40 ∧ h.1 28 0 k = nI (sCk h k) ∧ h.1 29 0 k = nI (sWk h k) ∧ h.1 30 0 k = nI (sTh h k) ∧ h.1 69 0 k = nI (sCk h k) ∧ h.1 70 0 k = nI (sWk h k) ∧ h.1 71 0 k = nI (sTh h k) := by
  obtain ⟨n', q1, q2, q3, q4⟩ := q
  rw [hn, nI_eq (by omega) (by omega)] at q2
  obtain ⟨c, w, t, a1, a2, a3, a4, a5, a6, a7, a8, a9, a10⟩ := q4 k (by omega)
  rw [show 8 * 0 + k = k by omega] at a8 a9 a10
  unfold sCk sWk sTh
  rw [a8, a9, a10, nI_clamp (by omega), nI_clamp (by omega), nI_clamp (by omega)]
  exact ⟨a1, a2, a3, a4, a5, a6, a7, rfl, rfl, rfl⟩
theorem cl_dryBits {κ : zK} {h : zH} (K : cK κ h) : f_X0_dryBits [.inr (.inr (0, 0))] h = some (some (.inl (zbits (fun q => kKd κ q = 2) (kP κ))), h) := by
  have h5 := K.2.1
  rw [g_X0_dryBits]
  refine (zloopB (fun i b => zL p_X0_dryBits 4 [some (.inr (.inr (0, 0))), some (.inl b), some (.inl (nI i))] [] h) (fun q => kKd κ q = 2) (kP κ) (fun i b hi => ?_)).trans ?_
  · rw [e_X0_dryBits_4, K.1, zf_pos (nI_lt hi (by omega)), zfx (by omega) (by omega), nI_clamp (by omega), (K.2.2.2.2.2.1 i hi).1, nI_1]
  · rw [e_X0_dryBits_4, K.1, zf_neg (nI_nlt' (by omega))]
theorem lc_fits {κ : zK} {m n s : Nat} {h g : zH} (I : IV κ m h) (N : SN κ h 0) (hn : h.1 7 0 0 = nI n) (h8 : n ≤ 8) (q : quiet h g) (h37 : ∀ k, k < n → g.1 37 0 k = nI (Tk κ nD (h.1 72 0) (sCk h k) (ow (h.1 72 0) (sCk h k)) (sWk h k))) : f_X11_fitsAllSeen [.inr (.inr (11, 0)), .inl (nI s)] g = some (some (.inl (zb (sft κ h n s))), g) := by
  have h7 := I.h7
  have h5 := I.h5
  have Ig := I.quiet q
  have f : ∀ K k, K ∈ [7, 28, 29, 30] → g.1 K 0 k = h.1 K 0 k := fun K k hK => q.1 K 0 k (by have := mem4 hK; unfold scr; omega)
  rw [g_X11_fitsAllSeen]
  have o10 : ∀ (a : Int32) o4 o5 o6, zL p_X11_fitsAllSeen 10 [some (.inr (.inr (11, 0))), some (.inl (nI s)), some (.inr (.inr (7, 0))), some (.inl a), o4, o5, o6] [] g = zL p_X11_fitsAllSeen 10 [some (.inr (.inr (11, 0))), some (.inl (nI s)), some (.inr (.inr (7, 0))), some (.inl a), none, none, none] [] g := fun a o4 o5 o6 => (e_X11_fitsAllSeen_10 _ _ _ _ _ _ _).trans (e_X11_fitsAllSeen_10 _ _ _ _ _ _ _).symm
  refine (zloopX (fun i => zL p_X11_fitsAllSeen 10 [some (.inr (.inr (11, 0))), some (.inl (nI s)), some (.inr (.inr (7, 0))), some (.inl (nI i)), none, none, none] [] g) (fun k => ¬ Tk κ (dryB (nI s)) (h.1 72 0) (sCk h k) (ow (h.1 72 0) (sCk h k)) (sWk h k) = sTh h k) (some (some (.inl 0), g)) (some (some (.inl 1), g)) n (fun i hi => ?_) ?_).trans ?_
  · obtain ⟨s1, s2, s3, s4, s5, s6, s7, -⟩ := N.at h7 hn h8 hi
    obtain ⟨o1, o2⟩ := I.R.own h5 s1
    have T0 := Tk_0 (D := nD) (q := ow (h.1 72 0) (sCk h i)) I.R s1
    have Tw := Tk_le (D := nD) (q := ow (h.1 72 0) (sCk h i)) I.R s1 (sWk h i)
    have Sg := Ig.S.2.2.2 (sCk h i) s1
    rw [q.row] at Sg
    have h37i := h37 i hi
    generalize hc : sCk h i = c at *
    generalize hqq : ow (h.1 72 0) c = qq at *
    rw [e_X11_fitsAllSeen_10, f 7 0 (by decide), hn, zf_pos (nI_lt hi (by omega)), zfx (by omega) (by omega), nI_clamp (by omega), f 28 i (by decide), s5, cl_hasCake Ig.K, zci_ok, zf_b0, zf_pos (isC_nI h7 s1), zfx (by omega) (by omega), nI_clamp (by omega), Sg.1, o2, tb_f]
    by_cases e : tb (nI s) qq
    · rw [zf_pos e, e_X11_fitsAllSeen_66, zf_neg (show ¬ (1 : Int32) = 0 by decide), zfx (by omega) (by omega), nI_clamp (by omega), Sg.2.1, e_X11_fitsAllSeen_95, zfx (by omega) (by omega), nI_clamp (by omega), f 30 i (by decide), s7, T0.1, zfc (nI_eq (by omega) (by omega)), nI_1, o10, zf_not, Tk_dry (D := dryB (nI s)) e]
    · rw [zf_neg e, e_X11_fitsAllSeen_66, zf_pos rfl, zfx (by omega) (by omega), nI_clamp (by omega), h37i, e_X11_fitsAllSeen_95, zfx (by omega) (by omega), nI_clamp (by omega), f 30 i (by decide), s7, zfc (nI_eq (by omega) (by omega)), nI_1, o10, zf_not, Tk_wet (D := dryB (nI s)) e]
  · rw [e_X11_fitsAllSeen_10, f 7 0 (by decide), hn, zf_neg (nI_nlt' (by omega))]
  · rw [zB01]
    exact zsI ⟨fun z k hk => Classical.byContradiction (fun y => z ⟨k, hk, y⟩), fun z ⟨k, hk, y⟩ => y (z k hk)⟩
theorem lc_fittingSets {κ : zK} {m n : Nat} {h : zH} (I : IV κ m h) (N : SN κ h 0) (hn : h.1 7 0 0 = nI n) (h8 : n ≤ 8) : ∃ g, f_X11_fittingSets [.inr (.inr (11, 0))] h = some (some (.inl (zbits (fitS κ h n) (2 ^ kP κ))), g) ∧ quiet h g := by
  have h7 := I.h7
  have h5 := I.h5
  have p32 := two5 h5
  rw [g_X11_fittingSets]
  have o10 : ∀ (a : Int32) o3 o4 (g : zH), zL p_X11_fittingSets 10 [some (.inr (.inr (11, 0))), some (.inr (.inr (7, 0))), some (.inl a), o3, o4] [] g = zL p_X11_fittingSets 10 [some (.inr (.inr (11, 0))), some (.inr (.inr (7, 0))), some (.inl a), none, none] [] g := fun a o3 o4 g => (e_X11_fittingSets_10 _ _ _ _ _).trans (e_X11_fittingSets_10 _ _ _ _ _).symm
  have o65 : ∀ (a b c : Int32) o1 (g : zH), zL p_X11_fittingSets 65 [some (.inr (.inr (11, 0))), o1, some (.inl a), some (.inl b), some (.inl c)] [] g = zL p_X11_fittingSets 65 [some (.inr (.inr (11, 0))), none, some (.inl a), some (.inl b), some (.inl c)] [] g := fun a b c o1 g => (e_X11_fittingSets_65 _ _ _ _ _).trans (e_X11_fittingSets_65 _ _ _ _ _).symm
  obtain ⟨g, e1, e2, e3⟩ := zloopE (fun i (g : zH) => zL p_X11_fittingSets 10 [some (.inr (.inr (11, 0))), some (.inr (.inr (7, 0))), some (.inl (nI i)), none, none] [] g)
    (fun i g => quiet h g ∧ ∀ k, k < i → g.1 37 0 k = nI (Tk κ nD (h.1 72 0) (sCk h k) (ow (h.1 72 0) (sCk h k)) (sWk h k))) n h ⟨quiet.rf, fun k hk => absurd hk (Nat.not_lt_zero k)⟩ (fun i g hi q => by
      obtain ⟨q1, q2⟩ := q
      have Ig := I.quiet q1
      have f : ∀ K k, K ∈ [7, 28, 29, 30] → g.1 K 0 k = h.1 K 0 k := fun K k hK => q1.1 K 0 k (by have := mem4 hK; unfold scr; omega)
      obtain ⟨s1, s2, s3, s4, s5, s6, s7, -⟩ := N.at h7 hn h8 hi
      obtain ⟨g2, f1, f2⟩ := cl_thickBehind (n := sWk h i) Ig.K Ig.S Ig.R s1 (by omega)
      rw [q1.row] at f1
      rw [e_X11_fittingSets_10, f 7 0 (by decide), hn, zf_pos (nI_lt hi (by omega)), zfx (by omega) (by omega), zfx (by omega) (by omega), nI_clamp (by omega), f 28 i (by decide), f 29 i (by decide), s5, s6, f1, zci_ok, zfx (by omega) (by omega), nI_1]
      refine ⟨_, rfl, q1.trans ((qz23 f2).trans ⟨fun K j k hK => zuI_o (fun z => hK (by unfold scr; omega)), fun _ _ _ _ => rfl⟩), fun k hk => ?_⟩
      by_cases e : k = i
      · rw [e, zuI_at]
      · rw [zuI_ne e, f2.1 37 0 k (by decide)]; exact q2 k (by omega))
  have e1 : zL p_X11_fittingSets 10 [some (.inr (.inr (11, 0))), some (.inr (.inr (7, 0))), some (.inl 0), none, none] [] h = zL p_X11_fittingSets 10 [some (.inr (.inr (11, 0))), some (.inr (.inr (7, 0))), some (.inl (nI n)), none, none] [] g := e1
  have Ig := I.quiet e2
  refine ⟨g, ?_, e2⟩
  rw [e1, e_X11_fittingSets_10, e2.1 7 0 0 (by unfold scr; omega), hn, zf_neg (nI_nlt' (by omega)), cl_dryBits Ig.K, zci_ok, o65]
  refine (zloopB (fun i b => zL p_X11_fittingSets 65 [some (.inr (.inr (11, 0))), none, some (.inl (zbits (fun q => kKd κ q = 2) (kP κ))), some (.inl b), some (.inl (nI i))] [] g) (fitS κ h n) (2 ^ kP κ) (fun i b hi => ?_)).trans ?_
  · have ok : nI i &&& zbits (fun q => kKd κ q = 2) (kP κ) = 0 ↔ okd κ i := by
      rw [and0]
      constructor
      · intro z q hq ht hk
        exact z q (by omega) ht ((tb_bits (by omega) (by omega)).mpr ⟨hq, hk⟩)
      · intro z q hq ht hk
        obtain ⟨k1, k2⟩ := (tb_bits (by omega) hq).mp hk
        exact z q k1 ht k2
    rw [e_X11_fittingSets_65, Ig.K.1, shl1 _ (by omega), zf_pos (nI_lt hi (by omega)), zfc ok, lc_fits I N hn h8 e2 e3, zci_ok, zf_b0, nI_1, zf_and]
    rfl
  · rw [e_X11_fittingSets_65, Ig.K.1, shl1 _ (by omega), zf_neg (nI_nlt' (by omega))]
