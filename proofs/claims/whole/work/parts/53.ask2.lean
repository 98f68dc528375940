/-! Ask. -/
def mx9 (f : Nat → Nat) : Nat → Nat
  | 0 => 0
  | n + 1 => max (mx9 f n) (f n)
theorem mx9_eq {f : Nat → Nat} {M : Nat} : ∀ {n : Nat}, (∀ t, t < n → f t ≤ M) → (∃ t, t < n ∧ f t = M) → mx9 f n = M
  | 0, _, ⟨t, h, _⟩ => absurd h (Nat.not_lt_zero t)
  | n + 1, h1, h2 => by
    have le : ∀ k, k ≤ n + 1 → mx9 f k ≤ M := fun k => by
      induction k with
      | zero => intro _; exact Nat.zero_le _
      | succ k ih => intro hk; simp only [mx9]; exact Nat.max_le.mpr ⟨ih (by omega), h1 k (by omega)⟩
    have ge : ∀ k t, t < k → f t ≤ mx9 f k := fun k => by
      induction k with
      | zero => intro t ht; exact absurd ht (Nat.not_lt_zero t)
      | succ k ih =>
        intro t ht
        simp only [mx9]
        by_cases e : t = k
        · subst e; exact Nat.le_max_right _ _
        · exact Nat.le_trans (ih t (by omega)) (Nat.le_max_left _ _)
    obtain ⟨t, ht, e⟩ := h2
    have := ge (n + 1) t ht
    have := le (n + 1) (Nat.le_refl _)
    omega
theorem mx9_le {f : Nat → Nat} {M : Nat} : ∀ {n : Nat}, (∀ t, t < n → f t ≤ M) → mx9 f n ≤ M
  | 0, _ => Nat.zero_le _
  | n + 1, h => by simp only [mx9]; exact Nat.max_le.mpr ⟨mx9_le (fun t ht => h t (by omega)), h n (by omega)⟩
theorem nI_max {a b : Nat} (ha : a < 2 ^ 31) (hb : b < 2 ^ 31) : (if nI a < nI b then nI b else nI a) = nI (max a b) := by
  by_cases e : a < b
  · rw [if_pos ((nI_ltI ha hb).mpr e), Nat.max_eq_right (by omega)]
  · rw [if_neg (fun z => e ((nI_ltI ha hb).mp z)), Nat.max_eq_left (by omega)]
/-- of the sets that fit, the most by which a cake is as thick -/
noncomputable def msk (κ : zK) (h : zH) (n w c : Nat) : Nat := mx9 (fun t => cnt9 (fun s => fitS κ h n s ∧ Tk κ (dryB (nI s)) (h.1 72 0) c (ow (h.1 72 0) c) w = t) (2 ^ kP κ)) 41
theorem msk_le {κ : zK} {h : zH} {n w c : Nat} : msk κ h n w c ≤ 2 ^ kP κ := mx9_le (fun t _ => cnt9_le _ _)
/-- the class's way: who is dry, who is not -/
theorem msk_eq {κ : zK} {m n w c : Nat} {h : zH} (I : IV κ m h) (hc : c < kC κ) : msk κ h n w c = if Tk κ nD (h.1 72 0) c (ow (h.1 72 0) c) w = Tk κ nD (h.1 72 0) c (ow (h.1 72 0) c) 0 then cnt9 (fitS κ h n) (2 ^ kP κ) else max (cnt9 (fun s => fitS κ h n s ∧ tb (nI s) (ow (h.1 72 0) c)) (2 ^ kP κ)) (cnt9 (fitS κ h n) (2 ^ kP κ) - cnt9 (fun s => fitS κ h n s ∧ tb (nI s) (ow (h.1 72 0) c)) (2 ^ kP κ)) := by
  have t0 := Tk_le (D := nD) (q := ow (h.1 72 0) c) I.R hc 0
  have tw := Tk_le (D := nD) (q := ow (h.1 72 0) c) I.R hc w
  have vd : ∀ s, tb (nI s) (ow (h.1 72 0) c) → Tk κ (dryB (nI s)) (h.1 72 0) c (ow (h.1 72 0) c) w = Tk κ nD (h.1 72 0) c (ow (h.1 72 0) c) 0 := fun s hs => Tk_dry (D := dryB (nI s)) hs w
  have vw : ∀ s, ¬ tb (nI s) (ow (h.1 72 0) c) → Tk κ (dryB (nI s)) (h.1 72 0) c (ow (h.1 72 0) c) w = Tk κ nD (h.1 72 0) c (ow (h.1 72 0) c) w := fun s hs => Tk_wet (D := dryB (nI s)) hs w
  unfold msk
  generalize ow (h.1 72 0) c = q at *
  generalize Tk κ nD (h.1 72 0) c q 0 = T0 at *
  generalize Tk κ nD (h.1 72 0) c q w = Tw at *
  generalize 2 ^ kP κ = L at *
  have sp := cnt9_and (fitS κ h n) (fun s => tb (nI s) q) L
  by_cases e : Tw = T0
  · rw [if_pos e]
    have all : ∀ s, Tk κ (dryB (nI s)) (h.1 72 0) c q w = T0 := fun s => by
      by_cases hs : tb (nI s) q
      · exact vd s hs
      · rw [vw s hs, e]
    refine mx9_eq (fun t _ => cnt9_mono (fun k _ z => z.1)) ⟨T0, by omega, cnt9_congr (fun k _ => ⟨fun z => z.1, fun z => ⟨z, all k⟩⟩)⟩
  · rw [if_neg e]
    have fd : cnt9 (fun s => fitS κ h n s ∧ Tk κ (dryB (nI s)) (h.1 72 0) c q w = T0) L = cnt9 (fun s => fitS κ h n s ∧ tb (nI s) q) L := cnt9_congr (fun s _ => by
      by_cases hs : tb (nI s) q
      · exact ⟨fun z => ⟨z.1, hs⟩, fun z => ⟨z.1, vd s hs⟩⟩
      · exact ⟨fun z => absurd ((vw s hs).symm.trans z.2) e, fun z => absurd z.2 hs⟩)
    have fw : cnt9 (fun s => fitS κ h n s ∧ Tk κ (dryB (nI s)) (h.1 72 0) c q w = Tw) L = cnt9 (fun s => fitS κ h n s ∧ ¬ tb (nI s) q) L := cnt9_congr (fun s _ => by
      by_cases hs : tb (nI s) q
      · exact ⟨fun z => absurd (z.2.symm.trans (vd s hs)) e, fun z => absurd hs z.2⟩
      · exact ⟨fun z => ⟨z.1, hs⟩, fun z => ⟨z.1, vw s hs⟩⟩)
    have fo : ∀ t, t ≠ T0 → t ≠ Tw → cnt9 (fun s => fitS κ h n s ∧ Tk κ (dryB (nI s)) (h.1 72 0) c q w = t) L = 0 := fun t h1 h2 => cnt9_none (fun s _ z => by
      by_cases hs : tb (nI s) q
      · exact h1 (z.2.symm.trans (vd s hs))
      · exact h2 (z.2.symm.trans (vw s hs)))
    refine mx9_eq (fun t _ => ?_) ?_
    · by_cases h1 : t = T0
      · rw [h1, fd]; exact Nat.le_max_left _ _
      · by_cases h2 : t = Tw
        · rw [h2, fw]; refine Nat.le_trans ?_ (Nat.le_max_right _ _); omega
        · rw [fo t h1 h2]; exact Nat.zero_le _
    · rcases Nat.le_total (cnt9 (fun s => fitS κ h n s ∧ tb (nI s) q) L) (cnt9 (fitS κ h n) L - cnt9 (fun s => fitS κ h n s ∧ tb (nI s) q) L) with z | z
      · exact ⟨Tw, by omega, by rw [fw, Nat.max_eq_right z]; omega⟩
      · exact ⟨T0, by omega, by rw [fd, Nat.max_eq_left z]⟩
theorem lc_setsWith {κ : zK} {m q : Nat} {h : zH} (I : IV κ m h) (hq : q < kP κ) (p : Nat → Prop) : f_X11_setsWith [.inr (.inr (11, 0)), .inl (zbits p (2 ^ kP κ)), .inl (nI q)] h = some (some (.inl (nI (cnt9 (fun s => p s ∧ tb (nI s) q) (2 ^ kP κ)))), h) := by
  have h5 := I.h5
  have p32 := two5 h5
  rw [g_X11_setsWith]
  refine (zloopN (fun i b => zL p_X11_setsWith 5 [some (.inr (.inr (11, 0))), some (.inl (zbits p (2 ^ kP κ))), some (.inl (nI q)), some (.inl (nI b)), some (.inl (nI i))] [] h) (fun s => @ite _ (p s ∧ tb (nI s) q) (Classical.propDecidable _) 1 0) (2 ^ kP κ) (fun i b hi => ?_)).trans ?_
  · rw [e_X11_setsWith_5, I.K.1, shl1 _ (by omega), zf_pos (nI_lt hi (by omega)), tb_f, tb_f, nI_1, nI_1, zf_and]
    by_cases e : p i ∧ tb (nI i) q
    · rw [zf_pos ⟨(tb_bits p32 (by omega)).mpr ⟨hi, e.1⟩, e.2⟩, zite_pos e]
    · rw [zf_neg (fun z => e ⟨((tb_bits p32 (by omega)).mp z.1).2, z.2⟩), zite_neg e]; rfl
  · rw [e_X11_setsWith_5, I.K.1, shl1 _ (by omega), zf_neg (nI_nlt' (by omega)), cnt9_nsum]
theorem lm_alikeOf {κ : zK} {m n w c M : Nat} {h g : zH} (I : IV κ m h) (N : SN κ h 0) (hn : h.1 7 0 0 = nI n) (hn2 : h.1 68 0 0 = nI n) (h8 : n ≤ 8) (q : quiet h g) (hM : isMd κ M) (hc : c < kC κ) (hw : w < 21) (T : ∀ s n c, s < 2 ^ kP κ → okd κ s → n < 21 → c < kC κ → g.1 78 0 (7 * (21 * s + n) + c) = nI (Tk κ (dryB (nI s)) (h.1 72 0) c (ow (h.1 72 0) c) n)) : f_X12_alikeOf [.inr (.inr (12, 0)), .inl (nI c), .inl (nI w), .inl (nI M)] g = some (some (.inl (nI (msk κ h n w c))), g) := by
  have h5 := I.h5
  have h7 := I.h7
  have p32 := two5 h5
  have hM1 := hM.1
  let F : Nat → Nat := fun t => cnt9 (fun s => fitS κ h n s ∧ Tk κ (dryB (nI s)) (h.1 72 0) c (ow (h.1 72 0) c) w = t) (2 ^ kP κ)
  have o6 : ∀ (a b : Int32) o6 o7, zL p_X12_alikeOf 6 [some (.inr (.inr (12, 0))), some (.inl (nI c)), some (.inl (nI w)), some (.inl (nI M)), some (.inl a), some (.inl b), o6, o7] [] g = zL p_X12_alikeOf 6 [some (.inr (.inr (12, 0))), some (.inl (nI c)), some (.inl (nI w)), some (.inl (nI M)), some (.inl a), some (.inl b), none, none] [] g := fun a b o6 o7 => (e_X12_alikeOf_6 _ _ _ _ _ _ _ _).trans (e_X12_alikeOf_6 _ _ _ _ _ _ _ _).symm
  have inner : ∀ (a : Int32) t, t < 41 → zL p_X12_alikeOf 19 [some (.inr (.inr (12, 0))), some (.inl (nI c)), some (.inl (nI w)), some (.inl (nI M)), some (.inl a), some (.inl (nI t)), some (.inl 0), some (.inl 0)] [] g = zL p_X12_alikeOf 6 [some (.inr (.inr (12, 0))), some (.inl (nI c)), some (.inl (nI w)), some (.inl (nI M)), some (.inl (if a < nI (F t) then nI (F t) else a)), some (.inl (nI (t + 1))), none, none] [] g := fun a t ht => by
    refine (zloopN (fun i b => zL p_X12_alikeOf 19 [some (.inr (.inr (12, 0))), some (.inl (nI c)), some (.inl (nI w)), some (.inl (nI M)), some (.inl a), some (.inl (nI t)), some (.inl (nI b)), some (.inl (nI i))] [] g) (fun s => @ite _ (fitS κ h n s ∧ Tk κ (dryB (nI s)) (h.1 72 0) c (ow (h.1 72 0) c) w = t) (Classical.propDecidable _) 1 0) (M + 1) (fun i b hi => ?_)).trans ?_
    · have tw := Tk_le (D := dryB (nI i)) (q := ow (h.1 72 0) c) I.R hc w
      rw [e_X12_alikeOf_19, zf_neg (nI_nlt (show i ≤ M by omega) (by omega)), zfc (hM.sub h5 (by omega)), tix, zfx (by omega) (by omega), nI_clamp (by omega), Int32.add_zero, nI_1, nI_1]
      by_cases e1 : okd κ i
      · rw [zf_pos e1, T i w c (by omega) e1 hw hc, zfc (nI_eq (by omega) (by omega)), ml_isAsSeen I N hn hn2 h8 q (by omega) e1 T, zci_ok, zf_b0, zf_and]
        by_cases e : fitS κ h n i ∧ Tk κ (dryB (nI i)) (h.1 72 0) c (ow (h.1 72 0) c) w = t
        · rw [zf_pos ⟨e.2, e.1.2⟩, zite_pos e]
        · rw [zf_neg (fun z => e ⟨⟨e1, z.2⟩, z.1⟩), zite_neg e]; rfl
      · rw [zf_neg e1, zite_neg (fun z => e1 z.1.1)]; rfl
    · rw [e_X12_alikeOf_19, zf_pos (nI_lt (by omega) (by omega)), nI_1, o6, ← cnt9_nsum]
      rw [show cnt9 (fun s => fitS κ h n s ∧ Tk κ (dryB (nI s)) (h.1 72 0) c (ow (h.1 72 0) c) w = t) (M + 1) = F t from (cnt9_len (by omega) (fun s h1 h2 hf => by have := hM.le h5 h2 hf.1.1; omega)).symm]
  have hF : ∀ t, F t ≤ 32 := fun t => Nat.le_trans (cnt9_le _ _) p32
  have mle : ∀ k, mx9 F k ≤ 32 := fun k => mx9_le (fun t _ => hF t)
  rw [g_X12_alikeOf]
  refine (zloop (fun i (b : Nat) => zL p_X12_alikeOf 6 [some (.inr (.inr (12, 0))), some (.inl (nI c)), some (.inl (nI w)), some (.inl (nI M)), some (.inl (nI (mx9 F i))), some (.inl (nI i)), none, none] [] g) (fun _ b => b) 41 0 (fun i b hi => ?_)).trans ?_
  · have := mle i
    have := hF i
    rw [e_X12_alikeOf_6, zf_pos (show nI i < 41 from nI_lt (b := 41) hi (by omega)), inner _ i hi, nI_max (by omega) (by omega)]; rfl
  · rw [e_X12_alikeOf_6, zf_neg (show ¬ nI 41 < 41 by decide)]; rfl
theorem q_ask {m : Nat} {h : zH} (I : Inv m h) (x : Int32) : agree f_X11_ask f_X12_ask [.inr (.inr (11, 0)), .inl x] [.inr (.inr (12, 0)), .inl x] m h := by
  obtain ⟨κ, I, J⟩ := I
  have h5 := I.h5
  have h7 := I.h7
  have p32 := two5 h5
  have far : f_X11_isSightFar [.inl x] h = some (some (.inl (zb (¬ x < 1 ∧ ¬ (20 : Int32) < x))), h) := by
    rw [g_X11_isSightFar, zB01, zB0b]
  by_cases hx : ¬ x < 1 ∧ ¬ (20 : Int32) < x
  · obtain ⟨w, hw1, rfl⟩ := nI_of (x := x) (fun q => hx.1 (by rw [Int32.lt_iff_toInt_lt] at q ⊢; have a1 : (1 : Int32).toInt = 1 := rfl; have a0 : (0 : Int32).toInt = 0 := rfl; omega))
    have hw2 : ¬ 20 < w := fun q => hx.2 ((Olt hw1 (by decide)).mpr q)
    have N := J.2.2.2.2.2.1
    have N' := N
    obtain ⟨n, h8, hn, hn2, -⟩ := N'
    obtain ⟨g, e1, e2⟩ := lc_fittingSets I N hn h8
    let A := cnt9 (fitS κ h n) (2 ^ kP κ)
    have hA : A ≤ 32 := Nat.le_trans (cnt9_le _ _) p32
    let Ms : Nat → Nat := fun c => msk κ h n w c
    have hMs : ∀ c, Ms c ≤ 32 := fun c => Nat.le_trans msk_le p32
    let nx : Nat → Nat × Int32 → Nat × Int32 := fun c s => if Ms c < s.1 then (Ms c, nI c) else s
    have step : ∀ i (s : Nat × Int32), s.1 ≤ 32 → (nx i s).1 ≤ 32 := fun i s hs => by
      show (if Ms i < s.1 then (Ms i, nI i) else s).1 ≤ 32
      split
      · exact hMs i
      · exact hs
    -- the class
    have o28 : ∀ (a b c d e : Int32) o7 o8 (g : zH), zL p_X11_ask 28 [some (.inr (.inr (11, 0))), some (.inl (nI w)), some (.inl a), some (.inl b), some (.inl c), some (.inl d), some (.inl e), o7, o8] [] g = zL p_X11_ask 28 [some (.inr (.inr (11, 0))), some (.inl (nI w)), some (.inl a), some (.inl b), some (.inl c), some (.inl d), some (.inl e), none, none] [] g := fun a b c d e o7 o8 g => (e_X11_ask_28 _ _ _ _ _ _ _ _ _).trans (e_X11_ask_28 _ _ _ _ _ _ _ _ _).symm
    obtain ⟨⟨s, g1⟩, d1, d2, d3, d4⟩ := zloopE (fun i (a : (Nat × Int32) × zH) => zL p_X11_ask 28 [some (.inr (.inr (11, 0))), some (.inl (nI w)), some (.inl (zbits (fitS κ h n) (2 ^ kP κ))), some (.inl (nI A)), some (.inl (nI a.1.1)), some (.inl a.1.2), some (.inl (nI i)), none, none] [] a.2)
      (fun i a => a.1 = zit nx (A, zm1) i ∧ quiet h a.2 ∧ a.1.1 ≤ 32) (kC κ) ((A, zm1), g) ⟨rfl, e2, hA⟩ (fun i a hi q => by
        obtain ⟨⟨L, ch⟩, g1⟩ := a
        obtain ⟨q1, q2, q3⟩ := q
        dsimp only at q1 q2 q3 ⊢
        have Ig := I.quiet q2
        have nz : zit nx (A, zm1) (i + 1) = nx i (L, ch) := by rw [q1]; rfl
        obtain ⟨o1, o2⟩ := I.R.own h5 hi
        obtain ⟨g2, f1, f2⟩ := cl_thickBehind (n := w) Ig.K Ig.S Ig.R hi (by omega)
        have q4 := q2.trans (qz23 f2)
        have I2 := I.quiet q4
        have S2 := I2.S.2.2.2 i hi
        rw [q4.row] at S2
        rw [q2.row] at f1
        have f1 : f_X8_thickBehind [.inr (.inr (8, 0)), .inl (nI w), .inl (nI i)] g1 = some (some (.inl (nI (Tk κ nD (h.1 72 0) i (ow (h.1 72 0) i) w))), g2) := f1
        have T0 := Tk_0 (D := nD) (q := ow (h.1 72 0) i) I.R hi
        have Tw := Tk_le (D := nD) (q := ow (h.1 72 0) i) I.R hi w
        have fin : ∀ (v : Int32) o8, v = nI (Ms i) → ∃ a', zL p_X11_ask 103 [some (.inr (.inr (11, 0))), some (.inl (nI w)), some (.inl (zbits (fitS κ h n) (2 ^ kP κ))), some (.inl (nI A)), some (.inl (nI L)), some (.inl ch), some (.inl (nI i)), some (.inl v), o8] [] g2 = zL p_X11_ask 28 [some (.inr (.inr (11, 0))), some (.inl (nI w)), some (.inl (zbits (fitS κ h n) (2 ^ kP κ))), some (.inl (nI A)), some (.inl (nI (Prod.fst (Prod.fst a')))), some (.inl (Prod.snd (Prod.fst a'))), some (.inl (nI (i + 1))), none, none] [] (Prod.snd a') ∧ (Prod.fst a') = zit nx (A, zm1) (i + 1) ∧ quiet h (Prod.snd a') ∧ (Prod.fst (Prod.fst a')) ≤ 32 := fun v o8 hv => by
          have hm := hMs i
          have hL : L ≤ 32 := q3
          rw [hv, e_X11_ask_103, zfc (nI_ltI (by omega) (by omega)), nI_1]
          refine ⟨(nx i (L, ch), g2), ?_, nz.symm, q4, step i _ q3⟩
          show _ = zL p_X11_ask 28 [some (.inr (.inr (11, 0))), some (.inl (nI w)), some (.inl (zbits (fitS κ h n) (2 ^ kP κ))), some (.inl (nI A)), some (.inl (nI (nx i (L, ch)).1)), some (.inl (nx i (L, ch)).2), some (.inl (nI (i + 1))), none, none] [] g2
          by_cases e : Ms i < L
          · rw [zf_pos e, o28, show nx i (L, ch) = (Ms i, nI i) from if_pos e]
          · rw [zf_neg e, o28, show nx i (L, ch) = (L, ch) from if_neg e]
        have me := msk_eq (n := n) (w := w) I hi
        rw [e_X11_ask_28, Ig.K.2.2.1, zf_pos (nI_lt hi (by omega)), f1, zci_ok, zfx (by omega) (by omega), nI_clamp (by omega), S2.2.1, T0.1, zfc (nI_eq (by omega) (by omega))]
        by_cases e : Tk κ nD (h.1 72 0) i (ow (h.1 72 0) i) w = Tk κ nD (h.1 72 0) i (ow (h.1 72 0) i) 0
        · rw [zf_pos e]
          refine fin _ _ ?_
          show nI A = nI (msk κ h n w i)
          rw [me, if_pos e]
        · rw [zf_neg e, zfx (by omega) (by omega), S2.1, o2, lc_setsWith I2 o1, zci_ok]
          refine fin _ _ ?_
          have dl : cnt9 (fun s => fitS κ h n s ∧ tb (nI s) (ow (h.1 72 0) i)) (2 ^ kP κ) ≤ A := cnt9_mono (fun k _ z => z.1)
          rw [pk_sub dl, nI_max (by omega) (by omega)]
          show _ = nI (msk κ h n w i)
          rw [me, if_neg e])
    have d1 : zL p_X11_ask 28 [some (.inr (.inr (11, 0))), some (.inl (nI w)), some (.inl (zbits (fitS κ h n) (2 ^ kP κ))), some (.inl (nI A)), some (.inl (nI A)), some (.inl zm1), some (.inl 0), none, none] [] g = zL p_X11_ask 28 [some (.inr (.inr (11, 0))), some (.inl (nI w)), some (.inl (zbits (fitS κ h n) (2 ^ kP κ))), some (.inl (nI A)), some (.inl (nI s.1)), some (.inl s.2), some (.inl (nI (kC κ))), none, none] [] g1 := d1
    have d2 : s = zit nx (A, zm1) (kC κ) := d2
    have d3 : quiet h g1 := d3
    -- the model
    have I1 : IV κ m (zuI g1 12 0 0 0) := (I.quiet d3).quiet quiet.thrown
    have J1 := (J.quiet d3).quiet (quiet.thrown (h := g1) (v := 0))
    have q1 : quiet h (zuI g1 12 0 0 0) := d3.trans quiet.thrown
    have hng : (zuI g1 12 0 0 0).1 7 0 0 = nI n := by rw [q1.1 7 0 0 (by unfold scr; omega)]; exact hn
    have hn2g : (zuI g1 12 0 0 0).1 68 0 0 = nI n := by rw [q1.1 68 0 0 (by unfold scr; omega)]; exact hn2
    have eM : ∀ w c, msk κ (zuI g1 12 0 0 0) n w c = msk κ h n w c ∧ fitS κ (zuI g1 12 0 0 0) n = fitS κ h n := fun w c => by
      have ef : fitS κ (zuI g1 12 0 0 0) n = fitS κ h n := funext (fun s => propext (by
        unfold fitS sft sCk sWk sTh
        rw [q1.row]
        have f : ∀ K k, K ∈ [69, 70, 71] → (zuI g1 12 0 0 0).1 K 0 k = h.1 K 0 k := fun K k hK => q1.1 K 0 k (by simp only [List.mem_cons, List.not_mem_nil, or_false] at hK; unfold scr; omega)
        refine and_congr_right (fun _ => forall_congr' (fun k => ?_))
        rw [f 69 k (by decide), f 70 k (by decide), f 71 k (by decide)]))
      refine ⟨?_, ef⟩
      unfold msk
      rw [ef, q1.row]
    generalize hg0 : zuI g1 12 0 0 0 = g0 at I1 J1 q1 hng hn2g eM
    obtain ⟨f, al, so, f1, f2, -, -, f5⟩ := lm_sets I1 J1.2.2.2.2.2.1 hng hn2g h8 0 ⟨by decide, by decide⟩
    rw [zi_pos rfl, (eM 0 0).2] at f1
    obtain ⟨M, hM⟩ := md_of κ h5
    have o28m : ∀ (a b c : Int32) o5 (g : zH), zL p_X12_ask 28 [some (.inr (.inr (12, 0))), some (.inl (nI w)), some (.inl a), some (.inl b), some (.inl c), o5] [] g = zL p_X12_ask 28 [some (.inr (.inr (12, 0))), some (.inl (nI w)), some (.inl a), some (.inl b), some (.inl c), none] [] g := fun a b c o5 g => (e_X12_ask_28 _ _ _ _ _ _).trans (e_X12_ask_28 _ _ _ _ _ _).symm
    have If := I1.quiet f2
    have lp := zloopI (fun i (s : Nat × Int32) => zL p_X12_ask 28 [some (.inr (.inr (12, 0))), some (.inl (nI w)), some (.inl (nI s.1)), some (.inl s.2), some (.inl (nI i)), none] [] f) nx (fun _ s => s.1 ≤ 32) (kC κ) (A, zm1) hA (fun i s hi q => step i s q) (fun i s hi q => by
      have hm := hMs i
      rw [e_X12_ask_28, If.M.2.1, zf_pos (nI_lt hi (by omega)), ml_mayDry If.M If.G, zci_ok, hM.2, lm_alikeOf I1 J1.2.2.2.2.2.1 hng hn2g h8 f2 hM hi (by omega) f5, zci_ok, (eM w i).1, nI_1]
      show zf (nI (Ms i) < nI s.1) _ _ = zL p_X12_ask 28 [some (.inr (.inr (12, 0))), some (.inl (nI w)), some (.inl (nI (nx i s).1)), some (.inl (nx i s).2), some (.inl (nI (i + 1))), none] [] f
      rw [zfc (nI_ltI (by omega) (by omega))]
      by_cases e : Ms i < s.1
      · rw [zf_pos e, o28m, show nx i s = (Ms i, nI i) from if_pos e]
      · rw [zf_neg e, o28m, show nx i s = s from if_neg e])
    refine agree.look I J (v := (zit nx (A, zm1) (kC κ)).2) (h1 := g1) (h2 := f) ?_ d3 ?_ ((quiet.thrown (h := g1) (v := 0)).trans (by rw [hg0]; exact f2))
    · rw [g_X11_ask, far, zci_ok, zf_b0, zf_pos hx, e1, zci_ok, sj_bitCount, zci_ok, cnt9_tb p32, d1, e_X11_ask_28, (I.quiet d3).K.2.2.1, zf_neg (nI_nlt' (by omega)), d2]
    · rw [g_X12_ask, sm_within, zci_ok, zf_b0, zf_pos hx, hg0, f1, zci_ok]
      refine lp.1.trans ?_
      rw [e_X12_ask_28, If.M.2.1, zf_neg (nI_nlt' (by omega))]
  · refine agree.look I J (v := zm1) (h1 := h) (h2 := zuI h 12 0 0 0) ?_ quiet.rf ?_ quiet.thrown
    · rw [g_X11_ask, far, zci_ok, zf_b0, zf_neg hx]
    · rw [g_X12_ask, sm_within, zci_ok, zf_b0, zf_neg hx]
