/-! Calls that only look: weeks ahead. -/
theorem wans_le {n : Nat} (hn : n ≤ 100) {g : zH} : zf (99 < nI n) (some (some (.inl zm1), g)) (some (some (.inl (nI n)), g)) = some (some (.inl (wans n)), g) := by
  unfold wans
  by_cases e : n = 100
  · rw [zf_pos (show 99 < nI n by rw [Olt (by omega) (by decide)]; exact (show 99 < n by omega)), if_pos e]
  · rw [zf_neg (show ¬ 99 < nI n by rw [Olt (by omega) (by decide)]; exact Nat.not_lt.mpr (show n ≤ 99 by omega)), if_neg e]
theorem wans_m1 {n : Nat} (hn : n ≤ 100) : wans n = zm1 ↔ n = 100 := by
  unfold wans
  by_cases e : n = 100
  · rw [if_pos e]; exact ⟨fun _ => e, fun _ => rfl⟩
  · rw [if_neg e]
    exact ⟨fun q => absurd q (fun q => (nI_pos (n := n) (by omega)) (by rw [q]; decide)), fun q => absurd q e⟩
theorem qz23 {h g : zH} (a : zsame [(23, 0)] h g) : quiet h g := a.quiet (fun p hp k => by rw [List.mem_singleton.mp hp]; unfold scr; omega)
theorem qWb {h g : zH} (a : zsame Wb h g) : quiet h g := a.quiet (fun p hp k => by
  simp only [Wb, Wk, List.mem_append, List.mem_cons, List.not_mem_nil, or_false] at hp
  rcases hp with (h | h | h | h | h | h | h | h | h) | h | h <;> subst h <;> unfold scr <;> omega)
/-- behind how many weeks, 100: not by 99 -/
noncomputable def wk9 (κ : zK) (r : zRo) (c q lv : Nat) : Nat := fst9 100 (fun n => Tk κ nD r c q n ≤ lv)
theorem wk9_le {κ : zK} {r : zRo} {c q lv : Nat} : wk9 κ r c q lv ≤ 100 := fst9_le _ _
theorem lc_weeksTo {κ : zK} {m c q lv : Nat} {h : zH} (I : IV κ m h) (hc : c < kC κ) (hq : q < kP κ) (hl : lv ≤ 40) : ∃ g, f_X8_weeksTo [.inr (.inr (8, 0)), .inl (nI lv), .inl (nI c), .inl (nI q)] h = some (some (.inl (wans (wk9 κ (h.1 72 0) c q lv))), g) ∧ quiet h g := by
  obtain ⟨g, e1, e2⟩ := cl_weeksTo I.K I.S I.R hc hq hl
  exact ⟨g, e1, qz23 e2⟩
theorem lm_wornTo {κ : zK} {m c lv : Nat} {h : zH} (I : IV κ m h) (hc : c < kC κ) (hl : lv ≤ 40) : ∃ g, f_X12_wornTo [.inr (.inr (12, 0)), .inl (nI c), .inl (nI lv)] h = some (some (.inl (nI (wk9 κ (h.1 72 0) c (ow (h.1 72 0) c) lv))), g) ∧ quiet h g := by
  obtain ⟨g, e1, e2⟩ := ml_wornTo I.M I.G I.R I.D hc hl
  exact ⟨g, e1, qWb e2⟩
theorem q_gone {m : Nat} {h : zH} (I : Inv m h) (x : Int32) : agree f_X11_gone f_X12_gone [.inr (.inr (11, 0)), .inl x] [.inr (.inr (12, 0)), .inl x] m h := by
  obtain ⟨κ, I, J⟩ := I
  have h5 := I.h5
  have h7 := I.h7
  by_cases hx : isC κ x
  · obtain ⟨c, hc, rfl⟩ := hx.have h7
    obtain ⟨o1, o2⟩ := I.R.own h5 hc
    obtain ⟨g, e1, e2⟩ := lc_weeksTo (lv := 0) I hc o1 (by omega)
    have I1 : IV κ m (zuI g 12 0 0 0) := (I.quiet e2).quiet quiet.thrown
    obtain ⟨f, f1, f2⟩ := lm_wornTo (lv := 0) I1 hc (by omega)
    rw [hr0, e2.row, nI_0] at f1
    rw [nI_0] at e1
    refine agree.look I J (v := wans (wk9 κ (h.1 72 0) c (ow (h.1 72 0) c) 0)) (h1 := g) (h2 := f) ?_ e2 ?_ (quiet.thrown.trans f2)
    · rw [g_X11_gone, cl_hasCake I.K, zci_ok, zf_b0, zf_pos hx, zfx (by omega) (by omega), nI_clamp (by omega), (I.S.2.2.2 c hc).1, o2, e1, zci_ok]
    · rw [g_X12_gone, lk_isCake I1, zci_ok, zf_b0, zf_pos hx, f1, zci_ok, wans_le wk9_le]
  · refine agree.look I J (v := zm1) (h1 := h) (h2 := zuI h 12 0 0 0) ?_ quiet.rf ?_ quiet.thrown
    · rw [g_X11_gone, cl_hasCake I.K, zci_ok, zf_b0, zf_neg hx]
    · rw [g_X12_gone, lk_isCake (I.quiet quiet.thrown), zci_ok, zf_b0, zf_neg hx]
theorem lc_weeksToPebble {κ : zK} {m c p : Nat} {h : zH} (I : IV κ m h) (hc : c < kC κ) (hp : p ≤ 39) (ep : kPe κ c = nI p) : ∃ g, f_X11_weeksToPebble [.inr (.inr (11, 0)), .inl (nI c)] h = some (some (.inl (wans (wk9 κ (h.1 72 0) c (ow (h.1 72 0) c) p))), g) ∧ quiet h g := by
  have h5 := I.h5
  have h7 := I.h7
  obtain ⟨o1, o2⟩ := I.R.own h5 hc
  obtain ⟨g, e1, e2⟩ := lc_weeksTo (lv := p) I hc o1 (by omega)
  refine ⟨g, ?_, e2⟩
  have k5 := (I.K.2.2.2.2.2.2.1 c hc).2.2.2.2
  rw [g_X11_weeksToPebble, cl_hasCake I.K, zci_ok, zf_b0, zf_pos (isC_nI h7 hc), zfx (by omega) (by omega), zfx (by omega) (by omega), zfx (by omega) (by omega), nI_clamp (by omega), k5, ep, zf_neg (fun q => (nI_pos (n := p) (by omega)) (by rw [q]; decide)), (I.S.2.2.2 c hc).1, o2, e1, zci_ok]
theorem q_worn {m : Nat} {h : zH} (I : Inv m h) (x : Int32) : agree f_X11_worn f_X12_worn [.inr (.inr (11, 0)), .inl x] [.inr (.inr (12, 0)), .inl x] m h := by
  obtain ⟨κ, I, J⟩ := I
  have h5 := I.h5
  have h7 := I.h7
  by_cases hx : isC κ x
  · obtain ⟨c, hc, rfl⟩ := hx.have h7
    obtain ⟨o1, o2⟩ := I.R.own h5 hc
    have k5 := (I.K.2.2.2.2.2.2.1 c hc).2.2.2.2
    rcases (I.G.pe hc).2 with ep | ⟨p, hp, ep⟩
    · have I1 : IV κ m (zuI h 12 0 0 0) := I.quiet quiet.thrown
      refine agree.look I J (v := zm1) (h1 := h) (h2 := zuI h 12 0 0 0) ?_ quiet.rf ?_ quiet.thrown
      · rw [g_X11_worn, cl_hasCake I.K, zci_ok, zf_b0, zf_pos hx, g_X11_weeksToPebble, cl_hasCake I.K, zci_ok, zf_b0, zf_pos hx, zfx (by omega) (by omega), nI_clamp (by omega), k5, zf_pos ep, zci_ok]
      · rw [g_X12_worn, lk_isCake I1, zci_ok, zf_b0, zf_pos hx, zfx (by omega) (by omega), nI_clamp (by omega), (I1.M.2.2.2.2.1 c hc).2.2.2.2, zf_pos (show kPe κ c < 0 by rw [ep]; decide)]
    · obtain ⟨g, e1, e2⟩ := lc_weeksToPebble I hc hp ep
      have I1 : IV κ m (zuI g 12 0 0 0) := (I.quiet e2).quiet quiet.thrown
      obtain ⟨f, f1, f2⟩ := lm_wornTo (lv := p) I1 hc (by omega)
      rw [hr0, e2.row] at f1
      refine agree.look I J (v := wans (wk9 κ (h.1 72 0) c (ow (h.1 72 0) c) p)) (h1 := g) (h2 := f) ?_ e2 ?_ (quiet.thrown.trans f2)
      · rw [g_X11_worn, cl_hasCake I.K, zci_ok, zf_b0, zf_pos hx, e1, zci_ok]
      · rw [g_X12_worn, lk_isCake I1, zci_ok, zf_b0, zf_pos hx, zfx (by omega) (by omega), zfx (by omega) (by omega), nI_clamp (by omega), (I1.M.2.2.2.2.1 c hc).2.2.2.2, ep, zf_neg (nI_pos (by omega)), f1, zci_ok, wans_le wk9_le]
  · refine agree.look I J (v := zm1) (h1 := h) (h2 := zuI h 12 0 0 0) ?_ quiet.rf ?_ quiet.thrown
    · rw [g_X11_worn, cl_hasCake I.K, zci_ok, zf_b0, zf_neg hx]
    · rw [g_X12_worn, lk_isCake (I.quiet quiet.thrown), zci_ok, zf_b0, zf_neg hx]
theorem wk9_0 {κ : zK} {m c q lv : Nat} {r : zRo} (R : gR κ m r) (hc : c < kC κ) (h : ¬ 0 < r (3 + c)) : wk9 κ r c q lv = 0 := by
  obtain ⟨t1, t2⟩ := Tk_0 (D := nD) (q := q) R hc
  rw [t1, nI_p0 (by omega)] at h
  exact fst9_uq (by omega) (fun i hi => by omega) (fun _ => by omega)
theorem q_last {m : Nat} {h : zH} (I : Inv m h) : agree f_X11_last f_X12_last [.inr (.inr (11, 0))] [.inr (.inr (12, 0))] m h := by
  obtain ⟨κ, I, J⟩ := I
  have h5 := I.h5
  have h7 := I.h7
  let T : Nat → Nat := fun c => wk9 κ (h.1 72 0) c (ow (h.1 72 0) c) 0
  let nx : Nat → Nat × Int32 → Nat × Int32 := fun i s => if s.1 < T i then (T i, nI i) else s
  have hT : ∀ c, T c ≤ 100 := fun c => wk9_le
  have o15 : ∀ a b c o5 o6 (g : zH), zL p_X11_last 15 [some (.inr (.inr (11, 0))), some (.inr (.inr (8, 0))), some (.inl a), some (.inl b), some (.inl c), o5, o6] [] g = zL p_X11_last 15 [some (.inr (.inr (11, 0))), some (.inr (.inr (8, 0))), some (.inl a), some (.inl b), some (.inl c), none, none] [] g := fun a b c o5 o6 g => (e_X11_last_15 _ _ _ _ _ _ _).trans (e_X11_last_15 _ _ _ _ _ _ _).symm
  have o11 : ∀ a b c o4 (g : zH), zL p_X12_last 11 [some (.inr (.inr (12, 0))), some (.inl a), some (.inl b), some (.inl c), o4] [] g = zL p_X12_last 11 [some (.inr (.inr (12, 0))), some (.inl a), some (.inl b), some (.inl c), none] [] g := fun a b c o4 g => (e_X12_last_11 _ _ _ _ _).trans (e_X12_last_11 _ _ _ _ _).symm
  have step : ∀ i (s : Nat × Int32), s.1 ≤ 100 → (nx i s).1 ≤ 100 := fun i s hs => by
    show (if s.1 < T i then (T i, nI i) else s).1 ≤ 100
    split
    · exact hT i
    · exact hs
  obtain ⟨⟨s, g⟩, e1, e2, e3, e4⟩ := zloopE (fun i (a : (Nat × Int32) × zH) => zL p_X11_last 15 [some (.inr (.inr (11, 0))), some (.inr (.inr (8, 0))), some (.inl (nI a.1.1)), some (.inl a.1.2), some (.inl (nI i)), none, none] [] a.2)
    (fun i a => a.1 = zit nx (0, zm1) i ∧ quiet h a.2 ∧ a.1.1 ≤ 100) (kC κ) ((0, zm1), h) ⟨rfl, quiet.rf, Nat.zero_le _⟩ (fun i a hi q => by
      obtain ⟨⟨L, ch⟩, g⟩ := a
      obtain ⟨q1, q2, q3⟩ := q
      dsimp only at q1 q2 q3 ⊢
      have Ig := I.quiet q2
      obtain ⟨o1, o2⟩ := Ig.R.own h5 hi
      have nz : zit nx (0, zm1) (i + 1) = nx i (L, ch) := by rw [q1]; rfl
      rw [e_X11_last_15, Ig.K.2.2.1, zf_pos (nI_lt hi (by omega)), cl_isThere Ig.K Ig.S hi, zci_ok, zf_b0, nI_1, zfx (by omega) (by omega), nI_clamp (by omega), (Ig.S.2.2.2 i hi).1, o2]
      obtain ⟨f, f1, f2⟩ := lc_weeksTo (lv := 0) Ig hi o1 (by omega)
      rw [nI_0] at f1
      rw [f1, zci_ok, q2.row]
      by_cases e : 0 < h.1 72 0 (3 + i)
      · rw [zf_pos e]
        have hw : ∀ (X Y : Option zRes), (T i = 100 → X = zL p_X11_last 65 [some (.inr (.inr (11, 0))), some (.inr (.inr (8, 0))), some (.inl (nI L)), some (.inl ch), some (.inl (nI i)), none, none] [.inl (nI (T i))] f) → (T i ≠ 100 → Y = zL p_X11_last 65 [some (.inr (.inr (11, 0))), some (.inr (.inr (8, 0))), some (.inl (nI L)), some (.inl ch), some (.inl (nI i)), none, none] [.inl (nI (T i))] f) → zf (wans (T i) = zm1) X Y = zL p_X11_last 65 [some (.inr (.inr (11, 0))), some (.inr (.inr (8, 0))), some (.inl (nI L)), some (.inl ch), some (.inl (nI i)), none, none] [.inl (nI (T i))] f := fun X Y hX hY => by
          by_cases e : T i = 100
          · rw [zf_pos ((wans_m1 (hT i)).mpr e), hX e]
          · rw [zf_neg (fun z => e ((wans_m1 (hT i)).mp z)), hY e]
        have o65 : ∀ (s0 : Int32) o5 o6, zL p_X11_last 65 [some (.inr (.inr (11, 0))), some (.inr (.inr (8, 0))), some (.inl (nI L)), some (.inl ch), some (.inl (nI i)), o5, o6] [.inl s0] f = zL p_X11_last 65 [some (.inr (.inr (11, 0))), some (.inr (.inr (8, 0))), some (.inl (nI L)), some (.inl ch), some (.inl (nI i)), none, none] [.inl s0] f := fun s0 o5 o6 => (e_X11_last_65 _ _ _ _ _ _ _ _).trans (e_X11_last_65 _ _ _ _ _ _ _ _).symm
        rw [show wk9 κ (h.1 72 0) i (ow (h.1 72 0) i) 0 = T i from rfl]
        rw [hw _ _ (fun e => by rw [o65, e]; rfl) (fun e => by rw [o65]; unfold wans; rw [if_neg e])]
        rw [e_X11_last_65, nI_1, zfc (nI_ltI (by omega) (by have := hT i; omega))]
        refine ⟨((nx i (L, ch)), f), ?_, nz.symm, q2.trans f2, step i _ q3⟩
        show _ = zL p_X11_last 15 [some (.inr (.inr (11, 0))), some (.inr (.inr (8, 0))), some (.inl (nI (nx i (L, ch)).1)), some (.inl (nx i (L, ch)).2), some (.inl (nI (i + 1))), none, none] [] f
        by_cases e2 : L < T i
        · rw [zf_pos e2, o15, show nx i (L, ch) = (T i, nI i) from if_pos e2]
        · rw [zf_neg e2, o15, show nx i (L, ch) = (L, ch) from if_neg e2]
      · rw [zf_neg e]
        have t0 : T i = 0 := wk9_0 I.R hi e
        exact ⟨((L, ch), g), rfl, by rw [nz]; exact (if_neg (by rw [t0]; exact Nat.not_lt_zero _)).symm, q2, q3⟩)
  have I1 : IV κ m (zuI g 12 0 0 0) := (I.quiet e3).quiet quiet.thrown
  obtain ⟨⟨s', g'⟩, f1, f2, f3, f4⟩ := zloopE (fun i (a : (Nat × Int32) × zH) => zL p_X12_last 11 [some (.inr (.inr (12, 0))), some (.inl a.1.2), some (.inl (nI a.1.1)), some (.inl (nI i)), none] [] a.2)
    (fun i a => a.1 = zit nx (0, zm1) i ∧ quiet (zuI g 12 0 0 0) a.2 ∧ a.1.1 ≤ 100) (kC κ) ((0, zm1), zuI g 12 0 0 0) ⟨rfl, quiet.rf, Nat.zero_le _⟩ (fun i a hi q => by
      obtain ⟨⟨L, ch⟩, g2⟩ := a
      obtain ⟨q1, q2, q3⟩ := q
      dsimp only at q1 q2 q3 ⊢
      have Ig := I1.quiet q2
      have nz : zit nx (0, zm1) (i + 1) = nx i (L, ch) := by rw [q1]; rfl
      obtain ⟨f, f1, f2⟩ := lm_wornTo (lv := 0) Ig hi (by omega)
      rw [q2.row, hr0, e3.row, nI_0] at f1
      rw [e_X12_last_11, Ig.M.2.1, zf_pos (nI_lt hi (by omega)), f1, zci_ok, nI_1, show wk9 κ (h.1 72 0) i (ow (h.1 72 0) i) 0 = T i from rfl, zfc (nI_ltI (by omega) (by have := hT i; omega))]
      refine ⟨((nx i (L, ch)), f), ?_, nz.symm, q2.trans f2, step i _ q3⟩
      show _ = zL p_X12_last 11 [some (.inr (.inr (12, 0))), some (.inl (nx i (L, ch)).2), some (.inl (nI (nx i (L, ch)).1)), some (.inl (nI (i + 1))), none] [] f
      by_cases e2 : L < T i
      · rw [zf_pos e2, o11, show nx i (L, ch) = (T i, nI i) from if_pos e2]
      · rw [zf_neg e2, o11, show nx i (L, ch) = (L, ch) from if_neg e2])
  have e1 : zL p_X11_last 15 [some (.inr (.inr (11, 0))), some (.inr (.inr (8, 0))), some (.inl (nI 0)), some (.inl zm1), some (.inl (nI 0)), none, none] [] h = zL p_X11_last 15 [some (.inr (.inr (11, 0))), some (.inr (.inr (8, 0))), some (.inl (nI s.1)), some (.inl s.2), some (.inl (nI (kC κ))), none, none] [] g := e1
  have f1 : zL p_X12_last 11 [some (.inr (.inr (12, 0))), some (.inl zm1), some (.inl (nI 0)), some (.inl (nI 0)), none] [] (zuI g 12 0 0 0) = zL p_X12_last 11 [some (.inr (.inr (12, 0))), some (.inl s'.2), some (.inl (nI s'.1)), some (.inl (nI (kC κ))), none] [] g' := f1
  have e2 : s = zit nx (0, zm1) (kC κ) := e2
  have f2 : s' = zit nx (0, zm1) (kC κ) := f2
  have f3 : quiet (zuI g 12 0 0 0) g' := f3
  refine agree.look I J (v := (zit nx (0, zm1) (kC κ)).2) (h1 := g) (h2 := g') ?_ e3 ?_ (quiet.thrown.trans f3)
  · rw [nI_0] at e1
    rw [g_X11_last, e1, e_X11_last_15, (I.quiet e3).K.2.2.1, zf_neg (nI_nlt' (by omega)), e2]
  · rw [nI_0] at f1
    rw [g_X12_last, f1, e_X12_last_11, (I1.quiet f3).M.2.1, zf_neg (nI_nlt' (by omega)), f2]
