/-! By hand: what is done is kept, and undone. -/
theorem min16 {d : Nat} (hd : d ≤ 16) : (if nI d + 1 < 16 then nI d + 1 else 16) = nI (min 16 (d + 1)) := by
  rw [nI_1]
  by_cases e : d + 1 < 16
  · rw [if_pos (show nI (d + 1) < 16 from nI_lt (b := 16) e (by omega)), show min 16 (d + 1) = d + 1 by omega]
  · rw [if_neg (show ¬ nI (d + 1) < 16 from nI_nlt (b := 16) (by omega) (by omega)), show min 16 (d + 1) = 16 by omega]; rfl
theorem mod16 {a : Nat} (ha : a < 100) : nI a - nI a / 16 * 16 = nI (a % 16) := by
  rw [show (16 : Int32) = nI 16 from rfl]; exact pk_rem (by omega) (by omega) (by omega)
theorem cl_keep {κ : zK} {h : zH} {d n : Nat} {r : zRo} (h7 : kC κ ≤ 7) (S : cS κ h 0 r) (hd : d ≤ 16) (hn : n < 16) (h1 : h.1 5 0 1 = nI n) (h2 : h.1 5 0 2 = nI d) : ∃ g, f_X5_keep [.inr (.inr (5, 0)), .inr (.inr (8, 0))] h = some (none, g) ∧ zsame [(32, 5 + n), (33, 5 + n), (8, 5 + n), (31, 5 + n), (5, 0)] h g ∧ cS κ g (5 + n) r ∧ g.1 5 0 1 = nI ((n + 1) % 16) ∧ g.1 5 0 2 = nI (min 16 (d + 1)) := by
  rw [g_X5_keep, h1, zfx (by omega) (by omega), nI_clamp (by omega)]
  obtain ⟨g, e1, e2, e3⟩ := cl_copyFrom (j0 := 5 + n) (j1 := 0) h7 S (by omega)
  have g1 : g.1 5 0 1 = nI n := by rw [e2.1 5 0 1 (by simp)]; exact h1
  have g2 : g.1 5 0 2 = nI d := by rw [e2.1 5 0 2 (by simp)]; exact h2
  rw [e1, zcv_ok, g1, g2, nI_1, mod16 (by omega), min16 hd]
  refine ⟨_, rfl, ((e2.mono (by simp)).set (by simp)).set (by simp), e3.agr (fun K k hK => ?_), by rw [zuI_ne (by decide), zuI_at], zuI_at⟩
  have := mem4 hK
  rw [zuI_kd (by omega), zuI_kd (by omega)]
/-- the class, by hand -/
theorem lc_hand {κ : zK} {m a d n : Nat} {h : zH} (I : IV κ m h) (ha : a ≤ 5) (hd : d ≤ 16) (hn : n < 16) (h1 : h.1 5 0 1 = nI n) (h2 : h.1 5 0 2 = nI d) (x y : Int32) (hc : canR κ (h.1 72 0) a x y) : ∃ g, f_X11_doByHand [.inr (.inr (11, 0)), .inl (nI a), .inl x, .inl y] h = some (some (.inl 1), g) ∧ zsame ([(32, 5 + n), (33, 5 + n), (8, 5 + n), (31, 5 + n), (5, 0)] ++ Sj 0) h g ∧ cS κ g 0 (doR κ (h.1 72 0) a x y) ∧ cS κ g (5 + n) (h.1 72 0) ∧ g.1 5 0 1 = nI ((n + 1) % 16) ∧ g.1 5 0 2 = nI (min 16 (d + 1)) := by
  rw [g_X11_doByHand, cl_can I.K I.S a ha x y, zci_ok, zf_b0, zf_pos hc]
  obtain ⟨g, e1, e2, e3, e4, e5⟩ := cl_keep I.h7 I.S hd hn h1 h2
  rw [e1, zcv_ok]
  have Kg : cK κ g := I.K.same e2.1 (by simp)
  have Sg : cS κ g 0 (h.1 72 0) := I.S.same e2.1 (by simp)
  obtain ⟨f, f1, f2, f3⟩ := cl_does Kg Sg I.R a ha x y hc
  rw [f1, zci_ok, zf_pos (show (1 : Int32) = 0 ∨ (1 : Int32) = 1 from Or.inr rfl)]
  refine ⟨f, rfl, (e2.mono (fun q hq => List.mem_append.mpr (Or.inl hq))).trans (f2.mono (fun q hq => List.mem_append.mpr (Or.inr hq))), f3, e3.same f2.1 (by simp; omega), ?_, ?_⟩
  · rw [f2.1 5 0 1 (by simp)]; exact e4
  · rw [f2.1 5 0 2 (by simp)]; exact e5
theorem lc_handNo {κ : zK} {m a : Nat} {h : zH} (I : IV κ m h) (ha : a ≤ 5) (x y : Int32) (hc : ¬ canR κ (h.1 72 0) a x y) : f_X11_doByHand [.inr (.inr (11, 0)), .inl (nI a), .inl x, .inl y] h = some (some (.inl 0), h) := by
  rw [g_X11_doByHand, cl_can I.K I.S a ha x y, zci_ok, zf_b0, zf_neg hc]
/-! the model -/
theorem nI_mul24 {d : Nat} : (24 : Int32) * nI d = nI (24 * d) := pk_mul 24 d
/-- the rows behind keeps -/
def kpR (h : zH) (d i : Nat) : zRo := if d = 16 then (if i < 15 then ur h (i + 1) else h.1 72 0) else if i = d then h.1 72 0 else ur h i
theorem ml_keeps {h : zH} {d : Nat} (hd : d ≤ 16) (h1 : h.1 12 0 53 = nI d) : ∃ g, f_X12_keeps [.inr (.inr (12, 0))] h = some (none, g) ∧ g.2 = h.2 ∧ (∀ K j k, ¬ (K = 76 ∧ j = 0) → ¬ (K = 12 ∧ j = 0 ∧ k = 53) → g.1 K j k = h.1 K j k) ∧ g.1 12 0 53 = nI (min 16 (d + 1)) ∧ ∀ i k, i < min 16 (d + 1) → k < 24 → ur g i k = kpR h d i k := by
  have tail : ∀ (f : zH) (e : Nat) o1, e < 16 → f.1 12 0 53 = nI e → ∃ g, zL p_X12_keeps 49 [some (.inr (.inr (12, 0))), o1] [] f = some (none, g) ∧ g.2 = f.2 ∧ (∀ K j k, ¬ (K = 76 ∧ j = 0) → ¬ (K = 12 ∧ j = 0 ∧ k = 53) → g.1 K j k = f.1 K j k) ∧ g.1 12 0 53 = nI (e + 1) ∧ ∀ k, g.1 76 0 k = if 24 * e ≤ k ∧ k < 24 * e + 24 then f.1 72 0 (k - 24 * e) else f.1 76 0 k := by
    intro f e o1 he hf
    obtain ⟨g, e1, e2, e3⟩ := sm_copies (K0 := 72) (K1 := 76) (a := 0) (b := 24 * e) f (by decide +kernel) (by decide +kernel) (by omega) (by decide +kernel) (by show 24 * e + 24 ≤ 384; omega) (by decide +kernel) (by decide +kernel)
    rw [e_X12_keeps_49, hf, nI_mul24, ← nI_0, e1, zcv_ok, e2.1 12 0 53 (by decide), hf, nI_1]
    refine ⟨_, rfl, e2.2, fun K j k q1 q2 => ?_, zuI_at, fun k => ?_⟩
    · rw [zuI_o q2]; exact e2.1 K j k (fun m => by rw [List.mem_singleton, Prod.mk.injEq] at m; exact q1 m)
    · rw [zuI_o (by omega), e3 k]
      by_cases c : 24 * e ≤ k ∧ k < 24 * e + 24
      · rw [if_pos c, if_pos c, Nat.zero_add]
      · rw [if_neg c, if_neg c]
  rw [g_X12_keeps, h1]
  by_cases e : d = 16
  · rw [zf_pos (show nI d = 16 by rw [e]; decide)]
    obtain ⟨f, f1, f2, f3⟩ := zloopE (fun i (g : zH) => zL p_X12_keeps 11 [some (.inr (.inr (12, 0))), some (.inl (nI i))] [] g)
      (fun i g => zsame [(76, 0)] h g ∧ ∀ k, g.1 76 0 k = if k < i then h.1 76 0 (k + 24) else h.1 76 0 k) 360 h ⟨zsame.rf, fun k => by rw [if_neg (by omega)]⟩ (fun i g hi q => by
        obtain ⟨q1, q2⟩ := q
        rw [e_X12_keeps_11, zf_pos (show nI i < 360 from nI_lt (b := 360) hi (by omega)), show (24 : Int32) = nI 24 from rfl, nI_add, zfx (by omega) (by omega), zfx (by omega) (by omega), nI_clamp (by omega), nI_clamp (by omega), nI_1]
        refine ⟨_, rfl, q1.set (by simp), fun k => ?_⟩
        by_cases c : k = i
        · rw [c, zuI_at, if_pos (by omega), q2 (i + 24), if_neg (by omega)]
        · rw [zuI_ne c, q2 k]
          by_cases c2 : k < i
          · rw [if_pos c2, if_pos (by omega)]
          · rw [if_neg c2, if_neg (by omega)])
    have f1 : zL p_X12_keeps 11 [some (.inr (.inr (12, 0))), some (.inl 0)] [] h = zL p_X12_keeps 11 [some (.inr (.inr (12, 0))), some (.inl (nI 360))] [] f := f1
    have f53 : f.1 12 0 53 = nI 16 := by rw [f2.1 12 0 53 (by decide), h1, e]
    rw [f1, e_X12_keeps_11, zf_neg (show ¬ nI 360 < 360 by decide), f53, show nI 16 - 1 = nI 15 from rfl]
    obtain ⟨g, g1, g2, g3, g4, g5⟩ := tail (zuI f 12 0 53 (nI 15)) 15 (some (.inl (nI 360))) (by omega) zuI_at
    refine ⟨g, g1, g2.trans f2.2, fun K j k q1 q2 => ?_, by rw [g4, e]; rfl, fun i k hi hk => ?_⟩
    · rw [g3 K j k q1 q2, zuI_o q2]; exact f2.1 K j k (fun m => by rw [List.mem_singleton, Prod.mk.injEq] at m; exact q1 m)
    · show g.1 76 0 (24 * i + k) = _
      rw [g5, zuI_o (by omega)]
      unfold kpR
      rw [if_pos e]
      by_cases c : i < 15
      · rw [if_neg (by omega), if_pos c, zuI_o (by omega), f3, if_pos (by omega)]
        show h.1 76 0 (24 * i + k + 24) = h.1 76 0 (24 * (i + 1) + k)
        rw [show 24 * i + k + 24 = 24 * (i + 1) + k by omega]
      · rw [if_pos (by omega), if_neg c, f2.1 72 0 _ (by decide), show 24 * i + k - 24 * 15 = k by omega]
  · rw [zf_neg (show ¬ nI d = 16 by rw [eqO (by omega) (by decide)]; exact e)]
    obtain ⟨g, g1, g2, g3, g4, g5⟩ := tail h d none (by omega) h1
    refine ⟨g, g1, g2, g3, by rw [g4, show min 16 (d + 1) = d + 1 by omega], fun i k hi hk => ?_⟩
    show g.1 76 0 (24 * i + k) = _
    rw [g5]
    unfold kpR
    rw [if_neg e]
    by_cases c : i = d
    · rw [if_pos (by omega), if_pos c, c, show 24 * d + k - 24 * d = k by omega]
    · rw [if_neg (by omega), if_neg c]; rfl
/-- what holds is kept where a row has been kept and another is now -/
theorem hand_inv {κ : zK} {m a d n : Nat} {h g f : zH} {ρ : zRo} (I : IV κ m h) (J : IW κ m h) (hd : d ≤ 16) (hn : n < 16) (h1 : h.1 5 0 1 = nI n) (h2 : h.1 5 0 2 = nI d)
    (hρ : gR κ (m + 1) ρ)
    (g1 : zsame ([(32, 5 + n), (33, 5 + n), (8, 5 + n), (31, 5 + n), (5, 0)] ++ Sj 0) h g) (g2 : cS κ g 0 ρ) (g3 : cS κ g (5 + n) (h.1 72 0)) (g4 : g.1 5 0 1 = nI ((n + 1) % 16)) (g5 : g.1 5 0 2 = nI (min 16 (d + 1)))
    (f1 : f.2 = g.2) (f2 : ∀ K j k, K ≠ 76 → K ≠ 72 → ¬ (K = 12 ∧ k = 53) → ¬ scr K j k → f.1 K j k = g.1 K j k) (f3 : f.1 12 0 53 = nI (min 16 (d + 1))) (f4 : ∀ i k, i < min 16 (d + 1) → k < 24 → ur f i k = kpR h d i k) (f5 : f.1 72 0 = ρ) : Inv (m + 1) f := by
  have h7 := I.h7
  have gg : ∀ K j k, ¬ ((K = 8 ∨ K = 31 ∨ K = 32 ∨ K = 33) ∧ (j = 0 ∨ j = 5 + n)) → K ≠ 5 → K ≠ 23 → g.1 K j k = h.1 K j k := fun K j k q1 q2 q3 => g1.1 K j k (fun q => by
    simp only [Sj, List.mem_append, List.mem_cons, List.not_mem_nil, or_false, Prod.mk.injEq] at q
    omega)
  have ff : ∀ K j k, K ≠ 76 → K ≠ 72 → ¬ (K = 12 ∧ k = 53) → ¬ scr K j k → ¬ ((K = 8 ∨ K = 31 ∨ K = 32 ∨ K = 33) ∧ (j = 0 ∨ j = 5 + n)) → K ≠ 5 → f.1 K j k = h.1 K j k := fun K j k q1 q2 q3 q4 q5 q6 => (f2 K j k q1 q2 q3 q4).trans (gg K j k q5 q6 (fun e => q4 (Or.inl e)))
  have fl : f.2 = h.2 := f1.trans g1.2
  obtain ⟨i1, i2, i3, ⟨d', n', p1, p2, p3, p4, p5, p6⟩, i5, i6, i7⟩ := J
  have en : n' = n := by rw [h1, nI_eq (by omega) (by omega)] at p3; exact p3.symm
  have ed : d' = d := by rw [h2, nI_eq (by omega) (by omega)] at p4; exact p4.symm
  subst en; subst ed
  have sc : ∀ K j k, (K = 8 ∨ K = 31 ∨ K = 32 ∨ K = 33) → j ≤ 20 → ¬ scr K j k := fun K j k q1 q2 q3 => by unfold scr at q3; omega
  refine ⟨κ, ⟨I.G, I.K.agr (fun K k hK => ?_), I.M.agr I.G (fun K k hK => ?_), ?_, ?_, by rw [f5]; exact hρ⟩, ⟨i1.agr (fun K k _ => by rw [fl]), i2.agr (fun k => by rw [fl]), i3.agr ?_ ?_ (fun K k hK => ?_), ?_, i5.agr (fun K k hK => ?_) (fun K k hK => ?_), i6.agr (fun K k hK => ?_) (fun K k hK => ?_), (i7.agr ?_ (fun K k hK => ?_) (fun K j k q1 q2 hK => ?_)).mono (Nat.le_succ m)⟩⟩
  · simp only [List.mem_cons, List.not_mem_nil, or_false] at hK; exact ff K 0 k (by omega) (by omega) (by omega) (by unfold scr; omega) (by omega) (by omega)
  · simp only [List.mem_cons, List.not_mem_nil, or_false] at hK; exact ff K 0 k (by omega) (by omega) (by omega) (by unfold scr; omega) (by omega) (by omega)
  · rw [ff 12 0 54 (by omega) (by omega) (by omega) (by unfold scr; omega) (by omega) (by omega)]; exact I.D
  · rw [f5]; exact g2.agr (fun K k hK => by have := mem4 hK; exact f2 K 0 k (by omega) (by omega) (by omega) (sc K 0 k (by omega) (by omega)))
  · exact ff 9 0 1 (by omega) (by omega) (by omega) (by unfold scr; omega) (by omega) (by omega)
  · exact ff 12 0 1 (by omega) (by omega) (by omega) (by unfold scr; omega) (by omega) (by omega)
  · simp only [List.mem_cons, List.not_mem_nil, or_false] at hK; exact ff K 0 k (by omega) (by omega) (by omega) (by unfold scr; omega) (by omega) (by omega)
  · refine ⟨min 16 (d' + 1), (n' + 1) % 16, by omega, by omega, ?_, ?_, f3, fun i hi => ?_⟩
    · rw [f2 5 0 1 (by omega) (by omega) (by omega) (by unfold scr; omega)]; exact g4
    · rw [f2 5 0 2 (by omega) (by omega) (by omega) (by unfold scr; omega)]; exact g5
    · have eu := f4 i
      have key : cS κ f (5 + ((n' + 1) % 16 + 16 - min 16 (d' + 1) + i) % 16) (kpR h d' i) ∧ gR κ (m + 1) (kpR h d' i) := by
        unfold kpR
        have last : cS κ f (5 + n') (h.1 72 0) := g3.agr (fun K k hK => by have := mem4 hK; exact f2 K _ k (by omega) (by omega) (by omega) (sc K _ k (by omega) (by omega)))
        have old : ∀ i, i < d' → (d' = 16 → 0 < i) → cS κ f (5 + (n' + 16 - d' + i) % 16) (ur h i) ∧ gR κ (m + 1) (ur h i) := fun i hi h0 => ⟨(p6 i hi).1.agr (fun K k hK => by
          have := mem4 hK
          exact ff K _ k (by omega) (by omega) (by omega) (sc K _ k (by omega) (by omega)) (by omega) (by omega)), (p6 i hi).2.mono (Nat.le_succ m)⟩
        by_cases c : d' = 16
        · rw [if_pos c]
          by_cases c2 : i < 15
          · rw [if_pos c2]
            have := old (i + 1) (by omega) (by omega)
            rw [show ((n' + 1) % 16 + 16 - min 16 (d' + 1) + i) % 16 = (n' + 16 - d' + (i + 1)) % 16 by omega]; exact this
          · rw [if_neg c2, show ((n' + 1) % 16 + 16 - min 16 (d' + 1) + i) % 16 = n' by omega]; exact ⟨last, I.R.mono (Nat.le_succ m)⟩
        · rw [if_neg c]
          by_cases c2 : i = d'
          · rw [if_pos c2, show ((n' + 1) % 16 + 16 - min 16 (d' + 1) + i) % 16 = n' by omega]; exact ⟨last, I.R.mono (Nat.le_succ m)⟩
          · rw [if_neg c2]
            have := old i (by omega) (by omega)
            rw [show ((n' + 1) % 16 + 16 - min 16 (d' + 1) + i) % 16 = (n' + 16 - d' + i) % 16 by omega]; exact this
      exact ⟨key.1.row h7 (fun k hk => eu k hi hk), key.2.row h7 (fun k hk => eu k hi hk)⟩
  · have := mem4 hK; exact ff K 0 k (by omega) (by omega) (by omega) (by unfold scr; omega) (by omega) (by omega)
  · have := mem4 hK; exact ff K 0 k (by omega) (by omega) (by omega) (by unfold scr; omega) (by omega) (by omega)
  · have := mem4 hK; exact ff K 0 k (by omega) (by omega) (by omega) (by unfold scr; omega) (by omega) (by omega)
  · have := mem4 hK; exact ff K 0 k (by omega) (by omega) (by omega) (by unfold scr; omega) (by omega) (by omega)
  · exact ff 11 0 8 (by omega) (by omega) (by omega) (by unfold scr; omega) (by omega) (by omega)
  · simp only [List.mem_cons, List.not_mem_nil, or_false] at hK; exact ff K 0 k (by omega) (by omega) (by omega) (by unfold scr; omega) (by omega) (by omega)
  · simp only [List.mem_cons, List.not_mem_nil, or_false] at hK; exact ff K j k (by omega) (by omega) (by omega) (by unfold scr; omega) (by omega) (by omega)
