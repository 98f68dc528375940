/-! Pacts: what weeks bring. -/
theorem canW_wkn {κ : zK} {D : Nat → Prop} {r : zRo} {m c : Nat} (h7 : kC κ ≤ 7) (R : gR κ m r) (hc : c < kC κ) (n : Nat) : canW κ D (wkn κ D r n) c ↔ 0 < Tk κ D r c (ow r c) n ∧ (¬ tb (r 2) c ∧ ¬ (kKd κ (ow r c) = 2 ∨ D (ow r c))) := by
  obtain ⟨i1, i2, i3, -⟩ := wkn_c (D := D) h7 R hc n
  have hT := Tk_le (D := D) (q := ow r c) R hc n
  have ho : ow (wkn κ D r n) c = ow r c := by unfold ow; rw [i2]
  unfold canW; rw [i1, i3, ho, nI_p0 (by omega)]
theorem used_wkn {κ : zK} {D : Nat → Prop} {r : zRo} {m c : Nat} (h7 : kC κ ≤ 7) (R : gR κ m r) (hc : c < kC κ) : ∀ n, m + n + 1 < 2 ^ 31 → (0 < wkn κ D r (n + 1) (17 + c) ↔ 0 < r (17 + c) ∨ canW κ D r c)
  | 0, hm => by
    show 0 < weekR κ D r (17 + c) ↔ _
    obtain ⟨-, -, u, u1, u2⟩ := R.1 c hc
    rw [weekR_us h7 hc]
    by_cases e : canW κ D r c
    · rw [zi_pos e, u2, nI_1, nI_p0 (by omega)]; exact ⟨fun _ => Or.inr e, fun _ => by omega⟩
    · rw [zi_neg e]; exact ⟨Or.inl, fun z => z.elim id (fun y => absurd y e)⟩
  | n + 1, hm => by
    have ih := used_wkn (D := D) h7 R hc n (by omega)
    obtain ⟨-, -, u, u1, u2⟩ := (wkn_gR (D := D) h7 R (n + 1)).1 c hc
    show 0 < weekR κ D (wkn κ D r (n + 1)) (17 + c) ↔ _
    rw [weekR_us h7 hc]
    by_cases e : canW κ D (wkn κ D r (n + 1)) c
    · rw [zi_pos e, u2, nI_1, nI_p0 (by omega)]
      have e2 := (canW_wkn h7 R hc (n + 1)).mp e
      exact ⟨fun _ => Or.inr ((canW_wkn h7 R hc 0).mpr ⟨Nat.lt_of_lt_of_le e2.1 (Tk_mono (Nat.zero_le _)), e2.2⟩), fun _ => by omega⟩
    · rw [zi_neg e]; exact ih
theorem ear_congr {κ : zK} {r r' : zRo} (ho : ∀ c, c < kC κ → ow r' c = ow r c) (hu : ∀ c, c < kC κ → (0 < r' (17 + c) ↔ 0 < r (17 + c))) (hh : r' 2 = r 2) (ht : ∀ c, c < kC κ → tb (r 2) c → (0 < r' (3 + c) ↔ 0 < r (3 + c))) (a b : Nat) : ear κ r' a b ↔ ear κ r a b := by
  have w : ∀ a b, war κ r' a b ↔ war κ r a b := fun a b => by
    unfold war
    refine exists_congr (fun c => and_congr_right (fun hc => ?_))
    rw [hh, ho c hc]
    constructor
    · rintro ⟨h1, h2, h3⟩; exact ⟨(ht c hc h2).mp h1, h2, h3⟩
    · rintro ⟨h1, h2, h3⟩; exact ⟨(ht c hc h2).mpr h1, h2, h3⟩
  have u : ∀ a b, usd κ r' a b ↔ usd κ r a b := fun a b => by
    unfold usd
    refine exists_congr (fun c => and_congr_right (fun hc => ?_))
    rw [ho c hc, hu c hc]
  unfold ear
  rw [w, u, u]
theorem ear_weeks {κ : zK} {D : Nat → Prop} {r : zRo} {m n : Nat} (h7 : kC κ ≤ 7) (R : gR κ m r) (hm : m + n + 1 < 2 ^ 31) (a b : Nat) : ear κ (wkn κ D r (n + 1)) a b ↔ ear κ (wkn κ D r 1) a b := by
  refine ear_congr (fun c hc => ?_) (fun c hc => ?_) ?_ (fun c hc ht => ?_) a b
  · unfold ow; rw [(wkn_c h7 R hc (n + 1)).2.1, (wkn_c h7 R hc 1).2.1]
  · rw [used_wkn h7 R hc n hm, used_wkn h7 R hc 0 (by omega)]
  · rcases Nat.eq_zero_or_pos (kC κ) with e | e
    · have k : ∀ n, wkn κ D r n 2 = r 2 := fun n => by
        induction n with
        | zero => rfl
        | succ n ih => show weekR κ D (wkn κ D r n) 2 = _; rw [weekR_el (by omega) (by omega) (by omega), ih]
      rw [k, k]
    · rw [(wkn_c h7 R e (n + 1)).2.2.1, (wkn_c h7 R e 1).2.2.1]
  · have t2 : tb (r 2) c := by rw [← (wkn_c (D := D) h7 R hc 1).2.2.1]; exact ht
    rw [(wkn_c h7 R hc (n + 1)).1, (wkn_c h7 R hc 1).1, Tk_keep (fun z => z.1 t2) (n + 1), Tk_keep (fun z => z.1 t2) 1]
theorem pcnt_congr {E E' : Nat → Nat → Prop} {P : Nat} (h : ∀ a b, E a b ↔ E' a b) : pcnt E P = pcnt E' P := by
  unfold pcnt
  exact cnt9_congr (fun k _ => by rw [h])
/-- pairs in earnest behind n weeks -/
noncomputable def pw (κ : zK) (r : zRo) (n : Nat) : Nat := pcnt (ear κ (wkn κ nD r n)) (kP κ) / 2
theorem pw_1 {κ : zK} {r : zRo} {m n : Nat} (h7 : kC κ ≤ 7) (R : gR κ m r) (hm : m + n + 1 < 2 ^ 31) : pw κ r (n + 1) = pw κ r 1 := by
  unfold pw
  rw [pcnt_congr (ear_weeks h7 R hm)]
theorem pw_le {κ : zK} {r : zRo} {n : Nat} : pw κ r n ≤ 32 := by
  unfold pw pcnt
  have := cnt9_le (fun t => t < 25 ∧ ear κ (wkn κ nD r n) (t / 5) (t % 5)) 32
  omega
/-! the class -/
theorem cl_aweek {κ : zK} {h : zH} {j m : Nat} {r : zRo} (K : cK κ h) (S : cS κ h j r) (R : gR κ m r) : ∃ g, f_X8_attempt [.inr (.inr (8, j)), .inl 5, .inl zm1, .inl zm1] h = some (some (.inl 1), g) ∧ zsame (Sj j) h g ∧ cS κ g j (weekR κ nD r) := by
  obtain ⟨g, e1, e2, e3⟩ := cl_attempt K S R 5 (by omega) zm1 zm1
  have c : canR κ r 5 zm1 zm1 := by unfold canR; rw [if_pos rfl]; trivial
  rw [zite_pos c] at e3
  rw [zb_pos c] at e1
  exact ⟨g, e1, e2, by unfold doR at e3; rw [if_pos rfl] at e3; exact e3⟩
theorem qS21 {S : List (Nat × Nat)} {h g : zH} (a : zsame S h g) (hS : ∀ p ∈ S, p ∈ Sj 21) : quiet h g := a.quiet (fun p hp k => by
  have := hS p hp
  simp only [Sj, List.mem_cons, List.not_mem_nil, or_false] at this
  rcases this with h | h | h | h | h <;> subst h <;> unfold scr <;> omega)
theorem lc_pactsBehind {κ : zK} {m n : Nat} {h : zH} (I : IV κ m h) (hm : m + n + 1 < 2 ^ 31) : ∃ g, f_X11_pactsBehind [.inr (.inr (11, 0)), .inl (nI n)] h = some (some (.inl (nI (pw κ (h.1 72 0) n))), g) ∧ quiet h g := by
  have h7 := I.h7
  rw [g_X11_pactsBehind]
  cases n with
  | zero =>
    rw [zf_pos (show nI 0 = 0 from rfl), cl_pairsInEarnest I.K I.S I.G I.R, zci_ok]
    exact ⟨h, rfl, quiet.rf⟩
  | succ n =>
    obtain ⟨g1, a1, a2, a3⟩ := cl_copyFrom (j0 := 21) (j1 := 0) h7 I.S (by omega)
    have q1 : quiet h g1 := qS21 a2 (by simp)
    have I1 := I.quiet q1
    obtain ⟨g2, b1, b2, b3⟩ := cl_aweek I1.K a3 I.R
    have q2 : quiet g1 g2 := qS21 b2 (fun p hp => hp)
    have I2 := I1.quiet q2
    rw [zf_neg (nI_ne0 (by omega) (by omega)), a1, zcv_ok, b1, zci_ok, cl_pairsInEarnest I2.K b3 I2.G (I.R.week h7), zci_ok]
    refine ⟨g2, ?_, q1.trans q2⟩
    rw [pw_1 h7 I.R (by omega)]; rfl
/-! the model -/
theorem ml_weeks {κ : zK} {m : Nat} {h : zH} (M : mK κ h) (G : gK κ) (R : gR κ m (h.1 72 0)) (D : h.1 12 0 54 = 0) : ∃ g, f_X12_passes [.inr (.inr (12, 0))] h = some (some (.inl (zbits (fun c => canW κ nD (h.1 72 0) c ∧ ¬ 0 < weekR κ nD (h.1 72 0) (3 + c)) (kC κ))), g) ∧ zsame Ww h g ∧ g.1 72 0 = weekR κ nD (h.1 72 0) := sm_passes0 M G R D
theorem lm_back {κ : zK} {m : Nat} {h0 h g : zH} (I : IV κ m h0) (a : zsame (Wb ++ [(72, 0)]) h0 g) (ha : ∀ k, k < 24 → g.1 74 0 k = h0.1 72 0 k) (hb : ∀ k, 24 ≤ k → g.1 72 0 k = h0.1 72 0 k) : ∃ f, f_X12_copies [.inr (.inr (74, 0)), .inl 0, .inr (.inr (72, 0)), .inl 0] g = some (none, f) ∧ quiet h0 f := by
  obtain ⟨f, b1, b2, b3, b4⟩ := sm_back (K0 := 74) g (Or.inr rfl)
  refine ⟨f, b1, qWb (zsame.drop (a.trans (b2.mono (by simp))) ?_)⟩
  funext k
  by_cases e : k < 24
  · rw [b3 k e, ha k e]
  · rw [b4 k (by omega), hb k (by omega)]
theorem q_pacts {m : Nat} {h : zH} (I : Inv m h) (hm : m < 1000000) (x : Int32) : agree f_X11_pacts f_X12_pacts [.inr (.inr (11, 0)), .inl x] [.inr (.inr (12, 0)), .inl x] m h := by
  obtain ⟨κ, I, J⟩ := I
  have h7 := I.h7
  by_cases hx : ¬ x < 0 ∧ ¬ (60 : Int32) < x
  · obtain ⟨n, hn, rfl⟩ := in_have (n := 60) (by omega) hx
    obtain ⟨g, e1, e2⟩ := lc_pactsBehind (n := n) I (by omega)
    have I1 : IV κ m (zuI g 12 0 0 0) := (I.quiet e2).quiet quiet.thrown
    have r1 : (zuI g 12 0 0 0).1 72 0 = h.1 72 0 := by rw [hr0]; exact e2.row
    obtain ⟨g0, a1, a2, a3⟩ := sm_aside (K1 := 74) (zuI g 12 0 0 0) (Or.inr rfl)
    have r0 : g0.1 72 0 = h.1 72 0 := by rw [← r1]; exact funext (fun k => a2.1 72 0 k (by decide))
    obtain ⟨g', f1, f2, f3⟩ := zloopE (fun i (g : zH) => zL p_X12_pacts 32 [some (.inr (.inr (12, 0))), some (.inl (nI n)), some (.inl (nI i))] [] g)
      (fun i g => zsame Ww g0 g ∧ g.1 72 0 = wkn κ nD (h.1 72 0) i) n g0 ⟨zsame.rf, r0⟩ (fun i g hi q => by
        obtain ⟨q1, q2⟩ := q
        have Mg : mK κ g := (I1.M.same I1.G a2.1 (by decide)).same I1.G q1.1 (by decide)
        have Rg : gR κ (m + i) (g.1 72 0) := by rw [q2]; exact wkn_gR h7 I.R i
        have dg : g.1 12 0 54 = 0 := by rw [q1.1 12 0 54 (by decide), a2.1 12 0 54 (by decide)]; exact I1.D
        obtain ⟨g2, f1, f2, f3⟩ := sm_passes0 Mg I1.G Rg dg
        rw [e_X12_pacts_32, zf_pos (nI_lt hi (by omega)), f1, zci_ok, nI_1]
        exact ⟨g2, rfl, q1.trans f2, by rw [f3, q2]; rfl⟩)
    have f1 : zL p_X12_pacts 32 [some (.inr (.inr (12, 0))), some (.inl (nI n)), some (.inl 0)] [] g0 = zL p_X12_pacts 32 [some (.inr (.inr (12, 0))), some (.inl (nI n)), some (.inl (nI n))] [] g' := f1
    have Mg : mK κ g' := (I1.M.same I1.G a2.1 (by decide)).same I1.G f2.1 (by decide)
    have Rg : gR κ (m + n) (g'.1 72 0) := by rw [f3]; exact wkn_gR h7 I.R n
    obtain ⟨f, b1, b2⟩ := lm_back (h := h) I1 (g := g') ((a2.mono (by simp)).trans (f2.mono (by simp))) (fun k hk => by rw [f2.1 74 0 k (by decide), a3 k hk]) (fun k hk => by rw [f3, wkn_hi h7 hk, r1])
    refine agree.look I J (v := nI (pw κ (h.1 72 0) n)) (h1 := g) (h2 := f) ?_ e2 ?_ (quiet.thrown.trans b2)
    · rw [g_X11_pacts, zf_neg hx.1, zf_neg hx.2, e1, zci_ok]
    · rw [g_X12_pacts, sm_within, zci_ok, zf_b0, zf_pos hx, a1, zcv_ok, f1, e_X12_pacts_32, zf_neg (nI_nlt' (by omega)), ml_pairsEarnest Mg I1.G Rg, zci_ok, b1, zcv_ok, f3]; rfl
  · refine agree.look I J (v := zm1) (h1 := h) (h2 := zuI h 12 0 0 0) ?_ quiet.rf ?_ quiet.thrown
    · rw [g_X11_pacts]
      by_cases e : x < 0
      · rw [zf_pos e]
      · rw [zf_neg e, zf_pos (Classical.byContradiction (fun z => hx ⟨e, z⟩))]
    · rw [g_X12_pacts, sm_within, zci_ok, zf_b0, zf_neg hx]
theorem q_soonest {m : Nat} {h : zH} (I : Inv m h) (hm : m < 1000000) : agree f_X11_soonest f_X12_soonest [.inr (.inr (11, 0))] [.inr (.inr (12, 0))] m h := by
  obtain ⟨κ, I, J⟩ := I
  have h7 := I.h7
  obtain ⟨ga, ea1, ea2⟩ := lc_pactsBehind (n := 1) I (by omega)
  obtain ⟨g, e1, e2⟩ := lc_pactsBehind (n := 0) (I.quiet ea2) (by omega)
  rw [ea2.row] at e1
  have eq := ea2.trans e2
  have I1 : IV κ m (zuI g 12 0 0 0) := (I.quiet eq).quiet quiet.thrown
  have r1 : (zuI g 12 0 0 0).1 72 0 = h.1 72 0 := by rw [hr0]; exact eq.row
  obtain ⟨g0, a1, a2, a3⟩ := sm_aside (K1 := 74) (zuI g 12 0 0 0) (Or.inr rfl)
  have r0 : g0.1 72 0 = h.1 72 0 := by rw [← r1]; exact funext (fun k => a2.1 72 0 k (by decide))
  let E0 := pw κ (h.1 72 0) 0
  let E1 := pw κ (h.1 72 0) 1
  let bst : Nat → Int32 := fun i => if 2 ≤ i ∧ E0 < E1 then 1 else 0
  let mst : Nat → Int32 := fun i => if i = 0 then zm1 else if 2 ≤ i ∧ E0 < E1 then nI E1 else nI E0
  have hE0 : E0 ≤ 32 := pw_le
  have hE1 : E1 ≤ 32 := pw_le
  have o24 : ∀ a b c o4 (g : zH), zL p_X12_soonest 24 [some (.inr (.inr (12, 0))), some (.inl a), some (.inl b), some (.inl c), o4] [] g = zL p_X12_soonest 24 [some (.inr (.inr (12, 0))), some (.inl a), some (.inl b), some (.inl c), none] [] g := fun a b c o4 g => (e_X12_soonest_24 _ _ _ _ _).trans (e_X12_soonest_24 _ _ _ _ _).symm
  obtain ⟨g', f1, f2, f3⟩ := zloopE (fun i (g : zH) => zL p_X12_soonest 24 [some (.inr (.inr (12, 0))), some (.inl (bst i)), some (.inl (mst i)), some (.inl (nI i)), none] [] g)
    (fun i g => zsame Ww g0 g ∧ g.1 72 0 = wkn κ nD (h.1 72 0) i) 61 g0 ⟨zsame.rf, r0⟩ (fun i g hi q => by
      obtain ⟨q1, q2⟩ := q
      have Mg : mK κ g := (I1.M.same I1.G a2.1 (by decide)).same I1.G q1.1 (by decide)
      have Rg : gR κ (m + i) (g.1 72 0) := by rw [q2]; exact wkn_gR h7 I.R i
      have dg : g.1 12 0 54 = 0 := by rw [q1.1 12 0 54 (by decide), a2.1 12 0 54 (by decide)]; exact I1.D
      obtain ⟨g2, f1, f2, f3⟩ := sm_passes0 Mg I1.G Rg dg
      have pe := ml_pairsEarnest Mg I1.G Rg
      rw [q2] at pe
      rw [e_X12_soonest_24, zf_neg (show ¬ 60 < nI i by rw [Olt (by omega) (by decide)]; exact Nat.not_lt.mpr (show i ≤ 60 by omega)), pe, zci_ok, show nI (pcnt (ear κ (wkn κ nD (h.1 72 0) i)) (kP κ) / 2) = nI (pw κ (h.1 72 0) i) from rfl, f1, zci_ok, zci_ok, nI_1]
      refine ⟨g2, ?_, q1.trans f2, by rw [f3, q2]; rfl⟩
      match i, hi with
      | 0, _ =>
        rw [zf_pos (show mst 0 < nI (pw κ (h.1 72 0) 0) by
          show zm1 < nI E0
          rw [Int32.lt_iff_toInt_lt, nI_toInt (by omega)]
          have : zm1.toInt = -1 := by decide
          omega), o24]
        have b1 : bst (0 + 1) = nI 0 := if_neg (by omega)
        have m1 : mst (0 + 1) = nI (pw κ (h.1 72 0) 0) := (if_neg (by omega)).trans (if_neg (by omega))
        rw [b1, m1]
      | 1, _ =>
        have m0 : mst 1 = nI E0 := (if_neg (by omega)).trans (if_neg (by omega))
        rw [m0, zfc (show nI E0 < nI (pw κ (h.1 72 0) 1) ↔ E0 < E1 from nI_ltI (by omega) (by omega))]
        by_cases e : E0 < E1
        · have b1 : bst (1 + 1) = nI 1 := if_pos ⟨by omega, e⟩
          have m1 : mst (1 + 1) = nI (pw κ (h.1 72 0) 1) := (if_neg (by omega)).trans (if_pos ⟨by omega, e⟩)
          rw [zf_pos e, o24, b1, m1]
        · have b1 : bst (1 + 1) = bst 1 := (if_neg (fun z => e z.2)).trans (if_neg (fun z => e z.2)).symm
          have m1 : mst (1 + 1) = nI E0 := (if_neg (by omega)).trans (if_neg (fun z => e z.2))
          rw [zf_neg e, o24, b1, m1]
      | i + 2, _ =>
        have m0 : mst (i + 2 + 1) = mst (i + 2) := by
          show (if i + 2 + 1 = 0 then zm1 else if 2 ≤ i + 2 + 1 ∧ E0 < E1 then nI E1 else nI E0) = (if i + 2 = 0 then zm1 else if 2 ≤ i + 2 ∧ E0 < E1 then nI E1 else nI E0)
          rw [if_neg (show ¬ i + 2 + 1 = 0 by omega), if_neg (show ¬ i + 2 = 0 by omega)]
          by_cases e : E0 < E1
          · rw [if_pos ⟨by omega, e⟩, if_pos ⟨by omega, e⟩]
          · rw [if_neg (fun z => e z.2), if_neg (fun z => e z.2)]
        have b0 : bst (i + 2 + 1) = bst (i + 2) := by
          show (if 2 ≤ i + 2 + 1 ∧ E0 < E1 then (1 : Int32) else 0) = (if 2 ≤ i + 2 ∧ E0 < E1 then 1 else 0)
          by_cases e : E0 < E1
          · rw [if_pos ⟨by omega, e⟩, if_pos ⟨by omega, e⟩]
          · rw [if_neg (fun z => e z.2), if_neg (fun z => e z.2)]
        have p1 : pw κ (h.1 72 0) (i + 2) = E1 := pw_1 (n := i + 1) h7 I.R (by omega)
        have ng : ¬ mst (i + 2) < nI (pw κ (h.1 72 0) (i + 2)) := by
          rw [p1]
          show ¬ (if i + 2 = 0 then zm1 else if 2 ≤ i + 2 ∧ E0 < E1 then nI E1 else nI E0) < nI E1
          rw [if_neg (by omega)]
          by_cases e : E0 < E1
          · rw [if_pos ⟨by omega, e⟩]; exact nI_nlt' (by omega)
          · rw [if_neg (fun z => e z.2)]; exact nI_nlt (by omega) (by omega)
        rw [zf_neg ng, o24, m0, b0])
  have f1 : zL p_X12_soonest 24 [some (.inr (.inr (12, 0))), some (.inl 0), some (.inl zm1), some (.inl 0), none] [] g0 = zL p_X12_soonest 24 [some (.inr (.inr (12, 0))), some (.inl (bst 61)), some (.inl (mst 61)), some (.inl (nI 61)), none] [] g' := f1
  obtain ⟨f, b1, b2⟩ := lm_back (h := h) I1 (g := g') ((a2.mono (by simp)).trans (f2.mono (by simp))) (fun k hk => by rw [f2.1 74 0 k (by decide), a3 k hk]) (fun k hk => by rw [f3, wkn_hi h7 hk, r1])
  refine agree.look I J (v := bst 61) (h1 := g) (h2 := f) ?_ eq ?_ (quiet.thrown.trans b2)
  · rw [show nI 1 = 1 from rfl] at ea1
    rw [nI_0] at e1
    rw [g_X11_soonest, ea1, zci_ok, e1, zci_ok, zfc (show nI (pw κ (h.1 72 0) 0) < nI (pw κ (h.1 72 0) 1) ↔ E0 < E1 from nI_ltI (by omega) (by omega))]
    by_cases e : E0 < E1
    · rw [zf_pos e, show bst 61 = 1 from if_pos ⟨by omega, e⟩]
    · rw [zf_neg e, show bst 61 = 0 from if_neg (fun z => e z.2)]
  · rw [g_X12_soonest, a1, zcv_ok, f1, e_X12_soonest_24, zf_pos (show 60 < nI 61 by decide), b1, zcv_ok]
