/-! The calls by hand. -/
theorem hand_ok {κ : zK} {m a : Nat} {h : zH} {x y : Int32} (I : IV κ m h) (J : IW κ m h) (ha : a ≤ 5) (hc : canR κ (h.1 72 0) a x y) : ∃ g f0, f_X11_doByHand [.inr (.inr (11, 0)), .inl (nI a), .inl x, .inl y] h = some (some (.inl 1), g) ∧ cK κ g ∧ cS κ g 0 (doR κ (h.1 72 0) a x y) ∧ mK κ (zuI g 12 0 0 0) ∧ (zuI g 12 0 0 0).1 72 0 = h.1 72 0 ∧
    f_X12_keeps [.inr (.inr (12, 0))] (zuI g 12 0 0 0) = some (none, f0) ∧ mK κ f0 ∧ f0.1 72 0 = h.1 72 0 ∧ f0.1 12 0 54 = 0 ∧ ∀ f : zH, f.2 = f0.2 → (∀ K j k, K ≠ 72 → ¬ scr K j k → f.1 K j k = f0.1 K j k) → f.1 72 0 = doR κ (h.1 72 0) a x y → Inv (m + 1) f := by
  have J' := J
  obtain ⟨-, -, -, ⟨d, n, p1, p2, p3, p4, p5, p6⟩, -⟩ := J'
  obtain ⟨g, e1, e2, e3, e4, e5, e6⟩ := lc_hand I ha p1 p2 p3 p4 x y hc
  have gg : ∀ K j k, ¬ ((K = 8 ∨ K = 31 ∨ K = 32 ∨ K = 33) ∧ (j = 0 ∨ j = 5 + n)) → K ≠ 5 → K ≠ 23 → g.1 K j k = h.1 K j k := fun K j k q1 q2 q3 => e2.1 K j k (fun q => by
    simp only [Sj, List.mem_append, List.mem_cons, List.not_mem_nil, or_false, Prod.mk.injEq] at q
    omega)
  have g0 : ∀ K j k, ¬ ((K = 8 ∨ K = 31 ∨ K = 32 ∨ K = 33) ∧ (j = 0 ∨ j = 5 + n)) → K ≠ 5 → K ≠ 23 → ¬ (K = 12 ∧ k = 0) → (zuI g 12 0 0 0).1 K j k = h.1 K j k := fun K j k q1 q2 q3 q4 => by rw [zuI_o (by omega)]; exact gg K j k q1 q2 q3
  obtain ⟨f0, k1, k2, k3, k4, k5⟩ := ml_keeps (h := zuI g 12 0 0 0) p1 (by rw [g0 12 0 53 (by omega) (by omega) (by omega) (by omega)]; exact p5)
  have r0 : (zuI g 12 0 0 0).1 72 0 = h.1 72 0 := funext (fun k => g0 72 0 k (by omega) (by omega) (by omega) (by omega))
  have M0 : mK κ (zuI g 12 0 0 0) := I.M.agr I.G (fun K k hK => by simp only [List.mem_cons, List.not_mem_nil, or_false] at hK; exact g0 K 0 k (by omega) (by omega) (by omega) (by omega))
  have rf : f0.1 72 0 = h.1 72 0 := by rw [← r0]; exact funext (fun k => k3 72 0 k (by omega) (by omega))
  refine ⟨g, f0, e1, I.K.agr (fun K k hK => by simp only [List.mem_cons, List.not_mem_nil, or_false] at hK; exact gg K 0 k (by omega) (by omega) (by omega)), e3, M0, r0, k1, M0.agr I.G (fun K k hK => by simp only [List.mem_cons, List.not_mem_nil, or_false] at hK; exact k3 K 0 k (by omega) (by omega)), rf, ?_, fun f f1 f2 f3 => ?_⟩
  · rw [k3 12 0 54 (by omega) (by omega), g0 12 0 54 (by omega) (by omega) (by omega) (by omega)]; exact I.D
  · have uu : ∀ i, ur (zuI g 12 0 0 0) i = ur h i := fun i => funext (fun k => g0 76 0 _ (by omega) (by omega) (by omega) (by omega))
    refine hand_inv (a := a) I J p1 p2 p3 p4 (R_ := ?_) e2 e3 e4 e5 e6 (f1.trans k2) (fun K j k q1 q2 q3 q4 => ?_) ?_ (fun i k hi hk => ?_) f3
    · sorry
    · sorry
    · sorry
    · sorry
