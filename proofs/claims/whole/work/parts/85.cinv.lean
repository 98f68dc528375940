/-- what a refused telling of a congress may change -/
def cE (K j k : Nat) : Prop := K = 10 ∨ K = 9 ∨ K = 6 ∨ (j = 1 ∧ (K ≤ 1 ∨ (13 ≤ K ∧ K ≤ 22))) ∨ mE K k ∨ (K = 12 ∧ k = 1)
theorem cE.inv {κ : zK} {m : Nat} {h f : zH} (I : IV κ m h) (J : IW κ m h) (a : ∀ K j k, ¬ cE K j k → f.1 K j k = h.1 K j k) (b : ∀ K k, K = 35 ∨ ((K = 13 ∨ K = 16) ∨ (K = 40 ∧ k < 5) ∨ (K = 41 ∧ k < 7)) → f.2 K 0 k = h.2 K 0 k) (t1 : f.1 9 0 1 = 0) (t2 : f.1 12 0 1 = 0) : Inv (m + 1) f := by
  obtain ⟨i1, i2, i3, i4, i5, i6, i7⟩ := J
  have h5 := I.h5
  have h7 := I.h7
  have rr : f.1 72 0 = h.1 72 0 := funext (fun k => a 72 0 k (by unfold cE mE; omega))
  refine ⟨κ, IV.mono (m := m) ⟨I.G, I.K.agr (fun K k hK => ?_), I.M.keep I.G ⟨fun k hk => a 39 0 k (by unfold cE mE; omega), fun K k hK hk => ?_, fun K k hK hk => ?_, a 49 0 0 (by unfold cE mE; omega), a 50 0 0 (by unfold cE mE; omega), fun k hk => a 51 0 k (by unfold cE mE; omega)⟩, ?_, ?_, by rw [rr]; exact I.R⟩ (Nat.le_succ m), IW.mono (m := m) ⟨?_, i2.agr (fun k => b 35 k (by omega)), ⟨0, by omega, t1, t2, fun k hk => absurd hk (Nat.not_lt_zero k)⟩, i4.agr (fun k => a 5 0 k (by unfold cE mE; omega)) (a 12 0 53 (by unfold cE mE; omega)) (fun k => a 76 0 k (by unfold cE mE; omega)) (fun K j k h1 h2 hK => ?_), i5.agr (fun K k hK => ?_) (fun K k hK => ?_), i6.agr (fun K k hK => ?_) (fun K k hK => ?_), i7.agr (a 11 0 8 (by unfold cE mE; omega)) (fun K k hK => ?_) (fun K j k h1 h2 hK => ?_)⟩ (Nat.le_succ m)⟩
  case refine_4 => rw [a 12 0 54 (by unfold cE mE; omega)]; exact I.D
  case refine_5 => rw [rr]; exact I.S.agr (fun K k hK => a K 0 k (by have := mem4 hK; unfold cE mE; omega))
  case refine_6 =>
    obtain ⟨wp, wc, q1, q2⟩ := i1
    exact ⟨wp, wc, fun q hq => by rw [b 13 q (by omega), b 40 q (by omega)]; exact q1 q hq, fun q hq => by rw [b 16 q (by omega), b 41 q (by omega)]; exact q2 q hq⟩
  all_goals (simp only [List.mem_cons, List.not_mem_nil, or_false] at hK; exact a _ _ _ (by unfold cE mE; omega))
