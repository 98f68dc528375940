/-- what the class's, the model's cells are once a draft is laid -/
def cpC (a g : zH) : Prop := g.1 0 0 0 = a.1 0 1 0 ∧ g.1 0 0 4 = a.1 0 1 4 ∧ g.1 0 0 11 = a.1 0 1 11 ∧ g.1 1 0 2 = a.1 1 1 2 ∧ (∀ k, k < 5 → g.1 14 0 k = a.1 14 1 k ∧ g.1 15 0 k = a.1 15 1 k) ∧ (∀ k, k < 7 → g.1 17 0 k = a.1 17 1 k ∧ g.1 18 0 k = a.1 18 1 k ∧ g.1 19 0 k = a.1 19 1 k ∧ g.1 20 0 k = a.1 20 1 k ∧ g.1 21 0 k = a.1 21 1 k) ∧ (∀ k, k < 1000 → g.1 22 0 k = a.1 22 1 k)
def cpM (a g : zH) : Prop := (∀ K k, K = 39 ∨ (42 ≤ K ∧ K ≤ 48) ∨ K = 51 → k < hf K → g.1 K 0 k = a.1 K 0 (hf K + k)) ∧ g.1 49 0 0 = a.1 49 0 1 - 1000 ∧ g.1 50 0 0 = a.1 50 0 1 - 1000
theorem rgS.wk {h g : zH} (a : rgS 0 h g) : zsame Wk h g := ⟨fun K j k n => a.1 K j k (fun z => n (by
  have : K = 54 ∨ K = 55 ∨ K = 56 ∨ K = 57 ∨ K = 58 ∨ K = 59 ∨ K = 60 ∨ K = 61 ∨ K = 62 := by omega
  have hj : j = 0 := z.2.2.2
  subst hj
  rcases this with rfl | rfl | rfl | rfl | rfl | rfl | rfl | rfl | rfl <;> decide)), a.2⟩
theorem told {n c : Nat} {wp wc : Nat → List Nat} {gc gm : zH} (D : Dn n c wp wc gc gm) (W : LW gc gm) : ∃ κ, gK κ ∧ kP κ = n ∧ kC κ = c ∧ (∀ g, cpC gc g → cK κ g) ∧ (∀ g, cpM gm g → mK κ g) := by
  obtain ⟨⟨x1, x2, x3, x4, x5, x6⟩, ⟨y1, y2, y3, y4, y5, y6⟩, z1, z2, z3, z4⟩ := D
  have law : ∃ v : zV4, (∀ g, cpC gc g → ∃ q, q ≤ 1000 ∧ g.1 1 0 2 = nI q ∧ ∀ a b c d, lval (lrun (g.1 22 0) a b c d q) = v a b c d) ∧ (∀ g, cpM gm g → ((g.1 49 0 0 < g.1 50 0 0 ∧ ∀ f : zH, f.1 49 0 0 = g.1 49 0 0 → f.1 50 0 0 = g.1 50 0 0 → (∀ k, k < 1000 → f.1 51 0 k = g.1 51 0 k) → ∃ g', f_X12_worked [.inr (.inr (12, 0)), .inl 0] f = some (some (.inl (v (f.1 63 0 1) (f.1 63 0 2) (f.1 63 0 3) (f.1 63 0 4))), g') ∧ zsame Wk f g') ∨ (¬ g.1 49 0 0 < g.1 50 0 0 ∧ ∀ a b c d, v a b c d = 1 + zb (b < c)))) := by
    rcases W with ⟨w1, w2, w3, w4, w5⟩ | ⟨w1, S, E, v, w2, w3, w4, w5, w6, w7, w8, w9⟩
    · refine ⟨fun a b c e => 1 + zb (b < c), fun g q => ⟨usl.length, by decide, by rw [q.2.2.2.1]; exact w2.1, law_c (fun i hi => by
        have : i < 5 := hi
        rw [q.2.2.2.2.2.2 i (by omega)]; exact w2.2 i hi) usl_v⟩, fun g q => Or.inr ⟨?_, fun _ _ _ _ => rfl⟩⟩
      rw [q.2.1, q.2.2, w3, w4]; decide
    · have l : 0 < E.length := List.length_pos_iff.mpr w9.1
      have s1 : nI 1000 - (1000 : Int32) = 0 := by decide
      have s2 : nI (1000 + E.length) - (1000 : Int32) = nI E.length := by rw [show (1000 : Int32) = nI 1000 from rfl, pk_sub (by omega), show 1000 + E.length - 1000 = E.length by omega]
      refine ⟨v, fun g q => ⟨S.length, w2, by rw [q.2.2.2.1]; exact w4.1, law_c (fun i hi => by rw [q.2.2.2.2.2.2 i (by omega)]; exact w4.2 i hi) w8⟩, fun g q => Or.inl ?_⟩
      have e49 : g.1 49 0 0 = 0 := by rw [q.2.1, w6, s1]
      have e50 : g.1 50 0 0 = nI E.length := by rw [q.2.2, w7, s2]
      refine ⟨by rw [e49, e50]; exact (nI_p0 (by omega)).mpr l, fun f f1 f2 f3 => ?_⟩
      obtain ⟨g', r1, r2⟩ := law_m w9 w3 (g := f) (f1.trans e49) (f2.trans e50) (fun i hi => by
        rw [f3 i (by omega), q.1 51 i (by omega) (show i < 1000 by omega)]; exact w5.2 i hi)
      exact ⟨g', r1, r2.wk⟩
  obtain ⟨v, l1, l2⟩ := law
  let κ : zK := ((n, c, gc.1 0 1 11), (gc.1 14 1, gc.1 15 1), (gc.1 17 1, gc.1 18 1, gc.1 19 1, gc.1 20 1, gc.1 21 1), v)
  refine ⟨κ, ⟨x1, x2, fun q hq => ?_⟩, rfl, rfl, fun g a => ⟨a.1.trans x3, x1, a.2.1.trans x4, x2, a.2.2.1, fun q hq => ?_, fun q hq => ?_, l1 g a⟩, fun g a => ⟨?_, ?_, ?_, fun q hq => ?_, fun q hq => ?_, l2 g a⟩⟩
  · obtain ⟨⟨s, s1, s2, s3⟩, ⟨u, u1, u2, u3⟩, ⟨t, t1, t2, t3⟩, r, p⟩ := z3 q hq
    exact ⟨⟨s, s1, s2⟩, ⟨u, u1, u2⟩, ⟨t, t1, t2⟩, p.imp (fun z => z.1) (fun ⟨t, a, b, _⟩ => ⟨t, a, b⟩)⟩
  · have hq : q < n := hq
    exact a.2.2.2.2.1 q (by omega)
  · have hq : q < c := hq
    exact a.2.2.2.2.2.1 q (by omega)
  · rw [a.1 39 0 (by omega) (by decide)]; exact y3
  · rw [a.1 39 1 (by omega) (by decide)]; exact y4
  · rw [a.1 39 2 (by omega) (by decide)]; exact z1.symm
  · have hq : q < n := hq
    rw [a.1 42 q (by omega) (show q < 5 by omega), a.1 43 q (by omega) (show q < 5 by omega)]
    exact ⟨(z2 q hq).1.symm, (z2 q hq).2.symm⟩
  · have hq : q < c := hq
    obtain ⟨⟨s, s1, s2, s3⟩, ⟨u, u1, u2, u3⟩, ⟨t, t1, t2, t3⟩, r, p⟩ := z3 q hq
    rw [a.1 44 q (by omega) (show q < 7 by omega), a.1 45 q (by omega) (show q < 7 by omega), a.1 46 q (by omega) (show q < 7 by omega), a.1 47 q (by omega) (show q < 7 by omega), a.1 48 q (by omega) (show q < 7 by omega)]
    refine ⟨s3.trans s2.symm, u3.trans u2.symm, t3.trans t2.symm, r.symm, ?_⟩
    rcases p with ⟨p1, p2⟩ | ⟨w, p0, p1, p2⟩
    · exact p2.trans p1.symm
    · exact p2.trans p1.symm
