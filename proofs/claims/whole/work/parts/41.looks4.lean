/-! Pressing, blocs, counts. -/
theorem shl1 : ∀ c, c < 8 → (1 : Int32) <<< (nI c &&& 31) = nI (2 ^ c) := by decide +kernel
theorem tb_hi {n k i : Nat} (hn : n < 2 ^ k) (hk : k ≤ i) (hi : i < 32) : ¬ tb (nI n) i := by
  rw [tb_nI hi]
  intro e
  have : n.testBit i = false := Nat.testBit_lt_two_pow (Nat.lt_of_lt_of_le hn (Nat.pow_le_pow_right (by omega) hk))
  rw [this] at e; cases e
theorem two7 {c : Nat} (h : c ≤ 7) : 2 ^ c ≤ 128 := Nat.le_trans (Nat.pow_le_pow_right (by omega) h) (by decide)
/-- how many of a set -/
noncomputable def sz (n : Nat) : Nat := cnt9 (fun i => tb (nI n) i) 7
theorem sz_le (n : Nat) : sz n ≤ 7 := cnt9_le _ _
theorem sz_32 {n : Nat} (hn : n < 128) : cnt9 (fun i => tb (nI n) i) 32 = sz n := cnt9_len (by omega) (fun c h1 h2 => tb_hi (k := 7) hn h1 h2)
theorem q_pressing {m : Nat} {h : zH} (I : Inv m h) (x : Int32) : agree f_X11_pressing f_X12_pressing [.inr (.inr (11, 0)), .inl x] [.inr (.inr (12, 0)), .inl x] m h := by
  obtain ⟨κ, I, J⟩ := I
  have h5 := I.h5
  have h7 := I.h7
  have I0 : IV κ m (zuI h 12 0 0 0) := I.quiet quiet.thrown
  have hC := two7 h7
  by_cases hx : ¬ x < 1 ∧ ¬ (200 : Int32) < x
  · let sm : Nat → Int32 := fun n => h.1 72 0 1 + zsum (fun c => zi (tb (nI n) c) (h.1 72 0 (3 + c)) 0) (kC κ)
    let ca : Nat → Prop := fun n => ∀ c, c < kC κ → tb (nI n) c → 0 < h.1 72 0 (3 + c) ∧ 0 < h.1 72 0 (17 + c)
    let B : Option Nat → Nat := fun s => match s with | none => 8 | some k => sz k
    let V : Option Nat → Int32 := fun s => match s with | none => zm1 | some k => nI k
    let nx : Nat → Option Nat → Option Nat := fun i s => @ite _ (sz i < B s ∧ ca i ∧ ¬ sm i < x) (Classical.propDecidable _) (some i) s
    refine agree.look I J (v := V (zit nx none (2 ^ kC κ))) (h1 := h) (h2 := zuI h 12 0 0 0) ?_ quiet.rf ?_ quiet.thrown
    · have o31 : ∀ a b c o6 (g : zH), zL p_X11_pressing 31 [some (.inr (.inr (11, 0))), some (.inl x), some (.inr (.inr (8, 0))), some (.inl a), some (.inl b), some (.inl c), o6] [] g = zL p_X11_pressing 31 [some (.inr (.inr (11, 0))), some (.inl x), some (.inr (.inr (8, 0))), some (.inl a), some (.inl b), some (.inl c), none] [] g := fun a b c o6 g => (e_X11_pressing_31 _ _ _ _ _ _ _).trans (e_X11_pressing_31 _ _ _ _ _ _ _).symm
      rw [g_X11_pressing, zf_neg hx.1, zf_neg hx.2]
      refine (zloopI (fun i (s : Option Nat) => zL p_X11_pressing 31 [some (.inr (.inr (11, 0))), some (.inl x), some (.inr (.inr (8, 0))), some (.inl (nI (B s))), some (.inl (V s)), some (.inl (nI i)), none] [] h) nx (fun _ s => B s ≤ 8) (2 ^ kC κ) none (Nat.le_refl 8) (fun i s hi q => ?_) (fun i s hi q => ?_)).1.trans ?_
      · show B (@ite _ _ (Classical.propDecidable _) _ _) ≤ 8
        by_cases e : sz i < B s ∧ ca i ∧ ¬ sm i < x
        · rw [zite_pos e]; exact Nat.le_succ_of_le (sz_le i)
        · rw [zite_neg e]; exact q
      · have hsz := sz_le i
        rw [e_X11_pressing_31, I.K.2.2.1, shl1 _ (by omega), zf_pos (nI_lt hi (by omega)), sj_bitCount, zci_ok, sz_32 (by omega), zfc (nI_ltI (by omega) (by omega)), cl_canPressAll I.K I.S, zci_ok, zf_b0, cl_thickOf I.K I.S, zci_ok, I.S.2.1, nI_1]
        show zf (sz i < B s) (zf (ca i) (zf (sm i < x) _ _) _) _ = zL p_X11_pressing 31 [some (.inr (.inr (11, 0))), some (.inl x), some (.inr (.inr (8, 0))), some (.inl (nI (B (nx i s)))), some (.inl (V (nx i s))), some (.inl (nI (i + 1))), none] [] h
        by_cases e : sz i < B s ∧ ca i ∧ ¬ sm i < x
        · rw [zf_pos e.1, zf_pos e.2.1, zf_neg e.2.2, o31, show nx i s = some i from zite_pos e]
        · rw [show nx i s = s from zite_neg e]
          by_cases b1 : sz i < B s
          · rw [zf_pos b1]
            by_cases b2 : ca i
            · rw [zf_pos b2, zf_pos (Classical.byContradiction (fun z => e ⟨b1, b2, z⟩)), o31]
            · rw [zf_neg b2, o31]
          · rw [zf_neg b1, o31]
      · rw [e_X11_pressing_31, I.K.2.2.1, shl1 _ (by omega), zf_neg (nI_nlt' (by omega))]
    · have o22 : ∀ a b o4 o5 o6 (g : zH), zL p_X12_pressing 22 [some (.inr (.inr (12, 0))), some (.inl x), some (.inl a), some (.inl b), o4, o5, o6] [] g = zL p_X12_pressing 22 [some (.inr (.inr (12, 0))), some (.inl x), some (.inl a), some (.inl b), none, none, none] [] g := fun a b o4 o5 o6 g => (e_X12_pressing_22 _ _ _ _ _ _ _).trans (e_X12_pressing_22 _ _ _ _ _ _ _).symm
      rw [g_X12_pressing, sm_within, zci_ok, zf_b0, zf_pos hx]
      refine (zloopI (fun i (s : Option Nat) => zL p_X12_pressing 22 [some (.inr (.inr (12, 0))), some (.inl x), some (.inl (V s)), some (.inl (nI i)), none, none, none] [] (zuI h 12 0 0 0)) nx (fun _ s => ∀ k, s = some k → k < 128) (2 ^ kC κ) none (fun k e => by cases e) (fun i s hi q => ?_) (fun i s hi q => ?_)).1.trans ?_
      · intro k hk
        by_cases e : sz i < B s ∧ ca i ∧ ¬ sm i < x
        · have : some i = some k := (show nx i s = some i from zite_pos e).symm.trans hk
          rw [← Option.some.inj this]; omega
        · exact q k ((show nx i s = s from zite_neg e).symm.trans hk)
      · -- the inner walk
        have inner : ∀ (a : Int32) o4 o5 o6, zL p_X12_pressing 52 [some (.inr (.inr (12, 0))), some (.inl x), some (.inl a), some (.inl (nI i)), o4, o5, o6] [] (zuI h 12 0 0 0) = zf (ca i ∧ ¬ sm i < x) (zL p_X12_pressing 22 [some (.inr (.inr (12, 0))), some (.inl x), some (.inl (nI i)), some (.inl (nI (i + 1))), none, none, none] [] (zuI h 12 0 0 0)) (zL p_X12_pressing 22 [some (.inr (.inr (12, 0))), some (.inl x), some (.inl a), some (.inl (nI (i + 1))), none, none, none] [] (zuI h 12 0 0 0)) := by
          intro a o4 o5 o6
          let ny : Nat → Int32 × Int32 → Int32 × Int32 := fun c s => (s.1 + zi (tb (nI i) c) (h.1 72 0 (3 + c)) 0, zb (s.2 = 1 ∧ (tb (nI i) c → 0 < h.1 72 0 (3 + c) ∧ 0 < h.1 72 0 (17 + c))))
          have key := zloopI (fun c (s : Int32 × Int32) => zL p_X12_pressing 66 [some (.inr (.inr (12, 0))), some (.inl x), some (.inl a), some (.inl (nI i)), some (.inl s.1), some (.inl s.2), some (.inl (nI c))] [] (zuI h 12 0 0 0)) ny
            (fun c s => s.1 = h.1 72 0 1 + zsum (fun c => zi (tb (nI i) c) (h.1 72 0 (3 + c)) 0) c ∧ s.2 = zb (∀ d, d < c → tb (nI i) d → 0 < h.1 72 0 (3 + d) ∧ 0 < h.1 72 0 (17 + d))) (kC κ) (h.1 72 0 1, 1) ⟨by simp [zsum], (zb_pos (fun d hd => absurd hd (Nat.not_lt_zero d))).symm⟩ (fun c s hc q => by
              obtain ⟨q1, q2⟩ := q
              refine ⟨?_, ?_⟩
              · show s.1 + _ = _
                rw [q1, Int32.add_assoc]; rfl
              · show zb _ = zb _
                refine zb_congr ?_
                rw [q2, zb_1]
                constructor
                · rintro ⟨a1, a2⟩ d hd ht
                  by_cases e : d = c
                  · subst e; exact a2 ht
                  · exact a1 d (by omega) ht
                · intro a1; exact ⟨fun d hd => a1 d (by omega), a1 c (by omega)⟩) (fun c s hc q => by
              obtain ⟨q1, q2⟩ := q
              have hs : s.2 = 0 ∨ s.2 = 1 := by rw [q2]; exact zb_01.mpr trivial
              rw [e_X12_pressing_66, I0.M.2.1, zf_pos (nI_lt hc (by omega)), tb_0, sm_canPress (by omega), zci_ok, zf_b0, hr0, e_X12_pressing_108, e_X12_pressing_108, z3, zfx (by omega) (by omega), zfx (by omega) (by omega), nI_clamp (by omega), hr0, nI_1, zf_not]
              show zf (tb (nI i) c) (zf (s.2 = 0) _ (zf _ _ _)) _ = zL p_X12_pressing 66 [some (.inr (.inr (12, 0))), some (.inl x), some (.inl a), some (.inl (nI i)), some (.inl (ny c s).1), some (.inl (ny c s).2), some (.inl (nI (c + 1)))] [] (zuI h 12 0 0 0)
              have n1 : (ny c s).1 = s.1 + zi (tb (nI i) c) (h.1 72 0 (3 + c)) 0 := rfl
              have n2 : (ny c s).2 = zb (s.2 = 1 ∧ (tb (nI i) c → 0 < h.1 72 0 (3 + c) ∧ 0 < h.1 72 0 (17 + c))) := rfl
              by_cases e : tb (nI i) c
              · rw [zf_pos e, n1, zi_pos e]
                rcases hs with e0 | e0
                · rw [zf_pos e0, n2, zb_neg (fun z => absurd (z.1.symm.trans e0) (by decide))]
                · rw [zf_neg (fun z => absurd (e0.symm.trans z) (by decide)), n2]
                  by_cases e3 : 0 < h.1 72 0 (3 + c) ∧ 0 < h.1 72 0 (17 + c)
                  · rw [zf_pos e3, zb_pos ⟨e0, fun _ => e3⟩]
                  · rw [zf_neg e3, zb_neg (fun z => e3 (z.2 e))]
              · rw [zf_neg e, n1, zi_neg e, Int32.add_zero, n2]
                rcases hs with e0 | e0
                · rw [zb_neg (fun z => absurd (z.1.symm.trans e0) (by decide)), e0]
                · rw [zb_pos ⟨e0, fun z => absurd z e⟩, e0])
          obtain ⟨k1, k2, k3⟩ := key
          have k1 : zL p_X12_pressing 66 [some (.inr (.inr (12, 0))), some (.inl x), some (.inl a), some (.inl (nI i)), some (.inl (h.1 72 0 1)), some (.inl 1), some (.inl 0)] [] (zuI h 12 0 0 0) = zL p_X12_pressing 66 [some (.inr (.inr (12, 0))), some (.inl x), some (.inl a), some (.inl (nI i)), some (.inl (zit ny (h.1 72 0 1, 1) (kC κ)).1), some (.inl (zit ny (h.1 72 0 1, 1) (kC κ)).2), some (.inl (nI (kC κ)))] [] (zuI h 12 0 0 0) := k1
          rw [e_X12_pressing_52, hr0, k1, e_X12_pressing_66, I0.M.2.1, zf_neg (nI_nlt' (by omega)), k2, k3, zf_b0, nI_1]
          show zf (ca i) (zf (sm i < x) _ _) _ = _
          by_cases e : ca i ∧ ¬ sm i < x
          · rw [zf_pos e, zf_pos e.1, zf_neg e.2, o22]
          · rw [zf_neg e]
            by_cases e1 : ca i
            · rw [zf_pos e1, zf_pos (Classical.byContradiction (fun z => e ⟨e1, z⟩)), o22]
            · rw [zf_neg e1, o22]
        have hsz := sz_le i
        rw [e_X12_pressing_22, I0.M.2.1, shl1 _ (by omega), zf_pos (nI_lt hi (by omega)), inner, ml_bits, zci_ok, ml_bits, zci_ok, inner, nI_1]
        show _ = zL p_X12_pressing 22 [some (.inr (.inr (12, 0))), some (.inl x), some (.inl (V (nx i s))), some (.inl (nI (i + 1))), none, none, none] [] (zuI h 12 0 0 0)
        match s, q with
        | none, q =>
          rw [zf_pos (show V none < 0 by decide)]
          by_cases e : ca i ∧ ¬ sm i < x
          · rw [zf_pos e, show nx i none = some i from zite_pos ⟨by show sz i < 8; omega, e⟩]
          · rw [zf_neg e, show nx i none = none from zite_neg (fun z => e z.2)]
        | some k, q =>
          have hk := q k rfl
          have hszk := sz_le k
          rw [zf_neg (show ¬ V (some k) < 0 from nI_pos (n := k) (by omega))]
          rw [zfc (show nI (cnt9 (fun j => tb (nI i) j) 7) < nI (cnt9 (fun j => tb (V (some k)) j) 7) ↔ sz i < sz k from nI_ltI (show sz i < 2 ^ 31 by omega) (show sz k < 2 ^ 31 by omega))]
          by_cases e0 : sz i < sz k
          · rw [zf_pos e0]
            by_cases e : ca i ∧ ¬ sm i < x
            · rw [zf_pos e, show nx i (some k) = some i from zite_pos ⟨e0, e⟩]
            · rw [zf_neg e, show nx i (some k) = some k from zite_neg (fun z => e z.2)]
          · rw [zf_neg e0, show nx i (some k) = some k from zite_neg (fun z => e0 z.1)]
      · rw [e_X12_pressing_22, I0.M.2.1, shl1 _ (by omega), zf_neg (nI_nlt' (by omega))]
  · refine agree.look I J (v := zm1) (h1 := h) (h2 := zuI h 12 0 0 0) ?_ quiet.rf ?_ quiet.thrown
    · rw [g_X11_pressing]
      by_cases e : x < 1
      · rw [zf_pos e]
      · rw [zf_neg e, zf_pos (Classical.byContradiction (fun z => hx ⟨e, z⟩))]
    · rw [g_X12_pressing, sm_within, zci_ok, zf_b0, zf_neg hx]
theorem q_blocs {m : Nat} {h : zH} (I : Inv m h) : agree f_X11_blocs f_X12_blocs [.inr (.inr (11, 0))] [.inr (.inr (12, 0))] m h := by
  obtain ⟨κ, I, J⟩ := I
  have h5 := I.h5
  have I0 : IV κ m (zuI h 12 0 0 0) := I.quiet quiet.thrown
  have hE := ear_E I.G I.R
  let bl : Nat → Int32 := fun p => zbits (fun q => rch (ear κ (h.1 72 0)) p q) (kP κ)
  let nx : Nat → Int32 × Int32 → Int32 × Int32 := fun i s => (s.1 ||| bl i, zi (tb s.1 i) s.2 (s.2 + 1))
  refine agree.look I J (v := (zit nx (0, 0) (kP κ)).2) (h1 := h) (h2 := zuI h 12 0 0 0) ?_ quiet.rf ?_ quiet.thrown
  · rw [g_X11_blocs]
    refine (zloopI (fun i (s : Int32 × Int32) => zL p_X11_blocs 6 [some (.inr (.inr (11, 0))), some (.inl s.1), some (.inl s.2), some (.inl (nI i))] [] h) nx (fun i s => ∀ t, t < 32 → (tb s.1 t ↔ ∃ p, p < i ∧ rch (ear κ (h.1 72 0)) p t ∧ t < kP κ)) (kP κ) (0, 0) (fun t ht => ⟨fun z => absurd z (tb_zero ht), fun ⟨p, z, _⟩ => absurd z (Nat.not_lt_zero p)⟩) (fun i s hi q t ht => ?_) (fun i s hi q => ?_)).1.trans ?_
    · show tb (s.1 ||| bl i) t ↔ _
      rw [tb_or ht, q t ht, tb_bits (by omega) ht]
      constructor
      · rintro (⟨p, p1, p2⟩ | ⟨p1, p2⟩)
        · exact ⟨p, by omega, p2⟩
        · exact ⟨i, by omega, p2, p1⟩
      · rintro ⟨p, p1, p2, p3⟩
        by_cases e : p = i
        · subst e; exact Or.inr ⟨p3, p2⟩
        · exact Or.inl ⟨p, by omega, p2, p3⟩
    · rw [e_X11_blocs_6, I.K.1, zf_pos (nI_lt hi (by omega)), tb_0, zf_not, cl_blocOf I.K I.S I.G I.R hi, zci_ok, nI_1]
      show _ = zL p_X11_blocs 6 [some (.inr (.inr (11, 0))), some (.inl (s.1 ||| bl i)), some (.inl (zi (tb s.1 i) s.2 (s.2 + 1))), some (.inl (nI (i + 1)))] [] h
      by_cases e : tb s.1 i
      · rw [zf_pos e, zi_pos e]
        obtain ⟨p, p1, p2, p3⟩ := (q i (by omega)).mp e
        have ex : s.1 ||| bl i = s.1 := tb_ext (fun t ht => by
          rw [tb_or ht, tb_bits (by omega) ht]
          refine ⟨fun z => z.elim id (fun y => (q t ht).mpr ⟨p, p1, p2.trans y.2, y.1⟩), Or.inl⟩)
        rw [ex]
      · rw [zf_neg e, zi_neg e]
    · rw [e_X11_blocs_6, I.K.1, zf_neg (nI_nlt' (by omega))]
  · rw [g_X12_blocs]
    refine (zloop (fun i (s : Int32 × Int32) => zL p_X12_blocs 11 [some (.inr (.inr (12, 0))), some (.inl s.1), some (.inl s.2), some (.inl (nI i))] [] (zuI h 12 0 0 0)) nx (kP κ) (0, 0) (fun i s hi => ?_)).trans ?_
    · rw [e_X12_blocs_11, I0.M.1, zf_pos (nI_lt hi (by omega)), tb_0, zf_not, e_X12_blocs_35, e_X12_blocs_35, ml_blocOf I0.M I0.G I0.R hi, zci_ok, zci_ok, hr0, nI_1]
      show _ = zL p_X12_blocs 11 [some (.inr (.inr (12, 0))), some (.inl (s.1 ||| bl i)), some (.inl (zi (tb s.1 i) s.2 (s.2 + 1))), some (.inl (nI (i + 1)))] [] (zuI h 12 0 0 0)
      by_cases e : tb s.1 i
      · rw [zf_pos e, zi_pos e, Int32.add_zero]
      · rw [zf_neg e, zi_neg e]
    · rw [e_X12_blocs_11, I0.M.1, zf_neg (nI_nlt' (by omega))]
