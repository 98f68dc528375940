/-! Chance. -/
theorem lc_raised {b t : Nat} (h : zH) (ht : t < 100) : f_X11_raised [.inl (nI b), .inl (nI t)] h = some (some (.inl (nI (b ^ t))), h) := by
  rw [g_X11_raised]
  refine (zloop (fun i (_ : Nat) => zL p_X11_raised 4 [some (.inl (nI b)), some (.inl (nI t)), some (.inl (nI (b ^ i))), some (.inl (nI i))] [] h) (fun _ s => s) t 0 (fun i s hi => ?_)).trans ?_
  · rw [e_X11_raised_4, zf_pos (nI_lt hi (by omega)), pk_mul, nI_1, Nat.pow_succ]
  · rw [e_X11_raised_4, zf_neg (nI_nlt' (by omega))]
/-- washed with so often among these weeks -/
noncomputable def ws9 (i w : Nat) : Nat := cnt9 (fun k => tb (nI i) k) w
theorem ws9_le (i w : Nat) : ws9 i w ≤ w := cnt9_le _ _
theorem ws9_32 {i w : Nat} (hi : i < 2 ^ w) (hw : w ≤ 7) : cnt9 (fun k => tb (nI i) k) 32 = ws9 i w := cnt9_len (by omega) (fun c h1 h2 => tb_hi hi h1 h2)
theorem wk9_iff {κ : zK} {r : zRo} {c q p b : Nat} (hb : b < 100) : Tk κ nD r c q b ≤ p ↔ wk9 κ r c q p ≤ b := by
  constructor
  · intro h; exact Nat.le_of_not_lt (fun z => fst9_not 100 (fun n => Tk κ nD r c q n ≤ p) b z h)
  · intro h
    have := fst9_is 100 (fun n => Tk κ nD r c q n ≤ p) (Nat.lt_of_le_of_lt h hb)
    exact Nat.le_trans (Tk_mono h) this
theorem ten6 {S w : Nat} (h1 : 1 ≤ w) (h6 : w ≤ 6) : S * 1000000 / 10 ^ w = S * 10 ^ (6 - w) := by
  match w, h1, h6 with
  | 1, _, _ => show S * 1000000 / 10 = S * 100000; omega
  | 2, _, _ => show S * 1000000 / 100 = S * 10000; omega
  | 3, _, _ => show S * 1000000 / 1000 = S * 1000; omega
  | 4, _, _ => show S * 1000000 / 10000 = S * 100; omega
  | 5, _, _ => show S * 1000000 / 100000 = S * 10; omega
  | 6, _, _ => show S * 1000000 / 1000000 = S * 1; omega
theorem pow_le6 {a t : Nat} (ha : a ≤ 10) (ht : t ≤ 6) : a ^ t ≤ 1000000 := Nat.le_trans (Nat.pow_le_pow_left ha t) (Nat.le_trans (Nat.pow_le_pow_right (by omega) ht) (by decide))
theorem q_chance {m : Nat} {h : zH} (I : Inv m h) (hm : m < 1000000) (x y z : Int32) : agree f_X11_chance f_X12_chance [.inr (.inr (11, 0)), .inl x, .inl y, .inl z] [.inr (.inr (12, 0)), .inl x, .inl y, .inl z] m h := by
  obtain ⟨κ, I, J⟩ := I
  have h5 := I.h5
  have h7 := I.h7
  have I0 : IV κ m (zuI h 12 0 0 0) := I.quiet quiet.thrown
  have no : f_X11_chance [.inr (.inr (11, 0)), .inl x, .inl y, .inl z] h = some (some (.inl zm1), h) → f_X12_chance [.inr (.inr (12, 0)), .inl x, .inl y, .inl z] h = some (some (.inl zm1), zuI h 12 0 0 0) → agree f_X11_chance f_X12_chance [.inr (.inr (11, 0)), .inl x, .inl y, .inl z] [.inr (.inr (12, 0)), .inl x, .inl y, .inl z] m h := fun e1 e2 => agree.look I J e1 quiet.rf e2 quiet.thrown
  have ec : f_X11_chance [.inr (.inr (11, 0)), .inl x, .inl y, .inl z] h = zf (isC κ x) (zf (¬ y < 1 ∧ ¬ (6 : Int32) < y) (zf (¬ z < 0 ∧ ¬ (10 : Int32) < z) (zf (vp_in x 7) (zf (h.1 21 0 x.toNatClampNeg = zm1) (some (some (.inl zm1), h)) (zci (f_X11_weeksToPebble [.inr (.inr (11, 0)), .inl x] h) (fun r4 h3 => zL p_X11_chance 62 [some (.inr (.inr (11, 0))), some (.inl x), some (.inl y), some (.inl z), some (.inl r4), some (.inl 0), some (.inl 0), none] [] h3))) none) (some (some (.inl zm1), h))) (some (some (.inl zm1), h))) (some (some (.inl zm1), h)) := by
    rw [g_X11_chance, cl_hasCake I.K, zci_ok, zf_b0]
    refine zfI (fun _ => ?_) (fun _ => rfl)
    by_cases e : y < 1
    · rw [zf_pos e, zf_neg (fun q => q.1 e)]
    · by_cases e2 : (6 : Int32) < y
      · rw [zf_neg e, zf_pos e2, zf_neg (fun q => q.2 e2)]
      · rw [zf_neg e, zf_neg e2, zf_pos (show ¬ y < 1 ∧ ¬ (6 : Int32) < y from ⟨e, e2⟩)]
        by_cases e3 : z < 0
        · rw [zf_pos e3, zf_neg (fun q => q.1 e3)]
        · by_cases e4 : (10 : Int32) < z
          · rw [zf_neg e3, zf_pos e4, zf_neg (fun q => q.2 e4)]
          · rw [zf_neg e3, zf_neg e4, zf_pos (show ¬ z < 0 ∧ ¬ (10 : Int32) < z from ⟨e3, e4⟩)]
  by_cases hx : isC κ x
  · obtain ⟨c, hc, rfl⟩ := hx.have h7
    have k5 := (I.K.2.2.2.2.2.2.1 c hc).2.2.2.2
    have m5 := (I0.M.2.2.2.2.1 c hc).2.2.2.2
    by_cases hy : ¬ y < 1 ∧ ¬ (6 : Int32) < y
    · by_cases hz : ¬ z < 0 ∧ ¬ (10 : Int32) < z
      · rcases (I.G.pe hc).2 with ep | ⟨p, hp, ep⟩
        · refine no ?_ ?_
          · rw [ec, zf_pos hx, zf_pos hy, zf_pos hz, zfx (by omega) (by omega), nI_clamp (by omega), k5, zf_pos ep]
          · rw [g_X12_chance, lk_isCake I0, zci_ok, zf_b0, zf_pos hx, zfx (by omega) (by omega), nI_clamp (by omega), m5, zf_pos (show kPe κ c < 0 by rw [ep]; decide)]
        · obtain ⟨o, ho, rfl⟩ := in_have (n := 10) (by omega) hz
          obtain ⟨w, hw1, rfl⟩ := nI_of (x := y) (fun q => hy.1 (by rw [Int32.lt_iff_toInt_lt] at q ⊢; have a1 : (1 : Int32).toInt = 1 := rfl; have a0 : (0 : Int32).toInt = 0 := rfl; omega))
          have hw2 : ¬ 6 < w := fun q => hy.2 ((Olt hw1 (by decide)).mpr q)
          have hw3 : ¬ w < 1 := fun q => hy.1 ((ltO hw1 (by decide)).mpr q)
          have hww : 2 ^ w ≤ 128 := two7 (by omega)
          obtain ⟨g, e1, e2⟩ := lc_weeksToPebble I hc hp ep
          let N := wk9 κ (h.1 72 0) c (ow (h.1 72 0) c) p
          have hN : N ≤ 100 := wk9_le
          let tm : Nat → Nat := fun i => @ite _ (N ≤ ws9 i w) (Classical.propDecidable _) (o ^ ws9 i w * (10 - o) ^ (w - ws9 i w)) 0
          -- the class
          have o62 : ∀ (a b d : Int32) o0 o1 o7 (g : zH), zL p_X11_chance 62 [o0, o1, some (.inl (nI w)), some (.inl (nI o)), some (.inl a), some (.inl b), some (.inl d), o7] [] g = zL p_X11_chance 62 [none, none, some (.inl (nI w)), some (.inl (nI o)), some (.inl a), some (.inl b), some (.inl d), none] [] g := fun a b d o0 o1 o7 g => (e_X11_chance_62 _ _ _ _ _ _ _ _ _).trans (e_X11_chance_62 _ _ _ _ _ _ _ _ _).symm
          have cl : zL p_X11_chance 62 [some (.inr (.inr (11, 0))), some (.inl (nI c)), some (.inl (nI w)), some (.inl (nI o)), some (.inl (wans N)), some (.inl 0), some (.inl 0), none] [] g = some (some (.inl (nI (nsum tm (2 ^ w) * 10 ^ (6 - w)))), g) := by
            rw [o62]
            refine (zloopN (fun i b => zL p_X11_chance 62 [none, none, some (.inl (nI w)), some (.inl (nI o)), some (.inl (wans N)), some (.inl (nI b)), some (.inl (nI i)), none] [] g) tm (2 ^ w) (fun i b hi => ?_)).trans ?_
            · have hwl := ws9_le i w
              rw [e_X11_chance_62, shl1 w (by omega), zf_pos (nI_lt hi (by omega)), sj_bitCount, zci_ok, ws9_32 hi (by omega), lc_raised g (by omega), zci_ok, show (10 : Int32) - nI o = nI (10 - o) from pk_sub (a := 10) ho, pk_sub hwl, lc_raised g (by omega), zci_ok, pk_mul, nI_add, nI_1, zfc (wans_m1 hN)]
              by_cases e : N = 100
              · rw [zf_pos e, o62, show tm i = 0 from zite_neg (by omega)]; rfl
              · rw [zf_neg e, show wans N = nI N from if_neg e, zfc (nI_ltI (by omega) (by omega))]
                by_cases e3 : ws9 i w < N
                · rw [zf_pos e3, o62, show tm i = 0 from zite_neg (by omega)]; rfl
                · rw [zf_neg e3, o62, show tm i = o ^ ws9 i w * (10 - o) ^ (w - ws9 i w) from zite_pos (by omega)]
            · rw [e_X11_chance_62, shl1 w (by omega), zf_neg (nI_nlt' (by omega)), show (6 : Int32) - nI w = nI (6 - w) from pk_sub (a := 6) (by omega), show (10 : Int32) = nI 10 from rfl, lc_raised g (by omega), zci_ok, pk_mul]
          -- the model
          have I1 : IV κ m (zuI g 12 0 0 0) := (I.quiet e2).quiet quiet.thrown
          have r1 : (zuI g 12 0 0 0).1 72 0 = h.1 72 0 := by rw [hr0]; exact e2.row
          have q01 : quiet g (zuI g 12 0 0 0) := quiet.thrown
          have el := g_X12_chance (nI c) (nI w) (nI o) g
          have m51 := (I1.M.2.2.2.2.1 c hc).2.2.2.2
          have lkc := lk_isCake I1 (nI c)
          generalize zuI g 12 0 0 0 = g1 at I1 r1 q01 el m51 lkc
          obtain ⟨g2, a1, a2, a3⟩ := sm_aside (K1 := 74) g1 (Or.inr rfl)
          have r2 : g2.1 72 0 = h.1 72 0 := by rw [← r1]; exact funext (fun k => a2.1 72 0 k (by decide))
          have M2 : mK κ g2 := I1.M.same I1.G a2.1 (by decide)
          have D2 : g2.1 12 0 54 = 0 := by rw [a2.1 12 0 54 (by decide)]; exact I1.D
          have o53 : ∀ (a d : Int64) (b : Int32) o5 o7 o9 o10 o11 o12 (g : zH), zL p_X12_chance 53 [some (.inr (.inr (12, 0))), some (.inl (nI c)), some (.inl (nI w)), some (.inl (nI o)), some (.inr (.inl a)), o5, some (.inr (.inl d)), o7, some (.inl b), o9, o10, o11, o12] [] g = zL p_X12_chance 53 [some (.inr (.inr (12, 0))), some (.inl (nI c)), some (.inl (nI w)), some (.inl (nI o)), some (.inr (.inl a)), none, some (.inr (.inl d)), none, some (.inl b), none, none, none, none] [] g := fun a d b o5 o7 o9 o10 o11 o12 g => (e_X12_chance_53 _ _ _ _ _ _ _ _ _ _ _ _ _).trans (e_X12_chance_53 _ _ _ _ _ _ _ _ _ _ _ _ _).symm
          have o89 : ∀ (a d : Int64) (b : Int32) o5 o7 o9 o10 o11 o12 (g : zH), zL p_X12_chance 89 [some (.inr (.inr (12, 0))), some (.inl (nI c)), some (.inl (nI w)), some (.inl (nI o)), some (.inr (.inl a)), o5, some (.inr (.inl d)), o7, some (.inl b), o9, o10, o11, o12] [] g = zL p_X12_chance 89 [some (.inr (.inr (12, 0))), some (.inl (nI c)), some (.inl (nI w)), some (.inl (nI o)), some (.inr (.inl a)), none, some (.inr (.inl d)), none, some (.inl b), none, none, none, none] [] g := fun a d b o5 o7 o9 o10 o11 o12 g => (e_X12_chance_89 _ _ _ _ _ _ _ _ _ _ _ _ _).trans (e_X12_chance_89 _ _ _ _ _ _ _ _ _ _ _ _ _).symm
          have o103 : ∀ (a d n : Int64) (b k : Int32) o5 o7 o10 o12 (g : zH), zL p_X12_chance 103 [some (.inr (.inr (12, 0))), some (.inl (nI c)), some (.inl (nI w)), some (.inl (nI o)), some (.inr (.inl a)), o5, some (.inr (.inl d)), o7, some (.inl b), some (.inr (.inl n)), o10, some (.inl k), o12] [] g = zL p_X12_chance 103 [some (.inr (.inr (12, 0))), some (.inl (nI c)), some (.inl (nI w)), some (.inl (nI o)), some (.inr (.inl a)), none, some (.inr (.inl d)), none, some (.inl b), some (.inr (.inl n)), none, some (.inl k), none] [] g := fun a d n b k o5 o7 o10 o12 g => (e_X12_chance_103 _ _ _ _ _ _ _ _ _ _ _ _ _).trans (e_X12_chance_103 _ _ _ _ _ _ _ _ _ _ _ _ _).symm
          have tens : zL p_X12_chance 53 [some (.inr (.inr (12, 0))), some (.inl (nI c)), some (.inl (nI w)), some (.inl (nI o)), some (.inr (.inl 0)), none, some (.inr (.inl 1)), none, some (.inl 0), none, none, none, none] [] g1 = zL p_X12_chance 89 [some (.inr (.inr (12, 0))), some (.inl (nI c)), some (.inl (nI w)), some (.inl (nI o)), some (.inr (.inl 0)), none, some (.inr (.inl (lN (10 ^ w)))), none, some (.inl 0), none, none, none, none] [] g2 := by
            refine (zloop (fun i (_ : Nat) => zL p_X12_chance 53 [some (.inr (.inr (12, 0))), some (.inl (nI c)), some (.inl (nI w)), some (.inl (nI o)), some (.inr (.inl 0)), none, some (.inr (.inl (lN (10 ^ i)))), none, some (.inl (nI i)), none, none, none, none] [] g1) (fun _ s => s) w 0 (fun i s hi => ?_)).trans ?_
            · rw [e_X12_chance_53, zf_pos (nI_lt hi (by omega)), show (10 : Int64) = lN 10 from rfl, lN_mul, nI_1, Nat.pow_succ]
            · rw [e_X12_chance_53, zf_neg (nI_nlt' (by omega)), a1, zcv_ok]
          obtain ⟨f, f1, f2, f3⟩ := zloopE (fun i (f : zH) => zL p_X12_chance 89 [some (.inr (.inr (12, 0))), some (.inl (nI c)), some (.inl (nI w)), some (.inl (nI o)), some (.inr (.inl (lN (nsum tm i)))), none, some (.inr (.inl (lN (10 ^ w)))), none, some (.inl (nI i)), none, none, none, none] [] f)
            (fun _ f => zsame Ww g2 f ∧ f.1 72 0 = h.1 72 0) (2 ^ w) g2 ⟨zsame.rf, r2⟩ (fun i f hi q => by
              obtain ⟨q1, q2⟩ := q
              obtain ⟨f', b1, b2, b3⟩ := zloopE (fun k (f : zH) => zL p_X12_chance 103 [some (.inr (.inr (12, 0))), some (.inl (nI c)), some (.inl (nI w)), some (.inl (nI o)), some (.inr (.inl (lN (nsum tm i)))), none, some (.inr (.inl (lN (10 ^ w)))), none, some (.inl (nI i)), some (.inr (.inl (lN (o ^ ws9 i k * (10 - o) ^ (k - ws9 i k))))), none, some (.inl (nI k)), none] [] f)
                (fun k f => zsame Ww g2 f ∧ f.1 72 0 = wkn κ nD (h.1 72 0) (ws9 i k)) w f ⟨q1, q2⟩ (fun k f hk p => by
                  obtain ⟨p1, p2⟩ := p
                  have Mf : mK κ f := M2.same I1.G p1.1 (by decide)
                  have hwk := ws9_le i k
                  have Rf : gR κ (m + ws9 i k) (f.1 72 0) := by rw [p2]; exact wkn_gR h7 I.R _
                  have Df : f.1 12 0 54 = 0 := by rw [p1.1 12 0 54 (by decide)]; exact D2
                  rw [e_X12_chance_103, zf_pos (nI_lt hk (by omega)), tb_f]
                  by_cases e : tb (nI i) k
                  · have ek : ws9 i (k + 1) = ws9 i k + 1 := by unfold ws9; simp only [cnt9]; rw [zite_pos e]
                    obtain ⟨f9, c1, c2, c3⟩ := sm_passes0 Mf I1.G Rf Df
                    rw [zf_pos e, e_X12_chance_125, zf_neg (show ¬ (1 : Int32) = 0 by decide), e_X12_chance_144, zf_neg (show ¬ (1 : Int32) = 0 by decide), c1, zci_ok, nI_1, nI_l (by omega), lN_mul, o103]
                    refine ⟨f9, ?_, p1.trans c2, by rw [c3, p2, ek]; rfl⟩
                    rw [ek, show o ^ ws9 i k * (10 - o) ^ (k - ws9 i k) * o = o ^ (ws9 i k + 1) * (10 - o) ^ (k + 1 - (ws9 i k + 1)) by
                      rw [show k + 1 - (ws9 i k + 1) = k - ws9 i k by omega, Nat.pow_succ, Nat.mul_right_comm]]
                  · have ek : ws9 i (k + 1) = ws9 i k := by unfold ws9; simp only [cnt9]; rw [zite_neg e]; rfl
                    rw [zf_neg e, e_X12_chance_125, zf_pos rfl, e_X12_chance_144, zf_pos rfl, nI_1, show (10 : Int32) - nI o = nI (10 - o) from pk_sub (a := 10) ho, nI_l (by omega), lN_mul, o103]
                    refine ⟨f, ?_, p1, by rw [p2, ek]⟩
                    rw [ek, show o ^ ws9 i k * (10 - o) ^ (k - ws9 i k) * (10 - o) = o ^ ws9 i k * (10 - o) ^ (k + 1 - ws9 i k) by
                      rw [show k + 1 - ws9 i k = (k - ws9 i k) + 1 by omega, Nat.pow_succ, Nat.mul_assoc]])
              have b1 : zL p_X12_chance 103 [some (.inr (.inr (12, 0))), some (.inl (nI c)), some (.inl (nI w)), some (.inl (nI o)), some (.inr (.inl (lN (nsum tm i)))), none, some (.inr (.inl (lN (10 ^ w)))), none, some (.inl (nI i)), some (.inr (.inl 1)), none, some (.inl 0), none] [] f = _ := b1
              have hwl := ws9_le i w
              have Mf' : mK κ f' := M2.same I1.G b2.1 (by decide)
              have tl := Tk_le (D := nD) (q := ow (h.1 72 0) c) I.R hc (ws9 i w)
              have found : (¬ kPe κ c < 0 ∧ ¬ kPe κ c < f'.1 72 0 (3 + c)) ↔ N ≤ ws9 i w := by
                rw [b3, (wkn_c h7 I.R hc _).1, ep, nI_ltI (by omega) (by omega)]
                have : ¬ nI p < 0 := nI_pos (by omega)
                have w9 := wk9_iff (κ := κ) (r := h.1 72 0) (c := c) (q := ow (h.1 72 0) c) (p := p) (b := ws9 i w) (by omega)
                exact ⟨fun z => w9.mp (by omega), fun z => ⟨this, by have := w9.mpr z; omega⟩⟩
              obtain ⟨f9, c1, c2, c3, c4⟩ := sm_back (K0 := 74) f' (Or.inr rfl)
              have rf9 : f9.1 72 0 = h.1 72 0 := by
                funext k
                by_cases e : k < 24
                · rw [c3 k e, b2.1 74 0 k (by decide), a3 k e, r1]
                · rw [c4 k (by omega), b3, wkn_hi h7 (by omega)]
              have zf9 : zsame Ww g2 f9 := b2.trans (c2.mono (by simp))
              have fin : ∀ (v : Nat) o5 o7 o9 o10 o11 o12, v = nsum tm (i + 1) → ∃ a', zL p_X12_chance 178 [some (.inr (.inr (12, 0))), some (.inl (nI c)), some (.inl (nI w)), some (.inl (nI o)), some (.inr (.inl (lN v))), o5, some (.inr (.inl (lN (10 ^ w)))), o7, some (.inl (nI i)), o9, o10, o11, o12] [] f' = zL p_X12_chance 89 [some (.inr (.inr (12, 0))), some (.inl (nI c)), some (.inl (nI w)), some (.inl (nI o)), some (.inr (.inl (lN (nsum tm (i + 1))))), none, some (.inr (.inl (lN (10 ^ w)))), none, some (.inl (nI (i + 1))), none, none, none, none] [] a' ∧ zsame Ww g2 a' ∧ a'.1 72 0 = h.1 72 0 := fun v o5 o7 o9 o10 o11 o12 hv => by
                rw [e_X12_chance_178, c1, zcv_ok, nI_1, hv]
                exact ⟨f9, rfl, zf9, rf9⟩
              rw [e_X12_chance_89, shl1 w (by omega), zf_pos (nI_lt hi (by omega)), b1, e_X12_chance_103, zf_neg (nI_nlt' (by omega)), sm_isFound (by omega), zci_ok, (Mf'.2.2.2.2.1 c hc).2.2.2.2, zf_b0, zfc found]
              by_cases e : N ≤ ws9 i w
              · rw [zf_pos e, lN_add]
                exact fin _ _ _ _ _ _ _ (by simp only [nsum]; rw [show tm i = o ^ ws9 i w * (10 - o) ^ (w - ws9 i w) from zite_pos e])
              · rw [zf_neg e]
                exact fin _ _ _ _ _ _ _ (by simp only [nsum]; rw [show tm i = 0 from zite_neg e]; rfl))
          have f1 : zL p_X12_chance 89 [some (.inr (.inr (12, 0))), some (.inl (nI c)), some (.inl (nI w)), some (.inl (nI o)), some (.inr (.inl 0)), none, some (.inr (.inl (lN (10 ^ w)))), none, some (.inl 0), none, none, none, none] [] g2 = _ := f1
          have sb : nsum tm (2 ^ w) ≤ 1000000 * 2 ^ w := nsum_le (fun i _ => by
            show (@ite _ (N ≤ ws9 i w) (Classical.propDecidable _) _ _) ≤ _
            by_cases e : N ≤ ws9 i w
            · rw [zite_pos e]
              have hwl := ws9_le i w
              refine Nat.le_trans (Nat.mul_le_mul (Nat.pow_le_pow_left ho _) (Nat.pow_le_pow_left (show 10 - o ≤ 10 by omega) _)) ?_
              rw [← Nat.pow_add, show ws9 i w + (w - ws9 i w) = w by omega]
              exact pow_le6 (by omega) (by omega)
            · rw [zite_neg e]; exact Nat.zero_le _)
          have t10 : 10 ^ w ≤ 1000000 := pow_le6 (by omega) (by omega)
          have t1 : 0 < 10 ^ w := Nat.pow_pos (by omega)
          have qf : quiet g1 f := qWb (zsame.drop (K := 72) ((a2.mono (by simp)).trans (f2.mono (by simp))) (by rw [f3, r1]))
          refine agree.look I J (v := nI (nsum tm (2 ^ w) * 10 ^ (6 - w))) (h1 := g) (h2 := f) ?_ e2 ?_ (q01.trans qf)
          · rw [ec, zf_pos hx, zf_pos hy, zf_pos hz, zfx (by omega) (by omega), nI_clamp (by omega), k5, zf_neg (by rw [ep]; exact fun q => (nI_pos (n := p) (by omega)) (by rw [q]; decide)), e1, zci_ok, cl]
          · rw [el, lkc, zci_ok, zf_b0, zf_pos hx, zfx (by omega) (by omega), nI_clamp (by omega), m51, zf_neg (by rw [ep]; exact nI_pos (by omega)), sm_within, zci_ok, zf_b0, zf_pos hy, sm_within, zci_ok, zf_b0, zf_pos hz, tens, f1, e_X12_chance_89, shl1 w (by omega), zf_neg (nI_nlt' (by omega)), zf_neg (show ¬ lN (10 ^ w) = 0 from fun q => by
              have := (pk_lEQ (a := 10 ^ w) (b := 0) (by omega) (by omega)).mp q
              omega), show (1000000 : Int64) = lN 1000000 from rfl, lN_mul, pk_lDiv (by omega) t1 (by omega), lN_i, ten6 (by omega) (by omega)]
      · refine no ?_ ?_
        · rw [ec, zf_pos hx, zf_pos hy, zf_neg hz]
        · rw [g_X12_chance, lk_isCake I0, zci_ok, zf_b0, zf_pos hx, zfx (by omega) (by omega), nI_clamp (by omega), m5, sm_within, zci_ok, zf_b0, zf_pos hy, sm_within, zci_ok, zf_b0, zf_neg hz, zf_same]
    · refine no ?_ ?_
      · rw [ec, zf_pos hx, zf_neg hy]
      · rw [g_X12_chance, lk_isCake I0, zci_ok, zf_b0, zf_pos hx, zfx (by omega) (by omega), nI_clamp (by omega), m5, sm_within, zci_ok, zf_b0, zf_neg hy, zf_same]
  · refine no ?_ ?_
    · rw [ec, zf_neg hx]
    · rw [g_X12_chance, lk_isCake I0, zci_ok, zf_b0, zf_neg hx]
