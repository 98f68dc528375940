/-! The tape fed. -/
def byt (w : Int64) (sh : Int32) : Int32 := ((w.toUInt64 >>> (sh.toInt64.toUInt64 &&& Int64.toUInt64 63)).toInt64 &&& (255 : Int64)).toInt32
def shf (i : Nat) : Int32 := 56 - nI (8 * i)
theorem shf_s : ∀ i, i < 8 → shf i + zm8 = shf (i + 1) := by decide +kernel
theorem shf_p : ∀ i, i < 8 → ¬ shf i < 0 := by decide +kernel
theorem shf_m : ∀ k, k < 24 → (56 : Int32) - (8 * (nI k &&& 7)) = shf (k % 8) := by decide +kernel
abbrev zTa : Type := Nat × (Nat → Int32)
def kpt (s : Int32) : Prop := s = 10 ∨ (¬ s < 32 ∧ ¬ 126 < s)
noncomputable def put (s : Int32) (z : zTa) : zTa := @ite _ (kpt s ∧ z.1 < 1000) (Classical.propDecidable _) (z.1 + 1, fun k => if k = z.1 then s else z.2 k) z
theorem put_pos {s : Int32} {z : zTa} (h : kpt s ∧ z.1 < 1000) : put s z = (z.1 + 1, fun k => if k = z.1 then s else z.2 k) := zite_pos h
theorem put_neg {s : Int32} {z : zTa} (h : ¬ (kpt s ∧ z.1 < 1000)) : put s z = z := zite_neg h
theorem kpt_s {s : Int32} (h : kpt s) : ∃ v, okS v ∧ s = nI v := by
  rcases h with rfl | ⟨h1, h2⟩
  · exact ⟨10, Or.inl rfl, rfl⟩
  · have h0 : ¬ s < 0 := fun z => h1 (by
      rw [Int32.lt_iff_toInt_lt] at z ⊢
      have a1 : (32 : Int32).toInt = 32 := rfl
      have a0 : (0 : Int32).toInt = 0 := rfl
      omega)
    obtain ⟨v, hv, rfl⟩ := nI_of h0
    have h3 : ¬ v < 32 := fun z => h1 ((ltO hv (by decide)).mpr z)
    have h4 : ¬ 126 < v := fun z => h2 ((Olt hv (by decide)).mpr z)
    exact ⟨v, Or.inr ⟨by omega, by omega⟩, rfl⟩
theorem byte8 : ∀ v, v < 127 → (nI v).toInt8.toInt32 = nI v := by decide +kernel
theorem kpt_nar {s : Int32} (h : kpt s) : vp_nar .byte (s.toInt8.toInt32) = s := by
  obtain ⟨v, hv, rfl⟩ := kpt_s h
  rw [pk_vb, byte8 v (by rcases hv with h | h <;> omega)]
def taC (h : zH) (z : zTa) : Prop := z.1 ≤ 1000 ∧ h.1 9 0 1 = nI z.1 ∧ ∀ k, k < z.1 → h.1 34 0 k = z.2 k
def taM (h : zH) (z : zTa) : Prop := z.1 ≤ 1000 ∧ h.1 12 0 1 = nI z.1 ∧ ∀ k, k < z.1 → h.1 38 0 k = z.2 k
def taG (z : zTa) : Prop := ∀ k, k < z.1 → ∃ v, okS v ∧ z.2 k = nI v
theorem taG_put {s : Int32} {z : zTa} (h : taG z) : taG (put s z) := by
  by_cases e : kpt s ∧ z.1 < 1000
  · rw [put_pos e]
    intro k hk
    dsimp only at hk ⊢
    by_cases e2 : k = z.1
    · rw [if_pos e2]; exact kpt_s e.1
    · rw [if_neg e2]; exact h k (by omega)
  · rw [put_neg e]; exact h
theorem cl_append {h : zH} (w : Int64) (Z : Nat → zTa) (hZ : ∀ i, i < 8 → Z (i + 1) = put (byt w (shf i)) (Z i)) (h0 : taC h (Z 0)) : ∃ g, f_X9_append [.inr (.inr (9, 0)), .inr (.inl w)] h = some (none, g) ∧ zsame [(34, 0), (9, 0)] h g ∧ taC g (Z 8) := by
  have oo : ∀ (a : Int32) o2 o4 o5 (g : zH), zL p_X9_append 3 [some (.inr (.inr (9, 0))), some (.inr (.inl w)), o2, some (.inl a), o4, o5] [] g = zL p_X9_append 3 [some (.inr (.inr (9, 0))), some (.inr (.inl w)), none, some (.inl a), none, none] [] g := fun a o2 o4 o5 g => (e_X9_append_3 _ _ _ _ _ _).trans (e_X9_append_3 _ _ _ _ _ _).symm
  obtain ⟨g, e1, e2, e3⟩ := zloopE (fun i (g : zH) => zL p_X9_append 3 [some (.inr (.inr (9, 0))), some (.inr (.inl w)), none, some (.inl (shf i)), none, none] [] g)
    (fun i g => zsame [(34, 0), (9, 0)] h g ∧ taC g (Z i)) 8 h ⟨zsame.rf, h0⟩ (fun i g hi q => by
      obtain ⟨q1, q2, q3, q4⟩ := q
      rw [e_X9_append_3, zf_neg (shf_p i hi)]
      show ∃ a', zf (byt w (shf i) = 10) _ (zf (byt w (shf i) < 32) _ (zf (126 < byt w (shf i)) _ _)) = _ ∧ _
      have hs := hZ i hi
      have yes : kpt (byt w (shf i)) → ∃ a', zL p_X9_append 43 [some (.inr (.inr (9, 0))), some (.inr (.inl w)), none, some (.inl (shf i)), some (.inl (byt w (shf i))), none] [.inl 1] g = zL p_X9_append 3 [some (.inr (.inr (9, 0))), some (.inr (.inl w)), none, some (.inl (shf (i + 1))), none, none] [] a' ∧ zsame [(34, 0), (9, 0)] h a' ∧ taC a' (Z (i + 1)) := fun hk => by
        rw [e_X9_append_43, zf_neg (show ¬ (1 : Int32) = 0 by decide), q3, shf_s i hi]
        by_cases e : (Z i).1 < 1000
        · rw [zf_pos (show nI (Z i).1 < 1000 from nI_lt (b := 1000) e (by omega)), zfx e (by omega), nI_clamp (by omega), kpt_nar hk, nI_1, oo, hs, put_pos ⟨hk, e⟩]
          refine ⟨_, rfl, (q1.set (by simp)).set (by simp), show (Z i).1 + 1 ≤ 1000 by omega, zuI_at, fun k hk2 => ?_⟩
          dsimp only at hk2 ⊢
          rw [zuI_o (by omega)]
          by_cases e2 : k = (Z i).1
          · rw [if_pos e2, e2, zuI_at]
          · rw [if_neg e2, zuI_ne e2]; exact q4 k (by omega)
        · rw [zf_neg (show ¬ nI (Z i).1 < 1000 from nI_nlt (b := 1000) (by omega) (by omega)), oo, hs, put_neg (fun z => e z.2)]
          exact ⟨g, rfl, q1, q2, q3, q4⟩
      have no : ¬ kpt (byt w (shf i)) → ∃ a', zL p_X9_append 43 [some (.inr (.inr (9, 0))), some (.inr (.inl w)), none, some (.inl (shf i)), some (.inl (byt w (shf i))), none] [.inl 0] g = zL p_X9_append 3 [some (.inr (.inr (9, 0))), some (.inr (.inl w)), none, some (.inl (shf (i + 1))), none, none] [] a' ∧ zsame [(34, 0), (9, 0)] h a' ∧ taC a' (Z (i + 1)) := fun hk => by
        rw [e_X9_append_43, zf_pos rfl, shf_s i hi, oo, hs, put_neg (fun z => hk z.1)]
        exact ⟨g, rfl, q1, q2, q3, q4⟩
      by_cases k1 : byt w (shf i) = 10
      · rw [zf_pos k1]; exact yes (Or.inl k1)
      · rw [zf_neg k1]
        by_cases k2 : byt w (shf i) < 32
        · rw [zf_pos k2]; exact no (fun z => z.elim k1 (fun y => y.1 k2))
        · rw [zf_neg k2]
          by_cases k3 : 126 < byt w (shf i)
          · rw [zf_pos k3]; exact no (fun z => z.elim k1 (fun y => y.2 k3))
          · rw [zf_neg k3]; exact yes (Or.inr ⟨k2, k3⟩))
  refine ⟨g, ?_, e2, e3⟩
  rw [g_X9_append]
  refine Eq.trans ?_ (e1.trans ?_)
  · rfl
  · rw [e_X9_append_3, zf_pos (show shf 8 < 0 by decide)]
theorem q_feed {m : Nat} {h : zH} (I : Inv m h) (a b c : Int64) : agree f_X11_feed f_X12_feed [.inr (.inr (11, 0)), .inr (.inl a), .inr (.inl b), .inr (.inl c)] [.inr (.inr (12, 0)), .inr (.inl a), .inr (.inl b), .inr (.inl c)] m h := by
  obtain ⟨κ, I, J⟩ := I
  obtain ⟨i1, i2, ⟨n, t1, t2, t3, t4⟩, i4, i5, i6, i7⟩ := J
  let wd : Nat → Int64 := fun k => if k < 8 then a else if k < 16 then b else c
  let nx : Nat → zTa → zTa := fun k z => put (byt (wd k) (shf (k % 8))) z
  let z0 : zTa := (n, h.1 34 0)
  generalize hZ : zit nx z0 = Z
  have Zs : ∀ k, Z (k + 1) = put (byt (wd k) (shf (k % 8))) (Z k) := fun k => by rw [← hZ]; rfl
  have Z0 : Z 0 = z0 := by rw [← hZ]; rfl
  have hG : ∀ k, taG (Z k) := fun k => by
    induction k with
    | zero => rw [Z0]; intro k hk; obtain ⟨s, s1, s2, s3⟩ := t4 k hk; exact ⟨s, s1, s2⟩
    | succ k ih => rw [Zs]; exact taG_put ih
  have c0 : taC h (Z 0) := by rw [Z0]; exact ⟨t1, t2, fun k hk => rfl⟩
  obtain ⟨g1, a1, a2, a3⟩ := cl_append a Z (fun i hi => by rw [Zs, show wd i = a from if_pos hi, Nat.mod_eq_of_lt hi]) c0
  obtain ⟨g2, b1, b2, b3⟩ := cl_append (h := g1) b (fun i => Z (8 + i)) (fun i hi => by
    show Z (8 + i + 1) = _
    rw [Zs, show wd (8 + i) = b from (if_neg (by omega)).trans (if_pos (by omega)), show (8 + i) % 8 = i by omega]) a3
  obtain ⟨g3, d1, d2, d3⟩ := cl_append (h := g2) c (fun i => Z (16 + i)) (fun i hi => by
    show Z (16 + i + 1) = _
    rw [Zs, show wd (16 + i) = c from (if_neg (by omega)).trans (if_neg (by omega)), show (16 + i) % 8 = i by omega]) b3
  have d3 : taC g3 (Z 24) := d3
  have gs : zsame [(34, 0), (9, 0)] h g3 := (a2.trans b2).trans d2
  have m0 : taM (zuI g3 12 0 0 0) (Z 0) := by
    rw [Z0]
    refine ⟨t1, by rw [zuI_o (by omega), gs.1 12 0 1 (by decide)]; exact t3, fun k hk => ?_⟩
    obtain ⟨s, s1, s2, s3⟩ := t4 k hk
    show (zuI g3 12 0 0 0).1 38 0 k = h.1 34 0 k
    rw [zuI_o (by omega), gs.1 38 0 k (by decide), s2, s3]
  have o8 : ∀ (x : Int32) o2 o4 o6 o8 o9 o10 (g : zH), zL p_X12_feed 8 [some (.inr (.inr (12, 0))), some (.inr (.inl a)), o2, some (.inr (.inl b)), o4, some (.inr (.inl c)), o6, some (.inl x), o8, o9, o10] [] g = zL p_X12_feed 8 [some (.inr (.inr (12, 0))), some (.inr (.inl a)), none, some (.inr (.inl b)), none, some (.inr (.inl c)), none, some (.inl x), none, none, none] [] g := fun x o2 o4 o6 o8 o9 o10 g => (e_X12_feed_8 _ _ _ _ _ _ _ _ _ _ _).trans (e_X12_feed_8 _ _ _ _ _ _ _ _ _ _ _).symm
  obtain ⟨f, f1, f2, f3, f4⟩ := zloopE (fun i (g : zH) => zL p_X12_feed 8 [some (.inr (.inr (12, 0))), some (.inr (.inl a)), none, some (.inr (.inl b)), none, some (.inr (.inl c)), none, some (.inl (nI i)), none, none, none] [] g)
    (fun i g => taM g (Z i) ∧ (∀ K j k, K ≠ 38 → ¬ (K = 12 ∧ k = 1) → g.1 K j k = (zuI g3 12 0 0 0).1 K j k) ∧ g.2 = g3.2) 24 (zuI g3 12 0 0 0) ⟨m0, fun _ _ _ _ _ => rfl, rfl⟩ (fun i g hi q => by
      obtain ⟨⟨q1, q2, q3⟩, q4, q5⟩ := q
      have hs := Zs i
      have body : ∀ w, w = wd i → ∃ a', zL p_X12_feed 39 [some (.inr (.inr (12, 0))), some (.inr (.inl a)), none, some (.inr (.inl b)), none, some (.inr (.inl c)), none, some (.inl (nI i)), none, none, none] [.inr (.inl w)] g = zL p_X12_feed 8 [some (.inr (.inr (12, 0))), some (.inr (.inl a)), none, some (.inr (.inl b)), none, some (.inr (.inl c)), none, some (.inl (nI (i + 1))), none, none, none] [] a' ∧ taM a' (Z (i + 1)) ∧ (∀ K j k, K ≠ 38 → ¬ (K = 12 ∧ k = 1) → a'.1 K j k = (zuI g3 12 0 0 0).1 K j k) ∧ a'.2 = g3.2 := fun w hw => by
        rw [e_X12_feed_39, shf_m i hi, q2, nI_1, hw]
        show ∃ a', zf _ (zf (byt (wd i) (shf (i % 8)) = 10) _ (zf (byt (wd i) (shf (i % 8)) < 32) _ (zf (126 < byt (wd i) (shf (i % 8))) _ _))) _ = _ ∧ _
        by_cases e : (Z i).1 < 1000
        · rw [zf_pos (show nI (Z i).1 < 1000 from nI_lt (b := 1000) e (by omega))]
          have yes : kpt (byt (wd i) (shf (i % 8))) → ∀ o8 o9, ∃ a', zL p_X12_feed 93 [some (.inr (.inr (12, 0))), some (.inr (.inl a)), none, some (.inr (.inl b)), none, some (.inr (.inl c)), none, some (.inl (nI i)), o8, o9, some (.inl (byt (wd i) (shf (i % 8))))] [] g = zL p_X12_feed 8 [some (.inr (.inr (12, 0))), some (.inr (.inl a)), none, some (.inr (.inl b)), none, some (.inr (.inl c)), none, some (.inl (nI (i + 1))), none, none, none] [] a' ∧ taM a' (Z (i + 1)) ∧ (∀ K j k, K ≠ 38 → ¬ (K = 12 ∧ k = 1) → a'.1 K j k = (zuI g3 12 0 0 0).1 K j k) ∧ a'.2 = g3.2 := fun hk o8' o9' => by
            rw [e_X12_feed_93, q2, zfx e (by omega), nI_clamp (by omega), nI_1, nI_1, o8, hs, put_pos ⟨hk, e⟩]
            refine ⟨_, rfl, ⟨show (Z i).1 + 1 ≤ 1000 by omega, zuI_at, fun k hk2 => ?_⟩, fun K j k h1 h2 => ?_, q5⟩
            · dsimp only at hk2 ⊢
              rw [zuI_o (by omega)]
              by_cases e2 : k = (Z i).1
              · rw [if_pos e2, e2, zuI_at]
              · rw [if_neg e2, zuI_ne e2]; exact q3 k (by omega)
            · rw [zuI_o (by omega), zuI_o (by omega)]; exact q4 K j k h1 h2
          have no : ¬ kpt (byt (wd i) (shf (i % 8))) → ∀ o8' o9 o10, ∃ a', zL p_X12_feed 8 [some (.inr (.inr (12, 0))), some (.inr (.inl a)), none, some (.inr (.inl b)), none, some (.inr (.inl c)), none, some (.inl (nI (i + 1))), o8', o9, o10] [] g = zL p_X12_feed 8 [some (.inr (.inr (12, 0))), some (.inr (.inl a)), none, some (.inr (.inl b)), none, some (.inr (.inl c)), none, some (.inl (nI (i + 1))), none, none, none] [] a' ∧ taM a' (Z (i + 1)) ∧ (∀ K j k, K ≠ 38 → ¬ (K = 12 ∧ k = 1) → a'.1 K j k = (zuI g3 12 0 0 0).1 K j k) ∧ a'.2 = g3.2 := fun hk o8' o9 o10 => by
            rw [hs, put_neg (fun z => hk z.1)]
            exact ⟨g, o8 _ _ _ _ _ _ _ _, ⟨q1, q2, q3⟩, q4, q5⟩
          by_cases k1 : byt (wd i) (shf (i % 8)) = 10
          · rw [zf_pos k1]; exact yes (Or.inl k1) _ _
          · rw [zf_neg k1]
            by_cases k2 : byt (wd i) (shf (i % 8)) < 32
            · rw [zf_pos k2]; exact no (fun z => z.elim k1 (fun y => y.1 k2)) _ _ _
            · rw [zf_neg k2]
              by_cases k3 : 126 < byt (wd i) (shf (i % 8))
              · rw [zf_pos k3]; exact no (fun z => z.elim k1 (fun y => y.2 k3)) _ _ _
              · rw [zf_neg k3]; exact yes (Or.inr ⟨k2, k3⟩) _ _
        · rw [zf_neg (show ¬ nI (Z i).1 < 1000 from nI_nlt (b := 1000) (by omega) (by omega)), hs, put_neg (fun z => e z.2)]
          exact ⟨g, o8 _ _ _ _ _ _ _ _, ⟨q1, q2, q3⟩, q4, q5⟩
      rw [e_X12_feed_8, zf_pos (show nI i < 24 from nI_lt (b := 24) hi (by omega))]
      by_cases k1 : i < 8
      · rw [zf_pos (show nI i < 8 from nI_lt (b := 8) k1 (by omega))]; exact body a (if_pos k1).symm
      · rw [zf_neg (show ¬ nI i < 8 from nI_nlt (b := 8) (by omega) (by omega))]
        by_cases k2 : i < 16
        · rw [zf_pos (show nI i < 16 from nI_lt (b := 16) k2 (by omega))]; exact body b ((if_neg k1).trans (if_pos k2)).symm
        · rw [zf_neg (show ¬ nI i < 16 from nI_nlt (b := 16) (by omega) (by omega))]; exact body c ((if_neg k1).trans (if_neg k2)).symm)
  have f1 : zL p_X12_feed 8 [some (.inr (.inr (12, 0))), some (.inr (.inl a)), none, some (.inr (.inl b)), none, some (.inr (.inl c)), none, some (.inl 0), none, none, none] [] (zuI g3 12 0 0 0) = zL p_X12_feed 8 [some (.inr (.inr (12, 0))), some (.inr (.inl a)), none, some (.inr (.inl b)), none, some (.inr (.inl c)), none, some (.inl (nI 24)), none, none, none] [] f := f1
  have ff : ∀ K j k, K ≠ 38 → ¬ (K = 12 ∧ k = 1) → ¬ (K = 12 ∧ k = 0) → K ≠ 34 → K ≠ 9 → f.1 K j k = h.1 K j k := fun K j k h1 h2 h3 h4 h5 => by
    rw [f3 K j k h1 h2, zuI_o (by omega)]
    exact gs.1 K j k (fun q => by simp only [List.mem_cons, List.not_mem_nil, or_false, Prod.mk.injEq] at q; omega)
  have fl : f.2 = h.2 := f4.trans gs.2
  have rr : f.1 72 0 = h.1 72 0 := funext (fun k => ff 72 0 k (by omega) (by omega) (by omega) (by omega) (by omega))
  have fC : taC f (Z 24) := ⟨d3.1, by rw [f3 9 0 1 (by omega) (by omega), zuI_o (by omega)]; exact d3.2.1, fun k hk => by rw [f3 34 0 k (by omega) (by omega), zuI_o (by omega)]; exact d3.2.2 k hk⟩
  refine ⟨nI (Z 24).1, g3, f, ?_, ?_, κ, IV.mono (m := m) ⟨I.G, I.K.agr (fun K k hK => ?_), I.M.agr I.G (fun K k hK => ?_), ?_, ?_, by rw [rr]; exact I.R⟩ (Nat.le_succ m), IW.mono (m := m) ⟨i1.agr (fun K k _ => by rw [fl]), i2.agr (fun k => by rw [fl]), ⟨(Z 24).1, fC.1, fC.2.1, f2.2.1, fun k hk => ?_⟩, i4.agr (fun k => ?_) ?_ (fun k => ?_) (fun K j k h1 h2 hK => ?_), i5.agr (fun K k hK => ?_) (fun K k hK => ?_), i6.agr (fun K k hK => ?_) (fun K k hK => ?_), i7.agr ?_ (fun K k hK => ?_) (fun K j k h1 h2 hK => ?_)⟩ (Nat.le_succ m)⟩
  all_goals try (simp only [List.mem_cons, List.not_mem_nil, or_false] at hK; exact ff _ _ _ (by omega) (by omega) (by omega) (by omega) (by omega))
  all_goals try (exact ff _ _ _ (by omega) (by omega) (by omega) (by omega) (by omega))
  · rw [g_X11_feed, a1, zcv_ok, b1, zcv_ok, d1, zcv_ok, d3.2.1]
  · rw [g_X12_feed, f1, e_X12_feed_8, zf_neg (show ¬ nI 24 < 24 by decide), f2.2.1]
  · rw [ff 12 0 54 (by omega) (by omega) (by omega) (by omega) (by omega)]; exact I.D
  · rw [rr]; exact I.S.agr (fun K k hK => by have := mem4 hK; exact ff K 0 k (by omega) (by omega) (by omega) (by omega) (by omega))
  · obtain ⟨v, v1, v2⟩ := hG 24 k hk
    exact ⟨v, v1, (fC.2.2 k hk).trans v2, (f2.2.2 k hk).trans v2⟩
