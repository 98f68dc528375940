/-! Calls that only look: whom to give, what to press, pacts, blocs, counts. -/
theorem Tk_congr {κ : zK} {D : Nat → Prop} {r r' : zRo} {c q : Nat} (h3 : r' (3 + c) = r (3 + c)) (h2 : r' 2 = r 2) (h17 : r' (17 + c) = r (17 + c)) : ∀ n, Tk κ D r' c q n = Tk κ D r c q n
  | 0 => by show (r' (3 + c)).toNatClampNeg = _; rw [h3]; rfl
  | n + 1 => by simp only [Tk]; rw [Tk_congr h3 h2 h17 n, h2, h17]
theorem wk9_congr {κ : zK} {r r' : zRo} {c q lv : Nat} (h3 : r' (3 + c) = r (3 + c)) (h2 : r' 2 = r 2) (h17 : r' (17 + c) = r (17 + c)) : wk9 κ r' c q lv = wk9 κ r c q lv := by
  unfold wk9
  exact fst9_congr (fun i _ => by rw [Tk_congr h3 h2 h17])
/-- a row with cake c given to p -/
def gvR (r : zRo) (c : Nat) (v : Int32) : zRo := fun k => if k = 10 + c then v else r k
theorem gvR_gR {κ : zK} {m c p : Nat} {r : zRo} (R : gR κ m r) (hp : p < kP κ) (h7 : kC κ ≤ 7) (hc : c < kC κ) : gR κ m (gvR r c (nI p)) := by
  refine ⟨fun d hd => ?_, fun d h1 h2 => by unfold gvR; rw [if_neg (by omega)]; exact R.2 d h1 h2⟩
  obtain ⟨a, b, e⟩ := R.1 d hd
  unfold gvR
  refine ⟨?_, by rw [if_neg (by omega)]; exact b, by rw [if_neg (by omega)]; exact e⟩
  by_cases q : d = c
  · rw [if_pos (by omega)]; exact ⟨p, hp, rfl⟩
  · rw [if_neg (by omega)]; exact a
theorem zuI_row {h : zH} {K k : Nat} {v : Int32} : (zuI h K 0 k v).1 K 0 = fun k' => if k' = k then v else h.1 K 0 k' := funext (fun k' => by
  by_cases e : k' = k
  · rw [e, zuI_at, if_pos rfl]
  · rw [zuI_ne e, if_neg e])
theorem q_best {m : Nat} {h : zH} (I : Inv m h) (x : Int32) : agree f_X11_best f_X12_best [.inr (.inr (11, 0)), .inl x] [.inr (.inr (12, 0)), .inl x] m h := by
  obtain ⟨κ, I, J⟩ := I
  have h5 := I.h5
  have h7 := I.h7
  by_cases hx : isC κ x
  · obtain ⟨c, hc, rfl⟩ := hx.have h7
    by_cases ht : 0 < h.1 72 0 (3 + c)
    · let T : Nat → Nat := fun p => wk9 κ (h.1 72 0) c p 0
      let nx : Nat → Nat × Int32 → Nat × Int32 := fun i s => if T i < s.1 then (T i, nI i) else s
      have hT : ∀ c, T c ≤ 100 := fun c => wk9_le
      have step : ∀ i (s : Nat × Int32), s.1 ≤ 100 → (nx i s).1 ≤ 100 := fun i s hs => by
        show (if T i < s.1 then (T i, nI i) else s).1 ≤ 100
        split
        · exact hT i
        · exact hs
      have o35 : ∀ a b c d o5 (g : zH), zL p_X11_best 35 [some (.inr (.inr (11, 0))), some (.inl a), some (.inl b), some (.inl c), some (.inl d), o5] [] g = zL p_X11_best 35 [some (.inr (.inr (11, 0))), some (.inl a), some (.inl b), some (.inl c), some (.inl d), none] [] g := fun a b c d o5 g => (e_X11_best_35 _ _ _ _ _ _).trans (e_X11_best_35 _ _ _ _ _ _).symm
      have o42 : ∀ a b c d e o6 (g : zH), zL p_X12_best 42 [some (.inr (.inr (12, 0))), some (.inl a), some (.inl b), some (.inl c), some (.inl d), some (.inl e), o6] [] g = zL p_X12_best 42 [some (.inr (.inr (12, 0))), some (.inl a), some (.inl b), some (.inl c), some (.inl d), some (.inl e), none] [] g := fun a b c d e o6 g => (e_X12_best_42 _ _ _ _ _ _ _).trans (e_X12_best_42 _ _ _ _ _ _ _).symm
      obtain ⟨⟨s, g⟩, e1, e2, e3, e4⟩ := zloopE (fun i (a : (Nat × Int32) × zH) => zL p_X11_best 35 [some (.inr (.inr (11, 0))), some (.inl (nI c)), some (.inl (nI a.1.1)), some (.inl a.1.2), some (.inl (nI i)), none] [] a.2)
        (fun i a => a.1 = zit nx (100, zm1) i ∧ quiet h a.2 ∧ a.1.1 ≤ 100) (kP κ) ((100, zm1), h) ⟨rfl, quiet.rf, Nat.le_refl _⟩ (fun i a hi q => by
          obtain ⟨⟨L, ch⟩, g⟩ := a
          obtain ⟨q1, q2, q3⟩ := q
          dsimp only at q1 q2 q3 ⊢
          have Ig := I.quiet q2
          have nz : zit nx (100, zm1) (i + 1) = nx i (L, ch) := by rw [q1]; rfl
          obtain ⟨f, f1, f2⟩ := lc_weeksTo (lv := 0) Ig hc hi (by omega)
          rw [nI_0, q2.row] at f1
          have hTi := hT i
          rw [e_X11_best_35, Ig.K.1, zf_pos (nI_lt hi (by omega)), f1, zci_ok, nI_1, show wk9 κ (h.1 72 0) c i 0 = T i from rfl]
          refine ⟨((nx i (L, ch)), f), ?_, nz.symm, q2.trans f2, step i _ q3⟩
          show _ = zL p_X11_best 35 [some (.inr (.inr (11, 0))), some (.inl (nI c)), some (.inl (nI (nx i (L, ch)).1)), some (.inl (nx i (L, ch)).2), some (.inl (nI (i + 1))), none] [] f
          by_cases e : T i = 100
          · rw [zf_pos ((wans_m1 hTi).mpr e), o35, show nx i (L, ch) = (L, ch) from if_neg (by show ¬ T i < L; have : L ≤ 100 := q3; omega)]
          · rw [zf_neg (fun z => e ((wans_m1 hTi).mp z)), show wans (T i) = nI (T i) from if_neg e, zfc (nI_ltI (by omega) (by omega))]
            by_cases e2 : T i < L
            · rw [zf_pos e2, o35, show nx i (L, ch) = (T i, nI i) from if_pos e2]
            · rw [zf_neg e2, o35, show nx i (L, ch) = (L, ch) from if_neg e2])
      have I1 : IV κ m (zuI g 12 0 0 0) := (I.quiet e3).quiet quiet.thrown
      have r1 : (zuI g 12 0 0 0).1 72 0 = h.1 72 0 := by rw [hr0]; exact e3.row
      have q01 : quiet g (zuI g 12 0 0 0) := quiet.thrown
      have el := g_X12_best (nI c) g
      have E1 := e1
      have lkc := lk_isCake I1 (nI c)
      have lkt := sm_isThere (c := c) (by omega) (zuI g 12 0 0 0)
      generalize zuI g 12 0 0 0 = g1 at I1 r1 q01 el lkc lkt
      have gv : ∀ (f : zH) (v : Int32), (∀ k, k ≠ 10 + c → f.1 72 0 k = h.1 72 0 k) → (zuI f 72 0 (10 + c) v).1 72 0 = gvR (h.1 72 0) c v := fun f v hf => by
        rw [zuI_row]
        funext k
        unfold gvR
        by_cases e : k = 10 + c
        · rw [if_pos e, if_pos e]
        · rw [if_neg e, if_neg e, hf k e]
      obtain ⟨⟨s', g'⟩, f1, f2, f3, f4, f5⟩ := zloopE (fun i (a : (Nat × Int32) × zH) => zL p_X12_best 42 [some (.inr (.inr (12, 0))), some (.inl (nI c)), some (.inl (h.1 72 0 (10 + c))), some (.inl a.1.2), some (.inl (nI a.1.1)), some (.inl (nI i)), none] [] a.2)
        (fun i a => a.1 = zit nx (100, zm1) i ∧ zsame (Wb ++ [(72, 0)]) g1 a.2 ∧ a.1.1 ≤ 100 ∧ ∀ k, k ≠ 10 + c → a.2.1 72 0 k = h.1 72 0 k) (kP κ) ((100, zm1), g1) ⟨rfl, zsame.rf, Nat.le_refl _, fun k _ => by rw [r1]⟩ (fun i a hi q => by
          obtain ⟨⟨L, ch⟩, g2⟩ := a
          obtain ⟨q1, q2, q3, q4⟩ := q
          dsimp only at q1 q2 q3 q4 ⊢
          have nz : zit nx (100, zm1) (i + 1) = nx i (L, ch) := by rw [q1]; rfl
          have q5 : zsame (Wb ++ [(72, 0)]) g1 (zuI g2 72 0 (10 + c) (nI i)) := q2.set (by simp)
          have rg := gv g2 (nI i) q4
          have Mg : mK κ (zuI g2 72 0 (10 + c) (nI i)) := I1.M.same I1.G q5.1 (by decide)
          have Rg : gR κ m ((zuI g2 72 0 (10 + c) (nI i)).1 72 0) := by rw [rg]; exact gvR_gR I.R hi h7 hc
          have Dg : (zuI g2 72 0 (10 + c) (nI i)).1 12 0 54 = 0 := by rw [q5.1 12 0 54 (by decide)]; exact I1.D
          obtain ⟨f, f1, f2⟩ := ml_wornTo (lv := 0) Mg I1.G Rg Dg hc (by omega)
          have eo : ow (gvR (h.1 72 0) c (nI i)) c = i := by unfold ow gvR; rw [if_pos rfl, nI_clamp (by omega)]
          have ew : fst9 100 (fun n => Tk κ nD (gvR (h.1 72 0) c (nI i)) c i n ≤ 0) = T i := wk9_congr (by unfold gvR; rw [if_neg (by omega)]) (by unfold gvR; rw [if_neg (by omega)]) (by unfold gvR; rw [if_neg (by omega)])
          rw [rg, eo, ew, nI_0] at f1
          have Mg2 : mK κ g2 := I1.M.same I1.G q2.1 (by decide)
          have hTi := hT i
          rw [e_X12_best_42, Mg2.1, zf_pos (nI_lt hi (by omega)), z10, zfx (by omega) (by omega), nI_clamp (by omega), f1, zci_ok, nI_1, zfc (nI_ltI (by omega) (by omega))]
          refine ⟨((nx i (L, ch)), f), ?_, nz.symm, q5.trans (f2.mono (by simp)), step i _ q3, fun k hk => ?_⟩
          · show _ = zL p_X12_best 42 [some (.inr (.inr (12, 0))), some (.inl (nI c)), some (.inl (h.1 72 0 (10 + c))), some (.inl (nx i (L, ch)).2), some (.inl (nI (nx i (L, ch)).1)), some (.inl (nI (i + 1))), none] [] f
            by_cases e2 : T i < L
            · rw [zf_pos e2, o42, show nx i (L, ch) = (T i, nI i) from if_pos e2]
            · rw [zf_neg e2, o42, show nx i (L, ch) = (L, ch) from if_neg e2]
          · show f.1 72 0 k = _
            rw [f2.1 72 0 k (by decide), zuI_ne hk]; exact q4 k hk)
      have e1 : zL p_X11_best 35 [some (.inr (.inr (11, 0))), some (.inl (nI c)), some (.inl 100), some (.inl zm1), some (.inl 0), none] [] h = zL p_X11_best 35 [some (.inr (.inr (11, 0))), some (.inl (nI c)), some (.inl (nI s.1)), some (.inl s.2), some (.inl (nI (kP κ))), none] [] g := e1
      have f1 : zL p_X12_best 42 [some (.inr (.inr (12, 0))), some (.inl (nI c)), some (.inl (h.1 72 0 (10 + c))), some (.inl zm1), some (.inl 100), some (.inl 0), none] [] g1 = zL p_X12_best 42 [some (.inr (.inr (12, 0))), some (.inl (nI c)), some (.inl (h.1 72 0 (10 + c))), some (.inl s'.2), some (.inl (nI s'.1)), some (.inl (nI (kP κ))), none] [] g' := f1
      have e2 : s = zit nx (100, zm1) (kP κ) := e2
      have f2 : s' = zit nx (100, zm1) (kP κ) := f2
      have f3 : zsame (Wb ++ [(72, 0)]) g1 g' := f3
      have f5 : ∀ k, k ≠ 10 + c → g'.1 72 0 k = h.1 72 0 k := f5
      have fq : zsame Wb g1 (zuI g' 72 0 (10 + c) (h.1 72 0 (10 + c))) := zsame.drop (f3.set (by simp)) (by
        rw [gv g' _ f5, r1]
        funext k
        unfold gvR
        by_cases e : k = 10 + c
        · rw [if_pos e, e]
        · rw [if_neg e])
      have Mg2 : mK κ g' := I1.M.same I1.G f3.1 (by decide)
      refine agree.look I J (v := (zit nx (100, zm1) (kP κ)).2) (h1 := g) (h2 := zuI g' 72 0 (10 + c) (h.1 72 0 (10 + c))) ?_ e3 ?_ (q01.trans (qWb fq))
      · rw [g_X11_best, cl_hasCake I.K, zci_ok, zf_b0, zf_pos hx, cl_isThere I.K I.S hc, zci_ok, zf_b0, zf_pos ht, e1, e_X11_best_35, (I.quiet e3).K.1, zf_neg (nI_nlt' (by omega)), e2]
      · rw [el, lkc, zci_ok, zf_b0, zf_pos hx, lkt, zci_ok, zf_b0, r1, zf_pos ht, z10, zfx (by omega) (by omega), nI_clamp (by omega), f1, e_X12_best_42, Mg2.1, zf_neg (nI_nlt' (by omega)), z10, zfx (by omega) (by omega), nI_clamp (by omega), f2]
    · refine agree.look I J (v := zm1) (h1 := h) (h2 := zuI h 12 0 0 0) ?_ quiet.rf ?_ quiet.thrown
      · rw [g_X11_best, cl_hasCake I.K, zci_ok, zf_b0, zf_pos hx, cl_isThere I.K I.S hc, zci_ok, zf_b0, zf_neg ht]
      · rw [g_X12_best, lk_isCake (I.quiet quiet.thrown), zci_ok, zf_b0, zf_pos hx, sm_isThere (by omega), zci_ok, zf_b0, hr0, zf_neg ht]
  · refine agree.look I J (v := zm1) (h1 := h) (h2 := zuI h 12 0 0 0) ?_ quiet.rf ?_ quiet.thrown
    · rw [g_X11_best, cl_hasCake I.K, zci_ok, zf_b0, zf_neg hx]
    · rw [g_X12_best, lk_isCake (I.quiet quiet.thrown), zci_ok, zf_b0, zf_neg hx]
