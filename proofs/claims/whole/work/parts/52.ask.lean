/-! Sets, ask. -/
theorem ml_isAsSeen {κ : zK} {m n s : Nat} {h g : zH} (I : IV κ m h) (N : SN κ h 0) (hn : h.1 7 0 0 = nI n) (hn2 : h.1 68 0 0 = nI n) (h8 : n ≤ 8) (q : quiet h g) (hs : s < 2 ^ kP κ) (ho : okd κ s) (T : ∀ s n c, s < 2 ^ kP κ → okd κ s → n < 21 → c < kC κ → g.1 78 0 (7 * (21 * s + n) + c) = nI (Tk κ (dryB (nI s)) (h.1 72 0) c (ow (h.1 72 0) c) n)) : f_X12_isAsSeen [.inr (.inr (12, 0)), .inl (nI s)] g = some (some (.inl (zb (sft κ h n s))), g) := by
  have h7 := I.h7
  have h5 := I.h5
  have p32 := two5 h5
  have f : ∀ K k, K ∈ [68, 69, 70, 71] → g.1 K 0 k = h.1 K 0 k := fun K k hK => q.1 K 0 k (by have := mem4 hK; unfold scr; omega)
  rw [g_X12_isAsSeen]
  refine (zloopX (fun i => zL p_X12_isAsSeen 2 [some (.inr (.inr (12, 0))), some (.inl (nI s)), some (.inl (nI i))] [] g) (fun k => ¬ Tk κ (dryB (nI s)) (h.1 72 0) (sCk h k) (ow (h.1 72 0) (sCk h k)) (sWk h k) = sTh h k) (some (some (.inl 0), g)) (some (some (.inl 1), g)) n (fun i hi => ?_) ?_).trans ?_
  · obtain ⟨s1, s2, s3, s4, -, -, -, s8, s9, s10⟩ := N.at h7 hn h8 hi
    have Tw := Tk_le (D := dryB (nI s)) (q := ow (h.1 72 0) (sCk h i)) I.R s1 (sWk h i)
    rw [e_X12_isAsSeen_2, f 68 0 (by decide), hn2, zf_pos (nI_lt hi (by omega)), zfx (by omega) (by omega), zfx (by omega) (by omega), nI_clamp (by omega), f 69 i (by decide), f 70 i (by decide), f 71 i (by decide), s8, s9, s10, tix, zfx (by omega) (by omega), zfx (by omega) (by omega), nI_clamp (by omega), T s _ _ hs ho (by omega) s1, zfc (nI_eq (by omega) (by omega)), nI_1, zf_not]
  · rw [e_X12_isAsSeen_2, f 68 0 (by decide), hn2, zf_neg (nI_nlt' (by omega))]
  · rw [zB01]
    exact zsI ⟨fun z k hk => Classical.byContradiction (fun y => z ⟨k, hk, y⟩), fun z ⟨k, hk, y⟩ => y (z k hk)⟩
theorem md_of (κ : zK) (h5 : kP κ ≤ 5) : ∃ M, isMd κ M := by
  obtain ⟨M, h1, h2⟩ := bits_nat (p := fun q => ¬ kKd κ q = 2) (n := kP κ) (by omega)
  exact ⟨M, h1, h2⟩
/-- the model's sets -/
theorem lm_sets {κ : zK} {m n : Nat} {h : zH} (I : IV κ m h) (N : SN κ h 0) (hn : h.1 7 0 0 = nI n) (hn2 : h.1 68 0 0 = nI n) (h8 : n ≤ 8) (x : Int32) (hx : ¬ x < 0 ∧ ¬ (2 : Int32) < x) : ∃ g all some_, f_X12_sets [.inr (.inr (12, 0)), .inl x] h = some (some (.inl (zi (x = 0) (nI (cnt9 (fitS κ h n) (2 ^ kP κ))) (zi (∃ s, s < 2 ^ kP κ ∧ fitS κ h n s) (zi (x = 1) all some_) zm1))), g) ∧ quiet h g ∧
    ((∃ s, s < 2 ^ kP κ ∧ fitS κ h n s) → ∀ t, t < 32 → (tb all t ↔ ∀ s, s < 2 ^ kP κ → fitS κ h n s → tb (nI s) t)) ∧ (∀ t, t < 32 → (tb some_ t ↔ ∃ s, s < 2 ^ kP κ ∧ fitS κ h n s ∧ tb (nI s) t)) ∧
    ∀ s n c, s < 2 ^ kP κ → okd κ s → n < 21 → c < kC κ → g.1 78 0 (7 * (21 * s + n) + c) = nI (Tk κ (dryB (nI s)) (h.1 72 0) c (ow (h.1 72 0) c) n) := by
  have h5 := I.h5
  have h7 := I.h7
  have p32 := two5 h5
  obtain ⟨M, hM⟩ := md_of κ h5
  have hM1 := hM.1
  have I0 : IV κ m (zuI h 12 0 0 0) := I.quiet quiet.thrown
  obtain ⟨g, a1, a2, a3⟩ := ml_laysThick I0 hM
  rw [hr0] at a3
  have qg : quiet h g := quiet.thrown.trans a2
  have fitM : ∀ s, s < 2 ^ kP κ → fitS κ h n s → s < M + 1 := fun s hs hf => Nat.lt_succ_of_le (hM.le h5 hs hf.1)
  obtain ⟨⟨al, so⟩, e1, e2, e3⟩ := zloopE (fun i (a : Int32 × Int32) => zL p_X12_sets 37 [some (.inr (.inr (12, 0))), some (.inl x), some (.inl (nI M)), some (.inl (nI (cnt9 (fitS κ h n) i))), some (.inl a.1), some (.inl a.2), some (.inl (nI i))] [] g)
    (fun i a => (∀ t, t < 32 → (tb a.1 t ↔ tb (nI M) t ∧ ∀ s, s < i → fitS κ h n s → tb (nI s) t)) ∧ ∀ t, t < 32 → (tb a.2 t ↔ ∃ s, s < i ∧ fitS κ h n s ∧ tb (nI s) t)) (M + 1) (nI M, 0) ⟨fun t ht => ⟨fun z => ⟨z, fun s hs => absurd hs (Nat.not_lt_zero s)⟩, fun z => z.1⟩, fun t ht => ⟨fun z => absurd z (tb_zero ht), fun ⟨s, hs, _⟩ => absurd hs (Nat.not_lt_zero s)⟩⟩ (fun i a hi q => by
      obtain ⟨al, so⟩ := a
      obtain ⟨q1, q2⟩ := q
      dsimp only at q1 q2 ⊢
      rw [e_X12_sets_37, zf_neg (nI_nlt (show i ≤ M by omega) (by omega)), zfc (hM.sub h5 (by omega)), nI_1, nI_1]
      by_cases e : fitS κ h n i
      · rw [zf_pos e.1, ml_isAsSeen I N hn hn2 h8 qg (by omega) e.1 a3, zci_ok, zf_b0, zf_pos e.2]
        have ec : cnt9 (fitS κ h n) (i + 1) = cnt9 (fitS κ h n) i + 1 := by simp only [cnt9]; rw [zite_pos e]
        refine ⟨(al &&& nI i, so ||| nI i), by rw [ec], fun t ht => ?_, fun t ht => ?_⟩
        · show tb (al &&& nI i) t ↔ _
          rw [tb_and ht, q1 t ht]
          constructor
          · rintro ⟨⟨z1, z2⟩, z3⟩
            exact ⟨z1, fun s hs hf => by
              by_cases e2 : s = i
              · subst e2; exact z3
              · exact z2 s (by omega) hf⟩
          · rintro ⟨z1, z2⟩
            exact ⟨⟨z1, fun s hs => z2 s (by omega)⟩, z2 i (by omega) e⟩
        · show tb (so ||| nI i) t ↔ _
          rw [tb_or ht, q2 t ht]
          constructor
          · rintro (⟨s, z1, z2⟩ | z)
            · exact ⟨s, by omega, z2⟩
            · exact ⟨i, by omega, e, z⟩
          · rintro ⟨s, z1, z2, z3⟩
            by_cases e2 : s = i
            · subst e2; exact Or.inr z3
            · exact Or.inl ⟨s, by omega, z2, z3⟩
      · have ec : cnt9 (fitS κ h n) (i + 1) = cnt9 (fitS κ h n) i := by simp only [cnt9]; rw [zite_neg e]; rfl
        refine ⟨(al, so), ?_, fun t ht => ?_, fun t ht => ?_⟩
        · rw [ec]
          by_cases e1 : okd κ i
          · rw [zf_pos e1, ml_isAsSeen I N hn hn2 h8 qg (by omega) e1 a3, zci_ok, zf_b0, zf_neg (fun z => e ⟨e1, z⟩)]
          · rw [zf_neg e1]
        · show tb al t ↔ _
          rw [q1 t ht]
          exact ⟨fun z => ⟨z.1, fun s hs hf => z.2 s (by
            by_cases e2 : s = i
            · subst e2; exact absurd hf e
            · omega) hf⟩, fun z => ⟨z.1, fun s hs => z.2 s (by omega)⟩⟩
        · show tb so t ↔ _
          rw [q2 t ht]
          constructor
          · rintro ⟨s, z1, z2⟩; exact ⟨s, by omega, z2⟩
          · rintro ⟨s, z1, z2, z3⟩
            by_cases e2 : s = i
            · subst e2; exact absurd z2 e
            · exact ⟨s, by omega, z2, z3⟩)
  have e1 : zL p_X12_sets 37 [some (.inr (.inr (12, 0))), some (.inl x), some (.inl (nI M)), some (.inl 0), some (.inl (nI M)), some (.inl 0), some (.inl 0)] [] g = zL p_X12_sets 37 [some (.inr (.inr (12, 0))), some (.inl x), some (.inl (nI M)), some (.inl (nI (cnt9 (fitS κ h n) (M + 1)))), some (.inl al), some (.inl so), some (.inl (nI (M + 1)))] [] g := e1
  have ec : cnt9 (fitS κ h n) (M + 1) = cnt9 (fitS κ h n) (2 ^ kP κ) := (cnt9_len (by omega) (fun c h1 h2 hf => by have := fitM c h2 hf; omega)).symm
  have ecl := cnt9_le (fitS κ h n) (2 ^ kP κ)
  refine ⟨g, al, so, ?_, qg, fun hex t ht => ?_, fun t ht => ?_, a3⟩
  · rw [g_X12_sets, sm_within, zci_ok, zf_b0, zf_pos hx, ml_mayDry I0.M I0.G, zci_ok, hM.2, a1, zcv_ok, e1, e_X12_sets_37, zf_pos (nI_lt (by omega) (by omega)), ec]
    by_cases x0 : x = 0
    · rw [zi_pos x0, zf_pos x0, zf_pos x0, zf_same]
    · rw [zi_neg x0, zf_neg x0, zf_neg x0]
      by_cases ex : ∃ s, s < 2 ^ kP κ ∧ fitS κ h n s
      · have pos : 0 < cnt9 (fitS κ h n) (2 ^ kP κ) := by
          obtain ⟨s, s1, s2⟩ := ex
          have := cnt9_lt (p := fun _ => False) (q := fitS κ h n) (n := 2 ^ kP κ) (fun _ _ z => z.elim) s s1 s2 (fun z => z)
          omega
        rw [zf_neg (nI_ne0 pos (by omega)), zi_pos ex, zfi]
      · rw [zf_pos (show nI (cnt9 (fitS κ h n) (2 ^ kP κ)) = 0 by rw [cnt9_none (fun k hk hf => ex ⟨k, hk, hf⟩)]; rfl), zi_neg ex]
  · obtain ⟨s0, s1, s2⟩ := hex
    rw [e2 t ht]
    constructor
    · rintro ⟨z1, z2⟩ s hs hf; exact z2 s (fitM s hs hf) hf
    · intro z
      refine ⟨?_, fun s hs hf => z s (by omega) hf⟩
      have ht2 := z s0 s1 s2
      rw [← hM.2]
      have hlt := tb_lt s1 ht ht2
      exact (tb_bits (by omega) ht).mpr ⟨hlt, s2.1 t hlt ht2⟩
  · have e3 : tb so t ↔ ∃ s, s < M + 1 ∧ fitS κ h n s ∧ tb (nI s) t := e3 t ht
    rw [e3]
    exact ⟨fun ⟨s, z1, z2⟩ => ⟨s, by omega, z2⟩, fun ⟨s, z1, z2⟩ => ⟨s, fitM s z1 z2.1, z2⟩⟩
theorem zbits_0 {p : Nat → Prop} {n : Nat} (hn : n ≤ 32) : zbits p n = 0 ↔ ¬ ∃ s, s < n ∧ p s := by
  constructor
  · rintro e ⟨s, s1, s2⟩
    have := (tb_bits (p := p) hn (show s < 32 by omega)).mpr ⟨s1, s2⟩
    rw [e] at this
    exact tb_zero (by omega) this
  · intro z
    apply tb_ext
    intro i hi
    rw [tb_bits hn hi]
    exact ⟨fun y => absurd ⟨i, y⟩ z, fun y => absurd y (tb_zero hi)⟩
theorem powB {P t : Nat} (h5 : P ≤ 5) (ht : t < 32) : tb (((1 : Int32) <<< (nI P &&& 31)) - 1) t ↔ t < P := by
  have h1 : 1 ≤ 2 ^ P := Nat.one_le_two_pow
  rw [shl1 P (by omega), show (1 : Int32) = nI 1 from rfl, pk_sub h1, tb_nI ht, Nat.testBit_two_pow_sub_one, decide_eq_true_eq]
theorem q_sets {m : Nat} {h : zH} (I : Inv m h) (x : Int32) : agree f_X11_sets f_X12_sets [.inr (.inr (11, 0)), .inl x] [.inr (.inr (12, 0)), .inl x] m h := by
  obtain ⟨κ, I, J⟩ := I
  have h5 := I.h5
  have p32 := two5 h5
  by_cases hx : ¬ x < 0 ∧ ¬ (2 : Int32) < x
  · have N := J.2.2.2.2.2.1
    have N' := N
    obtain ⟨n, h8, hn, hn2, -⟩ := N'
    obtain ⟨g, e1, e2⟩ := lc_fittingSets I N hn h8
    have Ig := I.quiet e2
    have Jg := J.quiet e2
    have hng : g.1 7 0 0 = nI n := by rw [e2.1 7 0 0 (by unfold scr; omega)]; exact hn
    have hn2g : g.1 68 0 0 = nI n := by rw [e2.1 68 0 0 (by unfold scr; omega)]; exact hn2
    have ef : ∀ s, fitS κ g n s ↔ fitS κ h n s := fun s => by
      unfold fitS sft sCk sWk sTh
      rw [e2.row]
      have f : ∀ K k, K ∈ [69, 70, 71] → g.1 K 0 k = h.1 K 0 k := fun K k hK => e2.1 K 0 k (by simp only [List.mem_cons, List.not_mem_nil, or_false] at hK; unfold scr; omega)
      refine and_congr_right (fun _ => forall_congr' (fun k => ?_))
      rw [f 69 k (by decide), f 70 k (by decide), f 71 k (by decide)]
    have ef : fitS κ g n = fitS κ h n := funext (fun s => propext (ef s))
    obtain ⟨f, al, so, f1, f2, f3, f4, -⟩ := lm_sets Ig Jg.2.2.2.2.2.1 hng hn2g h8 x hx
    rw [ef] at f1 f3 f4
    refine agree.look I J (h1 := g) (h2 := f) ?_ e2 f1 f2
    rw [g_X11_sets, zf_neg hx.1, zf_neg hx.2, e1, zci_ok, sj_bitCount, zci_ok, cnt9_tb p32]
    by_cases x0 : x = 0
    · rw [zf_pos x0, zi_pos x0]
    · rw [zf_neg x0, zi_neg x0, zfc (zbits_0 p32)]
      by_cases ex : ∃ s, s < 2 ^ kP κ ∧ fitS κ h n s
      · rw [zf_neg (fun z => z ex), zi_pos ex, Ig.K.1]
        obtain ⟨⟨a, b⟩, d1, d2, d3⟩ := zloopE (fun i (a : Int32 × Int32) => zL p_X11_sets 49 [some (.inr (.inr (11, 0))), some (.inl x), some (.inl (zbits (fitS κ h n) (2 ^ kP κ))), some (.inl a.1), some (.inl a.2), some (.inl (nI i))] [] g)
          (fun i a => (∀ t, t < 32 → (tb a.1 t ↔ t < kP κ ∧ ∀ s, s < i → fitS κ h n s → tb (nI s) t)) ∧ ∀ t, t < 32 → (tb a.2 t ↔ ∃ s, s < i ∧ fitS κ h n s ∧ tb (nI s) t)) (2 ^ kP κ) (((1 : Int32) <<< (nI (kP κ) &&& 31)) - 1, 0) ⟨fun t ht => ⟨fun z => ⟨(powB h5 ht).mp z, fun s hs => absurd hs (Nat.not_lt_zero s)⟩, fun z => (powB h5 ht).mpr z.1⟩, fun t ht => ⟨fun z => absurd z (tb_zero ht), fun ⟨s, hs, _⟩ => absurd hs (Nat.not_lt_zero s)⟩⟩ (fun i a hi q => by
            obtain ⟨al, so⟩ := a
            obtain ⟨q1, q2⟩ := q
            dsimp only at q1 q2 ⊢
            rw [e_X11_sets_49, Ig.K.1, shl1 _ (by omega), zf_pos (nI_lt hi (by omega)), tb_f, nI_1]
            by_cases e : fitS κ h n i
            · rw [zf_pos ((tb_bits p32 (by omega)).mpr ⟨hi, e⟩)]
              refine ⟨(al &&& nI i, so ||| nI i), rfl, fun t ht => ?_, fun t ht => ?_⟩
              · show tb (al &&& nI i) t ↔ _
                rw [tb_and ht, q1 t ht]
                constructor
                · rintro ⟨⟨z1, z2⟩, z3⟩
                  exact ⟨z1, fun s hs hf => by
                    by_cases e2 : s = i
                    · subst e2; exact z3
                    · exact z2 s (by omega) hf⟩
                · rintro ⟨z1, z2⟩
                  exact ⟨⟨z1, fun s hs => z2 s (by omega)⟩, z2 i (by omega) e⟩
              · show tb (so ||| nI i) t ↔ _
                rw [tb_or ht, q2 t ht]
                constructor
                · rintro (⟨s, z1, z2⟩ | z)
                  · exact ⟨s, by omega, z2⟩
                  · exact ⟨i, by omega, e, z⟩
                · rintro ⟨s, z1, z2, z3⟩
                  by_cases e2 : s = i
                  · subst e2; exact Or.inr z3
                  · exact Or.inl ⟨s, by omega, z2, z3⟩
            · rw [zf_neg (fun z => e ((tb_bits p32 (by omega)).mp z).2)]
              refine ⟨(al, so), rfl, fun t ht => ?_, fun t ht => ?_⟩
              · show tb al t ↔ _
                rw [q1 t ht]
                exact ⟨fun z => ⟨z.1, fun s hs hf => z.2 s (by
                  by_cases e2 : s = i
                  · subst e2; exact absurd hf e
                  · omega) hf⟩, fun z => ⟨z.1, fun s hs => z.2 s (by omega)⟩⟩
              · show tb so t ↔ _
                rw [q2 t ht]
                constructor
                · rintro ⟨s, z1, z2⟩; exact ⟨s, by omega, z2⟩
                · rintro ⟨s, z1, z2, z3⟩
                  by_cases e2 : s = i
                  · subst e2; exact absurd z2 e
                  · exact ⟨s, by omega, z2, z3⟩)
        have d1 : zL p_X11_sets 49 [some (.inr (.inr (11, 0))), some (.inl x), some (.inl (zbits (fitS κ h n) (2 ^ kP κ))), some (.inl (((1 : Int32) <<< (nI (kP κ) &&& 31)) - 1)), some (.inl 0), some (.inl 0)] [] g = zL p_X11_sets 49 [some (.inr (.inr (11, 0))), some (.inl x), some (.inl (zbits (fitS κ h n) (2 ^ kP κ))), some (.inl a), some (.inl b), some (.inl (nI (2 ^ kP κ)))] [] g := d1
        have ea : a = al := tb_ext (fun t ht => by
          have d2 : tb a t ↔ t < kP κ ∧ ∀ s, s < 2 ^ kP κ → fitS κ h n s → tb (nI s) t := d2 t ht
          rw [d2, f3 ex t ht]
          obtain ⟨s0, s1, s2⟩ := ex
          exact ⟨fun z => z.2, fun z => ⟨tb_lt s1 ht (z s0 s1 s2), z⟩⟩)
        have eb : b = so := tb_ext (fun t ht => by
          have d3 : tb b t ↔ ∃ s, s < 2 ^ kP κ ∧ fitS κ h n s ∧ tb (nI s) t := d3 t ht
          rw [d3, f4 t ht])
        rw [d1, e_X11_sets_49, Ig.K.1, shl1 _ (by omega), zf_neg (nI_nlt' (by omega)), zfi, ea, eb]
      · rw [zf_pos ex, zi_neg ex]
  · refine agree.look I J (v := zm1) (h1 := h) (h2 := zuI h 12 0 0 0) ?_ quiet.rf ?_ quiet.thrown
    · rw [g_X11_sets]
      by_cases e : x < 0
      · rw [zf_pos e]
      · rw [zf_neg e, zf_pos (Classical.byContradiction (fun z => hx ⟨e, z⟩))]
    · rw [g_X12_sets, sm_within, zci_ok, zf_b0, zf_neg hx]
