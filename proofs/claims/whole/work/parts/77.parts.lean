/-! Parts, and so all expressions. -/
noncomputable def ft (T : zTx) (p : Nat) : Nat := zn (kK T p = 1 ∧ 23 ≤ kI T p ∧ kI T p < 27) (kI T p - 22) 0
def cb (T : zTx) (p : Nat) : Prop := kK T p = 2 ∨ sg T p 40 ∨ wd T p 20 ∨ ft T p ≠ 0
theorem ft_le {T : zTx} {p : Nat} : ft T p ≤ 4 := by
  unfold ft
  by_cases e : kK T p = 1 ∧ 23 ≤ kI T p ∧ kI T p < 27
  · rw [zn_pos e]; omega
  · rw [zn_neg e]; omega
theorem ft_k {T : zTx} {p : Nat} (h : ft T p ≠ 0) : kK T p = 1 ∧ 23 ≤ kI T p := by
  unfold ft at h
  by_cases e : kK T p = 1 ∧ 23 ≤ kI T p ∧ kI T p < 27
  · exact ⟨e.1, e.2.1⟩
  · rw [zn_neg e] at h; exact absurd rfl h
theorem neg0 : ∀ f, f < 5 → (-nI f = 0 ↔ f = 0) := by decide +kernel
theorem cl_canPt {T : zTx} {p : Nat} {hc hm : zH} (R : RD T p hc hm) : f_X2_canBeginPart [.inr (.inr (2, 0))] hc = some (some (.inl (zb (cb T p))), hc) := by
  have i40 : f_X10_isSign [.inr (.inr (10, 0)), .inl 40] hc = some (some (.inl (zb (sg T p 40))), hc) := cl_isSign R.xc R.le R.tc (s := 40) (by omega)
  have i20 : f_X10_isWord [.inr (.inr (10, 0)), .inl 20] hc = some (some (.inl (zb (wd T p 20))), hc) := cl_isWord R.tc (i := 20) (by omega)
  have ff : f_X2_factStep [.inr (.inr (2, 0))] hc = some (some (.inl (-nI (ft T p))), hc) := cl_factStep R.tc
  rw [g_X2_canBeginPart, i40, zci_ok, zf_b0, i20, zci_ok, zf_b0, ff, zci_ok, zfc (neg0 _ (by have := ft_le (T := T) (p := p); omega)), zfc (R.tc.kind (k := 2) (by omega) 3 rfl)]
  by_cases a : kK T p = 2
  · rw [zf_pos a, zb_pos (show cb T p from Or.inl a)]
  rw [zf_neg a]
  by_cases b : sg T p 40
  · rw [zf_pos b, zb_pos (show cb T p from Or.inr (Or.inl b))]
  rw [zf_neg b]
  by_cases c : wd T p 20
  · rw [zf_pos c, zb_pos (show cb T p from Or.inr (Or.inr (Or.inl c)))]
  rw [zf_neg c]
  by_cases d : ft T p = 0
  · rw [zf_pos d, zb_neg (show ¬ cb T p from fun z => z.elim a (fun z => z.elim b (fun z => z.elim c (fun z => z d))))]
  · rw [zf_neg d, zb_pos (show cb T p from Or.inr (Or.inr (Or.inr d)))]
/-- the model at a part -/
theorem mR_pt {T : zTx} {d p : Nat} {hc hm : zH} (R : RD T p hc hm) (hd : d < 6) : (¬ cb T p → mR d 1 hm = some (some (.inl 0), zuI hm 12 0 9 (nI (1 + 16 * kB T p)))) ∧ (cb T p → d = 5 → mR d 1 hm = some (some (.inl 0), zuI hm 12 0 9 (nI (5 + 16 * kB T p)))) ∧ (cb T p → d ≠ 5 → (wd T p 20 → mR d 1 hm = zcv (f_X12_puts [.inr (.inr (12, 0)), .inl 30] hm) (fun h1 => zcv (f_X12_nextToken [.inr (.inr (12, 0))] (zuI (zuI h1 52 0 (d + 1) 1) 53 0 (d + 1) 0)) (fun h2 => mR (d + 1) 1 h2))) ∧ (sg T p 40 → mR d 1 hm = zcv (f_X12_puts [.inr (.inr (12, 0)), .inl 28] hm) (fun h1 => zcv (f_X12_nextToken [.inr (.inr (12, 0))] (zuI (zuI h1 52 0 (d + 1) 2) 53 0 (d + 1) 0)) (fun h2 => mR (d + 1) 1 h2))) ∧ (kK T p = 2 → mR d 1 hm = zcv (f_X12_puts [.inr (.inr (12, 0)), .inl (nI (100 + kN T p))] hm) (fun h1 => mP d h1)) ∧ (ft T p ≠ 0 → mR d 1 hm = zcv (f_X12_puts [.inr (.inr (12, 0)), .inl (nI (ft T p))] hm) (fun h1 => mP d h1))) := by
  have fl := ft_le (T := T) (p := p)
  have i40 : f_X12_isSign [.inr (.inr (12, 0)), .inl 40] hm = some (some (.inl (zb (sg T p 40))), hm) := ml_isSign R.xm R.le R.tm (s := 40) (by omega)
  have i20 : f_X12_isWord [.inr (.inr (12, 0)), .inr (.inl 10631)] hm = some (some (.inl (zb (wd T p 20))), hm) := ml_isWord R.le R.tm (i := 20) (by omega) mw_20
  have ff : f_X12_fact [.inr (.inr (12, 0))] hm = some (some (.inl (nI (ft T p))), hm) := ml_fact R.le R.tm
  have z0 : nI (ft T p) = 0 ↔ ft T p = 0 := eqO (b := 0) (by omega) (by omega)
  have top : mR d 1 hm = zf (cb T p) (zL p_X12_reads 65 [some (.inr (.inr (12, 0))), some (.inl (nI d)), some (.inl (nI 1)), some (.inl (nI (ft T p))), some (.inl (zb (wd T p 20))), some (.inl (zb (sg T p 40)))] [] hm) (some (some (.inl 0), zuI hm 12 0 9 (nI (1 + 16 * kB T p)))) := by
    unfold mR
    rw [e_X12_reads_11, zf_neg (show ¬ nI 1 = 0 by decide), ff, zci_ok, i20, zci_ok, i40, zci_ok, ml_fa (x := 1) 1 R.tm rfl, zci_ok, zf_01, zfc z0, zf_b0, zf_b0, zfc (R.tm.kind (k := 2) (by omega) 2 rfl)]
    by_cases a : ft T p = 0
    · rw [zf_pos a]
      by_cases b : wd T p 20
      · rw [zf_pos b, zf_pos (show cb T p from Or.inr (Or.inr (Or.inl b)))]
      rw [zf_neg b]
      by_cases c : sg T p 40
      · rw [zf_pos c, zf_pos (show cb T p from Or.inr (Or.inl c))]
      rw [zf_neg c]
      by_cases e : kK T p = 2
      · rw [zf_pos e, zf_pos (show cb T p from Or.inl e)]
      · rw [zf_neg e, zf_neg (fun z => z.elim e (fun z => z.elim c (fun z => z.elim b (fun z => z a))))]
    · rw [zf_neg a, zf_pos (show cb T p from Or.inr (Or.inr (Or.inr a)))]
  have e120 : ∀ (x : Int32) (h1 : zH), d ≠ 5 → zL p_X12_reads 120 [some (.inr (.inr (12, 0))), some (.inl (nI d + 1)), some (.inl (nI 1)), none, some (.inl (zb (wd T p 20))), none] [.inl x, .inl (nI d + 1), .inr (.inr (52, 0))] h1 = zcv (f_X12_nextToken [.inr (.inr (12, 0))] (zuI (zuI h1 52 0 (d + 1) x) 53 0 (d + 1) 0)) (fun h2 => mR (d + 1) 1 h2) := fun x h1 n => by
    rw [e_X12_reads_120, nI_1, zfx (by omega) (by omega), zfx (by omega) (by omega), nI_clamp (by omega), nar0]; rfl
  have e147 : ∀ (x : Int32), zL p_X12_reads 147 [some (.inr (.inr (12, 0))), some (.inl (nI d)), some (.inl (nI 1)), some (.inl (nI (ft T p))), some (.inl (zb (wd T p 20))), some (.inl (zb (sg T p 40)))] [.inl x, .inr (.inr (12, 0))] hm = zcv (f_X12_puts [.inr (.inr (12, 0)), .inl x] hm) (fun h1 => mP d h1) := fun x => by rw [e_X12_reads_147]; rfl
  have d5 : nI d = 5 ↔ d = 5 := eqO (by omega) (by decide)
  have n1 : kK T p = 2 → ¬ wd T p 20 ∧ ¬ sg T p 40 ∧ ft T p = 0 := fun a => ⟨fun z => by have := z.1; omega, fun z => by have := z.1; omega, Classical.byContradiction (fun z => by have := (ft_k z).1; omega)⟩
  have n2 : ft T p ≠ 0 → ¬ wd T p 20 ∧ ¬ sg T p 40 := fun a => ⟨fun z => by have := (ft_k a).2; have := z.2; omega, fun z => by have := (ft_k a).1; have := z.1; omega⟩
  refine ⟨fun a => by rw [top, zf_neg a], fun a b => ?_, fun a b => ⟨fun c => ?_, fun c => ?_, fun c => ?_, fun c => ?_⟩⟩
  · rw [top, zf_pos a, e_X12_reads_65, zf_pos (d5.mpr b), ml_fa (x := 5) 5 R.tm rfl, zci_ok, zf_01]
  · have w1 := zb_pos c
    rw [top, zf_pos a, e_X12_reads_65, zf_neg (fun z => b (d5.mp z)), zf_b0, zf_pos c, zf_b0, zf_pos c, e_X12_reads_99]
    refine congrArg (zcv _) (funext (fun h1 => ?_))
    rw [zf_b0, zf_pos c, e120 _ _ b]
  · have n3 : ¬ wd T p 20 := fun z => by have := z.1; have := c.1; omega
    rw [top, zf_pos a, e_X12_reads_65, zf_neg (fun z => b (d5.mp z)), zf_b0, zf_neg n3, zf_b0, zf_pos c, zf_b0, zf_neg n3, e_X12_reads_99]
    refine congrArg (zcv _) (funext (fun h1 => ?_))
    rw [zf_b0, zf_neg n3, e120 _ _ b]
  · obtain ⟨m1, m2, m3⟩ := n1 c
    have e100 : (100 : Int32) + nI (kN T p) = nI (100 + kN T p) := nI_add 100 _
    rw [top, zf_pos a, e_X12_reads_65, zf_neg (fun z => b (d5.mp z)), zf_b0, zf_neg m1, zf_b0, zf_neg m2, zf_neg (show ¬ (0 : Int32) < nI (ft T p) by rw [m3]; decide), R.tm.2.2.2.2 c, e100, e147]
  · obtain ⟨m1, m2⟩ := n2 c
    rw [top, zf_pos a, e_X12_reads_65, zf_neg (fun z => b (d5.mp z)), zf_b0, zf_neg m1, zf_b0, zf_neg m2, zf_pos (show (0 : Int32) < nI (ft T p) from (nI_p0 (by omega)).mpr (by omega)), e147]
