/-! The model's tokens. -/
/-- nothing but these of the model's fields is changed -/
def tmS (h g : zH) : Prop := (∀ K j k, ¬ (K = 12 ∧ j = 0 ∧ (k = 4 ∨ k = 5 ∨ k = 6 ∨ k = 8)) → g.1 K j k = h.1 K j k) ∧ ∀ K j k, ¬ (K = 12 ∧ j = 0 ∧ k = 7) → g.2 K j k = h.2 K j k
theorem tmS.rf {h : zH} : tmS h h := ⟨fun _ _ _ _ => rfl, fun _ _ _ _ => rfl⟩
theorem tmS.trans {h g f : zH} (a : tmS h g) (b : tmS g f) : tmS h f := ⟨fun K j k n => (b.1 K j k n).trans (a.1 K j k n), fun K j k n => (b.2 K j k n).trans (a.2 K j k n)⟩
theorem tmS.set {h g : zH} {k : Nat} {v : Int32} (hk : k = 4 ∨ k = 5 ∨ k = 6 ∨ k = 8) (a : tmS h g) : tmS h (zuI g 12 0 k v) := ⟨fun K j k n => by rw [zuI_o (by omega)]; exact a.1 K j k n, a.2⟩
theorem tmS.setJ {h g : zH} {v : Int64} (a : tmS h g) : tmS h (zuJ g 12 0 7 v) := ⟨a.1, fun K j k n => by rw [zuJ_o n]; exact a.2 K j k n⟩
theorem tmS.tx {T : zTx} {h g : zH} (a : tmS h g) (X : txM T h) : txM T g := ⟨X.1, by rw [a.1 12 0 3 (by omega)]; exact X.2.1, fun k hk => by rw [a.1 38 0 k (by omega)]; exact X.2.2 k hk⟩
theorem txM.lt {T : zTx} {h : zH} (X : txM T h) {k : Nat} (hk : k < T.1) : T.2 k < 127 := okS_lt (X.1.2 k hk)
theorem sm_signAt {T : zTx} {h : zH} {k : Nat} (X : txM T h) (hk : k ≤ 1000) : f_X12_signAt [.inr (.inr (12, 0)), .inl (nI k)] h = some (some (.inl (nI (zn (k < T.1) (T.2 k) 0))), h) := by
  have t1 := X.1.1
  rw [g_X12_signAt, X.2.1, zfc (nI_ltI (by omega) (by omega))]
  by_cases e : k < T.1
  · rw [zf_pos e, zfx (by omega) (by omega), nI_clamp (by omega), X.2.2 k e, zn_pos e]
  · rw [zf_neg e, zn_neg e]; rfl
/-- the model stands at the token from p on -/
def TM (T : zTx) (p : Nat) (h : zH) : Prop := h.1 12 0 4 = nI (kE T p) ∧ h.1 12 0 5 = nI (kB T p) ∧ h.1 12 0 6 = nI (kK T p) ∧ (kK T p = 1 → h.2 12 0 7 = lN (enc 27 (kW T p))) ∧ (kK T p = 2 → h.1 12 0 8 = nI (kN T p))
theorem lt_iff {s : Nat} (hs : s < 127) : isLt s ↔ ¬ nI s < 97 ∧ ¬ (122 : Int32) < nI s := by
  unfold isLt
  rw [ltO (by omega) (by decide), Olt (by omega) (by decide)]
  exact ⟨fun z => ⟨Nat.not_lt.mpr z.1, Nat.not_lt.mpr z.2⟩, fun z => ⟨Nat.not_lt.mp z.1, Nat.not_lt.mp z.2⟩⟩
theorem dg_iff {s : Nat} (hs : s < 127) : isDg s ↔ ¬ nI s < 48 ∧ ¬ (57 : Int32) < nI s := by
  unfold isDg
  rw [ltO (by omega) (by decide), Olt (by omega) (by decide)]
  exact ⟨fun z => ⟨Nat.not_lt.mpr z.1, Nat.not_lt.mpr z.2⟩, fun z => ⟨Nat.not_lt.mp z.1, Nat.not_lt.mp z.2⟩⟩
theorem ml_word {T : zTx} {b : Nat} {h : zH} (X : txM T h) (hb : b < T.1) (h4 : h.1 12 0 4 = nI b) (h5 : h.1 12 0 5 = nI b) (hw : h.2 12 0 7 = 0) : ∃ g, (∀ o1, zL p_X12_nextToken 109 [some (.inr (.inr (12, 0))), o1] [] h = some (none, g)) ∧ tmS h g ∧ g.1 12 0 4 = nI (runE T isLt b) ∧ g.1 12 0 5 = nI b ∧ g.1 12 0 6 = (if 8 < runE T isLt b - b then 4 else 1) ∧ (runE T isLt b - b ≤ 8 → g.2 12 0 7 = lN (enc 27 (wl T b (runE T isLt b - b)))) := by
  have t1 := X.1.1
  have ge := runE_ge (T := T) (p := isLt) (a := b)
  have le := runE_le (T := T) (p := isLt) (a := b) (by omega)
  have o109 : ∀ o1 (g : zH), zL p_X12_nextToken 109 [some (.inr (.inr (12, 0))), o1] [] g = zL p_X12_nextToken 109 [some (.inr (.inr (12, 0))), none] [] g := fun o1 g => (e_X12_nextToken_109 _ _).trans (e_X12_nextToken_109 _ _).symm
  obtain ⟨g, e1, e2, e3, e4, e6⟩ := zloopE (fun i (g : zH) => zL p_X12_nextToken 109 [some (.inr (.inr (12, 0))), none] [] g)
    (fun i g => tmS h g ∧ g.1 12 0 4 = nI (b + i) ∧ g.1 12 0 5 = nI b ∧ g.2 12 0 7 = lN (enc 27 (wl T b (min i 8)))) (runE T isLt b - b) h ⟨tmS.rf, h4, h5, by rw [hw]; rfl⟩ (fun i g hi q => by
      obtain ⟨q1, q2, q3, q5⟩ := q
      have Xg := q1.tx X
      have lt : b + i < T.1 := by omega
      have s127 := X.lt lt
      have il := runE_in (T := T) (p := isLt) (a := b) (k := b + i) (by omega) (by omega)
      have il2 := il
      unfold isLt at il2
      obtain ⟨il3, il4⟩ := (lt_iff s127).mp il
      rw [e_X12_nextToken_109, q2, sm_signAt Xg (by omega), zci_ok, zn_pos lt, zf_neg il3, q2, sm_signAt Xg (by omega), zci_ok, zn_pos lt, zf_neg il4, q2, q3, pk_sub (by omega), sm_signAt Xg (by omega), zci_ok, zn_pos lt, q2, q5, nI_1, show b + i - b = i by omega, nI_l (by omega), show (27 : Int64) = lN 27 from rfl, lN_mul, lN_add, show (96 : Int64) = lN 96 from rfl, lN_sub (by omega)]
      by_cases e : i < 8
      · rw [zf_pos (show nI i < 8 from nI_lt (b := 8) e (by omega))]
        refine ⟨_, rfl, (q1.setJ).set (by omega), zuI_at, by rw [zuI_o (by omega)]; exact q3, ?_⟩
        rw [zuI_2, zuJ_at, show min (i + 1) 8 = i + 1 by omega, show min i 8 = i by omega, wl_s, enc_s, show enc 27 (wl T b i) * 27 + T.2 (b + i) - 96 = enc 27 (wl T b i) * 27 + (T.2 (b + i) - 96) by omega]
      · rw [zf_neg (show ¬ nI i < 8 from nI_nlt (b := 8) (by omega) (by omega))]
        exact ⟨_, rfl, q1.set (by omega), zuI_at, by rw [zuI_o (by omega)]; exact q3, by rw [zuI_2, show min (i + 1) 8 = min i 8 by omega]; exact q5⟩)
  have e1 : zL p_X12_nextToken 109 [some (.inr (.inr (12, 0))), none] [] h = zL p_X12_nextToken 109 [some (.inr (.inr (12, 0))), none] [] g := e1
  rw [show b + (runE T isLt b - b) = runE T isLt b by omega] at e3
  have Xg := e2.tx X
  have out : zL p_X12_nextToken 109 [some (.inr (.inr (12, 0))), none] [] g = zL p_X12_nextToken 188 [some (.inr (.inr (12, 0))), none] [] g := by
    rw [e_X12_nextToken_109, e3, sm_signAt Xg (by omega), zci_ok]
    by_cases e : runE T isLt b < T.1
    · have ro : ¬ isLt (T.2 (runE T isLt b)) := runE_out e
      have s127 := X.lt e
      rw [zn_pos e]
      by_cases a1 : nI (T.2 (runE T isLt b)) < 97
      · rw [zf_pos a1]
      · rw [zf_neg a1, e3, sm_signAt Xg (by omega), zci_ok, zn_pos e, zf_pos (Classical.byContradiction (fun z => ro ((lt_iff s127).mpr ⟨a1, z⟩)))]
    · rw [zn_neg e, zf_pos (show nI 0 < 97 by decide)]
  have sub : nI (runE T isLt b) - nI b = nI (runE T isLt b - b) := pk_sub ge
  have key : ∃ g9, zL p_X12_nextToken 188 [some (.inr (.inr (12, 0))), none] [] g = some (none, g9) ∧ g9 = zuI g 12 0 6 (if 8 < runE T isLt b - b then 4 else 1) := by
    rw [e_X12_nextToken_188, e3, e4, sub]
    by_cases e : 8 < runE T isLt b - b
    · rw [zf_pos (show 8 < nI (runE T isLt b - b) from (Olt (by omega) (by decide)).mpr e), if_pos e]; exact ⟨_, rfl, rfl⟩
    · rw [zf_neg (show ¬ 8 < nI (runE T isLt b - b) from fun z => e ((Olt (by omega) (by decide)).mp z)), if_neg e]; exact ⟨_, rfl, rfl⟩
  obtain ⟨g9, k1, k2⟩ := key
  refine ⟨g9, fun o1 => by rw [o109, e1, out, k1], by rw [k2]; exact e2.set (by omega), by rw [k2, zuI_o (by omega)]; exact e3, by rw [k2, zuI_o (by omega)]; exact e4, by rw [k2, zuI_at], fun l8 => ?_⟩
  rw [k2, zuI_2, e6, show min (runE T isLt b - b) 8 = runE T isLt b - b by omega]
theorem ml_num {T : zTx} {b : Nat} {h : zH} (X : txM T h) (hb : b < T.1) (h4 : h.1 12 0 4 = nI b) (h5 : h.1 12 0 5 = nI b) (hw : h.1 12 0 8 = 0) : ∃ g, (∀ o1, zL p_X12_nextToken 224 [some (.inr (.inr (12, 0))), o1] [] h = some (none, g)) ∧ tmS h g ∧ g.1 12 0 4 = nI (runE T isDg b) ∧ g.1 12 0 5 = nI b ∧ g.1 12 0 6 = (if 4 < runE T isDg b - b then 4 else 2) ∧ (runE T isDg b - b ≤ 4 → g.1 12 0 8 = nI (nl T b (runE T isDg b - b))) := by
  have t1 := X.1.1
  have ge := runE_ge (T := T) (p := isDg) (a := b)
  have le := runE_le (T := T) (p := isDg) (a := b) (by omega)
  have o109 : ∀ o1 (g : zH), zL p_X12_nextToken 224 [some (.inr (.inr (12, 0))), o1] [] g = zL p_X12_nextToken 224 [some (.inr (.inr (12, 0))), none] [] g := fun o1 g => (e_X12_nextToken_224 _ _).trans (e_X12_nextToken_224 _ _).symm
  obtain ⟨g, e1, e2, e3, e4, e6⟩ := zloopE (fun i (g : zH) => zL p_X12_nextToken 224 [some (.inr (.inr (12, 0))), none] [] g)
    (fun i g => tmS h g ∧ g.1 12 0 4 = nI (b + i) ∧ g.1 12 0 5 = nI b ∧ g.1 12 0 8 = nI (nl T b (min i 4))) (runE T isDg b - b) h ⟨tmS.rf, h4, h5, by rw [hw]; rfl⟩ (fun i g hi q => by
      obtain ⟨q1, q2, q3, q5⟩ := q
      have Xg := q1.tx X
      have lt : b + i < T.1 := by omega
      have s127 := X.lt lt
      have il := runE_in (T := T) (p := isDg) (a := b) (k := b + i) (by omega) (by omega)
      have il2 := il
      unfold isDg at il2
      obtain ⟨il3, il4⟩ := (dg_iff s127).mp il
      rw [e_X12_nextToken_224, q2, sm_signAt Xg (by omega), zci_ok, zn_pos lt, zf_neg il3, q2, sm_signAt Xg (by omega), zci_ok, zn_pos lt, zf_neg il4, q2, q3, pk_sub (by omega), sm_signAt Xg (by omega), zci_ok, zn_pos lt, q2, q5, nI_1, show b + i - b = i by omega, show (10 : Int32) = nI 10 from rfl, pk_mul, nI_add, show (48 : Int32) = nI 48 from rfl, pk_sub (by omega)]
      by_cases e : i < 4
      · rw [zf_pos (show nI i < 4 from nI_lt (b := 4) e (by omega))]
        refine ⟨_, rfl, (q1.set (by omega)).set (by omega), zuI_at, by rw [zuI_o (by omega), zuI_o (by omega)]; exact q3, ?_⟩
        rw [zuI_o (by omega), zuI_at, show min (i + 1) 4 = i + 1 by omega, show min i 4 = i by omega]
        show _ = nI (nl T b i * 10 + (T.2 (b + i) - 48))
        rw [show nl T b i * 10 + T.2 (b + i) - 48 = nl T b i * 10 + (T.2 (b + i) - 48) by omega]
      · rw [zf_neg (show ¬ nI i < 4 from nI_nlt (b := 4) (by omega) (by omega))]
        exact ⟨_, rfl, q1.set (by omega), zuI_at, by rw [zuI_o (by omega)]; exact q3, by rw [zuI_o (by omega), show min (i + 1) 4 = min i 4 by omega]; exact q5⟩)
  have e1 : zL p_X12_nextToken 224 [some (.inr (.inr (12, 0))), none] [] h = zL p_X12_nextToken 224 [some (.inr (.inr (12, 0))), none] [] g := e1
  rw [show b + (runE T isDg b - b) = runE T isDg b by omega] at e3
  have Xg := e2.tx X
  have out : zL p_X12_nextToken 224 [some (.inr (.inr (12, 0))), none] [] g = zL p_X12_nextToken 299 [some (.inr (.inr (12, 0))), none] [] g := by
    rw [e_X12_nextToken_224, e3, sm_signAt Xg (by omega), zci_ok]
    by_cases e : runE T isDg b < T.1
    · have ro : ¬ isDg (T.2 (runE T isDg b)) := runE_out e
      have s127 := X.lt e
      rw [zn_pos e]
      by_cases a1 : nI (T.2 (runE T isDg b)) < 48
      · rw [zf_pos a1]
      · rw [zf_neg a1, e3, sm_signAt Xg (by omega), zci_ok, zn_pos e, zf_pos (Classical.byContradiction (fun z => ro ((dg_iff s127).mpr ⟨a1, z⟩)))]
    · rw [zn_neg e, zf_pos (show nI 0 < 48 by decide)]
  have sub : nI (runE T isDg b) - nI b = nI (runE T isDg b - b) := pk_sub ge
  have key : ∃ g9, zL p_X12_nextToken 299 [some (.inr (.inr (12, 0))), none] [] g = some (none, g9) ∧ g9 = zuI g 12 0 6 (if 4 < runE T isDg b - b then 4 else 2) := by
    rw [e_X12_nextToken_299, e3, e4, sub]
    by_cases e : 4 < runE T isDg b - b
    · rw [zf_pos (show 4 < nI (runE T isDg b - b) from (Olt (by omega) (by decide)).mpr e), if_pos e]; exact ⟨_, rfl, rfl⟩
    · rw [zf_neg (show ¬ 4 < nI (runE T isDg b - b) from fun z => e ((Olt (by omega) (by decide)).mp z)), if_neg e]; exact ⟨_, rfl, rfl⟩
  obtain ⟨g9, k1, k2⟩ := key
  refine ⟨g9, fun o1 => by rw [o109, e1, out, k1], by rw [k2]; exact e2.set (by omega), by rw [k2, zuI_o (by omega)]; exact e3, by rw [k2, zuI_o (by omega)]; exact e4, by rw [k2, zuI_at], fun l8 => ?_⟩
  rw [k2, zuI_o (by omega), e6, show min (runE T isDg b - b) 4 = runE T isDg b - b by omega]
theorem sg9_all : ∀ s, s < 127 → ((if nI s < 40 then (if nI s = 45 then (3 : Int32) else if nI s < 59 then 4 else if 61 < nI s then 4 else 3) else if 43 < nI s then (if nI s = 45 then 3 else if nI s < 59 then 4 else if 61 < nI s then 4 else 3) else 3) = (if (40 ≤ s ∧ s ≤ 43) ∨ s = 45 ∨ (59 ≤ s ∧ s ≤ 61) then 3 else 4)) := by decide +kernel
theorem zfu {P : Prop} {x y : Int32} {h : zH} {K j k : Nat} : zf P (some (none, zuI h K j k x)) (some (none, zuI h K j k y)) = some (none, zuI h K j k (zi P x y)) := by
  by_cases p : P
  · rw [zf_pos p, zi_pos p]
  · rw [zf_neg p, zi_neg p]
theorem ml_next {T : zTx} {p : Nat} {h : zH} (X : txM T h) (hp : p ≤ T.1) (h4 : h.1 12 0 4 = nI p) : ∃ g, f_X12_nextToken [.inr (.inr (12, 0))] h = some (none, g) ∧ tmS h g ∧ TM T p g := by
  have t1 := X.1.1
  have ge := kB_ge (T := T) (p := p)
  have le := kB_le hp
  have fe : ∀ g : zH, f_X12_nextToken [.inr (.inr (12, 0))] g = zL p_X12_nextToken 0 [some (.inr (.inr (12, 0))), none] [] g := fun g => rfl
  have e0 := e_X12_nextToken_0
  obtain ⟨g, e1, e2, e3⟩ := zloopE (fun i (g : zH) => zL p_X12_nextToken 0 [some (.inr (.inr (12, 0))), none] [] g)
    (fun i g => tmS h g ∧ g.1 12 0 4 = nI (p + i)) (kB T p - p) h ⟨tmS.rf, h4⟩ (fun i g hi q => by
      obtain ⟨q1, q2⟩ := q
      have Xg := q1.tx X
      have lt : p + i < T.1 := by omega
      have s127 := X.lt lt
      have il := runE_in (T := T) (p := isBl) (a := p) (k := p + i) (by omega) (show p + i < kB T p by omega)
      rw [e_X12_nextToken_0, q2, Xg.2.1, zf_pos (nI_lt lt (by omega)), zfx (by omega) (by omega), nI_clamp (by omega), Xg.2.2 _ lt, zfx (by omega) (by omega), nI_1]
      refine ⟨_, ?_, q1.set (by omega), zuI_at⟩
      rcases il with e | e
      · rw [zf_neg (show ¬ nI (T.2 (p + i)) = 32 by rw [e]; decide), zf_pos (show nI (T.2 (p + i)) = 10 by rw [e]; rfl), Nat.add_assoc]
      · rw [zf_pos (show nI (T.2 (p + i)) = 32 by rw [e]; rfl), Nat.add_assoc])
  have e1 : zL p_X12_nextToken 0 [some (.inr (.inr (12, 0))), none] [] h = zL p_X12_nextToken 0 [some (.inr (.inr (12, 0))), none] [] g := e1
  rw [show p + (kB T p - p) = kB T p by omega] at e3
  have Xg := e2.tx X
  have out : zL p_X12_nextToken 0 [some (.inr (.inr (12, 0))), none] [] g = zL p_X12_nextToken 52 [some (.inr (.inr (12, 0))), none] [] g := by
    rw [e_X12_nextToken_0, e3, Xg.2.1, zfc (nI_ltI (by omega) (by omega))]
    by_cases e : kB T p < T.1
    · have ro : ¬ isBl (T.2 (kB T p)) := runE_out e
      have s127 := X.lt e
      unfold isBl at ro
      rw [zf_pos e, zfx (by omega) (by omega), nI_clamp (by omega), Xg.2.2 _ e, zf_neg (show ¬ nI (T.2 (kB T p)) = 32 from fun z => ro (Or.inr ((eqO (by omega) (by decide)).mp z))), zfx (by omega) (by omega), zf_neg (show ¬ nI (T.2 (kB T p)) = 10 from fun z => ro (Or.inl ((eqO (by omega) (by decide)).mp z)))]
    · rw [zf_neg e]
  let f : zH := zuI (zuJ (zuI g 12 0 5 (nI (kB T p))) 12 0 7 0) 12 0 8 0
  have fS : tmS h f := ((e2.set (by omega)).setJ).set (by omega)
  have Xf := fS.tx X
  have f4 : f.1 12 0 4 = nI (kB T p) := by
    show (zuI (zuJ (zuI g 12 0 5 (nI (kB T p))) 12 0 7 0) 12 0 8 0).1 12 0 4 = _
    rw [zuI_o (by omega), zuJ_1, zuI_o (by omega)]; exact e3
  have f5 : f.1 12 0 5 = nI (kB T p) := by
    show (zuI (zuJ (zuI g 12 0 5 (nI (kB T p))) 12 0 7 0) 12 0 8 0).1 12 0 5 = _
    rw [zuI_o (by omega), zuJ_1, zuI_at]
  have f7 : f.2 12 0 7 = 0 := by
    show (zuI (zuJ (zuI g 12 0 5 (nI (kB T p))) 12 0 7 0) 12 0 8 0).2 12 0 7 = _
    rw [zuI_2, zuJ_at]
  have f8 : f.1 12 0 8 = 0 := zuI_at
  rw [fe, e1, out, e_X12_nextToken_52, e3, Xg.2.1, zfc (nI_eq (by omega) (by omega))]
  by_cases eN : kB T p = T.1
  · rw [zf_pos eN]
    have k0 : kK T p = 0 := kK_0.mpr eN
    refine ⟨_, rfl, fS.set (by omega), ?_, by rw [zuI_o (by omega)]; exact f5, by rw [zuI_at, k0]; rfl, fun z => by omega, fun z => by omega⟩
    rw [zuI_o (by omega)]
    refine f4.trans ?_
    unfold kE; rw [zn_pos eN]
  · have lt : kB T p < T.1 := by omega
    have s127 := X.lt lt
    rw [zf_neg eN, zfx (by omega) (by omega), nI_clamp (by omega), Xg.2.2 _ lt]
    have other : ¬ isLt (T.2 (kB T p)) → ∃ g, zf (nI (T.2 (kB T p)) < 48) (zL p_X12_nextToken 322 [some (.inr (.inr (12, 0))), some (.inl (nI (T.2 (kB T p))))] [] f) (zf (57 < nI (T.2 (kB T p))) (zL p_X12_nextToken 322 [some (.inr (.inr (12, 0))), some (.inl (nI (T.2 (kB T p))))] [] f) (zL p_X12_nextToken 224 [some (.inr (.inr (12, 0))), some (.inl (nI (T.2 (kB T p))))] [] f)) = some (none, g) ∧ tmS h g ∧ TM T p g := fun eL => by
      by_cases eD : isDg (T.2 (kB T p))
      · obtain ⟨d1, d2⟩ := (dg_iff s127).mp eD
        obtain ⟨f9, a1, a2, a3, a4, a6, a7⟩ := ml_num Xf lt f4 f5 f8
        rw [zf_neg d1, zf_neg d2, a1]
        have kE' : kE T p = runE T isDg (kB T p) := by unfold kE; rw [zn_neg eN, zn_neg eL, zn_pos eD]
        have kK' : kK T p = zn (4 < runE T isDg (kB T p) - kB T p) 4 2 := by unfold kK; rw [zn_neg eN, zn_neg eL, zn_pos eD]
        refine ⟨f9, rfl, fS.trans a2, by rw [kE']; exact a3, a4, ?_, fun z => ?_, fun z => ?_⟩
        · rw [a6, kK']
          by_cases e8 : 4 < runE T isDg (kB T p) - kB T p
          · rw [if_pos e8, zn_pos e8]; rfl
          · rw [if_neg e8, zn_neg e8]; rfl
        · rw [kK'] at z
          by_cases e8 : 4 < runE T isDg (kB T p) - kB T p
          · rw [zn_pos e8] at z; omega
          · rw [zn_neg e8] at z; omega
        · have e8 : ¬ 4 < runE T isDg (kB T p) - kB T p := fun y => by rw [kK', zn_pos y] at z; omega
          exact a7 (by omega)
      · have kE' : kE T p = kB T p + 1 := by unfold kE; rw [zn_neg eN, zn_neg eL, zn_neg eD]
        have kK' : kK T p = zn (isSg (T.2 (kB T p))) 3 4 := by unfold kK; rw [zn_neg eN, zn_neg eL, zn_neg eD]
        have e322 : zL p_X12_nextToken 322 [some (.inr (.inr (12, 0))), some (.inl (nI (T.2 (kB T p))))] [] f = some (none, zuI (zuI f 12 0 4 (nI (kB T p + 1))) 12 0 6 (nI (kK T p))) := by
          rw [e_X12_nextToken_322, e_X12_nextToken_345, f4, nI_1]
          simp only [zfu]
          refine congrArg (fun z => some (none, zuI (zuI f 12 0 4 (nI (kB T p + 1))) 12 0 6 z)) ?_
          simp only [zi_dec]
          rw [sg9_all _ s127, kK']
          by_cases eS : isSg (T.2 (kB T p))
          · rw [zn_pos eS, if_pos (show (40 ≤ T.2 (kB T p) ∧ T.2 (kB T p) ≤ 43) ∨ T.2 (kB T p) = 45 ∨ (59 ≤ T.2 (kB T p) ∧ T.2 (kB T p) ≤ 61) from eS)]; rfl
          · rw [zn_neg eS, if_neg (show ¬ ((40 ≤ T.2 (kB T p) ∧ T.2 (kB T p) ≤ 43) ∨ T.2 (kB T p) = 45 ∨ (59 ≤ T.2 (kB T p) ∧ T.2 (kB T p) ≤ 61)) from eS)]; rfl
        have fin : ∃ g, zL p_X12_nextToken 322 [some (.inr (.inr (12, 0))), some (.inl (nI (T.2 (kB T p))))] [] f = some (none, g) ∧ tmS h g ∧ TM T p g := by
          refine ⟨_, e322, (fS.set (by omega)).set (by omega), by rw [zuI_o (by omega), zuI_at, kE'], by rw [zuI_o (by omega), zuI_o (by omega)]; exact f5, zuI_at, fun z => ?_, fun z => ?_⟩
          · rw [kK'] at z
            by_cases eS : isSg (T.2 (kB T p))
            · rw [zn_pos eS] at z; omega
            · rw [zn_neg eS] at z; omega
          · rw [kK'] at z
            by_cases eS : isSg (T.2 (kB T p))
            · rw [zn_pos eS] at z; omega
            · rw [zn_neg eS] at z; omega
        by_cases d1 : nI (T.2 (kB T p)) < 48
        · rw [zf_pos d1]; exact fin
        · rw [zf_neg d1, zf_pos (Classical.byContradiction (fun z => eD ((dg_iff s127).mpr ⟨d1, z⟩)))]; exact fin
    by_cases l1 : nI (T.2 (kB T p)) < 97
    · rw [zf_pos l1]; exact other (fun z => ((lt_iff s127).mp z).1 l1)
    · rw [zf_neg l1]
      by_cases l2 : (122 : Int32) < nI (T.2 (kB T p))
      · rw [zf_pos l2]; exact other (fun z => ((lt_iff s127).mp z).2 l2)
      · have eL : isLt (T.2 (kB T p)) := (lt_iff s127).mpr ⟨l1, l2⟩
        obtain ⟨f9, a1, a2, a3, a4, a6, a7⟩ := ml_word Xf lt f4 f5 f7
        rw [zf_neg l2]
        have kE' : kE T p = runE T isLt (kB T p) := by unfold kE; rw [zn_neg eN, zn_pos eL]
        have kK' : kK T p = zn (8 < runE T isLt (kB T p) - kB T p) 4 1 := by unfold kK; rw [zn_neg eN, zn_pos eL]
        refine ⟨f9, a1 _, fS.trans a2, by rw [kE']; exact a3, a4, ?_, fun z => ?_, fun z => ?_⟩
        · rw [a6, kK']
          by_cases e8 : 8 < runE T isLt (kB T p) - kB T p
          · rw [if_pos e8, zn_pos e8]; rfl
          · rw [if_neg e8, zn_neg e8]; rfl
        · have e8 : ¬ 8 < runE T isLt (kB T p) - kB T p := fun y => by rw [kK', zn_pos y] at z; omega
          exact a7 (by omega)
        · rw [kK'] at z
          by_cases e8 : 8 < runE T isLt (kB T p) - kB T p
          · rw [zn_pos e8] at z; omega
          · rw [zn_neg e8] at z; omega
