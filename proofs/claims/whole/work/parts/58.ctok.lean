/-! The class's tokens. -/
/-- the text, in the class; in the model -/
def txC (T : zTx) (h : zH) : Prop := okT T ∧ h.1 9 0 1 = nI T.1 ∧ ∀ k, k < T.1 → h.1 34 0 k = nI (T.2 k)
def txM (T : zTx) (h : zH) : Prop := okT T ∧ h.1 12 0 3 = nI T.1 ∧ ∀ k, k < T.1 → h.1 38 0 k = nI (T.2 k)
theorem okS_lt {s : Nat} (h : okS s) : s < 127 := by rcases h with h | h <;> omega
theorem sp_signAt {T : zTx} {h : zH} {k : Nat} (X : txC T h) (hk : k ≤ 1000) : f_X9_signAt [.inr (.inr (9, 0)), .inl (nI k)] h = some (some (.inl (nI (zn (k < T.1) (T.2 k) 0))), h) := by
  have t1 := X.1.1
  rw [g_X9_signAt, zf_neg (nI_pos (by omega)), X.2.1, zfc (nI_ltI (by omega) (by omega))]
  by_cases e : k < T.1
  · rw [zf_pos e, zfx (by omega) (by omega), nI_clamp (by omega), X.2.2 k e, zn_pos e]
  · rw [zf_neg e, zn_neg e]; rfl
theorem sp_isBlank (s : Nat) (hs : s < 127) (h : zH) : f_X10_isBlank [.inl (nI s)] h = some (some (.inl (zb (isBl s))), h) := by
  rw [g_X10_isBlank, zB10, zB1b]
  refine zsI ?_
  unfold isBl
  rw [eqO (by omega) (by decide), eqO (by omega) (by decide)]
theorem sp_isLetter (s : Nat) (hs : s < 127) (h : zH) : f_X10_isLetter [.inl (nI s)] h = some (some (.inl (zb (isLt s))), h) := by
  rw [g_X10_isLetter, zB01, zB0b]
  refine zsI ?_
  unfold isLt
  rw [ltO (by omega) (by decide), Olt (by omega) (by decide)]
  exact ⟨fun z => ⟨Nat.not_lt.mp z.1, Nat.not_lt.mp z.2⟩, fun z => ⟨Nat.not_lt.mpr z.1, Nat.not_lt.mpr z.2⟩⟩
theorem sp_isDigit (s : Nat) (hs : s < 127) (h : zH) : f_X10_isDigit [.inl (nI s)] h = some (some (.inl (zb (isDg s))), h) := by
  rw [g_X10_isDigit, zB01, zB0b]
  refine zsI ?_
  unfold isDg
  rw [ltO (by omega) (by decide), Olt (by omega) (by decide)]
  exact ⟨fun z => ⟨Nat.not_lt.mp z.1, Nat.not_lt.mp z.2⟩, fun z => ⟨Nat.not_lt.mpr z.1, Nat.not_lt.mpr z.2⟩⟩
theorem zi_dec {P : Prop} [d : Decidable P] {x y : Int32} : zi P x y = if P then x else y := by
  by_cases h : P
  · rw [zi_pos h, if_pos h]
  · rw [zi_neg h, if_neg h]
theorem zb_dec {P : Prop} [d : Decidable P] : zb P = if P then 1 else 0 := by
  by_cases h : P
  · rw [zb_pos h, if_pos h]
  · rw [zb_neg h, if_neg h]
theorem sg_all : ∀ s, s < 127 → (if nI s = 40 then (1 : Int32) else if nI s = 41 then 1 else if nI s = 42 then 1 else if nI s = 43 then 1 else if nI s = 44 then 0 else if nI s = 45 then 1 else if nI s = 46 then 0 else if nI s = 47 then 0 else if nI s = 48 then 0 else if nI s = 49 then 0 else if nI s = 50 then 0 else if nI s = 51 then 0 else if nI s = 52 then 0 else if nI s = 53 then 0 else if nI s = 54 then 0 else if nI s = 55 then 0 else if nI s = 56 then 0 else if nI s = 57 then 0 else if nI s = 58 then 0 else if nI s = 59 then 1 else if nI s = 60 then 1 else if nI s = 61 then 1 else 0) = (if (40 ≤ s ∧ s ≤ 43) ∨ s = 45 ∨ (59 ≤ s ∧ s ≤ 61) then 1 else 0) := by decide +kernel
theorem sp_isSignSpelt (s : Nat) (hs : s < 127) (h : zH) : f_X10_isSignSpelt [.inl (nI s)] h = some (some (.inl (zb (isSg s))), h) := by
  rw [g_X10_isSignSpelt]
  simp only [zfi]
  refine congrArg (fun z => some (some (Sum.inl z), h)) ?_
  simp only [zi_dec]
  rw [sg_all s hs, ← zb_dec]
  rfl
/-! the runs -/
/-- nothing but the tokens' cell is changed -/
def tkS (h g : zH) : Prop := (∀ K j k, ¬ (K = 10 ∧ j = 0) → g.1 K j k = h.1 K j k) ∧ ∀ K j k, ¬ (K = 10 ∧ j = 0 ∧ k = 6) → g.2 K j k = h.2 K j k
theorem tkS.rf {h : zH} : tkS h h := ⟨fun _ _ _ _ => rfl, fun _ _ _ _ => rfl⟩
theorem tkS.trans {h g f : zH} (a : tkS h g) (b : tkS g f) : tkS h f := ⟨fun K j k n => (b.1 K j k n).trans (a.1 K j k n), fun K j k n => (b.2 K j k n).trans (a.2 K j k n)⟩
theorem tkS.set {h g : zH} {k : Nat} {v : Int32} (a : tkS h g) : tkS h (zuI g 10 0 k v) := ⟨fun K j k n => by rw [zuI_o (by omega)]; exact a.1 K j k n, a.2⟩
theorem tkS.setJ {h g : zH} {v : Int64} (a : tkS h g) : tkS h (zuJ g 10 0 6 v) := ⟨a.1, fun K j k n => by rw [zuJ_o n]; exact a.2 K j k n⟩
theorem tkS.tx {T : zTx} {h g : zH} (a : tkS h g) (X : txC T h) : txC T g := ⟨X.1, by rw [a.1 9 0 1 (by omega)]; exact X.2.1, fun k hk => by rw [a.1 34 0 k (by omega)]; exact X.2.2 k hk⟩
theorem tkS.tb {h g : zH} (a : tkS h g) (X : TB h) : TB g := fun i hi => by rw [a.2 35 0 i (by omega)]; exact X i hi
theorem txC.lt {T : zTx} {h : zH} (X : txC T h) {k : Nat} (hk : k < T.1) : T.2 k < 127 := okS_lt (X.1.2 k hk)
theorem let_s {s : Nat} (hs : isLt s) (hs2 : s < 127) : (nI s - (97 : Int32) + 1).toInt64 = lN (s - 96) := by
  unfold isLt at hs
  rw [show (97 : Int32) = nI 97 from rfl, pk_sub (by omega), nI_1, nI_l (by omega), show s - 97 + 1 = s - 96 by omega]
theorem cl_stepWord {T : zTx} {b : Nat} {h : zH} (X : txC T h) (B : TB h) (hb : b < T.1) (hl : isLt (T.2 b)) (h2 : h.1 10 0 2 = nI b) (h4 : h.1 10 0 4 = nI b) (h7 : h.1 10 0 7 = 0) : ∃ g, f_X10_stepWord [.inr (.inr (10, 0))] h = some (none, g) ∧ tkS h g ∧ g.1 10 0 2 = nI (runE T isLt b) ∧ g.1 10 0 4 = nI b ∧ g.1 10 0 7 = 0 ∧ g.1 10 0 3 = (if 8 < runE T isLt b - b then 1 else 2) ∧ (runE T isLt b - b ≤ 8 → g.2 10 0 6 = lN (enc 32 (wl T b (runE T isLt b - b))) ∧ g.1 10 0 5 = (if fst9 27 (fun i => kws.getD i [] = wl T b (runE T isLt b - b)) < 27 then nI (fst9 27 (fun i => kws.getD i [] = wl T b (runE T isLt b - b))) else zm1)) := by
  have t1 := X.1.1
  have ge := runE_ge (T := T) (p := isLt) (a := b)
  have le := runE_le (T := T) (p := isLt) (a := b) (by omega)
  have o5 : ∀ o1 (g : zH), zL p_X10_stepWord 5 [some (.inr (.inr (10, 0))), o1] [] g = zL p_X10_stepWord 5 [some (.inr (.inr (10, 0))), none] [] g := fun o1 g => (e_X10_stepWord_5 _ _).trans (e_X10_stepWord_5 _ _).symm
  rw [g_X10_stepWord]
  obtain ⟨g, e1, e2, e3, e4, e5, e6⟩ := zloopE (fun i (g : zH) => zL p_X10_stepWord 5 [some (.inr (.inr (10, 0))), none] [] g)
    (fun i g => tkS h g ∧ g.1 10 0 2 = nI (b + i) ∧ g.1 10 0 4 = nI b ∧ g.1 10 0 7 = 0 ∧ g.2 10 0 6 = lN (enc 32 (wl T b i))) (runE T isLt b - b) (zuJ h 10 0 6 0) ⟨tkS.rf.setJ, h2, h4, h7, zuJ_at⟩ (fun i g hi q => by
      obtain ⟨q1, q2, q3, q4, q5⟩ := q
      have Xg := q1.tx X
      have lt : b + i < T.1 := by omega
      have s127 := X.lt lt
      have il := runE_in (T := T) (p := isLt) (a := b) (k := b + i) (by omega) (by omega)
      rw [e_X10_stepWord_5, q2, Xg.2.1, zf_pos (nI_lt lt (by omega)), sp_signAt Xg (by omega), zci_ok, zn_pos lt, sp_isLetter _ s127, zci_ok, zf_b0, zf_pos il, q2, sp_signAt Xg (by omega), zci_ok, zn_pos lt, g_X10_longer, zcj_ok, q2, q5, let_s il s127, show (32 : Int64) = lN 32 from rfl, lN_mul, lN_add, nI_1]
      exact ⟨_, rfl, (q1.setJ).set, zuI_at, by rw [zuI_o (by omega)]; exact q3, by rw [zuI_o (by omega)]; exact q4, by rw [zuI_2, zuJ_at, wl_s, enc_s]⟩)
  have e1 : zL p_X10_stepWord 5 [some (.inr (.inr (10, 0))), none] [] (zuJ h 10 0 6 0) = zL p_X10_stepWord 5 [some (.inr (.inr (10, 0))), none] [] g := e1
  rw [show b + (runE T isLt b - b) = runE T isLt b by omega] at e3
  have Xg := e2.tx X
  have out : zL p_X10_stepWord 5 [some (.inr (.inr (10, 0))), none] [] g = zL p_X10_stepWord 71 [some (.inr (.inr (10, 0))), none] [] g := by
    rw [e_X10_stepWord_5, e3, Xg.2.1, zfc (nI_ltI (by omega) (by omega))]
    by_cases e : runE T isLt b < T.1
    · rw [zf_pos e, sp_signAt Xg (by omega), zci_ok, zn_pos e, sp_isLetter _ (X.lt e), zci_ok, zf_b0, zf_neg (runE_out e)]
    · rw [zf_neg e]
  have sub : nI (runE T isLt b) - nI b = nI (runE T isLt b - b) := pk_sub ge
  -- the table
  have tab : ∀ f : zH, tkS h f → f.1 10 0 2 = nI (runE T isLt b) → f.1 10 0 4 = nI b → f.1 10 0 7 = 0 → f.1 10 0 5 = zm1 → f.2 10 0 6 = lN (enc 32 (wl T b (runE T isLt b - b))) → ∃ g, zL p_X10_stepWord 101 [some (.inr (.inr (10, 0))), some (.inl 0)] [] f = some (none, g) ∧ tkS h g ∧ g.1 10 0 2 = nI (runE T isLt b) ∧ g.1 10 0 4 = nI b ∧ g.1 10 0 7 = 0 ∧ g.1 10 0 3 = f.1 10 0 3 ∧ g.2 10 0 6 = f.2 10 0 6 ∧ (runE T isLt b - b ≤ 8 → g.1 10 0 5 = (if fst9 27 (fun i => kws.getD i [] = wl T b (runE T isLt b - b)) < 27 then nI (fst9 27 (fun i => kws.getD i [] = wl T b (runE T isLt b - b))) else zm1)) := by
    intro f p1 p2 p3 p4 p5 p6
    let mt : Nat → Prop := fun i => lN (enc 32 (kws.getD i [])) = lN (enc 32 (wl T b (runE T isLt b - b)))
    obtain ⟨g9, c1, c2, c3, c4, c5, c6, c7, c8⟩ := zloopE (fun i (g : zH) => zL p_X10_stepWord 101 [some (.inr (.inr (10, 0))), some (.inl (nI i))] [] g)
      (fun i g => tkS h g ∧ g.1 10 0 2 = nI (runE T isLt b) ∧ g.1 10 0 4 = nI b ∧ g.1 10 0 7 = 0 ∧ g.1 10 0 3 = f.1 10 0 3 ∧ g.2 10 0 6 = f.2 10 0 6 ∧ ((∃ k, k < i ∧ mt k ∧ g.1 10 0 5 = nI k) ∨ ((∀ k, k < i → ¬ mt k) ∧ g.1 10 0 5 = zm1))) 27 f ⟨p1, p2, p3, p4, rfl, rfl, Or.inr ⟨fun k hk => absurd hk (Nat.not_lt_zero k), p5⟩⟩ (fun i g hi q => by
        obtain ⟨q1, q2, q3, q4, q5, q6, q7⟩ := q
        rw [e_X10_stepWord_101, zf_pos (show nI i < 27 from nI_lt (b := 27) hi (by omega)), zfx hi (by omega), nI_clamp (by omega), (q1.tb B) i hi, q6, p6, zfc (lg_cmp_eq _ _), nI_1]
        by_cases e : mt i
        · rw [zf_pos e]
          exact ⟨_, rfl, q1.set, by rw [zuI_o (by omega)]; exact q2, by rw [zuI_o (by omega)]; exact q3, by rw [zuI_o (by omega)]; exact q4, by rw [zuI_o (by omega)]; exact q5, q6.trans p6, Or.inl ⟨i, by omega, e, zuI_at⟩⟩
        · rw [zf_neg e]
          refine ⟨g, rfl, q1, q2, q3, q4, q5, q6.trans p6, ?_⟩
          rcases q7 with ⟨k, k1, k2, k3⟩ | ⟨k1, k2⟩
          · exact Or.inl ⟨k, by omega, k2, k3⟩
          · exact Or.inr ⟨fun k hk => by
              by_cases e2 : k = i
              · subst e2; exact e
              · exact k1 k (by omega), k2⟩)
    have c1 : zL p_X10_stepWord 101 [some (.inr (.inr (10, 0))), some (.inl 0)] [] f = zL p_X10_stepWord 101 [some (.inr (.inr (10, 0))), some (.inl (nI 27))] [] g9 := c1
    refine ⟨g9, by rw [c1, e_X10_stepWord_101, zf_neg (show ¬ nI 27 < 27 by decide)], c2, c3, c4, c5, c6, c7, fun l8 => ?_⟩
    have okW : okw (wl T b (runE T isLt b - b)) := by
      have gt := runE_gt hb hl
      refine ⟨fun e => ?_, by rw [wl_len]; exact l8, fun x hx => ?_⟩
      · have := congrArg List.length e
        rw [wl_len] at this
        simp at this; omega
      · unfold wl at hx
        obtain ⟨i, hi, rfl⟩ := List.mem_map.mp hx
        rw [List.mem_range] at hi
        have := runE_in (T := T) (p := isLt) (a := b) (k := b + i) (by omega) (by omega)
        unfold isLt at this
        omega
    have mtE : ∀ i, i < 27 → (mt i ↔ kws.getD i [] = wl T b (runE T isLt b - b)) := fun i hi => enc_eq (by omega) (by omega) (kws_ok i hi) okW
    rcases c8 with ⟨k, k1, k2, k3⟩ | ⟨k1, k2⟩
    · have ek := (mtE k k1).mp k2
      have : fst9 27 (fun i => kws.getD i [] = wl T b (runE T isLt b - b)) = k := fst9_uq (by omega) (fun j hj e => by have := kws_inj j (by omega) k k1 (e.trans ek.symm); omega) (fun _ => ek)
      rw [this, if_pos k1]; exact k3
    · have : fst9 27 (fun i => kws.getD i [] = wl T b (runE T isLt b - b)) = 27 := fst9_uq (by omega) (fun j hj e => k1 j hj ((mtE j hj).mpr e)) (fun z => by omega)
      rw [this, if_neg (by omega)]; exact k2
  rw [e1, out, e_X10_stepWord_71, e3, e4, sub]
  by_cases e : 8 < runE T isLt b - b
  · rw [zf_pos (show 8 < nI (runE T isLt b - b) from (Olt (by omega) (by decide)).mpr e)]
    obtain ⟨g9, c1, c2, c3, c4, c5, c6, c7, c8⟩ := tab (zuI (zuI g 10 0 3 1) 10 0 5 zm1) (e2.set.set) (by rw [zuI_o (by omega), zuI_o (by omega)]; exact e3) (by rw [zuI_o (by omega), zuI_o (by omega)]; exact e4) (by rw [zuI_o (by omega), zuI_o (by omega)]; exact e5) zuI_at e6
    exact ⟨g9, c1, c2, c3, c4, c5, by rw [c6, zuI_o (by omega), zuI_at, if_pos e], fun z => by omega⟩
  · rw [zf_neg (show ¬ 8 < nI (runE T isLt b - b) from fun z => e ((Olt (by omega) (by decide)).mp z))]
    obtain ⟨g9, c1, c2, c3, c4, c5, c6, c7, c8⟩ := tab (zuI (zuI g 10 0 3 2) 10 0 5 zm1) (e2.set.set) (by rw [zuI_o (by omega), zuI_o (by omega)]; exact e3) (by rw [zuI_o (by omega), zuI_o (by omega)]; exact e4) (by rw [zuI_o (by omega), zuI_o (by omega)]; exact e5) zuI_at e6
    exact ⟨g9, c1, c2, c3, c4, c5, by rw [c6, zuI_o (by omega), zuI_at, if_neg e], fun z => ⟨by rw [c7, zuI_2, zuI_2]; exact e6, c8 z⟩⟩
theorem cl_stepNumber {T : zTx} {b : Nat} {h : zH} (X : txC T h) (hb : b < T.1) (h2 : h.1 10 0 2 = nI b) (h4 : h.1 10 0 4 = nI b) (h7 : h.1 10 0 7 = 0) : ∃ g, f_X10_stepNumber [.inr (.inr (10, 0))] h = some (none, g) ∧ tkS h g ∧ g.1 10 0 2 = nI (runE T isDg b) ∧ g.1 10 0 4 = nI b ∧ g.1 10 0 7 = 0 ∧ g.1 10 0 3 = (if 4 < runE T isDg b - b then 1 else 3) ∧ g.1 10 0 5 = nI (nl T b (runE T isDg b - b)) := by
  have t1 := X.1.1
  have ge := runE_ge (T := T) (p := isDg) (a := b)
  have le := runE_le (T := T) (p := isDg) (a := b) (by omega)
  rw [g_X10_stepNumber]
  obtain ⟨g, e1, e2, e3, e4, e5, e6⟩ := zloopE (fun i (g : zH) => zL p_X10_stepNumber 5 [some (.inr (.inr (10, 0)))] [] g)
    (fun i g => tkS h g ∧ g.1 10 0 2 = nI (b + i) ∧ g.1 10 0 4 = nI b ∧ g.1 10 0 7 = 0 ∧ g.1 10 0 5 = nI (nl T b i)) (runE T isDg b - b) (zuI h 10 0 5 0) ⟨tkS.rf.set, by rw [zuI_o (by omega)]; exact h2, by rw [zuI_o (by omega)]; exact h4, by rw [zuI_o (by omega)]; exact h7, zuI_at⟩ (fun i g hi q => by
      obtain ⟨q1, q2, q3, q4, q5⟩ := q
      have Xg := q1.tx X
      have lt : b + i < T.1 := by omega
      have s127 := X.lt lt
      have il := runE_in (T := T) (p := isDg) (a := b) (k := b + i) (by omega) (by omega)
      have il2 := il
      unfold isDg at il2
      rw [e_X10_stepNumber_5, q2, Xg.2.1, zf_pos (nI_lt lt (by omega)), sp_signAt Xg (by omega), zci_ok, zn_pos lt, sp_isDigit _ s127, zci_ok, zf_b0, zf_pos il, q2, sp_signAt Xg (by omega), zci_ok, zn_pos lt, q2, q5, show (48 : Int32) = nI 48 from rfl, pk_sub (by omega), show (10 : Int32) = nI 10 from rfl, pk_mul, nI_add, nI_1]
      exact ⟨_, rfl, q1.set.set, zuI_at, by rw [zuI_o (by omega), zuI_o (by omega)]; exact q3, by rw [zuI_o (by omega), zuI_o (by omega)]; exact q4, by rw [zuI_o (by omega), zuI_at]; rfl⟩)
  have e1 : zL p_X10_stepNumber 5 [some (.inr (.inr (10, 0)))] [] (zuI h 10 0 5 0) = zL p_X10_stepNumber 5 [some (.inr (.inr (10, 0)))] [] g := e1
  rw [show b + (runE T isDg b - b) = runE T isDg b by omega] at e3
  have Xg := e2.tx X
  have out : zL p_X10_stepNumber 5 [some (.inr (.inr (10, 0)))] [] g = zL p_X10_stepNumber 75 [some (.inr (.inr (10, 0)))] [] g := by
    rw [e_X10_stepNumber_5, e3, Xg.2.1, zfc (nI_ltI (by omega) (by omega))]
    by_cases e : runE T isDg b < T.1
    · rw [zf_pos e, sp_signAt Xg (by omega), zci_ok, zn_pos e, sp_isDigit _ (X.lt e), zci_ok, zf_b0, zf_neg (runE_out e)]
    · rw [zf_neg e]
  have sub : nI (runE T isDg b) - nI b = nI (runE T isDg b - b) := pk_sub ge
  rw [e1, out, e_X10_stepNumber_75, e3, e4, sub]
  by_cases e : 4 < runE T isDg b - b
  · rw [zf_pos (show 4 < nI (runE T isDg b - b) from (Olt (by omega) (by decide)).mpr e)]
    exact ⟨_, rfl, e2.set, by rw [zuI_o (by omega)]; exact e3, by rw [zuI_o (by omega)]; exact e4, by rw [zuI_o (by omega)]; exact e5, by rw [zuI_at, if_pos e], by rw [zuI_o (by omega)]; exact e6⟩
  · rw [zf_neg (show ¬ 4 < nI (runE T isDg b - b) from fun z => e ((Olt (by omega) (by decide)).mp z))]
    exact ⟨_, rfl, e2.set, by rw [zuI_o (by omega)]; exact e3, by rw [zuI_o (by omega)]; exact e4, by rw [zuI_o (by omega)]; exact e5, by rw [zuI_at, if_neg e], by rw [zuI_o (by omega)]; exact e6⟩
/-- the class stands at the token from p on -/
def kcm (k : Nat) : Nat := if k = 0 then 0 else if k = 1 then 2 else if k = 2 then 3 else if k = 3 then 4 else 1
def TC (T : zTx) (p : Nat) (h : zH) : Prop := h.1 10 0 7 = 0 ∧ h.1 10 0 2 = nI (kE T p) ∧ h.1 10 0 4 = nI (kB T p) ∧ h.1 10 0 3 = nI (kcm (kK T p)) ∧ (kK T p = 1 → h.2 10 0 6 = lN (enc 32 (kW T p)) ∧ h.1 10 0 5 = (if kI T p < 27 then nI (kI T p) else zm1)) ∧ (kK T p = 2 → h.1 10 0 5 = nI (kN T p)) ∧ (kK T p = 3 → h.1 10 0 5 = nI (T.2 (kB T p)))
theorem cl_step {T : zTx} {p : Nat} {h : zH} (X : txC T h) (B : TB h) (hp : p ≤ T.1) (h2 : h.1 10 0 2 = nI p) (h7 : h.1 10 0 7 = 0) : ∃ g, f_X10_step [.inr (.inr (10, 0))] h = some (none, g) ∧ tkS h g ∧ TC T p g := by
  have t1 := X.1.1
  have ge := kB_ge (T := T) (p := p)
  have le := kB_le hp
  have o8 : ∀ o1 (g : zH), zL p_X10_step 8 [some (.inr (.inr (10, 0))), o1] [] g = zL p_X10_step 8 [some (.inr (.inr (10, 0))), none] [] g := fun o1 g => (e_X10_step_8 _ _).trans (e_X10_step_8 _ _).symm
  rw [g_X10_step, zf_pos h7]
  obtain ⟨g, e1, e2, e3, e5⟩ := zloopE (fun i (g : zH) => zL p_X10_step 8 [some (.inr (.inr (10, 0))), none] [] g)
    (fun i g => tkS h g ∧ g.1 10 0 2 = nI (p + i) ∧ g.1 10 0 7 = 0) (kB T p - p) h ⟨tkS.rf, h2, h7⟩ (fun i g hi q => by
      obtain ⟨q1, q2, q4⟩ := q
      have Xg := q1.tx X
      have lt : p + i < T.1 := by omega
      have s127 := X.lt lt
      have il := runE_in (T := T) (p := isBl) (a := p) (k := p + i) (by omega) (show p + i < kB T p by omega)
      rw [e_X10_step_8, q2, Xg.2.1, zf_pos (nI_lt lt (by omega)), sp_signAt Xg (by omega), zci_ok, zn_pos lt, sp_isBlank _ s127, zci_ok, zf_b0, zf_pos il, q2, nI_1]
      exact ⟨_, rfl, q1.set, zuI_at, by rw [zuI_o (by omega)]; exact q4⟩)
  have e1 : zL p_X10_step 8 [some (.inr (.inr (10, 0))), none] [] h = zL p_X10_step 8 [some (.inr (.inr (10, 0))), none] [] g := e1
  rw [show p + (kB T p - p) = kB T p by omega] at e3
  have Xg := e2.tx X
  have out : zL p_X10_step 8 [some (.inr (.inr (10, 0))), none] [] g = zL p_X10_step 52 [some (.inr (.inr (10, 0))), none] [] g := by
    rw [e_X10_step_8, e3, Xg.2.1, zfc (nI_ltI (by omega) (by omega))]
    by_cases e : kB T p < T.1
    · rw [zf_pos e, sp_signAt Xg (by omega), zci_ok, zn_pos e, sp_isBlank _ (X.lt e), zci_ok, zf_b0, zf_neg (show ¬ isBl (T.2 (kB T p)) from runE_out e)]
    · rw [zf_neg e]
  let f : zH := zuI g 10 0 4 (nI (kB T p))
  have fS : tkS h f := e2.set
  have Xf := fS.tx X
  have f2 : f.1 10 0 2 = nI (kB T p) := by show (zuI g 10 0 4 (nI (kB T p))).1 10 0 2 = _; rw [zuI_o (by omega)]; exact e3
  have f4 : f.1 10 0 4 = nI (kB T p) := zuI_at
  have f7 : f.1 10 0 7 = 0 := by show (zuI g 10 0 4 (nI (kB T p))).1 10 0 7 = _; rw [zuI_o (by omega)]; exact e5
  rw [e1, out, e_X10_step_52, e3]
  show ∃ g, zci (f_X9_signAt [.inr (.inr (9, 0)), .inl (nI (kB T p))] f) _ = _ ∧ _
  rw [sp_signAt Xf (by omega), zci_ok, f2, Xf.2.1, zfc (nI_ltI (by omega) (by omega))]
  by_cases eN : kB T p = T.1
  · rw [zf_neg (by omega)]
    have k0 : kK T p = 0 := kK_0.mpr eN
    refine ⟨_, rfl, fS.set, by rw [zuI_o (by omega)]; exact f7, ?_, by rw [zuI_o (by omega)]; exact f4, by rw [zuI_at, k0]; rfl, fun z => by omega, fun z => by omega, fun z => by omega⟩
    rw [zuI_o (by omega), f2]; unfold kE; rw [zn_pos eN]
  · have lt : kB T p < T.1 := by omega
    have s127 := X.lt lt
    rw [zf_pos lt, zn_pos lt, sp_isLetter _ s127, zci_ok, zf_b0]
    by_cases eL : isLt (T.2 (kB T p))
    · rw [zf_pos eL]
      obtain ⟨f9, a1, a2, a3, a4, a5, a6, a7⟩ := cl_stepWord Xf (fS.tb B) lt eL f2 f4 f7
      rw [a1, zcv_ok]
      have kE' : kE T p = runE T isLt (kB T p) := by unfold kE; rw [zn_neg eN, zn_pos eL]
      have kK' : kK T p = zn (8 < runE T isLt (kB T p) - kB T p) 4 1 := by unfold kK; rw [zn_neg eN, zn_pos eL]
      refine ⟨f9, rfl, fS.trans a2, a5, by rw [kE']; exact a3, a4, ?_, fun z => ?_, fun z => ?_, fun z => ?_⟩
      · rw [a6, kK']
        by_cases e8 : 8 < runE T isLt (kB T p) - kB T p
        · rw [if_pos e8, zn_pos e8]; rfl
        · rw [if_neg e8, zn_neg e8]; rfl
      · have e8 : ¬ 8 < runE T isLt (kB T p) - kB T p := fun y => by rw [kK', zn_pos y] at z; omega
        exact a7 (by omega)
      · rw [kK'] at z
        by_cases e8 : 8 < runE T isLt (kB T p) - kB T p
        · rw [zn_pos e8] at z; omega
        · rw [zn_neg e8] at z; omega
      · rw [kK'] at z
        by_cases e8 : 8 < runE T isLt (kB T p) - kB T p
        · rw [zn_pos e8] at z; omega
        · rw [zn_neg e8] at z; omega
    · rw [zf_neg eL, sp_isDigit _ s127, zci_ok, zf_b0]
      by_cases eD : isDg (T.2 (kB T p))
      · rw [zf_pos eD]
        obtain ⟨f9, a1, a2, a3, a4, a5, a6, a7⟩ := cl_stepNumber Xf lt f2 f4 f7
        rw [a1, zcv_ok]
        have kE' : kE T p = runE T isDg (kB T p) := by unfold kE; rw [zn_neg eN, zn_neg eL, zn_pos eD]
        have kK' : kK T p = zn (4 < runE T isDg (kB T p) - kB T p) 4 2 := by unfold kK; rw [zn_neg eN, zn_neg eL, zn_pos eD]
        have n13 : kK T p ≠ 1 ∧ kK T p ≠ 3 := by
          rw [kK']
          by_cases e8 : 4 < runE T isDg (kB T p) - kB T p
          · rw [zn_pos e8]; omega
          · rw [zn_neg e8]; omega
        refine ⟨f9, rfl, fS.trans a2, a5, by rw [kE']; exact a3, a4, ?_, fun z => absurd z n13.1, fun z => a7, fun z => absurd z n13.2⟩
        rw [a6, kK']
        by_cases e8 : 4 < runE T isDg (kB T p) - kB T p
        · rw [if_pos e8, zn_pos e8]; rfl
        · rw [if_neg e8, zn_neg e8]; rfl
      · rw [zf_neg eD, sp_isSignSpelt _ s127, zci_ok, zf_b0, e_X10_step_135, e_X10_step_135, f2, nI_1]
        have kE' : kE T p = kB T p + 1 := by unfold kE; rw [zn_neg eN, zn_neg eL, zn_neg eD]
        have kK' : kK T p = zn (isSg (T.2 (kB T p))) 3 4 := by unfold kK; rw [zn_neg eN, zn_neg eL, zn_neg eD]
        by_cases eS : isSg (T.2 (kB T p))
        · rw [zf_pos eS]
          rw [zn_pos eS] at kK'
          refine ⟨_, rfl, fS.set.set.set, by rw [zuI_o (by omega), zuI_o (by omega), zuI_o (by omega)]; exact f7, by rw [zuI_at, kE'], by rw [zuI_o (by omega), zuI_o (by omega), zuI_o (by omega)]; exact f4, by rw [zuI_o (by omega), zuI_o (by omega), zuI_at, kK']; rfl, fun z => by omega, fun z => by omega, fun z => by rw [zuI_o (by omega), zuI_at]⟩
        · rw [zf_neg eS]
          rw [zn_neg eS] at kK'
          refine ⟨_, rfl, fS.set.set.set, by rw [zuI_o (by omega), zuI_o (by omega), zuI_o (by omega)]; exact f7, by rw [zuI_at, kE'], by rw [zuI_o (by omega), zuI_o (by omega), zuI_o (by omega)]; exact f4, by rw [zuI_o (by omega), zuI_o (by omega), zuI_at, kK']; rfl, fun z => by omega, fun z => by omega, fun z => by omega⟩
