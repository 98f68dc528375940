/-! What holds between the calls. -/
/-- cells that a call which only looks may change -/
def scr (K j k : Nat) : Prop := K = 23 ∨ (j = 21 ∧ (K = 8 ∨ K = 31 ∨ K = 32 ∨ K = 33)) ∨ K = 37 ∨ (K = 12 ∧ k = 0) ∨ (54 ≤ K ∧ K ≤ 63) ∨ K = 73 ∨ K = 74 ∨ K = 78
def scrJ (K k : Nat) : Prop := (K = 11 ∧ k = 9) ∨ (K = 12 ∧ k = 56) ∨ K = 79
def quiet (h g : zH) : Prop := (∀ K j k, ¬ scr K j k → g.1 K j k = h.1 K j k) ∧ (∀ K j k, ¬ scrJ K k → g.2 K j k = h.2 K j k)
theorem quiet.rf {h : zH} : quiet h h := ⟨fun _ _ _ _ => rfl, fun _ _ _ _ => rfl⟩
theorem quiet.trans {h g f : zH} (a : quiet h g) (b : quiet g f) : quiet h f := ⟨fun K j k n => (b.1 K j k n).trans (a.1 K j k n), fun K j k n => (b.2 K j k n).trans (a.2 K j k n)⟩
theorem zsame.quiet {S : List (Nat × Nat)} {h g : zH} (a : zsame S h g) (hS : ∀ p ∈ S, ∀ k, scr p.1 p.2 k) : quiet h g := ⟨fun K j k n => a.1 K j k (fun m => n (hS _ m k)), fun K j k _ => by rw [a.2]⟩
theorem quiet.thrown {h : zH} {v : Int32} : quiet h (zuI h 12 0 0 v) := ⟨fun K j k n => by
  show (if K = 12 ∧ j = 0 ∧ k = 0 then v else h.1 K j k) = _
  rw [if_neg (fun e => n (by unfold scr; omega))], fun _ _ _ _ => rfl⟩
/-- the undone rows, the marked rows of the model -/
def ur (h : zH) (i : Nat) : zRo := fun k => h.1 76 0 (24 * i + k)
def mr (h : zH) (i : Nat) : zRo := fun k => h.1 75 0 (24 * i + k)
/-- the told congress, how it is now: both sides -/
def IV (κ : zK) (m : Nat) (h : zH) : Prop := gK κ ∧ cK κ h ∧ mK κ h ∧ h.1 12 0 54 = 0 ∧ cS κ h 0 (h.1 72 0) ∧ gR κ m (h.1 72 0)
theorem IV.G {κ : zK} {m : Nat} {h : zH} (I : IV κ m h) : gK κ := I.1
theorem IV.K {κ : zK} {m : Nat} {h : zH} (I : IV κ m h) : cK κ h := I.2.1
theorem IV.M {κ : zK} {m : Nat} {h : zH} (I : IV κ m h) : mK κ h := I.2.2.1
theorem IV.D {κ : zK} {m : Nat} {h : zH} (I : IV κ m h) : h.1 12 0 54 = 0 := I.2.2.2.1
theorem IV.S {κ : zK} {m : Nat} {h : zH} (I : IV κ m h) : cS κ h 0 (h.1 72 0) := I.2.2.2.2.1
theorem IV.R {κ : zK} {m : Nat} {h : zH} (I : IV κ m h) : gR κ m (h.1 72 0) := I.2.2.2.2.2
theorem IV.h5 {κ : zK} {m : Nat} {h : zH} (I : IV κ m h) : kP κ ≤ 5 := I.1.1
theorem IV.h7 {κ : zK} {m : Nat} {h : zH} (I : IV κ m h) : kC κ ≤ 7 := I.1.2.1
/-- cells whose change leaves cK, mK as they are -/
theorem cK.agr {κ : zK} {h g : zH} (q : cK κ h) (a : ∀ K k, K ∈ [0, 1, 14, 15, 17, 18, 19, 20, 21, 22] → g.1 K 0 k = h.1 K 0 k) : cK κ g := by
  obtain ⟨a1, a2, a3, a4, a5, a6, a7, n, a8, a9, a10⟩ := q
  refine ⟨by rw [a 0 0 (by decide)]; exact a1, a2, by rw [a 0 4 (by decide)]; exact a3, a4, by rw [a 0 11 (by decide)]; exact a5, fun q hq => ?_, fun c hc => ?_, n, a8, by rw [a 1 2 (by decide)]; exact a9, ?_⟩
  · rw [a 14 q (by decide), a 15 q (by decide)]; exact a6 q hq
  · rw [a 17 c (by decide), a 18 c (by decide), a 19 c (by decide), a 20 c (by decide), a 21 c (by decide)]; exact a7 c hc
  · rw [show g.1 22 0 = h.1 22 0 from funext (fun k => a 22 k (by decide))]; exact a10
theorem mK.agr {κ : zK} {h g : zH} (M : mK κ h) (G : gK κ) (a : ∀ K k, K ∈ [39, 42, 43, 44, 45, 46, 47, 48, 49, 50, 51] → g.1 K 0 k = h.1 K 0 k) : mK κ g := by
  refine M.keep G ⟨fun k _ => a 39 k (by decide), fun K k hK _ => a K k ?_, fun K k hK _ => a K k ?_, a 49 0 (by decide), a 50 0 (by decide), fun k _ => a 51 k (by decide)⟩
  · simp only [List.mem_cons, List.not_mem_nil, or_false] at hK ⊢; omega
  · simp only [List.mem_cons, List.not_mem_nil, or_false] at hK ⊢; omega
theorem cS.agr {κ : zK} {h g : zH} {j : Nat} {r : zRo} (q : cS κ h j r) (a : ∀ K k, K ∈ [8, 31, 32, 33] → g.1 K j k = h.1 K j k) : cS κ g j r := by
  obtain ⟨a1, a2, a3, a4⟩ := q
  refine ⟨by rw [a 8 4 (by decide)]; exact a1, by rw [a 8 5 (by decide)]; exact a2, by rw [a 8 6 (by decide)]; exact a3, fun c hc => ?_⟩
  rw [a 31 c (by decide), a 32 c (by decide), a 33 c (by decide)]; exact a4 c hc
theorem cS.row {κ : zK} {h : zH} {j : Nat} {r r' : zRo} (q : cS κ h j r) (h7 : kC κ ≤ 7) (e : ∀ k, k < 24 → r' k = r k) : cS κ h j r' := by
  obtain ⟨a1, a2, a3, a4⟩ := q
  refine ⟨by rw [e 2 (by omega)]; exact a1, by rw [e 1 (by omega)]; exact a2, by rw [e 0 (by omega)]; exact a3, fun c hc => ?_⟩
  rw [e (10 + c) (by omega), e (3 + c) (by omega), e (17 + c) (by omega)]; exact a4 c hc
theorem gR.row {κ : zK} {m : Nat} {r r' : zRo} (q : gR κ m r) (h7 : kC κ ≤ 7) (e : ∀ k, k < 24 → r' k = r k) : gR κ m r' := by
  refine ⟨fun c hc => ?_, fun c h1 h2 => by rw [e _ (by omega)]; exact q.2 c h1 h2⟩
  rw [e (10 + c) (by omega), e (3 + c) (by omega), e (17 + c) (by omega)]; exact q.1 c hc
theorem mem4 {K a b c d : Nat} (h : K ∈ [a, b, c, d]) : K = a ∨ K = b ∨ K = c ∨ K = d := by simpa using h
theorem IV.quiet {κ : zK} {m : Nat} {h g : zH} (I : IV κ m h) (q : quiet h g) : IV κ m g := by
  have r : g.1 72 0 = h.1 72 0 := funext (fun k => q.1 72 0 k (by unfold scr; omega))
  refine ⟨I.G, I.K.agr (fun K k hK => q.1 K 0 k ?_), I.M.agr I.G (fun K k hK => q.1 K 0 k ?_), by rw [q.1 12 0 54 (by unfold scr; omega)]; exact I.D, ?_, by rw [r]; exact I.R⟩
  · simp only [List.mem_cons, List.not_mem_nil, or_false] at hK; unfold scr; omega
  · simp only [List.mem_cons, List.not_mem_nil, or_false] at hK; unfold scr; omega
  · rw [r]; exact I.S.agr (fun K k hK => q.1 K 0 k (by have := mem4 hK; unfold scr; omega))
theorem quiet.row {h g : zH} (q : quiet h g) : g.1 72 0 = h.1 72 0 := funext (fun k => q.1 72 0 k (by unfold scr; omega))
/-! words -/
def okw (w : List Nat) : Prop := w ≠ [] ∧ w.length ≤ 8 ∧ ∀ x ∈ w, 1 ≤ x ∧ x ≤ 26
def enc (b : Nat) (w : List Nat) : Nat := w.foldl (fun a x => a * b + x) 0
/-- names -/
def NM (κ : zK) (h : zH) : Prop := ∃ wp wc : Nat → List Nat, (∀ q, q < kP κ → okw (wp q) ∧ h.2 13 0 q = lN (enc 32 (wp q)) ∧ h.2 40 0 q = lN (enc 27 (wp q))) ∧ (∀ c, c < kC κ → okw (wc c) ∧ h.2 16 0 c = lN (enc 32 (wc c)) ∧ h.2 41 0 c = lN (enc 27 (wc c)))
/-- the words spelt -/
def kws : List (List Nat) := [[16, 15, 23, 5, 18], [23, 1, 20, 5, 18], [3, 1, 11, 5], [6, 18, 15, 13], [20, 15], [20, 8, 9, 3, 11], [8, 1, 18, 4], [16, 5, 2, 2, 12, 5], [19, 12, 9, 22, 5, 18], [23, 5, 1, 18, 19], [23, 1, 19, 8], [8, 1, 9, 18], [16, 9, 3, 11], [7, 9, 6, 20], [16, 18, 5, 19, 19], [23, 5, 5, 11], [16, 12, 1, 9, 14], [14, 1, 22, 1, 12], [4, 18, 25], [3, 1, 18, 22, 5, 18], [14, 15, 20], [1, 14, 4], [15, 18], [12, 5, 6, 20], [20, 15, 21, 7, 8], [23, 5, 20], [21, 19, 5, 4]]
def TB (h : zH) : Prop := ∀ i, i < 27 → h.2 35 0 i = lN (enc 32 (kws.getD i []))
/-- the tape -/
def okS (s : Nat) : Prop := s = 10 ∨ (32 ≤ s ∧ s ≤ 126)
def TP (h : zH) : Prop := ∃ n, n ≤ 1000 ∧ h.1 9 0 1 = nI n ∧ h.1 12 0 1 = nI n ∧ ∀ k, k < n → ∃ s, okS s ∧ h.1 34 0 k = nI s ∧ h.1 38 0 k = nI s
/-- what can be undone -/
def PA (κ : zK) (m : Nat) (h : zH) : Prop := ∃ d n, d ≤ 16 ∧ n < 16 ∧ h.1 5 0 1 = nI n ∧ h.1 5 0 2 = nI d ∧ h.1 12 0 53 = nI d ∧ ∀ i, i < d → cS κ h (5 + (n + 16 - d + i) % 16) (ur h i) ∧ gR κ m (ur h i)
/-- a line: act a of cake x, power y in the class; of x', y' in the model -/
def okL (κ : zK) (a x y a' x' y' : Int32) : Prop := a' = a ∧ ((a = 5 ∧ x = zm1 ∧ y = zm1) ∨ (∃ n, n < 5 ∧ a = nI n ∧ (∃ c, c < kC κ ∧ x = nI c ∧ x' = nI c) ∧ (n = 3 → ∃ q, q < kP κ ∧ y = nI q ∧ y' = nI q) ∧ (n ≠ 3 → y = zm1)))
/-- lines, number j -/
def LN (κ : zK) (h : zH) (j : Nat) : Prop := ∃ n, n ≤ 40 ∧ h.1 3 j 0 = nI n ∧ h.1 64 0 j = nI n ∧ ∀ k, k < n → okL κ (h.1 24 j k) (h.1 25 j k) (h.1 26 j k) (h.1 65 0 (40 * j + k)) (h.1 66 0 (40 * j + k)) (h.1 67 0 (40 * j + k))
/-- what is seen, number j -/
def SN (κ : zK) (h : zH) (j : Nat) : Prop := ∃ n, n ≤ 8 ∧ h.1 7 j 0 = nI n ∧ h.1 68 0 j = nI n ∧ ∀ k, k < n → ∃ c w t, c < kC κ ∧ 1 ≤ w ∧ w ≤ 20 ∧ t ≤ 40 ∧ h.1 28 j k = nI c ∧ h.1 29 j k = nI w ∧ h.1 30 j k = nI t ∧ h.1 69 0 (8 * j + k) = nI c ∧ h.1 70 0 (8 * j + k) = nI w ∧ h.1 71 0 (8 * j + k) = nI t
/-- the marks -/
def MX (κ : zK) (m : Nat) (h : zH) : Prop := ∀ i, i < 4 → ((tb (h.1 11 0 8) i ∧ h.1 77 0 i = 1) ∧ cS κ h (1 + i) (mr h i) ∧ gR κ m (mr h i) ∧ LN κ h (1 + i) ∧ SN κ h (1 + i)) ∨ (¬ tb (h.1 11 0 8) i ∧ h.1 77 0 i = 0)
def IW (κ : zK) (m : Nat) (h : zH) : Prop := NM κ h ∧ TB h ∧ TP h ∧ PA κ m h ∧ LN κ h 0 ∧ SN κ h 0 ∧ MX κ m h
def Inv (m : Nat) (h : zH) : Prop := ∃ κ, IV κ m h ∧ IW κ m h
/-! each piece is kept where its cells are -/
theorem NM.agr {κ : zK} {h g : zH} (q : NM κ h) (a : ∀ K k, K ∈ [13, 16, 40, 41] → g.2 K 0 k = h.2 K 0 k) : NM κ g := by
  obtain ⟨wp, wc, q1, q2⟩ := q
  refine ⟨wp, wc, fun p hp => ?_, fun c hc => ?_⟩
  · rw [a 13 p (by decide), a 40 p (by decide)]; exact q1 p hp
  · rw [a 16 c (by decide), a 41 c (by decide)]; exact q2 c hc
theorem TB.agr {h g : zH} (q : TB h) (a : ∀ k, g.2 35 0 k = h.2 35 0 k) : TB g := fun i hi => by rw [a i]; exact q i hi
theorem TP.agr {h g : zH} (q : TP h) (a1 : g.1 9 0 1 = h.1 9 0 1) (a2 : g.1 12 0 1 = h.1 12 0 1) (a : ∀ K k, K ∈ [34, 38] → g.1 K 0 k = h.1 K 0 k) : TP g := by
  obtain ⟨n, q1, q2, q3, q4⟩ := q
  refine ⟨n, q1, by rw [a1]; exact q2, by rw [a2]; exact q3, fun k hk => ?_⟩
  rw [a 34 k (by decide), a 38 k (by decide)]; exact q4 k hk
theorem PA.agr {κ : zK} {m : Nat} {h g : zH} (q : PA κ m h) (a1 : ∀ k, g.1 5 0 k = h.1 5 0 k) (a2 : g.1 12 0 53 = h.1 12 0 53) (a3 : ∀ k, g.1 76 0 k = h.1 76 0 k) (a : ∀ K j k, 5 ≤ j → j ≤ 20 → K ∈ [8, 31, 32, 33] → g.1 K j k = h.1 K j k) : PA κ m g := by
  obtain ⟨d, n, q1, q2, q3, q4, q5, q6⟩ := q
  have eu : ∀ i, ur g i = ur h i := fun i => funext (fun k => a3 _)
  refine ⟨d, n, q1, q2, by rw [a1]; exact q3, by rw [a1]; exact q4, by rw [a2]; exact q5, fun i hi => ?_⟩
  rw [eu]
  exact ⟨(q6 i hi).1.agr (fun K k hK => a K _ k (by omega) (by have := Nat.mod_lt (n + 16 - d + i) (show 0 < 16 by omega); omega) hK), (q6 i hi).2⟩
theorem LN.agr {κ : zK} {h g : zH} {j : Nat} (q : LN κ h j) (a : ∀ K k, K ∈ [3, 24, 25, 26] → g.1 K j k = h.1 K j k) (b : ∀ K k, K ∈ [64, 65, 66, 67] → g.1 K 0 k = h.1 K 0 k) : LN κ g j := by
  obtain ⟨n, q1, q2, q3, q4⟩ := q
  refine ⟨n, q1, by rw [a 3 0 (by decide)]; exact q2, by rw [b 64 j (by decide)]; exact q3, fun k hk => ?_⟩
  rw [a 24 k (by decide), a 25 k (by decide), a 26 k (by decide), b 65 _ (by decide), b 66 _ (by decide), b 67 _ (by decide)]; exact q4 k hk
theorem SN.agr {κ : zK} {h g : zH} {j : Nat} (q : SN κ h j) (a : ∀ K k, K ∈ [7, 28, 29, 30] → g.1 K j k = h.1 K j k) (b : ∀ K k, K ∈ [68, 69, 70, 71] → g.1 K 0 k = h.1 K 0 k) : SN κ g j := by
  obtain ⟨n, q1, q2, q3, q4⟩ := q
  refine ⟨n, q1, by rw [a 7 0 (by decide)]; exact q2, by rw [b 68 j (by decide)]; exact q3, fun k hk => ?_⟩
  rw [a 28 k (by decide), a 29 k (by decide), a 30 k (by decide), b 69 _ (by decide), b 70 _ (by decide), b 71 _ (by decide)]; exact q4 k hk
theorem MX.agr {κ : zK} {m : Nat} {h g : zH} (q : MX κ m h) (a1 : g.1 11 0 8 = h.1 11 0 8) (a2 : ∀ K k, K ∈ [64, 65, 66, 67, 68, 69, 70, 71, 75, 77] → g.1 K 0 k = h.1 K 0 k) (a : ∀ K j k, 1 ≤ j → j ≤ 4 → K ∈ [3, 7, 8, 24, 25, 26, 28, 29, 30, 31, 32, 33] → g.1 K j k = h.1 K j k) : MX κ m g := by
  intro i hi
  have eu : mr g i = mr h i := funext (fun k => a2 75 _ (by decide))
  rw [a1, a2 77 i (by decide), eu]
  rcases q i hi with ⟨q1, q2, q3, q4, q5⟩ | q1
  · refine Or.inl ⟨q1, q2.agr (fun K k hK => a K _ k (by omega) (by omega) ?_), q3, q4.agr (fun K k hK => a K _ k (by omega) (by omega) ?_) (fun K k hK => a2 K k ?_), q5.agr (fun K k hK => a K _ k (by omega) (by omega) ?_) (fun K k hK => a2 K k ?_)⟩
    all_goals (have := mem4 hK; simp only [List.mem_cons, List.not_mem_nil, or_false]; omega)
  · exact Or.inr q1
theorem IW.quiet {κ : zK} {m : Nat} {h g : zH} (I : IW κ m h) (q : quiet h g) : IW κ m g := by
  obtain ⟨i1, i2, i3, i4, i5, i6, i7⟩ := I
  have f : ∀ K j k, ¬ scr K j k → g.1 K j k = h.1 K j k := q.1
  have f0 : ∀ K k, K ∈ [3, 7, 24, 25, 26, 28, 29, 30, 34, 38, 64, 65, 66, 67, 68, 69, 70, 71, 75, 76, 77] → ∀ j, g.1 K j k = h.1 K j k := fun K k hK j => f K j k (by simp only [List.mem_cons, List.not_mem_nil, or_false] at hK; unfold scr; omega)
  refine ⟨i1.agr (fun K k hK => q.2 K 0 k (by have := mem4 hK; unfold scrJ; omega)), i2.agr (fun k => q.2 35 0 k (by unfold scrJ; omega)), i3.agr (f 9 0 1 (by unfold scr; omega)) (f 12 0 1 (by unfold scr; omega)) (fun K k hK => f0 K k ?_ 0), i4.agr (fun k => f 5 0 k (by unfold scr; omega)) (f 12 0 53 (by unfold scr; omega)) (fun k => f0 76 k (by decide) 0) (fun K j k h1 h2 hK => f K j k (by have := mem4 hK; unfold scr; omega)), i5.agr (fun K k hK => f0 K k ?_ 0) (fun K k hK => f0 K k ?_ 0), i6.agr (fun K k hK => f0 K k ?_ 0) (fun K k hK => f0 K k ?_ 0), i7.agr (f 11 0 8 (by unfold scr; omega)) (fun K k hK => f0 K k ?_ 0) (fun K j k h1 h2 hK => f K j k ?_)⟩
  all_goals (simp only [List.mem_cons, List.not_mem_nil, or_false] at hK; first | (unfold scr; omega) | (simp only [List.mem_cons, List.not_mem_nil, or_false]; omega))
theorem PA.mono {κ : zK} {m m' : Nat} {h : zH} (q : PA κ m h) (hm : m ≤ m') : PA κ m' h := by
  obtain ⟨d, n, q1, q2, q3, q4, q5, q6⟩ := q
  exact ⟨d, n, q1, q2, q3, q4, q5, fun i hi => ⟨(q6 i hi).1, (q6 i hi).2.mono hm⟩⟩
theorem MX.mono {κ : zK} {m m' : Nat} {h : zH} (q : MX κ m h) (hm : m ≤ m') : MX κ m' h := fun i hi => (q i hi).elim (fun z => Or.inl ⟨z.1, z.2.1, z.2.2.1.mono hm, z.2.2.2⟩) Or.inr
theorem IW.mono {κ : zK} {m m' : Nat} {h : zH} (q : IW κ m h) (hm : m ≤ m') : IW κ m' h := ⟨q.1, q.2.1, q.2.2.1, q.2.2.2.1.mono hm, q.2.2.2.2.1, q.2.2.2.2.2.1, q.2.2.2.2.2.2.mono hm⟩
theorem IV.mono {κ : zK} {m m' : Nat} {h : zH} (q : IV κ m h) (hm : m ≤ m') : IV κ m' h := ⟨q.G, q.K, q.M, q.D, q.S, q.R.mono hm⟩
/-- a call answers alike, and what holds is kept -/
def agree (fc fm : zS) (ac am : List zV) (m : Nat) (h : zH) : Prop := ∃ v h1 h2, fc ac h = some (some (.inl v), h1) ∧ fm am h1 = some (some (.inl v), h2) ∧ Inv (m + 1) h2
/-- of a call that only looks -/
theorem agree.look {fc fm : zS} {ac am : List zV} {κ : zK} {m : Nat} {h : zH} (I : IV κ m h) (J : IW κ m h) {v : Int32} {h1 h2 : zH} (e1 : fc ac h = some (some (.inl v), h1)) (q1 : quiet h h1) (e2 : fm am h1 = some (some (.inl v), h2)) (q2 : quiet h1 h2) : agree fc fm ac am m h :=
  ⟨v, h1, h2, e1, e2, κ, ((I.quiet q1).quiet q2).mono (Nat.le_succ m), ((J.quiet q1).quiet q2).mono (Nat.le_succ m)⟩
