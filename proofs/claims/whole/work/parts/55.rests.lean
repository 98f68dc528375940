/-! A basin at rest. -/
noncomputable def gn (p q r a b : Int32) : Int32 := zi (a = 1) (zi (b = 1) p (-q)) (zi (b = 1) r 0)
theorem sp_gain (a b p q r : Int32) (h : zH) : f_X11_gain [.inl a, .inl b, .inl p, .inl q, .inl r] h = some (some (.inl (gn p q r a b)), h) := by
  rw [g_X11_gain]; simp only [zfi]; rfl
theorem sm_getsBy (a b p q r : Int32) (h : zH) : f_X12_getsBy [.inl p, .inl q, .inl r, .inl a, .inl b] h = some (some (.inl (gn p q r a b)), h) := by
  rw [g_X12_getsBy]; simp only [zfi]; rfl
theorem half1 : ∀ k, k < 4 → nI k >>> ((1 : Int32) &&& 31) = nI (k / 2) := by decide +kernel
theorem half2 : ∀ k, k < 4 → nI k &&& 1 = nI (k % 2) := by decide +kernel
theorem half3 : ∀ k, k < 4 → nI k / 2 = nI (k / 2) := by decide +kernel
theorem half4 : ∀ k, k < 4 → nI k - nI (k / 2) * 2 = nI (k % 2) := by decide +kernel
/-- neither would get more by the other -/
def ar (p q r : Int32) (k : Nat) : Prop := ¬ gn p q r (nI (k / 2)) (nI (k % 2)) < gn p q r (1 - nI (k / 2)) (nI (k % 2)) ∧ ¬ gn p q r (nI (k % 2)) (nI (k / 2)) < gn p q r (1 - nI (k % 2)) (nI (k / 2))
theorem sp_isAtRest (p q r : Int32) {k : Nat} (hk : k < 4) (h : zH) : f_X11_isAtRest [.inl p, .inl q, .inl r, .inl (nI k)] h = some (some (.inl (zb (ar p q r k))), h) := by
  rw [g_X11_isAtRest, half1 k hk, half2 k hk]
  simp only [sp_gain, zci_ok, zB01, zB0b]
  rfl
theorem sp_isStake (x : Int32) (h : zH) : f_X11_isStake [.inl x] h = some (some (.inl (zb (¬ x < 0 ∧ ¬ (9 : Int32) < x))), h) := by
  rw [g_X11_isStake, zB01, zB0b]
/-- from pair k on, n found: both alike -/
def rsp (p q r x : Int32) (k n : Nat) : Prop :=
  (∃ v, (∀ o0 h, zL p_X11_rests 35 [o0, some (.inl p), some (.inl q), some (.inl r), some (.inl x), some (.inl (nI n)), some (.inl (nI k))] [] h = some (some (.inl v), h)) ∧ ∀ o7 o8 (g : zH), g.1 12 0 0 = 0 → ∃ g', zL p_X12_rests 61 [some (.inr (.inr (12, 0))), some (.inl p), some (.inl q), some (.inl r), some (.inl x), some (.inl (nI n)), some (.inl (nI k)), o7, o8] [] g = some (some (.inl v), g') ∧ g'.1 12 0 0 = 0 ∧ quiet g g' ∧ g'.2 = g.2) ∨
  ((∀ o0 h, zL p_X11_rests 35 [o0, some (.inl p), some (.inl q), some (.inl r), some (.inl x), some (.inl (nI n)), some (.inl (nI k))] [] h = some (some (.inr (.inr (99, 0))), h)) ∧ ∀ o7 o8 (g : zH), zL p_X12_rests 61 [some (.inr (.inr (12, 0))), some (.inl p), some (.inl q), some (.inl r), some (.inl x), some (.inl (nI n)), some (.inl (nI k)), o7, o8] [] g = some (some (.inl 0), zuI g 12 0 0 1))
theorem rsp_4 (p q r x : Int32) (n : Nat) : rsp p q r x 4 n := by
  by_cases e : x = zm1
  · refine Or.inl ⟨nI n, fun o0 h => ?_, fun o7 o8 g hg => ⟨zuI g 12 0 0 0, ?_, zuI_at, quiet.thrown, rfl⟩⟩
    · rw [e_X11_rests_35, zf_neg (show ¬ nI 4 < 4 by decide), zf_pos e]
    · rw [e_X12_rests_61, zf_neg (show ¬ nI 4 < 4 by decide), zf_pos e, e_X12_rests_163, zf_pos e]
  · refine Or.inr ⟨fun o0 h => ?_, fun o7 o8 g => ?_⟩
    · rw [e_X11_rests_35, zf_neg (show ¬ nI 4 < 4 by decide), zf_neg e]
    · rw [e_X12_rests_61, zf_neg (show ¬ nI 4 < 4 by decide), zf_neg e, e_X12_rests_163, zf_neg e]
theorem rsp_s (p q r x : Int32) {k : Nat} (hk : k < 4) (ih : ∀ n, rsp p q r x (k + 1) n) (n : Nat) : rsp p q r x k n := by
  have lt : nI k < 4 := nI_lt (b := 4) hk (by omega)
  have cl : ∀ o0 h, zL p_X11_rests 35 [o0, some (.inl p), some (.inl q), some (.inl r), some (.inl x), some (.inl (nI n)), some (.inl (nI k))] [] h = zf (ar p q r k) (zf (nI n = x) (some (some (.inl (nI k)), h)) (zL p_X11_rests 35 [none, some (.inl p), some (.inl q), some (.inl r), some (.inl x), some (.inl (nI (n + 1))), some (.inl (nI (k + 1)))] [] h)) (zL p_X11_rests 35 [none, some (.inl p), some (.inl q), some (.inl r), some (.inl x), some (.inl (nI n)), some (.inl (nI (k + 1)))] [] h) := fun o0 h => by
    rw [e_X11_rests_35, zf_pos lt, sp_isAtRest p q r hk, zci_ok, zf_b0, nI_1, nI_1]
  have o61 : ∀ (a b : Int32) o7 o8 (g : zH), zL p_X12_rests 61 [some (.inr (.inr (12, 0))), some (.inl p), some (.inl q), some (.inl r), some (.inl x), some (.inl a), some (.inl b), o7, o8] [] g = zL p_X12_rests 61 [some (.inr (.inr (12, 0))), some (.inl p), some (.inl q), some (.inl r), some (.inl x), some (.inl a), some (.inl b), none, none] [] g := fun a b o7 o8 g => (e_X12_rests_61 _ _ _ _ _ _ _ _ _).trans (e_X12_rests_61 _ _ _ _ _ _ _ _ _).symm
  have ml : ∀ o7 o8 (g : zH), zL p_X12_rests 61 [some (.inr (.inr (12, 0))), some (.inl p), some (.inl q), some (.inl r), some (.inl x), some (.inl (nI n)), some (.inl (nI k)), o7, o8] [] g = zf (ar p q r k) (zf (nI n = x) (some (some (.inl (nI k)), g)) (zL p_X12_rests 61 [some (.inr (.inr (12, 0))), some (.inl p), some (.inl q), some (.inl r), some (.inl x), some (.inl (nI (n + 1))), some (.inl (nI (k + 1))), none, none] [] g)) (zL p_X12_rests 61 [some (.inr (.inr (12, 0))), some (.inl p), some (.inl q), some (.inl r), some (.inl x), some (.inl (nI n)), some (.inl (nI (k + 1))), none, none] [] g) := fun o7 o8 g => by
    rw [e_X12_rests_61, zf_pos lt, half3 k hk, half4 k hk]
    simp only [sm_getsBy, zci_ok, nI_1]
    unfold ar
    by_cases e1 : gn p q r (nI (k / 2)) (nI (k % 2)) < gn p q r (1 - nI (k / 2)) (nI (k % 2))
    · rw [zf_pos e1, zf_neg (fun z => z.1 e1), o61]
    · rw [zf_neg e1]
      by_cases e2 : gn p q r (nI (k % 2)) (nI (k / 2)) < gn p q r (1 - nI (k % 2)) (nI (k / 2))
      · rw [zf_pos e2, zf_neg (fun z => z.2 e2), o61]
      · rw [zf_neg e2, zf_pos (show ¬ gn p q r (nI (k / 2)) (nI (k % 2)) < gn p q r (1 - nI (k / 2)) (nI (k % 2)) ∧ ¬ gn p q r (nI (k % 2)) (nI (k / 2)) < gn p q r (1 - nI (k % 2)) (nI (k / 2)) from ⟨e1, e2⟩), o61]
  by_cases e : ar p q r k
  · by_cases e2 : nI n = x
    · exact Or.inl ⟨nI k, fun o0 h => by rw [cl, zf_pos e, zf_pos e2], fun o7 o8 g hg => ⟨g, by rw [ml, zf_pos e, zf_pos e2], hg, quiet.rf, rfl⟩⟩
    · rcases ih (n + 1) with ⟨v, i1, i2⟩ | ⟨i1, i2⟩
      · exact Or.inl ⟨v, fun o0 h => by rw [cl, zf_pos e, zf_neg e2, i1], fun o7 o8 g hg => by
          obtain ⟨g', j1, j2⟩ := i2 none none g hg
          exact ⟨g', by rw [ml, zf_pos e, zf_neg e2, j1], j2⟩⟩
      · exact Or.inr ⟨fun o0 h => by rw [cl, zf_pos e, zf_neg e2, i1], fun o7 o8 g => by rw [ml, zf_pos e, zf_neg e2, i2]⟩
  · rcases ih n with ⟨v, i1, i2⟩ | ⟨i1, i2⟩
    · exact Or.inl ⟨v, fun o0 h => by rw [cl, zf_neg e, i1], fun o7 o8 g hg => by
        obtain ⟨g', j1, j2⟩ := i2 none none g hg
        exact ⟨g', by rw [ml, zf_neg e, j1], j2⟩⟩
    · exact Or.inr ⟨fun o0 h => by rw [cl, zf_neg e, i1], fun o7 o8 g => by rw [ml, zf_neg e, i2]⟩
theorem rsp_0 (p q r x : Int32) : rsp p q r x 0 0 := rsp_s p q r x (by omega) (rsp_s p q r x (by omega) (rsp_s p q r x (by omega) (rsp_s p q r x (by omega) (rsp_4 p q r x)))) 0
/-- where x is below NONE, it isn't found -/
theorem rsp_lo {p q r x : Int32} (hx : x < zm1) (w : rsp p q r x 0 0) : (∀ o0 h, zL p_X11_rests 35 [o0, some (.inl p), some (.inl q), some (.inl r), some (.inl x), some (.inl (nI 0)), some (.inl (nI 0))] [] h = some (some (.inr (.inr (99, 0))), h)) := by
  have ne : ∀ n : Nat, n < 100 → ¬ nI n = x := fun n hn e => by
    rw [← e, Int32.lt_iff_toInt_lt, nI_toInt (by omega)] at hx
    have : zm1.toInt = -1 := by decide
    omega
  have nz : ¬ x = zm1 := fun e => by rw [e, Int32.lt_iff_toInt_lt] at hx; omega
  have key : ∀ j, j ≤ 4 → ∀ n, n + j ≤ 8 → ∀ o0 h, zL p_X11_rests 35 [o0, some (.inl p), some (.inl q), some (.inl r), some (.inl x), some (.inl (nI n)), some (.inl (nI (4 - j)))] [] h = some (some (.inr (.inr (99, 0))), h) := by
    intro j
    induction j with
    | zero => intro _ n _ o0 h; rw [e_X11_rests_35, zf_neg (show ¬ nI (4 - 0) < 4 by decide), zf_neg nz]
    | succ j ih =>
      intro hj n hn o0 h
      rw [e_X11_rests_35, zf_pos (show nI (4 - (j + 1)) < 4 from nI_lt (b := 4) (by omega) (by omega)), sp_isAtRest p q r (by omega), zci_ok, zf_b0, zf_neg (ne n (by omega)), nI_1, nI_1, show 4 - (j + 1) + 1 = 4 - j by omega, ih (by omega) _ (by omega), ih (by omega) _ (by omega), zf_same]
  exact key 4 (by omega) 0 (by omega)
theorem quiet.out {h : zH} {v : Int64} : quiet h (zuJ h 79 0 0 v) := ⟨fun _ _ _ _ => rfl, fun K j k n => by
  show (if K = 79 ∧ j = 0 ∧ k = 0 then v else h.2 K j k) = _
  rw [if_neg (fun e => n (by unfold scrJ; omega))]⟩
/-- the call of rests: what the law asks of it -/
theorem q_rests {m : Nat} {h : zH} (I : Inv m h) (p q r x : Int32) : ∃ k v h1 h2, f_Lrests [.inr (.inr (11, 0)), .inl p, .inl q, .inl r, .inl x, .inr (.inr (79, 0))] h = some (some (.inl k), h1) ∧ f_X12_rests [.inr (.inr (12, 0)), .inl p, .inl q, .inl r, .inl x] h1 = some (some (.inl v), h2) ∧ h2.1 12 0 0 = k ∧ (k = 0 → h2.2 79 0 0 = v.toInt64) ∧ Inv (m + 1) h2 := by
  obtain ⟨κ, I, J⟩ := I
  have inv : ∀ h2, quiet h h2 → Inv (m + 1) h2 := fun h2 q => ⟨κ, (I.quiet q).mono (Nat.le_succ m), (J.quiet q).mono (Nat.le_succ m)⟩
  let st : Int32 → Prop := fun x => ¬ x < 0 ∧ ¬ (9 : Int32) < x
  have no : f_X11_rests [.inr (.inr (11, 0)), .inl p, .inl q, .inl r, .inl x] h = some (some (.inr (.inr (99, 0))), h) → f_X12_rests [.inr (.inr (12, 0)), .inl p, .inl q, .inl r, .inl x] h = some (some (.inl 0), zuI h 12 0 0 1) → ∃ k v h1 h2, f_Lrests [.inr (.inr (11, 0)), .inl p, .inl q, .inl r, .inl x, .inr (.inr (79, 0))] h = some (some (.inl k), h1) ∧ f_X12_rests [.inr (.inr (12, 0)), .inl p, .inl q, .inl r, .inl x] h1 = some (some (.inl v), h2) ∧ h2.1 12 0 0 = k ∧ (k = 0 → h2.2 79 0 0 = v.toInt64) ∧ Inv (m + 1) h2 := fun e1 e2 => ⟨1, 0, h, zuI h 12 0 0 1, by simp only [f_Lrests, e1], e2, zuI_at, fun z => absurd z (by decide), inv _ quiet.thrown⟩
  by_cases hp : st p
  · by_cases hq : st q
    · by_cases hr : st r
      · have ec : f_X11_rests [.inr (.inr (11, 0)), .inl p, .inl q, .inl r, .inl x] h = zL p_X11_rests 35 [some (.inr (.inr (11, 0))), some (.inl p), some (.inl q), some (.inl r), some (.inl x), some (.inl 0), some (.inl 0)] [] h := by
          rw [g_X11_rests, sp_isStake, zci_ok, zf_b0, zf_pos hp, sp_isStake, zci_ok, zf_b0, zf_pos hq, sp_isStake, zci_ok, zf_b0, zf_pos hr]
        have em : ∀ g : zH, f_X12_rests [.inr (.inr (12, 0)), .inl p, .inl q, .inl r, .inl x] g = zf (x < zm1) (some (some (.inl 0), zuI g 12 0 0 1)) (zL p_X12_rests 61 [some (.inr (.inr (12, 0))), some (.inl p), some (.inl q), some (.inl r), some (.inl x), some (.inl 0), some (.inl 0), none, none] [] (zuI g 12 0 0 0)) := fun g => by
          rw [g_X12_rests, sm_within, zci_ok, zf_b0, zf_pos hp, sm_within, zci_ok, zf_b0, zf_pos hq, sm_within, zci_ok, zf_b0, zf_pos hr, e_X12_rests_42, e_X12_rests_42, zf_pos rfl, zf_neg (show ¬ (0 : Int32) = 1 by decide)]
        have w := rsp_0 p q r x
        by_cases hx : x < zm1
        · refine no ?_ ?_
          · rw [ec]; exact rsp_lo hx w _ h
          · rw [em, zf_pos hx]
        · rcases w with ⟨v, w1, w2⟩ | ⟨w1, w2⟩
          · have e1 : f_X11_rests [.inr (.inr (11, 0)), .inl p, .inl q, .inl r, .inl x] h = some (some (.inl v), h) := by rw [ec]; exact w1 _ h
            obtain ⟨g', j1, j2, j3, j4⟩ := w2 none none (zuI (zuJ h 79 0 0 v.toInt64) 12 0 0 0) zuI_at
            refine ⟨0, v, zuJ h 79 0 0 v.toInt64, g', by simp only [f_Lrests, e1], ?_, j2, fun _ => ?_, inv _ (quiet.out.trans (quiet.thrown.trans j3))⟩
            · rw [em, zf_neg hx]; exact j1
            · have e79 : g'.2 79 0 0 = (zuI (zuJ h 79 0 0 v.toInt64) 12 0 0 0).2 79 0 0 := by
                rw [j4]
              rw [e79]
              show (if (79 = 79 ∧ 0 = 0 ∧ 0 = 0) then v.toInt64 else h.2 79 0 0) = _
              rw [if_pos ⟨rfl, rfl, rfl⟩]
          · refine no ?_ ?_
            · rw [ec]; exact w1 _ h
            · rw [em, zf_neg hx]
              have : zuI (zuI h 12 0 0 0) 12 0 0 1 = zuI h 12 0 0 1 := by
                refine Prod.ext (funext (fun K => funext (fun j => funext (fun k => ?_)))) rfl
                by_cases e : K = 12 ∧ j = 0 ∧ k = 0
                · obtain ⟨rfl, rfl, rfl⟩ := e; rw [zuI_at, zuI_at]
                · rw [zuI_o e, zuI_o e, zuI_o e]
              rw [← this]; exact w2 none none _
      · refine no ?_ ?_
        · rw [g_X11_rests, sp_isStake, zci_ok, zf_b0, zf_pos hp, sp_isStake, zci_ok, zf_b0, zf_pos hq, sp_isStake, zci_ok, zf_b0, zf_neg hr]
        · rw [g_X12_rests, sm_within, zci_ok, zf_b0, zf_pos hp, sm_within, zci_ok, zf_b0, zf_pos hq, sm_within, zci_ok, zf_b0, zf_neg hr, e_X12_rests_42, zf_pos rfl]
    · refine no ?_ ?_
      · rw [g_X11_rests, sp_isStake, zci_ok, zf_b0, zf_pos hp, sp_isStake, zci_ok, zf_b0, zf_neg hq]
      · rw [g_X12_rests, sm_within, zci_ok, zf_b0, zf_pos hp, sm_within, zci_ok, zf_b0, zf_neg hq, e_X12_rests_42, zf_pos rfl]
  · refine no ?_ ?_
    · rw [g_X11_rests, sp_isStake, zci_ok, zf_b0, zf_neg hp]
    · rw [g_X12_rests, sm_within, zci_ok, zf_b0, zf_neg hp, e_X12_rests_42, zf_pos rfl]
