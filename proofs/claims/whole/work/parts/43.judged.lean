/-! Lines carried out; judged; count. -/
theorem freshR_gR {κ : zK} (G : gK κ) (r : zRo) : gR κ 0 (fun k => if k < 24 then freshR κ k else r k) := by
  have h7 := G.2.1
  refine ⟨fun c hc => ?_, fun c h1 h2 => ?_⟩
  · obtain ⟨-, ⟨w, w1, w2⟩, ⟨t, t1, t2⟩, -⟩ := G.2.2 c hc
    refine ⟨⟨w, w1, ?_⟩, ⟨t, t1, ?_⟩, 0, Nat.le_refl _, ?_⟩
    · dsimp only; rw [if_pos (by omega)]; unfold freshR; rw [if_neg (by omega), if_pos (by omega), show 10 + c - 10 = c by omega]; exact w2
    · dsimp only; rw [if_pos (by omega)]; unfold freshR; rw [if_pos (by omega), show 3 + c - 3 = c by omega]; exact t2
    · dsimp only; rw [if_pos (by omega)]; unfold freshR; rw [if_neg (by omega), if_neg (by omega)]; rfl
  · dsimp only; rw [if_pos (by omega)]; unfold freshR; rw [if_neg (by omega), if_neg (by omega)]
theorem ml_fresh0 {κ : zK} {h : zH} (M : mK κ h) (G : gK κ) : ∃ g, f_X12_fresh0 [.inr (.inr (12, 0))] h = some (none, g) ∧ zsame [(72, 0)] h g ∧ g.1 72 0 = fun k => if k < 24 then freshR κ k else h.1 72 0 k := by
  have h7 := G.2.1
  rw [g_X12_fresh0]
  obtain ⟨g1, e1, e2, e3⟩ := zloopE (fun i (g : zH) => zL p_X12_fresh0 2 [some (.inr (.inr (12, 0))), some (.inl (nI i))] [] g)
    (fun i g => zsame [(72, 0)] h g ∧ ∀ k, g.1 72 0 k = if k < i then 0 else h.1 72 0 k) 24 h ⟨zsame.rf, fun k => by rw [if_neg (by omega)]⟩ (fun i g hi q => by
      obtain ⟨q1, q2⟩ := q
      rw [e_X12_fresh0_2, zf_pos (show nI i < 24 from nI_lt (b := 24) hi (by omega)), zfx (by omega) (by omega), nI_clamp (by omega), nI_1]
      refine ⟨_, rfl, q1.set (by simp), fun k => ?_⟩
      by_cases e : k = i
      · rw [e, zuI_at, if_pos (by omega)]
      · rw [zuI_ne e, q2 k]
        by_cases e2 : k < i
        · rw [if_pos e2, if_pos (by omega)]
        · rw [if_neg e2, if_neg (by omega)])
  obtain ⟨g2, f1, f2, f3⟩ := zloopE (fun i (g : zH) => zL p_X12_fresh0 23 [some (.inr (.inr (12, 0))), some (.inl (nI i))] [] g)
    (fun i g => zsame [(72, 0)] h g ∧ ∀ k, g.1 72 0 k = if 3 ≤ k ∧ k < 3 + i then kTh κ (k - 3) else if 10 ≤ k ∧ k < 10 + i then kTo κ (k - 10) else if k < 24 then 0 else h.1 72 0 k) (kC κ) g1 ⟨e2, fun k => by rw [if_neg (by omega), if_neg (by omega)]; exact e3 k⟩ (fun i g hi q => by
      obtain ⟨q1, q2⟩ := q
      have Mg : mK κ g := M.same G q1.1 (by decide)
      obtain ⟨m1, m2, m3, m4, m5⟩ := Mg.2.2.2.2.1 i hi
      rw [e_X12_fresh0_23, Mg.2.1, zf_pos (nI_lt hi (by omega)), z3, z10]
      simp only [zfx (show i < 14 by omega) (show 14 < 2 ^ 31 by omega), zfx (show 3 + i < 24 by omega) (show 24 < 2 ^ 31 by omega), zfx (show 10 + i < 24 by omega) (show 24 < 2 ^ 31 by omega), nI_clamp (show i < 2 ^ 31 by omega), nI_clamp (show 3 + i < 2 ^ 31 by omega), nI_clamp (show 10 + i < 2 ^ 31 by omega), m2, m3, nI_1]
      refine ⟨_, rfl, (q1.set (by simp)).set (by simp), fun k => ?_⟩
      by_cases a : k = 10 + i
      · rw [a, zuI_at, if_neg (by omega), if_pos (by omega), show 10 + i - 10 = i by omega]
      · rw [zuI_ne a]
        by_cases b : k = 3 + i
        · rw [b, zuI_at, if_pos (by omega), show 3 + i - 3 = i by omega]
        · rw [zuI_ne b, q2 k]
          by_cases c : 3 ≤ k ∧ k < 3 + i
          · rw [if_pos c, if_pos (by omega)]
          · rw [if_neg c, if_neg (show ¬ (3 ≤ k ∧ k < 3 + (i + 1)) by omega)]
            by_cases d : 10 ≤ k ∧ k < 10 + i
            · rw [if_pos d, if_pos (by omega)]
            · rw [if_neg d, if_neg (show ¬ (10 ≤ k ∧ k < 10 + (i + 1)) by omega)])
  have e1 : zL p_X12_fresh0 2 [some (.inr (.inr (12, 0))), some (.inl 0)] [] h = zL p_X12_fresh0 2 [some (.inr (.inr (12, 0))), some (.inl (nI 24))] [] g1 := e1
  have f1 : zL p_X12_fresh0 23 [some (.inr (.inr (12, 0))), some (.inl 0)] [] g1 = zL p_X12_fresh0 23 [some (.inr (.inr (12, 0))), some (.inl (nI (kC κ)))] [] g2 := f1
  have Mg : mK κ g2 := M.same G f2.1 (by decide)
  refine ⟨g2, ?_, f2, ?_⟩
  · rw [e1, e_X12_fresh0_2, zf_neg (show ¬ nI 24 < 24 by decide), f1, e_X12_fresh0_23, Mg.2.1, zf_neg (nI_nlt' (by omega))]
  · funext k
    rw [f3 k]
    unfold freshR
    by_cases c : 3 ≤ k ∧ k < 3 + kC κ
    · rw [if_pos c, if_pos (by omega), if_pos c]
    · rw [if_neg c]
      by_cases d : 10 ≤ k ∧ k < 10 + kC κ
      · rw [if_pos d, if_pos (by omega), if_neg c, if_pos d]
      · rw [if_neg d, if_neg c, if_neg d]
/-- a line carried out, if it can be -/
noncomputable def goR (κ : zK) (r : zRo) (a : Nat) (x y : Int32) : zRo := @ite _ (canR κ r a x y) (Classical.propDecidable _) (doR κ r a x y) r
theorem goR_gR {κ : zK} {m a : Nat} {r : zRo} {x y : Int32} (R : gR κ m r) (G : gK κ) (ha : a ≤ 5) : gR κ (m + 1) (goR κ r a x y) := by
  unfold goR
  by_cases e : canR κ r a x y
  · rw [zite_pos e]; exact R.act G.1 G.2.1 ha e
  · rw [zite_neg e]; exact R.mono (Nat.le_succ m)
theorem ml_goes {κ : zK} {h : zH} {m k : Nat} {a x y : Int32} (M : mK κ h) (G : gK κ) (R : gR κ m (h.1 72 0)) (D : h.1 12 0 54 = 0) (hk : k < 240) (L : okL κ a x y (h.1 65 0 k) (h.1 66 0 k) (h.1 67 0 k)) : ∃ n, n ≤ 5 ∧ a = nI n ∧ ∃ g, f_X12_goes [.inr (.inr (12, 0)), .inl (nI k)] h = some (some (.inl (zb (canR κ (h.1 72 0) n x y))), g) ∧ zsame Ww h g ∧ g.1 72 0 = goR κ (h.1 72 0) n x y := by
  have h5 := G.1
  have h7 := G.2.1
  obtain ⟨L0, L⟩ := L
  rw [g_X12_goes]
  simp only [zfx (show k < 240 by omega) (show 240 < 2 ^ 31 by omega), nI_clamp (show k < 2 ^ 31 by omega), L0]
  rcases L with ⟨rfl, rfl, rfl⟩ | ⟨n, hn, rfl, ⟨c, hc, rfl, L1⟩, L2, L3⟩
  · refine ⟨5, by omega, rfl, ?_⟩
    obtain ⟨g, e1, e2, e3⟩ := sm_passes0 M G R D
    have cc : canR κ (h.1 72 0) 5 zm1 zm1 := by unfold canR; rw [if_pos rfl]; trivial
    rw [zf_neg (show ¬ (5 : Int32) = 0 by decide), zf_neg (show ¬ (5 : Int32) = 1 by decide), zf_neg (show ¬ (5 : Int32) = 2 by decide), zf_neg (show ¬ (5 : Int32) = 3 by decide), zf_neg (show ¬ (5 : Int32) = 4 by decide), e1, zci_ok, zb_pos cc]
    refine ⟨g, rfl, e2, ?_⟩
    unfold goR
    rw [zite_pos cc, e3]
    unfold doR
    rw [if_pos rfl]
  · refine ⟨n, by omega, rfl, ?_⟩
    have hx : isC κ (nI c) := isC_nI h7 hc
    have hcn : (nI c).toNatClampNeg = c := nI_clamp (by omega)
    obtain ⟨⟨p, hp, o⟩, ⟨t, ht, o2⟩, -⟩ := R.1 c hc
    rw [L1]
    match n, hn, L2 with
    | 0, _, L2 =>
      have cc : canR κ (h.1 72 0) 0 (nI c) y ↔ (0 < h.1 72 0 (3 + c) ∧ ¬ tb (h.1 72 0 2) c) := by
        unfold canR
        rw [if_neg (by decide), if_neg (by decide), if_neg (by decide), if_neg (by decide), hcn]
        exact ⟨fun z => z.2, fun z => ⟨hx, z⟩⟩
      rw [zf_pos (show nI 0 = 0 by decide), sm_canWash (by omega), tb_f, zci_ok, zf_b0, zb_congr cc]
      by_cases e : 0 < h.1 72 0 (3 + c) ∧ ¬ tb (h.1 72 0 2) c
      · have e9 := cc.mpr e
        obtain ⟨g, e1, e2, e3⟩ := sm_washes M G hc hp o (show t < 2 ^ 30 by omega) o2
        rw [zf_pos e, e1, zcv_ok, zb_pos e]
        refine ⟨g, rfl, e2, ?_⟩
        unfold goR
        rw [zite_pos e9, e3]
        unfold doR
        rw [if_neg (by decide), if_pos rfl, hcn]
      · have e9 : ¬ canR κ (h.1 72 0) 0 (nI c) y := fun z => e (cc.mp z)
        rw [zf_neg e, zb_neg e]
        exact ⟨h, rfl, zsame.rf, by unfold goR; rw [zite_neg e9]⟩
    | 1, _, L2 =>
      have cc : canR κ (h.1 72 0) 1 (nI c) y ↔ (0 < h.1 72 0 (3 + c) ∧ ¬ tb (h.1 72 0 2) c) := by
        unfold canR
        rw [if_neg (by decide), if_neg (by decide), if_neg (by decide), if_neg (by decide), hcn]
        exact ⟨fun z => z.2, fun z => ⟨hx, z⟩⟩
      rw [zf_neg (show ¬ nI 1 = 0 by decide), zf_pos (show nI 1 = 1 by decide), sm_canWash (by omega), tb_f, zci_ok, zf_b0, zb_congr cc]
      by_cases e : 0 < h.1 72 0 (3 + c) ∧ ¬ tb (h.1 72 0 2) c
      · have e9 := cc.mpr e
        rw [zf_pos e, zb_pos e]
        refine ⟨_, rfl, zsame.rf.set (by simp), ?_⟩
        unfold goR
        rw [zite_pos e9]
        unfold doR
        rw [if_neg (by decide), if_neg (by decide), if_pos rfl]
        rw [zuI_row]
      · have e9 : ¬ canR κ (h.1 72 0) 1 (nI c) y := fun z => e (cc.mp z)
        rw [zf_neg e, zb_neg e]
        exact ⟨h, rfl, zsame.rf, by unfold goR; rw [zite_neg e9]⟩
    | 2, _, L2 =>
      have cc : canR κ (h.1 72 0) 2 (nI c) y ↔ (tb (h.1 72 0 2) c) := by
        unfold canR
        rw [if_neg (by decide), if_pos rfl, hcn]
        exact ⟨fun z => z.2, fun z => ⟨hx, z⟩⟩
      rw [zf_neg (show ¬ nI 2 = 0 by decide), zf_neg (show ¬ nI 2 = 1 by decide), zf_pos (show nI 2 = 2 by decide), sm_hasHair, tb_f, zci_ok, zf_b0, zb_congr cc]
      by_cases e : tb (h.1 72 0 2) c
      · have e9 := cc.mpr e
        rw [zf_pos e, zb_pos e]
        refine ⟨_, rfl, zsame.rf.set (by simp), ?_⟩
        unfold goR
        rw [zite_pos e9]
        unfold doR
        rw [if_neg (by decide), if_neg (by decide), if_neg (by decide), if_pos rfl]
        rw [zuI_row]
      · have e9 : ¬ canR κ (h.1 72 0) 2 (nI c) y := fun z => e (cc.mp z)
        rw [zf_neg e, zb_neg e]
        exact ⟨h, rfl, zsame.rf, by unfold goR; rw [zite_neg e9]⟩
    | 3, _, L2 =>
      obtain ⟨q, hq, rfl, L4⟩ := L2 rfl
      rw [L4]
      have cc : canR κ (h.1 72 0) 3 (nI c) (nI q) ↔ (0 < h.1 72 0 (3 + c) ∧ ¬ h.1 72 0 (10 + c) = nI q) := by
        unfold canR
        rw [if_neg (by decide), if_neg (by decide), if_pos rfl, hcn]
        exact ⟨fun z => ⟨z.2.1, fun e => z.2.2.2 e.symm⟩, fun z => ⟨hx, z.1, isP_nI h5 hq, fun e => z.2 e.symm⟩⟩
      rw [zf_neg (show ¬ nI 3 = 0 by decide), zf_neg (show ¬ nI 3 = 1 by decide), zf_neg (show ¬ nI 3 = 2 by decide), zf_pos (show nI 3 = 3 by decide), sm_canGift (by omega), zci_ok, zf_b0, zb_congr cc]
      by_cases e : 0 < h.1 72 0 (3 + c) ∧ ¬ h.1 72 0 (10 + c) = nI q
      · have e9 := cc.mpr e
        rw [zf_pos e, z10, zfx (by omega) (by omega), nI_clamp (by omega), L4, zb_pos e]
        refine ⟨_, rfl, zsame.rf.set (by simp), ?_⟩
        unfold goR
        rw [zite_pos e9]
        unfold doR
        rw [if_neg (by decide), if_neg (by decide), if_neg (by decide), if_neg (by decide), if_pos rfl, hcn]
        rw [zuI_row]
      · have e9 : ¬ canR κ (h.1 72 0) 3 (nI c) (nI q) := fun z => e (cc.mp z)
        rw [zf_neg e, zb_neg e]
        exact ⟨h, rfl, zsame.rf, by unfold goR; rw [zite_neg e9]⟩
    | 4, _, L2 =>
      have cc : canR κ (h.1 72 0) 4 (nI c) y ↔ (0 < h.1 72 0 (3 + c) ∧ 0 < h.1 72 0 (17 + c)) := by
        unfold canR
        rw [if_neg (by decide), if_neg (by decide), if_neg (by decide), if_pos rfl, hcn]
        exact ⟨fun z => z.2, fun z => ⟨hx, z⟩⟩
      rw [zf_neg (show ¬ nI 4 = 0 by decide), zf_neg (show ¬ nI 4 = 1 by decide), zf_neg (show ¬ nI 4 = 2 by decide), zf_neg (show ¬ nI 4 = 3 by decide), zf_pos (show nI 4 = 4 by decide), sm_canPress (by omega), zci_ok, zf_b0, zb_congr cc]
      by_cases e : 0 < h.1 72 0 (3 + c) ∧ 0 < h.1 72 0 (17 + c)
      · have e9 := cc.mpr e
        rw [zf_pos e, sm_presses (by omega), zcv_ok, zb_pos e]
        refine ⟨_, rfl, (zsame.rf.set (by simp)).set (by simp), ?_⟩
        unfold goR
        rw [zite_pos e9]
        unfold doR
        rw [if_neg (by decide), if_neg (by decide), if_neg (by decide), if_neg (by decide), if_neg (by decide), hcn]
        rw [zuI_row, zuI_row]
        funext k9
        by_cases b1 : k9 = 3 + c
        · rw [if_pos b1, if_neg (by omega), if_pos b1]
        · rw [if_neg b1, if_neg b1]
      · have e9 : ¬ canR κ (h.1 72 0) 4 (nI c) y := fun z => e (cc.mp z)
        rw [zf_neg e, zb_neg e]
        exact ⟨h, rfl, zsame.rf, by unfold goR; rw [zite_neg e9]⟩
theorem doR_hi {κ : zK} {r : zRo} {a j : Nat} {x y : Int32} (h7 : kC κ ≤ 7) (hc : canR κ r a x y) (hj : 24 ≤ j) : doR κ r a x y j = r j := by
  unfold doR
  unfold canR at hc
  by_cases e5 : a = 5
  · rw [if_pos e5]; exact weekR_hi h7 hj
  · rw [if_neg e5] at hc ⊢
    obtain ⟨c, hcc, rfl⟩ := hc.1.have h7
    rw [nI_clamp (by omega)]
    by_cases e0 : a = 0
    · rw [if_pos e0]; unfold washR; rw [if_neg (by omega), if_neg (by omega)]
    · rw [if_neg e0]
      by_cases e1 : a = 1
      · rw [if_pos e1]; rw [if_neg (by omega)]
      · rw [if_neg e1]
        by_cases e2 : a = 2
        · rw [if_pos e2]; rw [if_neg (by omega)]
        · rw [if_neg e2]
          by_cases e3 : a = 3
          · rw [if_pos e3]; rw [if_neg (by omega)]
          · rw [if_neg e3]; rw [if_neg (by omega), if_neg (by omega)]
/-! judged -/
theorem LN.at {κ : zK} {h : zH} {j k n : Nat} (h3 : h.1 3 j 0 = nI n) (hn : n ≤ 40) (q : LN κ h j) (hk : k < n) : okL κ (h.1 24 j k) (h.1 25 j k) (h.1 26 j k) (h.1 65 0 (40 * j + k)) (h.1 66 0 (40 * j + k)) (h.1 67 0 (40 * j + k)) := by
  obtain ⟨n', q1, q2, q3, q4⟩ := q
  rw [h3, nI_eq (by omega) (by omega)] at q2
  exact q4 k (by omega)
theorem zm1_or {c : Int32} (h : c = zm1 ∨ ∃ j, j < 100 ∧ c = nI j) : c < 0 ↔ c = zm1 := by
  rcases h with rfl | ⟨j, hj, rfl⟩
  · exact ⟨fun _ => rfl, fun _ => by decide⟩
  · exact ⟨fun z => absurd z (nI_pos (by omega)), fun z => by rw [z]; decide⟩
/-- the act of a line -/
theorem okL.act {κ : zK} {a x y a' x' y' : Int32} (L : okL κ a x y a' x' y') : ∃ n, n ≤ 5 ∧ a = nI n := by
  rcases L.2 with ⟨h, -⟩ | ⟨n, hn, h, -⟩
  · exact ⟨5, by omega, h⟩
  · exact ⟨n, by omega, h⟩
theorem q_judged {m : Nat} {h : zH} (I : Inv m h) (x : Int32) : agree f_X11_judged f_X12_judged [.inr (.inr (11, 0)), .inl x] [.inr (.inr (12, 0)), .inl x] m h := by
  obtain ⟨κ, I, J⟩ := I
  have h7 := I.h7
  have G := I.G
  by_cases hx : ¬ x < 0 ∧ ¬ (2 : Int32) < x
  · obtain ⟨N, hN, L1, L2, L3⟩ := J.2.2.2.2.1
    let A : Nat → Nat := fun k => (h.1 24 0 k).toNatClampNeg
    have hA : ∀ k, k < N → A k ≤ 5 ∧ h.1 24 0 k = nI (A k) := fun k hk => by
      obtain ⟨n, n1, n2⟩ := (L3 k hk).act
      show (h.1 24 0 k).toNatClampNeg ≤ 5 ∧ _ = nI (h.1 24 0 k).toNatClampNeg
      rw [n2, nI_clamp (by omega)]; exact ⟨n1, rfl⟩
    let fd : zRo → Prop := fun r => ∃ c, c < kC κ ∧ (¬ kPe κ c = zm1 ∧ ¬ kPe κ c < r (3 + c))
    let nx : Nat → (Int32 × Int32) × zRo → (Int32 × Int32) × zRo := fun k s => ((zi (¬ canR κ s.2 (A k) (h.1 25 0 k) (h.1 26 0 k) ∧ s.1.1 = zm1) (nI k) s.1.1, zi (s.1.2 = zm1 ∧ fd (goR κ s.2 (A k) (h.1 25 0 k) (h.1 26 0 k))) (nI k) s.1.2), goR κ s.2 (A k) (h.1 25 0 k) (h.1 26 0 k))
    let r0 : zRo := fun k => if k < 24 then freshR κ k else h.1 72 0 k
    have hr : ∀ k, k ≤ N → gR κ k (zit nx ((zm1, zm1), r0) k).2 := fun k => by
      induction k with
      | zero => intro _; exact freshR_gR G _
      | succ k ih => intro hk; exact goR_gR (ih (by omega)) G (hA k (by omega)).1
    have hv : ∀ k, k ≤ N → ((zit nx ((zm1, zm1), r0) k).1.1 = zm1 ∨ ∃ j, j < 100 ∧ (zit nx ((zm1, zm1), r0) k).1.1 = nI j) ∧ ((zit nx ((zm1, zm1), r0) k).1.2 = zm1 ∨ ∃ j, j < 100 ∧ (zit nx ((zm1, zm1), r0) k).1.2 = nI j) := fun k => by
      induction k with
      | zero => intro _; exact ⟨Or.inl rfl, Or.inl rfl⟩
      | succ k ih =>
        intro hk
        obtain ⟨i1, i2⟩ := ih (by omega)
        refine ⟨?_, ?_⟩
        · show zi (¬ canR κ _ (A k) (h.1 25 0 k) (h.1 26 0 k) ∧ _ = zm1) (nI k) _ = zm1 ∨ ∃ j, j < 100 ∧ zi (¬ canR κ _ (A k) (h.1 25 0 k) (h.1 26 0 k) ∧ _ = zm1) (nI k) _ = nI j
          by_cases e : ¬ canR κ (zit nx ((zm1, zm1), r0) k).2 (A k) (h.1 25 0 k) (h.1 26 0 k) ∧ (zit nx ((zm1, zm1), r0) k).1.1 = zm1
          · rw [zi_pos e]; exact Or.inr ⟨k, by omega, rfl⟩
          · rw [zi_neg e]; exact i1
        · show zi (_ = zm1 ∧ fd _) (nI k) _ = zm1 ∨ ∃ j, j < 100 ∧ zi (_ = zm1 ∧ fd _) (nI k) _ = nI j
          by_cases e : (zit nx ((zm1, zm1), r0) k).1.2 = zm1 ∧ fd (goR κ (zit nx ((zm1, zm1), r0) k).2 (A k) (h.1 25 0 k) (h.1 26 0 k))
          · rw [zi_pos e]; exact Or.inr ⟨k, by omega, rfl⟩
          · rw [zi_neg e]; exact i2
    generalize hz : zit nx ((zm1, zm1), r0) = Z at hr hv
    have Zs : ∀ k, Z (k + 1) = nx k (Z k) := fun k => by rw [← hz]; rfl
    -- the class
    obtain ⟨ga, a1, a2, a3⟩ := cl_begin (j := 21) I.K
    have qa : quiet h ga := qS21 a2 (by simp)
    have a3 : cS κ ga 21 r0 := a3.row h7 (fun k hk => if_pos hk)
    have o35 : ∀ (b c d : Int32) o6 (g : zH), zL p_X11_judged 35 [some (.inr (.inr (11, 0))), some (.inl x), some (.inl b), some (.inl c), some (.inr (.inr (3, 0))), some (.inl d), o6] [] g = zL p_X11_judged 35 [some (.inr (.inr (11, 0))), some (.inl x), some (.inl b), some (.inl c), some (.inr (.inr (3, 0))), some (.inl d), none] [] g := fun b c d o6 g => (e_X11_judged_35 _ _ _ _ _ _ _).trans (e_X11_judged_35 _ _ _ _ _ _ _).symm
    obtain ⟨g, e1, e2, e3⟩ := zloopE (fun k (g : zH) => zL p_X11_judged 35 [some (.inr (.inr (11, 0))), some (.inl x), some (.inl (Z k).1.1), some (.inl (Z k).1.2), some (.inr (.inr (3, 0))), some (.inl (nI k)), none] [] g)
      (fun k g => quiet h g ∧ cS κ g 21 (Z k).2) N ga ⟨qa, by rw [← hz]; exact a3⟩ (fun k g hk q => by
        obtain ⟨q1, q2⟩ := q
        have Ig := I.quiet q1
        have f : ∀ K k, K ∈ [3, 24, 25, 26] → g.1 K 0 k = h.1 K 0 k := fun K k hK => q1.1 K 0 k (by have := mem4 hK; unfold scr; omega)
        obtain ⟨A1, A2⟩ := hA k hk
        rw [e_X11_judged_35, f 3 0 (by decide), L1, zf_pos (nI_lt hk (by omega)), zfx (by omega) (by omega), zfx (by omega) (by omega), zfx (by omega) (by omega), nI_clamp (by omega), f 24 k (by decide), f 25 k (by decide), f 26 k (by decide), A2]
        obtain ⟨g2, b1, b2, b3⟩ := cl_attempt Ig.K q2 (hr k (by omega)) (A k) A1 (h.1 25 0 k) (h.1 26 0 k)
        have q3 : quiet h g2 := q1.trans (qS21 b2 (fun p hp => hp))
        have I2 := I.quiet q3
        have b3 : cS κ g2 21 (goR κ (Z k).2 (A k) (h.1 25 0 k) (h.1 26 0 k)) := b3
        have fin : ∀ (b : Int32) o6, zL p_X11_judged 91 [some (.inr (.inr (11, 0))), some (.inl x), some (.inl b), some (.inl (Z k).1.2), some (.inr (.inr (3, 0))), some (.inl (nI k)), o6] [] g2 = zL p_X11_judged 35 [some (.inr (.inr (11, 0))), some (.inl x), some (.inl b), some (.inl (Z (k + 1)).1.2), some (.inr (.inr (3, 0))), some (.inl (nI (k + 1))), none] [] g2 := fun b o6 => by
          have z2 : (Z (k + 1)).1.2 = zi ((Z k).1.2 = zm1 ∧ fd (goR κ (Z k).2 (A k) (h.1 25 0 k) (h.1 26 0 k))) (nI k) (Z k).1.2 := by rw [Zs]
          rw [e_X11_judged_91, cl_isAnyFound I2.K b3, zci_ok, zf_b0, nI_1, z2]
          by_cases u1 : (Z k).1.2 = zm1
          · rw [zf_pos u1]
            by_cases u2 : fd (goR κ (Z k).2 (A k) (h.1 25 0 k) (h.1 26 0 k))
            · rw [zf_pos u2, zi_pos ⟨u1, u2⟩]
            · rw [zf_neg u2, zi_neg (fun z => u2 z.2)]
          · rw [zf_neg u1, zi_neg (fun z => u1 z.1)]
        rw [b1, zci_ok, zf_b0, fin, fin]
        refine ⟨g2, ?_, q3, by rw [Zs]; exact b3⟩
        have z1 : (Z (k + 1)).1.1 = zi (¬ canR κ (Z k).2 (A k) (h.1 25 0 k) (h.1 26 0 k) ∧ (Z k).1.1 = zm1) (nI k) (Z k).1.1 := by rw [Zs]
        rw [z1]
        by_cases u1 : canR κ (Z k).2 (A k) (h.1 25 0 k) (h.1 26 0 k)
        · rw [zf_pos u1, zi_neg (fun z => z.1 u1)]
        · rw [zf_neg u1]
          by_cases u2 : (Z k).1.1 = zm1
          · rw [zf_pos u2, zi_pos ⟨u1, u2⟩]
          · rw [zf_neg u2, zi_neg (fun z => u2 z.2)])
    have I1 : IV κ m (zuI g 12 0 0 0) := (I.quiet e2).quiet quiet.thrown
    have r1 : (zuI g 12 0 0 0).1 72 0 = h.1 72 0 := by rw [hr0]; exact e2.row
    have q1 : quiet h (zuI g 12 0 0 0) := e2.trans quiet.thrown
    -- the model
    obtain ⟨gb, b1, b2, b3⟩ := sm_aside (K1 := 73) (zuI g 12 0 0 0) (Or.inl rfl)
    have Mb : mK κ gb := I1.M.same G b2.1 (by decide)
    obtain ⟨gc, c1, c2, c3⟩ := ml_fresh0 Mb G
    have rb : gb.1 72 0 = h.1 72 0 := by rw [← r1]; exact funext (fun k => b2.1 72 0 k (by decide))
    rw [rb] at c3
    have fdE : ∀ r : zRo, (∃ c, c < kC κ ∧ (¬ kPe κ c < 0 ∧ ¬ kPe κ c < r (3 + c))) ↔ fd r := fun r => exists_congr (fun c => and_congr_right (fun hc => by rw [(G.pe hc).1]))
    obtain ⟨g', f1, f2, f3⟩ := zloopE (fun k (g : zH) => zL p_X12_judged 41 [some (.inr (.inr (12, 0))), some (.inl x), some (.inl (Z k).1.1), some (.inl (Z k).1.2), some (.inl (nI k))] [] g)
      (fun k g => zsame Ww gc g ∧ g.1 72 0 = (Z k).2) N gc ⟨zsame.rf, by rw [← hz]; exact c3⟩ (fun k g9 hk q => by
        obtain ⟨p1, p2⟩ := q
        have Mg : mK κ g9 := (Mb.same G c2.1 (by decide)).same G p1.1 (by decide)
        have Rg : gR κ k (g9.1 72 0) := by rw [p2]; exact hr k (by omega)
        have Dg : g9.1 12 0 54 = 0 := by rw [p1.1 12 0 54 (by decide), c2.1 12 0 54 (by decide), b2.1 12 0 54 (by decide)]; exact I1.D
        have f : ∀ K k, K ∈ [64, 65, 66, 67] → g9.1 K 0 k = h.1 K 0 k := fun K k hK => by
          rw [← q1.1 K 0 k (by have := mem4 hK; unfold scr; omega)]
          rcases mem4 hK with e | e | e | e <;> subst e <;> rw [p1.1 _ 0 k (by decide), c2.1 _ 0 k (by decide), b2.1 _ 0 k (by decide)]
        have Lk := L3 k hk
        rw [show 40 * 0 + k = k by omega] at Lk
        obtain ⟨A1, A2⟩ := hA k hk
        obtain ⟨n, n1, n2, g2, d1, d2, d3⟩ := ml_goes (k := k) Mg G Rg Dg (by omega) (by rw [f 65 k (by decide), f 66 k (by decide), f 67 k (by decide)]; exact Lk)
        have en : n = A k := by rw [A2, nI_eq (by omega) (by omega)] at n2; exact n2.symm
        subst en
        rw [p2] at d1 d3
        have Mg2 : mK κ g2 := Mg.same G d2.1 (by decide)
        have fin : ∀ (b : Int32), zL p_X12_judged 68 [some (.inr (.inr (12, 0))), some (.inl x), some (.inl b), some (.inl (Z k).1.2), some (.inl (nI k))] [] g2 = zL p_X12_judged 41 [some (.inr (.inr (12, 0))), some (.inl x), some (.inl b), some (.inl (Z (k + 1)).1.2), some (.inl (nI (k + 1)))] [] g2 := fun b => by
          have z2 : (Z (k + 1)).1.2 = zi ((Z k).1.2 = zm1 ∧ fd (goR κ (Z k).2 (A k) (h.1 25 0 k) (h.1 26 0 k))) (nI k) (Z k).1.2 := by rw [Zs]
          rw [e_X12_judged_68, ml_isSomeFound Mg2 G, zci_ok, zf_b0, d3, zfc (fdE _), zfc (zm1_or (hv k (by omega)).2), nI_1, z2]
          by_cases u1 : (Z k).1.2 = zm1
          · rw [zf_pos u1]
            by_cases u2 : fd (goR κ (Z k).2 (A k) (h.1 25 0 k) (h.1 26 0 k))
            · rw [zf_pos u2, zi_pos ⟨u1, u2⟩]
            · rw [zf_neg u2, zi_neg (fun z => u2 z.2)]
          · rw [zf_neg u1, zi_neg (fun z => u1 z.1)]
        rw [e_X12_judged_41, f 64 0 (by decide), L2, zf_pos (nI_lt hk (by omega)), d1, zci_ok, zf_b0, fin, fin, zfc (zm1_or (hv k (by omega)).1)]
        refine ⟨g2, ?_, p1.trans d2, by rw [d3, Zs]⟩
        have z1 : (Z (k + 1)).1.1 = zi (¬ canR κ (Z k).2 (A k) (h.1 25 0 k) (h.1 26 0 k) ∧ (Z k).1.1 = zm1) (nI k) (Z k).1.1 := by rw [Zs]
        rw [z1]
        by_cases u1 : canR κ (Z k).2 (A k) (h.1 25 0 k) (h.1 26 0 k)
        · rw [zf_pos u1, zi_neg (fun z => z.1 u1)]
        · rw [zf_neg u1]
          by_cases u2 : (Z k).1.1 = zm1
          · rw [zf_pos u2, zi_pos ⟨u1, u2⟩]
          · rw [zf_neg u2, zi_neg (fun z => u2 z.2)])
    have e1 : zL p_X11_judged 35 [some (.inr (.inr (11, 0))), some (.inl x), some (.inl zm1), some (.inl zm1), some (.inr (.inr (3, 0))), some (.inl 0), none] [] ga = zL p_X11_judged 35 [some (.inr (.inr (11, 0))), some (.inl x), some (.inl (Z N).1.1), some (.inl (Z N).1.2), some (.inr (.inr (3, 0))), some (.inl (nI N)), none] [] g := by rw [← hz]; rw [← hz] at e1; exact e1
    have f1 : zL p_X12_judged 41 [some (.inr (.inr (12, 0))), some (.inl x), some (.inl zm1), some (.inl zm1), some (.inl 0)] [] gc = zL p_X12_judged 41 [some (.inr (.inr (12, 0))), some (.inl x), some (.inl (Z N).1.1), some (.inl (Z N).1.2), some (.inl (nI N))] [] g' := by rw [← hz]; rw [← hz] at f1; exact f1
    obtain ⟨f, d1, d2, d3, d4⟩ := sm_back (K0 := 73) g' (Or.inl rfl)
    have hi : ∀ j, 24 ≤ j → ∀ k, k ≤ N → (Z k).2 j = h.1 72 0 j := fun j hj k => by
      induction k with
      | zero => intro _; rw [← hz]; exact if_neg (by omega)
      | succ k ih =>
        intro hk
        have hA1 := (hA k (by omega)).1
        rw [Zs]
        show goR κ (Z k).2 (A k) (h.1 25 0 k) (h.1 26 0 k) j = _
        rw [← ih (by omega)]
        have Lk := L3 k (by omega)
        generalize (Z k).2 = r at *
        unfold goR
        by_cases e : canR κ r (A k) (h.1 25 0 k) (h.1 26 0 k)
        · rw [zite_pos e, doR_hi h7 e hj]
        · rw [zite_neg e]
    have zq : zsame (Wk ++ [(63, 0), (73, 0)]) (zuI g 12 0 0 0) f := zsame.drop (K := 72) ((((b2.mono (by simp)).trans (c2.mono (by simp))).trans (f2.mono (by simp))).trans (d2.mono (by simp))) (by
      funext j
      by_cases e : j < 24
      · rw [d3 j e, f2.1 73 0 j (by decide), c2.1 73 0 j (by decide), b3 j e]
      · rw [d4 j (by omega), f3, hi j (by omega) N (Nat.le_refl N), r1])
    have qf : quiet (zuI g 12 0 0 0) f := zq.quiet (fun p hp k => by
      simp only [Wk, List.mem_append, List.mem_cons, List.not_mem_nil, or_false] at hp
      rcases hp with (h | h | h | h | h | h | h | h | h) | h | h <;> subst h <;> unfold scr <;> omega)
    have g3 : ∀ k, g.1 3 0 k = h.1 3 0 k := fun k => e2.1 3 0 k (by unfold scr; omega)
    have g64 : g'.1 64 0 0 = nI N := by
      rw [f2.1 64 0 0 (by decide), c2.1 64 0 0 (by decide), b2.1 64 0 0 (by decide), q1.1 64 0 0 (by unfold scr; omega)]; exact L2
    refine agree.look I J (v := zi (x = 0) (Z N).1.1 (zi (x = 1) (Z N).1.2 ((Z N).2 1))) (h1 := g) (h2 := f) ?_ e2 ?_ (quiet.thrown.trans qf)
    · rw [g_X11_judged, zf_neg hx.1, zf_neg hx.2, a1, zcv_ok, e1, e_X11_judged_35, g3, L1, zf_neg (nI_nlt' (by omega)), e3.2.1, zfi, zfi]
    · rw [g_X12_judged, sm_within, zci_ok, zf_b0, zf_pos hx, b1, zcv_ok, c1, zcv_ok, f1, e_X12_judged_41, g64, zf_neg (nI_nlt' (by omega)), d1, zcv_ok, f3, zfi, zfi]
  · refine agree.look I J (v := zm2) (h1 := h) (h2 := zuI h 12 0 0 0) ?_ quiet.rf ?_ quiet.thrown
    · rw [g_X11_judged]
      by_cases e : x < 0
      · rw [zf_pos e]
      · rw [zf_neg e, zf_pos (Classical.byContradiction (fun z => hx ⟨e, z⟩))]
    · rw [g_X12_judged, sm_within, zci_ok, zf_b0, zf_neg hx]
