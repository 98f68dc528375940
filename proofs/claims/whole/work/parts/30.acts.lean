/-! What can be done by hand: the class's side. -/
theorem zcI_1 {h : zH} {K j K1 j1 n k : Nat} (hk : k < n) : (zcI h K j K1 j1 n).1 K1 j1 k = h.1 K j k := by
  show (if K1 = K1 ∧ j1 = j1 ∧ k < n then h.1 K j k else h.1 K1 j1 k) = _
  rw [if_pos ⟨rfl, rfl, hk⟩]
theorem zcI_kd {h : zH} {K j K1 j1 n K' j' k' : Nat} (hK : K' ≠ K1) : (zcI h K j K1 j1 n).1 K' j' k' = h.1 K' j' k' := by
  show (if K' = K1 ∧ j' = j1 ∧ k' < n then h.1 K j k' else h.1 K' j' k') = _
  rw [if_neg (fun e => hK e.1)]
theorem zcI_nj {h : zH} {K j K1 j1 n j' k' : Nat} (hj : j' ≠ j1) : (zcI h K j K1 j1 n).1 K1 j' k' = h.1 K1 j' k' := by
  show (if K1 = K1 ∧ j' = j1 ∧ k' < n then h.1 K j k' else h.1 K1 j' k') = _
  rw [if_neg (fun e => hj e.2.1)]
theorem zuI_nj {h : zH} {K j k j' k' : Nat} {v : Int32} (hj : j' ≠ j) : (zuI h K j k v).1 K j' k' = h.1 K j' k' := by
  show (if K = K ∧ j' = j ∧ k' = k then v else h.1 K j' k') = _
  rw [if_neg (fun e => hj e.2.1)]
theorem zsame.cpy {S : List (Nat × Nat)} {h g : zH} {K j K1 j1 n : Nat} (a : zsame S h g) (hs : (K1, j1) ∈ S) : zsame S h (zcI g K j K1 j1 n) := ⟨fun K' j' k' hn => by
  show (if K' = K1 ∧ j' = j1 ∧ k' < n then g.1 K j k' else g.1 K' j' k') = _
  rw [if_neg (fun e => hn (by rw [e.1, e.2.1]; exact hs))]; exact a.1 K' j' k' hn, a.2⟩
/-- act a (0 wash, 1 hair, 2 pick, 3 gift, 4 press, 5 week) can be done -/
def canR (κ : zK) (r : zRo) (a : Nat) (x y : Int32) : Prop :=
  if a = 5 then True else isC κ x ∧
    (if a = 2 then tb (r 2) x.toNatClampNeg
    else if a = 3 then 0 < r (3 + x.toNatClampNeg) ∧ isP κ y ∧ ¬ y = r (10 + x.toNatClampNeg)
    else if a = 4 then 0 < r (3 + x.toNatClampNeg) ∧ 0 < r (17 + x.toNatClampNeg)
    else 0 < r (3 + x.toNatClampNeg) ∧ ¬ tb (r 2) x.toNatClampNeg)
/-- .. and then it is so -/
noncomputable def doR (κ : zK) (r : zRo) (a : Nat) (x y : Int32) : zRo :=
  if a = 5 then weekR κ (fun _ => False) r
  else if a = 0 then washR κ r x.toNatClampNeg
  else if a = 1 then (fun k => if k = 2 then r 2 ||| ((1 : Int32) <<< (x &&& 31)) else r k)
  else if a = 2 then (fun k => if k = 2 then r 2 &&& (((1 : Int32) <<< (x &&& 31)) ^^^ zm1) else r k)
  else if a = 3 then (fun k => if k = 10 + x.toNatClampNeg then y else r k)
  else (fun k => if k = 1 then r 1 + r (3 + x.toNatClampNeg) else if k = 3 + x.toNatClampNeg then 0 else r k)
theorem zsI {h : zH} {p q : Prop} (e : p ↔ q) : some (some (Sum.inl (zb p)), h) = (some (some (Sum.inl (zb q)), h) : Option zRes) := by rw [zb_congr e]
theorem cl_can {κ : zK} {h : zH} {j : Nat} {r : zRo} (K : cK κ h) (S : cS κ h j r) (a : Nat) (ha : a ≤ 5) (x y : Int32) : f_X8_can [.inr (.inr (8, j)), .inl (nI a), .inl x, .inl y] h = some (some (.inl (zb (canR κ r a x y))), h) := by
  have a4 := K.2.2.2.1
  rw [g_X8_can, cl_hasCake K, zci_ok]
  by_cases hx : isC κ x
  · obtain ⟨c, hc, rfl⟩ := hx.have a4
    have hcn : (nI c).toNatClampNeg = c := nI_clamp (by omega)
    obtain ⟨s1, s2, s3⟩ := S.2.2.2 c hc
    have hv : vp_in (nI c) 7 := vp_in_nI (by omega) (by omega)
    rw [zf_neg (show ¬ zb (isC κ (nI c)) = 0 by rw [zb_0]; exact fun q => q hx)]
    unfold canR
    match a, ha with
    | 0, _ =>
      rw [zf_neg (show ¬ nI 0 = 5 by decide), zf_pos (show nI 0 = 0 by decide)]
      simp only [cl_isThere K S hc, cl_hasHair S, cl_hasPower K, zci_ok, zb_0, zf_not, zf_pos hv, hcn, s1, s3, zB01, zB10, zB0b, zBb0, zb_01, zf_true]
      refine zsI ?_
      simp [hx]
    | 1, _ =>
      rw [zf_neg (show ¬ nI 1 = 5 by decide), zf_neg (show ¬ nI 1 = 0 by decide), zf_pos (show nI 1 = 1 by decide)]
      simp only [cl_isThere K S hc, cl_hasHair S, cl_hasPower K, zci_ok, zb_0, zf_not, zf_pos hv, hcn, s1, s3, zB01, zB10, zB0b, zBb0, zb_01, zf_true]
      refine zsI ?_
      simp [hx]
    | 2, _ =>
      rw [zf_neg (show ¬ nI 2 = 5 by decide), zf_neg (show ¬ nI 2 = 0 by decide), zf_neg (show ¬ nI 2 = 1 by decide), zf_pos (show nI 2 = 2 by decide), cl_hasHair S, zci_ok, zf_pos (zb_01.mpr trivial), hcn]
      refine zsI ?_
      simp [hx]
    | 3, _ =>
      rw [zf_neg (show ¬ nI 3 = 5 by decide), zf_neg (show ¬ nI 3 = 0 by decide), zf_neg (show ¬ nI 3 = 1 by decide), zf_neg (show ¬ nI 3 = 2 by decide), zf_pos (show nI 3 = 3 by decide)]
      simp only [cl_isThere K S hc, cl_hasHair S, cl_hasPower K, zci_ok, zb_0, zf_not, zf_pos hv, hcn, s1, s3, zB01, zB10, zB0b, zBb0, zb_01, zf_true]
      refine zsI ?_
      simp [hx]
    | 4, _ =>
      rw [zf_neg (show ¬ nI 4 = 5 by decide), zf_neg (show ¬ nI 4 = 0 by decide), zf_neg (show ¬ nI 4 = 1 by decide), zf_neg (show ¬ nI 4 = 2 by decide), zf_neg (show ¬ nI 4 = 3 by decide), zf_pos (show nI 4 = 4 by decide)]
      simp only [cl_isThere K S hc, cl_hasHair S, cl_hasPower K, zci_ok, zb_0, zf_not, zf_pos hv, hcn, s1, s3, zB01, zB10, zB0b, zBb0, zb_01, zf_true]
      refine zsI ?_
      simp [hx]
    | 5, _ =>
      rw [zf_pos (show nI 5 = 5 by decide), if_pos rfl, zb_pos trivial]
  · rw [zf_pos (show zb (isC κ x) = 0 by rw [zb_0]; exact hx)]
    by_cases h5 : a = 5
    · subst h5
      rw [zf_pos (show nI 5 = 5 by decide)]
      exact congrArg (fun z => some (some (Sum.inl z), h)) (zb_pos (by unfold canR; rw [if_pos rfl]; trivial)).symm
    · rw [zf_neg (show ¬ nI a = 5 by rw [eqO (by omega) (by decide)]; exact h5)]
      exact congrArg (fun z => some (some (Sum.inl z), h)) (zb_neg (by unfold canR; rw [if_neg h5]; exact fun q => hx q.1)).symm
theorem cS.upd {κ : zK} {h : zH} {j : Nat} {r : zRo} (S : cS κ h j r) (v : Int32) : cS κ (zuI h 8 j 4 v) j (fun k => if k = 2 then v else r k) := by
  obtain ⟨s1, s2, s3, s4⟩ := S
  refine ⟨zuI_at.trans (if_pos rfl).symm, (zuI_ne (by decide)).trans (s2.trans (if_neg (by decide)).symm), (zuI_ne (by decide)).trans (s3.trans (if_neg (by decide)).symm), fun c hc => ?_⟩
  obtain ⟨t1, t2, t3⟩ := s4 c hc
  exact ⟨(zuI_kd (by decide)).trans (t1.trans (if_neg (by omega)).symm), (zuI_kd (by decide)).trans (t2.trans (if_neg (by omega)).symm), (zuI_kd (by decide)).trans (t3.trans (if_neg (by omega)).symm)⟩
theorem cS.give {κ : zK} {h : zH} {j c : Nat} {r : zRo} (S : cS κ h j r) (v : Int32) (h7 : kC κ ≤ 7) (hc : c < kC κ) : cS κ (zuI h 31 j c v) j (fun k => if k = 10 + c then v else r k) := by
  obtain ⟨s1, s2, s3, s4⟩ := S
  refine ⟨(zuI_kd (by decide)).trans (s1.trans (if_neg (by omega)).symm), (zuI_kd (by decide)).trans (s2.trans (if_neg (by omega)).symm), (zuI_kd (by decide)).trans (s3.trans (if_neg (by omega)).symm), fun d hd => ?_⟩
  obtain ⟨t1, t2, t3⟩ := s4 d hd
  refine ⟨?_, (zuI_kd (by decide)).trans (t2.trans (if_neg (by omega)).symm), (zuI_kd (by decide)).trans (t3.trans (if_neg (by omega)).symm)⟩
  by_cases e : d = c
  · subst e; exact zuI_at.trans (if_pos rfl).symm
  · exact (zuI_ne e).trans (t1.trans (if_neg (by omega)).symm)
theorem cS.prs {κ : zK} {h : zH} {j c : Nat} {r : zRo} (S : cS κ h j r) (h7 : kC κ ≤ 7) (hc : c < kC κ) : cS κ (zuI (zuI h 8 j 5 (h.1 8 j 5 + h.1 32 j c)) 32 j c 0) j (fun k => if k = 1 then r 1 + r (3 + c) else if k = 3 + c then 0 else r k) := by
  obtain ⟨s1, s2, s3, s4⟩ := S
  have t0 := (s4 c hc).2.1
  refine ⟨?_, ?_, ?_, fun d hd => ?_⟩
  · dsimp only; rw [zuI_kd (by decide), zuI_ne (by decide), if_neg (by decide), if_neg (by omega)]; exact s1
  · dsimp only; rw [zuI_kd (by decide), zuI_at, if_pos rfl, s2, t0]
  · dsimp only; rw [zuI_kd (by decide), zuI_ne (by decide), if_neg (by decide), if_neg (by omega)]; exact s3
  · obtain ⟨t1, t2, t3⟩ := s4 d hd
    refine ⟨?_, ?_, ?_⟩
    · dsimp only; rw [zuI_kd (by decide), zuI_kd (by decide), if_neg (by omega), if_neg (by omega)]; exact t1
    · by_cases e : d = c
      · subst e; dsimp only; rw [zuI_at, if_neg (by omega), if_pos rfl]
      · dsimp only; rw [zuI_ne e, zuI_kd (by decide), if_neg (by omega), if_neg (by omega)]; exact t2
    · dsimp only; rw [zuI_kd (by decide), zuI_kd (by decide), if_neg (by omega), if_neg (by omega)]; exact t3
abbrev Sj (j : Nat) : List (Nat × Nat) := [(23, 0), (32, j), (33, j), (8, j), (31, j)]
theorem cl_does {κ : zK} {h : zH} {j m : Nat} {r : zRo} (K : cK κ h) (S : cS κ h j r) (G : gR κ m r) (a : Nat) (ha : a ≤ 5) (x y : Int32) (hcan : canR κ r a x y) : ∃ g, f_X8_attempt [.inr (.inr (8, j)), .inl (nI a), .inl x, .inl y] h = some (some (.inl 1), g) ∧ zsame (Sj j) h g ∧ cS κ g j (doR κ r a x y) := by
  have a4 := K.2.2.2.1
  rw [g_X8_attempt]
  by_cases h5 : a = 5
  · subst h5
    obtain ⟨g, e1, e2, e3⟩ := cl_week K S G
    rw [zf_pos (show nI 5 = 5 by decide), e1, zcv_ok]
    exact ⟨g, rfl, e2.mono (by simp), by unfold doR; rw [if_pos rfl]; exact e3⟩
  · rw [zf_neg (show ¬ nI a = 5 by rw [eqO (by omega) (by decide)]; exact h5)]
    have hcan2 := hcan
    unfold canR at hcan2
    rw [if_neg h5] at hcan2
    obtain ⟨hx, -⟩ := hcan2
    rw [cl_hasCake K, zci_ok, zf_neg (show ¬ zb (isC κ x) = 0 by rw [zb_0]; exact fun q => q hx), cl_can K S a ha x y, zci_ok, zf_neg (show ¬ zb (canR κ r a x y) = 0 by rw [zb_0]; exact fun q => q hcan)]
    clear hcan
    obtain ⟨c, hc, rfl⟩ := hx.have a4
    have hcn : (nI c).toNatClampNeg = c := nI_clamp (by omega)
    have hv : vp_in (nI c) 7 := vp_in_nI (by omega) (by omega)
    rw [hcn]
    unfold doR
    rw [hcn, if_neg h5]
    match a, ha, h5 with
    | 0, _, _ =>
      obtain ⟨g, e1, e2, e3⟩ := cl_washOnce K S G hc
      rw [zf_pos (show nI 0 = 0 by decide), e1, zcv_ok]
      exact ⟨g, rfl, e2.mono (by simp), by rw [if_pos rfl]; exact e3⟩
    | 1, _, _ =>
      rw [zf_neg (show ¬ nI 1 = 0 by decide), zf_pos (show nI 1 = 1 by decide), S.1]
      exact ⟨_, rfl, zsame.rf.set (by simp), by rw [if_neg (by decide), if_pos rfl]; exact S.upd _⟩
    | 2, _, _ =>
      rw [zf_neg (show ¬ nI 2 = 0 by decide), zf_neg (show ¬ nI 2 = 1 by decide), zf_pos (show nI 2 = 2 by decide), S.1]
      exact ⟨_, rfl, zsame.rf.set (by simp), by rw [if_neg (by decide), if_neg (by decide), if_pos rfl]; exact S.upd _⟩
    | 3, _, _ =>
      rw [zf_neg (show ¬ nI 3 = 0 by decide), zf_neg (show ¬ nI 3 = 1 by decide), zf_neg (show ¬ nI 3 = 2 by decide), zf_pos (show nI 3 = 3 by decide), zf_pos hv]
      exact ⟨_, rfl, zsame.rf.set (by simp), by rw [if_neg (by decide), if_neg (by decide), if_neg (by decide), if_pos rfl]; exact S.give _ a4 hc⟩
    | 4, _, _ =>
      rw [zf_neg (show ¬ nI 4 = 0 by decide), zf_neg (show ¬ nI 4 = 1 by decide), zf_neg (show ¬ nI 4 = 2 by decide), zf_neg (show ¬ nI 4 = 3 by decide), zf_pos hv, zf_pos hv]
      exact ⟨_, rfl, (zsame.rf.set (by simp)).set (by simp), by rw [if_neg (by decide), if_neg (by decide), if_neg (by decide), if_neg (by decide)]; exact S.prs a4 hc⟩
    | 5, _, q => exact absurd rfl q
theorem cl_attempt {κ : zK} {h : zH} {j m : Nat} {r : zRo} (K : cK κ h) (S : cS κ h j r) (G : gR κ m r) (a : Nat) (ha : a ≤ 5) (x y : Int32) : ∃ g, f_X8_attempt [.inr (.inr (8, j)), .inl (nI a), .inl x, .inl y] h = some (some (.inl (zb (canR κ r a x y))), g) ∧ zsame (Sj j) h g ∧ cS κ g j (@ite _ (canR κ r a x y) (Classical.propDecidable _) (doR κ r a x y) r) := by
  by_cases e : canR κ r a x y
  · obtain ⟨g, e1, e2, e3⟩ := cl_does K S G a ha x y e
    rw [zb_pos e]
    exact ⟨g, e1, e2, by rw [zite_pos e]; exact e3⟩
  · refine ⟨h, ?_, zsame.rf, by rw [zite_neg e]; exact S⟩
    have h5 : ¬ a = 5 := fun q => e (by unfold canR; rw [if_pos q]; trivial)
    rw [g_X8_attempt, zb_neg e, zf_neg (show ¬ nI a = 5 by rw [eqO (by omega) (by decide)]; exact h5), cl_hasCake K, zci_ok]
    by_cases hx : isC κ x
    · rw [zf_neg (show ¬ zb (isC κ x) = 0 by rw [zb_0]; exact fun q => q hx), cl_can K S a ha x y, zci_ok, zf_pos (show zb (canR κ r a x y) = 0 by rw [zb_0]; exact e)]
    · rw [zf_pos (show zb (isC κ x) = 0 by rw [zb_0]; exact hx)]
theorem cl_copyFrom {κ : zK} {h : zH} {j0 j1 : Nat} {r : zRo} (h7 : kC κ ≤ 7) (S : cS κ h j1 r) (hj : j1 ≠ j0) : ∃ g, f_X8_copyFrom [.inr (.inr (8, j0)), .inr (.inr (8, j1))] h = some (none, g) ∧ zsame [(32, j0), (33, j0), (8, j0), (31, j0)] h g ∧ cS κ g j0 r := by
  rw [g_X8_copyFrom]
  refine ⟨_, rfl, (((((zsame.rf.cpy (by simp)).cpy (by simp)).cpy (by simp)).set (by simp)).set (by simp)).set (by simp), ?_⟩
  obtain ⟨s1, s2, s3, s4⟩ := S
  refine ⟨?_, ?_, ?_, fun c hc => ⟨?_, ?_, ?_⟩⟩
  · rw [zuI_ne (by decide), zuI_ne (by decide), zuI_at]; exact s1
  · rw [zuI_ne (by decide), zuI_at, zuI_nj hj, zcI_kd (by decide), zcI_kd (by decide), zcI_kd (by decide)]; exact s2
  · rw [zuI_at, zuI_nj hj, zuI_nj hj, zcI_kd (by decide), zcI_kd (by decide), zcI_kd (by decide)]; exact s3
  · rw [zuI_kd (by decide), zuI_kd (by decide), zuI_kd (by decide), zcI_kd (by decide), zcI_kd (by decide), zcI_1 (by omega)]; exact (s4 c hc).1
  · rw [zuI_kd (by decide), zuI_kd (by decide), zuI_kd (by decide), zcI_kd (by decide), zcI_1 (by omega), zcI_kd (by decide)]; exact (s4 c hc).2.1
  · rw [zuI_kd (by decide), zuI_kd (by decide), zuI_kd (by decide), zcI_1 (by omega), zcI_kd (by decide), zcI_kd (by decide)]; exact (s4 c hc).2.2
/-- as told -/
def freshR (κ : zK) : zRo := fun k => if 3 ≤ k ∧ k < 3 + kC κ then kTh κ (k - 3) else if 10 ≤ k ∧ k < 10 + kC κ then kTo κ (k - 10) else 0
theorem cl_begin {κ : zK} {h : zH} {j : Nat} (K : cK κ h) : ∃ g, f_X8_begin [.inr (.inr (8, j))] h = some (none, g) ∧ zsame [(32, j), (33, j), (8, j), (31, j)] h g ∧ cS κ g j (freshR κ) := by
  rw [g_X8_begin]
  have K' := K
  obtain ⟨a1, a2, a3, a4, a5, a6, a7, -⟩ := K'
  obtain ⟨g, e1, hs, hT, hO, hU⟩ := zloopE (fun i (g : zH) => zL p_X8_begin 38 [some (.inr (.inr (8, j))), some (.inl (nI i))] [] g)
    (fun i g => zsame [(32, j), (33, j), (8, j), (31, j)] h g ∧ (∀ k, k < 7 → g.1 32 j k = h.1 19 0 k) ∧ (∀ k, k < 7 → g.1 31 j k = h.1 18 0 k) ∧ (∀ k, k < i → g.1 33 j k = 0)) 7 (zcI (zcI h 18 0 31 j 7) 19 0 32 j 7) ⟨(zsame.rf.cpy (by simp)).cpy (by simp), fun k hk => by rw [zcI_1 hk, zcI_kd (by decide)], fun k hk => by rw [zcI_kd (by decide), zcI_1 hk], fun k hk => by omega⟩ (fun i g hi q => by
      obtain ⟨hs, hT, hO, hU⟩ := q
      rw [e_X8_begin_38, zf_pos (show nI i < 7 from nI_lt (b := 7) hi (by omega)), zf_pos (vp_in_nI hi (by omega)), nI_clamp (by omega), nI_1]
      refine ⟨_, rfl, hs.set (by simp), fun k hk => by rw [zuI_kd (by decide)]; exact hT k hk, fun k hk => by rw [zuI_kd (by decide)]; exact hO k hk, fun k hk => ?_⟩
      by_cases e : k = i
      · rw [e, zuI_at]
      · rw [zuI_ne e]; exact hU k (by omega))
  rw [← nI_0]
  have e1 : zL p_X8_begin 38 [some (.inr (.inr (8, j))), some (.inl (nI 0))] [] (zcI (zcI h 18 0 31 j 7) 19 0 32 j 7) = zL p_X8_begin 38 [some (.inr (.inr (8, j))), some (.inl (nI 7))] [] g := e1
  rw [e1, e_X8_begin_38, zf_neg (show ¬ nI 7 < 7 by decide)]
  refine ⟨_, rfl, ((hs.set (by simp)).set (by simp)).set (by simp), ?_⟩
  unfold freshR
  refine ⟨?_, ?_, ?_, fun c hc => ⟨?_, ?_, ?_⟩⟩
  · dsimp only; rw [zuI_ne (by decide), zuI_ne (by decide), zuI_at, if_neg (by omega), if_neg (by omega)]
  · dsimp only; rw [zuI_ne (by decide), zuI_at, if_neg (by omega), if_neg (by omega)]
  · dsimp only; rw [zuI_at, if_neg (by omega), if_neg (by omega)]
  · dsimp only; rw [zuI_kd (by decide), zuI_kd (by decide), zuI_kd (by decide), hO c (by omega), if_neg (by omega), if_pos (by omega), show 10 + c - 10 = c by omega]; exact (a7 c hc).2.1
  · dsimp only; rw [zuI_kd (by decide), zuI_kd (by decide), zuI_kd (by decide), hT c (by omega), if_pos (by omega), show 3 + c - 3 = c by omega]; exact (a7 c hc).2.2.1
  · dsimp only; rw [zuI_kd (by decide), zuI_kd (by decide), zuI_kd (by decide), hU c (by omega), if_neg (by omega), if_neg (by omega)]
