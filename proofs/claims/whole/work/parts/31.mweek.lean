/-! The model: washing, a week. -/
abbrev Wk : List (Nat × Nat) := [(54, 0), (55, 0), (56, 0), (57, 0), (58, 0), (59, 0), (60, 0), (61, 0), (62, 0)]
/-- the model's law: what worked answers -/
def mLw (κ : zK) (h : zH) : Prop := (h.1 49 0 0 < h.1 50 0 0 ∧ ∀ g : zH, g.1 49 0 0 = h.1 49 0 0 → g.1 50 0 0 = h.1 50 0 0 → (∀ k, k < 1000 → g.1 51 0 k = h.1 51 0 k) → ∃ g', f_X12_worked [.inr (.inr (12, 0)), .inl 0] g = some (some (.inl (kLw κ (g.1 63 0 1) (g.1 63 0 2) (g.1 63 0 3) (g.1 63 0 4))), g') ∧ zsame Wk g g') ∨ (¬ h.1 49 0 0 < h.1 50 0 0 ∧ ∀ a b c d, kLw κ a b c d = 1 + zb (b < c))
/-- the told congress, in the model -/
def mK (κ : zK) (h : zH) : Prop := h.1 39 0 0 = nI (kP κ) ∧ h.1 39 0 1 = nI (kC κ) ∧ h.1 39 0 2 = kSl κ ∧
  (∀ q, q < kP κ → h.1 42 0 q = kKd κ q ∧ h.1 43 0 q = kWa κ q) ∧
  (∀ c, c < kC κ → h.1 44 0 c = kSe κ c ∧ h.1 45 0 c = kTo κ c ∧ h.1 46 0 c = kTh κ c ∧ h.1 47 0 c = kHa κ c ∧ h.1 48 0 c = kPe κ c) ∧ mLw κ h
/-- what of the cells the told congress stands in -/
def mKi (κ : zK) (h g : zH) : Prop := (∀ k, k < 3 → g.1 39 0 k = h.1 39 0 k) ∧ (∀ K k, K ∈ [42, 43] → k < 5 → g.1 K 0 k = h.1 K 0 k) ∧ (∀ K k, K ∈ [44, 45, 46, 47, 48] → k < 7 → g.1 K 0 k = h.1 K 0 k) ∧ g.1 49 0 0 = h.1 49 0 0 ∧ g.1 50 0 0 = h.1 50 0 0 ∧ ∀ k, k < 1000 → g.1 51 0 k = h.1 51 0 k
theorem mK.keep {κ : zK} {h g : zH} (M : mK κ h) (G : gK κ) (a : mKi κ h g) : mK κ g := by
  obtain ⟨m1, m2, m3, m4, m5, m6⟩ := M
  obtain ⟨a1, a2, a3, a4, a5, a6⟩ := a
  obtain ⟨g1, g2, -⟩ := G
  refine ⟨by rw [a1 0 (by omega)]; exact m1, by rw [a1 1 (by omega)]; exact m2, by rw [a1 2 (by omega)]; exact m3, fun q hq => ?_, fun c hc => ?_, ?_⟩
  · rw [a2 42 q (by decide) (by omega), a2 43 q (by decide) (by omega)]; exact m4 q hq
  · rw [a3 44 c (by decide) (by omega), a3 45 c (by decide) (by omega), a3 46 c (by decide) (by omega), a3 47 c (by decide) (by omega), a3 48 c (by decide) (by omega)]; exact m5 c hc
  · rcases m6 with ⟨l1, l2⟩ | ⟨l1, l2⟩
    · exact Or.inl ⟨by rw [a4, a5]; exact l1, fun f f1 f2 f3 => l2 f (by rw [f1, a4]) (by rw [f2, a5]) (fun k hk => by rw [f3 k hk, a6 k hk])⟩
    · exact Or.inr ⟨by rw [a4, a5]; exact l1, l2⟩
theorem mK.same {κ : zK} {h g : zH} (M : mK κ h) (G : gK κ) {S : List (Nat × Nat)} (a : ∀ K j k, (K, j) ∉ S → g.1 K j k = h.1 K j k) (hS : ∀ p ∈ S, p.1 ∉ [39, 42, 43, 44, 45, 46, 47, 48, 49, 50, 51]) : mK κ g := by
  have f : ∀ K k, K ∈ [39, 42, 43, 44, 45, 46, 47, 48, 49, 50, 51] → g.1 K 0 k = h.1 K 0 k := fun K k hK => a K 0 k (fun m => hS _ m hK)
  refine M.keep G ⟨fun k _ => f 39 k (by decide), fun K k hK _ => f K k ?_, fun K k hK _ => f K k ?_, f 49 0 (by decide), f 50 0 (by decide), fun k _ => f 51 k (by decide)⟩
  · simp only [List.mem_cons, List.not_mem_nil, or_false] at hK ⊢; omega
  · simp only [List.mem_cons, List.not_mem_nil, or_false] at hK ⊢; omega
/-! numbers of a wash -/
theorem mx0_sub {t w : Nat} (ht : t < 2 ^ 30) (hw : w < 2 ^ 30) : mx0 (nI t - nI w) = nI (t - w) := by
  unfold mx0
  by_cases e : w ≤ t
  · rw [pk_sub e]
    by_cases e2 : t - w = 0
    · rw [e2]; decide
    · rw [if_pos (show (0 : Int32) < nI (t - w) from nI_lt (a := 0) (by omega) (by omega))]
  · rw [if_neg, show t - w = 0 by omega]
    · rfl
    · have := pk_sneg (a := t) (b := w) hw (by omega)
      rw [Int32.lt_iff_toInt_lt] at this ⊢
      omega
def btw9 (v : Int32) : Nat := if v < 0 then 0 else if 9 < v then 9 else v.toNatClampNeg
theorem btw9_le (v : Int32) : btw9 v ≤ 9 := by
  unfold btw9
  split
  · omega
  · split
    · omega
    · rename_i h1 h2
      obtain ⟨j, hj, rfl⟩ := nI_of h1
      rw [Olt hj (by decide)] at h2
      rw [nI_clamp hj]; omega
theorem sm_between (v : Int32) (h : zH) : f_X12_between [.inl v, .inl 0, .inl 9] h = some (some (.inl (nI (btw9 v))), h) := by
  rw [g_X12_between]
  unfold btw9
  by_cases h1 : v < 0
  · rw [zf_pos h1, if_pos h1]; rfl
  · rw [zf_neg h1, if_neg h1]
    by_cases h2 : 9 < v
    · rw [zf_pos h2, if_pos h2]; rfl
    · rw [zf_neg h2, if_neg h2]
      obtain ⟨j, hj, rfl⟩ := nI_of h1
      rw [nI_clamp hj]
theorem wear9_nI (v : Int32) : wear9 v = nI (btw9 v) := by
  unfold wear9 btw9
  by_cases h1 : v < 0
  · rw [if_pos h1]
    have h3 : v < 9 := by rw [Int32.lt_iff_toInt_lt] at h1 ⊢; have : (0 : Int32).toInt = 0 := rfl; have : (9 : Int32).toInt = 9 := rfl; omega
    rw [if_pos h3, if_neg]
    · rfl
    · intro h4; rw [Int32.lt_iff_toInt_lt] at h1 h4; omega
  · rw [if_neg h1]
    obtain ⟨j, hj, rfl⟩ := nI_of h1
    by_cases h2 : 9 < j
    · have a1 : ¬ nI j < 9 := fun z => absurd (show j < 9 from (ltO hj (by decide)).mp z) (by omega)
      have a2 : 9 < nI j := (Olt hj (by decide)).mpr h2
      rw [if_neg a1, if_pos (show (0 : Int32) < 9 by decide), if_pos a2]; rfl
    · have a2 : ¬ 9 < nI j := fun z => h2 ((Olt hj (by decide)).mp z)
      rw [if_neg a2, nI_clamp hj]
      by_cases h3 : j < 9
      · have a1 : nI j < 9 := (ltO hj (by decide)).mpr h3
        rw [if_pos a1]
        by_cases h4 : j = 0
        · subst h4; rw [if_neg (by decide)]; rfl
        · rw [if_pos (show (0 : Int32) < nI j from nI_lt (a := 0) (by omega) hj)]
      · have a1 : ¬ nI j < 9 := fun z => h3 ((ltO hj (by decide)).mp z)
        rw [if_neg a1, if_pos (show (0 : Int32) < 9 by decide), show j = 9 by omega]; rfl
/-- how much it wears -/
noncomputable def wr (κ : zK) (q c : Nat) (left used : Int32) : Nat := @ite _ (kKd κ q = 3) (Classical.propDecidable _) 0 (@ite _ (kKd κ q = 1) (Classical.propDecidable _) (btw9 (kLw κ left (kHa κ c) (kWa κ q) used) / 2) (btw9 (kLw κ left (kHa κ c) (kWa κ q) used)))
theorem tw_nI {κ : zK} {q c t : Nat} {used : Int32} (ht : t < 2 ^ 30) : tw κ q c (nI t) used = nI (t - wr κ q c (nI t) used) := by
  unfold tw twash wr
  have b := btw9_le (kLw κ (nI t) (kHa κ c) (kWa κ q) used)
  by_cases e3 : kKd κ q = 3
  · rw [zi_pos e3, zite_pos e3]; rfl
  · rw [zi_neg e3, zite_neg e3, wear9_nI]
    by_cases e1 : kKd κ q = 1
    · rw [zi_pos e1, zite_pos e1, show (2 : Int32) = nI 2 from rfl, pk_div (by omega) (by omega) (by omega), mx0_sub ht (by omega)]
    · rw [zi_neg e1, zite_neg e1, mx0_sub ht (by omega)]
theorem zf_pp {c : Prop} {A B : Option zRes} (h : c) : zf c A B = A := zf_pos h _ _
/-- a wash, in the model -/
theorem sm_washes {κ : zK} {h : zH} {c p t : Nat} (M : mK κ h) (G : gK κ) (hc : c < kC κ) (hp : p < kP κ) (o : h.1 72 0 (10 + c) = nI p) (ht : t < 2 ^ 30) (o2 : h.1 72 0 (3 + c) = nI t) : ∃ g, f_X12_washes [.inr (.inr (12, 0)), .inl (nI c)] h = some (none, g) ∧ zsame (Wk ++ [(63, 0), (72, 0)]) h g ∧ g.1 72 0 = washR κ (h.1 72 0) c := by
  have M' := M
  obtain ⟨m1, m2, m3, m4, m5, m6⟩ := M'
  obtain ⟨g1, g2, -⟩ := G
  have v10 : vp_in (nI (10 + c)) 24 := vp_in_nI (by omega) (by omega)
  have v3 : vp_in (nI (3 + c)) 24 := vp_in_nI (by omega) (by omega)
  have v17 : vp_in (nI (17 + c)) 24 := vp_in_nI (by omega) (by omega)
  have vc : vp_in (nI c) 14 := vp_in_nI (by omega) (by omega)
  have vp : vp_in (nI p) 10 := vp_in_nI (by omega) (by omega)
  have c10 : (nI (10 + c)).toNatClampNeg = 10 + c := nI_clamp (by omega)
  have c3 : (nI (3 + c)).toNatClampNeg = 3 + c := nI_clamp (by omega)
  have c17 : (nI (17 + c)).toNatClampNeg = 17 + c := nI_clamp (by omega)
  have cc : (nI c).toNatClampNeg = c := nI_clamp (by omega)
  have cp : (nI p).toNatClampNeg = p := nI_clamp (by omega)
  have how : ow (h.1 72 0) c = p := by unfold ow; rw [o, cp]
  obtain ⟨k1, k2⟩ := m4 p hp
  obtain ⟨k3, k4, k5, k6, k7⟩ := m5 c hc
  have last : ∀ (w : Nat) (o2 : Option zV) (f : zH), w ≤ 9 → zsame (Wk ++ [(63, 0)]) h f → w = wr κ p c (nI t) (h.1 72 0 (17 + c)) → ∃ g, zL p_X12_washes 141 [some (.inr (.inr (12, 0))), some (.inl (nI c)), o2, some (.inl (nI w))] [] f = some (none, g) ∧ zsame (Wk ++ [(63, 0), (72, 0)]) h g ∧ g.1 72 0 = washR κ (h.1 72 0) c := by
    intro w o2' f hw hf he
    have f3 : f.1 72 0 (3 + c) = nI t := by rw [hf.1 72 0 _ (by decide)]; exact o2
    rw [e_X12_washes_141, z3, z17, zf_pp v3, zf_pp v3, zf_pp v17, zf_pp v17, c3, c17, f3]
    refine ⟨_, rfl, ((hf.mono (by simp)).set (by simp)).set (by simp), ?_⟩
    funext k
    unfold washR
    rw [how, o2, tw_nI ht, ← he]
    by_cases e17 : k = 17 + c
    · rw [e17, zuI_at, zuI_ne (by omega), if_neg (by omega), if_pos rfl, hf.1 72 0 _ (by decide)]
    · rw [zuI_ne e17]
      by_cases e3 : k = 3 + c
      · rw [e3, zuI_at, if_pos rfl]; exact mx0_sub ht (by omega)
      · rw [zuI_ne e3, if_neg e3, if_neg e17, hf.1 72 0 _ (by decide)]
  have mid : ∀ (v : Int32) (f : zH), zsame (Wk ++ [(63, 0)]) h f → v = kLw κ (nI t) (kHa κ c) (kWa κ p) (h.1 72 0 (17 + c)) → ∃ g, zL p_X12_washes 107 [some (.inr (.inr (12, 0))), some (.inl (nI c)), some (.inl (nI p)), some (.inl v)] [] f = some (none, g) ∧ zsame (Wk ++ [(63, 0), (72, 0)]) h g ∧ g.1 72 0 = washR κ (h.1 72 0) c := by
    intro v f hf he
    have b := btw9_le v
    have f1 : f.1 42 0 p = kKd κ p := by rw [hf.1 42 0 _ (by decide)]; exact k1
    rw [e_X12_washes_107, sm_between, zci_ok, zf_pp vp, cp, f1, zf_pp vp, zf_pp vp]
    by_cases e3 : kKd κ p = 3
    · rw [zf_neg (show ¬ kKd κ p = 1 by rw [e3]; decide), zf_pos e3]
      exact last 0 _ f (by omega) hf (by unfold wr; rw [zite_pos e3])
    · rw [zf_neg e3, zf_neg e3]
      by_cases e1 : kKd κ p = 1
      · rw [zf_pos e1, show (2 : Int32) = nI 2 from rfl, pk_div (by omega) (by omega) (by omega)]
        exact last _ _ f (by omega) hf (by unfold wr; rw [zite_neg e3, zite_pos e1, he])
      · rw [zf_neg e1]
        exact last _ _ f (by omega) hf (by unfold wr; rw [zite_neg e3, zite_neg e1, he])
  have key : ∀ s0, s0 = zb (kHa κ c < kWa κ p) → ∃ g, zL p_X12_washes 31 [some (.inr (.inr (12, 0))), some (.inl (nI c)), some (.inl (nI p)), none] [.inl s0, .inl 1] h = some (none, g) ∧ zsame (Wk ++ [(63, 0), (72, 0)]) h g ∧ g.1 72 0 = washR κ (h.1 72 0) c := by
    intro s0 hs0
    rw [e_X12_washes_31]
    rcases m6 with ⟨l1, l2⟩ | ⟨l1, l2⟩
    · rw [zf_pos l1, z3, z17, zf_pp v3, zf_pp vc, zf_pp vp, zf_pp v17, c3, cc, cp, c17, o2, k6, k2]
      have hz : zsame [(63, 0)] h (zuI (zuI (zuI (zuI h 63 0 1 (nI t)) 63 0 2 (kHa κ c)) 63 0 3 (kWa κ p)) 63 0 4 (h.1 72 0 (17 + c))) := (((zsame.rf.set (by simp)).set (by simp)).set (by simp)).set (by simp)
      obtain ⟨g', w1, w2⟩ := l2 _ (hz.1 49 0 0 (by decide)) (hz.1 50 0 0 (by decide)) (fun k _ => hz.1 51 0 k (by decide))
      rw [w1, zci_ok]
      refine mid _ g' ((hz.mono (by simp)).trans (w2.mono (by simp))) ?_
      generalize hf : zuI (zuI (zuI (zuI h 63 0 1 (nI t)) 63 0 2 (kHa κ c)) 63 0 3 (kWa κ p)) 63 0 4 (h.1 72 0 (17 + c)) = f
      have q1 : f.1 63 0 1 = nI t := by rw [← hf, zuI_ne (by decide), zuI_ne (by decide), zuI_ne (by decide), zuI_at]
      have q2 : f.1 63 0 2 = kHa κ c := by rw [← hf, zuI_ne (by decide), zuI_ne (by decide), zuI_at]
      have q3 : f.1 63 0 3 = kWa κ p := by rw [← hf, zuI_ne (by decide), zuI_at]
      have q4 : f.1 63 0 4 = h.1 72 0 (17 + c) := by rw [← hf, zuI_at]
      rw [q1, q2, q3, q4]
    · rw [zf_neg l1]
      exact mid _ h zsame.rf (by rw [l2, hs0])
  rw [g_X12_washes, z10, zf_pp v10, zf_pp vc, c10, o, zf_pp vp, cc, cp, k6, k2]
  by_cases e : kHa κ c < kWa κ p
  · rw [zf_pos e]; exact key 1 (zb_pos e).symm
  · rw [zf_neg e]; exact key 0 (zb_neg e).symm
