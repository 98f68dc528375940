/-! A wash by hand, a week: the class's side. -/
theorem zuI_kd {h : zH} {K j k K' j' k' : Nat} {v : Int32} (hK : K' ≠ K) : (zuI h K j k v).1 K' j' k' = h.1 K' j' k' := by
  show (if K' = K ∧ j' = j ∧ k' = k then v else h.1 K' j' k') = _
  rw [if_neg (fun e => hK e.1)]
/-- whose each cake is -/
def zOW (h : zH) (j P C : Nat) (ow : Nat → Nat) : Prop := ∀ c, c < C → ow c < P ∧ h.1 31 j c = nI (ow c)
theorem zOW.same {h g : zH} {j P C : Nat} {ow : Nat → Nat} (q : zOW h j P C ow) {S : List (Nat × Nat)} (a : zsame S h g) (h0 : (31, j) ∉ S) : zOW g j P C ow := fun c hc => ⟨(q c hc).1, by rw [a.1 31 j c h0]; exact (q c hc).2⟩
/-- how thick cake c is washed with once more by q, from how it is in State j -/
noncomputable def zTW (h : zH) (n j q c : Nat) : Int32 := twash (h.1 14 0 q) (zLV h n (h.1 32 j c) (h.1 20 0 c) (h.1 15 0 q) (h.1 33 j c)) (h.1 32 j c)
theorem sp_washOnce {P C n c j : Nat} {ow : Nat → Nat} (h : zH) (V : zCV h P C n) (O : zOW h j P C ow) (hc : c < C) : ∃ g, f_X8_washOnce [.inr (.inr (8, j)), .inl (nI c)] h = some (none, g) ∧ zsame [(23, 0), (32, j), (33, j)] h g ∧
    (∀ k, g.1 32 j k = if k = c then zTW h n j (ow c) c else h.1 32 j k) ∧ (∀ k, g.1 33 j k = if k = c then h.1 33 j c + 1 else h.1 33 j k) := by
  have V' := V
  obtain ⟨a1, a2, a3, a4, a5, a6⟩ := V'
  have h1 : ¬ nI c < 0 := nI_pos (by omega)
  have h2 : nI c < nI C := nI_lt hc (by omega)
  have h3 : nI c < 7 := nI_lt (b := 7) (by omega) (by omega)
  have h4 : vp_in (nI c) 7 := vp_in_nI (by omega) (by omega)
  obtain ⟨o1, o2⟩ := O c hc
  obtain ⟨g, e1, e2⟩ := sp_thickWashed (h.1 32 j c) (h.1 33 j c) h V hc o1
  rw [g_X8_washOnce, sp_hasCake, a3]
  simp only [zci_ok, zb_0, h1, h2, h3, not_false_eq_true, and_self, not_true, zf_false, zf_pos h4, nI_clamp (show c < 2 ^ 31 by omega), o2, e1]
  refine ⟨_, rfl, ?_, fun k => ?_, fun k => ?_⟩
  · exact zsame.set (zsame.set (e2.same.mono (fun q hq => by rw [List.mem_singleton.mp hq]; simp)) (by simp)) (by simp)
  · rw [zuI_kd (by decide)]
    by_cases e : k = c
    · rw [e, zuI_at, if_pos rfl]; rfl
    · rw [zuI_ne e, if_neg e]; exact e2.1 32 j k (by omega)
  · by_cases e : k = c
    · rw [e, zuI_at, if_pos rfl, e2.1 33 j c (by omega)]
    · rw [zuI_ne e, if_neg e, zuI_kd (by decide)]; exact e2.1 33 j k (by omega)
/-- cake k is washed with in a week -/
def zCW (h : zH) (j : Nat) (ow : Nat → Nat) (k : Nat) : Prop := 0 < h.1 32 j k ∧ ¬ (h.1 8 j 4 >>> (nI k &&& 31)) &&& 1 = 1 ∧ ¬ h.1 14 0 (ow k) = 2
noncomputable def zwT (h : zH) (n j : Nat) (ow : Nat → Nat) (k : Nat) : Int32 := zi (zCW h j ow k) (zTW h n j (ow k) k) (h.1 32 j k)
noncomputable def zwU (h : zH) (j : Nat) (ow : Nat → Nat) (k : Nat) : Int32 := zi (zCW h j ow k) (h.1 33 j k + 1) (h.1 33 j k)
theorem sp_passOneWeek {P C n j : Nat} {ow : Nat → Nat} (h : zH) (V : zCV h P C n) (O : zOW h j P C ow) : ∃ g, f_X8_passOneWeek [.inr (.inr (8, j))] h = some (none, g) ∧ zsame [(23, 0), (32, j), (33, j), (8, j)] h g ∧
    (∀ k, g.1 32 j k = if k < C then zwT h n j ow k else h.1 32 j k) ∧ (∀ k, g.1 33 j k = if k < C then zwU h j ow k else h.1 33 j k) ∧ (∀ k, g.1 8 j k = if k = 6 then h.1 8 j 6 + 1 else h.1 8 j k) := by
  have V' := V
  obtain ⟨a1, a2, a3, a4, a5, a6⟩ := V'
  rw [g_X8_passOneWeek]
  obtain ⟨g, e1, hs, hT, hU⟩ := zloopE (fun i (g : zH) => zL p_X8_passOneWeek 2 [some (.inr (.inr (8, j))), some (.inl (nI i))] [] g)
    (fun i g => zsame [(23, 0), (32, j), (33, j)] h g ∧ (∀ k, g.1 32 j k = if k < i then zwT h n j ow k else h.1 32 j k) ∧ (∀ k, g.1 33 j k = if k < i then zwU h j ow k else h.1 33 j k)) C h ⟨zsame.rf, fun k => by simp, fun k => by simp⟩ (fun i g hi q => by
      obtain ⟨hs, hT, hU⟩ := q
      have Vg : zCV g P C n := V.same hs (by simp) (by simp)
      have Og : zOW g j P C ow := O.same hs (by simp)
      obtain ⟨o1, o2⟩ := O i hi
      have c1 : nI i < nI C := nI_lt hi (by omega)
      have c4 : vp_in (nI i) 7 := vp_in_nI (by omega) (by omega)
      have t1 : g.1 32 j i = h.1 32 j i := by rw [hT i, if_neg (by omega)]
      have u1 : g.1 33 j i = h.1 33 j i := by rw [hU i, if_neg (by omega)]
      have q1 : g.1 8 j 4 = h.1 8 j 4 := hs.1 8 j 4 (by simp)
      have q2 : g.1 14 0 (ow i) = h.1 14 0 (ow i) := hs.1 14 0 (ow i) (by simp)
      rw [e_X8_passOneWeek_2, Vg.2.2.1, zf_pos c1, sp_isThere j g Vg.2.2.1 Vg.2.2.2.1 hi, zci_ok, nI_1]
      by_cases b1 : 0 < h.1 32 j i
      · rw [zf_neg (by rw [zb_0, t1]; exact fun q => q b1), zf_pos c4, nI_clamp (show i < 2 ^ 31 by omega), hs.1 31 j i (by simp), o2, sp_canWear j (nI i) g Vg.1 Vg.2.1 o1, zci_ok, q1, q2]
        by_cases b2 : ¬ (h.1 8 j 4 >>> (nI i &&& 31)) &&& 1 = 1 ∧ ¬ h.1 14 0 (ow i) = 2
        · have cw : zCW h j ow i := ⟨b1, b2.1, b2.2⟩
          obtain ⟨f, f1, f2, f3, f4⟩ := sp_washOnce g Vg Og hi
          rw [zf_neg (by rw [zb_0]; exact fun q => q b2), f1, zcv_ok]
          have tw : zTW g n j (ow i) i = zwT h n j ow i := by
            unfold zwT zTW zLV
            rw [zi_pos cw, t1, u1, q2, hs.1 20 0 i (by simp), hs.1 15 0 (ow i) (by simp), show g.1 22 0 = h.1 22 0 from funext (fun k => hs.1 22 0 k (by simp))]
          refine ⟨f, rfl, hs.trans f2, fun k => ?_, fun k => ?_⟩
          · rw [f3 k]
            by_cases e : k = i
            · rw [if_pos e, if_pos (by omega), tw, e]
            · rw [if_neg e, hT k]
              by_cases e2 : k < i
              · rw [if_pos e2, if_pos (by omega)]
              · rw [if_neg e2, if_neg (by omega)]
          · rw [f4 k]
            by_cases e : k = i
            · rw [if_pos e, if_pos (by omega), u1, e]; unfold zwU; rw [zi_pos cw]
            · rw [if_neg e, hU k]
              by_cases e2 : k < i
              · rw [if_pos e2, if_pos (by omega)]
              · rw [if_neg e2, if_neg (by omega)]
        · have cw : ¬ zCW h j ow i := fun q => b2 q.2
          rw [zf_pos (by rw [zb_0]; exact b2)]
          refine ⟨g, rfl, hs, fun k => ?_, fun k => ?_⟩
          · rw [hT k]
            by_cases e : k = i
            · rw [if_neg (by omega), if_pos (by omega), e]; unfold zwT; rw [zi_neg cw]
            · by_cases e2 : k < i
              · rw [if_pos e2, if_pos (by omega)]
              · rw [if_neg e2, if_neg (by omega)]
          · rw [hU k]
            by_cases e : k = i
            · rw [if_neg (by omega), if_pos (by omega), e]; unfold zwU; rw [zi_neg cw]
            · by_cases e2 : k < i
              · rw [if_pos e2, if_pos (by omega)]
              · rw [if_neg e2, if_neg (by omega)]
      · have cw : ¬ zCW h j ow i := fun q => b1 q.1
        rw [zf_pos (by rw [zb_0, t1]; exact b1)]
        refine ⟨g, rfl, hs, fun k => ?_, fun k => ?_⟩
        · rw [hT k]
          by_cases e : k = i
          · rw [if_neg (by omega), if_pos (by omega), e]; unfold zwT; rw [zi_neg cw]
          · by_cases e2 : k < i
            · rw [if_pos e2, if_pos (by omega)]
            · rw [if_neg e2, if_neg (by omega)]
        · rw [hU k]
          by_cases e : k = i
          · rw [if_neg (by omega), if_pos (by omega), e]; unfold zwU; rw [zi_neg cw]
          · by_cases e2 : k < i
            · rw [if_pos e2, if_pos (by omega)]
            · rw [if_neg e2, if_neg (by omega)])
  rw [← nI_0]
  have Vg : zCV g P C n := V.same hs (by simp) (by simp)
  have e1 : zL p_X8_passOneWeek 2 [some (.inr (.inr (8, j))), some (.inl (nI 0))] [] h = zL p_X8_passOneWeek 2 [some (.inr (.inr (8, j))), some (.inl (nI C))] [] g := e1
  rw [e1, e_X8_passOneWeek_2, Vg.2.2.1, zf_neg (nI_nlt' (by omega))]
  refine ⟨_, rfl, ?_, fun k => ?_, fun k => ?_, fun k => ?_⟩
  · exact zsame.set (hs.mono (fun q hq => by simp only [List.mem_cons, List.not_mem_nil, or_false] at hq ⊢; rcases hq with h | h | h <;> simp [h])) (by simp)
  · rw [zuI_kd (by decide)]; exact hT k
  · rw [zuI_kd (by decide)]; exact hU k
  · by_cases e : k = 6
    · rw [e, zuI_at, if_pos rfl, hs.1 8 j 6 (by simp)]
    · rw [zuI_ne e, if_neg e]; exact hs.1 8 j k (by simp)
