/-! Years by draws. -/
def dr (d : Nat) : Nat := (d * 1103515245 + 12345) % 2147483648
def dv (d b : Nat) : Nat := d / 65536 % b
theorem dr_lt (d : Nat) : dr d < 2147483648 := Nat.mod_lt _ (by decide)
theorem dr_l {d : Nat} (hd : d < 2147483648) : lN d * (1103515245 : Int64) + 12345 - (lN d * (1103515245 : Int64) + 12345) / 2147483648 * 2147483648 = lN (dr d) := by
  rw [show (1103515245 : Int64) = lN 1103515245 from rfl, lN_mul, show (12345 : Int64) = lN 12345 from rfl, lN_add, show (2147483648 : Int64) = lN 2147483648 from rfl, pk_lRem (by omega) (by omega) (by omega)]
  rfl
theorem dv_l {d b : Nat} (hd : d < 2147483648) (hb : 0 < b) (hb2 : b < 2 ^ 31) : (lN d / 65536 - lN d / 65536 / (nI b).toInt64 * (nI b).toInt64).toInt32 = nI (dv d b) := by
  rw [show (65536 : Int64) = lN 65536 from rfl, pk_lDiv (by omega) (by omega) (by omega), nI_l hb2, pk_lRem (by omega) hb (by omega), lN_i]
  rfl
theorem lNi {b : Nat} (hb : 0 < b) (hb2 : b < 2 ^ 31) : ¬ (nI b).toInt64 = 0 := fun e => by
  rw [nI_l hb2] at e
  have := (pk_lEQ (a := b) (b := 0) (by omega) (by omega)).mp e
  omega
theorem zuJ_at {h : zH} {K j k : Nat} {v : Int64} : (zuJ h K j k v).2 K j k = v := by
  show (if K = K ∧ j = j ∧ k = k then v else _) = v
  rw [if_pos ⟨rfl, rfl, rfl⟩]
theorem zuJ_o {h : zH} {K j k K' j' k' : Nat} {v : Int64} (e : ¬ (K' = K ∧ j' = j ∧ k' = k)) : (zuJ h K j k v).2 K' j' k' = h.2 K' j' k' := by
  show (if K' = K ∧ j' = j ∧ k' = k then v else h.2 K' j' k') = _
  rw [if_neg e]
theorem lc_draw {h : zH} {d b : Nat} (hd : d < 2147483648) (hh : h.2 11 0 9 = lN d) (hb : 0 < b) (hb2 : b < 2 ^ 31) : f_X11_drawBelow [.inr (.inr (11, 0)), .inl (nI b)] h = some (some (.inl (nI (dv (dr d) b))), zuJ h 11 0 9 (lN (dr d))) := by
  rw [g_X11_drawBelow, zf_pos ((nI_p0 hb2).mpr hb), zf_neg (lNi hb hb2), hh, dr_l hd, dv_l (dr_lt d) hb hb2]
theorem lm_draw {h : zH} {d b : Nat} (hd : d < 2147483648) (hh : h.2 12 0 56 = lN d) (hb : 0 < b) (hb2 : b < 2 ^ 31) : f_X12_draws [.inr (.inr (12, 0)), .inl (nI b)] h = some (some (.inl (nI (dv (dr d) b))), zuJ h 12 0 56 (lN (dr d))) := by
  rw [g_X12_draws, zf_neg (lNi hb hb2), hh, dr_l hd, dv_l (dr_lt d) hb hb2]
theorem zuI_2 {h : zH} {K j k : Nat} {v : Int32} : (zuI h K j k v).2 = h.2 := rfl
theorem zuJ_1 {h : zH} {K j k : Nat} {v : Int64} : (zuJ h K j k v).1 = h.1 := rfl
theorem cS.J {κ : zK} {h : zH} {j K j' k : Nat} {r : zRo} {v : Int64} (q : cS κ h j r) : cS κ (zuJ h K j' k v) j r := q
theorem quiet.dice {h : zH} {v : Int64} : quiet h (zuJ h 11 0 9 v) := ⟨fun _ _ _ _ => rfl, fun K j k n => zuJ_o (fun e => n (by unfold scrJ; omega))⟩
/-- a deed by draws: the dice behind it, the row -/
def ddC (κ : zK) (d : Nat) : Nat := dv (dr d) (kC κ)
def ddK (d : Nat) : Nat := dv (dr (dr d)) 6
def ddP (κ : zK) (d : Nat) : Nat := dv (dr (dr (dr d))) (kP κ)
def ddN (κ : zK) (d : Nat) : Nat := if kC κ = 0 then d else if ddK d = 2 then dr (dr (dr d)) else dr (dr d)
noncomputable def ddR (κ : zK) (d : Nat) (r : zRo) : zRo := if kC κ = 0 then r else if ddK d < 4 then goR κ r (ddK d + 1) (nI (ddC κ d)) (if ddK d = 2 then nI (ddP κ d) else zm1) else r
theorem ddR_gR {κ : zK} {m d : Nat} {r : zRo} (R : gR κ m r) (G : gK κ) : gR κ (m + 1) (ddR κ d r) := by
  unfold ddR
  by_cases e : kC κ = 0
  · rw [if_pos e]; exact R.mono (Nat.le_succ m)
  · rw [if_neg e]
    by_cases e2 : ddK d < 4
    · rw [if_pos e2]; exact goR_gR R G (by omega)
    · rw [if_neg e2]; exact R.mono (Nat.le_succ m)
theorem ddN_lt {κ : zK} {d : Nat} (h : d < 2147483648) : ddN κ d < 2147483648 := by
  unfold ddN
  by_cases e : kC κ = 0
  · rw [if_pos e]; exact h
  · rw [if_neg e]
    by_cases e2 : ddK d = 2
    · rw [if_pos e2]; exact dr_lt _
    · rw [if_neg e2]; exact dr_lt _
/-- cakes told: powers told -/
theorem gK.p0 {κ : zK} (G : gK κ) (h : 0 < kC κ) : 0 < kP κ := by
  obtain ⟨⟨s, hs, -⟩, -⟩ := G.2.2 0 h
  omega
theorem lc_deed {κ : zK} {m d k : Nat} {h : zH} {r : zRo} (I : IV κ m h) (S : cS κ h 21 r) (R : gR κ k r) (hd : d < 2147483648) (hh : h.2 11 0 9 = lN d) : ∃ g, f_X11_drawDeed [.inr (.inr (11, 0))] h = some (none, g) ∧ quiet h g ∧ g.2 11 0 9 = lN (ddN κ d) ∧ cS κ g 21 (ddR κ d r) := by
  have h7 := I.h7
  have h5 := I.h5
  rw [g_X11_drawDeed, I.K.2.2.1]
  by_cases e : kC κ = 0
  · refine ⟨h, ?_, quiet.rf, ?_, ?_⟩
    · rw [zf_pos (show nI (kC κ) = 0 by rw [e]; rfl)]
    · unfold ddN; rw [if_pos e]; exact hh
    · unfold ddR; rw [if_pos e]; exact S
  · have hP := I.G.p0 (by omega)
    have hC : ddC κ d < kC κ := Nat.mod_lt _ (by omega)
    have hK : ddK d < 6 := Nat.mod_lt _ (by omega)
    let h1 : zH := zuJ h 11 0 9 (lN (dr d))
    let h2 : zH := zuJ h1 11 0 9 (lN (dr (dr d)))
    have q2 : quiet h h2 := quiet.dice.trans quiet.dice
    have I2 := I.quiet q2
    have S2 : cS κ h2 21 r := S
    have d2 : f_X11_drawBelow [.inr (.inr (11, 0)), .inl 6] h1 = some (some (.inl (nI (ddK d))), h2) := lc_draw (b := 6) (dr_lt d) zuJ_at (by omega) (by omega)
    rw [zf_neg (nI_ne0 (by omega) (by omega)), lc_draw hd hh (by omega) (by omega), zci_ok]
    show ∃ g, zci (f_X11_drawBelow [.inr (.inr (11, 0)), .inl 6] h1) _ = _ ∧ _
    rw [d2, zci_ok]
    have att : ∀ (a : Nat) (y : Int32) (f : zH), a ≤ 5 → quiet h f → cS κ f 21 r → ∃ g, f_X8_attempt [.inr (.inr (8, 21)), .inl (nI a), .inl (nI (ddC κ d)), .inl y] f = some (some (.inl (zb (canR κ r a (nI (ddC κ d)) y))), g) ∧ quiet h g ∧ g.2 = f.2 ∧ cS κ g 21 (goR κ r a (nI (ddC κ d)) y) := fun a y f ha qf Sf => by
      obtain ⟨g, e1, e2, e3⟩ := cl_attempt (I.quiet qf).K Sf R a ha (nI (ddC κ d)) y
      exact ⟨g, e1, qf.trans (qS21 e2 (fun p hp => hp)), e2.2, e3⟩
    show ∃ g, zf (nI (ddK d) = 0) (zci (f_X8_attempt [.inr (.inr (8, 21)), .inl 1, .inl (nI (ddC κ d)), .inl zm1] h2) (fun r14 h13 => some (none, h13))) (zf (nI (ddK d) = 1) (zci (f_X8_attempt [.inr (.inr (8, 21)), .inl 2, .inl (nI (ddC κ d)), .inl zm1] h2) (fun r12 h11 => some (none, h11))) (zf (nI (ddK d) = 2) (zci (f_X11_drawBelow [.inr (.inr (11, 0)), .inl (h2.1 0 0 0)] h2) (fun r8 h7 => zci (f_X8_attempt [.inr (.inr (8, 21)), .inl 3, .inl (nI (ddC κ d)), .inl r8] h7) (fun r10 h9 => some (none, h9)))) (zf (nI (ddK d) = 3) (zci (f_X8_attempt [.inr (.inr (8, 21)), .inl 4, .inl (nI (ddC κ d)), .inl zm1] h2) (fun r6 h5 => some (none, h5))) (some (none, h2))))) = some (none, g) ∧ _
    unfold ddN ddR
    rw [if_neg e, if_neg e]
    generalize hkk : ddK d = kk at hK
    match kk, hK with
    | 0, _ =>
      obtain ⟨g, a1, a2, a3, a4⟩ := att 1 zm1 h2 (by omega) q2 S2
      rw [show nI 1 = 1 from rfl] at a1
      rw [zf_pos (show nI 0 = 0 from rfl), a1, zci_ok, if_neg (by decide), if_pos (by decide), if_neg (by decide)]
      exact ⟨g, rfl, a2, by rw [a3]; exact zuJ_at, a4⟩
    | 1, _ =>
      obtain ⟨g, a1, a2, a3, a4⟩ := att 2 zm1 h2 (by omega) q2 S2
      rw [show nI 2 = 2 from rfl] at a1
      rw [zf_neg (show ¬ nI 1 = 0 by decide), zf_pos (show nI 1 = 1 from rfl), a1, zci_ok, if_neg (by decide), if_pos (by decide), if_neg (by decide)]
      exact ⟨g, rfl, a2, by rw [a3]; exact zuJ_at, a4⟩
    | 2, _ =>
      have d3 : f_X11_drawBelow [.inr (.inr (11, 0)), .inl (nI (kP κ))] h2 = some (some (.inl (nI (ddP κ d))), zuJ h2 11 0 9 (lN (dr (dr (dr d))))) := lc_draw (dr_lt _) zuJ_at hP (by omega)
      obtain ⟨g, a1, a2, a3, a4⟩ := att 3 (nI (ddP κ d)) (zuJ h2 11 0 9 (lN (dr (dr (dr d))))) (by omega) (q2.trans quiet.dice) S2.J
      rw [show nI 3 = 3 from rfl] at a1
      rw [zf_neg (show ¬ nI 2 = 0 by decide), zf_neg (show ¬ nI 2 = 1 by decide), zf_pos (show nI 2 = 2 from rfl), I2.K.1, d3, zci_ok, a1, zci_ok, if_pos rfl, if_pos (by decide), if_pos rfl]
      exact ⟨g, rfl, a2, by rw [a3]; exact zuJ_at, a4⟩
    | 3, _ =>
      obtain ⟨g, a1, a2, a3, a4⟩ := att 4 zm1 h2 (by omega) q2 S2
      rw [show nI 4 = 4 from rfl] at a1
      rw [zf_neg (show ¬ nI 3 = 0 by decide), zf_neg (show ¬ nI 3 = 1 by decide), zf_neg (show ¬ nI 3 = 2 by decide), zf_pos (show nI 3 = 3 from rfl), a1, zci_ok, if_neg (by decide), if_pos (by decide), if_neg (by decide)]
      exact ⟨g, rfl, a2, by rw [a3]; exact zuJ_at, a4⟩
    | 4, _ =>
      rw [zf_neg (show ¬ nI 4 = 0 by decide), zf_neg (show ¬ nI 4 = 1 by decide), zf_neg (show ¬ nI 4 = 2 by decide), zf_neg (show ¬ nI 4 = 3 by decide), if_neg (by decide), if_neg (by decide)]
      exact ⟨h2, rfl, q2, zuJ_at, S2⟩
    | 5, _ =>
      rw [zf_neg (show ¬ nI 5 = 0 by decide), zf_neg (show ¬ nI 5 = 1 by decide), zf_neg (show ¬ nI 5 = 2 by decide), zf_neg (show ¬ nI 5 = 3 by decide), if_neg (by decide), if_neg (by decide)]
      exact ⟨h2, rfl, q2, zuJ_at, S2⟩
/-! the model -/
/-- longs too: all but who draws -/
def zsL (S : List (Nat × Nat)) (h g : zH) : Prop := (∀ K j k, (K, j) ∉ S → g.1 K j k = h.1 K j k) ∧ ∀ K j k, ¬ (K = 12 ∧ j = 0 ∧ k = 56) → g.2 K j k = h.2 K j k
theorem zsame.L {S : List (Nat × Nat)} {h g : zH} (a : zsame S h g) : zsL S h g := ⟨a.1, fun K j k _ => by rw [a.2]⟩
theorem zsL.trans {S : List (Nat × Nat)} {h g f : zH} (a : zsL S h g) (b : zsL S g f) : zsL S h f := ⟨fun K j k n => (b.1 K j k n).trans (a.1 K j k n), fun K j k n => (b.2 K j k n).trans (a.2 K j k n)⟩
theorem zsL.mono {S S' : List (Nat × Nat)} {h g : zH} (a : zsL S h g) (hs : ∀ q ∈ S, q ∈ S') : zsL S' h g := ⟨fun K j k hn => a.1 K j k (fun q => hn (hs _ q)), a.2⟩
theorem zsL.dice {S : List (Nat × Nat)} {h : zH} {v : Int64} : zsL S h (zuJ h 12 0 56 v) := ⟨fun _ _ _ _ => rfl, fun K j k n => zuJ_o n⟩
theorem bit_out {x : Int32} {c : Nat} (hc : c < 32) (h : ¬ tb x c) : x &&& (((1 : Int32) <<< (nI c &&& 31)) ^^^ zm1) = x := tb_ext (fun i hi => by
  rw [tb_and hi, tb_not hi, tb_one hc hi]
  exact ⟨fun z => z.1, fun z => ⟨z, fun e => h (e ▸ z)⟩⟩)
theorem lm_lives {κ : zK} {m d k : Nat} {h0 h : zH} {r : zRo} (I : IV κ m h0) (a : zsL (Ww ++ [(73, 0)]) h0 h) (hr : h.1 72 0 = r) (R : gR κ k r) (hd : d < 2147483648) (hh : h.2 12 0 56 = lN d) : ∃ g, f_X12_livesWeek [.inr (.inr (12, 0))] h = some (none, g) ∧ zsL Ww h g ∧ g.2 12 0 56 = lN (ddN κ d) ∧ g.1 72 0 = weekR κ nD (ddR κ d r) := by
  have h7 := I.h7
  have h5 := I.h5
  have G := I.G
  have M : mK κ h := I.M.agr G (fun K k hK => a.1 K 0 k (fun z => by
    simp only [List.mem_cons, List.not_mem_nil, or_false] at hK
    simp only [Ww, Wk, List.mem_append, List.mem_cons, List.not_mem_nil, or_false, Prod.mk.injEq] at z
    omega))
  have D : h.1 12 0 54 = 0 := by rw [a.1 12 0 54 (by decide)]; exact I.D
  have fin : ∀ (f : zH) (ρ : zRo), zsL Ww h f → f.1 72 0 = ρ → gR κ (k + 1) ρ → ∃ v g, f_X12_passes [.inr (.inr (12, 0))] f = some (some (.inl v), g) ∧ zsL Ww h g ∧ g.2 12 0 56 = f.2 12 0 56 ∧ g.1 72 0 = weekR κ nD ρ := fun f ρ f1 f2 f3 => by
    have Mf : mK κ f := M.agr G (fun K k hK => f1.1 K 0 k (fun z => by
      simp only [List.mem_cons, List.not_mem_nil, or_false] at hK
      simp only [Ww, Wk, List.mem_append, List.mem_cons, List.not_mem_nil, or_false, Prod.mk.injEq] at z
      omega))
    obtain ⟨g, g1, g2, g3⟩ := sm_passes0 Mf G (by rw [f2]; exact f3) (by rw [f1.1 12 0 54 (by decide)]; exact D)
    exact ⟨_, g, g1, f1.trans g2.L, by rw [g2.2], by rw [g3, f2]⟩
  rw [g_X12_livesWeek, M.2.1]
  by_cases e : kC κ = 0
  · obtain ⟨v, g, g1, g2, g3, g4⟩ := fin h r zsame.rf.L hr (R.mono (Nat.le_succ k))
    rw [zf_neg (show ¬ 0 < nI (kC κ) by rw [e]; decide), g1, zci_ok]
    unfold ddN ddR
    rw [if_pos e, if_pos e]
    exact ⟨g, rfl, g2, by rw [g3]; exact hh, g4⟩
  · have hP := G.p0 (by omega)
    have hC : ddC κ d < kC κ := Nat.mod_lt _ (by omega)
    have hK : ddK d < 6 := Nat.mod_lt _ (by omega)
    let h1 : zH := zuJ h 12 0 56 (lN (dr d))
    let h2 : zH := zuJ h1 12 0 56 (lN (dr (dr d)))
    have q2 : zsL Ww h h2 := zsL.dice.trans zsL.dice
    have d2 : f_X12_draws [.inr (.inr (12, 0)), .inl 6] h1 = some (some (.inl (nI (ddK d))), h2) := lm_draw (b := 6) (dr_lt d) zuJ_at (by omega) (by omega)
    rw [zf_pos ((nI_p0 (by omega)).mpr (by omega)), lm_draw hd hh (by omega) (by omega), zci_ok]
    show ∃ g, zci (f_X12_draws [.inr (.inr (12, 0)), .inl 6] h1) _ = _ ∧ _
    rw [d2, zci_ok]
    have R1 := R.mono (Nat.le_succ k)
    have hx : isC κ (nI (ddC κ d)) := isC_nI h7 hC
    have hcn : (nI (ddC κ d)).toNatClampNeg = ddC κ d := nI_clamp (by omega)
    have P1 : h2.1 39 0 0 = nI (kP κ) := M.1
    have d56 : h2.2 12 0 56 = lN (dr (dr d)) := zuJ_at
    have done : ∀ (f : zH) (ρ : zRo) (dd : Nat), zsL Ww h f → f.1 72 0 = ρ → gR κ (k + 1) ρ → f.2 12 0 56 = lN dd → ∃ g, zci (f_X12_passes [.inr (.inr (12, 0))] f) (fun r2 h1 => (some (none, h1) : Option zRes)) = some (none, g) ∧ zsL Ww h g ∧ g.2 12 0 56 = lN dd ∧ g.1 72 0 = weekR κ nD ρ := fun f ρ dd f1 f2 f3 f4 => by
      obtain ⟨v, g, g1, g2, g3, g4⟩ := fin f ρ f1 f2 f3
      exact ⟨g, by rw [g1, zci_ok], g2, by rw [g3]; exact f4, g4⟩
    have setr : ∀ (f : zH) (k9 : Nat) (v : Int32), zsL Ww h f → zsL Ww h (zuI f 72 0 k9 v) := fun f k9 v f1 => f1.trans (zsame.rf.set (by simp)).L
    show ∃ g, zf (nI (ddK d) = 2) (zci (f_X12_draws [.inr (.inr (12, 0)), .inl (h2.1 39 0 0)] h2) (fun r8 h7 => zL p_X12_livesWeek 46 [some (.inr (.inr (12, 0))), some (.inl (nI (ddC κ d))), some (.inl (nI (ddK d))), none] [.inl r8] h7)) (zL p_X12_livesWeek 46 [some (.inr (.inr (12, 0))), some (.inl (nI (ddC κ d))), some (.inl (nI (ddK d))), none] [.inl 0] h2) = some (none, g) ∧ _
    unfold ddN ddR
    rw [if_neg e, if_neg e]
    generalize hkk : ddK d = kk at hK
    match kk, hK with
    | 0, _ =>
      have cc := canR_1 (κ := κ) (r := r) (y := zm1) h7 hC
      have r2 : h2.1 72 0 = r := hr
      rw [zf_neg (show ¬ nI 0 = 2 by decide), e_X12_livesWeek_46, zf_pos (show nI 0 = 0 from rfl), sm_canWash (by omega), tb_f, zci_ok, zf_b0, r2, if_neg (by decide), if_pos (by decide), if_neg (by decide), e_X12_livesWeek_71, zf_neg (show ¬ nI 0 = 1 by decide), e_X12_livesWeek_90, zf_neg (show ¬ nI 0 = 2 by decide), e_X12_livesWeek_114, zf_neg (show ¬ nI 0 = 3 by decide), e_X12_livesWeek_71, zf_neg (show ¬ nI 0 = 1 by decide), e_X12_livesWeek_90, zf_neg (show ¬ nI 0 = 2 by decide), e_X12_livesWeek_114, zf_neg (show ¬ nI 0 = 3 by decide)]
      by_cases b : 0 < r (3 + ddC κ d) ∧ ¬ tb (r 2) (ddC κ d)
      · rw [zf_pos b]
        refine done _ _ (dr (dr d)) (setr _ _ _ q2) ?_ (goR_gR R G (by omega)) (by rw [zuI_2]; exact d56)
        unfold goR doR
        rw [zite_pos (cc.mpr b), if_neg (by decide), if_neg (by decide), if_pos rfl, zuI_row, r2]
      · rw [zf_neg b]
        refine done _ _ (dr (dr d)) q2 ?_ (goR_gR R G (by omega)) d56
        unfold goR
        rw [zite_neg (fun z => b (cc.mp z))]; exact hr
    | 1, _ =>
      have cc := canR_2 (κ := κ) (r := r) (y := zm1) h7 hC
      have r2 : h2.1 72 0 = r := hr
      rw [zf_neg (show ¬ nI 1 = 2 by decide), e_X12_livesWeek_46, zf_neg (show ¬ nI 1 = 0 by decide), if_neg (by decide), if_pos (by decide), if_neg (by decide), e_X12_livesWeek_71, zf_pos (show nI 1 = 1 from rfl), e_X12_livesWeek_90, zf_neg (show ¬ nI 1 = 2 by decide), e_X12_livesWeek_114, zf_neg (show ¬ nI 1 = 3 by decide), r2]
      refine done _ _ (dr (dr d)) (setr _ _ _ q2) ?_ (goR_gR R G (by omega)) (by rw [zuI_2]; exact d56)
      unfold goR
      by_cases b : tb (r 2) (ddC κ d)
      · rw [zite_pos (cc.mpr b)]
        unfold doR
        rw [if_neg (by decide), if_neg (by decide), if_neg (by decide), if_pos rfl, zuI_row, r2]
      · rw [zite_neg (fun z => b (cc.mp z)), bit_out (by omega) b, zuI_row, r2]
        funext k9
        by_cases e9 : k9 = 2
        · rw [if_pos e9, e9]
        · rw [if_neg e9]
    | 2, _ =>
      have cc := canR_3 (κ := κ) (r := r) (y := nI (ddP κ d)) h7 hC
      have hp : isP κ (nI (ddP κ d)) := isP_nI h5 (Nat.mod_lt _ hP)
      have d3 : f_X12_draws [.inr (.inr (12, 0)), .inl (nI (kP κ))] h2 = some (some (.inl (nI (ddP κ d))), zuJ h2 12 0 56 (lN (dr (dr (dr d))))) := lm_draw (dr_lt _) zuJ_at hP (by omega)
      have q3 : zsL Ww h (zuJ h2 12 0 56 (lN (dr (dr (dr d))))) := q2.trans zsL.dice
      have r3 : (zuJ h2 12 0 56 (lN (dr (dr (dr d))))).1 72 0 = r := hr
      rw [zf_pos (show nI 2 = 2 from rfl), P1, d3, zci_ok, e_X12_livesWeek_46, zf_neg (show ¬ nI 2 = 0 by decide), if_pos rfl, if_pos (by decide), if_pos rfl, e_X12_livesWeek_71, zf_neg (show ¬ nI 2 = 1 by decide), e_X12_livesWeek_90, zf_pos (show nI 2 = 2 from rfl), sm_canGift (by omega), zci_ok, zf_b0, r3, z10, zfx (by omega) (by omega), nI_clamp (by omega), e_X12_livesWeek_114, zf_neg (show ¬ nI 2 = 3 by decide), e_X12_livesWeek_114, zf_neg (show ¬ nI 2 = 3 by decide)]
      by_cases b : 0 < r (3 + ddC κ d) ∧ ¬ r (10 + ddC κ d) = nI (ddP κ d)
      · rw [zf_pos b]
        refine done _ _ (dr (dr (dr d))) (setr _ _ _ q3) ?_ (goR_gR R G (by omega)) (by rw [zuI_2]; exact zuJ_at)
        unfold goR doR
        rw [zite_pos (cc.mpr ⟨hp, b⟩), if_neg (by decide), if_neg (by decide), if_neg (by decide), if_neg (by decide), if_pos rfl, hcn, zuI_row, r3]
      · rw [zf_neg b]
        refine done _ _ _ q3 ?_ (goR_gR R G (by omega)) zuJ_at
        unfold goR
        rw [zite_neg (fun z => b (cc.mp z).2)]; exact hr
    | 3, _ =>
      have cc := canR_4 (κ := κ) (r := r) (y := zm1) h7 hC
      have r2 : h2.1 72 0 = r := hr
      rw [zf_neg (show ¬ nI 3 = 2 by decide), e_X12_livesWeek_46, zf_neg (show ¬ nI 3 = 0 by decide), if_neg (by decide), if_pos (by decide), if_neg (by decide), e_X12_livesWeek_71, zf_neg (show ¬ nI 3 = 1 by decide), e_X12_livesWeek_90, zf_neg (show ¬ nI 3 = 2 by decide), e_X12_livesWeek_114, zf_pos (show nI 3 = 3 from rfl), sm_canPress (by omega), zci_ok, zf_b0, r2, sm_presses (by omega), zcv_ok, r2]
      by_cases b : 0 < r (3 + ddC κ d) ∧ 0 < r (17 + ddC κ d)
      · rw [zf_pos b]
        refine done _ _ (dr (dr d)) (setr _ _ _ (setr _ _ _ q2)) ?_ (goR_gR R G (by omega)) (by rw [zuI_2, zuI_2]; exact d56)
        unfold goR doR
        rw [zite_pos (cc.mpr b), if_neg (by decide), if_neg (by decide), if_neg (by decide), if_neg (by decide), if_neg (by decide), hcn, zuI_row, zuI_row, r2]
        funext k9
        by_cases b1 : k9 = 3 + ddC κ d
        · rw [if_pos b1, if_neg (by omega), if_pos b1]
        · rw [if_neg b1, if_neg b1]
      · rw [zf_neg b]
        refine done _ _ (dr (dr d)) q2 ?_ (goR_gR R G (by omega)) d56
        unfold goR
        rw [zite_neg (fun z => b (cc.mp z))]; exact hr
    | 4, _ =>
      rw [zf_neg (show ¬ nI 4 = 2 by decide), e_X12_livesWeek_46, zf_neg (show ¬ nI 4 = 0 by decide), if_neg (by decide), if_neg (by decide), e_X12_livesWeek_71, zf_neg (show ¬ nI 4 = 1 by decide), e_X12_livesWeek_90, zf_neg (show ¬ nI 4 = 2 by decide), e_X12_livesWeek_114, zf_neg (show ¬ nI 4 = 3 by decide)]
      exact done _ _ _ q2 hr R1 zuJ_at
    | 5, _ =>
      rw [zf_neg (show ¬ nI 5 = 2 by decide), e_X12_livesWeek_46, zf_neg (show ¬ nI 5 = 0 by decide), if_neg (by decide), if_neg (by decide), e_X12_livesWeek_71, zf_neg (show ¬ nI 5 = 1 by decide), e_X12_livesWeek_90, zf_neg (show ¬ nI 5 = 2 by decide), e_X12_livesWeek_114, zf_neg (show ¬ nI 5 = 3 by decide)]
      exact done _ _ _ q2 hr R1 zuJ_at
/-- reigns: both -/
theorem q_reigns {m : Nat} {h : zH} (I : Inv m h) (x y z : Int32) : agree f_X11_reigns f_X12_reigns [.inr (.inr (11, 0)), .inl x, .inl y, .inl z] [.inr (.inr (12, 0)), .inl x, .inl y, .inl z] m h := by
  obtain ⟨κ, I, J⟩ := I
  have h5 := I.h5
  have h7 := I.h7
  have I0 : IV κ m (zuI h 12 0 0 0) := I.quiet quiet.thrown
  have no : f_X11_reigns [.inr (.inr (11, 0)), .inl x, .inl y, .inl z] h = some (some (.inl zm1), h) → f_X12_reigns [.inr (.inr (12, 0)), .inl x, .inl y, .inl z] h = some (some (.inl zm1), zuI h 12 0 0 0) → agree f_X11_reigns f_X12_reigns [.inr (.inr (11, 0)), .inl x, .inl y, .inl z] [.inr (.inr (12, 0)), .inl x, .inl y, .inl z] m h := fun e1 e2 => agree.look I J e1 quiet.rf e2 quiet.thrown
  have ec : f_X11_reigns [.inr (.inr (11, 0)), .inl x, .inl y, .inl z] h = zf (¬ x < 0 ∧ ¬ (9999 : Int32) < x) (zf (¬ y < 1 ∧ ¬ (99 : Int32) < y) (zf (¬ z < 0 ∧ ¬ (2 : Int32) < z) (zcv (f_X8_copyFrom [.inr (.inr (8, 21)), .inr (.inr (8, 0))] h) (fun h1 => zL p_X11_reigns 56 [some (.inr (.inr (11, 0))), some (.inl x), some (.inl y), some (.inl z), some (.inl 0)] [] (zuJ h1 11 0 9 x.toInt64))) (some (some (.inl zm1), h))) (some (some (.inl zm1), h))) (some (some (.inl zm1), h)) := by
    rw [g_X11_reigns]
    by_cases e : x < 0
    · rw [zf_pos e, zf_neg (fun q => q.1 e)]
    · by_cases e2 : (9999 : Int32) < x
      · rw [zf_neg e, zf_pos e2, zf_neg (fun q => q.2 e2)]
      · rw [zf_neg e, zf_neg e2, zf_pos (show ¬ x < 0 ∧ ¬ (9999 : Int32) < x from ⟨e, e2⟩)]
        by_cases e3 : y < 1
        · rw [zf_pos e3, zf_neg (fun q => q.1 e3)]
        · by_cases e4 : (99 : Int32) < y
          · rw [zf_neg e3, zf_pos e4, zf_neg (fun q => q.2 e4)]
          · rw [zf_neg e3, zf_neg e4, zf_pos (show ¬ y < 1 ∧ ¬ (99 : Int32) < y from ⟨e3, e4⟩)]
            by_cases e5 : z < 0
            · rw [zf_pos e5, zf_neg (fun q => q.1 e5)]
            · by_cases e6 : (2 : Int32) < z
              · rw [zf_neg e5, zf_pos e6, zf_neg (fun q => q.2 e6)]
              · rw [zf_neg e5, zf_neg e6, zf_pos (show ¬ z < 0 ∧ ¬ (2 : Int32) < z from ⟨e5, e6⟩)]
  by_cases hx : ¬ x < 0 ∧ ¬ (9999 : Int32) < x
  · by_cases hy : ¬ y < 1 ∧ ¬ (99 : Int32) < y
    · by_cases hz : ¬ z < 0 ∧ ¬ (2 : Int32) < z
      · obtain ⟨sd, hsd, rfl⟩ := in_have (n := 9999) (by omega) hx
        obtain ⟨w, hw1, rfl⟩ := nI_of (x := y) (fun q => hy.1 (by rw [Int32.lt_iff_toInt_lt] at q ⊢; have a1 : (1 : Int32).toInt = 1 := rfl; have a0 : (0 : Int32).toInt = 0 := rfl; omega))
        have hw2 : ¬ 99 < w := fun q => hy.2 ((Olt hw1 (by decide)).mpr q)
        let nx : Nat → Nat × zRo → Nat × zRo := fun _ s => (ddN κ s.1, weekR κ nD (ddR κ s.1 s.2))
        generalize hZ : zit nx (sd, h.1 72 0) = Z
        have Zs : ∀ k, Z (k + 1) = (ddN κ (Z k).1, weekR κ nD (ddR κ (Z k).1 (Z k).2)) := fun k => by rw [← hZ]; rfl
        have Z0 : Z 0 = (sd, h.1 72 0) := by rw [← hZ]; rfl
        have Zd : ∀ k, (Z k).1 < 2147483648 := fun k => by
          induction k with
          | zero => rw [Z0]; show sd < _; omega
          | succ k ih => rw [Zs]; exact ddN_lt ih
        have Zr : ∀ k, gR κ (m + 2 * k) (Z k).2 := fun k => by
          induction k with
          | zero => rw [Z0]; exact I.R
          | succ k ih => rw [Zs]; exact (ddR_gR ih I.G).week h7
        have Zh : ∀ k j, 24 ≤ j → (Z k).2 j = h.1 72 0 j := fun k j hj => by
          induction k with
          | zero => rw [Z0]
          | succ k ih =>
            rw [Zs]
            show weekR κ nD (ddR κ (Z k).1 (Z k).2) j = _
            rw [weekR_hi h7 hj, ← ih]
            generalize (Z k).2 = r at *
            unfold ddR
            by_cases e : kC κ = 0
            · rw [if_pos e]
            · rw [if_neg e]
              by_cases e2 : ddK (Z k).1 < 4
              · rw [if_pos e2]
                unfold goR
                by_cases e3 : canR κ r (ddK (Z k).1 + 1) (nI (ddC κ (Z k).1)) (if ddK (Z k).1 = 2 then nI (ddP κ (Z k).1) else zm1)
                · rw [zite_pos e3, doR_hi h7 e3 hj]
                · rw [zite_neg e3]
              · rw [if_neg e2]
        -- the class
        obtain ⟨ga, a1, a2, a3⟩ := cl_copyFrom (j0 := 21) (j1 := 0) h7 I.S (by omega)
        have qa : quiet h ga := qS21 a2 (by simp)
        have o56 : ∀ (a : Int32) o1 (g : zH), zL p_X11_reigns 56 [some (.inr (.inr (11, 0))), o1, some (.inl (nI w)), some (.inl z), some (.inl a)] [] g = zL p_X11_reigns 56 [some (.inr (.inr (11, 0))), none, some (.inl (nI w)), some (.inl z), some (.inl a)] [] g := fun a o1 g => (e_X11_reigns_56 _ _ _ _ _).trans (e_X11_reigns_56 _ _ _ _ _).symm
        obtain ⟨g, e1, e2, e3, e4⟩ := zloopE (fun k (g : zH) => zL p_X11_reigns 56 [some (.inr (.inr (11, 0))), none, some (.inl (nI w)), some (.inl z), some (.inl (nI k))] [] g)
          (fun k g => quiet h g ∧ g.2 11 0 9 = lN (Z k).1 ∧ cS κ g 21 (Z k).2) w (zuJ ga 11 0 9 (nI sd).toInt64) ⟨qa.trans quiet.dice, by rw [zuJ_at, Z0, nI_l (by omega)], by rw [Z0]; exact a3.J⟩ (fun k g hk q => by
            obtain ⟨q1, q2, q3⟩ := q
            obtain ⟨g2, b1, b2, b3, b4⟩ := lc_deed (I.quiet q1) q3 (Zr k) (Zd k) q2
            have q4 := q1.trans b2
            obtain ⟨g3, c1, c2, c3⟩ := cl_aweek (I.quiet q4).K b4 (ddR_gR (Zr k) I.G)
            rw [e_X11_reigns_56, zf_pos (nI_lt hk (by omega)), b1, zcv_ok, c1, zci_ok, nI_1]
            exact ⟨g3, rfl, q4.trans (qS21 c2 (fun p hp => hp)), by rw [c2.2, b3, Zs], by rw [Zs]; exact c3⟩)
        have e1 : zL p_X11_reigns 56 [some (.inr (.inr (11, 0))), none, some (.inl (nI w)), some (.inl z), some (.inl 0)] [] (zuJ ga 11 0 9 (nI sd).toInt64) = zL p_X11_reigns 56 [some (.inr (.inr (11, 0))), none, some (.inl (nI w)), some (.inl z), some (.inl (nI w))] [] g := e1
        have Ig := I.quiet e2
        -- the model
        have I1 : IV κ m (zuI g 12 0 0 0) := Ig.quiet quiet.thrown
        have r1 : (zuI g 12 0 0 0).1 72 0 = h.1 72 0 := by rw [hr0]; exact e2.row
        have q01 : quiet g (zuI g 12 0 0 0) := quiet.thrown
        have el := g_X12_reigns (nI sd) (nI w) z g
        generalize zuI g 12 0 0 0 = g1 at I1 r1 q01 el
        obtain ⟨g2, b1, b2, b3⟩ := sm_aside (K1 := 73) (zuJ g1 12 0 56 (nI sd).toInt64) (Or.inl rfl)
        have o59 : ∀ (a : Int32) o1 o5 o6 (g : zH), zL p_X12_reigns 59 [some (.inr (.inr (12, 0))), o1, some (.inl (nI w)), some (.inl z), some (.inl a), o5, o6] [] g = zL p_X12_reigns 59 [some (.inr (.inr (12, 0))), none, some (.inl (nI w)), some (.inl z), some (.inl a), none, none] [] g := fun a o1 o5 o6 g => (e_X12_reigns_59 _ _ _ _ _ _ _).trans (e_X12_reigns_59 _ _ _ _ _ _ _).symm
        have z2 : zsL (Ww ++ [(73, 0)]) g1 g2 := zsL.dice.trans (b2.L.mono (by simp))
        obtain ⟨f, f1, f2, f3, f4⟩ := zloopE (fun k (g : zH) => zL p_X12_reigns 59 [some (.inr (.inr (12, 0))), none, some (.inl (nI w)), some (.inl z), some (.inl (nI k)), none, none] [] g)
          (fun k g => zsL Ww g2 g ∧ g.2 12 0 56 = lN (Z k).1 ∧ g.1 72 0 = (Z k).2) w g2 ⟨zsame.rf.L, by rw [b2.2, zuJ_at, Z0, nI_l (by omega)], by rw [Z0, ← r1]; exact funext (fun k => b2.1 72 0 k (by decide))⟩ (fun k g hk q => by
            obtain ⟨q1, q2, q3⟩ := q
            obtain ⟨g3, c1, c2, c3, c4⟩ := lm_lives I1 (z2.trans (q1.mono (by simp))) q3 (Zr k) (Zd k) q2
            rw [e_X12_reigns_59, zf_pos (nI_lt hk (by omega)), c1, zcv_ok, nI_1]
            exact ⟨g3, rfl, q1.trans c2, by rw [c3, Zs], by rw [c4, Zs]⟩)
        have f1 : zL p_X12_reigns 59 [some (.inr (.inr (12, 0))), none, some (.inl (nI w)), some (.inl z), some (.inl 0), none, none] [] g2 = zL p_X12_reigns 59 [some (.inr (.inr (12, 0))), none, some (.inl (nI w)), some (.inl z), some (.inl (nI w)), none, none] [] f := f1
        have zf2 := z2.trans (f2.mono (S' := Ww ++ [(73, 0)]) (by simp))
        have Mf : mK κ f := I1.M.agr I1.G (fun K k hK => zf2.1 K 0 k (fun q => by
          simp only [List.mem_cons, List.not_mem_nil, or_false] at hK
          simp only [Ww, Wk, List.mem_append, List.mem_cons, List.not_mem_nil, or_false, Prod.mk.injEq] at q
          omega))
        have Rf : gR κ (m + 2 * w) (f.1 72 0) := by rw [f4]; exact Zr w
        obtain ⟨f', d1, d2, d3, d4⟩ := sm_back (K0 := 73) f (Or.inl rfl)
        have row' : f'.1 72 0 = h.1 72 0 := by
          funext k
          by_cases e : k < 24
          · rw [d3 k e, f2.1 73 0 k (by decide), b3 k e]; show g1.1 72 0 k = _; rw [r1]
          · rw [d4 k (by omega), f4]; exact Zh w k (by omega)
        have zf3 := zf2.trans (d2.L.mono (S' := Ww ++ [(73, 0)]) (by simp))
        have qf : quiet g1 f' := ⟨fun K j k hK => by
            by_cases e : K = 72 ∧ j = 0
            · obtain ⟨rfl, rfl⟩ := e; rw [row', r1]
            · refine zf3.1 K j k (fun q => hK ?_)
              simp only [Ww, Wk, List.mem_append, List.mem_cons, List.not_mem_nil, or_false, Prod.mk.injEq] at q
              unfold scr; omega, fun K j k hK => zf3.2 K j k (fun q => hK (by unfold scrJ; omega))⟩
        refine agree.look I J (v := zi (z = 0) ((Z w).2 1) (zi (z = 1) (nI (pcnt (ear κ (Z w).2) (kP κ) / 2)) (zsum (fun c => (Z w).2 (3 + c)) 7))) (h1 := g) (h2 := f') ?_ e2 ?_ (q01.trans qf)
        · rw [ec, zf_pos hx, zf_pos hy, zf_pos hz, a1, zcv_ok, o56, e1, e_X11_reigns_56, zf_neg (nI_nlt' (by omega)), e4.2.1, cl_pairsInEarnest Ig.K e4 Ig.G (Zr w), zci_ok, g_X0_cakeBits, zci_ok, Ig.K.2.2.1, cl_thickOf Ig.K e4, zci_ok, allT (Zr w) h7, zfi, zfi]
        · rw [el, sm_within, zci_ok, zf_b0, zf_pos hx, sm_within, zci_ok, zf_b0, zf_pos hy, sm_within, zci_ok, zf_b0, zf_pos hz, b1, zcv_ok, o59, f1, e_X12_reigns_59, zf_neg (nI_nlt' (by omega)), ml_pairsEarnest Mf I1.G Rf, zci_ok, ml_allThick, zci_ok, d1, zcv_ok, f4, zfi, zfi]
      · refine no ?_ ?_
        · rw [ec, zf_pos hx, zf_pos hy, zf_neg hz]
        · rw [g_X12_reigns, sm_within, zci_ok, zf_b0, zf_pos hx, sm_within, zci_ok, zf_b0, zf_pos hy, sm_within, zci_ok, zf_b0, zf_neg hz]
    · refine no ?_ ?_
      · rw [ec, zf_pos hx, zf_neg hy]
      · rw [g_X12_reigns, sm_within, zci_ok, zf_b0, zf_pos hx, sm_within, zci_ok, zf_b0, zf_neg hy]
  · refine no ?_ ?_
    · rw [ec, zf_neg hx]
    · rw [g_X12_reigns, sm_within, zci_ok, zf_b0, zf_neg hx]
