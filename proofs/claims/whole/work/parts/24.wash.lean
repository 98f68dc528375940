/-! Washing: the class's side. -/
/-- all but the listed cells are as they were -/
def zsame (S : List (Nat × Nat)) (h g : zH) : Prop := (∀ K j k, (K, j) ∉ S → g.1 K j k = h.1 K j k) ∧ g.2 = h.2
theorem zsame.rf {S : List (Nat × Nat)} {h : zH} : zsame S h h := ⟨fun _ _ _ _ => rfl, rfl⟩
theorem zsame.trans {S : List (Nat × Nat)} {h g f : zH} (a : zsame S h g) (b : zsame S g f) : zsame S h f := ⟨fun K j k hn => (b.1 K j k hn).trans (a.1 K j k hn), b.2.trans a.2⟩
theorem zsame.mono {S S' : List (Nat × Nat)} {h g : zH} (a : zsame S h g) (hs : ∀ q ∈ S, q ∈ S') : zsame S' h g := ⟨fun K j k hn => a.1 K j k (fun q => hn (hs _ q)), a.2⟩
theorem zsame.set {S : List (Nat × Nat)} {h g : zH} {K j k : Nat} {v : Int32} (a : zsame S h g) (hs : (K, j) ∈ S) : zsame S h (zuI g K j k v) := ⟨fun K' j' k' hn => by
  show (if K' = K ∧ j' = j ∧ k' = k then v else g.1 K' j' k') = _
  rw [if_neg (fun e => hn (by rw [e.1, e.2.1]; exact hs))]; exact a.1 K' j' k' hn, a.2⟩
theorem zonly.same {K j : Nat} {h g : zH} (q : zonly K j h g) : zsame [(K, j)] h g := ⟨fun K' j' k' hn => q.1 K' j' k' (fun e => hn (by rw [e.1, e.2]; exact List.mem_singleton.mpr rfl)), q.2⟩
/-- the told congress: how many powers, cakes, steps of its law -/
def zCV (h : zH) (P C n : Nat) : Prop := h.1 0 0 0 = nI P ∧ P ≤ 5 ∧ h.1 0 0 4 = nI C ∧ C ≤ 7 ∧ h.1 1 0 2 = nI n ∧ n ≤ 1000
theorem zCV.same {h g : zH} {P C n : Nat} (q : zCV h P C n) {S : List (Nat × Nat)} (a : zsame S h g) (h0 : (0, 0) ∉ S) (h1 : (1, 0) ∉ S) : zCV g P C n := by
  obtain ⟨a1, a2, a3, a4, a5, a6⟩ := q
  exact ⟨by rw [a.1 0 0 0 h0]; exact a1, a2, by rw [a.1 0 0 4 h0]; exact a3, a4, by rw [a.1 1 0 2 h1]; exact a5, a6⟩
/-- what the law of the told congress comes to -/
noncomputable def zLV (h : zH) (n : Nat) (a b c d : Int32) : Int32 := lval (lrun (h.1 22 0) a b c d n)
def mx0 (x : Int32) : Int32 := if 0 < x then x else 0
def wear9 (v : Int32) : Int32 := if 0 < (if v < 9 then v else 9) then (if v < 9 then v else 9) else 0
noncomputable def twash (kd v left : Int32) : Int32 := zi (kd = 3) left (zi (kd = 1) (mx0 (left - wear9 v / 2)) (mx0 (left - wear9 v)))
theorem sp_thickWashed {P C n c q : Nat} (left used : Int32) (h : zH) (V : zCV h P C n) (hc : c < C) (hq : q < P) : ∃ g, f_X0_thickWashed [.inr (.inr (0, 0)), .inl (nI c), .inl (nI q), .inl left, .inl used] h = some (some (.inl (twash (h.1 14 0 q) (zLV h n left (h.1 20 0 c) (h.1 15 0 q) used) left)), g) ∧ zonly 23 0 h g := by
  obtain ⟨a1, a2, a3, a4, a5, a6⟩ := V
  have h1 : ¬ nI c < 0 := nI_pos (by omega)
  have h2 : nI c < nI C := nI_lt hc (by omega)
  have h3 : nI c < 7 := nI_lt (b := 7) (by omega) (by omega)
  have h4 : vp_in (nI c) 7 := vp_in_nI (by omega) (by omega)
  rw [g_X0_thickWashed, sp_hasCake, a3]
  simp only [zci_ok, zb_0, h1, h2, h3, not_false_eq_true, and_self, not_true, zf_false, zf_pos h4, nI_clamp (show c < 2 ^ 31 by omega), sp_kindOf 0 h a1 a2 hq, sp_waterOf 0 h a1 a2 hq]
  obtain ⟨g, e1, e2⟩ := sp_valueFor 0 n left (h.1 20 0 c) (h.1 15 0 q) used h a5 a6
  by_cases k3 : h.1 14 0 q = 3
  · refine ⟨h, ?_, zonly.rf⟩
    rw [zf_pos k3]; unfold twash; rw [zi_pos k3]
  · refine ⟨g, ?_, e2⟩
    have b1 : g.1 0 0 0 = nI P := by rw [e2.1 0 0 0 (by omega)]; exact a1
    have b2 : g.1 14 0 q = h.1 14 0 q := e2.1 14 0 q (by omega)
    rw [zf_neg k3, e1, zci_ok, sp_kindOf 0 g b1 a2 hq, zci_ok, b2, zfi]
    unfold twash
    rw [zi_neg k3]
    rfl
