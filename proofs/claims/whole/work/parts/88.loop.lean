/-! The loop over the script. -/
def LG (xs : Nat → Int32) (n k : Nat) : Prop := ∀ (h : zH) (o5 o6 : Option zV) (c : Nat), c ≤ k → Inv k h → ∃ h', zL (p_law xs n) 23 [some (.inr (.inr (80, 0))), some (.inr (.inr (11, 0))), some (.inr (.inr (12, 0))), some (.inr (.inr (79, 0))), some (.inl (nI (7 * k))), o5, o6, some (.inl (nI c))] [] h = some (some (.inl 1), h')
theorem lw_ag {fc fm : zS} {ac am : List zV} {k : Nat} {h : zH} (A : agree fc fm ac am k h) {G : zH → Option zRes} (ih : ∀ h, Inv (k + 1) h → ∃ h', G h = some (some (.inl 1), h')) : ∃ h', zci (fc ac h) (fun r2 h1 => zci (fm am h1) (fun r4 h3 => zf (r2 = r4) (G h3) (some (some (.inl 0), h3)))) = some (some (.inl 1), h') := by
  obtain ⟨v, h1, h2, e1, e2, I⟩ := A
  rw [e1, zci_ok, e2, zci_ok, zf_pos rfl]
  exact ih h2 I
theorem e7_ {k : Nat} : nI (7 * k) + 7 = nI (7 * (k + 1)) := by
  rw [show 7 * (k + 1) = 7 * k + 7 by omega]
  exact (Int32.ofNat_add (7 * k) 7).symm
theorem ej_ {k j : Nat} {x : Int32} (hx : x = nI j) : nI (7 * k) + x = nI (7 * k + j) := by
  subst hx
  exact (Int32.ofNat_add (7 * k) j).symm
theorem vj_ {k j n : Nat} {x : Int32} (hx : x = nI j) (hk : 7 * k + j < n) (hn : n ≤ 3584) : vp_in (nI (7 * k) + x) n := by
  rw [ej_ hx]; exact vp_in_nI hk (by omega)

theorem lc_184 {xs : Nat → Int32} {n k c : Nat} {h : zH} (hn : n ≤ 3584) (hk : 7 * k + 7 ≤ n) (hc : c ≤ k) (I : Inv k h) (ih : LG xs n (k + 1)) : ∃ h', zL (p_law xs n) 184 [some (.inr (.inr (80, 0))), some (.inr (.inr (11, 0))), some (.inr (.inr (12, 0))), some (.inr (.inr (79, 0))), some (.inl (nI (7 * k))), none, none, some (.inl (nI c))] [] h = some (some (.inl 1), h') := by
  rw [e_law_184]
  simp only [zf_pos (vj_ (k := k) (j := 1) (x := 1) rfl (by omega : 7 * k + 1 < n) hn), zf_pos (vj_ (k := k) (j := 2) (x := 2) rfl (by omega : 7 * k + 2 < n) hn), zf_pos (vj_ (k := k) (j := 3) (x := 3) rfl (by omega : 7 * k + 3 < n) hn), zf_pos (vj_ (k := k) (j := 4) (x := 4) rfl (by omega : 7 * k + 4 < n) hn), zf_pos (vj_ (k := k) (j := 5) (x := 5) rfl (by omega : 7 * k + 5 < n) hn), zf_pos (vj_ (k := k) (j := 6) (x := 6) rfl (by omega : 7 * k + 6 < n) hn), e7_]
  exact lw_ag (q_feed I _ _ _) (fun h I => ih h _ _ c (by omega) I)
theorem lc_331 {xs : Nat → Int32} {n k c : Nat} {h : zH} (hn : n ≤ 3584) (hk : 7 * k + 7 ≤ n) (hc : c ≤ k) (I : Inv k h) (ih : LG xs n (k + 1)) : ∃ h', zL (p_law xs n) 331 [some (.inr (.inr (80, 0))), some (.inr (.inr (11, 0))), some (.inr (.inr (12, 0))), some (.inr (.inr (79, 0))), some (.inl (nI (7 * k))), none, none, some (.inl (nI c))] [] h = some (some (.inl 1), h') := by
  rw [e_law_331]
  simp only [e7_]
  exact lw_ag (q_congress I) (fun h I => ih h _ _ c (by omega) I)
theorem lc_344 {xs : Nat → Int32} {n k c : Nat} {h : zH} (hn : n ≤ 3584) (hk : 7 * k + 7 ≤ n) (hc : c ≤ k) (I : Inv k h) (ih : LG xs n (k + 1)) : ∃ h', zL (p_law xs n) 344 [some (.inr (.inr (80, 0))), some (.inr (.inr (11, 0))), some (.inr (.inr (12, 0))), some (.inr (.inr (79, 0))), some (.inl (nI (7 * k))), none, none, some (.inl (nI c))] [] h = some (some (.inl 1), h') := by
  rw [e_law_344]
  simp only [e7_]
  exact lw_ag (q_years I) (fun h I => ih h _ _ c (by omega) I)
theorem lc_357 {xs : Nat → Int32} {n k c : Nat} {h : zH} (hn : n ≤ 3584) (hk : 7 * k + 7 ≤ n) (hc : c ≤ k) (I : Inv k h) (ih : LG xs n (k + 1)) : ∃ h', zL (p_law xs n) 357 [some (.inr (.inr (80, 0))), some (.inr (.inr (11, 0))), some (.inr (.inr (12, 0))), some (.inr (.inr (79, 0))), some (.inl (nI (7 * k))), none, none, some (.inl (nI c))] [] h = some (some (.inl 1), h') := by
  rw [e_law_357]
  simp only [zf_pos (vj_ (k := k) (j := 1) (x := 1) rfl (by omega : 7 * k + 1 < n) hn), zf_pos (vj_ (k := k) (j := 2) (x := 2) rfl (by omega : 7 * k + 2 < n) hn), e7_]
  exact lw_ag (q_power I _ _) (fun h I => ih h _ _ c (by omega) I)
theorem lc_394 {xs : Nat → Int32} {n k c : Nat} {h : zH} (hn : n ≤ 3584) (hk : 7 * k + 7 ≤ n) (hc : c ≤ k) (I : Inv k h) (ih : LG xs n (k + 1)) : ∃ h', zL (p_law xs n) 394 [some (.inr (.inr (80, 0))), some (.inr (.inr (11, 0))), some (.inr (.inr (12, 0))), some (.inr (.inr (79, 0))), some (.inl (nI (7 * k))), none, none, some (.inl (nI c))] [] h = some (some (.inl 1), h') := by
  rw [e_law_394]
  simp only [zf_pos (vj_ (k := k) (j := 1) (x := 1) rfl (by omega : 7 * k + 1 < n) hn), zf_pos (vj_ (k := k) (j := 2) (x := 2) rfl (by omega : 7 * k + 2 < n) hn), e7_]
  exact lw_ag (q_cake I _ _) (fun h I => ih h _ _ c (by omega) I)
theorem lc_431 {xs : Nat → Int32} {n k c : Nat} {h : zH} (hn : n ≤ 3584) (hk : 7 * k + 7 ≤ n) (hc : c ≤ k) (I : Inv k h) (ih : LG xs n (k + 1)) : ∃ h', zL (p_law xs n) 431 [some (.inr (.inr (80, 0))), some (.inr (.inr (11, 0))), some (.inr (.inr (12, 0))), some (.inr (.inr (79, 0))), some (.inl (nI (7 * k))), none, none, some (.inl (nI c))] [] h = some (some (.inl 1), h') := by
  rw [e_law_431]
  simp only [zf_pos (vj_ (k := k) (j := 1) (x := 1) rfl (by omega : 7 * k + 1 < n) hn), e7_]
  exact lw_ag (q_wash I _) (fun h I => ih h _ _ c (by omega) I)
theorem lc_456 {xs : Nat → Int32} {n k c : Nat} {h : zH} (hn : n ≤ 3584) (hk : 7 * k + 7 ≤ n) (hc : c ≤ k) (I : Inv k h) (ih : LG xs n (k + 1)) : ∃ h', zL (p_law xs n) 456 [some (.inr (.inr (80, 0))), some (.inr (.inr (11, 0))), some (.inr (.inr (12, 0))), some (.inr (.inr (79, 0))), some (.inl (nI (7 * k))), none, none, some (.inl (nI c))] [] h = some (some (.inl 1), h') := by
  rw [e_law_456]
  simp only [zf_pos (vj_ (k := k) (j := 1) (x := 1) rfl (by omega : 7 * k + 1 < n) hn), e7_]
  exact lw_ag (q_hair I _) (fun h I => ih h _ _ c (by omega) I)
theorem lc_481 {xs : Nat → Int32} {n k c : Nat} {h : zH} (hn : n ≤ 3584) (hk : 7 * k + 7 ≤ n) (hc : c ≤ k) (I : Inv k h) (ih : LG xs n (k + 1)) : ∃ h', zL (p_law xs n) 481 [some (.inr (.inr (80, 0))), some (.inr (.inr (11, 0))), some (.inr (.inr (12, 0))), some (.inr (.inr (79, 0))), some (.inl (nI (7 * k))), none, none, some (.inl (nI c))] [] h = some (some (.inl 1), h') := by
  rw [e_law_481]
  simp only [zf_pos (vj_ (k := k) (j := 1) (x := 1) rfl (by omega : 7 * k + 1 < n) hn), e7_]
  exact lw_ag (q_pick I _) (fun h I => ih h _ _ c (by omega) I)
theorem lc_506 {xs : Nat → Int32} {n k c : Nat} {h : zH} (hn : n ≤ 3584) (hk : 7 * k + 7 ≤ n) (hc : c ≤ k) (I : Inv k h) (ih : LG xs n (k + 1)) : ∃ h', zL (p_law xs n) 506 [some (.inr (.inr (80, 0))), some (.inr (.inr (11, 0))), some (.inr (.inr (12, 0))), some (.inr (.inr (79, 0))), some (.inl (nI (7 * k))), none, none, some (.inl (nI c))] [] h = some (some (.inl 1), h') := by
  rw [e_law_506]
  simp only [zf_pos (vj_ (k := k) (j := 1) (x := 1) rfl (by omega : 7 * k + 1 < n) hn), zf_pos (vj_ (k := k) (j := 2) (x := 2) rfl (by omega : 7 * k + 2 < n) hn), e7_]
  exact lw_ag (q_gift I _ _) (fun h I => ih h _ _ c (by omega) I)
theorem lc_543 {xs : Nat → Int32} {n k c : Nat} {h : zH} (hn : n ≤ 3584) (hk : 7 * k + 7 ≤ n) (hc : c ≤ k) (I : Inv k h) (ih : LG xs n (k + 1)) : ∃ h', zL (p_law xs n) 543 [some (.inr (.inr (80, 0))), some (.inr (.inr (11, 0))), some (.inr (.inr (12, 0))), some (.inr (.inr (79, 0))), some (.inl (nI (7 * k))), none, none, some (.inl (nI c))] [] h = some (some (.inl 1), h') := by
  rw [e_law_543]
  simp only [zf_pos (vj_ (k := k) (j := 1) (x := 1) rfl (by omega : 7 * k + 1 < n) hn), e7_]
  exact lw_ag (q_press I _) (fun h I => ih h _ _ c (by omega) I)
theorem lc_568 {xs : Nat → Int32} {n k c : Nat} {h : zH} (hn : n ≤ 3584) (hk : 7 * k + 7 ≤ n) (hc : c ≤ k) (I : Inv k h) (ih : LG xs n (k + 1)) : ∃ h', zL (p_law xs n) 568 [some (.inr (.inr (80, 0))), some (.inr (.inr (11, 0))), some (.inr (.inr (12, 0))), some (.inr (.inr (79, 0))), some (.inl (nI (7 * k))), none, none, some (.inl (nI c))] [] h = some (some (.inl 1), h') := by
  rw [e_law_568]
  simp only [e7_]
  exact lw_ag (q_week I) (fun h I => ih h _ _ c (by omega) I)
theorem lc_581 {xs : Nat → Int32} {n k c : Nat} {h : zH} (hn : n ≤ 3584) (hk : 7 * k + 7 ≤ n) (hc : c ≤ k) (I : Inv k h) (ih : LG xs n (k + 1)) : ∃ h', zL (p_law xs n) 581 [some (.inr (.inr (80, 0))), some (.inr (.inr (11, 0))), some (.inr (.inr (12, 0))), some (.inr (.inr (79, 0))), some (.inl (nI (7 * k))), none, none, some (.inl (nI c))] [] h = some (some (.inl 1), h') := by
  rw [e_law_581]
  simp only [e7_]
  exact lw_ag (q_undo I) (fun h I => ih h _ _ c (by omega) I)
theorem lc_594 {xs : Nat → Int32} {n k c : Nat} {h : zH} (hn : n ≤ 3584) (hk : 7 * k + 7 ≤ n) (hc : c ≤ k) (I : Inv k h) (ih : LG xs n (k + 1)) : ∃ h', zL (p_law xs n) 594 [some (.inr (.inr (80, 0))), some (.inr (.inr (11, 0))), some (.inr (.inr (12, 0))), some (.inr (.inr (79, 0))), some (.inl (nI (7 * k))), none, none, some (.inl (nI c))] [] h = some (some (.inl 1), h') := by
  rw [e_law_594]
  simp only [zf_pos (vj_ (k := k) (j := 1) (x := 1) rfl (by omega : 7 * k + 1 < n) hn), e7_]
  exact lw_ag (q_judged I _) (fun h I => ih h _ _ c (by omega) I)
theorem lc_619 {xs : Nat → Int32} {n k c : Nat} {h : zH} (hn : n ≤ 3584) (hk : 7 * k + 7 ≤ n) (hc : c ≤ k) (I : Inv k h) (ih : LG xs n (k + 1)) : ∃ h', zL (p_law xs n) 619 [some (.inr (.inr (80, 0))), some (.inr (.inr (11, 0))), some (.inr (.inr (12, 0))), some (.inr (.inr (79, 0))), some (.inl (nI (7 * k))), none, none, some (.inl (nI c))] [] h = some (some (.inl 1), h') := by
  rw [e_law_619]
  simp only [zf_pos (vj_ (k := k) (j := 1) (x := 1) rfl (by omega : 7 * k + 1 < n) hn), zf_pos (vj_ (k := k) (j := 2) (x := 2) rfl (by omega : 7 * k + 2 < n) hn), e7_]
  exact lw_ag (q_earnest I _ _) (fun h I => ih h _ _ c (by omega) I)
theorem lc_656 {xs : Nat → Int32} {n k c : Nat} {h : zH} (hn : n ≤ 3584) (hk : 7 * k + 7 ≤ n) (hc : c ≤ k) (I : Inv k h) (ih : LG xs n (k + 1)) : ∃ h', zL (p_law xs n) 656 [some (.inr (.inr (80, 0))), some (.inr (.inr (11, 0))), some (.inr (.inr (12, 0))), some (.inr (.inr (79, 0))), some (.inl (nI (7 * k))), none, none, some (.inl (nI c))] [] h = some (some (.inl 1), h') := by
  rw [e_law_656]
  simp only [zf_pos (vj_ (k := k) (j := 1) (x := 1) rfl (by omega : 7 * k + 1 < n) hn), e7_]
  exact lw_ag (q_gone I _) (fun h I => ih h _ _ c (by omega) I)
theorem lc_681 {xs : Nat → Int32} {n k c : Nat} {h : zH} (hn : n ≤ 3584) (hk : 7 * k + 7 ≤ n) (hc : c ≤ k) (I : Inv k h) (ih : LG xs n (k + 1)) : ∃ h', zL (p_law xs n) 681 [some (.inr (.inr (80, 0))), some (.inr (.inr (11, 0))), some (.inr (.inr (12, 0))), some (.inr (.inr (79, 0))), some (.inl (nI (7 * k))), none, none, some (.inl (nI c))] [] h = some (some (.inl 1), h') := by
  rw [e_law_681]
  simp only [zf_pos (vj_ (k := k) (j := 1) (x := 1) rfl (by omega : 7 * k + 1 < n) hn), e7_]
  exact lw_ag (q_worn I _) (fun h I => ih h _ _ c (by omega) I)
theorem lc_706 {xs : Nat → Int32} {n k c : Nat} {h : zH} (hn : n ≤ 3584) (hk : 7 * k + 7 ≤ n) (hc : c ≤ k) (I : Inv k h) (ih : LG xs n (k + 1)) : ∃ h', zL (p_law xs n) 706 [some (.inr (.inr (80, 0))), some (.inr (.inr (11, 0))), some (.inr (.inr (12, 0))), some (.inr (.inr (79, 0))), some (.inl (nI (7 * k))), none, none, some (.inl (nI c))] [] h = some (some (.inl 1), h') := by
  rw [e_law_706]
  simp only [e7_]
  exact lw_ag (q_last I) (fun h I => ih h _ _ c (by omega) I)
theorem lc_719 {xs : Nat → Int32} {n k c : Nat} {h : zH} (hn : n ≤ 3584) (hk : 7 * k + 7 ≤ n) (hc : c ≤ k) (I : Inv k h) (ih : LG xs n (k + 1)) : ∃ h', zL (p_law xs n) 719 [some (.inr (.inr (80, 0))), some (.inr (.inr (11, 0))), some (.inr (.inr (12, 0))), some (.inr (.inr (79, 0))), some (.inl (nI (7 * k))), none, none, some (.inl (nI c))] [] h = some (some (.inl 1), h') := by
  rw [e_law_719]
  simp only [zf_pos (vj_ (k := k) (j := 1) (x := 1) rfl (by omega : 7 * k + 1 < n) hn), e7_]
  exact lw_ag (q_best I _) (fun h I => ih h _ _ c (by omega) I)
theorem lc_744 {xs : Nat → Int32} {n k c : Nat} {h : zH} (hn : n ≤ 3584) (hk : 7 * k + 7 ≤ n) (hc : c ≤ k) (I : Inv k h) (ih : LG xs n (k + 1)) : ∃ h', zL (p_law xs n) 744 [some (.inr (.inr (80, 0))), some (.inr (.inr (11, 0))), some (.inr (.inr (12, 0))), some (.inr (.inr (79, 0))), some (.inl (nI (7 * k))), none, none, some (.inl (nI c))] [] h = some (some (.inl 1), h') := by
  rw [e_law_744]
  simp only [zf_pos (vj_ (k := k) (j := 1) (x := 1) rfl (by omega : 7 * k + 1 < n) hn), e7_]
  exact lw_ag (q_pressing I _) (fun h I => ih h _ _ c (by omega) I)
theorem lc_769 {xs : Nat → Int32} {n k c : Nat} {h : zH} (hn : n ≤ 3584) (hk : 7 * k + 7 ≤ n) (hc : c ≤ k) (I : Inv k h) (ih : LG xs n (k + 1)) : ∃ h', zL (p_law xs n) 769 [some (.inr (.inr (80, 0))), some (.inr (.inr (11, 0))), some (.inr (.inr (12, 0))), some (.inr (.inr (79, 0))), some (.inl (nI (7 * k))), none, none, some (.inl (nI c))] [] h = some (some (.inl 1), h') := by
  rw [e_law_769]
  simp only [e7_]
  exact lw_ag (q_peace I) (fun h I => ih h _ _ c (by omega) I)
theorem lc_782 {xs : Nat → Int32} {n k c : Nat} {h : zH} (hn : n ≤ 3584) (hk : 7 * k + 7 ≤ n) (hc : c ≤ k) (I : Inv k h) (ih : LG xs n (k + 1)) : ∃ h', zL (p_law xs n) 782 [some (.inr (.inr (80, 0))), some (.inr (.inr (11, 0))), some (.inr (.inr (12, 0))), some (.inr (.inr (79, 0))), some (.inl (nI (7 * k))), none, none, some (.inl (nI c))] [] h = some (some (.inl 1), h') := by
  rw [e_law_782]
  simp only [zf_pos (vj_ (k := k) (j := 1) (x := 1) rfl (by omega : 7 * k + 1 < n) hn), e7_]
  exact lw_ag (q_pacts I (by omega) _) (fun h I => ih h _ _ c (by omega) I)
theorem lc_807 {xs : Nat → Int32} {n k c : Nat} {h : zH} (hn : n ≤ 3584) (hk : 7 * k + 7 ≤ n) (hc : c ≤ k) (I : Inv k h) (ih : LG xs n (k + 1)) : ∃ h', zL (p_law xs n) 807 [some (.inr (.inr (80, 0))), some (.inr (.inr (11, 0))), some (.inr (.inr (12, 0))), some (.inr (.inr (79, 0))), some (.inl (nI (7 * k))), none, none, some (.inl (nI c))] [] h = some (some (.inl 1), h') := by
  rw [e_law_807]
  simp only [e7_]
  exact lw_ag (q_soonest I (by omega)) (fun h I => ih h _ _ c (by omega) I)
theorem lc_820 {xs : Nat → Int32} {n k c : Nat} {h : zH} (hn : n ≤ 3584) (hk : 7 * k + 7 ≤ n) (hc : c ≤ k) (I : Inv k h) (ih : LG xs n (k + 1)) : ∃ h', zL (p_law xs n) 820 [some (.inr (.inr (80, 0))), some (.inr (.inr (11, 0))), some (.inr (.inr (12, 0))), some (.inr (.inr (79, 0))), some (.inl (nI (7 * k))), none, none, some (.inl (nI c))] [] h = some (some (.inl 1), h') := by
  rw [e_law_820]
  simp only [e7_]
  exact lw_ag (q_blocs I) (fun h I => ih h _ _ c (by omega) I)
theorem lc_833 {xs : Nat → Int32} {n k c : Nat} {h : zH} (hn : n ≤ 3584) (hk : 7 * k + 7 ≤ n) (hc : c ≤ k) (I : Inv k h) (ih : LG xs n (k + 1)) : ∃ h', zL (p_law xs n) 833 [some (.inr (.inr (80, 0))), some (.inr (.inr (11, 0))), some (.inr (.inr (12, 0))), some (.inr (.inr (79, 0))), some (.inl (nI (7 * k))), none, none, some (.inl (nI c))] [] h = some (some (.inl 1), h') := by
  rw [e_law_833]
  simp only [e7_]
  exact lw_ag (q_devoted I) (fun h I => ih h _ _ c (by omega) I)
theorem lc_846 {xs : Nat → Int32} {n k c : Nat} {h : zH} (hn : n ≤ 3584) (hk : 7 * k + 7 ≤ n) (hc : c ≤ k) (I : Inv k h) (ih : LG xs n (k + 1)) : ∃ h', zL (p_law xs n) 846 [some (.inr (.inr (80, 0))), some (.inr (.inr (11, 0))), some (.inr (.inr (12, 0))), some (.inr (.inr (79, 0))), some (.inl (nI (7 * k))), none, none, some (.inl (nI c))] [] h = some (some (.inl 1), h') := by
  rw [e_law_846]
  simp only [zf_pos (vj_ (k := k) (j := 1) (x := 1) rfl (by omega : 7 * k + 1 < n) hn), zf_pos (vj_ (k := k) (j := 2) (x := 2) rfl (by omega : 7 * k + 2 < n) hn), zf_pos (vj_ (k := k) (j := 3) (x := 3) rfl (by omega : 7 * k + 3 < n) hn), e7_]
  exact lw_ag (q_see I _ _ _) (fun h I => ih h _ _ c (by omega) I)
theorem lc_895 {xs : Nat → Int32} {n k c : Nat} {h : zH} (hn : n ≤ 3584) (hk : 7 * k + 7 ≤ n) (hc : c ≤ k) (I : Inv k h) (ih : LG xs n (k + 1)) : ∃ h', zL (p_law xs n) 895 [some (.inr (.inr (80, 0))), some (.inr (.inr (11, 0))), some (.inr (.inr (12, 0))), some (.inr (.inr (79, 0))), some (.inl (nI (7 * k))), none, none, some (.inl (nI c))] [] h = some (some (.inl 1), h') := by
  rw [e_law_895]
  simp only [zf_pos (vj_ (k := k) (j := 1) (x := 1) rfl (by omega : 7 * k + 1 < n) hn), e7_]
  exact lw_ag (q_sets I _) (fun h I => ih h _ _ c (by omega) I)
theorem lc_920 {xs : Nat → Int32} {n k c : Nat} {h : zH} (hn : n ≤ 3584) (hk : 7 * k + 7 ≤ n) (hc : c ≤ k) (I : Inv k h) (ih : LG xs n (k + 1)) : ∃ h', zL (p_law xs n) 920 [some (.inr (.inr (80, 0))), some (.inr (.inr (11, 0))), some (.inr (.inr (12, 0))), some (.inr (.inr (79, 0))), some (.inl (nI (7 * k))), none, none, some (.inl (nI c))] [] h = some (some (.inl 1), h') := by
  rw [e_law_920]
  simp only [zf_pos (vj_ (k := k) (j := 1) (x := 1) rfl (by omega : 7 * k + 1 < n) hn), e7_]
  exact lw_ag (q_ask I _) (fun h I => ih h _ _ c (by omega) I)
theorem lc_945 {xs : Nat → Int32} {n k c : Nat} {h : zH} (hn : n ≤ 3584) (hk : 7 * k + 7 ≤ n) (hc : c ≤ k) (I : Inv k h) (ih : LG xs n (k + 1)) : ∃ h', zL (p_law xs n) 945 [some (.inr (.inr (80, 0))), some (.inr (.inr (11, 0))), some (.inr (.inr (12, 0))), some (.inr (.inr (79, 0))), some (.inl (nI (7 * k))), none, none, some (.inl (nI c))] [] h = some (some (.inl 1), h') := by
  rw [e_law_945]
  simp only [zf_pos (vj_ (k := k) (j := 1) (x := 1) rfl (by omega : 7 * k + 1 < n) hn), zf_pos (vj_ (k := k) (j := 2) (x := 2) rfl (by omega : 7 * k + 2 < n) hn), zf_pos (vj_ (k := k) (j := 3) (x := 3) rfl (by omega : 7 * k + 3 < n) hn), e7_]
  exact lw_ag (q_chance I (by omega) _ _ _) (fun h I => ih h _ _ c (by omega) I)
theorem lc_994 {xs : Nat → Int32} {n k c : Nat} {h : zH} (hn : n ≤ 3584) (hk : 7 * k + 7 ≤ n) (hc : c ≤ k) (I : Inv k h) (ih : LG xs n (k + 1)) : ∃ h', zL (p_law xs n) 994 [some (.inr (.inr (80, 0))), some (.inr (.inr (11, 0))), some (.inr (.inr (12, 0))), some (.inr (.inr (79, 0))), some (.inl (nI (7 * k))), none, none, some (.inl (nI c))] [] h = some (some (.inl 1), h') := by
  have hx : nI c < 600 ∧ ¬ nI c < 0 := ⟨nI_lt (b := 600) (by omega) (by omega), nI_pos (by omega)⟩
  rw [e_law_994]
  simp only [zf_pos (vj_ (k := k) (j := 1) (x := 1) rfl (by omega : 7 * k + 1 < n) hn), zf_pos (vj_ (k := k) (j := 2) (x := 2) rfl (by omega : 7 * k + 2 < n) hn), zf_pos (vj_ (k := k) (j := 3) (x := 3) rfl (by omega : 7 * k + 3 < n) hn), zf_pos (vj_ (k := k) (j := 4) (x := 4) rfl (by omega : 7 * k + 4 < n) hn), zf_pos hx, e7_]
  generalize xs _ = p0
  generalize xs _ = p1
  generalize xs _ = p2
  generalize xs _ = p3
  obtain ⟨kk, v, h1, h2, e1, e2, e3, e4, I2⟩ := q_rests I p0 p1 p2 p3
  rw [e1, zci_ok, e2, zci_ok, g_X12_thrown, zci_ok, zf_pos e3]
  have ec : nI c + 1 = nI (c + 1) := nI_1 c
  rw [ec]
  by_cases k0 : kk = 0
  · rw [zf_pos k0, zf_pos (show lg_cmp (h2.2 79 0 0) v.toInt64 = 0 by rw [e4 k0]; simp [lg_cmp])]
    exact ih h2 _ _ (c + 1) (by omega) I2
  · rw [zf_neg k0]
    exact ih h2 _ _ (c + 1) (by omega) I2
theorem lc_1086 {xs : Nat → Int32} {n k c : Nat} {h : zH} (hn : n ≤ 3584) (hk : 7 * k + 7 ≤ n) (hc : c ≤ k) (I : Inv k h) (ih : LG xs n (k + 1)) : ∃ h', zL (p_law xs n) 1086 [some (.inr (.inr (80, 0))), some (.inr (.inr (11, 0))), some (.inr (.inr (12, 0))), some (.inr (.inr (79, 0))), some (.inl (nI (7 * k))), none, none, some (.inl (nI c))] [] h = some (some (.inl 1), h') := by
  rw [e_law_1086]
  simp only [zf_pos (vj_ (k := k) (j := 1) (x := 1) rfl (by omega : 7 * k + 1 < n) hn), zf_pos (vj_ (k := k) (j := 2) (x := 2) rfl (by omega : 7 * k + 2 < n) hn), zf_pos (vj_ (k := k) (j := 3) (x := 3) rfl (by omega : 7 * k + 3 < n) hn), e7_]
  exact lw_ag (q_reigns I _ _ _) (fun h I => ih h _ _ c (by omega) I)
theorem lc_1135 {xs : Nat → Int32} {n k c : Nat} {h : zH} (hn : n ≤ 3584) (hk : 7 * k + 7 ≤ n) (hc : c ≤ k) (I : Inv k h) (ih : LG xs n (k + 1)) : ∃ h', zL (p_law xs n) 1135 [some (.inr (.inr (80, 0))), some (.inr (.inr (11, 0))), some (.inr (.inr (12, 0))), some (.inr (.inr (79, 0))), some (.inl (nI (7 * k))), none, none, some (.inl (nI c))] [] h = some (some (.inl 1), h') := by
  have key : ∀ (s0 s1 : Int32), (s0 = 0 ∧ xs (nI (7 * k) + 2).toNatClampNeg = 0 ∨ s0 = 1 ∧ ¬ xs (nI (7 * k) + 2).toNatClampNeg = 0) → s1 = xs (nI (7 * k) + 1).toNatClampNeg → ∃ h', zL (p_law xs n) 1156 [some (.inr (.inr (80, 0))), some (.inr (.inr (11, 0))), some (.inr (.inr (12, 0))), some (.inr (.inr (79, 0))), some (.inl (nI (7 * k))), none, none, some (.inl (nI c))] [(.inl s0), (.inl s1), (.inr (.inr (11, 0)))] h = some (some (.inl 1), h') := by
    intro s0 s1 h0 h1
    have key2 : ∀ (r : Int32) (h1 : zH), zL (p_law xs n) 1180 [some (.inr (.inr (80, 0))), some (.inr (.inr (11, 0))), some (.inr (.inr (12, 0))), some (.inr (.inr (79, 0))), some (.inl (nI (7 * k))), none, none, some (.inl (nI c))] [(.inl s0), (.inl s1), (.inr (.inr (12, 0))), (.inl r)] h1 = zci (f_X12_mark [(.inr (.inr (12, 0))), (.inl s1), (.inl s0)] h1) (fun r2 h1 => zf (r = r2) (zL (p_law xs n) 23 [some (.inr (.inr (80, 0))), some (.inr (.inr (11, 0))), some (.inr (.inr (12, 0))), some (.inr (.inr (79, 0))), some (.inl (nI (7 * (k + 1)))), none, none, some (.inl (nI c))] [] h1) (some (some (.inl 0), h1))) := fun r h1 => by rw [e_law_1180, e7_]
    rw [e_law_1156]
    simp only [zf_pos (vj_ (k := k) (j := 1) (x := 1) rfl (by omega : 7 * k + 1 < n) hn), zf_pos (vj_ (k := k) (j := 2) (x := 2) rfl (by omega : 7 * k + 2 < n) hn)]
    rw [← h1]
    rcases h0 with ⟨h0, h2⟩ | ⟨h0, h2⟩
    · simp only [zf_pos h2]
      subst h0
      simp only [key2]
      exact lw_ag (q_mark I s1 0) (fun h I => ih h _ _ c (by omega) I)
    · simp only [zf_neg h2]
      subst h0
      simp only [key2]
      exact lw_ag (q_mark I s1 1) (fun h I => ih h _ _ c (by omega) I)
  rw [e_law_1135]
  simp only [zf_pos (vj_ (k := k) (j := 1) (x := 1) rfl (by omega : 7 * k + 1 < n) hn), zf_pos (vj_ (k := k) (j := 2) (x := 2) rfl (by omega : 7 * k + 2 < n) hn)]
  by_cases h2 : xs (nI (7 * k) + 2).toNatClampNeg = 0
  · rw [zf_pos h2]; exact key 0 _ (Or.inl ⟨rfl, h2⟩) rfl
  · rw [zf_neg h2]; exact key 1 _ (Or.inr ⟨rfl, h2⟩) rfl
theorem lc_1188 {xs : Nat → Int32} {n k c : Nat} {h : zH} (hn : n ≤ 3584) (hk : 7 * k + 7 ≤ n) (hc : c ≤ k) (I : Inv k h) (ih : LG xs n (k + 1)) : ∃ h', zL (p_law xs n) 1188 [some (.inr (.inr (80, 0))), some (.inr (.inr (11, 0))), some (.inr (.inr (12, 0))), some (.inr (.inr (79, 0))), some (.inl (nI (7 * k))), none, none, some (.inl (nI c))] [] h = some (some (.inl 1), h') := by
  rw [e_law_1188]
  simp only [zf_pos (vj_ (k := k) (j := 1) (x := 1) rfl (by omega : 7 * k + 1 < n) hn), e7_]
  exact lw_ag (q_count I _) (fun h I => ih h _ _ c (by omega) I)
theorem sub7 {n k : Nat} (hn : n ≤ 3584) (hk : k ≤ 600) : (Int32.ofNat n - (7 : Int32) < nI (7 * k)) ↔ n < 7 * k + 7 := by
  rw [Int32.lt_iff_toInt_lt, Int32.toInt_sub, Int32.toInt_ofNat_of_lt (by omega), show (7 : Int32).toInt = 7 by decide, show (nI (7 * k)).toInt = ((7 * k : Nat) : Int) from Int32.toInt_ofNat_of_lt (by omega)]
  rw [Int.bmod_eq_of_le (by omega) (by omega)]
  omega
theorem law_loop {xs : Nat → Int32} {n : Nat} (hn : n ≤ 3584) : ∀ (d k : Nat), k ≤ 513 → n < 7 * (k + d) + 7 → LG xs n k := by
  intro d
  induction d with
  | zero =>
    intro k hk hd h o5 o6 c hc I
    refine ⟨h, ?_⟩
    rw [e_law_23, zf_pos ((sub7 hn (by omega)).mpr (by omega))]
  | succ d ihd =>
    intro k hk hd h o5 o6 c hc I
    by_cases hE : n < 7 * k + 7
    · refine ⟨h, ?_⟩
      rw [e_law_23, zf_pos ((sub7 hn (by omega)).mpr hE)]
    have ih : LG xs n (k + 1) := ihd (k + 1) (by omega) (by omega)
    have hk : 7 * k + 7 ≤ n := by omega
    rw [e_law_23, zf_neg (fun q => hE ((sub7 hn (by omega)).mp q)), zf_pos (vp_in_nI (by omega) (by omega))]
    by_cases c0 : xs (nI (7 * k)).toNatClampNeg &&& (31 : Int32) = 0
    · rw [zf_pos c0]; exact lc_184 hn hk hc I ih
    rw [zf_neg c0]
    by_cases c1 : xs (nI (7 * k)).toNatClampNeg &&& (31 : Int32) = 1
    · rw [zf_pos c1]; exact lc_331 hn hk hc I ih
    rw [zf_neg c1]
    by_cases c2 : xs (nI (7 * k)).toNatClampNeg &&& (31 : Int32) = 2
    · rw [zf_pos c2]; exact lc_344 hn hk hc I ih
    rw [zf_neg c2]
    by_cases c3 : xs (nI (7 * k)).toNatClampNeg &&& (31 : Int32) = 3
    · rw [zf_pos c3]; exact lc_357 hn hk hc I ih
    rw [zf_neg c3]
    by_cases c4 : xs (nI (7 * k)).toNatClampNeg &&& (31 : Int32) = 4
    · rw [zf_pos c4]; exact lc_394 hn hk hc I ih
    rw [zf_neg c4]
    by_cases c5 : xs (nI (7 * k)).toNatClampNeg &&& (31 : Int32) = 5
    · rw [zf_pos c5]; exact lc_431 hn hk hc I ih
    rw [zf_neg c5]
    by_cases c6 : xs (nI (7 * k)).toNatClampNeg &&& (31 : Int32) = 6
    · rw [zf_pos c6]; exact lc_456 hn hk hc I ih
    rw [zf_neg c6]
    by_cases c7 : xs (nI (7 * k)).toNatClampNeg &&& (31 : Int32) = 7
    · rw [zf_pos c7]; exact lc_481 hn hk hc I ih
    rw [zf_neg c7]
    by_cases c8 : xs (nI (7 * k)).toNatClampNeg &&& (31 : Int32) = 8
    · rw [zf_pos c8]; exact lc_506 hn hk hc I ih
    rw [zf_neg c8]
    by_cases c9 : xs (nI (7 * k)).toNatClampNeg &&& (31 : Int32) = 9
    · rw [zf_pos c9]; exact lc_543 hn hk hc I ih
    rw [zf_neg c9]
    by_cases c10 : xs (nI (7 * k)).toNatClampNeg &&& (31 : Int32) = 10
    · rw [zf_pos c10]; exact lc_568 hn hk hc I ih
    rw [zf_neg c10]
    by_cases c11 : xs (nI (7 * k)).toNatClampNeg &&& (31 : Int32) = 11
    · rw [zf_pos c11]; exact lc_581 hn hk hc I ih
    rw [zf_neg c11]
    by_cases c12 : xs (nI (7 * k)).toNatClampNeg &&& (31 : Int32) = 12
    · rw [zf_pos c12]; exact lc_594 hn hk hc I ih
    rw [zf_neg c12]
    by_cases c13 : xs (nI (7 * k)).toNatClampNeg &&& (31 : Int32) = 13
    · rw [zf_pos c13]; exact lc_619 hn hk hc I ih
    rw [zf_neg c13]
    by_cases c14 : xs (nI (7 * k)).toNatClampNeg &&& (31 : Int32) = 14
    · rw [zf_pos c14]; exact lc_656 hn hk hc I ih
    rw [zf_neg c14]
    by_cases c15 : xs (nI (7 * k)).toNatClampNeg &&& (31 : Int32) = 15
    · rw [zf_pos c15]; exact lc_681 hn hk hc I ih
    rw [zf_neg c15]
    by_cases c16 : xs (nI (7 * k)).toNatClampNeg &&& (31 : Int32) = 16
    · rw [zf_pos c16]; exact lc_706 hn hk hc I ih
    rw [zf_neg c16]
    by_cases c17 : xs (nI (7 * k)).toNatClampNeg &&& (31 : Int32) = 17
    · rw [zf_pos c17]; exact lc_719 hn hk hc I ih
    rw [zf_neg c17]
    by_cases c18 : xs (nI (7 * k)).toNatClampNeg &&& (31 : Int32) = 18
    · rw [zf_pos c18]; exact lc_744 hn hk hc I ih
    rw [zf_neg c18]
    by_cases c19 : xs (nI (7 * k)).toNatClampNeg &&& (31 : Int32) = 19
    · rw [zf_pos c19]; exact lc_769 hn hk hc I ih
    rw [zf_neg c19]
    by_cases c20 : xs (nI (7 * k)).toNatClampNeg &&& (31 : Int32) = 20
    · rw [zf_pos c20]; exact lc_782 hn hk hc I ih
    rw [zf_neg c20]
    by_cases c21 : xs (nI (7 * k)).toNatClampNeg &&& (31 : Int32) = 21
    · rw [zf_pos c21]; exact lc_807 hn hk hc I ih
    rw [zf_neg c21]
    by_cases c22 : xs (nI (7 * k)).toNatClampNeg &&& (31 : Int32) = 22
    · rw [zf_pos c22]; exact lc_820 hn hk hc I ih
    rw [zf_neg c22]
    by_cases c23 : xs (nI (7 * k)).toNatClampNeg &&& (31 : Int32) = 23
    · rw [zf_pos c23]; exact lc_833 hn hk hc I ih
    rw [zf_neg c23]
    by_cases c24 : xs (nI (7 * k)).toNatClampNeg &&& (31 : Int32) = 24
    · rw [zf_pos c24]; exact lc_846 hn hk hc I ih
    rw [zf_neg c24]
    by_cases c25 : xs (nI (7 * k)).toNatClampNeg &&& (31 : Int32) = 25
    · rw [zf_pos c25]; exact lc_895 hn hk hc I ih
    rw [zf_neg c25]
    by_cases c26 : xs (nI (7 * k)).toNatClampNeg &&& (31 : Int32) = 26
    · rw [zf_pos c26]; exact lc_920 hn hk hc I ih
    rw [zf_neg c26]
    by_cases c27 : xs (nI (7 * k)).toNatClampNeg &&& (31 : Int32) = 27
    · rw [zf_pos c27]; exact lc_945 hn hk hc I ih
    rw [zf_neg c27]
    by_cases c28 : xs (nI (7 * k)).toNatClampNeg &&& (31 : Int32) = 28
    · rw [zf_pos c28]; exact lc_994 hn hk hc I ih
    rw [zf_neg c28]
    by_cases c29 : xs (nI (7 * k)).toNatClampNeg &&& (31 : Int32) = 29
    · rw [zf_pos c29]; exact lc_1086 hn hk hc I ih
    rw [zf_neg c29]
    by_cases c30 : xs (nI (7 * k)).toNatClampNeg &&& (31 : Int32) = 30
    · rw [zf_pos c30]; exact lc_1135 hn hk hc I ih
    rw [zf_neg c30]
    by_cases c31 : xs (nI (7 * k)).toNatClampNeg &&& (31 : Int32) = 31
    · rw [zf_pos c31]; exact lc_1188 hn hk hc I ih
    rw [zf_neg c31]
    rw [e7_]
    obtain ⟨κ, I1, I2⟩ := I
    exact ih h _ _ c (by omega) ⟨κ, I1.mono (Nat.le_succ k), I2.mono (Nat.le_succ k)⟩
