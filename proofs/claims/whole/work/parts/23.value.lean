/-! What a law's steps come to, on a stack. -/
noncomputable def zi (P : Prop) (x y : Int32) : Int32 := @ite _ P (Classical.propDecidable P) x y
theorem zi_pos {P : Prop} {x y : Int32} (h : P) : zi P x y = x := if_pos h
theorem zi_neg {P : Prop} {x y : Int32} (h : ¬ P) : zi P x y = y := if_neg h
theorem zfi {P : Prop} {x y : Int32} {h : zH} : zf P (some (some (.inl x), h)) (some (some (.inl y), h)) = some (some (.inl (zi P x y)), h) := by
  by_cases p : P
  · rw [zf_pos p, zi_pos p]
  · rw [zf_neg p, zi_neg p]
noncomputable def lopd (s a b c d : Int32) : Int32 := zi (s = zm4) d (zi (s = zm3) c (zi (s = zm2) b (zi (s = zm1) a s)))
noncomputable def ljoin (s x y : Int32) : Int32 := zi (s = zm11) (x - y) (zi (s = zm10) (x + y) (zi (s = zm9) (zi (x = y) 1 0) (zi (s = zm8) (zi (x < y) 1 0) (zi (s = zm7) (zi (x = 0) (zi (y = 0) 0 1) 1) (zi (s = zm6) (zi (x = 0) 0 (zi (y = 0) 0 1)) (x * y))))))
theorem sp_operand (s a b c d : Int32) (h : zH) : f_X1_operand [.inl s, .inl a, .inl b, .inl c, .inl d] h = some (some (.inl (lopd s a b c d)), h) := by
  rw [g_X1_operand]; simp only [zfi]; rfl
theorem sp_joined (s x y : Int32) (h : zH) : f_X1_joined [.inl s, .inl x, .inl y] h = some (some (.inl (ljoin s x y)), h) := by
  rw [g_X1_joined]; simp only [zfi]; rfl
/-- a step on a stack, the top first -/
noncomputable def lst (a b c d s : Int32) (k : List Int32) : List Int32 :=
  @ite _ (s < zm4) (Classical.propDecidable _)
    (@ite _ (s = zm5) (Classical.propDecidable _)
      (match k with | [] => [] | x :: t => zi (x = 0) 1 0 :: t)
      (match k with | y :: x :: t => ljoin s x y :: t | k => k))
    (if k.length < 24 then lopd s a b c d :: k else k)
noncomputable def lrun (st : Nat → Int32) (a b c d : Int32) (n : Nat) : List Int32 := zit (fun i k => lst a b c d (st i) k) [] n
def lval (k : List Int32) : Int32 := k.getLast?.getD 0
theorem zloopE {α : Type} (F : Nat → α → Option zRes) (I : Nat → α → Prop) (n : Nat) (a : α) (h0 : I 0 a) (hs : ∀ i a, i < n → I i a → ∃ a', F i a = F (i + 1) a' ∧ I (i + 1) a') : ∃ a', F 0 a = F n a' ∧ I n a' := by
  have key : ∀ k, k ≤ n → ∃ a', F 0 a = F k a' ∧ I k a' := by
    intro k
    induction k with
    | zero => intro _; exact ⟨a, rfl, h0⟩
    | succ k ih =>
      intro hk
      obtain ⟨a1, h1, h2⟩ := ih (by omega)
      obtain ⟨a2, h3, h4⟩ := hs k a1 (by omega) h2
      exact ⟨a2, h1.trans h3, h4⟩
  exact key n (Nat.le_refl n)
/-- only the cells of one kind and number have changed -/
def zonly (K j : Nat) (h g : zH) : Prop := (∀ K' j' k', ¬ (K' = K ∧ j' = j) → g.1 K' j' k' = h.1 K' j' k') ∧ g.2 = h.2
theorem zonly.rf {K j : Nat} {h : zH} : zonly K j h h := ⟨fun _ _ _ _ => rfl, rfl⟩
theorem zonly.set {K j k : Nat} {h g : zH} {v : Int32} (q : zonly K j h g) : zonly K j h (zuI g K j k v) := ⟨fun K' j' k' hn => by
  show (if K' = K ∧ j' = j ∧ k' = k then v else g.1 K' j' k') = _
  rw [if_neg (fun e => hn ⟨e.1, e.2.1⟩)]; exact q.1 K' j' k' hn, q.2⟩
theorem zuI_at {h : zH} {K j k : Nat} {v : Int32} : (zuI h K j k v).1 K j k = v := by show (if K = K ∧ j = j ∧ k = k then v else _) = v; rw [if_pos ⟨rfl, rfl, rfl⟩]
theorem zuI_ne {h : zH} {K j k k' : Nat} {v : Int32} (hk : k' ≠ k) : (zuI h K j k v).1 K j k' = h.1 K j k' := by show (if K = K ∧ j = j ∧ k' = k then v else _) = _; rw [if_neg (fun e => hk e.2.2)]
/-- the row holds the stack, the lowest first -/
def lrow (g : zH) (j : Nat) (k : List Int32) : Prop := ∀ m, m < k.length → k.reverse[m]? = some (g.1 23 j m)
theorem lrow.push {g : zH} {j : Nat} {k : List Int32} (q : lrow g j k) (v : Int32) : lrow (zuI g 23 j k.length v) j (v :: k) := by
  intro m hm
  simp only [List.reverse_cons, List.length_cons] at hm ⊢
  by_cases e : m = k.length
  · subst e
    rw [List.getElem?_append_right (by simp), zuI_at]; simp
  · rw [List.getElem?_append_left (by simp; omega), zuI_ne e]; exact q m (by omega)
theorem lrow.tail {g : zH} {j : Nat} {x : Int32} {k : List Int32} (q : lrow g j (x :: k)) : lrow g j k := by
  intro m hm
  have := q m (by simp; omega)
  rwa [List.reverse_cons, List.getElem?_append_left (by simp; omega)] at this
theorem lrow.top {g : zH} {j : Nat} {x : Int32} {k : List Int32} (q : lrow g j (x :: k)) : g.1 23 j k.length = x := by
  have := q k.length (by simp)
  rw [List.reverse_cons, List.getElem?_append_right (by simp)] at this
  simpa using this.symm
theorem sp_valueFor (j n : Nat) (a b c d : Int32) (h : zH) (hn : h.1 1 j 2 = nI n) (h1 : n ≤ 1000) : ∃ g, f_X1_valueFor [.inr (.inr (1, j)), .inl a, .inl b, .inl c, .inl d] h = some (some (.inl (lval (lrun (h.1 22 j) a b c d n))), g) ∧ zonly 23 j h g := by
  rw [g_X1_valueFor]
  obtain ⟨⟨g, k, o⟩, e1, rfl, hL, hr, h24⟩ := zloopE (fun i (s : zH × List Int32 × Option zV) => zL p_X1_valueFor 6 [some (.inr (.inr (1, j))), some (.inl a), some (.inl b), some (.inl c), some (.inl d), some (.inl (nI s.2.1.length)), some (.inl (nI i)), s.2.2] [] s.1)
    (fun i s => s.2.1 = lrun (h.1 22 j) a b c d i ∧ zonly 23 j h s.1 ∧ lrow s.1 j s.2.1 ∧ s.2.1.length ≤ 24) n (h, [], none) ⟨rfl, zonly.rf, fun m hm => by simp at hm, by simp⟩ (fun i s hi q => by
      obtain ⟨g, k, o⟩ := s
      obtain ⟨hk, hL, hr, h24⟩ := q
      dsimp only at hk hL hr h24 ⊢
      have g1 : g.1 1 j 2 = nI n := by rw [hL.1 1 j 2 (by omega)]; exact hn
      have g2 : g.1 22 j i = h.1 22 j i := hL.1 22 j i (by omega)
      have c1 : nI i < nI n := nI_lt hi (by omega)
      have c2 : vp_in (nI i) 1000 := vp_in_nI (by omega) (by omega)
      have c3 : (nI i).toNatClampNeg = i := nI_clamp (by omega)
      have hz : lrun (h.1 22 j) a b c d (i + 1) = lst a b c d (h.1 22 j i) k := by rw [hk]; rfl
      rw [e_X1_valueFor_6, g1, zf_pos c1, zf_pos c2, c3, g2]
      by_cases s1 : h.1 22 j i < zm4
      · rw [zf_pos s1]
        by_cases s2 : h.1 22 j i = zm5
        · rw [zf_pos s2]
          match k, hr, h24, hz with
          | [], hr, h24, hz =>
            rw [zf_pos (show nI ([] : List Int32).length < 1 by decide), nI_1]
            exact ⟨(g, [], _), rfl, by rw [hz]; unfold lst; rw [zite_pos s1, zite_pos s2], hL, hr, h24⟩
          | x :: t, hr, h24, hz =>
            simp only [List.length_cons] at h24 ⊢
            have e3 : nI (t.length + 1) - (1 : Int32) = nI t.length := nI_pred _
            have c5 : vp_in (nI t.length) 24 := vp_in_nI (by omega) (by omega)
            have c6 : (nI t.length).toNatClampNeg = t.length := nI_clamp (by omega)
            rw [zf_neg (show ¬ nI (t.length + 1) < 1 from nI_nlt (b := 1) (by omega) (by omega)), e3, zf_pos c5, c6, hr.top, zf_pos c5, zf_pos c5, nI_1]
            by_cases s3 : x = 0
            · rw [zf_pos s3]
              exact ⟨(zuI g 23 j t.length 1, 1 :: t, _), rfl, by rw [hz]; unfold lst; rw [zite_pos s1, zite_pos s2]; simp only [zi_pos s3], hL.set, hr.tail.push 1, by simp; omega⟩
            · rw [zf_neg s3]
              exact ⟨(zuI g 23 j t.length 0, 0 :: t, _), rfl, by rw [hz]; unfold lst; rw [zite_pos s1, zite_pos s2]; simp only [zi_neg s3], hL.set, hr.tail.push 0, by simp; omega⟩
        · rw [zf_neg s2]
          match k, hr, h24, hz with
          | [], hr, h24, hz =>
            rw [zf_pos (show nI ([] : List Int32).length < 2 by decide), nI_1]
            exact ⟨(g, [], _), rfl, by rw [hz]; unfold lst; rw [zite_pos s1, zite_neg s2], hL, hr, h24⟩
          | [x], hr, h24, hz =>
            rw [zf_pos (show nI ([x] : List Int32).length < 2 from nI_lt (a := 1) (b := 2) (by omega) (by omega)), nI_1]
            exact ⟨(g, [x], _), rfl, by rw [hz]; unfold lst; rw [zite_pos s1, zite_neg s2], hL, hr, h24⟩
          | y :: x :: t, hr, h24, hz =>
            simp only [List.length_cons] at h24 ⊢
            have e3 : nI (t.length + 1 + 1) + zm1 = nI (t.length + 1) := by rw [show zm1 = (-1 : Int32) from rfl]; exact pk_m1 _
            have e4 : nI (t.length + 1) - (1 : Int32) = nI t.length := nI_pred _
            have c5 : vp_in (nI t.length) 24 := vp_in_nI (by omega) (by omega)
            have c6 : (nI t.length).toNatClampNeg = t.length := nI_clamp (by omega)
            have c7 : vp_in (nI (t.length + 1)) 24 := vp_in_nI (by omega) (by omega)
            have c8 : (nI (t.length + 1)).toNatClampNeg = t.length + 1 := nI_clamp (by omega)
            have y1 : g.1 23 j (t.length + 1) = y := hr.top
            rw [zf_neg (show ¬ nI (t.length + 1 + 1) < 2 from nI_nlt (b := 2) (by omega) (by omega)), e3, e4, zf_pos c5, zf_pos c7, c6, c8, hr.tail.top, y1, sp_joined, zci_ok, zf_pos c5, nI_1]
            exact ⟨(zuI g 23 j t.length _, ljoin (h.1 22 j i) x y :: t, _), rfl, by rw [hz]; unfold lst; rw [zite_pos s1, zite_neg s2], hL.set, hr.tail.tail.push _, by simp; omega⟩
      · rw [zf_neg s1]
        by_cases s4 : k.length < 24
        · have c5 : vp_in (nI k.length) 24 := vp_in_nI (by omega) (by omega)
          have c6 : (nI k.length).toNatClampNeg = k.length := nI_clamp (by omega)
          rw [zf_pos (show nI k.length < 24 from nI_lt (b := 24) (by omega) (by omega)), sp_operand, zci_ok, zf_pos c5, c6, nI_1, nI_1]
          exact ⟨(zuI g 23 j k.length _, lopd (h.1 22 j i) a b c d :: k, _), rfl, by rw [hz]; unfold lst; rw [zite_neg s1, if_pos s4], hL.set, hr.push _, by simp; omega⟩
        · rw [zf_neg (show ¬ nI k.length < 24 from nI_nlt (b := 24) (by omega) (by omega)), nI_1]
          exact ⟨(g, k, _), rfl, by rw [hz]; unfold lst; rw [zite_neg s1, if_neg s4], hL, hr, h24⟩)
  refine ⟨g, ?_, hL⟩
  rw [← nI_0]
  refine e1.trans ?_
  have g1 : g.1 1 j 2 = nI n := by rw [hL.1 1 j 2 (by omega)]; exact hn
  rw [e_X1_valueFor_6, g1, zf_neg (nI_nlt' (by omega))]
  generalize lrun (h.1 22 j) a b c d n = k at hr h24 ⊢
  cases k with
  | nil => rw [zf_neg (show ¬ (0 : Int32) < nI ([] : List Int32).length by decide)]; rfl
  | cons x t =>
    have q := hr 0 (by simp)
    have h24 : (x :: t).length ≤ 24 := h24
    rw [zf_pos (show (0 : Int32) < nI (x :: t).length from nI_lt (a := 0) (by simp) (by omega))]
    have : lval (x :: t) = g.1 23 j 0 := by
      unfold lval
      rw [← List.head?_reverse, List.head?_eq_getElem?, q]; rfl
    rw [this]
