/-! Loops of operators. -/
/-- what a loop comes to -/
def oLp (T : zTx) (sem : List Int32 → zV4 → Prop) (B e : Nat) (N : Nat → Prop) (M0 : zH → Option zRes) (d p p0 : Nat) (L C : List Int32) (hc hm : zH) (Cx : Option zRes) : Prop := (∃ gc gm S D v p', Cx = some (none, gc) ∧ exS hc gc ∧ emS d e hm gm ∧ M0 hm = M0 gm ∧ p ≤ p' ∧ RD T p' gc gm ∧ N p' ∧ stC gc (L ++ S) ∧ cdM gm (C ++ D) ∧ S.length + p0 ≤ p' ∧ D.length + p0 ≤ p' ∧ sC B S v ∧ sem D v) ∨ oF d e hc hm Cx (M0 hm)
theorem lp {T : zTx} {d p0 B e z : Nat} {L C : List Int32} {Fl : Nat → zH → Option zRes} {sub : zS} {sem sem2 : List Int32 → zV4 → Prop} {N0 : Nat → Prop} {M0 : zH → Option zRes} {φ : zH → zH} {ops : Nat → Int32 → Int32 → Prop} (h3 : L.length ≤ p0) (h4 : C.length ≤ p0)
    (hstop : ∀ x p hc hm, RD T p hc hm → (∀ c s, ¬ ops p c s) → Fl x hc = some (none, hc))
    (hgo : ∀ x p hc hm c s, x < 1000 → RD T p hc hm → ops p c s → Fl x hc = zcv (f_X10_step [.inr (.inr (10, 0))] hc) (fun h1 => zcv (sub [.inr (.inr (2, 0)), .inl (nI d)] h1) (fun h2 => zcv (f_X1_add [.inr (.inr (1, 1)), .inl s] h2) (fun h3 => Fl (x + 1) h3))))
    (hflt : ∀ x F h, FC F h → Fl x h = some (none, h))
    (hkp : ∀ p c s, ops p c s → kK T p ≠ 0)
    (hM : ∀ p hc hm c s, RD T p hc hm → ops p c s → M0 hm = mB c φ d hm)
    (hsub : ∀ p L C hc hm, EB T p L C hc hm → Qd d z hm → oEx T sem2 (B + 1) e N0 M0 d p L C hc hm (sub [.inr (.inr (2, 0)), .inl (nI d)] hc))
    (hjoin : ∀ p c s S D v S2 D2 w, ops p c s → sC B S v → sem D v → sC (B + 1) S2 w → sem2 D2 w → sC B (S ++ S2 ++ [s]) (jn s v w) ∧ sem (D ++ c :: D2) (jn s v w))
    (φ1 : ∀ h K j k, ¬ (K = 53 ∧ k = d) → (φ h).1 K j k = h.1 K j k) (φ2 : ∀ h, (φ h).2 = h.2) (φ3 : ∀ h, emS d e h (φ h)) (φ4 : ∀ h, (d = 0 ∨ ¬ h.1 52 0 d = 1) → Qd d z (φ h)) :
    ∀ (n p x : Nat) (S D : List Int32) (v : zV4) (hc hm : zH), T.1 - p ≤ n → x ≤ p → RD T p hc hm → N0 p → (d = 0 ∨ ¬ hm.1 52 0 d = 1) → stC hc (L ++ S) → cdM hm (C ++ D) → S.length + p0 ≤ p → D.length + p0 ≤ p → sC B S v → sem D v → oLp T sem B e (fun p => N0 p ∧ ∀ c s, ¬ ops p c s) M0 d p p0 L C hc hm (Fl x hc) := by
  intro n
  induction n with
  | zero =>
    intro p x S D v hc hm hn hx R N lv q1 q2 q3 q4 q5 q6
    have k0 : kK T p = 0 := kK_0.mpr (Nat.le_antisymm (kB_le R.le) (by have := kB_ge (T := T) (p := p); omega))
    have no : ∀ c s, ¬ ops p c s := fun c s o => hkp p c s o k0
    exact Or.inl ⟨hc, hm, S, D, v, p, hstop x p hc hm R no, tkS.rf.ex, tmS.rf.em, rfl, Nat.le_refl _, R, ⟨N, no⟩, q1, q2, q3, q4, q5, q6⟩
  | succ n ih =>
    intro p x S D v hc hm hn hx R N lv q1 q2 q3 q4 q5 q6
    by_cases o : ∃ c s, ops p c s
    case neg =>
      have no : ∀ c s, ¬ ops p c s := fun c s z => o ⟨c, s, z⟩
      exact Or.inl ⟨hc, hm, S, D, v, p, hstop x p hc hm R no, tkS.rf.ex, tmS.rf.em, rfl, Nat.le_refl _, R, ⟨N, no⟩, q1, q2, q3, q4, q5, q6⟩
    obtain ⟨c, s, o⟩ := o
    have t1 := R.t1
    have kp := hkp p c s o
    have lt : p < T.1 := by
      have := kB_ge (T := T) (p := p)
      have := kB_le R.le
      have : kB T p ≠ T.1 := fun z => kp (kK_0.mpr z)
      omega
    have go := hgo x p hc hm c s (by omega) R o
    have hm0 := hM p hc hm c s R o
    rcases bin (code := c) (s := s) (φ := φ) R kp q1 q2 h3 h4 q3 q4 φ1 φ2 φ3 (fun h a => φ4 h (lv.imp id (fun y => by rw [a 52 0 d (by omega) (by omega)]; exact y))) (Nat.le_refl e) hsub with ⟨gc, gm, S2, D2, w, p2, b1, b2, b3, b4, b5, b6, b7, b8, b9, b10, b11, b12, b13, -⟩ | ⟨gc, gm, F, b1, b2, b3, b4, b5, b6⟩
    · obtain ⟨j1, j2⟩ := hjoin p c s S D v S2 D2 w o q5 q6 b12 b13
      have I := ih p2 (x + 1) (S ++ S2 ++ [s]) (D ++ c :: D2) (jn s v w) gc gm (by omega) (by omega) b6 b7 (lv.imp id (fun y => by rw [b3.1 52 0 d (by omega) (by omega) (by omega) (by omega)]; exact y)) b8 b9 b10 b11 j1 j2
      rw [go, b1]
      rcases I with ⟨fc, fm, S', D', v', p', r1, r2, r3, r4, r5, r6, r7, r8, r9, r10, r11, r12, r13⟩ | ⟨fc, fm, F, r1, r2, r3, r4, r5, r6⟩
      · exact Or.inl ⟨fc, fm, S', D', v', p', r1, b2.trans r2, b3.trans r3, (hm0.trans b4).trans r4, by omega, r6, r7, r8, r9, r10, r11, r12, r13⟩
      · exact Or.inr ⟨fc, fm, F, r1, b2.trans r2, b3.trans r3, r4, (hm0.trans b4).trans r5, r6⟩
    · rw [go, b1]
      exact Or.inr ⟨gc, gm, F, hflt _ F gc b4.1, b2, b3, b4, hm0.trans b5, b6⟩
theorem oEx.lp {T : zTx} {sem sem' : List Int32 → zV4 → Prop} {B B' e : Nat} {N N' : Nat → Prop} {M0 : zH → Option zRes} {d p : Nat} {L C : List Int32} {hc hm : zH} {Cx Cx' : Option zRes} {K : zH → Option zRes} (o : oEx T sem B e N M0 d p L C hc hm Cx) (hC : Cx' = zcv Cx K) (hf : ∀ F h, FC F h → K h = some (none, h))
    (hn : ∀ gc gm S D v p', exS hc gc → emS d e hm gm → p < p' → RD T p' gc gm → N p' → stC gc (L ++ S) → cdM gm (C ++ D) → S.length + p ≤ p' → D.length + p ≤ p' → sC B S v → sem D v → oLp T sem' B' e N' M0 d p' p L C gc gm (K gc)) : oEx T sem' B' e N' M0 d p L C hc hm Cx' := by
  rw [hC]
  rcases o with ⟨gc, gm, S, D, v, p', o1, o2, o3, o4, o5, o6, o7, o8, o9, o10, o11, o12, o13⟩ | ⟨gc, gm, F, o1, o2, o3, o4, o5, o6⟩
  · rw [o1, zcv_ok]
    rcases hn gc gm S D v p' o2 o3 o5 o6 o7 o8 o9 o10 o11 o12 o13 with ⟨fc, fm, S', D', v', p2, r1, r2, r3, r4, r5, r6, r7, r8, r9, r10, r11, r12, r13⟩ | ⟨fc, fm, F, r1, r2, r3, r4, r5, r6⟩
    · exact Or.inl ⟨fc, fm, S', D', v', p2, r1, o2.trans r2, o3.trans r3, o4.trans r4, by omega, r6, r7, r8, r9, r10, r11, r12, r13⟩
    · exact Or.inr ⟨fc, fm, F, r1, o2.trans r2, o3.trans r3, r4, o4.trans r5, r6⟩
  · rw [o1, zcv_ok]
    exact Or.inr ⟨gc, gm, F, hf F gc o4.1, o2, o3, o4, o5, o6⟩
/-- a part at a depth of its own -/
theorem oPt.lv2 {T : zTx} {d p : Nat} {L C : List Int32} {hc hm : zH} {Cx : Option zRes} (B : EB T p L C hc hm) (hd : d < 6) (lv : d = 0 ∨ ¬ hm.1 52 0 d = 1) (o : oPt T d p L C hc hm Cx) : oEx T (sPt d) (4 * d + 4) (d + 1) (fun _ => True) (mR d 0) d p L C hc hm Cx := by
  rcases o with ⟨gc, gm, S, D, v, q, o1, o2, o3, o4, o5, o6, o7, o8, o9, o10, o11, o12, o13, o14⟩ | o
  · obtain ⟨m, n1, n2, n3⟩ := ml_next (o3.tx B.R.xm) (kE_le o5) o8.1
    refine Or.inl ⟨gc, m, S, D, v, kE T q, o1, o2, o3.trans n2.em, o4.trans (mP_at (by omega) (lv.imp id (fun z => by rw [o3.1 52 0 d (by omega) (by omega) (by omega) (by omega)]; exact z)) n1), o6, ⟨o2.tx B.R.xc, o2.tb B.R.tb, n2.tx (o3.tx B.R.xm), kE_le o5, o7, n3⟩, trivial, o9, o10.tm n2, o11, o12, o13, o14⟩
  · exact Or.inr o
/-- products -/
theorem D_all {T : zTx} {d : Nat} {P : zS} (hd : d < 6) (hP : ∀ p L C hc hm, EB T p L C hc hm → oPt T d p L C hc hm (P [.inr (.inr (2, 0)), .inl (nI d)] hc)) : ∀ p L C hc hm, EB T p L C hc hm → Qd d 0 hm → oEx T (sPr d) (4 * d + 3) (d + 1) (fun p => True ∧ ∀ c s : Int32, ¬ (sg T p 42 ∧ c = 22 ∧ s = zm12)) (mR d 0) d p L C hc hm (fD9 P [.inr (.inr (2, 0)), .inl (nI d)] hc) := by
  intro p L C hc hm B Q
  have hsub : ∀ p L C hc hm, EB T p L C hc hm → Qd d 0 hm → oEx T (sPt d) (4 * d + 3 + 1) (d + 1) (fun _ => True) (mR d 0) d p L C hc hm (P [.inr (.inr (2, 0)), .inl (nI d)] hc) := fun p L C hc hm B Q => (hP p L C hc hm B).lv2 B hd Q.1
  have i42 : ∀ p hc hm, RD T p hc hm → f_X10_isSign [.inr (.inr (10, 0)), .inl 42] hc = some (some (.inl (zb (sg T p 42))), hc) := fun p hc hm R => cl_isSign R.xc R.le R.tc (s := 42) (by omega)
  refine (hsub p L C hc hm B Q).lp (K := fun h1 => zL (p_X2_readProduct P) 7 [some (.inr (.inr (2, 0))), some (.inl (nI d)), some (.inl (nI 0))] [] h1) (e_X2_readProduct_0 P (nI d) hc) (fun F h f => ?_) (fun gc gm S D v p' x1 x2 x3 x4 x5 x6 x7 x8 x9 x10 x11 => ?_)
  · rw [e_X2_readProduct_7, zf_pos (by decide), fl_isSign f.ne, zci_ok, zf_pos rfl]
  · refine lp (d := d) (e := d + 1) (z := 0) (B := 4 * d + 3) (Fl := fun x h => zL (p_X2_readProduct P) 7 [some (.inr (.inr (2, 0))), some (.inl (nI d)), some (.inl (nI x))] [] h) (sub := P) (sem2 := sPt d) (φ := id) (ops := fun p c s => sg T p 42 ∧ c = 22 ∧ s = zm12) B.2.2.2.1 B.2.2.2.2 (fun x p hc hm R no => ?_) (fun x p hc hm c s hx R o => ?_) (fun x F h f => ?_) (fun p c s o z => by have := o.1.1; omega) (fun p hc hm c s R o => by rw [o.2.1]; exact (mR_op R).2.2.1 o.1) hsub (fun p c s S D v S2 D2 w o a1 a2 a3 a4 => by rw [o.2.1, o.2.2]; exact ⟨a1.join a3 (by decide) (by decide), a2.mul (by omega) a4⟩) (fun _ _ _ _ _ => rfl) (fun _ => rfl) (fun h => tmS.rf.em) (fun h y => ⟨y, fun z => by omega⟩) T.1 p' 0 S D v gc gm (by omega) (by omega) x4 trivial (Q.1.imp id (fun y => by rw [x2.1 52 0 d (by omega) (by omega) (by omega) (by omega)]; exact y)) x6 x7 x8 x9 (x10.le (by omega)) (x11.pr (by omega))
    · have no : ¬ sg T p 42 := fun z => no 22 zm12 ⟨z, rfl, rfl⟩
      show zL (p_X2_readProduct P) 7 [some (.inr (.inr (2, 0))), some (.inl (nI d)), some (.inl (nI x))] [] hc = _
      rw [e_X2_readProduct_7, i42 p hc hm R, zci_ok, zf_b0, zf_neg no]
      by_cases e : nI x < 1000
      · rw [zf_pos e]
      · rw [zf_neg e]
    · show zL (p_X2_readProduct P) 7 [some (.inr (.inr (2, 0))), some (.inl (nI d)), some (.inl (nI x))] [] hc = _
      rw [e_X2_readProduct_7, zf_pos (show nI x < 1000 from nI_lt (b := 1000) hx (by omega)), i42 p hc hm R, zci_ok, zf_b0, zf_pos o.1, o.2.2, nI_1]
    · show zL (p_X2_readProduct P) 7 [some (.inr (.inr (2, 0))), some (.inl (nI d)), some (.inl (nI x))] [] h = _
      rw [e_X2_readProduct_7, fl_isSign f.ne, zci_ok, zf_pos rfl]
      by_cases e : nI x < 1000
      · rw [zf_pos e]
      · rw [zf_neg e]
/-- sums -/
def opS (T : zTx) (p : Nat) (c s : Int32) : Prop := (sg T p 43 ∧ c = 20 ∧ s = zm10) ∨ (sg T p 45 ∧ c = 21 ∧ s = zm11)
theorem S_all {T : zTx} {d : Nat} {P : zS} (hd : d < 6) (hP : ∀ p L C hc hm, EB T p L C hc hm → oPt T d p L C hc hm (P [.inr (.inr (2, 0)), .inl (nI d)] hc)) : ∀ p L C hc hm, EB T p L C hc hm → Qd d 0 hm → oEx T (sSm d) (4 * d + 2) (d + 1) (fun p => (True ∧ ∀ c s : Int32, ¬ (sg T p 42 ∧ c = 22 ∧ s = zm12)) ∧ ∀ c s : Int32, ¬ opS T p c s) (mR d 0) d p L C hc hm (fS9 P [.inr (.inr (2, 0)), .inl (nI d)] hc) := by
  intro p L C hc hm B Q
  have hsub := D_all hd hP
  have i43 : ∀ p hc hm, RD T p hc hm → f_X10_isSign [.inr (.inr (10, 0)), .inl 43] hc = some (some (.inl (zb (sg T p 43))), hc) := fun p hc hm R => cl_isSign R.xc R.le R.tc (s := 43) (by omega)
  have i45 : ∀ p hc hm, RD T p hc hm → f_X10_isSign [.inr (.inr (10, 0)), .inl 45] hc = some (some (.inl (zb (sg T p 45))), hc) := fun p hc hm R => cl_isSign R.xc R.le R.tc (s := 45) (by omega)
  have o3 : ∀ (x : Nat) (o3 : Option zV) (h : zH), zL (p_X2_readSum (fD9 P)) 7 [some (.inr (.inr (2, 0))), some (.inl (nI d)), some (.inl (nI x)), o3] [] h = zL (p_X2_readSum (fD9 P)) 7 [some (.inr (.inr (2, 0))), some (.inl (nI d)), some (.inl (nI x)), none] [] h := fun x o3 h => (e_X2_readSum_7 _ _ _ _ _).trans (e_X2_readSum_7 _ _ _ _ _).symm
  have flt : ∀ (x : Nat) F h, FC F h → zL (p_X2_readSum (fD9 P)) 7 [some (.inr (.inr (2, 0))), some (.inl (nI d)), some (.inl (nI x)), none] [] h = some (none, h) := fun x F h f => by
    rw [e_X2_readSum_7, fl_isSign f.ne, zci_ok, zf_pos rfl, fl_isSign f.ne, zci_ok, zf_pos rfl]
    by_cases e : nI x < 1000
    · rw [zf_pos e]
    · rw [zf_neg e]
  refine (hsub p L C hc hm B Q).lp (K := fun h1 => zL (p_X2_readSum (fD9 P)) 7 [some (.inr (.inr (2, 0))), some (.inl (nI d)), some (.inl (nI 0)), none] [] h1) (e_X2_readSum_0 (fD9 P) (nI d) hc) (fun F h f => flt 0 F h f) (fun gc gm S D v p' x1 x2 x3 x4 x5 x6 x7 x8 x9 x10 x11 => ?_)
  refine lp (d := d) (e := d + 1) (z := 0) (B := 4 * d + 2) (Fl := fun x h => zL (p_X2_readSum (fD9 P)) 7 [some (.inr (.inr (2, 0))), some (.inl (nI d)), some (.inl (nI x)), none] [] h) (sub := fD9 P) (sem2 := sPr d) (φ := id) (ops := opS T) B.2.2.2.1 B.2.2.2.2 (fun x p hc hm R no => ?_) (fun x p hc hm c s hx R o => ?_) flt (fun p c s o z => by rcases o with o | o <;> (have := o.1.1; omega)) (fun p hc hm c s R o => ?_) hsub (fun p c s S D v S2 D2 w o a1 a2 a3 a4 => ?_) (fun _ _ _ _ _ => rfl) (fun _ => rfl) (fun h => tmS.rf.em) (fun h y => ⟨y, fun z => by omega⟩) T.1 p' 0 S D v gc gm (by omega) (by omega) x4 x5 (Q.1.imp id (fun y => by rw [x2.1 52 0 d (by omega) (by omega) (by omega) (by omega)]; exact y)) x6 x7 x8 x9 (x10.le (by omega)) x11.sm
  · have n1 : ¬ sg T p 43 := fun z => no 20 zm10 (Or.inl ⟨z, rfl, rfl⟩)
    have n2 : ¬ sg T p 45 := fun z => no 21 zm11 (Or.inr ⟨z, rfl, rfl⟩)
    show zL (p_X2_readSum (fD9 P)) 7 [some (.inr (.inr (2, 0))), some (.inl (nI d)), some (.inl (nI x)), none] [] hc = _
    rw [e_X2_readSum_7, i43 p hc hm R, zci_ok, zf_b0, zf_neg n1, i45 p hc hm R, zci_ok, zf_b0, zf_neg n2]
    by_cases e : nI x < 1000
    · rw [zf_pos e]
    · rw [zf_neg e]
  · show zL (p_X2_readSum (fD9 P)) 7 [some (.inr (.inr (2, 0))), some (.inl (nI d)), some (.inl (nI x)), none] [] hc = _
    rw [e_X2_readSum_7, zf_pos (show nI x < 1000 from nI_lt (b := 1000) hx (by omega)), i43 p hc hm R, zci_ok, zf_b0, i45 p hc hm R, zci_ok, zf_b0, i43 p hc hm R, zci_ok, zf_b0, e_X2_readSum_57, e_X2_readSum_57, nI_1]
    simp only [o3]
    rcases o with ⟨a, b, c⟩ | ⟨a, b, c⟩
    · rw [zf_pos a, zf_pos a, c]
    · have n1 : ¬ sg T p 43 := fun z => by have := z.2.symm.trans a.2; omega
      rw [zf_neg n1, zf_pos a, zf_neg n1, c]
  · rcases o with ⟨a, b, c⟩ | ⟨a, b, c⟩
    · rw [b]; exact (mR_op R).1 a
    · rw [b]; exact (mR_op R).2.1 a
  · rcases o with ⟨a, b, c⟩ | ⟨a, b, c⟩
    · rw [b, c]; exact ⟨a1.join a3 (by decide) (by decide), a2.add (by omega) (Or.inl ⟨rfl, rfl⟩) a4⟩
    · rw [b, c]; exact ⟨a1.join a3 (by decide) (by decide), a2.add (by omega) (Or.inr ⟨rfl, rfl⟩) a4⟩
