/-! Tests, expressions. -/
theorem nar0 : vp_nar .boolean 0 = 0 := by decide +kernel
theorem oEx.wk {T : zTx} {sem : List Int32 → zV4 → Prop} {B e e' : Nat} {N : Nat → Prop} {M9 : zH → Option zRes} {d p : Nat} {L C : List Int32} {hc hm : zH} {Cx : Option zRes} (o : oEx T sem B e N M9 d p L C hc hm Cx) (h : e' ≤ e) : oEx T sem B e' N M9 d p L C hc hm Cx := by
  rcases o with ⟨gc, gm, S, D, v, p', o1, o2, o3, o4⟩ | ⟨gc, gm, F, o1, o2, o3, o4⟩
  · exact Or.inl ⟨gc, gm, S, D, v, p', o1, o2, o3.lo (Nat.le_refl _) h, o4⟩
  · exact Or.inr ⟨gc, gm, F, o1, o2, o3.lo (Nat.le_refl _) h, o4⟩
theorem m_263 {T : zTx} {d p : Nat} {hc hm : zH} (R : RD T p hc hm) (hd : d < 7) : (hm.1 53 0 d = 0 → zL p_X12_reads 263 [some (.inr (.inr (12, 0))), some (.inl (nI d)), some (.inl 0), none, none, none] [] hm = zf (sg T p 60) (mB 24 (fun h => zuI h 53 0 d 1) d hm) (mB 25 (fun h => zuI h 53 0 d 1) d hm)) ∧ (¬ hm.1 53 0 d = 0 → zL p_X12_reads 263 [some (.inr (.inr (12, 0))), some (.inl (nI d)), some (.inl 0), none, none, none] [] hm = mQ d hm) := by
  have i60 : f_X12_isSign [.inr (.inr (12, 0)), .inl 60] hm = some (some (.inl (zb (sg T p 60))), hm) := ml_isSign R.xm R.le R.tm (s := 60) (by omega)
  have e289 : ∀ c o2 o3 o4 o5, zL p_X12_reads 289 [some (.inr (.inr (12, 0))), some (.inl (nI d)), o2, o3, o4, o5] [.inl c, .inr (.inr (12, 0))] hm = mB c (fun h => zuI h 53 0 d 1) d hm := fun c o2 o3 o4 o5 => by
    rw [e_X12_reads_289]
    unfold mB
    refine congrArg (zcv _) (funext (fun h1 => ?_))
    rw [zfx hd (by omega), nI_clamp (by omega), nar1]; rfl
  rw [e_X12_reads_263, zfx hd (by omega), nI_clamp (by omega), i60, zci_ok, zf_b0, e289, e289]
  refine ⟨fun a => by rw [zf_pos a], fun a => by rw [zf_neg a]; rfl⟩
def nS (T : zTx) (p : Nat) : Prop := (True ∧ ∀ c s : Int32, ¬ (sg T p 42 ∧ c = 22 ∧ s = zm12)) ∧ ∀ c s : Int32, ¬ opS T p c s
theorem nS.n {T : zTx} {p : Nat} (q : nS T p) : ¬ sg T p 43 ∧ ¬ sg T p 45 ∧ ¬ sg T p 42 := ⟨fun z => q.2 20 zm10 (Or.inl ⟨z, rfl, rfl⟩), fun z => q.2 21 zm11 (Or.inr ⟨z, rfl, rfl⟩), fun z => q.1.2 22 zm12 ⟨z, rfl, rfl⟩⟩
theorem T_all {T : zTx} {d : Nat} {P : zS} (hd : d < 6) (hP : ∀ p L C hc hm, EB T p L C hc hm → oPt T d p L C hc hm (P [.inr (.inr (2, 0)), .inl (nI d)] hc)) : ∀ p L C hc hm, EB T p L C hc hm → Qd d 1 hm → oEx T (sTs d) (4 * d + 1) d (fun _ => True) (mQ d) d p L C hc hm (fT9 P [.inr (.inr (2, 0)), .inl (nI d)] hc) := by
  intro p L C hc hm B Q
  have hS := S_all hd hP
  have e0 : fT9 P [.inr (.inr (2, 0)), .inl (nI d)] hc = _ := e_X2_readTest_0 (fS9 P) (nI d) hc
  rw [e0]
  rcases hS p L C hc hm B ⟨Q.1, fun z => by omega⟩ with ⟨gc, gm, S, D, v, p', o1, o2, o3, o4, o5, o6, o7, o8, o9, o10, o11, o12, o13⟩ | ⟨gc, gm, F, o1, o2, o3, o4, o5, o6⟩
  case inr =>
    rw [o1, zcv_ok, fl_isSign o4.1.ne, zci_ok, zf_pos rfl, fl_isSign o4.1.ne, zci_ok, zf_pos rfl]
    exact Or.inr ⟨gc, gm, F, rfl, o2, o3.lo (Nat.le_refl _) (by omega), o4, o5, o6⟩
  have i60 : f_X10_isSign [.inr (.inr (10, 0)), .inl 60] gc = some (some (.inl (zb (sg T p' 60))), gc) := cl_isSign o6.xc o6.le o6.tc (s := 60) (by omega)
  have i61 : f_X10_isSign [.inr (.inr (10, 0)), .inl 61] gc = some (some (.inl (zb (sg T p' 61))), gc) := cl_isSign o6.xc o6.le o6.tc (s := 61) (by omega)
  obtain ⟨n1, n2, n3⟩ := nS.n o7
  have mr := (mR_op (d := d) o6).2.2.2 n1 n2 n3
  rw [o1, zcv_ok, i60, zci_ok, zf_b0, i61, zci_ok, zf_b0, i60, zci_ok, zf_b0, e_X2_readTest_48, e_X2_readTest_48]
  by_cases c : sg T p' 60 ∨ sg T p' 61
  case neg =>
    have c1 : ¬ sg T p' 60 := fun z => c (Or.inl z)
    have c2 : ¬ sg T p' 61 := fun z => c (Or.inr z)
    rw [zf_neg c1, zf_neg c2]
    exact Or.inl ⟨gc, gm, S, D, v, p', rfl, o2, o3.lo (Nat.le_refl _) (by omega), (o4.trans mr).trans (zf_neg c _ _), o5, o6, trivial, o8, o9, o10, o11, o12.le (by omega), o13.ts⟩
  have z53 : gm.1 53 0 d = 0 := by rw [o3.1 53 0 d (by omega) (by omega) (by omega) (by omega)]; exact Q.2 rfl
  have lv : d = 0 ∨ ¬ gm.1 52 0 d = 1 := Q.1.imp id (fun y => by rw [o3.1 52 0 d (by omega) (by omega) (by omega) (by omega)]; exact y)
  have mm := (o4.trans mr).trans ((zf_pos c _ _).trans ((m_263 o6 (by omega)).1 z53))
  have kp : kK T p' ≠ 0 := fun z => by rcases c with c | c <;> (have := c.1; omega)
  have key : ∀ code s : Int32, ((code = 24 ∧ s = zm8) ∨ (code = 25 ∧ s = zm9)) → mR d 1 hm = mB code (fun h => zuI h 53 0 d 1) d gm → (s < zm4 ∧ ¬ s = zm5) → oEx T (sTs d) (4 * d + 1) d (fun _ => True) (mQ d) d p L C hc hm (zcv (f_X10_step [.inr (.inr (10, 0))] gc) (fun h1 => zcv (fS9 P [.inr (.inr (2, 0)), .inl (nI d)] h1) (fun h2 => zcv (f_X1_add [.inr (.inr (1, 1)), .inl s] h2) (fun h3 => some (none, h3))))) := fun code s cs mm hs => by
    rcases bin (code := code) (s := s) (e := d) (e' := d + 1) (z := 0) (φ := fun h => zuI h 53 0 d 1) o6 kp o8 o9 B.2.2.2.1 B.2.2.2.2 o10 o11 (fun h K j k n => by rw [zuI_o (by omega)]) (fun h => rfl) (fun h => tmS.rf.em.s53 (Nat.le_refl _)) (fun h a => ⟨lv.imp id (fun y => by rw [zuI_o (by omega), a 52 0 d (by omega) (by omega)]; exact y), fun z => by omega⟩) (by omega) hS with ⟨fc, fm, S2, D2, w, p2, b1, b2, b3, b4, b5, b6, b7, b8, b9, b10, b11, b12, b13, b14⟩ | ⟨fc, fm, F, b1, b2, b3, b4, b5, b6⟩
    · obtain ⟨hh, b15⟩ := b14 (by omega)
      have f53 : ¬ fm.1 53 0 d = 0 := by
        rw [b15]; show ¬ (zuI hh 53 0 d 1).1 53 0 d = 0
        rw [zuI_at]; decide
      obtain ⟨k1, k2, k3⟩ := nS.n b7
      have mr2 := (mR_op (d := d) b6).2.2.2 k1 k2 k3
      have mq : mR d 0 fm = mQ d fm := by
        rw [mr2]
        by_cases c9 : sg T p2 60 ∨ sg T p2 61
        · rw [zf_pos c9]; exact (m_263 b6 (by omega)).2 f53
        · rw [zf_neg c9]
      rw [b1]
      exact Or.inl ⟨fc, fm, S ++ S2 ++ [s], D ++ code :: D2, jn s v w, p2, rfl, o2.trans b2, (o3.lo (Nat.le_refl _) (by omega)).trans b3, (mm.trans b4).trans mq, by omega, b6, trivial, b8, b9, b10, b11, (o12.le (by omega)).join (b12.le (by omega)) hs.1 hs.2, o13.cmp (by omega) cs b13⟩
    · rw [b1]
      exact Or.inr ⟨fc, fm, F, rfl, o2.trans b2, (o3.lo (Nat.le_refl _) (by omega)).trans b3, b4, mm.trans b5, b6⟩
  by_cases c6 : sg T p' 60
  · rw [zf_pos c6] at mm ⊢
    rw [zf_pos c6]
    exact key 24 zm8 (Or.inl ⟨rfl, rfl⟩) mm (by decide)
  · have c7 := c.resolve_left c6
    rw [zf_neg c6] at mm ⊢
    rw [zf_pos c7, zf_neg c6]
    exact key 25 zm9 (Or.inr ⟨rfl, rfl⟩) mm (by decide)
def opE (T : zTx) (p : Nat) (c s : Int32) : Prop := (wd T p 21 ∧ c = 26 ∧ s = zm6) ∨ (wd T p 22 ∧ c = 27 ∧ s = zm7)
theorem m_304 {T : zTx} {d p : Nat} {hc hm : zH} (R : RD T p hc hm) (hd : d < 7) : (wd T p 21 → mQ d hm = mB 26 (fun h => zuI h 53 0 d 0) d hm) ∧ (wd T p 22 → mQ d hm = mB 27 (fun h => zuI h 53 0 d 0) d hm) ∧ (¬ wd T p 21 → ¬ wd T p 22 → mQ d hm = zf (sg T p 41) (zf ((0 : Int32) < nI d) (zcv (f_X12_puts [.inr (.inr (12, 0)), .inl 29] hm) (fun h9 => zL p_X12_reads 379 [some (.inr (.inr (12, 0))), some (.inl (nI d + zm1)), some (.inl 0), none, none, none] [] h9)) (zL p_X12_reads 399 [some (.inr (.inr (12, 0))), some (.inl (nI d)), some (.inl 0), none, none, none] [] hm)) (zL p_X12_reads 399 [some (.inr (.inr (12, 0))), some (.inl (nI d)), some (.inl 0), none, none, none] [] hm)) := by
  have i21 : f_X12_isWord [.inr (.inr (12, 0)), .inr (.inl 1111)] hm = some (some (.inl (zb (wd T p 21))), hm) := ml_isWord R.le R.tm (i := 21) (by omega) mw_21
  have i22 : f_X12_isWord [.inr (.inr (12, 0)), .inr (.inl 423)] hm = some (some (.inl (zb (wd T p 22))), hm) := ml_isWord R.le R.tm (i := 22) (by omega) mw_22
  have i41 : f_X12_isSign [.inr (.inr (12, 0)), .inl 41] hm = some (some (.inl (zb (sg T p 41))), hm) := ml_isSign R.xm R.le R.tm (s := 41) (by omega)
  have e342 : ∀ c o2 o3 o4 o5, zL p_X12_reads 342 [some (.inr (.inr (12, 0))), some (.inl (nI d)), o2, o3, o4, o5] [.inl c, .inr (.inr (12, 0))] hm = mB c (fun h => zuI h 53 0 d 0) d hm := fun c o2 o3 o4 o5 => by
    rw [e_X12_reads_342]
    unfold mB
    refine congrArg (zcv _) (funext (fun h1 => ?_))
    rw [zfx hd (by omega), nI_clamp (by omega), nar0]; rfl
  have dj : wd T p 22 → ¬ wd T p 21 := fun x y => by have := x.2.symm.trans y.2; omega
  have top : mQ d hm = zf (wd T p 21) (zf (wd T p 21) (mB 26 (fun h => zuI h 53 0 d 0) d hm) (mB 27 (fun h => zuI h 53 0 d 0) d hm)) (zf (wd T p 22) (zf (wd T p 21) (mB 26 (fun h => zuI h 53 0 d 0) d hm) (mB 27 (fun h => zuI h 53 0 d 0) d hm)) (zf (sg T p 41) (zf ((0 : Int32) < nI d) (zcv (f_X12_puts [.inr (.inr (12, 0)), .inl 29] hm) (fun h9 => zL p_X12_reads 379 [some (.inr (.inr (12, 0))), some (.inl (nI d + zm1)), some (.inl 0), none, none, none] [] h9)) (zL p_X12_reads 399 [some (.inr (.inr (12, 0))), some (.inl (nI d)), some (.inl 0), none, none, none] [] hm)) (zL p_X12_reads 399 [some (.inr (.inr (12, 0))), some (.inl (nI d)), some (.inl 0), none, none, none] [] hm))) := by
    unfold mQ
    rw [e_X12_reads_304, i21, zci_ok, zf_b0, i22, zci_ok, zf_b0, i21, zci_ok, zf_b0, i41, zci_ok, zf_b0, e342, e342]
  refine ⟨fun a => by rw [top, zf_pos a, zf_pos a], fun a => by rw [top, zf_neg (dj a), zf_pos a, zf_neg (dj a)], fun a b => by rw [top, zf_neg a, zf_neg b]⟩
theorem E_all {T : zTx} {d : Nat} {P : zS} (hd : d < 6) (hP : ∀ p L C hc hm, EB T p L C hc hm → oPt T d p L C hc hm (P [.inr (.inr (2, 0)), .inl (nI d)] hc)) : ∀ p L C hc hm, EB T p L C hc hm → Qd d 1 hm → oEx T (sEx d) (4 * d) d (fun p => True ∧ ∀ c s : Int32, ¬ opE T p c s) (mQ d) d p L C hc hm (fE9 P [.inr (.inr (2, 0)), .inl (nI d)] hc) := by
  intro p L C hc hm B Q
  have hsub := T_all hd hP
  have i21 : ∀ p hc hm, RD T p hc hm → f_X10_isWord [.inr (.inr (10, 0)), .inl 21] hc = some (some (.inl (zb (wd T p 21))), hc) := fun p hc hm R => cl_isWord R.tc (i := 21) (by omega)
  have i22 : ∀ p hc hm, RD T p hc hm → f_X10_isWord [.inr (.inr (10, 0)), .inl 22] hc = some (some (.inl (zb (wd T p 22))), hc) := fun p hc hm R => cl_isWord R.tc (i := 22) (by omega)
  have o3 : ∀ (x : Nat) (o3 : Option zV) (h : zH), zL (p_X2_readE (fT9 P)) 7 [some (.inr (.inr (2, 0))), some (.inl (nI d)), some (.inl (nI x)), o3] [] h = zL (p_X2_readE (fT9 P)) 7 [some (.inr (.inr (2, 0))), some (.inl (nI d)), some (.inl (nI x)), none] [] h := fun x o3 h => (e_X2_readE_7 _ _ _ _ _).trans (e_X2_readE_7 _ _ _ _ _).symm
  have flt : ∀ (x : Nat) F h, FC F h → zL (p_X2_readE (fT9 P)) 7 [some (.inr (.inr (2, 0))), some (.inl (nI d)), some (.inl (nI x)), none] [] h = some (none, h) := fun x F h f => by
    rw [e_X2_readE_7, fl_isWord f.ne, zci_ok, zf_pos rfl, fl_isWord f.ne, zci_ok, zf_pos rfl]
    by_cases e : nI x < 1000
    · rw [zf_pos e]
    · rw [zf_neg e]
  refine (hsub p L C hc hm B Q).lp (K := fun h1 => zL (p_X2_readE (fT9 P)) 7 [some (.inr (.inr (2, 0))), some (.inl (nI d)), some (.inl (nI 0)), none] [] h1) (e_X2_readE_0 (fT9 P) (nI d) hc) (fun F h f => flt 0 F h f) (fun gc gm S D v p' x1 x2 x3 x4 x5 x6 x7 x8 x9 x10 x11 => ?_)
  refine lp (d := d) (e := d) (z := 1) (B := 4 * d) (Fl := fun x h => zL (p_X2_readE (fT9 P)) 7 [some (.inr (.inr (2, 0))), some (.inl (nI d)), some (.inl (nI x)), none] [] h) (sub := fT9 P) (sem2 := sTs d) (φ := fun h => zuI h 53 0 d 0) (ops := opE T) B.2.2.2.1 B.2.2.2.2 (fun x p hc hm R no => ?_) (fun x p hc hm c s hx R o => ?_) flt (fun p c s o z => by rcases o with o | o <;> (have := o.1.1; omega)) (fun p hc hm c s R o => ?_) hsub (fun p c s S D v S2 D2 w o a1 a2 a3 a4 => ?_) (fun h K j k n => by rw [zuI_o (by omega)]) (fun _ => rfl) (fun h => tmS.rf.em.s53 (Nat.le_refl _)) (fun h y => ⟨y.imp id (fun y => by rw [zuI_o (by omega)]; exact y), fun _ => zuI_at⟩) T.1 p' 0 S D v gc gm (by omega) (by omega) x4 x5 (Q.1.imp id (fun y => by rw [x2.1 52 0 d (by omega) (by omega) (by omega) (by omega)]; exact y)) x6 x7 x8 x9 (x10.le (by omega)) x11.ex
  · have n1 : ¬ wd T p 21 := fun z => no 26 zm6 (Or.inl ⟨z, rfl, rfl⟩)
    have n2 : ¬ wd T p 22 := fun z => no 27 zm7 (Or.inr ⟨z, rfl, rfl⟩)
    show zL (p_X2_readE (fT9 P)) 7 [some (.inr (.inr (2, 0))), some (.inl (nI d)), some (.inl (nI x)), none] [] hc = _
    rw [e_X2_readE_7, i21 p hc hm R, zci_ok, zf_b0, zf_neg n1, i22 p hc hm R, zci_ok, zf_b0, zf_neg n2]
    by_cases e : nI x < 1000
    · rw [zf_pos e]
    · rw [zf_neg e]
  · show zL (p_X2_readE (fT9 P)) 7 [some (.inr (.inr (2, 0))), some (.inl (nI d)), some (.inl (nI x)), none] [] hc = _
    rw [e_X2_readE_7, zf_pos (show nI x < 1000 from nI_lt (b := 1000) hx (by omega)), i21 p hc hm R, zci_ok, zf_b0, i22 p hc hm R, zci_ok, zf_b0, i21 p hc hm R, zci_ok, zf_b0, e_X2_readE_57, e_X2_readE_57, nI_1]
    simp only [o3]
    rcases o with ⟨a, b, c⟩ | ⟨a, b, c⟩
    · rw [zf_pos a, zf_pos a, c]
    · have n1 : ¬ wd T p 21 := fun z => by have := z.2.symm.trans a.2; omega
      rw [zf_neg n1, zf_pos a, zf_neg n1, c]
  · rcases o with ⟨a, b, c⟩ | ⟨a, b, c⟩
    · rw [b]; exact (m_304 R (by omega)).1 a
    · rw [b]; exact (m_304 R (by omega)).2.1 a
  · rcases o with ⟨a, b, c⟩ | ⟨a, b, c⟩
    · rw [b, c]; exact ⟨a1.join a3 (by decide) (by decide), a2.and (by omega) (Or.inl ⟨rfl, rfl⟩) a4⟩
    · rw [b, c]; exact ⟨a1.join a3 (by decide) (by decide), a2.and (by omega) (Or.inr ⟨rfl, rfl⟩) a4⟩
