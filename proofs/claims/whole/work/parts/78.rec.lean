theorem lop_num {n : Nat} (hn : n < 2000000) : (fun a b c e => lopd (nI n) a b c e) = (fun _ _ _ _ => nI n : zV4) := by
  funext a b c e
  unfold lopd
  have ne : ∀ z : Int32, z < 0 → ¬ nI n = z := fun z hz q => nI_pos (n := n) (by omega) (by rw [q]; exact hz)
  rw [zi_neg (ne zm4 (by decide)), zi_neg (ne zm3 (by decide)), zi_neg (ne zm2 (by decide)), zi_neg (ne zm1 (by decide))]
theorem lop_fact {f : Nat} (h1 : 1 ≤ f) (h2 : f ≤ 4) : (fun a b c e => lopd (-nI f) a b c e) = fct f := by
  funext a b c e
  have : f = 1 ∨ f = 2 ∨ f = 3 ∨ f = 4 := by omega
  unfold lopd
  rcases this with rfl | rfl | rfl | rfl
  · rw [zi_neg (by decide), zi_neg (by decide), zi_neg (by decide), zi_pos (by decide)]; rfl
  · rw [zi_neg (by decide), zi_neg (by decide), zi_pos (by decide)]; rfl
  · rw [zi_neg (by decide), zi_pos (by decide)]; rfl
  · rw [zi_pos (by decide)]; rfl
theorem neg4 : ∀ f, f < 5 → ¬ -nI f < zm4 := by decide +kernel
theorem FL.set {T : zTx} {p k : Nat} {L : List Int32} {hc hm : zH} (R : RD T p hc hm) (q : stC hc L) (hl : L.length ≤ 1000) (h1 : 1 ≤ k) (h2 : k < 6) : FL (k + 16 * kB T p) (zuI hc 10 0 7 (nI (k + 16 * kB T p))) := ⟨FC.set R.t1 R.le h1 h2, L.length, hl, by rw [zuI_o (by omega)]; exact q.1⟩
/-- a leaf -/
theorem pt_leaf {T : zTx} {d p : Nat} {L C : List Int32} {s code : Int32} {v : zV4} {hc hm : zH} {cE cP : zS} (B : EB T p L C hc hm) (kp : kK T p ≠ 0) (hd : d < 5) (hs : ¬ s < zm4) (hv : (fun a b c e => lopd s a b c e) = v) (hq : sPt d [code] v) (hm' : mR d 1 hm = zcv (f_X12_puts [.inr (.inr (12, 0)), .inl code] hm) (fun h1 => mP d h1)) : oPt T d p L C hc hm (zL (p_X2_readPart cE cP) 135 [some (.inr (.inr (2, 0))), some (.inl (nI d))] [.inl s, .inr (.inr (1, 1))] hc) := by
  obtain ⟨R, q1, q2, q3, q4⟩ := B
  have t1 := R.t1
  have lt : p < T.1 := by
    have := kB_ge (T := T) (p := p)
    have := kB_le R.le
    have : kB T p ≠ T.1 := fun z => kp (kK_0.mpr z)
    omega
  have pe := kE_lt R.le kp
  obtain ⟨c1, a1, a2, a3, a4, a5⟩ := cl_add (s := s) q1 (by omega)
  obtain ⟨m1, b1, b2, b3, b4, b5, b6⟩ := ml_puts (x := code) q2 (by omega)
  have R1 : RD T p c1 hm := R.keep (fun K k hK => by
    by_cases e10 : K = 10
    · subst e10; exact a4 k
    · exact a3.1 K 0 k (by omega) (by omega)) (fun K k hK => by rw [a5]) (fun _ _ => rfl) rfl (fun _ => rfl)
  obtain ⟨c2, u1, u2, u3⟩ := cl_step R1.xc R1.tb (kE_le R.le) R1.tc.2.1 R1.tc.1
  rw [e_X2_readPart_135, a1, zcv_ok, u1, zcv_ok]
  refine Or.inl ⟨c2, m1, [s], [code], v, p, rfl, a3.trans u2.ex, b3 _ _, ?_, R.le, pe, u3, R.tm.keep (fun k hk => b4 k (by omega)) (by rw [b6]), a2.keep u2, b2, ?_, ?_, ?_, hq⟩
  · rw [hm', b1, zcv_ok]
  · show 1 + p ≤ _; omega
  · show 1 + p ≤ _; omega
  · rw [← hv]; exact sC.leaf (by omega) hs
theorem P_all {T : zTx} : ∀ (n d : Nat), 6 ≤ n + d → d < 6 → ∀ p L C hc hm, EB T p L C hc hm → oPt T d p L C hc hm (fP9 n [.inr (.inr (2, 0)), .inl (nI d)] hc) := by
  intro n
  induction n with
  | zero => intro d h1 h2; omega
  | succ n ih =>
    intro d h1 h2 p L C hc hm B
    have R := B.R
    have t1 := R.t1
    have e0 : fP9 (n + 1) [.inr (.inr (2, 0)), .inl (nI d)] hc = _ := e_X2_readPart_0 (fE9 (fP9 n)) (fP9 n) (nI d) hc
    obtain ⟨mA, mBb, mC⟩ := mR_pt (d := d) R h2
    have pl := R.le
    have L1 := B.2.2.2.1
    have L2' := B.2.2.2.2
    rw [e0, cl_canPt R, zci_ok, zf_b0]
    by_cases c : cb T p
    case neg =>
      rw [zf_neg c, cl_co (x := 1) 1 R.tc rfl, zcv_ok]
      exact Or.inr ⟨_, _, _, rfl, tkS.rf.set.ex, tmS.rf.em.w, FL.set R B.2.1 (by omega) (by omega) (by omega), mA c, zuI_at⟩
    rw [zf_pos c]
    by_cases d5 : d = 5
    · rw [zf_neg (show ¬ nI d < 5 from nI_nlt (b := 5) (by omega) (by omega)), cl_co (x := 5) 5 R.tc rfl, zcv_ok]
      exact Or.inr ⟨_, _, _, rfl, tkS.rf.set.ex, tmS.rf.em.w, FL.set R B.2.1 (by omega) (by omega) (by omega), mBb c d5, zuI_at⟩
    obtain ⟨mN, mO, mNu, mF⟩ := mC c d5
    have i40 : f_X10_isSign [.inr (.inr (10, 0)), .inl 40] hc = some (some (.inl (zb (sg T p 40))), hc) := cl_isSign R.xc R.le R.tc (s := 40) (by omega)
    have i20 : f_X10_isWord [.inr (.inr (10, 0)), .inl 20] hc = some (some (.inl (zb (wd T p 20))), hc) := cl_isWord R.tc (i := 20) (by omega)
    have ff : f_X2_factStep [.inr (.inr (2, 0))] hc = some (some (.inl (-nI (ft T p))), hc) := cl_factStep R.tc
    rw [zf_pos (show nI d < 5 from nI_lt (b := 5) (by omega) (by omega)), i20, zci_ok, zf_b0, i40, zci_ok, zf_b0, ff, zci_ok, nI_1, zfc (R.tc.kind (k := 2) (by omega) 3 rfl)]
    -- both step into a deeper place
    have deep : ∀ (code x : Int32), kK T p ≠ 0 → ∃ c1 m1, f_X10_step [.inr (.inr (10, 0))] hc = some (none, c1) ∧ zcv (f_X12_puts [.inr (.inr (12, 0)), .inl code] hm) (fun h1 => zcv (f_X12_nextToken [.inr (.inr (12, 0))] (zuI (zuI h1 52 0 (d + 1) x) 53 0 (d + 1) 0)) (fun h2 => mR (d + 1) 1 h2)) = mR (d + 1) 1 m1 ∧ exS hc c1 ∧ emS d (d + 1) hm m1 ∧ EB T (kE T p) L (C ++ [code]) c1 m1 ∧ m1.1 52 0 (d + 1) = x ∧ m1.1 53 0 (d + 1) = 0 ∧ p < kE T p := fun code x kp => by
      have lt : p < T.1 := by
        have := kB_ge (T := T) (p := p)
        have := kB_le R.le
        have : kB T p ≠ T.1 := fun z => kp (kK_0.mpr z)
        omega
      have pe := kE_lt R.le kp
      obtain ⟨m1, b1, b2, b3, b4, b5, b6⟩ := ml_puts (x := code) B.2.2.1 (by omega)
      have R1 : RD T p hc (zuI (zuI m1 52 0 (d + 1) x) 53 0 (d + 1) 0) := R.keep (fun _ _ _ => rfl) (fun _ _ _ => rfl) (fun k hk => by rw [zuI_o (by omega), zuI_o (by omega)]; exact b4 k (by omega)) (by rw [zuI_2, zuI_2, b6]) (fun k => by rw [zuI_o (by omega), zuI_o (by omega)]; exact b5 38 0 k (by omega) (by omega))
      obtain ⟨c2, m2, u1, u2, u3, u4, u5⟩ := j_step R1
      refine ⟨c2, m2, u1, by rw [b1, zcv_ok, u2, zcv_ok], u3.ex, (((b3 d (d + 1)).s52 (by omega)).s53 (Nat.le_refl _)).trans u4.em, ⟨u5, B.2.1.keep u3, (b2.keep (fun K k hK => by rw [zuI_o (by omega), zuI_o (by omega)])).tm u4, by omega, by rw [List.length_append]; show C.length + 1 ≤ _; omega⟩, by rw [u4.1 52 0 _ (by omega), zuI_o (by omega), zuI_at], by rw [u4.1 53 0 _ (by omega), zuI_at], pe⟩
    by_cases a1 : wd T p 20
    · rw [zf_pos a1]
      obtain ⟨c1, m1, u1, u2, u3, u4, u5, u6, u7, u8⟩ := deep 30 1 (by have := a1.1; omega)
      have mm := (mN a1).trans u2
      rw [u1, zcv_ok]
      rcases ih (d + 1) (by omega) (by omega) _ _ _ _ _ u5 with ⟨gc, gm, S, D, v, q, o1, o2, o3, o4, o5, o6, o7, o8, o9, o10, o11, o12, o13, o14⟩ | ⟨gc, gm, F, o1, o2, o3, o4, o5, o6⟩
      · have g52 : gm.1 52 0 (d + 1) = 1 := by rw [o3.1 52 0 _ (by omega) (by omega) (by omega) (by omega)]; exact u6
        have ll : (L ++ S).length < 1000 := by have := kE_le o5; rw [List.length_append]; omega
        obtain ⟨g, w1, w2, w3, w4, w5⟩ := cl_add (s := zm5) o9 ll
        rw [o1, zcv_ok, w1, zcv_ok]
        refine Or.inl ⟨g, gm, S ++ [zm5], 30 :: D, nt v, q, rfl, (u3.trans o2).trans w3, u4.trans (o3.lo (by omega) (by omega)), (mm.trans o4).trans (mP_down (by omega) g52), o5, by omega, o7.keep w4 (by rw [w5]), o8, by rw [← List.append_assoc]; exact w2, ?_, ?_, ?_, (o13.le (by omega)).not, o14.not (by omega)⟩
        · have : C ++ 30 :: D = C ++ [30] ++ D := by simp
          rw [this]; exact o10
        · simp only [List.length_append, List.length_cons, List.length_nil]; omega
        · simp only [List.length_cons]; omega
      · obtain ⟨g, w1, w2, w3⟩ := fl_add (s := zm5) o4
        rw [o1, zcv_ok, w1, zcv_ok]
        exact Or.inr ⟨g, gm, F, rfl, (u3.trans o2).trans w3, u4.trans (o3.lo (by omega) (by omega)), w2, mm.trans o5, o6⟩
    rw [zf_neg a1]
    by_cases a2 : sg T p 40
    · rw [zf_pos a2]
      obtain ⟨c1, m1, u1, u2, u3, u4, u5, u6, u7, u8⟩ := deep 28 2 (by have := a2.1; omega)
      have mm := (mO a2).trans u2
      rw [u1, zcv_ok]
      rcases E_all (d := d + 1) (by omega) (ih (d + 1) (by omega) (by omega)) _ _ _ _ _ u5 ⟨Or.inr (by rw [u6]; decide), fun _ => u7⟩ with ⟨gc, gm, S, D, v, p', o1, o2, o3, o4, o5, o6, o7, o8, o9, o10, o11, o12, o13⟩ | ⟨gc, gm, F, o1, o2, o3, o4, o5, o6⟩
      · have n1 : ¬ wd T p' 21 := fun z => o7.2 26 zm6 (Or.inl ⟨z, rfl, rfl⟩)
        have n2 : ¬ wd T p' 22 := fun z => o7.2 27 zm7 (Or.inr ⟨z, rfl, rfl⟩)
        have mq := (m_304 (d := d + 1) o6 (by omega)).2.2 n1 n2
        have i41 : f_X10_isSign [.inr (.inr (10, 0)), .inl 41] gc = some (some (.inl (zb (sg T p' 41))), gc) := cl_isSign o6.xc o6.le o6.tc (s := 41) (by omega)
        rw [o1, zcv_ok, g_X10_takeSign, i41, zci_ok, zf_b0]
        have p'l := o6.le
        by_cases c41 : sg T p' 41
        · have kp : kK T p' ≠ 0 := by have := c41.1; omega
          have pe := kE_lt o6.le kp
          have lt : p' < T.1 := by have := kE_le o6.le; omega
          have m1' : nI (d + 1) + zm1 = nI d := by rw [show zm1 = (-1 : Int32) from rfl]; exact pk_m1 _
          obtain ⟨m3, b1, b2, b3, b4, b5, b6⟩ := ml_puts (x := 29) o9 (by simp only [List.length_append, List.length_cons, List.length_nil]; omega)
          obtain ⟨c3, w1, w2, w3⟩ := cl_step o6.xc o6.tb (kE_le o6.le) o6.tc.2.1 o6.tc.1
          rw [zf_pos c41, w1, zcv_ok, zcv_ok]
          refine Or.inl ⟨c3, m3, S, 28 :: D ++ [29], v, p', rfl, (u3.trans o2).trans w2.ex, (u4.trans (o3.lo (by omega) (by omega))).trans (b3 _ _), ?_, o6.le, by omega, w3, o6.tm.keep (fun k hk => b4 k (by omega)) (by rw [b6]), o8.keep w2, ?_, by omega, ?_, o12.le (by omega), o13.pt (by omega)⟩
          · rw [mm, o4, mq, zf_pos c41, zf_pos (show (0 : Int32) < nI (d + 1) from (nI_p0 (by omega)).mpr (by omega)), b1, zcv_ok, m1', mP_379 d m3 (by omega)]
          · have : C ++ (28 :: D ++ [29]) = C ++ [28] ++ D ++ [29] := by simp
            rw [this]; exact b2
          · simp only [List.length_append, List.length_cons, List.length_nil]; omega
        · have fs := FC.set (h := gc) (k := 1) o6.t1 o6.le (by omega) (by omega)
          have ll : (L ++ S).length ≤ 1000 := by rw [List.length_append]; omega
          rw [zf_neg c41, cl_co (x := 1) 1 o6.tc rfl, zcv_ok, fl_step fs.ne, zcv_ok, zcv_ok]
          refine Or.inr ⟨_, _, _, rfl, (u3.trans o2).trans tkS.rf.set.ex, (u4.trans (o3.lo (by omega) (by omega))).w, FL.set o6 o8 ll (by omega) (by omega), ?_, zuI_at⟩
          rw [mm, o4, mq, zf_neg c41, e_X12_reads_399, zf_neg (show ¬ nI (d + 1) = 0 from fun z => by have := (nI_eq (a := d + 1) (b := 0) (by omega) (by omega)).mp z; omega), ml_fa (x := 1) 1 o6.tm rfl, zci_ok, zf_01]
      · rw [o1, zcv_ok, fl_takeSign o4.1.ne, zcv_ok]
        exact Or.inr ⟨gc, gm, F, rfl, u3.trans o2, u4.trans (o3.lo (by omega) (by omega)), o4, mm.trans o5, o6⟩
    rw [zf_neg a2]
    by_cases a3 : kK T p = 2
    · rw [zf_pos a3, R.tc.2.2.2.2.2.1 a3]
      have kl := kN_lt R.xc.1 R.le a3
      exact pt_leaf B (by omega) (by omega) (fun z => nI_pos (n := kN T p) (by omega) (Int32.lt_trans z (by decide))) (lop_num kl) (sPt.num kl) (mNu a3)
    · have a4 : ft T p ≠ 0 := (((c.resolve_left a3).resolve_left a2).resolve_left a1)
      have fl := ft_le (T := T) (p := p)
      rw [zf_neg a3]
      exact pt_leaf B (by have := (ft_k a4).1; omega) (by omega) (neg4 _ (by omega)) (lop_fact (by omega) fl) (sPt.fact (by omega) fl) (mF a4)
/-- a whole expression -/
theorem X_all {T : zTx} : ∀ p L C hc hm, EB T p L C hc hm → hm.1 53 0 0 = 0 → oEx T (sEx 0) 0 0 (fun p => True ∧ ∀ c s : Int32, ¬ opE T p c s) (mQ 0) 0 p L C hc hm (f_X2_readE [.inr (.inr (2, 0)), .inl 0] hc) :=
  fun p L C hc hm B z => E_all (d := 0) (P := fP9 8) (by omega) (P_all 8 0 (by omega) (by omega)) p L C hc hm B ⟨Or.inl rfl, fun _ => z⟩
