/-! An operator, then what stands behind it. -/
def sg (T : zTx) (p s : Nat) : Prop := kK T p = 3 ∧ T.2 (kB T p) = s
def wd (T : zTx) (p i : Nat) : Prop := kK T p = 1 ∧ kI T p = i
/-- what an expression's depth must be like where it begins -/
def Qd (d z : Nat) (h : zH) : Prop := (d = 0 ∨ ¬ h.1 52 0 d = 1) ∧ (z = 1 → h.1 53 0 d = 0)
theorem Qd.to {d z e : Nat} {h g : zH} (q : Qd d z h) (a : emS d e h g) (he : z = 1 → d < e) : Qd d z g := ⟨q.1.imp id (fun x => by rw [a.1 52 0 d (by omega) (by omega) (by omega) (by omega)]; exact x), fun x => by rw [a.1 53 0 d (by omega) (by omega) (by omega) (by have := he x; omega)]; exact q.2 x⟩
noncomputable def mB (code : Int32) (φ : zH → zH) (d : Nat) (h : zH) : Option zRes := zcv (f_X12_puts [.inr (.inr (12, 0)), .inl code] h) (fun h1 => zcv (f_X12_nextToken [.inr (.inr (12, 0))] (φ h1)) (fun h2 => mR d 1 h2))
theorem bin {T : zTx} {d p p0 B e e' z : Nat} {L C S D : List Int32} {code s : Int32} {sub : zS} {sem : List Int32 → zV4 → Prop} {N : Nat → Prop} {M9 : zH → Option zRes} {φ : zH → zH} {hc hm : zH} (R : RD T p hc hm) (kp : kK T p ≠ 0) (h1 : stC hc (L ++ S)) (h2 : cdM hm (C ++ D)) (h3 : L.length ≤ p0) (h4 : C.length ≤ p0) (h5 : S.length + p0 ≤ p) (h6 : D.length + p0 ≤ p)
    (φ1 : ∀ h K j k, ¬ (K = 53 ∧ k = d) → (φ h).1 K j k = h.1 K j k) (φ2 : ∀ h, (φ h).2 = h.2) (φ3 : ∀ h, emS d e h (φ h)) (φ4 : ∀ h, (∀ K j k, ¬ (K = 12 ∧ k = 23) → ¬ (K = 51 ∧ 1000 ≤ k) → h.1 K j k = hm.1 K j k) → Qd d z (φ h))
    (he : e ≤ e') (hsub : ∀ p L C hc hm, EB T p L C hc hm → Qd d z hm → oEx T sem B e' N M9 d p L C hc hm (sub [.inr (.inr (2, 0)), .inl (nI d)] hc)) :
    (∃ gc gm S2 D2 w p2, (∀ K, zcv (f_X10_step [.inr (.inr (10, 0))] hc) (fun h1 => zcv (sub [.inr (.inr (2, 0)), .inl (nI d)] h1) (fun h2 => zcv (f_X1_add [.inr (.inr (1, 1)), .inl s] h2) K)) = K gc) ∧ exS hc gc ∧ emS d e hm gm ∧ mB code φ d hm = M9 gm ∧ p < p2 ∧ RD T p2 gc gm ∧ N p2 ∧ stC gc (L ++ (S ++ S2 ++ [s])) ∧ cdM gm (C ++ (D ++ code :: D2)) ∧ (S ++ S2 ++ [s]).length + p0 ≤ p2 ∧ (D ++ code :: D2).length + p0 ≤ p2 ∧ sC B S2 w ∧ sem D2 w ∧ (d < e' → ∃ h, gm.1 53 0 d = (φ h).1 53 0 d)) ∨
    (∃ gc gm F, (∀ K, zcv (f_X10_step [.inr (.inr (10, 0))] hc) (fun h1 => zcv (sub [.inr (.inr (2, 0)), .inl (nI d)] h1) (fun h2 => zcv (f_X1_add [.inr (.inr (1, 1)), .inl s] h2) K)) = K gc) ∧ exS hc gc ∧ emS d e hm gm ∧ FL F gc ∧ mB code φ d hm = some (some (.inl 0), gm) ∧ gm.1 12 0 9 = nI F) := by
  have t1 := R.t1
  have lt : p < T.1 := by
    have := kB_ge (T := T) (p := p)
    have := kB_le R.le
    have : kB T p ≠ T.1 := fun z => kp (kK_0.mpr z)
    omega
  have ls1 : (L ++ S).length ≤ p := by rw [List.length_append]; omega
  have ls2 : (C ++ D).length ≤ p := by rw [List.length_append]; omega
  obtain ⟨m1, a1, a2, a3, a4, a5, a6⟩ := ml_puts (x := code) h2 (by omega)
  have R1 : RD T p hc (φ m1) := R.keep (fun _ _ _ => rfl) (fun _ _ _ => rfl) (fun k hk => by rw [φ1 m1 12 0 k (by omega)]; exact a4 k (by omega)) (by rw [φ2, a6]) (fun k => by rw [φ1 m1 38 0 k (by omega)]; exact a5 38 0 k (by omega) (by omega))
  obtain ⟨c2, m2, b1, b2, b3, b4, b5⟩ := j_step R1
  have pe := kE_lt R.le kp
  have C2 : cdM m2 (C ++ D ++ [code]) := (a2.keep (fun K k hK => φ1 m1 K 0 k (by omega))).tm b4
  have B2 : EB T (kE T p) (L ++ S) (C ++ D ++ [code]) c2 m2 := ⟨b5, h1.keep b3, C2, by omega, by rw [List.length_append]; show (C ++ D).length + 1 ≤ _; omega⟩
  have E2 : emS d e hm m2 := ((a3 d e).trans (φ3 m1)).trans b4.em
  have Q2 : Qd d z m2 := by
    have q := φ4 m1 (fun K j k n1 n2 => a5 K j k n1 n2)
    exact ⟨q.1.imp id (fun x => by rw [b4.1 52 0 d (by omega)]; exact x), fun x => by rw [b4.1 53 0 d (by omega)]; exact q.2 x⟩
  have mB' : mB code φ d hm = mR d 1 m2 := by unfold mB; rw [a1, zcv_ok, b2, zcv_ok]
  rcases hsub _ _ _ _ _ B2 Q2 with ⟨gc, gm, S2, D2, w, p2, o1, o2, o3, o4, o5, o6, o7, o8, o9, o10, o11, o12, o13⟩ | ⟨gc, gm, F, o1, o2, o3, o4, o5, o6⟩
  · have lt2 := o6.le
    have ll : (L ++ S ++ S2).length < 1000 := by rw [List.length_append]; omega
    obtain ⟨g, u1, u2, u3, u4, u5⟩ := cl_add (s := s) o8 ll
    refine Or.inl ⟨g, gm, S2, D2, w, p2, fun K => by rw [b1, zcv_ok, o1, zcv_ok, u1, zcv_ok], (b3.ex.trans o2).trans u3, E2.trans (o3.lo (Nat.le_refl _) he), mB'.trans o4, by omega, ?_, o7, ?_, ?_, ?_, ?_, o12, o13, fun hh => ⟨m1, by rw [o3.1 53 0 d (by omega) (by omega) (by omega) (by omega), b4.1 53 0 d (by omega)]⟩⟩
    · exact o6.keep (fun K k hK => by
        by_cases e10 : K = 10
        · subst e10; exact u4 k
        · exact u3.1 K 0 k (by omega) (by omega)) (fun K k hK => by rw [u5]) (fun _ _ => rfl) rfl (fun _ => rfl)
    · rw [← List.append_assoc, ← List.append_assoc]; exact u2
    · have : C ++ (D ++ code :: D2) = C ++ D ++ [code] ++ D2 := by simp
      rw [this]; exact o9
    · simp only [List.length_append, List.length_cons, List.length_nil]; omega
    · simp only [List.length_append, List.length_cons]; omega
  · obtain ⟨g, u1, u2, u3⟩ := fl_add (s := s) o4
    exact Or.inr ⟨g, gm, F, fun K => by rw [b1, zcv_ok, o1, zcv_ok, u1, zcv_ok], (b3.ex.trans o2).trans u3, E2.trans (o3.lo (Nat.le_refl _) he), u2, mB'.trans o5, o6⟩
/-- the model between two parts -/
theorem mR_op {T : zTx} {d p : Nat} {hc hm : zH} (R : RD T p hc hm) : (sg T p 43 → mR d 0 hm = mB 20 id d hm) ∧ (sg T p 45 → mR d 0 hm = mB 21 id d hm) ∧ (sg T p 42 → mR d 0 hm = mB 22 id d hm) ∧ (¬ sg T p 43 → ¬ sg T p 45 → ¬ sg T p 42 → mR d 0 hm = zf (sg T p 60 ∨ sg T p 61) (zL p_X12_reads 263 [some (.inr (.inr (12, 0))), some (.inl (nI d)), some (.inl 0), none, none, none] [] hm) (mQ d hm)) := by
  have i43 : f_X12_isSign [.inr (.inr (12, 0)), .inl 43] hm = some (some (.inl (zb (sg T p 43))), hm) := ml_isSign R.xm R.le R.tm (s := 43) (by omega)
  have i45 : f_X12_isSign [.inr (.inr (12, 0)), .inl 45] hm = some (some (.inl (zb (sg T p 45))), hm) := ml_isSign R.xm R.le R.tm (s := 45) (by omega)
  have i42 : f_X12_isSign [.inr (.inr (12, 0)), .inl 42] hm = some (some (.inl (zb (sg T p 42))), hm) := ml_isSign R.xm R.le R.tm (s := 42) (by omega)
  have i60 : f_X12_isSign [.inr (.inr (12, 0)), .inl 60] hm = some (some (.inl (zb (sg T p 60))), hm) := ml_isSign R.xm R.le R.tm (s := 60) (by omega)
  have i61 : f_X12_isSign [.inr (.inr (12, 0)), .inl 61] hm = some (some (.inl (zb (sg T p 61))), hm) := ml_isSign R.xm R.le R.tm (s := 61) (by omega)
  have dj : ∀ a b, a ≠ b → sg T p a → ¬ sg T p b := fun a b n x y => n (x.2.symm.trans y.2)
  have e237 : ∀ c o2 o3 o4 o5, zL p_X12_reads 237 [some (.inr (.inr (12, 0))), some (.inl (nI d)), o2, o3, o4, o5] [.inl c, .inr (.inr (12, 0))] hm = mB c id d hm := fun c o2 o3 o4 o5 => by rw [e_X12_reads_237]; rfl
  have e206 : ∀ o2 o3 o4 o5, zL p_X12_reads 206 [some (.inr (.inr (12, 0))), some (.inl (nI d)), o2, o3, o4, o5] [] hm = zf (sg T p 43) (mB 20 id d hm) (zf (sg T p 45) (mB 21 id d hm) (mB 22 id d hm)) := fun o2 o3 o4 o5 => by
    rw [e_X12_reads_206, i43, zci_ok, zf_b0, i45, zci_ok, zf_b0, e237, e237, e237]
  have top : mR d 0 hm = zf (sg T p 43) (zf (sg T p 43) (mB 20 id d hm) (zf (sg T p 45) (mB 21 id d hm) (mB 22 id d hm))) (zf (sg T p 45) (zf (sg T p 43) (mB 20 id d hm) (zf (sg T p 45) (mB 21 id d hm) (mB 22 id d hm))) (zf (sg T p 42) (zf (sg T p 43) (mB 20 id d hm) (zf (sg T p 45) (mB 21 id d hm) (mB 22 id d hm))) (zf (sg T p 60) (zL p_X12_reads 263 [some (.inr (.inr (12, 0))), some (.inl (nI d)), some (.inl 0), none, none, none] [] hm) (zf (sg T p 61) (zL p_X12_reads 263 [some (.inr (.inr (12, 0))), some (.inl (nI d)), some (.inl 0), none, none, none] [] hm) (mQ d hm))))) := by
    unfold mR
    rw [e_X12_reads_11, zf_pos (show nI 0 = 0 from rfl), i43, zci_ok, zf_b0, i45, zci_ok, zf_b0, i42, zci_ok, zf_b0, i60, zci_ok, zf_b0, i61, zci_ok, zf_b0, e206]; rfl
  refine ⟨fun a => ?_, fun a => ?_, fun a => ?_, fun a b c => ?_⟩
  · rw [top, zf_pos a, zf_pos a]
  · rw [top, zf_neg (dj 45 43 (by omega) a), zf_pos a, zf_neg (dj 45 43 (by omega) a), zf_pos a]
  · rw [top, zf_neg (dj 42 43 (by omega) a), zf_neg (dj 42 45 (by omega) a), zf_pos a, zf_neg (dj 42 43 (by omega) a), zf_neg (dj 42 45 (by omega) a)]
  · rw [top, zf_neg a, zf_neg b, zf_neg c, zf_or]
