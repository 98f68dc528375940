/-! The model's codes of a law: what they come to. -/
abbrev zV4 : Type := Int32 → Int32 → Int32 → Int32 → Int32
def evm (v : zV4) (g : zH) : Int32 := v (g.1 63 0 1) (g.1 63 0 2) (g.1 63 0 3) (g.1 63 0 4)
/-- only registers of depth d and more have changed -/
def rgS (d : Nat) (h g : zH) : Prop := (∀ K j k, ¬ (54 ≤ K ∧ K ≤ 62 ∧ d ≤ k ∧ j = 0) → g.1 K j k = h.1 K j k) ∧ g.2 = h.2
theorem rgS.rf {d : Nat} {h : zH} : rgS d h h := ⟨fun _ _ _ _ => rfl, rfl⟩
theorem rgS.trans {d : Nat} {h g f : zH} (a : rgS d h g) (b : rgS d g f) : rgS d h f := ⟨fun K j k n => (b.1 K j k n).trans (a.1 K j k n), b.2.trans a.2⟩
theorem rgS.lo {d e : Nat} {h g : zH} (a : rgS e h g) (de : d ≤ e) : rgS d h g := ⟨fun K j k n => a.1 K j k (by omega), a.2⟩
theorem rgS.set {d K k : Nat} {v : Int32} {h g : zH} (a : rgS d h g) (h1 : 54 ≤ K) (h2 : K ≤ 62) (hk : d ≤ k) : rgS d h (zuI g K 0 k v) := ⟨fun K' j' k' n => by rw [zuI_o (by omega)]; exact a.1 K' j' k' n, a.2⟩
theorem rgS.ev {d : Nat} {v : zV4} {h g : zH} (a : rgS d h g) : evm v g = evm v h := by
  unfold evm; rw [a.1 63 0 1 (by omega), a.1 63 0 2 (by omega), a.1 63 0 3 (by omega), a.1 63 0 4 (by omega)]
/-- codes from i on -/
def cds (g : zH) (i : Nat) (C : List Int32) : Prop := ∃ e, e ≤ 1000 ∧ g.1 50 0 0 = nI e ∧ i + C.length ≤ e ∧ ∀ q, q < C.length → g.1 51 0 (i + q) = C.getD q 0
theorem cds.to {d i : Nat} {C : List Int32} {h g : zH} (q : cds h i C) (a : rgS d h g) : cds g i C := by
  obtain ⟨e, e1, e2, e3, e4⟩ := q
  exact ⟨e, e1, by rw [a.1 50 0 0 (by omega)]; exact e2, e3, fun k hk => by rw [a.1 51 0 _ (by omega)]; exact e4 k hk⟩
theorem cds.left {g : zH} {i : Nat} {A B : List Int32} (q : cds g i (A ++ B)) : cds g i A := by
  obtain ⟨e, e1, e2, e3, e4⟩ := q
  rw [List.length_append] at e3 e4
  exact ⟨e, e1, e2, by omega, fun k hk => by rw [e4 k (by omega), List.getD_eq_getElem?_getD, List.getD_eq_getElem?_getD, List.getElem?_append_left hk]⟩
theorem cds.right {g : zH} {i : Nat} {A B : List Int32} (q : cds g i (A ++ B)) : cds g (i + A.length) B := by
  obtain ⟨e, e1, e2, e3, e4⟩ := q
  rw [List.length_append] at e3 e4
  refine ⟨e, e1, e2, by omega, fun k hk => ?_⟩
  have := e4 (A.length + k) (by omega)
  rw [← Nat.add_assoc] at this
  rw [this, List.getD_eq_getElem?_getD, List.getD_eq_getElem?_getD, List.getElem?_append_right (by omega), show A.length + k - A.length = k by omega]
theorem cds.head {g : zH} {i : Nat} {x : Int32} {B : List Int32} (q : cds g i (x :: B)) : ∃ e, e ≤ 1000 ∧ i < e ∧ g.1 50 0 0 = nI e ∧ g.1 51 0 i = x := by
  obtain ⟨e, e1, e2, e3, e4⟩ := q
  rw [List.length_cons] at e3 e4
  exact ⟨e, e1, by omega, e2, by have := e4 0 (by omega); rw [Nat.add_zero] at this; rw [this]; rfl⟩
theorem cds.tail {g : zH} {i : Nat} {x : Int32} {B : List Int32} (q : cds g i (x :: B)) : cds g (i + 1) B := cds.right (A := [x]) (B := B) q
/-- the machine at code i, depth d -/
noncomputable def wk (d i : Nat) (g : zH) : Option zRes := zL p_X12_worked 14 [some (.inr (.inr (12, 0))), some (.inl 0), some (.inl (nI d)), some (.inl (nI i)), none, none] [] g
theorem wk_o {d i : Nat} {g : zH} (o4 o5 : Option zV) : zL p_X12_worked 14 [some (.inr (.inr (12, 0))), some (.inl 0), some (.inl (nI d)), some (.inl (nI i)), o4, o5] [] g = wk d i g := (e_X12_worked_14 _ _ _ _ _ _).trans (e_X12_worked_14 _ _ _ _ _ _).symm
/-- it has found the value of a part -/
noncomputable def wv (d i : Nat) (x : Int32) (g : zH) : Option zRes := zL p_X12_worked 268 [some (.inr (.inr (12, 0))), some (.inl 0), some (.inl (nI d)), some (.inl (nI i)), none, some (.inl x)] [] g
theorem wv_o {d i : Nat} {x : Int32} {g : zH} (o4 : Option zV) : zL p_X12_worked 268 [some (.inr (.inr (12, 0))), some (.inl 0), some (.inl (nI d)), some (.inl (nI i)), o4, some (.inl x)] [] g = wv d i x g := (e_X12_worked_268 _ _ _ _ _ _).trans (e_X12_worked_268 _ _ _ _ _ _).symm
theorem w_22 {d i e : Nat} {g : zH} (hd : d < 7) (h1 : e ≤ 1000) (h2 : i < e) (h3 : g.1 50 0 0 = nI e) (h4 : g.1 51 0 i = 22) : wk d i g = wk d (i + 1) (zuI g 61 0 d 22) := by
  unfold wk
  rw [e_X12_worked_14, zf_pos (show vp_in 0 2 from vp_in_nI (n := 0) (by omega) (by omega)), show (0 : Int32).toNatClampNeg = 0 from rfl, h3, zf_pos (nI_lt h2 (by omega)), zfx (by omega) (by omega), nI_clamp (by omega), h4, zf_neg (by decide), zf_neg (by decide), zf_neg (by decide), zf_neg (by decide), zf_pos rfl, zfx (by omega) (by omega), nI_clamp (by omega), nI_1, wk_o]
  rfl
/-- the sum, the term taken in -/
def smI (d : Nat) (g : zH) (x : Int32) : zH := zuI (zuI g 58 0 d x) 61 0 d 0
noncomputable def smv (d : Nat) (g : zH) : Int32 := msum (g.1 59 0 d) (g.1 58 0 d) (g.1 60 0 d)
theorem sm_sm {d : Nat} (hd : d < 7) (g : zH) : f_X12_sums [.inr (.inr (12, 0)), .inl (nI d)] g = some (none, smI d g (smv d g)) := sm_sums hd g
theorem w_20 {d i e : Nat} {x : Int32} {g : zH} (hx : x = 20 ∨ x = 21) (hd : d < 7) (h1 : e ≤ 1000) (h2 : i < e) (h3 : g.1 50 0 0 = nI e) (h4 : g.1 51 0 i = x) : wk d i g = wk d (i + 1) (zuI (smI d g (smv d g)) 59 0 d x) := by
  unfold wk
  rw [e_X12_worked_14, zf_pos (show vp_in 0 2 from vp_in_nI (n := 0) (by omega) (by omega)), show (0 : Int32).toNatClampNeg = 0 from rfl, h3, zf_pos (nI_lt h2 (by omega)), zfx (by omega) (by omega), nI_clamp (by omega), h4]
  have e89 : zL p_X12_worked 89 [some (.inr (.inr (12, 0))), some (.inl 0), some (.inl (nI d)), some (.inl (nI i)), some (.inl x), none] [] g = wk d (i + 1) (zuI (smI d g (smv d g)) 59 0 d x) := by
    rw [e_X12_worked_89, sm_sm hd, zcv_ok, zfx (by omega) (by omega), nI_clamp (by omega), nI_1, wk_o]
  rw [e89]
  rcases hx with rfl | rfl
  · rw [zf_neg (by decide), zf_neg (by decide), zf_pos rfl]; rfl
  · rw [zf_neg (by decide), zf_neg (by decide), zf_neg (by decide), zf_pos rfl]; rfl
theorem w_24 {d i e : Nat} {x : Int32} {g : zH} (hx : x = 24 ∨ x = 25) (hd : d < 7) (h1 : e ≤ 1000) (h2 : i < e) (h3 : g.1 50 0 0 = nI e) (h4 : g.1 51 0 i = x) : wk d i g = wk d (i + 1) (zuI (zuI (zuI (zuI (smI d g (smv d g)) 56 0 d (smv d g)) 57 0 d x) 58 0 d 0) 59 0 d 20) := by
  unfold wk
  rw [e_X12_worked_14, zf_pos (show vp_in 0 2 from vp_in_nI (n := 0) (by omega) (by omega)), show (0 : Int32).toNatClampNeg = 0 from rfl, h3, zf_pos (nI_lt h2 (by omega)), zfx (by omega) (by omega), nI_clamp (by omega), h4]
  have e89 : zL p_X12_worked 137 [some (.inr (.inr (12, 0))), some (.inl 0), some (.inl (nI d)), some (.inl (nI i)), some (.inl x), none] [] g = wk d (i + 1) (zuI (zuI (zuI (zuI (smI d g (smv d g)) 56 0 d (smv d g)) 57 0 d x) 58 0 d 0) 59 0 d 20) := by
    rw [e_X12_worked_137, sm_sm hd, zcv_ok, zfx (by omega) (by omega), zfx (by omega) (by omega), zfx (by omega) (by omega), zfx (by omega) (by omega), zfx (by omega) (by omega), nI_clamp (by omega), nI_1, wk_o]
    have : (smI d g (smv d g)).1 58 0 d = smv d g := by unfold smI; rw [zuI_o (by omega), zuI_at]
    rw [this]
  rw [e89]
  rcases hx with rfl | rfl
  · rw [zf_neg (by decide), zf_neg (by decide), zf_neg (by decide), zf_neg (by decide), zf_neg (by decide), zf_pos rfl]; rfl
  · rw [zf_neg (by decide), zf_neg (by decide), zf_neg (by decide), zf_neg (by decide), zf_neg (by decide), zf_neg (by decide), zf_pos rfl]; rfl
/-- a test worked -/
noncomputable def tsv (d : Nat) (g : zH) : Int32 := mtest (g.1 57 0 d) (g.1 56 0 d) (smv d g) (g.1 55 0 d) (g.1 54 0 d)
def tsI (d : Nat) (g : zH) (x y : Int32) : zH := zuI (zuI (zuI (zuI (smI d g x) 54 0 d y) 57 0 d 0) 58 0 d 0) 59 0 d 20
theorem sm_ts {d : Nat} (hd : d < 7) (g : zH) : f_X12_tests [.inr (.inr (12, 0)), .inl (nI d)] g = some (none, tsI d g (smv d g) (tsv d g)) := by
  rw [sm_tests hd g (smI d g (smv d g)) rfl]
  have : mtest ((smI d g (smv d g)).1 57 0 d) ((smI d g (smv d g)).1 56 0 d) ((smI d g (smv d g)).1 58 0 d) ((smI d g (smv d g)).1 55 0 d) ((smI d g (smv d g)).1 54 0 d) = tsv d g := by
    unfold tsv smI
    rw [zuI_o (by omega), zuI_o (by omega), zuI_o (by omega), zuI_o (by omega), zuI_o (by omega), zuI_at, zuI_o (by omega), zuI_o (by omega), zuI_o (by omega), zuI_o (by omega)]
  rw [this]; rfl
theorem w_26 {d i e : Nat} {x : Int32} {g : zH} (hx : x = 26 ∨ x = 27) (hd : d < 7) (h1 : e ≤ 1000) (h2 : i < e) (h3 : g.1 50 0 0 = nI e) (h4 : g.1 51 0 i = x) : wk d i g = wk d (i + 1) (zuI (tsI d g (smv d g) (tsv d g)) 55 0 d x) := by
  unfold wk
  rw [e_X12_worked_14, zf_pos (show vp_in 0 2 from vp_in_nI (n := 0) (by omega) (by omega)), show (0 : Int32).toNatClampNeg = 0 from rfl, h3, zf_pos (nI_lt h2 (by omega)), zfx (by omega) (by omega), nI_clamp (by omega), h4]
  have e89 : zL p_X12_worked 194 [some (.inr (.inr (12, 0))), some (.inl 0), some (.inl (nI d)), some (.inl (nI i)), some (.inl x), none] [] g = wk d (i + 1) (zuI (tsI d g (smv d g) (tsv d g)) 55 0 d x) := by
    rw [e_X12_worked_194, sm_ts hd, zcv_ok, zfx (by omega) (by omega), nI_clamp (by omega), nI_1, wk_o]
  rw [e89]
  rcases hx with rfl | rfl
  · rw [zf_neg (by decide), zf_neg (by decide), zf_neg (by decide), zf_neg (by decide), zf_neg (by decide), zf_neg (by decide), zf_neg (by decide), zf_pos rfl]; rfl
  · rw [zf_neg (by decide), zf_neg (by decide), zf_neg (by decide), zf_neg (by decide), zf_neg (by decide), zf_neg (by decide), zf_neg (by decide), zf_neg (by decide), zf_pos rfl]; rfl
/-- a depth begins -/
def opI (d : Nat) (g : zH) (x : Int32) : zH := zuI (zuI (zuI (zuI (zuI (zuI g 62 0 d x) 55 0 d 0) 57 0 d 0) 58 0 d 0) 59 0 d 20) 61 0 d 0
theorem w_28 {d i e : Nat} {g : zH} (hd : d + 1 < 7) (h1 : e ≤ 1000) (h2 : i < e) (h3 : g.1 50 0 0 = nI e) (h4 : g.1 51 0 i = 28) : wk d i g = wk (d + 1) (i + 1) (opI (d + 1) g 0) := by
  unfold wk
  rw [e_X12_worked_14, zf_pos (show vp_in 0 2 from vp_in_nI (n := 0) (by omega) (by omega)), show (0 : Int32).toNatClampNeg = 0 from rfl, h3, zf_pos (nI_lt h2 (by omega)), zfx (by omega) (by omega), nI_clamp (by omega), h4, zf_pos rfl, e_X12_worked_46, zf_neg (by decide), nI_1, zfx (by omega) (by omega), nI_clamp (by omega), sm_opens hd, zcv_ok, nI_1, wk_o]
  rfl
theorem w_30 {d i e : Nat} {g : zH} (hd : d + 1 < 7) (h1 : e ≤ 1000) (h2 : i < e) (h3 : g.1 50 0 0 = nI e) (h4 : g.1 51 0 i = 30) : wk d i g = wk (d + 1) (i + 1) (opI (d + 1) g 1) := by
  unfold wk
  rw [e_X12_worked_14, zf_pos (show vp_in 0 2 from vp_in_nI (n := 0) (by omega) (by omega)), show (0 : Int32).toNatClampNeg = 0 from rfl, h3, zf_pos (nI_lt h2 (by omega)), zfx (by omega) (by omega), nI_clamp (by omega), h4, zf_neg (by decide), zf_pos rfl, e_X12_worked_46, zf_pos rfl, nI_1, zfx (by omega) (by omega), nI_clamp (by omega), sm_opens hd, zcv_ok, nI_1, wk_o]
  rfl
theorem w_29 {d i e : Nat} {g : zH} (hd : d + 1 < 7) (h1 : e ≤ 1000) (h2 : i < e) (h3 : g.1 50 0 0 = nI e) (h4 : g.1 51 0 i = 29) : wk (d + 1) i g = wv d i (tsv (d + 1) g) (tsI (d + 1) g (smv (d + 1) g) (tsv (d + 1) g)) := by
  unfold wk
  have m1 : nI (d + 1) + zm1 = nI d := by rw [show zm1 = (-1 : Int32) from rfl]; exact pk_m1 _
  have e54 : (tsI (d + 1) g (smv (d + 1) g) (tsv (d + 1) g)).1 54 0 (d + 1) = tsv (d + 1) g := by
    unfold tsI; rw [zuI_o (by omega), zuI_o (by omega), zuI_o (by omega), zuI_at]
  rw [e_X12_worked_14, zf_pos (show vp_in 0 2 from vp_in_nI (n := 0) (by omega) (by omega)), show (0 : Int32).toNatClampNeg = 0 from rfl, h3, zf_pos (nI_lt h2 (by omega)), zfx (by omega) (by omega), nI_clamp (by omega), h4, zf_neg (by decide), zf_neg (by decide), zf_neg (by decide), zf_neg (by decide), zf_neg (by decide), zf_neg (by decide), zf_neg (by decide), zf_neg (by decide), zf_neg (by decide), zf_pos (by decide), zf_neg (by decide), e_X12_worked_243, zf_pos rfl, sm_ts hd, zcv_ok, zfx (by omega) (by omega), nI_clamp (by omega), e54, m1, wv_o]
theorem w_fact {d i e f : Nat} {g : zH} (hf : f < 20) (h1 : e ≤ 1000) (h2 : i < e) (h3 : g.1 50 0 0 = nI e) (h4 : g.1 51 0 i = nI f) : wk d i g = wv d i (g.1 63 0 f) g := by
  unfold wk
  have ne : ∀ x, 20 ≤ x → x < 100 → ¬ nI f = (nI x : Int32) := fun x h1 h2 z => by have := (nI_eq (by omega) (by omega)).mp z; omega
  rw [e_X12_worked_14, zf_pos (show vp_in 0 2 from vp_in_nI (n := 0) (by omega) (by omega)), show (0 : Int32).toNatClampNeg = 0 from rfl, h3, zf_pos (nI_lt h2 (by omega)), zfx (by omega) (by omega), nI_clamp (by omega), h4, zf_neg (show ¬ nI f = 28 from ne 28 (by omega) (by omega)), zf_neg (show ¬ nI f = 30 from ne 30 (by omega) (by omega)), zf_neg (show ¬ nI f = 20 from ne 20 (by omega) (by omega)), zf_neg (show ¬ nI f = 21 from ne 21 (by omega) (by omega)), zf_neg (show ¬ nI f = 22 from ne 22 (by omega) (by omega)), zf_neg (show ¬ nI f = 24 from ne 24 (by omega) (by omega)), zf_neg (show ¬ nI f = 25 from ne 25 (by omega) (by omega)), zf_neg (show ¬ nI f = 26 from ne 26 (by omega) (by omega)), zf_neg (show ¬ nI f = 27 from ne 27 (by omega) (by omega)), zf_pos (show nI f < 100 from nI_lt (b := 100) (by omega) (by omega)), zf_pos (show nI f < 20 from nI_lt (b := 20) (by omega) (by omega)), zfx hf (by omega), nI_clamp (by omega), e_X12_worked_243, zf_neg (show ¬ nI f = 29 from ne 29 (by omega) (by omega)), wv_o]
theorem w_num {d i e f : Nat} {g : zH} (hf : f < 2000000) (h1 : e ≤ 1000) (h2 : i < e) (h3 : g.1 50 0 0 = nI e) (h4 : g.1 51 0 i = nI (100 + f)) : wk d i g = wv d i (nI f) g := by
  unfold wk
  have ne : ∀ x, x < 100 → ¬ nI (100 + f) = (nI x : Int32) := fun x h1 z => by have := (nI_eq (by omega) (by omega)).mp z; omega
  have s : nI (100 + f) - (100 : Int32) = nI f := by rw [show (100 : Int32) = nI 100 from rfl, pk_sub (by omega), show 100 + f - 100 = f by omega]
  rw [e_X12_worked_14, zf_pos (show vp_in 0 2 from vp_in_nI (n := 0) (by omega) (by omega)), show (0 : Int32).toNatClampNeg = 0 from rfl, h3, zf_pos (nI_lt h2 (by omega)), zfx (by omega) (by omega), nI_clamp (by omega), h4, zf_neg (show ¬ nI (100 + f) = 28 from ne 28 (by omega)), zf_neg (show ¬ nI (100 + f) = 30 from ne 30 (by omega)), zf_neg (show ¬ nI (100 + f) = 20 from ne 20 (by omega)), zf_neg (show ¬ nI (100 + f) = 21 from ne 21 (by omega)), zf_neg (show ¬ nI (100 + f) = 22 from ne 22 (by omega)), zf_neg (show ¬ nI (100 + f) = 24 from ne 24 (by omega)), zf_neg (show ¬ nI (100 + f) = 25 from ne 25 (by omega)), zf_neg (show ¬ nI (100 + f) = 26 from ne 26 (by omega)), zf_neg (show ¬ nI (100 + f) = 27 from ne 27 (by omega)), zf_neg (show ¬ nI (100 + f) < 100 from nI_nlt (b := 100) (by omega) (by omega)), s, e_X12_worked_243, zf_neg (show ¬ nI (100 + f) = 29 from ne 29 (by omega)), wv_o]
/-- a not undone -/
theorem wv_not {d i : Nat} {x : Int32} {g : zH} (hd : d + 1 < 7) (h : g.1 62 0 (d + 1) = 1) : wv (d + 1) i x g = wv d i (zi (x = 0) 1 0) g := by
  have m1 : nI (d + 1) + zm1 = nI d := by rw [show zm1 = (-1 : Int32) from rfl]; exact pk_m1 _
  unfold wv
  rw [e_X12_worked_268, zf_pos (show (0 : Int32) < nI (d + 1) from (nI_p0 (by omega)).mpr (by omega)), zfx (by omega) (by omega), nI_clamp (by omega), h, zf_pos rfl, m1]
  by_cases e : x = 0
  · rw [zf_pos e, zi_pos e]
  · rw [zf_neg e, zi_neg e]
/-- a term -/
theorem wv_term {d i : Nat} {x : Int32} {g : zH} (hd : d < 7) (h : d = 0 ∨ ¬ g.1 62 0 d = 1) : wv d i x g = wk d (i + 1) (zuI g 60 0 d (zi (g.1 61 0 d = 0) x (g.1 60 0 d * x))) := by
  have e300 : ∀ o4, zL p_X12_worked 300 [some (.inr (.inr (12, 0))), some (.inl 0), some (.inl (nI d)), some (.inl (nI i)), o4, some (.inl x)] [] g = wk d (i + 1) (zuI g 60 0 d (zi (g.1 61 0 d = 0) x (g.1 60 0 d * x))) := fun o4 => by
    rw [e_X12_worked_300, zfx (by omega) (by omega), zfx (by omega) (by omega), zfx (by omega) (by omega), zfx (by omega) (by omega), nI_clamp (by omega), nI_1, wk_o, wk_o]
    by_cases e : g.1 61 0 d = 0
    · rw [zf_pos e, zi_pos e]
    · rw [zf_neg e, zi_neg e]
  unfold wv
  rw [e_X12_worked_268]
  rcases Nat.eq_zero_or_pos d with z | z
  · subst z
    rw [zf_neg (show ¬ (0 : Int32) < nI 0 by decide), e300]
  · rw [zf_pos (show (0 : Int32) < nI d from (nI_p0 (by omega)).mpr z), zfx (by omega) (by omega), nI_clamp (by omega), zf_neg (h.resolve_left (by omega)), e300]
