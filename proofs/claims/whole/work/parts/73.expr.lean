/-! Both sides read an expression: what they hold of it. -/
def stC (h : zH) (L : List Int32) : Prop := h.1 1 1 2 = nI L.length ∧ ∀ i, i < L.length → h.1 22 1 i = L.getD i 0
def cdM (h : zH) (C : List Int32) : Prop := h.1 12 0 23 = nI (1000 + C.length) ∧ ∀ i, i < C.length → h.1 51 0 (1000 + i) = C.getD i 0
def exS (h g : zH) : Prop := (∀ K j k, ¬ (K = 10 ∧ j = 0) → ¬ (j = 1 ∧ (K = 1 ∨ K = 22)) → g.1 K j k = h.1 K j k) ∧ ∀ K j k, ¬ (K = 10 ∧ j = 0 ∧ k = 6) → g.2 K j k = h.2 K j k
/-- d: depths whose marks stay; e: depths whose comparison stays -/
def emS (d e : Nat) (h g : zH) : Prop := (∀ K j k, ¬ (K = 12 ∧ j = 0 ∧ (k = 4 ∨ k = 5 ∨ k = 6 ∨ k = 8 ∨ k = 9 ∨ k = 23)) → ¬ (K = 51 ∧ 1000 ≤ k) → ¬ (K = 52 ∧ d < k) → ¬ (K = 53 ∧ e ≤ k) → g.1 K j k = h.1 K j k) ∧ ∀ K j k, ¬ (K = 12 ∧ j = 0 ∧ k = 7) → g.2 K j k = h.2 K j k
theorem exS.trans {h g f : zH} (a : exS h g) (b : exS g f) : exS h f := ⟨fun K j k n1 n2 => (b.1 K j k n1 n2).trans (a.1 K j k n1 n2), fun K j k n1 => (b.2 K j k n1).trans (a.2 K j k n1)⟩
theorem emS.trans {d e : Nat} {h g f : zH} (a : emS d e h g) (b : emS d e g f) : emS d e h f := ⟨fun K j k n1 n2 n3 n4 => (b.1 K j k n1 n2 n3 n4).trans (a.1 K j k n1 n2 n3 n4), fun K j k n1 => (b.2 K j k n1).trans (a.2 K j k n1)⟩
theorem emS.lo {d d' e e' : Nat} {h g : zH} (a : emS d e h g) (hd : d' ≤ d) (he : e' ≤ e) : emS d' e' h g := ⟨fun K j k n1 n2 n3 n4 => a.1 K j k n1 n2 (by omega) (by omega), a.2⟩
theorem tkS.ex {h g : zH} (a : tkS h g) : exS h g := ⟨fun K j k n1 _ => a.1 K j k n1, a.2⟩
theorem tmS.em {d e : Nat} {h g : zH} (a : tmS h g) : emS d e h g := ⟨fun K j k n1 _ _ _ => a.1 K j k (by omega), a.2⟩
theorem emS.w {d e : Nat} {h g : zH} {v : Int32} (a : emS d e h g) : emS d e h (zuI g 12 0 9 v) := ⟨fun K j k n1 n2 n3 n4 => by rw [zuI_o (by omega)]; exact a.1 K j k n1 n2 n3 n4, a.2⟩
theorem emS.s52 {d e k : Nat} {h g : zH} {v : Int32} (a : emS d e h g) (hk : d < k) : emS d e h (zuI g 52 0 k v) := ⟨fun K j k n1 n2 n3 n4 => by rw [zuI_o (by omega)]; exact a.1 K j k n1 n2 n3 n4, a.2⟩
theorem emS.s53 {d e k : Nat} {h g : zH} {v : Int32} (a : emS d e h g) (hk : e ≤ k) : emS d e h (zuI g 53 0 k v) := ⟨fun K j k n1 n2 n3 n4 => by rw [zuI_o (by omega)]; exact a.1 K j k n1 n2 n3 n4, a.2⟩
theorem stC.keep {L : List Int32} {h g : zH} (q : stC h L) (a : tkS h g) : stC g L := ⟨by rw [a.1 1 1 2 (by omega)]; exact q.1, fun i hi => by rw [a.1 22 1 i (by omega)]; exact q.2 i hi⟩
theorem cdM.keep {C : List Int32} {h g : zH} (q : cdM h C) (a : ∀ K k, (K = 12 ∧ k = 23) ∨ K = 51 → g.1 K 0 k = h.1 K 0 k) : cdM g C := ⟨by rw [a 12 23 (by omega)]; exact q.1, fun i hi => by rw [a 51 _ (by omega)]; exact q.2 i hi⟩
theorem cdM.tm {C : List Int32} {h g : zH} (q : cdM h C) (a : tmS h g) : cdM g C := q.keep (fun K k hK => a.1 K 0 k (by omega))
theorem getD_app {L : List Int32} {x : Int32} {i : Nat} (hi : i < L.length) : (L ++ [x]).getD i 0 = L.getD i 0 := by
  rw [List.getD_eq_getElem?_getD, List.getD_eq_getElem?_getD, List.getElem?_append_left hi]
theorem getD_end {L : List Int32} {x : Int32} : (L ++ [x]).getD L.length 0 = x := by
  rw [List.getD_eq_getElem?_getD, List.getElem?_append_right (Nat.le_refl _), Nat.sub_self]; rfl
/-- the class adds a step -/
theorem cl_add {L : List Int32} {s : Int32} {h : zH} (q : stC h L) (hl : L.length < 1000) : ∃ g, f_X1_add [.inr (.inr (1, 1)), .inl s] h = some (none, g) ∧ stC g (L ++ [s]) ∧ exS h g ∧ (∀ k, g.1 10 0 k = h.1 10 0 k) ∧ g.2 = h.2 := by
  rw [g_X1_add, q.1, zf_pos (show nI L.length < 1000 from nI_lt (b := 1000) hl (by omega)), zfx hl (by omega), nI_clamp (by omega), nI_1]
  refine ⟨_, rfl, ⟨by rw [zuI_at, List.length_append]; rfl, fun i hi => ?_⟩, ⟨fun K j k n1 n2 => by rw [zuI_o (by omega), zuI_o (by omega)], fun _ _ _ _ => rfl⟩, fun k => by rw [zuI_o (by omega), zuI_o (by omega)], rfl⟩
  rw [List.length_append] at hi
  have hi : i < L.length + 1 := hi
  rw [zuI_o (by omega)]
  by_cases e : i = L.length
  · subst e; rw [zuI_at, getD_end]
  · rw [zuI_o (by omega), getD_app (by omega)]; exact q.2 i (by omega)
/-- also after a fault -/
def FL (F : Nat) (h : zH) : Prop := FC F h ∧ ∃ k, k ≤ 1000 ∧ h.1 1 1 2 = nI k
theorem fl_add {F : Nat} {s : Int32} {h : zH} (f : FL F h) : ∃ g, f_X1_add [.inr (.inr (1, 1)), .inl s] h = some (none, g) ∧ FL F g ∧ exS h g := by
  obtain ⟨f1, k, k1, k2⟩ := f
  rw [g_X1_add, k2]
  by_cases e : k < 1000
  · rw [zf_pos (show nI k < 1000 from nI_lt (b := 1000) e (by omega)), zfx e (by omega), nI_clamp (by omega), nI_1]
    exact ⟨_, rfl, ⟨(f1.o (by omega)).o (by omega), k + 1, by omega, zuI_at⟩, ⟨fun K j k n1 n2 => by rw [zuI_o (by omega), zuI_o (by omega)], fun _ _ _ _ => rfl⟩⟩
  · rw [zf_neg (show ¬ nI k < 1000 from nI_nlt (b := 1000) (by omega) (by omega))]
    exact ⟨_, rfl, ⟨f1, k, k1, k2⟩, tkS.rf.ex⟩
/-- the model puts a code -/
theorem ml_puts {C : List Int32} {x : Int32} {h : zH} (q : cdM h C) (hl : C.length < 1000) : ∃ g, f_X12_puts [.inr (.inr (12, 0)), .inl x] h = some (none, g) ∧ cdM g (C ++ [x]) ∧ (∀ d e, emS d e h g) ∧ (∀ k, ¬ k = 23 → g.1 12 0 k = h.1 12 0 k) ∧ (∀ K j k, ¬ (K = 12 ∧ k = 23) → ¬ (K = 51 ∧ 1000 ≤ k) → g.1 K j k = h.1 K j k) ∧ g.2 = h.2 := by
  rw [g_X12_puts, q.1, zfx (by omega) (by omega), nI_clamp (by omega), nI_1]
  refine ⟨_, rfl, ⟨by rw [zuI_at, List.length_append]; rfl, fun i hi => ?_⟩, fun d e => ⟨fun K j k n1 n2 n3 n4 => by rw [zuI_o (by omega), zuI_o (by omega)], fun _ _ _ _ => rfl⟩, fun k hk => by rw [zuI_o (by omega), zuI_o (by omega)], fun K j k n1 n2 => by rw [zuI_o (by omega), zuI_o (by omega)], rfl⟩
  rw [List.length_append] at hi
  have hi : i < C.length + 1 := hi
  rw [zuI_o (by omega)]
  by_cases e : i = C.length
  · subst e; rw [zuI_at, getD_end]
  · rw [zuI_o (by omega), getD_app (by omega)]; exact q.2 i (by omega)
/-- the model's places -/
noncomputable def mR (d w : Nat) (h : zH) : Option zRes := zL p_X12_reads 11 [some (.inr (.inr (12, 0))), some (.inl (nI d)), some (.inl (nI w)), none, none, none] [] h
noncomputable def mP (d : Nat) (h : zH) : Option zRes := zL p_X12_reads 152 [some (.inr (.inr (12, 0))), some (.inl (nI d)), some (.inl 0), none, none, none] [] h
noncomputable def mQ (d : Nat) (h : zH) : Option zRes := zL p_X12_reads 304 [some (.inr (.inr (12, 0))), some (.inl (nI d)), some (.inl 0), none, none, none] [] h
/-- what holds before: both at the token from p on, steps L and codes C so far -/
def EB (T : zTx) (p : Nat) (L C : List Int32) (hc hm : zH) : Prop := RD T p hc hm ∧ stC hc L ∧ cdM hm C ∧ L.length ≤ p ∧ C.length ≤ p
theorem EB.R {T : zTx} {p : Nat} {L C : List Int32} {hc hm : zH} (B : EB T p L C hc hm) : RD T p hc hm := B.1
/-- how both fail -/
def oF (d e : Nat) (hc hm : zH) (Cx Mx : Option zRes) : Prop := ∃ gc gm F, Cx = some (none, gc) ∧ exS hc gc ∧ emS d e hm gm ∧ FL F gc ∧ Mx = some (some (.inl 0), gm) ∧ gm.1 12 0 9 = nI F
/-- the outcome of a part -/
def oPt (T : zTx) (d p : Nat) (L C : List Int32) (hc hm : zH) (Cx : Option zRes) : Prop := (∃ gc gm S D v q, Cx = some (none, gc) ∧ exS hc gc ∧ emS d (d + 1) hm gm ∧ mR d 1 hm = mP d gm ∧ q ≤ T.1 ∧ p < kE T q ∧ TC T (kE T q) gc ∧ TM T q gm ∧ stC gc (L ++ S) ∧ cdM gm (C ++ D) ∧ S.length + p ≤ kE T q ∧ D.length + p ≤ kE T q ∧ sC (4 * d + 4) S v ∧ sPt d D v) ∨ oF d (d + 1) hc hm Cx (mR d 1 hm)
/-- the outcome of what is more than a part; N: what the next token is not -/
def oEx (T : zTx) (sem : List Int32 → zV4 → Prop) (B e : Nat) (N : Nat → Prop) (M9 : zH → Option zRes) (d p : Nat) (L C : List Int32) (hc hm : zH) (Cx : Option zRes) : Prop := (∃ gc gm S D v p', Cx = some (none, gc) ∧ exS hc gc ∧ emS d e hm gm ∧ mR d 1 hm = M9 gm ∧ p < p' ∧ RD T p' gc gm ∧ N p' ∧ stC gc (L ++ S) ∧ cdM gm (C ++ D) ∧ S.length + p ≤ p' ∧ D.length + p ≤ p' ∧ sC B S v ∧ sem D v) ∨ oF d e hc hm Cx (mR d 1 hm)
theorem exS.tx {T : zTx} {h g : zH} (a : exS h g) (X : txC T h) : txC T g := ⟨X.1, by rw [a.1 9 0 1 (by omega) (by omega)]; exact X.2.1, fun k hk => by rw [a.1 34 0 k (by omega) (by omega)]; exact X.2.2 k hk⟩
theorem exS.tb {h g : zH} (a : exS h g) (X : TB h) : TB g := fun i hi => by rw [a.2 35 0 i (by omega)]; exact X i hi
theorem emS.tx {T : zTx} {d e : Nat} {h g : zH} (a : emS d e h g) (X : txM T h) : txM T g := ⟨X.1, by rw [a.1 12 0 3 (by omega) (by omega) (by omega) (by omega)]; exact X.2.1, fun k hk => by rw [a.1 38 0 k (by omega) (by omega) (by omega) (by omega)]; exact X.2.2 k hk⟩
theorem mP_down {d : Nat} {h : zH} (hd : d + 1 < 7) (e : h.1 52 0 (d + 1) = 1) : mP (d + 1) h = mP d h := by
  have m1 : nI (d + 1) + zm1 = nI d := by rw [show zm1 = (-1 : Int32) from rfl]; exact pk_m1 _
  unfold mP
  rw [e_X12_reads_152, zf_pos (show (0 : Int32) < nI (d + 1) from (nI_p0 (by omega)).mpr (by omega)), zfx (by omega) (by omega), nI_clamp (by omega), e, zf_pos rfl, m1]
theorem mP_at {d : Nat} {h g : zH} (hd : d < 7) (e : d = 0 ∨ ¬ h.1 52 0 d = 1) (n : f_X12_nextToken [.inr (.inr (12, 0))] h = some (none, g)) : mP d h = mR d 0 g := by
  unfold mP
  rw [e_X12_reads_152]
  rcases Nat.eq_zero_or_pos d with z | z
  · subst z
    rw [zf_neg (show ¬ (0 : Int32) < nI 0 by decide), n, zcv_ok]; rfl
  · rw [zf_pos (show (0 : Int32) < nI d from (nI_p0 (by omega)).mpr z), zfx (by omega) (by omega), nI_clamp (by omega), zf_neg (e.resolve_left (by omega)), n, zcv_ok]; rfl
/-- after a bracket's end the model goes on as after a part -/
theorem mP_379 : ∀ (d : Nat) (h : zH), d < 7 → zL p_X12_reads 379 [some (.inr (.inr (12, 0))), some (.inl (nI d)), some (.inl 0), none, none, none] [] h = mP d h
  | 0, h, _ => by
    unfold mP
    rw [e_X12_reads_379, e_X12_reads_152, zf_neg (show ¬ (0 : Int32) < nI 0 by decide), zf_neg (show ¬ (0 : Int32) < nI 0 by decide)]
  | d + 1, h, hd => by
    have m1 : nI (d + 1) + zm1 = nI d := by rw [show zm1 = (-1 : Int32) from rfl]; exact pk_m1 _
    have ih := mP_379 d h (by omega)
    unfold mP at ih ⊢
    rw [e_X12_reads_379, e_X12_reads_152, m1, ih]
/-- a part, where no not stands before it -/
theorem oPt.lv {T : zTx} {d p : Nat} {L C : List Int32} {hc hm : zH} {Cx : Option zRes} (B : EB T p L C hc hm) (hd : d < 6) (lv : d = 0 ∨ ¬ hm.1 52 0 d = 1) (o : oPt T d p L C hc hm Cx) : oEx T (sPr d) (4 * d + 3) (d + 1) (fun _ => True) (mR d 0) d p L C hc hm Cx := by
  rcases o with ⟨gc, gm, S, D, v, q, o1, o2, o3, o4, o5, o6, o7, o8, o9, o10, o11, o12, o13, o14⟩ | o
  · obtain ⟨m, n1, n2, n3⟩ := ml_next (o3.tx B.R.xm) (kE_le o5) o8.1
    refine Or.inl ⟨gc, m, S, D, v, kE T q, o1, o2, o3.trans n2.em, o4.trans (mP_at (by omega) (lv.imp id (fun z => by rw [o3.1 52 0 d (by omega) (by omega) (by omega) (by omega)]; exact z)) n1), o6, ⟨o2.tx B.R.xc, o2.tb B.R.tb, n2.tx (o3.tx B.R.xm), kE_le o5, o7, n3⟩, trivial, o9, o10.tm n2, o11, o12, o13.le (by omega), o14.pr (by omega)⟩
  · exact Or.inr o
