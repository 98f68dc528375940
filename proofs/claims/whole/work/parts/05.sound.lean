/-! That an op tells what its instruction does. -/
def zGo (X : zCtx) (pc pc' : Nat) (st st' : List Value) : Prop := match X with
  | ((p, l, e, R, s, m, args, below, meth, c), _, _) => ∀ (H : Heap) (locs : List Loc) (cells slots : Nat) (Qq : State → Prop) (lsA : Array Slot) (rest : List Value), W p l e R s m args below meth c H locs cells slots Qq (F0 m pc' lsA (st' ++ rest)) → W p l e R s m args below meth c H locs cells slots Qq (F0 m pc lsA (st ++ rest))
theorem zk1 {L : List (Nat × Nat)} {v : zV} {t : List zV} (h : ∀ w ∈ v :: t, zok L w) : ∀ w ∈ t, zok L w := fun w hw => h w (List.mem_cons_of_mem _ hw)
theorem zk0 {L : List (Nat × Nat)} {v : zV} {t : List zV} (h : ∀ w ∈ v :: t, zok L w) : zok L v := h v List.mem_cons_self
theorem zk2 {L : List (Nat × Nat)} {v : zV} {t : List zV} (hv : zok L v) (h : ∀ w ∈ t, zok L w) : ∀ w ∈ v :: t, zok L w := List.forall_mem_cons.mpr ⟨hv, h⟩
theorem zbeq {a b : Nat} {x : zRes} {y : Option zRes} (h : (Bool.rec (motive := fun _ => Option zRes) none y (Nat.beq a b)) = some x) : a = b ∧ y = some x := by
  cases e : Nat.beq a b with
  | true => rw [e] at h; exact ⟨Nat.eq_of_beq_eq_true e, h⟩
  | false => rw [e] at h; cases h
theorem zbrec {b : Bool} {x : zRes} {y : Option zRes} (h : (Bool.rec (motive := fun _ => Option zRes) none y b) = some x) : b = true ∧ y = some x := by
  cases b with
  | true => exact ⟨rfl, h⟩
  | false => cases h
theorem zfel {c : Prop} {x : zRes} {y : Option zRes} (h : zf c y none = some x) : c ∧ y = some x := by
  by_cases hc : c
  · rw [zf_pos hc] at h; exact ⟨hc, h⟩
  · rw [zf_neg hc] at h; cases h
theorem zT_of {w : Cond} (i : Nat) (h : lw_tbl[i]? = some w) (hg : goodWord w = true) : w ∈ zT := List.mem_filter.mpr ⟨List.mem_of_getElem? h, hg⟩

theorem zs_i {X : zCtx} {pc nx : Nat} {f : Int32 → Int32} (hg : ∀ x, zGo X pc nx [.int x] [.int (f x)]) : zSo X pc (zo_i f nx) := by
  intro K ls st h res he hk
  obtain ⟨⟨p, l, e, R, s, m, args, below, meth, c⟩, ⟨D, ad, cy, L, A, H0⟩, ⟨own9, cc9, nL9, Q, cf, sf⟩⟩ := X
  match st, he with
  | .inl x :: t, he =>
    intro ho hl H locs lsA hP hS hL
    exact hg x H locs _ _ _ lsA (t.map (zc ad)) (hk nx ls (.inl (f x) :: t) h he (zk2 trivial (zk1 ho)) hl H locs lsA hP hS hL)
theorem zs_ii {X : zCtx} {pc nx : Nat} {f : Int32 → Int32 → Int32} (hg : ∀ x y, zGo X pc nx [.int y, .int x] [.int (f x y)]) : zSo X pc (zo_ii f nx) := by
  intro K ls st h res he hk
  obtain ⟨⟨p, l, e, R, s, m, args, below, meth, c⟩, ⟨D, ad, cy, L, A, H0⟩, ⟨own9, cc9, nL9, Q, cf, sf⟩⟩ := X
  match st, he with
  | .inl y :: .inl x :: t, he =>
    intro ho hl H locs lsA hP hS hL
    exact hg x y H locs _ _ _ lsA (t.map (zc ad)) (hk nx ls (.inl (f x y) :: t) h he (zk2 trivial (zk1 (zk1 ho))) hl H locs lsA hP hS hL)
theorem zs_ll {X : zCtx} {pc nx : Nat} {f : Int64 → Int64 → Int64} (hg : ∀ x y, zGo X pc nx [.long y, .long x] [.long (f x y)]) : zSo X pc (zo_ll f nx) := by
  intro K ls st h res he hk
  obtain ⟨⟨p, l, e, R, s, m, args, below, meth, c⟩, ⟨D, ad, cy, L, A, H0⟩, ⟨own9, cc9, nL9, Q, cf, sf⟩⟩ := X
  match st, he with
  | .inr (.inl y) :: .inr (.inl x) :: t, he =>
    intro ho hl H locs lsA hP hS hL
    exact hg x y H locs _ _ _ lsA (t.map (zc ad)) (hk nx ls (.inr (.inl (f x y)) :: t) h he (zk2 trivial (zk1 (zk1 ho))) hl H locs lsA hP hS hL)
theorem zs_li {X : zCtx} {pc nx : Nat} {f : Int64 → Int32 → Int64} (hg : ∀ x y, zGo X pc nx [.int y, .long x] [.long (f x y)]) : zSo X pc (zo_li f nx) := by
  intro K ls st h res he hk
  obtain ⟨⟨p, l, e, R, s, m, args, below, meth, c⟩, ⟨D, ad, cy, L, A, H0⟩, ⟨own9, cc9, nL9, Q, cf, sf⟩⟩ := X
  match st, he with
  | .inl y :: .inr (.inl x) :: t, he =>
    intro ho hl H locs lsA hP hS hL
    exact hg x y H locs _ _ _ lsA (t.map (zc ad)) (hk nx ls (.inr (.inl (f x y)) :: t) h he (zk2 trivial (zk1 (zk1 ho))) hl H locs lsA hP hS hL)
theorem zs_i2l_ {X : zCtx} {pc nx : Nat}  (hg : ∀ x, zGo X pc nx [.int x] [.long x.toInt64]) : zSo X pc (zo_i2l nx) := by
  intro K ls st h res he hk
  obtain ⟨⟨p, l, e, R, s, m, args, below, meth, c⟩, ⟨D, ad, cy, L, A, H0⟩, ⟨own9, cc9, nL9, Q, cf, sf⟩⟩ := X
  match st, he with
  | .inl x :: t, he =>
    intro ho hl H locs lsA hP hS hL
    exact hg x H locs _ _ _ lsA (t.map (zc ad)) (hk nx ls (.inr (.inl x.toInt64) :: t) h he (zk2 trivial (zk1 ho)) hl H locs lsA hP hS hL)
theorem zs_l2i_ {X : zCtx} {pc nx : Nat}  (hg : ∀ x, zGo X pc nx [.long x] [.int x.toInt32]) : zSo X pc (zo_l2i nx) := by
  intro K ls st h res he hk
  obtain ⟨⟨p, l, e, R, s, m, args, below, meth, c⟩, ⟨D, ad, cy, L, A, H0⟩, ⟨own9, cc9, nL9, Q, cf, sf⟩⟩ := X
  match st, he with
  | .inr (.inl x) :: t, he =>
    intro ho hl H locs lsA hP hS hL
    exact hg x H locs _ _ _ lsA (t.map (zc ad)) (hk nx ls (.inl x.toInt32 :: t) h he (zk2 trivial (zk1 ho)) hl H locs lsA hP hS hL)
theorem zs_lcmp_ {X : zCtx} {pc nx : Nat}  (hg : ∀ x y, zGo X pc nx [.long y, .long x] [.int (lg_cmp x y)]) : zSo X pc (zo_lcmp nx) := by
  intro K ls st h res he hk
  obtain ⟨⟨p, l, e, R, s, m, args, below, meth, c⟩, ⟨D, ad, cy, L, A, H0⟩, ⟨own9, cc9, nL9, Q, cf, sf⟩⟩ := X
  match st, he with
  | .inr (.inl y) :: .inr (.inl x) :: t, he =>
    intro ho hl H locs lsA hP hS hL
    exact hg x y H locs _ _ _ lsA (t.map (zc ad)) (hk nx ls (.inl (lg_cmp x y) :: t) h he (zk2 trivial (zk1 (zk1 ho))) hl H locs lsA hP hS hL)
theorem zs_pop_ {X : zCtx} {pc nx : Nat}  (hg : ∀ x : Int32, zGo X pc nx [.int x] []) : zSo X pc (zo_pop nx) := by
  intro K ls st h res he hk
  obtain ⟨⟨p, l, e, R, s, m, args, below, meth, c⟩, ⟨D, ad, cy, L, A, H0⟩, ⟨own9, cc9, nL9, Q, cf, sf⟩⟩ := X
  match st, he with
  | .inl x :: t, he =>
    intro ho hl H locs lsA hP hS hL
    exact hg x H locs _ _ _ lsA (t.map (zc ad)) (hk nx ls t h he (zk1 ho) hl H locs lsA hP hS hL)
theorem zs_id {X : zCtx} {pc nx : Nat} {f : Int32 → Int32 → Int32} (hg : ∀ x y, ¬ y = 0 → zGo X pc nx [.int y, .int x] [.int (f x y)]) : zSo X pc (zo_id f nx) := by
  intro K ls st h res he hk
  obtain ⟨⟨p, l, e, R, s, m, args, below, meth, c⟩, ⟨D, ad, cy, L, A, H0⟩, ⟨own9, cc9, nL9, Q, cf, sf⟩⟩ := X
  match st, he with
  | .inl y :: .inl x :: t, he =>
    intro ho hl H locs lsA hP hS hL
    have he : zf (y = 0) none (K nx ls (.inl (f x y) :: t) h) = some res := he
    by_cases h0 : y = 0
    · rw [zf_pos h0] at he; cases he
    · rw [zf_neg h0] at he
      exact hg x y h0 H locs _ _ _ lsA (t.map (zc ad)) (hk nx ls (.inl (f x y) :: t) h he (zk2 trivial (zk1 (zk1 ho))) hl H locs lsA hP hS hL)
theorem zs_ld {X : zCtx} {pc nx : Nat} {f : Int64 → Int64 → Int64} (hg : ∀ x y, ¬ y = 0 → zGo X pc nx [.long y, .long x] [.long (f x y)]) : zSo X pc (zo_ld f nx) := by
  intro K ls st h res he hk
  obtain ⟨⟨p, l, e, R, s, m, args, below, meth, c⟩, ⟨D, ad, cy, L, A, H0⟩, ⟨own9, cc9, nL9, Q, cf, sf⟩⟩ := X
  match st, he with
  | .inr (.inl y) :: .inr (.inl x) :: t, he =>
    intro ho hl H locs lsA hP hS hL
    have he : zf (y = 0) none (K nx ls (.inr (.inl (f x y)) :: t) h) = some res := he
    by_cases h0 : y = 0
    · rw [zf_pos h0] at he; cases he
    · rw [zf_neg h0] at he
      exact hg x y h0 H locs _ _ _ lsA (t.map (zc ad)) (hk nx ls (.inr (.inl (f x y)) :: t) h he (zk2 trivial (zk1 (zk1 ho))) hl H locs lsA hP hS hL)
theorem zs_idc {X : zCtx} {pc nx : Nat} {f : Int32 → Int32 → Int32} (hg : ∀ x y, ¬ y = 0 → zGo X pc nx [.int y, .int x] [.int (f x y)]) : zSo X pc (zo_idc f nx) := by
  intro K ls st h res he hk
  obtain ⟨⟨p, l, e, R, s, m, args, below, meth, c⟩, ⟨D, ad, cy, L, A, H0⟩, ⟨own9, cc9, nL9, Q, cf, sf⟩⟩ := X
  match st, he with
  | .inl y :: .inl x :: t, he =>
    intro ho hl H locs lsA hP hS hL
    obtain ⟨h0, he⟩ := zbrec he
    have h0 : ¬ y = 0 := by simpa using h0
    exact hg x y h0 H locs _ _ _ lsA (t.map (zc ad)) (hk nx ls (.inl (f x y) :: t) h he (zk2 trivial (zk1 (zk1 ho))) hl H locs lsA hP hS hL)
theorem zs_ldc {X : zCtx} {pc nx : Nat} {f : Int64 → Int64 → Int64} (hg : ∀ x y, ¬ y = 0 → zGo X pc nx [.long y, .long x] [.long (f x y)]) : zSo X pc (zo_ldc f nx) := by
  intro K ls st h res he hk
  obtain ⟨⟨p, l, e, R, s, m, args, below, meth, c⟩, ⟨D, ad, cy, L, A, H0⟩, ⟨own9, cc9, nL9, Q, cf, sf⟩⟩ := X
  match st, he with
  | .inr (.inl y) :: .inr (.inl x) :: t, he =>
    intro ho hl H locs lsA hP hS hL
    obtain ⟨h0, he⟩ := zbrec he
    have h0 : ¬ y = 0 := by simpa using h0
    exact hg x y h0 H locs _ _ _ lsA (t.map (zc ad)) (hk nx ls (.inr (.inl (f x y)) :: t) h he (zk2 trivial (zk1 (zk1 ho))) hl H locs lsA hP hS hL)
theorem zs_pushI {X : zCtx} {pc nx : Nat} {x : Int32} (hg : zGo X pc nx [] [.int x]) : zSo X pc (zo_push (.inl x) nx) := by
  intro K ls st h res he hk
  obtain ⟨⟨p, l, e, R, s, m, args, below, meth, c⟩, ⟨D, ad, cy, L, A, H0⟩, ⟨own9, cc9, nL9, Q, cf, sf⟩⟩ := X
  intro ho hl H locs lsA hP hS hL
  exact hg H locs _ _ _ lsA (st.map (zc ad)) (hk nx ls (.inl x :: st) h he (zk2 trivial ho) hl H locs lsA hP hS hL)
theorem zs_pushJ {X : zCtx} {pc nx : Nat} {x : Int64} (hg : zGo X pc nx [] [.long x]) : zSo X pc (zo_push (.inr (.inl x)) nx) := by
  intro K ls st h res he hk
  obtain ⟨⟨p, l, e, R, s, m, args, below, meth, c⟩, ⟨D, ad, cy, L, A, H0⟩, ⟨own9, cc9, nL9, Q, cf, sf⟩⟩ := X
  intro ho hl H locs lsA hP hS hL
  exact hg H locs _ _ _ lsA (st.map (zc ad)) (hk nx ls (.inr (.inl x) :: st) h he (zk2 trivial ho) hl H locs lsA hP hS hL)
theorem zg_iadd {X : zCtx} {own : String} {cc : ByteArray} {nL pc nx : Nat}  (hX : zXok X own cc nL) (hd : decode cc pc = .ok (.iadd, 1)) (hn : pc + 1 = nx) : ∀ x y : Int32, zGo X pc nx [.int y, .int x] [.int (x + y)] := by
  obtain ⟨⟨p, l, e, R, s, m, args, below, meth, c⟩, ⟨D, ad, cy, L, A, H0⟩, ⟨own9, cc9, nL9, Q, cf, sf⟩⟩ := X
  obtain ⟨hx, hb, hml, hown, hts, hK, hD, hcl, hcf, hsf, rfl, rfl, rfl, hR1, hR2, hc1, hc2⟩ := hX
  subst hn
  intro x y H locs cells slots Qq lsA rest wk
  exact lv_iadd hx hb hd wk
theorem zg_isub {X : zCtx} {own : String} {cc : ByteArray} {nL pc nx : Nat}  (hX : zXok X own cc nL) (hd : decode cc pc = .ok (.isub, 1)) (hn : pc + 1 = nx) : ∀ x y : Int32, zGo X pc nx [.int y, .int x] [.int (x - y)] := by
  obtain ⟨⟨p, l, e, R, s, m, args, below, meth, c⟩, ⟨D, ad, cy, L, A, H0⟩, ⟨own9, cc9, nL9, Q, cf, sf⟩⟩ := X
  obtain ⟨hx, hb, hml, hown, hts, hK, hD, hcl, hcf, hsf, rfl, rfl, rfl, hR1, hR2, hc1, hc2⟩ := hX
  subst hn
  intro x y H locs cells slots Qq lsA rest wk
  exact lv_isub hx hb hd wk
theorem zg_imul {X : zCtx} {own : String} {cc : ByteArray} {nL pc nx : Nat}  (hX : zXok X own cc nL) (hd : decode cc pc = .ok (.imul, 1)) (hn : pc + 1 = nx) : ∀ x y : Int32, zGo X pc nx [.int y, .int x] [.int (x * y)] := by
  obtain ⟨⟨p, l, e, R, s, m, args, below, meth, c⟩, ⟨D, ad, cy, L, A, H0⟩, ⟨own9, cc9, nL9, Q, cf, sf⟩⟩ := X
  obtain ⟨hx, hb, hml, hown, hts, hK, hD, hcl, hcf, hsf, rfl, rfl, rfl, hR1, hR2, hc1, hc2⟩ := hX
  subst hn
  intro x y H locs cells slots Qq lsA rest wk
  exact lv_imul hx hb hd wk
theorem zg_iand {X : zCtx} {own : String} {cc : ByteArray} {nL pc nx : Nat}  (hX : zXok X own cc nL) (hd : decode cc pc = .ok (.iand, 1)) (hn : pc + 1 = nx) : ∀ x y : Int32, zGo X pc nx [.int y, .int x] [.int (x &&& y)] := by
  obtain ⟨⟨p, l, e, R, s, m, args, below, meth, c⟩, ⟨D, ad, cy, L, A, H0⟩, ⟨own9, cc9, nL9, Q, cf, sf⟩⟩ := X
  obtain ⟨hx, hb, hml, hown, hts, hK, hD, hcl, hcf, hsf, rfl, rfl, rfl, hR1, hR2, hc1, hc2⟩ := hX
  subst hn
  intro x y H locs cells slots Qq lsA rest wk
  exact lv_iand hx hb hd wk
theorem zg_ior {X : zCtx} {own : String} {cc : ByteArray} {nL pc nx : Nat}  (hX : zXok X own cc nL) (hd : decode cc pc = .ok (.ior, 1)) (hn : pc + 1 = nx) : ∀ x y : Int32, zGo X pc nx [.int y, .int x] [.int (x ||| y)] := by
  obtain ⟨⟨p, l, e, R, s, m, args, below, meth, c⟩, ⟨D, ad, cy, L, A, H0⟩, ⟨own9, cc9, nL9, Q, cf, sf⟩⟩ := X
  obtain ⟨hx, hb, hml, hown, hts, hK, hD, hcl, hcf, hsf, rfl, rfl, rfl, hR1, hR2, hc1, hc2⟩ := hX
  subst hn
  intro x y H locs cells slots Qq lsA rest wk
  exact lv_ior hx hb hd wk
theorem zg_ixor {X : zCtx} {own : String} {cc : ByteArray} {nL pc nx : Nat}  (hX : zXok X own cc nL) (hd : decode cc pc = .ok (.ixor, 1)) (hn : pc + 1 = nx) : ∀ x y : Int32, zGo X pc nx [.int y, .int x] [.int (x ^^^ y)] := by
  obtain ⟨⟨p, l, e, R, s, m, args, below, meth, c⟩, ⟨D, ad, cy, L, A, H0⟩, ⟨own9, cc9, nL9, Q, cf, sf⟩⟩ := X
  obtain ⟨hx, hb, hml, hown, hts, hK, hD, hcl, hcf, hsf, rfl, rfl, rfl, hR1, hR2, hc1, hc2⟩ := hX
  subst hn
  intro x y H locs cells slots Qq lsA rest wk
  exact lv_ixor hx hb hd wk
theorem zg_ishl {X : zCtx} {own : String} {cc : ByteArray} {nL pc nx : Nat}  (hX : zXok X own cc nL) (hd : decode cc pc = .ok (.ishl, 1)) (hn : pc + 1 = nx) : ∀ x y : Int32, zGo X pc nx [.int y, .int x] [.int (x <<< (y &&& 31))] := by
  obtain ⟨⟨p, l, e, R, s, m, args, below, meth, c⟩, ⟨D, ad, cy, L, A, H0⟩, ⟨own9, cc9, nL9, Q, cf, sf⟩⟩ := X
  obtain ⟨hx, hb, hml, hown, hts, hK, hD, hcl, hcf, hsf, rfl, rfl, rfl, hR1, hR2, hc1, hc2⟩ := hX
  subst hn
  intro x y H locs cells slots Qq lsA rest wk
  exact lv_ishl hx hb hd wk
theorem zg_ishr {X : zCtx} {own : String} {cc : ByteArray} {nL pc nx : Nat}  (hX : zXok X own cc nL) (hd : decode cc pc = .ok (.ishr, 1)) (hn : pc + 1 = nx) : ∀ x y : Int32, zGo X pc nx [.int y, .int x] [.int (x >>> (y &&& 31))] := by
  obtain ⟨⟨p, l, e, R, s, m, args, below, meth, c⟩, ⟨D, ad, cy, L, A, H0⟩, ⟨own9, cc9, nL9, Q, cf, sf⟩⟩ := X
  obtain ⟨hx, hb, hml, hown, hts, hK, hD, hcl, hcf, hsf, rfl, rfl, rfl, hR1, hR2, hc1, hc2⟩ := hX
  subst hn
  intro x y H locs cells slots Qq lsA rest wk
  exact lv_ishr hx hb hd wk
theorem zg_iushr {X : zCtx} {own : String} {cc : ByteArray} {nL pc nx : Nat}  (hX : zXok X own cc nL) (hd : decode cc pc = .ok (.iushr, 1)) (hn : pc + 1 = nx) : ∀ x y : Int32, zGo X pc nx [.int y, .int x] [.int ((x.toUInt32 >>> (y.toUInt32 &&& Int32.toUInt32 31)).toInt32)] := by
  obtain ⟨⟨p, l, e, R, s, m, args, below, meth, c⟩, ⟨D, ad, cy, L, A, H0⟩, ⟨own9, cc9, nL9, Q, cf, sf⟩⟩ := X
  obtain ⟨hx, hb, hml, hown, hts, hK, hD, hcl, hcf, hsf, rfl, rfl, rfl, hR1, hR2, hc1, hc2⟩ := hX
  subst hn
  intro x y H locs cells slots Qq lsA rest wk
  exact lv_iushr hx hb hd rfl wk
theorem zg_idiv {X : zCtx} {own : String} {cc : ByteArray} {nL pc nx : Nat}  (hX : zXok X own cc nL) (hd : decode cc pc = .ok (.idiv, 1)) (hn : pc + 1 = nx) : ∀ x y : Int32, ¬ y = 0 → zGo X pc nx [.int y, .int x] [.int (x / y)] := by
  obtain ⟨⟨p, l, e, R, s, m, args, below, meth, c⟩, ⟨D, ad, cy, L, A, H0⟩, ⟨own9, cc9, nL9, Q, cf, sf⟩⟩ := X
  obtain ⟨hx, hb, hml, hown, hts, hK, hD, hcl, hcf, hsf, rfl, rfl, rfl, hR1, hR2, hc1, hc2⟩ := hX
  subst hn
  intro x y h0 H locs cells slots Qq lsA rest wk
  exact lv_idiv hx hb hd h0 wk
theorem zg_irem {X : zCtx} {own : String} {cc : ByteArray} {nL pc nx : Nat}  (hX : zXok X own cc nL) (hd : decode cc pc = .ok (.irem, 1)) (hn : pc + 1 = nx) : ∀ x y : Int32, ¬ y = 0 → zGo X pc nx [.int y, .int x] [.int (x - x / y * y)] := by
  obtain ⟨⟨p, l, e, R, s, m, args, below, meth, c⟩, ⟨D, ad, cy, L, A, H0⟩, ⟨own9, cc9, nL9, Q, cf, sf⟩⟩ := X
  obtain ⟨hx, hb, hml, hown, hts, hK, hD, hcl, hcf, hsf, rfl, rfl, rfl, hR1, hR2, hc1, hc2⟩ := hX
  subst hn
  intro x y h0 H locs cells slots Qq lsA rest wk
  exact lv_irem hx hb hd h0 wk
theorem zg_ineg {X : zCtx} {own : String} {cc : ByteArray} {nL pc nx : Nat}  (hX : zXok X own cc nL) (hd : decode cc pc = .ok (.ineg, 1)) (hn : pc + 1 = nx) : ∀ x : Int32, zGo X pc nx [.int x] [.int (-x)] := by
  obtain ⟨⟨p, l, e, R, s, m, args, below, meth, c⟩, ⟨D, ad, cy, L, A, H0⟩, ⟨own9, cc9, nL9, Q, cf, sf⟩⟩ := X
  obtain ⟨hx, hb, hml, hown, hts, hK, hD, hcl, hcf, hsf, rfl, rfl, rfl, hR1, hR2, hc1, hc2⟩ := hX
  subst hn
  intro x H locs cells slots Qq lsA rest wk
  exact lv_ineg hx hb hd wk
theorem zg_i2b {X : zCtx} {own : String} {cc : ByteArray} {nL pc nx : Nat}  (hX : zXok X own cc nL) (hd : decode cc pc = .ok (.i2b, 1)) (hn : pc + 1 = nx) : ∀ x : Int32, zGo X pc nx [.int x] [.int (x.toInt8.toInt32)] := by
  obtain ⟨⟨p, l, e, R, s, m, args, below, meth, c⟩, ⟨D, ad, cy, L, A, H0⟩, ⟨own9, cc9, nL9, Q, cf, sf⟩⟩ := X
  obtain ⟨hx, hb, hml, hown, hts, hK, hD, hcl, hcf, hsf, rfl, rfl, rfl, hR1, hR2, hc1, hc2⟩ := hX
  subst hn
  intro x H locs cells slots Qq lsA rest wk
  exact lv_i2b hx hb hd rfl wk
theorem zg_ladd {X : zCtx} {own : String} {cc : ByteArray} {nL pc nx : Nat}  (hX : zXok X own cc nL) (hd : decode cc pc = .ok (.ladd, 1)) (hn : pc + 1 = nx) : ∀ x y : Int64, zGo X pc nx [.long y, .long x] [.long (x + y)] := by
  obtain ⟨⟨p, l, e, R, s, m, args, below, meth, c⟩, ⟨D, ad, cy, L, A, H0⟩, ⟨own9, cc9, nL9, Q, cf, sf⟩⟩ := X
  obtain ⟨hx, hb, hml, hown, hts, hK, hD, hcl, hcf, hsf, rfl, rfl, rfl, hR1, hR2, hc1, hc2⟩ := hX
  subst hn
  intro x y H locs cells slots Qq lsA rest wk
  exact lv_ladd hx hb hd wk
theorem zg_lsub {X : zCtx} {own : String} {cc : ByteArray} {nL pc nx : Nat}  (hX : zXok X own cc nL) (hd : decode cc pc = .ok (.lsub, 1)) (hn : pc + 1 = nx) : ∀ x y : Int64, zGo X pc nx [.long y, .long x] [.long (x - y)] := by
  obtain ⟨⟨p, l, e, R, s, m, args, below, meth, c⟩, ⟨D, ad, cy, L, A, H0⟩, ⟨own9, cc9, nL9, Q, cf, sf⟩⟩ := X
  obtain ⟨hx, hb, hml, hown, hts, hK, hD, hcl, hcf, hsf, rfl, rfl, rfl, hR1, hR2, hc1, hc2⟩ := hX
  subst hn
  intro x y H locs cells slots Qq lsA rest wk
  exact lv_lsub hx hb hd wk
theorem zg_lmul {X : zCtx} {own : String} {cc : ByteArray} {nL pc nx : Nat}  (hX : zXok X own cc nL) (hd : decode cc pc = .ok (.lmul, 1)) (hn : pc + 1 = nx) : ∀ x y : Int64, zGo X pc nx [.long y, .long x] [.long (x * y)] := by
  obtain ⟨⟨p, l, e, R, s, m, args, below, meth, c⟩, ⟨D, ad, cy, L, A, H0⟩, ⟨own9, cc9, nL9, Q, cf, sf⟩⟩ := X
  obtain ⟨hx, hb, hml, hown, hts, hK, hD, hcl, hcf, hsf, rfl, rfl, rfl, hR1, hR2, hc1, hc2⟩ := hX
  subst hn
  intro x y H locs cells slots Qq lsA rest wk
  exact lv_lmul hx hb hd wk
theorem zg_land {X : zCtx} {own : String} {cc : ByteArray} {nL pc nx : Nat}  (hX : zXok X own cc nL) (hd : decode cc pc = .ok (.land, 1)) (hn : pc + 1 = nx) : ∀ x y : Int64, zGo X pc nx [.long y, .long x] [.long (x &&& y)] := by
  obtain ⟨⟨p, l, e, R, s, m, args, below, meth, c⟩, ⟨D, ad, cy, L, A, H0⟩, ⟨own9, cc9, nL9, Q, cf, sf⟩⟩ := X
  obtain ⟨hx, hb, hml, hown, hts, hK, hD, hcl, hcf, hsf, rfl, rfl, rfl, hR1, hR2, hc1, hc2⟩ := hX
  subst hn
  intro x y H locs cells slots Qq lsA rest wk
  exact lv_land hx hb hd wk
theorem zg_lor {X : zCtx} {own : String} {cc : ByteArray} {nL pc nx : Nat}  (hX : zXok X own cc nL) (hd : decode cc pc = .ok (.lor, 1)) (hn : pc + 1 = nx) : ∀ x y : Int64, zGo X pc nx [.long y, .long x] [.long (x ||| y)] := by
  obtain ⟨⟨p, l, e, R, s, m, args, below, meth, c⟩, ⟨D, ad, cy, L, A, H0⟩, ⟨own9, cc9, nL9, Q, cf, sf⟩⟩ := X
  obtain ⟨hx, hb, hml, hown, hts, hK, hD, hcl, hcf, hsf, rfl, rfl, rfl, hR1, hR2, hc1, hc2⟩ := hX
  subst hn
  intro x y H locs cells slots Qq lsA rest wk
  exact lv_lor hx hb hd wk
theorem zg_ldiv {X : zCtx} {own : String} {cc : ByteArray} {nL pc nx : Nat}  (hX : zXok X own cc nL) (hd : decode cc pc = .ok (.ldiv, 1)) (hn : pc + 1 = nx) : ∀ x y : Int64, ¬ y = 0 → zGo X pc nx [.long y, .long x] [.long (x / y)] := by
  obtain ⟨⟨p, l, e, R, s, m, args, below, meth, c⟩, ⟨D, ad, cy, L, A, H0⟩, ⟨own9, cc9, nL9, Q, cf, sf⟩⟩ := X
  obtain ⟨hx, hb, hml, hown, hts, hK, hD, hcl, hcf, hsf, rfl, rfl, rfl, hR1, hR2, hc1, hc2⟩ := hX
  subst hn
  intro x y h0 H locs cells slots Qq lsA rest wk
  exact lv_ldiv hx hb hd h0 wk
theorem zg_lrem {X : zCtx} {own : String} {cc : ByteArray} {nL pc nx : Nat}  (hX : zXok X own cc nL) (hd : decode cc pc = .ok (.lrem, 1)) (hn : pc + 1 = nx) : ∀ x y : Int64, ¬ y = 0 → zGo X pc nx [.long y, .long x] [.long (x - x / y * y)] := by
  obtain ⟨⟨p, l, e, R, s, m, args, below, meth, c⟩, ⟨D, ad, cy, L, A, H0⟩, ⟨own9, cc9, nL9, Q, cf, sf⟩⟩ := X
  obtain ⟨hx, hb, hml, hown, hts, hK, hD, hcl, hcf, hsf, rfl, rfl, rfl, hR1, hR2, hc1, hc2⟩ := hX
  subst hn
  intro x y h0 H locs cells slots Qq lsA rest wk
  exact lv_lrem hx hb hd h0 wk
theorem zg_lshl {X : zCtx} {own : String} {cc : ByteArray} {nL pc nx : Nat} (hX : zXok X own cc nL) (hd : decode cc pc = .ok (.lshl, 1)) (hn : pc + 1 = nx) : ∀ (x : Int64) (y : Int32), zGo X pc nx [.int y, .long x] [.long (x <<< (y.toInt64 &&& 63))] := by
  obtain ⟨⟨p, l, e, R, s, m, args, below, meth, c⟩, ⟨D, ad, cy, L, A, H0⟩, ⟨own9, cc9, nL9, Q, cf, sf⟩⟩ := X
  obtain ⟨hx, hb, hml, hown, hts, hK, hD, hcl, hcf, hsf, rfl, rfl, rfl, hR1, hR2, hc1, hc2⟩ := hX
  subst hn
  intro x y H locs cells slots Qq lsA rest wk
  exact lv_lshl hx hb hd rfl wk
theorem zg_lushr {X : zCtx} {own : String} {cc : ByteArray} {nL pc nx : Nat} (hX : zXok X own cc nL) (hd : decode cc pc = .ok (.lushr, 1)) (hn : pc + 1 = nx) : ∀ (x : Int64) (y : Int32), zGo X pc nx [.int y, .long x] [.long ((x.toUInt64 >>> (y.toInt64.toUInt64 &&& Int64.toUInt64 63)).toInt64)] := by
  obtain ⟨⟨p, l, e, R, s, m, args, below, meth, c⟩, ⟨D, ad, cy, L, A, H0⟩, ⟨own9, cc9, nL9, Q, cf, sf⟩⟩ := X
  obtain ⟨hx, hb, hml, hown, hts, hK, hD, hcl, hcf, hsf, rfl, rfl, rfl, hR1, hR2, hc1, hc2⟩ := hX
  subst hn
  intro x y H locs cells slots Qq lsA rest wk
  exact lv_lushr hx hb hd rfl wk
theorem zg_i2l {X : zCtx} {own : String} {cc : ByteArray} {nL pc nx : Nat}  (hX : zXok X own cc nL) (hd : decode cc pc = .ok (.i2l, 1)) (hn : pc + 1 = nx) : ∀ x : Int32, zGo X pc nx [.int x] [.long x.toInt64] := by
  obtain ⟨⟨p, l, e, R, s, m, args, below, meth, c⟩, ⟨D, ad, cy, L, A, H0⟩, ⟨own9, cc9, nL9, Q, cf, sf⟩⟩ := X
  obtain ⟨hx, hb, hml, hown, hts, hK, hD, hcl, hcf, hsf, rfl, rfl, rfl, hR1, hR2, hc1, hc2⟩ := hX
  subst hn
  intro x H locs cells slots Qq lsA rest wk
  exact lv_i2l hx hb hd rfl wk
theorem zg_l2i {X : zCtx} {own : String} {cc : ByteArray} {nL pc nx : Nat}  (hX : zXok X own cc nL) (hd : decode cc pc = .ok (.l2i, 1)) (hn : pc + 1 = nx) : ∀ x : Int64, zGo X pc nx [.long x] [.int x.toInt32] := by
  obtain ⟨⟨p, l, e, R, s, m, args, below, meth, c⟩, ⟨D, ad, cy, L, A, H0⟩, ⟨own9, cc9, nL9, Q, cf, sf⟩⟩ := X
  obtain ⟨hx, hb, hml, hown, hts, hK, hD, hcl, hcf, hsf, rfl, rfl, rfl, hR1, hR2, hc1, hc2⟩ := hX
  subst hn
  intro x H locs cells slots Qq lsA rest wk
  exact lv_l2i hx hb hd rfl wk
theorem zg_lcmp {X : zCtx} {own : String} {cc : ByteArray} {nL pc nx : Nat}  (hX : zXok X own cc nL) (hd : decode cc pc = .ok (.lcmp, 1)) (hn : pc + 1 = nx) : ∀ x y : Int64, zGo X pc nx [.long y, .long x] [.int (lg_cmp x y)] := by
  obtain ⟨⟨p, l, e, R, s, m, args, below, meth, c⟩, ⟨D, ad, cy, L, A, H0⟩, ⟨own9, cc9, nL9, Q, cf, sf⟩⟩ := X
  obtain ⟨hx, hb, hml, hown, hts, hK, hD, hcl, hcf, hsf, rfl, rfl, rfl, hR1, hR2, hc1, hc2⟩ := hX
  subst hn
  intro x y H locs cells slots Qq lsA rest wk
  exact W.lcmp hx hb hd wk
theorem zg_pop {X : zCtx} {own : String} {cc : ByteArray} {nL pc nx : Nat}  (hX : zXok X own cc nL) (hd : decode cc pc = .ok (.pop, 1)) (hn : pc + 1 = nx) : ∀ x : Int32, zGo X pc nx [.int x] [] := by
  obtain ⟨⟨p, l, e, R, s, m, args, below, meth, c⟩, ⟨D, ad, cy, L, A, H0⟩, ⟨own9, cc9, nL9, Q, cf, sf⟩⟩ := X
  obtain ⟨hx, hb, hml, hown, hts, hK, hD, hcl, hcf, hsf, rfl, rfl, rfl, hR1, hR2, hc1, hc2⟩ := hX
  subst hn
  intro x H locs cells slots Qq lsA rest wk
  exact lv_pop hx hb hd rfl wk
theorem zg_iconst {X : zCtx} {own : String} {cc : ByteArray} {nL pc nx : Nat} {n : Int} {v : Int32} (hv : Int32.ofInt n = v) (hX : zXok X own cc nL) (hd : decode cc pc = .ok (.iconst n, 1)) (hn : pc + 1 = nx) : zGo X pc nx [] [.int v] := by
  obtain ⟨⟨p, l, e, R, s, m, args, below, meth, c⟩, ⟨D, ad, cy, L, A, H0⟩, ⟨own9, cc9, nL9, Q, cf, sf⟩⟩ := X
  obtain ⟨hx, hb, hml, hown, hts, hK, hD, hcl, hcf, hsf, rfl, rfl, rfl, hR1, hR2, hc1, hc2⟩ := hX
  subst hn
  intro  H locs cells slots Qq lsA rest wk
  exact lv_iconst hx hb hd hv wk
theorem zg_bipush {X : zCtx} {own : String} {cc : ByteArray} {nL pc nx : Nat} {n : Int} {v : Int32} (hv : (Int8.ofInt n).toInt32 = v) (hX : zXok X own cc nL) (hd : decode cc pc = .ok (.bipush n, 2)) (hn : pc + 2 = nx) : zGo X pc nx [] [.int v] := by
  obtain ⟨⟨p, l, e, R, s, m, args, below, meth, c⟩, ⟨D, ad, cy, L, A, H0⟩, ⟨own9, cc9, nL9, Q, cf, sf⟩⟩ := X
  obtain ⟨hx, hb, hml, hown, hts, hK, hD, hcl, hcf, hsf, rfl, rfl, rfl, hR1, hR2, hc1, hc2⟩ := hX
  subst hn
  intro  H locs cells slots Qq lsA rest wk
  exact lv_bipush hx hb hd hv wk
theorem zg_sipush {X : zCtx} {own : String} {cc : ByteArray} {nL pc nx : Nat} {n : Int} {v : Int32} (hv : (Int16.ofInt n).toInt32 = v) (hX : zXok X own cc nL) (hd : decode cc pc = .ok (.sipush n, 3)) (hn : pc + 3 = nx) : zGo X pc nx [] [.int v] := by
  obtain ⟨⟨p, l, e, R, s, m, args, below, meth, c⟩, ⟨D, ad, cy, L, A, H0⟩, ⟨own9, cc9, nL9, Q, cf, sf⟩⟩ := X
  obtain ⟨hx, hb, hml, hown, hts, hK, hD, hcl, hcf, hsf, rfl, rfl, rfl, hR1, hR2, hc1, hc2⟩ := hX
  subst hn
  intro  H locs cells slots Qq lsA rest wk
  exact lv_sipush hx hb hd hv wk
theorem zg_lconst {X : zCtx} {own : String} {cc : ByteArray} {nL pc nx : Nat} {n : Fin 2} {v : Int64} (hv : Int64.ofNat (n : Nat) = v) (hX : zXok X own cc nL) (hd : decode cc pc = .ok (.lconst n, 1)) (hn : pc + 1 = nx) : zGo X pc nx [] [.long v] := by
  obtain ⟨⟨p, l, e, R, s, m, args, below, meth, c⟩, ⟨D, ad, cy, L, A, H0⟩, ⟨own9, cc9, nL9, Q, cf, sf⟩⟩ := X
  obtain ⟨hx, hb, hml, hown, hts, hK, hD, hcl, hcf, hsf, rfl, rfl, rfl, hR1, hR2, hc1, hc2⟩ := hX
  subst hn
  intro  H locs cells slots Qq lsA rest wk
  exact lv_lconst hx hb hd hv wk
theorem zg_ldc2 {X : zCtx} {own : String} {cc : ByteArray} {nL pc nx : Nat} {idx : Nat} {v : Int64} (hw : Jvm.Cond.constantLong own idx v ∈ zT) (hX : zXok X own cc nL) (hd : decode cc pc = .ok (.ldc2_w idx, 3)) (hn : pc + 3 = nx) : zGo X pc nx [] [.long v] := by
  obtain ⟨⟨p, l, e, R, s, m, args, below, meth, c⟩, ⟨D, ad, cy, L, A, H0⟩, ⟨own9, cc9, nL9, Q, cf, sf⟩⟩ := X
  obtain ⟨hx, hb, hml, hown, hts, hK, hD, hcl, hcf, hsf, rfl, rfl, rfl, hR1, hR2, hc1, hc2⟩ := hX
  subst hn
  intro  H locs cells slots Qq lsA rest wk
  exact lv_ldc2 hx hb hown (hts _ hw) hd wk
theorem zg_ldc {X : zCtx} {own : String} {cc : ByteArray} {nL pc nx : Nat} {idx : Nat} {v : Int32} (hw : Jvm.Cond.constant own idx v ∈ zT) (hX : zXok X own cc nL) (hd : decode cc pc = .ok (.ldc idx, 2)) (hn : pc + 2 = nx) : zGo X pc nx [] [.int v] := by
  obtain ⟨⟨p, l, e, R, s, m, args, below, meth, c⟩, ⟨D, ad, cy, L, A, H0⟩, ⟨own9, cc9, nL9, Q, cf, sf⟩⟩ := X
  obtain ⟨hx, hb, hml, hown, hts, hK, hD, hcl, hcf, hsf, rfl, rfl, rfl, hR1, hR2, hc1, hc2⟩ := hX
  subst hn
  intro  H locs cells slots Qq lsA rest wk
  exact lv_ldc hx hb hown (hts _ hw) hd wk
theorem zg_ldcw {X : zCtx} {own : String} {cc : ByteArray} {nL pc nx : Nat} {idx : Nat} {v : Int32} (hw : Jvm.Cond.constant own idx v ∈ zT) (hX : zXok X own cc nL) (hd : decode cc pc = .ok (.ldc_w idx, 3)) (hn : pc + 3 = nx) : zGo X pc nx [] [.int v] := by
  obtain ⟨⟨p, l, e, R, s, m, args, below, meth, c⟩, ⟨D, ad, cy, L, A, H0⟩, ⟨own9, cc9, nL9, Q, cf, sf⟩⟩ := X
  obtain ⟨hx, hb, hml, hown, hts, hK, hD, hcl, hcf, hsf, rfl, rfl, rfl, hR1, hR2, hc1, hc2⟩ := hX
  subst hn
  intro  H locs cells slots Qq lsA rest wk
  exact lv_ldcw hx hb hown (hts _ hw) hd wk
theorem zs_iload {X : zCtx} {own : String} {cc : ByteArray} {nL pc nx : Nat} {i : Nat} (hX : zXok X own cc nL) (hd : decode cc pc = .ok (.iload i, 2)) (hn : pc + 2 = nx) (hlt : i < nL) : zSo X pc (zo_iload i nx) := by
  intro K ls st h res he hk
  obtain ⟨⟨p, l, e, R, s, m, args, below, meth, c⟩, ⟨D, ad, cy, L, A, H0⟩, ⟨own9, cc9, nL9, Q, cf, sf⟩⟩ := X
  obtain ⟨hx, hb, hml, hown, hts, hK, hD, hcl, hcf, hsf, rfl, rfl, rfl, hR1, hR2, hc1, hc2⟩ := hX
  subst hn
  intro ho hl H locs lsA hP hS hL
  unfold zo_iload at he
  split at he
  · rename_i x hg
    have hv := hL.2.2 _ _ hlt hg
    exact lv_iload hx hb hd hv (hk _ ls (.inl x :: st) h he (zk2 (hl _ _ hg) ho) hl H locs lsA hP hS hL)
  · cases he
theorem zs_iload_n {X : zCtx} {own : String} {cc : ByteArray} {nL pc nx : Nat} {i : Nat} {n : Fin 4} (hi : n.val = i) (hX : zXok X own cc nL) (hd : decode cc pc = .ok (.iload_n n, 1)) (hn : pc + 1 = nx) (hlt : i < nL) : zSo X pc (zo_iload i nx) := by
  intro K ls st h res he hk
  obtain ⟨⟨p, l, e, R, s, m, args, below, meth, c⟩, ⟨D, ad, cy, L, A, H0⟩, ⟨own9, cc9, nL9, Q, cf, sf⟩⟩ := X
  obtain ⟨hx, hb, hml, hown, hts, hK, hD, hcl, hcf, hsf, rfl, rfl, rfl, hR1, hR2, hc1, hc2⟩ := hX
  subst hn
  subst hi
  intro ho hl H locs lsA hP hS hL
  unfold zo_iload at he
  split at he
  · rename_i x hg
    have hv := hL.2.2 _ _ hlt hg
    exact lv_iload_n hx hb hd rfl hv (hk _ ls (.inl x :: st) h he (zk2 (hl _ _ hg) ho) hl H locs lsA hP hS hL)
  · cases he
theorem zs_lload {X : zCtx} {own : String} {cc : ByteArray} {nL pc nx : Nat} {i : Nat} (hX : zXok X own cc nL) (hd : decode cc pc = .ok (.lload i, 2)) (hn : pc + 2 = nx) (hlt : i < nL) : zSo X pc (zo_lload i nx) := by
  intro K ls st h res he hk
  obtain ⟨⟨p, l, e, R, s, m, args, below, meth, c⟩, ⟨D, ad, cy, L, A, H0⟩, ⟨own9, cc9, nL9, Q, cf, sf⟩⟩ := X
  obtain ⟨hx, hb, hml, hown, hts, hK, hD, hcl, hcf, hsf, rfl, rfl, rfl, hR1, hR2, hc1, hc2⟩ := hX
  subst hn
  intro ho hl H locs lsA hP hS hL
  unfold zo_lload at he
  split at he
  · rename_i x hg
    have hv := hL.2.2 _ _ hlt hg
    exact lv_lload hx hb hd hv (hk _ ls (.inr (.inl x) :: st) h he (zk2 (hl _ _ hg) ho) hl H locs lsA hP hS hL)
  · cases he
theorem zs_lload_n {X : zCtx} {own : String} {cc : ByteArray} {nL pc nx : Nat} {i : Nat} {n : Fin 4} (hi : n.val = i) (hX : zXok X own cc nL) (hd : decode cc pc = .ok (.lload_n n, 1)) (hn : pc + 1 = nx) (hlt : i < nL) : zSo X pc (zo_lload i nx) := by
  intro K ls st h res he hk
  obtain ⟨⟨p, l, e, R, s, m, args, below, meth, c⟩, ⟨D, ad, cy, L, A, H0⟩, ⟨own9, cc9, nL9, Q, cf, sf⟩⟩ := X
  obtain ⟨hx, hb, hml, hown, hts, hK, hD, hcl, hcf, hsf, rfl, rfl, rfl, hR1, hR2, hc1, hc2⟩ := hX
  subst hn
  subst hi
  intro ho hl H locs lsA hP hS hL
  unfold zo_lload at he
  split at he
  · rename_i x hg
    have hv := hL.2.2 _ _ hlt hg
    exact lv_lload_n hx hb hd rfl hv (hk _ ls (.inr (.inl x) :: st) h he (zk2 (hl _ _ hg) ho) hl H locs lsA hP hS hL)
  · cases he
theorem zs_aload {X : zCtx} {own : String} {cc : ByteArray} {nL pc nx : Nat} {i : Nat} (hX : zXok X own cc nL) (hd : decode cc pc = .ok (.aload i, 2)) (hn : pc + 2 = nx) (hlt : i < nL) : zSo X pc (zo_aload i nx) := by
  intro K ls st h res he hk
  obtain ⟨⟨p, l, e, R, s, m, args, below, meth, c⟩, ⟨D, ad, cy, L, A, H0⟩, ⟨own9, cc9, nL9, Q, cf, sf⟩⟩ := X
  obtain ⟨hx, hb, hml, hown, hts, hK, hD, hcl, hcf, hsf, rfl, rfl, rfl, hR1, hR2, hc1, hc2⟩ := hX
  subst hn
  intro ho hl H locs lsA hP hS hL
  unfold zo_aload at he
  split at he
  · rename_i x hg
    have hv := hL.2.2 _ _ hlt hg
    exact lv_aload hx hb hd hv (hk _ ls (.inr (.inr x) :: st) h he (zk2 (hl _ _ hg) ho) hl H locs lsA hP hS hL)
  · cases he
theorem zs_aload_n {X : zCtx} {own : String} {cc : ByteArray} {nL pc nx : Nat} {i : Nat} {n : Fin 4} (hi : n.val = i) (hX : zXok X own cc nL) (hd : decode cc pc = .ok (.aload_n n, 1)) (hn : pc + 1 = nx) (hlt : i < nL) : zSo X pc (zo_aload i nx) := by
  intro K ls st h res he hk
  obtain ⟨⟨p, l, e, R, s, m, args, below, meth, c⟩, ⟨D, ad, cy, L, A, H0⟩, ⟨own9, cc9, nL9, Q, cf, sf⟩⟩ := X
  obtain ⟨hx, hb, hml, hown, hts, hK, hD, hcl, hcf, hsf, rfl, rfl, rfl, hR1, hR2, hc1, hc2⟩ := hX
  subst hn
  subst hi
  intro ho hl H locs lsA hP hS hL
  unfold zo_aload at he
  split at he
  · rename_i x hg
    have hv := hL.2.2 _ _ hlt hg
    exact lv_aload_n hx hb hd rfl hv (hk _ ls (.inr (.inr x) :: st) h he (zk2 (hl _ _ hg) ho) hl H locs lsA hP hS hL)
  · cases he
theorem zs_istore {X : zCtx} {own : String} {cc : ByteArray} {nL pc nx : Nat} {i : Nat} (hX : zXok X own cc nL) (hd : decode cc pc = .ok (.istore i, 2)) (hn : pc + 2 = nx) (hlt : i < nL) : zSo X pc (zo_istore i nx) := by
  intro K ls st h res he hk
  obtain ⟨⟨p, l, e, R, s, m, args, below, meth, c⟩, ⟨D, ad, cy, L, A, H0⟩, ⟨own9, cc9, nL9, Q, cf, sf⟩⟩ := X
  obtain ⟨hx, hb, hml, hown, hts, hK, hD, hcl, hcf, hsf, rfl, rfl, rfl, hR1, hR2, hc1, hc2⟩ := hX
  subst hn
  match st, he with
  | .inl x :: t, he =>
    intro ho hl H locs lsA hP hS hL
    refine lv_istore hx hb hd hL.has hlt rfl (fun lsB hB => ?_)
    have hN := hk _ (zst ls i (.inl x)) t h he (zk1 ho) (fun j w hw => ?_) H locs lsB hP hS (hL.store hB)
    · rw [zcf_st hcf hlt, zcf_st hsf hlt] at hN; exact hN
    · rcases zg_zst hw with ⟨-, rfl⟩ | ⟨-, h2, -⟩
      · exact zk0 ho
      · exact hl _ _ h2
theorem zs_istore_n {X : zCtx} {own : String} {cc : ByteArray} {nL pc nx : Nat} {i : Nat} {n : Fin 4} (hi : n.val = i) (hX : zXok X own cc nL) (hd : decode cc pc = .ok (.istore_n n, 1)) (hn : pc + 1 = nx) (hlt : i < nL) : zSo X pc (zo_istore i nx) := by
  intro K ls st h res he hk
  obtain ⟨⟨p, l, e, R, s, m, args, below, meth, c⟩, ⟨D, ad, cy, L, A, H0⟩, ⟨own9, cc9, nL9, Q, cf, sf⟩⟩ := X
  obtain ⟨hx, hb, hml, hown, hts, hK, hD, hcl, hcf, hsf, rfl, rfl, rfl, hR1, hR2, hc1, hc2⟩ := hX
  subst hn
  subst hi
  match st, he with
  | .inl x :: t, he =>
    intro ho hl H locs lsA hP hS hL
    refine lv_istore_n hx hb hd rfl hL.has hlt rfl (fun lsB hB => ?_)
    have hN := hk _ (zst ls n.val (.inl x)) t h he (zk1 ho) (fun j w hw => ?_) H locs lsB hP hS (hL.store hB)
    · rw [zcf_st hcf hlt, zcf_st hsf hlt] at hN; exact hN
    · rcases zg_zst hw with ⟨-, rfl⟩ | ⟨-, h2, -⟩
      · exact zk0 ho
      · exact hl _ _ h2
theorem zs_astore {X : zCtx} {own : String} {cc : ByteArray} {nL pc nx : Nat} {i : Nat} (hX : zXok X own cc nL) (hd : decode cc pc = .ok (.astore i, 2)) (hn : pc + 2 = nx) (hlt : i < nL) : zSo X pc (zo_astore i nx) := by
  intro K ls st h res he hk
  obtain ⟨⟨p, l, e, R, s, m, args, below, meth, c⟩, ⟨D, ad, cy, L, A, H0⟩, ⟨own9, cc9, nL9, Q, cf, sf⟩⟩ := X
  obtain ⟨hx, hb, hml, hown, hts, hK, hD, hcl, hcf, hsf, rfl, rfl, rfl, hR1, hR2, hc1, hc2⟩ := hX
  subst hn
  match st, he with
  | .inr (.inr x) :: t, he =>
    intro ho hl H locs lsA hP hS hL
    refine lv_astore hx hb hd hL.has hlt rfl (fun lsB hB => ?_)
    have hN := hk _ (zst ls i (.inr (.inr x))) t h he (zk1 ho) (fun j w hw => ?_) H locs lsB hP hS (hL.store hB)
    · rw [zcf_st hcf hlt, zcf_st hsf hlt] at hN; exact hN
    · rcases zg_zst hw with ⟨-, rfl⟩ | ⟨-, h2, -⟩
      · exact zk0 ho
      · exact hl _ _ h2
theorem zs_astore_n {X : zCtx} {own : String} {cc : ByteArray} {nL pc nx : Nat} {i : Nat} {n : Fin 4} (hi : n.val = i) (hX : zXok X own cc nL) (hd : decode cc pc = .ok (.astore_n n, 1)) (hn : pc + 1 = nx) (hlt : i < nL) : zSo X pc (zo_astore i nx) := by
  intro K ls st h res he hk
  obtain ⟨⟨p, l, e, R, s, m, args, below, meth, c⟩, ⟨D, ad, cy, L, A, H0⟩, ⟨own9, cc9, nL9, Q, cf, sf⟩⟩ := X
  obtain ⟨hx, hb, hml, hown, hts, hK, hD, hcl, hcf, hsf, rfl, rfl, rfl, hR1, hR2, hc1, hc2⟩ := hX
  subst hn
  subst hi
  match st, he with
  | .inr (.inr x) :: t, he =>
    intro ho hl H locs lsA hP hS hL
    refine lv_astore_n hx hb hd rfl hL.has hlt rfl (fun lsB hB => ?_)
    have hN := hk _ (zst ls n.val (.inr (.inr x))) t h he (zk1 ho) (fun j w hw => ?_) H locs lsB hP hS (hL.store hB)
    · rw [zcf_st hcf hlt, zcf_st hsf hlt] at hN; exact hN
    · rcases zg_zst hw with ⟨-, rfl⟩ | ⟨-, h2, -⟩
      · exact zk0 ho
      · exact hl _ _ h2
theorem zs_lstore {X : zCtx} {own : String} {cc : ByteArray} {nL pc nx : Nat} {i : Nat} (hX : zXok X own cc nL) (hd : decode cc pc = .ok (.lstore i, 2)) (hn : pc + 2 = nx) (hlt : i + 1 < nL) : zSo X pc (zo_lstore i nx) := by
  intro K ls st h res he hk
  obtain ⟨⟨p, l, e, R, s, m, args, below, meth, c⟩, ⟨D, ad, cy, L, A, H0⟩, ⟨own9, cc9, nL9, Q, cf, sf⟩⟩ := X
  obtain ⟨hx, hb, hml, hown, hts, hK, hD, hcl, hcf, hsf, rfl, rfl, rfl, hR1, hR2, hc1, hc2⟩ := hX
  subst hn
  match st, he with
  | .inr (.inl x) :: t, he =>
    intro ho hl H locs lsA hP hS hL
    refine lv_lstore hx hb hd hL.has hlt rfl (fun lsB hB => ?_)
    have hN := hk _ (zstJ ls i (.inr (.inl x))) t h he (zk1 ho) (fun j w hw => ?_) H locs lsB hP hS (hL.storeJ hB)
    · have e1 : cf (zstJ ls i (.inr (.inl x))) = cf ls := by unfold zstJ; rw [hcf _ _ _ hlt, hcf _ _ _ (by omega), zcf_dr hcf (by omega)]
      have e2 : sf (zstJ ls i (.inr (.inl x))) = sf ls := by unfold zstJ; rw [hsf _ _ _ hlt, hsf _ _ _ (by omega), zcf_dr hsf (by omega)]
      rw [e1, e2] at hN; exact hN
    · rcases zg_zstJ hw with ⟨-, rfl⟩ | ⟨-, -, h2, -⟩
      · exact zk0 ho
      · exact hl _ _ h2
theorem zs_lstore_n {X : zCtx} {own : String} {cc : ByteArray} {nL pc nx : Nat} {i : Nat} {n : Fin 4} (hi : n.val = i) (hX : zXok X own cc nL) (hd : decode cc pc = .ok (.lstore_n n, 1)) (hn : pc + 1 = nx) (hlt : i + 1 < nL) : zSo X pc (zo_lstore i nx) := by
  intro K ls st h res he hk
  obtain ⟨⟨p, l, e, R, s, m, args, below, meth, c⟩, ⟨D, ad, cy, L, A, H0⟩, ⟨own9, cc9, nL9, Q, cf, sf⟩⟩ := X
  obtain ⟨hx, hb, hml, hown, hts, hK, hD, hcl, hcf, hsf, rfl, rfl, rfl, hR1, hR2, hc1, hc2⟩ := hX
  subst hn
  subst hi
  match st, he with
  | .inr (.inl x) :: t, he =>
    intro ho hl H locs lsA hP hS hL
    refine lv_lstore_n hx hb hd rfl hL.has hlt rfl (fun lsB hB => ?_)
    have hN := hk _ (zstJ ls n.val (.inr (.inl x))) t h he (zk1 ho) (fun j w hw => ?_) H locs lsB hP hS (hL.storeJ hB)
    · have e1 : cf (zstJ ls n.val (.inr (.inl x))) = cf ls := by unfold zstJ; rw [hcf _ _ _ hlt, hcf _ _ _ (by omega), zcf_dr hcf (by omega)]
      have e2 : sf (zstJ ls n.val (.inr (.inl x))) = sf ls := by unfold zstJ; rw [hsf _ _ _ hlt, hsf _ _ _ (by omega), zcf_dr hsf (by omega)]
      rw [e1, e2] at hN; exact hN
    · rcases zg_zstJ hw with ⟨-, rfl⟩ | ⟨-, -, h2, -⟩
      · exact zk0 ho
      · exact hl _ _ h2
