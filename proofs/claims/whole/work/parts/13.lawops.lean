/-! The law's own ops: the script, the call that may make a cell, its end. -/
noncomputable def zo_sld (xs : Nat → Int32) (n nx : Nat) : zO := fun K ls st h => match st with
  | .inl i :: .inr (.inr (C, _)) :: t => Bool.rec (motive := fun _ => Option zRes) none (zf (vp_in i n) (K nx ls (.inl (xs i.toNatClampNeg) :: t) h) none) (Nat.beq C 80)
  | _ => none
noncomputable def zo_slen (n nx : Nat) : zO := fun K ls st h => match st with
  | .inr (.inr (C, _)) :: t => Bool.rec (motive := fun _ => Option zRes) none (K nx ls (.inl (Int32.ofNat n) :: t) h) (Nat.beq C 80)
  | _ => none
/-- the call of the law's rests, which may make a cell: counted in the place 7 -/
noncomputable def zo_callr (cs : zS) (nx : Nat) : zO := fun K ls st h => match zpop 6 [] st, zg ls 7 with
  | some (a, t), some (.inl b) => Bool.rec (motive := fun _ => Option zRes) none (zf (b < 600 ∧ ¬ b < 0) (zci (cs a h) (fun r h' => K nx (zs ls 7 (some (.inl (b + 1)))) (.inl r :: t) h')) none) (Nat.ble (zcat t) 8)
  | _, _ => none
def zXsc (X : zCtx) (xs : Nat → Int32) (n : Nat) : Prop := match X with
  | ((_, _, _, _, s, _, _, _, _, _), (_, ad, _, L, A, H0), _) => va_X (ad 80 0) n xs s H0 ∧ ad 80 0 < H0.size ∧ ¬ A (ad 80 0) ∧ ∀ j, (80, j) ∉ L
theorem zscr {L : List (Nat × Nat)} {j : Nat} (hn : ∀ j, (80, j) ∉ L) (h : zok L (.inr (.inr (80, j)))) : j = 0 := by
  rcases (show (80, j) ∈ L ∨ (80, j) = (80, 0) from h) with h | h
  · exact absurd h (hn j)
  · exact (Prod.mk.inj h).2
theorem zs_sld {X : zCtx} {own : String} {cc : ByteArray} {nL pc nx n : Nat} {xs : Nat → Int32} (hX : zXok X own cc nL) (hXs : zXsc X xs n) (hd : decode cc pc = .ok (.iaload, 1)) (hn : pc + 1 = nx) : zSo X pc (zo_sld xs n nx) := by
  intro K ls st h res he hk
  obtain ⟨⟨p, l, e, R, s, m, args, below, meth, c⟩, ⟨D, ad, cy, L, A, H0⟩, ⟨own9, cc9, nL9, Q, cf, sf⟩⟩ := X
  obtain ⟨hx, hb, hml, hown, hts, hK, hD, hcl, hcf, hsf, rfl, rfl, rfl, hR1, hR2, hc1, hc2⟩ := hX
  obtain ⟨x1, x2, x3, x4⟩ := hXs
  subst hn
  match st, he with
  | .inl i :: .inr (.inr (C, j)) :: t', he =>
    intro ho hl H locs lsA hP hS hL
    obtain ⟨hC, he2⟩ := zbeq (a := C) (b := 80) he
    obtain ⟨hi, he3⟩ := zfel he2
    subst hC
    have hj := zscr x4 (zk0 (zk1 ho))
    subst hj
    exact va_sld hx hb x1 x2 x3 hS hi hd (hk _ ls (.inl (xs i.toNatClampNeg) :: t') h he3 (zk2 trivial (zk1 (zk1 ho))) hl H locs lsA hP hS hL)
theorem zs_slen {X : zCtx} {own : String} {cc : ByteArray} {nL pc nx n : Nat} {xs : Nat → Int32} (hX : zXok X own cc nL) (hXs : zXsc X xs n) (hd : decode cc pc = .ok (.arraylength, 1)) (hn : pc + 1 = nx) : zSo X pc (zo_slen n nx) := by
  intro K ls st h res he hk
  obtain ⟨⟨p, l, e, R, s, m, args, below, meth, c⟩, ⟨D, ad, cy, L, A, H0⟩, ⟨own9, cc9, nL9, Q, cf, sf⟩⟩ := X
  obtain ⟨hx, hb, hml, hown, hts, hK, hD, hcl, hcf, hsf, rfl, rfl, rfl, hR1, hR2, hc1, hc2⟩ := hX
  obtain ⟨x1, x2, x3, x4⟩ := hXs
  subst hn
  match st, he with
  | .inr (.inr (C, j)) :: t', he =>
    intro ho hl H locs lsA hP hS hL
    obtain ⟨hC, he2⟩ := zbeq (a := C) (b := 80) he
    subst hC
    have hj := zscr x4 (zk0 ho)
    subst hj
    exact va_slen hx hb x1 x2 x3 hS hd (hk _ ls (.inl (Int32.ofNat n) :: t') h he2 (zk2 trivial (zk1 ho)) hl H locs lsA hP hS hL)
theorem zl_sld {xs : Nat → Int32} {n nx : Nat} : zTl (zo_sld xs n nx) := by
  intro K ls st h r he
  match st, he with
  | .inl i :: .inr (.inr (C, j)) :: t, he =>
    unfold zo_sld at he ⊢
    obtain ⟨e1, he⟩ := zbrec he
    obtain ⟨e2, he⟩ := zfel he
    exact Or.inl ⟨_, _, _, _, he, fun K' q => by dsimp only; rw [e1]; exact (zf_pos e2 _ _).trans q⟩
theorem zl_slen {n nx : Nat} : zTl (zo_slen n nx) := by
  intro K ls st h r he
  match st, he with
  | .inr (.inr (C, j)) :: t, he =>
    unfold zo_slen at he ⊢
    obtain ⟨e1, he⟩ := zbrec he
    exact Or.inl ⟨_, _, _, _, he, fun K' q => by dsimp only; rw [e1]; exact q⟩
theorem zl_callr {cs : zS} {nx : Nat} : zTl (zo_callr cs nx) := by
  intro K ls st h r he
  unfold zo_callr at he ⊢
  generalize zpop 6 [] st = o at he ⊢
  generalize zg ls 7 = o2 at he ⊢
  match o, o2, he with
  | some (a, t), some (.inl b), he =>
    obtain ⟨e1, he⟩ := zbrec he
    obtain ⟨e2, he⟩ := zfel he
    generalize hc : cs a h = rr at he
    match rr, he with
    | some (some (.inl x), h2), he => exact Or.inl ⟨_, _, _, _, he, fun K' q => by dsimp only; rw [e1, hc]; exact (zf_pos e2 _ _).trans q⟩
/-- how many cells the calls of rests may have made -/
def zcn (ls : zLo) : Nat := match zg ls 7 with
  | some (.inl b) => min b.toNatClampNeg 600
  | _ => 600
theorem zcn_set {ls : zLo} {i : Nat} {v : Option zV} (h : i < 7) : zcn (zs ls i v) = zcn ls := by
  unfold zcn
  rw [zg_ne (by omega)]
theorem zcn_le {ls : zLo} : zcn ls ≤ 600 := by
  unfold zcn
  split
  · exact Nat.min_le_right _ _
  · exact Nat.le_refl _
/-- the law's end -/
def zXq (X : zCtx) : Prop := match X with
  | ((_, _, _, R, s, _, args, below, meth, _), (_, _, _, _, A, H0), (_, _, _, Q, cf, sf)) => meth.sig.returnType = ret ∧ meth.locks = false ∧ (∃ b, args = #[Value.ref b]) ∧ (∀ res, Q res = fun t => res.1 = some (.inl 1) → lw_Z below args s t) ∧ R = room_1 ∧ (∀ q, A q → s.heap.size ≤ q) ∧ H0 = s.heap ∧ (∀ ls, cf ls ≤ 601024) ∧ (∀ ls, sf ls ≤ 7293034)
theorem zs_lawret {X : zCtx} {own : String} {nL pc : Nat} (hX : zXok X own code nL) (hQ : zXq X) (hd : decode code pc = .ok (.ireturn, 1)) : zSo X pc zo_iret := by
  intro K ls st h res he hk
  obtain ⟨⟨p, l, e, R, s, m, args, below, meth, c⟩, ⟨D, ad, cy, L, A, H0⟩, ⟨own9, cc9, nL9, Q, cf, sf⟩⟩ := X
  obtain ⟨hx, hb, hml, hown, hts, hK, hD, hcl, hcf, hsf, rfl, rfl, rfl, hR1, hR2, hc1, hc2⟩ := hX
  obtain ⟨hr, hlocks, ⟨b, rfl⟩, hQ, rfl, hA, rfl, hcf9, hsf9⟩ := hQ
  match st, he with
  | [.inl x], he =>
    intro ho hl H locs lsA hP hS hL
    have he := Option.some.inj he
    subst he
    rw [hQ]
    by_cases h1 : x = 1
    · subst h1
      refine va_forget (fun q hq => hA _ (hS.2.2 q hq)) ?_
      refine W.widen (hcf9 ls) (hsf9 ls) ?_
      intro T hT Y
      obtain ⟨t, a1, a2⟩ := lw_ret hx hb hr hlocks (ls := lsA) (H := H) hd T hT Y
      exact ⟨t, a1, fun _ => a2⟩
    · intro T hT Y
      exact ⟨_, Steps.refl _, fun q => absurd (Sum.inl.inj (Option.some.inj q)) h1⟩
theorem zXc_law {X : zCtx} {l : Launch} {D : va_G} {ad : Nat → Nat → Nat} {cy : Nat → ClassId} {L : List (Nat × Nat)} {d' : Nat} {cs : zS} {y : MethodName} {w0 : Cond} (hX : zXl X l D ad cy L room_1) (hd : d' < 1000) (hC : zCk l D ad cy L d' cs y w0) : zXc X d' cs y w0 := by
  obtain ⟨⟨p, l9, e, R, s, m, args, below, meth, c⟩, ⟨D9, ad9, cy9, L9, A, H0⟩, ⟨own9, cc9, nL9, Q, cf, sf⟩⟩ := X
  obtain ⟨rfl, rfl, rfl, rfl, rfl, rfl⟩ := hX
  exact ⟨hC, by simp only [zroom, room_1]; omega, by simp only [zroom, room_1]; omega⟩
