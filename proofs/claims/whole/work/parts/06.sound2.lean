/-! rows: ints (1), longs (2), bytes (3), booleans (4), cells (5, 6) -/
noncomputable def zo_iald (nx : Nat) : zO := fun K ls st h => match st with
  | .inl i :: .inr (.inr (C, j)) :: t => Bool.rec (motive := fun _ => Option zRes) none (zf (vp_in i (zlen C)) (K nx ls (.inl (h.1 C j i.toNatClampNeg) :: t) h) none) (Nat.beq (zty C) 1)
  | _ => none
noncomputable def zo_lald (nx : Nat) : zO := fun K ls st h => match st with
  | .inl i :: .inr (.inr (C, j)) :: t => Bool.rec (motive := fun _ => Option zRes) none (zf (vp_in i (zlen C)) (K nx ls (.inr (.inl (h.2 C j i.toNatClampNeg)) :: t) h) none) (Nat.beq (zty C) 2)
  | _ => none
noncomputable def zo_bald (nx : Nat) : zO := fun K ls st h => match st with
  | .inl i :: .inr (.inr (C, j)) :: t => Bool.rec (motive := fun _ => Option zRes) none (zf (vp_in i (zlen C)) (K nx ls (.inl (h.1 C j i.toNatClampNeg) :: t) h) none) (Nat.beq (zty C) 3)
  | _ => none
noncomputable def zo_zald (nx : Nat) : zO := fun K ls st h => match st with
  | .inl i :: .inr (.inr (C, j)) :: t => Bool.rec (motive := fun _ => Option zRes) none (zf (vp_in i (zlen C)) (K nx ls (.inl (h.1 C j i.toNatClampNeg) :: t) h) none) (Nat.beq (zty C) 4)
  | _ => none
noncomputable def zo_aald5 (nx : Nat) : zO := fun K ls st h => match st with
  | .inl i :: .inr (.inr (C, j)) :: t => Bool.rec (motive := fun _ => Option zRes) none (zf (vp_in i (zlen C)) (K nx ls (.inr (.inr (4, 1 + i.toNatClampNeg)) :: t) h) none) (Nat.beq (zty C) 5)
  | _ => none
noncomputable def zo_aald6 (nx : Nat) : zO := fun K ls st h => match st with
  | .inl i :: .inr (.inr (C, j)) :: t => Bool.rec (motive := fun _ => Option zRes) none (zf (vp_in i (zlen C)) (K nx ls (.inr (.inr (8, 5 + i.toNatClampNeg)) :: t) h) none) (Nat.beq (zty C) 6)
  | _ => none
noncomputable def zo_iast (nx : Nat) : zO := fun K ls st h => match st with
  | .inl x :: .inl i :: .inr (.inr (C, j)) :: t => Bool.rec (motive := fun _ => Option zRes) none (zf (vp_in i (zlen C)) (K nx ls t (zuI h C j i.toNatClampNeg x)) none) (Nat.beq (zty C) 1)
  | _ => none
noncomputable def zo_last (nx : Nat) : zO := fun K ls st h => match st with
  | .inr (.inl x) :: .inl i :: .inr (.inr (C, j)) :: t => Bool.rec (motive := fun _ => Option zRes) none (zf (vp_in i (zlen C)) (K nx ls t (zuJ h C j i.toNatClampNeg x)) none) (Nat.beq (zty C) 2)
  | _ => none
noncomputable def zo_bast (nx : Nat) : zO := fun K ls st h => match st with
  | .inl x :: .inl i :: .inr (.inr (C, j)) :: t => Bool.rec (motive := fun _ => Option zRes) none (zf (vp_in i (zlen C)) (K nx ls t (zuI h C j i.toNatClampNeg (vp_nar .byte x))) none) (Nat.beq (zty C) 3)
  | _ => none
noncomputable def zo_zast (nx : Nat) : zO := fun K ls st h => match st with
  | .inl x :: .inl i :: .inr (.inr (C, j)) :: t => Bool.rec (motive := fun _ => Option zRes) none (zf (vp_in i (zlen C)) (K nx ls t (zuI h C j i.toNatClampNeg (vp_nar .boolean x))) none) (Nat.beq (zty C) 4)
  | _ => none
noncomputable def zo_ialdc (nx : Nat) : zO := fun K ls st h => match st with
  | .inl i :: .inr (.inr (C, j)) :: t => Bool.rec (motive := fun _ => Option zRes) none (Bool.rec (motive := fun _ => Option zRes) none (K nx ls (.inl (h.1 C j i.toNatClampNeg) :: t) h) (zin i (zlen C))) (Nat.beq (zty C) 1)
  | _ => none
noncomputable def zo_laldc (nx : Nat) : zO := fun K ls st h => match st with
  | .inl i :: .inr (.inr (C, j)) :: t => Bool.rec (motive := fun _ => Option zRes) none (Bool.rec (motive := fun _ => Option zRes) none (K nx ls (.inr (.inl (h.2 C j i.toNatClampNeg)) :: t) h) (zin i (zlen C))) (Nat.beq (zty C) 2)
  | _ => none
noncomputable def zo_baldc (nx : Nat) : zO := fun K ls st h => match st with
  | .inl i :: .inr (.inr (C, j)) :: t => Bool.rec (motive := fun _ => Option zRes) none (Bool.rec (motive := fun _ => Option zRes) none (K nx ls (.inl (h.1 C j i.toNatClampNeg) :: t) h) (zin i (zlen C))) (Nat.beq (zty C) 3)
  | _ => none
noncomputable def zo_zaldc (nx : Nat) : zO := fun K ls st h => match st with
  | .inl i :: .inr (.inr (C, j)) :: t => Bool.rec (motive := fun _ => Option zRes) none (Bool.rec (motive := fun _ => Option zRes) none (K nx ls (.inl (h.1 C j i.toNatClampNeg) :: t) h) (zin i (zlen C))) (Nat.beq (zty C) 4)
  | _ => none
noncomputable def zo_aald5c (nx : Nat) : zO := fun K ls st h => match st with
  | .inl i :: .inr (.inr (C, j)) :: t => Bool.rec (motive := fun _ => Option zRes) none (Bool.rec (motive := fun _ => Option zRes) none (K nx ls (.inr (.inr (4, 1 + i.toNatClampNeg)) :: t) h) (zin i (zlen C))) (Nat.beq (zty C) 5)
  | _ => none
noncomputable def zo_aald6c (nx : Nat) : zO := fun K ls st h => match st with
  | .inl i :: .inr (.inr (C, j)) :: t => Bool.rec (motive := fun _ => Option zRes) none (Bool.rec (motive := fun _ => Option zRes) none (K nx ls (.inr (.inr (8, 5 + i.toNatClampNeg)) :: t) h) (zin i (zlen C))) (Nat.beq (zty C) 6)
  | _ => none
noncomputable def zo_iastc (nx : Nat) : zO := fun K ls st h => match st with
  | .inl x :: .inl i :: .inr (.inr (C, j)) :: t => Bool.rec (motive := fun _ => Option zRes) none (Bool.rec (motive := fun _ => Option zRes) none (K nx ls t (zuI h C j i.toNatClampNeg x)) (zin i (zlen C))) (Nat.beq (zty C) 1)
  | _ => none
noncomputable def zo_lastc (nx : Nat) : zO := fun K ls st h => match st with
  | .inr (.inl x) :: .inl i :: .inr (.inr (C, j)) :: t => Bool.rec (motive := fun _ => Option zRes) none (Bool.rec (motive := fun _ => Option zRes) none (K nx ls t (zuJ h C j i.toNatClampNeg x)) (zin i (zlen C))) (Nat.beq (zty C) 2)
  | _ => none
noncomputable def zo_bastc (nx : Nat) : zO := fun K ls st h => match st with
  | .inl x :: .inl i :: .inr (.inr (C, j)) :: t => Bool.rec (motive := fun _ => Option zRes) none (Bool.rec (motive := fun _ => Option zRes) none (K nx ls t (zuI h C j i.toNatClampNeg (vp_nar .byte x))) (zin i (zlen C))) (Nat.beq (zty C) 3)
  | _ => none
noncomputable def zo_zastc (nx : Nat) : zO := fun K ls st h => match st with
  | .inl x :: .inl i :: .inr (.inr (C, j)) :: t => Bool.rec (motive := fun _ => Option zRes) none (Bool.rec (motive := fun _ => Option zRes) none (K nx ls t (zuI h C j i.toNatClampNeg (vp_nar .boolean x))) (zin i (zlen C))) (Nat.beq (zty C) 4)
  | _ => none
/-- System.arraycopy of the first n, a row of ints (longs) into another -/
noncomputable def zo_cpyI (nx : Nat) : zO := fun K ls st h => match st with
  | .inl n :: .inl dp :: .inr (.inr (C1, j1)) :: .inl sp :: .inr (.inr (C, j)) :: t =>
    Bool.rec (motive := fun _ => Option zRes) none (K nx ls t (zcI h C j C1 j1 n.toNatClampNeg)) (Nat.beq (zty C) 1 && Nat.beq (zty C1) 1 && decide (sp = 0) && decide (dp = 0) && !decide (n < 0) && Nat.ble n.toNatClampNeg (zlen C) && Nat.ble n.toNatClampNeg (zlen C1) && Nat.ble (zcat t) 8)
  | _ => none
noncomputable def zo_cpyJ (nx : Nat) : zO := fun K ls st h => match st with
  | .inl n :: .inl dp :: .inr (.inr (C1, j1)) :: .inl sp :: .inr (.inr (C, j)) :: t =>
    Bool.rec (motive := fun _ => Option zRes) none (K nx ls t (zcJ h C j C1 j1 n.toNatClampNeg)) (Nat.beq (zty C) 2 && Nat.beq (zty C1) 2 && decide (sp = 0) && decide (dp = 0) && !decide (n < 0) && Nat.ble n.toNatClampNeg (zlen C) && Nat.ble n.toNatClampNeg (zlen C1) && Nat.ble (zcat t) 8)
  | _ => none
/-! that they tell it -/
theorem zs_kill {X : zCtx} {own : String} {cc : ByteArray} {nL pc : Nat} {ks : List Nat} {op : zO} (hX : zXok X own cc nL) (hks : ks.all (fun k => Nat.blt k nL) = true) (hs : zSo X pc op) : zSo X pc (zo_kill ks op) := by
  intro K ls st h res he hk
  have h1 := hs K (zkill ks ls) st h res he hk
  obtain ⟨⟨p, l, e, R, s, m, args, below, meth, c⟩, ⟨D, ad, cy, L, A, H0⟩, ⟨own9, cc9, nL9, Q, cf, sf⟩⟩ := X
  obtain ⟨hx, hb, hml, hown, hts, hK, hD, hcl, hcf, hsf, rfl, rfl, rfl, hR1, hR2, hc1, hc2⟩ := hX
  intro ho hl H locs lsA hP hS hL
  have h2 := h1 ho (fun i v hv => hl i v (zg_zkill hv)) H locs lsA hP hS ⟨hL.1, hL.2.1, fun i v hi hv => hL.2.2 i v hi (zg_zkill hv)⟩
  have ec : ∀ (f : zLo → Nat), (∀ (ls : zLo) (i : Nat) (v : Option zV), i < nL9 → f (zs ls i v) = f ls) → ∀ (ks : List Nat) (ls : zLo), ks.all (fun k => Nat.blt k nL9) = true → f (zkill ks ls) = f ls := by
    intro f hf ks
    induction ks with
    | nil => intro ls _; rfl
    | cons k t ih =>
      intro ls hq
      simp only [List.all_cons, Bool.and_eq_true] at hq
      exact (ih (zs ls k none) hq.2).trans (hf _ _ _ (Nat.ble_eq.mp hq.1))
  rw [ec cf hcf ks ls hks, ec sf hsf ks ls hks] at h2
  exact h2
theorem zs_iinc {X : zCtx} {own : String} {cc : ByteArray} {nL pc nx i : Nat} {n : Int} {d : Int32} (hX : zXok X own cc nL) (hd : decode cc pc = .ok (.iinc i n, 3)) (hv : Int32.ofInt n = d) (hn : pc + 3 = nx) (hlt : i < nL) : zSo X pc (zo_iinc i d nx) := by
  intro K ls st h res he hk
  obtain ⟨⟨p, l, e, R, s, m, args, below, meth, c⟩, ⟨D, ad, cy, L, A, H0⟩, ⟨own9, cc9, nL9, Q, cf, sf⟩⟩ := X
  obtain ⟨hx, hb, hml, hown, hts, hK, hD, hcl, hcf, hsf, rfl, rfl, rfl, hR1, hR2, hc1, hc2⟩ := hX
  subst hn
  intro ho hl H locs lsA hP hS hL
  unfold zo_iinc at he
  split at he
  · rename_i x hg
    obtain ⟨q, hq⟩ := List.getElem?_of_mem (zlv_mem (ad := ad) (nL := nL9) (ls := ls) (q := (i, .int x)) |>.mpr ⟨_, hlt, hg, rfl⟩)
    refine lv_iinc (v := x + d) hx hb hd hL.has hq (by rw [hv]) hlt rfl (fun lsB hB => ?_)
    have hN := hk _ (zst ls i (.inl (x + d))) st h he ho (fun j w hw => ?_) H locs lsB hP hS (hL.store hB)
    · rw [zcf_st hcf hlt, zcf_st hsf hlt] at hN; exact hN
    · rcases zg_zst hw with ⟨-, rfl⟩ | ⟨-, h2, -⟩
      · trivial
      · exact hl _ _ h2
  · cases he
theorem zs_dup {X : zCtx} {own : String} {cc : ByteArray} {nL pc nx : Nat} (hX : zXok X own cc nL) (hd : decode cc pc = .ok (.dup, 1)) (hn : pc + 1 = nx) : zSo X pc (zo_dup nx) := by
  intro K ls st h res he hk
  obtain ⟨⟨p, l, e, R, s, m, args, below, meth, c⟩, ⟨D, ad, cy, L, A, H0⟩, ⟨own9, cc9, nL9, Q, cf, sf⟩⟩ := X
  obtain ⟨hx, hb, hml, hown, hts, hK, hD, hcl, hcf, hsf, rfl, rfl, rfl, hR1, hR2, hc1, hc2⟩ := hX
  subst hn
  match st, he with
  | .inl x :: t, he =>
    intro ho hl H locs lsA hP hS hL
    exact lv_dup hx hb hd rfl (hk _ ls (.inl x :: .inl x :: t) h he (zk2 trivial ho) hl H locs lsA hP hS hL)
  | .inr (.inr x) :: t, he =>
    intro ho hl H locs lsA hP hS hL
    exact lv_dup hx hb hd rfl (hk _ ls (.inr (.inr x) :: .inr (.inr x) :: t) h he (zk2 (zk0 ho) ho) hl H locs lsA hP hS hL)
theorem zs_dup2 {X : zCtx} {own : String} {cc : ByteArray} {nL pc nx : Nat} (hX : zXok X own cc nL) (hd : decode cc pc = .ok (.dup2, 1)) (hn : pc + 1 = nx) : zSo X pc (zo_dup2 nx) := by
  intro K ls st h res he hk
  obtain ⟨⟨p, l, e, R, s, m, args, below, meth, c⟩, ⟨D, ad, cy, L, A, H0⟩, ⟨own9, cc9, nL9, Q, cf, sf⟩⟩ := X
  obtain ⟨hx, hb, hml, hown, hts, hK, hD, hcl, hcf, hsf, rfl, rfl, rfl, hR1, hR2, hc1, hc2⟩ := hX
  subst hn
  match st, he with
  | .inl y :: .inr (.inr x) :: t, he =>
    intro ho hl H locs lsA hP hS hL
    exact lv_dup2_11 hx hb hd rfl rfl (hk _ ls (.inl y :: .inr (.inr x) :: .inl y :: .inr (.inr x) :: t) h he (zk2 trivial (zk2 (zk0 (zk1 ho)) ho)) hl H locs lsA hP hS hL)
theorem zs_goto {X : zCtx} {own : String} {cc : ByteArray} {nL pc tg : Nat} {off : Int} (hX : zXok X own cc nL) (hd : decode cc pc = .ok (.goto off, 3)) (ht : (pc : Int) + off = (tg : Int)) : zSo X pc (zo_goto tg) := by
  intro K ls st h res he hk
  obtain ⟨⟨p, l, e, R, s, m, args, below, meth, c⟩, ⟨D, ad, cy, L, A, H0⟩, ⟨own9, cc9, nL9, Q, cf, sf⟩⟩ := X
  obtain ⟨hx, hb, hml, hown, hts, hK, hD, hcl, hcf, hsf, rfl, rfl, rfl, hR1, hR2, hc1, hc2⟩ := hX
  intro ho hl H locs lsA hP hS hL
  exact lv_goto hx hb hd ht (hk _ ls st h he ho hl H locs lsA hP hS hL)
theorem zs_clt {X : zCtx} {own : String} {cc : ByteArray} {nL pc nx tg : Nat} {off : Int} (hX : zXok X own cc nL) (hd : decode cc pc = .ok (.if_icmp .lt off, 3)) (ht : (pc : Int) + off = (tg : Int)) (hn : pc + 3 = nx) : zSo X pc (zo_clt tg nx) := by
  intro K ls st h res he hk
  obtain ⟨⟨p, l, e, R, s, m, args, below, meth, c⟩, ⟨D, ad, cy, L, A, H0⟩, ⟨own9, cc9, nL9, Q, cf, sf⟩⟩ := X
  obtain ⟨hx, hb, hml, hown, hts, hK, hD, hcl, hcf, hsf, rfl, rfl, rfl, hR1, hR2, hc1, hc2⟩ := hX
  subst hn
  match st, he with
  | .inl y :: .inl x :: t, he =>
    intro ho hl H locs lsA hP hS hL
    have he : zf (x < y) (K tg ls t h) (K (pc + 3) ls t h) = some res := he
    exact lv_icmp_lt hx hb hd ht (fun q => hk tg ls t h (by rw [zf_pos (q)] at he; exact he) (zk1 (zk1 ho)) hl H locs lsA hP hS hL) (fun q => hk (pc + 3) ls t h (by rw [zf_neg (q)] at he; exact he) (zk1 (zk1 ho)) hl H locs lsA hP hS hL)
theorem zs_cgt {X : zCtx} {own : String} {cc : ByteArray} {nL pc nx tg : Nat} {off : Int} (hX : zXok X own cc nL) (hd : decode cc pc = .ok (.if_icmp .gt off, 3)) (ht : (pc : Int) + off = (tg : Int)) (hn : pc + 3 = nx) : zSo X pc (zo_cgt tg nx) := by
  intro K ls st h res he hk
  obtain ⟨⟨p, l, e, R, s, m, args, below, meth, c⟩, ⟨D, ad, cy, L, A, H0⟩, ⟨own9, cc9, nL9, Q, cf, sf⟩⟩ := X
  obtain ⟨hx, hb, hml, hown, hts, hK, hD, hcl, hcf, hsf, rfl, rfl, rfl, hR1, hR2, hc1, hc2⟩ := hX
  subst hn
  match st, he with
  | .inl y :: .inl x :: t, he =>
    intro ho hl H locs lsA hP hS hL
    have he : zf (y < x) (K tg ls t h) (K (pc + 3) ls t h) = some res := he
    exact lv_icmp_gt hx hb hd ht (fun q => hk tg ls t h (by rw [zf_pos (q)] at he; exact he) (zk1 (zk1 ho)) hl H locs lsA hP hS hL) (fun q => hk (pc + 3) ls t h (by rw [zf_neg (q)] at he; exact he) (zk1 (zk1 ho)) hl H locs lsA hP hS hL)
theorem zs_ceq {X : zCtx} {own : String} {cc : ByteArray} {nL pc nx tg : Nat} {off : Int} (hX : zXok X own cc nL) (hd : decode cc pc = .ok (.if_icmp .eq off, 3)) (ht : (pc : Int) + off = (tg : Int)) (hn : pc + 3 = nx) : zSo X pc (zo_ceq tg nx) := by
  intro K ls st h res he hk
  obtain ⟨⟨p, l, e, R, s, m, args, below, meth, c⟩, ⟨D, ad, cy, L, A, H0⟩, ⟨own9, cc9, nL9, Q, cf, sf⟩⟩ := X
  obtain ⟨hx, hb, hml, hown, hts, hK, hD, hcl, hcf, hsf, rfl, rfl, rfl, hR1, hR2, hc1, hc2⟩ := hX
  subst hn
  match st, he with
  | .inl y :: .inl x :: t, he =>
    intro ho hl H locs lsA hP hS hL
    have he : zf (x = y) (K tg ls t h) (K (pc + 3) ls t h) = some res := he
    exact lv_icmp_eq hx hb hd ht (fun q => hk tg ls t h (by rw [zf_pos (q)] at he; exact he) (zk1 (zk1 ho)) hl H locs lsA hP hS hL) (fun q => hk (pc + 3) ls t h (by rw [zf_neg (q)] at he; exact he) (zk1 (zk1 ho)) hl H locs lsA hP hS hL)
theorem zs_cne {X : zCtx} {own : String} {cc : ByteArray} {nL pc nx tg : Nat} {off : Int} (hX : zXok X own cc nL) (hd : decode cc pc = .ok (.if_icmp .ne off, 3)) (ht : (pc : Int) + off = (tg : Int)) (hn : pc + 3 = nx) : zSo X pc (zo_cne tg nx) := by
  intro K ls st h res he hk
  obtain ⟨⟨p, l, e, R, s, m, args, below, meth, c⟩, ⟨D, ad, cy, L, A, H0⟩, ⟨own9, cc9, nL9, Q, cf, sf⟩⟩ := X
  obtain ⟨hx, hb, hml, hown, hts, hK, hD, hcl, hcf, hsf, rfl, rfl, rfl, hR1, hR2, hc1, hc2⟩ := hX
  subst hn
  match st, he with
  | .inl y :: .inl x :: t, he =>
    intro ho hl H locs lsA hP hS hL
    have he : zf (x = y) (K (pc + 3) ls t h) (K tg ls t h) = some res := he
    exact lv_icmp_ne hx hb hd ht (fun q => hk tg ls t h (by rw [zf_neg (q)] at he; exact he) (zk1 (zk1 ho)) hl H locs lsA hP hS hL) (fun q => hk (pc + 3) ls t h (by rw [zf_pos (q)] at he; exact he) (zk1 (zk1 ho)) hl H locs lsA hP hS hL)
theorem zs_cge {X : zCtx} {own : String} {cc : ByteArray} {nL pc nx tg : Nat} {off : Int} (hX : zXok X own cc nL) (hd : decode cc pc = .ok (.if_icmp .ge off, 3)) (ht : (pc : Int) + off = (tg : Int)) (hn : pc + 3 = nx) : zSo X pc (zo_cge tg nx) := by
  intro K ls st h res he hk
  obtain ⟨⟨p, l, e, R, s, m, args, below, meth, c⟩, ⟨D, ad, cy, L, A, H0⟩, ⟨own9, cc9, nL9, Q, cf, sf⟩⟩ := X
  obtain ⟨hx, hb, hml, hown, hts, hK, hD, hcl, hcf, hsf, rfl, rfl, rfl, hR1, hR2, hc1, hc2⟩ := hX
  subst hn
  match st, he with
  | .inl y :: .inl x :: t, he =>
    intro ho hl H locs lsA hP hS hL
    have he : zf (x < y) (K (pc + 3) ls t h) (K tg ls t h) = some res := he
    exact lv_icmp_ge hx hb hd ht (fun q => hk tg ls t h (by rw [zf_neg (Int32.not_lt.mpr q)] at he; exact he) (zk1 (zk1 ho)) hl H locs lsA hP hS hL) (fun q => hk (pc + 3) ls t h (by rw [zf_pos (Int32.not_le.mp q)] at he; exact he) (zk1 (zk1 ho)) hl H locs lsA hP hS hL)
theorem zs_cle {X : zCtx} {own : String} {cc : ByteArray} {nL pc nx tg : Nat} {off : Int} (hX : zXok X own cc nL) (hd : decode cc pc = .ok (.if_icmp .le off, 3)) (ht : (pc : Int) + off = (tg : Int)) (hn : pc + 3 = nx) : zSo X pc (zo_cle tg nx) := by
  intro K ls st h res he hk
  obtain ⟨⟨p, l, e, R, s, m, args, below, meth, c⟩, ⟨D, ad, cy, L, A, H0⟩, ⟨own9, cc9, nL9, Q, cf, sf⟩⟩ := X
  obtain ⟨hx, hb, hml, hown, hts, hK, hD, hcl, hcf, hsf, rfl, rfl, rfl, hR1, hR2, hc1, hc2⟩ := hX
  subst hn
  match st, he with
  | .inl y :: .inl x :: t, he =>
    intro ho hl H locs lsA hP hS hL
    have he : zf (y < x) (K (pc + 3) ls t h) (K tg ls t h) = some res := he
    exact lv_icmp_le hx hb hd ht (fun q => hk tg ls t h (by rw [zf_neg (Int32.not_lt.mpr q)] at he; exact he) (zk1 (zk1 ho)) hl H locs lsA hP hS hL) (fun q => hk (pc + 3) ls t h (by rw [zf_pos (Int32.not_le.mp q)] at he; exact he) (zk1 (zk1 ho)) hl H locs lsA hP hS hL)
theorem zs_0lt {X : zCtx} {own : String} {cc : ByteArray} {nL pc nx tg : Nat} {off : Int} (hX : zXok X own cc nL) (hd : decode cc pc = .ok (.ifCond .lt off, 3)) (ht : (pc : Int) + off = (tg : Int)) (hn : pc + 3 = nx) : zSo X pc (zo_0lt tg nx) := by
  intro K ls st h res he hk
  obtain ⟨⟨p, l, e, R, s, m, args, below, meth, c⟩, ⟨D, ad, cy, L, A, H0⟩, ⟨own9, cc9, nL9, Q, cf, sf⟩⟩ := X
  obtain ⟨hx, hb, hml, hown, hts, hK, hD, hcl, hcf, hsf, rfl, rfl, rfl, hR1, hR2, hc1, hc2⟩ := hX
  subst hn
  match st, he with
  | .inl x :: t, he =>
    intro ho hl H locs lsA hP hS hL
    have he : zf (x < 0) (K tg ls t h) (K (pc + 3) ls t h) = some res := he
    exact lv_if_lt hx hb hd ht (fun q => hk tg ls t h (by rw [zf_pos (q)] at he; exact he) (zk1 ho) hl H locs lsA hP hS hL) (fun q => hk (pc + 3) ls t h (by rw [zf_neg (q)] at he; exact he) (zk1 ho) hl H locs lsA hP hS hL)
theorem zs_0gt {X : zCtx} {own : String} {cc : ByteArray} {nL pc nx tg : Nat} {off : Int} (hX : zXok X own cc nL) (hd : decode cc pc = .ok (.ifCond .gt off, 3)) (ht : (pc : Int) + off = (tg : Int)) (hn : pc + 3 = nx) : zSo X pc (zo_0gt tg nx) := by
  intro K ls st h res he hk
  obtain ⟨⟨p, l, e, R, s, m, args, below, meth, c⟩, ⟨D, ad, cy, L, A, H0⟩, ⟨own9, cc9, nL9, Q, cf, sf⟩⟩ := X
  obtain ⟨hx, hb, hml, hown, hts, hK, hD, hcl, hcf, hsf, rfl, rfl, rfl, hR1, hR2, hc1, hc2⟩ := hX
  subst hn
  match st, he with
  | .inl x :: t, he =>
    intro ho hl H locs lsA hP hS hL
    have he : zf (0 < x) (K tg ls t h) (K (pc + 3) ls t h) = some res := he
    exact lv_if_gt hx hb hd ht (fun q => hk tg ls t h (by rw [zf_pos (q)] at he; exact he) (zk1 ho) hl H locs lsA hP hS hL) (fun q => hk (pc + 3) ls t h (by rw [zf_neg (q)] at he; exact he) (zk1 ho) hl H locs lsA hP hS hL)
theorem zs_0eq {X : zCtx} {own : String} {cc : ByteArray} {nL pc nx tg : Nat} {off : Int} (hX : zXok X own cc nL) (hd : decode cc pc = .ok (.ifCond .eq off, 3)) (ht : (pc : Int) + off = (tg : Int)) (hn : pc + 3 = nx) : zSo X pc (zo_0eq tg nx) := by
  intro K ls st h res he hk
  obtain ⟨⟨p, l, e, R, s, m, args, below, meth, c⟩, ⟨D, ad, cy, L, A, H0⟩, ⟨own9, cc9, nL9, Q, cf, sf⟩⟩ := X
  obtain ⟨hx, hb, hml, hown, hts, hK, hD, hcl, hcf, hsf, rfl, rfl, rfl, hR1, hR2, hc1, hc2⟩ := hX
  subst hn
  match st, he with
  | .inl x :: t, he =>
    intro ho hl H locs lsA hP hS hL
    have he : zf (x = 0) (K tg ls t h) (K (pc + 3) ls t h) = some res := he
    exact lv_if_eq hx hb hd ht (fun q => hk tg ls t h (by rw [zf_pos (q)] at he; exact he) (zk1 ho) hl H locs lsA hP hS hL) (fun q => hk (pc + 3) ls t h (by rw [zf_neg (q)] at he; exact he) (zk1 ho) hl H locs lsA hP hS hL)
theorem zs_0ne {X : zCtx} {own : String} {cc : ByteArray} {nL pc nx tg : Nat} {off : Int} (hX : zXok X own cc nL) (hd : decode cc pc = .ok (.ifCond .ne off, 3)) (ht : (pc : Int) + off = (tg : Int)) (hn : pc + 3 = nx) : zSo X pc (zo_0ne tg nx) := by
  intro K ls st h res he hk
  obtain ⟨⟨p, l, e, R, s, m, args, below, meth, c⟩, ⟨D, ad, cy, L, A, H0⟩, ⟨own9, cc9, nL9, Q, cf, sf⟩⟩ := X
  obtain ⟨hx, hb, hml, hown, hts, hK, hD, hcl, hcf, hsf, rfl, rfl, rfl, hR1, hR2, hc1, hc2⟩ := hX
  subst hn
  match st, he with
  | .inl x :: t, he =>
    intro ho hl H locs lsA hP hS hL
    have he : zf (x = 0) (K (pc + 3) ls t h) (K tg ls t h) = some res := he
    exact lv_if_ne hx hb hd ht (fun q => hk tg ls t h (by rw [zf_neg (q)] at he; exact he) (zk1 ho) hl H locs lsA hP hS hL) (fun q => hk (pc + 3) ls t h (by rw [zf_pos (q)] at he; exact he) (zk1 ho) hl H locs lsA hP hS hL)
theorem zs_0ge {X : zCtx} {own : String} {cc : ByteArray} {nL pc nx tg : Nat} {off : Int} (hX : zXok X own cc nL) (hd : decode cc pc = .ok (.ifCond .ge off, 3)) (ht : (pc : Int) + off = (tg : Int)) (hn : pc + 3 = nx) : zSo X pc (zo_0ge tg nx) := by
  intro K ls st h res he hk
  obtain ⟨⟨p, l, e, R, s, m, args, below, meth, c⟩, ⟨D, ad, cy, L, A, H0⟩, ⟨own9, cc9, nL9, Q, cf, sf⟩⟩ := X
  obtain ⟨hx, hb, hml, hown, hts, hK, hD, hcl, hcf, hsf, rfl, rfl, rfl, hR1, hR2, hc1, hc2⟩ := hX
  subst hn
  match st, he with
  | .inl x :: t, he =>
    intro ho hl H locs lsA hP hS hL
    have he : zf (x < 0) (K (pc + 3) ls t h) (K tg ls t h) = some res := he
    exact lv_if_ge hx hb hd ht (fun q => hk tg ls t h (by rw [zf_neg (Int32.not_lt.mpr q)] at he; exact he) (zk1 ho) hl H locs lsA hP hS hL) (fun q => hk (pc + 3) ls t h (by rw [zf_pos (Int32.not_le.mp q)] at he; exact he) (zk1 ho) hl H locs lsA hP hS hL)
theorem zs_0le {X : zCtx} {own : String} {cc : ByteArray} {nL pc nx tg : Nat} {off : Int} (hX : zXok X own cc nL) (hd : decode cc pc = .ok (.ifCond .le off, 3)) (ht : (pc : Int) + off = (tg : Int)) (hn : pc + 3 = nx) : zSo X pc (zo_0le tg nx) := by
  intro K ls st h res he hk
  obtain ⟨⟨p, l, e, R, s, m, args, below, meth, c⟩, ⟨D, ad, cy, L, A, H0⟩, ⟨own9, cc9, nL9, Q, cf, sf⟩⟩ := X
  obtain ⟨hx, hb, hml, hown, hts, hK, hD, hcl, hcf, hsf, rfl, rfl, rfl, hR1, hR2, hc1, hc2⟩ := hX
  subst hn
  match st, he with
  | .inl x :: t, he =>
    intro ho hl H locs lsA hP hS hL
    have he : zf (0 < x) (K (pc + 3) ls t h) (K tg ls t h) = some res := he
    exact lv_if_le hx hb hd ht (fun q => hk tg ls t h (by rw [zf_neg (Int32.not_lt.mpr q)] at he; exact he) (zk1 ho) hl H locs lsA hP hS hL) (fun q => hk (pc + 3) ls t h (by rw [zf_pos (Int32.not_le.mp q)] at he; exact he) (zk1 ho) hl H locs lsA hP hS hL)
