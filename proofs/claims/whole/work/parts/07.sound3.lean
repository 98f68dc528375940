theorem zsw_cases {K : Nat → Option zRes} {x : Int32} {d : Nat} {r : zRes} : ∀ (ts : List (Int32 × Nat)), zsw K x d ts = some r → (∃ (i : Nat) (q : Int32 × Nat), ts[i]? = some q ∧ x = q.1 ∧ K q.2 = some r) ∨ ((∀ q ∈ ts, x ≠ q.1) ∧ K d = some r) := by
  intro ts
  induction ts with
  | nil => intro h; exact Or.inr ⟨fun q hq => absurd hq List.not_mem_nil, h⟩
  | cons t rs ih =>
    intro h
    have h : zf (x = t.1) (K t.2) (zsw K x d rs) = some r := h
    by_cases e : x = t.1
    · rw [zf_pos e] at h
      exact Or.inl ⟨0, t, rfl, e, h⟩
    · rw [zf_neg e] at h
      rcases ih h with ⟨i, q, h1, h2, h3⟩ | ⟨h1, h2⟩
      · exact Or.inl ⟨i + 1, q, h1, h2, h3⟩
      · refine Or.inr ⟨fun q hq => ?_, h2⟩
        rcases List.mem_cons.mp hq with rfl | hq
        · exact e
        · exact h1 q hq
theorem zs_tsw {X : zCtx} {own : String} {cc : ByteArray} {nL pc d len : Nat} {dflt lo hi : Int} {offs : Array Int} {ts : List (Int32 × Nat)} (hX : zXok X own cc nL) (hd : decode cc pc = .ok (.tableswitch dflt lo hi offs, len)) (hc : ts.map (fun q => q.1.toInt) = (List.range ts.length).map (fun i : Nat => lo + (i : Int))) (hhi : hi + 1 = lo + ts.length) (hts' : offs.toList.map (fun o => (pc : Int) + o) = ts.map (fun t => (t.2 : Int))) (hdf : (pc : Int) + dflt = (d : Int)) : zSo X pc (zo_tsw ts d) := by
  intro K ls st h res he hk
  obtain ⟨⟨p, l, e, R, s, m, args, below, meth, c⟩, ⟨D, ad, cy, L, A, H0⟩, ⟨own9, cc9, nL9, Q, cf, sf⟩⟩ := X
  obtain ⟨hx, hb, hml, hown, hts, hK, hD, hcl, hcf, hsf, rfl, rfl, rfl, hR1, hR2, hc1, hc2⟩ := hX
  have hval : ∀ (i : Nat) (q : Int32 × Nat), ts[i]? = some q → q.1.toInt = lo + i := by
    intro i q hi
    have hil : i < ts.length := (List.getElem?_eq_some_iff.mp hi).1
    have e1 := congrArg (fun l => l[i]?) hc
    simp only [List.getElem?_map, hi, Option.map_some, List.getElem?_range hil] at e1
    exact Option.some.inj e1
  match st, he with
  | .inl x :: t, he =>
    intro ho hlq H locs lsA hP hS hL
    have he : zsw (fun k => K k ls t h) x d ts = some res := he
    rcases zsw_cases ts he with ⟨i, q, hi1, hi2, hi3⟩ | ⟨hn, hi3⟩
    · have hil : i < ts.length := (List.getElem?_eq_some_iff.mp hi1).1
      have hxi : x.toInt = lo + i := by rw [hi2]; exact hval i q hi1
      have hoff : ∃ off, offs[i]? = some off ∧ (pc : Int) + off = (q.2 : Int) := by
        have e1 := congrArg (fun l => l[i]?) hts'
        simp only [List.getElem?_map, hi1, Option.map_some, Array.getElem?_toList] at e1
        cases ho2 : offs[i]? with
        | none => rw [ho2] at e1; cases e1
        | some off => rw [ho2] at e1; exact ⟨off, rfl, Option.some.inj e1⟩
      obtain ⟨off, hoff1, hoff2⟩ := hoff
      refine lv_tableIn (off := off) (tgt := q.2) hx hb hd (by omega) (by omega) ?_ hoff2 (hk q.2 ls t h hi3 (zk1 ho) hlq H locs lsA hP hS hL)
      rw [show (x.toInt - lo).toNat = i by omega]
      exact hoff1
    · refine lv_tableOut (tgt := d) hx hb hd ?_ hdf (hk d ls t h hi3 (zk1 ho) hlq H locs lsA hP hS hL)
      apply Classical.byContradiction
      intro hno
      have hj : (x.toInt - lo).toNat < ts.length := by omega
      have hq : ts[(x.toInt - lo).toNat]? = some ts[(x.toInt - lo).toNat] := List.getElem?_eq_getElem hj
      refine hn _ (List.mem_of_getElem? hq) (Int32.toInt_inj.mp ?_)
      rw [hval _ _ hq]
      omega
/-- a field by its link: the class numbered C has it at k, of that type -/
def zFL (own : String) (idx C k t K2 : Nat) (o : Option Nat) : Prop := ∃ (Cn : String) (T : u_T) (N : Nat), zcl[C]? = some (Cn, T, N) ∧ (∀ w ∈ u_ws Cn T N, w ∈ zT) ∧ k < N ∧ zty C = 0 ∧ (zfl C)[k]? = some (t, K2, o) ∧ Cond.fieldLink own idx (T k).1 (T k).2.1 (T k).2.2.1 ∈ zT
/-- .. that can be written -/
def zFP (own : String) (idx C k t : Nat) (ty : FieldType) : Prop := ∃ (Cn : String) (T : u_T) (N : Nat), zcl[C]? = some (Cn, T, N) ∧ (∀ w ∈ u_ws Cn T N, w ∈ zT) ∧ k < N ∧ zty C = 0 ∧ (zfl C)[k]? = some (t, 0, none) ∧ Cond.fieldLink own idx (T k).1 (T k).2.1 (T k).2.2.1 ∈ zT ∧
  (∃ ty0 : Nat → FieldType, ∀ k, k < N → parseFieldDescriptor (T k).2.2.1 = some (ty0 k)) ∧ (∀ a, a < N → ∀ b, b < N → a ≠ b → (T a).2.1 ≠ (T b).2.1) ∧ (T k).2.2.2 = false ∧ parseFieldDescriptor (T k).2.2.1 = some ty ∧ (zfl C).length = N
theorem zcon0 {ad : Nat → Nat → Nat} {cy : Nat → ClassId} {h : zH} {C j : Nat} (ht : zty C = 0) : zcon ad cy h C j = .inr (C, zfs ad h C j 0 (zfl C)) := by unfold zcon; rw [ht]; rfl
theorem zcon1 {ad : Nat → Nat → Nat} {cy : Nat → ClassId} {h : zH} {C j : Nat} (ht : zty C = 1) : zcon ad cy h C j = .inl (cy 1, zlen C, .inl (h.1 C j)) := by unfold zcon; rw [ht]; rfl
theorem zcon2 {ad : Nat → Nat → Nat} {cy : Nat → ClassId} {h : zH} {C j : Nat} (ht : zty C = 2) : zcon ad cy h C j = .inl (cy 2, zlen C, .inr (.inl (h.2 C j))) := by unfold zcon; rw [ht]; rfl
theorem zcon3 {ad : Nat → Nat → Nat} {cy : Nat → ClassId} {h : zH} {C j : Nat} (ht : zty C = 3) : zcon ad cy h C j = .inl (cy 3, zlen C, .inl (h.1 C j)) := by unfold zcon; rw [ht]; rfl
theorem zcon4 {ad : Nat → Nat → Nat} {cy : Nat → ClassId} {h : zH} {C j : Nat} (ht : zty C = 4) : zcon ad cy h C j = .inl (cy 4, zlen C, .inl (h.1 C j)) := by unfold zcon; rw [ht]; rfl
theorem zcon5 {ad : Nat → Nat → Nat} {cy : Nat → ClassId} {h : zH} {C j : Nat} (ht : zty C = 5) : zcon ad cy h C j = .inl (cy 5, zlen C, .inr (.inr (.inr (.inr (fun i => some (ad 4 (1 + i))))))) := by unfold zcon; rw [ht]; rfl
theorem zcon6 {ad : Nat → Nat → Nat} {cy : Nat → ClassId} {h : zH} {C j : Nat} (ht : zty C = 6) : zcon ad cy h C j = .inl (cy 6, zlen C, .inr (.inr (.inr (.inr (fun i => some (ad 8 (5 + i))))))) := by unfold zcon; rw [ht]; rfl
theorem zfs_congr {ad : Nat → Nat → Nat} {h h' : zH} {K j : Nat} (e1 : h'.1 K j = h.1 K j) (e2 : h'.2 K j = h.2 K j) (fl : List (Nat × Nat × Option Nat)) (k0 : Nat) : zfs ad h' K j k0 fl = zfs ad h K j k0 fl := by
  induction fl generalizing k0 with
  | nil => rfl
  | cons f r ih => simp only [zfs, zfv, e1, e2, ih]
theorem zcon_congr {ad : Nat → Nat → Nat} {cy : Nat → ClassId} {h h' : zH} {K j : Nat} (e1 : h'.1 K j = h.1 K j) (e2 : h'.2 K j = h.2 K j) : zcon ad cy h' K j = zcon ad cy h K j := by
  unfold zcon
  rw [e1, e2, zfs_congr e1 e2]
theorem zuI_other {h : zH} {K j k : Nat} {v : Int32} {q : Nat × Nat} (hq : q ≠ (K, j)) : (zuI h K j k v).1 q.1 q.2 = h.1 q.1 q.2 := by
  funext k'
  have : ¬ (q.1 = K ∧ q.2 = j ∧ k' = k) := fun e => hq (Prod.ext e.1 e.2.1)
  simp only [zuI, if_neg this]
theorem zuJ_other {h : zH} {K j k : Nat} {v : Int64} {q : Nat × Nat} (hq : q ≠ (K, j)) : (zuJ h K j k v).2 q.1 q.2 = h.2 q.1 q.2 := by
  funext k'
  have : ¬ (q.1 = K ∧ q.2 = j ∧ k' = k) := fun e => hq (Prod.ext e.1 e.2.1)
  simp only [zuJ, if_neg this]
theorem zfs_setI {ad : Nat → Nat → Nat} {h : zH} {K j k K2 t : Nat} {o : Option Nat} {v : Int32} {fl : List (Nat × Nat × Option Nat)} (hf : fl[k]? = some (t, K2, o)) (h1 : t ≠ 1) (h2 : t ≠ 2) : zfs ad (zuI h K j k v) K j 0 fl = (zfs ad h K j 0 fl).set k (.int v) := by
  have hlt : k < fl.length := (List.getElem?_eq_some_iff.mp hf).1
  apply List.ext_getElem?
  intro i
  rw [zfs_get, List.getElem?_set]
  by_cases e : k = i
  · subst e
    rw [if_pos rfl, if_pos (by rw [zfs_len]; exact hlt), hf]
    simp only [Option.map_some, zfv, zuI, Nat.zero_add, and_self, if_true]
  · rw [if_neg e, zfs_get]
    cases fl[i]? with
    | none => rfl
    | some f =>
      simp only [Option.map_some, zfv, zuI, Nat.zero_add]
      rw [if_neg (by omega)]
theorem zfs_setJ {ad : Nat → Nat → Nat} {h : zH} {K j k K2 : Nat} {o : Option Nat} {v : Int64} {fl : List (Nat × Nat × Option Nat)} (hf : fl[k]? = some (1, K2, o)) : zfs ad (zuJ h K j k v) K j 0 fl = (zfs ad h K j 0 fl).set k (.long v) := by
  have hlt : k < fl.length := (List.getElem?_eq_some_iff.mp hf).1
  apply List.ext_getElem?
  intro i
  rw [zfs_get, List.getElem?_set]
  by_cases e : k = i
  · subst e
    rw [if_pos rfl, if_pos (by rw [zfs_len]; exact hlt), hf]
    simp only [Option.map_some, zfv, zuJ, Nat.zero_add, and_self, if_true]
  · rw [if_neg e, zfs_get]
    cases fl[i]? with
    | none => rfl
    | some f =>
      simp only [Option.map_some, zfv, zuJ, Nat.zero_add]
      rw [if_neg (by omega)]
theorem zclo.ref {L : List (Nat × Nat)} (h : zclo L = true) {C j k K2 : Nat} {o : Option Nat} (hq : (C, j) ∈ L) (ht : zty C = 0) (hf : (zfl C)[k]? = some (2, K2, o)) : (K2, o.getD j) ∈ L := by
  simp only [zclo, Bool.and_eq_true] at h
  have h1 := List.all_eq_true.mp h.2 (C, j) hq
  simp only [ht] at h1
  have h2 := List.all_eq_true.mp h1 (2, K2, o) (List.mem_of_getElem? hf)
  simpa using h2
theorem zclo.r5 {L : List (Nat × Nat)} (h : zclo L = true) {C j i : Nat} (hq : (C, j) ∈ L) (ht : zty C = 5) (hi : i < 4) : (4, 1 + i) ∈ L := by
  simp only [zclo, Bool.and_eq_true] at h
  have h1 := List.all_eq_true.mp h.2 (C, j) hq
  simp only [ht] at h1
  have h2 := List.all_eq_true.mp h1 i (List.mem_range.mpr hi)
  simpa using h2
theorem zclo.r6 {L : List (Nat × Nat)} (h : zclo L = true) {C j i : Nat} (hq : (C, j) ∈ L) (ht : zty C = 6) (hi : i < 16) : (8, 5 + i) ∈ L := by
  simp only [zclo, Bool.and_eq_true] at h
  have h1 := List.all_eq_true.mp h.2 (C, j) hq
  simp only [ht] at h1
  have h2 := List.all_eq_true.mp h1 i (List.mem_range.mpr hi)
  simpa using h2
theorem zbif {b : Bool} {α : Type} {x : α} {y : Option α} (h : (bif b then y else none) = some x) : b = true ∧ y = some x := by
  cases b with
  | true => exact ⟨rfl, h⟩
  | false => cases h
theorem zin_in {i : Int32} {n : Nat} (h : zin i n = true) : vp_in i n := by
  simp only [zin, Bool.not_eq_true', Bool.or_eq_false_iff, decide_eq_false_iff_not] at h
  exact fun q => q.elim h.1 h.2

theorem zs_getI {X : zCtx} {own : String} {cc : ByteArray} {nL pc nx idx C k : Nat} {t K2 : Nat} {o : Option Nat} (hX : zXok X own cc nL) (hF : zFL own idx C k t K2 o) (h1 : t ≠ 1) (h2 : t ≠ 2) (hd : decode cc pc = .ok (.getfield idx, 3)) (hn : pc + 3 = nx) : zSo X pc (zo_getI C k nx) := by
  intro K ls st h res he hk
  obtain ⟨⟨p, l, e, R, s, m, args, below, meth, c⟩, ⟨D, ad, cy, L, A, H0⟩, ⟨own9, cc9, nL9, Q, cf, sf⟩⟩ := X
  obtain ⟨hx, hb, hml, hown, hts, hK, hD, hcl, hcf, hsf, rfl, rfl, rfl, hR1, hR2, hc1, hc2⟩ := hX
  subst hn
  obtain ⟨Cn, T, N, hc, hin, hkN, ht, hf, hlk⟩ := hF
  match st, he with
  | .inr (.inr (C0, j)) :: t', he =>
    intro ho hl H locs lsA hP hS hL
    obtain ⟨hC, he2⟩ := zbeq (a := C0) (b := C) (y := K (pc + 3) ls (.inl (h.1 C j k) :: t') h) he
    subst hC
    have hq : (C0, j) ∈ L := zmem (zk0 ho) (by rw [ht]; decide)
    obtain ⟨q0, hq0, hq1⟩ := zws_at (ad := ad) (cy := cy) h hq
    rw [zcon0 ht] at hq1
    have hv : (zfs ad h C0 j 0 (zfl C0))[k]? = some (.int (h.1 C0 j k)) := by rw [zfs_get, hf]; simp [zfv, h1, h2, ]
    exact va_get hx hb hts hin hown hK hP q0 hq1 hc k hkN (hts _ hlk) (fun _ q => q) hv hd (hk _ ls (.inl (h.1 C0 j k) :: t') h he2 (zk2 trivial (zk1 ho)) hl H locs lsA hP hS hL)
theorem zs_getJ {X : zCtx} {own : String} {cc : ByteArray} {nL pc nx idx C k : Nat} {K2 : Nat} {o : Option Nat} (hX : zXok X own cc nL) (hF : zFL own idx C k 1 K2 o) (hd : decode cc pc = .ok (.getfield idx, 3)) (hn : pc + 3 = nx) : zSo X pc (zo_getJ C k nx) := by
  intro K ls st h res he hk
  obtain ⟨⟨p, l, e, R, s, m, args, below, meth, c⟩, ⟨D, ad, cy, L, A, H0⟩, ⟨own9, cc9, nL9, Q, cf, sf⟩⟩ := X
  obtain ⟨hx, hb, hml, hown, hts, hK, hD, hcl, hcf, hsf, rfl, rfl, rfl, hR1, hR2, hc1, hc2⟩ := hX
  subst hn
  obtain ⟨Cn, T, N, hc, hin, hkN, ht, hf, hlk⟩ := hF
  match st, he with
  | .inr (.inr (C0, j)) :: t', he =>
    intro ho hl H locs lsA hP hS hL
    obtain ⟨hC, he2⟩ := zbeq (a := C0) (b := C) (y := K (pc + 3) ls (.inr (.inl (h.2 C j k)) :: t') h) he
    subst hC
    have hq : (C0, j) ∈ L := zmem (zk0 ho) (by rw [ht]; decide)
    obtain ⟨q0, hq0, hq1⟩ := zws_at (ad := ad) (cy := cy) h hq
    rw [zcon0 ht] at hq1
    have hv : (zfs ad h C0 j 0 (zfl C0))[k]? = some (.long (h.2 C0 j k)) := by rw [zfs_get, hf]; simp [zfv, ]
    exact va_get hx hb hts hin hown hK hP q0 hq1 hc k hkN (hts _ hlk) (fun _ q => q) hv hd (hk _ ls (.inr (.inl (h.2 C0 j k)) :: t') h he2 (zk2 trivial (zk1 ho)) hl H locs lsA hP hS hL)
theorem zs_getR {X : zCtx} {own : String} {cc : ByteArray} {nL pc nx idx C k : Nat} {K2 : Nat} {o : Option Nat} (hX : zXok X own cc nL) (hF : zFL own idx C k 2 K2 o) (hd : decode cc pc = .ok (.getfield idx, 3)) (hn : pc + 3 = nx) : zSo X pc (zo_getR C K2 o nx) := by
  intro K ls st h res he hk
  obtain ⟨⟨p, l, e, R, s, m, args, below, meth, c⟩, ⟨D, ad, cy, L, A, H0⟩, ⟨own9, cc9, nL9, Q, cf, sf⟩⟩ := X
  obtain ⟨hx, hb, hml, hown, hts, hK, hD, hcl, hcf, hsf, rfl, rfl, rfl, hR1, hR2, hc1, hc2⟩ := hX
  subst hn
  obtain ⟨Cn, T, N, hc, hin, hkN, ht, hf, hlk⟩ := hF
  match st, he with
  | .inr (.inr (C0, j)) :: t', he =>
    intro ho hl H locs lsA hP hS hL
    obtain ⟨hC, he2⟩ := zbeq (a := C0) (b := C) (y := K (pc + 3) ls (.inr (.inr (K2, o.getD j)) :: t') h) he
    subst hC
    have hq : (C0, j) ∈ L := zmem (zk0 ho) (by rw [ht]; decide)
    obtain ⟨q0, hq0, hq1⟩ := zws_at (ad := ad) (cy := cy) h hq
    rw [zcon0 ht] at hq1
    have hv : (zfs ad h C0 j 0 (zfl C0))[k]? = some (.ref (ad K2 (o.getD j))) := by rw [zfs_get, hf]; simp [zfv, ]
    exact va_get hx hb hts hin hown hK hP q0 hq1 hc k hkN (hts _ hlk) (fun _ q => q) hv hd (hk _ ls (.inr (.inr (K2, o.getD j)) :: t') h he2 (zk2 (show zok L (.inr (.inr (K2, o.getD j))) from Or.inl (zclo.ref hcl hq ht hf)) (zk1 ho)) hl H locs lsA hP hS hL)
theorem zs_putI {X : zCtx} {own : String} {cc : ByteArray} {nL pc nx idx C k : Nat} (hX : zXok X own cc nL) (hF : zFP own idx C k 0 .int) (hd : decode cc pc = .ok (.putfield idx, 3)) (hn : pc + 3 = nx) : zSo X pc (zo_putI C k nx) := by
  intro K ls st h res he hk
  obtain ⟨⟨p, l, e, R, s, m, args, below, meth, c⟩, ⟨D, ad, cy, L, A, H0⟩, ⟨own9, cc9, nL9, Q, cf, sf⟩⟩ := X
  obtain ⟨hx, hb, hml, hown, hts, hK, hD, hcl, hcf, hsf, rfl, rfl, rfl, hR1, hR2, hc1, hc2⟩ := hX
  subst hn
  obtain ⟨Cn, T, N, hc, hin, hkN, ht, hf, hlk, ⟨ty0, hty⟩, hnm, hfin, hpd, hlen⟩ := hF
  match st, he with
  | .inl v :: .inr (.inr (C0, j)) :: t', he =>
    intro ho hl H locs lsA hP hS hL
    obtain ⟨hC, he⟩ := zbeq (a := C0) (b := C) he
    subst hC
    have hq : (C0, j) ∈ L := zmem (zk0 (zk1 ho)) (by rw [ht]; decide)
    obtain ⟨q0, hq0, hq1⟩ := zws_at (ad := ad) (cy := cy) h hq
    rw [zcon0 ht] at hq1
    refine va_put hx hb hts hin ty0 hty hnm hown hK hP (hD h) hS q0 hq1 hc k hkN (hts _ hlk) (fun _ q => q) hfin hpd rfl rfl (by rw [zfs_len, hlen]; exact hkN) hd (fun H1 locs1 hP1 hD1 hS1 => ?_)
    have hset : (zws ad cy L h).set q0 (ad C0 j, .inr (C0, (zfs ad h C0 j 0 (zfl C0)).set k (.int v))) = zws ad cy L (zuI h C0 j k v) := zws_set (zclo.nodup hcl) hq0 (by rw [zcon0 ht, zfs_setI hf (by decide) (by decide)]) (fun q hne => (zcon_congr (zuI_other hne) rfl))
    have hP1 : va_P D zcl ((zws ad cy L h).set q0 (ad C0 j, .inr (C0, (zfs ad h C0 j 0 (zfl C0)).set k (.int v)))) H1 := hP1
    rw [hset] at hP1
    exact hk _ ls t' (zuI h C0 j k v) he (zk1 (zk1 ho)) hl H1 locs1 lsA hP1 hS1 hL
theorem zs_putJ {X : zCtx} {own : String} {cc : ByteArray} {nL pc nx idx C k : Nat} (hX : zXok X own cc nL) (hF : zFP own idx C k 1 .long) (hd : decode cc pc = .ok (.putfield idx, 3)) (hn : pc + 3 = nx) : zSo X pc (zo_putJ C k nx) := by
  intro K ls st h res he hk
  obtain ⟨⟨p, l, e, R, s, m, args, below, meth, c⟩, ⟨D, ad, cy, L, A, H0⟩, ⟨own9, cc9, nL9, Q, cf, sf⟩⟩ := X
  obtain ⟨hx, hb, hml, hown, hts, hK, hD, hcl, hcf, hsf, rfl, rfl, rfl, hR1, hR2, hc1, hc2⟩ := hX
  subst hn
  obtain ⟨Cn, T, N, hc, hin, hkN, ht, hf, hlk, ⟨ty0, hty⟩, hnm, hfin, hpd, hlen⟩ := hF
  match st, he with
  | .inr (.inl v) :: .inr (.inr (C0, j)) :: t', he =>
    intro ho hl H locs lsA hP hS hL
    obtain ⟨hC, he⟩ := zbeq (a := C0) (b := C) he
    subst hC
    have hq : (C0, j) ∈ L := zmem (zk0 (zk1 ho)) (by rw [ht]; decide)
    obtain ⟨q0, hq0, hq1⟩ := zws_at (ad := ad) (cy := cy) h hq
    rw [zcon0 ht] at hq1
    refine va_put hx hb hts hin ty0 hty hnm hown hK hP (hD h) hS q0 hq1 hc k hkN (hts _ hlk) (fun _ q => q) hfin hpd rfl rfl (by rw [zfs_len, hlen]; exact hkN) hd (fun H1 locs1 hP1 hD1 hS1 => ?_)
    have hset : (zws ad cy L h).set q0 (ad C0 j, .inr (C0, (zfs ad h C0 j 0 (zfl C0)).set k (.long v))) = zws ad cy L (zuJ h C0 j k v) := zws_set (zclo.nodup hcl) hq0 (by rw [zcon0 ht, zfs_setJ hf]) (fun q hne => (zcon_congr rfl (zuJ_other hne)))
    have hP1 : va_P D zcl ((zws ad cy L h).set q0 (ad C0 j, .inr (C0, (zfs ad h C0 j 0 (zfl C0)).set k (.long v)))) H1 := hP1
    rw [hset] at hP1
    exact hk _ ls t' (zuJ h C0 j k v) he (zk1 (zk1 ho)) hl H1 locs1 lsA hP1 hS1 hL
theorem zs_putZ {X : zCtx} {own : String} {cc : ByteArray} {nL pc nx idx C k : Nat} (hX : zXok X own cc nL) (hF : zFP own idx C k 3 .boolean) (hd : decode cc pc = .ok (.putfield idx, 3)) (hn : pc + 3 = nx) : zSo X pc (zo_putZ C k nx) := by
  intro K ls st h res he hk
  obtain ⟨⟨p, l, e, R, s, m, args, below, meth, c⟩, ⟨D, ad, cy, L, A, H0⟩, ⟨own9, cc9, nL9, Q, cf, sf⟩⟩ := X
  obtain ⟨hx, hb, hml, hown, hts, hK, hD, hcl, hcf, hsf, rfl, rfl, rfl, hR1, hR2, hc1, hc2⟩ := hX
  subst hn
  obtain ⟨Cn, T, N, hc, hin, hkN, ht, hf, hlk, ⟨ty0, hty⟩, hnm, hfin, hpd, hlen⟩ := hF
  match st, he with
  | .inl v :: .inr (.inr (C0, j)) :: t', he =>
    intro ho hl H locs lsA hP hS hL
    obtain ⟨hC, he⟩ := zbeq (a := C0) (b := C) he
    obtain ⟨h01, he⟩ := zbrec he
    subst hC
    have hq : (C0, j) ∈ L := zmem (zk0 (zk1 ho)) (by rw [ht]; decide)
    obtain ⟨q0, hq0, hq1⟩ := zws_at (ad := ad) (cy := cy) h hq
    rw [zcon0 ht] at hq1
    have hnar : narrow .boolean (.int v) = .int v ∧ fits .boolean (.int v) = true := by
      simp only [z01, Bool.or_eq_true, decide_eq_true_eq] at h01
      rcases h01 with rfl | rfl <;> decide +kernel
    refine va_put hx hb hts hin ty0 hty hnm hown hK hP (hD h) hS q0 hq1 hc k hkN (hts _ hlk) (fun _ q => q) hfin hpd hnar.1 hnar.2 (by rw [zfs_len, hlen]; exact hkN) hd (fun H1 locs1 hP1 hD1 hS1 => ?_)
    have hset : (zws ad cy L h).set q0 (ad C0 j, .inr (C0, (zfs ad h C0 j 0 (zfl C0)).set k (.int v))) = zws ad cy L (zuI h C0 j k v) := zws_set (zclo.nodup hcl) hq0 (by rw [zcon0 ht, zfs_setI hf (by decide) (by decide)]) (fun q hne => (zcon_congr (zuI_other hne) rfl))
    have hP1 : va_P D zcl ((zws ad cy L h).set q0 (ad C0 j, .inr (C0, (zfs ad h C0 j 0 (zfl C0)).set k (.int v)))) H1 := hP1
    rw [hset] at hP1
    exact hk _ ls t' (zuI h C0 j k v) he (zk1 (zk1 ho)) hl H1 locs1 lsA hP1 hS1 hL
theorem zs_iald {X : zCtx} {own : String} {cc : ByteArray} {nL pc nx : Nat} (hX : zXok X own cc nL) (hd : decode cc pc = .ok (.iaload, 1)) (hn : pc + 1 = nx) : zSo X pc (zo_iald nx) := by
  intro K ls st h res he hk
  obtain ⟨⟨p, l, e, R, s, m, args, below, meth, c⟩, ⟨D, ad, cy, L, A, H0⟩, ⟨own9, cc9, nL9, Q, cf, sf⟩⟩ := X
  obtain ⟨hx, hb, hml, hown, hts, hK, hD, hcl, hcf, hsf, rfl, rfl, rfl, hR1, hR2, hc1, hc2⟩ := hX
  subst hn
  match st, he with
  | .inl i :: .inr (.inr (C, j)) :: t', he =>
    intro ho hl H locs lsA hP hS hL
    obtain ⟨ht, he⟩ := zbeq (a := zty C) (b := 1) he
    obtain ⟨hi, he⟩ := zfel he
    have hq : (C, j) ∈ L := zmem (zk0 (zk1 ho)) (by rw [ht]; decide)
    obtain ⟨q0, hq0, hq1⟩ := zws_at (ad := ad) (cy := cy) h hq
    rw [zcon1 ht] at hq1
    exact va_iald hx hb hK hP q0 0 hq1 rfl hi hd (hk _ ls (.inl (h.1 C j i.toNatClampNeg) :: t') h he (zk2 trivial (zk1 (zk1 ho))) hl H locs lsA hP hS hL)
theorem zs_ialdc {X : zCtx} {own : String} {cc : ByteArray} {nL pc nx : Nat} (hX : zXok X own cc nL) (hd : decode cc pc = .ok (.iaload, 1)) (hn : pc + 1 = nx) : zSo X pc (zo_ialdc nx) := by
  intro K ls st h res he hk
  obtain ⟨⟨p, l, e, R, s, m, args, below, meth, c⟩, ⟨D, ad, cy, L, A, H0⟩, ⟨own9, cc9, nL9, Q, cf, sf⟩⟩ := X
  obtain ⟨hx, hb, hml, hown, hts, hK, hD, hcl, hcf, hsf, rfl, rfl, rfl, hR1, hR2, hc1, hc2⟩ := hX
  subst hn
  match st, he with
  | .inl i :: .inr (.inr (C, j)) :: t', he =>
    intro ho hl H locs lsA hP hS hL
    obtain ⟨ht, he⟩ := zbeq (a := zty C) (b := 1) he
    obtain ⟨hi0, he⟩ := zbrec he
    have hi := zin_in hi0
    have hq : (C, j) ∈ L := zmem (zk0 (zk1 ho)) (by rw [ht]; decide)
    obtain ⟨q0, hq0, hq1⟩ := zws_at (ad := ad) (cy := cy) h hq
    rw [zcon1 ht] at hq1
    exact va_iald hx hb hK hP q0 0 hq1 rfl hi hd (hk _ ls (.inl (h.1 C j i.toNatClampNeg) :: t') h he (zk2 trivial (zk1 (zk1 ho))) hl H locs lsA hP hS hL)
theorem zs_lald {X : zCtx} {own : String} {cc : ByteArray} {nL pc nx : Nat} (hX : zXok X own cc nL) (hd : decode cc pc = .ok (.laload, 1)) (hn : pc + 1 = nx) : zSo X pc (zo_lald nx) := by
  intro K ls st h res he hk
  obtain ⟨⟨p, l, e, R, s, m, args, below, meth, c⟩, ⟨D, ad, cy, L, A, H0⟩, ⟨own9, cc9, nL9, Q, cf, sf⟩⟩ := X
  obtain ⟨hx, hb, hml, hown, hts, hK, hD, hcl, hcf, hsf, rfl, rfl, rfl, hR1, hR2, hc1, hc2⟩ := hX
  subst hn
  match st, he with
  | .inl i :: .inr (.inr (C, j)) :: t', he =>
    intro ho hl H locs lsA hP hS hL
    obtain ⟨ht, he⟩ := zbeq (a := zty C) (b := 2) he
    obtain ⟨hi, he⟩ := zfel he
    have hq : (C, j) ∈ L := zmem (zk0 (zk1 ho)) (by rw [ht]; decide)
    obtain ⟨q0, hq0, hq1⟩ := zws_at (ad := ad) (cy := cy) h hq
    rw [zcon2 ht] at hq1
    exact va_lald hx hb hK hP q0 1 hq1 rfl hi hd (hk _ ls (.inr (.inl (h.2 C j i.toNatClampNeg)) :: t') h he (zk2 trivial (zk1 (zk1 ho))) hl H locs lsA hP hS hL)
theorem zs_laldc {X : zCtx} {own : String} {cc : ByteArray} {nL pc nx : Nat} (hX : zXok X own cc nL) (hd : decode cc pc = .ok (.laload, 1)) (hn : pc + 1 = nx) : zSo X pc (zo_laldc nx) := by
  intro K ls st h res he hk
  obtain ⟨⟨p, l, e, R, s, m, args, below, meth, c⟩, ⟨D, ad, cy, L, A, H0⟩, ⟨own9, cc9, nL9, Q, cf, sf⟩⟩ := X
  obtain ⟨hx, hb, hml, hown, hts, hK, hD, hcl, hcf, hsf, rfl, rfl, rfl, hR1, hR2, hc1, hc2⟩ := hX
  subst hn
  match st, he with
  | .inl i :: .inr (.inr (C, j)) :: t', he =>
    intro ho hl H locs lsA hP hS hL
    obtain ⟨ht, he⟩ := zbeq (a := zty C) (b := 2) he
    obtain ⟨hi0, he⟩ := zbrec he
    have hi := zin_in hi0
    have hq : (C, j) ∈ L := zmem (zk0 (zk1 ho)) (by rw [ht]; decide)
    obtain ⟨q0, hq0, hq1⟩ := zws_at (ad := ad) (cy := cy) h hq
    rw [zcon2 ht] at hq1
    exact va_lald hx hb hK hP q0 1 hq1 rfl hi hd (hk _ ls (.inr (.inl (h.2 C j i.toNatClampNeg)) :: t') h he (zk2 trivial (zk1 (zk1 ho))) hl H locs lsA hP hS hL)
theorem zs_bald {X : zCtx} {own : String} {cc : ByteArray} {nL pc nx : Nat} (hX : zXok X own cc nL) (hd : decode cc pc = .ok (.baload, 1)) (hn : pc + 1 = nx) : zSo X pc (zo_bald nx) := by
  intro K ls st h res he hk
  obtain ⟨⟨p, l, e, R, s, m, args, below, meth, c⟩, ⟨D, ad, cy, L, A, H0⟩, ⟨own9, cc9, nL9, Q, cf, sf⟩⟩ := X
  obtain ⟨hx, hb, hml, hown, hts, hK, hD, hcl, hcf, hsf, rfl, rfl, rfl, hR1, hR2, hc1, hc2⟩ := hX
  subst hn
  match st, he with
  | .inl i :: .inr (.inr (C, j)) :: t', he =>
    intro ho hl H locs lsA hP hS hL
    obtain ⟨ht, he⟩ := zbeq (a := zty C) (b := 3) he
    obtain ⟨hi, he⟩ := zfel he
    have hq : (C, j) ∈ L := zmem (zk0 (zk1 ho)) (by rw [ht]; decide)
    obtain ⟨q0, hq0, hq1⟩ := zws_at (ad := ad) (cy := cy) h hq
    rw [zcon3 ht] at hq1
    exact va_bald hx hb hK hP q0 2 hq1 rfl hi hd (hk _ ls (.inl (h.1 C j i.toNatClampNeg) :: t') h he (zk2 trivial (zk1 (zk1 ho))) hl H locs lsA hP hS hL)
theorem zs_baldc {X : zCtx} {own : String} {cc : ByteArray} {nL pc nx : Nat} (hX : zXok X own cc nL) (hd : decode cc pc = .ok (.baload, 1)) (hn : pc + 1 = nx) : zSo X pc (zo_baldc nx) := by
  intro K ls st h res he hk
  obtain ⟨⟨p, l, e, R, s, m, args, below, meth, c⟩, ⟨D, ad, cy, L, A, H0⟩, ⟨own9, cc9, nL9, Q, cf, sf⟩⟩ := X
  obtain ⟨hx, hb, hml, hown, hts, hK, hD, hcl, hcf, hsf, rfl, rfl, rfl, hR1, hR2, hc1, hc2⟩ := hX
  subst hn
  match st, he with
  | .inl i :: .inr (.inr (C, j)) :: t', he =>
    intro ho hl H locs lsA hP hS hL
    obtain ⟨ht, he⟩ := zbeq (a := zty C) (b := 3) he
    obtain ⟨hi0, he⟩ := zbrec he
    have hi := zin_in hi0
    have hq : (C, j) ∈ L := zmem (zk0 (zk1 ho)) (by rw [ht]; decide)
    obtain ⟨q0, hq0, hq1⟩ := zws_at (ad := ad) (cy := cy) h hq
    rw [zcon3 ht] at hq1
    exact va_bald hx hb hK hP q0 2 hq1 rfl hi hd (hk _ ls (.inl (h.1 C j i.toNatClampNeg) :: t') h he (zk2 trivial (zk1 (zk1 ho))) hl H locs lsA hP hS hL)
theorem zs_zald {X : zCtx} {own : String} {cc : ByteArray} {nL pc nx : Nat} (hX : zXok X own cc nL) (hd : decode cc pc = .ok (.baload, 1)) (hn : pc + 1 = nx) : zSo X pc (zo_zald nx) := by
  intro K ls st h res he hk
  obtain ⟨⟨p, l, e, R, s, m, args, below, meth, c⟩, ⟨D, ad, cy, L, A, H0⟩, ⟨own9, cc9, nL9, Q, cf, sf⟩⟩ := X
  obtain ⟨hx, hb, hml, hown, hts, hK, hD, hcl, hcf, hsf, rfl, rfl, rfl, hR1, hR2, hc1, hc2⟩ := hX
  subst hn
  match st, he with
  | .inl i :: .inr (.inr (C, j)) :: t', he =>
    intro ho hl H locs lsA hP hS hL
    obtain ⟨ht, he⟩ := zbeq (a := zty C) (b := 4) he
    obtain ⟨hi, he⟩ := zfel he
    have hq : (C, j) ∈ L := zmem (zk0 (zk1 ho)) (by rw [ht]; decide)
    obtain ⟨q0, hq0, hq1⟩ := zws_at (ad := ad) (cy := cy) h hq
    rw [zcon4 ht] at hq1
    exact va_zald hx hb hK hP q0 3 hq1 rfl hi hd (hk _ ls (.inl (h.1 C j i.toNatClampNeg) :: t') h he (zk2 trivial (zk1 (zk1 ho))) hl H locs lsA hP hS hL)
theorem zs_zaldc {X : zCtx} {own : String} {cc : ByteArray} {nL pc nx : Nat} (hX : zXok X own cc nL) (hd : decode cc pc = .ok (.baload, 1)) (hn : pc + 1 = nx) : zSo X pc (zo_zaldc nx) := by
  intro K ls st h res he hk
  obtain ⟨⟨p, l, e, R, s, m, args, below, meth, c⟩, ⟨D, ad, cy, L, A, H0⟩, ⟨own9, cc9, nL9, Q, cf, sf⟩⟩ := X
  obtain ⟨hx, hb, hml, hown, hts, hK, hD, hcl, hcf, hsf, rfl, rfl, rfl, hR1, hR2, hc1, hc2⟩ := hX
  subst hn
  match st, he with
  | .inl i :: .inr (.inr (C, j)) :: t', he =>
    intro ho hl H locs lsA hP hS hL
    obtain ⟨ht, he⟩ := zbeq (a := zty C) (b := 4) he
    obtain ⟨hi0, he⟩ := zbrec he
    have hi := zin_in hi0
    have hq : (C, j) ∈ L := zmem (zk0 (zk1 ho)) (by rw [ht]; decide)
    obtain ⟨q0, hq0, hq1⟩ := zws_at (ad := ad) (cy := cy) h hq
    rw [zcon4 ht] at hq1
    exact va_zald hx hb hK hP q0 3 hq1 rfl hi hd (hk _ ls (.inl (h.1 C j i.toNatClampNeg) :: t') h he (zk2 trivial (zk1 (zk1 ho))) hl H locs lsA hP hS hL)
theorem zs_aald5 {X : zCtx} {own : String} {cc : ByteArray} {nL pc nx : Nat} (hX : zXok X own cc nL) (hlen : ∀ C, zty C = 5 → zlen C = 4) (hd : decode cc pc = .ok (.aaload, 1)) (hn : pc + 1 = nx) : zSo X pc (zo_aald5 nx) := by
  intro K ls st h res he hk
  obtain ⟨⟨p, l, e, R, s, m, args, below, meth, c⟩, ⟨D, ad, cy, L, A, H0⟩, ⟨own9, cc9, nL9, Q, cf, sf⟩⟩ := X
  obtain ⟨hx, hb, hml, hown, hts, hK, hD, hcl, hcf, hsf, rfl, rfl, rfl, hR1, hR2, hc1, hc2⟩ := hX
  subst hn
  match st, he with
  | .inl i :: .inr (.inr (C, j)) :: t', he =>
    intro ho hl H locs lsA hP hS hL
    obtain ⟨ht, he⟩ := zbeq (a := zty C) (b := 5) he
    obtain ⟨hi, he⟩ := zfel he
    have hq : (C, j) ∈ L := zmem (zk0 (zk1 ho)) (by rw [ht]; decide)
    obtain ⟨q0, hq0, hq1⟩ := zws_at (ad := ad) (cy := cy) h hq
    rw [zcon5 ht] at hq1
    have hi2 : i.toNatClampNeg < 4 := by have := hi; rw [hlen C ht] at this; unfold vp_in at this; omega
    exact va_aldq hx hb hK hP q0 4 hq1 rfl hi hd (hk _ ls (.inr (.inr (4, 1 + i.toNatClampNeg)) :: t') h he (zk2 (show zok L (.inr (.inr (4, 1 + i.toNatClampNeg))) from Or.inl (zclo.r5 hcl hq ht hi2)) (zk1 (zk1 ho))) hl H locs lsA hP hS hL)
theorem zs_aald5c {X : zCtx} {own : String} {cc : ByteArray} {nL pc nx : Nat} (hX : zXok X own cc nL) (hlen : ∀ C, zty C = 5 → zlen C = 4) (hd : decode cc pc = .ok (.aaload, 1)) (hn : pc + 1 = nx) : zSo X pc (zo_aald5c nx) := by
  intro K ls st h res he hk
  obtain ⟨⟨p, l, e, R, s, m, args, below, meth, c⟩, ⟨D, ad, cy, L, A, H0⟩, ⟨own9, cc9, nL9, Q, cf, sf⟩⟩ := X
  obtain ⟨hx, hb, hml, hown, hts, hK, hD, hcl, hcf, hsf, rfl, rfl, rfl, hR1, hR2, hc1, hc2⟩ := hX
  subst hn
  match st, he with
  | .inl i :: .inr (.inr (C, j)) :: t', he =>
    intro ho hl H locs lsA hP hS hL
    obtain ⟨ht, he⟩ := zbeq (a := zty C) (b := 5) he
    obtain ⟨hi0, he⟩ := zbrec he
    have hi := zin_in hi0
    have hq : (C, j) ∈ L := zmem (zk0 (zk1 ho)) (by rw [ht]; decide)
    obtain ⟨q0, hq0, hq1⟩ := zws_at (ad := ad) (cy := cy) h hq
    rw [zcon5 ht] at hq1
    have hi2 : i.toNatClampNeg < 4 := by have := hi; rw [hlen C ht] at this; unfold vp_in at this; omega
    exact va_aldq hx hb hK hP q0 4 hq1 rfl hi hd (hk _ ls (.inr (.inr (4, 1 + i.toNatClampNeg)) :: t') h he (zk2 (show zok L (.inr (.inr (4, 1 + i.toNatClampNeg))) from Or.inl (zclo.r5 hcl hq ht hi2)) (zk1 (zk1 ho))) hl H locs lsA hP hS hL)
theorem zs_aald6 {X : zCtx} {own : String} {cc : ByteArray} {nL pc nx : Nat} (hX : zXok X own cc nL) (hlen : ∀ C, zty C = 6 → zlen C = 16) (hd : decode cc pc = .ok (.aaload, 1)) (hn : pc + 1 = nx) : zSo X pc (zo_aald6 nx) := by
  intro K ls st h res he hk
  obtain ⟨⟨p, l, e, R, s, m, args, below, meth, c⟩, ⟨D, ad, cy, L, A, H0⟩, ⟨own9, cc9, nL9, Q, cf, sf⟩⟩ := X
  obtain ⟨hx, hb, hml, hown, hts, hK, hD, hcl, hcf, hsf, rfl, rfl, rfl, hR1, hR2, hc1, hc2⟩ := hX
  subst hn
  match st, he with
  | .inl i :: .inr (.inr (C, j)) :: t', he =>
    intro ho hl H locs lsA hP hS hL
    obtain ⟨ht, he⟩ := zbeq (a := zty C) (b := 6) he
    obtain ⟨hi, he⟩ := zfel he
    have hq : (C, j) ∈ L := zmem (zk0 (zk1 ho)) (by rw [ht]; decide)
    obtain ⟨q0, hq0, hq1⟩ := zws_at (ad := ad) (cy := cy) h hq
    rw [zcon6 ht] at hq1
    have hi2 : i.toNatClampNeg < 16 := by have := hi; rw [hlen C ht] at this; unfold vp_in at this; omega
    exact va_aldq hx hb hK hP q0 5 hq1 rfl hi hd (hk _ ls (.inr (.inr (8, 5 + i.toNatClampNeg)) :: t') h he (zk2 (show zok L (.inr (.inr (8, 5 + i.toNatClampNeg))) from Or.inl (zclo.r6 hcl hq ht hi2)) (zk1 (zk1 ho))) hl H locs lsA hP hS hL)
theorem zs_aald6c {X : zCtx} {own : String} {cc : ByteArray} {nL pc nx : Nat} (hX : zXok X own cc nL) (hlen : ∀ C, zty C = 6 → zlen C = 16) (hd : decode cc pc = .ok (.aaload, 1)) (hn : pc + 1 = nx) : zSo X pc (zo_aald6c nx) := by
  intro K ls st h res he hk
  obtain ⟨⟨p, l, e, R, s, m, args, below, meth, c⟩, ⟨D, ad, cy, L, A, H0⟩, ⟨own9, cc9, nL9, Q, cf, sf⟩⟩ := X
  obtain ⟨hx, hb, hml, hown, hts, hK, hD, hcl, hcf, hsf, rfl, rfl, rfl, hR1, hR2, hc1, hc2⟩ := hX
  subst hn
  match st, he with
  | .inl i :: .inr (.inr (C, j)) :: t', he =>
    intro ho hl H locs lsA hP hS hL
    obtain ⟨ht, he⟩ := zbeq (a := zty C) (b := 6) he
    obtain ⟨hi0, he⟩ := zbrec he
    have hi := zin_in hi0
    have hq : (C, j) ∈ L := zmem (zk0 (zk1 ho)) (by rw [ht]; decide)
    obtain ⟨q0, hq0, hq1⟩ := zws_at (ad := ad) (cy := cy) h hq
    rw [zcon6 ht] at hq1
    have hi2 : i.toNatClampNeg < 16 := by have := hi; rw [hlen C ht] at this; unfold vp_in at this; omega
    exact va_aldq hx hb hK hP q0 5 hq1 rfl hi hd (hk _ ls (.inr (.inr (8, 5 + i.toNatClampNeg)) :: t') h he (zk2 (show zok L (.inr (.inr (8, 5 + i.toNatClampNeg))) from Or.inl (zclo.r6 hcl hq ht hi2)) (zk1 (zk1 ho))) hl H locs lsA hP hS hL)
theorem zs_iast {X : zCtx} {own : String} {cc : ByteArray} {nL pc nx : Nat} (hX : zXok X own cc nL) (hd : decode cc pc = .ok (.iastore, 1)) (hn : pc + 1 = nx) : zSo X pc (zo_iast nx) := by
  intro K ls st h res he hk
  obtain ⟨⟨p, l, e, R, s, m, args, below, meth, c⟩, ⟨D, ad, cy, L, A, H0⟩, ⟨own9, cc9, nL9, Q, cf, sf⟩⟩ := X
  obtain ⟨hx, hb, hml, hown, hts, hK, hD, hcl, hcf, hsf, rfl, rfl, rfl, hR1, hR2, hc1, hc2⟩ := hX
  subst hn
  match st, he with
  | .inl x :: .inl i :: .inr (.inr (C, j)) :: t', he =>
    intro ho hl H locs lsA hP hS hL
    obtain ⟨ht, he⟩ := zbeq (a := zty C) (b := 1) he
    obtain ⟨hi, he⟩ := zfel he
    have hq : (C, j) ∈ L := zmem (zk0 (zk1 (zk1 ho))) (by rw [ht]; decide)
    obtain ⟨q0, hq0, hq1⟩ := zws_at (ad := ad) (cy := cy) h hq
    rw [zcon1 ht] at hq1
    refine va_iast hx hb hK hP (hD h) hS q0 0 hq1 rfl hi hd (fun H1 locs1 hP1 hD1 hS1 => ?_)
    have hset : (zws ad cy L h).set q0 (ad C j, .inl (cy 1, zlen C, .inl (upd (h.1 C j) i.toNatClampNeg x))) = zws ad cy L (zuI h C j i.toNatClampNeg x) := zws_set (zclo.nodup hcl) hq0 (by rw [zcon1 ht]; simp [zuI, upd]; rfl) (fun q hne => (zcon_congr (zuI_other hne) rfl))
    rw [hset] at hP1
    exact hk _ ls t' (zuI h C j i.toNatClampNeg x) he (zk1 (zk1 (zk1 ho))) hl H1 locs1 lsA hP1 hS1 hL
theorem zs_iastc {X : zCtx} {own : String} {cc : ByteArray} {nL pc nx : Nat} (hX : zXok X own cc nL) (hd : decode cc pc = .ok (.iastore, 1)) (hn : pc + 1 = nx) : zSo X pc (zo_iastc nx) := by
  intro K ls st h res he hk
  obtain ⟨⟨p, l, e, R, s, m, args, below, meth, c⟩, ⟨D, ad, cy, L, A, H0⟩, ⟨own9, cc9, nL9, Q, cf, sf⟩⟩ := X
  obtain ⟨hx, hb, hml, hown, hts, hK, hD, hcl, hcf, hsf, rfl, rfl, rfl, hR1, hR2, hc1, hc2⟩ := hX
  subst hn
  match st, he with
  | .inl x :: .inl i :: .inr (.inr (C, j)) :: t', he =>
    intro ho hl H locs lsA hP hS hL
    obtain ⟨ht, he⟩ := zbeq (a := zty C) (b := 1) he
    obtain ⟨hi0, he⟩ := zbrec he
    have hi := zin_in hi0
    have hq : (C, j) ∈ L := zmem (zk0 (zk1 (zk1 ho))) (by rw [ht]; decide)
    obtain ⟨q0, hq0, hq1⟩ := zws_at (ad := ad) (cy := cy) h hq
    rw [zcon1 ht] at hq1
    refine va_iast hx hb hK hP (hD h) hS q0 0 hq1 rfl hi hd (fun H1 locs1 hP1 hD1 hS1 => ?_)
    have hset : (zws ad cy L h).set q0 (ad C j, .inl (cy 1, zlen C, .inl (upd (h.1 C j) i.toNatClampNeg x))) = zws ad cy L (zuI h C j i.toNatClampNeg x) := zws_set (zclo.nodup hcl) hq0 (by rw [zcon1 ht]; simp [zuI, upd]; rfl) (fun q hne => (zcon_congr (zuI_other hne) rfl))
    rw [hset] at hP1
    exact hk _ ls t' (zuI h C j i.toNatClampNeg x) he (zk1 (zk1 (zk1 ho))) hl H1 locs1 lsA hP1 hS1 hL
theorem zs_last {X : zCtx} {own : String} {cc : ByteArray} {nL pc nx : Nat} (hX : zXok X own cc nL) (hd : decode cc pc = .ok (.lastore, 1)) (hn : pc + 1 = nx) : zSo X pc (zo_last nx) := by
  intro K ls st h res he hk
  obtain ⟨⟨p, l, e, R, s, m, args, below, meth, c⟩, ⟨D, ad, cy, L, A, H0⟩, ⟨own9, cc9, nL9, Q, cf, sf⟩⟩ := X
  obtain ⟨hx, hb, hml, hown, hts, hK, hD, hcl, hcf, hsf, rfl, rfl, rfl, hR1, hR2, hc1, hc2⟩ := hX
  subst hn
  match st, he with
  | .inr (.inl x) :: .inl i :: .inr (.inr (C, j)) :: t', he =>
    intro ho hl H locs lsA hP hS hL
    obtain ⟨ht, he⟩ := zbeq (a := zty C) (b := 2) he
    obtain ⟨hi, he⟩ := zfel he
    have hq : (C, j) ∈ L := zmem (zk0 (zk1 (zk1 ho))) (by rw [ht]; decide)
    obtain ⟨q0, hq0, hq1⟩ := zws_at (ad := ad) (cy := cy) h hq
    rw [zcon2 ht] at hq1
    refine va_last hx hb hK hP (hD h) hS q0 1 hq1 rfl hi hd (fun H1 locs1 hP1 hD1 hS1 => ?_)
    have hset : (zws ad cy L h).set q0 (ad C j, .inl (cy 2, zlen C, .inr (.inl (vp_updL (h.2 C j) i.toNatClampNeg x)))) = zws ad cy L (zuJ h C j i.toNatClampNeg x) := zws_set (zclo.nodup hcl) hq0 (by rw [zcon2 ht]; simp [zuJ, vp_updL]; rfl) (fun q hne => (zcon_congr rfl (zuJ_other hne)))
    rw [hset] at hP1
    exact hk _ ls t' (zuJ h C j i.toNatClampNeg x) he (zk1 (zk1 (zk1 ho))) hl H1 locs1 lsA hP1 hS1 hL
theorem zs_lastc {X : zCtx} {own : String} {cc : ByteArray} {nL pc nx : Nat} (hX : zXok X own cc nL) (hd : decode cc pc = .ok (.lastore, 1)) (hn : pc + 1 = nx) : zSo X pc (zo_lastc nx) := by
  intro K ls st h res he hk
  obtain ⟨⟨p, l, e, R, s, m, args, below, meth, c⟩, ⟨D, ad, cy, L, A, H0⟩, ⟨own9, cc9, nL9, Q, cf, sf⟩⟩ := X
  obtain ⟨hx, hb, hml, hown, hts, hK, hD, hcl, hcf, hsf, rfl, rfl, rfl, hR1, hR2, hc1, hc2⟩ := hX
  subst hn
  match st, he with
  | .inr (.inl x) :: .inl i :: .inr (.inr (C, j)) :: t', he =>
    intro ho hl H locs lsA hP hS hL
    obtain ⟨ht, he⟩ := zbeq (a := zty C) (b := 2) he
    obtain ⟨hi0, he⟩ := zbrec he
    have hi := zin_in hi0
    have hq : (C, j) ∈ L := zmem (zk0 (zk1 (zk1 ho))) (by rw [ht]; decide)
    obtain ⟨q0, hq0, hq1⟩ := zws_at (ad := ad) (cy := cy) h hq
    rw [zcon2 ht] at hq1
    refine va_last hx hb hK hP (hD h) hS q0 1 hq1 rfl hi hd (fun H1 locs1 hP1 hD1 hS1 => ?_)
    have hset : (zws ad cy L h).set q0 (ad C j, .inl (cy 2, zlen C, .inr (.inl (vp_updL (h.2 C j) i.toNatClampNeg x)))) = zws ad cy L (zuJ h C j i.toNatClampNeg x) := zws_set (zclo.nodup hcl) hq0 (by rw [zcon2 ht]; simp [zuJ, vp_updL]; rfl) (fun q hne => (zcon_congr rfl (zuJ_other hne)))
    rw [hset] at hP1
    exact hk _ ls t' (zuJ h C j i.toNatClampNeg x) he (zk1 (zk1 (zk1 ho))) hl H1 locs1 lsA hP1 hS1 hL
theorem zs_bast {X : zCtx} {own : String} {cc : ByteArray} {nL pc nx : Nat} (hX : zXok X own cc nL) (hd : decode cc pc = .ok (.bastore, 1)) (hn : pc + 1 = nx) : zSo X pc (zo_bast nx) := by
  intro K ls st h res he hk
  obtain ⟨⟨p, l, e, R, s, m, args, below, meth, c⟩, ⟨D, ad, cy, L, A, H0⟩, ⟨own9, cc9, nL9, Q, cf, sf⟩⟩ := X
  obtain ⟨hx, hb, hml, hown, hts, hK, hD, hcl, hcf, hsf, rfl, rfl, rfl, hR1, hR2, hc1, hc2⟩ := hX
  subst hn
  match st, he with
  | .inl x :: .inl i :: .inr (.inr (C, j)) :: t', he =>
    intro ho hl H locs lsA hP hS hL
    obtain ⟨ht, he⟩ := zbeq (a := zty C) (b := 3) he
    obtain ⟨hi, he⟩ := zfel he
    have hq : (C, j) ∈ L := zmem (zk0 (zk1 (zk1 ho))) (by rw [ht]; decide)
    obtain ⟨q0, hq0, hq1⟩ := zws_at (ad := ad) (cy := cy) h hq
    rw [zcon3 ht] at hq1
    refine va_bast hx hb hK hP (hD h) hS q0 2 hq1 rfl hi hd (fun H1 locs1 hP1 hD1 hS1 => ?_)
    have hset : (zws ad cy L h).set q0 (ad C j, .inl (cy 3, zlen C, .inl (upd (h.1 C j) i.toNatClampNeg (vp_nar .byte x)))) = zws ad cy L (zuI h C j i.toNatClampNeg (vp_nar .byte x)) := zws_set (zclo.nodup hcl) hq0 (by rw [zcon3 ht]; simp [zuI, upd]; rfl) (fun q hne => (zcon_congr (zuI_other hne) rfl))
    rw [hset] at hP1
    exact hk _ ls t' (zuI h C j i.toNatClampNeg (vp_nar .byte x)) he (zk1 (zk1 (zk1 ho))) hl H1 locs1 lsA hP1 hS1 hL
theorem zs_bastc {X : zCtx} {own : String} {cc : ByteArray} {nL pc nx : Nat} (hX : zXok X own cc nL) (hd : decode cc pc = .ok (.bastore, 1)) (hn : pc + 1 = nx) : zSo X pc (zo_bastc nx) := by
  intro K ls st h res he hk
  obtain ⟨⟨p, l, e, R, s, m, args, below, meth, c⟩, ⟨D, ad, cy, L, A, H0⟩, ⟨own9, cc9, nL9, Q, cf, sf⟩⟩ := X
  obtain ⟨hx, hb, hml, hown, hts, hK, hD, hcl, hcf, hsf, rfl, rfl, rfl, hR1, hR2, hc1, hc2⟩ := hX
  subst hn
  match st, he with
  | .inl x :: .inl i :: .inr (.inr (C, j)) :: t', he =>
    intro ho hl H locs lsA hP hS hL
    obtain ⟨ht, he⟩ := zbeq (a := zty C) (b := 3) he
    obtain ⟨hi0, he⟩ := zbrec he
    have hi := zin_in hi0
    have hq : (C, j) ∈ L := zmem (zk0 (zk1 (zk1 ho))) (by rw [ht]; decide)
    obtain ⟨q0, hq0, hq1⟩ := zws_at (ad := ad) (cy := cy) h hq
    rw [zcon3 ht] at hq1
    refine va_bast hx hb hK hP (hD h) hS q0 2 hq1 rfl hi hd (fun H1 locs1 hP1 hD1 hS1 => ?_)
    have hset : (zws ad cy L h).set q0 (ad C j, .inl (cy 3, zlen C, .inl (upd (h.1 C j) i.toNatClampNeg (vp_nar .byte x)))) = zws ad cy L (zuI h C j i.toNatClampNeg (vp_nar .byte x)) := zws_set (zclo.nodup hcl) hq0 (by rw [zcon3 ht]; simp [zuI, upd]; rfl) (fun q hne => (zcon_congr (zuI_other hne) rfl))
    rw [hset] at hP1
    exact hk _ ls t' (zuI h C j i.toNatClampNeg (vp_nar .byte x)) he (zk1 (zk1 (zk1 ho))) hl H1 locs1 lsA hP1 hS1 hL
theorem zs_zast {X : zCtx} {own : String} {cc : ByteArray} {nL pc nx : Nat} (hX : zXok X own cc nL) (hd : decode cc pc = .ok (.bastore, 1)) (hn : pc + 1 = nx) : zSo X pc (zo_zast nx) := by
  intro K ls st h res he hk
  obtain ⟨⟨p, l, e, R, s, m, args, below, meth, c⟩, ⟨D, ad, cy, L, A, H0⟩, ⟨own9, cc9, nL9, Q, cf, sf⟩⟩ := X
  obtain ⟨hx, hb, hml, hown, hts, hK, hD, hcl, hcf, hsf, rfl, rfl, rfl, hR1, hR2, hc1, hc2⟩ := hX
  subst hn
  match st, he with
  | .inl x :: .inl i :: .inr (.inr (C, j)) :: t', he =>
    intro ho hl H locs lsA hP hS hL
    obtain ⟨ht, he⟩ := zbeq (a := zty C) (b := 4) he
    obtain ⟨hi, he⟩ := zfel he
    have hq : (C, j) ∈ L := zmem (zk0 (zk1 (zk1 ho))) (by rw [ht]; decide)
    obtain ⟨q0, hq0, hq1⟩ := zws_at (ad := ad) (cy := cy) h hq
    rw [zcon4 ht] at hq1
    refine va_zast hx hb hK hP (hD h) hS q0 3 hq1 rfl hi hd (fun H1 locs1 hP1 hD1 hS1 => ?_)
    have hset : (zws ad cy L h).set q0 (ad C j, .inl (cy 4, zlen C, .inl (upd (h.1 C j) i.toNatClampNeg (vp_nar .boolean x)))) = zws ad cy L (zuI h C j i.toNatClampNeg (vp_nar .boolean x)) := zws_set (zclo.nodup hcl) hq0 (by rw [zcon4 ht]; simp [zuI, upd]; rfl) (fun q hne => (zcon_congr (zuI_other hne) rfl))
    rw [hset] at hP1
    exact hk _ ls t' (zuI h C j i.toNatClampNeg (vp_nar .boolean x)) he (zk1 (zk1 (zk1 ho))) hl H1 locs1 lsA hP1 hS1 hL
theorem zs_zastc {X : zCtx} {own : String} {cc : ByteArray} {nL pc nx : Nat} (hX : zXok X own cc nL) (hd : decode cc pc = .ok (.bastore, 1)) (hn : pc + 1 = nx) : zSo X pc (zo_zastc nx) := by
  intro K ls st h res he hk
  obtain ⟨⟨p, l, e, R, s, m, args, below, meth, c⟩, ⟨D, ad, cy, L, A, H0⟩, ⟨own9, cc9, nL9, Q, cf, sf⟩⟩ := X
  obtain ⟨hx, hb, hml, hown, hts, hK, hD, hcl, hcf, hsf, rfl, rfl, rfl, hR1, hR2, hc1, hc2⟩ := hX
  subst hn
  match st, he with
  | .inl x :: .inl i :: .inr (.inr (C, j)) :: t', he =>
    intro ho hl H locs lsA hP hS hL
    obtain ⟨ht, he⟩ := zbeq (a := zty C) (b := 4) he
    obtain ⟨hi0, he⟩ := zbrec he
    have hi := zin_in hi0
    have hq : (C, j) ∈ L := zmem (zk0 (zk1 (zk1 ho))) (by rw [ht]; decide)
    obtain ⟨q0, hq0, hq1⟩ := zws_at (ad := ad) (cy := cy) h hq
    rw [zcon4 ht] at hq1
    refine va_zast hx hb hK hP (hD h) hS q0 3 hq1 rfl hi hd (fun H1 locs1 hP1 hD1 hS1 => ?_)
    have hset : (zws ad cy L h).set q0 (ad C j, .inl (cy 4, zlen C, .inl (upd (h.1 C j) i.toNatClampNeg (vp_nar .boolean x)))) = zws ad cy L (zuI h C j i.toNatClampNeg (vp_nar .boolean x)) := zws_set (zclo.nodup hcl) hq0 (by rw [zcon4 ht]; simp [zuI, upd]; rfl) (fun q hne => (zcon_congr (zuI_other hne) rfl))
    rw [hset] at hP1
    exact hk _ ls t' (zuI h C j i.toNatClampNeg (vp_nar .boolean x)) he (zk1 (zk1 (zk1 ho))) hl H1 locs1 lsA hP1 hS1 hL
