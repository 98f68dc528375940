/-! Making cells: new, arrays, fields. -/
def cQ (X : cT) (n q : Nat) : Prop := match X with
  | ((_, _, _, _, s, _, _, _, _, _), _) => q = s.heap.size + n
def cR (X : cT) (n k : Nat) : Prop := match X with
  | ((_, _, _, R, _, _, _, _, _, _), _) => n ≤ R.cells ∧ k ≤ R.slots
/-- what the tables say of a class, number K -/
def zCL (K : Nat) (Cn : String) (N : Nat) : Prop := ∃ T : u_T, zcl[K]? = some (Cn, T, N) ∧ (∀ w ∈ u_ws Cn T N, w ∈ zT) ∧ Cond.instantiable Cn N ∈ zT ∧ Cond.initialized Cn ∈ zT ∧ ∃ ty : Nat → FieldType, (∀ k, k < N → parseFieldDescriptor (T k).2.2.1 = some (ty k)) ∧ ∀ j, j < N → defaultValue (ty j) = vp_V (zI0 K) j
theorem cr_new {X : cT} {own : String} {cc : ByteArray} {nL pc : Nat} {ls : Array Slot} {st : List Value} {w : va_W} {n k : Nat} (C : cX X own cc nL) {K idx N q : Nat} {Cn : String} (hC : zCL K Cn N) (hcl : Cond.classLink own idx Cn ∈ zT) (hq : cQ X n q) (hr : cR X (n + 1) (k + N)) (d : decode cc pc = .ok (.new idx, 3)) (kk : cW X (pc + 3) ls (.ref q :: st) (w ++ [(q, .inr (K, zI0 K))]) (n + 1) (k + N)) : cW X pc ls st w n k := by
  obtain ⟨⟨p, l, e, R, s, m, args, below, meth, c⟩, ⟨D, cy, A, Q⟩⟩ := X
  obtain ⟨hx, hb, hml, hown, hts, hK, hin, hA, hN, hR1, hR2⟩ := C
  obtain ⟨T, hc, hi, hins, hini, ty, hty, hfs⟩ := hC
  intro H locs hP hD hS hz
  have hKn := hK.1 K _ hc
  refine W.newcK hx hb hown (hts _ hcl) (hts _ hins) (hts _ hini) rfl d hr.1 hr.2 hKn.2.1 rfl fun H1 kC hkC e1 z1 o1 => ?_
  have hq : q = H.size := by rw [hz]; exact hq
  subst hq
  have hk : ∀ (k : Nat) (x : Nat × va_E), w[k]? = some x → H1[x.1]? = H[x.1]? := fun k x hx => o1 x.1 ((hP k x hx).lt)
  refine kk H1 locs ((hP.kept hk).app (fun k x hx => ?_)) (hD.push hP rfl (hA _ hS.1)) ⟨Nat.le_trans hS.1 (by omega), fun x h1 h2 => (o1 x (Nat.lt_of_lt_of_le h1 hS.1)).trans (hS.2.1 x h1 h2), hS.2.2⟩ (by rw [z1, hz]; omega)
  have hz9 : k < 1 := (List.getElem?_eq_some_iff.mp hx).1
  rw [show k = 0 by omega] at hx
  cases hx
  exact ⟨_, hc, (u_born ty hts hi hKn hkC e1 hty).to hfs⟩
/-- an array's type: its number among the types -/
def zAT (t : Nat) (at9 : ArrayType) (ty : FieldType) : Prop := newarray.typeOf at9 = ty ∧ Cond.arrayClass ty ∈ zT ∧ (∀ cy : Nat → ClassId, ∃ i : Nat, (ztys cy)[i]? = some (cy t, ty)) ∧ ∀ (U : State) (cA : ClassId), va_RA U cA ty → U.vm.findClass ("[" ++ ty.toString) = some cA
theorem cr_newa {X : cT} {own : String} {cc : ByteArray} {nL pc : Nat} {ls : Array Slot} {st : List Value} {w : va_W} {n k : Nat} (C : cX X own cc nL) {t N q : Nat} {at9 : ArrayType} {ty : FieldType} {v : Int32} {a0 : vp_A} (hT : zAT t at9 ty) (ha : ∀ cA : ClassId, vp_cell cA a0 = arrV cA N (fun _ => defaultValue ty)) (hv : v = nI N) (hN : N < 100000) (hby : componentBytes ty ≤ 8) (hq : cQ X n q) (hr : cR X (n + 1) (k + N)) (d : decode cc pc = .ok (.newarray at9, 2)) {E : va_E} (hE : match X with | (_, (_, cy, _, _)) => E = .inl (cy t, a0)) (kk : cW X (pc + 2) ls (.ref q :: st) (w ++ [(q, E)]) (n + 1) (k + N)) : cW X pc ls (.int v :: st) w n k := by
  obtain ⟨⟨p, l, e, R, s, m, args, below, meth, c⟩, ⟨D, cy, A, Q⟩⟩ := X
  obtain ⟨hx, hb, hml, hown, hts, hK, hin, hA, hN9, hR1, hR2⟩ := C
  obtain ⟨rfl, hac, hti, hra⟩ := hT
  obtain ⟨i, hi⟩ := hti cy
  have hE : E = .inl (cy t, a0) := hE
  subst hE
  subst hv
  intro H locs hP hD hS hz
  refine va_newaK hx hb (hts _ hac) rfl d rfl (nI_pos (by omega)) (nI_clamp (by omega)) (by have : N * componentBytes (newarray.typeOf at9) ≤ N * 8 := Nat.mul_le_mul_left N hby; omega) hr.1 hr.2 rfl fun H1 cA e1 z1 o1 hAr hNm => ?_
  have hcA : cA = cy t := Option.some.inj (hNm.symm.trans (hra s _ (hK.2 i _ hi).2))
  subst hcA
  have hq : q = H.size := by rw [hz]; exact hq
  subst hq
  have hk : ∀ (k : Nat) (x : Nat × va_E), w[k]? = some x → H1[x.1]? = H[x.1]? := fun k x hx => o1 x.1 ((hP k x hx).lt)
  refine kk H1 locs ((hP.kept hk).app (fun k x hx => ?_)) (hD.push hP rfl (hA _ hS.1)) ⟨Nat.le_trans hS.1 (by omega), fun x h1 h2 => (o1 x (Nat.lt_of_lt_of_le h1 hS.1)).trans (hS.2.1 x h1 h2), hS.2.2⟩ (by rw [z1, hz]; omega)
  have hz9 : k < 1 := (List.getElem?_eq_some_iff.mp hx).1
  rw [show k = 0 by omega] at hx
  cases hx
  show H1[H.size]? = some (vp_cell _ _)
  rw [ha]
  exact e1
theorem cr_newq {X : cT} {own : String} {cc : ByteArray} {nL pc : Nat} {ls : Array Slot} {st : List Value} {w : va_W} {n k : Nat} (C : cX X own cc nL) {t N q idx : Nat} {Cn : String} {v : Int32} (hcl : Cond.classLink own idx Cn ∈ zT) (hao : match X with | ((_, _, _, _, s, _, _, _, _, _), _) => va_AO Cn s) (hti : ∀ cy : Nat → ClassId, ∃ i : Nat, (ztys cy)[i]? = some (cy t, .object Cn)) (hv : v = nI N) (hN : N < 100000) (hq : cQ X n q) (hr : cR X (n + 1) (k + N)) (d : decode cc pc = .ok (.anewarray idx, 3)) {E : va_E} (hE : match X with | (_, (_, cy, _, _)) => E = .inl (cy t, N, .inr (.inr (.inr (.inr (fun _ => none)))))) (kk : cW X (pc + 3) ls (.ref q :: st) (w ++ [(q, E)]) (n + 1) (k + N)) : cW X pc ls (.int v :: st) w n k := by
  obtain ⟨⟨p, l, e, R, s, m, args, below, meth, c⟩, ⟨D, cy, A, Q⟩⟩ := X
  obtain ⟨hx, hb, hml, hown, hts, hK, hin, hA, hN9, hR1, hR2⟩ := C
  obtain ⟨i, hi⟩ := hti cy
  have hE : E = .inl (cy t, N, .inr (.inr (.inr (.inr (fun _ => none))))) := hE
  subst hE
  subst hv
  have hcl9 : (nI N).toNatClampNeg = N := nI_clamp (by omega)
  intro H locs hP hD hS hz
  refine W.anew hx hb hown (hts _ hcl) (va_AO.use hao) rfl d rfl (nI_pos (by omega)) (by rw [hcl9]; omega) hr.1 (by rw [hcl9]; exact hr.2) fun cA kA comp f1 f2 f3 f4 => ?_
  rw [hcl9]
  have hcA : cA = cy t := by
    obtain ⟨kA9, comp9, -, -, -, h9⟩ := (hK.2 i _ hi).2
    exact Option.some.inj (f1.symm.trans h9)
  subst hcA
  generalize hH1 : H.push ({ cls := cy t, slots := Array.replicate N .null, vm := .none } : Cell) = H1
  have z1 : H1.size = H.size + 1 := by rw [← hH1, Array.size_push]
  have e1 : H1[H.size]? = some (arrV (cy t) N (fun _ => .null)) := by rw [← hH1, Array.getElem?_push_size, ← arrV_new]
  have o1 : ∀ q : Nat, q < H.size → H1[q]? = H[q]? := fun q hq => by rw [← hH1, Array.getElem?_push, if_neg (Nat.ne_of_lt hq)]
  have hq : q = H.size := by rw [hz]; exact hq
  subst hq
  have hk : ∀ (k : Nat) (x : Nat × va_E), w[k]? = some x → H1[x.1]? = H[x.1]? := fun k x hx => o1 x.1 ((hP k x hx).lt)
  refine kk H1 locs ((hP.kept hk).app (fun k x hx => ?_)) (hD.push hP rfl (hA _ hS.1)) ⟨Nat.le_trans hS.1 (by omega), fun x h1 h2 => (o1 x (Nat.lt_of_lt_of_le h1 hS.1)).trans (hS.2.1 x h1 h2), hS.2.2⟩ (by rw [z1, hz]; omega)
  have hz9 : k < 1 := (List.getElem?_eq_some_iff.mp hx).1
  rw [show k = 0 by omega] at hx
  cases hx
  show H1[H.size]? = some (vp_cell _ _)
  rw [vp_cell_q]
  exact e1
/-- a field of a class, and the link to it -/
def zPF (own : String) (idx K k : Nat) (fin : Bool) (ty : FieldType) : Prop := ∃ (Cn : String) (T : u_T) (N : Nat) (ty0 : Nat → FieldType), zcl[K]? = some (Cn, T, N) ∧ (∀ w ∈ u_ws Cn T N, w ∈ zT) ∧ (∀ k, k < N → parseFieldDescriptor (T k).2.2.1 = some (ty0 k)) ∧ (∀ a, a < N → ∀ b, b < N → a ≠ b → (T a).2.1 ≠ (T b).2.1) ∧ k < N ∧ Cond.fieldLink own idx (T k).1 (T k).2.1 (T k).2.2.1 ∈ zT ∧ (T k).2.2.2 = fin ∧ (T k).1 = own ∧ parseFieldDescriptor (T k).2.2.1 = some ty
theorem cr_putF {X : cT} {own : String} {cc : ByteArray} {nL pc : Nat} {ls : Array Slot} {st : List Value} {w : va_W} {n k : Nat} (C : cX X own cc nL) {K kf idx a : Nat} {fs : List Value} {ty : FieldType} {v : Value} (hF : zPF own idx K kf true ty) (hn : narrow ty v = v) (hfit : fits ty v = true) (hl : kf < fs.length) (d : decode cc pc = .ok (.putfield idx, 3)) (kk : cW X (pc + 3) ls st ((a, .inr (K, fs.set kf v)) :: w) n k) : cW X pc ls (v :: .ref a :: st) ((a, .inr (K, fs)) :: w) n k := by
  obtain ⟨⟨p, l, e, R, s, m, args, below, meth, c⟩, ⟨D, cy, A, Q⟩⟩ := X
  obtain ⟨hx, hb, hml, hown, hts, hK, hin, hA, hN, hR1, hR2⟩ := C
  obtain ⟨Cn, T, N, ty0, hc, hi, hty, hnm, hkN, hlk, hfin, hdecl, hpd⟩ := hF
  intro H locs hP hD hS hz
  refine va_putF hx hb hts hi ty0 hty hnm hown hK hP hD hS.here 0 rfl hc kf hkN (hts _ hlk) (fun _ q => q) hfin hin hdecl hpd hn hfit hl d (fun H1 locs1 hP1 hD1 hS1 => ?_)
  have hS2 := hS.then hS1
  refine zc_sized (by have := hS1.1; omega) (fun hz1 => ?_)
  exact kk H1 locs1 hP1 hD1 hS2 hz1
theorem cr_put {X : cT} {own : String} {cc : ByteArray} {nL pc : Nat} {ls : Array Slot} {st : List Value} {w : va_W} {n k : Nat} (C : cX X own cc nL) {K kf idx a : Nat} {fs : List Value} {ty : FieldType} {v : Value} (hF : zPF own idx K kf false ty) (hn : narrow ty v = v) (hfit : fits ty v = true) (hl : kf < fs.length) (d : decode cc pc = .ok (.putfield idx, 3)) (kk : cW X (pc + 3) ls st ((a, .inr (K, fs.set kf v)) :: w) n k) : cW X pc ls (v :: .ref a :: st) ((a, .inr (K, fs)) :: w) n k := by
  obtain ⟨⟨p, l, e, R, s, m, args, below, meth, c⟩, ⟨D, cy, A, Q⟩⟩ := X
  obtain ⟨hx, hb, hml, hown, hts, hK, hin, hA, hN, hR1, hR2⟩ := C
  obtain ⟨Cn, T, N, ty0, hc, hi, hty, hnm, hkN, hlk, hfin, hdecl, hpd⟩ := hF
  intro H locs hP hD hS hz
  refine va_put hx hb hts hi ty0 hty hnm hown hK hP hD hS.here 0 rfl hc kf hkN (hts _ hlk) (fun _ q => q) hfin hpd hn hfit hl d (fun H1 locs1 hP1 hD1 hS1 => ?_)
  have hS2 := hS.then hS1
  refine zc_sized (by have := hS1.1; omega) (fun hz1 => ?_)
  exact kk H1 locs1 hP1 hD1 hS2 hz1
/-- a field is read: of the cell at place q0 of the world -/
theorem cr_get {X : cT} {own : String} {cc : ByteArray} {nL pc : Nat} {ls : Array Slot} {st : List Value} {w : va_W} {n k : Nat} (C : cX X own cc nL) {K kf idx a : Nat} {fs : List Value} {v : Value} {ci : Nat} (q0 : Nat) (he : w[q0]? = some (a, .inr (K, fs))) (hF : ∃ (Cn : String) (T : u_T) (N : Nat), zcl[K]? = some (Cn, T, N) ∧ (∀ w ∈ u_ws Cn T N, w ∈ zT) ∧ kf < N ∧ Cond.fieldLink own idx (T kf).1 (T kf).2.1 (T kf).2.2.1 ∈ zT) (hv : fs[kf]? = some v) (_ : ci = K) (d : decode cc pc = .ok (.getfield idx, 3)) (kk : cW X (pc + 3) ls (v :: st) w n k) : cW X pc ls (.ref a :: st) w n k := by
  obtain ⟨⟨p, l, e, R, s, m, args, below, meth, c⟩, ⟨D, cy, A, Q⟩⟩ := X
  obtain ⟨hx, hb, hml, hown, hts, hK, hin, hA, hN, hR1, hR2⟩ := C
  obtain ⟨Cn, T, N, hc, hi, hkN, hlk⟩ := hF
  intro H locs hP hD hS hz
  exact va_get hx hb hts hi hown hK hP q0 he hc kf hkN (hts _ hlk) (fun _ q => q) hv d (kk H locs hP hD hS hz)
