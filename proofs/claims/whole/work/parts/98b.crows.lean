/-! More rows for the constructors: locals, branches, text, arrays of references. (By program: wip/whole/src/crows.py) -/
theorem cr_iload_n {X : cT} {own : String} {cc : ByteArray} {nL pc : Nat} {ls : Array Slot} {st : List Value} {w : va_W} {n k : Nat} (C : cX X own cc nL) {i : Fin 4} {j : Nat} {x : Int32} {lv : List (Nat × Value)} (hl : lv_has ls nL lv) (d : decode cc pc = .ok (.iload_n i, 1)) (hj : lv[j]? = some (i.val, .int x)) (kk : cW X (pc + 1) ls (.int x :: st) w n k) : cW X pc ls st w n k := by
  obtain ⟨⟨p, l, e, R, s, m, args, below, meth, c⟩, ⟨D, cy, A, Q⟩⟩ := X
  obtain ⟨hx, hb, hml, hown, hts, hK, hin, hA, hN, hR1, hR2⟩ := C
  intro H locs hP hD hS hz
  exact lv_iload_n hx hb d rfl (lv_at hl j hj) (kk H locs hP hD hS hz)
theorem cr_iload {X : cT} {own : String} {cc : ByteArray} {nL pc : Nat} {ls : Array Slot} {st : List Value} {w : va_W} {n k : Nat} (C : cX X own cc nL) {i j : Nat} {x : Int32} {lv : List (Nat × Value)} (hl : lv_has ls nL lv) (d : decode cc pc = .ok (.iload i, 2)) (hj : lv[j]? = some (i, .int x)) (kk : cW X (pc + 2) ls (.int x :: st) w n k) : cW X pc ls st w n k := by
  obtain ⟨⟨p, l, e, R, s, m, args, below, meth, c⟩, ⟨D, cy, A, Q⟩⟩ := X
  obtain ⟨hx, hb, hml, hown, hts, hK, hin, hA, hN, hR1, hR2⟩ := C
  intro H locs hP hD hS hz
  exact lv_iload hx hb d (lv_at hl j hj) (kk H locs hP hD hS hz)
theorem cr_lload_n {X : cT} {own : String} {cc : ByteArray} {nL pc : Nat} {ls : Array Slot} {st : List Value} {w : va_W} {n k : Nat} (C : cX X own cc nL) {i : Fin 4} {j : Nat} {x : Int64} {lv : List (Nat × Value)} (hl : lv_has ls nL lv) (d : decode cc pc = .ok (.lload_n i, 1)) (hj : lv[j]? = some (i.val, .long x)) (kk : cW X (pc + 1) ls (.long x :: st) w n k) : cW X pc ls st w n k := by
  obtain ⟨⟨p, l, e, R, s, m, args, below, meth, c⟩, ⟨D, cy, A, Q⟩⟩ := X
  obtain ⟨hx, hb, hml, hown, hts, hK, hin, hA, hN, hR1, hR2⟩ := C
  intro H locs hP hD hS hz
  exact lv_lload_n hx hb d rfl (lv_at hl j hj) (kk H locs hP hD hS hz)
theorem cr_lconst {X : cT} {own : String} {cc : ByteArray} {nL pc : Nat} {ls : Array Slot} {st : List Value} {w : va_W} {n k : Nat} (C : cX X own cc nL) {i : Fin 2} {v : Int64} (d : decode cc pc = .ok (.lconst i, 1)) (hv : Int64.ofNat (i : Nat) = v) (kk : cW X (pc + 1) ls (.long v :: st) w n k) : cW X pc ls st w n k := by
  obtain ⟨⟨p, l, e, R, s, m, args, below, meth, c⟩, ⟨D, cy, A, Q⟩⟩ := X
  obtain ⟨hx, hb, hml, hown, hts, hK, hin, hA, hN, hR1, hR2⟩ := C
  intro H locs hP hD hS hz
  exact lv_lconst hx hb d hv (kk H locs hP hD hS hz)
theorem cr_istore_n {X : cT} {own : String} {cc : ByteArray} {nL pc : Nat} {ls : Array Slot} {st : List Value} {w : va_W} {n k : Nat} (C : cX X own cc nL) {i : Fin 4} {x : Int32} {lv lv' : List (Nat × Value)} (hl : lv_has ls nL lv) (d : decode cc pc = .ok (.istore_n i, 1)) (hi : i.val < nL) (e9 : (i.val, Value.int x) :: lv.filter (fun q => !(q.1 == i.val) && !(q.1 + 1 == i.val && q.2.category == 2)) = lv') (kk : ∀ ls' : Array Slot, lv_has ls' nL lv' → cW X (pc + 1) ls' st w n k) : cW X pc ls (.int x :: st) w n k := by
  obtain ⟨⟨p, l, e, R, s, m, args, below, meth, c⟩, ⟨D, cy, A, Q⟩⟩ := X
  obtain ⟨hx, hb, hml, hown, hts, hK, hin, hA, hN, hR1, hR2⟩ := C
  intro H locs hP hD hS hz
  exact lv_istore_n hx hb d rfl hl hi e9 (fun ls9 h9 => kk ls9 h9 H locs hP hD hS hz)
theorem cr_istore {X : cT} {own : String} {cc : ByteArray} {nL pc : Nat} {ls : Array Slot} {st : List Value} {w : va_W} {n k : Nat} (C : cX X own cc nL) {i : Nat} {x : Int32} {lv lv' : List (Nat × Value)} (hl : lv_has ls nL lv) (d : decode cc pc = .ok (.istore i, 2)) (hi : i < nL) (e9 : (i, Value.int x) :: lv.filter (fun q => !(q.1 == i) && !(q.1 + 1 == i && q.2.category == 2)) = lv') (kk : ∀ ls' : Array Slot, lv_has ls' nL lv' → cW X (pc + 2) ls' st w n k) : cW X pc ls (.int x :: st) w n k := by
  obtain ⟨⟨p, l, e, R, s, m, args, below, meth, c⟩, ⟨D, cy, A, Q⟩⟩ := X
  obtain ⟨hx, hb, hml, hown, hts, hK, hin, hA, hN, hR1, hR2⟩ := C
  intro H locs hP hD hS hz
  exact lv_istore hx hb d hl hi e9 (fun ls9 h9 => kk ls9 h9 H locs hP hD hS hz)
theorem cr_lstore_n {X : cT} {own : String} {cc : ByteArray} {nL pc : Nat} {ls : Array Slot} {st : List Value} {w : va_W} {n k : Nat} (C : cX X own cc nL) {i : Fin 4} {x : Int64} {lv lv' : List (Nat × Value)} (hl : lv_has ls nL lv) (d : decode cc pc = .ok (.lstore_n i, 1)) (hi : i.val + 1 < nL) (e9 : (i.val, Value.long x) :: lv.filter (fun q => !(q.1 == i.val) && (!(q.1 == i.val + 1) && !(q.1 + 1 == i.val && q.2.category == 2))) = lv') (kk : ∀ ls' : Array Slot, lv_has ls' nL lv' → cW X (pc + 1) ls' st w n k) : cW X pc ls (.long x :: st) w n k := by
  obtain ⟨⟨p, l, e, R, s, m, args, below, meth, c⟩, ⟨D, cy, A, Q⟩⟩ := X
  obtain ⟨hx, hb, hml, hown, hts, hK, hin, hA, hN, hR1, hR2⟩ := C
  intro H locs hP hD hS hz
  exact lv_lstore_n hx hb d rfl hl hi e9 (fun ls9 h9 => kk ls9 h9 H locs hP hD hS hz)
theorem cr_iinc {X : cT} {own : String} {cc : ByteArray} {nL pc : Nat} {ls : Array Slot} {st : List Value} {w : va_W} {n k : Nat} (C : cX X own cc nL) {i j : Nat} {t : Int} {x v : Int32} {lv lv' : List (Nat × Value)} (hl : lv_has ls nL lv) (d : decode cc pc = .ok (.iinc i t, 3)) (hj : lv[j]? = some (i, .int x)) (hv : x + Int32.ofInt t = v) (hi : i < nL) (e9 : (i, Value.int v) :: lv.filter (fun q => !(q.1 == i) && !(q.1 + 1 == i && q.2.category == 2)) = lv') (kk : ∀ ls' : Array Slot, lv_has ls' nL lv' → cW X (pc + 3) ls' st w n k) : cW X pc ls st w n k := by
  obtain ⟨⟨p, l, e, R, s, m, args, below, meth, c⟩, ⟨D, cy, A, Q⟩⟩ := X
  obtain ⟨hx, hb, hml, hown, hts, hK, hin, hA, hN, hR1, hR2⟩ := C
  intro H locs hP hD hS hz
  exact lv_iinc hx hb d hl hj hv hi e9 (fun ls9 h9 => kk ls9 h9 H locs hP hD hS hz)
theorem cr_goto {X : cT} {own : String} {cc : ByteArray} {nL pc : Nat} {ls : Array Slot} {st : List Value} {w : va_W} {n k : Nat} (C : cX X own cc nL) {off : Int} {tgt : Nat} (d : decode cc pc = .ok (.goto off, 3)) (ht : (pc : Int) + off = (tgt : Int)) (kk : cW X tgt ls st w n k) : cW X pc ls st w n k := by
  obtain ⟨⟨p, l, e, R, s, m, args, below, meth, c⟩, ⟨D, cy, A, Q⟩⟩ := X
  obtain ⟨hx, hb, hml, hown, hts, hK, hin, hA, hN, hR1, hR2⟩ := C
  intro H locs hP hD hS hz
  exact lv_goto hx hb d ht (kk H locs hP hD hS hz)
theorem cr_icge {X : cT} {own : String} {cc : ByteArray} {nL pc : Nat} {ls : Array Slot} {st : List Value} {w : va_W} {n k : Nat} (C : cX X own cc nL) {x y : Int32} {off : Int} {tgt : Nat} (d : decode cc pc = .ok (.if_icmp .ge off, 3)) (ht : (pc : Int) + off = (tgt : Int)) (kt : y ≤ x → cW X tgt ls st w n k) (kf : ¬ y ≤ x → cW X (pc + 3) ls st w n k) : cW X pc ls (.int y :: .int x :: st) w n k := by
  obtain ⟨⟨p, l, e, R, s, m, args, below, meth, c⟩, ⟨D, cy, A, Q⟩⟩ := X
  obtain ⟨hx, hb, hml, hown, hts, hK, hin, hA, hN, hR1, hR2⟩ := C
  intro H locs hP hD hS hz
  exact lv_icmp_ge hx hb d ht (fun q => kt q H locs hP hD hS hz) (fun q => kf q H locs hP hD hS hz)
theorem cr_icne {X : cT} {own : String} {cc : ByteArray} {nL pc : Nat} {ls : Array Slot} {st : List Value} {w : va_W} {n k : Nat} (C : cX X own cc nL) {x y : Int32} {off : Int} {tgt : Nat} (d : decode cc pc = .ok (.if_icmp .ne off, 3)) (ht : (pc : Int) + off = (tgt : Int)) (kt : ¬ x = y → cW X tgt ls st w n k) (kf : x = y → cW X (pc + 3) ls st w n k) : cW X pc ls (.int y :: .int x :: st) w n k := by
  obtain ⟨⟨p, l, e, R, s, m, args, below, meth, c⟩, ⟨D, cy, A, Q⟩⟩ := X
  obtain ⟨hx, hb, hml, hown, hts, hK, hin, hA, hN, hR1, hR2⟩ := C
  intro H locs hP hD hS hz
  exact lv_icmp_ne hx hb d ht (fun q => kt q H locs hP hD hS hz) (fun q => kf q H locs hP hD hS hz)
theorem cr_last {X : cT} {own : String} {cc : ByteArray} {nL pc : Nat} {ls : Array Slot} {st : List Value} {w : va_W} {n k : Nat} (C : cX X own cc nL) {a q0 N : Nat} {f : Nat → Int64} {i : Int32} {x : Int64} {t : Nat} {cA : ClassId} (he : w[q0]? = some (a, .inl (cA, N, .inr (.inl f)))) (ht : match X with | (_, (_, cy, _, _)) => (ztys cy)[t]? = some (cA, .long)) (hix : vp_in i N) (d : decode cc pc = .ok (.lastore, 1)) (kk : cW X (pc + 1) ls st (w.set q0 (a, .inl (cA, N, .inr (.inl (vp_updL f i.toNatClampNeg x))))) n k) : cW X pc ls (.long x :: .int i :: .ref a :: st) w n k := by
  obtain ⟨⟨p, l, e, R, s, m, args, below, meth, c⟩, ⟨D, cy, A, Q⟩⟩ := X
  obtain ⟨hx, hb, hml, hown, hts, hK, hin, hA, hN, hR1, hR2⟩ := C
  intro H locs hP hD hS hz
  refine va_last hx hb hK hP hD hS.here q0 t he ht hix d (fun H1 locs1 hP1 hD1 hS1 => ?_)
  have hS2 := hS.then hS1
  refine zc_sized (by have := hS1.1; omega) (fun hz1 => ?_)
  exact kk H1 locs1 hP1 hD1 hS2 hz1
theorem cr_astq {X : cT} {own : String} {cc : ByteArray} {nL pc : Nat} {ls : Array Slot} {st : List Value} {w : va_W} {n k : Nat} (C : cX X own cc nL) {a q0 qk ci N v t : Nat} {f f9 : Nat → Option Nat} {i : Int32} {cA : ClassId} {r : vw_C} {vs : List Value} (he : w[q0]? = some (a, .inl (cA, N, .inr (.inr (.inr (.inr f)))))) (ht : match X with | (_, (_, cy, _, _)) => (ztys cy)[t]? = some (cA, .object r.1)) (hv : w[qk]? = some (v, .inr (ci, vs))) (hc : zcl[ci]? = some r) (hix : vp_in i N) (hf : va_up f i.toNatClampNeg (some v) = f9) (d : decode cc pc = .ok (.aastore, 1)) (kk : cW X (pc + 1) ls st (w.set q0 (a, .inl (cA, N, .inr (.inr (.inr (.inr f9)))))) n k) : cW X pc ls (.ref v :: .int i :: .ref a :: st) w n k := by
  obtain ⟨⟨p, l, e, R, s, m, args, below, meth, c⟩, ⟨D, cy, A, Q⟩⟩ := X
  obtain ⟨hx, hb, hml, hown, hts, hK, hin, hA, hN, hR1, hR2⟩ := C
  intro H locs hP hD hS hz
  subst hf
  refine va_astq hx hb hK hP hD hS.here q0 t qk ci he ht hv hc hix d (fun H1 locs1 hP1 hD1 hS1 => ?_)
  have hS2 := hS.then hS1
  refine zc_sized (by have := hS1.1; omega) (fun hz1 => ?_)
  exact kk H1 locs1 hP1 hD1 hS2 hz1
theorem cr_ldcS {X : cT} {own : String} {cc : ByteArray} {nL pc : Nat} {ls : Array Slot} {st : List Value} {w : va_W} {n k : Nat} (C : cX X own cc nL) {idx q : Nat} {tx : String} (hZ : match X with | ((_, _, _, _, s, _, _, _, _, _), _) => vk_R own idx tx q s) (d : decode cc pc = .ok (.ldc idx, 2)) (kk : cW X (pc + 2) ls (.ref q :: st) w n k) : cW X pc ls st w n k := by
  obtain ⟨⟨p, l, e, R, s, m, args, below, meth, c⟩, ⟨D, cy, A, Q⟩⟩ := X
  obtain ⟨hx, hb, hml, hown, hts, hK, hin, hA, hN, hR1, hR2⟩ := C
  intro H locs hP hD hS hz
  exact va_ldcS hx hb hown hZ d (kk H locs hP hD hS hz)
/-- which cells may change: this, and those that are made -/
def cXa (X : cT) (ad : Nat → Nat → Nat) (K j : Nat) : Prop := match X with
  | ((_, _, _, _, s, _, _, _, _, _), (_, _, A, _)) => A = va_A [zth ad K j] s.heap.size
/-- what is known of the text, from outside -/
def zZ1 (b0 qK qV : Nat) (U : State) : Prop := zZs b0 qK qV U ∧ b0 ≤ U.heap.size
theorem zZ1.blind {b0 qK qV : Nat} : ∀ (U : State) (g : JFrame) (mk : MethodId) (a : Array Value), zZ1 b0 qK qV U → zZ1 b0 qK qV (U.calling g mk a) := fun _ _ _ _ h => ⟨h.1.blind, h.2⟩
theorem c_startZ {l : Launch} {D : va_G} {ad : Nat → Nat → Nat} {cy : Nat → ClassId} {d : Nat} {y : MethodName} {cc : ByteArray} {maxL K j : Nat} {as : List Value} {N : List (Nat × Nat)} {h : zH} {Z : State → Prop} (hy : plainName y.cls = true) (hyi : y.name = "<init>") (hlen : (lg_sl (Value.ref (ad K j) :: as)).length ≤ maxL)
    (body : ∀ (X : cT) (ls : Array Slot), cX X y.cls cc maxL → cXl X l D cy d N ad Z → cXa X ad K j → (∀ i q, N[i]? = some q → cQ X i (ad q.1 q.2)) → (∀ n k, n ≤ N.length → k ≤ zsl N → cR X n k) → lv_has ls maxL (lv_args 0 (.ref (ad K j) :: as)) →
      (∀ pc ls, decode cc pc = .ok (.return_, 1) → cW X pc ls [] (zws ad cy ((K, j) :: N) h) N.length (zsl N)) → cW X 0 ls [] [zth ad K j] 0 0) : zMi l D ad cy d y (.code y cc maxL none) K j as N h Z := by
  intro sz hat
  refine Met.ofW (cc := cc) (maxL := maxL) (ret := none) hy rfl ?_
  intro p e s m args below meth c s₁ B hml hv
  obtain ⟨rfl, rfl, hP0, hK, hNw, hZ⟩ := hv
  have hts := atoms_spec (ws := Cond.code y cc maxL none :: zT) B.pre
  have hown : s.vm.findClass y.cls = some m.cls := findClass_of_methodNamed B.named
  have hin : meth.name = y.name := (name_of_methodNamed B.named B.method).1
  have hl := lv_entry (Value.ref (ad K j) :: as) (n := maxL) hlen
  rw [lg_entry_eq]
  generalize (lg_sl (Value.ref (ad K j) :: as) ++ List.replicate (maxL - (lg_sl (Value.ref (ad K j) :: as)).length) Slot.unset).toArray = lsA at hl ⊢
  let X : cT := ((p, l, e, zroomI d N.length (zsl N), s, m, (Value.ref (ad K j) :: as).toArray, below, meth, c), (D, cy, va_A [zth ad K j] s.heap.size, MQ below (va_Qv (S := Unit) (fun _ => True) (fun _ t => zWi D ad cy K j N h s.heap.size t) (va_A [zth ad K j] s.heap.size)) (Value.ref (ad K j) :: as).toArray s N.length (zsl N) (va_A [zth ad K j] s.heap.size)))
  have C : cX X y.cls cc maxL := ⟨B.exec, B.bytes, hml, hown, fun w hw => hts w (List.mem_cons_of_mem _ hw), hK, hin.trans hyi, fun q hq => Or.inr hq, hNw, by simp only [zroomI]; omega, by simp only [zroomI]; omega⟩
  have key := body X lsA C ⟨rfl, rfl, rfl, rfl, hat, hZ⟩ rfl (fun i q hq => zat_get hat hq) (fun n k h1 h2 => ⟨h1, h2⟩) hl (fun pc ls hd H locs hP hD hS hz => W.vret B.exec B.bytes B.returns (fun t ht hW => ⟨⟨(), rfl, trivial, by rw [ht]; exact hz, by rw [ht]; exact hP, va_K.moved hW.alike hK, hD⟩, hS.F ht⟩) hS.2.2 hd B.notSynchronized)
  have hD0 : va_D (va_A [zth ad K j] s.heap.size) [zth ad K j] := ⟨fun i j' p q hi hj _ => by
    have h1 := (List.getElem?_eq_some_iff.mp hi).1
    have h2 := (List.getElem?_eq_some_iff.mp hj).1
    simp only [List.length_cons, List.length_nil] at h1 h2
    omega, fun k q hk => va_A.in hk⟩
  exact key s.heap [] hP0 hD0 va_S.rf rfl
/-- the text is known all along -/
theorem cz_Z {X : cT} {l : Launch} {D : va_G} {cy : Nat → ClassId} {d : Nat} {N : List (Nat × Nat)} {ad : Nat → Nat → Nat} {b0 qK qV K j : Nat} (hX : cXl X l D cy d N ad (zZ1 b0 qK qV)) (ha : cXa X ad K j) (hb : b0 ≤ ad K j) : match X with | ((_, _, _, _, s, _, _, _, _, _), (_, _, A, _)) => ∀ (H : Heap) (locs : List Loc) (U : State), va_S A s.heap H locs → U.heap = H → s.WarmedH U.vm → zZ1 b0 qK qV U := by
  obtain ⟨⟨p, l9, e, R, s, m, args, below, meth, c⟩, ⟨D9, cy9, A, Q⟩⟩ := X
  obtain ⟨rfl, rfl, rfl, rfl, hatN, hZs⟩ := hX
  have ha : A = va_A [zth ad K j] s.heap.size := ha
  intro H locs U hS hU hW
  refine ⟨zZs.warm hW (fun a h1 h2 => ?_) hZs.1, ?_⟩
  · rw [hU]
    refine hS.2.1 a h1 (fun q => h2 ?_)
    rw [ha] at q
    rcases q with ⟨k9, e9, h9⟩ | q
    · have h3 : k9 < 1 := (List.getElem?_eq_some_iff.mp h9).1
      rw [show k9 = 0 by omega] at h9
      have h4 := Option.some.inj h9
      have h5 : ad K j = a := congrArg Prod.fst h4
      show b0 ≤ a
      omega
    · exact Nat.le_trans hZs.2 q
  · rw [hU]; exact Nat.le_trans hZs.2 hS.1
theorem cz_R {X : cT} {l : Launch} {D : va_G} {cy : Nat → ClassId} {d : Nat} {N : List (Nat × Nat)} {ad : Nat → Nat → Nat} {b0 qK qV : Nat} (hX : cXl X l D cy d N ad (zZ1 b0 qK qV)) : match X with | ((_, _, _, _, s, _, _, _, _, _), _) => vk_R "SoapTreaty$Tokens" 19 zSx qK s := by
  obtain ⟨⟨p, l9, e, R, s, m, args, below, meth, c⟩, ⟨D9, cy9, A, Q⟩⟩ := X
  exact hX.2.2.2.2.2.1.1
/-- a method of the text is called -/
theorem cr_jVi {X : cT} {own : String} {cc : ByteArray} {nL pc : Nat} {ls : Array Slot} {rest : List Value} {w : va_W} {n k : Nat} (C : cX X own cc nL) {l : Launch} {D : va_G} {cy : Nat → ClassId} {d : Nat} {N : List (Nat × Nat)} {ad : Nat → Nat → Nat} {b0 qK qV K j : Nat} (hX : cXl X l D cy d N ad (zZ1 b0 qK qV)) (ha : cXa X ad K j) (hb0 : b0 ≤ ad K j) {r : Int32} {d2 idx maxL2 n2 : Nat} {y2 : MethodName} {bytes2 : ByteArray} {ret2 : FieldType} {as : List Value} (hM : zMj l d2 y2 bytes2 maxL2 ret2 (.ref qK :: as) (zZs b0 qK qV) r) (hm : zMW own idx y2 bytes2 maxL2 (some ret2) n2) (hy : y2.cls = "java/lang/String") (hd : d2 < d) (hn : as.length = n2) (hs : ls.size = nL) (hcat : (rest.map fun v => v.category).sum ≤ 8) (hr : cR X n k) (dd : decode cc pc = .ok (.invokevirtual idx, 3)) (kk : cW X (pc + 3) ls (.int r :: rest) w n k) : cW X pc ls (as.reverse ++ .ref qK :: rest) w n k := by
  have hZ := cz_Z hX ha hb0
  obtain ⟨⟨p, l9, e, R, s, m, args, below, meth, c⟩, ⟨D9, cy9, A, Q⟩⟩ := X
  obtain ⟨hx, hb, hml, hown, hts, hK, hin, hA, hN, hR1, hR2⟩ := C
  obtain ⟨rfl, rfl, rfl, rfl, hatN, hZs⟩ := hX
  intro H locs hP hD hS hz
  have hkp : ∀ a : Nat, a < s.heap.size → ¬ zSr b0 a → H[a]? = s.heap[a]? := fun a h1 h2 => by
    have ha : A = va_A [zth ad K j] s.heap.size := ha
    refine hS.2.1 a h1 (fun q => h2 ?_)
    rw [ha] at q
    rcases q with ⟨k9, e9, h9⟩ | q
    · have h3 : k9 < 1 := (List.getElem?_eq_some_iff.mp h9).1
      rw [show k9 = 0 by omega] at h9
      have h4 := Option.some.inj h9
      have h5 : ad K j = a := congrArg Prod.fst h4
      show b0 ≤ a
      omega
    · exact Nat.le_trans hZs.2 q
  refine jr_Vi (as := as) (rest := rest) (b := qK) hx hb hml hown hts hS hM hm (fun U g mk a q => q.blind) (fun U hU hW => (hZ H locs U hS hU hW).1) ?_ ⟨by simp only [zroomI]; omega, by simp only [zroomI]; omega⟩ hn hs hcat hr dd (fun H1 locs1 hz1 hk1 hS1 => ?_)
  · obtain ⟨cell, r1, r2, r3, -⟩ := hZs.1.2.1.kept hkp
    exact ⟨cell, r1, r2, by rw [hy]; exact r3⟩
  · refine zc_sized (by omega) (fun hz2 => ?_)
    exact kk H1 locs1 (hP.kept (fun k9 x hx9 => hk1 x.1 ((hP k9 x hx9).lt))) hD hS1 hz2
/-- a static method of the small machine that answers a long, over no cells -/
theorem cr_longer {X : cT} {own : String} {cc : ByteArray} {nL pc : Nat} {ls : Array Slot} {rest : List Value} {w : va_W} {n k : Nat} (C : cX X own cc nL) {l : Launch} {D : va_G} {cy : Nat → ClassId} {d : Nat} {N : List (Nat × Nat)} {ad : Nat → Nat → Nat} {Z : State → Prop} (hX : cXl X l D cy d N ad Z) {x r : Int64} {v : Int32} {idx : Nat} (hm : zMS own idx y_X10_longer prog_12_method_2_code 3 (some .long) 2) (he : x * 32 + ((v - 97) + 1).toInt64 = r) (hd : 1 < d) (hs : ls.size = nL) (hcat : (rest.map fun v => v.category).sum ≤ 8) (hr : cR X n k) (dd : decode cc pc = .ok (.invokestatic idx, 3)) (kk : cW X (pc + 3) ls (.long r :: rest) w n k) : cW X pc ls (.int v :: .long x :: rest) w n k := by
  obtain ⟨⟨p, l9, e, R, s, m, args, below, meth, c⟩, ⟨D9, cy9, A, Q⟩⟩ := X
  obtain ⟨hx, hb, hml, hown, hts, hK, hin, hA, hN, hR1, hR2⟩ := C
  obtain ⟨rfl, rfl, rfl, rfl, hatN, hZs⟩ := hX
  intro H locs hP hD hS hz
  have hMet := k_X10_longer (l := l9) (D := D9) (ad := ad) (cy := cy9) (L := []) (by decide +kernel) (fun q hq => by cases hq) _ hz0 _ (g_X10_longer x v hz0) (fun v9 hv9 => by rcases List.mem_cons.mp hv9 with rfl | hv9; trivial; rcases List.mem_cons.mp hv9 with rfl | hv9; trivial; cases hv9)
  obtain ⟨⟨f1, f2, f4, f5⟩, hmx, hn1, hn2, hn3⟩ := hm
  have hcw : CallB (zroomI d N.length (zsl N)) s args own idx y_X10_longer prog_12_method_2_code 3 (some .long) (Cond.code y_X10_longer prog_12_method_2_code 3 (some .long) :: zT) (zroom 1) 0 0 2 ∧ (Cond.static y_X10_longer).before args s = true := ⟨callB_of 2 hts (zgood f5) rfl rfl rfl (hts _ f4) (hts _ f1) ⟨hn1, hn2, hn3⟩ ⟨by simp only [zroom, zroomI]; omega, by simp only [zroom, zroomI]; omega⟩, hts _ f2⟩
  have hPS : PreS s H (va_Pc (([.inr (.inl x), .inl v] : List zV).map (zc ad)) (zWd D9 ad cy9 [] hz0)) [.long x, .int v] := ⟨zblind, fun U hU hW => ⟨rfl, (fun k9 q9 h9 => by cases h9), va_K.moved hW.alike hK⟩⟩
  refine va_calll (va_runS (As := [.long x, .int v]) (rest := rest) ⟨hx, hb, hml, hown, hts⟩ hMet hcw hPS rfl rfl hs rfl (lv_room hcat) dd hr) hS (fun q _ hq => by obtain ⟨r9, hr9, -⟩ := hq; cases hr9) (fun q hq => by obtain ⟨r9, hr9, -⟩ := hq; cases hr9) (fun r1 u t1 H1 locs1 ht1 hvm hw hB hz1 hk1 hS1 => ?_)
  have hw : r1 = r := by rw [← he]; exact hw
  subst hw
  refine zc_sized (by omega) (fun hz2 => ?_)
  exact kk H1 locs1 (hP.kept (fun k9 x9 hx9 => hk1 x9.1 ((hP k9 x9 hx9).lt) (fun hq => by obtain ⟨r9, hr9, -⟩ := hq; cases hr9))) hD hS1 hz2
theorem arrV_ext {c : ClassId} {N : Nat} {f g : Nat → Value} (h : ∀ j, j < N → f j = g j) : arrV c N f = arrV c N g := by
  have e : (fun j : Fin N => f j.val) = fun j : Fin N => g j.val := funext fun j => h j.val j.isLt
  unfold arrV
  rw [e]
/-- an array of references: what lies beyond its end is nobody's -/
theorem cW_arr {X : cT} {pc : Nat} {ls : Array Slot} {st : List Value} {n k a N : Nat} {cA : ClassId} {f g : Nat → Option Nat} {w1 w2 : va_W} (h : ∀ j, j < N → f j = g j) (kk : cW X pc ls st (w1 ++ (a, .inl (cA, N, .inr (.inr (.inr (.inr g))))) :: w2) n k) : cW X pc ls st (w1 ++ (a, .inl (cA, N, .inr (.inr (.inr (.inr f))))) :: w2) n k := by
  obtain ⟨⟨p, l, e, R, s, m, args, below, meth, c⟩, ⟨D, cy, A, Q⟩⟩ := X
  intro H locs hP hD hS hz
  refine kk H locs (fun i q hq => ?_) (va_D.addr (by simp) hD) hS hz
  rcases Nat.lt_trichotomy i w1.length with hi | hi | hi
  · rw [List.getElem?_append_left hi] at hq
    exact hP i q (by rw [List.getElem?_append_left hi]; exact hq)
  · subst hi
    rw [List.getElem?_append_right (Nat.le_refl _), Nat.sub_self] at hq
    have hq := (Option.some.inj hq).symm
    subst hq
    have h1 := hP w1.length (a, .inl (cA, N, .inr (.inr (.inr (.inr f))))) (by rw [List.getElem?_append_right (Nat.le_refl _), Nat.sub_self]; rfl)
    have h1 : H[a]? = some (vp_cell cA (N, .inr (.inr (.inr (.inr f))))) := h1
    show H[a]? = some (vp_cell cA (N, .inr (.inr (.inr (.inr g)))))
    rw [h1, vp_cell_q, vp_cell_q, arrV_ext (fun j hj => by rw [h j hj])]
  · have e : i - w1.length = (i - w1.length - 1) + 1 := by omega
    rw [List.getElem?_append_right (by omega), e, List.getElem?_cons_succ] at hq
    exact hP i q (by rw [List.getElem?_append_right (by omega), e, List.getElem?_cons_succ]; exact hq)
