/-! A constructor's contract; how it is begun, ended, called. -/
def zroomI (d mc ms : Nat) : Room := { frames := d + 1, cells := mc, slots := ms, locals := 64 * (d + 1) }
/-- this, as it is made -/
abbrev zth (ad : Nat → Nat → Nat) (K j : Nat) : Nat × va_E := (ad K j, .inr (K, zI0 K))
def zWi (D : va_G) (ad : Nat → Nat → Nat) (cy : Nat → ClassId) (K j : Nat) (N : List (Nat × Nat)) (h : zH) (sz : Nat) (t : State) : Prop := t.heap.size = sz + N.length ∧ va_P D zcl (zws ad cy ((K, j) :: N) h) t.heap ∧ va_K D zcl (ztys cy) t ∧ va_D (va_A [zth ad K j] sz) (zws ad cy ((K, j) :: N) h)
def zPi (D : va_G) (ad : Nat → Nat → Nat) (cy : Nat → ClassId) (K j : Nat) (Z : State → Prop) (sz : Nat) (U : State) : Prop := U.heap.size = sz ∧ va_P D zcl [zth ad K j] U.heap ∧ va_K D zcl (ztys cy) U ∧ zNwI U ∧ Z U
def zMi (l : Launch) (D : va_G) (ad : Nat → Nat → Nat) (cy : Nat → ClassId) (d : Nat) (y : MethodName) (w0 : Cond) (K j : Nat) (as : List Value) (N : List (Nat × Nat)) (h : zH) (Z : State → Prop) : Prop := ∀ sz, zat ad sz N → Met l y (w0 :: zT) (zroomI d N.length (zsl N)) (va_Pc (.ref (ad K j) :: as) (zPi D ad cy K j Z sz)) (va_Qv (S := Unit) (fun _ => True) (fun _ t => zWi D ad cy K j N h sz t) (va_A [zth ad K j] sz)) N.length (zsl N) (va_A [zth ad K j] sz)
def cXl (X : cT) (l : Launch) (D : va_G) (cy : Nat → ClassId) (d : Nat) (N : List (Nat × Nat)) (ad : Nat → Nat → Nat) (Z : State → Prop) : Prop := match X with
  | ((_, l', _, R, s, _, _, _, _, _), (D', cy', _, _)) => l' = l ∧ D' = D ∧ cy' = cy ∧ R = zroomI d N.length (zsl N) ∧ zat ad s.heap.size N ∧ Z s
theorem zat_get {ad : Nat → Nat → Nat} : ∀ {N : List (Nat × Nat)} {sz i : Nat} {q : Nat × Nat}, zat ad sz N → N[i]? = some q → ad q.1 q.2 = sz + i
  | [], _, _, _, _, h => by cases h
  | q :: r, sz, 0, q', h, e => by cases e; exact h.1
  | q :: r, sz, i + 1, q', h, e => by
    have := zat_get (N := r) (sz := sz + 1) (i := i) h.2 e
    omega
theorem c_start {l : Launch} {D : va_G} {ad : Nat → Nat → Nat} {cy : Nat → ClassId} {d : Nat} {y : MethodName} {cc : ByteArray} {maxL K j : Nat} {as : List Value} {N : List (Nat × Nat)} {h : zH} {Z : State → Prop} (hy : plainName y.cls = true) (hyi : y.name = "<init>") (hlen : (lg_sl (Value.ref (ad K j) :: as)).length ≤ maxL)
    (body : ∀ (X : cT) (ls : Array Slot), cX X y.cls cc maxL → cXl X l D cy d N ad Z → (∀ i q, N[i]? = some q → cQ X i (ad q.1 q.2)) → (∀ n k, n ≤ N.length → k ≤ zsl N → cR X n k) → lv_has ls maxL (lv_args 0 (.ref (ad K j) :: as)) →
      (∀ pc ls, decode cc pc = .ok (.return_, 1) → cW X pc ls [] (zws ad cy ((K, j) :: N) h) N.length (zsl N)) → cW X 0 ls [] [zth ad K j] 0 0) : zMi l D ad cy d y (.code y cc maxL none) K j as N h Z := by
  intro sz hat
  refine Met.ofW (cc := cc) (maxL := maxL) (ret := none) hy rfl ?_
  intro p e s m args below meth c s₁ B hml hv
  obtain ⟨rfl, rfl, hP0, hK, hNw, hZ⟩ := hv
  have hts := atoms_spec (ws := Cond.code y cc maxL none :: zT) B.pre
  have hown : s.vm.findClass y.cls = some m.cls := findClass_of_methodNamed B.named
  have hin : meth.name = y.name := (name_of_methodNamed B.named B.method).1
  have hl := lv_entry (Value.ref (ad K j) :: as) (n := maxL) hlen
  rw [lg_entry_eq]
  generalize (lg_sl (Value.ref (ad K j) :: as) ++ List.replicate (maxL - (lg_sl (Value.ref (ad K j) :: as)).length) Slot.unset).toArray = lsA at hl ⊢
  let X : cT := ((p, l, e, zroomI d N.length (zsl N), s, m, (Value.ref (ad K j) :: as).toArray, below, meth, c), (D, cy, va_A [zth ad K j] s.heap.size, MQ below (va_Qv (S := Unit) (fun _ => True) (fun _ t => zWi D ad cy K j N h s.heap.size t) (va_A [zth ad K j] s.heap.size)) (Value.ref (ad K j) :: as).toArray s N.length (zsl N) (va_A [zth ad K j] s.heap.size)))
  have C : cX X y.cls cc maxL := ⟨B.exec, B.bytes, hml, hown, fun w hw => hts w (List.mem_cons_of_mem _ hw), hK, hin.trans hyi, fun q hq => Or.inr hq, hNw, by simp only [zroomI]; omega, by simp only [zroomI]; omega⟩
  have key := body X lsA C ⟨rfl, rfl, rfl, rfl, hat, hZ⟩ (fun i q hq => zat_get hat hq) (fun n k h1 h2 => ⟨h1, h2⟩) hl (fun pc ls hd H locs hP hD hS hz => W.vret B.exec B.bytes B.returns (fun t ht hW => ⟨⟨(), rfl, trivial, by rw [ht]; exact hz, by rw [ht]; exact hP, va_K.moved hW.alike hK, hD⟩, hS.F ht⟩) hS.2.2 hd B.notSynchronized)
  have hD0 : va_D (va_A [zth ad K j] s.heap.size) [zth ad K j] := ⟨fun i j' p q hi hj _ => by
    have h1 := (List.getElem?_eq_some_iff.mp hi).1
    have h2 := (List.getElem?_eq_some_iff.mp hj).1
    simp only [List.length_cons, List.length_nil] at h1 h2
    omega, fun k q hk => va_A.in hk⟩
  exact key s.heap [] hP0 hD0 va_S.rf rfl
theorem zc_nd : ∀ l : List Nat, l.Nodup → va_nd l = true
  | [], _ => rfl
  | a :: l, h => by
    obtain ⟨h1, h2⟩ := List.nodup_cons.mp h
    show (decide (a ∉ l) && va_nd l) = true
    rw [zc_nd l h2, decide_eq_true h1]; rfl
/-- behind a call: the others, and the callee's world -/
theorem zj_app {A0 : Nat → Prop} {D : va_G} {wr wc w1 : va_W} {H H1 : Heap} (hP : va_P D zcl (wr ++ wc) H) (hD : va_D A0 (wr ++ wc)) (hk : ∀ q : Nat, q < H.size → ¬ va_A wc H.size q → H1[q]? = H[q]?) (hF : ∀ q, va_A wc H.size q → A0 q) (hP1 : va_P D zcl w1 H1) (hD1 : va_D (va_A wc H.size) w1) : va_P D zcl (wr ++ w1) H1 ∧ va_D A0 (wr ++ w1) := by
  have hR : (List.range wr.length).map (fun i => (wr ++ wc)[i]?) = wr.map some := by
    apply List.ext_getElem?
    intro i
    rw [List.getElem?_map, List.getElem?_map]
    by_cases hi : i < wr.length
    · rw [List.getElem?_range hi, List.getElem?_eq_getElem hi]
      show some ((wr ++ wc)[i]?) = some (some wr[i])
      rw [List.getElem?_append_left hi, List.getElem?_eq_getElem hi]
    · rw [List.getElem?_eq_none (by simp; omega), List.getElem?_eq_none (by omega)]
      rfl
  have hC : ((List.range wc.length).map (fun i => wr.length + i)).map (fun i => (wr ++ wc)[i]?) = wc.map some := by
    apply List.ext_getElem?
    intro i
    rw [List.getElem?_map, List.getElem?_map, List.getElem?_map]
    by_cases hi : i < wc.length
    · rw [List.getElem?_range hi, List.getElem?_eq_getElem hi]
      simp [hi]
    · rw [List.getElem?_eq_none (by simp; omega), List.getElem?_eq_none (by omega)]
      rfl
  refine va_join hP hD _ _ hC hR (zc_nd _ List.nodup_range) ?_ hk hF hP1 hD1
  intro i hi hc
  rw [List.mem_range] at hi
  obtain ⟨j, -, hj⟩ := List.mem_map.mp hc
  omega
theorem cr_kid {X : cT} {own : String} {cc : ByteArray} {nL pc : Nat} {ls : Array Slot} {rest : List Value} {w : va_W} {n k : Nat} (C : cX X own cc nL) {l : Launch} {D : va_G} {cy : Nat → ClassId} {d : Nat} {N : List (Nat × Nat)} {ad : Nat → Nat → Nat} {Z : State → Prop} (hl : cXl X l D cy d N ad Z) {K2 j2 d2 idx maxL2 n2 : Nat} {as : List Value} {N2 : List (Nat × Nat)} {h : zH} {y2 : MethodName} {cc2 : ByteArray} {Z2 : State → Prop} (hM : zMi l D ad cy d2 y2 (.code y2 cc2 maxL2 none) K2 j2 as N2 h Z2) (hblind : ∀ (U : State) (g : JFrame) (mk : MethodId) (a : Array Value), Z2 U → Z2 (U.calling g mk a)) (hZ : match X with | ((_, _, _, _, s, _, _, _, _, _), (_, _, A, _)) => ∀ (H : Heap) (locs : List Loc) (U : State), va_S A s.heap H locs → U.heap = H → s.WarmedH U.vm → Z2 U)
    (hat : match X with | ((_, _, _, _, s, _, _, _, _, _), _) => zat ad (s.heap.size + n) N2) (hd2 : d2 < d) (hmx : maxL2 ≤ 45) (hlk : Cond.methodLink own idx y2 ∈ zT) (hw1 : Cond.instanceMethod y2 ∈ zT) (hw2 : Cond.initialized y2.cls ∈ zT) (hw3 : Cond.code y2 cc2 maxL2 none ∈ zT) (hyi : y2.name = "<init>") (hy1 : y2.cls ≠ "java/lang/invoke/MethodHandle") (hy2 : y2.cls ≠ "java/lang/invoke/VarHandle") (hy3 : (parseMethodDescriptor y2.desc).map (fun d => d.parameters.length) = some n2) (hn2 : as.length = n2) (hs : ls.size = nL) (hcat : (rest.map fun v => v.category).sum ≤ 8) (hr : cR X (n + N2.length) (k + zsl N2)) (dd : decode cc pc = .ok (.invokespecial idx, 3))
    (kk : cW X (pc + 3) ls rest (w ++ zws ad cy ((K2, j2) :: N2) h) (n + N2.length) (k + zsl N2)) : cW X pc ls (as.reverse ++ .ref (ad K2 j2) :: rest) (w ++ [zth ad K2 j2]) n k := by
  obtain ⟨⟨p, l9, e, R, s, m, args, below, meth, c⟩, ⟨D9, cy9, A, Q⟩⟩ := X
  obtain ⟨hx, hb, hml, hown, hts, hK, hin, hA, hN, hR1, hR2⟩ := C
  obtain ⟨rfl, rfl, rfl, rfl, hatN, hZs⟩ := hl
  intro H locs hP hD hS hz
  have hat2 : zat ad H.size N2 := by rw [hz]; exact hat
  have hMet := hM H.size hat2
  have hroomF : (zroomI d2 N2.length (zsl N2)).frames + 1 ≤ (zroomI d N.length (zsl N)).frames := by simp only [zroomI]; omega
  have hroomL : 8 + (maxL2 + 11) + (zroomI d2 N2.length (zsl N2)).locals ≤ (zroomI d N.length (zsl N)).locals := by simp only [zroomI]; omega
  have hPc : va_P D9 zcl [zth ad K2 j2] H := fun k9 q9 h9 => by
    have h1 : k9 < 1 := (List.getElem?_eq_some_iff.mp h9).1
    rw [show k9 = 0 by omega] at h9
    exact hP w.length q9 (by rw [List.getElem?_append_right (Nat.le_refl _), Nat.sub_self]; exact h9)
  have hF : ∀ q, va_A [zth ad K2 j2] H.size q → A q := by
    intro q hq
    rcases hq with ⟨k9, e9, h9⟩ | hq
    · have h1 : k9 < 1 := (List.getElem?_eq_some_iff.mp h9).1
      rw [show k9 = 0 by omega] at h9
      exact hD.2 w.length (q, e9) (by rw [List.getElem?_append_right (Nat.le_refl _), Nat.sub_self]; exact h9)
    · exact hA q (Nat.le_trans hS.1 hq)
  refine va_callv (va_runI (As := as) (rest := rest) (b := ad K2 j2) ⟨hx, hb, hml, hown, hts⟩ hMet (cwI n2 hts (zgood hw3) rfl rfl rfl (hts _ hw2) (hts _ hlk) (hts _ hw1) hyi ⟨hy1, hy2, hy3⟩ ⟨hroomF, hroomL⟩) ⟨fun a U g mk q => by obtain ⟨q0, q1, qP, qK, qN, qZ⟩ := q; exact ⟨q0, q1, qP, va_K.moved (u := U) (U := U.calling g mk a) (Vm.Alike.refl U.vm) qK, zNwI.warm (s := U) (U := U.calling g mk a) (State.WarmedH.refl U) qN, hblind U g mk a qZ⟩, fun U hU hW => ⟨rfl, by rw [hU], by rw [hU]; exact hPc, va_K.moved hW.alike hK, zNwI.warm hW hN, hZ H locs U hS hU hW⟩⟩ rfl hn2 hs rfl (lv_room hcat) dd hr) hS (fun q _ hq => hF q hq) hF (fun u t H1 locs1 ht hvm hw hB hz1 hk1 hS1 => ?_)
  obtain ⟨b1, b2, b3, b4⟩ := hB
  rw [ht] at b1 b2
  obtain ⟨j1, j2'⟩ := zj_app hP hD hk1 hF b2 b4
  exact kk H1 locs1 j1 j2' hS1 (by rw [b1, hz]; omega)
theorem cr_kidN {X : cT} {own : String} {cc : ByteArray} {nL pc : Nat} {ls : Array Slot} {rest : List Value} {w : va_W} {n k : Nat} (C : cX X own cc nL) {l : Launch} {D : va_G} {cy : Nat → ClassId} {d : Nat} {N : List (Nat × Nat)} {ad : Nat → Nat → Nat} {Z : State → Prop} (hl : cXl X l D cy d N ad Z) {host : String} {K2 j2 d2 idx maxL2 n2 : Nat} {as : List Value} {N2 : List (Nat × Nat)} {h : zH} {y2 : MethodName} {cc2 : ByteArray} {Z2 : State → Prop} (hM : zMi l D ad cy d2 y2 (.code y2 cc2 maxL2 none) K2 j2 as N2 h Z2) (hblind : ∀ (U : State) (g : JFrame) (mk : MethodId) (a : Array Value), Z2 U → Z2 (U.calling g mk a)) (hZ : match X with | ((_, _, _, _, s, _, _, _, _, _), (_, _, A, _)) => ∀ (H : Heap) (locs : List Loc) (U : State), va_S A s.heap H locs → U.heap = H → s.WarmedH U.vm → Z2 U)
    (hat : match X with | ((_, _, _, _, s, _, _, _, _, _), _) => zat ad (s.heap.size + n) N2) (hd2 : d2 < d) (hmx : maxL2 ≤ 45) (hlk : match X with | ((_, _, _, _, s, _, _, _, _, _), _) => va_Nw (.methodLinkNest own idx y2 host) s) (hw1 : Cond.instanceMethod y2 ∈ zT) (hw2 : Cond.initialized y2.cls ∈ zT) (hw3 : Cond.code y2 cc2 maxL2 none ∈ zT) (hyi : y2.name = "<init>") (hy1 : y2.cls ≠ "java/lang/invoke/MethodHandle") (hy2 : y2.cls ≠ "java/lang/invoke/VarHandle") (hy3 : (parseMethodDescriptor y2.desc).map (fun d => d.parameters.length) = some n2) (hn2 : as.length = n2) (hs : ls.size = nL) (hcat : (rest.map fun v => v.category).sum ≤ 8) (hr : cR X (n + N2.length) (k + zsl N2)) (dd : decode cc pc = .ok (.invokespecial idx, 3))
    (kk : cW X (pc + 3) ls rest (w ++ zws ad cy ((K2, j2) :: N2) h) (n + N2.length) (k + zsl N2)) : cW X pc ls (as.reverse ++ .ref (ad K2 j2) :: rest) (w ++ [zth ad K2 j2]) n k := by
  obtain ⟨⟨p, l9, e, R, s, m, args, below, meth, c⟩, ⟨D9, cy9, A, Q⟩⟩ := X
  obtain ⟨hx, hb, hml, hown, hts, hK, hin, hA, hN, hR1, hR2⟩ := C
  obtain ⟨rfl, rfl, rfl, rfl, hatN, hZs⟩ := hl
  intro H locs hP hD hS hz
  have hat2 : zat ad H.size N2 := by rw [hz]; exact hat
  have hMet := hM H.size hat2
  have hroomF : (zroomI d2 N2.length (zsl N2)).frames + 1 ≤ (zroomI d N.length (zsl N)).frames := by simp only [zroomI]; omega
  have hroomL : 8 + (maxL2 + 11) + (zroomI d2 N2.length (zsl N2)).locals ≤ (zroomI d N.length (zsl N)).locals := by simp only [zroomI]; omega
  have hPc : va_P D9 zcl [zth ad K2 j2] H := fun k9 q9 h9 => by
    have h1 : k9 < 1 := (List.getElem?_eq_some_iff.mp h9).1
    rw [show k9 = 0 by omega] at h9
    exact hP w.length q9 (by rw [List.getElem?_append_right (Nat.le_refl _), Nat.sub_self]; exact h9)
  have hF : ∀ q, va_A [zth ad K2 j2] H.size q → A q := by
    intro q hq
    rcases hq with ⟨k9, e9, h9⟩ | hq
    · have h1 : k9 < 1 := (List.getElem?_eq_some_iff.mp h9).1
      rw [show k9 = 0 by omega] at h9
      exact hD.2 w.length (q, e9) (by rw [List.getElem?_append_right (Nat.le_refl _), Nat.sub_self]; exact h9)
    · exact hA q (Nat.le_trans hS.1 hq)
  refine va_callv (va_runIN (As := as) (rest := rest) (b := ad K2 j2) ⟨hx, hb, hml, hown, hts⟩ hMet (⟨va_cnB n2 hts (zgood hw3) rfl rfl rfl hlk (hts _ hw2) ⟨hy1, hy2, hy3⟩ ⟨hroomF, hroomL⟩, hyi, hts _ hw1⟩) ⟨fun a U g mk q => by obtain ⟨q0, q1, qP, qK, qN, qZ⟩ := q; exact ⟨q0, q1, qP, va_K.moved (u := U) (U := U.calling g mk a) (Vm.Alike.refl U.vm) qK, zNwI.warm (s := U) (U := U.calling g mk a) (State.WarmedH.refl U) qN, hblind U g mk a qZ⟩, fun U hU hW => ⟨rfl, by rw [hU], by rw [hU]; exact hPc, va_K.moved hW.alike hK, zNwI.warm hW hN, hZ H locs U hS hU hW⟩⟩ rfl hn2 hs rfl (lv_room hcat) dd hr) hS (fun q _ hq => hF q hq) hF (fun u t H1 locs1 ht hvm hw hB hz1 hk1 hS1 => ?_)
  obtain ⟨b1, b2, b3, b4⟩ := hB
  rw [ht] at b1 b2
  obtain ⟨j1, j2'⟩ := zj_app hP hD hk1 hF b2 b4
  exact kk H1 locs1 j1 j2' hS1 (by rw [b1, hz]; omega)
