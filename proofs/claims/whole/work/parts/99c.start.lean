/-! The law's prologue: both objects are made. (By program: wip/whole/src/start.py) -/
def cY (X : cT) (own : String) (cc : ByteArray) (nL : Nat) : Prop := match X with
  | ((p, _, _, R, s, m, args, _, _, c), (D, cy, A, _)) => p.tables.exec = Jvm.exec ∧ c.code = cc ∧ c.maxLocals = nL ∧ s.vm.findClass own = some m.cls ∧ (∀ w ∈ zT, w.before args s = true) ∧ va_K D zcl (ztys cy) s ∧ (∀ q, s.heap.size ≤ q → A q) ∧ zNwI s ∧ 1 ≤ R.frames ∧ 60 ≤ R.locals
theorem cy_iconst {X : cT} {own : String} {cc : ByteArray} {nL pc : Nat} {ls : Array Slot} {st : List Value} {w : va_W} {n k : Nat} (C : cY X own cc nL) {i : Int} {v : Int32} (d : decode cc pc = .ok (.iconst i, 1)) (hv : Int32.ofInt i = v) (kk : cW X (pc + 1) ls (.int v :: st) w n k) : cW X pc ls st w n k := by
  obtain ⟨⟨p, l, e, R, s, m, args, below, meth, c⟩, ⟨D, cy, A, Q⟩⟩ := X
  obtain ⟨hx, hb, hml, hown, hts, hK, hA, hN, hR1, hR2⟩ := C
  intro H locs hP hD hS hz
  exact lv_iconst hx hb d hv (kk H locs hP hD hS hz)
theorem cy_dup {X : cT} {own : String} {cc : ByteArray} {nL pc : Nat} {ls : Array Slot} {st : List Value} {w : va_W} {n k : Nat} (C : cY X own cc nL) {a : Nat} (d : decode cc pc = .ok (.dup, 1)) (kk : cW X (pc + 1) ls (.ref a :: .ref a :: st) w n k) : cW X pc ls (.ref a :: st) w n k := by
  obtain ⟨⟨p, l, e, R, s, m, args, below, meth, c⟩, ⟨D, cy, A, Q⟩⟩ := X
  obtain ⟨hx, hb, hml, hown, hts, hK, hA, hN, hR1, hR2⟩ := C
  intro H locs hP hD hS hz
  exact lv_dup hx hb d rfl (kk H locs hP hD hS hz)
theorem cy_new {X : cT} {own : String} {cc : ByteArray} {nL pc : Nat} {ls : Array Slot} {st : List Value} {w : va_W} {n k : Nat} (C : cY X own cc nL) {K idx N q : Nat} {Cn : String} (hC : zCL K Cn N) (hcl : Cond.classLink own idx Cn ∈ zT) (hq : cQ X n q) (hr : cR X (n + 1) (k + N)) (d : decode cc pc = .ok (.new idx, 3)) (kk : cW X (pc + 3) ls (.ref q :: st) (w ++ [(q, .inr (K, zI0 K))]) (n + 1) (k + N)) : cW X pc ls st w n k := by
  obtain ⟨⟨p, l, e, R, s, m, args, below, meth, c⟩, ⟨D, cy, A, Q⟩⟩ := X
  obtain ⟨hx, hb, hml, hown, hts, hK, hA, hN, hR1, hR2⟩ := C
  obtain ⟨T, hc, hi, hins, hini, ty, hty, hfs⟩ := hC
  intro H locs hP hD hS hz
  have hKn := hK.1 K _ hc
  refine W.newcK hx hb hown (hts _ hcl) (hts _ hins) (hts _ hini) rfl d hr.1 hr.2 hKn.2.1 rfl fun H1 kC hkC e1 z1 o1 => ?_
  have hq : q = H.size := by rw [hz]; exact hq
  subst hq
  have hk : ∀ (k : Nat) (x : Nat × va_E), w[k]? = some x → H1[x.1]? = H[x.1]? := fun k x hx => o1 x.1 ((hP k x hx).lt)
  refine kk H1 locs ((hP.kept hk).app (fun k x hx => ?_)) (hD.push hP rfl (hA _ hS.1)) ⟨Nat.le_trans hS.1 (by omega), fun x h1 h2 => (o1 x (Nat.lt_of_lt_of_le h1 hS.1)).trans (hS.2.1 x h1 h2), hS.2.2⟩ (by rw [z1, hz]; omega)
  have hz9 : k < 1 := (List.getElem?_eq_some_iff.mp hx).1
  rw [show k = 0 by omega] at hx
  cases hx
  exact ⟨_, hc, (u_born ty hts hi hKn hkC e1 hty).to hfs⟩
theorem cy_newa {X : cT} {own : String} {cc : ByteArray} {nL pc : Nat} {ls : Array Slot} {st : List Value} {w : va_W} {n k : Nat} (C : cY X own cc nL) {t N q : Nat} {at9 : ArrayType} {ty : FieldType} {v : Int32} {a0 : vp_A} (hT : zAT t at9 ty) (ha : ∀ cA : ClassId, vp_cell cA a0 = arrV cA N (fun _ => defaultValue ty)) (hv : v = nI N) (hN : N < 100000) (hby : componentBytes ty ≤ 8) (hq : cQ X n q) (hr : cR X (n + 1) (k + N)) (d : decode cc pc = .ok (.newarray at9, 2)) {E : va_E} (hE : match X with | (_, (_, cy, _, _)) => E = .inl (cy t, a0)) (kk : cW X (pc + 2) ls (.ref q :: st) (w ++ [(q, E)]) (n + 1) (k + N)) : cW X pc ls (.int v :: st) w n k := by
  obtain ⟨⟨p, l, e, R, s, m, args, below, meth, c⟩, ⟨D, cy, A, Q⟩⟩ := X
  obtain ⟨hx, hb, hml, hown, hts, hK, hA, hN9, hR1, hR2⟩ := C
  obtain ⟨rfl, hac, hti, hra⟩ := hT
  obtain ⟨i, hi⟩ := hti cy
  have hE : E = .inl (cy t, a0) := hE
  subst hE
  subst hv
  intro H locs hP hD hS hz
  refine va_newaK hx hb (hts _ hac) rfl d rfl (nI_pos (by omega)) (nI_clamp (by omega)) (by have : N * componentBytes (newarray.typeOf at9) ≤ N * 8 := Nat.mul_le_mul_left N hby; omega) hr.1 hr.2 rfl fun H1 cA e1 z1 o1 hAr hNm => ?_
  have hcA : cA = cy t := Option.some.inj (hNm.symm.trans (hra s _ (hK.2 i _ hi).2))
  subst hcA
  have hq : q = H.size := by rw [hz]; exact hq
  subst hq
  have hk : ∀ (k : Nat) (x : Nat × va_E), w[k]? = some x → H1[x.1]? = H[x.1]? := fun k x hx => o1 x.1 ((hP k x hx).lt)
  refine kk H1 locs ((hP.kept hk).app (fun k x hx => ?_)) (hD.push hP rfl (hA _ hS.1)) ⟨Nat.le_trans hS.1 (by omega), fun x h1 h2 => (o1 x (Nat.lt_of_lt_of_le h1 hS.1)).trans (hS.2.1 x h1 h2), hS.2.2⟩ (by rw [z1, hz]; omega)
  have hz9 : k < 1 := (List.getElem?_eq_some_iff.mp hx).1
  rw [show k = 0 by omega] at hx
  cases hx
  show H1[H.size]? = some (vp_cell _ _)
  rw [ha]
  exact e1
theorem cy_istore {X : cT} {own : String} {cc : ByteArray} {nL pc : Nat} {ls : Array Slot} {st : List Value} {w : va_W} {n k : Nat} (C : cY X own cc nL) {i : Nat} {x : Int32} {lv lv' : List (Nat × Value)} (hl : lv_has ls nL lv) (d : decode cc pc = .ok (.istore i, 2)) (hi : i < nL) (e9 : (i, Value.int x) :: lv.filter (fun q => !(q.1 == i) && !(q.1 + 1 == i && q.2.category == 2)) = lv') (kk : ∀ ls' : Array Slot, lv_has ls' nL lv' → cW X (pc + 2) ls' st w n k) : cW X pc ls (.int x :: st) w n k := by
  obtain ⟨⟨p, l, e, R, s, m, args, below, meth, c⟩, ⟨D, cy, A, Q⟩⟩ := X
  obtain ⟨hx, hb, hml, hown, hts, hK, hA, hN, hR1, hR2⟩ := C
  intro H locs hP hD hS hz
  exact lv_istore hx hb d hl hi e9 (fun ls9 h9 => kk ls9 h9 H locs hP hD hS hz)
theorem cy_astore_n {X : cT} {own : String} {cc : ByteArray} {nL pc : Nat} {ls : Array Slot} {st : List Value} {w : va_W} {n k : Nat} (C : cY X own cc nL) {i : Fin 4} {x : Nat} {lv lv' : List (Nat × Value)} (hl : lv_has ls nL lv) (d : decode cc pc = .ok (.astore_n i, 1)) (hi : i.val < nL) (e9 : (i.val, Value.ref x) :: lv.filter (fun q => !(q.1 == i.val) && !(q.1 + 1 == i.val && q.2.category == 2)) = lv') (kk : ∀ ls' : Array Slot, lv_has ls' nL lv' → cW X (pc + 1) ls' st w n k) : cW X pc ls (.ref x :: st) w n k := by
  obtain ⟨⟨p, l, e, R, s, m, args, below, meth, c⟩, ⟨D, cy, A, Q⟩⟩ := X
  obtain ⟨hx, hb, hml, hown, hts, hK, hA, hN, hR1, hR2⟩ := C
  intro H locs hP hD hS hz
  exact lv_astore_n hx hb d rfl hl hi e9 (fun ls9 h9 => kk ls9 h9 H locs hP hD hS hz)
def cYl (X : cT) (l : Launch) (D : va_G) (cy : Nat → ClassId) : Prop := match X with
  | ((_, l', _, R, _, _, _, _, _, _), (D', cy', _, _)) => l' = l ∧ D' = D ∧ cy' = cy ∧ R = room_1
theorem cYl_E {X : cT} {l : Launch} {D : va_G} {cy : Nat → ClassId} (h : cYl X l D cy) {t : Nat} (a0 : vp_A) : match X with | (_, (_, cy', _, _)) => (.inl (cy t, a0) : va_E) = .inl (cy' t, a0) := by
  obtain ⟨⟨p, l9, e, R, s, m, args, below, meth, c⟩, ⟨D9, cy9, A, Q⟩⟩ := X
  obtain ⟨rfl, rfl, rfl, rfl⟩ := h
  rfl
theorem cy_kid {X : cT} {own : String} {cc : ByteArray} {nL pc : Nat} {ls : Array Slot} {rest : List Value} {w : va_W} {n k : Nat} (C : cY X own cc nL) {l : Launch} {D : va_G} {cy : Nat → ClassId} {ad : Nat → Nat → Nat} (hl : cYl X l D cy) {K2 j2 d2 idx maxL2 n2 : Nat} {as : List Value} {N2 : List (Nat × Nat)} {h : zH} {y2 : MethodName} {cc2 : ByteArray} {Z2 : State → Prop} (hM : zMi l D ad cy d2 y2 (.code y2 cc2 maxL2 none) K2 j2 as N2 h Z2) (hblind : ∀ (U : State) (g : JFrame) (mk : MethodId) (a : Array Value), Z2 U → Z2 (U.calling g mk a)) (hZ : match X with | ((_, _, _, _, s, _, _, _, _, _), (_, _, A, _)) => ∀ (H : Heap) (locs : List Loc) (U : State), va_S A s.heap H locs → U.heap = H → s.WarmedH U.vm → Z2 U)
    (hat : match X with | ((_, _, _, _, s, _, _, _, _, _), _) => zat ad (s.heap.size + n) N2) (hd2 : d2 < 100) (hmx : maxL2 ≤ 45) (hlk : Cond.methodLink own idx y2 ∈ zT) (hw1 : Cond.instanceMethod y2 ∈ zT) (hw2 : Cond.initialized y2.cls ∈ zT) (hw3 : Cond.code y2 cc2 maxL2 none ∈ zT) (hyi : y2.name = "<init>") (hy1 : y2.cls ≠ "java/lang/invoke/MethodHandle") (hy2 : y2.cls ≠ "java/lang/invoke/VarHandle") (hy3 : (parseMethodDescriptor y2.desc).map (fun d => d.parameters.length) = some n2) (hn2 : as.length = n2) (hs : ls.size = nL) (hcat : (rest.map fun v => v.category).sum ≤ 8) (hr : cR X (n + N2.length) (k + zsl N2)) (dd : decode cc pc = .ok (.invokespecial idx, 3))
    (kk : cW X (pc + 3) ls rest (w ++ zws ad cy ((K2, j2) :: N2) h) (n + N2.length) (k + zsl N2)) : cW X pc ls (as.reverse ++ .ref (ad K2 j2) :: rest) (w ++ [zth ad K2 j2]) n k := by
  obtain ⟨⟨p, l9, e, R, s, m, args, below, meth, c⟩, ⟨D9, cy9, A, Q⟩⟩ := X
  obtain ⟨hx, hb, hml, hown, hts, hK, hA, hN, hR1, hR2⟩ := C
  obtain ⟨rfl, rfl, rfl, rfl⟩ := hl
  intro H locs hP hD hS hz
  have hat2 : zat ad H.size N2 := by rw [hz]; exact hat
  have hMet := hM H.size hat2
  have hroomF : (zroomI d2 N2.length (zsl N2)).frames + 1 ≤ room_1.frames := by show d2 + 1 + 1 ≤ 2048; omega
  have hroomL : 8 + (maxL2 + 11) + (zroomI d2 N2.length (zsl N2)).locals ≤ room_1.locals := by show 8 + (maxL2 + 11) + 64 * (d2 + 1) ≤ 84000; omega
  have hPc : va_P D9 zcl [zth ad K2 j2] H := fun k9 q9 h9 => by
    have h1 : k9 < 1 := (List.getElem?_eq_some_iff.mp h9).1
    rw [show k9 = 0 by omega] at h9
    exact hP w.length q9 (by rw [List.getElem?_append_right (Nat.le_refl _), Nat.sub_self]; exact h9)
  have hF : ∀ q, va_A [zth ad K2 j2] H.size q → A q := by
    intro q hq
    rcases hq with ⟨k9, e9, h9⟩ | hq
    · have h1 : k9 < 1 := (List.getElem?_eq_some_iff.mp h9).1
      rw [show k9 = 0 by omega] at h9
      exact hD.2 w.length (q, e9) (by rw [List.getElem?_append_right (Nat.le_refl _), Nat.sub_self]; exact h9)
    · exact hA q (Nat.le_trans hS.1 hq)
  refine va_callv (va_runI (As := as) (rest := rest) (b := ad K2 j2) ⟨hx, hb, hml, hown, hts⟩ hMet (cwI n2 hts (zgood hw3) rfl rfl rfl (hts _ hw2) (hts _ hlk) (hts _ hw1) hyi ⟨hy1, hy2, hy3⟩ ⟨hroomF, hroomL⟩) ⟨fun a U g mk q => by obtain ⟨q0, q1, qP, qK, qN, qZ⟩ := q; exact ⟨q0, q1, qP, va_K.moved (u := U) (U := U.calling g mk a) (Vm.Alike.refl U.vm) qK, zNwI.warm (s := U) (U := U.calling g mk a) (State.WarmedH.refl U) qN, hblind U g mk a qZ⟩, fun U hU hW => ⟨rfl, by rw [hU], by rw [hU]; exact hPc, va_K.moved hW.alike hK, zNwI.warm hW hN, hZ H locs U hS hU hW⟩⟩ rfl hn2 hs rfl (lv_room hcat) dd hr) hS (fun q _ hq => hF q hq) hF (fun u t H1 locs1 ht hvm hw hB hz1 hk1 hS1 => ?_)
  obtain ⟨b1, b2, b3, b4⟩ := hB
  rw [ht] at b1 b2
  obtain ⟨j1, j2'⟩ := zj_app hP hD hk1 hF b2 b4
  exact kk H1 locs1 j1 j2' hS1 (by rw [b1, hz]; omega)
/-- all cells, in the order of their making -/
abbrev LL : List (Nat × Nat) := [(11, 0)] ++ (lw_ ++ ([(12, 0)] ++ (lmt_ ++ [(79, 0)])))
noncomputable def ad_ (b b0 : Nat) : Nat → Nat → Nat := fun K j => if K = 80 then b else b0 + LL.idxOf (K, j)
theorem LL_len : LL.length = 217 := by decide +kernel
theorem LL_ix : ∀ i, i < 217 → LL.idxOf (LL.getD i (0, 0)) = i ∧ (LL.getD i (0, 0)).1 ≠ 80 := by decide +kernel
theorem LL_clo : zclo LL = true := by decide +kernel
theorem ad_at {b b0 i : Nat} {q : Nat × Nat} (h : LL[i]? = some q) : ad_ b b0 q.1 q.2 = b0 + i := by
  have hi := (List.getElem?_eq_some_iff.mp h).1
  rw [LL_len] at hi
  obtain ⟨h1, h2⟩ := LL_ix i hi
  have e : LL.getD i (0, 0) = q := by rw [List.getD_eq_getElem?_getD, h]; rfl
  rw [e] at h1 h2
  unfold ad_
  rw [if_neg h2, show (q.1, q.2) = q from rfl, h1]
theorem ad_80 {b b0 : Nat} : ad_ b b0 80 0 = b := if_pos rfl
theorem ad_ge {b b0 K j : Nat} (h : K ≠ 80) : b0 ≤ ad_ b b0 K j := by
  unfold ad_
  rw [if_neg h]; omega
theorem ad_in {b b0 : Nat} {q : Nat × Nat} (h : q ∈ LL) : b0 ≤ ad_ b b0 q.1 q.2 := by
  obtain ⟨i, hi⟩ := List.getElem?_of_mem h
  rw [ad_at hi]; omega
theorem ad_inj {b b0 : Nat} : zAd (ad_ b b0) LL := by
  intro q hq r hr he
  obtain ⟨i, hi⟩ := List.getElem?_of_mem hq
  obtain ⟨j, hj⟩ := List.getElem?_of_mem hr
  rw [ad_at hi, ad_at hj] at he
  have e : i = j := by omega
  subst e
  exact Option.some.inj (hi.symm.trans hj)
theorem zat_of {ad : Nat → Nat → Nat} : ∀ {N : List (Nat × Nat)} {sz : Nat}, (∀ i q, N[i]? = some q → ad q.1 q.2 = sz + i) → zat ad sz N
  | [], _, _ => trivial
  | q :: r, sz, h => ⟨h 0 q rfl, zat_of (fun i q hq => by have := h (i + 1) q hq; omega)⟩
theorem ad_zat {b b0 : Nat} : zat (ad_ b b0) b0 LL := zat_of (fun i q h => ad_at h)
theorem no80 : ∀ j, (80, j) ∉ LL := by
  intro j hj
  obtain ⟨i, hi⟩ := List.getElem?_of_mem hj
  have h := (List.getElem?_eq_some_iff.mp hi).1
  rw [LL_len] at h
  have e : LL.getD i (0, 0) = (80, j) := by rw [List.getD_eq_getElem?_getD, hi]; rfl
  have := (LL_ix i h).2
  rw [e] at this
  exact this rfl
theorem sl_LL : zsl lw_ = 4786 ∧ zsl lmt_ = 9332 := ⟨sl_X11_init, sl_X12_init⟩
theorem no39 : ∀ q ∈ ((11, 0) :: lw_ : List (Nat × Nat)), q.1 ≠ 39 := by decide +kernel
theorem zws_LL {ad : Nat → Nat → Nat} {cy : Nat → ClassId} : ((([] ++ zws ad cy ((11, 0) :: lw_) h0_) ++ zws ad cy ((12, 0) :: lmt_) h1_) ++ [(ad 79 0, .inl (cy 2, 1, .inr (.inl (fun _ => 0))))] : va_W) = zws ad cy LL h1_ := by
  have e1 : zws ad cy ((11, 0) :: lw_) h0_ = zws ad cy ((11, 0) :: lw_) h1_ := by
    unfold zws
    refine List.map_congr_left (fun q hq => ?_)
    rw [zcon_congr (h := h1_) (h' := h0_) (funext (fun k => (h1_at (no39 q hq)).symm)) rfl]
  rw [e1]
  unfold zws
  rw [show LL = ([(11, 0)] ++ lw_) ++ (([(12, 0)] ++ lmt_) ++ [(79, 0)]) from rfl]
  rw [List.map_append, List.map_append (l₁ := [(12, 0)] ++ lmt_), List.nil_append, List.append_assoc]
  rfl
theorem cYr {X : cT} {l : Launch} {D : va_G} {cy : Nat → ClassId} (h : cYl X l D cy) {n k : Nat} (h1 : n ≤ 601024) (h2 : k ≤ 7293034) : cR X n k := by
  obtain ⟨⟨p, l9, e, R, s, m, args, below, meth, c⟩, ⟨D9, cy9, A, Q⟩⟩ := X
  obtain ⟨rfl, rfl, rfl, rfl⟩ := h
  exact ⟨h1, h2⟩
/-- where the cells lie -/
def cYa (X : cT) (b : Nat) : Prop := match X with
  | ((_, _, _, _, s, _, _, _, _, _), _) => True ∧ b = s.heap.size
set_option maxRecDepth 100000 in
theorem law_pro {X : cT} {ls : Array Slot} {l : Launch} {D : va_G} {cy : Nat → ClassId} {b b0 qK qV : Nat} (C : cY X "SoapTreatyLaw" code 7) (hX : cYl X l D cy)
    (hat : cQ X 0 (ad_ b b0 11 0) ∧ (match X with | ((_, _, _, _, s, _, _, _, _, _), _) => zat (ad_ b b0) (s.heap.size + 1) lw_) ∧ cQ X 174 (ad_ b b0 12 0) ∧ (match X with | ((_, _, _, _, s, _, _, _, _, _), _) => zat (ad_ b b0) (s.heap.size + 175) lmt_) ∧ cQ X 216 (ad_ b b0 79 0))
    (hZ : match X with | ((_, _, _, _, s, _, _, _, _, _), (_, _, A, _)) => ∀ (H : Heap) (locs : List Loc) (U : State), va_S A s.heap H locs → U.heap = H → s.WarmedH U.vm → zZ1 b0 qK qV U)
    (hl : lv_has ls 7 [(0, .ref b)])
    (hE : ∀ ls', lv_has ls' 7 [(4, .int (nI 0)), (3, .ref (ad_ b b0 79 0)), (2, .ref (ad_ b b0 12 0)), (1, .ref (ad_ b b0 11 0)), (0, .ref b)] → cW X 23 ls' [] (zws (ad_ b b0) cy LL h1_) 217 14186) : cW X 0 ls [] [] 0 0 := by
  refine cy_new C zCL_11 (zTd (by decide +kernel)) (hat.1) (cYr hX (by decide) (by decide)) (by decide +kernel : decode code 0 = .ok (.new 8, 3)) ?_
  refine cy_dup C (by decide +kernel : decode code 3 = .ok (.dup, 1)) ?_
  refine cy_kid C hX (n2 := 0) (as := []) (k_X11_init (ad_ge (by decide)) (ad_ge (by decide)) (ad_ge (by decide))) zZ1.blind hZ hat.2.1 (by decide) (by decide) (zTd (by decide +kernel)) (zTd (by decide +kernel)) (zTd (by decide +kernel)) (zTd (by decide +kernel)) rfl (by decide) (by decide) (by decide +kernel) rfl hl.1 (Nat.le_of_ble_eq_true rfl) (by rw [sl_X11_init]; exact cYr hX (by decide) (by decide)) (by decide +kernel : decode code 4 = .ok (.invokespecial 15, 3)) ?_
  rw [sl_X11_init]
  refine cW_nk (n' := 174) (k' := 4796) rfl rfl ?_
  refine cy_astore_n C hl (by decide +kernel : decode code 7 = .ok (.astore_n 1, 1)) (by decide) rfl (fun ls1 hl1 => ?_)
  refine cy_new C zCL_12 (zTd (by decide +kernel)) (hat.2.2.1) (cYr hX (by decide) (by decide)) (by decide +kernel : decode code 8 = .ok (.new 16, 3)) ?_
  refine cy_dup C (by decide +kernel : decode code 11 = .ok (.dup, 1)) ?_
  refine cy_kid C hX (n2 := 0) (as := []) k_X12_init (fun _ _ _ _ h => h) cz_T hat.2.2.2.1 (by decide) (by decide) (zTd (by decide +kernel)) (zTd (by decide +kernel)) (zTd (by decide +kernel)) (zTd (by decide +kernel)) rfl (by decide) (by decide) (by decide +kernel) rfl hl1.1 (Nat.le_of_ble_eq_true rfl) (by rw [sl_X12_init]; exact cYr hX (by decide) (by decide)) (by decide +kernel : decode code 12 = .ok (.invokespecial 18, 3)) ?_
  rw [sl_X12_init]
  refine cW_nk (n' := 216) (k' := 14185) rfl rfl ?_
  refine cy_astore_n C hl1 (by decide +kernel : decode code 15 = .ok (.astore_n 2, 1)) (by decide) rfl (fun ls2 hl2 => ?_)
  refine cy_iconst C (v := nI 1) (by decide +kernel : decode code 16 = .ok (.iconst 1, 1)) (by decide) ?_
  refine cy_newa C zAT2 (N := 1) (a0 := (1, .inr (.inl (fun _ => 0)))) (fun _ => rfl) rfl (by decide) (by decide) (hat.2.2.2.2) (cYr hX (by decide) (by decide)) (by decide +kernel : decode code 17 = .ok (.newarray .long, 2)) (cYl_E hX _) ?_
  refine cy_astore_n C hl2 (by decide +kernel : decode code 19 = .ok (.astore_n 3, 1)) (by decide) rfl (fun ls3 hl3 => ?_)
  refine cy_iconst C (v := nI 0) (by decide +kernel : decode code 20 = .ok (.iconst 0, 1)) (by decide) ?_
  refine cy_istore C hl3 (by decide +kernel : decode code 21 = .ok (.istore 4, 2)) (by decide) rfl (fun ls4 hl4 => ?_)
  exact cW_eq zws_LL.symm rfl rfl (hE ls4 hl4)
