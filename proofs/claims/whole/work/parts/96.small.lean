/-! A constructor calls a method of the small machine. -/
theorem va_D.addr {A : Nat → Prop} {w1 w2 : va_W} (e : w1.map Prod.fst = w2.map Prod.fst) (h : va_D A w1) : va_D A w2 := by
  have key : ∀ (i : Nat) (q : Nat × va_E), w2[i]? = some q → ∃ q', w1[i]? = some q' ∧ q'.1 = q.1 := by
    intro i q hq
    have h1 : (w2.map Prod.fst)[i]? = some q.1 := by rw [List.getElem?_map, hq]; rfl
    rw [← e, List.getElem?_map] at h1
    cases hw : w1[i]? with
    | none => rw [hw] at h1; cases h1
    | some q' => rw [hw] at h1; exact ⟨q', rfl, Option.some.inj h1⟩
  refine ⟨fun i j p q hi hj he => ?_, fun k q hk => ?_⟩
  · obtain ⟨p', a1, a2⟩ := key i p hi
    obtain ⟨q', b1, b2⟩ := key j q hj
    exact h.1 i j p' q' a1 b1 (by rw [a2, b2]; exact he)
  · obtain ⟨q', b1, b2⟩ := key k q hk
    rw [← b2]; exact h.2 k q' b1
theorem zws_fst {ad : Nat → Nat → Nat} {cy : Nat → ClassId} {L : List (Nat × Nat)} {h : zH} : (zws ad cy L h).map Prod.fst = L.map (fun q => ad q.1 q.2) := by
  unfold zws; rw [List.map_map]; rfl
theorem zws_get {ad : Nat → Nat → Nat} {cy : Nat → ClassId} {L : List (Nat × Nat)} {h : zH} {w : va_W} {i : Nat} {q : Nat × Nat} (hq : L[i]? = some q) : (w ++ zws ad cy L h)[w.length + i]? = some (ad q.1 q.2, zcon ad cy h q.1 q.2) := by
  rw [List.getElem?_append_right (by omega), Nat.add_sub_cancel_left]
  unfold zws; rw [List.getElem?_map, hq]; rfl
theorem cr_small {X : cT} {own : String} {cc : ByteArray} {nL pc : Nat} {ls : Array Slot} {rest : List Value} {w : va_W} {n k : Nat} (C : cX X own cc nL) {l : Launch} {D : va_G} {cy : Nat → ClassId} {d : Nat} {N : List (Nat × Nat)} {ad : Nat → Nat → Nat} {Z : State → Prop} (hXl : cXl X l D cy d N ad Z) {L : List (Nat × Nat)} {h h2 : zH} {C0 j d2 idx maxL n2 : Nat} {as : List zV} {y : MethodName} {bytes : ByteArray} {cs : zS} (hM : zMV own idx C0 y bytes maxL none n2) (hCk : zAd ad L → zCk l D ad cy L d2 cs y (.code y bytes maxL none)) (hcs : cs (.inr (.inr (C0, j)) :: as) h = some (none, h2)) (hoa : ∀ v ∈ (.inr (.inr (C0, j)) :: as : List zV), zok L v) (hd2 : d2 < d) (hn : as.length = n2) (hs : ls.size = nL) (hcat : (rest.map fun v => v.category).sum ≤ 8) (hr : cR X n k) (dd : decode cc pc = .ok (.invokevirtual idx, 3)) (kk : cW X (pc + 3) ls rest (w ++ zws ad cy L h2) n k) : cW X pc ls ((as.map (zc ad)).reverse ++ .ref (ad C0 j) :: rest) (w ++ zws ad cy L h) n k := by
  obtain ⟨⟨p, l9, e, R, s, m, args, below, meth, c⟩, ⟨D9, cy9, A, Q⟩⟩ := X
  obtain ⟨hx, hb, hml, hown, hts, hK, hin, hA, hN, hR1, hR2⟩ := C
  obtain ⟨rfl, rfl, rfl, rfl, hatN, hZs⟩ := hXl
  obtain ⟨⟨f1, f2, f3, f4, f5⟩, hmx, htC, ⟨T, N9, hcC⟩, hn1, hn2, hn3⟩ := hM
  intro H locs hP hD hS hz
  have hinj : zAd ad L := by
    intro q hq r hr9 he
    obtain ⟨i1, e1⟩ := List.getElem?_of_mem hq
    obtain ⟨i2, e2⟩ := List.getElem?_of_mem hr9
    have h1 := hD.1 _ _ _ _ (zws_get (ad := ad) (cy := cy9) (h := h) (w := w) e1) (zws_get (ad := ad) (cy := cy9) (h := h) (w := w) e2) he
    have h3 : i1 = i2 := by omega
    rw [h3] at e1
    exact Option.some.inj (e1.symm.trans e2)
  have hPL : va_P D9 zcl (zws ad cy9 L h) H := fun k9 q9 h9 => hP (w.length + k9) q9 (by rw [List.getElem?_append_right (by omega), Nat.add_sub_cancel_left]; exact h9)
  have hMet := hCk hinj _ h _ hcs hoa
  have hq : (C0, j) ∈ L := zmem (zk0 hoa) (by rw [htC]; decide)
  obtain ⟨q0, hq0, hq1⟩ := zws_at (ad := ad) (cy := cy9) h hq
  rw [zcon0 htC] at hq1
  have hF : ∀ q, zA ad L q → A q := by
    rintro q ⟨r, hr9, rfl⟩
    obtain ⟨i1, e1⟩ := List.getElem?_of_mem hr9
    exact hD.2 _ _ (zws_get (ad := ad) (cy := cy9) (h := h) (w := w) e1)
  have hcw : CallW (zroomI d N.length (zsl N)) s args own y.cls idx y bytes maxL none (Cond.code y bytes maxL none :: zT) (zroom d2) 0 0 n2 := ⟨callB_of n2 hts (zgood f5) rfl rfl rfl (hts _ f4) (hts _ f1) ⟨hn1, hn2, hn3⟩ ⟨by simp only [zroom, zroomI]; omega, by simp only [zroom, zroomI]; omega⟩, hts _ f2, hts _ f3⟩
  have hPV : PreV s H y.cls (ad C0 j) (va_Pc ((.inr (.inr (C0, j)) :: as).map (zc ad)) (zWd D9 ad cy9 L h)) (as.map (zc ad)) := ⟨zblind, va_recv hK hPL hcC hq1, fun U hU hW => ⟨rfl, by rw [hU]; exact hPL, va_K.moved hW.alike hK⟩⟩
  refine va_callv (va_runV (As := as.map (zc ad)) (rest := rest) (b := ad C0 j) ⟨hx, hb, hml, hown, hts⟩ hMet hcw hPV rfl (by simpa using hn) hs rfl (lv_room hcat) dd hr) hS (fun q _ hq2 => hF q hq2) hF (fun u t1 H1 locs1 ht1 hvm hw hB hz1 hk1 hS1 => ?_)
  obtain ⟨hP1, hK1⟩ := hB
  rw [ht1] at hP1
  refine zc_sized (by omega) (fun hz2 => ?_)
  have hPw : va_P D9 zcl w H1 := fun k9 q9 h9 => by
    have h10 : (w ++ zws ad cy9 L h)[k9]? = some q9 := by rw [List.getElem?_append_left (List.getElem?_eq_some_iff.mp h9).1]; exact h9
    refine (hP k9 q9 h10).kept (hk1 _ (hP k9 q9 h10).lt ?_)
    rintro ⟨r, hr9, he⟩
    obtain ⟨i1, e1⟩ := List.getElem?_of_mem hr9
    have h1 := hD.1 _ _ _ _ h10 (zws_get (ad := ad) (cy := cy9) (h := h) (w := w) e1) he
    have h2 := (List.getElem?_eq_some_iff.mp h9).1
    omega
  exact kk H1 locs1 (hPw.app hP1) (va_D.addr (by rw [List.map_append, List.map_append, zws_fst, zws_fst]) hD) hS1 hz2
